/-! the reference -/
def MT (σ : Hp) (B : Nat → Nat) (len : Nat) : Prop := len ≤ 48 ∧ σ 134 2 = nI len ∧ ∀ j, j < len → B j < 256 ∧ σ 135 j = nI (B j)
theorem MT_fr {σ σ' : Hp} {B : Nat → Nat} {len : Nat} (h : MT σ B len) (f : ∀ a i, a = 135 ∨ (a = 134 ∧ i = 2) → σ' a i = σ a i) : MT σ' B len := ⟨h.1, by rw [f _ _ (by omega)]; exact h.2.1, fun j hj => by rw [f _ _ (by omega)]; exact h.2.2 j hj⟩
theorem sub48 {c : Nat} (hc : c < 256) : (nI c - 48).toInt = (c : Int) - 48 := pk_sub_toInt (b := 48) (by omega) (by decide)
theorem fig_in {c lo hi : Nat} (hc : c < 256) (hlo : lo < 100) (hhi : hi < 100) : decide (nI lo ≤ nI c - 48 ∧ nI c - 48 ≤ nI hi) = decide (48 + lo ≤ c ∧ c ≤ 48 + hi) := by
  have e : (nI lo ≤ nI c - 48 ∧ nI c - 48 ≤ nI hi) ↔ (48 + lo ≤ c ∧ c ≤ 48 + hi) := by
    rw [Int32.le_iff_toInt_le, Int32.le_iff_toInt_le, sub48 hc, nI_toInt (by omega), nI_toInt (by omega)]
    omega
  exact decide_eq_decide.mpr e
theorem fig_t {σ : Hp} {B : Nat → Nat} {len p lo hi : Nat} (hT : MT σ B len) (h3 : σ 134 3 = nI p) (hlo : lo < 100) (hhi : hi < 100) (hd : dg B len p (48 + lo) (48 + hi) = true) : f_X9_figure σ (nI lo) (nI hi) = some (nI (B p - 48), wr σ 134 3 (nI (p + 1))) := by
  obtain ⟨hl, h2, h5⟩ := hT
  obtain ⟨d1, d2, d3⟩ := dg_iff.mp hd
  obtain ⟨b1, b2⟩ := h5 p d1
  simp only [f_X9_figure, Lt]
  rw [h3, h2, if_neg (fun w => by have := (nI_eq (show p < 2 ^ 31 by omega) (show len < 2 ^ 31 by omega)).mp w; omega), ck_ok _ (show p < 48 by omega) (by decide), ix_nI (by omega), b2, bd_ok (in_ok σ (nI (B p) - 48) (nI lo) (nI hi)), fig_in b1 hlo hhi, show decide (48 + lo ≤ B p ∧ B p ≤ 48 + hi) = true from decide_eq_true ⟨d2, d3⟩, b2i_t, if_neg (by decide), h3, ni_add1]
  rw [wr_eq, show nI (p + 1) - 1 = nI p from nI_pred p, ck_ok _ (show p < 48 by omega) (by decide), ix_nI (by omega), wr_ne (by omega), b2, show nI (B p) - (48 : Int32) = nI (B p - 48) from pk_sub (b := 48) (by omega)]
theorem fig_f {σ : Hp} {B : Nat → Nat} {len p lo hi : Nat} (hT : MT σ B len) (h3 : σ 134 3 = nI p) (hp : p ≤ len) (hlo : lo < 100) (hhi : hi < 100) (hd : dg B len p (48 + lo) (48 + hi) = false) : f_X9_figure σ (nI lo) (nI hi) = some (-9, σ) := by
  obtain ⟨hl, h2, h5⟩ := hT
  simp only [f_X9_figure, Lt]
  rw [h3, h2]
  by_cases c : p = len
  · rw [if_pos (by rw [c])]
  · obtain ⟨b1, b2⟩ := h5 p (by omega)
    rw [if_neg (fun w => by have := (nI_eq (show p < 2 ^ 31 by omega) (show len < 2 ^ 31 by omega)).mp w; omega), ck_ok _ (show p < 48 by omega) (by decide), ix_nI (by omega), b2, bd_ok (in_ok σ (nI (B p) - 48) (nI lo) (nI hi)), fig_in b1 hlo hhi, show decide (48 + lo ≤ B p ∧ B p ≤ 48 + hi) = false from decide_eq_false (fun w => by
      have : dg B len p (48 + lo) (48 + hi) = true := dg_iff.mpr ⟨by omega, w.1, w.2⟩
      rw [hd] at this; cases this), b2i_f, if_pos rfl]
theorem f09_t {σ : Hp} {B : Nat → Nat} {len p : Nat} (hT : MT σ B len) (h3 : σ 134 3 = nI p) (hd : dg B len p 48 57 = true) : f_X9_figure σ (0 : Int32) (9 : Int32) = some (nI (B p - 48), wr σ 134 3 (nI (p + 1))) := fig_t (lo := 0) (hi := 9) hT h3 (by decide) (by decide) hd
theorem f09_f {σ : Hp} {B : Nat → Nat} {len p : Nat} (hT : MT σ B len) (h3 : σ 134 3 = nI p) (hp : p ≤ len) (hd : dg B len p 48 57 = false) : f_X9_figure σ (0 : Int32) (9 : Int32) = some (-9, σ) := fig_f (lo := 0) (hi := 9) hT h3 hp (by decide) (by decide) hd
theorem dg_9 {B : Nat → Nat} {len p : Nat} (hd : dg B len p 48 57 = true) : ¬ nI (B p - 48) = (-9 : Int32) := m9_q _ (by have := dg_iff.mp hd; omega)
theorem guardM {σ : Hp} {B : Nat → Nat} {len p n : Nat} (hT : MT σ B len) (h3 : σ 134 3 = nI p) (hp : p ≤ len) (hn : n < 5) (h17 : σ 134 17 = nI n) : ∃ ok σ', f_X9_readGuard σ = some (b2i ok, σ') ∧ (∀ q, (gD B len (.inr p)).1 = .inl q → ok = false ∧ σ' 134 3 = nI q) ∧ (∀ p', (gD B len (.inr p)).1 = .inr p' → ok = true ∧ σ' 134 3 = nI p' ∧ σ' 134 17 = nI (n + 1) ∧ σ' 144 n = nI (10 * (gA B len (.inr p)).2 + (gB B len (.inr p)).2) ∧ σ' 145 n = nI (gC B len (.inr p)).2 ∧ σ' 146 n = nI (gD B len (.inr p)).2 ∧ σ' 147 n = -9) ∧ ∀ a i, ¬ (a = 134 ∧ (i = 3 ∨ i = 17)) → ¬ (144 ≤ a ∧ a ≤ 147 ∧ i = n) → σ' a i = σ a i := by
  simp only [f_X9_readGuard]
  by_cases d1 : dg B len p 48 57 = true
  · have l1 := (dg_iff.mp d1).1
    have eA : gA B len (.inr p) = (.inr (p + 1), B p - 48) := nxt_t d1
    rw [bd_ok (f09_t hT h3 d1), if_neg (dg_9 d1)]
    have T1 : MT (wr σ 134 3 (nI (p + 1))) B len := MT_fr hT (fun a i q => wr_ne (by omega))
    by_cases d2 : dg B len (p + 1) 48 57 = true
    · have l2 := (dg_iff.mp d2).1
      have eB : gB B len (.inr p) = (.inr (p + 1 + 1), B (p + 1) - 48) := by unfold gB; rw [eA]; exact nxt_t d2
      rw [bd_ok (f09_t T1 (by rw [wr_eq]) d2)]
      simp only [f_X9_readGuard_26]
      rw [if_neg (dg_9 d2)]
      have T2 : MT (wr (wr σ 134 3 (nI (p + 1))) 134 3 (nI (p + 1 + 1))) B len := MT_fr T1 (fun a i q => wr_ne (by omega))
      by_cases d3 : dg B len (p + 1 + 1) 48 57 = true
      · have l3 := (dg_iff.mp d3).1
        have eC : gC B len (.inr p) = (.inr (p + 1 + 1 + 1), B (p + 1 + 1) - 48) := by unfold gC; rw [eB]; exact nxt_t d3
        rw [bd_ok (f09_t T2 (by rw [wr_eq]) d3)]
        simp only [f_X9_readGuard_45]
        rw [if_neg (dg_9 d3)]
        have T3 : MT (wr (wr (wr σ 134 3 (nI (p + 1))) 134 3 (nI (p + 1 + 1))) 134 3 (nI (p + 1 + 1 + 1))) B len := MT_fr T2 (fun a i q => wr_ne (by omega))
        by_cases d4 : dg B len (p + 1 + 1 + 1) 48 57 = true
        · have eD : gD B len (.inr p) = (.inr (p + 1 + 1 + 1 + 1), B (p + 1 + 1 + 1) - 48) := by unfold gD; rw [eC]; exact nxt_t d4
          rw [bd_ok (f09_t T3 (by rw [wr_eq]) d4)]
          simp only [f_X9_readGuard_64, Lt]
          rw [if_neg (dg_9 d4)]
          simp (disch := omega) only [wr_ne, h17, ck_ok, ix_nI, ni_add1]
          rw [show (10 : Int32) * nI (B p - 48) = nI (10 * (B p - 48)) from pk_mul 10 _, nI_add, zr_1, eA, eB, eC, eD]
          refine ⟨true, _, rfl, fun q w => (by cases w), fun p' w => ⟨rfl, ?_, by rw [wr_eq], ?_, ?_, ?_, ?_⟩, fun a i q1 q2 => ?_⟩
          · cases w
            simp (disch := omega) only [wr_ne]; rw [wr_eq]
          · simp (disch := omega) only [wr_ne]; rw [wr_eq]
          · simp (disch := omega) only [wr_ne]; rw [wr_eq]
          · simp (disch := omega) only [wr_ne]; rw [wr_eq]
          · simp (disch := omega) only [wr_ne]; rw [wr_eq]
          · simp (disch := omega) only [wr_ne]
        · have d4' : dg B len (p + 1 + 1 + 1) 48 57 = false := by simpa using d4
          have eD : gD B len (.inr p) = (.inl (p + 1 + 1 + 1), 0) := by unfold gD; rw [eC]; exact nxt_f d4'
          rw [bd_ok (f09_f T3 (by rw [wr_eq]) (by omega) d4')]
          simp only [f_X9_readGuard_64]
          rw [if_pos trivial, zr_0, eD]
          exact ⟨false, _, rfl, fun q w => (by cases w; exact ⟨rfl, by rw [wr_eq]⟩), fun p' w => (by cases w), fun a i q1 q2 => by simp (disch := omega) only [wr_ne]⟩
      · have d3' : dg B len (p + 1 + 1) 48 57 = false := by simpa using d3
        have eD : gD B len (.inr p) = (.inl (p + 1 + 1), 0) := by unfold gD gC; rw [eB, nxt_f d3']; rfl
        rw [bd_ok (f09_f T2 (by rw [wr_eq]) (by omega) d3')]
        simp only [f_X9_readGuard_45, f_X9_readGuard_64]
        rw [if_pos trivial, if_pos trivial, zr_0, eD]
        exact ⟨false, _, rfl, fun q w => (by cases w; exact ⟨rfl, by rw [wr_eq]⟩), fun p' w => (by cases w), fun a i q1 q2 => by simp (disch := omega) only [wr_ne]⟩
    · have d2' : dg B len (p + 1) 48 57 = false := by simpa using d2
      have eD : gD B len (.inr p) = (.inl (p + 1), 0) := by unfold gD gC gB; rw [eA, nxt_f d2']; rfl
      rw [bd_ok (f09_f T1 (by rw [wr_eq]) (by omega) d2')]
      simp only [f_X9_readGuard_26, f_X9_readGuard_45, f_X9_readGuard_64]
      rw [if_pos trivial, if_pos trivial, if_pos trivial, zr_0, eD]
      exact ⟨false, _, rfl, fun q w => (by cases w; exact ⟨rfl, by rw [wr_eq]⟩), fun p' w => (by cases w), fun a i q1 q2 => by simp (disch := omega) only [wr_ne]⟩
  · have d1' : dg B len p 48 57 = false := by simpa using d1
    have eD : gD B len (.inr p) = (.inl p, 0) := by unfold gD gC gB gA; rw [nxt_f d1']; rfl
    rw [bd_ok (f09_f hT h3 hp d1'), if_pos rfl]
    simp only [f_X9_readGuard_26, f_X9_readGuard_45, f_X9_readGuard_64]
    rw [if_pos trivial, if_pos trivial, if_pos trivial, zr_0, eD]
    exact ⟨false, _, rfl, fun q w => (by cases w; exact ⟨rfl, h3⟩), fun p' w => (by cases w), fun a i q1 q2 => rfl⟩
/-! twins -/
def MDr (σ : Hp) (x : Dr) : Prop := σ 134 17 = nI x.1 ∧ ∀ g, g < x.1 → σ 144 g = nI (x.2.1 g) ∧ σ 145 g = nI (x.2.2.1 g) ∧ σ 146 g = nI (x.2.2.2.1 g) ∧ σ 147 g = twI (x.2.2.2.2 g)
def good (B : Nat → Nat) (len n p : Nat) (tw : Nat → Option Nat) (o : Option Nat) : Prop := p < len ∧ 48 ≤ B p ∧ B p - 48 < n ∧ tw (B p - 48) = none ∧ o ≠ some (B p - 48)
theorem ntw_good {B : Nat → Nat} {len n p : Nat} {tw : Nat → Option Nat} {o : Option Nat} (hn : n ≤ 5) (h : good B len n p tw o) : ntw B len n tw o (.inr p) = (.inr (p + 1), B p - 48) := by
  obtain ⟨h1, h2, h3, h4, h5⟩ := h
  rw [ntw, if_pos (dg_iff.mpr ⟨h1, h2, by omega⟩), if_pos ⟨h3, h4, h5⟩]
theorem ntw_bad {B : Nat → Nat} {len n p : Nat} {tw : Nat → Option Nat} {o : Option Nat} (h : ¬ good B len n p tw o) : (ntw B len n tw o (.inr p)).1 = .inl p := by
  rw [ntw]
  by_cases q : dg B len p 48 57 = true
  · rw [if_pos q, if_neg]
    intro w
    have := dg_iff.mp q
    exact h ⟨this.1, this.2.1, w.1, w.2.1, w.2.2⟩
  · rw [if_neg q]
theorem sing_in {c n : Nat} (hc : c < 256) (hn : n ≤ 5) : ((0 : Int32) ≤ nI c - 48 ∧ nI c - 48 ≤ nI n - 1) ↔ (48 ≤ c ∧ c - 48 < n) := by
  have z : (0 : Int32).toInt = 0 := rfl
  have t1 : (nI n - 1).toInt = (n : Int) - 1 := (by decide +kernel : ∀ n, n ≤ 5 → (nI n - 1).toInt = (n : Int) - 1) n hn
  rw [Int32.le_iff_toInt_le, Int32.le_iff_toInt_le, sub48 hc, t1, z]
  omega
theorem singM {σ : Hp} {B : Nat → Nat} {len p : Nat} {x : Dr} (hT : MT σ B len) (h3 : σ 134 3 = nI p) (hp : p ≤ len) (hD : MDr σ x) (hx : WFd x) (o : Option Nat) (a1 : Int32) (ha : ∀ v, v < 5 → ((nI v = a1) = (o = some v))) : (good B len x.1 p x.2.2.2.2 o → f_X9_readSingle σ a1 = some (nI (B p - 48), wr σ 134 3 (nI (p + 1)))) ∧ (¬ good B len x.1 p x.2.2.2.2 o → f_X9_readSingle σ a1 = some (-9, σ)) := by
  obtain ⟨hl, h2, h5⟩ := hT
  obtain ⟨m1, m2⟩ := hD
  obtain ⟨hn, htw, -⟩ := hx
  simp only [f_X9_readSingle]
  rw [h2, h3]
  by_cases c : len ≤ p
  · rw [if_pos (nI_le c (by omega))]
    refine ⟨fun g => absurd g.1 (by omega), fun _ => ?_⟩
    simp only [f_X9_readSingle_28, m1]
    have e : f_X9_in σ (-9 : Int32).toInt64 (0 : Int64) ((nI x.1 - 1).toInt64) = some (b2i (decide ((0 : Int32) ≤ -9 ∧ (-9 : Int32) ≤ nI x.1 - 1)), σ) := in_ok σ (-9) 0 (nI x.1 - 1)
    rw [bd_ok e, show decide ((0 : Int32) ≤ -9 ∧ (-9 : Int32) ≤ nI x.1 - 1) = false from decide_eq_false (fun w => absurd w.1 (by decide)), b2i_f, if_pos rfl]
  · obtain ⟨b1, b2⟩ := h5 p (by omega)
    rw [if_neg (nI_ge (show p < len by omega) (by omega)), ck_ok _ (show p < 48 by omega) (by decide), ix_nI (by omega), b2]
    simp only [f_X9_readSingle_28, m1, Lt]
    have e : f_X9_in σ (nI (B p) - 48).toInt64 (0 : Int64) ((nI x.1 - 1).toInt64) = some (b2i (decide ((0 : Int32) ≤ nI (B p) - 48 ∧ nI (B p) - 48 ≤ nI x.1 - 1)), σ) := in_ok σ (nI (B p) - 48) 0 (nI x.1 - 1)
    rw [bd_ok e]
    by_cases c1 : 48 ≤ B p ∧ B p - 48 < x.1
    · rw [show decide ((0 : Int32) ≤ nI (B p) - 48 ∧ nI (B p) - 48 ≤ nI x.1 - 1) = true from decide_eq_true ((sing_in b1 hn).mpr c1), b2i_t, if_neg (by decide), show nI (B p) - (48 : Int32) = nI (B p - 48) from pk_sub (b := 48) c1.1, ck_ok _ (show B p - 48 < 5 by omega) (by decide), ix_nI (by omega), (m2 _ c1.2).2.2.2, h3, ni_add1]
      simp only [ha (B p - 48) (by omega), m9_tw hn htw]
      by_cases c2 : o = some (B p - 48)
      · rw [if_pos c2]
        exact ⟨fun g => absurd c2 g.2.2.2.2, fun _ => rfl⟩
      · rw [if_neg c2]
        by_cases c3 : x.2.2.2.2 (B p - 48) = none
        · rw [if_pos c3]
          exact ⟨fun _ => rfl, fun g => absurd ⟨by omega, c1.1, c1.2, c3, c2⟩ g⟩
        · rw [if_neg c3]
          exact ⟨fun g => absurd g.2.2.2.1 c3, fun _ => rfl⟩
    · rw [show decide ((0 : Int32) ≤ nI (B p) - 48 ∧ nI (B p) - 48 ≤ nI x.1 - 1) = false from decide_eq_false (fun w => c1 ((sing_in b1 hn).mp w)), b2i_f, if_pos rfl]
      exact ⟨fun g => absurd ⟨g.2.1, g.2.2.1⟩ c1, fun _ => rfl⟩
theorem twinsM {σ : Hp} {B : Nat → Nat} {len p : Nat} {x : Dr} (hT : MT σ B len) (h3 : σ 134 3 = nI p) (hp : p ≤ len) (hD : MDr σ x) (hx : WFd x) : ∃ ok σ', f_X9_readTwins σ = some (b2i ok, σ') ∧ (∀ q, (rdT B len (.inr p) x).1 = .inl q → ok = false ∧ σ' 134 3 = nI q) ∧ (∀ p', (rdT B len (.inr p) x).1 = .inr p' → ok = true ∧ σ' 134 3 = nI p' ∧ MDr σ' (rdT B len (.inr p) x).2) ∧ ∀ a i, ¬ (a = 134 ∧ i = 3) → a ≠ 147 → σ' a i = σ a i := by
  have hn := hx.1
  have n9 : ∀ v, v < 5 → ((nI v = (-9 : Int32)) = ((none : Option Nat) = some v)) := fun v hv => by
    apply propext
    constructor
    · intro w; exact absurd w (m9_ne v hv)
    · intro w; cases w
  obtain ⟨g1, g2⟩ := singM hT h3 hp hD hx none (-9) n9
  simp only [f_X9_readTwins]
  by_cases c : good B len x.1 p x.2.2.2.2 none
  · have eA : tA B len (.inr p) x = (.inr (p + 1), B p - 48) := ntw_good hn c
    rw [bd_ok (g1 c), if_neg (m9_q _ (by have := c.2.2.1; omega))]
    have T1 : MT (wr σ 134 3 (nI (p + 1))) B len := MT_fr hT (fun a i q => wr_ne (by omega))
    have D1 : MDr (wr σ 134 3 (nI (p + 1))) x := ⟨by rw [wr_ne (by omega)]; exact hD.1, fun g hg => by
      simp (disch := omega) only [wr_ne]; exact hD.2 g hg⟩
    obtain ⟨k1, k2⟩ := singM T1 (by rw [wr_eq]) (show p + 1 ≤ len from c.1) D1 hx (some (B p - 48)) (nI (B p - 48)) (fun v hv => by
      apply propext
      rw [nI_eq (by omega) (by have := c.2.2.1; omega)]
      constructor
      · intro w; rw [w]
      · intro w; exact (Option.some.inj w).symm)
    by_cases c' : good B len x.1 (p + 1) x.2.2.2.2 (some (B p - 48))
    · have eB : tB B len (.inr p) x = (.inr (p + 1 + 1), B (p + 1) - 48) := by unfold tB; rw [eA]; exact ntw_good hn c'
      have va := c.2.2.1
      have vb := c'.2.2.1
      rw [bd_ok (k1 c')]
      simp only [f_X9_readTwins_23, Lt]
      rw [if_neg (m9_q _ (by omega)), ck_ok _ (show B p - 48 < 5 by omega) (by decide), ix_nI (by omega), ck_ok _ (show B (p + 1) - 48 < 5 by omega) (by decide), ix_nI (by omega), zr_1]
      unfold rdT
      rw [eA, eB]
      refine ⟨true, _, rfl, fun q w => (by cases w), fun p' w => ⟨rfl, ?_, ?_, fun g hg => ?_⟩, fun a i q1 q2 => ?_⟩
      · cases w
        simp (disch := omega) only [wr_ne]; rw [wr_eq]
      · simp (disch := omega) only [wr_ne]; exact hD.1
      · obtain ⟨y1, y2, y3, y4⟩ := hD.2 g hg
        refine ⟨?_, ?_, ?_, ?_⟩
        · simp (disch := omega) only [wr_ne]; exact y1
        · simp (disch := omega) only [wr_ne]; exact y2
        · simp (disch := omega) only [wr_ne]; exact y3
        · show _ = twI (va_up (va_up x.2.2.2.2 (B p - 48) (some (B (p + 1) - 48))) (B (p + 1) - 48) (some (B p - 48)) g)
          rw [va_up_at, va_up_at]
          by_cases eb : g = B (p + 1) - 48
          · rw [if_pos eb, eb, wr_eq]; rfl
          · rw [if_neg eb, wr_ne (by omega)]
            by_cases ea : g = B p - 48
            · rw [if_pos ea, ea, wr_eq]; rfl
            · rw [if_neg ea, wr_ne (by omega), wr_ne (by omega), wr_ne (by omega)]; exact y4
      · simp (disch := omega) only [wr_ne]
    · have eB : (rdT B len (.inr p) x).1 = .inl (p + 1) := by
        show (tB B len (.inr p) x).1 = _
        unfold tB; rw [eA]; exact ntw_bad c'
      rw [bd_ok (k2 c')]
      simp only [f_X9_readTwins_23]
      rw [if_pos trivial, zr_0, eB]
      exact ⟨false, _, rfl, fun q w => (by cases w; exact ⟨rfl, by rw [wr_eq]⟩), fun p' w => (by cases w), fun a i q1 q2 => wr_ne (by omega)⟩
  · have eA : (tA B len (.inr p) x).1 = .inl p := ntw_bad c
    have eB : (rdT B len (.inr p) x).1 = .inl p := by
      show (tB B len (.inr p) x).1 = _
      unfold tB; rw [eA]; rfl
    rw [bd_ok (g2 c), if_pos rfl]
    simp only [f_X9_readTwins_23]
    rw [if_pos trivial, zr_0, eB]
    exact ⟨false, _, rfl, fun q w => (by cases w; exact ⟨rfl, h3⟩), fun p' w => (by cases w), fun a i q1 q2 => rfl⟩
theorem single_loop {σ : Hp} {x : Dr} (hD : MDr σ x) (hx : WFd x) : ∀ (k i fuel : Nat), i + k = x.1 → k < fuel → f_X9_single_4 fuel σ (nI (cnt i (fun g => decide (x.2.2.2.2 g = none)))) (nI i) = some (nI (sgl x.1 x.2.2.2.2), σ) := by
  obtain ⟨hn, htw, -⟩ := hx
  intro k
  induction k with
  | zero =>
    intro i fuel hi hf
    obtain ⟨f, rfl⟩ : ∃ f, fuel = f + 1 := ⟨fuel - 1, by omega⟩
    have : i = x.1 := by omega
    subst this
    simp only [f_X9_single_4]
    rw [hD.1, if_pos (nI_le (Nat.le_refl _) (by omega))]; rfl
  | succ k ih =>
    intro i fuel hi hf
    obtain ⟨f, rfl⟩ : ∃ f, fuel = f + 1 := ⟨fuel - 1, by omega⟩
    have step := ih (i + 1) f (by omega) (by omega)
    simp only [f_X9_single_4, f_X9_single_29, Lt]
    rw [hD.1, if_neg (nI_ge (show i < x.1 by omega) (by omega)), ck_ok _ (show i < 5 by omega) (by decide), ix_nI (by omega), (hD.2 i (by omega)).2.2.2, ni_add1, ni_add1]
    simp only [m9_tw hn htw]
    by_cases q : x.2.2.2.2 i = none
    · rw [if_pos q]
      rw [show cnt i (fun g => decide (x.2.2.2.2 g = none)) + 1 = cnt (i + 1) (fun g => decide (x.2.2.2.2 g = none)) by simp [cnt, q]]; exact step
    · rw [if_neg q, i32_a0]
      rw [show cnt i (fun g => decide (x.2.2.2.2 g = none)) = cnt (i + 1) (fun g => decide (x.2.2.2.2 g = none)) by simp [cnt, q]]; exact step
def FrN (σ σ' : Hp) : Prop := ∀ a i, ¬ (a = 134 ∧ (i = 3 ∨ i = 17)) → ¬ (144 ≤ a ∧ a ≤ 147) → σ' a i = σ a i
theorem FrN_trans {σ σ1 σ2 : Hp} (h1 : FrN σ σ1) (h2 : FrN σ1 σ2) : FrN σ σ2 := fun a i q1 q2 => (h2 a i q1 q2).trans (h1 a i q1 q2)
theorem zr_b (b : Bool) (σ : Hp) : zr (b2i b) σ = some (b2i b, σ) := by
  cases b
  · exact zr_0 σ
  · exact zr_1 σ
theorem partM {σ : Hp} {B : Nat → Nat} {len p : Nat} {x : Dr} (hT : MT σ B len) (h3 : σ 134 3 = nI p) (hp : p < len) (hD : MDr σ x) (hx : WFd x) : ∃ ok σ', f_X9_readPart σ = some (b2i ok, σ') ∧ (∀ q, (rdP B len p x).1 = .inl q → ok = false ∧ σ' 134 3 = nI q) ∧ (∀ p', (rdP B len p x).1 = .inr p' → ok = true ∧ σ' 134 3 = nI p' ∧ MDr σ' (rdP B len p x).2) ∧ FrN σ σ' := by
  have hn := hx.1
  obtain ⟨hl, u1, u2⟩ := hT
  have hT' : MT σ B len := ⟨hl, u1, u2⟩
  obtain ⟨b1, b2⟩ := u2 p hp
  have T1 : MT (wr σ 134 3 (nI (p + 1))) B len := MT_fr hT' (fun a i q => wr_ne (by omega))
  have D1 : MDr (wr σ 134 3 (nI (p + 1))) x := ⟨by rw [wr_ne (by omega)]; exact hD.1, fun g hg => by
    simp (disch := omega) only [wr_ne]; exact hD.2 g hg⟩
  have e71 : (nI (B p) = (71 : Int32)) = (B p = 71) := ni_eq (b := 71) (by omega) (by decide)
  have e84 : (nI (B p) = (84 : Int32)) = (B p = 84) := ni_eq (b := 84) (by omega) (by decide)
  have tail : ¬ (B p = 71 ∧ x.1 < 5) → ∃ ok σ', f_X9_readPart_39 σ (nI (B p)) = some (b2i ok, σ') ∧ (∀ q, (rdP B len p x).1 = .inl q → ok = false ∧ σ' 134 3 = nI q) ∧ (∀ p', (rdP B len p x).1 = .inr p' → ok = true ∧ σ' 134 3 = nI p' ∧ MDr σ' (rdP B len p x).2) ∧ FrN σ σ' := by
    intro hno
    unfold rdP
    rw [if_neg hno]
    simp only [f_X9_readPart_39, Lt, e84]
    by_cases q1 : B p = 84
    · rw [if_pos q1, bd_ok (show f_X9_single σ = _ from single_loop hD hx x.1 0 FU (by omega) (FU_big (by omega)))]
      have hs5 : sgl x.1 x.2.2.2.2 ≤ 5 := Nat.le_trans (cnt_le _ _) hn
      by_cases q2 : 2 ≤ sgl x.1 x.2.2.2.2
      · rw [if_neg (show ¬ nI (sgl x.1 x.2.2.2.2) ≤ (1 : Int32) from nI_ge (a := 1) (by omega) (by omega)), h3, ni_add1, if_pos ⟨q1, q2⟩]
        obtain ⟨ok, σ1, e1, e2, e3, e4⟩ := twinsM T1 (by rw [wr_eq]) (show p + 1 ≤ len from hp) D1 hx
        rw [bd_ok e1, zr_b]
        exact ⟨ok, σ1, rfl, e2, e3, fun a i w1 w2 => (e4 a i (by omega) (by omega)).trans (wr_ne (by omega))⟩
      · rw [if_pos (show nI (sgl x.1 x.2.2.2.2) ≤ (1 : Int32) from nI_le (b := 1) (by omega) (by decide)), zr_0, if_neg (fun w => q2 w.2)]
        exact ⟨false, σ, rfl, fun q w => (by cases w; exact ⟨rfl, h3⟩), fun p' w => (by cases w), fun a i _ _ => rfl⟩
    · rw [if_neg q1, zr_0, if_neg (fun w => q1 w.1)]
      exact ⟨false, σ, rfl, fun q w => (by cases w; exact ⟨rfl, h3⟩), fun p' w => (by cases w), fun a i _ _ => rfl⟩
  simp only [f_X9_readPart, Lt]
  rw [h3, ck_ok _ (show p < 48 by omega) (by decide), ix_nI (by omega), b2, hD.1]
  simp only [e71]
  by_cases q1 : B p = 71
  · rw [if_pos q1]
    by_cases q2 : x.1 < 5
    · rw [if_neg (show ¬ (5 : Int32) ≤ nI x.1 from nI_ge (b := 5) q2 (by decide)), ni_add1]
      obtain ⟨ok, σ1, e1, e2, e3, e4⟩ := guardM (n := x.1) T1 (by rw [wr_eq]) (show p + 1 ≤ len from hp) q2 (by rw [wr_ne (by omega)]; exact hD.1)
      rw [bd_ok e1, zr_b]
      unfold rdP
      rw [if_pos ⟨q1, q2⟩]
      refine ⟨ok, σ1, rfl, e2, fun p' w => ?_, fun a i w1 w2 => (e4 a i (by omega) (by omega)).trans (wr_ne (by omega))⟩
      obtain ⟨y1, y2, y3, y4, y5, y6, y7⟩ := e3 p' w
      refine ⟨y1, y2, y3, fun g hg => ?_⟩
      have hg' : g < x.1 + 1 := hg
      show σ1 144 g = nI (va_up x.2.1 x.1 _ g) ∧ σ1 145 g = nI (va_up x.2.2.1 x.1 _ g) ∧ σ1 146 g = nI (va_up x.2.2.2.1 x.1 _ g) ∧ σ1 147 g = twI (x.2.2.2.2 g)
      rw [va_up_at, va_up_at, va_up_at]
      by_cases e : g = x.1
      · rw [if_pos e, if_pos e, if_pos e, e]
        refine ⟨y4, y5, y6, ?_⟩
        rw [y7]
        cases hh : x.2.2.2.2 x.1 with
        | none => rfl
        | some k => exact absurd (hx.2.1 _ _ hh).1 (by omega)
      · rw [if_neg e, if_neg e, if_neg e, e4 144 g (by omega) (by omega), e4 145 g (by omega) (by omega), e4 146 g (by omega) (by omega), e4 147 g (by omega) (by omega)]
        exact D1.2 g (by omega)
    · rw [if_pos (show (5 : Int32) ≤ nI x.1 from nI_le (a := 5) (by omega) (by omega))]
      exact tail (fun w => q2 w.2)
  · rw [if_neg q1]
    exact tail (fun w => q1 w.1)
theorem loopM {B : Nat → Nat} {len : Nat} {σ0 : Hp} (hT : MT σ0 B len) : ∀ (k p fuel : Nat) (σ : Hp) (x : Dr), FrN σ0 σ → σ 134 3 = nI p → p ≤ len → MDr σ x → WFd x → len < p + k → k < fuel → ∃ σ', f_X9_readFortress_115 fuel σ = some (resI (rdL B len k p x), σ') ∧ FrN σ0 σ' ∧ (∀ y, rdL B len k p x = .inr y → MDr σ' y) := by
  have hl := hT.1
  intro k
  induction k with
  | zero =>
    intro p fuel σ x hfr h3 hp hD hx hk hf
    omega
  | succ k ih =>
    intro p fuel σ x hfr h3 hp hD hx hk hf
    obtain ⟨f, rfl⟩ : ∃ f, fuel = f + 1 := ⟨fuel - 1, by omega⟩
    have hT1 : MT σ B len := MT_fr hT (fun a i q => hfr a i (by omega) (by omega))
    simp only [f_X9_readFortress_115]
    rw [hT1.2.1, h3]
    by_cases c2 : len ≤ p
    · have e : rdL B len (k + 1) p x = .inr x := by rw [rdL, if_pos c2]
      rw [if_pos (nI_le c2 (by omega)), e]
      exact ⟨σ, rfl, hfr, fun y w => (by cases w; exact hD)⟩
    · rw [if_neg (nI_ge (by omega) (by omega))]
      obtain ⟨ok, σ1, e1, e2, e3, e4⟩ := partM hT1 h3 (by omega) hD hx
      rw [bd_ok e1]
      have e : rdL B len (k + 1) p x = cont (fun p' => rdL B len k p' (rdP B len p x).2) (rdP B len p x).1 := by rw [rdL, if_neg c2]
      rw [e]
      cases hst : (rdP B len p x).1 with
      | inl q =>
        obtain ⟨y1, y2⟩ := e2 q hst
        rw [y1, b2i_f, if_pos rfl, y2]
        exact ⟨σ1, rfl, FrN_trans hfr e4, fun y w => (by cases w)⟩
      | inr p' =>
        obtain ⟨y1, y2, y3⟩ := e3 p' hst
        obtain ⟨w1, w2, w3⟩ := rdP_wf hx hst
        rw [y1, b2i_t, if_neg (by decide)]
        exact ih p' f σ1 (rdP B len p x).2 (FrN_trans hfr e4) y2 w3 y3 w1 (by omega) (by omega)
def FrF (σ σ' : Hp) : Prop := ∀ a i, ¬ (a = 134 ∧ (i = 3 ∨ i = 17 ∨ i = 18 ∨ i = 19)) → ¬ (144 ≤ a ∧ a ≤ 147) → σ' a i = σ a i
theorem fortM {σ : Hp} {B : Nat → Nat} {len : Nat} (hT : MT σ B len) : ∃ σ', f_X9_readFortress σ = some (resI (rd B len), σ') ∧ FrF σ σ' ∧ (∀ y, rd B len = .inr y → MDr σ' y ∧ σ' 134 18 = nI (hB B len).2 ∧ σ' 134 19 = nI (hLim B len) ∧ (hB B len).2 ≤ 5 ∧ hLim B len < 100) := by
  obtain ⟨hl, u1, u2⟩ := hT
  have T1 : MT (wr (wr σ 134 3 0) 134 17 0) B len := MT_fr ⟨hl, u1, u2⟩ (fun a i q => (wr_ne (by omega)).trans (wr_ne (by omega)))
  simp only [f_X9_readFortress, Lt]
  rw [T1.2.1]
  have bad0 : dg B len 0 70 70 = false → ∃ σ', some ((0 : Int32), wr (wr σ 134 3 0) 134 17 0) = some (resI (rd B len), σ') ∧ FrF σ σ' ∧ (∀ y, rd B len = .inr y → MDr σ' y ∧ σ' 134 18 = nI (hB B len).2 ∧ σ' 134 19 = nI (hLim B len) ∧ (hB B len).2 ≤ 5 ∧ hLim B len < 100) := by
    intro h
    have e : rd B len = .inl 0 := by unfold rd hD hC hB hA; rw [nxt_f h]; rfl
    rw [e]
    exact ⟨_, rfl, fun a i q1 q2 => by rw [wr_ne (by omega), wr_ne (by omega)], fun y w => (by cases w)⟩
  by_cases c0 : len = 0
  · rw [if_pos (by rw [c0]; rfl)]
    exact bad0 (by unfold dg; exact decide_eq_false (fun w => by omega))
  · rw [if_neg (nI_ne0 (by omega) (by omega)), show ck (0 : Int32) 48 = ck (nI 0) 48 from rfl, ck_ok _ (by decide) (by decide), show ix (0 : Int32) = 0 from rfl]
    obtain ⟨b1, b2⟩ := T1.2.2 0 (by omega)
    rw [b2]
    simp only [show (nI (B 0) = (70 : Int32)) = (B 0 = 70) from ni_eq (b := 70) (by omega) (by decide)]
    by_cases c1 : B 0 = 70
    · have d0 : dg B len 0 70 70 = true := dg_iff.mpr ⟨by omega, by omega, by omega⟩
      have eA : hA B len = (.inr 1, B 0 - 70) := nxt_t d0
      rw [if_pos c1]
      have T2 : MT (wr (wr (wr σ 134 3 0) 134 17 0) 134 3 1) B len := MT_fr T1 (fun a i q => wr_ne (by omega))
      by_cases d1 : dg B len 1 48 53 = true
      · have k1 := dg_iff.mp d1
        have eB : hB B len = (.inr 2, B 1 - 48) := by unfold hB; rw [eA]; exact nxt_t d1
        rw [bd_ok (show f_X9_figure (wr (wr (wr σ 134 3 0) 134 17 0) 134 3 1) (0 : Int32) (5 : Int32) = some (nI (B 1 - 48), wr (wr (wr (wr σ 134 3 0) 134 17 0) 134 3 1) 134 3 (nI 2)) from fig_t (p := 1) (lo := 0) (hi := 5) T2 (by rw [wr_eq]; rfl) (by decide) (by decide) d1), wr_eq, if_neg (m9_q _ (by omega))]
        have T3 : MT (wr (wr (wr (wr (wr σ 134 3 0) 134 17 0) 134 3 1) 134 3 (nI 2)) 134 18 (nI (B 1 - 48))) B len := MT_fr T2 (fun a i q => (wr_ne (by omega)).trans (wr_ne (by omega)))
        have p3 : (wr (wr (wr (wr (wr σ 134 3 0) 134 17 0) 134 3 1) 134 3 (nI 2)) 134 18 (nI (B 1 - 48))) 134 3 = nI 2 := by rw [wr_ne (by omega), wr_eq]
        by_cases d2 : dg B len 2 48 57 = true
        · have k2 := dg_iff.mp d2
          have eC : hC B len = (.inr 3, B 2 - 48) := by unfold hC; rw [eB]; exact nxt_t d2
          rw [bd_ok (f09_t T3 p3 d2)]
          simp only [f_X9_readFortress_66]
          rw [if_neg (dg_9 d2)]
          simp only [show (nI (B 2 - 48) = (0 : Int32)) = (B 2 - 48 = 0) from ni_eq (b := 0) (by omega) (by decide)]
          have T4 : MT (wr (wr (wr (wr (wr (wr σ 134 3 0) 134 17 0) 134 3 1) 134 3 (nI 2)) 134 18 (nI (B 1 - 48))) 134 3 (nI 3)) B len := MT_fr T3 (fun a i q => wr_ne (by omega))
          have fin : ∀ lo : Nat, lo = (if B 2 - 48 = 0 then 1 else 0) → ∃ σ', f_X9_readFortress_88 (wr (wr (wr (wr (wr (wr σ 134 3 0) 134 17 0) 134 3 1) 134 3 (nI 2)) 134 18 (nI (B 1 - 48))) 134 3 (nI 3)) (nI (B 2 - 48)) (nI lo) = some (resI (rd B len), σ') ∧ FrF σ σ' ∧ (∀ y, rd B len = .inr y → MDr σ' y ∧ σ' 134 18 = nI (hB B len).2 ∧ σ' 134 19 = nI (hLim B len) ∧ (hB B len).2 ≤ 5 ∧ hLim B len < 100) := by
            intro lo hlo
            have lo2 : lo < 100 := by rw [hlo]; split <;> decide
            have elo : (if (hC B len).2 = 0 then 49 else 48) = 48 + lo := by rw [eC, hlo]; show (if B 2 - 48 = 0 then 49 else 48) = _; split <;> rfl
            simp only [f_X9_readFortress_88]
            by_cases d3 : dg B len 3 (48 + lo) 57 = true
            · have k3 := dg_iff.mp d3
              have eD : hD B len = (.inr 4, B 3 - (48 + lo)) := by unfold hD; rw [elo, eC]; exact nxt_t d3
              rw [bd_ok (show f_X9_figure (wr (wr (wr (wr (wr (wr σ 134 3 0) 134 17 0) 134 3 1) 134 3 (nI 2)) 134 18 (nI (B 1 - 48))) 134 3 (nI 3)) (nI lo) (9 : Int32) = _ from fig_t (p := 3) (lo := lo) (hi := 9) T4 (by rw [wr_eq]) lo2 (by decide) d3)]
              simp only [f_X9_readFortress_93, Lt]
              rw [if_neg (m9_q _ (by omega)), show (10 : Int32) * nI (B 2 - 48) = nI (10 * (B 2 - 48)) from pk_mul 10 _, nI_add]
              have hL : hLim B len = 10 * (B 2 - 48) + (B 3 - 48) := by
                unfold hLim
                rw [eC, eD]
                show 10 * (B 2 - 48) + (if B 2 - 48 = 0 then B 3 - (48 + lo) + 1 else B 3 - (48 + lo)) = _
                by_cases w : B 2 - 48 = 0
                · rw [if_pos w] at hlo ⊢; omega
                · rw [if_neg w] at hlo ⊢; omega
              have eR : rd B len = rdL B len 49 4 x0 := by unfold rd; rw [eD]; rfl
              have W0 : WFd x0 := ⟨by decide, fun g k h => (by cases h), fun g hg => absurd hg (Nat.not_lt_zero g)⟩
              obtain ⟨σ9, m1, m2, m3⟩ := loopM (σ0 := wr (wr (wr (wr (wr (wr (wr (wr σ 134 3 0) 134 17 0) 134 3 1) 134 3 (nI 2)) 134 18 (nI (B 1 - 48))) 134 3 (nI 3)) 134 3 (nI (3 + 1))) 134 19 (nI (10 * (B 2 - 48) + (B 3 - 48)))) (MT_fr T4 (fun a i q => (wr_ne (by omega)).trans (wr_ne (by omega)))) 49 4 FU _ x0 (fun _ _ _ _ => rfl) (by rw [wr_ne (by omega), wr_eq]) (by omega) ⟨by simp (disch := omega) only [wr_ne]; rw [wr_eq]; rfl, fun g hg => absurd hg (Nat.not_lt_zero g)⟩ W0 (by omega) (FU_big (by omega))
              rw [eR, eB, hL]
              refine ⟨σ9, m1, fun a i q1 q2 => ?_, fun y w => ⟨m3 y w, ?_, ?_, ?_, ?_⟩⟩
              · rw [m2 a i (by omega) q2]; simp (disch := omega) only [wr_ne]
              · rw [m2 134 18 (by omega) (by omega)]; simp (disch := omega) only [wr_ne]; rw [wr_eq]
              · rw [m2 134 19 (by omega) (by omega), wr_eq]
              · show B 1 - 48 ≤ 5; omega
              · omega
            · have d3' : dg B len 3 (48 + lo) 57 = false := by simpa using d3
              have eR : rd B len = .inl 3 := by unfold rd hD; rw [elo, eC, nxt_f d3']; rfl
              rw [bd_ok (show f_X9_figure (wr (wr (wr (wr (wr (wr σ 134 3 0) 134 17 0) 134 3 1) 134 3 (nI 2)) 134 18 (nI (B 1 - 48))) 134 3 (nI 3)) (nI lo) (9 : Int32) = _ from fig_f (p := 3) (lo := lo) (hi := 9) T4 (by rw [wr_eq]) (by omega) lo2 (by decide) d3')]
              simp only [f_X9_readFortress_93, Lt]
              rw [if_pos trivial, eR, wr_eq]
              exact ⟨_, rfl, fun a i q1 q2 => by simp (disch := omega) only [wr_ne], fun y w => (by cases w)⟩
          by_cases w : B 2 - 48 = 0
          · rw [if_pos w]; exact fin 1 (by rw [if_pos w])
          · rw [if_neg w]; exact fin 0 (by rw [if_neg w])
        · have d2' : dg B len 2 48 57 = false := by simpa using d2
          have eR : rd B len = .inl 2 := by unfold rd hD hC; rw [eB, nxt_f d2']; rfl
          rw [bd_ok (f09_f T3 p3 (by omega) d2')]
          simp only [f_X9_readFortress_66, f_X9_readFortress_93]
          rw [if_pos trivial, if_pos trivial, eR, p3]
          exact ⟨_, rfl, fun a i q1 q2 => by simp (disch := omega) only [wr_ne], fun y w => (by cases w)⟩
      · have d1' : dg B len 1 48 53 = false := by simpa using d1
        have eR : rd B len = .inl 1 := by unfold rd hD hC hB; rw [eA, nxt_f d1']; rfl
        rw [bd_ok (show f_X9_figure (wr (wr (wr σ 134 3 0) 134 17 0) 134 3 1) (0 : Int32) (5 : Int32) = some (-9, wr (wr (wr σ 134 3 0) 134 17 0) 134 3 1) from fig_f (p := 1) (lo := 0) (hi := 5) T2 (by rw [wr_eq]; rfl) (by omega) (by decide) (by decide) d1'), wr_eq, if_pos rfl]
        simp only [f_X9_readFortress_66, f_X9_readFortress_93]
        rw [if_pos trivial, if_pos trivial, eR, wr_ne (by omega), wr_eq]
        exact ⟨_, rfl, fun a i q1 q2 => by simp (disch := omega) only [wr_ne], fun y w => (by cases w)⟩
    · rw [if_neg c1]
      exact bad0 (by unfold dg; exact decide_eq_false (fun w => by omega))
