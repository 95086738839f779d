theorem readTwins_abs {σ : Hp} {B : Nat → Nat} {len : Nat} {x : Dr} {p : Nat} (hT : Tx σ B len) (hS : Sta σ len (.inr p)) (h4 : σ 4 1 = nI x.1) (h5 : ∀ g, g < 5 → σ 5 g = twI (x.2.2.2.2 g)) (hx : WFd x) : ∃ σ', f_X3_readTwins σ = some ((), σ') ∧ Sta σ' len (rdT B len (.inr p) x).1 ∧ (∀ p', (rdT B len (.inr p) x).1 = .inr p' → ∀ g, g < 5 → σ' 5 g = twI ((rdT B len (.inr p) x).2.2.2.2.2 g)) ∧ ∀ a i, ¬ (a = 3 ∧ (i = 3 ∨ i = 4)) → a ≠ 5 → σ' a i = σ a i := by
  have hn := hx.1
  obtain ⟨σ1, e1, s1, f1⟩ := nextTwin_abs hT hS hn h4 h5 hx.2.1 none (-9) (fun v hv => by
    apply propext
    constructor
    · intro w; exact absurd w (m9_ne v hv)
    · intro w; cases w)
  have r1 : f_X3_nextTwin σ (-9) = some (nI (tA B len (.inr p) x).2, σ1) := e1
  have s1' : Sta σ1 len (tA B len (.inr p) x).1 := s1
  have hA : (tA B len (.inr p) x).2 < 2 ^ 31 := by
    show (ntw B len x.1 x.2.2.2.2 none (.inr p)).2 < 2 ^ 31
    unfold ntw
    simp only
    by_cases q : dg B len p 48 57 = true
    · have := dg_iff.mp q
      rw [if_pos q]; split
      · show B p - 48 < 2 ^ 31; omega
      · show B p - 48 < 2 ^ 31; omega
    · rw [if_neg q]; exact (by decide : 0 < 2 ^ 31)
  obtain ⟨σ2, e2, s2, f2⟩ := nextTwin_abs (σ := σ1) (Tx_fr hT (fun a i q => f1 a i (by omega))) s1' hn ((f1 4 1 (by omega)).trans h4) (fun g hg => (f1 5 g (by omega)).trans (h5 g hg)) hx.2.1 (some (tA B len (.inr p) x).2) (nI (tA B len (.inr p) x).2) (fun v hv => by
    apply propext
    rw [nI_eq (by omega) hA]
    constructor
    · intro w; rw [w]
    · intro w; exact (Option.some.inj w).symm)
  have r2 : f_X3_nextTwin σ1 (nI (tA B len (.inr p) x).2) = some (nI (tB B len (.inr p) x).2, σ2) := e2
  have s2' : Sta σ2 len (rdT B len (.inr p) x).1 := s2
  have f12 : ∀ a i, ¬ (a = 3 ∧ (i = 3 ∨ i = 4)) → σ2 a i = σ a i := fun a i q => (f2 a i q).trans (f1 a i q)
  simp only [f_X3_readTwins, Lt]
  rw [bd_ok r1, bd_ok r2]
  cases hst : (rdT B len (.inr p) x).1 with
  | inl q =>
    rw [hst] at s2'
    rw [if_neg (by rw [s2'.2]; exact m9_q q s2'.1)]
    exact ⟨σ2, rfl, s2', fun p' w => (by cases w), fun a i q1 _ => f12 a i q1⟩
  | inr p' =>
    rw [hst] at s2'
    obtain ⟨-, -, -, va, vb⟩ := rdT_wf hx hst
    rw [if_pos s2'.2.2, ck_ok _ (show (tA B len (.inr p) x).2 < 5 by omega) (by decide), ix_nI (by omega), ck_ok _ (show (tB B len (.inr p) x).2 < 5 by omega) (by decide), ix_nI (by omega)]
    refine ⟨_, rfl, Sta_fr s2' (fun i => (wr_ne (by omega)).trans (wr_ne (by omega))), fun p' w g hg => ?_, fun a i q1 q2 => ?_⟩
    · show _ = twI (va_up (va_up x.2.2.2.2 (tA B len (.inr p) x).2 (some (tB B len (.inr p) x).2)) (tB B len (.inr p) x).2 (some (tA B len (.inr p) x).2) g)
      rw [va_up_at, va_up_at]
      by_cases eb : g = (tB B len (.inr p) x).2
      · rw [if_pos eb, eb, wr_eq]; rfl
      · rw [if_neg eb, wr_ne (by omega)]
        by_cases ea : g = (tA B len (.inr p) x).2
        · rw [if_pos ea, ea, wr_eq]; rfl
        · rw [if_neg ea, wr_ne (by omega), f12 5 g (by omega)]; exact h5 g hg
    · rw [wr_ne (by omega), wr_ne (by omega)]; exact f12 a i q1
theorem m9_tw {n : Nat} {tw : Nat → Option Nat} (hn : n ≤ 5) (htw : TwOK n tw) (g : Nat) : (twI (tw g) = (-9 : Int32)) = (tw g = none) := by
  apply propext
  cases hh : tw g with
  | none => simp [twI_none]
  | some k =>
    rw [twI_some]
    have := htw _ _ hh
    simp [m9_ne k (by omega)]
theorem twinless_loop {σ : Hp} {n : Nat} {tw : Nat → Option Nat} (hn : n ≤ 5) (htw : TwOK n tw) (h4 : σ 4 1 = nI n) (h5 : ∀ g, g < 5 → σ 5 g = twI (tw g)) : ∀ (k i fuel : Nat), i + k = n → k < fuel → f_X2_twinless_4 4 fuel σ (nI (cnt i (fun g => decide (tw g = none)))) (nI i) = some (nI (sgl n tw), σ) := by
  intro k
  induction k with
  | zero =>
    intro i fuel hi hf
    obtain ⟨f, rfl⟩ : ∃ f, fuel = f + 1 := ⟨fuel - 1, by omega⟩
    have : i = n := by omega
    subst this
    simp only [f_X2_twinless_4]
    rw [h4, if_pos (nI_le (Nat.le_refl _) (by omega))]; rfl
  | succ k ih =>
    intro i fuel hi hf
    obtain ⟨f, rfl⟩ : ∃ f, fuel = f + 1 := ⟨fuel - 1, by omega⟩
    have step := ih (i + 1) f (by omega) (by omega)
    simp only [f_X2_twinless_4, f_X2_twinless_26, Lt]
    rw [h4, if_neg (nI_ge (show i < n by omega) (by omega)), ck_ok _ (show i < 5 by omega) (by decide), ix_nI (by omega), show σ (4 + 1) i = twI (tw i) from h5 i (by omega), ni_add1, ni_add1]
    simp only [m9_tw hn htw]
    by_cases q : tw i = none
    · rw [if_pos q]
      rw [show cnt i (fun g => decide (tw g = none)) + 1 = cnt (i + 1) (fun g => decide (tw g = none)) by simp [cnt, q]]; exact step
    · rw [if_neg q]
      rw [show cnt i (fun g => decide (tw g = none)) = cnt (i + 1) (fun g => decide (tw g = none)) by simp [cnt, q]]; exact step
/-- the class's draft -/
def CDr (σ : Hp) (x : Dr) : Prop := σ 4 1 = nI x.1 ∧ (∀ g, g < x.1 → σ 7 g = nI (x.2.1 g) ∧ σ 8 g = nI (x.2.2.1 g) ∧ σ 9 g = nI (x.2.2.2.1 g)) ∧ ∀ g, g < 5 → σ 5 g = twI (x.2.2.2.2 g)
def FrK (σ σ' : Hp) : Prop := ∀ a i, ¬ (a = 3 ∧ (i = 3 ∨ i = 4)) → ¬ (a = 4 ∧ i = 1) → a ≠ 5 → a ≠ 7 → a ≠ 8 → a ≠ 9 → σ' a i = σ a i
theorem readPart_abs {σ : Hp} {B : Nat → Nat} {len : Nat} {x : Dr} {p : Nat} (hT : Tx σ B len) (hS : Sta σ len (.inr p)) (hp : p < len) (hD : CDr σ x) (hx : WFd x) : ∃ σ', f_X3_readPart σ = some ((), σ') ∧ Sta σ' len (rdP B len p x).1 ∧ (∀ p', (rdP B len p x).1 = .inr p' → CDr σ' (rdP B len p x).2) ∧ FrK σ σ' := by
  obtain ⟨t1, t2, t3⟩ := hS
  obtain ⟨hl, u1, u2⟩ := hT
  have hT' : Tx σ B len := ⟨hl, u1, u2⟩
  obtain ⟨b1, b2⟩ := u2 p hp
  obtain ⟨d1, d2, d3⟩ := hD
  have hn := hx.1
  have Sn : Sta (wr σ 3 3 (nI (p + 1))) len (.inr (p + 1)) := ⟨by omega, by rw [wr_eq], by rw [wr_ne (by omega)]; exact t3⟩
  have Tn : Tx (wr σ 3 3 (nI (p + 1))) B len := Tx_fr hT' (fun a i q => wr_ne (by omega))
  have tail : ¬ (B p = 71 ∧ x.1 < 5) → ∃ σ', f_X3_readPart_47 σ (sx (B p)) = some ((), σ') ∧ Sta σ' len (rdP B len p x).1 ∧ (∀ p', (rdP B len p x).1 = .inr p' → CDr σ' (rdP B len p x).2) ∧ FrK σ σ' := by
    intro hno
    unfold rdP
    rw [if_neg hno]
    simp only [f_X3_readPart_47, f_X3_readPart_81, Lt]
    have hbad : ∀ h : ¬ (B p = 84 ∧ 2 ≤ sgl x.1 x.2.2.2.2), ∃ σ', some ((), wr σ 3 4 (σ 3 3)) = some ((), σ') ∧ Sta σ' len (if B p = 84 ∧ 2 ≤ sgl x.1 x.2.2.2.2 then rdT B len (.inr (p + 1)) x else (.inl p, x)).1 ∧ (∀ p', (if B p = 84 ∧ 2 ≤ sgl x.1 x.2.2.2.2 then rdT B len (.inr (p + 1)) x else (.inl p, x)).1 = .inr p' → CDr σ' (if B p = 84 ∧ 2 ≤ sgl x.1 x.2.2.2.2 then rdT B len (.inr (p + 1)) x else (.inl p, x)).2) ∧ FrK σ σ' := by
      intro h
      rw [if_neg h]
      exact ⟨_, rfl, ⟨by omega, by rw [wr_eq, t2]⟩, fun p' w => (by cases w), fun a i q1 q2 q3 q4 q5 q6 => wr_ne (by omega)⟩
    by_cases q1 : B p = 84
    · rw [if_pos (show sx (B p) = (84 : Int32) by rw [q1]; decide)]
      have htl := twinless_loop hn hx.2.1 d1 d3 x.1 0 FU (by omega) (FU_big (by omega))
      rw [bd_ok (show f_X2_twinless σ 4 = _ from htl)]
      have hs5 : sgl x.1 x.2.2.2.2 ≤ 5 := Nat.le_trans (cnt_le _ _) hn
      by_cases q2 : 2 ≤ sgl x.1 x.2.2.2.2
      · rw [if_neg (show ¬ nI (sgl x.1 x.2.2.2.2) < (2 : Int32) from nI_nlt (b := 2) q2 (by omega)), t2, ni_add1]
        obtain ⟨σ1, e1, s1, c1, f1⟩ := readTwins_abs (x := x) Tn Sn (by rw [wr_ne (by omega)]; exact d1) (fun g hg => by rw [wr_ne (by omega)]; exact d3 g hg) hx
        rw [bd_ok e1, if_pos ⟨q1, q2⟩]
        refine ⟨σ1, rfl, s1, fun p' w => ⟨?_, fun g hg => ?_, c1 p' w⟩, fun a i q1 q2 q3 q4 q5 q6 => ?_⟩
        · rw [f1 4 1 (by omega) (by omega), wr_ne (by omega)]; exact d1
        · rw [f1 7 g (by omega) (by omega), f1 8 g (by omega) (by omega), f1 9 g (by omega) (by omega), wr_ne (by omega), wr_ne (by omega), wr_ne (by omega)]; exact d2 g hg
        · rw [f1 a i q1 q3]; exact wr_ne (by omega)
      · rw [if_pos (show nI (sgl x.1 x.2.2.2.2) < (2 : Int32) from nI_lt (b := 2) (by omega) (by decide))]
        exact hbad (fun w => q2 w.2)
    · rw [if_neg (show ¬ sx (B p) = (84 : Int32) from fun w => q1 ((iff_of_eq (sx_eq b1 (show 84 < 128 by decide))).mp w))]
      exact hbad (fun w => q1 w.1)
  simp only [f_X3_readPart, Lt]
  rw [t2, ck_ok _ (show p < 48 by omega) (by decide), ix_nI (by omega), b2, d1]
  by_cases q1 : B p = 71
  · rw [if_pos (show sx (B p) = (71 : Int32) by rw [q1]; decide)]
    by_cases q2 : x.1 < 5
    · rw [if_neg (show ¬ (5 : Int32) ≤ nI x.1 from nI_ge (b := 5) q2 (by decide)), ni_add1]
      obtain ⟨σ1, e1, s1, c1, c2, c3, c4, f1⟩ := readGuard_abs Tn Sn q2 (by rw [wr_ne (by omega)]; exact d1)
      rw [bd_ok e1]
      unfold rdP
      rw [if_pos ⟨q1, q2⟩]
      refine ⟨σ1, rfl, s1, fun p' w => ⟨c1, fun g hg => ?_, fun g hg => ?_⟩, fun a i q1 q2 q3 q4 q5 q6 => ?_⟩
      · have hg' : g < x.1 + 1 := hg
        show σ1 7 g = nI (va_up x.2.1 x.1 _ g) ∧ σ1 8 g = nI (va_up x.2.2.1 x.1 _ g) ∧ σ1 9 g = nI (va_up x.2.2.2.1 x.1 _ g)
        rw [va_up_at, va_up_at, va_up_at]
        by_cases e : g = x.1
        · rw [if_pos e, if_pos e, if_pos e, e]; exact ⟨c2, c3, c4⟩
        · rw [if_neg e, if_neg e, if_neg e, f1 7 g (by omega) (by omega) (by omega), f1 8 g (by omega) (by omega) (by omega), f1 9 g (by omega) (by omega) (by omega), wr_ne (by omega), wr_ne (by omega), wr_ne (by omega)]
          exact d2 g (by omega)
      · rw [f1 5 g (by omega) (by omega) (by omega), wr_ne (by omega)]; exact d3 g hg
      · rw [f1 a i q1 q2 (by omega)]; exact wr_ne (by omega)
    · rw [if_pos (show (5 : Int32) ≤ nI x.1 from nI_le (a := 5) (by omega) (by omega))]
      exact tail (fun w => q2 w.2)
  · rw [if_neg (show ¬ sx (B p) = (71 : Int32) from fun w => q1 ((iff_of_eq (sx_eq b1 (show 71 < 128 by decide))).mp w))]
    exact tail (fun w => q1 w.1)
theorem FrK_trans {σ σ1 σ2 : Hp} (h1 : FrK σ σ1) (h2 : FrK σ1 σ2) : FrK σ σ2 := fun a i q1 q2 q3 q4 q5 q6 => (h2 a i q1 q2 q3 q4 q5 q6).trans (h1 a i q1 q2 q3 q4 q5 q6)
def resI : Nat ⊕ Dr → Int32
  | .inl q => nI q
  | .inr _ => -9
theorem read_loop {B : Nat → Nat} {len : Nat} {σ0 : Hp} (hT : Tx σ0 B len) : ∀ (k i p fuel : Nat) (σ : Hp) (x : Dr), FrK σ0 σ → Sta σ len (.inr p) → CDr σ x → WFd x → i ≤ p → len < p + k → k < fuel → ∃ σ', f_X3_read_24 fuel σ (nI i) = some (resI (rdL B len k p x), σ') ∧ FrK σ0 σ' ∧ (∀ y, rdL B len k p x = .inr y → CDr σ' y ∧ WFd y) ∧ (∀ q, rdL B len k p x = .inl q → q ≤ 48) := by
  have hl := hT.1
  intro k
  induction k with
  | zero =>
    intro i p fuel σ x hfr hS hD hx hip hk hf
    have := hS.1
    omega
  | succ k ih =>
    intro i p fuel σ x hfr hS hD hx hip hk hf
    obtain ⟨f, rfl⟩ : ∃ f, fuel = f + 1 := ⟨fuel - 1, by omega⟩
    have hT1 : Tx σ B len := Tx_fr hT (fun a i q => hfr a i (by omega) (by omega) (by omega) (by omega) (by omega) (by omega))
    obtain ⟨s1, s2, s3⟩ := hS
    have stop : len ≤ p → ∃ σ', some (σ 3 4, σ) = some (resI (rdL B len (k + 1) p x), σ') ∧ FrK σ0 σ' ∧ (∀ y, rdL B len (k + 1) p x = .inr y → CDr σ' y ∧ WFd y) ∧ (∀ q, rdL B len (k + 1) p x = .inl q → q ≤ 48) := by
      intro h
      have e : rdL B len (k + 1) p x = .inr x := by rw [rdL, if_pos h]
      rw [e, s3]
      exact ⟨σ, rfl, hfr, fun y w => (by cases w; exact ⟨hD, hx⟩), fun q w => (by cases w)⟩
    simp only [f_X3_read_24, f_X3_read_63, Lt]
    by_cases c1 : 48 ≤ i
    · rw [if_pos (show (48 : Int32) ≤ nI i from nI_le (a := 48) c1 (by omega))]
      exact stop (by omega)
    · rw [if_neg (show ¬ (48 : Int32) ≤ nI i from nI_ge (b := 48) (by omega) (by decide)), if_pos s3, hT1.2.1, s2]
      by_cases c2 : len ≤ p
      · rw [if_pos (nI_le c2 (by omega))]
        exact stop c2
      · rw [if_neg (nI_ge (by omega) (by omega))]
        obtain ⟨σ1, e1, r1, r2, r3⟩ := readPart_abs (x := x) hT1 ⟨s1, s2, s3⟩ (by omega) hD hx
        rw [bd_ok e1, ni_add1]
        have e : rdL B len (k + 1) p x = cont (fun p' => rdL B len k p' (rdP B len p x).2) (rdP B len p x).1 := by rw [rdL, if_neg c2]
        rw [e]
        cases hst : (rdP B len p x).1 with
        | inl q =>
          rw [hst] at r1
          obtain ⟨f', rfl⟩ : ∃ f', f = f' + 1 := ⟨f - 1, by omega⟩
          simp only [f_X3_read_24, f_X3_read_63]
          have hq : ¬ σ1 3 4 = (-9 : Int32) := by rw [r1.2]; exact m9_q q r1.1
          rw [if_neg hq]
          refine ⟨σ1, ?_, FrK_trans hfr r3, fun y w => (by cases w), fun q' w => (by cases w; exact r1.1)⟩
          rw [r1.2]
          split <;> rfl
        | inr p' =>
          rw [hst] at r1
          obtain ⟨w1, w2, w3⟩ := rdP_wf hx hst
          exact ih (i + 1) p' f σ1 (rdP B len p x).2 (FrK_trans hfr r3) r1 (r2 p' hst) w1 (by omega) (by omega) (by omega)
/-! the head -/
def hA (B : Nat → Nat) (len : Nat) : (Nat ⊕ Nat) × Nat := nxt B len 70 70 (.inr 0)
def hB (B : Nat → Nat) (len : Nat) : (Nat ⊕ Nat) × Nat := nxt B len 48 53 (hA B len).1
def hC (B : Nat → Nat) (len : Nat) : (Nat ⊕ Nat) × Nat := nxt B len 48 57 (hB B len).1
def hD (B : Nat → Nat) (len : Nat) : (Nat ⊕ Nat) × Nat := nxt B len (if (hC B len).2 = 0 then 49 else 48) 57 (hC B len).1
def hLim (B : Nat → Nat) (len : Nat) : Nat := 10 * (hC B len).2 + (if (hC B len).2 = 0 then (hD B len).2 + 1 else (hD B len).2)
def x0 : Dr := (0, fun _ => 0, fun _ => 0, fun _ => 0, fun _ => none)
def rd (B : Nat → Nat) (len : Nat) : Nat ⊕ Dr := cont (fun p => rdL B len 49 p x0) (hD B len).1
theorem fill_loop {q n : Nat} (hn : n < 100) (v : Int32) {σ0 : Hp} : ∀ (k i fuel : Nat) (σ : Hp), i + k = n → k < fuel → (∀ a j, a ≠ q → σ a j = σ0 a j) → (∀ j, j < i → σ q j = v) → ∃ σ', f_J7_fill_53178_5 q n fuel σ v (nI i) (nI n) = some ((), σ') ∧ (∀ a j, a ≠ q → σ' a j = σ0 a j) ∧ (∀ j, j < n → σ' q j = v) := by
  intro k
  induction k with
  | zero =>
    intro i fuel σ hi hf h1 h2
    obtain ⟨f, rfl⟩ : ∃ f, fuel = f + 1 := ⟨fuel - 1, by omega⟩
    have : i = n := by omega
    subst this
    simp only [f_J7_fill_53178_5]
    rw [if_pos (nI_le (Nat.le_refl _) (by omega))]
    exact ⟨σ, rfl, h1, h2⟩
  | succ k ih =>
    intro i fuel σ hi hf h1 h2
    obtain ⟨f, rfl⟩ : ∃ f, fuel = f + 1 := ⟨fuel - 1, by omega⟩
    simp only [f_J7_fill_53178_5, Lt]
    rw [if_neg (nI_ge (show i < n by omega) (by omega)), ck_ok _ (show i < n by omega) (by omega), ix_nI (by omega), ni_add1]
    refine ih (i + 1) f _ (by omega) (by omega) (fun a j h => by rw [wr_ne (by omega)]; exact h1 a j h) (fun j hj => ?_)
    by_cases e : j = i
    · subst e; rw [wr_eq]
    · rw [wr_ne (by omega)]; exact h2 j (by omega)
theorem fill_ok {q n : Nat} (hn : n < 100) (v : Int32) (σ : Hp) : ∃ σ', f_J7_fill_53178 σ q n v = some ((), σ') ∧ (∀ a j, a ≠ q → σ' a j = σ a j) ∧ (∀ j, j < n → σ' q j = v) := fill_loop hn v n 0 FU σ (by omega) (FU_big (by omega)) (fun _ _ _ => rfl) (fun j hj => absurd hj (Nat.not_lt_zero j))
def FrD (σ σ' : Hp) : Prop := ∀ a i, (a < 3 ∨ 9 < a ∨ a = 6) → σ' a i = σ a i
theorem nxt_b {B : Nat → Nat} {len lo hi : Nat} {st : Nat ⊕ Nat} (h : hi < 200) : (nxt B len lo hi st).2 < 200 := by
  cases st with
  | inl q => show 0 < 200; decide
  | inr p =>
    by_cases q : dg B len p lo hi = true
    · rw [nxt_t q]; have := dg_iff.mp q; show B p - lo < 200; omega
    · rw [nxt_f (by simpa using q)]; exact (by decide : 0 < 200)
theorem read_ok {σ : Hp} {B : Nat → Nat} {len : Nat} (hT : Tx σ B len) : ∃ σ', f_X3_read σ = some (resI (rd B len), σ') ∧ FrD σ σ' ∧ (∀ y, rd B len = .inr y → CDr σ' y ∧ WFd y ∧ σ' 4 2 = nI (hB B len).2 ∧ σ' 4 3 = nI (hLim B len)) ∧ (∀ q, rd B len = .inl q → q ≤ 48) := by
  obtain ⟨σ1, a1, a2, a3⟩ := fill_ok (q := 5) (n := 5) (by decide) (-9) (wr (wr σ 3 3 0) 3 4 (-9))
  have hcl : f_X2_clear (wr (wr σ 3 3 0) 3 4 (-9)) 4 = some ((), wr (wr (wr σ1 4 1 0) 4 2 0) 4 3 1) := by
    simp only [f_X2_clear, Lt]
    rw [bd_ok (show f_J7_fill_53178 (wr (wr σ 3 3 0) 3 4 (-9)) (4 + 1) 5 (-9) = _ from a1)]
  have f1 : ∀ a j, a ≠ 5 → a ≠ 4 → a ≠ 3 → (wr (wr (wr σ1 4 1 0) 4 2 0) 4 3 1) a j = σ a j := fun a j q1 q2 q3 => by
    rw [wr_ne (by omega), wr_ne (by omega), wr_ne (by omega), a2 a j q1, wr_ne (by omega), wr_ne (by omega)]
  have S0 : Sta (wr (wr (wr σ1 4 1 0) 4 2 0) 4 3 1) len (.inr 0) := ⟨by omega, by rw [wr_ne (by omega), wr_ne (by omega), wr_ne (by omega), a2 3 3 (by omega), wr_ne (by omega), wr_eq]; rfl, by rw [wr_ne (by omega), wr_ne (by omega), wr_ne (by omega), a2 3 4 (by omega), wr_eq]⟩
  obtain ⟨σ2, b1, b2, b3⟩ := next_abs (lo := 70) (hi := 70) (Tx_fr hT (fun a i q => f1 a i (by omega) (by omega) (by omega))) S0 (by decide) (by decide)
  have T2 : Tx σ2 B len := Tx_fr hT (fun a i q => (b3 a i (by omega)).trans (f1 a i (by omega) (by omega) (by omega)))
  obtain ⟨σ3, c1, c2, c3⟩ := next_abs (lo := 48) (hi := 53) T2 b2 (by decide) (by decide)
  have T3 : Tx (wr σ3 4 2 (nI (hB B len).2)) B len := Tx_fr T2 (fun a i q => (wr_ne (by omega)).trans (c3 a i (by omega)))
  obtain ⟨σ4, d1, d2, d3⟩ := next_abs (lo := 48) (hi := 57) T3 (Sta_fr c2 (fun i => wr_ne (by omega))) (by decide) (by decide)
  have T4 : Tx σ4 B len := Tx_fr T3 (fun a i q => d3 a i (by omega))
  obtain ⟨σ5, e1, e2, e3⟩ := next_abs (lo := if (hC B len).2 = 0 then 49 else 48) (hi := 57) T4 d2 (by split <;> decide) (by decide)
  have b1' : f_X3_next (wr (wr (wr σ1 4 1 0) 4 2 0) 4 3 1) (70 : Int32) (70 : Int32) = some (nI (hA B len).2, σ2) := b1
  have c1' : f_X3_next σ2 (48 : Int32) (53 : Int32) = some (nI (hB B len).2, σ3) := c1
  have d1' : f_X3_next (wr σ3 4 2 (nI (hB B len).2)) (48 : Int32) (57 : Int32) = some (nI (hC B len).2, σ4) := d1
  have hC200 : (hC B len).2 < 200 := nxt_b (by decide)
  have head : f_X3_readHead (wr (wr (wr σ1 4 1 0) 4 2 0) 4 3 1) = some ((), wr σ5 4 3 (nI (hLim B len))) := by
    simp only [f_X3_readHead, f_X3_readHead_45, f_X3_readHead_70, Lt]
    rw [bd_ok b1', bd_ok c1', bd_ok d1']
    have hz : (nI (hC B len).2 = 0) = ((hC B len).2 = 0) := ni_eq (b := 0) (by omega) (by decide)
    simp only [hz]
    have e10 : (10 : Int32) * nI (hC B len).2 = nI (10 * (hC B len).2) := pk_mul 10 _
    by_cases q : (hC B len).2 = 0
    · have e1' : f_X3_next σ4 (49 : Int32) (57 : Int32) = some (nI (hD B len).2, σ5) := by
        rw [if_pos q] at e1
        have h2 : (hD B len).2 = (nxt B len 49 57 (hC B len).1).2 := by unfold hD; rw [if_pos q]
        rw [h2]; exact e1
      rw [if_pos q, bd_ok e1', if_pos q, e10, ni_add1, nI_add]
      congr 2; unfold hLim; rw [if_pos q]
    · have e1' : f_X3_next σ4 (48 : Int32) (57 : Int32) = some (nI (hD B len).2, σ5) := by
        rw [if_neg q] at e1
        have h2 : (hD B len).2 = (nxt B len 48 57 (hC B len).1).2 := by unfold hD; rw [if_neg q]
        rw [h2]; exact e1
      rw [if_neg q, bd_ok e1', if_neg q, e10, nI_add]
      congr 2; unfold hLim; rw [if_neg q]
  have S6 : Sta (wr σ5 4 3 (nI (hLim B len))) len (hD B len).1 := Sta_fr (show Sta σ5 len (hD B len).1 from e2) (fun i => wr_ne (by omega))
  have T6 : Tx (wr σ5 4 3 (nI (hLim B len))) B len := Tx_fr T4 (fun a i q => (wr_ne (by omega)).trans (e3 a i (by omega)))
  have g6 : ∀ a j, a ≠ 3 → ¬ (a = 4 ∧ (j = 2 ∨ j = 3)) → (wr σ5 4 3 (nI (hLim B len))) a j = (wr (wr (wr σ1 4 1 0) 4 2 0) 4 3 1) a j := fun a j q1 q2 => by
    rw [wr_ne (by omega), e3 a j (by omega), d3 a j (by omega), wr_ne (by omega), c3 a j (by omega), b3 a j (by omega)]
  have D6 : CDr (wr σ5 4 3 (nI (hLim B len))) x0 := ⟨by rw [g6 4 1 (by omega) (by omega), wr_ne (by omega), wr_ne (by omega), wr_eq]; rfl, fun g hg => absurd hg (Nat.not_lt_zero g), fun g hg => by rw [g6 5 g (by omega) (by omega), wr_ne (by omega), wr_ne (by omega), wr_ne (by omega), a3 g hg]; rfl⟩
  have k2 : (wr σ5 4 3 (nI (hLim B len))) 4 2 = nI (hB B len).2 := by
    rw [wr_ne (by omega), e3 4 2 (by omega), d3 4 2 (by omega), wr_eq]
  have W0 : WFd x0 := ⟨by decide, fun g k h => (by cases h), fun g hg => absurd hg (Nat.not_lt_zero g)⟩
  have FD : FrD σ (wr σ5 4 3 (nI (hLim B len))) := fun a i q => (g6 a i (by omega) (by omega)).trans (f1 a i (by omega) (by omega) (by omega))
  simp only [f_X3_read, Lt]
  rw [bd_ok hcl, bd_ok head]
  unfold rd
  cases hst : (hD B len).1 with
  | inl q =>
    rw [hst] at S6
    obtain ⟨f, hf⟩ : ∃ f, FU = f + 1 := ⟨99999, rfl⟩
    rw [hf]
    simp only [f_X3_read_24, f_X3_read_63]
    rw [if_neg (show ¬ (48 : Int32) ≤ 0 by decide), if_neg (by rw [S6.2]; exact m9_q q S6.1), S6.2]
    exact ⟨_, rfl, FD, fun y w => (by cases w), fun q' w => (by cases w; exact S6.1)⟩
  | inr p =>
    rw [hst] at S6
    obtain ⟨σ7, m1, m2, m3, m4⟩ := read_loop T6 49 0 p FU (wr σ5 4 3 (nI (hLim B len))) x0 (fun _ _ _ _ _ _ _ _ => rfl) S6 D6 W0 (by omega) (by have := hT.1; omega) (FU_big (by omega))
    refine ⟨σ7, m1, fun a i q => (m2 a i (by omega) (by omega) (by omega) (by omega) (by omega) (by omega)).trans (FD a i q), fun y w => ⟨(m3 y w).1, (m3 y w).2, ?_, ?_⟩, m4⟩
    · rw [m2 4 2 (by omega) (by omega) (by omega) (by omega) (by omega) (by omega)]; exact k2
    · rw [m2 4 3 (by omega) (by omega) (by omega) (by omega) (by omega) (by omega), wr_eq]
