/-! the text read, as a function of its bytes -/
def dg (B : Nat → Nat) (len p lo hi : Nat) : Bool := decide (p < len ∧ lo ≤ B p ∧ B p ≤ hi)
def nxt (B : Nat → Nat) (len lo hi : Nat) : Nat ⊕ Nat → (Nat ⊕ Nat) × Nat
  | .inl q => (.inl q, 0)
  | .inr p => if dg B len p lo hi = true then (.inr (p + 1), B p - lo) else (.inl p, 0)
def ntw (B : Nat → Nat) (len n : Nat) (tw : Nat → Option Nat) (other : Option Nat) : Nat ⊕ Nat → (Nat ⊕ Nat) × Nat
  | .inl q => (.inl q, 0)
  | .inr p => if dg B len p 48 57 = true then (if B p - 48 < n ∧ tw (B p - 48) = none ∧ other ≠ some (B p - 48) then (.inr (p + 1), B p - 48) else (.inl p, B p - 48)) else (.inl p, 0)
abbrev Dr : Type := Nat × (Nat → Nat) × (Nat → Nat) × (Nat → Nat) × (Nat → Option Nat)
def sgl (n : Nat) (tw : Nat → Option Nat) : Nat := cnt n (fun g => decide (tw g = none))
def gA (B : Nat → Nat) (len : Nat) (st : Nat ⊕ Nat) : (Nat ⊕ Nat) × Nat := nxt B len 48 57 st
def gB (B : Nat → Nat) (len : Nat) (st : Nat ⊕ Nat) : (Nat ⊕ Nat) × Nat := nxt B len 48 57 (gA B len st).1
def gC (B : Nat → Nat) (len : Nat) (st : Nat ⊕ Nat) : (Nat ⊕ Nat) × Nat := nxt B len 48 57 (gB B len st).1
def gD (B : Nat → Nat) (len : Nat) (st : Nat ⊕ Nat) : (Nat ⊕ Nat) × Nat := nxt B len 48 57 (gC B len st).1
def rdG (B : Nat → Nat) (len : Nat) (st : Nat ⊕ Nat) (x : Dr) : (Nat ⊕ Nat) × Dr := ((gD B len st).1, (x.1 + 1, va_up x.2.1 x.1 (10 * (gA B len st).2 + (gB B len st).2), va_up x.2.2.1 x.1 (gC B len st).2, va_up x.2.2.2.1 x.1 (gD B len st).2, x.2.2.2.2))
def tA (B : Nat → Nat) (len : Nat) (st : Nat ⊕ Nat) (x : Dr) : (Nat ⊕ Nat) × Nat := ntw B len x.1 x.2.2.2.2 none st
def tB (B : Nat → Nat) (len : Nat) (st : Nat ⊕ Nat) (x : Dr) : (Nat ⊕ Nat) × Nat := ntw B len x.1 x.2.2.2.2 (some (tA B len st x).2) (tA B len st x).1
def rdT (B : Nat → Nat) (len : Nat) (st : Nat ⊕ Nat) (x : Dr) : (Nat ⊕ Nat) × Dr := ((tB B len st x).1, (x.1, x.2.1, x.2.2.1, x.2.2.2.1, va_up (va_up x.2.2.2.2 (tA B len st x).2 (some (tB B len st x).2)) (tB B len st x).2 (some (tA B len st x).2)))
def rdP (B : Nat → Nat) (len p : Nat) (x : Dr) : (Nat ⊕ Nat) × Dr := if B p = 71 ∧ x.1 < 5 then rdG B len (.inr (p + 1)) x else if B p = 84 ∧ 2 ≤ sgl x.1 x.2.2.2.2 then rdT B len (.inr (p + 1)) x else (.inl p, x)
def cont (f : Nat → Nat ⊕ Dr) : Nat ⊕ Nat → Nat ⊕ Dr
  | .inl q => .inl q
  | .inr p => f p
def rdL (B : Nat → Nat) (len : Nat) : Nat → Nat → Dr → Nat ⊕ Dr
  | 0, _, _ => .inl 0
  | k + 1, p, x => if len ≤ p then .inr x else cont (fun p' => rdL B len k p' (rdP B len p x).2) (rdP B len p x).1
theorem nxt_t {B : Nat → Nat} {len lo hi p : Nat} (h : dg B len p lo hi = true) : nxt B len lo hi (.inr p) = (.inr (p + 1), B p - lo) := by rw [nxt, if_pos h]
theorem nxt_f {B : Nat → Nat} {len lo hi p : Nat} (h : dg B len p lo hi = false) : nxt B len lo hi (.inr p) = (.inl p, 0) := by rw [nxt, if_neg (by rw [h]; decide)]
theorem nxt_l {B : Nat → Nat} {len lo hi q : Nat} : nxt B len lo hi (.inl q) = (.inl q, 0) := rfl
theorem dg_iff {B : Nat → Nat} {len p lo hi : Nat} : dg B len p lo hi = true ↔ p < len ∧ lo ≤ B p ∧ B p ≤ hi := by unfold dg; rw [decide_eq_true_eq]
theorem nxt_inr {B : Nat → Nat} {len lo hi p' : Nat} {st : Nat ⊕ Nat} (h : (nxt B len lo hi st).1 = .inr p') : ∃ p, st = .inr p ∧ p' = p + 1 ∧ p < len ∧ (nxt B len lo hi st).2 ≤ hi - lo := by
  cases st with
  | inl q => cases h
  | inr p =>
    by_cases q : dg B len p lo hi = true
    · rw [nxt_t q] at h ⊢
      have := dg_iff.mp q
      cases h
      exact ⟨p, rfl, rfl, this.1, by show B p - lo ≤ hi - lo; omega⟩
    · rw [nxt_f (by simpa using q)] at h; cases h
def WFd (x : Dr) : Prop := x.1 ≤ 5 ∧ TwOK x.1 x.2.2.2.2 ∧ BN x.1 x.2.1 x.2.2.1 x.2.2.2.1
theorem ntw_inr {B : Nat → Nat} {len n p' : Nat} {tw : Nat → Option Nat} {o : Option Nat} {st : Nat ⊕ Nat} (h : (ntw B len n tw o st).1 = .inr p') : ∃ p, st = .inr p ∧ p' = p + 1 ∧ p < len ∧ (ntw B len n tw o st).2 < n ∧ tw (ntw B len n tw o st).2 = none ∧ o ≠ some (ntw B len n tw o st).2 := by
  cases st with
  | inl q => cases h
  | inr p =>
    unfold ntw at h ⊢
    simp only at h ⊢
    by_cases q : dg B len p 48 57 = true
    · rw [if_pos q] at h ⊢
      by_cases q2 : B p - 48 < n ∧ tw (B p - 48) = none ∧ o ≠ some (B p - 48)
      · rw [if_pos q2] at h ⊢
        cases h
        exact ⟨p, rfl, rfl, (dg_iff.mp q).1, q2.1, q2.2.1, q2.2.2⟩
      · rw [if_neg q2] at h; cases h
    · rw [if_neg q] at h; cases h
theorem rdG_wf {B : Nat → Nat} {len p p' : Nat} {x : Dr} (hx : WFd x) (hn : x.1 < 5) (h : (rdG B len (.inr p) x).1 = .inr p') : WFd (rdG B len (.inr p) x).2 ∧ p < p' ∧ p' ≤ len := by
  obtain ⟨p3, e3, e3', l3, v3⟩ := nxt_inr (st := (gC B len (.inr p)).1) h
  obtain ⟨p2, e2, e2', l2, v2⟩ := nxt_inr (st := (gB B len (.inr p)).1) e3
  obtain ⟨p1, e1, e1', l1, v1⟩ := nxt_inr (st := (gA B len (.inr p)).1) e2
  obtain ⟨p0, e0, e0', l0, v0⟩ := nxt_inr (st := .inr p) e1
  cases e0
  obtain ⟨h1, h2, h3⟩ := hx
  refine ⟨⟨by show x.1 + 1 ≤ 5; omega, ?_, ?_⟩, by omega, by omega⟩
  · intro g k hk
    obtain ⟨q1, q2, q3, q4⟩ := h2 g k hk
    exact ⟨by show g < x.1 + 1; omega, by show k < x.1 + 1; omega, q3, q4⟩
  · intro g hg
    have hg' : g < x.1 + 1 := hg
    show va_up x.2.1 x.1 (10 * (gA B len (.inr p)).2 + (gB B len (.inr p)).2) g ≤ 99 ∧ va_up x.2.2.1 x.1 (gC B len (.inr p)).2 g ≤ 9 ∧ va_up x.2.2.2.1 x.1 (gD B len (.inr p)).2 g ≤ 9
    rw [va_up_at, va_up_at, va_up_at]
    by_cases e : g = x.1
    · rw [if_pos e, if_pos e, if_pos e]
      have w0 : (gA B len (.inr p)).2 ≤ 9 := v0
      have w1 : (gB B len (.inr p)).2 ≤ 9 := v1
      have w2 : (gC B len (.inr p)).2 ≤ 9 := v2
      have w3 : (gD B len (.inr p)).2 ≤ 9 := v3
      omega
    · rw [if_neg e, if_neg e, if_neg e]; exact h3 g (by omega)
theorem rdT_wf {B : Nat → Nat} {len p p' : Nat} {x : Dr} (hx : WFd x) (h : (rdT B len (.inr p) x).1 = .inr p') : WFd (rdT B len (.inr p) x).2 ∧ p < p' ∧ p' ≤ len ∧ (tA B len (.inr p) x).2 < x.1 ∧ (tB B len (.inr p) x).2 < x.1 := by
  obtain ⟨p1, e1, e1', l1, v1, w1, u1⟩ := ntw_inr (st := (tA B len (.inr p) x).1) h
  obtain ⟨p0, e0, e0', l0, v0, w0, u0⟩ := ntw_inr (st := .inr p) e1
  cases e0
  have v1' : (tB B len (.inr p) x).2 < x.1 := v1
  have w1' : x.2.2.2.2 (tB B len (.inr p) x).2 = none := w1
  have u1' : (tA B len (.inr p) x).2 ≠ (tB B len (.inr p) x).2 := fun w => u1 (congrArg some w)
  have v0' : (tA B len (.inr p) x).2 < x.1 := v0
  have w0' : x.2.2.2.2 (tA B len (.inr p) x).2 = none := w0
  obtain ⟨h1, h2, h3⟩ := hx
  refine ⟨⟨h1, ?_, h3⟩, by omega, by omega, v0', v1'⟩
  show TwOK x.1 (va_up (va_up x.2.2.2.2 (tA B len (.inr p) x).2 (some (tB B len (.inr p) x).2)) (tB B len (.inr p) x).2 (some (tA B len (.inr p) x).2))
  generalize (tA B len (.inr p) x).2 = a at *
  generalize (tB B len (.inr p) x).2 = b at *
  intro g k hk
  rw [va_up_at, va_up_at] at hk
  by_cases eb : g = b
  · rw [if_pos eb] at hk
    cases hk
    subst eb
    exact ⟨v1', v0', u1', by rw [va_up_at, va_up_at, if_neg u1', if_pos rfl]⟩
  · rw [if_neg eb] at hk
    by_cases ea : g = a
    · rw [if_pos ea] at hk
      cases hk
      subst ea
      exact ⟨v0', v1', fun w => u1' w.symm, by rw [va_up_at, if_pos rfl]⟩
    · rw [if_neg ea] at hk
      obtain ⟨q1, q2, q3, q4⟩ := h2 g k hk
      have ka : k ≠ a := fun w => by rw [w, w0'] at q4; cases q4
      have kb : k ≠ b := fun w => by rw [w, w1'] at q4; cases q4
      exact ⟨q1, q2, q3, by rw [va_up_at, va_up_at, if_neg kb, if_neg ka]; exact q4⟩
theorem rdP_wf {B : Nat → Nat} {len p p' : Nat} {x : Dr} (hx : WFd x) (h : (rdP B len p x).1 = .inr p') : WFd (rdP B len p x).2 ∧ p < p' ∧ p' ≤ len := by
  unfold rdP at h ⊢
  by_cases q1 : B p = 71 ∧ x.1 < 5
  · rw [if_pos q1] at h ⊢
    obtain ⟨w1, w2, w3⟩ := rdG_wf hx q1.2 h
    exact ⟨w1, by omega, w3⟩
  · rw [if_neg q1] at h ⊢
    by_cases q2 : B p = 84 ∧ 2 ≤ sgl x.1 x.2.2.2.2
    · rw [if_pos q2] at h ⊢
      obtain ⟨w1, w2, w3, -⟩ := rdT_wf hx h
      exact ⟨w1, by omega, w3⟩
    · rw [if_neg q2] at h; cases h
/-! the class -/
theorem sx_lo : ∀ c, c < 128 → sx c = nI c := by decide +kernel
theorem sx_hi : ∀ c, c < 256 → 128 ≤ c → sx c < 0 := by decide +kernel
theorem m9_q : ∀ q, q ≤ 48 → ¬ nI q = (-9 : Int32) := by decide +kernel
theorem sx_eq {c k : Nat} (hc : c < 256) (hk : k < 128) : (sx c = nI k) = (c = k) := by
  apply propext
  by_cases h : c < 128
  · rw [sx_lo c h, nI_eq (by omega) (by omega)]
  · constructor
    · intro w
      have := sx_hi c hc (by omega)
      rw [w] at this
      exact absurd this (nI_pos (by omega))
    · intro w; omega
def Tx (σ : Hp) (B : Nat → Nat) (len : Nat) : Prop := len ≤ 48 ∧ σ 1 1 = nI len ∧ ∀ j, j < len → B j < 256 ∧ σ 2 j = sx (B j)
theorem Tx_fr {σ σ' : Hp} {B : Nat → Nat} {len : Nat} (h : Tx σ B len) (f : ∀ a i, a = 1 ∨ a = 2 → σ' a i = σ a i) : Tx σ' B len := ⟨h.1, by rw [f _ _ (by omega)]; exact h.2.1, fun j hj => by rw [f _ _ (by omega)]; exact h.2.2 j hj⟩
def Sta (σ : Hp) (len : Nat) : Nat ⊕ Nat → Prop
  | .inl q => q ≤ 48 ∧ σ 3 4 = nI q
  | .inr p => p ≤ len ∧ σ 3 3 = nI p ∧ σ 3 4 = -9
theorem Sta_fr {σ σ' : Hp} {len : Nat} {st : Nat ⊕ Nat} (h : Sta σ len st) (f : ∀ i, σ' 3 i = σ 3 i) : Sta σ' len st := by
  cases st with
  | inl q => exact ⟨h.1, by rw [f]; exact h.2⟩
  | inr p => exact ⟨h.1, by rw [f]; exact h.2.1, by rw [f]; exact h.2.2⟩
def Fr3 (σ σ' : Hp) : Prop := ∀ a i, ¬ (a = 3 ∧ (i = 3 ∨ i = 4)) → σ' a i = σ a i
theorem next_abs {σ : Hp} {B : Nat → Nat} {len lo hi : Nat} {st : Nat ⊕ Nat} (hT : Tx σ B len) (hS : Sta σ len st) (hlo : lo < 128) (hhi : hi < 128) : ∃ σ', f_X3_next σ (nI lo) (nI hi) = some (nI (nxt B len lo hi st).2, σ') ∧ Sta σ' len (nxt B len lo hi st).1 ∧ Fr3 σ σ' := by
  obtain ⟨hl, h1, h2⟩ := hT
  cases st with
  | inl q =>
    refine ⟨σ, ?_, hS, fun _ _ _ => rfl⟩
    simp only [f_X3_next]
    rw [if_neg (by rw [hS.2]; exact m9_q q hS.1)]; rfl
  | inr p =>
    obtain ⟨s1, s2, s3⟩ := hS
    have bad : dg B len p lo hi = false → ∀ v : Int32, v = nI p → ∃ σ', some ((0 : Int32), wr σ 3 4 v) = some (nI (nxt B len lo hi (.inr p)).2, σ') ∧ Sta σ' len (nxt B len lo hi (.inr p)).1 ∧ Fr3 σ σ' := by
      intro hd v hv
      rw [nxt_f hd]
      exact ⟨_, rfl, ⟨by omega, by rw [wr_eq, hv]⟩, fun a i q => wr_ne (by omega)⟩
    simp only [f_X3_next, f_X3_next_61, Lt]
    rw [if_pos s3, s2, h1]
    by_cases hp : p < len
    · obtain ⟨b1, b2⟩ := h2 p hp
      rw [if_pos (nI_lt hp (by omega)), ck_ok _ (by omega) (by decide), ix_nI (by omega), b2]
      by_cases hb : B p < 128
      · rw [sx_lo _ hb]
        by_cases q1 : B p < lo
        · rw [if_pos (nI_lt q1 (by omega))]
          exact bad (by unfold dg; exact decide_eq_false (fun w => by omega)) _ rfl
        · rw [if_neg (nI_nlt (by omega) (by omega))]
          by_cases q2 : B p ≤ hi
          · have hd : dg B len p lo hi = true := dg_iff.mpr ⟨hp, by omega, q2⟩
            rw [if_pos (nI_le q2 (by omega)), nxt_t hd, pk_sub (by omega), ni_add1]
            exact ⟨_, rfl, ⟨by omega, by rw [wr_eq], by rw [wr_ne (by omega)]; exact s3⟩, fun a i q => wr_ne (by omega)⟩
          · rw [if_neg (nI_ge (by omega) (by omega))]
            exact bad (by unfold dg; exact decide_eq_false (fun w => by omega)) _ rfl
      · have hneg := sx_hi _ b1 (by omega)
        have hlt : sx (B p) < nI lo := by
          rw [Int32.lt_iff_toInt_lt] at hneg ⊢
          rw [nI_toInt (by omega)]
          have z : (0 : Int32).toInt = 0 := rfl
          omega
        rw [if_pos hlt]
        exact bad (by unfold dg; exact decide_eq_false (fun w => by omega)) _ rfl
    · rw [if_neg (nI_nlt (by omega) (by omega))]
      exact bad (by unfold dg; exact decide_eq_false (fun w => by omega)) _ (by rw [show len = p by omega])
theorem readGuard_abs {σ : Hp} {B : Nat → Nat} {len n : Nat} {st : Nat ⊕ Nat} (hT : Tx σ B len) (hS : Sta σ len st) (hn : n < 5) (h4 : σ 4 1 = nI n) : ∃ σ', f_X3_readGuard σ = some ((), σ') ∧ Sta σ' len (gD B len st).1 ∧ σ' 4 1 = nI (n + 1) ∧ σ' 7 n = nI (10 * (gA B len st).2 + (gB B len st).2) ∧ σ' 8 n = nI (gC B len st).2 ∧ σ' 9 n = nI (gD B len st).2 ∧ ∀ a i, ¬ (a = 3 ∧ (i = 3 ∨ i = 4)) → ¬ (a = 4 ∧ i = 1) → ¬ ((a = 7 ∨ a = 8 ∨ a = 9) ∧ i = n) → σ' a i = σ a i := by
  obtain ⟨σ1, e1, s1, f1⟩ := next_abs (lo := 48) (hi := 57) hT hS (by decide) (by decide)
  obtain ⟨σ2, e2, s2, f2⟩ := next_abs (lo := 48) (hi := 57) (Tx_fr hT (fun a i q => f1 a i (by omega))) s1 (by decide) (by decide)
  have t2 : ∀ a i, ¬ (a = 3 ∧ (i = 3 ∨ i = 4)) → σ2 a i = σ a i := fun a i q => (f2 a i q).trans (f1 a i q)
  obtain ⟨σ3, e3, s3, f3⟩ := next_abs (σ := wr σ2 7 n (nI (10 * (gA B len st).2 + (gB B len st).2))) (lo := 48) (hi := 57) (Tx_fr hT (fun a i q => (wr_ne (by omega)).trans (t2 a i (by omega)))) (Sta_fr s2 (fun i => wr_ne (by omega))) (by decide) (by decide)
  obtain ⟨σ4, e4, s4, f4⟩ := next_abs (σ := wr σ3 8 n (nI (gC B len st).2)) (lo := 48) (hi := 57) (Tx_fr hT (fun a i q => (wr_ne (by omega)).trans ((f3 a i (by omega)).trans ((wr_ne (by omega)).trans (t2 a i (by omega)))))) (Sta_fr s3 (fun i => wr_ne (by omega))) (by decide) (by decide)
  have e10 : (10 : Int32) * nI (gA B len st).2 + nI (gB B len st).2 = nI (10 * (gA B len st).2 + (gB B len st).2) := by
    rw [show (10 : Int32) * nI (gA B len st).2 = nI (10 * (gA B len st).2) from pk_mul 10 _, nI_add]
  refine ⟨wr (wr σ4 9 n (nI (gD B len st).2)) 4 1 (nI (n + 1)), ?_, Sta_fr s4 (fun i => (wr_ne (by omega)).trans (wr_ne (by omega))), by rw [wr_eq], ?_, ?_, ?_, ?_⟩
  · simp only [f_X3_readGuard, Lt]
    rw [h4, bd_ok (show f_X3_next σ (48 : Int32) (57 : Int32) = some (nI (gA B len st).2, σ1) from e1), bd_ok (show f_X3_next σ1 (48 : Int32) (57 : Int32) = some (nI (gB B len st).2, σ2) from e2), ck_ok _ hn (by decide), ix_nI (by omega), e10]
    rw [bd_ok (show f_X3_next (wr σ2 7 n (nI (10 * (gA B len st).2 + (gB B len st).2))) (48 : Int32) (57 : Int32) = some (nI (gC B len st).2, σ3) from e3), ck_ok _ hn (by decide)]
    rw [bd_ok (show f_X3_next (wr σ3 8 n (nI (gC B len st).2)) (48 : Int32) (57 : Int32) = some (nI (gD B len st).2, σ4) from e4), ck_ok _ hn (by decide), ni_add1]
  · rw [wr_ne (by omega), wr_ne (by omega), f4 _ _ (by omega), wr_ne (by omega), f3 _ _ (by omega), wr_eq]
  · rw [wr_ne (by omega), wr_ne (by omega), f4 _ _ (by omega), wr_eq]
  · rw [wr_ne (by omega), wr_eq]
  · intro a i q1 q2 q3
    rw [wr_ne q2, wr_ne (by omega), f4 a i q1, wr_ne (by omega), f3 a i q1, wr_ne (by omega), t2 a i q1]
theorem m9_9 : ∀ q, q ≤ 256 → ¬ nI q = (-9 : Int32) := by decide +kernel
theorem nextTwin_abs {σ : Hp} {B : Nat → Nat} {len n : Nat} {tw : Nat → Option Nat} {st : Nat ⊕ Nat} (hT : Tx σ B len) (hS : Sta σ len st) (hn : n ≤ 5) (h4 : σ 4 1 = nI n) (h5 : ∀ g, g < 5 → σ 5 g = twI (tw g)) (htw : TwOK n tw) (o : Option Nat) (a1 : Int32) (ha : ∀ v, v < 5 → ((nI v = a1) = (o = some v))) : ∃ σ', f_X3_nextTwin σ a1 = some (nI (ntw B len n tw o st).2, σ') ∧ Sta σ' len (ntw B len n tw o st).1 ∧ Fr3 σ σ' := by
  obtain ⟨σ1, e1, s1, f1⟩ := next_abs (lo := 48) (hi := 57) hT hS (by decide) (by decide)
  simp only [f_X3_nextTwin, Lt]
  rw [bd_ok (show f_X3_next σ (48 : Int32) (57 : Int32) = _ from e1)]
  cases st with
  | inl q =>
    have s1' : σ1 3 4 = nI q := s1.2
    rw [if_neg (by rw [s1']; exact m9_q q hS.1)]
    exact ⟨σ1, rfl, s1, f1⟩
  | inr p =>
    obtain ⟨t1, t2, t3⟩ := hS
    by_cases hd : dg B len p 48 57 = true
    · rw [nxt_t hd] at s1 ⊢
      have hb := dg_iff.mp hd
      obtain ⟨w1, w2, w3⟩ := s1
      have w3' : σ1 3 4 = -9 := w3
      rw [if_pos w3', t2]
      have r4 : σ1 4 1 = nI n := (f1 4 1 (by omega)).trans h4
      have fin : (¬ (B p - 48 < n ∧ tw (B p - 48) = none ∧ o ≠ some (B p - 48))) → ∃ σ', f_X3_nextTwin_53 σ1 (nI p) (nI (B p - 48)) = some (nI (ntw B len n tw o (.inr p)).2, σ') ∧ Sta σ' len (ntw B len n tw o (.inr p)).1 ∧ Fr3 σ σ' := by
        intro hc
        have : ntw B len n tw o (.inr p) = (.inl p, B p - 48) := by rw [ntw, if_pos hd, if_neg hc]
        rw [this]
        simp only [f_X3_nextTwin_53, Lt]
        exact ⟨_, rfl, ⟨by have := hT.1; omega, by rw [wr_eq]⟩, fun a i q => by rw [wr_ne (by omega)]; exact f1 a i q⟩
      show ∃ σ', bd (f_X2_has σ1 4 (nI (B p - 48))) _ = _ ∧ _
      by_cases hv : B p - 48 < n
      · rw [bd_ok (has2_in hn r4 hv), if_neg (by decide), ck_ok _ (show B p - 48 < 5 by omega) (by decide), ix_nI (by omega), f1 5 _ (by omega), h5 _ (by omega)]
        have tn : (twI (tw (B p - 48)) = (-9 : Int32)) = (tw (B p - 48) = none) := by
          apply propext
          cases hh : tw (B p - 48) with
          | none => simp [twI_none]
          | some k =>
            rw [twI_some]
            have := htw _ _ hh
            simp [m9_ne k (by omega)]
        simp only [tn, ha (B p - 48) (by omega)]
        by_cases c1 : tw (B p - 48) = none
        · rw [if_pos c1]
          by_cases c2 : o = some (B p - 48)
          · rw [if_pos c2]; exact fin (fun w => w.2.2 c2)
          · rw [if_neg c2]
            have : ntw B len n tw o (.inr p) = (.inr (p + 1), B p - 48) := by rw [ntw, if_pos hd, if_pos ⟨hv, c1, c2⟩]
            rw [this]
            exact ⟨σ1, rfl, ⟨w1, w2, w3⟩, f1⟩
        · rw [if_neg c1]; exact fin (fun w => c1 w.2.1)
      · rw [bd_ok (has2_out r4 (Or.inr (nI_le (by omega) (by omega)))), if_pos rfl]
        exact fin (fun w => hv w.1)
    · have hd' : dg B len p 48 57 = false := by simpa using hd
      rw [nxt_f hd'] at s1 ⊢
      have s1' : σ1 3 4 = nI p := s1.2
      have : ntw B len n tw o (.inr p) = (.inl p, 0) := by rw [ntw, if_neg hd]
      rw [if_neg (by rw [s1']; exact m9_q p s1.1), this]
      exact ⟨σ1, rfl, s1, f1⟩
