theorem wr_ne {σ : Hp} {k j : Nat} {v : Int32} {a i : Nat} (h : ¬ (a = k ∧ i = j)) : wr σ k j v a i = σ a i := by
  rw [wr_at]
  by_cases e : a = k
  · rw [if_pos e, if_neg (fun q => h ⟨e, q⟩)]
  · rw [if_neg e]
theorem wr_eq (σ : Hp) (k j : Nat) (v : Int32) : wr σ k j v k j = v := by rw [wr_at, if_pos rfl, if_pos rfl]
theorem w_lt (a b : Int32) : (a.toInt64 < b.toInt64) = (a < b) := by
  apply propext
  rw [Int64.lt_iff_toInt_lt, Int32.lt_iff_toInt_lt, Int32.toInt_toInt64, Int32.toInt_toInt64]
theorem in_ok (σ : Hp) (x l h : Int32) : f_X9_in σ x.toInt64 l.toInt64 h.toInt64 = some (b2i (decide (l ≤ x ∧ x ≤ h)), σ) := by
  simp only [f_X9_in]
  have e1 : (lg_cmp x.toInt64 l.toInt64 < 0) = (x < l) := propext (Iff.trans (lg_cmp_lt _ _) (iff_of_eq (w_lt x l)))
  have e2 : (0 < lg_cmp x.toInt64 h.toInt64) = (h < x) := propext (Iff.trans (lg_cmp_gt _ _) (iff_of_eq (w_lt h x)))
  have l1 : ∀ a b : Int32, ¬ a < b ↔ b ≤ a := fun a b => by rw [Int32.lt_iff_toInt_lt, Int32.le_iff_toInt_le]; omega
  by_cases c1 : x < l
  · rw [if_pos (by rw [e1]; exact c1), zr_0]
    have : ¬ (l ≤ x ∧ x ≤ h) := fun q => (l1 x l).mpr q.1 c1
    simp [this, b2i]
  · rw [if_neg (by rw [e1]; exact c1)]
    by_cases c2 : h < x
    · rw [if_pos (by rw [e2]; exact c2), zr_0]
      have : ¬ (l ≤ x ∧ x ≤ h) := fun q => (l1 h x).mpr q.2 c2
      simp [this, b2i]
    · rw [if_neg (by rw [e2]; exact c2), zr_1]
      have : l ≤ x ∧ x ≤ h := ⟨(l1 x l).mp c1, (l1 h x).mp c2⟩
      simp [this, b2i]
/-- a guard there is, or not -/
theorem guard_cases (x : Int32) {n : Nat} (hn : n ≤ 5) : (x < 0 ∨ nI n ≤ x) ∨ ∃ j, j < n ∧ x = nI j := by
  rcases pk_ix x (n := n) (by omega) with h | h | h
  · exact Or.inl (Or.inl h)
  · exact Or.inl (Or.inr h)
  · exact Or.inr h
theorem has2_out {σ : Hp} {c n : Nat} {x : Int32} (h1 : σ c 1 = nI n) (h : x < 0 ∨ nI n ≤ x) : f_X2_has σ c x = some (0, σ) := by
  simp only [f_X2_has]
  by_cases c : x < 0
  · rw [if_pos c, zr_0]
  · rw [if_neg c, h1, if_pos (h.resolve_left c), zr_0]
theorem has2_in {σ : Hp} {c n j : Nat} (hn : n ≤ 5) (h1 : σ c 1 = nI n) (h : j < n) : f_X2_has σ c (nI j) = some (1, σ) := by
  simp only [f_X2_has]
  rw [if_neg (nI_pos (by omega)), h1, if_neg (nI_ge h (by omega)), zr_1]
theorem noG_out {σ : Hp} {n : Nat} {x : Int32} (hn : n ≤ 5) (h1 : σ 134 4 = nI n) (h : x < 0 ∨ nI n ≤ x) : f_X9_noGuard σ x = some (1, σ) := by
  simp only [f_X9_noGuard]
  have e : f_X9_in σ x.toInt64 (0 : Int64) ((σ 134 4 - 1).toInt64) = some (b2i (decide ((0 : Int32) ≤ x ∧ x ≤ σ 134 4 - 1)), σ) := in_ok σ x 0 (σ 134 4 - 1)
  rw [bd_ok e, h1]
  have hneg : ¬ ((0 : Int32) ≤ x ∧ x ≤ nI n - 1) := by
    rintro ⟨q1, q2⟩
    have t1 : (nI n - 1).toInt = (n : Int) - 1 := (by decide +kernel : ∀ n, n ≤ 5 → (nI n - 1).toInt = (n : Int) - 1) n hn
    rw [Int32.le_iff_toInt_le] at q1 q2
    rw [t1] at q2
    have z : (0 : Int32).toInt = 0 := rfl
    rcases h with h | h
    · rw [Int32.lt_iff_toInt_lt] at h; omega
    · rw [Int32.le_iff_toInt_le, nI_toInt (by omega)] at h; omega
  rw [show decide ((0 : Int32) ≤ x ∧ x ≤ nI n - 1) = false from decide_eq_false hneg, b2i_f, if_pos rfl, zr_1]
theorem noG_in {σ : Hp} {n j : Nat} (hn : n ≤ 5) (h1 : σ 134 4 = nI n) (h : j < n) : f_X9_noGuard σ (nI j) = some (0, σ) := by
  simp only [f_X9_noGuard]
  have e : f_X9_in σ (nI j).toInt64 (0 : Int64) ((σ 134 4 - 1).toInt64) = some (b2i (decide ((0 : Int32) ≤ nI j ∧ nI j ≤ σ 134 4 - 1)), σ) := in_ok σ (nI j) 0 (σ 134 4 - 1)
  rw [bd_ok e, h1]
  have hp : (0 : Int32) ≤ nI j ∧ nI j ≤ nI n - 1 := (by decide +kernel : ∀ n, n ≤ 5 → ∀ j, j < n → (0 : Int32) ≤ nI j ∧ nI j ≤ nI n - 1) n hn j h
  rw [show decide ((0 : Int32) ≤ nI j ∧ nI j ≤ nI n - 1) = true from decide_eq_true hp, b2i_t, if_neg (by decide), zr_0]
/-- a set there is, or not -/
theorem set_cases (x : Int32) {n : Nat} (hn : n ≤ 5) : (x < 0 ∨ nI (2 ^ n) ≤ x) ∨ ∃ m, m < 2 ^ n ∧ x = nI m := by
  have : 2 ^ n ≤ 2 ^ 5 := Nat.pow_le_pow_right (by decide) hn
  rcases pk_ix x (n := 2 ^ n) (by omega) with h | h | h
  · exact Or.inl (Or.inl h)
  · exact Or.inl (Or.inr h)
  · exact Or.inr h
theorem hasAll_in {σ : Hp} {c n m : Nat} (hn : n ≤ 5) (h1 : σ c 1 = nI n) (h : m < 2 ^ n) : f_X2_hasAll σ c (nI m) = some (1, σ) := by
  simp only [f_X2_hasAll]
  rw [bd_ok (everyone_ok hn h1), if_pos ((by decide +kernel : ∀ n, n ≤ 5 → ∀ m, m < 2 ^ n → nI m &&& (nI (2 ^ n - 1) ^^^ (-1)) = 0) n hn m h), zr_1]
theorem andn_zero {x : Int32} {n : Nat} (hn : n ≤ 5) (h : x &&& (nI (2 ^ n - 1) ^^^ (-1)) = 0) : x.toBitVec.toNat < 2 ^ n := by
  apply Nat.lt_pow_two_of_testBit
  intro i hi
  by_cases hi32 : i < 32
  · have h2 := congrArg (fun y : Int32 => y.toBitVec.getLsbD i) h
    simp only [Int32.toBitVec_and, Int32.toBitVec_xor, BitVec.getLsbD_and, BitVec.getLsbD_xor] at h2
    have e1 : (nI (2 ^ n - 1)).toBitVec.getLsbD i = false := (by decide +kernel : ∀ n, n ≤ 5 → ∀ i, i < 32 → n ≤ i → (nI (2 ^ n - 1)).toBitVec.getLsbD i = false) n hn i hi32 hi
    have e2 : (-1 : Int32).toBitVec.getLsbD i = true := (by decide +kernel : ∀ i, i < 32 → (-1 : Int32).toBitVec.getLsbD i = true) i hi32
    have e3 : (0 : Int32).toBitVec.getLsbD i = false := (by decide +kernel : ∀ i, i < 32 → (0 : Int32).toBitVec.getLsbD i = false) i hi32
    rw [e1, e2, e3] at h2
    simpa [BitVec.getLsbD] using h2
  · exact Nat.testBit_lt_two_pow (Nat.lt_of_lt_of_le x.toBitVec.isLt (Nat.pow_le_pow_right (by decide) (by omega)))
theorem hasAll_out {σ : Hp} {c n : Nat} {x : Int32} (hn : n ≤ 5) (h1 : σ c 1 = nI n) (h : x < 0 ∨ nI (2 ^ n) ≤ x) : f_X2_hasAll σ c x = some (0, σ) := by
  simp only [f_X2_hasAll]
  have h25 : 2 ^ n ≤ 2 ^ 5 := Nat.pow_le_pow_right (by decide) hn
  rw [bd_ok (everyone_ok hn h1), if_neg, zr_0]
  intro q
  have hl := andn_zero hn q
  have hx : x = nI x.toBitVec.toNat := by
    apply Int32.toBitVec_inj.mp
    show _ = BitVec.ofNat 32 _
    simp
  rcases h with h | h
  · rw [hx] at h; exact nI_pos (by omega) h
  · rw [hx] at h; exact nI_ge hl (by omega) h
theorem noSet_in {σ : Hp} {n m : Nat} (hn : n ≤ 5) (h1 : σ 134 4 = nI n) (h : m < 2 ^ n) : f_X9_noSet σ (nI m) = some (0, σ) := by
  simp only [f_X9_noSet]
  rw [h1, bt_all n hn]
  have e : f_X9_in σ (nI m).toInt64 (0 : Int64) ((nI (2 ^ n - 1)).toInt64) = some (b2i (decide ((0 : Int32) ≤ nI m ∧ nI m ≤ nI (2 ^ n - 1))), σ) := in_ok σ (nI m) 0 _
  have h25 : 2 ^ n ≤ 2 ^ 5 := Nat.pow_le_pow_right (by decide) hn
  rw [bd_ok e, show decide ((0 : Int32) ≤ nI m ∧ nI m ≤ nI (2 ^ n - 1)) = true from decide_eq_true ⟨nI_pos' (by omega), nI_le (by omega) (by omega)⟩, b2i_t, if_neg (by decide), zr_0]
theorem noSet_out {σ : Hp} {n : Nat} {x : Int32} (hn : n ≤ 5) (h1 : σ 134 4 = nI n) (h : x < 0 ∨ nI (2 ^ n) ≤ x) : f_X9_noSet σ x = some (1, σ) := by
  simp only [f_X9_noSet]
  rw [h1, bt_all n hn]
  have e : f_X9_in σ x.toInt64 (0 : Int64) ((nI (2 ^ n - 1)).toInt64) = some (b2i (decide ((0 : Int32) ≤ x ∧ x ≤ nI (2 ^ n - 1))), σ) := in_ok σ x 0 _
  have h25 : 2 ^ n ≤ 2 ^ 5 := Nat.pow_le_pow_right (by decide) hn
  have hp : 0 < 2 ^ n := Nat.pow_pos (by decide)
  have hneg : ¬ ((0 : Int32) ≤ x ∧ x ≤ nI (2 ^ n - 1)) := by
    rintro ⟨q1, q2⟩
    rw [Int32.le_iff_toInt_le] at q1 q2
    rw [nI_toInt (by omega)] at q2
    have z : (0 : Int32).toInt = 0 := rfl
    rcases h with h | h
    · rw [Int32.lt_iff_toInt_lt] at h; omega
    · rw [Int32.le_iff_toInt_le, nI_toInt (by omega)] at h; omega
  rw [bd_ok e, show decide ((0 : Int32) ≤ x ∧ x ≤ nI (2 ^ n - 1)) = false from decide_eq_false hneg, b2i_f, if_pos rfl, zr_1]
/-- both sides answer alike, and the invariant stays -/
def OK2 {α : Type} (fc fm : Hp → Option (α × Hp)) (σ : Hp) : Prop := ∃ r σ1 σ2, fc σ = some (r, σ1) ∧ fm σ1 = some (r, σ2) ∧ Inv σ2
theorem thrown_scr (σ : Hp) : ∀ a i, ¬ Scr a i → wr σ 134 0 0 a i = σ a i := fun a i h => wr_ne (fun q => h (by unfold Scr; omega))
def Rc (a i : Nat) : Prop := (11 ≤ a ∧ a ≤ 17) ∨ (136 ≤ a ∧ a ≤ 142) ∨ (a = 134 ∧ (i = 4 ∨ i = 5 ∨ i = 6 ∨ i = 14 ∨ i = 15))
def Rp (a _ : Nat) : Prop := a = 23 ∨ a = 143
def Rt (a i : Nat) : Prop := (a = 1 ∧ i = 1) ∨ a = 2 ∨ a = 135 ∨ (a = 134 ∧ i = 2)
def Ra (a i : Nat) : Prop := (a = 24 ∧ (i = 1 ∨ i = 2)) ∨ (26 ≤ a ∧ a ≤ 85) ∨ a = 148 ∨ (a = 134 ∧ i = 25)
def Rs (a _ : Nat) : Prop := (120 ≤ a ∧ a ≤ 133) ∨ a = 149 ∨ a = 150
def Rb (a i : Nat) : Prop := (115 ≤ a ∧ a ≤ 118) ∨ (151 ≤ a ∧ a ≤ 153) ∨ (a = 134 ∧ i = 28)
def Rq (a _ : Nat) : Prop := (86 ≤ a ∧ a ≤ 94) ∨ a = 6 ∨ a = 10
theorem keep_c {σ σ' : Hp} {n beds lim : Nat} {tw : Nat → Option Nat} {t s d : Nat → Nat} {nod ill : Nat → Bool} (h : Core σ n beds lim tw t s d nod ill) (hf : ∀ a i, Rc a i → σ' a i = σ a i) : Core σ' n beds lim tw t s d nod ill := Core_congr h (fun a i q1 q2 => hf a i (by unfold Rc; omega)) (fun a i q1 q2 => hf a i (by unfold Rc; omega)) (fun i hi => hf 134 i (by unfold Rc; omega))
theorem keep_p {σ σ' : Hp} {n : Nat} (h : PlanI σ n) (hf : ∀ a i, Rp a i → σ' a i = σ a i) : PlanI σ' n := PlanI_congr h (fun i => hf _ i (by unfold Rp; omega)) (fun i => hf _ i (by unfold Rp; omega))
theorem keep_t {σ σ' : Hp} (h : TextI σ) (hf : ∀ a i, Rt a i → σ' a i = σ a i) : TextI σ' := TextI_congr h (hf _ _ (by unfold Rt; omega)) (hf _ _ (by unfold Rt; omega)) (fun i => hf _ i (by unfold Rt; omega)) (fun i => hf _ i (by unfold Rt; omega))
theorem keep_a {σ σ' : Hp} {n : Nat} (h : ActsI σ n) (hf : ∀ a i, Ra a i → σ' a i = σ a i) : ActsI σ' n := ActsI_congr h (hf _ _ (by unfold Ra; omega)) (hf _ _ (by unfold Ra; omega)) (hf _ _ (by unfold Ra; omega)) (fun a i q1 q2 => hf a i (by unfold Ra; omega)) (fun i => hf _ i (by unfold Ra; omega))
theorem keep_s {σ σ' : Hp} {n : Nat} (h : SlotI σ n 0 ∧ SlotI σ n 1) (hf : ∀ a i, Rs a i → σ' a i = σ a i) : SlotI σ' n 0 ∧ SlotI σ' n 1 := ⟨SlotI_congr (by decide) h.1 (fun a i q1 q2 => hf a i (by unfold Rs; omega)) (fun i => hf _ i (by unfold Rs; omega)) (fun i => hf _ i (by unfold Rs; omega)), SlotI_congr (by decide) h.2 (fun a i q1 q2 => hf a i (by unfold Rs; omega)) (fun i => hf _ i (by unfold Rs; omega)) (fun i => hf _ i (by unfold Rs; omega))⟩
theorem keep_b {σ σ' : Hp} (h : BookI σ) (hf : ∀ a i, Rb a i → σ' a i = σ a i) : BookI σ' := BookI_congr h (fun a i q1 q2 => hf a i (by unfold Rb; omega)) (hf _ _ (by unfold Rb; omega)) (fun a i q1 q2 => hf a i (by unfold Rb; omega))
theorem keep_q {σ σ' : Hp} {n beds lim : Nat} {tw : Nat → Option Nat} (h : SrchI σ n beds lim tw) (hf : ∀ a i, Rq a i → σ' a i = σ a i) : SrchI σ' n beds lim tw := SrchI_congr h (fun a i q1 q2 => hf a i (Or.inl ⟨q1, q2⟩)) (fun i => hf 6 i (Or.inr (Or.inl rfl))) (fun i => hf 10 i (Or.inr (Or.inr rfl)))
