def BookV (σ : Hp) (u : Nat) (A B C : Nat → Nat) : Prop := u ≤ 12 ∧ σ 115 3 = nI u ∧ σ 134 28 = nI u ∧ ∀ j, j < u → A j < 100 ∧ B j < 5 ∧ C j < 100 ∧ σ 116 j = nI (A j) ∧ σ 151 j = nI (A j) ∧ σ 117 j = nI (B j) ∧ σ 152 j = nI (B j) ∧ σ 118 j = nI (C j) ∧ σ 153 j = nI (C j)
theorem book_v {σ : Hp} (h : BookI σ) : ∃ u A B C, BookV σ u A B C := by
  obtain ⟨u, h1, h2, h3, h4⟩ := h
  refine ⟨u, fun j => ix (σ 116 j), fun j => ix (σ 117 j), fun j => ix (σ 118 j), h1, h2, h3, fun j hj => ?_⟩
  obtain ⟨a, b, c, q1, q2, q3, q4, q5, q6, q7, q8, q9⟩ := h4 j hj
  have e1 : ix (σ 116 j) = a := by rw [q4]; exact ix_nI (by omega)
  have e2 : ix (σ 117 j) = b := by rw [q6]; exact ix_nI (by omega)
  have e3 : ix (σ 118 j) = c := by rw [q8]; exact ix_nI (by omega)
  simp only [e1, e2, e3]
  exact ⟨q1, q2, q3, q4, q5, q6, q7, q8, q9⟩
theorem BookV_wr {σ : Hp} {u : Nat} {A B C : Nat → Nat} (h : BookV σ u A B C) : BookV (wr σ 134 0 0) u A B C := by
  obtain ⟨h1, h2, h3, h4⟩ := h
  refine ⟨h1, by rw [wr_ne (by omega)]; exact h2, by rw [wr_ne (by omega)]; exact h3, fun j hj => ?_⟩
  simp (disch := omega) only [wr_ne]; exact h4 j hj
def orB (p : Nat → Bool) : Nat → Nat → Bool
  | _, 0 => false
  | i, k + 1 => p i || orB p (i + 1) k
theorem orB_f {p : Nat → Bool} (h : ∀ i, p i = false) : ∀ k i, orB p i k = false
  | 0, _ => rfl
  | k + 1, i => by rw [orB, h i, orB_f h k (i + 1)]; rfl
def cl (tw : Nat → Option Nat) (B C : Nat → Nat) (i j : Nat) : Bool := !(decide (C i = C j) && decide (tw (B i) = some (B j)))
def pr (tw : Nat → Option Nat) (A B C : Nat → Nat) (x i j : Nat) : Bool := decide (A i = x) && decide (A j = x) && cl tw B C i j
def FA (tw : Nat → Option Nat) (A B C : Nat → Nat) (u x : Nat) : Bool := orB (fun i => orB (pr tw A B C x i) 0 i) 0 u
theorem tw_eq {n : Nat} {tw : Nat → Option Nat} (hn : n ≤ 5) (htw : TwOK n tw) {b k : Nat} (hk : k < 5) : (twI (tw b) = nI k) = (tw b = some k) := by
  apply propext
  cases h : tw b with
  | none =>
    rw [twI_none]
    constructor
    · intro q; exact absurd q.symm (m9_ne k hk)
    · intro q; cases q
  | some k' =>
    rw [twI_some]
    have := htw b k' h
    rw [nI_eq (by omega) (by omega)]
    constructor
    · intro q; rw [q]
    · intro q; exact Option.some.inj q
theorem clash_ok {σ : Hp} {n : Nat} {tw : Nat → Option Nat} {u : Nat} {A B C : Nat → Nat} (hc : CV σ 11 n tw) (hb : BookV σ u A B C) {i j : Nat} (hi : i < u) (hj : j < u) : f_X1_clash σ (nI i) (nI j) 11 = some (b2i (cl tw B C i j), σ) := by
  obtain ⟨hu, -, -, h4⟩ := hb
  obtain ⟨a1, a2, a3, a4, a5, a6, a7, a8, a9⟩ := h4 i hi
  obtain ⟨c1, c2, c3, c4, c5, c6, c7, c8, c9⟩ := h4 j hj
  simp only [f_X1_clash, f_X1_clash_35]
  simp (disch := omega) only [ck_ok, ix_nI]
  rw [a8, c8, a6]
  simp (disch := omega) only [ck_ok, ix_nI]
  rw [show σ (11 + 1) (B i) = twI (tw (B i)) from hc.2.2.2 (B i) a2, c6]
  simp only [tw_eq hc.1 hc.2.1 c2, ni_eq (show C i < 2 ^ 31 by omega) (show C j < 2 ^ 31 by omega), zr_0, zr_1, cl]
  by_cases q1 : C i = C j
  · by_cases q2 : tw (B i) = some (B j)
    · rw [if_pos q1, if_pos q2]; simp [q1, q2, b2i]
    · rw [if_pos q1, if_neg q2]; simp [q2, b2i]
  · rw [if_neg q1]; simp [q1, b2i]
theorem false13 {σ : Hp} {n : Nat} {tw : Nat → Option Nat} {u : Nat} {A B C : Nat → Nat} (hc : CV σ 11 n tw) (hb : BookV σ u A B C) {x i : Nat} (hx : x < 100) (hi : i < u) (k2 : Hp → Int32 → Int32 → Option (Int32 × Hp)) : ∀ (k j fuel : Nat), j + k = i → k < fuel → f_X1_isFalse_13 k2 11 fuel σ (nI x) (nI i) (nI j) = if orB (pr tw A B C x i) j k = true then some (1, σ) else k2 σ (nI x) (nI (i + 1)) := by
  have hu := hb.1
  intro k
  induction k with
  | zero =>
    intro j fuel hj hf
    obtain ⟨f, rfl⟩ : ∃ f, fuel = f + 1 := ⟨fuel - 1, by omega⟩
    have : j = i := by omega
    subst this
    simp only [f_X1_isFalse_13, f_X1_isFalse_59, Lt]
    rw [if_pos (nI_le (Nat.le_refl _) (by omega)), ni_add1, if_neg (by simp [orB])]
  | succ k ih =>
    intro j fuel hj hf
    obtain ⟨f, rfl⟩ : ∃ f, fuel = f + 1 := ⟨fuel - 1, by omega⟩
    obtain ⟨a1, a2, a3, a4, a5, a6, a7, a8, a9⟩ := hb.2.2.2 i hi
    obtain ⟨c1, c2, c3, c4, c5, c6, c7, c8, c9⟩ := hb.2.2.2 j (by omega)
    have step := ih (j + 1) f (by omega) (by omega)
    simp only [f_X1_isFalse_13, f_X1_isFalse_59, f_X1_isFalse_53, Lt]
    rw [if_neg (nI_ge (show j < i by omega) (by omega))]
    simp (disch := omega) only [ck_ok, ix_nI, ni_add1]
    rw [a4, c4]
    simp only [ni_eq (show A i < 2 ^ 31 by omega) (show x < 2 ^ 31 by omega), ni_eq (show A j < 2 ^ 31 by omega) (show x < 2 ^ 31 by omega)]
    by_cases q1 : A i = x
    · rw [if_pos q1]
      by_cases q2 : A j = x
      · rw [if_pos q2, bd_ok (clash_ok hc hb hi (by omega))]
        simp only [b2i_0, orB, pr, q1, q2, decide_true, Bool.true_and]
        by_cases q3 : cl tw B C i j = false
        · rw [if_pos q3, step, q3]
          simp only [Bool.false_or, orB, pr, q1]
        · rw [if_neg q3, zr_1, if_pos (by simp [show cl tw B C i j = true by simpa using q3])]
      · rw [if_neg q2, step]
        simp only [orB, pr, q2, decide_false, Bool.and_false, Bool.false_and, Bool.false_or]
    · rw [if_neg q1, orB_f (fun j => by simp [pr, q1]), if_neg (by decide)]
theorem isFalse_loop {σ : Hp} {n : Nat} {tw : Nat → Option Nat} {u : Nat} {A B C : Nat → Nat} (hc : CV σ 11 n tw) (hb : BookV σ u A B C) {x : Nat} (hx : x < 100) : ∀ (k i fuel : Nat), i + k = u → k < fuel → f_X1_isFalse_2 11 fuel σ (nI x) (nI i) = some (b2i (orB (fun i => orB (pr tw A B C x i) 0 i) i k), σ) := by
  have hu := hb.1
  intro k
  induction k with
  | zero =>
    intro i fuel hi hf
    obtain ⟨f, rfl⟩ : ∃ f, fuel = f + 1 := ⟨fuel - 1, by omega⟩
    have : i = u := by omega
    subst this
    simp only [f_X1_isFalse_2, orB]
    rw [hb.2.1, if_pos (nI_le (Nat.le_refl _) (by omega)), zr_0]; rfl
  | succ k ih =>
    intro i fuel hi hf
    obtain ⟨f, rfl⟩ : ∃ f, fuel = f + 1 := ⟨fuel - 1, by omega⟩
    simp only [f_X1_isFalse_2, orB]
    rw [hb.2.1, if_neg (nI_ge (show i < u by omega) (by omega))]
    rw [show f_X1_isFalse_13 (f_X1_isFalse_2 11 f) 11 FU σ (nI x) (nI i) 0 = _ from false13 hc hb hx (show i < u by omega) (f_X1_isFalse_2 11 f) i 0 FU (by omega) (FU_big (by omega)), ih (i + 1) f (by omega) (by omega)]
    cases orB (pr tw A B C x i) 0 i
    · rw [if_neg (by decide)]; rfl
    · rw [if_pos rfl]; rfl
theorem isFalse_ok {σ : Hp} {n : Nat} {tw : Nat → Option Nat} {u : Nat} {A B C : Nat → Nat} (hc : CV σ 11 n tw) (hb : BookV σ u A B C) {x : Nat} (hx : x < 100) : f_X1_isFalse σ (nI x) 11 = some (b2i (FA tw A B C u x), σ) := isFalse_loop hc hb hx u 0 FU (by omega) (FU_big (by have := hb.1; omega))
/-! the reference -/
theorem areTwins_ok {σ : Hp} {n beds lim : Nat} {tw : Nat → Option Nat} {ill : Nat → Bool} (hM : MV σ n beds lim tw ill) {a b : Nat} (ha : a < 5) (hb : b < 5) : f_X9_areTwins σ (nI a) (nI b) = some (b2i (decide (tw a = some b)), σ) := by
  obtain ⟨hn, htw, m4, m5, m6, m7, m8⟩ := hM
  have out : ∀ c, c < 5 → ¬ c < n → (nI c < 0 ∨ nI n ≤ nI c) := fun c _ h2 => Or.inr (nI_le (by omega) (by omega))
  simp only [f_X9_areTwins]
  by_cases q1 : a < n
  · rw [bd_ok (noG_in hn m4 q1), if_pos rfl]
    by_cases q2 : b < n
    · rw [bd_ok (noG_in hn m4 q2), if_pos rfl]
      simp (disch := omega) only [ck_ok, ix_nI]
      rw [m7 a ha]
      simp only [tw_eq hn htw hb, zr_0, zr_1]
      by_cases q3 : tw a = some b
      · rw [if_pos q3]; simp [q3, b2i]
      · rw [if_neg q3]; simp [q3, b2i]
    · rw [bd_ok (noG_out hn m4 (out b hb q2)), if_neg (by decide), zr_0]
      have : ¬ tw a = some b := fun w => q2 (htw a b w).2.1
      simp [this, b2i]
  · rw [bd_ok (noG_out hn m4 (out a ha q1)), if_neg (by decide), zr_0]
    have : ¬ tw a = some b := fun w => q1 (htw a b w).1
    simp [this, b2i]
theorem forged15 {σ : Hp} {n beds lim : Nat} {tw : Nat → Option Nat} {ill : Nat → Bool} {u : Nat} {A B C : Nat → Nat} (hM : MV σ n beds lim tw ill) (hb : BookV σ u A B C) {x i : Nat} (hx : x < 100) (hi : i < u) (k4 : Hp → Int32 → Int32 → Int32 → Option (Int32 × Hp)) : ∀ (k j fuel : Nat) (b : Bool), j + k = i → k < fuel → f_X9_isForged_15 k4 fuel σ (nI x) (b2i b) (nI i) (nI j) = k4 σ (nI x) (b2i (b || orB (pr tw A B C x i) j k)) (nI (i + 1)) := by
  have hu := hb.1
  intro k
  induction k with
  | zero =>
    intro j fuel b hj hf
    obtain ⟨f, rfl⟩ : ∃ f, fuel = f + 1 := ⟨fuel - 1, by omega⟩
    have : j = i := by omega
    subst this
    simp only [f_X9_isForged_15, Lt, orB]
    rw [if_pos (nI_le (Nat.le_refl _) (by omega)), ni_add1, Bool.or_false]
  | succ k ih =>
    intro j fuel b hj hf
    obtain ⟨f, rfl⟩ : ∃ f, fuel = f + 1 := ⟨fuel - 1, by omega⟩
    obtain ⟨a1, a2, a3, a4, a5, a6, a7, a8, a9⟩ := hb.2.2.2 i hi
    obtain ⟨c1, c2, c3, c4, c5, c6, c7, c8, c9⟩ := hb.2.2.2 j (by omega)
    have step : ∀ c : Bool, f_X9_isForged_99 (f_X9_isForged_15 k4 f) k4 σ (nI x) (nI i) (nI j) (b2i c) = k4 σ (nI x) (b2i (c || orB (pr tw A B C x i) (j + 1) k)) (nI (i + 1)) := by
      intro c
      simp only [f_X9_isForged_99, Lt]
      rw [ni_add1]; exact ih (j + 1) f c (by omega) (by omega)
    have s94 : f_X9_isForged_94 (f_X9_isForged_15 k4 f) k4 σ (nI x) (nI i) (nI j) = k4 σ (nI x) (b2i true) (nI (i + 1)) := (step true).trans (by rw [Bool.true_or])
    have s98 : f_X9_isForged_98 (f_X9_isForged_15 k4 f) k4 σ (nI x) (nI i) (nI j) = k4 σ (nI x) (b2i (orB (pr tw A B C x i) (j + 1) k)) (nI (i + 1)) := (step false).trans (by rw [Bool.false_or])
    have s47 : ∀ c : Bool, c = (decide (A i = x) && decide (A j = x)) → f_X9_isForged_47 (f_X9_isForged_15 k4 f) k4 σ (nI x) (b2i b) (nI i) (nI j) (b2i c) = k4 σ (nI x) (b2i (b || orB (pr tw A B C x i) j (k + 1))) (nI (i + 1)) := by
      intro c hc
      simp only [f_X9_isForged_47, b2i_0, orB]
      have hpr : pr tw A B C x i j = (c && cl tw B C i j) := by rw [hc]; rfl
      rw [hpr]
      cases b with
      | true => rw [if_neg (by decide), s94, Bool.true_or]
      | false =>
        rw [if_pos rfl, Bool.false_or]
        cases c with
        | false => rw [if_pos rfl, s98, Bool.false_and, Bool.false_or]
        | true =>
          rw [if_neg (by decide), Bool.true_and]
          simp (disch := omega) only [ck_ok, ix_nI]
          rw [a9, c9, a7, c7]
          simp only [ni_eq (show C i < 2 ^ 31 by omega) (show C j < 2 ^ 31 by omega)]
          by_cases q1 : C i = C j
          · rw [if_pos q1, bd_ok (areTwins_ok hM a2 c2)]
            simp only [b2i_0]
            by_cases q2 : tw (B i) = some (B j)
            · rw [if_neg (by simp [q2]), s98]; simp [cl, q1, q2]
            · rw [if_pos (by simp [q2]), s94]; simp [cl, q2]
          · rw [if_neg q1, s94]; simp [cl, q1]
    simp only [f_X9_isForged_15, f_X9_isForged_46, Lt]
    rw [if_neg (nI_ge (show j < i by omega) (by omega))]
    simp (disch := omega) only [ck_ok, ix_nI]
    rw [a5, c5]
    simp only [ni_eq (show A i < 2 ^ 31 by omega) (show x < 2 ^ 31 by omega), ni_eq (show A j < 2 ^ 31 by omega) (show x < 2 ^ 31 by omega)]
    by_cases q1 : A i = x
    · rw [if_pos q1]
      by_cases q2 : A j = x
      · rw [if_pos q2]; exact s47 true (by simp [q1, q2])
      · rw [if_neg q2]; exact s47 false (by simp [q2])
    · rw [if_neg q1]; exact s47 false (by simp [q1])
theorem isForged_loop {σ : Hp} {n beds lim : Nat} {tw : Nat → Option Nat} {ill : Nat → Bool} {u : Nat} {A B C : Nat → Nat} (hM : MV σ n beds lim tw ill) (hb : BookV σ u A B C) {x : Nat} (hx : x < 100) : ∀ (k i fuel : Nat) (b : Bool), i + k = u → k < fuel → f_X9_isForged_4 fuel σ (nI x) (b2i b) (nI i) = some (b2i (b || orB (fun i => orB (pr tw A B C x i) 0 i) i k), σ) := by
  have hu := hb.1
  intro k
  induction k with
  | zero =>
    intro i fuel b hi hf
    obtain ⟨f, rfl⟩ : ∃ f, fuel = f + 1 := ⟨fuel - 1, by omega⟩
    have : i = u := by omega
    subst this
    simp only [f_X9_isForged_4, orB]
    rw [hb.2.2.1, if_pos (nI_le (Nat.le_refl _) (by omega)), Bool.or_false]
    cases b
    · exact zr_0 σ
    · exact zr_1 σ
  | succ k ih =>
    intro i fuel b hi hf
    obtain ⟨f, rfl⟩ : ∃ f, fuel = f + 1 := ⟨fuel - 1, by omega⟩
    simp only [f_X9_isForged_4, orB]
    rw [hb.2.2.1, if_neg (nI_ge (show i < u by omega) (by omega))]
    rw [show f_X9_isForged_15 (f_X9_isForged_4 f) FU σ (nI x) (b2i b) (nI i) 0 = _ from forged15 hM hb hx (show i < u by omega) (f_X9_isForged_4 f) i 0 FU b (by omega) (FU_big (by omega)), ih (i + 1) f _ (by omega) (by omega), Bool.or_assoc]
theorem isForged_ok {σ : Hp} {n beds lim : Nat} {tw : Nat → Option Nat} {ill : Nat → Bool} {u : Nat} {A B C : Nat → Nat} (hM : MV σ n beds lim tw ill) (hb : BookV σ u A B C) {x : Nat} (hx : x < 100) : f_X9_isForged σ (nI x) = some (b2i (FA tw A B C u x), σ) := by
  have := isForged_loop hM hb hx u 0 FU false (by omega) (FU_big (by have := hb.1; omega))
  rw [Bool.false_or] at this
  exact this
/-! how many, which, who -/
def cq (p : Nat → Bool) : Nat → Nat → Nat
  | _, 0 => 0
  | x, k + 1 => (if p x = true then 1 else 0) + cq p (x + 1) k
theorem forgedC_loop {σ : Hp} {n : Nat} {tw : Nat → Option Nat} {u : Nat} {A B C : Nat → Nat} (hc : CV σ 11 n tw) (hb : BookV σ u A B C) : ∀ (k x fuel c : Nat), x + k = 100 → k < fuel → f_X8_forged_4 fuel σ (nI c) (nI x) = some (nI (c + cq (FA tw A B C u) x k), σ) := by
  intro k
  induction k with
  | zero =>
    intro x fuel c hx hf
    obtain ⟨f, rfl⟩ : ∃ f, fuel = f + 1 := ⟨fuel - 1, by omega⟩
    have : x = 100 := by omega
    subst this
    simp only [f_X8_forged_4]
    rw [if_pos (show (99 : Int32) < nI 100 by decide)]; rfl
  | succ k ih =>
    intro x fuel c hx hf
    obtain ⟨f, rfl⟩ : ∃ f, fuel = f + 1 := ⟨fuel - 1, by omega⟩
    simp only [f_X8_forged_4, f_X8_forged_28, Lt]
    rw [if_neg (show ¬ (99 : Int32) < nI x from nI_nlt (a := 99) (by omega) (by decide)), bd_ok (isFalse_ok hc hb (show x < 100 by omega)), ni_add1, ni_add1]
    simp only [b2i_0, cq]
    by_cases q : FA tw A B C u x = false
    · rw [if_pos q, ih (x + 1) f c (by omega) (by omega), if_neg (by rw [q]; decide), Nat.zero_add]
    · rw [if_neg q, ih (x + 1) f (c + 1) (by omega) (by omega), if_pos (by simpa using q), Nat.add_assoc]
theorem forgedM_loop {σ : Hp} {n beds lim : Nat} {tw : Nat → Option Nat} {ill : Nat → Bool} {u : Nat} {A B C : Nat → Nat} (hM : MV σ n beds lim tw ill) (hb : BookV σ u A B C) : ∀ (k x fuel c : Nat), x + k = 100 → k < fuel → f_X9_forged_9 fuel σ (nI c) (nI x) = some (nI (c + cq (FA tw A B C u) x k), σ) := by
  intro k
  induction k with
  | zero =>
    intro x fuel c hx hf
    obtain ⟨f, rfl⟩ : ∃ f, fuel = f + 1 := ⟨fuel - 1, by omega⟩
    have : x = 100 := by omega
    subst this
    simp only [f_X9_forged_9]
    rw [if_pos (show (100 : Int32) ≤ nI 100 by decide)]; rfl
  | succ k ih =>
    intro x fuel c hx hf
    obtain ⟨f, rfl⟩ : ∃ f, fuel = f + 1 := ⟨fuel - 1, by omega⟩
    simp only [f_X9_forged_9, f_X9_forged_29, Lt]
    rw [if_neg (show ¬ (100 : Int32) ≤ nI x from nI_ge (b := 100) (by omega) (by decide)), bd_ok (isForged_ok hM hb (show x < 100 by omega)), ni_add1, ni_add1]
    simp only [b2i_0, cq]
    by_cases q : FA tw A B C u x = false
    · rw [if_pos q, i32_a0, ih (x + 1) f c (by omega) (by omega), if_neg (by rw [q]; decide), Nat.zero_add]
    · rw [if_neg q, ih (x + 1) f (c + 1) (by omega) (by omega), if_pos (by simpa using q), Nat.add_assoc]
theorem op_forged {σ : Hp} (h : Inv σ) : OK2 f_X8_forged f_X9_forged σ := by
  have h0 := h
  obtain ⟨n, beds, lim, tw, t, s, d, nod, ill, i1, i2, i3, i4, i5, i6, i7⟩ := h
  obtain ⟨u, A, B, C, hb⟩ := book_v i6
  refine ⟨nI (0 + cq (FA tw A B C u) 0 100), σ, wr σ 134 0 0, ?_, ?_, Inv_scr h0 (thrown_scr σ)⟩
  · exact forgedC_loop i1.1 hb 100 0 FU 0 (by omega) (FU_big (by omega))
  · simp only [f_X9_forged, Lt]
    exact forgedM_loop (MV_wr i1.2.2.2.2.2.1) (BookV_wr hb) 100 0 FU 0 (by omega) (FU_big (by omega))
def atF (p : Nat → Bool) : Nat → Nat → Nat → Int32
  | _, 0, _ => -9
  | x, k + 1, m => if p x = true then (if m = 0 then nI x else atF p (x + 1) k (m - 1)) else atF p (x + 1) k m
theorem atC_loop {σ : Hp} {n : Nat} {tw : Nat → Option Nat} {u : Nat} {A B C : Nat → Nat} (hc : CV σ 11 n tw) (hb : BookV σ u A B C) {j : Nat} (hj : j < 2 ^ 31) : ∀ (k x fuel c : Nat), x + k = 100 → k < fuel → c ≤ j → f_X8_forgedAt_4 fuel σ (nI j) (nI c) (nI x) = some (atF (FA tw A B C u) x k (j - c), σ) := by
  intro k
  induction k with
  | zero =>
    intro x fuel c hx hf hcj
    obtain ⟨f, rfl⟩ : ∃ f, fuel = f + 1 := ⟨fuel - 1, by omega⟩
    have : x = 100 := by omega
    subst this
    simp only [f_X8_forgedAt_4]
    rw [if_pos (show (99 : Int32) < nI 100 by decide)]; rfl
  | succ k ih =>
    intro x fuel c hx hf hcj
    obtain ⟨f, rfl⟩ : ∃ f, fuel = f + 1 := ⟨fuel - 1, by omega⟩
    simp only [f_X8_forgedAt_4, f_X8_forgedAt_35, Lt]
    rw [if_neg (show ¬ (99 : Int32) < nI x from nI_nlt (a := 99) (by omega) (by decide)), bd_ok (isFalse_ok hc hb (show x < 100 by omega)), ni_add1, ni_add1]
    simp only [b2i_0, atF, ni_eq (show c < 2 ^ 31 by omega) hj]
    by_cases q : FA tw A B C u x = false
    · rw [if_pos q, ih (x + 1) f c (by omega) (by omega) hcj, if_neg (by rw [q]; decide)]
    · rw [if_neg q, if_pos (show FA tw A B C u x = true by simpa using q)]
      by_cases e : c = j
      · rw [if_pos e, if_pos (by omega)]
      · rw [if_neg e, if_neg (by omega), ih (x + 1) f (c + 1) (by omega) (by omega) (by omega), Nat.sub_add_eq]
theorem atC_neg {σ : Hp} {n : Nat} {tw : Nat → Option Nat} {u : Nat} {A B C : Nat → Nat} (hc : CV σ 11 n tw) (hb : BookV σ u A B C) {j : Int32} (hj : j < 0) : ∀ (k x fuel c : Nat), x + k = 100 → k < fuel → c ≤ x → f_X8_forgedAt_4 fuel σ j (nI c) (nI x) = some (-9, σ) := by
  intro k
  induction k with
  | zero =>
    intro x fuel c hx hf hcj
    obtain ⟨f, rfl⟩ : ∃ f, fuel = f + 1 := ⟨fuel - 1, by omega⟩
    have : x = 100 := by omega
    subst this
    simp only [f_X8_forgedAt_4]
    rw [if_pos (show (99 : Int32) < nI 100 by decide)]
  | succ k ih =>
    intro x fuel c hx hf hcj
    obtain ⟨f, rfl⟩ : ∃ f, fuel = f + 1 := ⟨fuel - 1, by omega⟩
    simp only [f_X8_forgedAt_4, f_X8_forgedAt_35, Lt]
    rw [if_neg (show ¬ (99 : Int32) < nI x from nI_nlt (a := 99) (by omega) (by decide)), bd_ok (isFalse_ok hc hb (show x < 100 by omega)), ni_add1, ni_add1]
    rw [if_neg (show ¬ nI c = j from fun w => nI_pos (show c < 2 ^ 31 by omega) (by rw [w]; exact hj)), ih (x + 1) f c (by omega) (by omega) (by omega), ih (x + 1) f (c + 1) (by omega) (by omega) (by omega)]
    split <;> rfl
theorem atM_loop {σ : Hp} {n beds lim : Nat} {tw : Nat → Option Nat} {ill : Nat → Bool} {u : Nat} {A B C : Nat → Nat} (hM : MV σ n beds lim tw ill) (hb : BookV σ u A B C) {j : Nat} (hj : j < 2 ^ 31) : ∀ (k x fuel m : Nat), x + k = 100 → k < fuel → m < 2 ^ 31 → f_X9_forgedAt_9 fuel σ (nI j) (nI m) (nI x) = some (atF (FA tw A B C u) x k m, σ) := by
  intro k
  induction k with
  | zero =>
    intro x fuel c hx hf hcj
    obtain ⟨f, rfl⟩ : ∃ f, fuel = f + 1 := ⟨fuel - 1, by omega⟩
    have : x = 100 := by omega
    subst this
    simp only [f_X9_forgedAt_9]
    rw [if_pos (show (100 : Int32) ≤ nI 100 by decide)]; rfl
  | succ k ih =>
    intro x fuel m hx hf hm
    obtain ⟨f, rfl⟩ : ∃ f, fuel = f + 1 := ⟨fuel - 1, by omega⟩
    simp only [f_X9_forgedAt_9, f_X9_forgedAt_36, Lt]
    rw [if_neg (show ¬ (100 : Int32) ≤ nI x from nI_ge (b := 100) (by omega) (by decide)), if_neg (nI_pos hj), bd_ok (isForged_ok hM hb (show x < 100 by omega)), ni_add1]
    simp only [b2i_0, atF]
    by_cases q : FA tw A B C u x = false
    · rw [if_pos q, ih (x + 1) f m (by omega) (by omega) hm, if_neg (by rw [q]; decide)]
    · rw [if_neg q, if_pos (show FA tw A B C u x = true by simpa using q)]
      by_cases e : m = 0
      · subst e; rw [if_pos (show nI 0 = 0 from rfl), if_pos rfl]
      · rw [if_neg (nI_ne0 (by omega) hm), if_neg e]
        obtain ⟨m', rfl⟩ : ∃ m', m = m' + 1 := ⟨m - 1, by omega⟩
        rw [pk_m1, ih (x + 1) f m' (by omega) (by omega) (by omega)]; rfl
theorem op_forgedAt {σ : Hp} (h : Inv σ) (a1 : Int32) : OK2 (fun σ => f_X8_forgedAt σ a1) (fun σ => f_X9_forgedAt σ a1) σ := by
  have h0 := h
  obtain ⟨n, beds, lim, tw, t, s, d, nod, ill, i1, i2, i3, i4, i5, i6, i7⟩ := h
  obtain ⟨u, A, B, C, hb⟩ := book_v i6
  by_cases q : a1 < 0
  · refine ⟨-9, σ, wr σ 134 0 0, ?_, ?_, Inv_scr h0 (thrown_scr σ)⟩
    · exact atC_neg i1.1 hb q 100 0 FU 0 (by omega) (FU_big (by omega)) (by omega)
    · simp only [f_X9_forgedAt, Lt]
      obtain ⟨f, hf⟩ : ∃ f, FU = f + 1 := ⟨99999, rfl⟩
      rw [hf]
      simp only [f_X9_forgedAt_9]
      rw [if_neg (by decide), if_pos q]
  · obtain ⟨j, hj, rfl⟩ := nI_of q
    refine ⟨atF (FA tw A B C u) 0 100 j, σ, wr σ 134 0 0, ?_, ?_, Inv_scr h0 (thrown_scr σ)⟩
    · exact atC_loop i1.1 hb hj 100 0 FU 0 (by omega) (FU_big (by omega)) (by omega)
    · simp only [f_X9_forgedAt, Lt]
      exact atM_loop (MV_wr i1.2.2.2.2.2.1) (BookV_wr hb) hj 100 0 FU j (by omega) (FU_big (by omega)) hj
def usr (p : Nat → Bool) (A B : Nat → Nat) : Nat → Nat → Bool
  | 0, _ => false
  | i + 1, g => usr p A B i g || (p (A i) && decide (B i = g))
theorem mk_false {n : Nat} {f : Nat → Bool} (h : ∀ g, f g = false) : mk n f = 0 := by
  apply Nat.eq_of_testBit_eq
  intro i
  rw [mk_all, h]; simp
theorem usr_t {n : Nat} (hn : n ≤ 5) {p : Nat → Bool} {A B : Nat → Nat} {i : Nat} (h : p (A i) = true) (hB : B i < n) : nI (mk n (usr p A B i)) ||| ((1 : Int32) <<< (nI (B i) &&& 31)) = nI (mk n (usr p A B (i + 1))) := by
  rw [up_or hn hB]
  congr 1
  apply mk_congr
  intro g hg
  rw [va_up_at, usr, h]
  by_cases e : g = B i
  · subst e; simp
  · rw [if_neg e]; simp [show ¬ B i = g from fun w => e w.symm]
theorem usr_f {n : Nat} {p : Nat → Bool} {A B : Nat → Nat} {i : Nat} (h : p (A i) = false ∨ ¬ B i < n) : mk n (usr p A B i) = mk n (usr p A B (i + 1)) := by
  apply mk_congr
  intro g hg
  rw [usr]
  rcases h with h | h
  · simp [h]
  · simp [show ¬ B i = g from fun w => h (by omega)]
theorem forgersC_loop {σ : Hp} {n : Nat} {tw : Nat → Option Nat} {u : Nat} {A B C : Nat → Nat} (hc : CV σ 11 n tw) (hb : BookV σ u A B C) : ∀ (k i fuel : Nat), i + k = u → k < fuel → f_X8_forgers_4 fuel σ (nI (mk 5 (usr (FA tw A B C u) A B i))) (nI i) = some (nI (mk n (usr (FA tw A B C u) A B u)), σ) := by
  have hn := hc.1
  have hu := hb.1
  intro k
  induction k with
  | zero =>
    intro i fuel hi hf
    obtain ⟨f, rfl⟩ : ∃ f, fuel = f + 1 := ⟨fuel - 1, by omega⟩
    have : i = u := by omega
    subst this
    simp only [f_X8_forgers_4]
    have h25 : 2 ^ n ≤ 2 ^ 5 := Nat.pow_le_pow_right (by decide) hn
    rw [hb.2.1, if_pos (nI_le (Nat.le_refl _) (by omega)), bd_ok (everyone_ok hn hc.2.2.1), bt_and2 _ (mk_lt32 (by decide) _) _ (by omega)]
    have e : mk 5 (usr (FA tw A B C i) A B i) &&& (2 ^ n - 1) = mk n (usr (FA tw A B C i) A B i) := by
      apply Nat.eq_of_testBit_eq
      intro g
      rw [Nat.testBit_and, mk_all, mk_all, Nat.testBit_two_pow_sub_one]
      by_cases hg : g < n
      · simp [hg, show g < 5 by omega]
      · simp [hg]
    rw [e]
  | succ k ih =>
    intro i fuel hi hf
    obtain ⟨f, rfl⟩ : ∃ f, fuel = f + 1 := ⟨fuel - 1, by omega⟩
    obtain ⟨a1, a2, a3, a4, a5, a6, a7, a8, a9⟩ := hb.2.2.2 i (by omega)
    have step := ih (i + 1) f (by omega) (by omega)
    simp only [f_X8_forgers_4, f_X8_forgers_52, Lt]
    rw [hb.2.1, if_neg (nI_ge (show i < u by omega) (by omega))]
    simp (disch := omega) only [ck_ok, ix_nI, ni_add1]
    rw [a4, bd_ok (isFalse_ok hc hb a1), a6]
    simp only [b2i_0]
    by_cases q : FA tw A B C u (A i) = false
    · rw [if_pos q, usr_f (Or.inl q)]; exact step
    · rw [if_neg q, usr_t (by decide) (show FA tw A B C u (A i) = true by simpa using q) a2]; exact step
theorem forgersM_loop {σ : Hp} {n beds lim : Nat} {tw : Nat → Option Nat} {ill : Nat → Bool} {u : Nat} {A B C : Nat → Nat} (hM : MV σ n beds lim tw ill) (hb : BookV σ u A B C) : ∀ (k i fuel : Nat), i + k = u → k < fuel → f_X9_forgers_9 fuel σ (nI (mk n (usr (FA tw A B C u) A B i))) (nI i) = some (nI (mk n (usr (FA tw A B C u) A B u)), σ) := by
  have hn := hM.1
  have hu := hb.1
  intro k
  induction k with
  | zero =>
    intro i fuel hi hf
    obtain ⟨f, rfl⟩ : ∃ f, fuel = f + 1 := ⟨fuel - 1, by omega⟩
    have : i = u := by omega
    subst this
    simp only [f_X9_forgers_9]
    rw [hb.2.2.1, if_pos (nI_le (Nat.le_refl _) (by omega))]
  | succ k ih =>
    intro i fuel hi hf
    obtain ⟨f, rfl⟩ : ∃ f, fuel = f + 1 := ⟨fuel - 1, by omega⟩
    obtain ⟨a1, a2, a3, a4, a5, a6, a7, a8, a9⟩ := hb.2.2.2 i (by omega)
    have step := ih (i + 1) f (by omega) (by omega)
    simp only [f_X9_forgers_9, f_X9_forgers_55, f_X9_forgers_56, Lt]
    rw [hb.2.2.1, if_neg (nI_ge (show i < u by omega) (by omega))]
    simp (disch := omega) only [ck_ok, ix_nI, ni_add1]
    rw [a5, bd_ok (isForged_ok hM hb a1), a7]
    simp only [b2i_0]
    by_cases q : FA tw A B C u (A i) = false
    · rw [if_pos q, or_z (mk_lt32 hn _), usr_f (Or.inl q)]; exact step
    · rw [if_neg q]
      by_cases hB : B i < n
      · rw [bd_ok (noG_in hn hM.2.2.1 hB), if_pos rfl, a7, usr_t hn (show FA tw A B C u (A i) = true by simpa using q) hB]; exact step
      · rw [bd_ok (noG_out hn hM.2.2.1 (Or.inr (nI_le (by omega) (by omega)))), if_neg (by decide), or_z (mk_lt32 hn _), usr_f (Or.inr hB)]; exact step
theorem op_forgers {σ : Hp} (h : Inv σ) : OK2 f_X8_forgers f_X9_forgers σ := by
  have h0 := h
  obtain ⟨n, beds, lim, tw, t, s, d, nod, ill, i1, i2, i3, i4, i5, i6, i7⟩ := h
  obtain ⟨u, A, B, C, hb⟩ := book_v i6
  refine ⟨nI (mk n (usr (FA tw A B C u) A B u)), σ, wr σ 134 0 0, ?_, ?_, Inv_scr h0 (thrown_scr σ)⟩
  · have := forgersC_loop i1.1 hb u 0 FU (by omega) (FU_big (by have := hb.1; omega))
    rw [show mk 5 (usr (FA tw A B C u) A B 0) = 0 from mk_false (fun g => rfl)] at this
    exact this
  · have := forgersM_loop (MV_wr i1.2.2.2.2.2.1) (BookV_wr hb) u 0 FU (by omega) (FU_big (by have := hb.1; omega))
    rw [show mk n (usr (FA tw A B C u) A B 0) = 0 from mk_false (fun g => rfl)] at this
    simp only [f_X9_forgers, Lt]
    exact this
