theorem store_ok {σ : Hp} {l : Nat} : ∃ σ', f_X6_store σ (120 + 7 * l) 13 = some ((), σ') ∧ (∀ k g, 1 ≤ k → k ≤ 4 → g < 5 → σ' (122 + 7 * l + k) g = σ (13 + k) g) ∧ (∀ j, 5 ≤ j → j ≤ 8 → σ' (122 + 7 * l) j = σ 13 j) ∧ (∀ j, j < 4 → σ' (121 + 7 * l) j = σ 23 j) ∧ σ' (120 + 7 * l) 2 = 1 ∧ (∀ a i, (a < 120 + 7 * l ∨ 126 + 7 * l < a) → σ' a i = σ a i) := by
  obtain ⟨σ1, e1, e2, e3, e4⟩ := copy_ok (σ := σ) (o := 122 + 7 * l) (q := 13) (by omega)
  refine ⟨wr (va_up σ1 (121 + 7 * l) (va_cpy (σ1 23) (σ1 (121 + 7 * l)) 0 0 4)) (120 + 7 * l) 2 1, ?_, ?_, ?_, ?_, by rw [wr_eq], ?_⟩
  · simp only [f_X6_store, Lt]
    rw [show 120 + 7 * l + 2 = 122 + 7 * l by omega, show 120 + 7 * l + 1 = 121 + 7 * l by omega, bd_ok e1]
  · intro k g h1 h2 h3
    rw [wr_ne (by omega), va_up_ne _ _ (by omega)]; exact e2 k g h1 h2 h3
  · intro j h1 h2
    rw [wr_ne (by omega), va_up_ne _ _ (by omega)]; exact e3 j h1 h2
  · intro j hj
    rw [wr_ne (by omega), va_up_self, pk_cpy_in (by omega) (by omega), e4 23 _ (by omega) (by omega) (by omega) (by omega) (by omega)]
    congr 1; omega
  · intro a i h1
    rw [wr_ne (by omega), va_up_ne _ _ (by omega)]; exact e4 a i (by omega) (by omega) (by omega) (by omega) (by omega)
theorem restore_ok {σ : Hp} {l : Nat} : ∃ σ', f_X6_restore σ (120 + 7 * l) 13 = some ((), σ') ∧ (∀ k g, 1 ≤ k → k ≤ 4 → g < 5 → σ' (13 + k) g = σ (122 + 7 * l + k) g) ∧ (∀ j, 5 ≤ j → j ≤ 8 → σ' 13 j = σ (122 + 7 * l) j) ∧ (∀ j, j < 4 → σ' 23 j = σ (121 + 7 * l) j) ∧ (∀ a i, (a < 13 ∨ 17 < a) → a ≠ 23 → σ' a i = σ a i) := by
  obtain ⟨σ1, e1, e2, e3, e4⟩ := copy_ok (σ := σ) (o := 13) (q := 122 + 7 * l) (by omega)
  refine ⟨va_up σ1 23 (va_cpy (σ1 (121 + 7 * l)) (σ1 23) 0 0 4), ?_, ?_, ?_, ?_, ?_⟩
  · simp only [f_X6_restore, Lt]
    rw [show 120 + 7 * l + 2 = 122 + 7 * l by omega, show 120 + 7 * l + 1 = 121 + 7 * l by omega, bd_ok e1]
  · intro k g h1 h2 h3
    rw [va_up_ne _ _ (by omega)]; exact e2 k g h1 h2 h3
  · intro j h1 h2
    rw [va_up_ne _ _ (by omega)]; exact e3 j h1 h2
  · intro j hj
    rw [va_up_self, pk_cpy_in (by omega) (by omega), e4 (121 + 7 * l) _ (by omega) (by omega) (by omega) (by omega) (by omega)]
    congr 1; omega
  · intro a i h1 h2
    rw [va_up_ne _ _ (by omega)]; exact e4 a i (by omega) (by omega) (by omega) (by omega) (by omega)
theorem keep78_loop {σ0 : Hp} {a : Nat} (ha : a + 36 ≤ 84) : ∀ (k i fuel : Nat) (σ : Hp), i + k = 4 → k < fuel → (∀ b j, ¬ (b = 149 ∧ a + 32 ≤ j ∧ j < a + 36) → σ b j = σ0 b j) → (∀ j, j < i → σ 149 (a + 32 + j) = σ0 143 j) → ∃ σ', f_X9_keep_78 fuel σ (nI a) (nI i) = some (σ0 134 14, σ') ∧ (∀ j, j < 4 → σ' 149 (a + 32 + j) = σ0 143 j) ∧ (∀ b j, ¬ (b = 149 ∧ a + 32 ≤ j ∧ j < a + 36) → σ' b j = σ0 b j) := by
  intro k
  induction k with
  | zero =>
    intro i fuel σ hi hf h1 h2
    obtain ⟨f, rfl⟩ : ∃ f, fuel = f + 1 := ⟨fuel - 1, by omega⟩
    have : i = 4 := by omega
    subst this
    simp only [f_X9_keep_78]
    rw [if_pos (show (4 : Int32) ≤ nI 4 by decide), h1 134 14 (by omega)]
    exact ⟨σ, rfl, h2, h1⟩
  | succ k ih =>
    intro i fuel σ hi hf h1 h2
    obtain ⟨f, rfl⟩ : ∃ f, fuel = f + 1 := ⟨fuel - 1, by omega⟩
    simp only [f_X9_keep_78, Lt, ad32, nI_add]
    rw [if_neg (show ¬ (4 : Int32) ≤ nI i from nI_ge (b := 4) (by omega) (by decide))]
    simp (disch := omega) only [ck_ok, ix_nI, ni_add1]
    refine ih (i + 1) f _ (by omega) (by omega) (fun b j h => by rw [wr_ne (by omega)]; exact h1 b j h) (fun j hj => ?_)
    by_cases e : j = i
    · subst e; rw [wr_eq]; exact h1 143 j (by omega)
    · rw [wr_ne (by omega)]; exact h2 j (by omega)
theorem keep40_loop {σ0 : Hp} {a : Nat} (ha : a + 36 ≤ 84) : ∀ (k i fuel : Nat) (σ : Hp), i + k = 5 → k < fuel → (∀ b j, ¬ (b = 149 ∧ a + 27 ≤ j ∧ j < a + 32) → σ b j = σ0 b j) → (∀ j, j < i → σ 149 (a + 27 + j) = b01 (σ0 140 j)) → ∃ σ', f_X9_keep_40 fuel σ (nI a) (nI i) = f_X9_keep_78 FU σ' (nI a) 0 ∧ (∀ j, j < 5 → σ' 149 (a + 27 + j) = b01 (σ0 140 j)) ∧ (∀ b j, ¬ (b = 149 ∧ a + 27 ≤ j ∧ j < a + 32) → σ' b j = σ0 b j) := by
  intro k
  induction k with
  | zero =>
    intro i fuel σ hi hf h1 h2
    obtain ⟨f, rfl⟩ : ∃ f, fuel = f + 1 := ⟨fuel - 1, by omega⟩
    have : i = 5 := by omega
    subst this
    simp only [f_X9_keep_40]
    rw [if_pos (show (5 : Int32) ≤ nI 5 by decide)]
    exact ⟨σ, rfl, h2, h1⟩
  | succ k ih =>
    intro i fuel σ hi hf h1 h2
    obtain ⟨f, rfl⟩ : ∃ f, fuel = f + 1 := ⟨fuel - 1, by omega⟩
    have key : ∀ v : Int32, v = b01 (σ0 140 i) → ∃ σ', f_X9_keep_40 f (wr σ 149 (a + 27 + i) v) (nI a) (nI (i + 1)) = f_X9_keep_78 FU σ' (nI a) 0 ∧ (∀ j, j < 5 → σ' 149 (a + 27 + j) = b01 (σ0 140 j)) ∧ (∀ b j, ¬ (b = 149 ∧ a + 27 ≤ j ∧ j < a + 32) → σ' b j = σ0 b j) := by
      intro v hv
      refine ih (i + 1) f _ (by omega) (by omega) (fun b j h => by rw [wr_ne (by omega)]; exact h1 b j h) (fun j hj => ?_)
      by_cases e : j = i
      · subst e; rw [wr_eq]; exact hv
      · rw [wr_ne (by omega)]; exact h2 j (by omega)
    simp only [f_X9_keep_40, f_X9_keep_69, Lt, ad27, nI_add]
    rw [if_neg (show ¬ (5 : Int32) ≤ nI i from nI_ge (b := 5) (by omega) (by decide))]
    simp (disch := omega) only [ck_ok, ix_nI, ni_add1]
    have r := h1 140 i (by omega)
    by_cases q : σ 140 i = 0
    · rw [if_pos q]; exact key 0 (by rw [← r, q]; rfl)
    · rw [if_neg q]; exact key 1 (by rw [← r, b01, if_neg q])
theorem again84_loop {σ0 : Hp} {a : Nat} (ha : a + 36 ≤ 84) : ∀ (k i fuel : Nat) (σ : Hp), i + k = 4 → k < fuel → (∀ b j, b ≠ 143 → σ b j = σ0 b j) → (∀ j, j < i → σ 143 j = σ0 149 (a + 32 + j)) → ∃ σ', f_X9_again_84 fuel σ (nI a) (nI i) = some (σ0 134 14, σ') ∧ (∀ j, j < 4 → σ' 143 j = σ0 149 (a + 32 + j)) ∧ σ' 134 25 = 0 ∧ (∀ b j, b ≠ 143 → ¬ (b = 134 ∧ j = 25) → σ' b j = σ0 b j) := by
  intro k
  induction k with
  | zero =>
    intro i fuel σ hi hf h1 h2
    obtain ⟨f, rfl⟩ : ∃ f, fuel = f + 1 := ⟨fuel - 1, by omega⟩
    have : i = 4 := by omega
    subst this
    simp only [f_X9_again_84, Lt]
    rw [if_pos (show (4 : Int32) ≤ nI 4 by decide), wr_ne (by omega), h1 134 14 (by omega)]
    exact ⟨_, rfl, fun j hj => by rw [wr_ne (by omega)]; exact h2 j hj, by rw [wr_eq], fun b j q1 q2 => by rw [wr_ne q2]; exact h1 b j q1⟩
  | succ k ih =>
    intro i fuel σ hi hf h1 h2
    obtain ⟨f, rfl⟩ : ∃ f, fuel = f + 1 := ⟨fuel - 1, by omega⟩
    simp only [f_X9_again_84, Lt, ad32, nI_add]
    rw [if_neg (show ¬ (4 : Int32) ≤ nI i from nI_ge (b := 4) (by omega) (by decide))]
    simp (disch := omega) only [ck_ok, ix_nI, ni_add1]
    refine ih (i + 1) f _ (by omega) (by omega) (fun b j h => by rw [wr_ne (by omega)]; exact h1 b j h) (fun j hj => ?_)
    by_cases e : j = i
    · subst e; rw [wr_eq]; exact h1 149 _ (by omega)
    · rw [wr_ne (by omega)]; exact h2 j (by omega)
theorem again45_loop {σ0 : Hp} {a : Nat} (ha : a + 36 ≤ 84) : ∀ (k i fuel : Nat) (σ : Hp), i + k = 5 → k < fuel → (∀ b j, b ≠ 140 → σ b j = σ0 b j) → (∀ j, j < i → σ 140 j = b1I (σ0 149 (a + 27 + j))) → ∃ σ', f_X9_again_45 fuel σ (nI a) (nI i) = f_X9_again_84 FU σ' (nI a) 0 ∧ (∀ j, j < 5 → σ' 140 j = b1I (σ0 149 (a + 27 + j))) ∧ (∀ b j, b ≠ 140 → σ' b j = σ0 b j) := by
  intro k
  induction k with
  | zero =>
    intro i fuel σ hi hf h1 h2
    obtain ⟨f, rfl⟩ : ∃ f, fuel = f + 1 := ⟨fuel - 1, by omega⟩
    have : i = 5 := by omega
    subst this
    simp only [f_X9_again_45]
    rw [if_pos (show (5 : Int32) ≤ nI 5 by decide)]
    exact ⟨σ, rfl, h2, h1⟩
  | succ k ih =>
    intro i fuel σ hi hf h1 h2
    obtain ⟨f, rfl⟩ : ∃ f, fuel = f + 1 := ⟨fuel - 1, by omega⟩
    have key : ∀ v : Int32, vp_nar .boolean v = b1I (σ0 149 (a + 27 + i)) → ∃ σ', f_X9_again_45 f (wr σ 140 i (vp_nar .boolean v)) (nI a) (nI (i + 1)) = f_X9_again_84 FU σ' (nI a) 0 ∧ (∀ j, j < 5 → σ' 140 j = b1I (σ0 149 (a + 27 + j))) ∧ (∀ b j, b ≠ 140 → σ' b j = σ0 b j) := by
      intro v hv
      refine ih (i + 1) f _ (by omega) (by omega) (fun b j h => by rw [wr_ne (by omega)]; exact h1 b j h) (fun j hj => ?_)
      by_cases e : j = i
      · subst e; rw [wr_eq]; exact hv
      · rw [wr_ne (by omega)]; exact h2 j (by omega)
    simp only [f_X9_again_45, f_X9_again_75, Lt, ad27, nI_add]
    rw [if_neg (show ¬ (5 : Int32) ≤ nI i from nI_ge (b := 5) (by omega) (by decide))]
    simp (disch := omega) only [ck_ok, ix_nI, ni_add1]
    have r := h1 149 (a + 27 + i) (by omega)
    by_cases q : σ 149 (a + 27 + i) = 1
    · rw [if_pos q]; exact key 1 (by rw [← r, q]; rfl)
    · rw [if_neg q]; exact key 0 (by rw [← r, b1I, if_neg q]; rfl)
theorem SlotI_loc {σ τ : Hp} {n l : Nat} (hn : n ≤ 5) (h : SlotI σ n l) (h1 : ∀ a i, 120 + 7 * l ≤ a → a ≤ 126 + 7 * l → τ a i = σ a i) (h2 : ∀ i, i < 42 → τ 149 (42 * l + i) = σ 149 (42 * l + i)) (h3 : τ 150 l = σ 150 l) : SlotI τ n l := by
  obtain ⟨f, q1, q2, q3⟩ := h
  refine ⟨f, by rw [h1 _ _ (by omega) (by omega)]; exact q1, by rw [h3]; exact q2, fun hf => ?_⟩
  obtain ⟨w1, ⟨ill, w2, w3⟩, w4⟩ := q3 hf
  refine ⟨Page_move hn w1 (fun b i v1 v2 => h1 b i (by omega) (by omega)) (fun i hi => h2 i (by omega)), ⟨ill, by rw [h1 _ _ (by omega) (by omega)]; exact w2, fun g hg => ?_⟩, fun j hj => ?_⟩
  · have := h2 (27 + g) (by omega)
    rw [← Nat.add_assoc] at this
    rw [this]; exact w3 g hg
  · obtain ⟨p, v1, v2, v3⟩ := w4 j hj
    have := h2 (32 + j) (by omega)
    rw [← Nat.add_assoc] at this
    exact ⟨p, v1, by rw [h1 _ _ (by omega) (by omega)]; exact v2, by rw [this]; exact v3⟩
theorem in_01 (σ : Hp) (x : Int32) : f_X9_in σ x.toInt64 (0 : Int64) (1 : Int64) = some (b2i (decide ((0 : Int32) ≤ x ∧ x ≤ 1)), σ) := in_ok σ x 0 1
theorem slot_out {x : Int32} (h : x < 0 ∨ (1 : Int32) < x) {α : Type} (u v w : α) : (if x < 0 then u else if x < (2 : Int32) then v else w) = if x < 0 then u else w := by
  by_cases q : x < 0
  · rw [if_pos q, if_pos q]
  · rw [if_neg q, if_neg q, if_neg]
    intro w2
    have h' := h.resolve_left q
    rw [Int32.lt_iff_toInt_lt] at w2 h'
    have z1 : (1 : Int32).toInt = 1 := rfl
    have z2 : (2 : Int32).toInt = 2 := rfl
    omega
theorem op_keep {σ : Hp} (h : Inv σ) (a1 : Int32) : OK2 (fun σ => f_X8_keep σ a1) (fun σ => f_X9_keep σ a1) σ := by
  have h0 := h
  obtain ⟨n, beds, lim, tw, t, s, d, nod, ill, i1, i2, i3, i4, ⟨i5, i5'⟩, i6, i7⟩ := h
  have i1' := i1
  obtain ⟨hc, b1, b2, b3, b4, hM, hr, bn, mr, bd1, bd2, bd3⟩ := i1
  have hn := hc.1
  rcases rng_cases a1 0 1 (by decide) (by decide) with ho | ⟨l, -, hl, rfl⟩
  · refine ⟨-1, σ, wr σ 134 0 0, ?_, ?_, Inv_scr h0 (thrown_scr σ)⟩
    · simp only [f_X8_keep]
      rw [slot_out (show a1 < 0 ∨ (1 : Int32) < a1 from ho)]
      split <;> rfl
    · simp only [f_X9_keep, Lt]
      rw [bd_ok (in_01 _ _), show decide ((0 : Int32) ≤ a1 ∧ a1 ≤ 1) = false from decide_eq_false (rng_no (lo := 0) (hi := 1) (by decide) (by decide) ho), b2i_f, if_pos rfl]
  · obtain ⟨σ1, e1, e2, e3, e4, e5, e6⟩ := store_ok (σ := σ) (l := l)
    have f1 : ∀ a i, a < 120 ∨ 133 < a → σ1 a i = σ a i := fun a i q => e6 a i (by omega)
    obtain ⟨σ2, l1, l2, l3⟩ := lay_ok (σ := wr (wr σ1 134 0 0) 150 l 1) (q := 149) (qn := 84) (a := 42 * l) (by omega) (by omega) (by omega)
    obtain ⟨σ3, m1, m2, m3⟩ := keep40_loop (σ0 := σ2) (a := 42 * l) (by omega) 5 0 FU σ2 (by omega) (FU_big (by omega)) (fun _ _ _ => rfl) (fun j hj => absurd hj (Nat.not_lt_zero j))
    obtain ⟨σ4, k1, k2, k3⟩ := keep78_loop (σ0 := σ3) (a := 42 * l) (by omega) 4 0 FU σ3 (by omega) (FU_big (by omega)) (fun _ _ _ => rfl) (fun j hj => absurd hj (Nat.not_lt_zero j))
    have f4 : ∀ a i, ¬ (a = 149 ∧ 42 * l ≤ i ∧ i < 42 * l + 36) → ¬ (a = 150 ∧ i = l) → ¬ (a = 134 ∧ i = 0) → σ4 a i = σ1 a i := fun a i q1 q2 q3 => (k3 a i (by omega)).trans ((m3 a i (by omega)).trans ((l2 a i (by omega)).trans ((wr_ne q2).trans (wr_ne q3))))
    have z4 : ∀ a i, (a < 120 ∨ 133 < a) → ¬ (a = 149 ∧ 42 * l ≤ i ∧ i < 42 * l + 36) → ¬ (a = 150 ∧ i = l) → ¬ (a = 134 ∧ i = 0) → σ4 a i = σ a i := fun a i q0 q1 q2 q3 => (f4 a i q1 q2 q3).trans (f1 a i q0)
    have z2 : ∀ a i, 134 ≤ a → a < 149 → ¬ (a = 134 ∧ i = 0) → σ2 a i = σ a i := fun a i q0 q1 q2 => (l2 a i (by omega)).trans ((wr_ne (by omega)).trans ((wr_ne q2).trans (f1 a i (by omega))))
    have z3 : ∀ a i, 134 ≤ a → a < 149 → ¬ (a = 134 ∧ i = 0) → σ3 a i = σ a i := fun a i q0 q1 q2 => (m3 a i (by omega)).trans (z2 a i q0 q1 q2)
    have hs : SlotI σ4 n l := by
      refine ⟨true, ?_, ?_, fun _ => ⟨?_, ⟨ill, ?_, fun g hg => ?_⟩, fun j hj => ?_⟩⟩
      · rw [f4 _ _ (by omega) (by omega) (by omega), e5]; rfl
      · rw [k3 _ _ (by omega), m3 _ _ (by omega), l2 _ _ (by omega), wr_eq]; rfl
      · refine page_new i1' (fun k g q1 q2 q3 => ?_) (fun j q1 q2 => ?_) ?_
        · rw [f4 _ _ (by omega) (by omega) (by omega)]; exact e2 k g q1 q2 q3
        · rw [f4 _ _ (by omega) (by omega) (by omega)]; exact e3 j q1 q2
        · exact LayD_congr l3 (fun b i q1 q2 => by rw [wr_ne (by omega), wr_ne (by omega)]; exact (f1 b i (by omega)).symm) (fun i hi => by rw [wr_ne (by omega), wr_ne (by omega)]; exact (f1 _ i (by omega)).symm) (fun i hi => by rw [k3 _ _ (by omega), m3 _ _ (by omega)])
      · rw [f4 _ _ (by omega) (by omega) (by omega), e3 6 (by omega) (by omega)]; exact hr.2.2
      · rw [k3 _ _ (by omega), m2 g (by omega), z2 _ _ (by omega) (by omega) (by omega), hM.2.2.2.2.2.2 g hg, b01_b]
      · obtain ⟨p, v1, v2, v3⟩ := i2 j hj
        exact ⟨p, v1, by rw [f4 _ _ (by omega) (by omega) (by omega), e4 j hj]; exact v2, by rw [k2 j hj, z3 _ _ (by omega) (by omega) (by omega)]; exact v3⟩
    have ho : ∀ l2, l2 < 2 → l2 ≠ l → SlotI σ n l2 → SlotI σ4 n l2 := fun l2 q1 q2 q3 => SlotI_loc hn q3 (fun a i w1 w2 => (f4 a i (by omega) (by omega) (by omega)).trans (e6 a i (by omega))) (fun i hi => z4 _ _ (by omega) (by omega) (by omega) (by omega)) (z4 _ _ (by omega) (by omega) (by omega) (by omega))
    refine ⟨σ 134 14, σ1, σ4, ?_, ?_, n, beds, lim, tw, t, s, d, nod, ill, keep_c i1' ?_, keep_p i2 ?_, keep_t i3 ?_, keep_a i4 ?_, ?_, keep_b i6 ?_, keep_q i7 ?_⟩
    · simp only [f_X8_keep]
      rw [if_neg (nI_pos (by omega)), if_pos (show nI l < (2 : Int32) from nI_lt (b := 2) (by omega) (by decide)), ck_ok _ (show l < 2 by omega) (by decide), ix_nI (by omega), bd_ok e1, f1 13 7 (by omega), bd2]
    · simp only [f_X9_keep, Lt]
      rw [bd_ok (in_01 _ _), show decide ((0 : Int32) ≤ nI l ∧ nI l ≤ 1) = true from decide_eq_true ⟨nI_pos' (by omega), nI_le (b := 1) hl (by decide)⟩, b2i_t, if_neg (by decide), ck_ok _ (show l < 2 by omega) (by decide), ix_nI (by omega), show (42 : Int32) * nI l = nI (42 * l) from pk_mul 42 l, show vp_nar .boolean (1 : Int32) = 1 from rfl, bd_ok l1]
      rw [show f_X9_keep_40 FU σ2 (nI (42 * l)) 0 = _ from m1, show f_X9_keep_78 FU σ3 (nI (42 * l)) 0 = _ from k1, z3 134 14 (by omega) (by omega) (by omega)]
    · exact fun a i q => (by unfold Rc at q; exact z4 a i (by omega) (by omega) (by omega) (by omega))
    · exact fun a i q => (by unfold Rp at q; exact z4 a i (by omega) (by omega) (by omega) (by omega))
    · exact fun a i q => (by unfold Rt at q; exact z4 a i (by omega) (by omega) (by omega) (by omega))
    · exact fun a i q => (by unfold Ra at q; exact z4 a i (by omega) (by omega) (by omega) (by omega))
    · rcases (show l = 0 ∨ l = 1 by omega) with rfl | rfl
      · exact ⟨hs, ho 1 (by omega) (by omega) i5'⟩
      · exact ⟨ho 0 (by omega) (by omega) i5, hs⟩
    · exact fun a i q => (by unfold Rb at q; exact z4 a i (by omega) (by omega) (by omega) (by omega))
    · exact fun a i q => (by unfold Rq at q; exact z4 a i (by omega) (by omega) (by omega) (by omega))
theorem op_again {σ : Hp} (h : Inv σ) (a1 : Int32) : OK2 (fun σ => f_X8_again σ a1) (fun σ => f_X9_again σ a1) σ := by
  have h0 := h
  obtain ⟨n, beds, lim, tw, t, s, d, nod, ill, i1, i2, i3, i4, i5, i6, i7⟩ := h
  have i1' := i1
  obtain ⟨hc, b1, b2, b3, b4, hM, hr, bn, mr, bd1, bd2, bd3⟩ := i1
  have hn := hc.1
  rcases rng_cases a1 0 1 (by decide) (by decide) with ho | ⟨l, -, hl, rfl⟩
  · refine ⟨-1, σ, wr σ 134 0 0, ?_, ?_, Inv_scr h0 (thrown_scr σ)⟩
    · simp only [f_X8_again]
      rw [slot_out (show a1 < 0 ∨ (1 : Int32) < a1 from ho)]
      split <;> rfl
    · simp only [f_X9_again, Lt]
      rw [bd_ok (in_01 _ _), show decide ((0 : Int32) ≤ a1 ∧ a1 ≤ 1) = false from decide_eq_false (rng_no (lo := 0) (hi := 1) (by decide) (by decide) ho), b2i_f, if_pos rfl]
  · have hs : SlotI σ n l := by
      rcases (show l = 0 ∨ l = 1 by omega) with rfl | rfl
      · exact i5.1
      · exact i5.2
    have hin : decide ((0 : Int32) ≤ nI l ∧ nI l ≤ 1) = true := decide_eq_true ⟨nI_pos' (by omega), nI_le (b := 1) hl (by decide)⟩
    obtain ⟨f, s1, s2, s3⟩ := hs
    cases f with
    | false =>
      refine ⟨-3, σ, wr σ 134 0 0, ?_, ?_, Inv_scr h0 (thrown_scr σ)⟩
      · simp only [f_X8_again]
        rw [if_neg (nI_pos (by omega)), if_pos (show nI l < (2 : Int32) from nI_lt (b := 2) (by omega) (by decide))]
        simp (disch := omega) only [ck_ok, ix_nI]
        rw [s1, b2i_f, if_pos rfl]
      · simp only [f_X9_again, Lt]
        rw [bd_ok (in_01 _ _), hin, b2i_t, if_neg (by decide), ck_ok _ (show l < 2 by omega) (by decide), ix_nI (by omega), wr_ne (by omega), s2, b2i_f, if_pos rfl]
    | true =>
      obtain ⟨⟨T, S, D, N, w0, w1, w2, w3, w4⟩, ⟨ill', x1, x2⟩, x3⟩ := s3 rfl
      obtain ⟨σ1, e1, e2, e3, e4, e5⟩ := restore_ok (σ := σ) (l := l)
      obtain ⟨σ2, g1, g2, g3, g4, g5⟩ := take_ok (σ := wr (wr σ1 24 2 0) 134 0 0) (q := 149) (qn := 84) (a := 42 * l) (by omega) (by omega) (by omega)
      obtain ⟨σ3, m1, m2, m3⟩ := again45_loop (σ0 := σ2) (a := 42 * l) (by omega) 5 0 FU σ2 (by omega) (FU_big (by omega)) (fun _ _ _ => rfl) (fun j hj => absurd hj (Nat.not_lt_zero j))
      obtain ⟨σ4, k1, k2, k4, k3⟩ := again84_loop (σ0 := σ3) (a := 42 * l) (by omega) 4 0 FU σ3 (by omega) (FU_big (by omega)) (fun _ _ _ => rfl) (fun j hj => absurd hj (Nat.not_lt_zero j))
      have q49 : ∀ i, (wr (wr σ1 24 2 0) 134 0 0) 149 i = σ 149 i := fun i => (wr_ne (by omega)).trans ((wr_ne (by omega)).trans (e5 149 i (by omega) (by omega)))
      have t49 : ∀ i, σ2 149 i = σ 149 i := fun i => (g2 149 i (by omega) (by omega) (by omega) (by omega) (by omega) (by omega)).trans (q49 i)
      have u49 : ∀ i, σ3 149 i = σ 149 i := fun i => (m3 149 i (by omega)).trans (t49 i)
      have f4 : ∀ a i, a ≠ 143 → a ≠ 140 → ¬ (a = 134 ∧ (i = 0 ∨ i = 14 ∨ i = 15 ∨ i = 25)) → a ≠ 136 → a ≠ 137 → a ≠ 138 → a ≠ 139 → a ≠ 142 → ¬ (a = 24 ∧ i = 2) → σ4 a i = σ1 a i := fun a i q1 q2 q3 q4 q5 q6 q7 q8 q9 => (k3 a i q1 (by omega)).trans ((m3 a i q2).trans ((g2 a i q4 q5 q6 q7 q8 (by omega)).trans ((wr_ne (by omega)).trans (wr_ne q9))))
      have z4 : ∀ a i, (a < 13 ∨ 17 < a) → a ≠ 23 → a ≠ 143 → a ≠ 140 → ¬ (a = 134 ∧ (i = 0 ∨ i = 14 ∨ i = 15 ∨ i = 25)) → a ≠ 136 → a ≠ 137 → a ≠ 138 → a ≠ 139 → a ≠ 142 → ¬ (a = 24 ∧ i = 2) → σ4 a i = σ a i := fun a i p1 p2 q1 q2 q3 q4 q5 q6 q7 q8 q9 => (f4 a i q1 q2 q3 q4 q5 q6 q7 q8 q9).trans (e5 a i p1 p2)
      have c4 : ∀ a i, 13 ≤ a → a ≤ 23 → σ4 a i = σ1 a i := fun a i p1 p2 => f4 a i (by omega) (by omega) (by omega) (by omega) (by omega) (by omega) (by omega) (by omega) (by omega)
      have v4 : ∀ a i, 136 ≤ a → a ≤ 139 ∨ a = 142 → σ4 a i = σ2 a i := fun a i p1 p2 => (k3 a i (by omega) (by omega)).trans (m3 a i (by omega))
      have v4' : ∀ i, i = 14 ∨ i = 15 → σ4 134 i = σ2 134 i := fun i p2 => (k3 134 i (by omega) (by omega)).trans (m3 134 i (by omega))
      have hres : (wr σ1 24 2 0) 13 7 = σ3 134 14 := by
        rw [wr_ne (by omega), e3 7 (by omega) (by omega), m3 134 14 (by omega), g4, q49]; exact w3
      refine ⟨σ3 134 14, wr σ1 24 2 0, σ4, ?_, ?_, n, beds, lim, tw, T, S, D, N, ill', core_new i1' (fun i => z4 _ i (by omega) (by omega) (by omega) (by omega) (by omega) (by omega) (by omega) (by omega) (by omega) (by omega) (by omega)) (fun i => z4 _ i (by omega) (by omega) (by omega) (by omega) (by omega) (by omega) (by omega) (by omega) (by omega) (by omega) (by omega)) (fun i hi => z4 _ i (by omega) (by omega) (by omega) (by omega) (by omega) (by omega) (by omega) (by omega) (by omega) (by omega) (by omega)) (fun i => z4 _ i (by omega) (by omega) (by omega) (by omega) (by omega) (by omega) (by omega) (by omega) (by omega) (by omega) (by omega)) ?_ ?_ w0 ?_ ?_ ?_ ?_, ?_, keep_t i3 ?_, ?_, keep_s i5 ?_, keep_b i6 ?_, keep_q i7 ?_⟩
      · simp only [f_X8_again, Lt]
        rw [if_neg (nI_pos (by omega)), if_pos (show nI l < (2 : Int32) from nI_lt (b := 2) (by omega) (by decide))]
        simp (disch := omega) only [ck_ok, ix_nI]
        rw [s1, b2i_t, if_neg (by decide), bd_ok e1, hres]
      · simp only [f_X9_again, Lt]
        rw [bd_ok (in_01 _ _), hin, b2i_t, if_neg (by decide), ck_ok _ (show l < 2 by omega) (by decide), ix_nI (by omega), wr_ne (by omega), wr_ne (by omega), e5 150 l (by omega) (by omega), s2, b2i_t, if_neg (by decide), show (42 : Int32) * nI l = nI (42 * l) from pk_mul 42 l, bd_ok g1]
        rw [show f_X9_again_45 FU σ2 (nI (42 * l)) 0 = _ from m1]; exact k1
      · intro g hg
        rw [k3 140 g (by omega) (by omega), m2 g (by omega), t49, x2 g hg, b1I_b]
      · refine ⟨fun g hg => ?_, ?_, ?_⟩
        · obtain ⟨y1, y2, y3, -⟩ := w1 g hg
          rw [c4 _ _ (by omega) (by omega), c4 _ _ (by omega) (by omega), c4 _ _ (by omega) (by omega), e2 1 g (by omega) (by omega) (by omega), e2 2 g (by omega) (by omega) (by omega), e2 3 g (by omega) (by omega) (by omega)]
          exact ⟨y1, y2, y3⟩
        · rw [c4 _ _ (by omega) (by omega), e3 5 (by omega) (by omega)]; exact w2
        · rw [c4 _ _ (by omega) (by omega), e3 6 (by omega) (by omega)]; exact x1
      · intro g hg
        obtain ⟨v1, v2, v3, v5, v6⟩ := g3 g (by omega)
        obtain ⟨y1, y2, y3, y4, y5, y6, y7, y8⟩ := w1 g hg
        rw [v4 _ _ (by omega) (by omega), v4 _ _ (by omega) (by omega), v4 _ _ (by omega) (by omega), v4 _ _ (by omega) (by omega), v1, v2, v3, v5, q49, q49, q49, q49, y4, y5, y6, y7, b1I_b]
        exact ⟨rfl, rfl, rfl, rfl⟩
      · intro g hg
        obtain ⟨v1, v2, v3, v5, v6⟩ := g3 g (by omega)
        rw [c4 17 g (by omega) (by omega), v4 142 g (by omega) (by omega), v6, q49, e2 4 g (by omega) (by omega) (by omega)]
        exact (w1 g hg).2.2.2.2.2.2.2
      · rw [c4 _ _ (by omega) (by omega), v4' 14 (by omega), g4, q49, e3 7 (by omega) (by omega)]; exact w3
      · rw [c4 _ _ (by omega) (by omega), v4' 15 (by omega), g5, q49, e3 8 (by omega) (by omega)]; exact w4
      · intro j hj
        obtain ⟨p, y1, y2, y3⟩ := x3 j hj
        exact ⟨p, y1, by rw [c4 _ _ (by omega) (by omega), e4 j hj]; exact y2, by rw [k2 j hj, u49]; exact y3⟩
      · exact fun a i q => (by unfold Rt at q; exact z4 a i (by omega) (by omega) (by omega) (by omega) (by omega) (by omega) (by omega) (by omega) (by omega) (by omega) (by omega))
      · obtain ⟨c, e, q1, q2, q3, q4, q5, q6⟩ := i4
        refine ⟨0, e, by omega, q2, ?_, ?_, ?_, fun j hj => absurd hj (Nat.not_lt_zero j)⟩
        · rw [z4 _ _ (by omega) (by omega) (by omega) (by omega) (by omega) (by omega) (by omega) (by omega) (by omega) (by omega) (by omega)]; exact q3
        · rw [k3 _ _ (by omega) (by omega), m3 _ _ (by omega), g2 _ _ (by omega) (by omega) (by omega) (by omega) (by omega) (by omega), wr_ne (by omega), wr_eq]; rfl
        · rw [k4]; rfl
      · exact fun a i q => (by unfold Rs at q; exact z4 a i (by omega) (by omega) (by omega) (by omega) (by omega) (by omega) (by omega) (by omega) (by omega) (by omega) (by omega))
      · exact fun a i q => (by unfold Rb at q; exact z4 a i (by omega) (by omega) (by omega) (by omega) (by omega) (by omega) (by omega) (by omega) (by omega) (by omega) (by omega))
      · exact fun a i q => (by unfold Rq at q; exact z4 a i (by omega) (by omega) (by omega) (by omega) (by omega) (by omega) (by omega) (by omega) (by omega) (by omega) (by omega))
