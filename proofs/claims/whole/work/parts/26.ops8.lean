theorem ad5 (a : Nat) : nI a + (5 : Int32) = nI (a + 5) := nI_add a 5
theorem ad10 (a : Nat) : nI a + (10 : Int32) = nI (a + 10) := nI_add a 10
theorem ad15 (a : Nat) : nI a + (15 : Int32) = nI (a + 15) := nI_add a 15
theorem ad20 (a : Nat) : nI a + (20 : Int32) = nI (a + 20) := nI_add a 20
theorem ad25 (a : Nat) : nI a + (25 : Int32) = nI (a + 25) := nI_add a 25
theorem ad26 (a : Nat) : nI a + (26 : Int32) = nI (a + 26) := nI_add a 26
theorem ad27 (a : Nat) : nI a + (27 : Int32) = nI (a + 27) := nI_add a 27
theorem ad32 (a : Nat) : nI a + (32 : Int32) = nI (a + 32) := nI_add a 32
theorem i32_a0 (x : Int32) : x + 0 = x := Int32.add_zero x
def b01 (x : Int32) : Int32 := if x = 0 then 0 else 1
theorem b01_b (b : Bool) : b01 (b2i b) = b2i b := by cases b <;> rfl
def Lay (σ0 σ : Hp) (q a i : Nat) : Prop := ∀ g, g < i → σ q (a + g) = σ0 136 g ∧ σ q (a + 5 + g) = σ0 137 g ∧ σ q (a + 10 + g) = σ0 138 g ∧ σ q (a + 15 + g) = b01 (σ0 139 g) ∧ σ q (a + 20 + g) = σ0 142 g
def LayD (σ0 σ : Hp) (q a : Nat) : Prop := Lay σ0 σ q a 5 ∧ σ q (a + 25) = σ0 134 14 ∧ σ q (a + 26) = σ0 134 15
def FrP (σ0 σ : Hp) (q a : Nat) : Prop := ∀ b i, ¬ (b = q ∧ a ≤ i ∧ i < a + 27) → σ b i = σ0 b i
theorem lay_loop {σ0 : Hp} {q qn a : Nat} (hq : 143 ≤ q) (ha : a + 27 ≤ qn) (hqn : qn < 1000) : ∀ (k i fuel : Nat) (σ : Hp), i + k = 5 → k < fuel → FrP σ0 σ q a → Lay σ0 σ q a i → ∃ σ', f_X9_layPage_2 q qn fuel σ (nI a) (nI i) = some ((), σ') ∧ FrP σ0 σ' q a ∧ LayD σ0 σ' q a := by
  intro k
  induction k with
  | zero =>
    intro i fuel σ hi hf hfr hL
    obtain ⟨f, rfl⟩ : ∃ f, fuel = f + 1 := ⟨fuel - 1, by omega⟩
    have : i = 5 := by omega
    subst this
    simp only [f_X9_layPage_2, Lt, ad25, ad26]
    rw [if_pos (show (5 : Int32) ≤ nI 5 by decide)]
    simp (disch := omega) only [ck_ok, ix_nI, wr_ne]
    refine ⟨_, rfl, fun b j h => ?_, fun g hg => ?_, ?_, ?_⟩
    · simp (disch := omega) only [wr_ne]; exact hfr b j h
    · simp (disch := omega) only [wr_ne]; exact hL g hg
    · simp (disch := omega) only [wr_ne]; rw [wr_eq]; exact hfr 134 14 (by omega)
    · rw [wr_eq]; exact hfr 134 15 (by omega)
  | succ k ih =>
    intro i fuel σ hi hf hfr hL
    obtain ⟨f, rfl⟩ : ∃ f, fuel = f + 1 := ⟨fuel - 1, by omega⟩
    have hi5 : i < 5 := by omega
    have r : ∀ b, 136 ≤ b → b ≤ 142 → σ b i = σ0 b i := fun b h1 h2 => hfr b i (by omega)
    have key : ∀ v : Int32, v = b01 (σ0 139 i) → ∃ σ', f_X9_layPage_66 (f_X9_layPage_2 q qn f) q qn (wr (wr (wr σ q (a + i) (σ 136 i)) q (a + 5 + i) (σ 137 i)) q (a + 10 + i) (σ 138 i)) (nI a) (nI i) v (nI (a + 15 + i)) = some ((), σ') ∧ FrP σ0 σ' q a ∧ LayD σ0 σ' q a := by
      intro v hv
      simp only [f_X9_layPage_66, Lt, ad20, nI_add]
      simp (disch := omega) only [ck_ok, ix_nI, wr_ne, ni_add1]
      refine ih (i + 1) f _ (by omega) (by omega) (fun b j h => ?_) (fun g hg => ?_)
      · simp (disch := omega) only [wr_ne]; exact hfr b j h
      · by_cases e : g = i
        · subst e
          refine ⟨?_, ?_, ?_, ?_, ?_⟩
          · simp (disch := omega) only [wr_ne]; rw [wr_eq]; exact r 136 (by omega) (by omega)
          · simp (disch := omega) only [wr_ne]; rw [wr_eq]; exact r 137 (by omega) (by omega)
          · simp (disch := omega) only [wr_ne]; rw [wr_eq]; exact r 138 (by omega) (by omega)
          · simp (disch := omega) only [wr_ne]; rw [wr_eq]; exact hv
          · rw [wr_eq]; exact r 142 (by omega) (by omega)
        · have := hL g (by omega)
          simp (disch := omega) only [wr_ne]; exact this
    simp only [f_X9_layPage_2, Lt, ad5, ad10, ad15, nI_add]
    rw [if_neg (show ¬ (5 : Int32) ≤ nI i from nI_ge (b := 5) hi5 (by decide))]
    simp (disch := omega) only [ck_ok, ix_nI, wr_ne]
    by_cases h0 : σ 139 i = 0
    · rw [if_pos h0]
      refine key 0 ?_
      rw [← r 139 (by omega) (by omega), h0]; rfl
    · rw [if_neg h0]
      refine key 1 ?_
      rw [← r 139 (by omega) (by omega), b01, if_neg h0]
theorem lay_ok {σ : Hp} {q qn a : Nat} (hq : 143 ≤ q) (ha : a + 27 ≤ qn) (hqn : qn < 1000) : ∃ σ', f_X9_layPage σ q qn (nI a) = some ((), σ') ∧ FrP σ σ' q a ∧ LayD σ σ' q a := lay_loop hq ha hqn 5 0 FU σ (by omega) (FU_big (by omega)) (fun _ _ _ => rfl) (fun g hg => absurd hg (Nat.not_lt_zero g))
theorem LayD_congr {σ0 σ1 σ τ : Hp} {q a : Nat} (h : LayD σ0 σ q a) (h1 : ∀ b i, 136 ≤ b → b ≤ 142 → σ1 b i = σ0 b i) (h2 : ∀ i, i = 14 ∨ i = 15 → σ1 134 i = σ0 134 i) (h3 : ∀ i, i < 27 → τ q (a + i) = σ q (a + i)) : LayD σ1 τ q a := by
  obtain ⟨h4, h5, h6⟩ := h
  refine ⟨fun g hg => ?_, by rw [h3 25 (by omega), h2 14 (by omega)]; exact h5, by rw [h3 26 (by omega), h2 15 (by omega)]; exact h6⟩
  have e1 := h3 g (by omega)
  have e2 := h3 (5 + g) (by omega)
  have e3 := h3 (10 + g) (by omega)
  have e4 := h3 (15 + g) (by omega)
  have e5 := h3 (20 + g) (by omega)
  rw [← Nat.add_assoc] at e2 e3 e4 e5
  rw [e1, e2, e3, e4, e5, h1 136 g (by omega) (by omega), h1 137 g (by omega) (by omega), h1 138 g (by omega) (by omega), h1 139 g (by omega) (by omega), h1 142 g (by omega) (by omega)]
  exact h4 g hg
/-! a page taken -/
def b1I (x : Int32) : Int32 := if x = 1 then 1 else 0
theorem b1I_b (b : Bool) : b1I (b2i b) = b2i b := by cases b <;> rfl
def Tak (σ0 σ : Hp) (q a i : Nat) : Prop := ∀ g, g < i → σ 136 g = σ0 q (a + g) ∧ σ 137 g = σ0 q (a + 5 + g) ∧ σ 138 g = σ0 q (a + 10 + g) ∧ σ 139 g = b1I (σ0 q (a + 15 + g)) ∧ σ 142 g = σ0 q (a + 20 + g)
def FrT (σ0 σ : Hp) : Prop := ∀ b i, b ≠ 136 → b ≠ 137 → b ≠ 138 → b ≠ 139 → b ≠ 142 → ¬ (b = 134 ∧ (i = 14 ∨ i = 15)) → σ b i = σ0 b i
theorem take_loop {σ0 : Hp} {q qn a : Nat} (hq : 143 ≤ q) (ha : a + 27 ≤ qn) (hqn : qn < 1000) : ∀ (k i fuel : Nat) (σ : Hp), i + k = 5 → k < fuel → FrT σ0 σ → Tak σ0 σ q a i → ∃ σ', f_X9_takePage_2 q qn fuel σ (nI a) (nI i) = some ((), σ') ∧ FrT σ0 σ' ∧ Tak σ0 σ' q a 5 ∧ σ' 134 14 = σ0 q (a + 25) ∧ σ' 134 15 = σ0 q (a + 26) := by
  intro k
  induction k with
  | zero =>
    intro i fuel σ hi hf hfr hL
    obtain ⟨f, rfl⟩ : ∃ f, fuel = f + 1 := ⟨fuel - 1, by omega⟩
    have : i = 5 := by omega
    subst this
    simp only [f_X9_takePage_2, Lt, ad25, ad26]
    rw [if_pos (show (5 : Int32) ≤ nI 5 by decide)]
    simp (disch := omega) only [ck_ok, ix_nI, wr_ne]
    refine ⟨_, rfl, fun b j h1 h2 h3 h4 h5 h6 => ?_, fun g hg => ?_, ?_, ?_⟩
    · simp (disch := omega) only [wr_ne]; exact hfr b j h1 h2 h3 h4 h5 h6
    · simp (disch := omega) only [wr_ne]; exact hL g hg
    · simp (disch := omega) only [wr_ne]; rw [wr_eq]; exact hfr q (a + 25) (by omega) (by omega) (by omega) (by omega) (by omega) (by omega)
    · rw [wr_eq]; exact hfr q (a + 26) (by omega) (by omega) (by omega) (by omega) (by omega) (by omega)
  | succ k ih =>
    intro i fuel σ hi hf hfr hL
    obtain ⟨f, rfl⟩ : ∃ f, fuel = f + 1 := ⟨fuel - 1, by omega⟩
    have hi5 : i < 5 := by omega
    have r : ∀ j, σ q j = σ0 q j := fun j => hfr q j (by omega) (by omega) (by omega) (by omega) (by omega) (by omega)
    have key : ∀ v : Int32, vp_nar .boolean v = b1I (σ0 q (a + 15 + i)) → ∃ σ', f_X9_takePage_67 (f_X9_takePage_2 q qn f) q qn (wr (wr (wr σ 136 i (σ q (a + i))) 137 i (σ q (a + 5 + i))) 138 i (σ q (a + 10 + i))) (nI a) (nI i) v (nI i) = some ((), σ') ∧ FrT σ0 σ' ∧ Tak σ0 σ' q a 5 ∧ σ' 134 14 = σ0 q (a + 25) ∧ σ' 134 15 = σ0 q (a + 26) := by
      intro v hv
      simp only [f_X9_takePage_67, Lt, ad20, nI_add]
      simp (disch := omega) only [ck_ok, ix_nI, wr_ne, ni_add1]
      refine ih (i + 1) f _ (by omega) (by omega) (fun b j h1 h2 h3 h4 h5 h6 => ?_) (fun g hg => ?_)
      · simp (disch := omega) only [wr_ne]; exact hfr b j h1 h2 h3 h4 h5 h6
      · by_cases e : g = i
        · subst e
          refine ⟨?_, ?_, ?_, ?_, ?_⟩
          · simp (disch := omega) only [wr_ne]; rw [wr_eq]; exact r _
          · simp (disch := omega) only [wr_ne]; rw [wr_eq]; exact r _
          · simp (disch := omega) only [wr_ne]; rw [wr_eq]; exact r _
          · simp (disch := omega) only [wr_ne]; rw [wr_eq]; exact hv
          · rw [wr_eq]; exact r _
        · have := hL g (by omega)
          simp (disch := omega) only [wr_ne]; exact this
    simp only [f_X9_takePage_2, Lt, ad5, ad10, ad15, nI_add]
    rw [if_neg (show ¬ (5 : Int32) ≤ nI i from nI_ge (b := 5) hi5 (by decide))]
    simp (disch := omega) only [ck_ok, ix_nI, wr_ne]
    by_cases h0 : σ q (a + 15 + i) = 1
    · rw [if_pos h0]
      refine key 1 ?_
      rw [← r, h0]; rfl
    · rw [if_neg h0]
      refine key 0 ?_
      rw [← r, b1I, if_neg h0]; rfl
theorem take_ok {σ : Hp} {q qn a : Nat} (hq : 143 ≤ q) (ha : a + 27 ≤ qn) (hqn : qn < 1000) : ∃ σ', f_X9_takePage σ q qn (nI a) = some ((), σ') ∧ FrT σ σ' ∧ Tak σ σ' q a 5 ∧ σ' 134 14 = σ q (a + 25) ∧ σ' 134 15 = σ q (a + 26) := take_loop hq ha hqn 5 0 FU σ (by omega) (FU_big (by omega)) (fun _ _ _ _ _ _ _ _ => rfl) (fun g hg => absurd hg (Nat.not_lt_zero g))
/-! a page noted -/
theorem shift_loop {σ0 : Hp} : ∀ (k i fuel : Nat) (σ : Hp), i + k = 297 → k < fuel → (∀ b j, b ≠ 148 → σ b j = σ0 b j) → (∀ j, j < i → σ 148 j = σ0 148 (j + 27)) → (∀ j, i ≤ j → σ 148 j = σ0 148 j) → ∃ σ', f_X9_note_11 fuel σ (nI i) = f_X9_note_49 (wr σ' 134 25 (σ0 134 25 - 1)) ∧ (∀ b j, b ≠ 148 → σ' b j = σ0 b j) ∧ (∀ j, j < 297 → σ' 148 j = σ0 148 (j + 27)) := by
  intro k
  induction k with
  | zero =>
    intro i fuel σ hi hf h1 h2 h3
    obtain ⟨f, rfl⟩ : ∃ f, fuel = f + 1 := ⟨fuel - 1, by omega⟩
    have : i = 297 := by omega
    subst this
    simp only [f_X9_note_11, Lt]
    rw [if_pos (show (297 : Int32) ≤ nI 297 by decide), h1 134 25 (by decide)]
    exact ⟨σ, rfl, h1, h2⟩
  | succ k ih =>
    intro i fuel σ hi hf h1 h2 h3
    obtain ⟨f, rfl⟩ : ∃ f, fuel = f + 1 := ⟨fuel - 1, by omega⟩
    simp only [f_X9_note_11, Lt, ad27]
    rw [if_neg (show ¬ (297 : Int32) ≤ nI i from nI_ge (b := 297) (by omega) (by decide))]
    simp (disch := omega) only [ck_ok, ix_nI, ni_add1]
    refine ih (i + 1) f _ (by omega) (by omega) (fun b j h => ?_) (fun j hj => ?_) (fun j hj => ?_)
    · rw [wr_ne (by omega)]; exact h1 b j h
    · by_cases e : j = i
      · subst e; rw [wr_eq]; exact h3 _ (by omega)
      · rw [wr_ne (by omega)]; exact h2 j (by omega)
    · rw [wr_ne (by omega)]; exact h3 j (by omega)
theorem note49_ok {σ : Hp} {c : Nat} (hc : c ≤ 11) (h : σ 134 25 = nI c) : ∃ σ', f_X9_note_49 σ = some ((), σ') ∧ σ' 134 25 = nI (c + 1) ∧ (∀ i, i < 27 * c → σ' 148 i = σ 148 i) ∧ LayD σ σ' 148 (27 * c) ∧ (∀ b i, b ≠ 148 → ¬ (b = 134 ∧ i = 25) → σ' b i = σ b i) := by
  obtain ⟨σ1, e1, e2, e3⟩ := lay_ok (σ := σ) (q := 148) (qn := 324) (a := 27 * c) (by omega) (by omega) (by omega)
  refine ⟨wr σ1 134 25 (nI (c + 1)), ?_, by rw [wr_eq], fun i hi => ?_, ?_, fun b i h1 h2 => ?_⟩
  · simp only [f_X9_note_49, Lt]
    rw [h, show (27 : Int32) * nI c = nI (27 * c) from pk_mul 27 c, bd_ok e1, e2 134 25 (by omega), h, ni_add1]
  · rw [wr_ne (by omega)]; exact e2 148 i (by omega)
  · exact LayD_congr e3 (fun _ _ _ _ => rfl) (fun _ _ => rfl) (fun i _ => wr_ne (by omega))
  · rw [wr_ne (by omega)]; exact e2 b i (by omega)
theorem note_ok {σ : Hp} {c : Nat} (hc : c ≤ 12) (h : σ 134 25 = nI c) : ∃ σ', f_X9_note σ = some ((), σ') ∧ σ' 134 25 = nI (min (c + 1) 12) ∧ (∀ j i, j < min c 11 → i < 27 → σ' 148 (27 * j + i) = σ 148 (27 * (j + (c - min c 11)) + i)) ∧ LayD σ σ' 148 (27 * min c 11) ∧ (∀ b i, b ≠ 148 → ¬ (b = 134 ∧ i = 25) → σ' b i = σ b i) := by
  simp only [f_X9_note]
  by_cases q : c = 12
  · subst q
    rw [if_pos (show σ 134 25 = (12 : Int32) from h)]
    obtain ⟨σ1, e1, e2, e3⟩ := shift_loop (σ0 := σ) 297 0 FU σ (by omega) (FU_big (by omega)) (fun _ _ _ => rfl) (fun j hj => absurd hj (Nat.not_lt_zero j)) (fun _ _ => rfl)
    obtain ⟨σ2, g1, g2, g3, g4, g5⟩ := note49_ok (σ := wr σ1 134 25 (σ 134 25 - 1)) (c := 11) (by omega) (by rw [wr_eq, h]; rfl)
    refine ⟨σ2, e1.trans g1, g2, fun j i hj hi => ?_, ?_, fun b i h1 h2 => ?_⟩
    · rw [g3 _ (by omega), wr_ne (by omega), e3 _ (by omega), show 27 * j + i + 27 = 27 * (j + (12 - min 12 11)) + i by omega]
    · exact LayD_congr g4 (fun b i h1 h2 => by rw [wr_ne (by omega)]; exact (e2 b i (by omega)).symm) (fun i hi => by rw [wr_ne (by omega)]; exact (e2 _ i (by omega)).symm) (fun _ _ => rfl)
    · rw [g5 b i h1 h2, wr_ne h2]; exact e2 b i h1
  · rw [if_neg (show ¬ σ 134 25 = (12 : Int32) from fun w => q ((nI_eq (b := 12) (by omega) (by decide)).mp (h.symm.trans w)))]
    obtain ⟨σ2, g1, g2, g3, g4, g5⟩ := note49_ok (c := c) (by omega) h
    have hm : min c 11 = c := by omega
    rw [hm, show min (c + 1) 12 = c + 1 by omega]
    exact ⟨σ2, g1, g2, fun j i hj hi => by rw [g3 _ (by omega), Nat.sub_self]; rfl, g4, g5⟩
/-! the class's ring -/
theorem push_ok {σ : Hp} {c e : Nat} (hc : c ≤ 12) (he : e < 12) (h1 : σ 24 1 = nI e) (h2 : σ 24 2 = nI c) : ∃ σ', f_X0_push σ 13 = some ((), σ') ∧ σ' 24 1 = nI ((e + 1) % 12) ∧ σ' 24 2 = nI (min (c + 1) 12) ∧ (∀ k g, 1 ≤ k → k ≤ 4 → g < 5 → σ' (26 + 5 * e + k) g = σ (13 + k) g) ∧ (∀ j, 5 ≤ j → j ≤ 8 → σ' (26 + 5 * e) j = σ 13 j) ∧ (∀ a i, ¬ (a = 24 ∧ (i = 1 ∨ i = 2)) → (a < 26 + 5 * e ∨ 26 + 5 * e + 4 < a) → σ' a i = σ a i) := by
  obtain ⟨σ1, e1, e2, e3, e4⟩ := copy_ok (σ := σ) (o := 26 + 5 * e) (q := 13) (by omega)
  have r1 : σ1 24 1 = nI e := (e4 24 1 (by omega) (by omega) (by omega) (by omega) (by omega)).trans h1
  have r2 : σ1 24 2 = nI c := (e4 24 2 (by omega) (by omega) (by omega) (by omega) (by omega)).trans h2
  have rem : (nI e + 1) - (nI e + 1) / (12 : Int32) * (12 : Int32) = nI ((e + 1) % 12) := by
    rw [ni_add1]; exact pk_rem (d := 12) (by omega) (by decide) (by decide)
  have cn : (if nI c + 1 < (12 : Int32) then nI c + 1 else (12 : Int32)) = nI (min (c + 1) 12) := by
    rw [ni_add1]
    by_cases q : c + 1 < 12
    · rw [if_pos (show nI (c + 1) < (12 : Int32) from nI_lt (b := 12) q (by decide)), show min (c + 1) 12 = c + 1 by omega]
    · rw [if_neg (show ¬ nI (c + 1) < (12 : Int32) from nI_nlt (b := 12) (by omega) (by omega)), show min (c + 1) 12 = 12 by omega]; rfl
  refine ⟨wr (wr σ1 24 1 (nI ((e + 1) % 12))) 24 2 (nI (min (c + 1) 12)), ?_, ?_, by rw [wr_eq], fun k g q1 q2 q3 => ?_, fun j q1 q2 => ?_, fun a i q1 q2 => ?_⟩
  · simp only [f_X0_push, Lt, nzI]
    rw [h1, ck_ok _ he (by decide), ix_nI (by omega), bd_ok e1, r1, rem, wr_ne (by omega), r2, cn]
    rfl
  · rw [wr_ne (by omega), wr_eq]
  · rw [wr_ne (by omega), wr_ne (by omega)]; exact e2 k g q1 q2 q3
  · rw [wr_ne (by omega), wr_ne (by omega)]; exact e3 j q1 q2
  · rw [wr_ne (by omega), wr_ne (by omega)]; exact e4 a i (by omega) (by omega) (by omega) (by omega) (by omega)
theorem pop_ok {σ : Hp} {c e : Nat} (hc : c ≤ 12) (hc0 : 0 < c) (he : e < 12) (h1 : σ 24 1 = nI e) (h2 : σ 24 2 = nI c) : ∃ σ', f_X0_pop σ 13 = some ((), σ') ∧ σ' 24 1 = nI ((e + 11) % 12) ∧ σ' 24 2 = nI (c - 1) ∧ (∀ k g, 1 ≤ k → k ≤ 4 → g < 5 → σ' (13 + k) g = σ (26 + 5 * ((e + 11) % 12) + k) g) ∧ (∀ j, j = 5 ∨ j = 7 ∨ j = 8 → σ' 13 j = σ (26 + 5 * ((e + 11) % 12)) j) ∧ σ' 13 6 = σ 13 6 ∧ (∀ a i, ¬ (a = 24 ∧ (i = 1 ∨ i = 2)) → (a < 13 ∨ 17 < a) → σ' a i = σ a i) := by
  have rem : (nI e + 12) - 1 - ((nI e + 12) - 1) / (12 : Int32) * (12 : Int32) = nI ((e + 11) % 12) := by
    rw [show nI e + (12 : Int32) = nI (e + 12) from nI_add e 12, show nI (e + 12) - 1 = nI (e + 11) from pk_sub (b := 1) (by omega)]
    exact pk_rem (d := 12) (by omega) (by decide) (by decide)
  have sb : nI c - 1 = nI (c - 1) := pk_sub (b := 1) (by omega)
  obtain ⟨σ1, e1, e2, e3, e4⟩ := copy_ok (σ := wr (wr σ 24 1 (nI ((e + 11) % 12))) 24 2 (nI (c - 1))) (o := 13) (q := 26 + 5 * ((e + 11) % 12)) (by omega)
  refine ⟨wr σ1 13 6 (σ 13 6), ?_, ?_, ?_, fun k g q1 q2 q3 => ?_, fun j q => ?_, by rw [wr_eq], fun a i q1 q2 => ?_⟩
  · simp only [f_X0_pop, Lt, nzI]
    rw [h1, rem]
    simp (disch := omega) only [wr_ne, wr_eq, h2, sb]
    rw [if_neg (by decide), ck_ok _ (by omega) (by decide), ix_nI (by omega), bd_ok e1]
  · rw [wr_ne (by omega), e4 24 1 (by omega) (by omega) (by omega) (by omega) (by omega), wr_ne (by omega), wr_eq]
  · rw [wr_ne (by omega), e4 24 2 (by omega) (by omega) (by omega) (by omega) (by omega), wr_eq]
  · rw [wr_ne (by omega), e2 k g q1 q2 q3, wr_ne (by omega), wr_ne (by omega)]
  · rw [wr_ne (by omega), e3 j (by omega) (by omega), wr_ne (by omega), wr_ne (by omega)]
  · rw [wr_ne (by omega), e4 a i (by omega) (by omega) (by omega) (by omega) (by omega), wr_ne (by omega), wr_ne (by omega)]
/-! pages -/
theorem Page_move {σ τ : Hp} {n o q a a' : Nat} (hn : n ≤ 5) (h : Page σ n o q a) (h1 : ∀ b i, o ≤ b → b ≤ o + 4 → τ b i = σ b i) (h2 : ∀ i, i < 27 → τ q (a' + i) = σ q (a + i)) : Page τ n o q a' := by
  obtain ⟨t, s, d, nod, q0, q1, q2, q3, q4⟩ := h
  refine ⟨t, s, d, nod, q0, fun g hg => ?_, by rw [h1 o 5 (by omega) (by omega)]; exact q2, by rw [h1 o 7 (by omega) (by omega), h2 25 (by omega)]; exact q3, by rw [h1 o 8 (by omega) (by omega), h2 26 (by omega)]; exact q4⟩
  have e1 := h2 g (by omega)
  have e2 := h2 (5 + g) (by omega)
  have e3 := h2 (10 + g) (by omega)
  have e4 := h2 (15 + g) (by omega)
  have e5 := h2 (20 + g) (by omega)
  simp only [← Nat.add_assoc] at e2 e3 e4 e5
  rw [e1, e2, e3, e4, e5, h1 (o + 1) g (by omega) (by omega), h1 (o + 2) g (by omega) (by omega), h1 (o + 3) g (by omega) (by omega), h1 (o + 4) g (by omega) (by omega)]
  exact q1 g hg
theorem page_new {σ τ : Hp} {n beds lim : Nat} {tw : Nat → Option Nat} {t s d : Nat → Nat} {nod ill : Nat → Bool} {o q a : Nat} (h : Core σ n beds lim tw t s d nod ill) (h1 : ∀ k g, 1 ≤ k → k ≤ 4 → g < 5 → τ (o + k) g = σ (13 + k) g) (h2 : ∀ j, 5 ≤ j → j ≤ 8 → τ o j = σ 13 j) (h3 : LayD σ τ q a) : Page τ n o q a := by
  obtain ⟨⟨hn, -, -, -⟩, -, -, -, -, -, ⟨r1, r2, r3⟩, bn, mr, bd1, bd2, bd3⟩ := h
  obtain ⟨l1, l2, l3⟩ := h3
  refine ⟨t, s, d, nod, bn, fun g hg => ?_, by rw [h2 5 (by omega) (by omega)]; exact r2, by rw [h2 7 (by omega) (by omega), l2]; exact bd2, by rw [h2 8 (by omega) (by omega), l3]; exact bd3⟩
  obtain ⟨v1, v2, v3⟩ := r1 g hg
  obtain ⟨w1, w2, w3, w4⟩ := mr g hg
  obtain ⟨x1, x2, x3, x4, x5⟩ := l1 g (by omega)
  rw [h1 1 g (by omega) (by omega) (by omega), h1 2 g (by omega) (by omega) (by omega), h1 3 g (by omega) (by omega) (by omega), h1 4 g (by omega) (by omega) (by omega), x1, x2, x3, x4, x5, w1, w2, w3, w4, b01_b]
  exact ⟨v1, v2, v3, rfl, rfl, rfl, rfl, bd1 g hg⟩
theorem acts_new {σ τ : Hp} {n c e : Nat} (hn : n ≤ 5) (hc : c ≤ 12) (he : e < 12) (hp : ∀ j, j < c → Page σ n (26 + 5 * ((e + 12 - c + j) % 12)) 148 (27 * j)) (t1 : τ 24 1 = nI ((e + 1) % 12)) (t2 : τ 24 2 = nI (min (c + 1) 12)) (t3 : τ 134 25 = nI (min (c + 1) 12)) (t4 : ∀ a i, 26 ≤ a → a ≤ 85 → (a < 26 + 5 * e ∨ 26 + 5 * e + 4 < a) → τ a i = σ a i) (t5 : ∀ j i, j < min c 11 → i < 27 → τ 148 (27 * j + i) = σ 148 (27 * (j + (c - min c 11)) + i)) (t6 : Page τ n (26 + 5 * e) 148 (27 * min c 11)) : ActsI τ n := by
  refine ⟨min (c + 1) 12, (e + 1) % 12, by omega, by omega, t1, t2, t3, fun j hj => ?_⟩
  by_cases q : j = min c 11
  · have : ((e + 1) % 12 + 12 - min (c + 1) 12 + j) % 12 = e := by omega
    rw [this, q]; exact t6
  · have hj2 : j < min c 11 := by omega
    have := hp (j + (c - min c 11)) (by omega)
    have ix : ((e + 1) % 12 + 12 - min (c + 1) 12 + j) % 12 = (e + 12 - c + (j + (c - min c 11))) % 12 := by omega
    rw [ix]
    have ne : (e + 12 - c + (j + (c - min c 11))) % 12 ≠ e := by omega
    have lt : (e + 12 - c + (j + (c - min c 11))) % 12 < 12 := Nat.mod_lt _ (by decide)
    exact Page_move hn this (fun b i w1 w2 => t4 b i (by omega) (by omega) (by omega)) (fun i hi => t5 j i hj2 hi)
theorem core_new {σ τ : Hp} {n beds lim : Nat} {tw : Nat → Option Nat} {t s d t' s' d' : Nat → Nat} {nod ill nod' ill' : Nat → Bool} (h : Core σ n beds lim tw t s d nod ill) (h1 : ∀ i, τ 11 i = σ 11 i) (h2 : ∀ i, τ 12 i = σ 12 i) (h3 : ∀ i, i = 4 ∨ i = 5 ∨ i = 6 → τ 134 i = σ 134 i) (h4 : ∀ i, τ 141 i = σ 141 i) (h5 : ∀ g, g < n → τ 140 g = b2i (ill' g)) (r : RV τ 13 n t' s' d' nod' ill') (bn : BN n t' s' d') (mr : MR τ n t' s' d' nod') (k1 : ∀ g, g < n → τ 17 g = τ 142 g) (k2 : τ 13 7 = τ 134 14) (k3 : τ 13 8 = τ 134 15) : Core τ n beds lim tw t' s' d' nod' ill' := by
  obtain ⟨⟨hn, htw, c1, c2⟩, b1, b2, b3, b4, ⟨-, -, m4, m5, m6, m7, m8⟩, -⟩ := h
  exact ⟨⟨hn, htw, by rw [h1]; exact c1, fun g hg => by rw [h2]; exact c2 g hg⟩, by rw [h1]; exact b1, by rw [h1]; exact b2, b3, b4, ⟨hn, htw, by rw [h3 4 (by omega)]; exact m4, by rw [h3 5 (by omega)]; exact m5, by rw [h3 6 (by omega)]; exact m6, fun g hg => by rw [h4]; exact m7 g hg, h5⟩, r, bn, mr, k1, k2, k3⟩
