theorem ad2 (a : Nat) : nI a + (2 : Int32) = nI (a + 2) := nI_add a 2
theorem ad3 (a : Nat) : nI a + (3 : Int32) = nI (a + 3) := nI_add a 3
theorem ad4 (a : Nat) : nI a + (4 : Int32) = nI (a + 4) := nI_add a 4
theorem swt_all {α : Type} {x : Int32} {xs : List (Option (α × Hp))} {dx : Option (α × Hp)} {P : Option (α × Hp) → Prop} (hd : P dx) (h : ∀ a ∈ xs, P a) : P (swt x xs dx) := by
  unfold swt
  by_cases q : x < 0
  · rw [if_pos q]; exact hd
  · rw [if_neg q]
    cases e : xs[x.toNatClampNeg]? with
    | none => exact hd
    | some a => exact h a (List.mem_of_getElem? e)
theorem case_ok {fc fm : Hp → Option (Int32 × Hp)} {σ : Hp} (h : OK2 fc fm σ) {K : Hp → Option (Int32 × Hp)} (hK : ∀ σ, Inv σ → ∃ σ', K σ = some (1, σ')) : ∃ σ', (bd (fc σ) fun r σ2 => bd (fm σ2) fun r' σ4 => if r = r' then K σ4 else none) = some (1, σ') := by
  obtain ⟨r, σ1, σ2, e1, e2, e3⟩ := h
  obtain ⟨σ', e4⟩ := hK σ2 e3
  refine ⟨σ', ?_⟩
  rw [bd_ok e1, bd_ok e2, if_pos rfl, e4]
theorem case_okL {fc fm : Hp → Option (Int64 × Hp)} {σ : Hp} (h : OK2 fc fm σ) {K : Hp → Option (Int32 × Hp)} (hK : ∀ σ, Inv σ → ∃ σ', K σ = some (1, σ')) : ∃ σ', (bd (fc σ) fun r σ2 => bd (fm σ2) fun r' σ4 => if lg_cmp r r' = 0 then K σ4 else none) = some (1, σ') := by
  obtain ⟨r, σ1, σ2, e1, e2, e3⟩ := h
  obtain ⟨σ', e4⟩ := hK σ2 e3
  refine ⟨σ', ?_⟩
  rw [bd_ok e1, bd_ok e2, if_pos ((lg_cmp_eq _ _).mpr rfl), e4]
theorem all_nil {α : Type} {P : α → Prop} : ∀ a ∈ ([] : List α), P a := fun a h => absurd h (List.not_mem_nil)
theorem all_cons {α : Type} {P : α → Prop} {x : α} {xs : List α} (h1 : P x) (h2 : ∀ a ∈ xs, P a) : ∀ a ∈ (x :: xs), P a := fun a h => by
  rcases List.mem_cons.mp h with rfl | h
  · exact h1
  · exact h2 a h
theorem one_step {SL : Nat} (hL : SL ≤ 2048) (xs : Nat → Int32) {i n : Nat} (hi : i + 4 ≤ SL) {σ : Hp} (h : Inv σ) (hN : ∀ σ, Inv σ → ∃ σ', f_L_law_18 SL xs n σ (nI (i + 4)) = some (1, σ')) : ∃ σ', f_L_law_18 SL xs (n + 1) σ (nI i) = some (1, σ') := by
  have hK : ∀ σ, Inv σ → ∃ σ', f_L_law_876 (f_L_law_18 SL xs n) SL xs σ (nI i) = some (1, σ') := fun σ h => by
    simp only [f_L_law_876, Lt]
    rw [ad4]
    exact hN σ h
  have hgo : ¬ nI SL - (4 : Int32) < nI i := by
    rw [Int32.lt_iff_toInt_lt, show (nI SL - (4 : Int32)).toInt = (SL : Int) - 4 from pk_sub_toInt (b := 4) (by omega) (by decide), nI_toInt (by omega)]
    omega
  rw [f_L_law_18, if_neg hgo]
  generalize f_L_law_18 SL xs n = k18 at hK ⊢
  simp (disch := omega) only [ck_ok, ix_nI, ni_add1, ad2, ad3]
  refine swt_all (P := fun X => ∃ σ', X = some (1, σ')) (hK σ h) ?_
  refine all_cons ?_ ?_
  · exact case_ok (op_write h _ _) hK
  refine all_cons ?_ ?_
  · exact case_ok (op_wipe h) hK
  refine all_cons ?_ ?_
  · exact case_ok (op_fault h) hK
  refine all_cons ?_ ?_
  · exact case_ok (op_fortress h) hK
  refine all_cons ?_ ?_
  · exact case_ok (op_about h _) hK
  refine all_cons ?_ ?_
  · exact case_ok (op_guard h _ _) hK
  refine all_cons ?_ ?_
  · simp (disch := omega) only [f_L_law_333, f_L_law_355, ck_ok, ix_nI, ni_add1, ad2, ad3]
    by_cases q : xs (i + 2) = 0
    · simp only [q, if_true]
      exact case_ok (op_sick h (xs (i + 1)) false) hK
    · simp only [q, if_false]
      exact case_ok (op_sick h (xs (i + 1)) true) hK
  refine all_cons ?_ ?_
  · exact case_ok (op_hand h _ _ _) hK
  refine all_cons ?_ ?_
  · exact case_ok (op_pay h _ _) hK
  refine all_cons ?_ ?_
  · exact case_ok (op_may h _) hK
  refine all_cons ?_ ?_
  · exact case_ok (op_quarter h _) hK
  refine all_cons ?_ ?_
  · exact case_ok (op_drum h) hK
  refine all_cons ?_ ?_
  · exact case_ok (op_undo h) hK
  refine all_cons ?_ ?_
  · exact case_ok (op_rota h _) hK
  refine all_cons ?_ ?_
  · exact case_ok (op_rotaAt h _ _) hK
  refine all_cons ?_ ?_
  · exact case_ok (op_allNod h) hK
  refine all_cons ?_ ?_
  · simp (disch := omega) only [f_L_law_604, f_L_law_631, ck_ok, ix_nI, ni_add1, ad2, ad3]
    by_cases q : xs (i + 3) = 0
    · simp only [q, if_true]
      exact case_okL (op_chance h (xs (i + 1)) (xs (i + 2)) false) hK
    · simp only [q, if_false]
      exact case_okL (op_chance h (xs (i + 1)) (xs (i + 2)) true) hK
  refine all_cons ?_ ?_
  · exact case_ok (op_plan h _ _) hK
  refine all_cons ?_ ?_
  · exact case_ok (op_weakest h) hK
  refine all_cons ?_ ?_
  · simp (disch := omega) only [f_L_law_700, f_L_law_717, ck_ok, ix_nI, ni_add1, ad2, ad3]
    by_cases q : xs (i + 1) = 0
    · simp only [q, if_true]
      exact case_ok (op_settled h 0) hK
    · simp only [q, if_false]
      exact case_ok (op_settled h 1) hK
  refine all_cons ?_ ?_
  · exact case_ok (op_use h _ _ _) hK
  refine all_cons ?_ ?_
  · exact case_ok (op_burn h) hK
  refine all_cons ?_ ?_
  · exact case_ok (op_forged h) hK
  refine all_cons ?_ ?_
  · exact case_ok (op_forgedAt h _) hK
  refine all_cons ?_ ?_
  · exact case_ok (op_forgers h) hK
  refine all_cons ?_ ?_
  · exact case_ok (op_keep h _) hK
  refine all_cons ?_ ?_
  · exact case_ok (op_again h _) hK
  exact all_nil
theorem law_loop {SL : Nat} (hL : SL ≤ 2048) (xs : Nat → Int32) : ∀ (c i : Nat) (σ : Hp), SL < i + 4 + 4 * c → i ≤ 4096 → Inv σ → ∃ σ', f_L_law_18 SL xs (c + 1) σ (nI i) = some (1, σ') := by
  intro c
  induction c with
  | zero =>
    intro i σ hc hi h
    refine ⟨σ, ?_⟩
    rw [f_L_law_18, if_pos]
    rw [Int32.lt_iff_toInt_lt, show (nI SL - (4 : Int32)).toInt = (SL : Int) - 4 from pk_sub_toInt (b := 4) (by omega) (by decide), nI_toInt (by omega)]
    omega
  | succ c ih =>
    intro i σ hc hi h
    by_cases q : i + 4 ≤ SL
    · exact one_step hL xs q h (fun σ h => ih (i + 4) σ (by omega) (by omega) h)
    · refine ⟨σ, ?_⟩
      rw [f_L_law_18, if_pos]
      rw [Int32.lt_iff_toInt_lt, show (nI SL - (4 : Int32)).toInt = (SL : Int) - 4 from pk_sub_toInt (b := 4) (by omega) (by decide), nI_toInt (by omega)]
      omega
theorem pure_main {SL : Nat} (hL : SL ≤ 2048) (xs : Nat → Int32) : ∃ (n : Nat) (r : Int32) (σ' : Hp), f_L_law_18 SL xs n hpF 0 = some (r, σ') := by
  obtain ⟨σ', e⟩ := law_loop hL xs SL 0 hpF (by omega) (by omega) Inv_start
  exact ⟨SL + 1, 1, σ', e⟩
