theorem roll_disj {o q : Nat} (ho : rollP o) (hq : rollP q) (h : o ≠ q) : o + 5 ≤ q ∨ q + 5 ≤ o := (by decide +kernel : ∀ o ∈ rollsL, ∀ q ∈ rollsL, o ≠ q → o + 5 ≤ q ∨ q + 5 ≤ o) o ho q hq h
def FrC (σ σ' : Hp) (o : Nat) : Prop := ∀ a i, a ≠ o + 1 → a ≠ o + 2 → a ≠ o + 3 → a ≠ o + 4 → ¬ (a = o ∧ 5 ≤ i ∧ i ≤ 8) → σ' a i = σ a i
theorem va_up_at {α : Type} (f : Nat → α) (k : Nat) (v : α) (j : Nat) : va_up f k v j = if j = k then v else f j := rfl
theorem copy_ok {σ : Hp} {o q : Nat} (h : o + 5 ≤ q ∨ q + 5 ≤ o) : ∃ σ', f_X4_copyFrom σ o q = some ((), σ') ∧ (∀ k g, 1 ≤ k → k ≤ 4 → g < 5 → σ' (o + k) g = σ (q + k) g) ∧ (∀ j, 5 ≤ j → j ≤ 8 → σ' o j = σ q j) ∧ FrC σ σ' o := by
  simp only [f_X4_copyFrom, Lt]
  refine ⟨_, rfl, ?_, ?_, ?_⟩
  · intro k g h1 h2 hg
    rcases (show k = 1 ∨ k = 2 ∨ k = 3 ∨ k = 4 by omega) with rfl | rfl | rfl | rfl
    · simp (disch := omega) only [wr_row_ne, va_up_ne, va_up_self, va_cpy]
      simp [hg]
    · simp (disch := omega) only [wr_row_ne, va_up_ne, va_up_self, va_cpy]
      simp [hg]
    · simp (disch := omega) only [wr_row_ne, va_up_ne, va_up_self, va_cpy]
      simp [hg]
    · simp (disch := omega) only [wr_row_ne, va_up_ne, va_up_self, va_cpy]
      simp [hg]
  · intro j h1 h2
    rcases (show j = 5 ∨ j = 6 ∨ j = 7 ∨ j = 8 by omega) with rfl | rfl | rfl | rfl
    · simp (disch := omega) only [wr_ne, wr_eq, wr_row_ne, va_up_ne]
    · simp (disch := omega) only [wr_ne, wr_eq, wr_row_ne, va_up_ne]
    · simp (disch := omega) only [wr_ne, wr_eq, wr_row_ne, va_up_ne]
    · simp (disch := omega) only [wr_ne, wr_eq, wr_row_ne, va_up_ne]
  · intro a i q1 q2 q3 q4 q5
    simp (disch := omega) only [wr_ne, va_up_ne]
theorem RV_copy {σ σ' : Hp} {o q n : Nat} {t s d : Nat → Nat} {nod ill : Nat → Bool} (hn : n ≤ 5) (h : RV σ q n t s d nod ill) (h1 : ∀ k g, 1 ≤ k → k ≤ 4 → g < 5 → σ' (o + k) g = σ (q + k) g) (h2 : ∀ j, 5 ≤ j → j ≤ 8 → σ' o j = σ q j) : RV σ' o n t s d nod ill := by
  refine ⟨fun g hg => ?_, by rw [h2 5 (by decide) (by decide)]; exact h.2.1, by rw [h2 6 (by decide) (by decide)]; exact h.2.2⟩
  rw [h1 1 g (by decide) (by decide) (by omega), h1 2 g (by decide) (by decide) (by omega), h1 3 g (by decide) (by decide) (by omega)]
  exact h.1 g hg
theorem op_may {σ : Hp} (h : Inv σ) (a1 : Int32) : OK2 (fun σ => f_X8_may σ a1) (fun σ => f_X9_may σ a1) σ := by
  have h0 := h
  obtain ⟨n, beds, lim, tw, t, s, d, nod, ill, i1, -⟩ := h
  obtain ⟨hc, b1, b2, b3, b4, hM, hr, bn, mr, -⟩ := i1
  have hn := hc.1
  have hI : Inv (wr σ 134 0 0) := Inv_scr h0 (thrown_scr σ)
  have fr0 : FrM σ σ := FrM_refl σ
  have hM' : MV (wr σ 134 0 0) n beds lim tw ill := by
    obtain ⟨q1, q2, q3, q4, q5, q6, q7⟩ := hM
    exact ⟨q1, q2, by rw [wr_ne (by omega)]; exact q3, by rw [wr_ne (by omega)]; exact q4, by rw [wr_ne (by omega)]; exact q5, fun g hg => by rw [wr_ne (by omega)]; exact q6 g hg, fun g hg => by rw [wr_ne (by omega)]; exact q7 g hg⟩
  have mr' : MR (wr σ 134 0 0) n t s d nod := fun g hg => by
    rw [wr_ne (by omega), wr_ne (by omega), wr_ne (by omega), wr_ne (by omega)]; exact mr g hg
  rcases set_cases a1 hn with ho | ⟨m, hm, rfl⟩
  · refine ⟨-2, σ, wr σ 134 0 0, ?_, ?_, hI⟩
    · simp only [f_X8_may]; rw [bd_ok (hasAll_out hn hc.2.2.1 ho), if_pos rfl]
    · simp only [f_X9_may, Lt]; rw [bd_ok (noSet_out hn hM'.2.2.1 ho), if_neg (by decide)]
  · obtain ⟨σ1, e1, e2, e3⟩ := begin_ok hn hM'.2.2.1 mr'
    have hal := allows_ok (o := 13) hc b1 b3 hr bn hm
    have hcb := canBe_ok (MV_fr e3 hM') b3 e2 bn hm
    refine ⟨if mayB n beds tw s d m ill = true then 1 else 0, σ, σ1, ?_, ?_, Inv_scr hI (fun a i q => e3 a i (fun w => q (by unfold Scr; omega)) (fun w => q (by unfold Scr; omega)) (fun w => q (by unfold Scr; omega)) (fun w => q (by unfold Scr; omega)))⟩
    · simp only [f_X8_may]
      rw [bd_ok (hasAll_in hn hc.2.2.1 hm), if_neg (by decide), bd_ok hal]
      cases mayB n beds tw s d m ill <;> rfl
    · simp only [f_X9_may, Lt]
      rw [bd_ok (noSet_in hn hM'.2.2.1 hm), if_pos rfl, bd_ok e1, bd_ok hcb]
      cases mayB n beds tw s d m ill <;> rfl
theorem op_use {σ : Hp} (h : Inv σ) (a1 a2 a3 : Int32) : OK2 (fun σ => f_X8_use σ a1 a2 a3) (fun σ => f_X9_use σ a1 a2 a3) σ := by
  have h0 := h
  obtain ⟨n, beds, lim, tw, t, s, d, nod, ill, i1, i2, i3, i4, i5, i6, i7⟩ := h
  have hn : n ≤ 5 := i1.1.1
  have c1 : σ 11 1 = nI n := i1.1.2.2.1
  have m4 : σ 134 4 = nI n := i1.2.2.2.2.2.1.2.2.1
  have hI : Inv (wr σ 134 0 0) := Inv_scr h0 (thrown_scr σ)
  have m4' : (wr σ 134 0 0) 134 4 = nI n := by rw [wr_ne (by omega)]; exact m4
  obtain ⟨u, u1, u2, u3, u4⟩ := i6
  rcases guard_cases a2 hn with ho | ⟨y, hy, rfl⟩
  · refine ⟨-1, σ, wr σ 134 0 0, ?_, ?_, hI⟩
    · simp only [f_X8_use]; rw [bd_ok (has2_out c1 ho), if_pos rfl]
    · simp only [f_X9_use, Lt]; rw [bd_ok (noG_out hn m4' ho), if_neg (by decide)]
  · rcases rng_cases a1 0 99 (by decide) (by decide) with ho | ⟨x, -, hx, rfl⟩
    · refine ⟨-2, σ, wr σ 134 0 0, ?_, ?_, hI⟩
      · simp only [f_X8_use]
        rw [bd_ok (has2_in hn c1 hy), if_neg (by decide)]
        by_cases q : a1 < 0
        · rw [if_pos q]
        · rw [if_neg q, if_pos (show (99 : Int32) < a1 from ho.resolve_left q)]
      · simp only [f_X9_use, Lt]
        rw [bd_ok (noG_in hn m4' hy), if_pos rfl, bd_ok (in_099 _ _), show decide ((0 : Int32) ≤ a1 ∧ a1 ≤ 99) = false from decide_eq_false (rng_no (lo := 0) (hi := 99) (by decide) (by decide) ho), b2i_f, if_pos rfl]
    · have x0 : ¬ nI x < (0 : Int32) := nI_pos (by omega)
      have x9 : ¬ (99 : Int32) < nI x := nI_nlt (a := 99) hx (by decide)
      have xin : decide ((0 : Int32) ≤ nI x ∧ nI x ≤ 99) = true := decide_eq_true ⟨nI_pos' (by omega), nI_le (b := 99) hx (by decide)⟩
      rcases rng_cases a3 0 99 (by decide) (by decide) with ho | ⟨z, -, hz, rfl⟩
      · refine ⟨-2, σ, wr σ 134 0 0, ?_, ?_, hI⟩
        · simp only [f_X8_use]
          rw [bd_ok (has2_in hn c1 hy), if_neg (by decide), if_neg x0, if_neg x9]
          by_cases q : a3 < 0
          · rw [if_pos q]
          · rw [if_neg q, if_neg]
            intro w
            exact rng_no (lo := 0) (hi := 99) (by decide) (by decide) ho ⟨by rw [Int32.lt_iff_toInt_lt] at q; rw [Int32.le_iff_toInt_le]; exact Int.not_lt.mp q, w⟩
        · simp only [f_X9_use, Lt]
          rw [bd_ok (noG_in hn m4' hy), if_pos rfl, bd_ok (in_099 _ _), xin, b2i_t, if_neg (by decide), bd_ok (in_099 _ _), show decide ((0 : Int32) ≤ a3 ∧ a3 ≤ 99) = false from decide_eq_false (rng_no (lo := 0) (hi := 99) (by decide) (by decide) ho), b2i_f, if_pos rfl]
      · have z0 : ¬ nI z < (0 : Int32) := nI_pos (by omega)
        have z9 : nI z ≤ (99 : Int32) := nI_le (b := 99) hz (by decide)
        have zin : decide ((0 : Int32) ≤ nI z ∧ nI z ≤ 99) = true := decide_eq_true ⟨nI_pos' (by omega), z9⟩
        have u3' : (wr σ 134 0 0) 134 28 = nI u := by rw [wr_ne (by omega)]; exact u3
        by_cases hu : u = 12
        · refine ⟨-4, σ, wr σ 134 0 0, ?_, ?_, hI⟩
          · simp only [f_X8_use]
            rw [bd_ok (has2_in hn c1 hy), if_neg (by decide), if_neg x0, if_neg x9, if_neg z0, if_pos z9, u2, if_neg (show ¬ nI u < (12 : Int32) from nI_nlt (b := 12) (by omega) (by omega))]
          · simp only [f_X9_use, Lt]
            rw [bd_ok (noG_in hn m4' hy), if_pos rfl, bd_ok (in_099 _ _), xin, b2i_t, if_neg (by decide), bd_ok (in_099 _ _), zin, b2i_t, if_neg (by decide), u3', if_pos (by rw [hu]; rfl)]
        · have hu12 : u < 12 := by omega
          have f1 : f_X8_use σ (nI x) (nI y) (nI z) = some (nI (u + 1), wr (wr (wr (wr σ 116 u (nI x)) 117 u (nI y)) 118 u (nI z)) 115 3 (nI (u + 1))) := by
            simp only [f_X8_use]
            rw [bd_ok (has2_in hn c1 hy), if_neg (by decide), if_neg x0, if_neg x9, if_neg z0, if_pos z9, u2, if_pos (show nI u < (12 : Int32) from nI_lt (b := 12) hu12 (by decide))]
            have e : f_X1_add σ (nI x) (nI y) (nI z) = some ((), wr (wr (wr (wr σ 116 u (nI x)) 117 u (nI y)) 118 u (nI z)) 115 3 (nI (u + 1))) := by
              simp only [f_X1_add, Lt]
              simp (disch := omega) only [wr_ne, u2]
              rw [if_neg (show ¬ (12 : Int32) ≤ nI u from nI_ge (b := 12) hu12 (by decide))]
              simp only [ck_ok _ hu12 (show 12 < 2 ^ 31 by decide), ix_nI (show u < 2 ^ 31 by omega), ni_add1]
            rw [bd_ok e, wr_eq]
          have f2 : ∀ σ1 : Hp, σ1 134 4 = nI n → σ1 134 28 = nI u → f_X9_use σ1 (nI x) (nI y) (nI z) = some (nI (u + 1), wr (wr (wr (wr (wr σ1 134 0 0) 151 u (nI x)) 152 u (nI y)) 153 u (nI z)) 134 28 (nI (u + 1))) := by
            intro σ1 g1 g2
            have g1' : (wr σ1 134 0 0) 134 4 = nI n := by rw [wr_ne (by omega)]; exact g1
            have g2' : (wr σ1 134 0 0) 134 28 = nI u := by rw [wr_ne (by omega)]; exact g2
            simp only [f_X9_use, Lt]
            rw [bd_ok (noG_in hn g1' hy), if_pos rfl, bd_ok (in_099 _ _), xin, b2i_t, if_neg (by decide), bd_ok (in_099 _ _), zin, b2i_t, if_neg (by decide), g2', if_neg (show ¬ nI u = (12 : Int32) from fun q => hu ((nI_eq (b := 12) (by omega) (by decide)).mp q))]
            have k1 : ∀ v w, (wr (wr σ1 134 0 0) 151 v w) 134 28 = nI u := fun v w => by rw [wr_ne (by omega)]; exact g2'
            have k2 : ∀ v w v' w', (wr (wr (wr σ1 134 0 0) 151 v w) 152 v' w') 134 28 = nI u := fun v w v' w' => by rw [wr_ne (by omega)]; exact k1 v w
            have k3 : ∀ v w v' w' v2 w2, (wr (wr (wr (wr σ1 134 0 0) 151 v w) 152 v' w') 153 v2 w2) 134 28 = nI u := fun v w v' w' v2 w2 => by rw [wr_ne (by omega)]; exact k2 v w v' w'
            simp only [k1, k2, k3, ck_ok _ hu12 (show 12 < 2 ^ 31 by decide), ix_nI (show u < 2 ^ 31 by omega), ni_add1, wr_eq]
          refine ⟨_, _, _, f1, f2 _ (by simp (disch := omega) only [wr_ne]; exact m4) (by simp (disch := omega) only [wr_ne]; exact u3), ?_⟩
          refine ⟨n, beds, lim, tw, t, s, d, nod, ill, (keep_c i1 (fun a i q => by unfold Rc at q; simp (disch := omega) only [wr_ne])), (keep_p i2 (fun a i q => by unfold Rp at q; simp (disch := omega) only [wr_ne])), (keep_t i3 (fun a i q => by unfold Rt at q; simp (disch := omega) only [wr_ne])), (keep_a i4 (fun a i q => by unfold Ra at q; simp (disch := omega) only [wr_ne])), (keep_s i5 (fun a i q => by unfold Rs at q; simp (disch := omega) only [wr_ne])), ⟨u + 1, by omega, ?_, ?_, fun j hj => ?_⟩, (keep_q i7 (fun a i q => by unfold Rq at q; simp (disch := omega) only [wr_ne]))⟩
          · simp (disch := omega) only [wr_ne]; rw [wr_eq]
          · rw [wr_eq]
          · by_cases e : j = u
            · subst e
              refine ⟨x, y, z, by omega, by omega, by omega, ?_, ?_, ?_, ?_, ?_, ?_⟩
              all_goals (simp (disch := omega) only [wr_ne]; rw [wr_eq])
            · obtain ⟨a, b, c, g1, g2, g3, g4, g5, g6, g7, g8, g9⟩ := u4 j (by omega)
              refine ⟨a, b, c, g1, g2, g3, ?_, ?_, ?_, ?_, ?_, ?_⟩
              all_goals (simp (disch := omega) only [wr_ne]; assumption)
