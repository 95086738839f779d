def tD (t : Nat → Nat) (nod : Nat → Bool) (g : Nat) : Nat := if nod g = true then min 99 (t g + 3) else t g
theorem wake_loop {σ0 : Hp} {n : Nat} {t s d : Nat → Nat} {nod ill : Nat → Bool} (hn : n ≤ 5) (hc : σ0 11 1 = nI n) (hr : RV σ0 13 n t s d nod ill) (hb : BN n t s d) : ∀ (k i fuel : Nat) (σ : Hp), i + k = n → k < fuel → (∀ a j, a ≠ 14 → σ a j = σ0 a j) → (∀ g, g < n → σ 14 g = nI (mix i t (tD t nod) g)) → ∃ σ', f_X4_wakeAll_2 13 fuel σ (nI i) = some (nI (cnt 5 (mk n nod).testBit), σ') ∧ (∀ a j, a ≠ 14 → ¬ (a = 13 ∧ j = 5) → σ' a j = σ0 a j) ∧ (∀ g, g < n → σ' 14 g = nI (tD t nod g)) ∧ σ' 13 5 = 0 := by
  intro k
  induction k with
  | zero =>
    intro i fuel σ hi hf h1 h2
    obtain ⟨f, rfl⟩ : ∃ f, fuel = f + 1 := ⟨fuel - 1, by omega⟩
    have hin : i = n := by omega
    subst hin
    simp only [f_X4_wakeAll_2, Lt]
    rw [show σ (chO 13) 1 = nI i from (h1 11 1 (by decide)).trans hc, if_pos (nI_le (Nat.le_refl _) (by omega)), (h1 13 5 (by decide)).trans hr.2.1, bd_ok (bitCount_ok σ (mk_lt32 hn nod))]
    refine ⟨_, rfl, fun a j q1 q2 => by rw [wr_ne q2]; exact h1 a j q1, fun g hg => ?_, by rw [wr_eq]⟩
    rw [wr_ne (by omega), h2 g hg, mix_n hg]
  | succ k ih =>
    intro i fuel σ hi hf h1 h2
    obtain ⟨f, rfl⟩ : ∃ f, fuel = f + 1 := ⟨fuel - 1, by omega⟩
    have hin : i < n := by omega
    have hi5 : i < 5 := by omega
    simp only [f_X4_wakeAll_2, f_X4_wakeAll_43, Lt]
    rw [show σ (chO 13) 1 = nI n from (h1 11 1 (by decide)).trans hc, if_neg (nI_ge hin (by omega)), (h1 13 5 (by decide)).trans hr.2.1, bit_b2i hn hin]
    simp only [b2i_0]
    rw [ni_add1]
    by_cases q : nod i = false
    · rw [if_pos q]
      refine ih (i + 1) f σ (by omega) (by omega) h1 (fun g hg => ?_)
      rw [h2 g hg, ← mix_succ, va_up_at]
      by_cases e : g = i
      · subst e; rw [if_pos rfl, mix_at]; simp [tD, q]
      · rw [if_neg e]
    · rw [if_neg q]
      have hti := (hb i hin).1
      simp (disch := omega) only [ck_ok, ix_nI]
      rw [show σ (13 + 1) i = nI (t i) from (h2 i hin).trans (by rw [mix_at]), a_p3 (t i) (by omega)]
      refine ih (i + 1) f _ (by omega) (by omega) (fun a j q1 => by rw [wr_ne (by omega)]; exact h1 a j q1) (fun g hg => ?_)
      rw [← mix_succ, va_up_at]
      by_cases e : g = i
      · subst e; rw [wr_eq, if_pos rfl]; simp [tD, show nod g = true by simpa using q]
      · rw [wr_ne (by omega), if_neg e, h2 g hg]
theorem drum_loop {σ0 : Hp} {n : Nat} {t : Nat → Nat} {nod : Nat → Bool} (hn : n ≤ 5) (h4 : σ0 134 4 = nI n) (hb : ∀ g, g < n → t g ≤ 99) : ∀ (k i fuel : Nat) (σ : Hp), i + k = n → k < fuel → (∀ a j, a ≠ 136 → a ≠ 139 → σ a j = σ0 a j) → (∀ g, g < n → σ 136 g = nI (mix i t (tD t nod) g) ∧ σ 139 g = b2i (mix i nod (fun _ => false) g)) → ∃ σ', f_X9_drum_13 fuel σ (nI (cnt i nod)) (nI i) = some (nI (cnt n nod), σ') ∧ (∀ a j, a ≠ 136 → a ≠ 139 → σ' a j = σ0 a j) ∧ (∀ g, g < n → σ' 136 g = nI (tD t nod g) ∧ σ' 139 g = b2i false) := by
  intro k
  induction k with
  | zero =>
    intro i fuel σ hi hf h1 h2
    obtain ⟨f, rfl⟩ : ∃ f, fuel = f + 1 := ⟨fuel - 1, by omega⟩
    have hin : i = n := by omega
    subst hin
    simp only [f_X9_drum_13]
    rw [(h1 134 4 (by decide) (by decide)).trans h4, if_pos (nI_le (Nat.le_refl _) (by omega))]
    exact ⟨σ, rfl, h1, fun g hg => by have := h2 g hg; rw [mix_n hg, mix_n hg] at this; exact this⟩
  | succ k ih =>
    intro i fuel σ hi hf h1 h2
    obtain ⟨f, rfl⟩ : ∃ f, fuel = f + 1 := ⟨fuel - 1, by omega⟩
    have hin : i < n := by omega
    have hi5 : i < 5 := by omega
    have hti := hb i hin
    obtain ⟨w1, w2⟩ := h2 i hin
    rw [mix_at] at w1 w2
    simp only [f_X9_drum_13, f_X9_drum_70, f_X9_drum_69, Lt]
    rw [(h1 134 4 (by decide) (by decide)).trans h4, if_neg (nI_ge hin (by omega))]
    simp (disch := omega) only [ck_ok, ix_nI, wr_ne]
    rw [w2, w1, ni_add1, ni_add1]
    simp only [b2i_0]
    by_cases q : nod i = false
    · rw [if_pos q]
      have hcn : cnt (i + 1) nod = cnt i nod := by simp [cnt, q]
      rw [← hcn]
      refine ih (i + 1) f σ (by omega) (by omega) h1 (fun g hg => ?_)
      rw [← mix_succ, ← mix_succ, va_up_at, va_up_at]
      by_cases e : g = i
      · subst e; rw [if_pos rfl, if_pos rfl, w1, w2]; simp [tD, q]
      · rw [if_neg e, if_neg e]; exact h2 g hg
    · rw [if_neg q]
      have hq : nod i = true := by simpa using q
      have hcn : cnt i nod + 1 = cnt (i + 1) nod := by simp [cnt, hq]
      rw [hcn]
      have fin : ∀ v : Int32, v = nI (tD t nod i) → ∃ σ', f_X9_drum_13 f (wr (wr σ 139 i (vp_nar .boolean 0)) 136 i v) (nI (cnt (i + 1) nod)) (nI (i + 1)) = some (nI (cnt n nod), σ') ∧ (∀ a j, a ≠ 136 → a ≠ 139 → σ' a j = σ0 a j) ∧ (∀ g, g < n → σ' 136 g = nI (tD t nod g) ∧ σ' 139 g = b2i false) := by
        intro v hv
        refine ih (i + 1) f _ (by omega) (by omega) (fun a j q1 q2 => by rw [wr_ne (by omega), wr_ne (by omega)]; exact h1 a j q1 q2) (fun g hg => ?_)
        rw [← mix_succ, ← mix_succ, va_up_at, va_up_at]
        by_cases e : g = i
        · subst e; rw [wr_eq, if_pos rfl, if_pos rfl, wr_ne (by omega), wr_eq, hv]; exact ⟨rfl, rfl⟩
        · rw [if_neg e, if_neg e, wr_ne (by omega), wr_ne (by omega), wr_ne (by omega), wr_ne (by omega)]; exact h2 g hg
      by_cases q2 : t i ≤ 96
      · rw [if_pos (show nI (t i) ≤ (96 : Int32) from nI_le (b := 96) q2 (by decide))]
        exact fin _ (by rw [show nI (t i) + (3 : Int32) = nI (t i + 3) from nI_add _ 3]; simp only [tD, hq, if_true]; congr 1; omega)
      · rw [if_neg (show ¬ nI (t i) ≤ (96 : Int32) from nI_ge (a := 96) (by omega) (by omega))]
        exact fin _ (by simp only [tD, hq, if_true]; rw [show min 99 (t i + 3) = 99 by omega]; rfl)
theorem op_drum {σ : Hp} (h : Inv σ) : OK2 f_X8_drum f_X9_drum σ := by
  obtain ⟨n, beds, lim, tw, t, s, d, nod, ill, i1, i2, i3, ⟨c, e, k1, k2, k3, k4, k5, k6⟩, i5, i6, i7⟩ := h
  have i1' := i1
  obtain ⟨hc, b1, b2, b3, b4, hM, hr, bn, mr, bd1, bd2, bd3⟩ := i1
  have hn := hc.1
  obtain ⟨σ1, p1, p2, p3, p4, p5, p6⟩ := push_ok k1 k2 k3 k4
  have f1 : ∀ a i, a < 24 ∨ 85 < a → σ1 a i = σ a i := fun a i q => p6 a i (by omega) (by omega)
  have hr1 : RV σ1 13 n t s d nod ill := by
    obtain ⟨w1, w2, w3⟩ := hr
    exact ⟨fun g hg => by rw [f1 _ _ (by omega), f1 _ _ (by omega), f1 _ _ (by omega)]; exact w1 g hg, by rw [f1 _ _ (by omega)]; exact w2, by rw [f1 _ _ (by omega)]; exact w3⟩
  obtain ⟨σ2, e1, e2, e3, e4⟩ := wake_loop hn ((f1 11 1 (by omega)).trans hc.2.2.1) hr1 bn n 0 FU σ1 (by omega) (FU_big (by omega)) (fun _ _ _ => rfl) (fun g hg => by rw [mix_0]; exact (hr1.1 g hg).1)
  have f2 : ∀ a i, a < 13 ∨ 14 < a → σ2 a i = σ1 a i := fun a i q => e2 a i (by omega) (by omega)
  have g2 : ∀ a i, a < 13 ∨ (14 < a ∧ a < 24) ∨ 85 < a → σ2 a i = σ a i := fun a i q => (f2 a i (by omega)).trans (f1 a i (by omega))
  obtain ⟨σ4, n1, n2, n3, n4, n5⟩ := note_ok (σ := wr σ2 134 0 0) (c := c) k1 (by rw [wr_ne (by omega), g2 _ _ (by omega)]; exact k5)
  have g4 : ∀ a i, a ≠ 148 → ¬ (a = 134 ∧ (i = 0 ∨ i = 25)) → σ4 a i = σ2 a i := fun a i q1 q2 => (n5 a i q1 (by omega)).trans (wr_ne (by omega))
  obtain ⟨σ5, r1, r2, r3⟩ := drum_loop (σ0 := σ4) (t := t) (nod := nod) hn (by rw [g4 _ _ (by omega) (by omega), g2 _ _ (by omega)]; exact hM.2.2.1) (fun g hg => (bn g hg).1) n 0 FU σ4 (by omega) (FU_big (by omega)) (fun _ _ _ _ => rfl) (fun g hg => by rw [mix_0, mix_0, g4 _ _ (by omega) (by omega), g2 _ _ (by omega), g4 _ _ (by omega) (by omega), g2 _ _ (by omega)]; exact ⟨(mr g hg).1, (mr g hg).2.2.2⟩)
  have hcnt : cnt 5 (mk n nod).testBit = cnt n nod := by
    rw [cnt_5 hn (mk_lt n nod)]; exact cnt_congr (fun g hg => mk_bit n nod g hg)
  have s5 : ∀ a i, a ≠ 148 → ¬ (a = 134 ∧ (i = 0 ∨ i = 25)) → a ≠ 136 → a ≠ 139 → σ5 a i = σ2 a i := fun a i q1 q2 q3 q4 => (r2 a i q3 q4).trans (g4 a i q1 q2)
  have z5 : ∀ a i, (a < 13 ∨ (14 < a ∧ a < 24) ∨ 85 < a) → a ≠ 148 → ¬ (a = 134 ∧ (i = 0 ∨ i = 25)) → a ≠ 136 → a ≠ 139 → σ5 a i = σ a i := fun a i q0 q1 q2 q3 q4 => (s5 a i q1 q2 q3 q4).trans (g2 a i q0)
  have y5 : ∀ j, j ≠ 5 → σ5 13 j = σ 13 j := fun j q => (s5 13 j (by omega) (by omega) (by omega) (by omega)).trans ((e2 13 j (by omega) (by omega)).trans (f1 13 j (by omega)))
  refine ⟨nI (cnt n nod), σ2, σ5, ?_, ?_, ?_⟩
  · simp only [f_X8_drum]
    rw [bd_ok p1, bd_ok (show f_X4_wakeAll σ1 13 = _ from e1), hcnt]
  · simp only [f_X9_drum, Lt]
    rw [bd_ok n1]; exact r1
  · refine ⟨n, beds, lim, tw, tD t nod, s, d, fun _ => false, ill, core_new i1' (fun i => z5 _ i (by omega) (by omega) (by omega) (by omega) (by omega)) (fun i => z5 _ i (by omega) (by omega) (by omega) (by omega) (by omega)) (fun i hi => z5 _ i (by omega) (by omega) (by omega) (by omega) (by omega)) (fun i => z5 _ i (by omega) (by omega) (by omega) (by omega) (by omega)) ?_ ?_ ?_ ?_ ?_ ?_ ?_, keep_p i2 ?_, keep_t i3 ?_, ?_, keep_s i5 ?_, keep_b i6 ?_, keep_q i7 ?_⟩
    · intro g hg
      rw [z5 _ _ (by omega) (by omega) (by omega) (by omega) (by omega)]
      exact hM.2.2.2.2.2.2 g hg
    · refine ⟨fun g hg => ⟨?_, ?_, ?_⟩, ?_, ?_⟩
      · rw [s5 _ _ (by omega) (by omega) (by omega) (by omega)]; exact e3 g hg
      · rw [z5 _ _ (by omega) (by omega) (by omega) (by omega) (by omega)]; exact (hr.1 g hg).2.1
      · rw [z5 _ _ (by omega) (by omega) (by omega) (by omega) (by omega)]; exact (hr.1 g hg).2.2
      · rw [s5 _ _ (by omega) (by omega) (by omega) (by omega), e4, show mk n (fun _ => false) = 0 from acc_0 (n := n) (fun _ => false) |>.symm.trans (mk_congr (fun g _ => by simp [acc])) |>.symm]; rfl
      · rw [y5 6 (by omega)]; exact hr.2.2
    · intro g hg
      obtain ⟨v1, v2, v3⟩ := bn g hg
      refine ⟨?_, v2, v3⟩
      unfold tD; split <;> omega
    · intro g hg
      obtain ⟨w1, w2⟩ := r3 g hg
      refine ⟨w1, ?_, ?_, w2⟩
      · rw [z5 _ _ (by omega) (by omega) (by omega) (by omega) (by omega)]; exact (mr g hg).2.1
      · rw [z5 _ _ (by omega) (by omega) (by omega) (by omega) (by omega)]; exact (mr g hg).2.2.1
    · intro g hg
      rw [z5 17 _ (by omega) (by omega) (by omega) (by omega) (by omega), z5 142 _ (by omega) (by omega) (by omega) (by omega) (by omega)]; exact bd1 g hg
    · rw [y5 7 (by omega), z5 134 14 (by omega) (by omega) (by omega) (by omega) (by omega)]; exact bd2
    · rw [y5 8 (by omega), z5 134 15 (by omega) (by omega) (by omega) (by omega) (by omega)]; exact bd3
    · exact fun a i q => (by unfold Rp at q; exact z5 a i (by omega) (by omega) (by omega) (by omega) (by omega))
    · exact fun a i q => (by unfold Rt at q; exact z5 a i (by omega) (by omega) (by omega) (by omega) (by omega))
    · refine acts_new hn k1 k2 k6 ?_ ?_ ?_ ?_ ?_ ?_
      · rw [s5 24 1 (by omega) (by omega) (by omega) (by omega), f2 24 1 (by omega)]; exact p2
      · rw [s5 24 2 (by omega) (by omega) (by omega) (by omega), f2 24 2 (by omega)]; exact p3
      · rw [r2 134 25 (by omega) (by omega)]; exact n2
      · intro a i q1 q2 q3
        rw [s5 a i (by omega) (by omega) (by omega) (by omega), f2 a i (by omega)]; exact p6 a i (by omega) q3
      · intro j i q1 q2
        rw [r2 148 _ (by omega) (by omega), n3 j i q1 q2, wr_ne (by omega), g2 148 _ (by omega)]
      · refine page_new i1' (fun k g q1 q2 q3 => ?_) (fun j q1 q2 => ?_) ?_
        · rw [s5 _ g (by omega) (by omega) (by omega) (by omega), f2 _ g (by omega)]; exact p4 k g q1 q2 q3
        · rw [s5 _ j (by omega) (by omega) (by omega) (by omega), f2 _ j (by omega)]; exact p5 j q1 q2
        · exact LayD_congr n4 (fun b i q1 q2 => by rw [wr_ne (by omega)]; exact (g2 b i (by omega)).symm) (fun i hi => by rw [wr_ne (by omega)]; exact (g2 _ i (by omega)).symm) (fun i hi => by rw [r2 148 _ (by omega) (by omega)])
    · exact fun a i q => (by unfold Rs at q; exact z5 a i (by omega) (by omega) (by omega) (by omega) (by omega))
    · exact fun a i q => (by unfold Rb at q; exact z5 a i (by omega) (by omega) (by omega) (by omega) (by omega))
    · exact fun a i q => (by unfold Rq at q; exact z5 a i (by omega) (by omega) (by omega) (by omega) (by omega))
theorem op_undo {σ : Hp} (h : Inv σ) : OK2 f_X8_undo f_X9_undo σ := by
  have h0 := h
  obtain ⟨n, beds, lim, tw, t, s, d, nod, ill, i1, i2, i3, ⟨c, e, k1, k2, k3, k4, k5, k6⟩, i5, i6, i7⟩ := h
  have i1' := i1
  obtain ⟨hc, b1, b2, b3, b4, hM, hr, bn, mr, bd1, bd2, bd3⟩ := i1
  have hn := hc.1
  by_cases q : c = 0
  · subst q
    refine ⟨-3, σ, wr σ 134 0 0, ?_, ?_, Inv_scr h0 (thrown_scr σ)⟩
    · simp only [f_X8_undo]; rw [if_pos (show σ 24 2 = 0 from k4)]
    · simp only [f_X9_undo, Lt]; rw [if_pos (show (wr σ 134 0 0) 134 25 = 0 by rw [wr_ne (by omega)]; exact k5)]
  · obtain ⟨σ1, p1, p2, p3, p4, p5, p6, p7⟩ := pop_ok k1 (by omega) k2 k3 k4
    have hP := k6 (c - 1) (by omega)
    rw [show (e + 12 - c + (c - 1)) % 12 = (e + 11) % 12 by omega] at hP
    obtain ⟨T, S, D, N, w0, w1, w2, w3, w4⟩ := hP
    have r25 : (wr σ1 134 0 0) 134 25 = nI c := by rw [wr_ne (by omega), p7 134 25 (by omega) (by omega)]; exact k5
    have sb : nI c - 1 = nI (c - 1) := pk_sub (b := 1) (by omega)
    obtain ⟨σ2, e1, e2, e3, e4, e5⟩ := take_ok (σ := wr (wr σ1 134 0 0) 134 25 (nI (c - 1))) (q := 148) (qn := 324) (a := 27 * (c - 1)) (by omega) (by omega) (by omega)
    have f2 : ∀ a i, a ≠ 136 → a ≠ 137 → a ≠ 138 → a ≠ 139 → a ≠ 142 → ¬ (a = 134 ∧ (i = 0 ∨ i = 14 ∨ i = 15 ∨ i = 25)) → σ2 a i = σ1 a i := fun a i q1 q2 q3 q4 q5 q6 => (e2 a i q1 q2 q3 q4 q5 (by omega)).trans ((wr_ne (by omega)).trans (wr_ne (by omega)))
    have z2 : ∀ a i, (a < 13 ∨ 17 < a) → ¬ (a = 24 ∧ (i = 1 ∨ i = 2)) → a ≠ 136 → a ≠ 137 → a ≠ 138 → a ≠ 139 → a ≠ 142 → ¬ (a = 134 ∧ (i = 0 ∨ i = 14 ∨ i = 15 ∨ i = 25)) → σ2 a i = σ a i := fun a i q0 q1 q2 q3 q4 q5 q6 q7 => (f2 a i q2 q3 q4 q5 q6 q7).trans (p7 a i q1 q0)
    have c13 : ∀ a i, 13 ≤ a → a ≤ 17 → σ2 a i = σ1 a i := fun a i q1 q2 => f2 a i (by omega) (by omega) (by omega) (by omega) (by omega) (by omega)
    have m48 : ∀ i, (wr (wr σ1 134 0 0) 134 25 (nI (c - 1))) 148 i = σ 148 i := fun i => (wr_ne (by omega)).trans ((wr_ne (by omega)).trans (p7 148 i (by omega) (by omega)))
    refine ⟨nI (c - 1), σ1, σ2, ?_, ?_, ?_⟩
    · simp only [f_X8_undo]
      rw [if_neg (show ¬ σ 24 2 = 0 by rw [k4]; exact nI_ne0 (by omega) (by omega)), bd_ok p1, p3]
    · simp only [f_X9_undo, Lt]
      rw [r25, if_neg (nI_ne0 (by omega) (by omega)), sb, wr_eq, show (27 : Int32) * nI (c - 1) = nI (27 * (c - 1)) from pk_mul 27 _, bd_ok e1, e2 134 25 (by omega) (by omega) (by omega) (by omega) (by omega) (by omega), wr_eq]
    · refine ⟨n, beds, lim, tw, T, S, D, N, ill, core_new i1' (fun i => z2 _ i (by omega) (by omega) (by omega) (by omega) (by omega) (by omega) (by omega) (by omega)) (fun i => z2 _ i (by omega) (by omega) (by omega) (by omega) (by omega) (by omega) (by omega) (by omega)) (fun i hi => z2 _ i (by omega) (by omega) (by omega) (by omega) (by omega) (by omega) (by omega) (by omega)) (fun i => z2 _ i (by omega) (by omega) (by omega) (by omega) (by omega) (by omega) (by omega) (by omega)) ?_ ?_ w0 ?_ ?_ ?_ ?_, keep_p i2 ?_, keep_t i3 ?_, ?_, keep_s i5 ?_, keep_b i6 ?_, keep_q i7 ?_⟩
      · intro g hg
        rw [z2 _ _ (by omega) (by omega) (by omega) (by omega) (by omega) (by omega) (by omega) (by omega)]; exact hM.2.2.2.2.2.2 g hg
      · refine ⟨fun g hg => ?_, ?_, ?_⟩
        · rw [c13 _ _ (by omega) (by omega), c13 _ _ (by omega) (by omega), c13 _ _ (by omega) (by omega), p4 1 g (by omega) (by omega) (by omega), p4 2 g (by omega) (by omega) (by omega), p4 3 g (by omega) (by omega) (by omega)]
          obtain ⟨v1, v2, v3, -⟩ := w1 g hg
          exact ⟨v1, v2, v3⟩
        · rw [c13 _ _ (by omega) (by omega), p5 5 (by omega)]; exact w2
        · rw [c13 _ _ (by omega) (by omega), p6]; exact hr.2.2
      · intro g hg
        obtain ⟨v1, v2, v3, v4, v5⟩ := e3 g (by omega)
        obtain ⟨x1, x2, x3, x4, x5, x6, x7, x8⟩ := w1 g hg
        rw [v1, v2, v3, v4, m48, m48, m48, m48, x4, x5, x6, x7, b1I_b]
        exact ⟨rfl, rfl, rfl, rfl⟩
      · intro g hg
        obtain ⟨v1, v2, v3, v4, v5⟩ := e3 g (by omega)
        rw [c13 17 g (by omega) (by omega), v5, m48, p4 4 g (by omega) (by omega) (by omega)]
        exact (w1 g hg).2.2.2.2.2.2.2
      · rw [c13 _ _ (by omega) (by omega), e4, m48, p5 7 (by omega)]; exact w3
      · rw [c13 _ _ (by omega) (by omega), e5, m48, p5 8 (by omega)]; exact w4
      · exact fun a i q => (by unfold Rp at q; exact z2 a i (by omega) (by omega) (by omega) (by omega) (by omega) (by omega) (by omega) (by omega))
      · exact fun a i q => (by unfold Rt at q; exact z2 a i (by omega) (by omega) (by omega) (by omega) (by omega) (by omega) (by omega) (by omega))
      · refine ⟨c - 1, (e + 11) % 12, by omega, by omega, ?_, ?_, ?_, fun j hj => ?_⟩
        · rw [f2 _ _ (by omega) (by omega) (by omega) (by omega) (by omega) (by omega)]; exact p2
        · rw [f2 _ _ (by omega) (by omega) (by omega) (by omega) (by omega) (by omega)]; exact p3
        · rw [e2 134 25 (by omega) (by omega) (by omega) (by omega) (by omega) (by omega), wr_eq]
        · rw [show ((e + 11) % 12 + 12 - (c - 1) + j) % 12 = (e + 12 - c + j) % 12 by omega]
          have lt : (e + 12 - c + j) % 12 < 12 := Nat.mod_lt _ (by decide)
          exact Page_move hn (k6 j (by omega)) (fun b i q1 q2 => z2 b i (by omega) (by omega) (by omega) (by omega) (by omega) (by omega) (by omega) (by omega)) (fun i _ => z2 148 _ (by omega) (by omega) (by omega) (by omega) (by omega) (by omega) (by omega) (by omega))
      · exact fun a i q => (by unfold Rs at q; exact z2 a i (by omega) (by omega) (by omega) (by omega) (by omega) (by omega) (by omega) (by omega))
      · exact fun a i q => (by unfold Rb at q; exact z2 a i (by omega) (by omega) (by omega) (by omega) (by omega) (by omega) (by omega) (by omega))
      · exact fun a i q => (by unfold Rq at q; exact z2 a i (by omega) (by omega) (by omega) (by omega) (by omega) (by omega) (by omega) (by omega))
