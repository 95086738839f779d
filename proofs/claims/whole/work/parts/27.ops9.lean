def FrQ (σ σ' : Hp) : Prop := ∀ a i, a ≠ 136 → a ≠ 137 → a ≠ 138 → a ≠ 139 → a ≠ 142 → ¬ (a = 134 ∧ (i = 14 ∨ i = 15)) → σ' a i = σ a i
theorem q43_loop {σ0 : Hp} {n m : Nat} {T S D : Nat → Nat} {N : Nat → Bool} (hn : n ≤ 5) (hm : m < 32) (h4 : σ0 134 4 = nI n) (hS : SV σ0 n T S D N) (x2 : Int32) : ∀ (k i fuel : Nat) (σ : Hp), i + k = n → k < fuel → FrQ σ0 σ → (∀ g, g < i → σ 136 g = nI (T g) ∧ σ 137 g = nI (S g) ∧ σ 138 g = nI (D g) ∧ σ 139 g = b2i (N g) ∧ σ 142 g = if m.testBit g = true then σ0 142 g + 1 else σ0 142 g) → (∀ g, i ≤ g → σ 142 g = σ0 142 g) → σ 134 14 = σ0 134 14 → σ 134 15 = σ0 134 15 → ∃ σ', f_X9_quarter_43 fuel σ (nI m) x2 (nI i) = some (x2, σ') ∧ MR σ' n T S D N ∧ (∀ g, g < n → σ' 142 g = if m.testBit g = true then σ0 142 g + 1 else σ0 142 g) ∧ σ' 134 14 = σ0 134 14 + 1 ∧ σ' 134 15 = (if x2 = 0 then σ0 134 15 + 1 else σ0 134 15) ∧ FrQ σ0 σ' := by
  intro k
  induction k with
  | zero =>
    intro i fuel σ hi hf hfr h1 h2 h3 h5
    obtain ⟨f, rfl⟩ : ∃ f, fuel = f + 1 := ⟨fuel - 1, by omega⟩
    have hin : i = n := by omega
    subst hin
    simp only [f_X9_quarter_43, f_X9_quarter_151, Lt]
    rw [hfr 134 4 (by decide) (by decide) (by decide) (by decide) (by decide) (by decide), h4, if_pos (nI_le (Nat.le_refl _) (by omega)), h3]
    have fin : ∀ v : Int32, v = (if x2 = 0 then σ0 134 15 + 1 else σ0 134 15) → ∃ σ', some (x2, wr (wr σ 134 14 (σ0 134 14 + 1)) 134 15 v) = some (x2, σ') ∧ MR σ' i T S D N ∧ (∀ g, g < i → σ' 142 g = if m.testBit g = true then σ0 142 g + 1 else σ0 142 g) ∧ σ' 134 14 = σ0 134 14 + 1 ∧ σ' 134 15 = (if x2 = 0 then σ0 134 15 + 1 else σ0 134 15) ∧ FrQ σ0 σ' := by
      intro v hv
      refine ⟨_, rfl, fun g hg => ?_, fun g hg => ?_, ?_, ?_, fun a j q1 q2 q3 q4 q5 q6 => ?_⟩
      · have := h1 g hg
        simp (disch := omega) only [wr_ne]; exact ⟨this.1, this.2.1, this.2.2.1, this.2.2.2.1⟩
      · simp (disch := omega) only [wr_ne]; exact (h1 g hg).2.2.2.2
      · rw [wr_ne (by omega), wr_eq]
      · rw [wr_eq, hv]
      · simp (disch := omega) only [wr_ne]; exact hfr a j q1 q2 q3 q4 q5 q6
    have r15 : (wr σ 134 14 (σ0 134 14 + 1)) 134 15 = σ0 134 15 := by rw [wr_ne (by omega)]; exact h5
    rw [r15]
    by_cases q : x2 = 0
    · rw [if_pos q]
      exact fin _ (by rw [if_pos q])
    · rw [if_neg q]
      exact fin _ (by rw [if_neg q, i32_a0])
  | succ k ih =>
    intro i fuel σ hi hf hfr h1 h2 h3 h5
    obtain ⟨f, rfl⟩ : ∃ f, fuel = f + 1 := ⟨fuel - 1, by omega⟩
    have hin : i < n := by omega
    have hi5 : i < 5 := by omega
    obtain ⟨s1, s2, s3, s4⟩ := hS i hin
    have r : ∀ a, 154 ≤ a → σ a i = σ0 a i := fun a ha => hfr a i (by omega) (by omega) (by omega) (by omega) (by omega) (by omega)
    simp only [f_X9_quarter_43, f_X9_quarter_119, Lt]
    rw [hfr 134 4 (by decide) (by decide) (by decide) (by decide) (by decide) (by decide), h4, if_neg (nI_ge hin (by omega))]
    simp (disch := omega) only [ck_ok, ix_nI, wr_ne]
    rw [bd_ok (has_ok _ hm hi5), r 154 (by omega), r 155 (by omega), r 156 (by omega), r 157 (by omega), s1, s2, s3, s4, nar_b, h2 i (Nat.le_refl _), ni_add1]
    simp only [b2i_0]
    have fin : ∀ v : Int32, v = (if m.testBit i = true then σ0 142 i + 1 else σ0 142 i) → ∃ σ', f_X9_quarter_43 f (wr (wr (wr (wr (wr σ 136 i (nI (T i))) 137 i (nI (S i))) 138 i (nI (D i))) 139 i (b2i (N i))) 142 i v) (nI m) x2 (nI (i + 1)) = some (x2, σ') ∧ MR σ' n T S D N ∧ (∀ g, g < n → σ' 142 g = if m.testBit g = true then σ0 142 g + 1 else σ0 142 g) ∧ σ' 134 14 = σ0 134 14 + 1 ∧ σ' 134 15 = (if x2 = 0 then σ0 134 15 + 1 else σ0 134 15) ∧ FrQ σ0 σ' := by
      intro v hv
      refine ih (i + 1) f _ (by omega) (by omega) (fun a j q1 q2 q3 q4 q5 q6 => ?_) (fun g hg => ?_) (fun g hg => ?_) ?_ ?_
      · simp (disch := omega) only [wr_ne]; exact hfr a j q1 q2 q3 q4 q5 q6
      · by_cases e : g = i
        · subst e
          simp (disch := omega) only [wr_ne, wr_eq, hv, and_self]
        · have := h1 g (by omega)
          simp (disch := omega) only [wr_ne]; exact this
      · rw [wr_ne (by omega)]; simp (disch := omega) only [wr_ne]; exact h2 g (by omega)
      · simp (disch := omega) only [wr_ne]; exact h3
      · simp (disch := omega) only [wr_ne]; exact h5
    by_cases q : m.testBit i = false
    · rw [if_pos q]
      exact fin _ (by rw [i32_a0, if_neg (by rw [q]; decide)])
    · rw [if_neg q]
      exact fin _ (by rw [if_pos (by simpa using q)])
theorem may_ok {n beds : Nat} {tw : Nat → Option Nat} {s d : Nat → Nat} {m : Nat} {ill : Nat → Bool} (h : mayB n beds tw s d m ill = true) : ∀ g, g < n → okG n tw s d m ill g = true := by
  unfold mayB at h
  rw [Bool.and_eq_true] at h
  exact fun g hg => (allB_iff _ _ _).mp h.2 g (Nat.zero_le _) (by omega)
theorem op_quarter {σ : Hp} (h : Inv σ) (a1 : Int32) : OK2 (fun σ => f_X8_quarter σ a1) (fun σ => f_X9_quarter σ a1) σ := by
  have h0 := h
  obtain ⟨n, beds, lim, tw, t, s, d, nod, ill, i1, i2, i3, ⟨c, e, k1, k2, k3, k4, k5, k6⟩, i5, i6, i7⟩ := h
  have i1' := i1
  obtain ⟨hc, b1, b2, b3, b4, hM, hr, bn, mr, bd1, bd2, bd3⟩ := i1
  have hn := hc.1
  have hI : Inv (wr σ 134 0 0) := Inv_scr h0 (thrown_scr σ)
  rcases set_cases a1 hn with ho | ⟨m, hm, rfl⟩
  · refine ⟨-2, σ, wr σ 134 0 0, ?_, ?_, hI⟩
    · simp only [f_X8_quarter]; rw [bd_ok (hasAll_out hn hc.2.2.1 ho), if_pos rfl]
    · simp only [f_X9_quarter, Lt]; rw [bd_ok (noSet_out hn (MV_wr hM).2.2.1 ho), if_neg (by decide)]
  · have hm32 : m < 32 := Nat.lt_of_lt_of_le hm (Nat.pow_le_pow_right (by decide) hn)
    have hal := allows_ok (o := 13) hc b1 b3 hr bn hm
    by_cases hmay : mayB n beds tw s d m ill = true
    · have hok := may_ok hmay
      obtain ⟨σ1, p1, p2, p3, p4, p5, p6⟩ := push_ok k1 k2 k3 k4
      have f1 : ∀ a i, a < 24 ∨ 85 < a → σ1 a i = σ a i := fun a i q => p6 a i (by omega) (by omega)
      have hr1 : RV σ1 13 n t s d nod ill := by
        obtain ⟨w1, w2, w3⟩ := hr
        exact ⟨fun g hg => by rw [f1 _ _ (by omega), f1 _ _ (by omega), f1 _ _ (by omega)]; exact w1 g hg, by rw [f1 _ _ (by omega)]; exact w2, by rw [f1 _ _ (by omega)]; exact w3⟩
      have hc1 : CV σ1 (chO 13) n tw := ⟨hn, hc.2.1, (f1 11 1 (by omega)).trans hc.2.2.1, fun g hg => (f1 12 g (by omega)).trans (hc.2.2.2 g hg)⟩
      obtain ⟨σ2, e1, e2, e3, e4, e5, e6⟩ := pass_ok (o := 13) rP_13 hc1 ((f1 11 3 (by omega)).trans b2) b4 hr1 bn hm hok
      have f2 : ∀ a i, a < 13 ∨ 17 < a → σ2 a i = σ1 a i := fun a i q => e3 a i (by omega) (by omega) (by omega) (by omega) (by omega)
      have g2 : ∀ a i, a < 13 ∨ 85 < a → σ2 a i = σ a i := fun a i q => (f2 a i (by omega)).trans (f1 a i (by omega))
      have fM : ∀ a i, 134 ≤ a → σ2 a i = σ a i := fun a i q => g2 a i (by omega)
      have hM2 := MV_wr (MV_O fM hM)
      obtain ⟨σ3, l1, l2, l3⟩ := begin_ok hn hM2.2.2.1 (MR_wr (MR_O fM mr))
      have hcb := canBe_ok (MV_fr l3 hM2) b3 l2 bn hm
      have g3 : ∀ a i, a < 154 → ¬ (a = 134 ∧ i = 0) → σ3 a i = σ2 a i := fun a i q1 q2 => (l3 a i (by omega) (by omega) (by omega) (by omega)).trans (wr_ne q2)
      obtain ⟨σ4, n1, n2, n3, n4, n5⟩ := note_ok (σ := σ3) (c := c) k1 (by rw [g3 _ _ (by omega) (by omega), fM _ _ (by omega)]; exact k5)
      have hM4 : MV σ4 n beds lim tw ill := by
        obtain ⟨q1, q2, q3, q4, q5, q6, q7⟩ := MV_fr l3 hM2
        exact ⟨q1, q2, by rw [n5 _ _ (by omega) (by omega)]; exact q3, by rw [n5 _ _ (by omega) (by omega)]; exact q4, by rw [n5 _ _ (by omega) (by omega)]; exact q5, fun g hg => by rw [n5 _ _ (by omega) (by omega)]; exact q6 g hg, fun g hg => by rw [n5 _ _ (by omega) (by omega)]; exact q7 g hg⟩
      have hS4 : SV σ4 n t s d nod := fun g hg => by
        rw [n5 _ _ (by omega) (by omega), n5 _ _ (by omega) (by omega), n5 _ _ (by omega) (by omega), n5 _ _ (by omega) (by omega)]; exact l2 g hg
      obtain ⟨σ5, o1, o2, o3⟩ := go_ok hM4 b4 hS4 bn hm hok
      have g5 : ∀ a i, a < 154 → σ5 a i = σ4 a i := fun a i q => o3 a i (by omega) (by omega) (by omega) (by omega)
      obtain ⟨σ6, r1, r2, r3, r4, r5, r6⟩ := q43_loop (m := m) hn hm32 (MV_fr o3 hM4).2.2.1 o2 (nI (mk n (aw lim m t nod))) n 0 FU σ5 (by omega) (FU_big (by omega)) (fun _ _ _ _ _ _ _ _ => rfl) (fun g hg => absurd hg (Nat.not_lt_zero g)) (fun _ _ => rfl) rfl rfl
      have s4 : ∀ a i, a ≠ 148 → a < 154 → ¬ (a = 134 ∧ (i = 0 ∨ i = 25)) → σ5 a i = σ2 a i := fun a i q1 q2 q3 => (g5 a i q2).trans ((n5 a i q1 (by omega)).trans (g3 a i q2 (by omega)))
      have s6 : ∀ a i, a ≠ 148 → a < 154 → ¬ (a = 134 ∧ (i = 0 ∨ i = 14 ∨ i = 15 ∨ i = 25)) → a ≠ 136 → a ≠ 137 → a ≠ 138 → a ≠ 139 → a ≠ 142 → σ6 a i = σ2 a i := fun a i q1 q2 q3 q4 q5 q6 q7 q8 => (r6 a i q4 q5 q6 q7 q8 (by omega)).trans (s4 a i q1 q2 (by omega))
      have z6 : ∀ a i, (a < 13 ∨ 85 < a) → a ≠ 148 → a < 154 → ¬ (a = 134 ∧ (i = 0 ∨ i = 14 ∨ i = 15 ∨ i = 25)) → a ≠ 136 → a ≠ 137 → a ≠ 138 → a ≠ 139 → a ≠ 142 → σ6 a i = σ a i := fun a i q0 q1 q2 q3 q4 q5 q6 q7 q8 => (s6 a i q1 q2 q3 q4 q5 q6 q7 q8).trans (g2 a i q0)
      refine ⟨nI (mk n (aw lim m t nod)), σ2, σ6, ?_, ?_, ?_⟩
      · simp only [f_X8_quarter]
        rw [bd_ok (hasAll_in hn hc.2.2.1 hm), if_neg (by decide), bd_ok hal, hmay, if_pos rfl, if_neg (by decide), bd_ok p1, bd_ok e1]
      · simp only [f_X9_quarter, Lt]
        rw [bd_ok (noSet_in hn hM2.2.2.1 hm), if_pos rfl, bd_ok l1, bd_ok hcb, hmay, b2i_t, if_neg (by decide), bd_ok n1, bd_ok o1]
        exact r1
      · have hmz : (nI (mk n (aw lim m t nod)) = 0) = (mk n (aw lim m t nod) = 0) := ni_eq (b := 0) (by have := mk_lt32 hn (aw lim m t nod); omega) (by decide)
        refine ⟨n, beds, lim, tw, t1 m t nod, s1 (Giv n tw s m ill) s, d1 m ill d, nod1 lim m t nod, ill, core_new i1' (fun i => z6 _ i (by omega) (by omega) (by omega) (by omega) (by omega) (by omega) (by omega) (by omega) (by omega)) (fun i => z6 _ i (by omega) (by omega) (by omega) (by omega) (by omega) (by omega) (by omega) (by omega) (by omega)) (fun i hi => z6 _ i (by omega) (by omega) (by omega) (by omega) (by omega) (by omega) (by omega) (by omega) (by omega)) (fun i => z6 _ i (by omega) (by omega) (by omega) (by omega) (by omega) (by omega) (by omega) (by omega) (by omega)) ?_ ?_ (BN_pass (lim := lim) (nod := nod) bn hok) r2 ?_ ?_ ?_, keep_p i2 ?_, keep_t i3 ?_, ?_, keep_s i5 ?_, keep_b i6 ?_, keep_q i7 ?_⟩
        · intro g hg
          rw [z6 _ _ (by omega) (by omega) (by omega) (by omega) (by omega) (by omega) (by omega) (by omega) (by omega)]
          exact hM.2.2.2.2.2.2 g hg
        · obtain ⟨w1, w2, w3⟩ := e2
          have v : ∀ a i, 13 ≤ a → a ≤ 17 → σ6 a i = σ2 a i := fun a i q1 q2 => s6 a i (by omega) (by omega) (by omega) (by omega) (by omega) (by omega) (by omega) (by omega)
          exact ⟨fun g hg => by rw [v _ _ (by omega) (by omega), v _ _ (by omega) (by omega), v _ _ (by omega) (by omega)]; exact w1 g hg, by rw [v _ _ (by omega) (by omega)]; exact w2, by rw [v _ _ (by omega) (by omega)]; exact w3⟩
        · intro g hg
          rw [s6 17 g (by omega) (by omega) (by omega) (by omega) (by omega) (by omega) (by omega) (by omega), r3 g hg, e4 g hg, s4 142 g (by omega) (by omega) (by omega), fM 142 g (by omega), f1 17 g (by omega), bd1 g hg]
        · rw [s6 13 7 (by omega) (by omega) (by omega) (by omega) (by omega) (by omega) (by omega) (by omega), r4, e5, s4 134 14 (by omega) (by omega) (by omega), fM 134 14 (by omega), f1 13 7 (by omega), bd2]
        · rw [s6 13 8 (by omega) (by omega) (by omega) (by omega) (by omega) (by omega) (by omega) (by omega), r5, e6, s4 134 15 (by omega) (by omega) (by omega), fM 134 15 (by omega), f1 13 8 (by omega), bd3]
          simp only [hmz]
        · exact fun a i q => (by unfold Rp at q; exact (s6 a i (by omega) (by omega) (by omega) (by omega) (by omega) (by omega) (by omega) (by omega)).trans ((f2 a i (by omega)).trans (f1 a i (by omega))))
        · exact fun a i q => (by unfold Rt at q; exact z6 a i (by omega) (by omega) (by omega) (by omega) (by omega) (by omega) (by omega) (by omega) (by omega))
        · refine acts_new hn k1 k2 k6 ?_ ?_ ?_ ?_ ?_ ?_
          · rw [s6 24 1 (by omega) (by omega) (by omega) (by omega) (by omega) (by omega) (by omega) (by omega), f2 24 1 (by omega)]; exact p2
          · rw [s6 24 2 (by omega) (by omega) (by omega) (by omega) (by omega) (by omega) (by omega) (by omega), f2 24 2 (by omega)]; exact p3
          · rw [r6 134 25 (by omega) (by omega) (by omega) (by omega) (by omega) (by omega), g5 134 25 (by omega)]; exact n2
          · intro a i q1 q2 q3
            rw [s6 a i (by omega) (by omega) (by omega) (by omega) (by omega) (by omega) (by omega) (by omega), f2 a i (by omega)]; exact p6 a i (by omega) q3
          · intro j i q1 q2
            rw [r6 148 _ (by omega) (by omega) (by omega) (by omega) (by omega) (by omega), g5 148 _ (by omega), n3 j i q1 q2, g3 148 _ (by omega) (by omega), fM 148 _ (by omega)]
          · refine page_new i1' (fun k g q1 q2 q3 => ?_) (fun j q1 q2 => ?_) ?_
            · rw [s6 _ g (by omega) (by omega) (by omega) (by omega) (by omega) (by omega) (by omega) (by omega), f2 _ g (by omega)]; exact p4 k g q1 q2 q3
            · rw [s6 _ j (by omega) (by omega) (by omega) (by omega) (by omega) (by omega) (by omega) (by omega), f2 _ j (by omega)]; exact p5 j q1 q2
            · exact LayD_congr n4 (fun b i q1 q2 => by rw [g3 b i (by omega) (by omega)]; exact (fM b i (by omega)).symm) (fun i hi => by rw [g3 _ i (by omega) (by omega)]; exact (fM _ i (by omega)).symm) (fun i hi => by rw [r6 148 _ (by omega) (by omega) (by omega) (by omega) (by omega) (by omega), g5 148 _ (by omega)])
        · exact fun a i q => (by unfold Rs at q; exact z6 a i (by omega) (by omega) (by omega) (by omega) (by omega) (by omega) (by omega) (by omega) (by omega))
        · exact fun a i q => (by unfold Rb at q; exact z6 a i (by omega) (by omega) (by omega) (by omega) (by omega) (by omega) (by omega) (by omega) (by omega))
        · exact fun a i q => (by unfold Rq at q; exact z6 a i (by omega) (by omega) (by omega) (by omega) (by omega) (by omega) (by omega) (by omega) (by omega))
    · have hmf : mayB n beds tw s d m ill = false := by simpa using hmay
      obtain ⟨σ1, l1, l2, l3⟩ := begin_ok hn (MV_wr hM).2.2.1 (MR_wr mr)
      have hcb := canBe_ok (MV_fr l3 (MV_wr hM)) b3 l2 bn hm
      refine ⟨-3, σ, σ1, ?_, ?_, Inv_scr hI (fun a i q => l3 a i (fun w => q (by unfold Scr; omega)) (fun w => q (by unfold Scr; omega)) (fun w => q (by unfold Scr; omega)) (fun w => q (by unfold Scr; omega)))⟩
      · simp only [f_X8_quarter]
        rw [bd_ok (hasAll_in hn hc.2.2.1 hm), if_neg (by decide), bd_ok hal, hmf, if_pos (by decide)]
      · simp only [f_X9_quarter, Lt]
        rw [bd_ok (noSet_in hn (MV_wr hM).2.2.1 hm), if_pos rfl, bd_ok l1, bd_ok hcb, hmf, b2i_f, if_pos rfl]
