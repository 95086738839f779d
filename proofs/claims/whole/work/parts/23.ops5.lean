/-! the weakest hour -/
def mP (n beds : Nat) (tw : Nat → Option Nat) (ill : Nat → Bool) (pl : Nat → Nat) (k : Nat) (x : RS) : Nat := if mayB n beds tw x.2.1 x.2.2.1 (pl (k % 4)) ill = true then pl (k % 4) else 0
def WK (n beds lim : Nat) (tw : Nat → Option Nat) (ill : Nat → Bool) (pl : Nat → Nat) : Nat → Nat → Nat → Nat → RS → Nat
  | 0, _, _, fi, _ => fi
  | j + 1, k, F, fi, x => if cnt n (aw lim (mP n beds tw ill pl k x) x.1 x.2.2.2) < F then WK n beds lim tw ill pl j (k + 1) (cnt n (aw lim (mP n beds tw ill pl k x) x.1 x.2.2.2)) k (stp n lim tw ill (mP n beds tw ill pl k x) x) else WK n beds lim tw ill pl j (k + 1) F fi (stp n lim tw ill (mP n beds tw ill pl k x) x)
theorem WK_first {n beds lim : Nat} {tw : Nat → Option Nat} {ill : Nat → Bool} {pl : Nat → Nat} (j k F F' fi : Nat) (x : RS) (h : cnt n (aw lim (mP n beds tw ill pl k x) x.1 x.2.2.2) < F) (h' : cnt n (aw lim (mP n beds tw ill pl k x) x.1 x.2.2.2) < F') : WK n beds lim tw ill pl (j + 1) k F fi x = WK n beds lim tw ill pl (j + 1) k F' fi x := by
  simp only [WK]
  rw [if_pos h, if_pos h']
theorem mP_ok {n beds : Nat} {tw : Nat → Option Nat} {ill : Nat → Bool} {pl : Nat → Nat} (hp : ∀ j, j < 4 → pl j < 2 ^ n) (k : Nat) (x : RS) : mP n beds tw ill pl k x < 2 ^ n ∧ ∀ g, g < n → okG n tw x.2.1 x.2.2.1 (mP n beds tw ill pl k x) ill g = true := by
  unfold mP
  by_cases h : mayB n beds tw x.2.1 x.2.2.1 (pl (k % 4)) ill = true
  · rw [if_pos h]
    refine ⟨hp _ (Nat.mod_lt _ (by decide)), fun g hg => ?_⟩
    unfold mayB at h
    rw [Bool.and_eq_true] at h
    exact (allB_iff _ _ _).mp h.2 g (Nat.zero_le g) (by omega)
  · rw [if_neg h]
    exact ⟨Nat.pow_pos (by decide), fun g _ => okG_zero g⟩
theorem cnt_mk {n : Nat} (hn : n ≤ 5) (f : Nat → Bool) : cnt 5 (mk n f).testBit = cnt n f := by
  rw [cnt_5 hn (mk_lt n f)]
  exact cnt_congr (fun g hg => mk_bit n f g hg)
theorem rem4 {k : Nat} (hk : k < 100) : nI k - nI k / (4 : Int32) * (4 : Int32) = nI (k % 4) := pk_rem (d := 4) (by omega) (by decide) (by decide)
theorem weakC_loop {σ0 : Hp} {n beds lim : Nat} {tw : Nat → Option Nat} {ill : Nat → Bool} {pl : Nat → Nat} (hc : CV σ0 11 n tw) (hbd : σ0 11 2 = nI beds) (hb5 : beds ≤ 5) (hl : σ0 11 3 = nI lim) (hl9 : lim < 100) (hp : ∀ j, j < 4 → pl j < 2 ^ n ∧ σ0 23 j = nI (pl j)) : ∀ (j k fuel F fi : Nat) (σ : Hp) (x : RS), k + j = 8 → j < fuel → F < 100 → FrO σ0 σ 18 → RV σ 18 n x.1 x.2.1 x.2.2.1 x.2.2.2 ill → BN n x.1 x.2.1 x.2.2.1 → ∃ σ', f_X8_weakest_18 fuel σ (nI F) (nI fi) (nI k) = some (nI (WK n beds lim tw ill pl j k F fi x), σ') ∧ FrO σ0 σ' 18 := by
  have hn := hc.1
  intro j
  induction j with
  | zero =>
    intro k fuel F fi σ x hk hf hF hfr hr hb
    obtain ⟨f, rfl⟩ : ∃ f, fuel = f + 1 := ⟨fuel - 1, by omega⟩
    have : k = 8 := by omega
    subst this
    refine ⟨σ, ?_, hfr⟩
    simp only [f_X8_weakest_18]
    rw [if_pos (show (8 : Int32) ≤ nI 8 by decide)]
    rfl
  | succ j ih =>
    intro k fuel F fi σ x hk hf hF hfr hr hb
    obtain ⟨f, rfl⟩ : ∃ f, fuel = f + 1 := ⟨fuel - 1, by omega⟩
    have hk4 : k % 4 < 4 := Nat.mod_lt _ (by decide)
    obtain ⟨p1, p2⟩ := hp (k % 4) hk4
    have hc2 : CV σ (chO 18) n tw := ⟨hn, hc.2.1, (hfr 11 1 (by omega)).trans hc.2.2.1, fun g hg => (hfr 12 g (by omega)).trans (hc.2.2.2 g hg)⟩
    have hal := allows_ok (o := 18) hc2 ((hfr 11 2 (by omega)).trans hbd) hb5 hr hb p1
    obtain ⟨m1, m2⟩ := mP_ok (beds := beds) (fun j hj => (hp j hj).1) k x (tw := tw) (ill := ill)
    obtain ⟨σ', e1, e2, e3, -⟩ := pass_ok rP_18 hc2 ((hfr 11 3 (by omega)).trans hl) hl9 hr hb m1 m2
    have s56 : ∀ s0 : Int32, s0 = nI (mP n beds tw ill pl k x) → ∃ σ', f_X8_weakest_56 (f_X8_weakest_18 f) σ (nI F) (nI fi) (nI k) s0 = some (nI (WK n beds lim tw ill pl (j + 1) k F fi x), σ') ∧ FrO σ0 σ' 18 := by
      intro s0 hs0
      subst hs0
      simp only [f_X8_weakest_56, f_X8_weakest_75, Lt]
      rw [bd_ok e1, bd_ok (bitCount_ok σ' (mk_lt32 hn _)), cnt_mk hn, ni_add1]
      have hcl := cnt_le (aw lim (mP n beds tw ill pl k x) x.1 x.2.2.2) n
      simp only [WK]
      by_cases q : cnt n (aw lim (mP n beds tw ill pl k x) x.1 x.2.2.2) < F
      · rw [if_neg (nI_ge q (by omega)), if_pos q]
        exact ih (k + 1) f _ k σ' _ (by omega) (by omega) (by omega) (FrO_trans hfr (FrR_O e3)) e2 (BN_pass (lim := lim) hb m2)
      · rw [if_pos (nI_le (by omega) (by omega)), if_neg q]
        exact ih (k + 1) f F fi σ' _ (by omega) (by omega) hF (FrO_trans hfr (FrR_O e3)) e2 (BN_pass (lim := lim) hb m2)
    simp only [f_X8_weakest_18, Lt]
    rw [if_neg (show ¬ (8 : Int32) ≤ nI k from nI_ge (b := 8) (by omega) (by decide)), rem4 (by omega)]
    unfold nzI
    rw [if_neg (by decide), ck_ok _ hk4 (by decide), ix_nI (by omega), (hfr 23 _ (by omega)).trans p2, bd_ok hal]
    by_cases hm : mayB n beds tw x.2.1 x.2.2.1 (pl (k % 4)) ill = true
    · rw [if_pos hm, if_neg (by decide)]
      exact s56 _ (by unfold mP; rw [if_pos hm])
    · rw [if_neg hm, if_pos rfl]
      exact s56 _ (by unfold mP; rw [if_neg hm]; rfl)
theorem weakCount {σ : Hp} {n : Nat} (hn : n ≤ 5) (h4 : σ 134 4 = nI n) {m : Nat} (hm : m < 32) (k16 : Hp → Int32 → Int32 → Int32 → Option (Int32 × Hp)) (x1 x2 x3 : Int32) : ∀ (k i fuel : Nat), i + k = n → k < fuel → f_X9_weakest_61 k16 fuel σ x1 x2 x3 (nI m) (nI (cnt i m.testBit)) (nI i) = (if x2 ≤ nI (cnt n m.testBit) then f_X9_weakest_107 k16 σ x2 x3 (nI (cnt n m.testBit)) x1 else f_X9_weakest_107 k16 σ x2 x3 (nI (cnt n m.testBit)) x3) := by
  intro k
  induction k with
  | zero =>
    intro i fuel hi hf
    obtain ⟨f, rfl⟩ : ∃ f, fuel = f + 1 := ⟨fuel - 1, by omega⟩
    have hin : i = n := by omega
    subst hin
    simp only [f_X9_weakest_61]
    rw [h4, if_pos (nI_le (Nat.le_refl _) (by omega))]
  | succ k ih =>
    intro i fuel hi hf
    obtain ⟨f, rfl⟩ : ∃ f, fuel = f + 1 := ⟨fuel - 1, by omega⟩
    have hin : i < n := by omega
    have step := ih (i + 1) f (by omega) (by omega)
    simp only [f_X9_weakest_61]
    rw [h4, if_neg (nI_ge hin (by omega)), bd_ok (has_ok σ hm (by omega))]
    simp only [b2i_0, f_X9_weakest_87, Lt]
    rw [ni_add1]
    by_cases hb : m.testBit i = false
    · rw [if_pos hb]
      have e : cnt (i + 1) m.testBit = cnt i m.testBit := by simp [cnt, hb]
      rw [e] at step
      rw [show nI (cnt i m.testBit) + (0 : Int32) = nI (cnt i m.testBit) from nI_add _ 0]
      exact step
    · rw [if_neg hb]
      have e : cnt (i + 1) m.testBit = cnt i m.testBit + 1 := by simp [cnt, show m.testBit i = true by simpa using hb]
      rw [e] at step
      rw [ni_add1]
      exact step
theorem weakM_loop {σ0 : Hp} {n beds lim : Nat} {tw : Nat → Option Nat} {ill : Nat → Bool} {pl : Nat → Nat} (hM : MV σ0 n beds lim tw ill) (hb5 : beds ≤ 5) (hl9 : lim < 100) (hp : ∀ j, j < 4 → pl j < 2 ^ n ∧ σ0 143 j = nI (pl j)) : ∀ (j k fuel F fi : Nat) (σ : Hp) (x : RS), k + j = 8 → j < fuel → F < 100000 → FrM σ0 σ → SV σ n x.1 x.2.1 x.2.2.1 x.2.2.2 → BN n x.1 x.2.1 x.2.2.1 → ∃ σ', f_X9_weakest_16 fuel σ (nI fi) (nI F) (nI k) = some (nI (WK n beds lim tw ill pl j k F fi x), σ') ∧ FrM σ0 σ' := by
  have hn := hM.1
  intro j
  induction j with
  | zero =>
    intro k fuel F fi σ x hk hf hF hfr hS hb
    obtain ⟨f, rfl⟩ : ∃ f, fuel = f + 1 := ⟨fuel - 1, by omega⟩
    have : k = 8 := by omega
    subst this
    refine ⟨σ, ?_, hfr⟩
    simp only [f_X9_weakest_16]
    rw [if_pos (show (8 : Int32) ≤ nI 8 by decide)]
    rfl
  | succ j ih =>
    intro k fuel F fi σ x hk hf hF hfr hS hb
    obtain ⟨f, rfl⟩ : ∃ f, fuel = f + 1 := ⟨fuel - 1, by omega⟩
    have hk4 : k % 4 < 4 := Nat.mod_lt _ (by decide)
    obtain ⟨p1, p2⟩ := hp (k % 4) hk4
    have hM2 := MV_fr hfr hM
    have hcb := canBe_ok hM2 hb5 hS hb p1
    obtain ⟨m1, m2⟩ := mP_ok (beds := beds) (fun j hj => (hp j hj).1) k x (tw := tw) (ill := ill)
    obtain ⟨σ', e1, e2, e3⟩ := go_ok hM2 hl9 hS hb m1 m2
    have hM3 := MV_fr e3 hM2
    have s50 : ∀ s0 : Int32, s0 = nI (mP n beds tw ill pl k x) → ∃ σ', f_X9_weakest_50 (f_X9_weakest_16 f) σ (nI fi) (nI F) (nI k) s0 = some (nI (WK n beds lim tw ill pl (j + 1) k F fi x), σ') ∧ FrM σ0 σ' := by
      intro s0 hs0
      subst hs0
      simp only [f_X9_weakest_50]
      rw [bd_ok e1]
      have hw := weakCount (σ := σ') hn hM3.2.2.1 (mk_lt32 hn (aw lim (mP n beds tw ill pl k x) x.1 x.2.2.2)) (f_X9_weakest_16 f) (nI fi) (nI F) (nI k) n 0 FU (by omega) (FU_big (by omega))
      have ec : cnt n (mk n (aw lim (mP n beds tw ill pl k x) x.1 x.2.2.2)).testBit = cnt n (aw lim (mP n beds tw ill pl k x) x.1 x.2.2.2) := cnt_congr (fun g hg => mk_bit n _ g hg)
      rw [ec] at hw
      rw [show f_X9_weakest_61 (f_X9_weakest_16 f) FU σ' (nI fi) (nI F) (nI k) (nI (mk n (aw lim (mP n beds tw ill pl k x) x.1 x.2.2.2))) 0 0 = _ from hw]
      have hcl := cnt_le (aw lim (mP n beds tw ill pl k x) x.1 x.2.2.2) n
      simp only [WK, f_X9_weakest_107, f_X9_weakest_120, Lt]
      rw [ni_add1]
      by_cases q : cnt n (aw lim (mP n beds tw ill pl k x) x.1 x.2.2.2) < F
      · rw [if_neg (nI_ge q (by omega)), if_neg (nI_ge q (by omega)), if_pos q]
        exact ih (k + 1) f _ k σ' _ (by omega) (by omega) (by omega) (FrM_trans hfr e3) e2 (BN_pass (lim := lim) hb m2)
      · rw [if_pos (nI_le (by omega) (by omega)), if_pos (nI_le (by omega) (by omega)), if_neg q]
        exact ih (k + 1) f F fi σ' _ (by omega) (by omega) hF (FrM_trans hfr e3) e2 (BN_pass (lim := lim) hb m2)
    have hpl : σ 143 (k % 4) = nI (pl (k % 4)) := (hfr 143 _ (by decide) (by decide) (by decide) (by decide)).trans p2
    simp only [f_X9_weakest_16]
    rw [if_neg (show ¬ (8 : Int32) ≤ nI k from nI_ge (b := 8) (by omega) (by decide)), rem4 (by omega)]
    unfold nzI
    rw [if_neg (by decide), ck_ok _ hk4 (by decide), ix_nI (by omega), hpl, bd_ok hcb]
    simp only [b2i_0]
    by_cases hm : mayB n beds tw x.2.1 x.2.2.1 (pl (k % 4)) ill = true
    · rw [if_neg (by simp [hm]), if_neg (by decide), ck_ok _ hk4 (by decide), hpl]
      exact s50 _ (by unfold mP; rw [if_pos hm])
    · rw [if_pos (by simpa using hm)]
      exact s50 _ (by unfold mP; rw [if_neg hm]; rfl)
theorem op_weakest {σ : Hp} (h : Inv σ) : OK2 f_X8_weakest f_X9_weakest σ := by
  have h0 := h
  obtain ⟨n, beds, lim, tw, t, s, d, nod, ill, i1, i2, -⟩ := h
  obtain ⟨hc, b1, b2, b3, b4, hM, hr, bn, mr, -⟩ := i1
  have hn := hc.1
  obtain ⟨pl, hpl⟩ : ∃ pl : Nat → Nat, ∀ j, j < 4 → pl j < 2 ^ n ∧ σ 23 j = nI (pl j) ∧ σ 143 j = nI (pl j) := by
    refine ⟨fun j => if h : j < 4 then Classical.choose (i2 j h) else 0, fun j hj => ?_⟩
    simp only [dif_pos hj]
    exact Classical.choose_spec (i2 j hj)
  obtain ⟨σ1, e1, e2, e3, e4⟩ := copy_ok (σ := σ) (o := 18) (q := 13) (by omega)
  have hr1 := RV_copy hn hr e2 e3
  obtain ⟨σ2, g1, g2⟩ := weakC_loop (ill := ill) (lim := lim) (pl := pl) hc b1 b3 b2 b4 (fun j hj => ⟨(hpl j hj).1, (hpl j hj).2.1⟩) 8 0 FU 6 0 σ1 (t, s, d, nod) (by omega) (FU_big (by omega)) (by omega) (FrC_O e4) hr1 bn
  have f2 : ∀ a i, 134 ≤ a → σ2 a i = σ a i := fun a i q => g2 a i (by omega)
  obtain ⟨σ3, k1, k2, k3⟩ := begin_ok hn (MV_wr (MV_O f2 hM)).2.2.1 (MR_wr (MR_O f2 mr))
  obtain ⟨σ4, l1, l2⟩ := weakM_loop (MV_fr k3 (MV_wr (MV_O f2 hM))) b3 b4 (pl := pl) (fun j hj => ⟨(hpl j hj).1, by rw [k3 143 j (by decide) (by decide) (by decide) (by decide), wr_ne (by omega), f2 _ _ (by omega)]; exact (hpl j hj).2.2⟩) 8 0 FU 99999 0 σ3 (t, s, d, nod) (by omega) (FU_big (by omega)) (by omega) (FrM_refl σ3) k2 bn
  have same : WK n beds lim tw ill pl 8 0 99999 0 (t, s, d, nod) = WK n beds lim tw ill pl 8 0 6 0 (t, s, d, nod) := by
    have hcl := cnt_le (aw lim (mP n beds tw ill pl 0 (t, s, d, nod)) t nod) n
    exact WK_first 7 0 99999 6 0 (t, s, d, nod) (Nat.lt_of_le_of_lt hcl (by omega)) (Nat.lt_of_le_of_lt hcl (by omega))
  refine ⟨nI (WK n beds lim tw ill pl 8 0 6 0 (t, s, d, nod)), σ2, σ4, ?_, ?_, Inv_scr h0 (fun a i q => ?_)⟩
  · simp only [f_X8_weakest]
    rw [bd_ok e1]
    exact g1
  · simp only [f_X9_weakest, Lt]
    rw [bd_ok k1, ← same]
    exact l1
  · unfold Scr at q
    rw [l2 a i (by omega) (by omega) (by omega) (by omega), k3 a i (by omega) (by omega) (by omega) (by omega), wr_ne (by omega), g2 a i (by omega)]
