def acc (f : Nat → Bool) (i g : Nat) : Bool := decide (g < i) && f g
theorem acc_0 {n : Nat} (f : Nat → Bool) : mk n (acc f 0) = 0 := by
  apply Nat.eq_of_testBit_eq
  intro i
  rw [mk_all]; simp [acc]
theorem acc_n {n : Nat} (f : Nat → Bool) : mk n (acc f n) = mk n f := mk_congr (fun g hg => by simp [acc, hg])
theorem acc_t {n i : Nat} {f : Nat → Bool} (hn : n ≤ 5) (hi : i < n) (h : f i = true) : nI (mk n (acc f i)) ||| ((1 : Int32) <<< (nI i &&& 31)) = nI (mk n (acc f (i + 1))) := by
  rw [up_or hn hi]
  congr 1
  apply mk_congr
  intro g hg
  by_cases e : g = i
  · subst e; simp [va_up, acc, h]
  · have q : (g < i) = (g < i + 1) := propext (by omega)
    rw [va_up_ne _ _ e]; simp only [acc, q]
theorem acc_f {n i : Nat} {f : Nat → Bool} (h : f i = false) : mk n (acc f i) = mk n (acc f (i + 1)) := by
  apply mk_congr
  intro g hg
  by_cases e : g = i
  · subst e; simp [acc, h]
  · have q : (g < i) = (g < i + 1) := propext (by omega)
    simp only [acc, q]
theorem or_z {m : Nat} (hm : m < 32) : nI m ||| (0 : Int32) = nI m := by
  have := bt_or2 m hm 0 (by decide)
  rw [Nat.or_zero] at this
  exact this
theorem tired_loop {σ : Hp} {o n : Nat} {t : Nat → Nat} (hn : n ≤ 5) (hc : σ (chO o) 1 = nI n) (ht : ∀ g, g < n → σ (o + 1) g = nI (t g)) : ∀ (k i fuel : Nat), i + k = n → k < fuel → f_X4_tiredOfAll_4 o fuel σ (nI (tsum i t)) (nI i) = some (nI (tsum n t), σ) := by
  intro k
  induction k with
  | zero =>
    intro i fuel hi hf
    obtain ⟨f, rfl⟩ : ∃ f, fuel = f + 1 := ⟨fuel - 1, by omega⟩
    have hin : i = n := by omega
    subst hin
    simp only [f_X4_tiredOfAll_4]
    rw [hc, if_pos (nI_le (Nat.le_refl _) (by omega))]
  | succ k ih =>
    intro i fuel hi hf
    obtain ⟨f, rfl⟩ : ∃ f, fuel = f + 1 := ⟨fuel - 1, by omega⟩
    have hin : i < n := by omega
    simp only [f_X4_tiredOfAll_4, Lt]
    rw [hc, if_neg (nI_ge hin (by omega)), ck_ok _ (by omega) (by decide), ix_nI (by omega), ht i hin, nI_add, ni_add1]
    exact ih (i + 1) f (by omega) (by omega)
theorem tired_ok {σ : Hp} {o n : Nat} {t : Nat → Nat} (hn : n ≤ 5) (hc : σ (chO o) 1 = nI n) (ht : ∀ g, g < n → σ (o + 1) g = nI (t g)) : f_X4_tiredOfAll σ o = some (nI (tsum n t), σ) := tired_loop hn hc ht n 0 FU (by omega) (FU_big (by omega))
theorem about_loop {σ : Hp} {n : Nat} {t : Nat → Nat} {nod ill : Nat → Bool} (hn : n ≤ 5) (h4 : σ 134 4 = nI n) (ht : ∀ g, g < n → σ 136 g = nI (t g) ∧ σ 139 g = b2i (nod g) ∧ σ 140 g = b2i (ill g)) (a1 : Int32) : ∀ (k i fuel : Nat), i + k = n → k < fuel → f_X9_about_15 fuel σ a1 (nI (mk n (acc nod i))) (nI (mk n (acc ill i))) (nI (tsum i t)) (nI i) = swt a1 [some (nI n, σ), some (σ 134 5, σ), some (σ 134 6, σ), some (σ 134 14, σ), some (σ 134 15, σ), some (nI (mk n nod), σ), some (nI (mk n ill), σ), some (nI (tsum n t), σ), some (σ 134 25, σ), some (σ 134 28, σ), some (σ 134 2, σ)] (some (-2, σ)) := by
  intro k
  induction k with
  | zero =>
    intro i fuel hi hf
    obtain ⟨f, rfl⟩ : ∃ f, fuel = f + 1 := ⟨fuel - 1, by omega⟩
    have hin : i = n := by omega
    subst hin
    simp only [f_X9_about_15]
    rw [h4, if_pos (nI_le (Nat.le_refl _) (by omega)), acc_n, acc_n]
  | succ k ih =>
    intro i fuel hi hf
    obtain ⟨f, rfl⟩ : ∃ f, fuel = f + 1 := ⟨fuel - 1, by omega⟩
    have hin : i < n := by omega
    have hi5 : i < 5 := by omega
    obtain ⟨q1, q2, q3⟩ := ht i hin
    have step := ih (i + 1) f (by omega) (by omega)
    have s64 : ∀ x2 : Int32, x2 = nI (mk n (acc nod (i + 1))) → ∀ s0 : Int32, nI (mk n (acc ill i)) ||| s0 = nI (mk n (acc ill (i + 1))) → f_X9_about_64 (f_X9_about_15 f) σ a1 x2 (nI (tsum i t)) (nI i) s0 (nI (mk n (acc ill i))) = f_X9_about_15 f σ a1 (nI (mk n (acc nod (i + 1)))) (nI (mk n (acc ill (i + 1)))) (nI (tsum (i + 1) t)) (nI (i + 1)) := by
      intro x2 hx2 s0 hs0
      simp only [f_X9_about_64, Lt]
      rw [ck_ok _ hi5 (by decide), ix_nI (by omega), q1, nI_add, ni_add1, hs0, hx2]
      rfl
    have s43 : ∀ s0 : Int32, nI (mk n (acc nod i)) ||| s0 = nI (mk n (acc nod (i + 1))) → f_X9_about_43 (f_X9_about_15 f) σ a1 (nI (mk n (acc ill i))) (nI (tsum i t)) (nI i) s0 (nI (mk n (acc nod i))) = f_X9_about_15 f σ a1 (nI (mk n (acc nod (i + 1)))) (nI (mk n (acc ill (i + 1)))) (nI (tsum (i + 1) t)) (nI (i + 1)) := by
      intro s0 hs0
      simp only [f_X9_about_43, Lt]
      rw [ck_ok _ hi5 (by decide), ix_nI (by omega), q3, hs0]
      simp only [b2i_0]
      by_cases hil : ill i = false
      · rw [if_pos hil]; exact s64 _ rfl _ (by rw [or_z (mk_lt32 hn _), acc_f hil])
      · rw [if_neg hil]; exact s64 _ rfl _ (acc_t hn hin (by simpa using hil))
    simp only [f_X9_about_15]
    rw [h4, if_neg (nI_ge hin (by omega)), ck_ok _ hi5 (by decide), ix_nI (by omega), q2]
    simp only [b2i_0]
    rw [← h4] at *
    by_cases hno : nod i = false
    · rw [if_pos hno, s43 _ (by rw [or_z (mk_lt32 hn _), acc_f hno])]; rw [h4] at *; exact step
    · rw [if_neg hno, s43 _ (acc_t hn hin (by simpa using hno))]; rw [h4] at *; exact step
theorem op_about {σ : Hp} (h : Inv σ) (a1 : Int32) : OK2 (fun σ => f_X8_about σ a1) (fun σ => f_X9_about σ a1) σ := by
  have h0 := h
  obtain ⟨n, beds, lim, tw, t, s, d, nod, ill, i1, i2, ⟨len, l1, l2, l3, -⟩, ⟨c, e, a1', a2, a3, a4, a5, -⟩, i5, ⟨u, u1, u2, u3, -⟩, i7⟩ := h
  obtain ⟨⟨hn, htw, c1, c2⟩, b1, b2, b3, b4, ⟨-, -, m4, m5, m6, m7, m8⟩, ⟨r1, r2, r3⟩, bn, mr, bd1, bd2, bd3⟩ := i1
  have hI : Inv (wr σ 134 0 0) := Inv_scr h0 (thrown_scr σ)
  have key : Same σ (wr σ 134 0 0) (f_X8_about σ a1) (f_X9_about σ a1) := by
    simp only [f_X8_about, f_X9_about, Lt]
    have hl := about_loop (σ := wr σ 134 0 0) (t := t) (nod := nod) (ill := ill) hn (by rw [wr_ne (by omega)]; exact m4) (fun g hg => ⟨by rw [wr_ne (by omega)]; exact (mr g hg).1, by rw [wr_ne (by omega)]; exact (mr g hg).2.2.2, by rw [wr_ne (by omega)]; exact m8 g hg⟩) a1 n 0 FU (by omega) (FU_big (by omega))
    rw [acc_0, acc_0] at hl
    rw [show f_X9_about_15 FU (wr σ 134 0 0) a1 0 0 0 0 = _ from hl, bd_ok (tired_ok (o := 13) (t := t) hn c1 (fun g hg => (r1 g hg).1))]
    refine swt_eq rfl ⟨-2, rfl, rfl⟩ (fun k a b ha hb => ?_)
    match k, ha, hb with
    | 0, ha, hb => cases ha; cases hb; exact ⟨_, rfl, by rw [c1]⟩
    | 1, ha, hb => cases ha; cases hb; exact ⟨_, rfl, by rw [wr_ne (by omega), b1, m5]⟩
    | 2, ha, hb => cases ha; cases hb; exact ⟨_, rfl, by rw [wr_ne (by omega), b2, m6]⟩
    | 3, ha, hb => cases ha; cases hb; exact ⟨_, rfl, by rw [wr_ne (by omega), bd2]⟩
    | 4, ha, hb => cases ha; cases hb; exact ⟨_, rfl, by rw [wr_ne (by omega), bd3]⟩
    | 5, ha, hb => cases ha; cases hb; exact ⟨_, rfl, by rw [r2]⟩
    | 6, ha, hb => cases ha; cases hb; exact ⟨_, rfl, by rw [r3]⟩
    | 7, ha, hb => cases ha; cases hb; exact ⟨_, rfl, rfl⟩
    | 8, ha, hb => cases ha; cases hb; exact ⟨_, rfl, by rw [wr_ne (by omega), a4, a5]⟩
    | 9, ha, hb => cases ha; cases hb; exact ⟨_, rfl, by rw [wr_ne (by omega), u2, u3]⟩
    | 10, ha, hb => cases ha; cases hb; exact ⟨_, rfl, by rw [wr_ne (by omega), l2, l3]⟩
    | k + 11, ha, hb => simp at ha
  obtain ⟨r, e1, e2⟩ := key
  exact ⟨r, _, _, e1, e2, hI⟩
/-! when all nod -/
def AN (n lim : Nat) (tw : Nat → Option Nat) (ill : Nat → Bool) : Nat → Nat → RS → Int32
  | 0, _, _ => -9
  | j + 1, k, x => if mk n x.2.2.2 = 2 ^ n - 1 then nI k else AN n lim tw ill j (k + 1) (stp n lim tw ill 0 x)
theorem BN_zero {n lim : Nat} {tw : Nat → Option Nat} {ill : Nat → Bool} {t s d : Nat → Nat} {nod : Nat → Bool} (hb : BN n t s d) : BN n (stp n lim tw ill 0 (t, s, d, nod)).1 (stp n lim tw ill 0 (t, s, d, nod)).2.1 (stp n lim tw ill 0 (t, s, d, nod)).2.2.1 := BN_pass (lim := lim) (nod := nod) hb (fun g _ => okG_zero g)
def FrO (σ σ' : Hp) (o : Nat) : Prop := ∀ a i, (a < o ∨ o + 4 < a) → σ' a i = σ a i
theorem FrR_O {σ σ' : Hp} {o : Nat} (h : FrR σ σ' o) : FrO σ σ' o := fun a i q => h a i (by omega) (by omega) (by omega) (by omega) (by omega)
theorem FrC_O {σ σ' : Hp} {o : Nat} (h : FrC σ σ' o) : FrO σ σ' o := fun a i q => h a i (by omega) (by omega) (by omega) (by omega) (by omega)
theorem FrO_trans {σ σ1 σ2 : Hp} {o : Nat} (h1 : FrO σ σ1 o) (h2 : FrO σ1 σ2 o) : FrO σ σ2 o := fun a i q => (h2 a i q).trans (h1 a i q)
theorem allNodC_loop {σ0 : Hp} {n lim : Nat} {tw : Nat → Option Nat} {ill : Nat → Bool} (hc : CV σ0 11 n tw) (hl : σ0 11 3 = nI lim) (hl9 : lim < 100) : ∀ (j k fuel : Nat) (σ : Hp) (x : RS), k + j = 100 → j < fuel → FrO σ0 σ 18 → RV σ 18 n x.1 x.2.1 x.2.2.1 x.2.2.2 ill → BN n x.1 x.2.1 x.2.2.1 → ∃ σ', f_X8_allNod_21 fuel σ (nI (2 ^ n - 1)) (nI k) = some (AN n lim tw ill j k x, σ') ∧ FrO σ0 σ' 18 := by
  have hn := hc.1
  have h25 : 2 ^ n ≤ 2 ^ 5 := Nat.pow_le_pow_right (by decide) hn
  intro j
  induction j with
  | zero =>
    intro k fuel σ x hk hf hfr hr hb
    obtain ⟨f, rfl⟩ : ∃ f, fuel = f + 1 := ⟨fuel - 1, by omega⟩
    have : k = 100 := by omega
    subst this
    refine ⟨σ, ?_, hfr⟩
    simp only [f_X8_allNod_21]
    rw [if_pos (show (99 : Int32) < nI 100 by decide)]
    rfl
  | succ j ih =>
    intro k fuel σ x hk hf hfr hr hb
    obtain ⟨f, rfl⟩ : ∃ f, fuel = f + 1 := ⟨fuel - 1, by omega⟩
    obtain ⟨t, s, d, nod⟩ := x
    simp only [f_X8_allNod_21, Lt]
    rw [if_neg (show ¬ (99 : Int32) < nI k from nI_nlt (a := 99) (by omega) (by decide)), hr.2.1]
    simp only [AN]
    have hml := mk_lt32 hn nod
    by_cases q : mk n nod = 2 ^ n - 1
    · rw [if_pos (by rw [q]), if_pos q]
      exact ⟨σ, rfl, hfr⟩
    · rw [if_neg (fun w => q ((nI_eq (by omega) (by omega)).mp w)), if_neg q]
      have hc2 : CV σ (chO 18) n tw := ⟨hn, hc.2.1, (hfr 11 1 (by omega)).trans hc.2.2.1, fun g hg => (hfr 12 g (by omega)).trans (hc.2.2.2 g hg)⟩
      obtain ⟨σ', e1, e2, e3, -⟩ := pass_ok (m := 0) rP_18 hc2 ((hfr 11 3 (by omega)).trans hl) hl9 hr hb (Nat.pow_pos (by decide)) (fun g _ => okG_zero g)
      rw [show f_X4_pass σ 18 0 = f_X4_pass σ 18 (nI 0) from rfl, bd_ok e1, ni_add1]
      exact ih (k + 1) f σ' (stp n lim tw ill 0 (t, s, d, nod)) (by omega) (by omega) (FrO_trans hfr (FrR_O e3)) e2 (BN_zero hb)
theorem allB_mk {n : Nat} (nod : Nat → Bool) : allB nod 0 n = decide (mk n nod = 2 ^ n - 1) := by
  rw [Bool.eq_iff_iff, allB_iff, decide_eq_true_eq]
  constructor
  · intro h
    apply Nat.eq_of_testBit_eq
    intro i
    rw [mk_all, Nat.testBit_two_pow_sub_one]
    by_cases hi : i < n
    · rw [h i (Nat.zero_le i) (by omega)]; simp
    · simp [hi]
  · intro h g _ hg
    have := congrArg (fun z => Nat.testBit z g) h
    simp only [mk_all, Nat.testBit_two_pow_sub_one] at this
    simpa [show g < n by omega] using this
theorem doAll_loop {σ : Hp} {n : Nat} {nod : Nat → Bool} (hn : n ≤ 5) (h4 : σ 134 4 = nI n) (h : ∀ g, g < n → σ 157 g = b2i (nod g)) : ∀ (k i fuel : Nat) (b : Bool), i + k = n → k < fuel → f_X9_doAllNod_4 fuel σ (b2i b) (nI i) = some (b2i (b && allB nod i k), σ) := by
  intro k
  induction k with
  | zero =>
    intro i fuel b hi hf
    obtain ⟨f, rfl⟩ : ∃ f, fuel = f + 1 := ⟨fuel - 1, by omega⟩
    have hin : i = n := by omega
    subst hin
    simp only [f_X9_doAllNod_4]
    rw [h4, if_pos (nI_le (Nat.le_refl _) (by omega))]
    cases b
    · exact zr_0 σ
    · exact zr_1 σ
  | succ k ih =>
    intro i fuel b hi hf
    obtain ⟨f, rfl⟩ : ∃ f, fuel = f + 1 := ⟨fuel - 1, by omega⟩
    have hin : i < n := by omega
    have hi5 : i < 5 := by omega
    have step : ∀ c : Bool, f_X9_doAllNod_30 (f_X9_doAllNod_4 f) σ (nI i) (b2i c) = some (b2i (c && allB nod (i + 1) k), σ) := by
      intro c
      simp only [f_X9_doAllNod_30, Lt]
      rw [ni_add1]
      exact ih (i + 1) f c (by omega) (by omega)
    simp only [f_X9_doAllNod_4, f_X9_doAllNod_29]
    rw [h4, if_neg (nI_ge hin (by omega))]
    simp only [b2i_0]
    cases b with
    | false => rw [if_pos rfl]; exact step false
    | true =>
      rw [if_neg (by decide), ck_ok _ hi5 (by decide), ix_nI (by omega), h i hin]
      simp only [b2i_0]
      by_cases hno : nod i = false
      · rw [if_pos hno]
        have := step false
        rw [b2i_f] at this
        rw [this]; simp [allB, hno, b2i]
      · rw [if_neg hno]
        have := step true
        rw [b2i_t] at this
        rw [this]; simp [allB, show nod i = true by simpa using hno]
theorem allNodM_loop {σ0 : Hp} {n beds lim : Nat} {tw : Nat → Option Nat} {ill : Nat → Bool} (hM : MV σ0 n beds lim tw ill) (hl9 : lim < 100) : ∀ (j k fuel : Nat) (σ : Hp) (x : RS), k + j = 100 → j < fuel → FrM σ0 σ → SV σ n x.1 x.2.1 x.2.2.1 x.2.2.2 → BN n x.1 x.2.1 x.2.2.1 → ∃ σ', f_X9_allNod_11 fuel σ (nI k) = some (AN n lim tw ill j k x, σ') ∧ FrM σ0 σ' := by
  have hn := hM.1
  intro j
  induction j with
  | zero =>
    intro k fuel σ x hk hf hfr hS hb
    obtain ⟨f, rfl⟩ : ∃ f, fuel = f + 1 := ⟨fuel - 1, by omega⟩
    have : k = 100 := by omega
    subst this
    refine ⟨σ, ?_, hfr⟩
    simp only [f_X9_allNod_11]
    rw [if_pos (show (100 : Int32) ≤ nI 100 by decide)]
    rfl
  | succ j ih =>
    intro k fuel σ x hk hf hfr hS hb
    obtain ⟨f, rfl⟩ : ∃ f, fuel = f + 1 := ⟨fuel - 1, by omega⟩
    obtain ⟨t, s, d, nod⟩ := x
    have hM2 := MV_fr hfr hM
    have hall : f_X9_doAllNod σ = some (b2i (allB nod 0 n), σ) := by
      have := doAll_loop hn hM2.2.2.1 (fun g hg => (hS g hg).2.2.2) n 0 FU true (by omega) (FU_big (by omega))
      rw [Bool.true_and] at this
      exact this
    simp only [f_X9_allNod_11, Lt]
    rw [if_neg (show ¬ (100 : Int32) ≤ nI k from nI_ge (b := 100) (by omega) (by decide)), bd_ok hall, allB_mk]
    simp only [b2i_0, AN]
    by_cases q : mk n nod = 2 ^ n - 1
    · rw [if_neg (by simp [q]), if_pos q]
      exact ⟨σ, rfl, hfr⟩
    · rw [if_pos (by simp [q]), if_neg q]
      obtain ⟨σ', e1, e2, e3⟩ := go_ok (m := 0) hM2 hl9 hS hb (Nat.pow_pos (by decide)) (fun g _ => okG_zero g)
      rw [show f_X9_go σ 0 = f_X9_go σ (nI 0) from rfl, bd_ok e1, ni_add1]
      exact ih (k + 1) f σ' (stp n lim tw ill 0 (t, s, d, nod)) (by omega) (by omega) (FrM_trans hfr e3) e2 (BN_zero hb)
theorem MV_wr {σ : Hp} {n beds lim : Nat} {tw : Nat → Option Nat} {ill : Nat → Bool} (h : MV σ n beds lim tw ill) : MV (wr σ 134 0 0) n beds lim tw ill := by
  obtain ⟨q1, q2, q3, q4, q5, q6, q7⟩ := h
  exact ⟨q1, q2, by rw [wr_ne (by omega)]; exact q3, by rw [wr_ne (by omega)]; exact q4, by rw [wr_ne (by omega)]; exact q5, fun g hg => by rw [wr_ne (by omega)]; exact q6 g hg, fun g hg => by rw [wr_ne (by omega)]; exact q7 g hg⟩
theorem MR_wr {σ : Hp} {n : Nat} {t s d : Nat → Nat} {nod : Nat → Bool} (h : MR σ n t s d nod) : MR (wr σ 134 0 0) n t s d nod := fun g hg => by
  rw [wr_ne (by omega), wr_ne (by omega), wr_ne (by omega), wr_ne (by omega)]; exact h g hg
theorem MV_O {σ σ' : Hp} {n beds lim : Nat} {tw : Nat → Option Nat} {ill : Nat → Bool} (f : ∀ a i, 134 ≤ a → σ' a i = σ a i) (h : MV σ n beds lim tw ill) : MV σ' n beds lim tw ill := by
  obtain ⟨q1, q2, q3, q4, q5, q6, q7⟩ := h
  exact ⟨q1, q2, by rw [f _ _ (by omega)]; exact q3, by rw [f _ _ (by omega)]; exact q4, by rw [f _ _ (by omega)]; exact q5, fun g hg => by rw [f _ _ (by omega)]; exact q6 g hg, fun g hg => by rw [f _ _ (by omega)]; exact q7 g hg⟩
theorem MR_O {σ σ' : Hp} {n : Nat} {t s d : Nat → Nat} {nod : Nat → Bool} (f : ∀ a i, 134 ≤ a → σ' a i = σ a i) (h : MR σ n t s d nod) : MR σ' n t s d nod := fun g hg => by
  rw [f _ _ (by omega), f _ _ (by omega), f _ _ (by omega), f _ _ (by omega)]; exact h g hg
theorem op_allNod {σ : Hp} (h : Inv σ) : OK2 f_X8_allNod f_X9_allNod σ := by
  have h0 := h
  obtain ⟨n, beds, lim, tw, t, s, d, nod, ill, i1, -⟩ := h
  obtain ⟨hc, b1, b2, b3, b4, hM, hr, bn, mr, -⟩ := i1
  have hn := hc.1
  obtain ⟨σ1, e1, e2, e3, e4⟩ := copy_ok (σ := σ) (o := 18) (q := 13) (by omega)
  have hr1 := RV_copy hn hr e2 e3
  obtain ⟨σ2, g1, g2⟩ := allNodC_loop (ill := ill) (lim := lim) hc b2 b4 100 0 FU σ1 (t, s, d, nod) (by omega) (FU_big (by omega)) (FrC_O e4) hr1 bn
  have f2 : ∀ a i, 134 ≤ a → σ2 a i = σ a i := fun a i q => g2 a i (by omega)
  obtain ⟨σ3, k1, k2, k3⟩ := begin_ok hn (MV_wr (MV_O f2 hM)).2.2.1 (MR_wr (MR_O f2 mr))
  obtain ⟨σ4, l1, l2⟩ := allNodM_loop (MV_fr k3 (MV_wr (MV_O f2 hM))) b4 100 0 FU σ3 (t, s, d, nod) (by omega) (FU_big (by omega)) (FrM_refl σ3) k2 bn
  refine ⟨AN n lim tw ill 100 0 (t, s, d, nod), σ2, σ4, ?_, ?_, Inv_scr h0 (fun a i q => ?_)⟩
  · simp only [f_X8_allNod]
    rw [bd_ok (everyone_ok hn hc.2.2.1), bd_ok e1]
    exact g1
  · simp only [f_X9_allNod, Lt]
    rw [bd_ok k1]
    exact l1
  · unfold Scr at q
    rw [l2 a i (by omega) (by omega) (by omega) (by omega), k3 a i (by omega) (by omega) (by omega) (by omega), wr_ne (by omega), g2 a i (by omega)]
