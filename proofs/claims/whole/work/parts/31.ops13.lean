theorem eu_lt {a b : Nat} (hr : 0 < a % b) (hb : 0 < b) : 2 * (b % (a % b)) < b := by
  have h0 := Nat.mod_lt a hb
  have h1 := Nat.mod_lt b hr
  have h2 := Nat.div_add_mod b (a % b)
  have h3 : 1 ≤ b / (a % b) := Nat.div_pos (Nat.le_of_lt h0) hr
  have h4 := Nat.mul_le_mul_left (a % b) h3
  rw [Nat.mul_one] at h4
  omega
theorem gcd_st (a b : Nat) : Nat.gcd a b = Nat.gcd b (a % b) := by rw [Nat.gcd_comm a b, Nat.gcd_rec b a, Nat.gcd_comm]
theorem gC_stop (σ : Hp) (f a i : Nat) : f_X8_greatestDivisor_3 (f + 1) σ (lN a) (lN 0) (nI i) = some (lN a, σ) := by
  simp only [f_X8_greatestDivisor_3]
  rw [if_pos (show lg_cmp (lN 0) 0 = 0 from (lg_cmp_eq _ _).mpr rfl)]
  split <;> rfl
theorem gC_step (σ : Hp) {f a b i : Nat} (ha : a < 2 ^ 62) (h0 : 0 < b) (hb : b < 2 ^ 62) (hi : i < 100) : f_X8_greatestDivisor_3 (f + 1) σ (lN a) (lN b) (nI i) = f_X8_greatestDivisor_3 f σ (lN b) (lN (a % b)) (nI (i + 1)) := by
  have hz : ¬ lN b = 0 := fun w => by
    have := (pk_lEQ (a := b) (b := 0) (by omega) (by decide)).mp w; omega
  simp only [f_X8_greatestDivisor_3, Lt, nzL]
  rw [if_neg (show ¬ (100 : Int32) ≤ nI i from nI_ge (b := 100) hi (by decide)), if_neg (fun w => hz ((lg_cmp_eq _ _).mp w)), if_neg hz, pk_lRem (by omega) h0 (by omega), ni_add1]
theorem gC_ok (σ : Hp) : ∀ (k a b i fuel : Nat), b < 2 ^ k → i + 2 * k ≤ 100 → 2 * k < fuel → a < 2 ^ 62 → b < 2 ^ 62 → f_X8_greatestDivisor_3 fuel σ (lN a) (lN b) (nI i) = some (lN (Nat.gcd a b), σ) := by
  intro k
  induction k with
  | zero =>
    intro a b i fuel hb hi hf ha hb2
    obtain ⟨f, rfl⟩ : ∃ f, fuel = f + 1 := ⟨fuel - 1, by omega⟩
    have : b = 0 := by simpa using hb
    subst this
    rw [gC_stop, Nat.gcd_zero_right]
  | succ k ih =>
    intro a b i fuel hb hi hf ha hb2
    obtain ⟨f, rfl⟩ : ∃ f, fuel = f + 2 := ⟨fuel - 2, by omega⟩
    by_cases hz : b = 0
    · subst hz; rw [gC_stop, Nat.gcd_zero_right]
    · have hlt := Nat.mod_lt a (show 0 < b by omega)
      rw [gC_step σ ha (by omega) hb2 (by omega), gcd_st]
      by_cases hr : a % b = 0
      · rw [hr, gC_stop, Nat.gcd_zero_right]
      · rw [gC_step σ hb2 (by omega) (by omega) (by omega), gcd_st]
        have := eu_lt (a := a) (b := b) (by omega) (by omega)
        have h3 := Nat.mod_lt b (show 0 < a % b by omega)
        exact ih (a % b) (b % (a % b)) (i + 1 + 1) f (by rw [Nat.pow_succ] at hb; omega) (by omega) (by omega) (by omega) (by omega)
theorem gM_stop (σ : Hp) (f a : Nat) : f_X9_divisor_6 (f + 1) σ (lN a) (lN 0) = some (lN a, σ) := by
  simp only [f_X9_divisor_6]
  rw [if_pos (show lg_cmp (lN 0) 0 = 0 from (lg_cmp_eq _ _).mpr rfl)]
theorem gM_step (σ : Hp) {f a b : Nat} (ha : a < 2 ^ 62) (h0 : 0 < b) (hb : b < 2 ^ 62) : f_X9_divisor_6 (f + 1) σ (lN a) (lN b) = f_X9_divisor_6 f σ (lN b) (lN (a % b)) := by
  have hz : ¬ lN b = 0 := fun w => by
    have := (pk_lEQ (a := b) (b := 0) (by omega) (by decide)).mp w; omega
  simp only [f_X9_divisor_6, Lt, nzL]
  rw [if_neg (fun w => hz ((lg_cmp_eq _ _).mp w)), if_neg hz, pk_lRem (by omega) h0 (by omega)]
theorem gM_ok (σ : Hp) : ∀ (k a b fuel : Nat), b < 2 ^ k → 2 * k < fuel → a < 2 ^ 62 → b < 2 ^ 62 → f_X9_divisor_6 fuel σ (lN a) (lN b) = some (lN (Nat.gcd a b), σ) := by
  intro k
  induction k with
  | zero =>
    intro a b fuel hb hf ha hb2
    obtain ⟨f, rfl⟩ : ∃ f, fuel = f + 1 := ⟨fuel - 1, by omega⟩
    have : b = 0 := by simpa using hb
    subst this
    rw [gM_stop, Nat.gcd_zero_right]
  | succ k ih =>
    intro a b fuel hb hf ha hb2
    obtain ⟨f, rfl⟩ : ∃ f, fuel = f + 2 := ⟨fuel - 2, by omega⟩
    by_cases hz : b = 0
    · subst hz; rw [gM_stop, Nat.gcd_zero_right]
    · have hlt := Nat.mod_lt a (show 0 < b by omega)
      rw [gM_step σ ha (by omega) hb2, gcd_st]
      by_cases hr : a % b = 0
      · rw [hr, gM_stop, Nat.gcd_zero_right]
      · rw [gM_step σ hb2 (by omega) (by omega), gcd_st]
        have := eu_lt (a := a) (b := b) (by omega) (by omega)
        have h3 := Nat.mod_lt b (show 0 < a % b by omega)
        exact ih (a % b) (b % (a % b)) f (by rw [Nat.pow_succ] at hb; omega) (by omega) (by omega) (by omega)
/-! the ways in which one is awake -/
def fct (lim x t : Nat) : Nat := if t < lim then (if 2 * t < lim then 10 else 10 - x) else 0
def awk (lim x : Nat) : Nat → Nat → Nat
  | 0, _ => 1
  | k + 1, t => fct lim x (t + 2) * awk lim x k (t + 2)
theorem fct_le (lim x t : Nat) : fct lim x t ≤ 10 := by unfold fct; split <;> (try split) <;> omega
theorem awk_le (lim x : Nat) : ∀ k t, awk lim x k t ≤ 10 ^ k
  | 0, _ => Nat.le_refl _
  | k + 1, t => by
    rw [awk, Nat.pow_succ, Nat.mul_comm]
    exact Nat.mul_le_mul (awk_le lim x k (t + 2)) (fct_le lim x (t + 2))
theorem ten_x {x : Nat} (hx : x ≤ 10) : ((10 : Int32) - nI x).toInt64 = lN (10 - x) := by
  rw [show (10 : Int32) - nI x = nI (10 - x) from pk_sub (a := 10) hx, nI_l (by omega)]
theorem ways_loop {σ : Hp} {lim x g q t0 : Nat} (hg : g < 5) (hl9 : lim < 100) (hx : x ≤ 10) (hq : q ≤ 3) (ht : t0 ≤ 99) (h1 : σ 14 g = nI t0) (h2 : σ 11 3 = nI lim) : ∀ (k i fuel w : Nat), 1 ≤ i → i + k = q + 1 → k < fuel → f_X4_waysAwake_19 13 fuel σ (nI g) (nI q) (nI x) (lN w) (nI i) = some (lN (w * awk lim x k (t0 + 2 * (i - 1))), σ) := by
  intro k
  induction k with
  | zero =>
    intro i fuel w h0 hi hf
    obtain ⟨f, rfl⟩ : ∃ f, fuel = f + 1 := ⟨fuel - 1, by omega⟩
    simp only [f_X4_waysAwake_19]
    rw [if_pos (nI_lt (show q < i by omega) (by omega)), awk, Nat.mul_one]
  | succ k ih =>
    intro i fuel w h0 hi hf
    obtain ⟨f, rfl⟩ : ∃ f, fuel = f + 1 := ⟨fuel - 1, by omega⟩
    have e1 : (2 : Int32) * nI i = nI (2 * i) := pk_mul 2 i
    have e2 : (2 : Int32) * nI (t0 + 2 * i) = nI (2 * (t0 + 2 * i)) := pk_mul 2 _
    have step : ∀ c : Nat, c = fct lim x (t0 + 2 * i) → f_X4_waysAwake_79 (f_X4_waysAwake_19 13 f) 13 σ (nI g) (nI q) (nI x) (nI i) (lN c) (lN w) = some (lN (w * awk lim x (k + 1) (t0 + 2 * (i - 1))), σ) := by
      intro c hc
      simp only [f_X4_waysAwake_79, Lt]
      rw [lN_mul, ni_add1, ih (i + 1) f (w * c) (by omega) (by omega) (by omega), awk, show t0 + 2 * (i - 1) + 2 = t0 + 2 * i by omega, show t0 + 2 * (i + 1 - 1) = t0 + 2 * i by omega, hc, Nat.mul_assoc]
    simp only [f_X4_waysAwake_19, Lt]
    rw [if_neg (nI_nlt (show i ≤ q by omega) (by omega)), ck_ok _ hg (by decide), ix_nI (by omega), show σ (13 + 1) g = nI t0 from h1, show σ (chO 13) 3 = nI lim from h2, e1, nI_add, e2]
    by_cases q1 : t0 + 2 * i < lim
    · rw [if_pos (nI_lt q1 (by omega))]
      by_cases q2 : 2 * (t0 + 2 * i) < lim
      · rw [if_pos (nI_lt q2 (by omega))]
        exact step 10 (by simp [fct, q1, q2])
      · rw [if_neg (nI_nlt (by omega) (by omega)), ten_x hx]
        exact step (10 - x) (by simp [fct, q1, q2])
    · rw [if_neg (nI_nlt (by omega) (by omega)), awk, show t0 + 2 * (i - 1) + 2 = t0 + 2 * i by omega, show fct lim x (t0 + 2 * i) = 0 by simp [fct, q1], Nat.zero_mul, Nat.mul_zero]
      rfl
def Vw (lim x q : Nat) (t : Nat → Nat) (nod : Nat → Bool) (g : Nat) : Nat := if nod g = true then 0 else awk lim x q (t g)
theorem ways_ok {σ : Hp} {n lim x g q : Nat} {t s d : Nat → Nat} {nod ill : Nat → Bool} (hn : n ≤ 5) (hr : RV σ 13 n t s d nod ill) (hb : BN n t s d) (hg : g < n) (hl9 : lim < 100) (hx : x ≤ 10) (hq : q ≤ 3) (h2 : σ 11 3 = nI lim) : f_X4_waysAwake σ 13 (nI g) (nI q) (nI x) = some (lN (Vw lim x q t nod g), σ) := by
  simp only [f_X4_waysAwake]
  rw [hr.2.1, bit_b2i hn hg]
  simp only [b2i_0, Vw]
  by_cases q1 : nod g = false
  · rw [if_pos q1, if_neg (by rw [q1]; decide)]
    have := ways_loop (by omega) hl9 hx hq (hb g hg).1 (hr.1 g hg).1 h2 q 1 FU 1 (by omega) (by omega) (FU_big (by omega))
    rw [Nat.one_mul] at this
    exact this
  · rw [if_neg q1, if_pos (by simpa using q1)]; rfl
theorem awby_loop {σ : Hp} {lim x q : Nat} (hl9 : lim < 100) (hx : x ≤ 10) (hq : q ≤ 3) (h2 : σ 134 6 = nI lim) : ∀ (k i fuel w T : Nat), i + k = q → k < fuel → T ≤ 99 → f_X9_awakeBy_27 fuel σ (nI q) (nI x) (lN w) (nI T) (nI i) = some (lN (w * awk lim x k T), σ) := by
  intro k
  induction k with
  | zero =>
    intro i fuel w T hi hf hT
    obtain ⟨f, rfl⟩ : ∃ f, fuel = f + 1 := ⟨fuel - 1, by omega⟩
    simp only [f_X9_awakeBy_27]
    rw [if_pos (nI_le (show q ≤ i by omega) (by omega)), awk, Nat.mul_one]
  | succ k ih =>
    intro i fuel w T hi hf hT
    obtain ⟨f, rfl⟩ : ∃ f, fuel = f + 1 := ⟨fuel - 1, by omega⟩
    have s88 : ∀ c T' : Nat, T' ≤ 99 → f_X9_awakeBy_88 (f_X9_awakeBy_27 f) σ (nI q) (nI x) (nI T') (nI i) (lN c) (lN w) = some (lN (w * (c * awk lim x k T')), σ) := by
      intro c T' hT'
      simp only [f_X9_awakeBy_88, Lt]
      rw [lN_mul, ni_add1, ih (i + 1) f (w * c) T' (by omega) (by omega) hT', Nat.mul_assoc]
    have s49 : ∀ T' : Nat, T' ≤ 99 → f_X9_awakeBy_49 (f_X9_awakeBy_27 f) σ (nI q) (nI x) (lN w) (nI i) (nI T') = some (lN (w * (fct lim x T' * awk lim x k T')), σ) := by
      intro T' hT'
      have e2 : (2 : Int32) * nI T' = nI (2 * T') := pk_mul 2 _
      simp only [f_X9_awakeBy_49]
      rw [h2, e2]
      by_cases q1 : T' < lim
      · rw [if_pos (nI_lt q1 (by omega))]
        by_cases q2 : 2 * T' < lim
        · rw [if_pos (nI_lt q2 (by omega))]
          exact (s88 10 T' hT').trans (by simp [fct, q1, q2])
        · rw [if_neg (nI_nlt (by omega) (by omega)), ten_x hx]
          exact (s88 (10 - x) T' hT').trans (by simp [fct, q1, q2])
      · rw [if_neg (nI_nlt (by omega) (by omega))]
        exact (s88 0 T' hT').trans (by simp [fct, q1])
    simp only [f_X9_awakeBy_27]
    rw [if_neg (nI_ge (show i < q by omega) (by omega))]
    by_cases q1 : T ≤ 97
    · rw [if_pos (show nI T ≤ (97 : Int32) from nI_le (b := 97) q1 (by decide)), show nI T + (2 : Int32) = nI (T + 2) from nI_add T 2, s49 (T + 2) (by omega), awk]
    · rw [if_neg (show ¬ nI T ≤ (97 : Int32) from nI_ge (a := 97) (by omega) (by omega)), show (99 : Int32) = nI 99 from rfl, s49 99 (by omega), awk]
      have z1 : fct lim x 99 = 0 := by unfold fct; rw [if_neg (by omega)]
      have z2 : fct lim x (T + 2) = 0 := by unfold fct; rw [if_neg (by omega)]
      rw [z1, z2, Nat.zero_mul, Nat.zero_mul]
theorem awby_ok {σ : Hp} {n lim x g q : Nat} {t s d : Nat → Nat} {nod : Nat → Bool} (hn : n ≤ 5) (hm : MR σ n t s d nod) (hb : BN n t s d) (hg : g < n) (hl9 : lim < 100) (hx : x ≤ 10) (hq : q ≤ 3) (h2 : σ 134 6 = nI lim) : f_X9_awakeBy σ (nI g) (nI q) (nI x) = some (lN (Vw lim x q t nod g), σ) := by
  obtain ⟨m1, m2, m3, m4⟩ := hm g hg
  simp only [f_X9_awakeBy, f_X9_awakeBy_14, Lt]
  simp (disch := omega) only [ck_ok, ix_nI]
  rw [m4, m1]
  simp only [b2i_0, Vw]
  by_cases q1 : nod g = false
  · rw [if_pos q1, if_neg (by rw [q1]; decide)]
    have := awby_loop hl9 hx hq h2 q 0 FU 1 (t g) (by omega) (FU_big (by omega)) (hb g hg).1
    rw [Nat.one_mul] at this
    exact this
  · rw [if_neg q1, if_pos (by simpa using q1)]
    have := awby_loop hl9 hx hq h2 q 0 FU 0 (t g) (by omega) (FU_big (by omega)) (hb g hg).1
    rw [Nat.zero_mul] at this
    exact this
theorem Vw_le (lim x q : Nat) (t : Nat → Nat) (nod : Nat → Bool) (g : Nat) : Vw lim x q t nod g ≤ 10 ^ q := by
  unfold Vw; split
  · exact Nat.zero_le _
  · exact awk_le lim x q _
def UU (q : Nat) (V : Nat → Nat) : Nat → Nat
  | 0 => 1
  | i + 1 => UU q V i * (10 ^ q - V i)
def DD (q : Nat) : Nat → Nat
  | 0 => 1
  | i + 1 => DD q i * 10 ^ q
theorem UD (q : Nat) (V : Nat → Nat) : ∀ i, UU q V i ≤ DD q i
  | 0 => Nat.le_refl _
  | i + 1 => Nat.mul_le_mul (UD q V i) (Nat.sub_le _ _)
theorem D_pos (q : Nat) : ∀ i, 0 < DD q i
  | 0 => Nat.one_pos
  | i + 1 => Nat.mul_pos (D_pos q i) (Nat.pow_pos (by decide))
theorem D_lt : ∀ q, q ≤ 3 → ∀ i, i ≤ 5 → DD q i < 2 ^ 50 := by decide +kernel
def Rch (b : Bool) (U D : Nat) : Int64 := if b = true then lN (U / Nat.gcd U D) else lN (D / Nat.gcd U D)
theorem powC (k33 : Hp → Int32 → Int32 → Int32 → Int64 → Int64 → Int32 → Option (Int64 × Hp)) {σ : Hp} {q : Nat} (hq : q ≤ 3) {x2 x3 x8 : Int32} {x4 x6 r1 : Int64} (hw : f_X4_waysAwake σ 13 x8 (nI q) x2 = some (r1, σ)) : ∀ (k i fuel : Nat), i + k = q → k < fuel → f_X8_chance_51 k33 fuel σ (nI q) x2 x3 x4 x6 x8 (lN (10 ^ i)) (nI i) = k33 σ (nI q) x2 x3 (x4 * (lN (10 ^ q) - r1)) (x6 * lN (10 ^ q)) (x8 + 1) := by
  intro k
  induction k with
  | zero =>
    intro i fuel hi hf
    obtain ⟨f, rfl⟩ : ∃ f, fuel = f + 1 := ⟨fuel - 1, by omega⟩
    have : i = q := by omega
    subst this
    simp only [f_X8_chance_51, Lt]
    rw [if_pos (nI_le (Nat.le_refl _) (by omega)), bd_ok hw]
  | succ k ih =>
    intro i fuel hi hf
    obtain ⟨f, rfl⟩ : ∃ f, fuel = f + 1 := ⟨fuel - 1, by omega⟩
    simp only [f_X8_chance_51, Lt]
    rw [if_neg (nI_ge (show i < q by omega) (by omega)), ni_add1, show lN (10 ^ i) * (10 : Int64) = lN (10 ^ (i + 1)) from lN_mul (10 ^ i) 10]
    exact ih (i + 1) f (by omega) (by omega)
theorem fin_g {U D : Nat} (hD : D < 2 ^ 50) (hU : U ≤ D) (h0 : 0 < D) : 0 < Nat.gcd U D ∧ Nat.gcd U D < 2 ^ 50 ∧ ¬ lN (Nat.gcd U D) = 0 := by
  have h1 : 0 < Nat.gcd U D := Nat.gcd_pos_of_pos_right U h0
  have h2 : Nat.gcd U D ≤ D := Nat.le_of_dvd h0 (Nat.gcd_dvd_right U D)
  refine ⟨h1, by omega, fun w => ?_⟩
  have := (pk_lEQ (a := Nat.gcd U D) (b := 0) (by omega) (by decide)).mp w
  omega
theorem chC_loop {σ : Hp} {n lim x q : Nat} {t s d : Nat → Nat} {nod ill : Nat → Bool} {tw : Nat → Option Nat} (hc : CV σ 11 n tw) (hr : RV σ 13 n t s d nod ill) (hb : BN n t s d) (hl9 : lim < 100) (hx : x ≤ 10) (hq : q ≤ 3) (h2 : σ 11 3 = nI lim) (b : Bool) : ∀ (k i fuel : Nat), i + k = n → k < fuel → f_X8_chance_33 fuel σ (nI q) (nI x) (b2i b) (lN (UU q (Vw lim x q t nod) i)) (lN (DD q i)) (nI i) = some (Rch b (UU q (Vw lim x q t nod) n) (DD q n), σ) := by
  have hn := hc.1
  intro k
  induction k with
  | zero =>
    intro i fuel hi hf
    obtain ⟨f, rfl⟩ : ∃ f, fuel = f + 1 := ⟨fuel - 1, by omega⟩
    have : i = n := by omega
    subst this
    have hD := D_lt q hq i hn
    have hU := UD q (Vw lim x q t nod) i
    obtain ⟨g1, g2, g3⟩ := fin_g hD hU (D_pos q i)
    have hg : f_X8_greatestDivisor σ (lN (UU q (Vw lim x q t nod) i)) (lN (DD q i)) = some (lN (Nat.gcd (UU q (Vw lim x q t nod) i) (DD q i)), σ) := gC_ok σ 50 _ _ 0 FU hD (by omega) (FU_big (by omega)) (by omega) (by omega)
    simp only [f_X8_chance_33, nzL]
    rw [hc.2.2.1, if_pos (nI_le (Nat.le_refl _) (by omega)), bd_ok hg, if_neg (fun w => g3 ((lg_cmp_eq _ _).mp w)), if_neg g3, if_neg g3, pk_lDiv (by omega) g1 (by omega), pk_lDiv (by omega) g1 (by omega)]
    simp only [b2i_0, Rch]
    cases b <;> rfl
  | succ k ih =>
    intro i fuel hi hf
    obtain ⟨f, rfl⟩ : ∃ f, fuel = f + 1 := ⟨fuel - 1, by omega⟩
    simp only [f_X8_chance_33]
    rw [hc.2.2.1, if_neg (nI_ge (show i < n by omega) (by omega))]
    rw [show f_X8_chance_51 (f_X8_chance_33 f) FU σ (nI q) (nI x) (b2i b) (lN (UU q (Vw lim x q t nod) i)) (lN (DD q i)) (nI i) 1 0 = _ from powC (f_X8_chance_33 f) hq (ways_ok hn hr hb (show i < n by omega) hl9 hx hq h2) q 0 FU (by omega) (FU_big (by omega)), lN_sub (Vw_le lim x q t nod i), lN_mul, lN_mul, ni_add1]
    exact ih (i + 1) f (by omega) (by omega)
theorem chM_loop {σ : Hp} {n beds lim x q : Nat} {t s d : Nat → Nat} {nod ill : Nat → Bool} {tw : Nat → Option Nat} (hM : MV σ n beds lim tw ill) (hr : MR σ n t s d nod) (hb : BN n t s d) (hl9 : lim < 100) (hx : x ≤ 10) (hq : q ≤ 3) (b : Bool) : ∀ (k i fuel : Nat), i + k = n → k < fuel → f_X9_chance_69 fuel σ (nI q) (nI x) (b2i b) (lN (10 ^ q)) (lN (UU q (Vw lim x q t nod) i)) (lN (DD q i)) (nI i) = some (Rch b (UU q (Vw lim x q t nod) n) (DD q n), σ) := by
  have hn := hM.1
  intro k
  induction k with
  | zero =>
    intro i fuel hi hf
    obtain ⟨f, rfl⟩ : ∃ f, fuel = f + 1 := ⟨fuel - 1, by omega⟩
    have : i = n := by omega
    subst this
    have hD := D_lt q hq i hn
    have hU := UD q (Vw lim x q t nod) i
    obtain ⟨g1, g2, g3⟩ := fin_g hD hU (D_pos q i)
    have hg : f_X9_divisor σ (lN (UU q (Vw lim x q t nod) i)) (lN (DD q i)) = some (lN (Nat.gcd (UU q (Vw lim x q t nod) i) (DD q i)), σ) := gM_ok σ 50 _ _ FU hD (FU_big (by omega)) (by omega) (by omega)
    simp only [f_X9_chance_69, nzL]
    rw [hM.2.2.1, if_pos (nI_le (Nat.le_refl _) (by omega)), bd_ok hg, if_neg g3, if_neg g3, pk_lDiv (by omega) g1 (by omega), pk_lDiv (by omega) g1 (by omega)]
    simp only [b2i_0, Rch]
    cases b <;> rfl
  | succ k ih =>
    intro i fuel hi hf
    obtain ⟨f, rfl⟩ : ∃ f, fuel = f + 1 := ⟨fuel - 1, by omega⟩
    simp only [f_X9_chance_69, Lt]
    rw [hM.2.2.1, if_neg (nI_ge (show i < n by omega) (by omega)), bd_ok (awby_ok hn hr hb (show i < n by omega) hl9 hx hq hM.2.2.2.2.1), lN_sub (Vw_le lim x q t nod i), lN_mul, lN_mul, ni_add1]
    exact ih (i + 1) f (by omega) (by omega)
theorem in_13 (σ : Hp) (x : Int32) : f_X9_in σ x.toInt64 (1 : Int64) (3 : Int64) = some (b2i (decide ((1 : Int32) ≤ x ∧ x ≤ 3)), σ) := in_ok σ x 1 3
theorem in_010 (σ : Hp) (x : Int32) : f_X9_in σ x.toInt64 (0 : Int64) (10 : Int64) = some (b2i (decide ((0 : Int32) ≤ x ∧ x ≤ 10)), σ) := in_ok σ x 0 10
theorem op_chance {σ : Hp} (h : Inv σ) (a1 a2 : Int32) (b : Bool) : OK2 (fun σ => f_X8_chance σ a1 a2 (b2i b)) (fun σ => f_X9_chance σ a1 a2 (b2i b)) σ := by
  have h0 := h
  obtain ⟨n, beds, lim, tw, t, s, d, nod, ill, i1, -⟩ := h
  obtain ⟨hc, b1, b2, b3, b4, hM, hr, bn, mr, -⟩ := i1
  have hI : Inv (wr σ 134 0 0) := Inv_scr h0 (thrown_scr σ)
  rcases rng_cases a1 1 3 (by decide) (by decide) with ho | ⟨q, q1, q2, rfl⟩
  · refine ⟨-2, σ, wr σ 134 0 0, ?_, ?_, hI⟩
    · simp only [f_X8_chance, f_X8_chance_20]
      by_cases w : a1 < 1
      · rw [if_pos w]
      · rw [if_neg w, if_pos (show (3 : Int32) < a1 from ho.resolve_left w)]
    · simp only [f_X9_chance, f_X9_chance_29, Lt]
      rw [bd_ok (in_13 _ _), show decide ((1 : Int32) ≤ a1 ∧ a1 ≤ 3) = false from decide_eq_false (rng_no (lo := 1) (hi := 3) (by decide) (by decide) ho), b2i_f, if_pos rfl]
  · have w1 : ¬ nI q < (1 : Int32) := nI_nlt (b := 1) q1 (by omega)
    have w2 : ¬ (3 : Int32) < nI q := nI_nlt (a := 3) q2 (by decide)
    have win : decide ((1 : Int32) ≤ nI q ∧ nI q ≤ 3) = true := decide_eq_true ⟨nI_le (a := 1) q1 (by omega), nI_le (b := 3) q2 (by decide)⟩
    rcases rng_cases a2 0 10 (by decide) (by decide) with ho | ⟨x, -, hx, rfl⟩
    · refine ⟨-2, σ, wr σ 134 0 0, ?_, ?_, hI⟩
      · simp only [f_X8_chance, f_X8_chance_20]
        rw [if_neg w1, if_neg w2]
        by_cases w : a2 < 0
        · rw [if_pos w]
        · rw [if_neg w, if_neg]
          intro v
          exact rng_no (lo := 0) (hi := 10) (by decide) (by decide) ho ⟨by rw [Int32.lt_iff_toInt_lt] at w; rw [Int32.le_iff_toInt_le]; exact Int.not_lt.mp w, v⟩
      · simp only [f_X9_chance, f_X9_chance_29, Lt]
        rw [bd_ok (in_13 _ _), win, b2i_t, if_neg (by decide), bd_ok (in_010 _ _), show decide ((0 : Int32) ≤ a2 ∧ a2 ≤ 10) = false from decide_eq_false (rng_no (lo := 0) (hi := 10) (by decide) (by decide) ho), b2i_f, if_pos rfl]
    · refine ⟨Rch b (UU q (Vw lim x q t nod) n) (DD q n), σ, wr σ 134 0 0, ?_, ?_, hI⟩
      · simp only [f_X8_chance]
        rw [if_neg w1, if_neg w2, if_neg (nI_pos (by omega)), if_pos (show nI x ≤ (10 : Int32) from nI_le (b := 10) hx (by decide))]
        exact chC_loop hc hr bn b4 hx q2 b2 b n 0 FU (by omega) (FU_big (by have := hc.1; omega))
      · simp only [f_X9_chance, f_X9_chance_58, Lt]
        rw [bd_ok (in_13 _ _), win, b2i_t, if_neg (by decide), bd_ok (in_010 _ _), show decide ((0 : Int32) ≤ nI x ∧ nI x ≤ 10) = true from decide_eq_true ⟨nI_pos' (by omega), nI_le (b := 10) hx (by decide)⟩, b2i_t, if_neg (by decide)]
        have key := chM_loop (MV_wr hM) (MR_wr mr) bn b4 hx q2 b n 0 FU (by omega) (FU_big (by have := hc.1; omega))
        rcases (show q = 1 ∨ q = 2 ∨ q = 3 by omega) with rfl | rfl | rfl
        · rw [if_pos (show nI 1 = (1 : Int32) from rfl)]; exact key
        · rw [if_neg (by decide), if_pos (show nI 2 = (2 : Int32) from rfl)]; exact key
        · rw [if_neg (by decide), if_neg (by decide)]; exact key
