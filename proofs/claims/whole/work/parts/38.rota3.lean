theorem allT_loop {σ : Hp} {n : Nat} {t : Nat → Nat} (hn : n ≤ 5) (h4 : σ 134 4 = nI n) (ht : ∀ g, g < n → σ 154 g = nI (t g)) : ∀ (k i fuel : Nat), i + k = n → k < fuel → f_X9_allTired_4 fuel σ (nI (tsum i t)) (nI i) = some (nI (tsum n t), σ) := by
  intro k
  induction k with
  | zero =>
    intro i fuel hi hf
    obtain ⟨f, rfl⟩ : ∃ f, fuel = f + 1 := ⟨fuel - 1, by omega⟩
    have hin : i = n := by omega
    subst hin
    simp only [f_X9_allTired_4]
    rw [h4, if_pos (nI_le (Nat.le_refl _) (by omega))]
  | succ k ih =>
    intro i fuel hi hf
    obtain ⟨f, rfl⟩ : ∃ f, fuel = f + 1 := ⟨fuel - 1, by omega⟩
    have hin : i < n := by omega
    simp only [f_X9_allTired_4, Lt]
    rw [h4, if_neg (nI_ge hin (by omega)), ck_ok _ (by omega) (by decide), ix_nI (by omega), ht i hin, nI_add, ni_add1]
    exact ih (i + 1) f (by omega) (by omega)
theorem pow16 {n r : Nat} (hn : n ≤ 4) (hr : r ≤ 4) : n * r ≤ 16 ∧ 2 ^ (n * r) ≤ 65536 := by
  have h : n * r ≤ 4 * 4 := Nat.mul_le_mul hn hr
  exact ⟨h, Nat.pow_le_pow_right (by decide) h⟩
theorem shl16 : ∀ e, e ≤ 16 → (1 : Int32) <<< (nI e &&& 31) = nI (2 ^ e) := by decide +kernel
theorem sh31 : ∀ e, e ≤ 16 → (nI e &&& 31) = nI e := by decide +kernel
theorem shr_div (R : Nat) (hR : R < 2 ^ 31) : ∀ e, e ≤ 16 → nI R >>> (nI e &&& 31) = nI (R / 2 ^ e) := by
  intro e he
  rw [sh31 e he]
  apply Int32.toInt_inj.mp
  have h1 : (nI (R / 2 ^ e)).toInt = ((R / 2 ^ e : Nat) : Int) := nI_toInt (Nat.lt_of_le_of_lt (Nat.div_le_self _ _) hR)
  rw [h1]
  have h2 : (nI R >>> nI e).toBitVec = (nI R).toBitVec.sshiftRight e := by
    rw [Int32.toBitVec_shiftRight]
    show (nI R).toBitVec.sshiftRight ((nI e).toBitVec.smod 32).toNat = _
    rw [(by decide +kernel : ∀ e, e ≤ 16 → ((nI e).toBitVec.smod 32).toNat = e) e he]
  show (nI R >>> nI e).toBitVec.toInt = _
  rw [h2, BitVec.toInt_sshiftRight]
  have h3 : (nI R).toBitVec.toInt = (R : Int) := nI_toInt hR
  rw [h3, Int.shiftRight_eq_div_pow]
  norm_cast
theorem and_mod {n : Nat} (hn : n ≤ 4) {v : Nat} (hv : v < 2 ^ 31) : nI v &&& nI (2 ^ n - 1) = nI (v % 2 ^ n) := pk_andN (by omega) n ((by decide +kernel : ∀ n, n ≤ 4 → (nI (2 ^ n - 1)).toBitVec.toNat = 2 ^ n - 1) n hn)
theorem digI {n r R : Nat} (hn : n ≤ 4) (hr : r ≤ 4) (hR : R < 65536) : (nI R >>> (nI (n * r) &&& 31)) &&& (((1 : Int32) <<< (nI n &&& 31)) - 1) = nI (R / 2 ^ (n * r) % 2 ^ n) := by
  rw [shr_div R (by omega) _ (pow16 hn hr).1, bt_all n (by omega)]
  exact and_mod hn (Nat.lt_of_le_of_lt (Nat.div_le_self _ _) (by omega))
theorem row_ok {σ0 : Hp} {n beds lim k : Nat} {tw : Nat → Option Nat} {ill : Nat → Bool} (hM : MV σ0 n beds lim tw ill) (hn4 : n ≤ 4) (hb5 : beds ≤ 5) (hl9 : lim < 100) (hk : k ≤ 4) {R : Nat} (hR : R < 65536) (k15 : Hp → Int32 → Int32 → Int32 → Int32 → Option (Int32 × Hp)) (x2 x3 : Int32) : ∀ (r i fuel : Nat) (σ : Hp) (x : RS), i + r = k → r + 1 < fuel → FrM σ0 σ → SV σ n x.1 x.2.1 x.2.2.1 x.2.2.2 → BN n x.1 x.2.1 x.2.2.1 → ∃ σ', FrM σ0 σ' ∧ ((ev n beds lim tw ill r R x = none ∧ f_X9_findRota_39 k15 fuel σ (nI k) x2 x3 (nI R) 1 (nI (n * r)) (nI i) = f_X9_findRota_183 k15 σ' (nI k) x2 x3 (nI R)) ∨ ∃ v, v ≤ 396 ∧ ev n beds lim tw ill r R x = some v ∧ f_X9_findRota_39 k15 fuel σ (nI k) x2 x3 (nI R) 1 (nI (n * r)) (nI i) = f_X9_findRota_106 k15 σ' (nI k) x2 x3 (nI R) 1 ∧ f_X9_allTired σ' = some (nI v, σ')) := by
  have hn := hM.1
  intro r
  induction r with
  | zero =>
    intro i fuel σ x hi hf hfr hS hb
    obtain ⟨f, rfl⟩ : ∃ f, fuel = f + 1 := ⟨fuel - 1, by omega⟩
    have ht : tsum n x.1 ≤ n * 99 := tsum_le n (fun g hg => (hb g hg).1)
    refine ⟨σ, hfr, Or.inr ⟨tsum n x.1, by omega, rfl, ?_, ?_⟩⟩
    · simp only [f_X9_findRota_39]
      rw [if_pos (nI_le (by omega) (by omega))]
    · exact allT_loop hn (MV_fr hfr hM).2.2.1 (fun g hg => (hS g hg).1) n 0 FU (by omega) (FU_big (by omega))
  | succ r ih =>
    intro i fuel σ x hi hf hfr hS hb
    obtain ⟨f, rfl⟩ : ∃ f, fuel = f + 2 := ⟨fuel - 2, by omega⟩
    have hM1 := MV_fr hfr hM
    have hm : R / 2 ^ (n * r) % 2 ^ n < 2 ^ n := Nat.mod_lt _ (Nat.pow_pos (by decide))
    have sub : nI (n * (r + 1)) - nI n = nI (n * r) := by
      rw [pk_sub (by rw [Nat.mul_succ]; omega)]; congr 1; rw [Nat.mul_succ]; omega
    have h0 : (f_X9_findRota_39 k15 (f + 2) σ (nI k) x2 x3 (nI R) 1 (nI (n * (r + 1))) (nI i)) = bd (f_X9_canBe σ (nI (R / 2 ^ (n * r) % 2 ^ n))) fun r3 σ4 =>
        if r3 = 0 then (
          f_X9_findRota_97 (f_X9_findRota_39 k15 (f + 1)) k15 σ4 (nI k) x2 x3 (nI R) (nI (n * r)) (nI i))
        else (
          bd (f_X9_go σ4 (nI (R / 2 ^ (n * r) % 2 ^ n))) fun r5 σ6 =>
          if r5 = 0 then (
            f_X9_findRota_97 (f_X9_findRota_39 k15 (f + 1)) k15 σ6 (nI k) x2 x3 (nI R) (nI (n * r)) (nI i))
          else (
            f_X9_findRota_98 (f_X9_findRota_39 k15 (f + 1)) k15 σ6 (nI k) x2 x3 (nI R) (nI (n * r)) (nI i) 1)) := by
      rw [f_X9_findRota_39]
      simp only [Lt]
      rw [if_neg (nI_ge (show i < k by omega) (by omega)), if_neg (by decide), hM1.2.2.1, sub, digI hn4 (show r ≤ 4 by omega) hR]
    have bad : ∀ σ1 : Hp, f_X9_findRota_97 (f_X9_findRota_39 k15 (f + 1)) k15 σ1 (nI k) x2 x3 (nI R) (nI (n * r)) (nI i) = f_X9_findRota_183 k15 σ1 (nI k) x2 x3 (nI R) := by
      intro σ1
      simp only [f_X9_findRota_97, f_X9_findRota_98, Lt]
      rw [f_X9_findRota_39]
      have e106 : f_X9_findRota_106 k15 σ1 (nI k) x2 x3 (nI R) 0 = f_X9_findRota_183 k15 σ1 (nI k) x2 x3 (nI R) := by
        rw [f_X9_findRota_106, if_pos rfl]
      rw [e106]
      split
      · rfl
      · rw [if_pos rfl]
    rw [h0, bd_ok (canBe_ok hM1 hb5 hS hb hm)]
    rw [ev]
    by_cases hmay : mayB n beds tw x.2.1 x.2.2.1 (R / 2 ^ (n * r) % 2 ^ n) ill = true
    · rw [hmay, b2i_t, if_neg (show ¬ (1 : Int32) = 0 by decide)]
      obtain ⟨σ2, g1, g2, g3⟩ := go_ok hM1 hl9 hS hb hm (may_ok hmay)
      rw [bd_ok g1]
      have hmk := mk_lt32 hn (aw lim (R / 2 ^ (n * r) % 2 ^ n) x.1 x.2.2.2)
      by_cases haw : mk n (aw lim (R / 2 ^ (n * r) % 2 ^ n) x.1 x.2.2.2) = 0
      · have hcan : ¬ can n beds lim tw ill (R / 2 ^ (n * r) % 2 ^ n) x = true := fun w => (can_ok w).2 haw
        rw [if_neg hcan, if_pos (by rw [haw]; rfl), bad]
        exact ⟨σ2, FrM_trans hfr g3, Or.inl ⟨rfl, rfl⟩⟩
      · have hcan : can n beds lim tw ill (R / 2 ^ (n * r) % 2 ^ n) x = true := by unfold can; rw [hmay, Bool.true_and]; exact decide_eq_true haw
        rw [if_pos hcan, if_neg (nI_ne0 (by omega) (by omega))]
        simp only [f_X9_findRota_98, Lt]
        rw [ni_add1]
        exact ih (i + 1) (f + 1) σ2 (stp n lim tw ill (R / 2 ^ (n * r) % 2 ^ n) x) (by omega) (by omega) (FrM_trans hfr g3) g2 (BN_stp hb hmay)
    · have hmf : mayB n beds tw x.2.1 x.2.2.1 (R / 2 ^ (n * r) % 2 ^ n) ill = false := by simpa using hmay
      have hcan : ¬ can n beds lim tw ill (R / 2 ^ (n * r) % 2 ^ n) x = true := fun w => hmay (can_ok w).1
      rw [if_neg hcan, hmf, b2i_f, if_pos rfl, bad]
      exact ⟨σ, hfr, Or.inl ⟨rfl, rfl⟩⟩
/-! the best row so far -/
def x2I : OP → Int32
  | none => -9
  | some p => nI p.1
def MAcc (σ : Hp) (k : Nat) : OP → Prop
  | none => True
  | some p => p.1 ≤ 396 ∧ ∀ j, j < k → ∃ v, p.2[j]? = some v ∧ σ 158 j = nI v
def FrM' (σ σ' : Hp) : Prop := ∀ a i, a < 154 ∨ 158 < a → σ' a i = σ a i
theorem dl_get {n R : Nat} : ∀ k j, j < k → (dl n k R)[j]? = some (R / 2 ^ (n * (k - 1 - j)) % 2 ^ n)
  | 0, j, h => absurd h (Nat.not_lt_zero j)
  | k + 1, 0, _ => by rw [dl]; rfl
  | k + 1, j + 1, h => by
    rw [dl, List.getElem?_cons_succ, dl_get k j (by omega), show k + 1 - 1 - (j + 1) = k - 1 - j by omega]
theorem lay_row {n k R : Nat} (hn4 : n ≤ 4) (hk : k ≤ 4) (hR : R < 65536) {σ0 : Hp} (h4 : σ0 134 4 = nI n) (k15 : Hp → Int32 → Int32 → Int32 → Int32 → Option (Int32 × Hp)) (x2 x3 : Int32) : ∀ (r i fuel : Nat) (σ : Hp), i + r = k → r < fuel → (∀ a j, a ≠ 158 → σ a j = σ0 a j) → (∀ j, j < i → σ 158 j = nI (R / 2 ^ (n * (k - 1 - j)) % 2 ^ n)) → ∃ σ', f_X9_findRota_141 k15 fuel σ (nI k) x2 x3 (nI R) (nI (n * r)) (nI i) = f_X9_findRota_183 k15 σ' (nI k) x2 x3 (nI R) ∧ (∀ a j, a ≠ 158 → σ' a j = σ0 a j) ∧ (∀ j, j < k → σ' 158 j = nI (R / 2 ^ (n * (k - 1 - j)) % 2 ^ n)) := by
  intro r
  induction r with
  | zero =>
    intro i fuel σ hi hf h1 h2
    obtain ⟨f, rfl⟩ : ∃ f, fuel = f + 1 := ⟨fuel - 1, by omega⟩
    have : i = k := by omega
    subst this
    simp only [f_X9_findRota_141]
    rw [if_pos (nI_le (Nat.le_refl _) (by omega))]
    exact ⟨σ, rfl, h1, h2⟩
  | succ r ih =>
    intro i fuel σ hi hf h1 h2
    obtain ⟨f, rfl⟩ : ∃ f, fuel = f + 1 := ⟨fuel - 1, by omega⟩
    have sub : nI (n * (r + 1)) - nI n = nI (n * r) := by
      rw [pk_sub (by rw [Nat.mul_succ]; omega)]; congr 1; rw [Nat.mul_succ]; omega
    simp only [f_X9_findRota_141, Lt]
    rw [if_neg (nI_ge (show i < k by omega) (by omega)), (h1 134 4 (by decide)).trans h4, sub, ck_ok _ (show i < 4 by omega) (by decide), ix_nI (by omega), digI hn4 (show r ≤ 4 by omega) hR, ni_add1]
    refine ih (i + 1) f _ (by omega) (by omega) (fun a j q => by rw [wr_ne (by omega)]; exact h1 a j q) (fun j hj => ?_)
    by_cases e : j = i
    · rw [e, wr_eq, show k - 1 - i = r by omega]
    · rw [wr_ne (by omega)]; exact h2 j (by omega)
theorem step15 {σ σ1 : Hp} {n k R N f : Nat} {x2 : Int32} (hN : N ≤ 65536) (hR : R < N) (b1 : f_X9_begin σ = some ((), σ1)) (h4 : σ1 134 4 = nI n) : f_X9_findRota_15 (f + 1) σ (nI k) x2 (nI N) (nI R) = f_X9_findRota_39 (f_X9_findRota_15 f) FU σ1 (nI k) x2 (nI N) (nI R) 1 (nI (n * k)) (nI 0) := by
  rw [f_X9_findRota_15, if_neg (nI_ge hR (by omega)), bd_ok b1, h4, pk_mul]
  rfl
theorem stop15 {σ : Hp} {k N f : Nat} {x2 : Int32} (hN : N ≤ 65536) : f_X9_findRota_15 (f + 1) σ (nI k) x2 (nI N) (nI N) = some (x2, σ) := by
  rw [f_X9_findRota_15, if_pos (nI_le (Nat.le_refl _) (by omega))]
theorem next183 {σ : Hp} {k R : Nat} {x2 x3 : Int32} (k15 : Hp → Int32 → Int32 → Int32 → Int32 → Option (Int32 × Hp)) : f_X9_findRota_183 k15 σ (nI k) x2 x3 (nI R) = k15 σ (nI k) x2 x3 (nI (R + 1)) := by
  rw [f_X9_findRota_183, ni_add1]
  rfl
theorem upd125 {σ2 : Hp} {n k R v : Nat} (hn4 : n ≤ 4) (hk : k ≤ 4) (hR : R < 65536) (h42 : σ2 134 4 = nI n) (hat : f_X9_allTired σ2 = some (nI v, σ2)) (k15 : Hp → Int32 → Int32 → Int32 → Int32 → Option (Int32 × Hp)) (x3 : Int32) : ∃ σ3, f_X9_findRota_125 k15 σ2 (nI k) x3 (nI R) = f_X9_findRota_183 k15 σ3 (nI k) (nI v) x3 (nI R) ∧ (∀ a j, a ≠ 158 → σ3 a j = σ2 a j) ∧ (∀ j, j < k → σ3 158 j = nI (R / 2 ^ (n * (k - 1 - j)) % 2 ^ n)) := by
  obtain ⟨σ3, l1, l2, l3⟩ := lay_row (R := R) hn4 hk hR h42 k15 (nI v) x3 k 0 FU σ2 (by omega) (FU_big (by omega)) (fun _ _ _ => rfl) (fun j hj => absurd hj (Nat.not_lt_zero j))
  refine ⟨σ3, ?_, l2, l3⟩
  rw [f_X9_findRota_125, bd_ok hat, h42, pk_mul]
  exact l1
theorem e106_new {σ2 : Hp} {k R v : Nat} (hat : f_X9_allTired σ2 = some (nI v, σ2)) (k15 : Hp → Int32 → Int32 → Int32 → Int32 → Option (Int32 × Hp)) (x3 : Int32) {a : OP} (h : ∀ p, a = some p → p.1 ≤ 396 ∧ v < p.1) : f_X9_findRota_106 k15 σ2 (nI k) (x2I a) x3 (nI R) 1 = f_X9_findRota_125 k15 σ2 (nI k) x3 (nI R) := by
  rw [f_X9_findRota_106, if_neg (by decide)]
  cases a with
  | none => rw [if_pos (show x2I none = (-9 : Int32) from rfl)]
  | some p =>
    obtain ⟨h1, h2⟩ := h p rfl
    have hp : ¬ nI p.1 = (-9 : Int32) := fun w => by
      have h9 : (nI p.1).toInt = (-9 : Int32).toInt := congrArg _ w
      rw [nI_toInt (by omega)] at h9
      have z : (-9 : Int32).toInt = -9 := rfl
      omega
    rw [if_neg (show ¬ x2I (some p) = (-9 : Int32) from hp), bd_ok hat, if_neg (show ¬ x2I (some p) ≤ nI v from nI_ge h2 (by omega))]
theorem e106_old {σ2 : Hp} {k R v : Nat} (hv : v ≤ 396) (hat : f_X9_allTired σ2 = some (nI v, σ2)) (k15 : Hp → Int32 → Int32 → Int32 → Int32 → Option (Int32 × Hp)) (x3 : Int32) {p : Nat × List Nat} (h1 : p.1 ≤ 396) (h2 : p.1 ≤ v) : f_X9_findRota_106 k15 σ2 (nI k) (x2I (some p)) x3 (nI R) 1 = f_X9_findRota_183 k15 σ2 (nI k) (x2I (some p)) x3 (nI R) := by
  rw [f_X9_findRota_106, if_neg (by decide)]
  have hp : ¬ nI p.1 = (-9 : Int32) := fun w => by
    have h9 : (nI p.1).toInt = (-9 : Int32).toInt := congrArg _ w
    rw [nI_toInt (by omega)] at h9
    have z : (-9 : Int32).toInt = -9 := rfl
    omega
  rw [if_neg (show ¬ x2I (some p) = (-9 : Int32) from hp), bd_ok hat, if_pos (show x2I (some p) ≤ nI v from nI_le h2 (by omega))]
theorem find_loop {σ0 : Hp} {n beds lim k : Nat} {tw : Nat → Option Nat} {ill : Nat → Bool} {x : RS} (hM : MV σ0 n beds lim tw ill) (hR : MR σ0 n x.1 x.2.1 x.2.2.1 x.2.2.2) (hb : BN n x.1 x.2.1 x.2.2.1) (hn4 : n ≤ 4) (hb5 : beds ≤ 5) (hl9 : lim < 100) (hk : k ≤ 4) : ∀ (c R fuel : Nat) (σ : Hp), R + c = 2 ^ (n * k) → c < fuel → FrM' σ0 σ → MAcc σ k (scanF (row n beds lim tw ill k x) R) → ∃ σ', f_X9_findRota_15 fuel σ (nI k) (x2I (scanF (row n beds lim tw ill k x) R)) (nI (2 ^ (n * k))) (nI R) = some (x2I (bestF n beds lim tw ill k x), σ') ∧ FrM' σ0 σ' ∧ MAcc σ' k (bestF n beds lim tw ill k x) := by
  have hn := hM.1
  obtain ⟨h16, h65⟩ := pow16 hn4 hk
  rw [← rows_best]
  generalize 2 ^ (n * k) = N at h65 ⊢
  intro c
  induction c with
  | zero =>
    intro R fuel σ hc hf hfr hA
    obtain ⟨f, rfl⟩ : ∃ f, fuel = f + 1 := ⟨fuel - 1, by omega⟩
    have : R = N := by omega
    subst this
    exact ⟨σ, stop15 h65, hfr, hA⟩
  | succ c ih =>
    intro R fuel σ hc hf hfr hA
    obtain ⟨f, rfl⟩ : ∃ f, fuel = f + 1 := ⟨fuel - 1, by omega⟩
    have hR16 : R < 65536 := by omega
    have hM1 : MV σ n beds lim tw ill := by
      obtain ⟨q1, q2, q3, q4, q5, q6, q7⟩ := hM
      exact ⟨q1, q2, by rw [hfr _ _ (by omega)]; exact q3, by rw [hfr _ _ (by omega)]; exact q4, by rw [hfr _ _ (by omega)]; exact q5, fun g hg => by rw [hfr _ _ (by omega)]; exact q6 g hg, fun g hg => by rw [hfr _ _ (by omega)]; exact q7 g hg⟩
    have hR1 : MR σ n x.1 x.2.1 x.2.2.1 x.2.2.2 := fun g hg => by
      rw [hfr _ _ (by omega), hfr _ _ (by omega), hfr _ _ (by omega), hfr _ _ (by omega)]; exact hR g hg
    obtain ⟨σ1, b1, b2, b3⟩ := begin_ok hn hM1.2.2.1 hR1
    rw [step15 h65 (show R < N by omega) b1 (MV_fr b3 hM1).2.2.1]
    obtain ⟨σ2, fr2, hcase⟩ := row_ok (R := R) (MV_fr b3 hM1) hn4 hb5 hl9 hk hR16 (f_X9_findRota_15 f) (x2I (scanF (row n beds lim tw ill k x) R)) (nI N) k 0 FU σ1 x (by omega) (FU_big (by omega)) (FrM_refl σ1) b2 hb
    have fr02 : ∀ a i, a < 154 ∨ 158 ≤ a → σ2 a i = σ a i := fun a i q => (fr2 a i (by omega) (by omega) (by omega) (by omega)).trans (b3 a i (by omega) (by omega) (by omega) (by omega))
    have frM2 : FrM' σ0 σ2 := fun a i q => (fr02 a i (by omega)).trans (hfr a i q)
    have keepA : ∀ a : OP, MAcc σ k a → MAcc σ2 k a := fun a h => by
      cases a with
      | none => trivial
      | some p => exact ⟨h.1, fun j hj => by
          obtain ⟨v, w1, w2⟩ := h.2 j hj
          exact ⟨v, w1, (fr02 158 j (by omega)).trans w2⟩⟩
    have go183 : ∀ (σ3 : Hp) (a : OP), a = scanF (row n beds lim tw ill k x) (R + 1) → FrM' σ0 σ3 → MAcc σ3 k a → ∃ σ', f_X9_findRota_183 (f_X9_findRota_15 f) σ3 (nI k) (x2I a) (nI N) (nI R) = some (x2I (scanF (row n beds lim tw ill k x) N), σ') ∧ FrM' σ0 σ' ∧ MAcc σ' k (scanF (row n beds lim tw ill k x) N) := by
      intro σ3 a ha h1 h2
      rw [next183, ha]
      exact ih (R + 1) f σ3 (by omega) (by omega) h1 (by rw [← ha]; exact h2)
    rcases hcase with ⟨hev, he⟩ | ⟨v, hv, hev, he, hat⟩
    · rw [he]
      refine go183 σ2 _ ?_ frM2 (keepA _ hA)
      have : row n beds lim tw ill k x R = none := by unfold row; rw [hev]; rfl
      rw [scanF, this, better_none]
    · rw [he]
      have hrow : row n beds lim tw ill k x R = some (v, dl n k R) := by unfold row; rw [hev]; rfl
      have h42 : σ2 134 4 = nI n := (fr02 134 4 (by omega)).trans hM1.2.2.1
      obtain ⟨σ3, l1, l2, l3⟩ := upd125 (R := R) hn4 hk hR16 h42 hat (f_X9_findRota_15 f) (nI N)
      have upd : better (scanF (row n beds lim tw ill k x) R) (some (v, dl n k R)) = some (v, dl n k R) → ∃ σ', f_X9_findRota_125 (f_X9_findRota_15 f) σ2 (nI k) (nI N) (nI R) = some (x2I (scanF (row n beds lim tw ill k x) N), σ') ∧ FrM' σ0 σ' ∧ MAcc σ' k (scanF (row n beds lim tw ill k x) N) := by
        intro hbet
        rw [l1]
        exact go183 σ3 (some (v, dl n k R)) (by rw [scanF, hrow, hbet]) (fun a i q => (l2 a i (by omega)).trans (frM2 a i q)) ⟨hv, fun j hj => ⟨_, dl_get k j hj, l3 j hj⟩⟩
      cases hacc : scanF (row n beds lim tw ill k x) R with
      | none =>
        rw [e106_new hat _ _ (fun p w => by cases w)]
        exact upd (by rw [hacc]; rfl)
      | some p =>
        rw [hacc] at hA
        by_cases q : p.1 ≤ v
        · rw [e106_old hv hat _ _ hA.1 q]
          refine go183 σ2 (some p) ?_ frM2 (keepA _ hA)
          rw [scanF, hrow, hacc, better_ss, if_neg (by show ¬ v < p.1; omega)]
        · rw [e106_new hat _ _ (fun p' w => by cases w; exact ⟨hA.1, by omega⟩)]
          exact upd (by rw [hacc, better_ss, if_pos (by show v < p.1; omega)])
theorem find_ok {σ : Hp} {n beds lim k : Nat} {tw : Nat → Option Nat} {ill : Nat → Bool} {x : RS} (hM : MV σ n beds lim tw ill) (hR : MR σ n x.1 x.2.1 x.2.2.1 x.2.2.2) (hb : BN n x.1 x.2.1 x.2.2.1) (hn4 : n ≤ 4) (hb5 : beds ≤ 5) (hl9 : lim < 100) (hk : k ≤ 4) : ∃ σ', f_X9_findRota σ (nI k) = some (x2I (bestF n beds lim tw ill k x), σ') ∧ FrM' σ σ' ∧ MAcc σ' k (bestF n beds lim tw ill k x) := by
  obtain ⟨h16, h65⟩ := pow16 hn4 hk
  simp only [f_X9_findRota, Lt]
  rw [hM.2.2.1, pk_mul, shl16 _ h16]
  exact find_loop hM hR hb hn4 hb5 hl9 hk (2 ^ (n * k)) 0 FU σ (by omega) (by show 2 ^ (n * k) < 100000; omega) (fun _ _ _ => rfl) trivial
/-! the two questions -/
theorem in_14 (σ : Hp) (x : Int32) : f_X9_in σ x.toInt64 (1 : Int64) (4 : Int64) = some (b2i (decide ((1 : Int32) ≤ x ∧ x ≤ 4)), σ) := in_ok σ x 1 4
theorem noRota_ok {σ : Hp} {n k : Nat} (hn : n ≤ 5) (h4 : σ 134 4 = nI n) (k1 : 1 ≤ k) (k2 : k ≤ 4) : f_X9_noRota σ (nI k) = some (if n ≤ 4 then 0 else -3, σ) := by
  simp only [f_X9_noRota]
  rw [bd_ok (in_14 _ _), show decide ((1 : Int32) ≤ nI k ∧ nI k ≤ 4) = true from decide_eq_true ⟨nI_le (a := 1) k1 (by omega), nI_le (b := 4) k2 (by decide)⟩, b2i_t, if_neg (by decide), h4]
  by_cases c : n ≤ 4
  · rw [if_pos (show nI n ≤ (4 : Int32) from nI_le (b := 4) c (by decide)), if_pos c]
  · rw [if_neg (show ¬ nI n ≤ (4 : Int32) from nI_ge (a := 4) (by omega) (by omega)), if_neg c]
theorem refusal_ok {σ : Hp} {n k : Nat} (hn : n ≤ 5) (h4 : σ 11 1 = nI n) (k1 : 1 ≤ k) (k2 : k ≤ 4) : f_X8_rotaRefusal σ (nI k) = some (if n ≤ 4 then 0 else -3, σ) := by
  simp only [f_X8_rotaRefusal]
  rw [if_neg (show ¬ nI k < (1 : Int32) from nI_nlt (b := 1) k1 (by omega)), if_pos (show nI k ≤ (4 : Int32) from nI_le (b := 4) k2 (by decide)), h4]
  by_cases c : n ≤ 4
  · rw [if_pos (show nI n ≤ (4 : Int32) from nI_le (b := 4) c (by decide)), if_pos c]
  · rw [if_neg (show ¬ nI n ≤ (4 : Int32) from nI_ge (a := 4) (by omega) (by omega)), if_neg c]
theorem noRota_out {σ : Hp} {x : Int32} (h : x < nI 1 ∨ nI 4 < x) : f_X9_noRota σ x = some (-2, σ) := by
  simp only [f_X9_noRota]
  rw [bd_ok (in_14 _ _), show decide ((1 : Int32) ≤ x ∧ x ≤ 4) = false from decide_eq_false (rng_no (lo := 1) (hi := 4) (by decide) (by decide) h), b2i_f, if_pos rfl]
theorem refusal_out {σ : Hp} {x : Int32} (h : x < nI 1 ∨ nI 4 < x) : f_X8_rotaRefusal σ x = some (-2, σ) := by
  simp only [f_X8_rotaRefusal]
  by_cases q : x < 1
  · rw [if_pos q]
  · rw [if_neg q, if_neg]
    intro w
    exact rng_no (lo := 1) (hi := 4) (by decide) (by decide) h ⟨by rw [Int32.lt_iff_toInt_lt] at q; rw [Int32.le_iff_toInt_le]; exact Int.not_lt.mp q, w⟩
theorem rota_inv {σ σ1 σ2 : Hp} {n beds lim : Nat} {tw : Nat → Option Nat} {t s d : Nat → Nat} {nod ill : Nat → Bool} (i1 : Core σ n beds lim tw t s d nod ill) (i2 : PlanI σ n) (i3 : TextI σ) (i4 : ActsI σ n) (i5 : SlotI σ n 0 ∧ SlotI σ n 1) (i6 : BookI σ) (i7 : SrchI σ n beds lim tw) (h1 : FrV σ σ1) (h2 : SrchK σ1 n beds lim tw) (h3 : FrM' (wr σ1 134 0 0) σ2) : Inv σ2 := by
  have f : ∀ a i, (a < 86 ∨ a = 87 ∨ (114 < a ∧ a < 154)) → ¬ (a = 134 ∧ i = 0) → σ2 a i = σ a i := fun a i q1 q2 => (h3 a i (by omega)).trans ((wr_ne q2).trans (h1 a i (by omega)))
  refine ⟨n, beds, lim, tw, t, s, d, nod, ill, keep_c i1 (fun a i q => ?_), keep_p i2 (fun a i q => ?_), keep_t i3 (fun a i q => ?_), keep_a i4 (fun a i q => ?_), keep_s i5 (fun a i q => ?_), keep_b i6 (fun a i q => ?_), SrchK_congr h2 (fun a i q1 q2 => (h3 a i (by omega)).trans (wr_ne (by omega))), fun j q1 q2 => ?_, fun g hg => ?_⟩
  · unfold Rc at q; exact f a i (by omega) (by omega)
  · unfold Rp at q; exact f a i (by omega) (by omega)
  · unfold Rt at q; exact f a i (by omega) (by omega)
  · unfold Ra at q; exact f a i (by omega) (by omega)
  · unfold Rs at q; exact f a i (by omega) (by omega)
  · unfold Rb at q; exact f a i (by omega) (by omega)
  · rw [f 6 j (by omega) (by omega)]; exact i7.2.1 j q1 q2
  · rw [f 10 g (by omega) (by omega)]; exact i7.2.2 g hg
theorem op_rota {σ : Hp} (h : Inv σ) (a1 : Int32) : OK2 (fun σ => f_X8_rota σ a1) (fun σ => f_X9_rota σ a1) σ := by
  have h0 := h
  obtain ⟨n, beds, lim, tw, t, s, d, nod, ill, i1, i2, i3, i4, i5, i6, i7⟩ := h
  have i1' := i1
  obtain ⟨hc, b1, b2, b3, b4, hM, hr, bn, mr, -⟩ := i1
  have hn := hc.1
  have hI : Inv (wr σ 134 0 0) := Inv_scr h0 (thrown_scr σ)
  rcases rng_cases a1 1 4 (by decide) (by decide) with ho | ⟨k, k1, k2, rfl⟩
  · refine ⟨-2, σ, wr σ 134 0 0, ?_, ?_, hI⟩
    · simp only [f_X8_rota]; rw [bd_ok (refusal_out ho), if_neg (by decide)]
    · simp only [f_X9_rota, Lt]; rw [bd_ok (noRota_out ho), if_neg (by decide)]
  · by_cases c : n ≤ 4
    · obtain ⟨σ1, e1, e2, e3, e4⟩ := run_ok (k := k) c k1 k2 hc b1 b3 b2 b4 hr bn i7.1
      have fM : ∀ a i, 134 ≤ a → σ1 a i = σ a i := fun a i q => e4 a i (by omega)
      obtain ⟨σ2, g1, g2, g3⟩ := find_ok (k := k) (x := (t, s, d, nod)) (MV_wr (MV_O fM hM)) (MR_wr (MR_O fM mr)) bn c b3 b4 k2
      refine ⟨x2I (bestF n beds lim tw ill k (t, s, d, nod)), σ1, σ2, ?_, ?_, rota_inv i1' i2 i3 i4 i5 i6 i7 e4 e2 g2⟩
      · simp only [f_X8_rota]
        rw [bd_ok (refusal_ok hn hc.2.2.1 k1 k2), if_pos c, if_pos rfl, bd_ok e1]
        cases hbest : bestF n beds lim tw ill k (t, s, d, nod) with
        | none => rw [hbest] at e3; rw [if_pos (show σ1 86 6 = 0 from e3)]; rfl
        | some p => rw [hbest] at e3; rw [if_neg (by rw [e3.1]; decide), e3.2.1]; rfl
      · simp only [f_X9_rota, Lt]
        rw [bd_ok (noRota_ok hn (MV_wr (MV_O fM hM)).2.2.1 k1 k2), if_pos c, if_pos rfl, bd_ok g1]
    · refine ⟨-3, σ, wr σ 134 0 0, ?_, ?_, hI⟩
      · simp only [f_X8_rota]; rw [bd_ok (refusal_ok hn hc.2.2.1 k1 k2), if_neg c, if_neg (by decide)]
      · simp only [f_X9_rota, Lt]; rw [bd_ok (noRota_ok hn (MV_wr hM).2.2.1 k1 k2), if_neg c, if_neg (by decide)]
theorem op_rotaAt {σ : Hp} (h : Inv σ) (a1 a2 : Int32) : OK2 (fun σ => f_X8_rotaAt σ a1 a2) (fun σ => f_X9_rotaAt σ a1 a2) σ := by
  have h0 := h
  obtain ⟨n, beds, lim, tw, t, s, d, nod, ill, i1, i2, i3, i4, i5, i6, i7⟩ := h
  have i1' := i1
  obtain ⟨hc, b1, b2, b3, b4, hM, hr, bn, mr, -⟩ := i1
  have hn := hc.1
  have hI : Inv (wr σ 134 0 0) := Inv_scr h0 (thrown_scr σ)
  rcases rng_cases a1 1 4 (by decide) (by decide) with ho | ⟨k, k1, k2, rfl⟩
  · refine ⟨-2, σ, wr σ 134 0 0, ?_, ?_, hI⟩
    · simp only [f_X8_rotaAt]; rw [bd_ok (refusal_out ho), if_neg (by decide)]
    · simp only [f_X9_rotaAt, Lt]; rw [bd_ok (noRota_out ho), if_neg (by decide)]
  · by_cases c : n ≤ 4
    · have x9 : ∀ a : OP, MAcc σ k a ∨ True → (∀ p, a = some p → p.1 ≤ 396) → (x2I a = (-9 : Int32) ↔ a = none) := by
        intro a _ hb
        cases a with
        | none => exact ⟨fun _ => rfl, fun _ => rfl⟩
        | some p =>
          have h396 := hb p rfl
          refine ⟨fun w => ?_, fun w => by cases w⟩
          have h9 : (nI p.1).toInt = (-9 : Int32).toInt := congrArg _ w
          rw [nI_toInt (by omega)] at h9
          have z : (-9 : Int32).toInt = -9 := rfl
          omega
      have k1I : nI k - 1 = nI (k - 1) := pk_sub (b := 1) k1
      rcases pk_ix a2 (n := k) (by omega) with hneg | hge | ⟨j, hj, rfl⟩
      · -- below
        obtain ⟨σ2, g1, g2, g3⟩ := find_ok (k := k) (x := (t, s, d, nod)) (MV_wr hM) (MR_wr mr) bn c b3 b4 k2
        refine ⟨-9, σ, σ2, ?_, ?_, rota_inv i1' i2 i3 i4 i5 i6 i7 (fun _ _ _ => rfl) i7.1 g2⟩
        · simp only [f_X8_rotaAt]
          rw [bd_ok (refusal_ok hn hc.2.2.1 k1 k2), if_pos c, if_pos rfl, if_pos hneg]
        · simp only [f_X9_rotaAt, Lt]
          rw [bd_ok (noRota_ok hn (MV_wr hM).2.2.1 k1 k2), if_pos c, if_pos rfl, bd_ok g1]
          have hin : f_X9_in σ2 a2.toInt64 (0 : Int64) ((nI k - 1).toInt64) = some (b2i (decide ((0 : Int32) ≤ a2 ∧ a2 ≤ nI k - 1)), σ2) := in_ok σ2 a2 0 (nI k - 1)
          have hno : ¬ ((0 : Int32) ≤ a2 ∧ a2 ≤ nI k - 1) := fun w => by
            have w1 := w.1
            rw [Int32.le_iff_toInt_le] at w1
            rw [Int32.lt_iff_toInt_lt] at hneg
            omega
          rw [bd_ok hin, show decide ((0 : Int32) ≤ a2 ∧ a2 ≤ nI k - 1) = false from decide_eq_false hno, b2i_f, if_pos rfl]
          split <;> rfl
      · obtain ⟨σ2, g1, g2, g3⟩ := find_ok (k := k) (x := (t, s, d, nod)) (MV_wr hM) (MR_wr mr) bn c b3 b4 k2
        have hnn : ¬ a2 < 0 := fun w => by
          rw [Int32.lt_iff_toInt_lt] at w
          rw [Int32.le_iff_toInt_le, nI_toInt (by omega)] at hge
          have z : (0 : Int32).toInt = 0 := rfl
          omega
        have hnl : ¬ a2 < nI k := fun w => by
          rw [Int32.lt_iff_toInt_lt] at w
          rw [Int32.le_iff_toInt_le] at hge
          omega
        refine ⟨-9, σ, σ2, ?_, ?_, rota_inv i1' i2 i3 i4 i5 i6 i7 (fun _ _ _ => rfl) i7.1 g2⟩
        · simp only [f_X8_rotaAt]
          rw [bd_ok (refusal_ok hn hc.2.2.1 k1 k2), if_pos c, if_pos rfl, if_neg hnn, if_neg hnl]
        · simp only [f_X9_rotaAt, Lt]
          rw [bd_ok (noRota_ok hn (MV_wr hM).2.2.1 k1 k2), if_pos c, if_pos rfl, bd_ok g1]
          have hin : f_X9_in σ2 a2.toInt64 (0 : Int64) ((nI k - 1).toInt64) = some (b2i (decide ((0 : Int32) ≤ a2 ∧ a2 ≤ nI k - 1)), σ2) := in_ok σ2 a2 0 (nI k - 1)
          have hno : ¬ ((0 : Int32) ≤ a2 ∧ a2 ≤ nI k - 1) := fun w => by
            have w1 := w.2
            rw [k1I, Int32.le_iff_toInt_le, nI_toInt (by omega)] at w1
            rw [Int32.le_iff_toInt_le, nI_toInt (by omega)] at hge
            omega
          rw [bd_ok hin, show decide ((0 : Int32) ≤ a2 ∧ a2 ≤ nI k - 1) = false from decide_eq_false hno, b2i_f, if_pos rfl]
          split <;> rfl
      · obtain ⟨σ1, e1, e2, e3, e4⟩ := run_ok (k := k) c k1 k2 hc b1 b3 b2 b4 hr bn i7.1
        have fM : ∀ a i, 134 ≤ a → σ1 a i = σ a i := fun a i q => e4 a i (by omega)
        obtain ⟨σ2, g1, g2, g3⟩ := find_ok (k := k) (x := (t, s, d, nod)) (MV_wr (MV_O fM hM)) (MR_wr (MR_O fM mr)) bn c b3 b4 k2
        have hin : f_X9_in σ2 (nI j).toInt64 (0 : Int64) ((nI k - 1).toInt64) = some (b2i (decide ((0 : Int32) ≤ nI j ∧ nI j ≤ nI k - 1)), σ2) := in_ok σ2 (nI j) 0 (nI k - 1)
        have hyes : ((0 : Int32) ≤ nI j ∧ nI j ≤ nI k - 1) := ⟨nI_pos' (by omega), by rw [k1I]; exact nI_le (by omega) (by omega)⟩
        have hC : f_X8_rotaAt σ (nI k) (nI j) = if σ1 86 6 = 0 then some (-9, σ1) else some (σ1 89 j, σ1) := by
          simp only [f_X8_rotaAt]
          rw [bd_ok (refusal_ok hn hc.2.2.1 k1 k2), if_pos c, if_pos rfl, if_neg (nI_pos (by omega)), if_pos (nI_lt hj (by omega)), bd_ok e1, ck_ok _ (show j < 4 by omega) (by decide), ix_nI (by omega)]
        have hRf : f_X9_rotaAt σ1 (nI k) (nI j) = if x2I (bestF n beds lim tw ill k (t, s, d, nod)) = (-9 : Int32) then some (-9, σ2) else some (σ2 158 j, σ2) := by
          simp only [f_X9_rotaAt, Lt]
          rw [bd_ok (noRota_ok hn (MV_wr (MV_O fM hM)).2.2.1 k1 k2), if_pos c, if_pos rfl, bd_ok g1, bd_ok hin, show decide ((0 : Int32) ≤ nI j ∧ nI j ≤ nI k - 1) = true from decide_eq_true hyes, b2i_t, if_neg (show ¬ (1 : Int32) = 0 by decide), ck_ok _ (show j < 4 by omega) (by decide), ix_nI (by omega)]
        have hfin := rota_inv i1' i2 i3 i4 i5 i6 i7 e4 e2 g2
        cases hbest : bestF n beds lim tw ill k (t, s, d, nod) with
        | none =>
          rw [hbest] at e3 hRf
          refine ⟨-9, σ1, σ2, ?_, ?_, hfin⟩
          · show f_X8_rotaAt σ (nI k) (nI j) = _
            rw [hC, if_pos (show σ1 86 6 = 0 from e3)]
          · show f_X9_rotaAt σ1 (nI k) (nI j) = _
            rw [hRf, if_pos (show x2I none = (-9 : Int32) from rfl)]
        | some p =>
          rw [hbest] at e3 hRf g3
          obtain ⟨v, w1, w2⟩ := e3.2.2 j hj
          obtain ⟨v', w1', w2'⟩ := g3.2 j hj
          have hvv : v = v' := Option.some.inj (w1.symm.trans w1')
          refine ⟨nI v, σ1, σ2, ?_, ?_, hfin⟩
          · show f_X8_rotaAt σ (nI k) (nI j) = _
            rw [hC, if_neg (by rw [e3.1]; decide), w2]
          · show f_X9_rotaAt σ1 (nI k) (nI j) = _
            rw [hRf, if_neg (fun w => by have := (x9 (some p) (Or.inr trivial) (fun p' w' => by cases w'; exact g3.1)).mp w; cases this), w2', hvv]
    · refine ⟨-3, σ, wr σ 134 0 0, ?_, ?_, hI⟩
      · simp only [f_X8_rotaAt]; rw [bd_ok (refusal_ok hn hc.2.2.1 k1 k2), if_neg c, if_neg (by decide)]
      · simp only [f_X9_rotaAt, Lt]; rw [bd_ok (noRota_ok hn (MV_wr hM).2.2.1 k1 k2), if_neg c, if_neg (by decide)]
