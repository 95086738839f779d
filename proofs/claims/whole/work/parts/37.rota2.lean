theorem like_loop {σ : Hp} {n : Nat} (hn : n ≤ 5) (h1 : σ 11 1 = nI n) : ∀ (k i fuel : Nat), i + k = n → k < fuel → ∃ b : Bool, f_X4_isLike_2 90 13 fuel σ (nI i) = some (b2i b, σ) ∧ (b = true → (∀ g, i ≤ g → g < n → σ 91 g = σ 14 g ∧ σ 92 g = σ 15 g ∧ σ 93 g = σ 16 g) ∧ σ 90 5 = σ 13 5 ∧ σ 90 6 = σ 13 6) := by
  intro k
  induction k with
  | zero =>
    intro i fuel hi hf
    obtain ⟨f, rfl⟩ : ∃ f, fuel = f + 1 := ⟨fuel - 1, by omega⟩
    simp only [f_X4_isLike_2]
    rw [show σ (chO 90) 1 = nI n from h1, if_pos (nI_le (by omega) (by omega)), zr_0, zr_1]
    by_cases c1 : σ 90 5 = σ 13 5
    · rw [if_pos c1]
      by_cases c2 : σ 90 6 = σ 13 6
      · rw [if_pos c2]; exact ⟨true, rfl, fun _ => ⟨fun g q1 q2 => by omega, c1, c2⟩⟩
      · rw [if_neg c2]; exact ⟨false, rfl, fun w => by cases w⟩
    · rw [if_neg c1]; exact ⟨false, rfl, fun w => by cases w⟩
  | succ k ih =>
    intro i fuel hi hf
    obtain ⟨f, rfl⟩ : ∃ f, fuel = f + 1 := ⟨fuel - 1, by omega⟩
    simp only [f_X4_isLike_2, Lt]
    rw [show σ (chO 90) 1 = nI n from h1, if_neg (nI_ge (show i < n by omega) (by omega))]
    simp (disch := omega) only [ck_ok, ix_nI, ni_add1, zr_0]
    by_cases c1 : σ (90 + 1) i = σ (13 + 1) i
    · rw [if_pos c1]
      by_cases c2 : σ (90 + 2) i = σ (13 + 2) i
      · rw [if_pos c2]
        by_cases c3 : σ (90 + 3) i = σ (13 + 3) i
        · rw [if_pos c3]
          obtain ⟨b, e1, e2⟩ := ih (i + 1) f (by omega) (by omega)
          refine ⟨b, e1, fun hb => ?_⟩
          obtain ⟨w1, w2⟩ := e2 hb
          refine ⟨fun g q1 q2 => ?_, w2⟩
          by_cases e : g = i
          · subst e; exact ⟨c1, c2, c3⟩
          · exact w1 g (by omega) q2
        · rw [if_neg c3]; exact ⟨false, rfl, fun w => by cases w⟩
      · rw [if_neg c2]; exact ⟨false, rfl, fun w => by cases w⟩
    · rw [if_neg c1]; exact ⟨false, rfl, fun w => by cases w⟩
/-- what the search holds once it has run -/
def Fnd (σ : Hp) (k : Nat) : OP → Prop
  | none => σ 86 6 = 0
  | some p => σ 86 6 = 1 ∧ σ 86 5 = nI p.1 ∧ ∀ i, i < k → ∃ v, p.2[i]? = some v ∧ σ 89 i = nI v
theorem Acc_fnd {σ : Hp} {k : Nat} {a : OP} (h : Acc σ k a) : Fnd σ k a := by
  cases a with
  | none => exact h.1
  | some p => exact h.2
theorem m_Fnd {σ : Hp} {k : Nat} {a : OP} (h : (match a with
  | none => σ 86 6 = 0
  | some p => σ 86 6 = 1 ∧ σ 86 5 = nI p.1 ∧ ∀ i, i < k → ∃ v, p.2[i]? = some v ∧ σ 89 i = nI v)) : Fnd σ k a := by
  cases a with
  | none => exact h
  | some p => exact h
def FrV (σ σ' : Hp) : Prop := ∀ a j, (a < 86 ∨ a = 87 ∨ 114 < a) → σ' a j = σ a j
theorem run22_ok {σ : Hp} {n beds lim k : Nat} {tw : Nat → Option Nat} {t s d : Nat → Nat} {nod ill : Nat → Bool} (hn4 : n ≤ 4) (hk1 : 1 ≤ k) (hk : k ≤ 4) (hc : CV σ 11 n tw) (h2 : σ 11 2 = nI beds) (hb5 : beds ≤ 5) (h3 : σ 11 3 = nI lim) (hl9 : lim < 100) (hr : RV σ 13 n t s d nod ill) (hb : BN n t s d) : ∃ σ', f_X5_run_22 13 σ (nI k) = some ((), σ') ∧ SrchK σ' n beds lim tw ∧ Fnd σ' k (bestF n beds lim tw ill k (t, s, d, nod)) ∧ FrV σ σ' := by
  have hn := hc.1
  obtain ⟨σ1, e1, e2, e3, e4⟩ := copy_ok (σ := wr (wr (wr σ 86 4 (nI k)) 86 6 0) 86 5 496) (o := 90) (q := 13) (by omega)
  have f1 : ∀ a j, (a < 90 ∨ 94 < a) → ¬ (a = 86 ∧ (j = 4 ∨ j = 5 ∨ j = 6)) → σ1 a j = σ a j := fun a j q1 q2 => (e4 a j (by omega) (by omega) (by omega) (by omega) (by omega)).trans ((wr_ne (by omega)).trans ((wr_ne (by omega)).trans (wr_ne (by omega))))
  have hr0 : RV (wr (wr (wr σ 86 4 (nI k)) 86 6 0) 86 5 496) 13 n t s d nod ill := RV_S hr (fun a j q1 q2 => (wr_ne (by omega)).trans ((wr_ne (by omega)).trans (wr_ne (by omega))))
  have hr1 : RV σ1 90 n t s d nod ill := RV_copy hn hr0 e2 e3
  have hA : Acc σ1 k none := ⟨by rw [e4 86 6 (by omega) (by omega) (by omega) (by omega) (by omega), wr_ne (by omega), wr_eq], by rw [e4 86 5 (by omega) (by omega) (by omega) (by omega) (by omega), wr_eq]; rfl⟩
  have hc1 : CV σ1 11 n tw := CV_S hc (fun a j q => f1 a j (by omega) (by omega))
  have all : ∀ (t s d : Nat → Nat) (nod ill : Nat → Bool), BN n t s d → RV σ1 90 n t s d nod ill → ∃ σ', f_X5_seek_rec 6 σ1 (nI 0) (nI k) = some ((), σ') ∧ Acc σ' k (bestF n beds lim tw ill k (t, s, d, nod)) ∧ FrS 0 σ1 σ' := by
    intro t s d nod ill hb' hr'
    obtain ⟨σ', g1, g2, g3⟩ := seek_ok (beds := beds) (lim := lim) (tw := tw) (ill := ill) hn4 hb5 hl9 hk k 0 6 σ1 (t, s, d, nod) [] none (by omega) (by omega) hc1 ((f1 11 2 (by omega) (by omega)).trans h2) ((f1 11 3 (by omega) (by omega)).trans h3) hr' hb' hA ⟨rfl, fun j hj => absurd hj (Nat.not_lt_zero j)⟩
    rw [better_nl, pre_nil] at g2
    exact ⟨σ', g1, g2, g3⟩
  obtain ⟨σ2, g1, g2, g3⟩ := all t s d nod ill hb hr1
  refine ⟨σ2, ?_, ⟨k, hk, ?_, fun _ => ⟨hn4, fun t' s' d' nod' ill' q1 q2 => ?_⟩⟩, Acc_fnd g2, fun a j q => ?_⟩
  · simp only [f_X5_run_22, Lt]
    rw [show ck (0 : Int32) 5 = ck (nI 0) 5 from rfl, ck_ok _ (by decide) (by decide), show 90 + 5 * ix (0 : Int32) = 90 from rfl, bd_ok e1, bd_ok (show f_X5_seek_rec 6 σ1 (0 : Int32) (nI k) = _ from g1)]
  · rw [g3 86 4 (by omega), e4 86 4 (by omega) (by omega) (by omega) (by omega) (by omega), wr_ne (by omega), wr_ne (by omega), wr_eq]
  · obtain ⟨σ2', y1, y2, -⟩ := all t' s' d' nod' ill' q1 (RV_S q2 (fun a j w1 w2 => (g3 a j (by omega)).symm))
    rw [g1] at y1
    cases y1
    have y3 := Acc_fnd y2
    generalize bestF n beds lim tw ill' k (t', s', d', nod') = a at y3 ⊢
    cases a with
    | none => exact y3
    | some p => exact y3
  · exact (g3 a j (by omega)).trans (f1 a j (by omega) (by omega))
theorem run_ok {σ : Hp} {n beds lim k : Nat} {tw : Nat → Option Nat} {t s d : Nat → Nat} {nod ill : Nat → Bool} (hn4 : n ≤ 4) (hk1 : 1 ≤ k) (hk : k ≤ 4) (hc : CV σ 11 n tw) (h2 : σ 11 2 = nI beds) (hb5 : beds ≤ 5) (h3 : σ 11 3 = nI lim) (hl9 : lim < 100) (hr : RV σ 13 n t s d nod ill) (hb : BN n t s d) (hS : SrchK σ n beds lim tw) : ∃ σ', f_X5_run σ 13 (nI k) = some ((), σ') ∧ SrchK σ' n beds lim tw ∧ Fnd σ' k (bestF n beds lim tw ill k (t, s, d, nod)) ∧ FrV σ σ' := by
  have hn := hc.1
  have hS' := hS
  obtain ⟨k', w1, w2, w3⟩ := hS
  have anew := run22_ok (k := k) hn4 hk1 hk hc h2 hb5 h3 hl9 hr hb
  simp only [f_X5_run]
  rw [w2]
  by_cases c : k' = k
  · subst c
    rw [if_pos rfl, show ck (0 : Int32) 5 = ck (nI 0) 5 from rfl, ck_ok _ (by decide) (by decide), show 90 + 5 * ix (0 : Int32) = 90 from rfl]
    obtain ⟨b, e1, e2⟩ := like_loop hn hc.2.2.1 n 0 FU (by omega) (FU_big (by omega))
    rw [bd_ok (show f_X4_isLike σ 90 13 = _ from e1)]
    cases b with
    | false => rw [b2i_f, if_pos rfl]; exact anew
    | true =>
      rw [b2i_t, if_neg (by decide)]
      obtain ⟨v1, v2, v3⟩ := e2 rfl
      refine ⟨σ, rfl, hS', ?_, fun _ _ _ => rfl⟩
      refine m_Fnd ((w3 hk1).2 t s d nod ill hb ⟨fun g hg => ?_, v2.trans hr.2.1, v3.trans hr.2.2⟩)
      obtain ⟨y1, y2, y3⟩ := v1 g (Nat.zero_le g) hg
      obtain ⟨z1, z2, z3⟩ := hr.1 g hg
      exact ⟨y1.trans z1, y2.trans z2, y3.trans z3⟩
  · rw [if_neg (fun w => c ((nI_eq (by omega) (by omega)).mp w))]
    exact anew
/-! the reference's search: every row of sets in its order -/
def ev (n beds lim : Nat) (tw : Nat → Option Nat) (ill : Nat → Bool) : Nat → Nat → RS → Option Nat
  | 0, _, x => some (tsum n x.1)
  | r + 1, R, x => if can n beds lim tw ill (R / 2 ^ (n * r) % 2 ^ n) x = true then ev n beds lim tw ill r R (stp n lim tw ill (R / 2 ^ (n * r) % 2 ^ n) x) else none
def dl (n : Nat) : Nat → Nat → List Nat
  | 0, _ => []
  | r + 1, R => (R / 2 ^ (n * r) % 2 ^ n) :: dl n r R
def row (n beds lim : Nat) (tw : Nat → Option Nat) (ill : Nat → Bool) (k : Nat) (x : RS) (R : Nat) : OP := (ev n beds lim tw ill k R x).map (fun v => (v, dl n k R))
theorem scanF_congr {F G : Nat → OP} : ∀ {N : Nat}, (∀ i, i < N → F i = G i) → scanF F N = scanF G N
  | 0, _ => rfl
  | N + 1, h => by rw [scanF, scanF, scanF_congr (fun i hi => h i (by omega)), h N (by omega)]
theorem scanF_add (F : Nat → OP) (a : Nat) : ∀ b, scanF F (a + b) = better (scanF F a) (scanF (fun i => F (a + i)) b)
  | 0 => by rw [Nat.add_zero, scanF, better_none]
  | b + 1 => by rw [← Nat.add_assoc, scanF, scanF_add F a b, better_assoc]; rfl
theorem scanF_blocks (F : Nat → OP) (L : Nat) : ∀ M, scanF F (M * L) = scanF (fun m => scanF (fun r => F (m * L + r)) L) M
  | 0 => by rw [Nat.zero_mul]; rfl
  | M + 1 => by rw [Nat.succ_mul, scanF_add, scanF_blocks F L M]; rfl
theorem scanF_map (F : Nat → OP) (m : Nat) : ∀ N, scanF (fun r => (F r).map (fun p => (p.1, m :: p.2))) N = (scanF F N).map (fun p => (p.1, m :: p.2))
  | 0 => rfl
  | N + 1 => by
    rw [scanF, scanF, scanF_map F m N]
    cases scanF F N with
    | none => rfl
    | some a =>
      cases F N with
      | none => rfl
      | some b =>
        show better (some (a.1, m :: a.2)) (some (b.1, m :: b.2)) = (better (some a) (some b)).map _
        rw [better_ss, better_ss]
        by_cases h : b.1 < a.1
        · rw [if_pos h, if_pos h]; rfl
        · rw [if_neg h, if_neg h]; rfl
theorem scanF_none : ∀ N, scanF (fun _ => (none : OP)) N = none
  | 0 => rfl
  | N + 1 => by rw [scanF, scanF_none N]; rfl
theorem dig_hi {n r m q : Nat} (hm : m < 2 ^ n) (hq : q < 2 ^ (n * r)) : (m * 2 ^ (n * r) + q) / 2 ^ (n * r) % 2 ^ n = m := by
  rw [Nat.mul_comm, Nat.mul_add_div (Nat.pow_pos (by decide)), Nat.div_eq_of_lt hq, Nat.add_zero, Nat.mod_eq_of_lt hm]
theorem dig_lo {n r j m q : Nat} (h : j < r) : (m * 2 ^ (n * r) + q) / 2 ^ (n * j) % 2 ^ n = q / 2 ^ (n * j) % 2 ^ n := by
  have e : m * 2 ^ (n * r) = 2 ^ (n * j) * (2 ^ n * (m * 2 ^ (n * (r - j - 1)))) := by
    have e1 : n * r = n * j + (n + n * (r - j - 1)) := by
      have e0 : r = j + (1 + (r - j - 1)) := by omega
      have e2 : n * (j + (1 + (r - j - 1))) = n * j + (n + n * (r - j - 1)) := by rw [Nat.mul_add, Nat.mul_add, Nat.mul_one]
      rw [← e2, ← e0]
    rw [e1, Nat.pow_add, Nat.pow_add]
    simp only [Nat.mul_comm, Nat.mul_left_comm]
  rw [e, Nat.mul_add_div (Nat.pow_pos (by decide)), Nat.mul_add_mod]
theorem ev_lo {n beds lim : Nat} {tw : Nat → Option Nat} {ill : Nat → Bool} {r m q : Nat} : ∀ (j : Nat) (x : RS), j ≤ r → ev n beds lim tw ill j (m * 2 ^ (n * r) + q) x = ev n beds lim tw ill j q x
  | 0, _, _ => rfl
  | j + 1, x, h => by
    rw [ev, ev, dig_lo (show j < r by omega)]
    by_cases c : can n beds lim tw ill (q / 2 ^ (n * j) % 2 ^ n) x = true
    · rw [if_pos c, if_pos c, ev_lo j _ (by omega)]
    · rw [if_neg c, if_neg c]
theorem dl_lo {n r m q : Nat} : ∀ j, j ≤ r → dl n j (m * 2 ^ (n * r) + q) = dl n j q
  | 0, _ => rfl
  | j + 1, h => by rw [dl, dl, dig_lo (show j < r by omega), dl_lo j (by omega)]
theorem rows_best {n beds lim : Nat} {tw : Nat → Option Nat} {ill : Nat → Bool} : ∀ (r : Nat) (x : RS), scanF (row n beds lim tw ill r x) (2 ^ (n * r)) = bestF n beds lim tw ill r x
  | 0, x => by
    rw [Nat.mul_zero, Nat.pow_zero]; rfl
  | r + 1, x => by
    rw [show n * (r + 1) = n + n * r from (Nat.mul_succ n r).trans (Nat.add_comm _ _), Nat.pow_add, scanF_blocks, bestF]
    refine scanF_congr (fun m hm => ?_)
    by_cases c : can n beds lim tw ill m x = true
    · rw [if_pos c, ← rows_best r, ← scanF_map]
      refine scanF_congr (fun q hq => ?_)
      unfold row
      rw [ev, dl, dig_hi hm hq, if_pos c, ev_lo r _ (Nat.le_refl _), dl_lo r (Nat.le_refl _)]
      cases ev n beds lim tw ill r q (stp n lim tw ill m x) <;> rfl
    · rw [if_neg c]
      refine (scanF_congr (G := fun _ => none) (fun q hq => ?_)).trans (scanF_none _)
      unfold row
      rw [ev, dig_hi hm hq, if_neg c]
      rfl
