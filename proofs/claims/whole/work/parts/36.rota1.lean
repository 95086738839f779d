abbrev OP : Type := Option (Nat × List Nat)
theorem better_none (a : OP) : better a none = a := by cases a <;> rfl
theorem better_nl (a : OP) : better none a = a := rfl
theorem better_ss (a b : Nat × List Nat) : better (some a) (some b) = if b.1 < a.1 then some b else some a := rfl
theorem better_assoc (a b c : OP) : better (better a b) c = better a (better b c) := by
  cases a with
  | none => rfl
  | some a =>
    cases b with
    | none => rfl
    | some b =>
      cases c with
      | none => rw [better_none, better_none]
      | some c =>
        rw [better_ss, better_ss]
        by_cases h1 : b.1 < a.1
        · rw [if_pos h1, better_ss]
          by_cases h2 : c.1 < b.1
          · rw [if_pos h2, better_ss, if_pos (by omega)]
          · rw [if_neg h2, better_ss, if_pos h1]
        · rw [if_neg h1, better_ss]
          by_cases h2 : c.1 < b.1
          · rw [if_pos h2, better_ss]
          · rw [if_neg h2, better_ss, if_neg h1, if_neg (by omega)]
def pre (pl : List Nat) (a : OP) : OP := a.map (fun p => (p.1, pl ++ p.2))
theorem pre_none (pl : List Nat) : pre pl none = none := rfl
theorem pre_nil (a : OP) : pre [] a = a := by
  cases a with
  | none => rfl
  | some p => rfl
theorem pre_better (pl : List Nat) (a b : OP) : pre pl (better a b) = better (pre pl a) (pre pl b) := by
  cases a with
  | none => rfl
  | some a =>
    cases b with
    | none => rfl
    | some b =>
      show (better (some a) (some b)).map _ = better (some (a.1, pl ++ a.2)) (some (b.1, pl ++ b.2))
      rw [better_ss, better_ss]
      by_cases h : b.1 < a.1
      · rw [if_pos h, if_pos h]; rfl
      · rw [if_neg h, if_neg h]; rfl
theorem pre_cons (pl : List Nat) (m : Nat) (a : OP) : pre pl (a.map (fun p => (p.1, m :: p.2))) = pre (pl ++ [m]) a := by
  cases a with
  | none => rfl
  | some p =>
    show some (p.1, pl ++ (m :: p.2)) = some (p.1, (pl ++ [m]) ++ p.2)
    rw [List.append_assoc]; rfl
/-! how low it can end -/
def lbs (r : Nat) : Nat → (Nat → Nat) → Nat
  | 0, _ => 0
  | n + 1, t => lbs r n t + (t n - 4 * r)
theorem lbs_0 (t : Nat → Nat) : ∀ n, lbs 0 n t = tsum n t
  | 0 => rfl
  | n + 1 => by rw [lbs, tsum, lbs_0 t n]; omega
theorem lbs_mono {r r' : Nat} {t t' : Nat → Nat} : ∀ n, (∀ g, g < n → t g - 4 * r ≤ t' g - 4 * r') → lbs r n t ≤ lbs r' n t'
  | 0, _ => Nat.le_refl _
  | n + 1, h => by
    rw [lbs, lbs]
    have h1 := lbs_mono n (fun g hg => h g (by omega))
    have h2 := h n (by omega)
    omega
theorem scanF_lb {F : Nat → OP} {c : Nat} (h : ∀ i p, F i = some p → c ≤ p.1) : ∀ (N : Nat) (p : Nat × List Nat), scanF F N = some p → c ≤ p.1
  | 0, p, w => by cases w
  | N + 1, p, w => by
    rw [scanF] at w
    have ih := scanF_lb h N
    cases e1 : scanF F N with
    | none => rw [e1, better_nl] at w; exact h N p w
    | some a =>
      rw [e1] at w
      cases e2 : F N with
      | none => rw [e2, better_none] at w; exact ih p (e1.trans w)
      | some b =>
        rw [e2, better_ss] at w
        by_cases q : b.1 < a.1
        · rw [if_pos q] at w; exact h N p (e2.trans w)
        · rw [if_neg q] at w; exact ih p (e1.trans w)
theorem can_ok {n beds lim : Nat} {tw : Nat → Option Nat} {ill : Nat → Bool} {m : Nat} {x : RS} (h : can n beds lim tw ill m x = true) : mayB n beds tw x.2.1 x.2.2.1 m ill = true ∧ mk n (aw lim m x.1 x.2.2.2) ≠ 0 := by
  unfold can at h
  rw [Bool.and_eq_true, decide_eq_true_eq] at h
  exact h
theorem BN_stp {n beds lim : Nat} {tw : Nat → Option Nat} {ill : Nat → Bool} {m : Nat} {x : RS} (hb : BN n x.1 x.2.1 x.2.2.1) (h : mayB n beds tw x.2.1 x.2.2.1 m ill = true) : BN n (stp n lim tw ill m x).1 (stp n lim tw ill m x).2.1 (stp n lim tw ill m x).2.2.1 := BN_pass (lim := lim) (nod := x.2.2.2) hb (may_ok h)
theorem bestF_lb {n beds lim : Nat} {tw : Nat → Option Nat} {ill : Nat → Bool} : ∀ (r : Nat) (x : RS) (p : Nat × List Nat), BN n x.1 x.2.1 x.2.2.1 → bestF n beds lim tw ill r x = some p → lbs r n x.1 ≤ p.1
  | 0, x, p, _, w => by
    rw [bestF] at w
    cases w
    rw [lbs_0]; exact Nat.le_refl _
  | r + 1, x, p, hb, w => by
    rw [bestF] at w
    refine scanF_lb (fun m p' w' => ?_) _ p w
    by_cases c : can n beds lim tw ill m x = true
    · rw [if_pos c] at w'
      cases e : bestF n beds lim tw ill r (stp n lim tw ill m x) with
      | none => rw [e] at w'; cases w'
      | some p2 =>
        rw [e] at w'
        cases w'
        have h1 := bestF_lb r _ p2 (BN_stp hb (can_ok c).1) e
        refine Nat.le_trans (lbs_mono n (fun g hg => ?_)) h1
        show x.1 g - 4 * (r + 1) ≤ t1 m x.1 x.2.2.2 g - 4 * r
        have := (hb g hg).1
        unfold t1
        split
        · omega
        · split
          · omega
          · omega
    · rw [if_neg c] at w'; cases w'
theorem a_lb : ∀ t, t < 100 → ∀ r, r < 5 → (if (0 : Int32) < nI t - (4 : Int32) * nI r then nI t - (4 : Int32) * nI r else 0) = nI (t - 4 * r) := by decide +kernel
theorem lb_loop {σ : Hp} {o n r : Nat} {t : Nat → Nat} (hn : n ≤ 5) (hr : r < 5) (hc : σ (chO o) 1 = nI n) (ht : ∀ g, g < n → σ (o + 1) g = nI (t g)) (hb : ∀ g, g < n → t g ≤ 99) : ∀ (k i fuel : Nat), i + k = n → k < fuel → f_X4_leastTiredBehind_4 o fuel σ (nI r) (nI (lbs r i t)) (nI i) = some (nI (lbs r n t), σ) := by
  intro k
  induction k with
  | zero =>
    intro i fuel hi hf
    obtain ⟨f, rfl⟩ : ∃ f, fuel = f + 1 := ⟨fuel - 1, by omega⟩
    have hin : i = n := by omega
    subst hin
    simp only [f_X4_leastTiredBehind_4]
    rw [hc, if_pos (nI_le (Nat.le_refl _) (by omega))]
  | succ k ih =>
    intro i fuel hi hf
    obtain ⟨f, rfl⟩ : ∃ f, fuel = f + 1 := ⟨fuel - 1, by omega⟩
    have hin : i < n := by omega
    have := hb i hin
    simp only [f_X4_leastTiredBehind_4, Lt]
    rw [hc, if_neg (nI_ge hin (by omega)), ck_ok _ (by omega) (by decide), ix_nI (by omega), ht i hin, a_lb (t i) (by omega) r hr, nI_add, ni_add1]
    exact ih (i + 1) f (by omega) (by omega)
theorem lbs_le {r : Nat} {t : Nat → Nat} : ∀ n, (∀ g, g < n → t g ≤ 99) → lbs r n t ≤ n * 99
  | 0, _ => Nat.le_refl _
  | n + 1, h => by
    have h1 := lbs_le (r := r) n (fun g hg => h g (by omega))
    have h2 := h n (by omega)
    rw [lbs]; omega
/-! the class's search -/
def Acc (σ : Hp) (k : Nat) : OP → Prop
  | none => σ 86 6 = 0 ∧ σ 86 5 = nI 496
  | some p => p.1 < 496 ∧ σ 86 6 = 1 ∧ σ 86 5 = nI p.1 ∧ ∀ i, i < k → ∃ v, p.2[i]? = some v ∧ σ 89 i = nI v
theorem Acc_fr {σ σ' : Hp} {k : Nat} {a : OP} (h : Acc σ k a) (h1 : ∀ i, σ' 86 i = σ 86 i) (h2 : ∀ i, σ' 89 i = σ 89 i) : Acc σ' k a := by
  cases a with
  | none => exact ⟨by rw [h1]; exact h.1, by rw [h1]; exact h.2⟩
  | some p => exact ⟨h.1, by rw [h1]; exact h.2.1, by rw [h1]; exact h.2.2.1, fun i hi => by
      obtain ⟨v, w1, w2⟩ := h.2.2.2 i hi
      exact ⟨v, w1, by rw [h2]; exact w2⟩⟩
def lea : OP → Nat
  | none => 496
  | some p => p.1
theorem Acc_lea {σ : Hp} {k : Nat} {a : OP} (h : Acc σ k a) : σ 86 5 = nI (lea a) ∧ lea a ≤ 496 := by
  cases a with
  | none => exact ⟨h.2, Nat.le_refl _⟩
  | some p => exact ⟨h.2.2.1, Nat.le_of_lt h.1⟩
def FrS (i : Nat) (σ σ' : Hp) : Prop := ∀ a j, (a < 86 ∨ a = 87 ∨ 114 < a ∨ (90 ≤ a ∧ a < 95 + 5 * i) ∨ (a = 88 ∧ j < i) ∨ (a = 86 ∧ j ≠ 5 ∧ j ≠ 6)) → σ' a j = σ a j
theorem FrS_trans {i : Nat} {σ σ1 σ2 : Hp} (h1 : FrS i σ σ1) (h2 : FrS i σ1 σ2) : FrS i σ σ2 := fun a j q => (h2 a j q).trans (h1 a j q)
theorem FrS_up {i : Nat} {σ σ1 : Hp} (h : FrS (i + 1) σ σ1) : FrS i σ σ1 := fun a j q => h a j (by omega)
theorem rP_9 {i : Nat} (hi : i ≤ 4) : rollP (90 + 5 * i) := by
  rcases (show i = 0 ∨ i = 1 ∨ i = 2 ∨ i = 3 ∨ i = 4 by omega) with rfl | rfl | rfl | rfl | rfl <;> (unfold rollP; decide)
theorem ch_9 (i : Nat) : chO (90 + 5 * i) = 11 := by
  unfold chO; rw [if_neg (by omega)]
def Pfx (σ : Hp) (pl : List Nat) (i : Nat) : Prop := pl.length = i ∧ ∀ j, j < i → ∃ w, pl[j]? = some w ∧ σ 88 j = nI w
theorem CV_S {σ σ' : Hp} {n : Nat} {tw : Nat → Option Nat} (h : CV σ 11 n tw) (f : ∀ a j, a = 11 ∨ a = 12 → σ' a j = σ a j) : CV σ' 11 n tw := ⟨h.1, h.2.1, by rw [f _ _ (by omega)]; exact h.2.2.1, fun g hg => by rw [f _ _ (by omega)]; exact h.2.2.2 g hg⟩
theorem RV_S {σ σ' : Hp} {o n : Nat} {t s d : Nat → Nat} {nod ill : Nat → Bool} (h : RV σ o n t s d nod ill) (f : ∀ a j, o ≤ a → a ≤ o + 3 → σ' a j = σ a j) : RV σ' o n t s d nod ill := ⟨fun g hg => by rw [f _ _ (by omega) (by omega), f _ _ (by omega) (by omega), f _ _ (by omega) (by omega)]; exact h.1 g hg, by rw [f _ _ (by omega) (by omega)]; exact h.2.1, by rw [f _ _ (by omega) (by omega)]; exact h.2.2⟩
theorem seek_ok {n beds lim k : Nat} {tw : Nat → Option Nat} {ill : Nat → Bool} (hn4 : n ≤ 4) (hb5 : beds ≤ 5) (hl9 : lim < 100) (hk : k ≤ 4) : ∀ (r i fuel : Nat) (σ : Hp) (x : RS) (pl : List Nat) (a : OP), i + r = k → r < fuel → CV σ 11 n tw → σ 11 2 = nI beds → σ 11 3 = nI lim → RV σ (90 + 5 * i) n x.1 x.2.1 x.2.2.1 x.2.2.2 ill → BN n x.1 x.2.1 x.2.2.1 → Acc σ k a → Pfx σ pl i → ∃ σ', f_X5_seek_rec fuel σ (nI i) (nI k) = some ((), σ') ∧ Acc σ' k (better a (pre pl (bestF n beds lim tw ill r x))) ∧ FrS i σ σ' := by
  intro r
  induction r with
  | zero =>
    intro i fuel σ x pl a hi hf hc hbd hl hr hb hA hP
    obtain ⟨f, rfl⟩ : ∃ f, fuel = f + 1 := ⟨fuel - 1, by omega⟩
    have hik : i = k := by omega
    subst hik
    have hlb : f_X4_leastTiredBehind σ (90 + 5 * i) (nI 0) = some (nI (lbs 0 n x.1), σ) := lb_loop hc.1 (by omega) (by rw [ch_9]; exact hc.2.2.1) (fun g hg => (hr.1 g hg).1) (fun g hg => (hb g hg).1) n 0 FU (by omega) (FU_big (by omega))
    have hle : lbs 0 n x.1 ≤ n * 99 := lbs_le n (fun g hg => (hb g hg).1)
    obtain ⟨q1, q2⟩ := Acc_lea hA
    simp only [f_X5_seek_rec, f_X5_seek, f_X5_seek_36, Lt]
    rw [ck_ok _ (show i < 5 by omega) (by decide), ix_nI (by omega), pk_sub (Nat.le_refl i), Nat.sub_self, bd_ok hlb, q1]
    have hbe : bestF n beds lim tw ill 0 x = some (tsum n x.1, []) := rfl
    rw [hbe]
    have hpre : pre pl (some (tsum n x.1, [])) = some (tsum n x.1, pl) := by
      show some (tsum n x.1, pl ++ []) = _
      rw [List.append_nil]
    rw [hpre]
    have hle' := hle
    rw [lbs_0] at hle'
    by_cases c : lbs 0 n x.1 < lea a
    · rw [if_pos (nI_lt c (by omega)), if_pos (show nI 0 ≤ (0 : Int32) by decide)]
      rw [lbs_0] at c
      have e2 : f_X4_tiredOfAll (wr σ 86 6 1) (90 + 5 * i) = some (nI (tsum n x.1), wr σ 86 6 1) := tired_ok hc.1 (by rw [ch_9, wr_ne (by omega)]; exact hc.2.2.1) (fun g hg => by rw [wr_ne (by omega)]; exact (hr.1 g hg).1)
      rw [bd_ok e2]
      have hbet : better a (some (tsum n x.1, pl)) = some (tsum n x.1, pl) := by
        cases a with
        | none => rfl
        | some p => rw [better_ss, if_pos (show tsum n x.1 < p.1 from c)]
      rw [hbet]
      refine ⟨_, rfl, ⟨by show tsum n x.1 < 496; omega, ?_, ?_, fun j hj => ?_⟩, fun b j q => ?_⟩
      · rw [va_up_ne _ _ (by omega), wr_ne (by omega), wr_eq]
      · rw [va_up_ne _ _ (by omega), wr_eq]
      · obtain ⟨w, w1, w2⟩ := hP.2 j hj
        refine ⟨w, w1, ?_⟩
        rw [va_up_self, pk_cpy_in (by omega) (by omega), show 0 + (j - 0) = j by omega, wr_ne (by omega), wr_ne (by omega)]
        exact w2
      · rw [va_up_ne _ _ (by omega), wr_ne (by omega), wr_ne (by omega)]
    · rw [if_neg (nI_nlt (by omega) (by omega))]
      rw [lbs_0] at c
      have hbet : better a (some (tsum n x.1, pl)) = a := by
        cases a with
        | none => exact absurd (show tsum n x.1 < 496 by omega) c
        | some p => rw [better_ss, if_neg (show ¬ tsum n x.1 < p.1 from c)]
      rw [hbet]
      exact ⟨σ, rfl, hA, fun _ _ _ => rfl⟩
  | succ r ih =>
    intro i fuel σ x pl a hi hf hc hbd hl hr hb hA hP
    obtain ⟨f, rfl⟩ : ∃ f, fuel = f + 1 := ⟨fuel - 1, by omega⟩
    have hn := hc.1
    have h25 : 2 ^ n ≤ 2 ^ 5 := Nat.pow_le_pow_right (by decide) hn
    have hpos : 0 < 2 ^ n := Nat.pow_pos (by decide)
    have hlb : f_X4_leastTiredBehind σ (90 + 5 * i) (nI (r + 1)) = some (nI (lbs (r + 1) n x.1), σ) := lb_loop hn (by omega) (by rw [ch_9]; exact hc.2.2.1) (fun g hg => (hr.1 g hg).1) (fun g hg => (hb g hg).1) n 0 FU (by omega) (FU_big (by omega))
    have hle : lbs (r + 1) n x.1 ≤ n * 99 := lbs_le n (fun g hg => (hb g hg).1)
    obtain ⟨q1, q2⟩ := Acc_lea hA
    simp only [f_X5_seek_rec, f_X5_seek, f_X5_seek_36, Lt]
    rw [ck_ok _ (show i < 5 by omega) (by decide), ix_nI (by omega), pk_sub (show i ≤ k by omega), show k - i = r + 1 by omega, bd_ok hlb, q1]
    by_cases c : lbs (r + 1) n x.1 < lea a
    · rw [if_pos (nI_lt c (by omega)), if_neg (show ¬ nI (r + 1) ≤ (0 : Int32) from nI_nle (by omega) (by omega)), if_pos (show nI i < (4 : Int32) from nI_lt (b := 4) (by omega) (by decide)), ni_add1, ck_ok _ (show i + 1 < 5 by omega) (by decide), ix_nI (by omega), bd_ok (everyone_ok hn hc.2.2.1)]
      have loop : ∀ (cc m fuel : Nat) (σ1 : Hp), m + cc = 2 ^ n → cc < fuel → FrS i σ σ1 → Acc σ1 k (better a (pre pl (scanF (fun m => if can n beds lim tw ill m x = true then (bestF n beds lim tw ill r (stp n lim tw ill m x)).map (fun p => (p.1, m :: p.2)) else none) m))) → ∃ σ', f_X5_seek_86 (f_X5_seek_rec f) fuel σ1 (nI i) (nI k) (90 + 5 * i) (90 + 5 * (i + 1)) (nI (2 ^ n - 1)) (nI m) = some ((), σ') ∧ Acc σ' k (better a (pre pl (bestF n beds lim tw ill (r + 1) x))) ∧ FrS i σ σ' := by
        intro cc
        induction cc with
        | zero =>
          intro m fuel σ1 hm hfu hfr hA1
          obtain ⟨fu, rfl⟩ : ∃ fu, fuel = fu + 1 := ⟨fuel - 1, by omega⟩
          have : m = 2 ^ n := by omega
          subst this
          simp only [f_X5_seek_86]
          rw [if_pos (nI_lt (by omega) (by omega))]
          exact ⟨σ1, rfl, hA1, hfr⟩
        | succ cc ihc =>
          intro m fuel σ1 hm hfu hfr hA1
          obtain ⟨fu, rfl⟩ : ∃ fu, fuel = fu + 1 := ⟨fuel - 1, by omega⟩
          have hm2 : m < 2 ^ n := by omega
          have hc1 : CV σ1 11 n tw := CV_S hc (fun a j q => hfr a j (by omega))
          have hbd1 : σ1 11 2 = nI beds := (hfr 11 2 (by omega)).trans hbd
          have hl1 : σ1 11 3 = nI lim := (hfr 11 3 (by omega)).trans hl
          have hr1 : RV σ1 (90 + 5 * i) n x.1 x.2.1 x.2.2.1 x.2.2.2 ill := RV_S hr (fun a j q1 q2 => hfr a j (by omega))
          have skip : can n beds lim tw ill m x = false → ∀ σ2 : Hp, FrS i σ1 σ2 → (∀ j, σ2 86 j = σ1 86 j) → (∀ j, σ2 89 j = σ1 89 j) → ∃ σ', f_X5_seek_134 (f_X5_seek_rec f) (f_X5_seek_86 (f_X5_seek_rec f) fu) σ2 (nI i) (nI k) (90 + 5 * i) (90 + 5 * (i + 1)) (nI (2 ^ n - 1)) (nI m) = some ((), σ') ∧ Acc σ' k (better a (pre pl (bestF n beds lim tw ill (r + 1) x))) ∧ FrS i σ σ' := by
            intro hcan σ2 h1 h2 h3
            simp only [f_X5_seek_134, Lt]
            rw [ni_add1]
            refine ihc (m + 1) fu σ2 (by omega) (by omega) (FrS_trans hfr h1) ?_
            rw [scanF, if_neg (by rw [hcan]; decide), better_none]
            exact Acc_fr hA1 h2 h3
          have hal := allows_ok (o := 90 + 5 * i) (by rw [ch_9]; exact hc1) (by rw [ch_9]; exact hbd1) hb5 hr1 hb hm2
          simp only [f_X5_seek_86, Lt]
          rw [if_neg (nI_nlt (show m ≤ 2 ^ n - 1 by omega) (by omega)), bd_ok hal]
          by_cases hmay : mayB n beds tw x.2.1 x.2.2.1 m ill = true
          · rw [if_pos hmay, if_neg (by decide)]
            obtain ⟨σ2, c1, c2, c3, c4⟩ := copy_ok (σ := σ1) (o := 90 + 5 * (i + 1)) (q := 90 + 5 * i) (by omega)
            rw [bd_ok c1]
            have f2 : ∀ a j, a < 90 + 5 * (i + 1) ∨ 94 + 5 * (i + 1) < a → σ2 a j = σ1 a j := fun a j q => c4 a j (by omega) (by omega) (by omega) (by omega) (by omega)
            have hr2 := RV_copy hn hr1 c2 c3
            have hc2 : CV σ2 (chO (90 + 5 * (i + 1))) n tw := by rw [ch_9]; exact CV_S hc1 (fun a j q => f2 a j (by omega))
            obtain ⟨σ3, p1, p2, p3, -⟩ := pass_ok (rP_9 (show i + 1 ≤ 4 by omega)) hc2 (by rw [ch_9]; exact (f2 11 3 (by omega)).trans hl1) hl9 hr2 hb hm2 (may_ok hmay)
            rw [bd_ok p1]
            have f3 : ∀ a j, a < 90 + 5 * (i + 1) ∨ 94 + 5 * (i + 1) < a → σ3 a j = σ1 a j := fun a j q => (p3 a j (by omega) (by omega) (by omega) (by omega) (by omega)).trans (f2 a j q)
            have hmk := mk_lt32 hn (aw lim m x.1 x.2.2.2)
            have fS : FrS i σ1 σ3 := fun a j q => f3 a j (by omega)
            by_cases haw : mk n (aw lim m x.1 x.2.2.2) = 0
            · rw [if_pos (by rw [haw]; rfl)]
              refine skip (by unfold can; rw [hmay, Bool.true_and]; exact decide_eq_false (fun w => w haw)) σ3 fS (fun j => f3 86 j (by omega)) (fun j => f3 89 j (by omega))
            · rw [if_neg (nI_ne0 (by omega) (by omega)), ck_ok _ (show i < 4 by omega) (by decide), ix_nI (by omega), ni_add1]
              have hcan : can n beds lim tw ill m x = true := by unfold can; rw [hmay, Bool.true_and]; exact decide_eq_true haw
              have hA4 : Acc (wr σ3 88 i (nI m)) k (better a (pre pl (scanF (fun m => if can n beds lim tw ill m x = true then (bestF n beds lim tw ill r (stp n lim tw ill m x)).map (fun p => (p.1, m :: p.2)) else none) m))) := Acc_fr hA1 (fun j => (wr_ne (by omega)).trans (f3 86 j (by omega))) (fun j => (wr_ne (by omega)).trans (f3 89 j (by omega)))
              obtain ⟨σ5, s1, s2, s3⟩ := ih (i + 1) f (wr σ3 88 i (nI m)) (stp n lim tw ill m x) (pl ++ [m]) _ (by omega) (by omega) (CV_S hc1 (fun a j q => (wr_ne (by omega)).trans (f3 a j (by omega)))) ((wr_ne (by omega)).trans ((f3 11 2 (by omega)).trans hbd1)) ((wr_ne (by omega)).trans ((f3 11 3 (by omega)).trans hl1)) (RV_S p2 (fun a j q1 q2 => wr_ne (by omega))) (BN_stp hb hmay) hA4 ⟨by rw [List.length_append, hP.1]; rfl, fun j hj => by
                by_cases e : j = i
                · refine ⟨m, ?_, by rw [e, wr_eq]⟩
                  rw [e, ← hP.1, List.getElem?_append_right (Nat.le_refl _), Nat.sub_self]; rfl
                · obtain ⟨w, w1, w2⟩ := hP.2 j (by omega)
                  refine ⟨w, ?_, ?_⟩
                  · rw [List.getElem?_append_left (by rw [hP.1]; omega)]; exact w1
                  · rw [wr_ne (by omega), f3 88 j (by omega), hfr 88 j (by omega)]; exact w2⟩
              rw [bd_ok s1]
              simp only [f_X5_seek_134, Lt]
              rw [ni_add1]
              have fS5 : FrS i σ1 σ5 := fun a j q => (s3 a j (by omega)).trans ((wr_ne (by omega)).trans (f3 a j (by omega)))
              refine ihc (m + 1) fu σ5 (by omega) (by omega) (FrS_trans hfr fS5) ?_
              rw [scanF, if_pos hcan, pre_better, pre_cons, ← better_assoc]
              exact s2
          · have hmf : mayB n beds tw x.2.1 x.2.2.1 m ill = false := by simpa using hmay
            rw [if_neg hmay, if_pos rfl]
            exact skip (by unfold can; rw [hmf, Bool.false_and]) σ1 (fun _ _ _ => rfl) (fun _ => rfl) (fun _ => rfl)
      have hA0 : Acc σ k (better a (pre pl (scanF (fun m => if can n beds lim tw ill m x = true then (bestF n beds lim tw ill r (stp n lim tw ill m x)).map (fun p => (p.1, m :: p.2)) else none) 0))) := by
        rw [scanF, pre_none, better_none]; exact hA
      exact loop (2 ^ n) 0 FU σ (by omega) (FU_big (by omega)) (fun _ _ _ => rfl) hA0
    · rw [if_neg (nI_nlt (by omega) (by omega))]
      have hbet : better a (pre pl (bestF n beds lim tw ill (r + 1) x)) = a := by
        cases e : bestF n beds lim tw ill (r + 1) x with
        | none => rw [pre_none, better_none]
        | some p =>
          have h1 := bestF_lb (r + 1) x p hb e
          cases a with
          | none => exact absurd (show lbs (r + 1) n x.1 < 496 by omega) c
          | some p2 =>
            show better (some p2) (some (p.1, pl ++ p.2)) = _
            have c' : ¬ lbs (r + 1) n x.1 < p2.1 := c
            rw [better_ss, if_neg (by show ¬ p.1 < p2.1; omega)]
      rw [hbet]
      exact ⟨σ, rfl, hA, fun _ _ _ => rfl⟩
