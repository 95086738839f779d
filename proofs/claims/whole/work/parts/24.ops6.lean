/-! settled -/
def ownS (s d : Nat → Nat) (g : Nat) : Nat := min (d g) (s g)
def lackS (s d : Nat → Nat) (g : Nat) : Nat := d g - min (d g) (s g)
def spr (s d : Nat → Nat) (k : Nat) : Nat := s k - d k
def helpS (tw : Nat → Option Nat) (s d : Nat → Nat) (g : Nat) : Nat := match tw g with
  | none => 0
  | some k => min (lackS s d g) (spr s d k)
def stillS (tw : Nat → Option Nat) (s d : Nat → Nat) (g : Nat) : Bool := decide (helpS tw s d g < lackS s d g)
theorem sp_ok : ∀ a, a < 10 → ∀ b, b < 10 → (if (0 : Int32) < nI a - nI b then nI a - nI b else 0) = nI (a - b) := by decide +kernel
theorem mn_ok {a b : Nat} (ha : a < 100) (hb : b < 100) : (if nI a < nI b then nI a else nI b) = nI (min a b) := by
  by_cases h : a < b
  · rw [if_pos (nI_lt h (by omega)), Nat.min_eq_left (by omega)]
  · rw [if_neg (nI_nlt (by omega) (by omega)), Nat.min_eq_right (by omega)]
theorem tsum_le {c : Nat} {f : Nat → Nat} : ∀ n, (∀ g, g < n → f g ≤ c) → tsum n f ≤ n * c
  | 0, _ => by simp [tsum]
  | n + 1, h => by
    have h1 := tsum_le n (fun g hg => h g (by omega))
    have h2 := h n (by omega)
    simp only [tsum]
    rw [Nat.succ_mul]
    omega
theorem spare_ok {σ : Hp} {n : Nat} {tw : Nat → Option Nat} {t s d : Nat → Nat} {nod ill : Nat → Bool} (hc : CV σ 11 n tw) (hr : RV σ 13 n t s d nod ill) (hb : BN n t s d) (g : Nat) : f_X4_spareOf σ 13 (twI (tw g)) = some (nI (match tw g with | none => 0 | some k => spr s d k), σ) := by
  have hn := hc.1
  simp only [f_X4_spareOf]
  cases hg : tw g with
  | none =>
    rw [twI_none, bd_ok (has2_out (c := chO 13) hc.2.2.1 (Or.inl (by decide))), if_pos rfl]
    rfl
  | some k =>
    obtain ⟨-, k2, -, -⟩ := hc.2.1 g k hg
    have e1 : σ 15 k = nI (s k) := (hr.1 k k2).2.1
    have e2 : σ 16 k = nI (d k) := (hr.1 k k2).2.2
    obtain ⟨-, q2, q3⟩ := hb k k2
    rw [twI_some, bd_ok (has2_in (c := chO 13) hn hc.2.2.1 k2), if_neg (by decide), ck_ok _ (by omega) (by decide), ck_ok _ (by omega) (by decide), ix_nI (by omega)]
    show some (if (0 : Int32) < σ 15 k - σ 16 k then σ 15 k - σ 16 k else 0, σ) = _
    rw [e1, e2, sp_ok (s k) (by omega) (d k) (by omega)]
    rfl
theorem settledC_loop {σ : Hp} {n : Nat} {tw : Nat → Option Nat} {t s d : Nat → Nat} {nod ill : Nat → Bool} (hc : CV σ 11 n tw) (hr : RV σ 13 n t s d nod ill) (hb : BN n t s d) (a1 : Int32) : ∀ (k i fuel : Nat), i + k = n → k < fuel → f_X8_settled_7 fuel σ a1 (nI (tsum i (fun g => ownS s d g + helpS tw s d g))) (nI (mk n (acc (stillS tw s d) i))) (nI i) = (if a1 = 0 then some (nI (tsum n (fun g => ownS s d g + helpS tw s d g)), σ) else some (nI (mk n (stillS tw s d)), σ)) := by
  have hn := hc.1
  intro k
  induction k with
  | zero =>
    intro i fuel hi hf
    obtain ⟨f, rfl⟩ : ∃ f, fuel = f + 1 := ⟨fuel - 1, by omega⟩
    have hin : i = n := by omega
    subst hin
    simp only [f_X8_settled_7]
    rw [hc.2.2.1, if_pos (nI_le (Nat.le_refl _) (by omega)), acc_n]
  | succ k ih =>
    intro i fuel hi hf
    obtain ⟨f, rfl⟩ : ∃ f, fuel = f + 1 := ⟨fuel - 1, by omega⟩
    have hin : i < n := by omega
    have hi5 : i < 5 := by omega
    have e1 : σ 15 i = nI (s i) := (hr.1 i hin).2.1
    have e2 : σ 16 i = nI (d i) := (hr.1 i hin).2.2
    have e3 : σ 12 i = twI (tw i) := hc.2.2.2 i hi5
    obtain ⟨-, q2, q3⟩ := hb i hin
    have step := ih (i + 1) f (by omega) (by omega)
    simp only [f_X8_settled_7, f_X8_settled_105, Lt]
    rw [hc.2.2.1, if_neg (nI_ge hin (by omega))]
    simp only [ck_ok _ hi5 (show 5 < 2 ^ 31 by decide), ix_nI (show i < 2 ^ 31 by omega)]
    rw [e1, e2, e3, mn_ok (by omega) (by omega), pk_sub (Nat.min_le_right (s i) (d i)), bd_ok (spare_ok hc hr hb i), ni_add1]
    have own : min (s i) (d i) = ownS s d i := Nat.min_comm _ _
    have lack : d i - min (s i) (d i) = lackS s d i := by unfold lackS; rw [Nat.min_comm]
    have hl9 : lackS s d i ≤ 9 := by unfold lackS; omega
    have hsp : (match tw i with | none => 0 | some k => spr s d k) < 100 := by
      cases hti : tw i with
      | none => exact (by decide : (0 : Nat) < 100)
      | some k =>
        obtain ⟨-, k2, -, -⟩ := hc.2.1 i k hti
        have := (hb k k2).2.1
        show spr s d k < 100
        unfold spr; omega
    rw [lack, own, mn_ok hsp (by omega)]
    have help : min (match tw i with | none => 0 | some k => spr s d k) (lackS s d i) = helpS tw s d i := by
      unfold helpS
      cases tw i with
      | none => simp
      | some k => exact Nat.min_comm _ _
    rw [help, nI_add, nI_add]
    have es : tsum (i + 1) (fun g => ownS s d g + helpS tw s d g) = tsum i (fun g => ownS s d g + helpS tw s d g) + (ownS s d i + helpS tw s d i) := rfl
    rw [es] at step
    have hh : helpS tw s d i ≤ lackS s d i := by rw [← help]; exact Nat.min_le_right _ _
    by_cases q : lackS s d i ≤ helpS tw s d i
    · rw [if_pos (nI_le q (by omega)), acc_f (show stillS tw s d i = false by unfold stillS; simp; omega)]
      exact step
    · rw [if_neg (nI_ge (by omega) (by omega)), acc_t hn hin (show stillS tw s d i = true by unfold stillS; simp; omega)]
      exact step
theorem settledM1 {σ0 : Hp} {n : Nat} {s d : Nat → Nat} (hn : n ≤ 5) (h4 : σ0 134 4 = nI n) (hb : ∀ g, g < n → s g ≤ 9 ∧ d g ≤ 9) (a1 : Int32) : ∀ (k i fuel : Nat) (σ : Hp), i + k = n → k < fuel → FrM σ0 σ → (∀ g, g < n → σ 155 g = nI (mix i s (spr s d) g) ∧ σ 156 g = nI (mix i d (lackS s d) g)) → ∃ σ', f_X9_settled_13 fuel σ a1 (nI (tsum i (ownS s d))) (nI i) = f_X9_settled_91 FU σ' a1 (nI (tsum n (ownS s d))) 0 0 ∧ FrM σ0 σ' ∧ ∀ g, g < n → σ' 155 g = nI (spr s d g) ∧ σ' 156 g = nI (lackS s d g) := by
  intro k
  induction k with
  | zero =>
    intro i fuel σ hi hf hfr hS
    obtain ⟨f, rfl⟩ : ∃ f, fuel = f + 1 := ⟨fuel - 1, by omega⟩
    have hin : i = n := by omega
    subst hin
    refine ⟨σ, ?_, hfr, fun g hg => ?_⟩
    · simp only [f_X9_settled_13]
      rw [hfr 134 4 (by decide) (by decide) (by decide) (by decide), h4, if_pos (nI_le (Nat.le_refl _) (by omega))]
    · have := hS g hg
      rw [mix_n hg, mix_n hg] at this
      exact this
  | succ k ih =>
    intro i fuel σ hi hf hfr hS
    obtain ⟨f, rfl⟩ : ∃ f, fuel = f + 1 := ⟨fuel - 1, by omega⟩
    have hin : i < n := by omega
    have hi5 : i < 5 := by omega
    obtain ⟨e1, e2⟩ := hS i hin
    rw [mix_at] at e1 e2
    obtain ⟨q2, q3⟩ := hb i hin
    have fin : ∀ s0 : Int32, s0 = nI (ownS s d i) → ∃ σ', f_X9_settled_51 (f_X9_settled_13 f) σ a1 (nI (tsum i (ownS s d))) (nI i) s0 = f_X9_settled_91 FU σ' a1 (nI (tsum n (ownS s d))) 0 0 ∧ FrM σ0 σ' ∧ ∀ g, g < n → σ' 155 g = nI (spr s d g) ∧ σ' 156 g = nI (lackS s d g) := by
      intro s0 hs0
      subst hs0
      simp only [f_X9_settled_51, Lt]
      simp only [ck_ok _ hi5 (show 5 < 2 ^ 31 by decide), ix_nI (show i < 2 ^ 31 by omega)]
      rw [e2, wr_ne (by omega), e1, pk_sub (show ownS s d i ≤ d i from Nat.min_le_left _ _), pk_sub (show ownS s d i ≤ s i from Nat.min_le_right _ _), nI_add, ni_add1]
      refine ih (i + 1) f _ (by omega) (by omega) (fun a j w1 w2 w3 w4 => ?_) (fun g hg => ?_)
      · rw [wr_ne (by omega), wr_ne (by omega)]; exact hfr a j w1 w2 w3 w4
      · obtain ⟨g1, g2⟩ := hS g hg
        rw [← mix_succ, ← mix_succ]
        by_cases e : g = i
        · subst e
          rw [wr_eq, wr_ne (by omega), wr_eq, va_up_self, va_up_self]
          refine ⟨?_, rfl⟩
          unfold ownS spr
          congr 1
          omega
        · rw [va_up_ne _ _ e, va_up_ne _ _ e, wr_ne (by omega), wr_ne (by omega), wr_ne (by omega), wr_ne (by omega)]
          exact ⟨g1, g2⟩
    simp only [f_X9_settled_13]
    rw [hfr 134 4 (by decide) (by decide) (by decide) (by decide), h4, if_neg (nI_ge hin (by omega))]
    simp only [ck_ok _ hi5 (show 5 < 2 ^ 31 by decide), ix_nI (show i < 2 ^ 31 by omega)]
    rw [e1, e2]
    by_cases q : s i ≤ d i
    · rw [if_pos (nI_le q (by omega))]
      exact fin _ (by unfold ownS; rw [Nat.min_eq_right q])
    · rw [if_neg (nI_ge (by omega) (by omega))]
      exact fin _ (by unfold ownS; rw [Nat.min_eq_left (by omega)])
def sprI (tw : Nat → Option Nat) (s d : Nat → Nat) (i k : Nat) : Nat := spr s d k - (match tw k with
  | none => 0
  | some g => if g < i then helpS tw s d g else 0)
def lackI (tw : Nat → Option Nat) (s d : Nat → Nat) (i g : Nat) : Nat := if g < i then lackS s d g - helpS tw s d g else lackS s d g
theorem settledM2 {σ0 : Hp} {n : Nat} {tw : Nat → Option Nat} {s d : Nat → Nat} (hn : n ≤ 5) (htw : TwOK n tw) (h4 : σ0 134 4 = nI n) (h41 : ∀ g, g < 5 → σ0 141 g = twI (tw g)) (hb : ∀ g, g < n → s g ≤ 9 ∧ d g ≤ 9) (a1 : Int32) (T : Nat) : ∀ (k i fuel : Nat) (σ : Hp), i + k = n → k < fuel → FrM σ0 σ → (∀ g, g < n → σ 155 g = nI (sprI tw s d i g) ∧ σ 156 g = nI (lackI tw s d i g)) → ∃ σ', f_X9_settled_91 fuel σ a1 (nI (T + tsum i (helpS tw s d))) (nI (mk n (acc (stillS tw s d) i))) (nI i) = (if a1 = 0 then some (nI (T + tsum n (helpS tw s d)), σ') else some (nI (mk n (stillS tw s d)), σ')) ∧ FrM σ0 σ' := by
  intro k
  induction k with
  | zero =>
    intro i fuel σ hi hf hfr hS
    obtain ⟨f, rfl⟩ : ∃ f, fuel = f + 1 := ⟨fuel - 1, by omega⟩
    have hin : i = n := by omega
    subst hin
    refine ⟨σ, ?_, hfr⟩
    simp only [f_X9_settled_91]
    rw [hfr 134 4 (by decide) (by decide) (by decide) (by decide), h4, if_pos (nI_le (Nat.le_refl _) (by omega)), acc_n]
  | succ k ih =>
    intro i fuel σ hi hf hfr hS
    obtain ⟨f, rfl⟩ : ∃ f, fuel = f + 1 := ⟨fuel - 1, by omega⟩
    have hin : i < n := by omega
    have hi5 : i < 5 := by omega
    have e2 : σ 156 i = nI (lackS s d i) := by
      have := (hS i hin).2
      rw [this]; simp [lackI]
    have hl9 : lackS s d i ≤ 9 := by have := hb i hin; unfold lackS; omega
    have hhl : helpS tw s d i ≤ lackS s d i := by
      unfold helpS
      cases tw i with
      | none => exact Nat.zero_le _
      | some k => exact Nat.min_le_left _ _
    have hlt2 : ∀ g, g < n → lackI tw s d (i + 1) g = if g = i then lackS s d i - helpS tw s d i else lackI tw s d i g := by
      intro g hg
      unfold lackI
      by_cases e : g = i
      · subst e; simp
      · have q : (g < i + 1) = (g < i) := propext (by omega)
        simp only [q, e, if_false]
    -- the end of a turn
    have tail : ∀ (σ1 : Hp), FrM σ0 σ1 → (∀ g, g < n → σ1 155 g = nI (sprI tw s d (i + 1) g) ∧ σ1 156 g = nI (lackI tw s d (i + 1) g)) → ∃ σ', f_X9_settled_190 (f_X9_settled_91 f) σ1 a1 (nI (T + tsum (i + 1) (helpS tw s d))) (nI (mk n (acc (stillS tw s d) i))) (nI i) = (if a1 = 0 then some (nI (T + tsum n (helpS tw s d)), σ') else some (nI (mk n (stillS tw s d)), σ')) ∧ FrM σ0 σ' := by
      intro σ1 hf1 hS1
      have e156 : σ1 156 i = nI (lackS s d i - helpS tw s d i) := by
        rw [(hS1 i hin).2, hlt2 i hin, if_pos rfl]
      simp only [f_X9_settled_190, f_X9_settled_209, Lt]
      rw [ck_ok _ hi5 (by decide), ix_nI (by omega), e156, ni_add1]
      by_cases q : helpS tw s d i < lackS s d i
      · rw [if_neg (nI_nle (by omega) (by omega)), acc_t hn hin (show stillS tw s d i = true by unfold stillS; simp [q])]
        exact ih (i + 1) f σ1 (by omega) (by omega) hf1 hS1
      · rw [if_pos (by rw [show lackS s d i - helpS tw s d i = 0 by omega]; decide), or_z (mk_lt32 hn _), acc_f (show stillS tw s d i = false by unfold stillS; simp; omega)]
        exact ih (i + 1) f σ1 (by omega) (by omega) hf1 hS1
    have hts : tsum (i + 1) (helpS tw s d) = tsum i (helpS tw s d) + helpS tw s d i := rfl
    -- nothing is given
    have none_ : helpS tw s d i = 0 → ∃ σ', f_X9_settled_190 (f_X9_settled_91 f) σ a1 (nI (T + tsum i (helpS tw s d))) (nI (mk n (acc (stillS tw s d) i))) (nI i) = (if a1 = 0 then some (nI (T + tsum n (helpS tw s d)), σ') else some (nI (mk n (stillS tw s d)), σ')) ∧ FrM σ0 σ' := by
      intro hz
      have := tail σ hfr (fun g hg => ?_)
      · rw [hts, hz, Nat.add_zero] at this
        exact this
      · obtain ⟨g1, g2⟩ := hS g hg
        refine ⟨?_, ?_⟩
        · rw [g1]
          congr 1
          unfold sprI
          cases htg : tw g with
          | none => rfl
          | some q =>
            by_cases e : q = i
            · subst e; simp [hz]
            · have w : (q < i + 1) = (q < i) := propext (by omega)
              simp only [w]
        · rw [g2, hlt2 g hg]
          by_cases e : g = i
          · subst e; simp [lackI, hz]
          · rw [if_neg e]
    simp only [f_X9_settled_91, Lt]
    rw [hfr 134 4 (by decide) (by decide) (by decide) (by decide), h4, if_neg (nI_ge hin (by omega))]
    simp only [ck_ok _ hi5 (show 5 < 2 ^ 31 by decide), ix_nI (show i < 2 ^ 31 by omega)]
    rw [hfr 141 i (by decide) (by decide) (by decide) (by decide), h41 i hi5]
    cases hti : tw i with
    | none =>
      rw [twI_none, if_pos rfl]
      simp only [f_X9_settled_154]
      rw [if_pos (by decide)]
      exact none_ (by unfold helpS; rw [hti])
    | some q =>
      obtain ⟨-, q2, q3, q4⟩ := htw i q hti
      have hq5 : q < 5 := by omega
      rw [twI_some, if_neg (m9_ne q hq5)]
      simp only [ck_ok _ hq5 (show 5 < 2 ^ 31 by decide), ix_nI (show q < 2 ^ 31 by omega)]
      have e1 : σ 155 q = nI (spr s d q) := by
        have := (hS q q2).1
        rw [this]
        congr 1
        unfold sprI
        rw [q4]
        simp
      have hs9 : spr s d q ≤ 9 := by have := hb q q2; unfold spr; omega
      have hhe : helpS tw s d i = min (lackS s d i) (spr s d q) := by unfold helpS; rw [hti]
      have fin : ∀ s0 : Int32, s0 = nI (helpS tw s d i) → ∃ σ', f_X9_settled_154 (f_X9_settled_91 f) σ a1 (nI (T + tsum i (helpS tw s d))) (nI (mk n (acc (stillS tw s d) i))) (nI i) (nI q) s0 = (if a1 = 0 then some (nI (T + tsum n (helpS tw s d)), σ') else some (nI (mk n (stillS tw s d)), σ')) ∧ FrM σ0 σ' := by
        intro s0 hs0
        subst hs0
        simp only [f_X9_settled_154, Lt]
        by_cases hz : helpS tw s d i = 0
        · rw [if_pos (by rw [hz]; decide)]
          exact none_ hz
        · rw [if_neg (nI_nle (by omega) (by omega))]
          simp only [ck_ok _ hi5 (show 5 < 2 ^ 31 by decide), ix_nI (show i < 2 ^ 31 by omega), ck_ok _ hq5 (show 5 < 2 ^ 31 by decide), ix_nI (show q < 2 ^ 31 by omega)]
          rw [e2, wr_ne (by omega), e1, pk_sub hhl, pk_sub (show helpS tw s d i ≤ spr s d q by rw [hhe]; exact Nat.min_le_right _ _), nI_add, Nat.add_assoc, ← hts]
          refine tail _ (fun a j w1 w2 w3 w4 => ?_) (fun g hg => ?_)
          · rw [wr_ne (by omega), wr_ne (by omega)]; exact hfr a j w1 w2 w3 w4
          · obtain ⟨g1, g2⟩ := hS g hg
            refine ⟨?_, ?_⟩
            · by_cases e : g = q
              · subst e
                rw [wr_eq]
                congr 1
                unfold sprI
                rw [q4]
                simp
              · rw [wr_ne (by omega), wr_ne (by omega), g1]
                congr 1
                unfold sprI
                cases htg : tw g with
                | none => rfl
                | some r =>
                  have : r ≠ i := fun w => by
                    subst w
                    obtain ⟨-, -, -, z4⟩ := htw g r htg
                    rw [hti] at z4
                    cases z4
                    exact e rfl
                  have w : (r < i + 1) = (r < i) := propext (by omega)
                  simp only [w]
            · rw [hlt2 g hg]
              by_cases e : g = i
              · subst e; rw [wr_ne (by omega), wr_eq, if_pos rfl]
              · rw [wr_ne (by omega), wr_ne (by omega), if_neg e]; exact g2
      rw [e1, e2]
      by_cases w : spr s d q ≤ lackS s d i
      · rw [if_pos (nI_le w (by omega))]
        exact fin _ (by rw [hhe, Nat.min_eq_right w])
      · rw [if_neg (nI_ge (by omega) (by omega))]
        exact fin _ (by rw [hhe, Nat.min_eq_left (by omega)])
theorem tsum_add (f g : Nat → Nat) : ∀ n, tsum n (fun x => f x + g x) = tsum n f + tsum n g
  | 0 => rfl
  | n + 1 => by simp only [tsum]; rw [tsum_add f g n]; omega
theorem op_settled {σ : Hp} (h : Inv σ) (a1 : Int32) : OK2 (fun σ => f_X8_settled σ a1) (fun σ => f_X9_settled σ a1) σ := by
  have h0 := h
  obtain ⟨n, beds, lim, tw, t, s, d, nod, ill, i1, -⟩ := h
  obtain ⟨hc, b1, b2, b3, b4, hM, hr, bn, mr, -⟩ := i1
  have hn := hc.1
  have f1 := settledC_loop hc hr bn a1 n 0 FU (by omega) (FU_big (by omega))
  rw [acc_0] at f1
  obtain ⟨σ3, k1, k2, k3⟩ := begin_ok hn (MV_wr hM).2.2.1 (MR_wr mr)
  have hM3 := MV_fr k3 (MV_wr hM)
  obtain ⟨σ4, l1, l2, l3⟩ := settledM1 (σ0 := σ3) hn hM3.2.2.1 (fun g hg => (bn g hg).2) a1 n 0 FU σ3 (by omega) (FU_big (by omega)) (FrM_refl σ3) (fun g hg => by rw [mix_0, mix_0]; exact ⟨(k2 g hg).2.1, (k2 g hg).2.2.1⟩)
  have hM4 := MV_fr l2 hM3
  obtain ⟨σ5, o1, o2⟩ := settledM2 (σ0 := σ4) hn hc.2.1 hM4.2.2.1 hM4.2.2.2.2.2.1 (fun g hg => (bn g hg).2) a1 (tsum n (ownS s d)) n 0 FU σ4 (by omega) (FU_big (by omega)) (FrM_refl σ4) (fun g hg => by
    refine ⟨?_, by rw [(l3 g hg).2]; simp [lackI]⟩
    rw [(l3 g hg).1]
    congr 1
    unfold sprI
    cases tw g <;> simp)
  rw [acc_0] at o1
  have e0 : f_X8_settled σ a1 = (if a1 = 0 then some (nI (tsum n (fun g => ownS s d g + helpS tw s d g)), σ) else some (nI (mk n (stillS tw s d)), σ)) := f1
  have e9 : f_X9_settled σ a1 = (if a1 = 0 then some (nI (tsum n (ownS s d) + tsum n (helpS tw s d)), σ5) else some (nI (mk n (stillS tw s d)), σ5)) := by
    simp only [f_X9_settled, Lt]
    rw [bd_ok k1]
    exact l1.trans o1
  have hI5 : Inv σ5 := Inv_scr h0 (fun a i q => by
    unfold Scr at q
    rw [o2 a i (by omega) (by omega) (by omega) (by omega), l2 a i (by omega) (by omega) (by omega) (by omega), k3 a i (by omega) (by omega) (by omega) (by omega), wr_ne (by omega)])
  by_cases q : a1 = 0
  · rw [if_pos q] at e0 e9
    exact ⟨_, _, _, e0, by rw [tsum_add]; exact e9, hI5⟩
  · rw [if_neg q] at e0 e9
    exact ⟨_, _, _, e0, e9, hI5⟩
