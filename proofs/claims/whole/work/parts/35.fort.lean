theorem text_v {σ : Hp} (h : TextI σ) : ∃ B len, Tx σ B len ∧ MT σ B len := by
  obtain ⟨len, h1, h2, h3, h4⟩ := h
  refine ⟨fun j => ix (σ 135 j), len, ⟨h1, h2, fun j hj => ?_⟩, ⟨h1, h3, fun j hj => ?_⟩⟩
  · obtain ⟨c, c1, c2, c3⟩ := h4 j hj
    have : ix (σ 135 j) = c := by rw [c3]; exact ix_nI (by omega)
    simp only [this]; exact ⟨c1, c2⟩
  · obtain ⟨c, c1, c2, c3⟩ := h4 j hj
    have : ix (σ 135 j) = c := by rw [c3]; exact ix_nI (by omega)
    simp only [this]; exact ⟨c1, c3⟩
theorem op_fault {σ : Hp} (h : Inv σ) : OK2 f_X8_fault f_X9_fault σ := by
  have h0 := h
  obtain ⟨n, beds, lim, tw, t, s, d, nod, ill, i1, i2, i3, i4, i5, i6, i7⟩ := h
  obtain ⟨B, len, hT, hM⟩ := text_v i3
  obtain ⟨σ1, e1, e2, -⟩ := read_ok hT
  obtain ⟨σ2, g1, g2, -⟩ := fortM (σ := wr σ1 134 0 0) (MT_fr hM (fun a i q => (wr_ne (by omega)).trans (e2 a i (by omega))))
  refine ⟨resI (rd B len), σ1, σ2, ?_, ?_, Inv_scr h0 (fun a i q => ?_)⟩
  · simp only [f_X8_fault]; rw [bd_ok e1]
  · simp only [f_X9_fault, Lt]; rw [bd_ok g1]
  · unfold Scr at q
    rw [g2 a i (by omega) (by omega), wr_ne (by omega), e2 a i (by omega)]
theorem chcopy_ok (σ : Hp) : ∃ σ', f_X2_copyFrom σ 11 4 = some ((), σ') ∧ (∀ j, 1 ≤ j → j ≤ 3 → σ' 11 j = σ 4 j) ∧ (∀ g, g < 5 → σ' 12 g = σ 5 g) ∧ (∀ a i, a ≠ 11 → a ≠ 12 → σ' a i = σ a i) := by
  refine ⟨_, by simp only [f_X2_copyFrom, Lt]; rfl, fun j h1 h2 => ?_, fun g hg => ?_, fun a i q1 q2 => ?_⟩
  · rcases (show j = 1 ∨ j = 2 ∨ j = 3 by omega) with rfl | rfl | rfl
    · simp (disch := omega) only [wr_ne, wr_eq, va_up_ne]
    · simp (disch := omega) only [wr_ne, wr_eq, va_up_ne]
    · simp (disch := omega) only [wr_ne, wr_eq, va_up_ne]
  · rw [wr_ne (by omega), wr_ne (by omega), wr_ne (by omega)]
    show va_up σ 12 (va_cpy (σ 5) (σ 12) 0 0 5) 12 g = σ 5 g
    rw [va_up_self, pk_cpy_in (by omega) (by omega)]
    congr 1; omega
  · rw [wr_ne (by omega), wr_ne (by omega), wr_ne (by omega)]
    show va_up σ 12 (va_cpy (σ 5) (σ 12) 0 0 5) a i = σ a i
    rw [va_up_ne _ _ q2]
theorem slots_ok (σ : Hp) : f_X8_fortress_68 FU σ 0 = some (σ 11 1, wr (wr σ 120 2 0) 127 2 0) := by
  obtain ⟨f, hf⟩ : ∃ f, FU = f + 1 + 1 + 1 := ⟨99997, rfl⟩
  rw [hf, show (0 : Int32) = nI 0 from rfl]
  simp only [f_X8_fortress_68, Lt]
  rw [if_neg (show ¬ (2 : Int32) ≤ nI 0 by decide), ck_ok _ (by decide) (by decide), ix_nI (by decide), ni_add1, if_neg (show ¬ (2 : Int32) ≤ nI (0 + 1) by decide), ck_ok _ (by decide) (by decide), ix_nI (by decide), ni_add1, if_pos (show (2 : Int32) ≤ nI (0 + 1 + 1) by decide), wr_ne (by omega), wr_ne (by omega)]
  rfl
def FtS (σ0 σ : Hp) (n i : Nat) : Prop := ∀ g, g < i → σ 136 g = (if g < n then σ0 144 g else 0) ∧ σ 137 g = (if g < n then σ0 145 g else 0) ∧ σ 138 g = (if g < n then σ0 146 g else 0) ∧ σ 141 g = (if g < n then σ0 147 g else -9) ∧ σ 139 g = 0 ∧ σ 140 g = 0 ∧ σ 142 g = 0
theorem fort43 {σ0 : Hp} {n : Nat} (hn : n ≤ 5) (h4 : σ0 134 4 = nI n) : ∀ (k i fuel : Nat) (σ : Hp), i + k = 5 → k < fuel → (∀ a j, a < 136 ∨ 142 < a → σ a j = σ0 a j) → FtS σ0 σ n i → ∃ σ', f_X9_fortress_43 fuel σ (nI i) = f_X9_fortress_172 FU σ' 0 ∧ (∀ a j, a < 136 ∨ 142 < a → σ' a j = σ0 a j) ∧ FtS σ0 σ' n 5 := by
  intro k
  induction k with
  | zero =>
    intro i fuel σ hi hf h1 h2
    obtain ⟨f, rfl⟩ : ∃ f, fuel = f + 1 := ⟨fuel - 1, by omega⟩
    have : i = 5 := by omega
    subst this
    simp only [f_X9_fortress_43]
    rw [if_pos (show (5 : Int32) ≤ nI 5 by decide)]
    exact ⟨σ, rfl, h1, h2⟩
  | succ k ih =>
    intro i fuel σ hi hf h1 h2
    obtain ⟨f, rfl⟩ : ∃ f, fuel = f + 1 := ⟨fuel - 1, by omega⟩
    have hi5 : i < 5 := by omega
    have z0 : vp_nar .boolean (0 : Int32) = 0 := rfl
    have fin : ∀ va vb vc vt : Int32, va = (if i < n then σ0 144 i else 0) → vb = (if i < n then σ0 145 i else 0) → vc = (if i < n then σ0 146 i else 0) → vt = (if i < n then σ0 147 i else -9) → ∃ σ', f_X9_fortress_43 f (wr (wr (wr (wr (wr (wr (wr σ 136 i va) 137 i vb) 138 i vc) 141 i vt) 139 i 0) 140 i 0) 142 i 0) (nI (i + 1)) = f_X9_fortress_172 FU σ' 0 ∧ (∀ a j, a < 136 ∨ 142 < a → σ' a j = σ0 a j) ∧ FtS σ0 σ' n 5 := by
      intro va vb vc vt ha hb hc ht
      refine ih (i + 1) f _ (by omega) (by omega) (fun a j q => ?_) (fun g hg => ?_)
      · simp (disch := omega) only [wr_ne]; exact h1 a j q
      · by_cases e : g = i
        · subst e
          simp (disch := omega) only [wr_ne, wr_eq, ← ha, ← hb, ← hc, ← ht, and_self]
        · have := h2 g (by omega)
          simp (disch := omega) only [wr_ne]; exact this
    simp only [f_X9_fortress_43, f_X9_fortress_61, f_X9_fortress_81, f_X9_fortress_101, f_X9_fortress_121, f_X9_fortress_142, Lt]
    rw [if_neg (show ¬ (5 : Int32) ≤ nI i from nI_ge (b := 5) hi5 (by decide)), h1 134 4 (by omega), h4]
    simp (disch := omega) only [ck_ok, ix_nI, wr_ne, ni_add1, z0, if_true, h1 144 i (by omega), h1 145 i (by omega), h1 146 i (by omega), h1 147 i (by omega)]
    by_cases q : n ≤ i
    · rw [if_pos (nI_le q (by omega))]
      exact fin 0 0 0 (-9) (by rw [if_neg (by omega)]) (by rw [if_neg (by omega)]) (by rw [if_neg (by omega)]) (by rw [if_neg (by omega)])
    · rw [if_neg (nI_ge (by omega) (by omega)), if_neg (by decide), if_neg (by decide), if_neg (by decide), if_neg (by decide)]
      exact fin _ _ _ _ (by rw [if_pos (by omega)]) (by rw [if_pos (by omega)]) (by rw [if_pos (by omega)]) (by rw [if_pos (by omega)])
theorem fort172 {σ0 : Hp} : ∀ (k i fuel : Nat) (σ : Hp), i + k = 4 → k < fuel → (∀ a j, a ≠ 143 → σ a j = σ0 a j) → (∀ j, j < i → σ 143 j = 0) → ∃ σ', f_X9_fortress_172 fuel σ (nI i) = some (σ0 134 4, σ') ∧ (∀ j, j < 4 → σ' 143 j = 0) ∧ σ' 134 14 = 0 ∧ σ' 134 15 = 0 ∧ σ' 134 25 = 0 ∧ σ' 150 0 = 0 ∧ σ' 150 1 = 0 ∧ ∀ a j, a ≠ 143 → a ≠ 150 → ¬ (a = 134 ∧ (j = 14 ∨ j = 15 ∨ j = 25)) → σ' a j = σ0 a j := by
  intro k
  induction k with
  | zero =>
    intro i fuel σ hi hf h1 h2
    obtain ⟨f, rfl⟩ : ∃ f, fuel = f + 1 := ⟨fuel - 1, by omega⟩
    have : i = 4 := by omega
    subst this
    simp only [f_X9_fortress_172, Lt]
    rw [if_pos (show (4 : Int32) ≤ nI 4 by decide), show ck (0 : Int32) 2 = ck (nI 0) 2 from rfl, ck_ok _ (by decide) (by decide), show ck (1 : Int32) 2 = ck (nI 1) 2 from rfl, ck_ok _ (by decide) (by decide), show ix (0 : Int32) = 0 from rfl, show ix (1 : Int32) = 1 from rfl, show vp_nar .boolean (0 : Int32) = 0 from rfl]
    simp (disch := omega) only [wr_ne]
    rw [h1 134 4 (by decide)]
    refine ⟨_, rfl, fun j hj => ?_, ?_, ?_, ?_, ?_, ?_, fun a j q1 q2 q3 => ?_⟩
    · simp (disch := omega) only [wr_ne]; exact h2 j hj
    · simp (disch := omega) only [wr_ne]; rw [wr_eq]
    · simp (disch := omega) only [wr_ne]; rw [wr_eq]
    · simp (disch := omega) only [wr_ne]; rw [wr_eq]
    · simp (disch := omega) only [wr_ne]; rw [wr_eq]
    · rw [wr_eq]
    · simp (disch := omega) only [wr_ne]; exact h1 a j q1
  | succ k ih =>
    intro i fuel σ hi hf h1 h2
    obtain ⟨f, rfl⟩ : ∃ f, fuel = f + 1 := ⟨fuel - 1, by omega⟩
    simp only [f_X9_fortress_172, Lt]
    rw [if_neg (show ¬ (4 : Int32) ≤ nI i from nI_ge (b := 4) (by omega) (by decide)), ck_ok _ (show i < 4 by omega) (by decide), ix_nI (by omega), ni_add1]
    refine ih (i + 1) f _ (by omega) (by omega) (fun a j h => by rw [wr_ne (by omega)]; exact h1 a j h) (fun j hj => ?_)
    by_cases e : j = i
    · subst e; rw [wr_eq]
    · rw [wr_ne (by omega)]; exact h2 j (by omega)
theorem op_fortress {σ : Hp} (h : Inv σ) : OK2 f_X8_fortress f_X9_fortress σ := by
  have h0 := h
  obtain ⟨n0, beds0, lim0, tw0, t0, s0, d0, nod0, ill0, i1, i2, i3, i4, i5, i6, i7⟩ := h
  obtain ⟨B, len, hT, hM⟩ := text_v i3
  obtain ⟨σ1, e1, e2, e3, e4⟩ := read_ok hT
  cases hr : rd B len with
  | inl q =>
    obtain ⟨σ2, g1, g2, -⟩ := fortM (σ := wr σ1 134 0 0) (MT_fr hM (fun a i q => (wr_ne (by omega)).trans (e2 a i (by omega))))
    rw [hr] at e1 g1
    have hq : ¬ nI q = (-9 : Int32) := m9_q q (e4 q hr)
    refine ⟨-3, σ1, σ2, ?_, ?_, Inv_scr h0 (fun a i q => ?_)⟩
    · simp only [f_X8_fortress]; rw [bd_ok e1, if_neg (show ¬ resI (.inl q) = (-9 : Int32) from hq)]
    · simp only [f_X9_fortress, Lt]; rw [bd_ok g1, if_neg (show ¬ resI (.inl q) = (-9 : Int32) from hq)]
    · unfold Scr at q
      rw [g2 a i (by omega) (by omega), wr_ne (by omega), e2 a i (by omega)]
  | inr y =>
    obtain ⟨⟨c1, c2, c3⟩, ⟨w1, w2, w3⟩, k2, k3⟩ := e3 y hr
    obtain ⟨n, t, s, d, tw⟩ := y
    simp only at c1 c2 c3 w1 w2 w3
    obtain ⟨σ2, a1, a2, a3, a4⟩ := chcopy_ok σ1
    obtain ⟨σ3, b1, b2, b3, b4⟩ := copy_ok (σ := σ2) (o := 13) (q := 6) (by omega)
    obtain ⟨σ4, f1, f2, f3⟩ := fill_ok (q := 23) (n := 4) (by decide) 0 σ3
    -- the class's heap at its end
    have hend : ∃ σC, f_X8_fortress σ = some (nI n, σC) ∧ σC = wr (wr (wr (wr σ4 24 2 0) 86 4 0) 120 2 0) 127 2 0 := by
      refine ⟨_, ?_, rfl⟩
      rw [hr] at e1
      simp only [f_X8_fortress, Lt, f_X5_forget]
      rw [bd_ok e1, if_pos (show resI (.inr (n, t, s, d, tw)) = (-9 : Int32) from rfl), bd_ok a1, bd_ok b1, bd_ok f1]
      rw [bd_ok (show some ((), wr (wr σ4 24 2 0) 86 4 0) = some ((), wr (wr σ4 24 2 0) 86 4 0) from rfl), slots_ok, wr_ne (by omega), wr_ne (by omega), f2 11 1 (by omega), b4 11 1 (by omega) (by omega) (by omega) (by omega) (by omega), a2 1 (by omega) (by omega), c1]
    obtain ⟨σC, hC, rfl⟩ := hend
    generalize hσC : wr (wr (wr (wr σ4 24 2 0) 86 4 0) 120 2 0) 127 2 0 = σC at hC
    have q4 : ∀ a i, ¬ (a = 24 ∧ i = 2) → ¬ (a = 86 ∧ i = 4) → ¬ ((a = 120 ∨ a = 127) ∧ i = 2) → σC a i = σ4 a i := fun a i v1 v2 v3 => by
      rw [← hσC, wr_ne (by omega), wr_ne (by omega), wr_ne (by omega), wr_ne (by omega)]
    have q1 : ∀ a i, a < 3 ∨ (17 < a) ∨ a = 6 ∨ a = 10 → a ≠ 23 → ¬ (a = 24 ∧ i = 2) → ¬ (a = 86 ∧ i = 4) → ¬ ((a = 120 ∨ a = 127) ∧ i = 2) → σC a i = σ a i := fun a i v0 v1 v2 v3 v4 => by
      rw [q4 a i v2 v3 v4, f2 a i v1, b4 a i (by omega) (by omega) (by omega) (by omega) (by omega), a4 a i (by omega) (by omega), e2 a i (by omega)]
    have r11 : ∀ j, 1 ≤ j → j ≤ 3 → σC 11 j = σ1 4 j := fun j v1 v2 => by
      rw [q4 _ _ (by omega) (by omega) (by omega), f2 _ _ (by omega), b4 _ _ (by omega) (by omega) (by omega) (by omega) (by omega), a2 j v1 v2]
    have r12 : ∀ g, g < 5 → σC 12 g = σ1 5 g := fun g hg => by
      rw [q4 _ _ (by omega) (by omega) (by omega), f2 _ _ (by omega), b4 _ _ (by omega) (by omega) (by omega) (by omega) (by omega), a3 g hg]
    have rrow : ∀ k g, 1 ≤ k → k ≤ 4 → g < 5 → σC (13 + k) g = σ1 (6 + k) g := fun k g v1 v2 v3 => by
      rw [q4 _ _ (by omega) (by omega) (by omega), f2 _ _ (by omega), b2 k g v1 v2 v3, a4 _ _ (by omega) (by omega)]
    have r13 : ∀ j, 5 ≤ j → j ≤ 8 → σC 13 j = 0 := fun j v1 v2 => by
      rw [q4 _ _ (by omega) (by omega) (by omega), f2 _ _ (by omega), b3 j v1 v2, a4 _ _ (by omega) (by omega), e2 6 j (by omega), i7.2.1 j v1 v2]
    -- the reference
    have hMC : MT (wr σC 134 0 0) B len := MT_fr hM (fun a i q => (wr_ne (by omega)).trans (q1 a i (by omega) (by omega) (by omega) (by omega) (by omega)))
    obtain ⟨σ5, g1, g2, g3⟩ := fortM hMC
    obtain ⟨⟨m1, m2⟩, m3, m4, m5, m6⟩ := g3 _ hr
    simp only at m1 m2
    have u4 : (wr (wr (wr σ5 134 4 (nI n)) 134 5 (nI (hB B len).2)) 134 6 (nI (hLim B len))) 134 4 = nI n := by rw [wr_ne (by omega), wr_ne (by omega), wr_eq]
    obtain ⟨σ6, n1, n2, n3⟩ := fort43 (σ0 := wr (wr (wr σ5 134 4 (nI n)) 134 5 (nI (hB B len).2)) 134 6 (nI (hLim B len))) w1 u4 5 0 FU _ (by omega) (FU_big (by omega)) (fun _ _ _ => rfl) (fun g hg => absurd hg (Nat.not_lt_zero g))
    obtain ⟨σ7, p1, p2, p3, p4, p5, p6, p7, p8⟩ := fort172 (σ0 := σ6) 4 0 FU σ6 (by omega) (FU_big (by omega)) (fun _ _ _ => rfl) (fun j hj => absurd hj (Nat.not_lt_zero j))
    have v5 : ∀ a i, a < 134 ∨ (147 < a ∧ a ≠ 150) ∨ a = 135 → σ7 a i = σC a i := fun a i q => by
      rw [p8 a i (by omega) (by omega) (by omega), n2 a i (by omega), wr_ne (by omega), wr_ne (by omega), wr_ne (by omega), g2 a i (by omega) (by omega), wr_ne (by omega)]
    have v134 : ∀ i, ¬ (i = 0 ∨ i = 3 ∨ i = 4 ∨ i = 5 ∨ i = 6 ∨ i = 14 ∨ i = 15 ∨ i = 17 ∨ i = 18 ∨ i = 19 ∨ i = 25) → σ7 134 i = σC 134 i := fun i q => by
      rw [p8 _ i (by omega) (by omega) (by omega), n2 _ i (by omega), wr_ne (by omega), wr_ne (by omega), wr_ne (by omega), g2 _ i (by omega) (by omega), wr_ne (by omega)]
    have v6 : ∀ a i, 136 ≤ a → a ≤ 142 → σ7 a i = σ6 a i := fun a i x1 x2 => p8 a i (by omega) (by omega) (by omega)
    have w134 : ∀ j, j = 4 ∨ j = 5 ∨ j = 6 → σ7 134 j = (wr (wr (wr σ5 134 4 (nI n)) 134 5 (nI (hB B len).2)) 134 6 (nI (hLim B len))) 134 j := fun j hj => by
      rw [p8 _ j (by omega) (by omega) (by omega), n2 _ j (by omega)]
    have s5 : ∀ a g, 144 ≤ a → a ≤ 147 → (wr (wr (wr σ5 134 4 (nI n)) 134 5 (nI (hB B len).2)) 134 6 (nI (hLim B len))) a g = σ5 a g := fun a g x1 x2 => by
      rw [wr_ne (by omega), wr_ne (by omega), wr_ne (by omega)]
    have z7 : ∀ a i, a < 3 ∨ (17 < a ∧ a < 134) ∨ (147 < a ∧ a ≠ 150) ∨ a = 135 ∨ a = 6 ∨ a = 10 → a ≠ 23 → ¬ (a = 24 ∧ i = 2) → ¬ (a = 86 ∧ i = 4) → ¬ ((a = 120 ∨ a = 127) ∧ i = 2) → σ7 a i = σ a i := fun a i x0 x1 x2 x3 x4 => (v5 a i (by omega)).trans (q1 a i (by omega) x1 x2 x3 x4)
    have z134 : ∀ i, i = 2 ∨ i = 28 → σ7 134 i = σ 134 i := fun i hi => (v134 i (by omega)).trans (q1 _ i (by omega) (by omega) (by omega) (by omega) (by omega))
    refine ⟨nI n, σC, σ7, hC, ?_, ?_⟩
    · rw [hr] at g1
      simp only [f_X9_fortress, Lt]
      rw [bd_ok g1, if_pos (show resI (.inr (n, t, s, d, tw)) = (-9 : Int32) from rfl), m1, show (wr σ5 134 4 (nI n)) 134 18 = nI (hB B len).2 by rw [wr_ne (by omega)]; exact m3]
      rw [show (wr (wr σ5 134 4 (nI n)) 134 5 (nI (hB B len).2)) 134 19 = nI (hLim B len) by rw [wr_ne (by omega), wr_ne (by omega)]; exact m4]
      rw [show f_X9_fortress_43 FU (wr (wr (wr σ5 134 4 (nI n)) 134 5 (nI (hB B len).2)) 134 6 (nI (hLim B len))) 0 = _ from n1, show f_X9_fortress_172 FU σ6 0 = _ from p1, n2 134 4 (by omega), u4]
    · have hp : 0 < 2 ^ n := Nat.pow_pos (by decide)
      have hz : mk n (fun _ => false) = 0 := mk_false (fun _ => rfl)
      refine ⟨n, (hB B len).2, hLim B len, tw, t, s, d, fun _ => false, fun _ => false, ⟨⟨w1, w2, ?_, fun g hg => ?_⟩, ?_, ?_, m5, m6, ⟨w1, w2, ?_, ?_, ?_, fun g hg => ?_, fun g hg => ?_⟩, ⟨fun g hg => ⟨?_, ?_, ?_⟩, ?_, ?_⟩, w3, fun g hg => ⟨?_, ?_, ?_, ?_⟩, fun g hg => ?_, ?_, ?_⟩, fun j hj => ⟨0, hp, ?_, ?_⟩, keep_t i3 ?_, ?_, ⟨⟨false, ?_, ?_, fun w => by cases w⟩, ⟨false, ?_, ?_, fun w => by cases w⟩⟩, keep_b i6 ?_, ⟨⟨0, by decide, ?_, fun w => absurd w (by decide)⟩, fun j x1 x2 => ?_, fun g hg => ?_⟩⟩
      · rw [v5 _ _ (by omega), r11 1 (by omega) (by omega)]; exact c1
      · show σ7 12 g = twI (tw g)
        rw [v5 _ _ (by omega), r12 g hg]; exact c3 g hg
      · rw [v5 _ _ (by omega), r11 2 (by omega) (by omega)]; exact k2
      · rw [v5 _ _ (by omega), r11 3 (by omega) (by omega)]; exact k3
      · rw [w134 4 (by omega)]; exact u4
      · rw [w134 5 (by omega), wr_ne (by omega), wr_eq]
      · rw [w134 6 (by omega), wr_eq]
      · rw [v6 _ _ (by omega) (by omega), (n3 g hg).2.2.2.1]
        by_cases hgn : g < n
        · rw [if_pos hgn, s5 _ _ (by omega) (by omega)]; exact (m2 g hgn).2.2.2
        · rw [if_neg hgn]
          cases hh : tw g with
          | none => rfl
          | some k => exact absurd (w2 _ _ hh).1 hgn
      · rw [v6 _ _ (by omega) (by omega), (n3 g (by omega)).2.2.2.2.2.1]; rfl
      · rw [v5 _ _ (by omega), rrow 1 g (by omega) (by omega) (by omega)]; exact (c2 g hg).1
      · rw [v5 _ _ (by omega), rrow 2 g (by omega) (by omega) (by omega)]; exact (c2 g hg).2.1
      · rw [v5 _ _ (by omega), rrow 3 g (by omega) (by omega) (by omega)]; exact (c2 g hg).2.2
      · rw [v5 _ _ (by omega), r13 5 (by omega) (by omega), hz]; rfl
      · rw [v5 _ _ (by omega), r13 6 (by omega) (by omega), hz]; rfl
      · rw [v6 _ _ (by omega) (by omega), (n3 g (by omega)).1, if_pos hg, s5 _ _ (by omega) (by omega)]; exact (m2 g hg).1
      · rw [v6 _ _ (by omega) (by omega), (n3 g (by omega)).2.1, if_pos hg, s5 _ _ (by omega) (by omega)]; exact (m2 g hg).2.1
      · rw [v6 _ _ (by omega) (by omega), (n3 g (by omega)).2.2.1, if_pos hg, s5 _ _ (by omega) (by omega)]; exact (m2 g hg).2.2.1
      · rw [v6 _ _ (by omega) (by omega), (n3 g (by omega)).2.2.2.2.1]; rfl
      · rw [v5 17 _ (by omega), rrow 4 g (by omega) (by omega) (by omega), v6 _ _ (by omega) (by omega), (n3 g (by omega)).2.2.2.2.2.2, e2 10 g (by omega)]; exact i7.2.2 g (by omega)
      · rw [v5 _ _ (by omega), r13 7 (by omega) (by omega), p3]
      · rw [v5 _ _ (by omega), r13 8 (by omega) (by omega), p4]
      · rw [v5 _ _ (by omega), q4 _ _ (by omega) (by omega) (by omega), f3 j hj]; rfl
      · rw [p2 j hj]; rfl
      · intro a i q
        unfold Rt at q
        rcases q with ⟨rfl, rfl⟩ | rfl | rfl | ⟨rfl, rfl⟩
        · exact z7 _ _ (by omega) (by omega) (by omega) (by omega) (by omega)
        · exact z7 _ _ (by omega) (by omega) (by omega) (by omega) (by omega)
        · exact z7 _ _ (by omega) (by omega) (by omega) (by omega) (by omega)
        · exact z134 2 (by omega)
      · obtain ⟨c, e, x1, x2, x3, x4, x5, x6⟩ := i4
        refine ⟨0, e, by omega, x2, ?_, ?_, ?_, fun j hj => absurd hj (Nat.not_lt_zero j)⟩
        · rw [z7 _ _ (by omega) (by omega) (by omega) (by omega) (by omega)]; exact x3
        · rw [v5 _ _ (by omega), ← hσC, wr_ne (by omega), wr_ne (by omega), wr_ne (by omega), wr_eq]; rfl
        · rw [p5]; rfl
      · rw [v5 _ _ (by omega), ← hσC, wr_ne (by omega), wr_eq]; rfl
      · rw [p6]; rfl
      · rw [v5 _ _ (by omega), ← hσC, wr_eq]; rfl
      · rw [p7]; rfl
      · intro a i q
        unfold Rb at q
        rcases q with ⟨x1, x2⟩ | ⟨x1, x2⟩ | ⟨rfl, rfl⟩
        · exact z7 _ _ (by omega) (by omega) (by omega) (by omega) (by omega)
        · exact z7 _ _ (by omega) (by omega) (by omega) (by omega) (by omega)
        · exact z134 28 (by omega)
      · rw [v5 _ _ (by omega), ← hσC, wr_ne (by omega), wr_ne (by omega), wr_eq]; rfl
      · rw [z7 _ _ (by omega) (by omega) (by omega) (by omega) (by omega)]; exact i7.2.1 j x1 x2
      · rw [z7 _ _ (by omega) (by omega) (by omega) (by omega) (by omega)]; exact i7.2.2 g hg
