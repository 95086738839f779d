/-! the reference's guards -/
def MR (σ : Hp) (n : Nat) (t s d : Nat → Nat) (nod : Nat → Bool) : Prop := ∀ g, g < n → σ 136 g = nI (t g) ∧ σ 137 g = nI (s g) ∧ σ 138 g = nI (d g) ∧ σ 139 g = b2i (nod g)
theorem begin_loop {n : Nat} (hn : n ≤ 5) {t s d : Nat → Nat} {nod : Nat → Bool} {σ0 : Hp} (hg0 : σ0 134 4 = nI n) (hM : MR σ0 n t s d nod) : ∀ (k i fuel : Nat) (σ : Hp), i + k = n → k < fuel → FrM σ0 σ → (∀ g, g < i → σ 154 g = nI (t g) ∧ σ 155 g = nI (s g) ∧ σ 156 g = nI (d g) ∧ σ 157 g = b2i (nod g)) → ∃ σ', f_X9_begin_2 fuel σ (nI i) = some ((), σ') ∧ SV σ' n t s d nod ∧ FrM σ0 σ' := by
  intro k
  induction k with
  | zero =>
    intro i fuel σ hi hf hfr hS
    obtain ⟨f, rfl⟩ : ∃ f, fuel = f + 1 := ⟨fuel - 1, by omega⟩
    have hin : i = n := by omega
    subst hin
    refine ⟨σ, ?_, hS, hfr⟩
    simp only [f_X9_begin_2]
    rw [hfr 134 4 (by decide) (by decide) (by decide) (by decide), hg0, if_pos (nI_le (Nat.le_refl _) (by omega))]
  | succ k ih =>
    intro i fuel σ hi hf hfr hS
    obtain ⟨f, rfl⟩ : ∃ f, fuel = f + 1 := ⟨fuel - 1, by omega⟩
    have hin : i < n := by omega
    have hi5 : i < 5 := by omega
    obtain ⟨m1, m2, m3, m4⟩ := hM i hin
    have r : ∀ a, a = 136 ∨ a = 137 ∨ a = 138 ∨ a = 139 → σ a i = σ0 a i := by
      intro a ha
      exact hfr a i (by omega) (by omega) (by omega) (by omega)
    simp only [f_X9_begin_2, Lt]
    rw [hfr 134 4 (by decide) (by decide) (by decide) (by decide), hg0, if_neg (nI_ge hin (by omega))]
    simp only [ck_ok _ hi5 (show 5 < 2 ^ 31 by decide), ix_nI (show i < 2 ^ 31 by omega)]
    rw [ni_add1]
    refine ih (i + 1) f _ (by omega) (by omega) (fun a j q1 q2 q3 q4 => ?_) (fun g hg => ?_)
    · simp only [wr_at, q1, q2, q3, q4, if_false]; exact hfr a j q1 q2 q3 q4
    · by_cases e : g = i
      · subst e
        have k1 := r 136 (by simp)
        have k2 := r 137 (by simp)
        have k3 := r 138 (by simp)
        have k4 := r 139 (by simp)
        simp [wr_at, k1, k2, k3, k4, m1, m2, m3, m4, nar_b]
      · have := hS g (by omega)
        simpa [wr_at, e] using this
theorem begin_ok {n : Nat} (hn : n ≤ 5) {t s d : Nat → Nat} {nod : Nat → Bool} {σ : Hp} (hg : σ 134 4 = nI n) (hM : MR σ n t s d nod) : ∃ σ', f_X9_begin σ = some ((), σ') ∧ SV σ' n t s d nod ∧ FrM σ σ' :=
  begin_loop hn hg hM n 0 FU σ (by omega) (FU_big (by omega)) (FrM_refl σ) (fun g hg => absurd hg (Nat.not_lt_zero g))
/-! rotas, as a table of all -/
abbrev RS : Type := (Nat → Nat) × (Nat → Nat) × (Nat → Nat) × (Nat → Bool)
def stp (n lim : Nat) (tw : Nat → Option Nat) (ill : Nat → Bool) (m : Nat) (x : RS) : RS := (t1 m x.1 x.2.2.2, s1 (Giv n tw x.2.1 m ill) x.2.1, d1 m ill x.2.2.1, nod1 lim m x.1 x.2.2.2)
def can (n beds lim : Nat) (tw : Nat → Option Nat) (ill : Nat → Bool) (m : Nat) (x : RS) : Bool := mayB n beds tw x.2.1 x.2.2.1 m ill && decide (mk n (aw lim m x.1 x.2.2.2) ≠ 0)
def tsum : Nat → (Nat → Nat) → Nat
  | 0, _ => 0
  | n + 1, t => tsum n t + t n
def better (a b : Option (Nat × List Nat)) : Option (Nat × List Nat) := match a, b with
  | none, b => b
  | some a, none => some a
  | some a, some b => if b.1 < a.1 then some b else some a
def scanF (F : Nat → Option (Nat × List Nat)) : Nat → Option (Nat × List Nat)
  | 0 => none
  | i + 1 => better (scanF F i) (F i)
def bestF (n beds lim : Nat) (tw : Nat → Option Nat) (ill : Nat → Bool) : Nat → RS → Option (Nat × List Nat)
  | 0, x => some (tsum n x.1, [])
  | k + 1, x => scanF (fun m => if can n beds lim tw ill m x = true then (bestF n beds lim tw ill k (stp n lim tw ill m x)).map (fun p => (p.1, m :: p.2)) else none) (2 ^ n)
/-! the invariant -/
def Core (σ : Hp) (n beds lim : Nat) (tw : Nat → Option Nat) (t s d : Nat → Nat) (nod ill : Nat → Bool) : Prop :=
  CV σ 11 n tw ∧ σ 11 2 = nI beds ∧ σ 11 3 = nI lim ∧ beds ≤ 5 ∧ lim < 100 ∧ MV σ n beds lim tw ill ∧ RV σ 13 n t s d nod ill ∧ BN n t s d ∧ MR σ n t s d nod ∧ (∀ g, g < n → σ 17 g = σ 142 g) ∧ σ 13 7 = σ 134 14 ∧ σ 13 8 = σ 134 15
def PlanI (σ : Hp) (n : Nat) : Prop := ∀ j, j < 4 → ∃ p, p < 2 ^ n ∧ σ 23 j = nI p ∧ σ 143 j = nI p
def sx (c : Nat) : Int32 := (nI c).toInt8.toInt32
def TextI (σ : Hp) : Prop := ∃ len, len ≤ 48 ∧ σ 1 1 = nI len ∧ σ 134 2 = nI len ∧ ∀ j, j < len → ∃ c, c < 256 ∧ σ 2 j = sx c ∧ σ 135 j = nI c
/-- a page of the reference and a roll of the class hold the same -/
def Page (σ : Hp) (n o q a : Nat) : Prop := ∃ (t s d : Nat → Nat) (nod : Nat → Bool), BN n t s d ∧ (∀ g, g < n → σ (o + 1) g = nI (t g) ∧ σ (o + 2) g = nI (s g) ∧ σ (o + 3) g = nI (d g) ∧ σ q (a + g) = nI (t g) ∧ σ q (a + 5 + g) = nI (s g) ∧ σ q (a + 10 + g) = nI (d g) ∧ σ q (a + 15 + g) = b2i (nod g) ∧ σ (o + 4) g = σ q (a + 20 + g)) ∧ σ o 5 = nI (mk n nod) ∧ σ o 7 = σ q (a + 25) ∧ σ o 8 = σ q (a + 26)
def ActsI (σ : Hp) (n : Nat) : Prop := ∃ c e, c ≤ 12 ∧ e < 12 ∧ σ 24 1 = nI e ∧ σ 24 2 = nI c ∧ σ 134 25 = nI c ∧ ∀ j, j < c → Page σ n (26 + 5 * ((e + 12 - c + j) % 12)) 148 (27 * j)
def SlotI (σ : Hp) (n l : Nat) : Prop := ∃ f : Bool, σ (120 + 7 * l) 2 = b2i f ∧ σ 150 l = b2i f ∧ (f = true → Page σ n (122 + 7 * l) 149 (42 * l) ∧ (∃ ill : Nat → Bool, σ (122 + 7 * l) 6 = nI (mk n ill) ∧ ∀ g, g < n → σ 149 (42 * l + 27 + g) = b2i (ill g)) ∧ ∀ j, j < 4 → ∃ p, p < 2 ^ n ∧ σ (121 + 7 * l) j = nI p ∧ σ 149 (42 * l + 32 + j) = nI p)
def BookI (σ : Hp) : Prop := ∃ u, u ≤ 12 ∧ σ 115 3 = nI u ∧ σ 134 28 = nI u ∧ ∀ j, j < u → ∃ a b c, a < 100 ∧ b < 5 ∧ c < 100 ∧ σ 116 j = nI a ∧ σ 151 j = nI a ∧ σ 117 j = nI b ∧ σ 152 j = nI b ∧ σ 118 j = nI c ∧ σ 153 j = nI c
def SrchK (σ : Hp) (n beds lim : Nat) (tw : Nat → Option Nat) : Prop := ∃ k, k ≤ 4 ∧ σ 86 4 = nI k ∧ (1 ≤ k → n ≤ 4 ∧ ∀ (t s d : Nat → Nat) (nod ill : Nat → Bool), BN n t s d → RV σ 90 n t s d nod ill → (match bestF n beds lim tw ill k (t, s, d, nod) with
  | none => σ 86 6 = 0
  | some p => σ 86 6 = 1 ∧ σ 86 5 = nI p.1 ∧ ∀ i, i < k → ∃ v, p.2[i]? = some v ∧ σ 89 i = nI v))
/-- the draft's roll has nothing of a quarter in it -/
def DraftI (σ : Hp) : Prop := (∀ j, 5 ≤ j → j ≤ 8 → σ 6 j = 0) ∧ ∀ g, g < 5 → σ 10 g = 0
def SrchI (σ : Hp) (n beds lim : Nat) (tw : Nat → Option Nat) : Prop := SrchK σ n beds lim tw ∧ DraftI σ
def Inv (σ : Hp) : Prop := ∃ (n beds lim : Nat) (tw : Nat → Option Nat) (t s d : Nat → Nat) (nod ill : Nat → Bool), Core σ n beds lim tw t s d nod ill ∧ PlanI σ n ∧ TextI σ ∧ ActsI σ n ∧ (SlotI σ n 0 ∧ SlotI σ n 1) ∧ BookI σ ∧ SrchI σ n beds lim tw
/-! what each piece hangs on -/
theorem Core_congr {σ σ' : Hp} {n beds lim : Nat} {tw : Nat → Option Nat} {t s d : Nat → Nat} {nod ill : Nat → Bool} (h : Core σ n beds lim tw t s d nod ill) (h1 : ∀ a i, 11 ≤ a → a ≤ 17 → σ' a i = σ a i) (h2 : ∀ a i, 136 ≤ a → a ≤ 142 → σ' a i = σ a i) (h3 : ∀ i, i = 4 ∨ i = 5 ∨ i = 6 ∨ i = 14 ∨ i = 15 → σ' 134 i = σ 134 i) : Core σ' n beds lim tw t s d nod ill := by
  obtain ⟨⟨a1, a2, a3, a4⟩, b1, b2, b3, b4, ⟨c1, c2, c3, c4, c5, c6, c7⟩, ⟨d1, d2, d3⟩, e1, f1, g1, g2, g3⟩ := h
  have k1 : ∀ a, 11 ≤ a → a ≤ 17 → σ' a = σ a := fun a q1 q2 => funext fun i => h1 a i q1 q2
  have k2 : ∀ a, 136 ≤ a → a ≤ 142 → σ' a = σ a := fun a q1 q2 => funext fun i => h2 a i q1 q2
  have r11 := k1 11 (by decide) (by decide)
  have r12 := k1 12 (by decide) (by decide)
  have r13 := k1 13 (by decide) (by decide)
  have r14 := k1 14 (by decide) (by decide)
  have r15 := k1 15 (by decide) (by decide)
  have r16 := k1 16 (by decide) (by decide)
  have r17 := k1 17 (by decide) (by decide)
  have m36 := k2 136 (by decide) (by decide)
  have m37 := k2 137 (by decide) (by decide)
  have m38 := k2 138 (by decide) (by decide)
  have m39 := k2 139 (by decide) (by decide)
  have m40 := k2 140 (by decide) (by decide)
  have m41 := k2 141 (by decide) (by decide)
  have m42 := k2 142 (by decide) (by decide)
  refine ⟨⟨a1, a2, by rw [r11]; exact a3, fun g hg => by rw [r12]; exact a4 g hg⟩, by rw [r11]; exact b1, by rw [r11]; exact b2, b3, b4, ⟨c1, c2, by rw [h3 4 (by simp)]; exact c3, by rw [h3 5 (by simp)]; exact c4, by rw [h3 6 (by simp)]; exact c5, fun g hg => by rw [m41]; exact c6 g hg, fun g hg => by rw [m40]; exact c7 g hg⟩, ⟨fun g hg => by rw [r14, r15, r16]; exact d1 g hg, by rw [r13]; exact d2, by rw [r13]; exact d3⟩, e1, fun g hg => by rw [m36, m37, m38, m39]; exact f1 g hg, fun g hg => by rw [r17, m42]; exact g1 g hg, by rw [r13, h3 14 (by simp)]; exact g2, by rw [r13, h3 15 (by simp)]; exact g3⟩
theorem PlanI_congr {σ σ' : Hp} {n : Nat} (h : PlanI σ n) (h1 : ∀ i, σ' 23 i = σ 23 i) (h2 : ∀ i, σ' 143 i = σ 143 i) : PlanI σ' n := fun j hj => by
  obtain ⟨p, q1, q2, q3⟩ := h j hj
  exact ⟨p, q1, by rw [h1]; exact q2, by rw [h2]; exact q3⟩
theorem TextI_congr {σ σ' : Hp} (h : TextI σ) (h1 : σ' 1 1 = σ 1 1) (h2 : σ' 134 2 = σ 134 2) (h3 : ∀ i, σ' 2 i = σ 2 i) (h4 : ∀ i, σ' 135 i = σ 135 i) : TextI σ' := by
  obtain ⟨len, q1, q2, q3, q4⟩ := h
  exact ⟨len, q1, by rw [h1]; exact q2, by rw [h2]; exact q3, fun j hj => by rw [h3, h4]; exact q4 j hj⟩
theorem Page_congr {σ σ' : Hp} {n o q a : Nat} (h : Page σ n o q a) (h1 : ∀ b i, o ≤ b → b ≤ o + 4 → σ' b i = σ b i) (h2 : ∀ i, σ' q i = σ q i) : Page σ' n o q a := by
  obtain ⟨t, s, d, nod, q0, q1, q2, q3, q4⟩ := h
  have k0 : σ' o = σ o := funext fun i => h1 o i (by omega) (by omega)
  have k1 : σ' (o + 1) = σ (o + 1) := funext fun i => h1 (o + 1) i (by omega) (by omega)
  have k2 : σ' (o + 2) = σ (o + 2) := funext fun i => h1 (o + 2) i (by omega) (by omega)
  have k3 : σ' (o + 3) = σ (o + 3) := funext fun i => h1 (o + 3) i (by omega) (by omega)
  have k4 : σ' (o + 4) = σ (o + 4) := funext fun i => h1 (o + 4) i (by omega) (by omega)
  have kq : σ' q = σ q := funext h2
  exact ⟨t, s, d, nod, q0, by rw [k1, k2, k3, k4, kq]; exact q1, by rw [k0]; exact q2, by rw [k0, kq]; exact q3, by rw [k0, kq]; exact q4⟩
theorem ActsI_congr {σ σ' : Hp} {n : Nat} (h : ActsI σ n) (h1 : σ' 24 1 = σ 24 1) (h2 : σ' 24 2 = σ 24 2) (h3 : σ' 134 25 = σ 134 25) (h4 : ∀ a i, 26 ≤ a → a ≤ 85 → σ' a i = σ a i) (h5 : ∀ i, σ' 148 i = σ 148 i) : ActsI σ' n := by
  obtain ⟨c, e, q1, q2, q3, q4, q5, q6⟩ := h
  exact ⟨c, e, q1, q2, by rw [h1]; exact q3, by rw [h2]; exact q4, by rw [h3]; exact q5, fun j hj => Page_congr (q6 j hj) (fun b i w1 w2 => h4 b i (by omega) (by omega)) h5⟩
theorem SlotI_congr {σ σ' : Hp} {n l : Nat} (hl : l < 2) (h : SlotI σ n l) (h1 : ∀ a i, 120 ≤ a → a ≤ 133 → σ' a i = σ a i) (h2 : ∀ i, σ' 149 i = σ 149 i) (h3 : ∀ i, σ' 150 i = σ 150 i) : SlotI σ' n l := by
  obtain ⟨f, q1, q2, q3⟩ := h
  refine ⟨f, by rw [h1 _ _ (by omega) (by omega)]; exact q1, by rw [h3]; exact q2, fun hf => ?_⟩
  obtain ⟨w1, ⟨ill, w2, w3⟩, w4⟩ := q3 hf
  refine ⟨Page_congr w1 (fun b i v1 v2 => h1 b i (by omega) (by omega)) h2, ⟨ill, by rw [h1 _ _ (by omega) (by omega)]; exact w2, fun g hg => by rw [h2]; exact w3 g hg⟩, fun j hj => ?_⟩
  obtain ⟨p, v1, v2, v3⟩ := w4 j hj
  exact ⟨p, v1, by rw [h1 _ _ (by omega) (by omega)]; exact v2, by rw [h2]; exact v3⟩
theorem BookI_congr {σ σ' : Hp} (h : BookI σ) (h1 : ∀ a i, 115 ≤ a → a ≤ 118 → σ' a i = σ a i) (h2 : σ' 134 28 = σ 134 28) (h3 : ∀ a i, 151 ≤ a → a ≤ 153 → σ' a i = σ a i) : BookI σ' := by
  obtain ⟨u, q1, q2, q3, q4⟩ := h
  refine ⟨u, q1, by rw [h1 _ _ (by decide) (by decide)]; exact q2, by rw [h2]; exact q3, fun j hj => ?_⟩
  rw [h1 116 j (by decide) (by decide), h1 117 j (by decide) (by decide), h1 118 j (by decide) (by decide), h3 151 j (by decide) (by decide), h3 152 j (by decide) (by decide), h3 153 j (by decide) (by decide)]
  exact q4 j hj
theorem SrchK_congr {σ σ' : Hp} {n beds lim : Nat} {tw : Nat → Option Nat} (h : SrchK σ n beds lim tw) (h1 : ∀ a i, 86 ≤ a → a ≤ 94 → σ' a i = σ a i) : SrchK σ' n beds lim tw := by
  obtain ⟨k, q1, q2, q3⟩ := h
  refine ⟨k, q1, by rw [h1 _ _ (by decide) (by decide)]; exact q2, fun hk => ?_⟩
  obtain ⟨w0, w3⟩ := q3 hk
  refine ⟨w0, fun t s d nod ill w1 w2 => ?_⟩
  obtain ⟨v1, v2, v3⟩ := w2
  have w4 := w3 t s d nod ill w1 ⟨fun g hg => by
    have := v1 g hg
    rw [h1 _ _ (by decide) (by decide), h1 _ _ (by decide) (by decide), h1 _ _ (by decide) (by decide)] at this
    exact this, by rw [h1 _ _ (by decide) (by decide)] at v2; exact v2, by rw [h1 _ _ (by decide) (by decide)] at v3; exact v3⟩
  rw [h1 86 6 (by decide) (by decide), h1 86 5 (by decide) (by decide)]
  have k89 : σ' 89 = σ 89 := funext fun i => h1 89 i (by decide) (by decide)
  rw [k89]
  exact w4
theorem SrchI_congr {σ σ' : Hp} {n beds lim : Nat} {tw : Nat → Option Nat} (h : SrchI σ n beds lim tw) (h1 : ∀ a i, 86 ≤ a → a ≤ 94 → σ' a i = σ a i) (h2 : ∀ i, σ' 6 i = σ 6 i) (h3 : ∀ i, σ' 10 i = σ 10 i) : SrchI σ' n beds lim tw := ⟨SrchK_congr h.1 h1, fun j q1 q2 => by rw [h2]; exact h.2.1 j q1 q2, fun g hg => by rw [h3]; exact h.2.2 g hg⟩
/-- what may change at will -/
def Scr (a i : Nat) : Prop := (3 ≤ a ∧ a ≤ 9 ∧ a ≠ 6) ∨ (18 ≤ a ∧ a ≤ 22) ∨ (a = 134 ∧ (i = 0 ∨ i = 3 ∨ i = 17 ∨ i = 18 ∨ i = 19)) ∨ (144 ≤ a ∧ a ≤ 147) ∨ 154 ≤ a
theorem Inv_scr {σ σ' : Hp} (h : Inv σ) (hf : ∀ a i, ¬ Scr a i → σ' a i = σ a i) : Inv σ' := by
  obtain ⟨n, beds, lim, tw, t, s, d, nod, ill, i1, i2, i3, i4, ⟨i5, i5'⟩, i6, i7⟩ := h
  refine ⟨n, beds, lim, tw, t, s, d, nod, ill, Core_congr i1 (fun a i q1 q2 => hf a i (by unfold Scr; omega)) (fun a i q1 q2 => hf a i (by unfold Scr; omega)) (fun i hi => hf 134 i (by unfold Scr; omega)), PlanI_congr i2 (fun i => hf _ i (by unfold Scr; omega)) (fun i => hf _ i (by unfold Scr; omega)), TextI_congr i3 (hf _ _ (by unfold Scr; omega)) (hf _ _ (by unfold Scr; omega)) (fun i => hf _ i (by unfold Scr; omega)) (fun i => hf _ i (by unfold Scr; omega)), ActsI_congr i4 (hf _ _ (by unfold Scr; omega)) (hf _ _ (by unfold Scr; omega)) (hf _ _ (by unfold Scr; omega)) (fun a i q1 q2 => hf a i (by unfold Scr; omega)) (fun i => hf _ i (by unfold Scr; omega)), ⟨SlotI_congr (by decide) i5 (fun a i q1 q2 => hf a i (by unfold Scr; omega)) (fun i => hf _ i (by unfold Scr; omega)) (fun i => hf _ i (by unfold Scr; omega)), SlotI_congr (by decide) i5' (fun a i q1 q2 => hf a i (by unfold Scr; omega)) (fun i => hf _ i (by unfold Scr; omega)) (fun i => hf _ i (by unfold Scr; omega))⟩, BookI_congr i6 (fun a i q1 q2 => hf a i (by unfold Scr; omega)) (hf _ _ (by unfold Scr; omega)) (fun a i q1 q2 => hf a i (by unfold Scr; omega)), SrchI_congr i7 (fun a i q1 q2 => hf a i (by unfold Scr; omega)) (fun i => hf 6 i (by unfold Scr; omega)) (fun i => hf 10 i (by unfold Scr; omega))⟩
/-- the start -/
theorem tw_start : ∀ g, g < 5 → hpF 12 g = (-9 : Int32) ∧ hpF 141 g = (-9 : Int32) := by decide +kernel
theorem num_start : hpF 11 1 = nI 0 ∧ hpF 11 2 = nI 0 ∧ hpF 11 3 = nI 1 ∧ hpF 134 4 = nI 0 ∧ hpF 134 5 = nI 0 ∧ hpF 134 6 = nI 1 ∧ hpF 13 5 = nI 0 ∧ hpF 13 6 = nI 0 ∧ hpF 13 7 = hpF 134 14 ∧ hpF 13 8 = hpF 134 15 ∧ hpF 1 1 = nI 0 ∧ hpF 134 2 = nI 0 ∧ hpF 24 1 = nI 0 ∧ hpF 24 2 = nI 0 ∧ hpF 134 25 = nI 0 ∧ hpF 120 2 = 0 ∧ hpF 127 2 = 0 ∧ hpF 150 0 = 0 ∧ hpF 150 1 = 0 ∧ hpF 115 3 = nI 0 ∧ hpF 134 28 = nI 0 ∧ hpF 86 4 = nI 0 := by decide +kernel
theorem draft_start : DraftI hpF := ⟨fun j q1 q2 => (by decide +kernel : ∀ j, j ≤ 8 → 5 ≤ j → hpF 6 j = 0) j q2 q1, by decide +kernel⟩
theorem plan_start : ∀ j, j < 4 → hpF 23 j = nI 0 ∧ hpF 143 j = nI 0 := by decide +kernel
theorem Inv_start : Inv hpF := by
  obtain ⟨a1, a2, a3, a4, a5, a6, a7, a8, a9, a10, a11, a12, a13, a14, a15, a16, a17, a18, a19, a20, a21, a22⟩ := num_start
  refine ⟨0, 0, 1, fun _ => none, fun _ => 0, fun _ => 0, fun _ => 0, fun _ => false, fun _ => false, ⟨⟨by decide, fun g k h => (by cases h), a1, fun g hg => (tw_start g hg).1⟩, a2, a3, by decide, by decide, ⟨by decide, fun g k h => (by cases h), a4, a5, a6, fun g hg => (tw_start g hg).2, fun g hg => absurd hg (Nat.not_lt_zero g)⟩, ⟨fun g hg => absurd hg (Nat.not_lt_zero g), a7, a8⟩, fun g hg => absurd hg (Nat.not_lt_zero g), fun g hg => absurd hg (Nat.not_lt_zero g), fun g hg => absurd hg (Nat.not_lt_zero g), a9, a10⟩, fun j hj => ⟨0, by decide, (plan_start j hj).1, (plan_start j hj).2⟩, ⟨0, by decide, a11, a12, fun j hj => absurd hj (Nat.not_lt_zero j)⟩, ⟨0, 0, by decide, by decide, a13, a14, a15, fun j hj => absurd hj (Nat.not_lt_zero j)⟩, ⟨⟨false, a16, a18, fun h => by cases h⟩, ⟨false, a17, a19, fun h => by cases h⟩⟩, ⟨0, by decide, a20, a21, fun j hj => absurd hj (Nat.not_lt_zero j)⟩, ⟨⟨0, by decide, a22, fun h => absurd h (by decide)⟩, draft_start⟩⟩
