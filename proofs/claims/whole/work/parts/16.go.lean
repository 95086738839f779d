/-! the reference's own quarter -/
def b2i (b : Bool) : Int32 := if b = true then 1 else 0
theorem b2i_0 (b : Bool) : (b2i b = 0) = (b = false) := by cases b <;> simp [b2i]
theorem b2i_t : b2i true = 1 := rfl
theorem b2i_f : b2i false = 0 := rfl
theorem nar_b (b : Bool) : vp_nar .boolean (b2i b) = b2i b := by cases b <;> rfl
def MV (σ : Hp) (n beds lim : Nat) (tw : Nat → Option Nat) (ill : Nat → Bool) : Prop := n ≤ 5 ∧ TwOK n tw ∧ σ 134 4 = nI n ∧ σ 134 5 = nI beds ∧ σ 134 6 = nI lim ∧ (∀ g, g < 5 → σ 141 g = twI (tw g)) ∧ ∀ g, g < n → σ 140 g = b2i (ill g)
def SV (σ : Hp) (n : Nat) (t s d : Nat → Nat) (nod : Nat → Bool) : Prop := ∀ g, g < n → σ 154 g = nI (t g) ∧ σ 155 g = nI (s g) ∧ σ 156 g = nI (d g) ∧ σ 157 g = b2i (nod g)
def FrM (σ σ' : Hp) : Prop := ∀ a i, a ≠ 154 → a ≠ 155 → a ≠ 156 → a ≠ 157 → σ' a i = σ a i
theorem FrM_refl (σ : Hp) : FrM σ σ := fun _ _ _ _ _ _ => rfl
theorem FrM_trans {σ σ1 σ2 : Hp} (h1 : FrM σ σ1) (h2 : FrM σ1 σ2) : FrM σ σ2 := fun a i q1 q2 q3 q4 => (h2 a i q1 q2 q3 q4).trans (h1 a i q1 q2 q3 q4)
theorem MV_fr {σ σ' : Hp} {n beds lim : Nat} {tw : Nat → Option Nat} {ill : Nat → Bool} (f : FrM σ σ') (h : MV σ n beds lim tw ill) : MV σ' n beds lim tw ill := by
  obtain ⟨h1, h2, h3, h4, h5, h6, h7⟩ := h
  refine ⟨h1, h2, ?_, ?_, ?_, fun g hg => ?_, fun g hg => ?_⟩
  · rw [f 134 4 (by decide) (by decide) (by decide) (by decide)]; exact h3
  · rw [f 134 5 (by decide) (by decide) (by decide) (by decide)]; exact h4
  · rw [f 134 6 (by decide) (by decide) (by decide) (by decide)]; exact h5
  · rw [f 141 g (by decide) (by decide) (by decide) (by decide)]; exact h6 g hg
  · rw [f 140 g (by decide) (by decide) (by decide) (by decide)]; exact h7 g hg
theorem has_ok (σ : Hp) {m g : Nat} (hm : m < 32) (hg : g < 5) : f_X9_has σ (nI m) (nI g) = some (b2i (m.testBit g), σ) := by
  simp only [f_X9_has]
  rw [bt_shr m hm g hg]
  cases m.testBit g
  · rw [if_neg (by decide), zr_0]; rfl
  · rw [if_pos (by decide), zr_1]; rfl
def gv (tw : Nat → Option Nat) (s : Nat → Nat) (m : Nat) (ill : Nat → Bool) (g : Nat) : Nat := match tw g with
  | none => g
  | some k => if m.testBit k = true ∧ ill k = false then (if s (max g k) ≤ s (min g k) then min g k else max g k) else g
theorem gv_lt {n : Nat} {tw : Nat → Option Nat} (htw : TwOK n tw) (s : Nat → Nat) (m : Nat) (ill : Nat → Bool) {g : Nat} (hg : g < n) : gv tw s m ill g < n := by
  unfold gv
  cases h : tw g with
  | none => exact hg
  | some k =>
    obtain ⟨-, h2, -, -⟩ := htw g k h
    simp only
    split
    · split
      · exact Nat.lt_of_le_of_lt (Nat.min_le_left g k) hg
      · exact Nat.max_lt.mpr ⟨hg, h2⟩
    · exact hg
theorem giver_ok {σ : Hp} {n beds lim : Nat} {tw : Nat → Option Nat} {ill : Nat → Bool} {t s d : Nat → Nat} {nod : Nat → Bool} (hM : MV σ n beds lim tw ill) (hS : SV σ n t s d nod) (hs9 : ∀ g, g < n → s g ≤ 9) {m g : Nat} (hm : m < 32) (hg : g < n) : f_X9_giver σ (nI g) (nI m) = some (nI (gv tw s m ill g), σ) := by
  obtain ⟨hn, htw, h4, h5, h6, h7, h8⟩ := hM
  have hg5 : g < 5 := by omega
  simp only [f_X9_giver, Lt]
  rw [ck_ok _ hg5 (by decide), ix_nI (by omega), h7 g hg5]
  unfold gv
  cases hk : tw g with
  | none => rw [twI_none, if_pos rfl]
  | some k =>
    obtain ⟨-, k2, k3, k4⟩ := htw g k hk
    have hk5 : k < 5 := by omega
    rw [twI_some]
    rw [if_neg (m9_ne k hk5), bd_ok (has_ok σ hm hk5)]
    simp only [b2i_0]
    by_cases hb : m.testBit k = false
    · rw [if_pos hb, if_neg (fun q => by rw [hb] at q; cases q.1)]
    · have hb1 : m.testBit k = true := by simpa using hb
      rw [if_neg hb, ck_ok _ hk5 (by decide), ix_nI (by omega), h8 k k2]
      simp only [b2i_0]
      by_cases hi : ill k = false
      · rw [if_pos hi, if_pos (⟨hb1, hi⟩ : m.testBit k = true ∧ ill k = false)]
        have hsg := (hS g hg).2.1
        have hsk := (hS k k2).2.1
        have b1 := hs9 g hg
        have b2 := hs9 k k2
        by_cases hkg : k ≤ g
        · rw [if_pos (nI_le hkg (by omega))]
          simp only [f_X9_giver_42]
          rw [if_pos (nI_le hkg (by omega))]
          simp only [f_X9_giver_54]
          rw [ck_ok _ hg5 (by decide), ck_ok _ hk5 (by decide), ix_nI (by omega), ix_nI (by omega), hsg, hsk, Nat.max_eq_left hkg, Nat.min_eq_right hkg]
          by_cases hle : s g ≤ s k
          · rw [if_pos (nI_le hle (by omega)), if_pos hle]
          · rw [if_neg (nI_ge (by omega) (by omega)), if_neg hle]
        · have hgk : g < k := by omega
          rw [if_neg (nI_ge hgk (by omega))]
          simp only [f_X9_giver_42]
          rw [if_neg (nI_ge hgk (by omega))]
          simp only [f_X9_giver_54]
          rw [ck_ok _ hk5 (by decide), ck_ok _ hg5 (by decide), ix_nI (by omega), ix_nI (by omega), hsg, hsk, Nat.max_eq_right (by omega), Nat.min_eq_left (by omega)]
          by_cases hle : s k ≤ s g
          · rw [if_pos (nI_le hle (by omega)), if_pos hle]
          · rw [if_neg (nI_ge (by omega) (by omega)), if_neg hle]
      · rw [if_neg hi, if_neg (fun q => hi q.2)]
/-- who gives is its own giver, and pays -/
theorem Giv_iff {n : Nat} {tw : Nat → Option Nat} (htw : TwOK n tw) (s : Nat → Nat) (m : Nat) (ill : Nat → Bool) {g : Nat} (hg : g < n) : Giv n tw s m ill g = true ↔ PayS m ill g = true ∧ gv tw s m ill g = g := by
  unfold Giv Gd gv
  cases hk : tw g with
  | none => simp
  | some k =>
    obtain ⟨-, k2, k3, k4⟩ := htw g k hk
    have hmin : min g k < n := Nat.lt_of_le_of_lt (Nat.min_le_left g k) hg
    simp only [Bool.and_eq_true]
    have hp : (PayS m ill k = true) = (m.testBit k = true ∧ ill k = false) := by
      unfold PayS; simp
    by_cases hc : m.testBit k = true ∧ ill k = false
    · rw [if_pos (show PayS m ill k = true ∧ min g k < n from ⟨by rw [hp]; exact hc, hmin⟩), if_pos hc]
      rcases Nat.lt_or_ge g k with h | h
      · rw [if_pos h, Nat.max_eq_right (by omega), Nat.min_eq_left (by omega)]
        by_cases hs : s k ≤ s g
        · simp [hs]
        · rw [if_neg hs]; simp [hs]; omega
      · have h' : k < g := by omega
        rw [if_neg (by omega), Nat.max_eq_left h, Nat.min_eq_right h]
        by_cases hs : s g ≤ s k
        · rw [if_pos hs]; simp [show ¬ s k < s g by omega]; omega
        · rw [if_neg hs]; simp [show s k < s g by omega]
    · rw [if_neg (show ¬ (PayS m ill k = true ∧ min g k < n) from fun q => hc (by rw [← hp]; exact q.1)), if_neg hc]; simp
theorem gv_self {n : Nat} {tw : Nat → Option Nat} (htw : TwOK n tw) (s : Nat → Nat) (m : Nat) (ill : Nat → Bool) {g : Nat} (hg : g < n) (hp : PayS m ill g = true) : PayS m ill (gv tw s m ill g) = true ∧ gv tw s m ill (gv tw s m ill g) = gv tw s m ill g := by
  have hpe : ∀ k, (PayS m ill k = true) = (m.testBit k = true ∧ ill k = false) := fun k => by unfold PayS; simp
  cases hk : tw g with
  | none =>
    have e : gv tw s m ill g = g := by unfold gv; rw [hk]
    rw [e]; exact ⟨hp, e⟩
  | some k =>
    obtain ⟨-, k2, k3, k4⟩ := htw g k hk
    by_cases hc : m.testBit k = true ∧ ill k = false
    · have e : gv tw s m ill g = if s (max g k) ≤ s (min g k) then min g k else max g k := by unfold gv; rw [hk]; simp only; rw [if_pos hc]
      have e2 : gv tw s m ill k = if s (max g k) ≤ s (min g k) then min g k else max g k := by
        unfold gv; rw [k4]; simp only; rw [if_pos (by rw [← hpe]; exact hp), Nat.max_comm, Nat.min_comm]
      rcases (show gv tw s m ill g = g ∨ gv tw s m ill g = k by
        rw [e]
        rcases Nat.lt_or_ge g k with h | h
        · rw [Nat.max_eq_right (by omega), Nat.min_eq_left (by omega)]; split <;> simp
        · rw [Nat.max_eq_left h, Nat.min_eq_right h]; split <;> simp) with q | q
      · rw [q]; exact ⟨hp, q⟩
      · rw [q]; exact ⟨by rw [hpe]; exact hc, by rw [e2, ← e, q]⟩
    · have e : gv tw s m ill g = g := by unfold gv; rw [hk]; simp only; rw [if_neg hc]
      rw [e]; exact ⟨hp, e⟩
def ckG (tw : Nat → Option Nat) (s d : Nat → Nat) (m : Nat) (ill : Nat → Bool) (g : Nat) : Bool := !m.testBit g || (if ill g = true then decide (d g < 9) else decide (0 < s (gv tw s m ill g)))
theorem canBe_loop {σ : Hp} {n beds lim : Nat} {tw : Nat → Option Nat} {ill : Nat → Bool} {t s d : Nat → Nat} {nod : Nat → Bool} (hM : MV σ n beds lim tw ill) (hb5 : beds ≤ 5) (hS : SV σ n t s d nod) (hb : BN n t s d) {m : Nat} (hm : m < 32) : ∀ (k i fuel : Nat) (can : Bool), i + k = n → k < fuel → f_X9_canBe_7 fuel σ (nI m) (nI (cnt i m.testBit)) (b2i can) (nI i) = some (b2i (can && allB (ckG tw s d m ill) i k && decide (cnt n m.testBit ≤ beds)), σ) := by
  have hn := hM.1
  have h4 := hM.2.2.1
  have hbd := hM.2.2.2.1
  have h8 := hM.2.2.2.2.2.2
  intro k
  induction k with
  | zero =>
    intro i fuel can hi hf
    obtain ⟨f, rfl⟩ : ∃ f, fuel = f + 1 := ⟨fuel - 1, by omega⟩
    have hin : i = n := by omega
    subst hin
    have hcl := cnt_le m.testBit i
    simp only [f_X9_canBe_7]
    rw [h4, if_pos (nI_le (Nat.le_refl _) (by omega)), hbd]
    simp only [b2i_0]
    cases can with
    | false => rw [if_pos rfl, zr_0]; rfl
    | true =>
      rw [if_neg (by decide)]
      by_cases h : cnt i m.testBit ≤ beds
      · rw [if_neg (nI_nlt h (by omega)), zr_1]; simp [allB, h, b2i]
      · rw [if_pos (nI_lt (by omega) (by omega)), zr_0]; simp [allB, h, b2i]
  | succ k ih =>
    intro i fuel can hi hf
    obtain ⟨f, rfl⟩ : ∃ f, fuel = f + 1 := ⟨fuel - 1, by omega⟩
    have hin : i < n := by omega
    have hi5 : i < 5 := by omega
    obtain ⟨bt, bs, bd'⟩ := hb i hin
    obtain ⟨e1, e2, e3, e4⟩ := hS i hin
    simp only [f_X9_canBe_7]
    rw [h4, if_neg (nI_ge hin (by omega)), bd_ok (has_ok σ hm hi5)]
    simp only [b2i_0]
    by_cases hmi : m.testBit i = false
    · rw [if_pos hmi]
      simp only [f_X9_canBe_78, Lt]
      have hcn : cnt (i + 1) m.testBit = cnt i m.testBit := by simp [cnt, hmi]
      rw [ni_add1, ← hcn, ih (i + 1) f can (by omega) (by omega)]
      simp [allB, ckG, hmi]
    · have hm1 : m.testBit i = true := by simpa using hmi
      rw [if_neg hmi]
      have hcn : cnt (i + 1) m.testBit = cnt i m.testBit + 1 := by simp [cnt, hm1]
      have fin : ∀ c : Bool, f_X9_canBe_77 (f_X9_canBe_7 f) σ (nI m) (nI (cnt i m.testBit) + 1) (nI i) (b2i c) = some (b2i (c && allB (ckG tw s d m ill) (i + 1) k && decide (cnt n m.testBit ≤ beds)), σ) := by
        intro c
        simp only [f_X9_canBe_77, f_X9_canBe_78, Lt]
        rw [ni_add1, ni_add1, ← hcn]
        exact ih (i + 1) f c (by omega) (by omega)
      simp only [Lt, f_X9_canBe_76, f_X9_canBe_72]
      cases can with
      | false =>
        rw [if_pos rfl]
        have := fin false
        rw [b2i_f] at this
        rw [this]; simp [b2i]
      | true =>
        rw [if_neg (by decide), ck_ok _ hi5 (by decide), ix_nI (by omega), h8 i hin]
        simp only [b2i_0]
        by_cases hil : ill i = false
        · have hgl := gv_lt hM.2.1 s m ill hin
          rw [if_pos hil, bd_ok (giver_ok hM hS (fun g hg => (hb g hg).2.1) hm hin), ck_ok _ (by omega) (by decide), ix_nI (by omega), (hS _ hgl).2.1]
          have b9 := (hb _ hgl).2.1
          by_cases hz : s (gv tw s m ill i) = 0
          · rw [if_pos (by rw [hz]; decide)]
            have := fin false
            rw [b2i_f] at this
            rw [this]; simp [allB, ckG, hm1, hil, hz, b2i]
          · rw [if_neg (nI_nle (by omega) (by omega))]
            have := fin true
            rw [b2i_t] at this
            rw [this]; simp [allB, ckG, hm1, hil, show 0 < s (gv tw s m ill i) by omega]
        · have hi1 : ill i = true := by simpa using hil
          rw [if_neg hil, ck_ok _ hi5 (by decide), e3]
          by_cases h9 : d i < 9
          · rw [if_neg (show ¬ (9 : Int32) ≤ nI (d i) from nI_ge h9 (by decide))]
            have := fin true
            rw [b2i_t] at this
            rw [this]; simp [allB, ckG, hm1, hi1, h9]
          · rw [if_pos (show (9 : Int32) ≤ nI (d i) from nI_le (a := 9) (by omega) (by omega))]
            have := fin false
            rw [b2i_f] at this
            rw [this]; simp [allB, ckG, hm1, hi1, h9, b2i]
theorem may_same {n : Nat} {tw : Nat → Option Nat} (htw : TwOK n tw) (s d : Nat → Nat) (m : Nat) (ill : Nat → Bool) : allB (okG n tw s d m ill) 0 n = allB (ckG tw s d m ill) 0 n := by
  rw [Bool.eq_iff_iff, allB_iff, allB_iff]
  have hpe : ∀ k, (PayS m ill k = true) = (m.testBit k = true ∧ ill k = false) := fun k => by unfold PayS; simp
  have hok : ∀ g, okG n tw s d m ill g = true ↔ (Giv n tw s m ill g = true → 1 ≤ s g) ∧ (m.testBit g = true → ill g = true → d g < 9) := by
    intro g
    unfold okG
    cases Giv n tw s m ill g <;> cases m.testBit g <;> cases ill g <;> simp
  have hck : ∀ g, ckG tw s d m ill g = true ↔ (m.testBit g = true → if ill g = true then d g < 9 else 0 < s (gv tw s m ill g)) := by
    intro g
    unfold ckG
    cases m.testBit g <;> cases ill g <;> simp
  constructor
  · intro h g h1 h2
    have hg : g < n := by omega
    rw [hck]
    intro hm
    by_cases hi : ill g = true
    · rw [if_pos hi]; exact ((hok g).mp (h g h1 h2)).2 hm hi
    · rw [if_neg hi]
      have hp : PayS m ill g = true := by rw [hpe]; exact ⟨hm, by simpa using hi⟩
      obtain ⟨q1, q2⟩ := gv_self htw s m ill hg hp
      have hl := gv_lt htw s m ill hg
      exact ((hok _).mp (h _ (Nat.zero_le _) (by omega))).1 ((Giv_iff htw s m ill hl).mpr ⟨q1, q2⟩)
  · intro h g h1 h2
    have hg : g < n := by omega
    rw [hok]
    refine ⟨fun q => ?_, fun q1 q2 => ?_⟩
    · obtain ⟨p1, p2⟩ := (Giv_iff htw s m ill hg).mp q
      rw [hpe] at p1
      have := (hck g).mp (h g h1 h2) p1.1
      rw [if_neg (by rw [p1.2]; decide), p2] at this
      exact this
    · have := (hck g).mp (h g h1 h2) q1
      rw [if_pos q2] at this
      exact this
theorem canBe_ok {σ : Hp} {n beds lim : Nat} {tw : Nat → Option Nat} {ill : Nat → Bool} {t s d : Nat → Nat} {nod : Nat → Bool} (hM : MV σ n beds lim tw ill) (hb5 : beds ≤ 5) (hS : SV σ n t s d nod) (hb : BN n t s d) {m : Nat} (hm : m < 2 ^ n) : f_X9_canBe σ (nI m) = some (b2i (mayB n beds tw s d m ill), σ) := by
  have hm5 : m < 32 := Nat.lt_of_lt_of_le hm (Nat.pow_le_pow_right (by decide) hM.1)
  have h := canBe_loop hM hb5 hS hb hm5 n 0 FU true (by omega) (FU_big (by have := hM.1; omega))
  simp only [f_X9_canBe]
  refine Eq.trans h ?_
  unfold mayB
  rw [may_same hM.2.1 s d m ill]
  simp [Bool.and_comm]
