def gset (tw : Nat → Option Nat) (s : Nat → Nat) (m : Nat) (ill : Nat → Bool) : Nat → Nat → Bool
  | 0, _ => false
  | i + 1, g => gset tw s m ill i g || (PayS m ill i && decide (gv tw s m ill i = g))
theorem gset_iff (tw : Nat → Option Nat) (s : Nat → Nat) (m : Nat) (ill : Nat → Bool) (g : Nat) : ∀ i, gset tw s m ill i g = true ↔ ∃ x, x < i ∧ PayS m ill x = true ∧ gv tw s m ill x = g
  | 0 => by simp [gset]
  | i + 1 => by
    simp only [gset, Bool.or_eq_true, Bool.and_eq_true, decide_eq_true_eq]
    rw [gset_iff tw s m ill g i]
    constructor
    · rintro (⟨x, h1, h2, h3⟩ | ⟨h1, h2⟩)
      · exact ⟨x, by omega, h2, h3⟩
      · exact ⟨i, by omega, h1, h2⟩
    · rintro ⟨x, h1, h2, h3⟩
      by_cases e : x = i
      · subst e; exact Or.inr ⟨h2, h3⟩
      · exact Or.inl ⟨x, by omega, h2, h3⟩
theorem gset_n {n : Nat} {tw : Nat → Option Nat} (htw : TwOK n tw) (s : Nat → Nat) (m : Nat) (ill : Nat → Bool) {g : Nat} (hg : g < n) : gset tw s m ill n g = Giv n tw s m ill g := by
  rw [Bool.eq_iff_iff, gset_iff, Giv_iff htw s m ill hg]
  constructor
  · rintro ⟨x, h1, h2, h3⟩
    have := gv_self htw s m ill h1 h2
    rw [h3] at this
    exact this
  · intro h
    exact ⟨g, hg, h.1, h.2⟩
theorem go4_loop {σ : Hp} {n beds lim : Nat} {tw : Nat → Option Nat} {ill : Nat → Bool} {t s d : Nat → Nat} {nod : Nat → Bool} (hM : MV σ n beds lim tw ill) (hS : SV σ n t s d nod) (hb : BN n t s d) {m : Nat} (hm : m < 32) : ∀ (k i fuel : Nat), i + k = n → k < fuel → f_X9_go_4 fuel σ (nI m) (nI (mk n (gset tw s m ill i))) (nI i) = f_X9_go_51 FU σ (nI m) (nI (mk n (Giv n tw s m ill))) 0 0 := by
  have hn := hM.1
  have h4 := hM.2.2.1
  have h8 := hM.2.2.2.2.2.2
  intro k
  induction k with
  | zero =>
    intro i fuel hi hf
    obtain ⟨f, rfl⟩ : ∃ f, fuel = f + 1 := ⟨fuel - 1, by omega⟩
    have hin : i = n := by omega
    subst hin
    simp only [f_X9_go_4]
    rw [h4, if_pos (nI_le (Nat.le_refl _) (by omega)), mk_congr (fun g hg => gset_n hM.2.1 s m ill hg)]
  | succ k ih =>
    intro i fuel hi hf
    obtain ⟨f, rfl⟩ : ∃ f, fuel = f + 1 := ⟨fuel - 1, by omega⟩
    have hin : i < n := by omega
    have hi5 : i < 5 := by omega
    have step : f_X9_go_40 (f_X9_go_4 f) σ (nI m) (nI (mk n (gset tw s m ill (i + 1)))) (nI i) = f_X9_go_51 FU σ (nI m) (nI (mk n (Giv n tw s m ill))) 0 0 := by
      simp only [f_X9_go_40, Lt]
      rw [ni_add1]
      exact ih (i + 1) f (by omega) (by omega)
    simp only [f_X9_go_4]
    rw [h4, if_neg (nI_ge hin (by omega)), bd_ok (has_ok σ hm hi5)]
    simp only [b2i_0]
    by_cases hmi : m.testBit i = false
    · have same : mk n (gset tw s m ill (i + 1)) = mk n (gset tw s m ill i) := mk_congr (fun g hg => by simp [gset, PayS, hmi])
      rw [if_pos hmi, ← same]; exact step
    · have hm1 : m.testBit i = true := by simpa using hmi
      rw [if_neg hmi, ck_ok _ hi5 (by decide), ix_nI (by omega), h8 i hin]
      simp only [b2i_0]
      by_cases hil : ill i = false
      · have hgl := gv_lt hM.2.1 s m ill hin
        rw [if_pos hil, bd_ok (giver_ok hM hS (fun g hg => (hb g hg).2.1) hm hin)]
        simp only [Lt]
        rw [up_or hn hgl]
        have same : mk n (va_up (gset tw s m ill i) (gv tw s m ill i) true) = mk n (gset tw s m ill (i + 1)) := mk_congr (fun g hg => by
          by_cases e : g = gv tw s m ill i
          · subst e; simp [va_up, gset, PayS, hm1, hil]
          · rw [va_up_ne _ _ e]; simp [gset, Ne.symm e])
        rw [same]; exact step
      · have hi1 : ill i = true := by simpa using hil
        have same : mk n (gset tw s m ill (i + 1)) = mk n (gset tw s m ill i) := mk_congr (fun g hg => by simp [gset, PayS, hi1])
        rw [if_neg hil, ← same]; exact step
def awI (lim m : Nat) (t : Nat → Nat) (nod : Nat → Bool) (i g : Nat) : Bool := decide (g < i) && aw lim m t nod g
theorem go299 {σ : Hp} {n lim m i : Nat} {t : Nat → Nat} {nod : Nat → Bool} (hn : n ≤ 5) (hin : i < n) (hm : m < 32) (h : σ 157 i = b2i (nod1 lim m t nod i)) (k : Hp → Int32 → Int32 → Int32 → Int32 → Option (Int32 × Hp)) (G : Int32) : f_X9_go_299 k σ (nI m) G (nI (mk n (awI lim m t nod i))) (nI i) = k σ (nI m) G (nI (mk n (awI lim m t nod (i + 1)))) (nI (i + 1)) := by
  have hi5 : i < 5 := by omega
  have z : ∀ a : Nat, nI (mk n (awI lim m t nod a)) ||| (0 : Int32) = nI (mk n (awI lim m t nod a)) := fun a => by
    have := bt_or2 (mk n (awI lim m t nod a)) (mk_lt32 hn _) 0 (by decide)
    rw [Nat.or_zero] at this
    exact this
  simp only [f_X9_go_299]
  rw [bd_ok (has_ok σ hm hi5)]
  simp only [b2i_0]
  by_cases hmi : m.testBit i = false
  · rw [if_pos hmi, ck_ok _ hi5 (by decide), ix_nI (by omega), h]
    simp only [b2i_0]
    by_cases hno : nod1 lim m t nod i = false
    · rw [if_pos hno]
      simp only [f_X9_go_327, Lt]
      rw [ni_add1, up_or hn hin]
      have : mk n (va_up (awI lim m t nod i) i true) = mk n (awI lim m t nod (i + 1)) := mk_congr (fun g hg => by
        by_cases e : g = i
        · subst e; simp [va_up, awI, aw, hmi, hno]
        · have q : (g < i) = (g < i + 1) := propext (by omega)
          rw [va_up_ne _ _ e]; simp only [awI, q])
      rw [this]
    · have hno1 : nod1 lim m t nod i = true := by simpa using hno
      rw [if_neg hno]
      simp only [f_X9_go_326, f_X9_go_327, Lt]
      rw [ni_add1, z]
      have : mk n (awI lim m t nod i) = mk n (awI lim m t nod (i + 1)) := mk_congr (fun g hg => by
        by_cases e : g = i
        · subst e; simp [awI, aw, hno1]
        · have q : (g < i) = (g < i + 1) := propext (by omega)
          simp only [awI, q])
      rw [this]
  · have hm1 : m.testBit i = true := by simpa using hmi
    rw [if_neg hmi]
    simp only [f_X9_go_326, f_X9_go_327, Lt]
    rw [ni_add1, z]
    have : mk n (awI lim m t nod i) = mk n (awI lim m t nod (i + 1)) := mk_congr (fun g hg => by
      by_cases e : g = i
      · subst e; simp [awI, aw, hm1]
      · have q : (g < i) = (g < i + 1) := propext (by omega)
        simp only [awI, q])
    rw [this]
theorem a_l4 : ∀ l, l < 100 → ∀ t, t < 100 → (nI t ≤ nI l - 4 ↔ ¬ l < t + 4) := by decide +kernel
/-- one guard of the reference's quarter -/
theorem go_one {σ : Hp} {n beds lim : Nat} {tw : Nat → Option Nat} {ill G : Nat → Bool} {t s d : Nat → Nat} {nod : Nat → Bool} (hM : MV σ n beds lim tw ill) (hl9 : lim < 100) (hb : BN n t s d) {m : Nat} (hm : m < 32) (hG : ∀ g, g < n → G g = true → 1 ≤ s g) (hd9 : ∀ g, g < n → m.testBit g = true → ill g = true → d g < 9) {i f : Nat} (hin : i < n) (hS : SV σ n (mix i t (t1 m t nod)) (mix i s (s1 G s)) (mix i d (d1 m ill d)) (mix i nod (nod1 lim m t nod))) :
    ∃ σ', f_X9_go_51 (f + 1) σ (nI m) (nI (mk n G)) (nI (mk n (awI lim m t nod i))) (nI i) = f_X9_go_51 f σ' (nI m) (nI (mk n G)) (nI (mk n (awI lim m t nod (i + 1)))) (nI (i + 1)) ∧ SV σ' n (mix (i + 1) t (t1 m t nod)) (mix (i + 1) s (s1 G s)) (mix (i + 1) d (d1 m ill d)) (mix (i + 1) nod (nod1 lim m t nod)) ∧ FrM σ σ' := by
  obtain ⟨hn, htw, h4, h5, h6, h7, h8⟩ := hM
  have hi5 : i < 5 := by omega
  obtain ⟨e1, e2, e3, e4⟩ := hS i hin
  rw [mix_at] at e1 e2 e3 e4
  obtain ⟨b1, b2, b3⟩ := hb i hin
  have hb1 := t1_le m t nod i b1
  -- the heap behind this guard
  have key : ∀ (σ' : Hp), σ' = wr (wr (wr (wr σ 155 i (nI (s1 G s i))) 156 i (nI (d1 m ill d i))) 154 i (nI (t1 m t nod i))) 157 i (b2i (nod1 lim m t nod i)) → SV σ' n (mix (i + 1) t (t1 m t nod)) (mix (i + 1) s (s1 G s)) (mix (i + 1) d (d1 m ill d)) (mix (i + 1) nod (nod1 lim m t nod)) ∧ FrM σ σ' := by
    intro σ' e
    subst e
    refine ⟨fun g hg => ?_, fun a j q1 q2 q3 q4 => by simp [wr_at, q1, q2, q3, q4]⟩
    obtain ⟨g1, g2, g3, g4⟩ := hS g hg
    by_cases e : g = i
    · subst e
      simp [wr_at, mix]
    · rw [← mix_succ, ← mix_succ, ← mix_succ, ← mix_succ, va_up_ne _ _ e, va_up_ne _ _ e, va_up_ne _ _ e, va_up_ne _ _ e]
      simp [wr_at, e, g1, g2, g3, g4]
  refine ⟨_, ?_, key _ rfl⟩
  have hGb := has_ok (m := mk n G) σ (mk_lt32 hn G) hi5
  rw [mk_bit n G i hin] at hGb
  have hs1 : nI (s i) - b2i (G i) = nI (s1 G s i) := by
    unfold s1
    cases hg : G i with
    | false => simp [b2i]
    | true =>
      have := hG i hin hg
      simp only [if_true, b2i]
      exact a_s1 (s i) (by omega) this
  have hd1 : nI (d i) + b2i (m.testBit i && ill i) = nI (d1 m ill d i) := by
    unfold d1
    cases hx : m.testBit i <;> cases hy : ill i <;> simp [b2i, ni_add1]
  -- the last two stores
  have fin : ∀ (σ2 : Hp) (b : Bool), b = nod1 lim m t nod i → σ2 = wr (wr (wr σ 155 i (nI (s1 G s i))) 156 i (nI (d1 m ill d i))) 154 i (nI (t1 m t nod i)) → f_X9_go_299 (f_X9_go_51 f) (wr σ2 157 i (vp_nar .boolean (b2i b))) (nI m) (nI (mk n G)) (nI (mk n (awI lim m t nod i))) (nI i) = f_X9_go_51 f (wr (wr (wr (wr σ 155 i (nI (s1 G s i))) 156 i (nI (d1 m ill d i))) 154 i (nI (t1 m t nod i))) 157 i (b2i (nod1 lim m t nod i))) (nI m) (nI (mk n G)) (nI (mk n (awI lim m t nod (i + 1)))) (nI (i + 1)) := by
    intro σ2 b hb' h2
    rw [nar_b, hb', go299 hn hin hm (by simp [wr_at]), h2]
  have third : f_X9_go_116 (f_X9_go_51 f) (wr σ 155 i (nI (s1 G s i))) (nI m) (nI (mk n G)) (nI (mk n (awI lim m t nod i))) (nI i) (b2i (m.testBit i && ill i)) (nI (d i)) (nI i) = f_X9_go_51 f (wr (wr (wr (wr σ 155 i (nI (s1 G s i))) 156 i (nI (d1 m ill d i))) 154 i (nI (t1 m t nod i))) 157 i (b2i (nod1 lim m t nod i))) (nI m) (nI (mk n G)) (nI (mk n (awI lim m t nod (i + 1)))) (nI (i + 1)) := by
    simp only [f_X9_go_116, Lt]
    rw [ck_ok _ hi5 (by decide), ix_nI (by omega), hd1, bd_ok (has_ok _ hm hi5)]
    have r157 : (wr (wr σ 155 i (nI (s1 G s i))) 156 i (nI (d1 m ill d i))) 157 i = b2i (nod i) := by simp [wr_at, e4]
    have r154 : (wr (wr σ 155 i (nI (s1 G s i))) 156 i (nI (d1 m ill d i))) 154 i = nI (t i) := by simp [wr_at, e1]
    have r134 : ∀ v, (wr (wr (wr σ 155 i (nI (s1 G s i))) 156 i (nI (d1 m ill d i))) 154 i v) 134 6 = nI lim := by intro v; simp [wr_at, h6]
    have s154 : ∀ v, (wr (wr (wr σ 155 i (nI (s1 G s i))) 156 i (nI (d1 m ill d i))) 154 i v) 154 i = v := by intro v; simp [wr_at]
    generalize hσ2 : wr (wr σ 155 i (nI (s1 G s i))) 156 i (nI (d1 m ill d i)) = σ2 at r157 r154 r134 s154 fin ⊢
    rw [r157, r154]
    simp only [b2i_0]
    by_cases hmi : m.testBit i = false
    · rw [if_pos hmi, ck_ok _ hi5 (by decide)]
      by_cases hno : nod i = false
      · have et : t1 m t nod i = min 99 (t i + 2) := by simp [t1, hmi, hno]
        have en : nod1 lim m t nod i = decide (lim ≤ t1 m t nod i) := by simp [nod1, hmi, hno]
        have g272 : f_X9_go_272 (f_X9_go_51 f) σ2 (nI m) (nI (mk n G)) (nI (mk n (awI lim m t nod i))) (nI i) (nI (t1 m t nod i)) (nI i) = f_X9_go_51 f (wr (wr σ2 154 i (nI (t1 m t nod i))) 157 i (b2i (nod1 lim m t nod i))) (nI m) (nI (mk n G)) (nI (mk n (awI lim m t nod (i + 1)))) (nI (i + 1)) := by
          simp only [f_X9_go_272, f_X9_go_298, Lt]
          rw [ck_ok _ hi5 (by decide), ck_ok _ hi5 (by decide), ck_ok _ hi5 (by decide), ck_ok _ hi5 (by decide), ix_nI (by omega), s154, r134]
          by_cases hlt : t1 m t nod i < lim
          · rw [if_pos (nI_lt hlt (by omega))]
            have := fin _ false (by rw [en]; simp; omega) rfl
            rw [b2i_f] at this
            exact this
          · rw [if_neg (nI_nlt (by omega) (by omega))]
            have := fin _ true (by rw [en]; simp; omega) rfl
            rw [b2i_t] at this
            exact this
        rw [if_pos hno, ck_ok _ hi5 (by decide), ck_ok _ hi5 (by decide)]
        by_cases h97 : t i ≤ 97
        · rw [if_pos (show nI (t i) ≤ (97 : Int32) from nI_le (b := 97) h97 (by decide))]
          have : nI (t i) + (2 : Int32) = nI (t1 m t nod i) := by
            rw [et, show min 99 (t i + 2) = t i + 2 by omega]; exact nI_add (t i) 2
          rw [this]; exact g272
        · rw [if_neg (show ¬ nI (t i) ≤ (97 : Int32) from nI_ge (a := 97) (by omega) (by omega))]
          have : (99 : Int32) = nI (t1 m t nod i) := by
            rw [et, show min 99 (t i + 2) = 99 by omega]; rfl
          rw [this]; exact g272
      · have hno1 : nod i = true := by simpa using hno
        have et : t1 m t nod i = t i - 1 := by simp [t1, hmi, hno1]
        have en : nod1 lim m t nod i = decide (lim < t1 m t nod i + 4) := by simp [nod1, hmi, hno1]
        have g208 : f_X9_go_208 (f_X9_go_51 f) σ2 (nI m) (nI (mk n G)) (nI (mk n (awI lim m t nod i))) (nI i) (nI (t1 m t nod i)) (nI i) = f_X9_go_51 f (wr (wr σ2 154 i (nI (t1 m t nod i))) 157 i (b2i (nod1 lim m t nod i))) (nI m) (nI (mk n G)) (nI (mk n (awI lim m t nod (i + 1)))) (nI (i + 1)) := by
          simp only [f_X9_go_208, f_X9_go_236, Lt]
          rw [ck_ok _ hi5 (by decide), ck_ok _ hi5 (by decide), ck_ok _ hi5 (by decide), ck_ok _ hi5 (by decide), ix_nI (by omega), s154, r134]
          by_cases hlt : lim < t1 m t nod i + 4
          · rw [if_neg (fun q => ((a_l4 lim hl9 (t1 m t nod i) (by omega)).mp q) hlt)]
            have := fin _ true (by rw [en]; simp [hlt]) rfl
            rw [b2i_t] at this
            exact this
          · rw [if_pos ((a_l4 lim hl9 (t1 m t nod i) (by omega)).mpr hlt)]
            have := fin _ false (by rw [en]; simp [hlt]) rfl
            rw [b2i_f] at this
            exact this
        rw [if_neg hno, ck_ok _ hi5 (by decide), ck_ok _ hi5 (by decide)]
        by_cases h0 : t i = 0
        · rw [if_pos (by rw [h0]; decide)]
          have : (0 : Int32) = nI (t1 m t nod i) := by rw [et, h0]; rfl
          rw [this]; exact g208
        · rw [if_neg (nI_nle (by omega) (by omega)), a_s1 (t i) (by omega) (by omega), ← et]
          exact g208
    · have hm1 : m.testBit i = true := by simpa using hmi
      have et : t1 m t nod i = t i - 4 := by simp [t1, hm1]
      have en : nod1 lim m t nod i = false := by simp [nod1, hm1]
      have g157 : f_X9_go_157 (f_X9_go_51 f) σ2 (nI m) (nI (mk n G)) (nI (mk n (awI lim m t nod i))) (nI i) (nI (t1 m t nod i)) (nI i) = f_X9_go_51 f (wr (wr σ2 154 i (nI (t1 m t nod i))) 157 i (b2i (nod1 lim m t nod i))) (nI m) (nI (mk n G)) (nI (mk n (awI lim m t nod (i + 1)))) (nI (i + 1)) := by
        simp only [f_X9_go_157, Lt]
        rw [ck_ok _ hi5 (by decide), ck_ok _ hi5 (by decide), ix_nI (by omega)]
        have := fin _ false en.symm rfl
        rw [b2i_f] at this
        exact this
      rw [if_neg hmi, ck_ok _ hi5 (by decide), ck_ok _ hi5 (by decide)]
      by_cases h4' : t i ≤ 4
      · rw [if_pos (show nI (t i) ≤ (4 : Int32) from nI_le (b := 4) h4' (by decide))]
        have : (0 : Int32) = nI (t1 m t nod i) := by rw [et, show t i - 4 = 0 by omega]; rfl
        rw [this]; exact g157
      · rw [if_neg (show ¬ nI (t i) ≤ (4 : Int32) from nI_ge (a := 4) (by omega) (by omega))]
        have : nI (t i) - (4 : Int32) = nI (t1 m t nod i) := by rw [et]; exact pk_sub (b := 4) (by omega)
        rw [this]; exact g157
  have second : f_X9_go_82 (f_X9_go_51 f) σ (nI m) (nI (mk n G)) (nI (mk n (awI lim m t nod i))) (nI i) (b2i (G i)) (nI (s i)) (nI i) = f_X9_go_51 f (wr (wr (wr (wr σ 155 i (nI (s1 G s i))) 156 i (nI (d1 m ill d i))) 154 i (nI (t1 m t nod i))) 157 i (b2i (nod1 lim m t nod i))) (nI m) (nI (mk n G)) (nI (mk n (awI lim m t nod (i + 1)))) (nI (i + 1)) := by
    simp only [f_X9_go_82, Lt]
    have r156 : (wr σ 155 i (nI (s1 G s i))) 156 i = nI (d i) := by simp [wr_at, e3]
    have r140 : (wr σ 155 i (nI (s1 G s i))) 140 i = b2i (ill i) := by simp [wr_at, h8 i hin]
    rw [ck_ok _ hi5 (by decide), ck_ok _ hi5 (by decide), ix_nI (by omega), hs1, bd_ok (has_ok _ hm hi5), r156]
    simp only [b2i_0]
    by_cases hmi : m.testBit i = false
    · rw [if_pos hmi]
      simp only [f_X9_go_115]
      rw [show (m.testBit i && ill i) = false by simp [hmi], b2i_f] at third
      exact third
    · have hm1 : m.testBit i = true := by simpa using hmi
      rw [if_neg hmi, ck_ok _ hi5 (by decide), r140]
      simp only [b2i_0]
      by_cases hil : ill i = false
      · rw [if_pos hil]
        simp only [f_X9_go_115]
        rw [show (m.testBit i && ill i) = false by simp [hil], b2i_f] at third
        exact third
      · have hi1 : ill i = true := by simpa using hil
        rw [if_neg hil]
        rw [show (m.testBit i && ill i) = true by simp [hm1, hi1], b2i_t] at third
        exact third
  simp only [f_X9_go_51]
  rw [h4, if_neg (nI_ge hin (by omega)), ck_ok _ hi5 (by decide), ix_nI (by omega), bd_ok hGb, e2]
  simp only [b2i_0]
  by_cases hg : G i = false
  · rw [if_pos hg]; rw [hg, b2i_f] at second; exact second
  · have hg1 : G i = true := by simpa using hg
    rw [if_neg hg]; rw [hg1, b2i_t] at second; exact second
theorem go51_loop {σ0 : Hp} {n beds lim : Nat} {tw : Nat → Option Nat} {ill G : Nat → Bool} {t s d : Nat → Nat} {nod : Nat → Bool} (hM : MV σ0 n beds lim tw ill) (hl9 : lim < 100) (hb : BN n t s d) {m : Nat} (hm : m < 32) (hG : ∀ g, g < n → G g = true → 1 ≤ s g) (hd9 : ∀ g, g < n → m.testBit g = true → ill g = true → d g < 9) : ∀ (k i fuel : Nat) (σ : Hp), i + k = n → k < fuel → FrM σ0 σ → SV σ n (mix i t (t1 m t nod)) (mix i s (s1 G s)) (mix i d (d1 m ill d)) (mix i nod (nod1 lim m t nod)) →
    ∃ σ', f_X9_go_51 fuel σ (nI m) (nI (mk n G)) (nI (mk n (awI lim m t nod i))) (nI i) = some (nI (mk n (aw lim m t nod)), σ') ∧ SV σ' n (t1 m t nod) (s1 G s) (d1 m ill d) (nod1 lim m t nod) ∧ FrM σ0 σ' := by
  intro k
  induction k with
  | zero =>
    intro i fuel σ hi hf hfr hS
    obtain ⟨f, rfl⟩ : ∃ f, fuel = f + 1 := ⟨fuel - 1, by omega⟩
    have hin : i = n := by omega
    subst hin
    have hM2 := MV_fr hfr hM
    refine ⟨σ, ?_, fun g hg => ?_, hfr⟩
    · simp only [f_X9_go_51]
      rw [hM2.2.2.1, if_pos (nI_le (Nat.le_refl _) (by have := hM.1; omega))]
      have : mk i (awI lim m t nod i) = mk i (aw lim m t nod) := mk_congr (fun g hg => by simp [awI, hg])
      rw [this]
    · have := hS g hg
      rw [mix_n hg, mix_n hg, mix_n hg, mix_n hg] at this
      exact this
  | succ k ih =>
    intro i fuel σ hi hf hfr hS
    obtain ⟨f, rfl⟩ : ∃ f, fuel = f + 1 := ⟨fuel - 1, by omega⟩
    obtain ⟨σ', e1, e2, e3⟩ := go_one (f := f) (MV_fr hfr hM) hl9 hb hm hG hd9 (show i < n by omega) hS
    rw [e1]
    exact ih (i + 1) f σ' (by omega) (by omega) (FrM_trans hfr e3) e2
theorem go_ok {σ : Hp} {n beds lim : Nat} {tw : Nat → Option Nat} {ill : Nat → Bool} {t s d : Nat → Nat} {nod : Nat → Bool} (hM : MV σ n beds lim tw ill) (hl9 : lim < 100) (hS : SV σ n t s d nod) (hb : BN n t s d) {m : Nat} (hm : m < 2 ^ n) (hok : ∀ g, g < n → okG n tw s d m ill g = true) : ∃ σ', f_X9_go σ (nI m) = some (nI (mk n (aw lim m t nod)), σ') ∧ SV σ' n (t1 m t nod) (s1 (Giv n tw s m ill) s) (d1 m ill d) (nod1 lim m t nod) ∧ FrM σ σ' := by
  have hm5 : m < 32 := Nat.lt_of_lt_of_le hm (Nat.pow_le_pow_right (by decide) hM.1)
  have hok2 : ∀ g, g < n → (Giv n tw s m ill g = true → 1 ≤ s g) ∧ (m.testBit g = true → ill g = true → d g < 9) := by
    intro g hg
    have := hok g hg
    unfold okG at this
    simp only [Bool.and_eq_true, Bool.or_eq_true, Bool.not_eq_true', decide_eq_true_eq] at this
    refine ⟨fun q => ?_, fun q1 q2 => ?_⟩
    · rcases this.1 with h | h
      · rw [q] at h; cases h
      · exact h
    · rcases this.2 with h | h
      · rw [q1, q2] at h; cases h
      · exact h
  have h4 := go4_loop hM hS hb hm5 n 0 FU (by omega) (FU_big (by have := hM.1; omega))
  have e0 : mk n (gset tw s m ill 0) = 0 := by
    apply Nat.eq_of_testBit_eq
    intro i
    rw [mk_all]; simp [gset]
  rw [e0] at h4
  have ea : mk n (awI lim m t nod 0) = 0 := by
    apply Nat.eq_of_testBit_eq
    intro i
    rw [mk_all]; simp [awI]
  have h5 := go51_loop hM hl9 hb hm5 (fun g hg => (hok2 g hg).1) (fun g hg => (hok2 g hg).2) (nod := nod) n 0 FU σ (by omega) (FU_big (by have := hM.1; omega)) (FrM_refl σ) (by rw [mix_0, mix_0, mix_0, mix_0]; exact hS)
  rw [ea] at h5
  obtain ⟨σ', q1, q2⟩ := h5
  exact ⟨σ', by simp only [f_X9_go]; exact h4.trans q1, q2⟩
