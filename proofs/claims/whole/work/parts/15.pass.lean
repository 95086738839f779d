theorem RV_congr {σ : Hp} {o n : Nat} {t s d t' s' d' : Nat → Nat} {nod nod' ill : Nat → Bool} (h : RV σ o n t s d nod ill) (ht : ∀ g, g < n → t g = t' g) (hs : ∀ g, g < n → s g = s' g) (hd : ∀ g, g < n → d g = d' g) (hn : ∀ g, g < n → nod g = nod' g) : RV σ o n t' s' d' nod' ill := by
  refine ⟨fun g hg => ?_, ?_, h.2.2⟩
  · rw [← ht g hg, ← hs g hg, ← hd g hg]; exact h.1 g hg
  · rw [← mk_congr hn]; exact h.2.1
def mix {α : Type} (i : Nat) (f f' : Nat → α) (g : Nat) : α := if g < i then f' g else f g
theorem mix_0 {α : Type} (f f' : Nat → α) : mix 0 f f' = f := by funext g; simp [mix]
theorem mix_at {α : Type} (i : Nat) (f f' : Nat → α) : mix i f f' i = f i := by simp [mix]
theorem mix_succ {α : Type} (i : Nat) (f f' : Nat → α) : va_up (mix i f f') i (f' i) = mix (i + 1) f f' := by
  funext g
  by_cases h : g = i
  · subst h; simp [va_up, mix]
  · by_cases h2 : g < i
    · simp [va_up, mix, h, h2, show g < i + 1 by omega]
    · simp [va_up, mix, h, h2, show ¬ g < i + 1 by omega]
theorem mix_n {α : Type} {n : Nat} {f f' : Nat → α} {g : Nat} (h : g < n) : mix n f f' g = f' g := by simp [mix, h]
def aw (lim m : Nat) (t : Nat → Nat) (nod : Nat → Bool) (g : Nat) : Bool := !m.testBit g && !nod1 lim m t nod g
theorem and31 {a b : Nat} (ha : a < 32) (hb : b < 32) : a &&& (31 ^^^ b) < 32 := Nat.lt_of_le_of_lt Nat.and_le_left ha
theorem awake_mask {n m : Nat} (hn : n ≤ 5) (hm : m < 2 ^ n) (f : Nat → Bool) : (nI (2 ^ n - 1) &&& (nI m ^^^ (-1))) &&& (nI (mk n f) ^^^ (-1)) = nI (mk n (fun g => !m.testBit g && !f g)) := by
  have hm5 : m < 32 := Nat.lt_of_lt_of_le hm (Nat.pow_le_pow_right (by decide) hn)
  have ha : 2 ^ n - 1 < 32 := by have : 2 ^ n ≤ 2 ^ 5 := Nat.pow_le_pow_right (by decide) hn; omega
  rw [bt_andn _ ha m hm5, bt_andn _ (and31 ha hm5) _ (mk_lt32 hn f)]
  congr 1
  apply Nat.eq_of_testBit_eq
  intro i
  rw [Nat.testBit_and, Nat.testBit_and, Nat.testBit_xor, Nat.testBit_xor, mk_all, mk_all, Nat.testBit_two_pow_sub_one]
  by_cases hi : i < n
  · have : Nat.testBit 31 i = true := (by decide : ∀ i, i < 5 → Nat.testBit 31 i = true) i (by omega)
    simp [hi, this]
  · simp [hi]
theorem everyone_ok {σ : Hp} {c n : Nat} (hn : n ≤ 5) (h : σ c 1 = nI n) : f_X2_everyone σ c = some (nI (2 ^ n - 1), σ) := by
  simp only [f_X2_everyone]
  rw [h, bt_all n hn]
theorem Giv_pay {n : Nat} {tw : Nat → Option Nat} {s : Nat → Nat} {m : Nat} {ill : Nat → Bool} {g : Nat} (h : Giv n tw s m ill g = true) : m.testBit g = true ∧ ill g = false := by
  unfold Giv Gd PayS at h
  simp only [Bool.and_eq_true, Bool.not_eq_true'] at h
  exact h.1
theorem t1_le (m : Nat) (t : Nat → Nat) (nod : Nat → Bool) (g : Nat) (h : t g ≤ 99) : t1 m t nod g ≤ 99 := by
  unfold t1
  split
  · omega
  · split <;> omega
theorem t1_at {m : Nat} {t t' : Nat → Nat} {nod nod' : Nat → Bool} {g : Nat} (ht : t' g = t g) (hn : nod' g = nod g) : t1 m t' nod' g = t1 m t nod g := by
  unfold t1; rw [ht, hn]
theorem nod1_at {lim m : Nat} {t t' : Nat → Nat} {nod nod' : Nat → Bool} {g : Nat} (ht : t' g = t g) (hn : nod' g = nod g) : nod1 lim m t' nod' g = nod1 lim m t nod g := by
  unfold nod1; rw [t1_at ht hn, hn]
theorem pass_loop {σ0 : Hp} {o n lim : Nat} {tw : Nat → Option Nat} {t s d : Nat → Nat} {nod ill G : Nat → Bool} (hp : rollP o) (hc : CV σ0 (chO o) n tw) (hl : σ0 (chO o) 3 = nI lim) (hl9 : lim < 100) (hb : BN n t s d) {m : Nat} (hm : m < 2 ^ n) (hG : ∀ g, g < n → G g = true → m.testBit g = true ∧ ill g = false ∧ 1 ≤ s g) (hd9 : ∀ g, g < n → m.testBit g = true → ill g = true → d g < 9) :
    ∀ (k i fuel : Nat) (σ : Hp), i + k = n → k < fuel → RV σ o n (mix i t (t1 m t nod)) (mix i s (s1 G s)) (mix i d (d1 m ill d)) (mix i nod (nod1 lim m t nod)) ill → FrR σ0 σ o → (∀ x, x < n → σ (o + 4) x = if x < i ∧ m.testBit x = true then σ0 (o + 4) x + 1 else σ0 (o + 4) x) → σ o 7 = σ0 o 7 → σ o 8 = σ0 o 8 →
    ∃ σ', f_X4_pass_8 o fuel σ (nI m) (nI (mk n G)) (nI i) = some (nI (mk n (aw lim m t nod)), σ') ∧ RV σ' o n (t1 m t nod) (s1 G s) (d1 m ill d) (nod1 lim m t nod) ill ∧ FrR σ0 σ' o ∧ (∀ x, x < n → σ' (o + 4) x = if m.testBit x = true then σ0 (o + 4) x + 1 else σ0 (o + 4) x) ∧ σ' o 7 = σ0 o 7 + 1 ∧ σ' o 8 = if mk n (aw lim m t nod) = 0 then σ0 o 8 + 1 else σ0 o 8 := by
  have hn := hc.1
  have hm5 : m < 32 := Nat.lt_of_lt_of_le hm (Nat.pow_le_pow_right (by decide) hn)
  intro k
  induction k with
  | zero =>
    intro i fuel σ hi hf hr hfr hbed h7 h8
    obtain ⟨f, rfl⟩ : ∃ f, fuel = f + 1 := ⟨fuel - 1, by omega⟩
    have hin : i = n := by omega
    subst hin
    have hr2 : RV σ o i (t1 m t nod) (s1 G s) (d1 m ill d) (nod1 lim m t nod) ill := RV_congr hr (fun g hg => mix_n hg) (fun g hg => mix_n hg) (fun g hg => mix_n hg) (fun g hg => mix_n hg)
    have hc2 := CV_fr hp hfr hc
    simp only [f_X4_pass_8, Lt]
    rw [hc2.2.2.1, if_pos (nI_le (Nat.le_refl _) (by omega)), bd_ok (everyone_ok hn hc2.2.2.1), hr2.2.1, awake_mask hn hm]
    have hz : (nI (mk i (fun g => !m.testBit g && !nod1 lim m t nod g)) = 0) = (mk i (aw lim m t nod) = 0) := by
      have := ni_eq (a := mk i (aw lim m t nod)) (b := 0) (by have := mk_lt32 hn (aw lim m t nod); omega) (by decide)
      exact this
    have fr7 : ∀ v, FrR σ0 (wr σ o 7 v) o := fun v a j q1 q2 q3 q4 q5 => by
      have : ¬ (a = o ∧ j = 7) := fun q => q5 ⟨q.1, Or.inr (Or.inl q.2)⟩
      rw [wr_at]
      by_cases e : a = o
      · subst e
        rw [if_pos rfl, if_neg (fun q => this ⟨rfl, q⟩)]
        exact hfr a j q1 q2 q3 q4 q5
      · rw [if_neg e]; exact hfr a j q1 q2 q3 q4 q5
    by_cases hze : mk i (aw lim m t nod) = 0
    · rw [if_pos (by rw [hz]; exact hze)]
      refine ⟨_, rfl, ⟨fun g hg => ?_, ?_, ?_⟩, ?_, ?_, ?_, ?_⟩
      · have := hr2.1 g hg
        simpa [wr_at] using this
      · simpa [wr_at] using hr2.2.1
      · simpa [wr_at] using hr2.2.2
      · intro a j q1 q2 q3 q4 q5
        have h8' : ¬ (a = o ∧ j = 8) := fun q => q5 ⟨q.1, Or.inr (Or.inr q.2)⟩
        rw [wr_at]
        by_cases e : a = o
        · subst e
          rw [if_pos rfl, if_neg (fun q => h8' ⟨rfl, q⟩)]
          exact fr7 _ a j q1 q2 q3 q4 q5
        · rw [if_neg e]; exact fr7 _ a j q1 q2 q3 q4 q5
      · intro x hx
        have := hbed x hx
        simp only [wr_at, show ¬ o + 4 = o by omega, if_false]
        rw [this]; simp [hx]
      · simp [wr_at, h7]
      · simp [wr_at, h8, hze]
    · rw [if_neg (by rw [hz]; exact hze)]
      refine ⟨_, rfl, ⟨fun g hg => ?_, ?_, ?_⟩, fr7 _, ?_, ?_, ?_⟩
      · have := hr2.1 g hg
        simpa [wr_at] using this
      · simpa [wr_at] using hr2.2.1
      · simpa [wr_at] using hr2.2.2
      · intro x hx
        have := hbed x hx
        simp only [wr_at, show ¬ o + 4 = o by omega, if_false]
        rw [this]; simp [hx]
      · simp [wr_at, h7]
      · simp [wr_at, h8, hze]
  | succ k ih =>
    intro i fuel σ hi hf hr hfr hbed h7 h8
    obtain ⟨f, rfl⟩ : ∃ f, fuel = f + 1 := ⟨fuel - 1, by omega⟩
    have hin : i < n := by omega
    have hi5 : i < 5 := by omega
    have hc2 := CV_fr hp hfr hc
    have hl2 : σ (chO o) 3 = nI lim := by rw [(FrR_ch hp hfr 3).1]; exact hl
    have hbm : BN n (mix i t (t1 m t nod)) (mix i s (s1 G s)) (mix i d (d1 m ill d)) := by
      intro g hg
      obtain ⟨b1, b2, b3⟩ := hb g hg
      unfold mix
      by_cases h : g < i
      · rw [if_pos h, if_pos h, if_pos h]
        refine ⟨t1_le m t nod g b1, ?_, ?_⟩
        · unfold s1; omega
        · unfold d1
          by_cases hx : m.testBit g = true ∧ ill g = true
          · rw [if_pos hx]; have := hd9 g hg hx.1 hx.2; omega
          · rw [if_neg hx]; omega
      · rw [if_neg h, if_neg h, if_neg h]; exact ⟨b1, b2, b3⟩
    have eti : t1 m (mix i t (t1 m t nod)) (mix i nod (nod1 lim m t nod)) i = t1 m t nod i := t1_at (mix_at _ _ _) (mix_at _ _ _)
    have eni : nod1 lim m (mix i t (t1 m t nod)) (mix i nod (nod1 lim m t nod)) i = nod1 lim m t nod i := nod1_at (mix_at _ _ _) (mix_at _ _ _)
    have hb1 : (nI m &&& ((1 : Int32) <<< (nI i &&& 31)) = 0) = (m.testBit i = false) := propext (bt_and m hm5 i hi5)
    simp only [f_X4_pass_8, Lt]
    rw [hc2.2.2.1, if_neg (nI_ge hin (by omega))]
    by_cases hmi : m.testBit i = false
    · rw [if_pos (by rw [hb1]; exact hmi)]
      obtain ⟨σ', e1, e2, e3, e4, e5, e6⟩ := watch_ok hn hp hl2 hl9 hr hbm hin hmi
      rw [bd_ok e1]
      simp only [f_X4_pass_56, Lt]
      rw [ni_add1]
      rw [eti, eni, mix_succ, mix_succ] at e2
      have es : mix i s (s1 G s) = mix (i + 1) s (s1 G s) := by
        rw [← mix_succ]
        have : s1 G s i = mix i s (s1 G s) i := by
          rw [mix_at]; unfold s1
          have : ¬ G i = true := fun q => by have := (hG i hin q).1; rw [hmi] at this; cases this
          rw [if_neg this]; omega
        rw [this, va_up_same]
      have ed : mix i d (d1 m ill d) = mix (i + 1) d (d1 m ill d) := by
        rw [← mix_succ]
        have : d1 m ill d i = mix i d (d1 m ill d) i := by
          rw [mix_at]; unfold d1; simp [hmi]
        rw [this, va_up_same]
      rw [es, ed] at e2
      refine ih (i + 1) f σ' (by omega) (by omega) e2 (FrR_trans hfr e3) (fun x hx => ?_) (e5.trans h7) (e6.trans h8)
      rw [e4, hbed x hx]
      by_cases e : x = i
      · subst e; simp [hmi]
      · have : (x < i) = (x < i + 1) := propext (by omega)
        simp only [this]
    · have hm1 : m.testBit i = true := by simpa using hmi
      rw [if_neg (by rw [hb1]; exact hmi)]
      have hGi : G i = true → ill i = false ∧ 1 ≤ mix i s (s1 G s) i := fun q => by rw [mix_at]; exact (hG i hin q).2
      obtain ⟨σ', e1, e2, e3, e4, e5, e6⟩ := rest_ok hn hr hbm hin (G i) hGi
      rw [mix_at, mix_at, mix_at] at e2
      have q1 : t i - 4 = t1 m t nod i := by unfold t1; rw [if_pos hm1]
      have q2 : false = nod1 lim m t nod i := by unfold nod1; rw [if_pos hm1]
      have q3 : s i - (if G i = true then 1 else 0) = s1 G s i := rfl
      have q4 : d i + (if ill i = true then 1 else 0) = d1 m ill d i := by unfold d1; simp [hm1]
      rw [q1, q2, q3, q4, mix_succ, mix_succ, mix_succ, mix_succ] at e2
      have fin : ∃ σ', f_X4_pass_53 (f_X4_pass_8 o f) o σ (nI m) (nI (mk n G)) (nI i) (if G i = true then 1 else 0) (nI i) = some (nI (mk n (aw lim m t nod)), σ') ∧ RV σ' o n (t1 m t nod) (s1 G s) (d1 m ill d) (nod1 lim m t nod) ill ∧ FrR σ0 σ' o ∧ (∀ x, x < n → σ' (o + 4) x = if m.testBit x = true then σ0 (o + 4) x + 1 else σ0 (o + 4) x) ∧ σ' o 7 = σ0 o 7 + 1 ∧ σ' o 8 = if mk n (aw lim m t nod) = 0 then σ0 o 8 + 1 else σ0 o 8 := by
        simp only [f_X4_pass_53]
        rw [bd_ok e1]
        simp only [f_X4_pass_56, Lt]
        rw [ni_add1]
        refine ih (i + 1) f σ' (by omega) (by omega) e2 (FrR_trans hfr e3) (fun x hx => ?_) (e5.trans h7) (e6.trans h8)
        rw [e4 x, hbed x hx]
        by_cases e : x = i
        · subst e; simp [hm1]
        · have : (x < i) = (x < i + 1) := propext (by omega)
          simp only [this, e, if_false]
      simp only [bit_and hn hin G]
      by_cases hg : G i = false
      · rw [if_pos hg]; rw [hg] at fin; simpa using fin
      · have hg1 : G i = true := by simpa using hg
        rw [if_neg hg]; rw [hg1] at fin; simpa using fin
/-- a quarter with m in bed, allowed or with nobody in bed -/
theorem pass_ok {σ : Hp} {o n lim : Nat} {tw : Nat → Option Nat} {t s d : Nat → Nat} {nod ill : Nat → Bool} (hp : rollP o) (hc : CV σ (chO o) n tw) (hl : σ (chO o) 3 = nI lim) (hl9 : lim < 100) (hr : RV σ o n t s d nod ill) (hb : BN n t s d) {m : Nat} (hm : m < 2 ^ n) (hok : ∀ g, g < n → okG n tw s d m ill g = true) :
    ∃ σ', f_X4_pass σ o (nI m) = some (nI (mk n (aw lim m t nod)), σ') ∧ RV σ' o n (t1 m t nod) (s1 (Giv n tw s m ill) s) (d1 m ill d) (nod1 lim m t nod) ill ∧ FrR σ σ' o ∧ (∀ x, x < n → σ' (o + 4) x = if m.testBit x = true then σ (o + 4) x + 1 else σ (o + 4) x) ∧ σ' o 7 = σ o 7 + 1 ∧ σ' o 8 = if mk n (aw lim m t nod) = 0 then σ o 8 + 1 else σ o 8 := by
  have hok2 : ∀ g, g < n → (Giv n tw s m ill g = true → 1 ≤ s g) ∧ (m.testBit g = true → ill g = true → d g < 9) := by
    intro g hg
    have := hok g hg
    unfold okG at this
    simp only [Bool.and_eq_true, Bool.or_eq_true, Bool.not_eq_true', decide_eq_true_eq] at this
    refine ⟨fun q => ?_, fun q1 q2 => ?_⟩
    · rcases this.1 with h | h
      · rw [q] at h; cases h
      · exact h
    · rcases this.2 with h | h
      · rw [q1, q2] at h; cases h
      · exact h
  simp only [f_X4_pass]
  rw [bd_ok (givers_ok hc hr hb hm)]
  refine pass_loop hp hc hl hl9 hb hm (fun g hg q => ⟨(Giv_pay q).1, (Giv_pay q).2, (hok2 g hg).1 q⟩) (fun g hg => (hok2 g hg).2) n 0 FU σ (by omega) (FU_big (by have := hc.1; omega)) ?_ (FrR_refl σ o) (fun x hx => by simp) rfl rfl
  rw [mix_0, mix_0, mix_0, mix_0]
  exact hr
theorem BN_pass {n lim : Nat} {tw : Nat → Option Nat} {t s d : Nat → Nat} {nod ill : Nat → Bool} {m : Nat} (hb : BN n t s d) (hok : ∀ g, g < n → okG n tw s d m ill g = true) : BN n (t1 m t nod) (s1 (Giv n tw s m ill) s) (d1 m ill d) := by
  intro g hg
  obtain ⟨b1, b2, b3⟩ := hb g hg
  refine ⟨t1_le m t nod g b1, by unfold s1; omega, ?_⟩
  unfold d1
  have := hok g hg
  unfold okG at this
  simp only [Bool.and_eq_true, Bool.or_eq_true, Bool.not_eq_true', decide_eq_true_eq] at this
  by_cases hx : m.testBit g = true ∧ ill g = true
  · rw [if_pos hx]
    rcases this.2 with h | h
    · rw [hx.1, hx.2] at h; cases h
    · omega
  · rw [if_neg hx]; omega
theorem okG_zero {n : Nat} {tw : Nat → Option Nat} {s d : Nat → Nat} {ill : Nat → Bool} (g : Nat) : okG n tw s d 0 ill g = true := by
  unfold okG Giv Gd PayS
  simp
