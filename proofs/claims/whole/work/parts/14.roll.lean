/-! the guards' arithmetic, once for both sides -/
def twI : Option Nat → Int32
  | none => -9
  | some k => nI k
theorem twI_none : twI none = -9 := rfl
theorem twI_some (k : Nat) : twI (some k) = nI k := rfl
def TwOK (n : Nat) (tw : Nat → Option Nat) : Prop := ∀ g k, tw g = some k → g < n ∧ k < n ∧ k ≠ g ∧ tw k = some g
/-- who gives a stamp, once the pairs whose lesser one is below i have been looked at -/
def Gd (tw : Nat → Option Nat) (s : Nat → Nat) (P : Nat → Bool) (i g : Nat) : Bool := P g && (match tw g with
  | none => true
  | some k => if P k = true ∧ min g k < i then (if g < k then decide (s k ≤ s g) else decide (s k < s g)) else true)
theorem Gd_zero (tw : Nat → Option Nat) (s : Nat → Nat) (P : Nat → Bool) (g : Nat) : Gd tw s P 0 g = P g := by
  unfold Gd
  cases tw g <;> simp
theorem m9_le : ∀ i, i < 5 → (-9 : Int32) ≤ nI i := by decide +kernel
theorem m9_ne : ∀ i, i < 5 → ¬ nI i = (-9 : Int32) := by decide +kernel
theorem bt_two : ∀ m, m < 32 → ∀ i, i < 5 → ∀ k, k < 5 → ((((nI m >>> (nI i &&& 31)) &&& (nI m >>> (nI k &&& 31))) &&& (1 : Int32)) = 0 ↔ ¬ (m.testBit i = true ∧ m.testBit k = true)) := by decide +kernel
theorem FU_big {k : Nat} (h : k < 1000) : k < FU := by show k < 100000; omega
theorem ni_add1 (k : Nat) : nI k + 1 = nI (k + 1) := (nI_succ k).symm
/-- the charter's cells -/
def CV (σ : Hp) (c n : Nat) (tw : Nat → Option Nat) : Prop := n ≤ 5 ∧ TwOK n tw ∧ σ c 1 = nI n ∧ ∀ g, g < 5 → σ (c + 1) g = twI (tw g)
theorem givers_loop {σ : Hp} {o n : Nat} {tw : Nat → Option Nat} {s : Nat → Nat} (hc : CV σ (chO o) n tw) (hs : ∀ g, g < n → σ (o + 2) g = nI (s g)) (hs9 : ∀ g, g < n → s g < 100) (P : Nat → Bool) : ∀ (k i fuel : Nat), i + k = n → k < fuel → f_X4_giversOf_14 o fuel σ (nI (mk n P)) (nI (mk n (Gd tw s P i))) (nI i) = some (nI (mk n (Gd tw s P n)), σ) := by
  obtain ⟨hn, htw, hc1, hc2⟩ := hc
  intro k
  induction k with
  | zero =>
    intro i fuel hi hf
    obtain ⟨f, rfl⟩ : ∃ f, fuel = f + 1 := ⟨fuel - 1, by omega⟩
    have : i = n := by omega
    subst this
    simp only [f_X4_giversOf_14]
    rw [hc1, if_pos (nI_le (Nat.le_refl _) (by omega))]
  | succ k ih =>
    intro i fuel hi hf
    obtain ⟨f, rfl⟩ : ∃ f, fuel = f + 1 := ⟨fuel - 1, by omega⟩
    have hin : i < n := by omega
    have hi5 : i < 5 := by omega
    have step : f_X4_giversOf_90 (f_X4_giversOf_14 o f) o σ (nI (mk n P)) (nI (mk n (Gd tw s P (i + 1)))) (nI i) = some (nI (mk n (Gd tw s P n)), σ) := by
      simp only [f_X4_giversOf_90, Lt]
      rw [ni_add1]
      exact ih (i + 1) f (by omega) (by omega)
    simp only [f_X4_giversOf_14]
    rw [hc1, if_neg (nI_ge hin (by omega)), ck_ok _ hi5 (by decide), ix_nI (by omega), hc2 i hi5]
    simp only [Lt]
    cases hti : tw i with
    | none =>
      have same : mk n (Gd tw s P i) = mk n (Gd tw s P (i + 1)) := by
        apply mk_congr
        intro g hg
        unfold Gd
        cases htg : tw g with
        | none => rfl
        | some q =>
          obtain ⟨h1, h2, h3, h4⟩ := htw g q htg
          have : min g q ≠ i := by
            intro e
            rcases Nat.lt_or_ge g q with h | h
            · rw [Nat.min_eq_left (by omega)] at e; subst e; rw [hti] at htg; cases htg
            · rw [Nat.min_eq_right h] at e; subst e; rw [hti] at h4; cases h4
          have e2 : (min g q < i) = (min g q < i + 1) := propext (by omega)
          simp only [e2]
      rw [twI_none]
      rw [if_pos (m9_le i hi5), same]
      exact step
    | some q =>
      obtain ⟨-, h2, h3, h4⟩ := htw i q hti
      have hq5 : q < 5 := by omega
      rw [twI_some]
      by_cases hqi : q ≤ i
      · have same : mk n (Gd tw s P i) = mk n (Gd tw s P (i + 1)) := by
          apply mk_congr
          intro g hg
          unfold Gd
          cases htg : tw g with
          | none => rfl
          | some r =>
            obtain ⟨g1, g2, g3, g4⟩ := htw g r htg
            have : min g r ≠ i := by
              intro e
              rcases Nat.lt_or_ge g r with h | h
              · rw [Nat.min_eq_left (by omega)] at e; subst e; rw [hti] at htg; cases htg; omega
              · rw [Nat.min_eq_right h] at e; subst e; rw [hti] at g4; cases g4; omega
            have e2 : (min g r < i) = (min g r < i + 1) := propext (by omega)
            simp only [e2]
        rw [if_pos (nI_le hqi (by omega)), same]
        exact step
      · have hiq : i < q := by omega
        rw [if_neg (nI_ge hiq (by omega))]
        have other : ∀ g, g < n → g ≠ i → g ≠ q → Gd tw s P i g = Gd tw s P (i + 1) g := by
          intro g hg n1 n2
          unfold Gd
          cases htg : tw g with
          | none => rfl
          | some r =>
            obtain ⟨g1, g2, g3, g4⟩ := htw g r htg
            have : min g r ≠ i := by
              intro e
              rcases Nat.lt_or_ge g r with h | h
              · rw [Nat.min_eq_left (by omega)] at e; exact n1 e
              · rw [Nat.min_eq_right h] at e; subst e; rw [hti] at g4; cases g4; exact n2 rfl
            have e2 : (min g r < i) = (min g r < i + 1) := propext (by omega)
            simp only [e2]
        have hb := bt_two _ (mk_lt32 hn P) i hi5 q hq5
        rw [mk_bit n P i hin, mk_bit n P q h2] at hb
        have mi : min i q = i := Nat.min_eq_left (by omega)
        have mq : min q i = i := Nat.min_eq_right (by omega)
        by_cases hbb : P i = true ∧ P q = true
        · rw [if_neg (fun e => hb.mp e hbb), ck_ok _ hq5 (by decide), ck_ok _ hi5 (by decide), ix_nI (by omega), hs q h2, hs i hin]
          by_cases hle : s q ≤ s i
          · rw [if_pos (nI_le hle (by have := hs9 i hin; omega))]
            simp only [f_X4_giversOf_85, Lt]
            rw [up_clr hn h2]
            have e3 : mk n (va_up (Gd tw s P i) q false) = mk n (Gd tw s P (i + 1)) := by
              apply mk_congr
              intro g hg
              by_cases e1 : g = q
              · subst e1
                rw [va_up_self]
                unfold Gd
                simp only [h4, mq]
                simp [hbb, show ¬ g < i by omega, hle]
              · rw [va_up_ne _ _ e1]
                by_cases e2 : g = i
                · subst e2
                  unfold Gd
                  simp only [hti, mi]
                  simp [hbb, hiq, hle]
                · exact other g hg e2 e1
            rw [e3]
            exact step
          · rw [if_neg (nI_ge (by omega) (by have := hs9 q h2; omega))]
            simp only [f_X4_giversOf_85, Lt]
            rw [up_clr hn hin]
            have e3 : mk n (va_up (Gd tw s P i) i false) = mk n (Gd tw s P (i + 1)) := by
              apply mk_congr
              intro g hg
              by_cases e2 : g = i
              · subst e2
                rw [va_up_self]
                unfold Gd
                simp only [hti, mi]
                simp [hbb, hiq, hle]
              · rw [va_up_ne _ _ e2]
                by_cases e1 : g = q
                · subst e1
                  unfold Gd
                  simp only [h4, mq]
                  simp [hbb, show ¬ g < i by omega]
                  omega
                · exact other g hg e2 e1
            rw [e3]
            exact step
        · rw [if_pos (hb.mpr hbb)]
          have same : mk n (Gd tw s P i) = mk n (Gd tw s P (i + 1)) := by
            apply mk_congr
            intro g hg
            by_cases e2 : g = i
            · subst e2
              unfold Gd
              simp only [hti, mi]
              by_cases hp : P g = true
              · have : ¬ P q = true := fun h => hbb ⟨hp, h⟩
                simp [this]
              · simp [hp]
            · by_cases e1 : g = q
              · subst e1
                unfold Gd
                simp only [h4, mq]
                by_cases hp : P g = true
                · have : ¬ P i = true := fun h => hbb ⟨h, hp⟩
                  simp [this]
                · simp [hp]
              · exact other g hg e2 e1
          rw [same]
          exact step
/-! who pays; who gives -/
theorem pay_mask {n m : Nat} (hn : n ≤ 5) (hm : m < 2 ^ n) (ill : Nat → Bool) : nI m &&& (nI (mk n ill) ^^^ (-1)) = nI (mk n (fun g => m.testBit g && !ill g)) := by
  have hm5 : m < 32 := Nat.lt_of_lt_of_le hm (Nat.pow_le_pow_right (by decide) hn)
  rw [bt_andn m hm5 _ (mk_lt32 hn ill)]
  congr 1
  apply Nat.eq_of_testBit_eq
  intro i
  rw [Nat.testBit_and, Nat.testBit_xor, mk_all, mk_all]
  by_cases hi : i < n
  · have : Nat.testBit 31 i = true := (by decide : ∀ i, i < 5 → Nat.testBit 31 i = true) i (by omega)
    simp [hi, this]
  · rw [Nat.testBit_lt_two_pow (Nat.lt_of_lt_of_le hm (Nat.pow_le_pow_right (by decide) (by omega)))]
    simp [hi]
def PayS (m : Nat) (ill : Nat → Bool) (g : Nat) : Bool := m.testBit g && !ill g
/-- who gives -/
def Giv (n : Nat) (tw : Nat → Option Nat) (s : Nat → Nat) (m : Nat) (ill : Nat → Bool) (g : Nat) : Bool := Gd tw s (PayS m ill) n g
def RV (σ : Hp) (o n : Nat) (t s d : Nat → Nat) (nod ill : Nat → Bool) : Prop := (∀ g, g < n → σ (o + 1) g = nI (t g) ∧ σ (o + 2) g = nI (s g) ∧ σ (o + 3) g = nI (d g)) ∧ σ o 5 = nI (mk n nod) ∧ σ o 6 = nI (mk n ill)
def BN (n : Nat) (t s d : Nat → Nat) : Prop := ∀ g, g < n → t g ≤ 99 ∧ s g ≤ 9 ∧ d g ≤ 9
theorem givers_ok {σ : Hp} {o n : Nat} {tw : Nat → Option Nat} {t s d : Nat → Nat} {nod ill : Nat → Bool} (hc : CV σ (chO o) n tw) (hr : RV σ o n t s d nod ill) (hb : BN n t s d) {m : Nat} (hm : m < 2 ^ n) : f_X4_giversOf σ o (nI m) = some (nI (mk n (Giv n tw s m ill)), σ) := by
  simp only [f_X4_giversOf, Lt]
  rw [hr.2.2, pay_mask hc.1 hm]
  have h := givers_loop hc (fun g hg => (hr.1 g hg).2.1) (fun g hg => by have := (hb g hg).2.1; omega) (PayS m ill) n 0 FU (by omega) (FU_big (by have := hc.1; omega))
  have e : mk n (Gd tw s (PayS m ill) 0) = mk n (PayS m ill) := mk_congr (fun g _ => Gd_zero _ _ _ g)
  rw [e] at h
  exact h
/-! counting bits -/
def cnt : Nat → (Nat → Bool) → Nat
  | 0, _ => 0
  | n + 1, f => cnt n f + (if f n = true then 1 else 0)
theorem cnt_congr {f f' : Nat → Bool} : ∀ {n : Nat}, (∀ g, g < n → f g = f' g) → cnt n f = cnt n f'
  | 0, _ => rfl
  | n + 1, h => by simp only [cnt]; rw [cnt_congr (fun g hg => h g (by omega)), h n (by omega)]
theorem cnt_le (f : Nat → Bool) : ∀ n, cnt n f ≤ n
  | 0 => Nat.le_refl 0
  | n + 1 => by have := cnt_le f n; simp only [cnt]; split <;> omega
theorem cnt_ext {f : Nat → Bool} {n : Nat} : ∀ k, (∀ g, n ≤ g → f g = false) → cnt (n + k) f = cnt n f
  | 0, _ => rfl
  | k + 1, h => by
    show cnt (n + k) f + (if f (n + k) = true then 1 else 0) = _
    rw [cnt_ext k h, h (n + k) (by omega)]
    simp
theorem cnt_5 {n m : Nat} (hn : n ≤ 5) (hm : m < 2 ^ n) : cnt 5 m.testBit = cnt n m.testBit := by
  have h := cnt_ext (f := m.testBit) (n := n) (5 - n) (fun g hg => Nat.testBit_lt_two_pow (Nat.lt_of_lt_of_le hm (Nat.pow_le_pow_right (by decide) hg)))
  rw [show n + (5 - n) = 5 by omega] at h
  exact h
def bcv (a0 : Int32) : Int32 :=
  Lt (a0 - (((a0.toUInt32 >>> ((1 : Int32).toUInt32 &&& Int32.toUInt32 31)).toInt32) &&& (1431655765 : Int32))) fun v1 =>
  Lt ((v1 &&& (858993459 : Int32)) + (((v1.toUInt32 >>> ((2 : Int32).toUInt32 &&& Int32.toUInt32 31)).toInt32) &&& (858993459 : Int32))) fun v2 =>
  Lt ((v2 + ((v2.toUInt32 >>> ((4 : Int32).toUInt32 &&& Int32.toUInt32 31)).toInt32)) &&& (252645135 : Int32)) fun v3 =>
  Lt (v3 + ((v3.toUInt32 >>> ((8 : Int32).toUInt32 &&& Int32.toUInt32 31)).toInt32)) fun v4 =>
  Lt (v4 + ((v4.toUInt32 >>> ((16 : Int32).toUInt32 &&& Int32.toUInt32 31)).toInt32)) fun v5 =>
  v5 &&& (63 : Int32)
theorem bcv_ok : ∀ m, m < 32 → bcv (nI m) = nI (cnt 5 m.testBit) := by decide +kernel
theorem bitCount_ok (σ : Hp) {m : Nat} (hm : m < 32) : f_J6_bitCount_0f7a4 σ (nI m) = some (nI (cnt 5 m.testBit), σ) := by
  have h : f_J6_bitCount_0f7a4 σ (nI m) = some (bcv (nI m), σ) := rfl
  rw [h, bcv_ok m hm]
/-! may it be -/
def allB (p : Nat → Bool) : Nat → Nat → Bool
  | _, 0 => true
  | i, k + 1 => p i && allB p (i + 1) k
theorem allB_iff (p : Nat → Bool) : ∀ (k i : Nat), allB p i k = true ↔ ∀ g, i ≤ g → g < i + k → p g = true
  | 0, i => ⟨fun _ g h1 h2 => absurd h2 (by omega), fun _ => rfl⟩
  | k + 1, i => by
    simp only [allB, Bool.and_eq_true]
    rw [allB_iff p k (i + 1)]
    constructor
    · intro h g h1 h2
      by_cases e : g = i
      · rw [e]; exact h.1
      · exact h.2 g (by omega) (by omega)
    · intro h
      exact ⟨h i (Nat.le_refl i) (by omega), fun g h1 h2 => h g (by omega) (by omega)⟩
def okG (n : Nat) (tw : Nat → Option Nat) (s d : Nat → Nat) (m : Nat) (ill : Nat → Bool) (g : Nat) : Bool := (!Giv n tw s m ill g || decide (1 ≤ s g)) && (!(m.testBit g && ill g) || decide (d g < 9))
theorem and_bit {n m : Nat} (hn : n ≤ 5) (hm : m < 32) {g : Nat} (hg : g < n) (ill : Nat → Bool) : ((nI m &&& nI (mk n ill)) &&& ((1 : Int32) <<< (nI g &&& 31)) = 0) = ((m.testBit g && ill g) = false) := by
  rw [bt_and2 m hm _ (mk_lt32 hn ill)]
  have hl : m &&& mk n ill < 32 := Nat.lt_of_le_of_lt Nat.and_le_left hm
  rw [bt_and _ hl g (by omega), Nat.testBit_and, mk_bit n ill g hg]
theorem lt9 : ∀ x, x < 100 → (nI x < (9 : Int32)) = (x < 9) := fun x hx => by
  have := ni_lt (a := x) (b := 9) (by omega) (by decide)
  exact this
theorem le1 : ∀ x, x < 100 → ((1 : Int32) ≤ nI x) = (1 ≤ x) := fun x hx => ni_le (a := 1) (b := x) (by decide) (by omega)
theorem allows_loop {σ : Hp} {o n : Nat} {tw : Nat → Option Nat} {t s d : Nat → Nat} {nod ill : Nat → Bool} (hc : CV σ (chO o) n tw) (hr : RV σ o n t s d nod ill) (hb : BN n t s d) {m : Nat} (hm : m < 2 ^ n) : ∀ (k i fuel : Nat), i + k = n → k < fuel → f_X4_allows_24 o fuel σ (nI m) (nI (mk n (Giv n tw s m ill))) (nI i) = some (if allB (okG n tw s d m ill) i k then 1 else 0, σ) := by
  have hn := hc.1
  have hm5 : m < 32 := Nat.lt_of_lt_of_le hm (Nat.pow_le_pow_right (by decide) hn)
  intro k
  induction k with
  | zero =>
    intro i fuel hi hf
    obtain ⟨f, rfl⟩ : ∃ f, fuel = f + 1 := ⟨fuel - 1, by omega⟩
    have : i = n := by omega
    subst this
    simp only [f_X4_allows_24]
    rw [hc.2.2.1, if_pos (nI_le (Nat.le_refl _) (by omega)), zr_1]
    simp [allB]
  | succ k ih =>
    intro i fuel hi hf
    obtain ⟨f, rfl⟩ : ∃ f, fuel = f + 1 := ⟨fuel - 1, by omega⟩
    have hin : i < n := by omega
    have hi5 : i < 5 := by omega
    obtain ⟨ht, hs, hd⟩ := hr.1 i hin
    obtain ⟨bt, bs, bd'⟩ := hb i hin
    have step : f_X4_allows_84 (f_X4_allows_24 o f) o σ (nI m) (nI (mk n (Giv n tw s m ill))) (nI i) = some (if allB (okG n tw s d m ill) (i + 1) k then 1 else 0, σ) := by
      simp only [f_X4_allows_84, Lt]
      rw [ni_add1]
      exact ih (i + 1) f (by omega) (by omega)
    have second : f_X4_allows_59 (f_X4_allows_24 o f) o σ (nI m) (nI (mk n (Giv n tw s m ill))) (nI i) ((1 : Int32) <<< (nI i &&& 31)) = some (if (!(m.testBit i && ill i) || decide (d i < 9)) && allB (okG n tw s d m ill) (i + 1) k then 1 else 0, σ) := by
      simp only [f_X4_allows_59]
      rw [hr.2.2]
      simp only [and_bit hn hm5 hin ill]
      cases hx : (m.testBit i && ill i) with
      | false => simp only [if_true]; rw [step]; simp
      | true =>
        simp only [Bool.true_eq_false, if_false]
        rw [ck_ok _ hi5 (by decide), ix_nI (by omega), hd]
        simp only [lt9 (d i) (by omega)]
        by_cases h9 : d i < 9
        · rw [if_pos h9, step]; simp [h9]
        · rw [if_neg h9, zr_0]; simp [h9]
    simp only [f_X4_allows_24, Lt]
    rw [hc.2.2.1, if_neg (nI_ge hin (by omega))]
    simp only [bit_and hn hin]
    by_cases hg : Giv n tw s m ill i = false
    · rw [if_pos hg, second]; simp [allB, okG, hg]
    · rw [if_neg hg, ck_ok _ hi5 (by decide), ix_nI (by omega), hs]
      have hg1 : Giv n tw s m ill i = true := by simpa using hg
      simp only [le1 (s i) (by omega)]
      by_cases h1 : 1 ≤ s i
      · rw [if_pos h1, second]; simp [allB, okG, h1]
      · rw [if_neg h1, zr_0]; simp [allB, okG, h1, hg1]
/-- whether a quarter with m in bed may be -/
def mayB (n beds : Nat) (tw : Nat → Option Nat) (s d : Nat → Nat) (m : Nat) (ill : Nat → Bool) : Bool := decide (cnt n m.testBit ≤ beds) && allB (okG n tw s d m ill) 0 n
theorem allows_ok {σ : Hp} {o n beds : Nat} {tw : Nat → Option Nat} {t s d : Nat → Nat} {nod ill : Nat → Bool} (hc : CV σ (chO o) n tw) (hbd : σ (chO o) 2 = nI beds) (hb5 : beds ≤ 5) (hr : RV σ o n t s d nod ill) (hb : BN n t s d) {m : Nat} (hm : m < 2 ^ n) : f_X4_allows σ o (nI m) = some (if mayB n beds tw s d m ill then 1 else 0, σ) := by
  have hn := hc.1
  have hm5 : m < 32 := Nat.lt_of_lt_of_le hm (Nat.pow_le_pow_right (by decide) hn)
  simp only [f_X4_allows]
  rw [bd_ok (bitCount_ok σ hm5), cnt_5 hn hm, hbd]
  have hcl := cnt_le m.testBit n
  by_cases h : cnt n m.testBit ≤ beds
  · rw [if_pos (nI_le h (by omega)), bd_ok (givers_ok hc hr hb hm)]
    rw [show f_X4_allows_24 o FU σ (nI m) (nI (mk n (Giv n tw s m ill))) 0 = _ from allows_loop hc hr hb hm n 0 FU (by omega) (FU_big (by omega))]
    simp [mayB, h]
  · rw [if_neg (nI_ge (by omega) (by omega)), zr_0]
    simp [mayB, h]
/-! a quarter -/
def t1 (m : Nat) (t : Nat → Nat) (nod : Nat → Bool) (g : Nat) : Nat := if m.testBit g = true then t g - 4 else if nod g = true then t g - 1 else min 99 (t g + 2)
def nod1 (lim m : Nat) (t : Nat → Nat) (nod : Nat → Bool) (g : Nat) : Bool := if m.testBit g = true then false else if nod g = true then decide (lim < t1 m t nod g + 4) else decide (lim ≤ t1 m t nod g)
def s1 (G : Nat → Bool) (s : Nat → Nat) (g : Nat) : Nat := s g - (if G g = true then 1 else 0)
def d1 (m : Nat) (ill : Nat → Bool) (d : Nat → Nat) (g : Nat) : Nat := d g + (if m.testBit g = true ∧ ill g = true then 1 else 0)
theorem a_m4 : ∀ t, t < 100 → (if (0 : Int32) < nI t - 4 then nI t - 4 else 0) = nI (t - 4) := by decide +kernel
theorem a_m1 : ∀ t, t < 100 → (if (0 : Int32) < nI t - 1 then nI t - 1 else 0) = nI (t - 1) := by decide +kernel
theorem a_p2 : ∀ t, t < 100 → (if nI t + 2 < 99 then nI t + 2 else 99) = nI (min 99 (t + 2)) := by decide +kernel
theorem a_p3 : ∀ t, t < 100 → (if nI t + 3 < 99 then nI t + 3 else 99) = nI (min 99 (t + 3)) := by decide +kernel
theorem a_lim : ∀ l, l < 100 → ∀ t, t < 100 → (nI l - 4 < nI t ↔ l < t + 4) := by decide +kernel
/-- what a method of a roll leaves alone -/
def FrR (σ σ' : Hp) (o : Nat) : Prop := ∀ a i, a ≠ o + 1 → a ≠ o + 2 → a ≠ o + 3 → a ≠ o + 4 → ¬ (a = o ∧ (i = 5 ∨ i = 7 ∨ i = 8)) → σ' a i = σ a i
theorem FrR_refl (σ : Hp) (o : Nat) : FrR σ σ o := fun _ _ _ _ _ _ _ => rfl
theorem FrR_trans {σ σ1 σ2 : Hp} {o : Nat} (h1 : FrR σ σ1 o) (h2 : FrR σ1 σ2 o) : FrR σ σ2 o := fun a i q1 q2 q3 q4 q5 => (h2 a i q1 q2 q3 q4 q5).trans (h1 a i q1 q2 q3 q4 q5)
theorem roll_apart {o : Nat} (h : rollP o) : chO o ≠ o ∧ (∀ j, j < 5 → chO o ≠ o + j ∧ chO o + 1 ≠ o + j) := (by decide +kernel : ∀ o ∈ rollsL, chO o ≠ o ∧ (∀ j, j < 5 → chO o ≠ o + j ∧ chO o + 1 ≠ o + j)) o h
theorem FrR_ch {σ σ' : Hp} {o : Nat} (h : rollP o) (f : FrR σ σ' o) (i : Nat) : σ' (chO o) i = σ (chO o) i ∧ σ' (chO o + 1) i = σ (chO o + 1) i := by
  obtain ⟨h0, hj⟩ := roll_apart h
  have h1 := hj 1 (by decide)
  have h2 := hj 2 (by decide)
  have h3 := hj 3 (by decide)
  have h4 := hj 4 (by decide)
  have h5 := hj 0 (by decide)
  exact ⟨f _ i h1.1 h2.1 h3.1 h4.1 (fun q => h0 q.1), f _ i h1.2 h2.2 h3.2 h4.2 (fun q => h5.2 q.1)⟩
theorem CV_fr {σ σ' : Hp} {o n : Nat} {tw : Nat → Option Nat} (h : rollP o) (f : FrR σ σ' o) (hc : CV σ (chO o) n tw) : CV σ' (chO o) n tw := ⟨hc.1, hc.2.1, by rw [(FrR_ch h f 1).1]; exact hc.2.2.1, fun g hg => by rw [(FrR_ch h f g).2]; exact hc.2.2.2 g hg⟩
theorem watch_ok {σ : Hp} {o n lim : Nat} {t s d : Nat → Nat} {nod ill : Nat → Bool} (hn : n ≤ 5) (hp : rollP o) (hl : σ (chO o) 3 = nI lim) (hl9 : lim < 100) (hr : RV σ o n t s d nod ill) (hb : BN n t s d) {m g : Nat} (hg : g < n) (hm : m.testBit g = false) : ∃ σ', f_X4_watch σ o (nI g) = some ((), σ') ∧ RV σ' o n (va_up t g (t1 m t nod g)) s d (va_up nod g (nod1 lim m t nod g)) ill ∧ FrR σ σ' o ∧ σ' (o + 4) = σ (o + 4) ∧ σ' o 7 = σ o 7 ∧ σ' o 8 = σ o 8 := by
  obtain ⟨hrows, hnod, hill⟩ := hr
  obtain ⟨ht, hs, hd⟩ := hrows g hg
  obtain ⟨bt, bs, bd'⟩ := hb g hg
  have hg5 : g < 5 := by omega
  obtain ⟨ha0, haj⟩ := roll_apart hp
  have hc1 : chO o ≠ o + 1 := (haj 1 (by decide)).1
  have rows : ∀ v : Nat, ∀ x, x < n → (wr σ (o + 1) g (nI v)) (o + 1) x = nI (va_up t g v x) ∧ (wr σ (o + 1) g (nI v)) (o + 2) x = nI (s x) ∧ (wr σ (o + 1) g (nI v)) (o + 3) x = nI (d x) := by
    intro v x hx
    obtain ⟨h1, h2, h3⟩ := hrows x hx
    simp only [wr_at]
    refine ⟨?_, ?_, ?_⟩
    · by_cases e : x = g
      · subst e; simp [va_up]
      · simp [va_up, e, h1]
    · simp [h2]
    · simp [h3]
  simp only [f_X4_watch, Lt]
  rw [hnod]
  simp only [bit_and hn hg nod]
  by_cases hno : nod g = false
  · have et : t1 m t nod g = min 99 (t g + 2) := by simp [t1, hm, hno]
    have en : nod1 lim m t nod g = decide (lim ≤ min 99 (t g + 2)) := by simp [nod1, hm, hno, et]
    have h99 : min 99 (t g + 2) < 100 := by omega
    rw [if_pos hno, ck_ok _ hg5 (by decide), ck_ok _ hg5 (by decide), ck_ok _ hg5 (by decide), ix_nI (by omega), ht, a_p2 (t g) (by omega)]
    have e1 : (wr σ (o + 1) g (nI (min 99 (t g + 2)))) (o + 1) g = nI (min 99 (t g + 2)) := by simp [wr_at]
    have e2 : (wr σ (o + 1) g (nI (min 99 (t g + 2)))) (chO o) 3 = nI lim := by simp [wr_at, hc1, hl]
    have e3 : (wr σ (o + 1) g (nI (min 99 (t g + 2)))) o 5 = nI (mk n nod) := by simp [wr_at, hnod]
    rw [e1, e2, e3]
    by_cases hlt : min 99 (t g + 2) < lim
    · rw [if_pos (nI_lt hlt (by omega))]
      refine ⟨_, rfl, ⟨?_, ?_, ?_⟩, ?_, ?_, ?_, ?_⟩
      · rw [et]; exact rows _
      · rw [e3, en]; congr 1; apply mk_congr; intro x hx
        by_cases e : x = g
        · subst e; rw [va_up_self, hno]; simp; omega
        · rw [va_up_ne _ _ e]
      · simp [wr_at, hill]
      · intro a i q1 q2 q3 q4 q5; simp [wr_at, q1]
      · rw [wr_row_ne (by omega)]
      · simp [wr_at]
      · simp [wr_at]
    · rw [if_neg (nI_nlt (by omega) (by omega)), up_or hn hg]
      refine ⟨_, rfl, ⟨?_, ?_, ?_⟩, ?_, ?_, ?_, ?_⟩
      · rw [et]
        intro x hx
        have := rows (min 99 (t g + 2)) x hx
        simp only [wr_at] at this ⊢
        simpa using this
      · rw [en]; simp [wr_at]; congr 1; apply mk_congr; intro x hx
        by_cases e : x = g
        · subst e; rw [va_up_self, va_up_self]; simp; omega
        · rw [va_up_ne _ _ e, va_up_ne _ _ e]
      · simp [wr_at, hill]
      · intro a i q1 q2 q3 q4 q5
        by_cases e : a = o
        · subst e
          have : i ≠ 5 := fun q => q5 ⟨rfl, Or.inl q⟩
          simp [wr_at, this]
        · simp [wr_at, q1, e]
      · rw [wr_row_ne (by omega), wr_row_ne (by omega)]
      · simp [wr_at]
      · simp [wr_at]
  · have hno1 : nod g = true := by simpa using hno
    have et : t1 m t nod g = t g - 1 := by simp [t1, hm, hno1]
    have en : nod1 lim m t nod g = decide (lim < t g - 1 + 4) := by simp [nod1, hm, hno1, et]
    rw [if_neg hno, ck_ok _ hg5 (by decide), ck_ok _ hg5 (by decide), ck_ok _ hg5 (by decide), ix_nI (by omega), ht, a_m1 (t g) (by omega)]
    have e1 : (wr σ (o + 1) g (nI (t g - 1))) (o + 1) g = nI (t g - 1) := by simp [wr_at]
    have e2 : (wr σ (o + 1) g (nI (t g - 1))) (chO o) 3 = nI lim := by simp [wr_at, hc1, hl]
    have e3 : (wr σ (o + 1) g (nI (t g - 1))) o 5 = nI (mk n nod) := by simp [wr_at, hnod]
    rw [e1, e2, e3]
    by_cases hlt : lim < t g - 1 + 4
    · rw [if_pos ((a_lim lim hl9 (t g - 1) (by omega)).mpr hlt)]
      refine ⟨_, rfl, ⟨?_, ?_, ?_⟩, ?_, ?_, ?_, ?_⟩
      · rw [et]; exact rows _
      · rw [e3, en]; congr 1; apply mk_congr; intro x hx
        by_cases e : x = g
        · subst e; rw [va_up_self, hno1]; simp [hlt]
        · rw [va_up_ne _ _ e]
      · simp [wr_at, hill]
      · intro a i q1 q2 q3 q4 q5; simp [wr_at, q1]
      · rw [wr_row_ne (by omega)]
      · simp [wr_at]
      · simp [wr_at]
    · rw [if_neg (fun q => hlt ((a_lim lim hl9 (t g - 1) (by omega)).mp q)), up_clr hn hg]
      refine ⟨_, rfl, ⟨?_, ?_, ?_⟩, ?_, ?_, ?_, ?_⟩
      · rw [et]
        intro x hx
        have := rows (t g - 1) x hx
        simp only [wr_at] at this ⊢
        simpa using this
      · rw [en]; simp [wr_at]; congr 1; apply mk_congr; intro x hx
        by_cases e : x = g
        · subst e; rw [va_up_self, va_up_self]; simp [hlt]
        · rw [va_up_ne _ _ e, va_up_ne _ _ e]
      · simp [wr_at, hill]
      · intro a i q1 q2 q3 q4 q5
        by_cases e : a = o
        · subst e
          have : i ≠ 5 := fun q => q5 ⟨rfl, Or.inl q⟩
          simp [wr_at, this]
        · simp [wr_at, q1, e]
      · rw [wr_row_ne (by omega), wr_row_ne (by omega)]
      · simp [wr_at]
      · simp [wr_at]
theorem rest40_ok {σ : Hp} {o n : Nat} {t s d : Nat → Nat} {nod ill : Nat → Bool} (hn : n ≤ 5) (hr : RV σ o n t s d nod ill) (hb : ∀ g, g < n → t g ≤ 99) {g : Nat} (hg : g < n) : ∃ σ', f_X4_rest_40 o σ (nI g) ((1 : Int32) <<< (nI g &&& 31)) = some ((), σ') ∧ RV σ' o n (va_up t g (t g - 4)) s d (va_up nod g false) ill ∧ FrR σ σ' o ∧ (∀ x, σ' (o + 4) x = if x = g then σ (o + 4) x + 1 else σ (o + 4) x) ∧ σ' o 7 = σ o 7 ∧ σ' o 8 = σ o 8 := by
  obtain ⟨hrows, hnod, hill⟩ := hr
  obtain ⟨ht, hs, hd⟩ := hrows g hg
  have bt := hb g hg
  have hg5 : g < 5 := by omega
  simp only [f_X4_rest_40, Lt]
  rw [ck_ok _ hg5 (by decide), ck_ok _ hg5 (by decide), ck_ok _ hg5 (by decide), ck_ok _ hg5 (by decide), ix_nI (by omega), ht, a_m4 (t g) (by omega)]
  have e3 : (wr σ (o + 1) g (nI (t g - 4))) o 5 = nI (mk n nod) := by simp [wr_at, hnod]
  rw [e3, up_clr hn hg]
  refine ⟨_, rfl, ⟨?_, ?_, ?_⟩, ?_, ?_, ?_, ?_⟩
  · intro x hx
    obtain ⟨h1, h2, h3⟩ := hrows x hx
    simp only [wr_at]
    refine ⟨?_, ?_, ?_⟩
    · by_cases e : x = g
      · subst e; simp [va_up]
      · simp [va_up, e, h1]
    · simp [h2]
    · simp [h3]
  · simp [wr_at]
  · simp [wr_at, hill]
  · intro a i q1 q2 q3 q4 q5
    by_cases e : a = o
    · subst e
      have : i ≠ 5 := fun q => q5 ⟨rfl, Or.inl q⟩
      simp [wr_at, this]
    · simp [wr_at, q1, q4, e]
  · intro x
    by_cases e : x = g
    · subst e; simp [wr_at]
    · simp [wr_at, e]
  · simp [wr_at]
  · simp [wr_at]
theorem a_s1 : ∀ x, x < 100 → 1 ≤ x → nI x - 1 = nI (x - 1) := by decide +kernel
theorem rest_ok {σ : Hp} {o n : Nat} {t s d : Nat → Nat} {nod ill : Nat → Bool} (hn : n ≤ 5) (hr : RV σ o n t s d nod ill) (hb : BN n t s d) {g : Nat} (hg : g < n) (G : Bool) (hG : G = true → ill g = false ∧ 1 ≤ s g) : ∃ σ', f_X4_rest σ o (nI g) (if G then 1 else 0) = some ((), σ') ∧ RV σ' o n (va_up t g (t g - 4)) (va_up s g (s g - (if G = true then 1 else 0))) (va_up d g (d g + (if ill g = true then 1 else 0))) (va_up nod g false) ill ∧ FrR σ σ' o ∧ (∀ x, σ' (o + 4) x = if x = g then σ (o + 4) x + 1 else σ (o + 4) x) ∧ σ' o 7 = σ o 7 ∧ σ' o 8 = σ o 8 := by
  have hr0 := hr
  obtain ⟨hrows, hnod, hill⟩ := hr
  obtain ⟨ht, hs, hd⟩ := hrows g hg
  obtain ⟨bt, bs, bd'⟩ := hb g hg
  have hg5 : g < 5 := by omega
  have hbt : ∀ g, g < n → t g ≤ 99 := fun g hg => (hb g hg).1
  simp only [f_X4_rest, Lt]
  rw [hill]
  simp only [bit_and hn hg ill]
  by_cases hi : ill g = false
  · rw [if_pos hi]
    have hde : va_up d g (d g + (if ill g = true then 1 else 0)) = d := by
      rw [hi]; simp [va_up_same]
    rw [hde]
    cases G with
    | false =>
      obtain ⟨σ', e1, e2⟩ := rest40_ok hn hr0 hbt hg
      refine ⟨σ', by simpa using e1, ?_⟩
      have hse : va_up s g (s g - (if false = true then 1 else 0)) = s := by simp [va_up_same]
      rw [hse]; exact e2
    | true =>
      obtain ⟨-, hs1⟩ := hG rfl
      rw [if_neg (by decide), ck_ok _ hg5 (by decide), ck_ok _ hg5 (by decide), ix_nI (by omega), hs, a_s1 (s g) (by omega) hs1]
      have hr2 : RV (wr σ (o + 2) g (nI (s g - 1))) o n t (va_up s g (s g - 1)) d nod ill := by
        refine ⟨fun x hx => ?_, by simp [wr_at, hnod], by simp [wr_at, hill]⟩
        obtain ⟨h1, h2, h3⟩ := hrows x hx
        simp only [wr_at]
        refine ⟨by simp [h1], ?_, by simp [h3]⟩
        by_cases e : x = g
        · subst e; simp [va_up]
        · simp [va_up, e, h2]
      obtain ⟨σ', e1, e2, e3, e4, e5, e6⟩ := rest40_ok hn hr2 hbt hg
      refine ⟨σ', e1, by simpa using e2, FrR_trans (fun a i q1 q2 q3 q4 q5 => by simp [wr_at, q2]) e3, fun x => ?_, ?_, ?_⟩
      · rw [e4 x]; simp [wr_at]
      · rw [e5]; simp [wr_at]
      · rw [e6]; simp [wr_at]
  · have hi1 : ill g = true := by simpa using hi
    have hGf : G = false := by
      cases G with
      | false => rfl
      | true => have := (hG rfl).1; rw [hi1] at this; cases this
    subst hGf
    rw [if_neg hi, ck_ok _ hg5 (by decide), ck_ok _ hg5 (by decide), ix_nI (by omega), hd, ni_add1]
    have hr2 : RV (wr σ (o + 3) g (nI (d g + 1))) o n t s (va_up d g (d g + 1)) nod ill := by
      refine ⟨fun x hx => ?_, by simp [wr_at, hnod], by simp [wr_at, hill]⟩
      obtain ⟨h1, h2, h3⟩ := hrows x hx
      simp only [wr_at]
      refine ⟨by simp [h1], by simp [h2], ?_⟩
      by_cases e : x = g
      · subst e; simp [va_up]
      · simp [va_up, e, h3]
    obtain ⟨σ', e1, e2, e3, e4, e5, e6⟩ := rest40_ok hn hr2 hbt hg
    have hse : va_up s g (s g - (if false = true then 1 else 0)) = s := by simp [va_up_same]
    rw [hse]
    refine ⟨σ', e1, by simpa [hi1] using e2, FrR_trans (fun a i q1 q2 q3 q4 q5 => by simp [wr_at, q3]) e3, fun x => ?_, ?_, ?_⟩
    · rw [e4 x]; simp [wr_at]
    · rw [e5]; simp [wr_at]
    · rw [e6]; simp [wr_at]
