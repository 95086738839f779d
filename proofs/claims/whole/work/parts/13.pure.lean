/-! the pure half: words for reading and writing the heap of numbers -/
theorem ck_ok {α : Type} {g n : Nat} (x : Option (α × Hp)) (h : g < n) (hn : n < 2 ^ 31) : ck (nI g) n x = x := by
  unfold ck
  rw [if_neg (nI_in h hn)]
theorem ix_nI {g : Nat} (h : g < 2 ^ 31) : ix (nI g) = g := nI_clamp h
theorem wr_at (σ : Hp) (k j : Nat) (v : Int32) (a i : Nat) : wr σ k j v a i = if a = k then (if i = j then v else σ a i) else σ a i := by
  unfold wr va_up upd
  by_cases h : a = k
  · subst h; simp
  · simp [h]
theorem wr_row_ne {σ : Hp} {k j : Nat} {v : Int32} {a : Nat} (h : a ≠ k) : wr σ k j v a = σ a := by
  unfold wr va_up
  simp [h]
theorem wr_row (σ : Hp) (k j : Nat) (v : Int32) (a : Nat) : wr σ k j v a = if a = k then upd (σ k) j v else σ a := rfl
theorem bd_ok {α β : Type} {x : Option (β × Hp)} {k : β → Hp → Option (α × Hp)} {r : β} {σ : Hp} (h : x = some (r, σ)) : bd x k = k r σ := by rw [h]; rfl
theorem zr_0 (σ : Hp) : zr 0 σ = some (0, σ) := by unfold zr; rw [if_pos (Or.inl rfl)]
theorem zr_1 (σ : Hp) : zr 1 σ = some (1, σ) := by unfold zr; rw [if_pos (Or.inr rfl)]
/-! masks -/
def mk : Nat → (Nat → Bool) → Nat
  | 0, _ => 0
  | n + 1, f => mk n f + (if f n = true then 2 ^ n else 0)
theorem mk_lt : ∀ (n : Nat) (f : Nat → Bool), mk n f < 2 ^ n
  | 0, _ => by simp [mk]
  | n + 1, f => by
    have h := mk_lt n f
    simp only [mk]
    split <;> omega
theorem mk_lt32 {n : Nat} (h : n ≤ 5) (f : Nat → Bool) : mk n f < 32 := Nat.lt_of_lt_of_le (mk_lt n f) (Nat.pow_le_pow_right (by decide) h)
theorem mk_hi : ∀ (n : Nat) (f : Nat → Bool) (g : Nat), n ≤ g → (mk n f).testBit g = false := fun n f g h => Nat.testBit_lt_two_pow (Nat.lt_of_lt_of_le (mk_lt n f) (Nat.pow_le_pow_right (by decide) h))
theorem mk_bit : ∀ (n : Nat) (f : Nat → Bool) (g : Nat), g < n → (mk n f).testBit g = f g
  | 0, _, g, h => absurd h (Nat.not_lt_zero g)
  | n + 1, f, g, h => by
    simp only [mk]
    have hl := mk_lt n f
    by_cases hg : g = n
    · subst hg
      by_cases hf : f g = true
      · rw [if_pos hf, hf, Nat.add_comm, Nat.testBit_two_pow_add_eq, mk_hi g f g (Nat.le_refl g)]; rfl
      · rw [if_neg hf, Nat.add_zero, mk_hi g f g (Nat.le_refl g)]
        simpa using hf
    · have hg' : g < n := by omega
      by_cases hf : f n = true
      · rw [if_pos hf, Nat.add_comm, Nat.testBit_two_pow_add_gt hg']
        exact mk_bit n f g hg'
      · rw [if_neg hf, Nat.add_zero]
        exact mk_bit n f g hg'
theorem mk_all (n : Nat) (f : Nat → Bool) (g : Nat) : (mk n f).testBit g = (decide (g < n) && f g) := by
  by_cases h : g < n
  · rw [mk_bit n f g h]; simp [h]
  · rw [mk_hi n f g (by omega)]; simp [h]
theorem mk_congr {n : Nat} {f f' : Nat → Bool} (h : ∀ g, g < n → f g = f' g) : mk n f = mk n f' := by
  apply Nat.eq_of_testBit_eq
  intro i
  rw [mk_all, mk_all]
  by_cases hi : i < n
  · rw [h i hi]
  · simp [hi]
theorem mk_of {n B : Nat} (h : B < 2 ^ n) : mk n B.testBit = B := by
  apply Nat.eq_of_testBit_eq
  intro i
  rw [mk_all]
  by_cases hi : i < n
  · simp [hi]
  · rw [Nat.testBit_lt_two_pow (Nat.lt_of_lt_of_le h (Nat.pow_le_pow_right (by decide) (by omega)))]
    simp
theorem bt_and : ∀ m, m < 32 → ∀ g, g < 5 → (nI m &&& ((1 : Int32) <<< (nI g &&& 31)) = 0 ↔ m.testBit g = false) := by decide +kernel
theorem bt_shr : ∀ m, m < 32 → ∀ g, g < 5 → ((nI m >>> (nI g &&& 31)) &&& 1 = if m.testBit g then 1 else 0) := by decide +kernel
theorem bt_or : ∀ m, m < 32 → ∀ g, g < 5 → nI m ||| ((1 : Int32) <<< (nI g &&& 31)) = nI (m ||| 2 ^ g) := by decide +kernel
theorem bt_clr : ∀ m, m < 32 → ∀ g, g < 5 → nI m &&& (((1 : Int32) <<< (nI g &&& 31)) ^^^ (-1)) = nI (m &&& (31 ^^^ 2 ^ g)) := by decide +kernel
theorem bt_and2 : ∀ a, a < 32 → ∀ b, b < 32 → nI a &&& nI b = nI (a &&& b) := by decide +kernel
theorem bt_or2 : ∀ a, a < 32 → ∀ b, b < 32 → nI a ||| nI b = nI (a ||| b) := by decide +kernel
theorem bt_andn : ∀ a, a < 32 → ∀ b, b < 32 → nI a &&& (nI b ^^^ (-1)) = nI (a &&& (31 ^^^ b)) := by decide +kernel
theorem bt_all : ∀ n, n ≤ 5 → ((1 : Int32) <<< (nI n &&& 31)) - 1 = nI (2 ^ n - 1) := by decide +kernel
theorem or_up {n g : Nat} (f : Nat → Bool) (hg : g < n) : mk n f ||| 2 ^ g = mk n (va_up f g true) := by
  apply Nat.eq_of_testBit_eq
  intro i
  rw [Nat.testBit_or, mk_all, mk_all, Nat.testBit_two_pow]
  by_cases h : i = g
  · subst h; simp [va_up, hg]
  · simp [va_up, h, Ne.symm h]
theorem clr_up {n g : Nat} (f : Nat → Bool) (hn : n ≤ 5) (hg : g < n) : mk n f &&& (31 ^^^ 2 ^ g) = mk n (va_up f g false) := by
  apply Nat.eq_of_testBit_eq
  intro i
  rw [Nat.testBit_and, mk_all, mk_all, Nat.testBit_xor, Nat.testBit_two_pow]
  by_cases h : i = g
  · subst h
    have : Nat.testBit 31 i = true := by
      have : i < 5 := by omega
      exact (by decide : ∀ i, i < 5 → Nat.testBit 31 i = true) i this
    simp [va_up, this]
  · by_cases hi : i < n
    · have : Nat.testBit 31 i = true := (by decide : ∀ i, i < 5 → Nat.testBit 31 i = true) i (by omega)
      simp [va_up, h, Ne.symm h, this]
    · simp [hi]
theorem up_or {n : Nat} (hn : n ≤ 5) {g : Nat} (hg : g < n) (f : Nat → Bool) : nI (mk n f) ||| ((1 : Int32) <<< (nI g &&& 31)) = nI (mk n (va_up f g true)) := by
  rw [bt_or _ (mk_lt32 hn f) g (by omega), or_up f hg]
theorem up_clr {n : Nat} (hn : n ≤ 5) {g : Nat} (hg : g < n) (f : Nat → Bool) : nI (mk n f) &&& (((1 : Int32) <<< (nI g &&& 31)) ^^^ (-1)) = nI (mk n (va_up f g false)) := by
  rw [bt_clr _ (mk_lt32 hn f) g (by omega), clr_up f hn hg]
theorem bit_and {n : Nat} (hn : n ≤ 5) {g : Nat} (hg : g < n) (f : Nat → Bool) : (nI (mk n f) &&& ((1 : Int32) <<< (nI g &&& 31)) = 0) = (f g = false) := by
  rw [bt_and _ (mk_lt32 hn f) g (by omega), mk_bit n f g hg]
theorem bit_shr {n : Nat} (hn : n ≤ 5) {g : Nat} (hg : g < n) (f : Nat → Bool) : (nI (mk n f) >>> (nI g &&& 31)) &&& 1 = if f g then 1 else 0 := by
  rw [bt_shr _ (mk_lt32 hn f) g (by omega), mk_bit n f g hg]
/-! small numbers -/
theorem nI_def (k : Nat) : (nI k : Int32) = Int32.ofNat k := rfl
theorem ni_le {a b : Nat} (ha : a < 2 ^ 31) (hb : b < 2 ^ 31) : (nI a ≤ nI b) = (a ≤ b) := propext (nI_leI ha hb)
theorem ni_lt {a b : Nat} (ha : a < 2 ^ 31) (hb : b < 2 ^ 31) : (nI a < nI b) = (a < b) := propext (nI_ltI ha hb)
theorem ni_eq {a b : Nat} (ha : a < 2 ^ 31) (hb : b < 2 ^ 31) : (nI a = nI b) = (a = b) := propext (nI_eq ha hb)
theorem ni_1 : (1 : Int32) = nI 1 := rfl
theorem ni_0 : (0 : Int32) = nI 0 := rfl
