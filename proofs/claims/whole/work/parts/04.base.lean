/-! the heap as numbers: cell k of the world lies at b + k; what refers to what is fixed (lay), all else is ints -/
abbrev Hp : Type := Nat → Nat → Int32
abbrev KD : Type := (Nat × Nat) ⊕ ((Nat × Nat × Nat × Nat) ⊕ (Nat × List (Option Nat)))
abbrev ix (i : Int32) : Nat := i.toNatClampNeg
def wr (σ : Hp) (k j : Nat) (v : Int32) : Hp := va_up σ k (upd (σ k) j v)
def mkF (b : Nat) (row : Nat → Int32) : Nat → List (Option Nat) → List Value
  | _, [] => []
  | i, none :: r => .int (row i) :: mkF b row (i + 1) r
  | i, some q :: r => .ref (b + q) :: mkF b row (i + 1) r
theorem mkF_int (b : Nat) (row : Nat → Int32) : ∀ (tpl : List (Option Nat)) (i k : Nat), tpl[k]? = some none → (mkF b row i tpl)[k]? = some (.int (row (i + k)))
  | [], _, _, h => by simp at h
  | none :: r, i, 0, _ => by simp [mkF]
  | some q :: r, i, 0, h => by simp at h
  | none :: r, i, k + 1, h => by
    have e := mkF_int b row r (i + 1) k (by simpa using h)
    simp only [mkF, List.getElem?_cons_succ]
    rw [e, Nat.add_assoc, Nat.add_comm 1 k]
  | some q :: r, i, k + 1, h => by
    have e := mkF_int b row r (i + 1) k (by simpa using h)
    simp only [mkF, List.getElem?_cons_succ]
    rw [e, Nat.add_assoc, Nat.add_comm 1 k]
theorem mkF_ref (b : Nat) (row : Nat → Int32) {q : Nat} : ∀ (tpl : List (Option Nat)) (i k : Nat), tpl[k]? = some (some q) → (mkF b row i tpl)[k]? = some (.ref (b + q))
  | [], _, _, h => by simp at h
  | none :: r, i, 0, h => by simp at h
  | some q' :: r, i, 0, h => by simp at h; simp [mkF, h]
  | none :: r, i, k + 1, h => by
    have e := mkF_ref b row r (i + 1) k (by simpa using h)
    simp only [mkF, List.getElem?_cons_succ]
    exact e
  | some q' :: r, i, k + 1, h => by
    have e := mkF_ref b row r (i + 1) k (by simpa using h)
    simp only [mkF, List.getElem?_cons_succ]
    exact e
theorem mkF_len (b : Nat) (row : Nat → Int32) : ∀ (tpl : List (Option Nat)) (i : Nat), (mkF b row i tpl).length = tpl.length
  | [], _ => rfl
  | none :: r, i => by simp [mkF, mkF_len b row r]
  | some q :: r, i => by simp [mkF, mkF_len b row r]
theorem mkF_congr (b : Nat) {row row' : Nat → Int32} : ∀ (tpl : List (Option Nat)) (i : Nat), (∀ j, i ≤ j → row' j = row j) → mkF b row' i tpl = mkF b row i tpl
  | [], _, _ => rfl
  | none :: r, i, h => by simp only [mkF]; rw [h i (Nat.le_refl i), mkF_congr b r (i + 1) (fun j hj => h j (by omega))]
  | some q :: r, i, h => by simp only [mkF]; rw [mkF_congr b r (i + 1) (fun j hj => h j (by omega))]
theorem mkF_set (b : Nat) (row : Nat → Int32) (v : Int32) : ∀ (tpl : List (Option Nat)) (i k : Nat), tpl[k]? = some none → (mkF b row i tpl).set k (.int v) = mkF b (upd row (i + k) v) i tpl
  | [], _, _, h => by simp at h
  | none :: r, i, 0, _ => by
    have hrow : ∀ j, i + 1 ≤ j → upd row i v j = row j := by
      intro j hj
      have q : j ≠ i := by omega
      simp [upd, q]
    have e := mkF_congr b (row := row) (row' := upd row i v) r (i + 1) hrow
    simp only [mkF, List.set_cons_zero, Nat.add_zero]
    rw [e]
    simp [upd]
  | some q :: r, i, 0, h => by simp at h
  | none :: r, i, k + 1, h => by
    have e := mkF_set b row v r (i + 1) k (by simpa using h)
    simp only [mkF, List.set_cons_succ]
    rw [e, Nat.add_assoc, Nat.add_comm 1 k]
    simp [upd]
  | some q :: r, i, k + 1, h => by
    have e := mkF_set b row v r (i + 1) k (by simpa using h)
    simp only [mkF, List.set_cons_succ]
    rw [e, Nat.add_assoc, Nat.add_comm 1 k]
def cE (b : Nat) (cA : Nat → ClassId) (k : KD) (row : Nat → Int32) : va_E := match k with
  | .inl (t, n) => .inl (cA t, n, .inl row)
  | .inr (.inl (t, n, a, d)) => .inl (cA t, n, .inr (.inr (.inr (.inr (fun j => some (b + (a + d * j)))))))
  | .inr (.inr (ci, tpl)) => .inr (ci, mkF b row 0 tpl)
def NN : Nat := 159
def layL : List KD := [
  .inr (.inr (8, [some 1, some 3, some 11, some 13, some 18, some 23, some 24, some 86, some 115, some 119])),
  .inr (.inr (7, [some 2, none])),
  .inl (1, 48),
  .inr (.inr (3, [some 1, some 4, some 6, none, none])),
  .inr (.inr (2, [some 5, none, none, none])),
  .inl (0, 5),
  .inr (.inr (4, [some 4, some 7, some 8, some 9, some 10, none, none, none, none])),
  .inl (0, 5),
  .inl (0, 5),
  .inl (0, 5),
  .inl (0, 5),
  .inr (.inr (2, [some 12, none, none, none])),
  .inl (0, 5),
  .inr (.inr (4, [some 11, some 14, some 15, some 16, some 17, none, none, none, none])),
  .inl (0, 5),
  .inl (0, 5),
  .inl (0, 5),
  .inl (0, 5),
  .inr (.inr (4, [some 11, some 19, some 20, some 21, some 22, none, none, none, none])),
  .inl (0, 5),
  .inl (0, 5),
  .inl (0, 5),
  .inl (0, 5),
  .inl (0, 4),
  .inr (.inr (0, [some 25, none, none])),
  .inr (.inl (3, 12, 26, 5)),
  .inr (.inr (4, [some 11, some 27, some 28, some 29, some 30, none, none, none, none])),
  .inl (0, 5),
  .inl (0, 5),
  .inl (0, 5),
  .inl (0, 5),
  .inr (.inr (4, [some 11, some 32, some 33, some 34, some 35, none, none, none, none])),
  .inl (0, 5),
  .inl (0, 5),
  .inl (0, 5),
  .inl (0, 5),
  .inr (.inr (4, [some 11, some 37, some 38, some 39, some 40, none, none, none, none])),
  .inl (0, 5),
  .inl (0, 5),
  .inl (0, 5),
  .inl (0, 5),
  .inr (.inr (4, [some 11, some 42, some 43, some 44, some 45, none, none, none, none])),
  .inl (0, 5),
  .inl (0, 5),
  .inl (0, 5),
  .inl (0, 5),
  .inr (.inr (4, [some 11, some 47, some 48, some 49, some 50, none, none, none, none])),
  .inl (0, 5),
  .inl (0, 5),
  .inl (0, 5),
  .inl (0, 5),
  .inr (.inr (4, [some 11, some 52, some 53, some 54, some 55, none, none, none, none])),
  .inl (0, 5),
  .inl (0, 5),
  .inl (0, 5),
  .inl (0, 5),
  .inr (.inr (4, [some 11, some 57, some 58, some 59, some 60, none, none, none, none])),
  .inl (0, 5),
  .inl (0, 5),
  .inl (0, 5),
  .inl (0, 5),
  .inr (.inr (4, [some 11, some 62, some 63, some 64, some 65, none, none, none, none])),
  .inl (0, 5),
  .inl (0, 5),
  .inl (0, 5),
  .inl (0, 5),
  .inr (.inr (4, [some 11, some 67, some 68, some 69, some 70, none, none, none, none])),
  .inl (0, 5),
  .inl (0, 5),
  .inl (0, 5),
  .inl (0, 5),
  .inr (.inr (4, [some 11, some 72, some 73, some 74, some 75, none, none, none, none])),
  .inl (0, 5),
  .inl (0, 5),
  .inl (0, 5),
  .inl (0, 5),
  .inr (.inr (4, [some 11, some 77, some 78, some 79, some 80, none, none, none, none])),
  .inl (0, 5),
  .inl (0, 5),
  .inl (0, 5),
  .inl (0, 5),
  .inr (.inr (4, [some 11, some 82, some 83, some 84, some 85, none, none, none, none])),
  .inl (0, 5),
  .inl (0, 5),
  .inl (0, 5),
  .inl (0, 5),
  .inr (.inr (5, [some 11, some 87, some 88, some 89, none, none, none])),
  .inr (.inl (3, 5, 90, 5)),
  .inl (0, 4),
  .inl (0, 4),
  .inr (.inr (4, [some 11, some 91, some 92, some 93, some 94, none, none, none, none])),
  .inl (0, 5),
  .inl (0, 5),
  .inl (0, 5),
  .inl (0, 5),
  .inr (.inr (4, [some 11, some 96, some 97, some 98, some 99, none, none, none, none])),
  .inl (0, 5),
  .inl (0, 5),
  .inl (0, 5),
  .inl (0, 5),
  .inr (.inr (4, [some 11, some 101, some 102, some 103, some 104, none, none, none, none])),
  .inl (0, 5),
  .inl (0, 5),
  .inl (0, 5),
  .inl (0, 5),
  .inr (.inr (4, [some 11, some 106, some 107, some 108, some 109, none, none, none, none])),
  .inl (0, 5),
  .inl (0, 5),
  .inl (0, 5),
  .inl (0, 5),
  .inr (.inr (4, [some 11, some 111, some 112, some 113, some 114, none, none, none, none])),
  .inl (0, 5),
  .inl (0, 5),
  .inl (0, 5),
  .inl (0, 5),
  .inr (.inr (1, [some 116, some 117, some 118, none])),
  .inl (0, 12),
  .inl (0, 12),
  .inl (0, 12),
  .inr (.inl (4, 2, 120, 7)),
  .inr (.inr (6, [some 122, some 121, none])),
  .inl (0, 4),
  .inr (.inr (4, [some 11, some 123, some 124, some 125, some 126, none, none, none, none])),
  .inl (0, 5),
  .inl (0, 5),
  .inl (0, 5),
  .inl (0, 5),
  .inr (.inr (6, [some 129, some 128, none])),
  .inl (0, 4),
  .inr (.inr (4, [some 11, some 130, some 131, some 132, some 133, none, none, none, none])),
  .inl (0, 5),
  .inl (0, 5),
  .inl (0, 5),
  .inl (0, 5),
  .inr (.inr (9, [none, some 135, none, none, none, none, none, some 136, some 137, some 138, some 139, some 140, some 141, some 142, none, none, some 143, none, none, none, some 144, some 145, some 146, some 147, some 148, none, some 149, some 150, none, some 151, some 152, some 153, some 154, some 155, some 156, some 157, some 158])),
  .inl (0, 48),
  .inl (0, 5),
  .inl (0, 5),
  .inl (0, 5),
  .inl (2, 5),
  .inl (2, 5),
  .inl (0, 5),
  .inl (0, 5),
  .inl (0, 4),
  .inl (0, 5),
  .inl (0, 5),
  .inl (0, 5),
  .inl (0, 5),
  .inl (0, 324),
  .inl (0, 84),
  .inl (2, 2),
  .inl (0, 12),
  .inl (0, 12),
  .inl (0, 12),
  .inl (0, 5),
  .inl (0, 5),
  .inl (0, 5),
  .inl (2, 5),
  .inl (0, 4)]
def lay (k : Nat) : KD := layL.getD k (.inl (0, 0))
def wl (cA : Nat → ClassId) (b : Nat) (σ : Hp) : va_W := (List.range NN).map (fun k => (b + k, cE b cA (lay k) (σ k)))
theorem wl_get {cA : Nat → ClassId} {b : Nat} {σ : Hp} {k : Nat} (h : k < NN) : (wl cA b σ)[k]? = some (b + k, cE b cA (lay k) (σ k)) := by
  simp [wl, List.getElem?_map, List.getElem?_range h]
theorem wl_set {cA : Nat → ClassId} {b : Nat} {σ : Hp} {k : Nat} (row : Nat → Int32) : (wl cA b σ).set k (b + k, cE b cA (lay k) row) = wl cA b (va_up σ k row) := by
  apply List.ext_getElem?
  intro i
  by_cases hi : i < NN
  · by_cases hk : i = k
    · subst hk
      rw [List.getElem?_set_self (by simp [wl, hi]), wl_get hi]
      simp [va_up]
    · rw [List.getElem?_set_ne (Ne.symm hk), wl_get hi, wl_get hi]
      simp [va_up, hk]
  · rw [List.getElem?_eq_none (by simp [wl]; omega), List.getElem?_eq_none (by simp [wl]; omega)]
theorem wl_D (cA : Nat → ClassId) (b : Nat) (σ : Hp) : va_D (fun q => b ≤ q) (wl cA b σ) := by
  have key : ∀ (k : Nat) (q : Nat × va_E), (wl cA b σ)[k]? = some q → q.1 = b + k := by
    intro k q h
    have hk : k < NN := by
      have := (List.getElem?_eq_some_iff.mp h).1
      simpa [wl] using this
    rw [wl_get hk] at h
    cases h
    rfl
  refine ⟨fun i j p q hi hj e => ?_, fun k q h => ?_⟩
  · rw [key i p hi, key j q hj] at e
    omega
  · rw [key k q h]
    exact Nat.le_add_right b k
def tyL (cA : Nat → ClassId) : List (ClassId × FieldType) := [(cA 0, .int), (cA 1, .byte), (cA 2, .boolean), (cA 3, .object "SleepByRation$Roll"), (cA 4, .object "SleepByRation$Slot")]
/-! words -/
def BW : List Cond := lw_tbl.filter goodWord
theorem BW_of {w : Cond} (h : w ∈ lw_tbl) (g : goodWord w = true) : w ∈ BW := List.mem_filter.mpr ⟨h, g⟩
theorem BW_good {y : Cond} (hy : y ∈ BW) : GoodIn BW (y :: BW) := fun w hw => by
  have h : w ∈ BW := (List.mem_cons.mp hw).elim (fun e => e ▸ hy) id
  exact ⟨h, good_of_word (List.mem_filter.mp h).2⟩
theorem BW_self : GoodIn BW BW := fun _ h => ⟨h, good_of_word (List.mem_filter.mp h).2⟩
theorem BW_cons {a : Cond} {ws : List Cond} (ha : a ∈ BW) (h : GoodIn BW ws) : GoodIn BW (a :: ws) := fun w hw => (List.mem_cons.mp hw).elim (fun e => e ▸ BW_self a ha) (h w)
theorem BW_app {a ws : List Cond} (ha : ∀ w ∈ a, w ∈ BW) (h : GoodIn BW ws) : GoodIn BW (a ++ ws) := fun w hw => (List.mem_append.mp hw).elim (fun e => BW_self w (ha w e)) (h w)
theorem tb0 {w : Cond} (h : w ∈ k2_sels lw_privs) (g : goodWord w = true) : w ∈ BW := BW_of (List.mem_append_left _ h) g
theorem tb1 {w : Cond} (h : w ∈ tables_1_1) (g : goodWord w = true) : w ∈ BW := BW_of (List.mem_append_right _ (List.mem_append_left _ h)) g
theorem tb2 {w : Cond} (h : w ∈ tables_1_2) (g : goodWord w = true) : w ∈ BW := BW_of (List.mem_append_right _ (List.mem_append_right _ (List.mem_append_left _ h))) g
theorem tb3 {w : Cond} (h : w ∈ tables_1_3) (g : goodWord w = true) : w ∈ BW := BW_of (List.mem_append_right _ (List.mem_append_right _ (List.mem_append_right _ (List.mem_append_left _ h)))) g
theorem tb4 {w : Cond} (h : w ∈ tables_1_4) (g : goodWord w = true) : w ∈ BW := BW_of (List.mem_append_right _ (List.mem_append_right _ (List.mem_append_right _ (List.mem_append_right _ h)))) g
theorem bw_acN : Cond.native arraycopyName ∈ BW := tb2 (List.mem_of_getElem? (i := 103) (by decide +kernel)) (by decide +kernel)
theorem bw_acS : Cond.static arraycopyName ∈ BW := tb2 (List.mem_of_getElem? (i := 102) (by decide +kernel)) (by decide +kernel)
theorem bw_acI : Cond.initialized "java/lang/System" ∈ BW := tb1 (List.mem_of_getElem? (i := 12) (by decide +kernel)) (by decide +kernel)
theorem bw_mI : Cond.initialized "java/lang/Math" ∈ BW := tb1 (List.mem_of_getElem? (i := 14) (by decide +kernel)) (by decide +kernel)
theorem bw_mmaxS : Cond.static Lib.Math.max.name ∈ BW := tb2 (List.mem_of_getElem? (i := 186) (by decide +kernel)) (by decide +kernel)
theorem bw_mminS : Cond.static Lib.Math.min.name ∈ BW := tb2 (List.mem_of_getElem? (i := 175) (by decide +kernel)) (by decide +kernel)
theorem bw_mmaxC : Cond.code Lib.Math.max.name Lib.Math.max.code 2 (some .int) ∈ BW := tb2 (List.mem_of_getElem? (i := 187) (by decide +kernel)) (by decide +kernel)
theorem bw_mminC : Cond.code Lib.Math.min.name Lib.Math.min.code 2 (some .int) ∈ BW := tb2 (List.mem_of_getElem? (i := 176) (by decide +kernel)) (by decide +kernel)
theorem inB0 : ∀ w ∈ wsX00, w ∈ BW := by decide +kernel
theorem inB1 : ∀ w ∈ wsX10, w ∈ BW := by decide +kernel
theorem inB2 : ∀ w ∈ wsX20, w ∈ BW := by decide +kernel
theorem inB3 : ∀ w ∈ wsX30, w ∈ BW := by decide +kernel
theorem inB4 : ∀ w ∈ wsX40, w ∈ BW := by decide +kernel
theorem inB5 : ∀ w ∈ wsX50, w ∈ BW := by decide +kernel
theorem inB6 : ∀ w ∈ wsX60, w ∈ BW := by decide +kernel
theorem inB7 : ∀ w ∈ wsX70, w ∈ BW := by decide +kernel
theorem inB8 : ∀ w ∈ wsX80, w ∈ BW := by decide +kernel
theorem inB9 : ∀ w ∈ wsX90, w ∈ BW := by decide +kernel
def isNest : Cond → Bool
  | .fieldLinkNest _ _ _ _ _ _ => true
  | .methodLinkNest _ _ _ _ => true
  | _ => false
def NW : List Cond := lw_tbl.filter isNest
theorem NW_of {w : Cond} (h : w ∈ lw_tbl) (g : isNest w = true) : w ∈ NW := List.mem_filter.mpr ⟨h, g⟩
theorem tn1 {w : Cond} (h : w ∈ tables_1_1) (g : isNest w = true) : w ∈ NW := NW_of (List.mem_append_right _ (List.mem_append_left _ h)) g
theorem tn2 {w : Cond} (h : w ∈ tables_1_2) (g : isNest w = true) : w ∈ NW := NW_of (List.mem_append_right _ (List.mem_append_right _ (List.mem_append_left _ h))) g
theorem tn3 {w : Cond} (h : w ∈ tables_1_3) (g : isNest w = true) : w ∈ NW := NW_of (List.mem_append_right _ (List.mem_append_right _ (List.mem_append_right _ (List.mem_append_left _ h)))) g
theorem tn4 {w : Cond} (h : w ∈ tables_1_4) (g : isNest w = true) : w ∈ NW := NW_of (List.mem_append_right _ (List.mem_append_right _ (List.mem_append_right _ (List.mem_append_right _ h)))) g
theorem NW_warm {w : Cond} (hw : w ∈ NW) {s U : State} (hW : s.WarmedH U.vm) (hZ : va_Nw w s) : va_Nw w U := by
  have h := (List.mem_filter.mp hw).2
  cases w <;> first | (simp [isNest] at h; done) | exact va_Nw.warmF hW hZ | exact va_Nw.warmM hW hZ
theorem NW_same {w : Cond} (hw : w ∈ NW) {u U : State} (h : u.vm = U.vm) (hZ : va_Nw w u) : va_Nw w U := by
  have h2 := (List.mem_filter.mp hw).2
  cases w <;> first | (simp [isNest] at h2; done) | exact va_Nw.same rfl h hZ
theorem NW_use {w : Cond} (hw : w ∈ NW) {A : Array Value} {U : State} (hZ : va_Nw w U) : w.before A U = true := by
  have h2 := (List.mem_filter.mp hw).2
  cases w <;> first | (simp [isNest] at h2; done) | exact va_Nw.use rfl hZ
def KK (dC : Nat → ClassId) (dI : Nat → Nat → Nat) (cA : Nat → ClassId) (U : State) : Prop := va_K (dC, dI) vwCl (tyL cA) U ∧ ∀ w ∈ NW, va_Nw w U
theorem KK_warm {dC : Nat → ClassId} {dI : Nat → Nat → Nat} {cA : Nat → ClassId} {s U : State} (h : KK dC dI cA s) (hW : s.WarmedH U.vm) : KK dC dI cA U := ⟨va_K.moved hW.alike h.1, fun w hw => NW_warm hw hW (h.2 w hw)⟩
theorem KK_call {dC : Nat → ClassId} {dI : Nat → Nat → Nat} {cA : Nat → ClassId} {U : State} (h : KK dC dI cA U) (g : JFrame) (mk : MethodId) (a : Array Value) : KK dC dI cA (U.calling g mk a) := ⟨va_K.moved (u := U) (U := U.calling g mk a) (Vm.Alike.refl U.vm) h.1, fun w hw => NW_same (u := U) hw rfl (h.2 w hw)⟩
def HW (dC : Nat → ClassId) (dI : Nat → Nat → Nat) (cA : Nat → ClassId) (b : Nat) (σ : Hp) (H : Heap) : Prop := va_P (dC, dI) vwCl (wl cA b σ) H
/-- a method's end: what it returns, what the cells hold -/
def Qx (dC : Nat → ClassId) (dI : Nat → Nat → Nat) (cA : Nat → ClassId) (b : Nat) (ro : Option Value) (σ' : Hp) : Array Value → State → Outcome → State → Prop := fun _ st oc t => oc = .returned ro ∧ HW dC dI cA b σ' t.heap ∧ va_F (fun q => b ≤ q) st t
def rmD (d : Nat) : Room := { frames := d, cells := 0, slots := 0, locals := 60 * d }
def rvI (r : Int32) : Option Value := some (.int r)
def rvL (r : Int64) : Option Value := some (.long r)
def rvV (_ : Unit) : Option Value := none
/-- all that stands still while a method runs -/
abbrev Ev : Type := Program × Launch × Env × Room × State × MethodId × Array Value × List Frame × Method × Code × Nat × Nat × (Nat → ClassId) × (Nat → Nat → Nat) × (Nat → ClassId)
def CX (E : Ev) (own : String) (cc : ByteArray) (nL : Nat) (d : Nat) : Prop := match E with
  | (p, _, _, R, s, m, args, _, _, c, cells, slots, dC, dI, cA) => CallFix p m c cc nL s args BW own ∧ KK dC dI cA s ∧ d ≤ R.frames ∧ 60 * d ≤ R.locals ∧ cells ≤ R.cells ∧ slots ≤ R.slots
def QM (E : Ev) (b : Nat) (ro : Option Value) (σ' : Hp) : State → Prop := match E with
  | (_, _, _, _, s, _, args, below, _, _, cells, slots, dC, dI, cA) => MQ below (Qx dC dI cA b ro σ') args s cells slots (fun q => b ≤ q)
def CR (E : Ev) (ret : Option FieldType) : Prop := match E with
  | (_, _, _, _, _, _, _, _, meth, _, _, _, _, _, _) => meth.sig.returnType = ret ∧ meth.locks = false
def VJ {α : Type} (rv : α → Option Value) (QF : Option Value → Hp → State → Prop) (E : Ev) (b nL : Nat) (σ : Hp) (pc : Nat) (L : List (Nat × Value)) (S : List Value) (x : Option (α × Hp)) : Prop := match E with
  | (p, l, e, R, s, m, args, below, meth, c, cells, slots, dC, dI, cA) => ∀ (r : α) (σ' : Hp), x = some (r, σ') → ∀ (H : Heap) (locs : List Loc) (ls : Array Slot), HW dC dI cA b σ H → va_S (fun q => b ≤ q) s.heap H locs → lv_has ls nL L → W p l e R s m args below meth c H locs cells slots (QF (rv r) σ') (F0 m pc ls S)
/-- a method's contract -/
def CT {α : Type} (l : Launch) (dC : Nat → ClassId) (dI : Nat → Nat → Nat) (cA : Nat → ClassId) (b : Nat) (y : MethodName) (cc : ByteArray) (maxL : Nat) (ret : Option FieldType) (d : Nat) (av : List Value) (σ : Hp) (rv : α → Option Value) (x : Option (α × Hp)) : Prop :=
  ∀ r σ', x = some (r, σ') → Met l y (.code y cc maxL ret :: BW) (rmD d) (va_Pc av (fun U => HW dC dI cA b σ U.heap ∧ KK dC dI cA U)) (Qx dC dI cA b (rv r) σ') 0 0 (fun q => b ≤ q)
theorem CT_of {α : Type} {l : Launch} {dC : Nat → ClassId} {dI : Nat → Nat → Nat} {cA : Nat → ClassId} {b : Nat} {y : MethodName} {cc : ByteArray} {maxL : Nat} {ret : Option FieldType} {d : Nat} {av : List Value} {σ : Hp} {rv : α → Option Value} {x : Option (α × Hp)} {own : String} (L : List (Nat × Value)) (hy : plainName y.cls = true) (ho : y.cls = own) (hn : (lg_sl av).length ≤ maxL) (hL : lv_args 0 av = L)
    (body : ∀ E : Ev, E.2.1 = l → CX E own cc maxL d → CR E ret → E.2.2.2.2.2.2.2.2.2.2.2.2.1 = dC → E.2.2.2.2.2.2.2.2.2.2.2.2.2.1 = dI → E.2.2.2.2.2.2.2.2.2.2.2.2.2.2 = cA → VJ rv (QM E b) E b maxL σ 0 L [] x) : CT l dC dI cA b y cc maxL ret d av σ rv x := by
  intro r σ' hx
  refine Met.ofW (cc := cc) (maxL := maxL) (ret := ret) hy rfl ?_
  intro p e s m args below meth c s₁ B hml hv
  obtain ⟨rfl, hP, hK⟩ := hv
  have hts := atoms_spec (ws := .code y cc maxL ret :: BW) B.pre
  have hown : s.vm.findClass own = some m.cls := by rw [← ho]; exact findClass_of_methodNamed B.named
  have V := body (p, l, e, rmD d, s, m, av.toArray, below, meth, c, 0, 0, dC, dI, cA) rfl ⟨⟨B.exec, B.bytes, hml, hown, fun w hw => hts w (List.mem_cons_of_mem _ hw)⟩, hK, Nat.le_refl _, Nat.le_refl _, Nat.zero_le _, Nat.zero_le _⟩ ⟨B.returns, B.notSynchronized⟩ rfl rfl rfl
  have hl := lv_entry av (n := maxL) hn
  rw [lg_entry_eq]
  rw [hL] at hl
  exact V r σ' hx s.heap [] _ hP va_S.rf hl
