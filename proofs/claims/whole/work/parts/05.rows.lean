section VR
variable {α : Type} {rv : α → Option Value} {QF : Option Value → Hp → State → Prop} {E : Ev} {b nL : Nat} {σ : Hp} {pc : Nat} {L L' : List (Nat × Value)} {S : List Value} {X X1 X2 : Option (α × Hp)} {own : String} {cc : ByteArray} {d : Nat}
theorem HW_of {dC : Nat → ClassId} {dI : Nat → Nat → Nat} {cA : Nat → ClassId} {b : Nat} {σ : Hp} {ws : va_W} {H : Heap} (h : ws = wl cA b σ) (hP : va_P (dC, dI) vwCl ws H) : HW dC dI cA b σ H := by
  unfold HW
  rw [← h]
  exact hP
/-! what a method's answer is made of -/
def ck (i : Int32) (n : Nat) (x : Option (α × Hp)) : Option (α × Hp) := if i < 0 ∨ n ≤ i.toNatClampNeg then none else x
def nzI (i : Int32) (x : Option (α × Hp)) : Option (α × Hp) := if i = 0 then none else x
def nzL (i : Int64) (x : Option (α × Hp)) : Option (α × Hp) := if i = 0 then none else x
def zr (v : Int32) (σ : Hp) : Option (Int32 × Hp) := if v = 0 ∨ v = 1 then some (v, σ) else none
def Lt {β γ : Type} (e : β) (k : β → γ) : γ := k e
def bd {β : Type} (x : Option (β × Hp)) (k : β → Hp → Option (α × Hp)) : Option (α × Hp) := match x with
  | none => none
  | some p => k p.1 p.2
def swt (x : Int32) (xs : List (Option (α × Hp))) (dx : Option (α × Hp)) : Option (α × Hp) := if x < 0 then dx else (xs[x.toNatClampNeg]?).getD dx
theorem ck_some {i : Int32} {n : Nat} {x : Option (α × Hp)} {y : α × Hp} (h : ck i n x = some y) : vp_in i n ∧ x = some y := by
  unfold ck at h
  by_cases c : i < 0 ∨ n ≤ i.toNatClampNeg
  · rw [if_pos c] at h; cases h
  · rw [if_neg c] at h; exact ⟨c, h⟩
theorem ck_in {i : Int32} {n : Nat} (h : vp_in i n) : ix i < n := Nat.not_le.mp fun q => h (Or.inr q)
theorem V_ltI {e : Int32} {k : Int32 → Option (α × Hp)} (kk : ∀ v : Int32, VJ rv QF E b nL σ pc L (.int v :: S) (k v)) : VJ rv QF E b nL σ pc L (.int e :: S) (Lt e k) := kk e
theorem V_ltL {e : Int64} {k : Int64 → Option (α × Hp)} (kk : ∀ v : Int64, VJ rv QF E b nL σ pc L (.long v :: S) (k v)) : VJ rv QF E b nL σ pc L (.long e :: S) (Lt e k) := kk e
theorem V_none : VJ rv QF E b nL σ pc L S (none : Option (α × Hp)) := by
  obtain ⟨p, l, e, R, s, m, args, below, meth, c, cells, slots, dC, dI, cA⟩ := E
  intro r σ' hX
  cases hX
theorem V_sub (ks : List Nat) (hl : lv_pick L ks = L') (kk : VJ rv QF E b nL σ pc L' S X) : VJ rv QF E b nL σ pc L S X := by
  obtain ⟨p, l, e, R, s, m, args, below, meth, c, cells, slots, dC, dI, cA⟩ := E
  intro r σ' hX H locs ls hP hS hL
  exact kk r σ' hX H locs ls hP hS (lv_sub hL ks hl)
theorem V_iconst (C : CX E own cc nL d) {n : Int} {v : Int32} (hdg : decode cc pc = .ok (.iconst n, 1)) (hv : Int32.ofInt n = v) (kk : VJ rv QF E b nL σ (pc + 1) L (.int v :: S) (X)) : VJ rv QF E b nL σ (pc) L (S) (X) := by
  obtain ⟨p, l, e, R, s, m, args, below, meth, c, cells, slots, dC, dI, cA⟩ := E
  obtain ⟨⟨hx, hb, hml, ho, hts⟩, hK, hR1, hR2, hR3, hR4⟩ := C
  intro r σ' hX H locs ls hP hS hl
  exact lv_iconst hx hb hdg hv (kk r σ' hX H locs ls hP hS hl)
theorem V_bipush (C : CX E own cc nL d) {n : Int} {v : Int32} (hdg : decode cc pc = .ok (.bipush n, 2)) (hv : (Int8.ofInt n).toInt32 = v) (kk : VJ rv QF E b nL σ (pc + 2) L (.int v :: S) (X)) : VJ rv QF E b nL σ (pc) L (S) (X) := by
  obtain ⟨p, l, e, R, s, m, args, below, meth, c, cells, slots, dC, dI, cA⟩ := E
  obtain ⟨⟨hx, hb, hml, ho, hts⟩, hK, hR1, hR2, hR3, hR4⟩ := C
  intro r σ' hX H locs ls hP hS hl
  exact lv_bipush hx hb hdg hv (kk r σ' hX H locs ls hP hS hl)
theorem V_sipush (C : CX E own cc nL d) {n : Int} {v : Int32} (hdg : decode cc pc = .ok (.sipush n, 3)) (hv : (Int16.ofInt n).toInt32 = v) (kk : VJ rv QF E b nL σ (pc + 3) L (.int v :: S) (X)) : VJ rv QF E b nL σ (pc) L (S) (X) := by
  obtain ⟨p, l, e, R, s, m, args, below, meth, c, cells, slots, dC, dI, cA⟩ := E
  obtain ⟨⟨hx, hb, hml, ho, hts⟩, hK, hR1, hR2, hR3, hR4⟩ := C
  intro r σ' hX H locs ls hP hS hl
  exact lv_sipush hx hb hdg hv (kk r σ' hX H locs ls hP hS hl)
theorem V_lconst (C : CX E own cc nL d) {n : Fin 2} {v : Int64} (hdg : decode cc pc = .ok (.lconst n, 1)) (hv : Int64.ofNat (n : Nat) = v) (kk : VJ rv QF E b nL σ (pc + 1) L (.long v :: S) (X)) : VJ rv QF E b nL σ (pc) L (S) (X) := by
  obtain ⟨p, l, e, R, s, m, args, below, meth, c, cells, slots, dC, dI, cA⟩ := E
  obtain ⟨⟨hx, hb, hml, ho, hts⟩, hK, hR1, hR2, hR3, hR4⟩ := C
  intro r σ' hX H locs ls hP hS hl
  exact lv_lconst hx hb hdg hv (kk r σ' hX H locs ls hP hS hl)
theorem V_ldc2 (C : CX E own cc nL d) {index : Nat} {v : Int64} (hw : Cond.constantLong own index v ∈ BW) (hdg : decode cc pc = .ok (.ldc2_w index, 3)) (kk : VJ rv QF E b nL σ (pc + 3) L (.long v :: S) (X)) : VJ rv QF E b nL σ (pc) L (S) (X) := by
  obtain ⟨p, l, e, R, s, m, args, below, meth, c, cells, slots, dC, dI, cA⟩ := E
  obtain ⟨⟨hx, hb, hml, ho, hts⟩, hK, hR1, hR2, hR3, hR4⟩ := C
  intro r σ' hX H locs ls hP hS hl
  exact lv_ldc2 hx hb ho (hts _ hw) hdg (kk r σ' hX H locs ls hP hS hl)
theorem V_ldcw (C : CX E own cc nL d) {index : Nat} {v : Int32} (hw : Cond.constant own index v ∈ BW) (hdg : decode cc pc = .ok (.ldc_w index, 3)) (kk : VJ rv QF E b nL σ (pc + 3) L (.int v :: S) (X)) : VJ rv QF E b nL σ (pc) L (S) (X) := by
  obtain ⟨p, l, e, R, s, m, args, below, meth, c, cells, slots, dC, dI, cA⟩ := E
  obtain ⟨⟨hx, hb, hml, ho, hts⟩, hK, hR1, hR2, hR3, hR4⟩ := C
  intro r σ' hX H locs ls hP hS hl
  exact lv_ldcw hx hb ho (hts _ hw) hdg (kk r σ' hX H locs ls hP hS hl)
theorem V_ldc (C : CX E own cc nL d) {index : Nat} {v : Int32} (hw : Cond.constant own index v ∈ BW) (hdg : decode cc pc = .ok (.ldc index, 2)) (kk : VJ rv QF E b nL σ (pc + 2) L (.int v :: S) (X)) : VJ rv QF E b nL σ (pc) L (S) (X) := by
  obtain ⟨p, l, e, R, s, m, args, below, meth, c, cells, slots, dC, dI, cA⟩ := E
  obtain ⟨⟨hx, hb, hml, ho, hts⟩, hK, hR1, hR2, hR3, hR4⟩ := C
  intro r σ' hX H locs ls hP hS hl
  exact lv_ldc hx hb ho (hts _ hw) hdg (kk r σ' hX H locs ls hP hS hl)
theorem V_iload_n (C : CX E own cc nL d) {n : Fin 4} {i : Nat} {x : Int32} (hdg : decode cc pc = .ok (.iload_n n, 1)) (hi : (n : Nat) = i) (k : Nat) (hk : L[k]? = some (i, .int x)) (kk : VJ rv QF E b nL σ (pc + 1) L (.int x :: S) (X)) : VJ rv QF E b nL σ (pc) L (S) (X) := by
  obtain ⟨p, l, e, R, s, m, args, below, meth, c, cells, slots, dC, dI, cA⟩ := E
  obtain ⟨⟨hx, hb, hml, ho, hts⟩, hK, hR1, hR2, hR3, hR4⟩ := C
  intro r σ' hX H locs ls hP hS hl
  exact lv_iload_n hx hb hdg hi (lv_at hl k hk) (kk r σ' hX H locs ls hP hS hl)
theorem V_iload (C : CX E own cc nL d) {i : Nat} {x : Int32} (hdg : decode cc pc = .ok (.iload i, 2)) (k : Nat) (hk : L[k]? = some (i, .int x)) (kk : VJ rv QF E b nL σ (pc + 2) L (.int x :: S) (X)) : VJ rv QF E b nL σ (pc) L (S) (X) := by
  obtain ⟨p, l, e, R, s, m, args, below, meth, c, cells, slots, dC, dI, cA⟩ := E
  obtain ⟨⟨hx, hb, hml, ho, hts⟩, hK, hR1, hR2, hR3, hR4⟩ := C
  intro r σ' hX H locs ls hP hS hl
  exact lv_iload hx hb hdg (lv_at hl k hk) (kk r σ' hX H locs ls hP hS hl)
theorem V_lload_n (C : CX E own cc nL d) {n : Fin 4} {i : Nat} {x : Int64} (hdg : decode cc pc = .ok (.lload_n n, 1)) (hi : (n : Nat) = i) (k : Nat) (hk : L[k]? = some (i, .long x)) (kk : VJ rv QF E b nL σ (pc + 1) L (.long x :: S) (X)) : VJ rv QF E b nL σ (pc) L (S) (X) := by
  obtain ⟨p, l, e, R, s, m, args, below, meth, c, cells, slots, dC, dI, cA⟩ := E
  obtain ⟨⟨hx, hb, hml, ho, hts⟩, hK, hR1, hR2, hR3, hR4⟩ := C
  intro r σ' hX H locs ls hP hS hl
  exact lv_lload_n hx hb hdg hi (lv_at hl k hk) (kk r σ' hX H locs ls hP hS hl)
theorem V_lload (C : CX E own cc nL d) {i : Nat} {x : Int64} (hdg : decode cc pc = .ok (.lload i, 2)) (k : Nat) (hk : L[k]? = some (i, .long x)) (kk : VJ rv QF E b nL σ (pc + 2) L (.long x :: S) (X)) : VJ rv QF E b nL σ (pc) L (S) (X) := by
  obtain ⟨p, l, e, R, s, m, args, below, meth, c, cells, slots, dC, dI, cA⟩ := E
  obtain ⟨⟨hx, hb, hml, ho, hts⟩, hK, hR1, hR2, hR3, hR4⟩ := C
  intro r σ' hX H locs ls hP hS hl
  exact lv_lload hx hb hdg (lv_at hl k hk) (kk r σ' hX H locs ls hP hS hl)
theorem V_aload_n (C : CX E own cc nL d) {n : Fin 4} {i : Nat} {x : Nat} (hdg : decode cc pc = .ok (.aload_n n, 1)) (hi : (n : Nat) = i) (k : Nat) (hk : L[k]? = some (i, .ref x)) (kk : VJ rv QF E b nL σ (pc + 1) L (.ref x :: S) (X)) : VJ rv QF E b nL σ (pc) L (S) (X) := by
  obtain ⟨p, l, e, R, s, m, args, below, meth, c, cells, slots, dC, dI, cA⟩ := E
  obtain ⟨⟨hx, hb, hml, ho, hts⟩, hK, hR1, hR2, hR3, hR4⟩ := C
  intro r σ' hX H locs ls hP hS hl
  exact lv_aload_n hx hb hdg hi (lv_at hl k hk) (kk r σ' hX H locs ls hP hS hl)
theorem V_aload (C : CX E own cc nL d) {i : Nat} {x : Nat} (hdg : decode cc pc = .ok (.aload i, 2)) (k : Nat) (hk : L[k]? = some (i, .ref x)) (kk : VJ rv QF E b nL σ (pc + 2) L (.ref x :: S) (X)) : VJ rv QF E b nL σ (pc) L (S) (X) := by
  obtain ⟨p, l, e, R, s, m, args, below, meth, c, cells, slots, dC, dI, cA⟩ := E
  obtain ⟨⟨hx, hb, hml, ho, hts⟩, hK, hR1, hR2, hR3, hR4⟩ := C
  intro r σ' hX H locs ls hP hS hl
  exact lv_aload hx hb hdg (lv_at hl k hk) (kk r σ' hX H locs ls hP hS hl)
theorem V_istore_n (C : CX E own cc nL d) {n : Fin 4} {i : Nat} {x : Int32} (hdg : decode cc pc = .ok (.istore_n n, 1)) (hi : (n : Nat) = i) (hn : i < nL) (hL : (i, Value.int x) :: L.filter (fun q => !(q.1 == i) && !(q.1 + 1 == i && q.2.category == 2)) = L') (kk : VJ rv QF E b nL σ (pc + 1) L' (S) (X)) : VJ rv QF E b nL σ (pc) L (Value.int x :: S) (X) := by
  obtain ⟨p, l, e, R, s, m, args, below, meth, c, cells, slots, dC, dI, cA⟩ := E
  obtain ⟨⟨hx, hb, hml, ho, hts⟩, hK, hR1, hR2, hR3, hR4⟩ := C
  intro r σ' hX H locs ls hP hS hl
  exact lv_istore_n hx hb hdg hi hl hn hL (fun ls hl => kk r σ' hX H locs ls hP hS hl)
theorem V_istore (C : CX E own cc nL d) {i : Nat} {x : Int32} (hdg : decode cc pc = .ok (.istore i, 2)) (hn : i < nL) (hL : (i, Value.int x) :: L.filter (fun q => !(q.1 == i) && !(q.1 + 1 == i && q.2.category == 2)) = L') (kk : VJ rv QF E b nL σ (pc + 2) L' (S) (X)) : VJ rv QF E b nL σ (pc) L (Value.int x :: S) (X) := by
  obtain ⟨p, l, e, R, s, m, args, below, meth, c, cells, slots, dC, dI, cA⟩ := E
  obtain ⟨⟨hx, hb, hml, ho, hts⟩, hK, hR1, hR2, hR3, hR4⟩ := C
  intro r σ' hX H locs ls hP hS hl
  exact lv_istore hx hb hdg hl hn hL (fun ls hl => kk r σ' hX H locs ls hP hS hl)
theorem V_lstore_n (C : CX E own cc nL d) {n : Fin 4} {i : Nat} {x : Int64} (hdg : decode cc pc = .ok (.lstore_n n, 1)) (hi : (n : Nat) = i) (hn : i + 1 < nL) (hL : (i, Value.long x) :: L.filter (fun q => !(q.1 == i) && (!(q.1 == i + 1) && !(q.1 + 1 == i && q.2.category == 2))) = L') (kk : VJ rv QF E b nL σ (pc + 1) L' (S) (X)) : VJ rv QF E b nL σ (pc) L (Value.long x :: S) (X) := by
  obtain ⟨p, l, e, R, s, m, args, below, meth, c, cells, slots, dC, dI, cA⟩ := E
  obtain ⟨⟨hx, hb, hml, ho, hts⟩, hK, hR1, hR2, hR3, hR4⟩ := C
  intro r σ' hX H locs ls hP hS hl
  exact lv_lstore_n hx hb hdg hi hl hn hL (fun ls hl => kk r σ' hX H locs ls hP hS hl)
theorem V_lstore (C : CX E own cc nL d) {i : Nat} {x : Int64} (hdg : decode cc pc = .ok (.lstore i, 2)) (hn : i + 1 < nL) (hL : (i, Value.long x) :: L.filter (fun q => !(q.1 == i) && (!(q.1 == i + 1) && !(q.1 + 1 == i && q.2.category == 2))) = L') (kk : VJ rv QF E b nL σ (pc + 2) L' (S) (X)) : VJ rv QF E b nL σ (pc) L (Value.long x :: S) (X) := by
  obtain ⟨p, l, e, R, s, m, args, below, meth, c, cells, slots, dC, dI, cA⟩ := E
  obtain ⟨⟨hx, hb, hml, ho, hts⟩, hK, hR1, hR2, hR3, hR4⟩ := C
  intro r σ' hX H locs ls hP hS hl
  exact lv_lstore hx hb hdg hl hn hL (fun ls hl => kk r σ' hX H locs ls hP hS hl)
theorem V_astore_n (C : CX E own cc nL d) {n : Fin 4} {i : Nat} {x : Nat} (hdg : decode cc pc = .ok (.astore_n n, 1)) (hi : (n : Nat) = i) (hn : i < nL) (hL : (i, Value.ref x) :: L.filter (fun q => !(q.1 == i) && !(q.1 + 1 == i && q.2.category == 2)) = L') (kk : VJ rv QF E b nL σ (pc + 1) L' (S) (X)) : VJ rv QF E b nL σ (pc) L (Value.ref x :: S) (X) := by
  obtain ⟨p, l, e, R, s, m, args, below, meth, c, cells, slots, dC, dI, cA⟩ := E
  obtain ⟨⟨hx, hb, hml, ho, hts⟩, hK, hR1, hR2, hR3, hR4⟩ := C
  intro r σ' hX H locs ls hP hS hl
  exact lv_astore_n hx hb hdg hi hl hn hL (fun ls hl => kk r σ' hX H locs ls hP hS hl)
theorem V_astore (C : CX E own cc nL d) {i : Nat} {x : Nat} (hdg : decode cc pc = .ok (.astore i, 2)) (hn : i < nL) (hL : (i, Value.ref x) :: L.filter (fun q => !(q.1 == i) && !(q.1 + 1 == i && q.2.category == 2)) = L') (kk : VJ rv QF E b nL σ (pc + 2) L' (S) (X)) : VJ rv QF E b nL σ (pc) L (Value.ref x :: S) (X) := by
  obtain ⟨p, l, e, R, s, m, args, below, meth, c, cells, slots, dC, dI, cA⟩ := E
  obtain ⟨⟨hx, hb, hml, ho, hts⟩, hK, hR1, hR2, hR3, hR4⟩ := C
  intro r σ' hX H locs ls hP hS hl
  exact lv_astore hx hb hdg hl hn hL (fun ls hl => kk r σ' hX H locs ls hP hS hl)
theorem V_iinc (C : CX E own cc nL d) {i k : Nat} {n : Int} {x v : Int32} {K : Int32 → Option (α × Hp)} {L' : Int32 → List (Nat × Value)} (hdg : decode cc pc = .ok (.iinc i n, 3)) (hk : L[k]? = some (i, .int x)) (hv : Int32.ofInt n = v) (hn : i < nL) (hL : ∀ y, (i, Value.int y) :: L.filter (fun q => !(q.1 == i) && !(q.1 + 1 == i && q.2.category == 2)) = L' y) (kk : ∀ y : Int32, VJ rv QF E b nL σ (pc + 3) (L' y) S (K y)) : VJ rv QF E b nL σ pc L S (Lt (x + v) K) := by
  obtain ⟨p, l, e, R, s, m, args, below, meth, c, cells, slots, dC, dI, cA⟩ := E
  obtain ⟨⟨hx, hb, hml, ho, hts⟩, hK, hR1, hR2, hR3, hR4⟩ := C
  intro r σ' hX H locs ls hP hS hl
  exact lv_iinc hx hb hdg hl hk (by rw [hv]) hn (hL (x + v)) (fun ls hl => kk (x + v) r σ' hX H locs ls hP hS hl)
theorem V_iadd (C : CX E own cc nL d) {x y : Int32} (hdg : decode cc pc = .ok (.iadd, 1)) (kk : VJ rv QF E b nL σ (pc + 1) L (.int (x + y) :: S) (X)) : VJ rv QF E b nL σ (pc) L (.int y :: .int x :: S) (X) := by
  obtain ⟨p, l, e, R, s, m, args, below, meth, c, cells, slots, dC, dI, cA⟩ := E
  obtain ⟨⟨hx, hb, hml, ho, hts⟩, hK, hR1, hR2, hR3, hR4⟩ := C
  intro r σ' hX H locs ls hP hS hl
  exact lv_iadd hx hb hdg (kk r σ' hX H locs ls hP hS hl)
theorem V_isub (C : CX E own cc nL d) {x y : Int32} (hdg : decode cc pc = .ok (.isub, 1)) (kk : VJ rv QF E b nL σ (pc + 1) L (.int (x - y) :: S) (X)) : VJ rv QF E b nL σ (pc) L (.int y :: .int x :: S) (X) := by
  obtain ⟨p, l, e, R, s, m, args, below, meth, c, cells, slots, dC, dI, cA⟩ := E
  obtain ⟨⟨hx, hb, hml, ho, hts⟩, hK, hR1, hR2, hR3, hR4⟩ := C
  intro r σ' hX H locs ls hP hS hl
  exact lv_isub hx hb hdg (kk r σ' hX H locs ls hP hS hl)
theorem V_imul (C : CX E own cc nL d) {x y : Int32} (hdg : decode cc pc = .ok (.imul, 1)) (kk : VJ rv QF E b nL σ (pc + 1) L (.int (x * y) :: S) (X)) : VJ rv QF E b nL σ (pc) L (.int y :: .int x :: S) (X) := by
  obtain ⟨p, l, e, R, s, m, args, below, meth, c, cells, slots, dC, dI, cA⟩ := E
  obtain ⟨⟨hx, hb, hml, ho, hts⟩, hK, hR1, hR2, hR3, hR4⟩ := C
  intro r σ' hX H locs ls hP hS hl
  exact lv_imul hx hb hdg (kk r σ' hX H locs ls hP hS hl)
theorem V_iand (C : CX E own cc nL d) {x y : Int32} (hdg : decode cc pc = .ok (.iand, 1)) (kk : VJ rv QF E b nL σ (pc + 1) L (.int (x &&& y) :: S) (X)) : VJ rv QF E b nL σ (pc) L (.int y :: .int x :: S) (X) := by
  obtain ⟨p, l, e, R, s, m, args, below, meth, c, cells, slots, dC, dI, cA⟩ := E
  obtain ⟨⟨hx, hb, hml, ho, hts⟩, hK, hR1, hR2, hR3, hR4⟩ := C
  intro r σ' hX H locs ls hP hS hl
  exact lv_iand hx hb hdg (kk r σ' hX H locs ls hP hS hl)
theorem V_ior (C : CX E own cc nL d) {x y : Int32} (hdg : decode cc pc = .ok (.ior, 1)) (kk : VJ rv QF E b nL σ (pc + 1) L (.int (x ||| y) :: S) (X)) : VJ rv QF E b nL σ (pc) L (.int y :: .int x :: S) (X) := by
  obtain ⟨p, l, e, R, s, m, args, below, meth, c, cells, slots, dC, dI, cA⟩ := E
  obtain ⟨⟨hx, hb, hml, ho, hts⟩, hK, hR1, hR2, hR3, hR4⟩ := C
  intro r σ' hX H locs ls hP hS hl
  exact lv_ior hx hb hdg (kk r σ' hX H locs ls hP hS hl)
theorem V_ixor (C : CX E own cc nL d) {x y : Int32} (hdg : decode cc pc = .ok (.ixor, 1)) (kk : VJ rv QF E b nL σ (pc + 1) L (.int (x ^^^ y) :: S) (X)) : VJ rv QF E b nL σ (pc) L (.int y :: .int x :: S) (X) := by
  obtain ⟨p, l, e, R, s, m, args, below, meth, c, cells, slots, dC, dI, cA⟩ := E
  obtain ⟨⟨hx, hb, hml, ho, hts⟩, hK, hR1, hR2, hR3, hR4⟩ := C
  intro r σ' hX H locs ls hP hS hl
  exact lv_ixor hx hb hdg (kk r σ' hX H locs ls hP hS hl)
theorem V_ishl (C : CX E own cc nL d) {x y : Int32} (hdg : decode cc pc = .ok (.ishl, 1)) (kk : VJ rv QF E b nL σ (pc + 1) L (.int (x <<< (y &&& 31)) :: S) (X)) : VJ rv QF E b nL σ (pc) L (.int y :: .int x :: S) (X) := by
  obtain ⟨p, l, e, R, s, m, args, below, meth, c, cells, slots, dC, dI, cA⟩ := E
  obtain ⟨⟨hx, hb, hml, ho, hts⟩, hK, hR1, hR2, hR3, hR4⟩ := C
  intro r σ' hX H locs ls hP hS hl
  exact lv_ishl hx hb hdg (kk r σ' hX H locs ls hP hS hl)
theorem V_ishr (C : CX E own cc nL d) {x y : Int32} (hdg : decode cc pc = .ok (.ishr, 1)) (kk : VJ rv QF E b nL σ (pc + 1) L (.int (x >>> (y &&& 31)) :: S) (X)) : VJ rv QF E b nL σ (pc) L (.int y :: .int x :: S) (X) := by
  obtain ⟨p, l, e, R, s, m, args, below, meth, c, cells, slots, dC, dI, cA⟩ := E
  obtain ⟨⟨hx, hb, hml, ho, hts⟩, hK, hR1, hR2, hR3, hR4⟩ := C
  intro r σ' hX H locs ls hP hS hl
  exact lv_ishr hx hb hdg (kk r σ' hX H locs ls hP hS hl)
theorem V_iushr (C : CX E own cc nL d) {x y : Int32} (hdg : decode cc pc = .ok (.iushr, 1)) (kk : VJ rv QF E b nL σ (pc + 1) L (.int ((x.toUInt32 >>> (y.toUInt32 &&& Int32.toUInt32 31)).toInt32) :: S) (X)) : VJ rv QF E b nL σ (pc) L (.int y :: .int x :: S) (X) := by
  obtain ⟨p, l, e, R, s, m, args, below, meth, c, cells, slots, dC, dI, cA⟩ := E
  obtain ⟨⟨hx, hb, hml, ho, hts⟩, hK, hR1, hR2, hR3, hR4⟩ := C
  intro r σ' hX H locs ls hP hS hl
  exact lv_iushr hx hb hdg rfl (kk r σ' hX H locs ls hP hS hl)
theorem V_ladd (C : CX E own cc nL d) {x y : Int64} (hdg : decode cc pc = .ok (.ladd, 1)) (kk : VJ rv QF E b nL σ (pc + 1) L (.long (x + y) :: S) (X)) : VJ rv QF E b nL σ (pc) L (.long y :: .long x :: S) (X) := by
  obtain ⟨p, l, e, R, s, m, args, below, meth, c, cells, slots, dC, dI, cA⟩ := E
  obtain ⟨⟨hx, hb, hml, ho, hts⟩, hK, hR1, hR2, hR3, hR4⟩ := C
  intro r σ' hX H locs ls hP hS hl
  exact lv_ladd hx hb hdg (kk r σ' hX H locs ls hP hS hl)
theorem V_lsub (C : CX E own cc nL d) {x y : Int64} (hdg : decode cc pc = .ok (.lsub, 1)) (kk : VJ rv QF E b nL σ (pc + 1) L (.long (x - y) :: S) (X)) : VJ rv QF E b nL σ (pc) L (.long y :: .long x :: S) (X) := by
  obtain ⟨p, l, e, R, s, m, args, below, meth, c, cells, slots, dC, dI, cA⟩ := E
  obtain ⟨⟨hx, hb, hml, ho, hts⟩, hK, hR1, hR2, hR3, hR4⟩ := C
  intro r σ' hX H locs ls hP hS hl
  exact lv_lsub hx hb hdg (kk r σ' hX H locs ls hP hS hl)
theorem V_lmul (C : CX E own cc nL d) {x y : Int64} (hdg : decode cc pc = .ok (.lmul, 1)) (kk : VJ rv QF E b nL σ (pc + 1) L (.long (x * y) :: S) (X)) : VJ rv QF E b nL σ (pc) L (.long y :: .long x :: S) (X) := by
  obtain ⟨p, l, e, R, s, m, args, below, meth, c, cells, slots, dC, dI, cA⟩ := E
  obtain ⟨⟨hx, hb, hml, ho, hts⟩, hK, hR1, hR2, hR3, hR4⟩ := C
  intro r σ' hX H locs ls hP hS hl
  exact lv_lmul hx hb hdg (kk r σ' hX H locs ls hP hS hl)
theorem V_land (C : CX E own cc nL d) {x y : Int64} (hdg : decode cc pc = .ok (.land, 1)) (kk : VJ rv QF E b nL σ (pc + 1) L (.long (x &&& y) :: S) (X)) : VJ rv QF E b nL σ (pc) L (.long y :: .long x :: S) (X) := by
  obtain ⟨p, l, e, R, s, m, args, below, meth, c, cells, slots, dC, dI, cA⟩ := E
  obtain ⟨⟨hx, hb, hml, ho, hts⟩, hK, hR1, hR2, hR3, hR4⟩ := C
  intro r σ' hX H locs ls hP hS hl
  exact lv_land hx hb hdg (kk r σ' hX H locs ls hP hS hl)
theorem V_lor (C : CX E own cc nL d) {x y : Int64} (hdg : decode cc pc = .ok (.lor, 1)) (kk : VJ rv QF E b nL σ (pc + 1) L (.long (x ||| y) :: S) (X)) : VJ rv QF E b nL σ (pc) L (.long y :: .long x :: S) (X) := by
  obtain ⟨p, l, e, R, s, m, args, below, meth, c, cells, slots, dC, dI, cA⟩ := E
  obtain ⟨⟨hx, hb, hml, ho, hts⟩, hK, hR1, hR2, hR3, hR4⟩ := C
  intro r σ' hX H locs ls hP hS hl
  exact lv_lor hx hb hdg (kk r σ' hX H locs ls hP hS hl)
theorem V_lshl (C : CX E own cc nL d) {x : Int64} {y : Int32} (hdg : decode cc pc = .ok (.lshl, 1)) (kk : VJ rv QF E b nL σ (pc + 1) L (.long (x <<< (y.toInt64 &&& 63)) :: S) (X)) : VJ rv QF E b nL σ (pc) L (.int y :: .long x :: S) (X) := by
  obtain ⟨p, l, e, R, s, m, args, below, meth, c, cells, slots, dC, dI, cA⟩ := E
  obtain ⟨⟨hx, hb, hml, ho, hts⟩, hK, hR1, hR2, hR3, hR4⟩ := C
  intro r σ' hX H locs ls hP hS hl
  exact lv_lshl hx hb hdg rfl (kk r σ' hX H locs ls hP hS hl)
theorem V_lshr (C : CX E own cc nL d) {x : Int64} {y : Int32} (hdg : decode cc pc = .ok (.lshr, 1)) (kk : VJ rv QF E b nL σ (pc + 1) L (.long (x >>> (y.toInt64 &&& 63)) :: S) (X)) : VJ rv QF E b nL σ (pc) L (.int y :: .long x :: S) (X) := by
  obtain ⟨p, l, e, R, s, m, args, below, meth, c, cells, slots, dC, dI, cA⟩ := E
  obtain ⟨⟨hx, hb, hml, ho, hts⟩, hK, hR1, hR2, hR3, hR4⟩ := C
  intro r σ' hX H locs ls hP hS hl
  exact lv_lshr hx hb hdg rfl (kk r σ' hX H locs ls hP hS hl)
theorem V_i2l (C : CX E own cc nL d) {x : Int32} (hdg : decode cc pc = .ok (.i2l, 1)) (kk : VJ rv QF E b nL σ (pc + 1) L (.long x.toInt64 :: S) (X)) : VJ rv QF E b nL σ (pc) L (.int x :: S) (X) := by
  obtain ⟨p, l, e, R, s, m, args, below, meth, c, cells, slots, dC, dI, cA⟩ := E
  obtain ⟨⟨hx, hb, hml, ho, hts⟩, hK, hR1, hR2, hR3, hR4⟩ := C
  intro r σ' hX H locs ls hP hS hl
  exact lv_i2l hx hb hdg rfl (kk r σ' hX H locs ls hP hS hl)
theorem V_l2i (C : CX E own cc nL d) {x : Int64} (hdg : decode cc pc = .ok (.l2i, 1)) (kk : VJ rv QF E b nL σ (pc + 1) L (.int x.toInt32 :: S) (X)) : VJ rv QF E b nL σ (pc) L (.long x :: S) (X) := by
  obtain ⟨p, l, e, R, s, m, args, below, meth, c, cells, slots, dC, dI, cA⟩ := E
  obtain ⟨⟨hx, hb, hml, ho, hts⟩, hK, hR1, hR2, hR3, hR4⟩ := C
  intro r σ' hX H locs ls hP hS hl
  exact lv_l2i hx hb hdg rfl (kk r σ' hX H locs ls hP hS hl)
theorem V_i2b (C : CX E own cc nL d) {x : Int32} (hdg : decode cc pc = .ok (.i2b, 1)) (kk : VJ rv QF E b nL σ (pc + 1) L (.int x.toInt8.toInt32 :: S) (X)) : VJ rv QF E b nL σ (pc) L (.int x :: S) (X) := by
  obtain ⟨p, l, e, R, s, m, args, below, meth, c, cells, slots, dC, dI, cA⟩ := E
  obtain ⟨⟨hx, hb, hml, ho, hts⟩, hK, hR1, hR2, hR3, hR4⟩ := C
  intro r σ' hX H locs ls hP hS hl
  exact lv_i2b hx hb hdg rfl (kk r σ' hX H locs ls hP hS hl)
theorem V_lcmp (C : CX E own cc nL d) {x y : Int64} (hdg : decode cc pc = .ok (.lcmp, 1)) (kk : VJ rv QF E b nL σ (pc + 1) L (.int (lg_cmp x y) :: S) (X)) : VJ rv QF E b nL σ (pc) L (.long y :: .long x :: S) (X) := by
  obtain ⟨p, l, e, R, s, m, args, below, meth, c, cells, slots, dC, dI, cA⟩ := E
  obtain ⟨⟨hx, hb, hml, ho, hts⟩, hK, hR1, hR2, hR3, hR4⟩ := C
  intro r σ' hX H locs ls hP hS hl
  exact W.lcmp hx hb hdg (kk r σ' hX H locs ls hP hS hl)
theorem V_irem (C : CX E own cc nL d) {x y : Int32} (hdg : decode cc pc = .ok (.irem, 1)) (kk : VJ rv QF E b nL σ (pc + 1) L (.int (x - x / y * y) :: S) (X)) : VJ rv QF E b nL σ (pc) L (.int y :: .int x :: S) (nzI y X) := by
  obtain ⟨p, l, e, R, s, m, args, below, meth, c, cells, slots, dC, dI, cA⟩ := E
  obtain ⟨⟨hx, hb, hml, ho, hts⟩, hK, hR1, hR2, hR3, hR4⟩ := C
  intro r σ' hX H locs ls hP hS hl
  have hz : ¬ y = 0 ∧ X = some (r, σ') := by
    unfold nzI at hX
    by_cases q : y = 0
    · rw [if_pos q] at hX; cases hX
    · rw [if_neg q] at hX; exact ⟨q, hX⟩
  exact lv_irem hx hb hdg hz.1 (kk r σ' hz.2 H locs ls hP hS hl)
theorem V_lrem (C : CX E own cc nL d) {x y : Int64} (hdg : decode cc pc = .ok (.lrem, 1)) (kk : VJ rv QF E b nL σ (pc + 1) L (.long (x - x / y * y) :: S) (X)) : VJ rv QF E b nL σ (pc) L (.long y :: .long x :: S) (nzL y X) := by
  obtain ⟨p, l, e, R, s, m, args, below, meth, c, cells, slots, dC, dI, cA⟩ := E
  obtain ⟨⟨hx, hb, hml, ho, hts⟩, hK, hR1, hR2, hR3, hR4⟩ := C
  intro r σ' hX H locs ls hP hS hl
  have hz : ¬ y = 0 ∧ X = some (r, σ') := by
    unfold nzL at hX
    by_cases q : y = 0
    · rw [if_pos q] at hX; cases hX
    · rw [if_neg q] at hX; exact ⟨q, hX⟩
  exact lv_lrem hx hb hdg hz.1 (kk r σ' hz.2 H locs ls hP hS hl)
theorem V_ldiv (C : CX E own cc nL d) {x y : Int64} (hdg : decode cc pc = .ok (.ldiv, 1)) (kk : VJ rv QF E b nL σ (pc + 1) L (.long (x / y) :: S) (X)) : VJ rv QF E b nL σ (pc) L (.long y :: .long x :: S) (nzL y X) := by
  obtain ⟨p, l, e, R, s, m, args, below, meth, c, cells, slots, dC, dI, cA⟩ := E
  obtain ⟨⟨hx, hb, hml, ho, hts⟩, hK, hR1, hR2, hR3, hR4⟩ := C
  intro r σ' hX H locs ls hP hS hl
  have hz : ¬ y = 0 ∧ X = some (r, σ') := by
    unfold nzL at hX
    by_cases q : y = 0
    · rw [if_pos q] at hX; cases hX
    · rw [if_neg q] at hX; exact ⟨q, hX⟩
  exact lv_ldiv hx hb hdg hz.1 (kk r σ' hz.2 H locs ls hP hS hl)
theorem V_dup (C : CX E own cc nL d) {v : Value} (hdg : decode cc pc = .ok (.dup, 1)) (hv : v.category = 1) (kk : VJ rv QF E b nL σ (pc + 1) L (v :: v :: S) (X)) : VJ rv QF E b nL σ (pc) L (v :: S) (X) := by
  obtain ⟨p, l, e, R, s, m, args, below, meth, c, cells, slots, dC, dI, cA⟩ := E
  obtain ⟨⟨hx, hb, hml, ho, hts⟩, hK, hR1, hR2, hR3, hR4⟩ := C
  intro r σ' hX H locs ls hP hS hl
  exact lv_dup hx hb hdg hv (kk r σ' hX H locs ls hP hS hl)
theorem V_pop (C : CX E own cc nL d) {v : Value} (hdg : decode cc pc = .ok (.pop, 1)) (hv : v.category = 1) (kk : VJ rv QF E b nL σ (pc + 1) L (S) (X)) : VJ rv QF E b nL σ (pc) L (v :: S) (X) := by
  obtain ⟨p, l, e, R, s, m, args, below, meth, c, cells, slots, dC, dI, cA⟩ := E
  obtain ⟨⟨hx, hb, hml, ho, hts⟩, hK, hR1, hR2, hR3, hR4⟩ := C
  intro r σ' hX H locs ls hP hS hl
  exact lv_pop hx hb hdg hv (kk r σ' hX H locs ls hP hS hl)
theorem V_dup2 (C : CX E own cc nL d) {v u : Value} (hdg : decode cc pc = .ok (.dup2, 1)) (hv : v.category = 1) (hu : u.category = 1) (kk : VJ rv QF E b nL σ (pc + 1) L (v :: u :: v :: u :: S) (X)) : VJ rv QF E b nL σ (pc) L (v :: u :: S) (X) := by
  obtain ⟨p, l, e, R, s, m, args, below, meth, c, cells, slots, dC, dI, cA⟩ := E
  obtain ⟨⟨hx, hb, hml, ho, hts⟩, hK, hR1, hR2, hR3, hR4⟩ := C
  intro r σ' hX H locs ls hP hS hl
  exact lv_dup2_11 hx hb hdg hv hu (kk r σ' hX H locs ls hP hS hl)
theorem V_if_eq (C : CX E own cc nL d) {x : Int32} {off : Int} {tgt : Nat} (hdg : decode cc pc = .ok (.ifCond .eq off, 3)) (ht : (pc : Int) + off = (tgt : Int)) (kt : VJ rv QF E b nL σ tgt L S X1) (kf : VJ rv QF E b nL σ (pc + 3) L S X2) : VJ rv QF E b nL σ pc L (.int x :: S) (if x = 0 then X1 else X2) := by
  obtain ⟨p, l, e, R, s, m, args, below, meth, c, cells, slots, dC, dI, cA⟩ := E
  obtain ⟨⟨hx, hb, hml, ho, hts⟩, hK, hR1, hR2, hR3, hR4⟩ := C
  intro r σ' hX H locs ls hP hS hl
  exact lv_if_eq hx hb hdg ht (fun q => kt r σ' (by rw [if_pos q] at hX; exact hX) H locs ls hP hS hl) (fun q => kf r σ' (by rw [if_neg q] at hX; exact hX) H locs ls hP hS hl)
theorem V_if_lt (C : CX E own cc nL d) {x : Int32} {off : Int} {tgt : Nat} (hdg : decode cc pc = .ok (.ifCond .lt off, 3)) (ht : (pc : Int) + off = (tgt : Int)) (kt : VJ rv QF E b nL σ tgt L S X1) (kf : VJ rv QF E b nL σ (pc + 3) L S X2) : VJ rv QF E b nL σ pc L (.int x :: S) (if x < 0 then X1 else X2) := by
  obtain ⟨p, l, e, R, s, m, args, below, meth, c, cells, slots, dC, dI, cA⟩ := E
  obtain ⟨⟨hx, hb, hml, ho, hts⟩, hK, hR1, hR2, hR3, hR4⟩ := C
  intro r σ' hX H locs ls hP hS hl
  exact lv_if_lt hx hb hdg ht (fun q => kt r σ' (by rw [if_pos q] at hX; exact hX) H locs ls hP hS hl) (fun q => kf r σ' (by rw [if_neg q] at hX; exact hX) H locs ls hP hS hl)
theorem V_if_ge (C : CX E own cc nL d) {x : Int32} {off : Int} {tgt : Nat} (hdg : decode cc pc = .ok (.ifCond .ge off, 3)) (ht : (pc : Int) + off = (tgt : Int)) (kt : VJ rv QF E b nL σ tgt L S X1) (kf : VJ rv QF E b nL σ (pc + 3) L S X2) : VJ rv QF E b nL σ pc L (.int x :: S) (if 0 ≤ x then X1 else X2) := by
  obtain ⟨p, l, e, R, s, m, args, below, meth, c, cells, slots, dC, dI, cA⟩ := E
  obtain ⟨⟨hx, hb, hml, ho, hts⟩, hK, hR1, hR2, hR3, hR4⟩ := C
  intro r σ' hX H locs ls hP hS hl
  exact lv_if_ge hx hb hdg ht (fun q => kt r σ' (by rw [if_pos q] at hX; exact hX) H locs ls hP hS hl) (fun q => kf r σ' (by rw [if_neg q] at hX; exact hX) H locs ls hP hS hl)
theorem V_if_gt (C : CX E own cc nL d) {x : Int32} {off : Int} {tgt : Nat} (hdg : decode cc pc = .ok (.ifCond .gt off, 3)) (ht : (pc : Int) + off = (tgt : Int)) (kt : VJ rv QF E b nL σ tgt L S X1) (kf : VJ rv QF E b nL σ (pc + 3) L S X2) : VJ rv QF E b nL σ pc L (.int x :: S) (if 0 < x then X1 else X2) := by
  obtain ⟨p, l, e, R, s, m, args, below, meth, c, cells, slots, dC, dI, cA⟩ := E
  obtain ⟨⟨hx, hb, hml, ho, hts⟩, hK, hR1, hR2, hR3, hR4⟩ := C
  intro r σ' hX H locs ls hP hS hl
  exact lv_if_gt hx hb hdg ht (fun q => kt r σ' (by rw [if_pos q] at hX; exact hX) H locs ls hP hS hl) (fun q => kf r σ' (by rw [if_neg q] at hX; exact hX) H locs ls hP hS hl)
theorem V_if_le (C : CX E own cc nL d) {x : Int32} {off : Int} {tgt : Nat} (hdg : decode cc pc = .ok (.ifCond .le off, 3)) (ht : (pc : Int) + off = (tgt : Int)) (kt : VJ rv QF E b nL σ tgt L S X1) (kf : VJ rv QF E b nL σ (pc + 3) L S X2) : VJ rv QF E b nL σ pc L (.int x :: S) (if x ≤ 0 then X1 else X2) := by
  obtain ⟨p, l, e, R, s, m, args, below, meth, c, cells, slots, dC, dI, cA⟩ := E
  obtain ⟨⟨hx, hb, hml, ho, hts⟩, hK, hR1, hR2, hR3, hR4⟩ := C
  intro r σ' hX H locs ls hP hS hl
  exact lv_if_le hx hb hdg ht (fun q => kt r σ' (by rw [if_pos q] at hX; exact hX) H locs ls hP hS hl) (fun q => kf r σ' (by rw [if_neg q] at hX; exact hX) H locs ls hP hS hl)
theorem V_if_ne (C : CX E own cc nL d) {x : Int32} {off : Int} {tgt : Nat} (hdg : decode cc pc = .ok (.ifCond .ne off, 3)) (ht : (pc : Int) + off = (tgt : Int)) (kt : VJ rv QF E b nL σ tgt L S X1) (kf : VJ rv QF E b nL σ (pc + 3) L S X2) : VJ rv QF E b nL σ pc L (.int x :: S) (if x = 0 then X2 else X1) := by
  obtain ⟨p, l, e, R, s, m, args, below, meth, c, cells, slots, dC, dI, cA⟩ := E
  obtain ⟨⟨hx, hb, hml, ho, hts⟩, hK, hR1, hR2, hR3, hR4⟩ := C
  intro r σ' hX H locs ls hP hS hl
  exact lv_if_ne hx hb hdg ht (fun q => kt r σ' (by rw [if_neg q] at hX; exact hX) H locs ls hP hS hl) (fun q => kf r σ' (by rw [if_pos q] at hX; exact hX) H locs ls hP hS hl)
theorem V_icmp_eq (C : CX E own cc nL d) {x y : Int32} {off : Int} {tgt : Nat} (hdg : decode cc pc = .ok (.if_icmp .eq off, 3)) (ht : (pc : Int) + off = (tgt : Int)) (kt : VJ rv QF E b nL σ tgt L S X1) (kf : VJ rv QF E b nL σ (pc + 3) L S X2) : VJ rv QF E b nL σ pc L (.int y :: .int x :: S) (if x = y then X1 else X2) := by
  obtain ⟨p, l, e, R, s, m, args, below, meth, c, cells, slots, dC, dI, cA⟩ := E
  obtain ⟨⟨hx, hb, hml, ho, hts⟩, hK, hR1, hR2, hR3, hR4⟩ := C
  intro r σ' hX H locs ls hP hS hl
  exact lv_icmp_eq hx hb hdg ht (fun q => kt r σ' (by rw [if_pos q] at hX; exact hX) H locs ls hP hS hl) (fun q => kf r σ' (by rw [if_neg q] at hX; exact hX) H locs ls hP hS hl)
theorem V_icmp_lt (C : CX E own cc nL d) {x y : Int32} {off : Int} {tgt : Nat} (hdg : decode cc pc = .ok (.if_icmp .lt off, 3)) (ht : (pc : Int) + off = (tgt : Int)) (kt : VJ rv QF E b nL σ tgt L S X1) (kf : VJ rv QF E b nL σ (pc + 3) L S X2) : VJ rv QF E b nL σ pc L (.int y :: .int x :: S) (if x < y then X1 else X2) := by
  obtain ⟨p, l, e, R, s, m, args, below, meth, c, cells, slots, dC, dI, cA⟩ := E
  obtain ⟨⟨hx, hb, hml, ho, hts⟩, hK, hR1, hR2, hR3, hR4⟩ := C
  intro r σ' hX H locs ls hP hS hl
  exact lv_icmp_lt hx hb hdg ht (fun q => kt r σ' (by rw [if_pos q] at hX; exact hX) H locs ls hP hS hl) (fun q => kf r σ' (by rw [if_neg q] at hX; exact hX) H locs ls hP hS hl)
theorem V_icmp_ge (C : CX E own cc nL d) {x y : Int32} {off : Int} {tgt : Nat} (hdg : decode cc pc = .ok (.if_icmp .ge off, 3)) (ht : (pc : Int) + off = (tgt : Int)) (kt : VJ rv QF E b nL σ tgt L S X1) (kf : VJ rv QF E b nL σ (pc + 3) L S X2) : VJ rv QF E b nL σ pc L (.int y :: .int x :: S) (if y ≤ x then X1 else X2) := by
  obtain ⟨p, l, e, R, s, m, args, below, meth, c, cells, slots, dC, dI, cA⟩ := E
  obtain ⟨⟨hx, hb, hml, ho, hts⟩, hK, hR1, hR2, hR3, hR4⟩ := C
  intro r σ' hX H locs ls hP hS hl
  exact lv_icmp_ge hx hb hdg ht (fun q => kt r σ' (by rw [if_pos q] at hX; exact hX) H locs ls hP hS hl) (fun q => kf r σ' (by rw [if_neg q] at hX; exact hX) H locs ls hP hS hl)
theorem V_icmp_gt (C : CX E own cc nL d) {x y : Int32} {off : Int} {tgt : Nat} (hdg : decode cc pc = .ok (.if_icmp .gt off, 3)) (ht : (pc : Int) + off = (tgt : Int)) (kt : VJ rv QF E b nL σ tgt L S X1) (kf : VJ rv QF E b nL σ (pc + 3) L S X2) : VJ rv QF E b nL σ pc L (.int y :: .int x :: S) (if y < x then X1 else X2) := by
  obtain ⟨p, l, e, R, s, m, args, below, meth, c, cells, slots, dC, dI, cA⟩ := E
  obtain ⟨⟨hx, hb, hml, ho, hts⟩, hK, hR1, hR2, hR3, hR4⟩ := C
  intro r σ' hX H locs ls hP hS hl
  exact lv_icmp_gt hx hb hdg ht (fun q => kt r σ' (by rw [if_pos q] at hX; exact hX) H locs ls hP hS hl) (fun q => kf r σ' (by rw [if_neg q] at hX; exact hX) H locs ls hP hS hl)
theorem V_icmp_le (C : CX E own cc nL d) {x y : Int32} {off : Int} {tgt : Nat} (hdg : decode cc pc = .ok (.if_icmp .le off, 3)) (ht : (pc : Int) + off = (tgt : Int)) (kt : VJ rv QF E b nL σ tgt L S X1) (kf : VJ rv QF E b nL σ (pc + 3) L S X2) : VJ rv QF E b nL σ pc L (.int y :: .int x :: S) (if x ≤ y then X1 else X2) := by
  obtain ⟨p, l, e, R, s, m, args, below, meth, c, cells, slots, dC, dI, cA⟩ := E
  obtain ⟨⟨hx, hb, hml, ho, hts⟩, hK, hR1, hR2, hR3, hR4⟩ := C
  intro r σ' hX H locs ls hP hS hl
  exact lv_icmp_le hx hb hdg ht (fun q => kt r σ' (by rw [if_pos q] at hX; exact hX) H locs ls hP hS hl) (fun q => kf r σ' (by rw [if_neg q] at hX; exact hX) H locs ls hP hS hl)
theorem V_icmp_ne (C : CX E own cc nL d) {x y : Int32} {off : Int} {tgt : Nat} (hdg : decode cc pc = .ok (.if_icmp .ne off, 3)) (ht : (pc : Int) + off = (tgt : Int)) (kt : VJ rv QF E b nL σ tgt L S X1) (kf : VJ rv QF E b nL σ (pc + 3) L S X2) : VJ rv QF E b nL σ pc L (.int y :: .int x :: S) (if x = y then X2 else X1) := by
  obtain ⟨p, l, e, R, s, m, args, below, meth, c, cells, slots, dC, dI, cA⟩ := E
  obtain ⟨⟨hx, hb, hml, ho, hts⟩, hK, hR1, hR2, hR3, hR4⟩ := C
  intro r σ' hX H locs ls hP hS hl
  exact lv_icmp_ne hx hb hdg ht (fun q => kt r σ' (by rw [if_neg q] at hX; exact hX) H locs ls hP hS hl) (fun q => kf r σ' (by rw [if_pos q] at hX; exact hX) H locs ls hP hS hl)
theorem V_goto (C : CX E own cc nL d) {off : Int} {tgt : Nat} (hdg : decode cc pc = .ok (.goto off, 3)) (ht : (pc : Int) + off = (tgt : Int)) (kk : VJ rv QF E b nL σ (tgt) L (S) (X)) : VJ rv QF E b nL σ (pc) L (S) (X) := by
  obtain ⟨p, l, e, R, s, m, args, below, meth, c, cells, slots, dC, dI, cA⟩ := E
  obtain ⟨⟨hx, hb, hml, ho, hts⟩, hK, hR1, hR2, hR3, hR4⟩ := C
  intro r σ' hX H locs ls hP hS hl
  exact lv_goto hx hb hdg ht (kk r σ' hX H locs ls hP hS hl)
theorem V_table (C : CX E own cc nL d) {dflt hi : Int} {offs : Array Int} {len : Nat} {x : Int32} {dt : Nat} {xs : List (Option (α × Hp))} {dx : Option (α × Hp)} (hdg : decode cc pc = .ok (.tableswitch dflt 0 hi offs, len)) (hhi : hi + 1 = (xs.length : Int)) (ht : (pc : Int) + dflt = (dt : Int)) (kd : VJ rv QF E b nL σ dt L S dx) (kk : ∀ (k : Nat) (X : Option (α × Hp)), xs[k]? = some X → ∃ (off : Int) (tgt : Nat), offs[k]? = some off ∧ (pc : Int) + off = (tgt : Int) ∧ VJ rv QF E b nL σ tgt L S X) : VJ rv QF E b nL σ pc L (.int x :: S) (swt x xs dx) := by
  obtain ⟨p, l, e, R, s, m, args, below, meth, c, cells, slots, dC, dI, cA⟩ := E
  obtain ⟨⟨hx, hb, hml, ho, hts⟩, hK, hR1, hR2, hR3, hR4⟩ := C
  intro r σ' hX H locs ls hP hS hl
  unfold swt at hX
  by_cases hneg : x < 0
  · rw [if_pos hneg] at hX
    have h0 : x.toInt < 0 := by
      have := Int32.lt_iff_toInt_lt.mp hneg
      simpa using this
    exact lv_tableOut hx hb hdg (Or.inl h0) ht (kd r σ' hX H locs ls hP hS hl)
  · rw [if_neg hneg] at hX
    have h0 : ¬ x.toInt < 0 := fun q => hneg (Int32.lt_iff_toInt_lt.mpr (by simpa using q))
    have hcl : x.toNatClampNeg = x.toInt.toNat := rfl
    cases hk : xs[x.toNatClampNeg]? with
    | none =>
      rw [hk] at hX
      have h1 : xs.length ≤ x.toNatClampNeg := List.getElem?_eq_none_iff.mp hk
      exact lv_tableOut hx hb hdg (Or.inr (by omega)) ht (kd r σ' hX H locs ls hP hS hl)
    | some Y =>
      rw [hk] at hX
      have h1 : x.toNatClampNeg < xs.length := (List.getElem?_eq_some_iff.mp hk).1
      obtain ⟨off, tgt, g1, g2, g3⟩ := kk _ _ hk
      exact lv_tableIn hx hb hdg h0 (by omega) (by rw [show (x.toInt - 0).toNat = x.toNatClampNeg by rw [hcl]; omega]; exact g1) g2 (g3 r σ' hX H locs ls hP hS hl)
theorem V_getI (C : CX E own cc nL d) {o ci k N : Nat} {Cn : String} {T : u_T} {index : Nat} {tpl : List (Option Nat)} (hN : o < NN) (hlay : lay o = .inr (.inr (ci, tpl))) (hc : vwCl[ci]? = some (Cn, T, N)) (hin : ∀ w ∈ u_ws Cn T N, w ∈ BW) (hk : k < N) (hlink : Cond.fieldLink own index (T k).1 (T k).2.1 (T k).2.2.1 ∈ BW) (ht : tpl[k]? = some none) (hdg : decode cc pc = .ok (.getfield index, 3)) (kk : VJ rv QF E b nL σ (pc + 3) L (.int (σ o k) :: S) (X)) : VJ rv QF E b nL σ (pc) L (.ref (b + o) :: S) (X) := by
  obtain ⟨p, l, e, R, s, m, args, below, meth, c, cells, slots, dC, dI, cA⟩ := E
  obtain ⟨⟨hx, hb, hml, ho, hts⟩, hK, hR1, hR2, hR3, hR4⟩ := C
  intro r σ' hX H locs ls hP hS hl
  have he : (wl cA b σ)[o]? = some (b + o, .inr (ci, mkF b (σ o) 0 tpl)) := by rw [wl_get hN, hlay]; rfl
  have hv : (mkF b (σ o) 0 tpl)[k]? = some (.int (σ o k)) := by have h := mkF_int b (σ o) tpl 0 k ht; simpa using h
  exact va_get (D := (dC, dI)) (ci := ci) (C := Cn) (T := T) (N := N) hx hb hts hin ho hK.1 hP o he hc k hk (hts _ hlink) (fun _ h => h) hv hdg (kk r σ' hX H locs ls hP hS hl)
theorem V_getR (C : CX E own cc nL d) {o ci k N : Nat} {Cn : String} {T : u_T} {index : Nat} {tpl : List (Option Nat)} (hN : o < NN) (hlay : lay o = .inr (.inr (ci, tpl))) (hc : vwCl[ci]? = some (Cn, T, N)) (hin : ∀ w ∈ u_ws Cn T N, w ∈ BW) (hk : k < N) (hlink : Cond.fieldLink own index (T k).1 (T k).2.1 (T k).2.2.1 ∈ BW) {q : Nat} (ht : tpl[k]? = some (some q)) (hdg : decode cc pc = .ok (.getfield index, 3)) (kk : VJ rv QF E b nL σ (pc + 3) L (.ref (b + q) :: S) (X)) : VJ rv QF E b nL σ (pc) L (.ref (b + o) :: S) (X) := by
  obtain ⟨p, l, e, R, s, m, args, below, meth, c, cells, slots, dC, dI, cA⟩ := E
  obtain ⟨⟨hx, hb, hml, ho, hts⟩, hK, hR1, hR2, hR3, hR4⟩ := C
  intro r σ' hX H locs ls hP hS hl
  have he : (wl cA b σ)[o]? = some (b + o, .inr (ci, mkF b (σ o) 0 tpl)) := by rw [wl_get hN, hlay]; rfl
  have hv : (mkF b (σ o) 0 tpl)[k]? = some (.ref (b + q)) := by have h := mkF_ref b (σ o) tpl 0 k ht; simpa using h
  exact va_get (D := (dC, dI)) (ci := ci) (C := Cn) (T := T) (N := N) hx hb hts hin ho hK.1 hP o he hc k hk (hts _ hlink) (fun _ h => h) hv hdg (kk r σ' hX H locs ls hP hS hl)
theorem V_putI (C : CX E own cc nL d) {o ci k N : Nat} {Cn : String} {T : u_T} {index : Nat} {tpl : List (Option Nat)} (hN : o < NN) (hlay : lay o = .inr (.inr (ci, tpl))) (hc : vwCl[ci]? = some (Cn, T, N)) (hin : ∀ w ∈ u_ws Cn T N, w ∈ BW) (hk : k < N) (hlink : Cond.fieldLink own index (T k).1 (T k).2.1 (T k).2.2.1 ∈ BW) (ty0 : Nat → FieldType) (hty : ∀ k, k < N → parseFieldDescriptor (T k).2.2.1 = some (ty0 k)) (hnm : ∀ a, a < N → ∀ b, b < N → a ≠ b → (T a).2.1 ≠ (T b).2.1) (hfin : (T k).2.2.2 = false) {ty : FieldType} (hd : parseFieldDescriptor (T k).2.2.1 = some ty) (ht : tpl[k]? = some none) {v : Int32} {K : Hp → Option (α × Hp)} (hn : narrow ty (.int v) = .int v) (hfit : fits ty (.int v) = true) (hdg : decode cc pc = .ok (.putfield index, 3)) (kk : ∀ σ1 : Hp, VJ rv QF E b nL σ1 (pc + 3) L S (K σ1)) : VJ rv QF E b nL σ pc L (.int v :: .ref (b + o) :: S) (Lt (wr σ o k v) K) := by
  obtain ⟨p, l, e, R, s, m, args, below, meth, c, cells, slots, dC, dI, cA⟩ := E
  obtain ⟨⟨hx, hb, hml, ho, hts⟩, hK, hR1, hR2, hR3, hR4⟩ := C
  intro r σ' hX H locs ls hP hS hl
  have he : (wl cA b σ)[o]? = some (b + o, .inr (ci, mkF b (σ o) 0 tpl)) := by rw [wl_get hN, hlay]; rfl
  have hlen : k < (mkF b (σ o) 0 tpl).length := by rw [mkF_len]; exact (List.getElem?_eq_some_iff.mp ht).1
  have hset : (wl cA b σ).set o (b + o, .inr (ci, (mkF b (σ o) 0 tpl).set k (.int v))) = wl cA b (wr σ o k v) := by
    rw [mkF_set b (σ o) v tpl 0 k ht, Nat.zero_add]
    have h2 := wl_set (cA := cA) (b := b) (σ := σ) (k := o) (upd (σ o) k v)
    rw [hlay] at h2
    exact h2
  refine va_put (D := (dC, dI)) (ci := ci) (C := Cn) (T := T) (N := N) hx hb hts hin ty0 hty hnm ho hK.1 hP (wl_D cA b σ) hS o he hc k hk (hts _ hlink) (fun _ h => h) hfin hd hn hfit hlen hdg (fun H1 locs1 hP1 _ hS1 => ?_)
  rw [hset] at hP1
  exact kk (wr σ o k v) r σ' hX H1 locs1 ls hP1 hS1 hl
theorem V_getIN (C : CX E own cc nL d) {o ci k N : Nat} {Cn : String} {T : u_T} {index : Nat} {tpl : List (Option Nat)} (hN : o < NN) (hlay : lay o = .inr (.inr (ci, tpl))) (hc : vwCl[ci]? = some (Cn, T, N)) (hin : ∀ w ∈ u_ws Cn T N, w ∈ BW) (hk : k < N) {host : String} (hlink : Cond.fieldLinkNest own index (T k).1 (T k).2.1 (T k).2.2.1 host ∈ NW) (ht : tpl[k]? = some none) (hdg : decode cc pc = .ok (.getfield index, 3)) (kk : VJ rv QF E b nL σ (pc + 3) L (.int (σ o k) :: S) (X)) : VJ rv QF E b nL σ (pc) L (.ref (b + o) :: S) (X) := by
  obtain ⟨p, l, e, R, s, m, args, below, meth, c, cells, slots, dC, dI, cA⟩ := E
  obtain ⟨⟨hx, hb, hml, ho, hts⟩, hK, hR1, hR2, hR3, hR4⟩ := C
  intro r σ' hX H locs ls hP hS hl
  have he : (wl cA b σ)[o]? = some (b + o, .inr (ci, mkF b (σ o) 0 tpl)) := by rw [wl_get hN, hlay]; rfl
  have hv : (mkF b (σ o) 0 tpl)[k]? = some (.int (σ o k)) := by have h := mkF_int b (σ o) tpl 0 k ht; simpa using h
  exact va_getN (D := (dC, dI)) (ci := ci) (C := Cn) (T := T) (N := N) hx hb hts hin ho hK.1 hP o he hc k hk (NW_use hlink (hK.2 _ hlink)) (fun _ h => h) hv hdg (kk r σ' hX H locs ls hP hS hl)
theorem V_getRN (C : CX E own cc nL d) {o ci k N : Nat} {Cn : String} {T : u_T} {index : Nat} {tpl : List (Option Nat)} (hN : o < NN) (hlay : lay o = .inr (.inr (ci, tpl))) (hc : vwCl[ci]? = some (Cn, T, N)) (hin : ∀ w ∈ u_ws Cn T N, w ∈ BW) (hk : k < N) {host : String} (hlink : Cond.fieldLinkNest own index (T k).1 (T k).2.1 (T k).2.2.1 host ∈ NW) {q : Nat} (ht : tpl[k]? = some (some q)) (hdg : decode cc pc = .ok (.getfield index, 3)) (kk : VJ rv QF E b nL σ (pc + 3) L (.ref (b + q) :: S) (X)) : VJ rv QF E b nL σ (pc) L (.ref (b + o) :: S) (X) := by
  obtain ⟨p, l, e, R, s, m, args, below, meth, c, cells, slots, dC, dI, cA⟩ := E
  obtain ⟨⟨hx, hb, hml, ho, hts⟩, hK, hR1, hR2, hR3, hR4⟩ := C
  intro r σ' hX H locs ls hP hS hl
  have he : (wl cA b σ)[o]? = some (b + o, .inr (ci, mkF b (σ o) 0 tpl)) := by rw [wl_get hN, hlay]; rfl
  have hv : (mkF b (σ o) 0 tpl)[k]? = some (.ref (b + q)) := by have h := mkF_ref b (σ o) tpl 0 k ht; simpa using h
  exact va_getN (D := (dC, dI)) (ci := ci) (C := Cn) (T := T) (N := N) hx hb hts hin ho hK.1 hP o he hc k hk (NW_use hlink (hK.2 _ hlink)) (fun _ h => h) hv hdg (kk r σ' hX H locs ls hP hS hl)
theorem V_putIN (C : CX E own cc nL d) {o ci k N : Nat} {Cn : String} {T : u_T} {index : Nat} {tpl : List (Option Nat)} (hN : o < NN) (hlay : lay o = .inr (.inr (ci, tpl))) (hc : vwCl[ci]? = some (Cn, T, N)) (hin : ∀ w ∈ u_ws Cn T N, w ∈ BW) (hk : k < N) {host : String} (hlink : Cond.fieldLinkNest own index (T k).1 (T k).2.1 (T k).2.2.1 host ∈ NW) (ty0 : Nat → FieldType) (hty : ∀ k, k < N → parseFieldDescriptor (T k).2.2.1 = some (ty0 k)) (hnm : ∀ a, a < N → ∀ b, b < N → a ≠ b → (T a).2.1 ≠ (T b).2.1) (hfin : (T k).2.2.2 = false) {ty : FieldType} (hd : parseFieldDescriptor (T k).2.2.1 = some ty) (ht : tpl[k]? = some none) {v : Int32} {K : Hp → Option (α × Hp)} (hn : narrow ty (.int v) = .int v) (hfit : fits ty (.int v) = true) (hdg : decode cc pc = .ok (.putfield index, 3)) (kk : ∀ σ1 : Hp, VJ rv QF E b nL σ1 (pc + 3) L S (K σ1)) : VJ rv QF E b nL σ pc L (.int v :: .ref (b + o) :: S) (Lt (wr σ o k v) K) := by
  obtain ⟨p, l, e, R, s, m, args, below, meth, c, cells, slots, dC, dI, cA⟩ := E
  obtain ⟨⟨hx, hb, hml, ho, hts⟩, hK, hR1, hR2, hR3, hR4⟩ := C
  intro r σ' hX H locs ls hP hS hl
  have he : (wl cA b σ)[o]? = some (b + o, .inr (ci, mkF b (σ o) 0 tpl)) := by rw [wl_get hN, hlay]; rfl
  have hlen : k < (mkF b (σ o) 0 tpl).length := by rw [mkF_len]; exact (List.getElem?_eq_some_iff.mp ht).1
  have hset : (wl cA b σ).set o (b + o, .inr (ci, (mkF b (σ o) 0 tpl).set k (.int v))) = wl cA b (wr σ o k v) := by
    rw [mkF_set b (σ o) v tpl 0 k ht, Nat.zero_add]
    have h2 := wl_set (cA := cA) (b := b) (σ := σ) (k := o) (upd (σ o) k v)
    rw [hlay] at h2
    exact h2
  refine va_putN (D := (dC, dI)) (ci := ci) (C := Cn) (T := T) (N := N) hx hb hts hin ty0 hty hnm ho hK.1 hP (wl_D cA b σ) hS o he hc k hk (NW_use hlink (hK.2 _ hlink)) (fun _ h => h) hfin hd hn hfit hlen hdg (fun H1 locs1 hP1 _ hS1 => ?_)
  rw [hset] at hP1
  exact kk (wr σ o k v) r σ' hX H1 locs1 ls hP1 hS1 hl
theorem V_iald (C : CX E own cc nL d) {o n : Nat} (hN : o < NN) (hlay : lay o = .inl (0, n)) {i : Int32} (hdg : decode cc pc = .ok (.iaload, 1)) (kk : VJ rv QF E b nL σ (pc + 1) L (.int (σ o (ix i)) :: S) (X)) : VJ rv QF E b nL σ (pc) L (.int i :: .ref (b + o) :: S) (ck i n X) := by
  obtain ⟨p, l, e, R, s, m, args, below, meth, c, cells, slots, dC, dI, cA⟩ := E
  obtain ⟨⟨hx, hb, hml, ho, hts⟩, hK, hR1, hR2, hR3, hR4⟩ := C
  intro r σ' hX H locs ls hP hS hl
  obtain ⟨hin, hX⟩ := ck_some hX
  have he : (wl cA b σ)[o]? = some (b + o, .inl (cA 0, n, .inl (σ o))) := by rw [wl_get hN, hlay]; rfl
  exact va_iald hx hb hK.1 hP o 0 he rfl hin hdg (kk r σ' hX H locs ls hP hS hl)
theorem V_iast (C : CX E own cc nL d) {o n : Nat} (hN : o < NN) (hlay : lay o = .inl (0, n)) {i v : Int32} {K : Hp → Option (α × Hp)} (hdg : decode cc pc = .ok (.iastore, 1)) (kk : ∀ σ1 : Hp, VJ rv QF E b nL σ1 (pc + 1) L S (K σ1)) : VJ rv QF E b nL σ pc L (.int v :: .int i :: .ref (b + o) :: S) (ck i n (Lt (wr σ o (ix i) (v)) K)) := by
  obtain ⟨p, l, e, R, s, m, args, below, meth, c, cells, slots, dC, dI, cA⟩ := E
  obtain ⟨⟨hx, hb, hml, ho, hts⟩, hK, hR1, hR2, hR3, hR4⟩ := C
  intro r σ' hX H locs ls hP hS hl
  obtain ⟨hin, hX⟩ := ck_some hX
  have he : (wl cA b σ)[o]? = some (b + o, .inl (cA 0, n, .inl (σ o))) := by rw [wl_get hN, hlay]; rfl
  have hset := wl_set (cA := cA) (b := b) (σ := σ) (k := o) (upd (σ o) (ix i) (v))
  rw [hlay] at hset
  refine va_iast hx hb hK.1 hP (wl_D cA b σ) hS o 0 he rfl hin hdg (fun H1 locs1 hP1 _ hS1 => ?_)
  exact kk (wr σ o (ix i) (v)) r σ' hX H1 locs1 ls (HW_of hset hP1) hS1 hl
theorem V_bald (C : CX E own cc nL d) {o n : Nat} (hN : o < NN) (hlay : lay o = .inl (1, n)) {i : Int32} (hdg : decode cc pc = .ok (.baload, 1)) (kk : VJ rv QF E b nL σ (pc + 1) L (.int (σ o (ix i)) :: S) (X)) : VJ rv QF E b nL σ (pc) L (.int i :: .ref (b + o) :: S) (ck i n X) := by
  obtain ⟨p, l, e, R, s, m, args, below, meth, c, cells, slots, dC, dI, cA⟩ := E
  obtain ⟨⟨hx, hb, hml, ho, hts⟩, hK, hR1, hR2, hR3, hR4⟩ := C
  intro r σ' hX H locs ls hP hS hl
  obtain ⟨hin, hX⟩ := ck_some hX
  have he : (wl cA b σ)[o]? = some (b + o, .inl (cA 1, n, .inl (σ o))) := by rw [wl_get hN, hlay]; rfl
  exact va_bald hx hb hK.1 hP o 1 he rfl hin hdg (kk r σ' hX H locs ls hP hS hl)
theorem V_bast (C : CX E own cc nL d) {o n : Nat} (hN : o < NN) (hlay : lay o = .inl (1, n)) {i v : Int32} {K : Hp → Option (α × Hp)} (hdg : decode cc pc = .ok (.bastore, 1)) (kk : ∀ σ1 : Hp, VJ rv QF E b nL σ1 (pc + 1) L S (K σ1)) : VJ rv QF E b nL σ pc L (.int v :: .int i :: .ref (b + o) :: S) (ck i n (Lt (wr σ o (ix i) (vp_nar .byte v)) K)) := by
  obtain ⟨p, l, e, R, s, m, args, below, meth, c, cells, slots, dC, dI, cA⟩ := E
  obtain ⟨⟨hx, hb, hml, ho, hts⟩, hK, hR1, hR2, hR3, hR4⟩ := C
  intro r σ' hX H locs ls hP hS hl
  obtain ⟨hin, hX⟩ := ck_some hX
  have he : (wl cA b σ)[o]? = some (b + o, .inl (cA 1, n, .inl (σ o))) := by rw [wl_get hN, hlay]; rfl
  have hset := wl_set (cA := cA) (b := b) (σ := σ) (k := o) (upd (σ o) (ix i) (vp_nar .byte v))
  rw [hlay] at hset
  refine va_bast hx hb hK.1 hP (wl_D cA b σ) hS o 1 he rfl hin hdg (fun H1 locs1 hP1 _ hS1 => ?_)
  exact kk (wr σ o (ix i) (vp_nar .byte v)) r σ' hX H1 locs1 ls (HW_of hset hP1) hS1 hl
theorem V_zald (C : CX E own cc nL d) {o n : Nat} (hN : o < NN) (hlay : lay o = .inl (2, n)) {i : Int32} (hdg : decode cc pc = .ok (.baload, 1)) (kk : VJ rv QF E b nL σ (pc + 1) L (.int (σ o (ix i)) :: S) (X)) : VJ rv QF E b nL σ (pc) L (.int i :: .ref (b + o) :: S) (ck i n X) := by
  obtain ⟨p, l, e, R, s, m, args, below, meth, c, cells, slots, dC, dI, cA⟩ := E
  obtain ⟨⟨hx, hb, hml, ho, hts⟩, hK, hR1, hR2, hR3, hR4⟩ := C
  intro r σ' hX H locs ls hP hS hl
  obtain ⟨hin, hX⟩ := ck_some hX
  have he : (wl cA b σ)[o]? = some (b + o, .inl (cA 2, n, .inl (σ o))) := by rw [wl_get hN, hlay]; rfl
  exact va_zald hx hb hK.1 hP o 2 he rfl hin hdg (kk r σ' hX H locs ls hP hS hl)
theorem V_zast (C : CX E own cc nL d) {o n : Nat} (hN : o < NN) (hlay : lay o = .inl (2, n)) {i v : Int32} {K : Hp → Option (α × Hp)} (hdg : decode cc pc = .ok (.bastore, 1)) (kk : ∀ σ1 : Hp, VJ rv QF E b nL σ1 (pc + 1) L S (K σ1)) : VJ rv QF E b nL σ pc L (.int v :: .int i :: .ref (b + o) :: S) (ck i n (Lt (wr σ o (ix i) (vp_nar .boolean v)) K)) := by
  obtain ⟨p, l, e, R, s, m, args, below, meth, c, cells, slots, dC, dI, cA⟩ := E
  obtain ⟨⟨hx, hb, hml, ho, hts⟩, hK, hR1, hR2, hR3, hR4⟩ := C
  intro r σ' hX H locs ls hP hS hl
  obtain ⟨hin, hX⟩ := ck_some hX
  have he : (wl cA b σ)[o]? = some (b + o, .inl (cA 2, n, .inl (σ o))) := by rw [wl_get hN, hlay]; rfl
  have hset := wl_set (cA := cA) (b := b) (σ := σ) (k := o) (upd (σ o) (ix i) (vp_nar .boolean v))
  rw [hlay] at hset
  refine va_zast hx hb hK.1 hP (wl_D cA b σ) hS o 2 he rfl hin hdg (fun H1 locs1 hP1 _ hS1 => ?_)
  exact kk (wr σ o (ix i) (vp_nar .boolean v)) r σ' hX H1 locs1 ls (HW_of hset hP1) hS1 hl
theorem V_aald (C : CX E own cc nL d) {o t n a dd : Nat} {Cn : String} (hN : o < NN) (hlay : lay o = .inr (.inl (t, n, a, dd))) (ht : ∀ cA : Nat → ClassId, (tyL cA)[t]? = some (cA t, .object Cn)) {i : Int32} (hdg : decode cc pc = .ok (.aaload, 1)) (kk : ix i < n → VJ rv QF E b nL σ (pc + 1) L (.ref (b + (a + dd * ix i)) :: S) X) : VJ rv QF E b nL σ pc L (.int i :: .ref (b + o) :: S) (ck i n X) := by
  obtain ⟨p, l, e, R, s, m, args, below, meth, c, cells, slots, dC, dI, cA⟩ := E
  obtain ⟨⟨hx, hb, hml, ho, hts⟩, hK, hR1, hR2, hR3, hR4⟩ := C
  intro r σ' hX H locs ls hP hS hl
  obtain ⟨hin, hX⟩ := ck_some hX
  have he : (wl cA b σ)[o]? = some (b + o, .inl (cA t, n, .inr (.inr (.inr (.inr (fun j => some (b + (a + dd * j)))))))) := by rw [wl_get hN, hlay]; rfl
  exact va_aldq hx hb hK.1 hP o t he (ht cA) hin hdg (kk (ck_in hin) r σ' hX H locs ls hP hS hl)
theorem V_alen (C : CX E own cc nL d) {o n : Nat} (hN : o < NN) (hlay : lay o = .inl (0, n)) (hdg : decode cc pc = .ok (.arraylength, 1)) (kk : VJ rv QF E b nL σ (pc + 1) L (.int (nI n) :: S) X) : VJ rv QF E b nL σ pc L (.ref (b + o) :: S) X := by
  obtain ⟨p, l, e, R, s, m, args, below, meth, c, cells, slots, dC, dI, cA⟩ := E
  obtain ⟨⟨hx, hb, hml, ho, hts⟩, hK, hR1, hR2, hR3, hR4⟩ := C
  intro r σ' hX H locs ls hP hS hl
  have he : (wl cA b σ)[o]? = some (b + o, .inl (cA 0, n, .inl (σ o))) := by rw [wl_get hN, hlay]; rfl
  exact va_alen hx hb hK.1 hP o 0 (ty := .int) he rfl rfl hdg (kk r σ' hX H locs ls hP hS hl)
theorem V_copy (C : CX E own cc nL d) (hd : 1 ≤ d) {o1 o2 n : Nat} (h1 : o1 < NN) (h2 : o2 < NN) (hl1 : lay o1 = .inl (0, n)) (hl2 : lay o2 = .inl (0, n)) {index : Nat} (hlink : Cond.methodLink own index arraycopyName ∈ BW) {K : Hp → Option (α × Hp)} {N : Int32} (hN : N = nI n) (hn : n < 1000) (hdg : decode cc pc = .ok (.invokestatic index, 3)) (kk : ∀ σ1 : Hp, VJ rv QF E b nL σ1 (pc + 3) L [] (K σ1)) : VJ rv QF E b nL σ pc L (.int N :: .int 0 :: .ref (b + o2) :: .int 0 :: .ref (b + o1) :: []) (Lt (va_up σ o2 (va_cpy (σ o1) (σ o2) 0 0 n)) K) := by
  obtain ⟨p, l, e, R, s, m, args, below, meth, c, cells, slots, dC, dI, cA⟩ := E
  obtain ⟨⟨hx, hb, hml, ho, hts⟩, hK, hR1, hR2, hR3, hR4⟩ := C
  intro r σ' hX H locs ls hP hS hl
  have he1 : (wl cA b σ)[o1]? = some (b + o1, .inl (cA 0, n, .inl (σ o1))) := by rw [wl_get h1, hl1]; rfl
  have he2 : (wl cA b σ)[o2]? = some (b + o2, .inl (cA 0, n, .inl (σ o2))) := by rw [wl_get h2, hl2]; rfl
  have hset := wl_set (cA := cA) (b := b) (σ := σ) (k := o2) (va_cpy (σ o1) (σ o2) 0 0 n)
  rw [hl2] at hset
  have hcl : (nI n).toNatClampNeg = n := nI_clamp (by omega)
  have h0 : (0 : Int32).toNatClampNeg = 0 := sb_cl0
  subst hN
  have q := @va_copyi p l e R s m args below meth c (H := H) (locs := locs) (cells := cells) (slots := slots) (Q := QF (rv r) σ') (pc := pc) (ls := ls) (rest := []) (D := (dC, dI)) (cl := vwCl) (A := fun q => b ≤ q) (a := b + o2) (tys := tyL cA) (ws := wl cA b σ) (H0 := s.heap) (cc := cc) hx hb (by rw [hml]; exact hl.1.symm) own index ho (hts _ hlink) (hts _ bw_acN) (hts _ bw_acS) (hts _ bw_acI) hK.1 hP (wl_D cA b σ) hS o1 o2 0 0 (b + o1) (cA 0) (cA 0) n n (σ o1) (σ o2) .int he1 he2 rfl rfl rfl 0 0 (nI n) (by decide) (by decide) (nI_pos (by omega)) (by rw [hcl, h0]; omega) (by rw [hcl, h0]; omega) (fun _ _ => rfl) (by omega) (Nat.le_trans (by decide) (Nat.le_trans (Nat.mul_le_mul_left 60 hd) hR2)) hdg
  rw [hcl, h0] at q
  exact q (fun H1 locs1 hP1 _ hS1 => kk _ r σ' hX H1 locs1 ls (HW_of hset hP1) hS1 hl)
theorem V_mmax (C : CX E own cc nL d) (hd : 1 ≤ d) {index : Nat} (hlink : Cond.methodLink own index Lib.Math.max.name ∈ BW) {x y : Int32} (hS : (S.map fun v => v.category).sum ≤ 8) (hdg : decode cc pc = .ok (.invokestatic index, 3)) (kk : VJ rv QF E b nL σ (pc + 3) L (.int (if x < y then y else x) :: S) (X)) : VJ rv QF E b nL σ (pc) L (.int y :: .int x :: S) (X) := by
  obtain ⟨p, l, e, R, s, m, args, below, meth, c, cells, slots, dC, dI, cA⟩ := E
  obtain ⟨⟨hx, hb, hml, ho, hts⟩, hK, hR1, hR2, hR3, hR4⟩ := C
  intro r σ' hX H locs ls hP hSS hl
  exact va_mmax hx hb (by rw [hml]; exact hl.1.symm) ho (hts _ hlink) (hts _ bw_mmaxS) (hts _ bw_mI) (hts _ bw_mmaxC) (by omega) (by omega) hR3 hR4 hdg (kk r σ' hX H locs ls hP hSS hl)
theorem V_mmin (C : CX E own cc nL d) (hd : 1 ≤ d) {index : Nat} (hlink : Cond.methodLink own index Lib.Math.min.name ∈ BW) {x y : Int32} (hS : (S.map fun v => v.category).sum ≤ 8) (hdg : decode cc pc = .ok (.invokestatic index, 3)) (kk : VJ rv QF E b nL σ (pc + 3) L (.int (if y < x then y else x) :: S) (X)) : VJ rv QF E b nL σ (pc) L (.int y :: .int x :: S) (X) := by
  obtain ⟨p, l, e, R, s, m, args, below, meth, c, cells, slots, dC, dI, cA⟩ := E
  obtain ⟨⟨hx, hb, hml, ho, hts⟩, hK, hR1, hR2, hR3, hR4⟩ := C
  intro r σ' hX H locs ls hP hSS hl
  exact va_mmin hx hb (by rw [hml]; exact hl.1.symm) ho (hts _ hlink) (hts _ bw_mminS) (hts _ bw_mI) (hts _ bw_mminC) (by omega) (by omega) hR3 hR4 hdg (kk r σ' hX H locs ls hP hSS hl)
theorem V_iret (C : CX E own cc nL d) (D : CR E (some .int)) {v : Int32} (hdg : decode cc pc = .ok (.ireturn, 1)) : VJ rvI (QM E b) E b nL σ pc L [.int v] (some (v, σ)) := by
  obtain ⟨p, l, e, R, s, m, args, below, meth, c, cells, slots, dC, dI, cA⟩ := E
  obtain ⟨⟨hx, hb, hml, ho, hts⟩, hK, hR1, hR2, hR3, hR4⟩ := C
  obtain ⟨hr, hlocks⟩ := D
  intro r σ' hX H locs ls hP hS hl
  cases hX
  exact W.iret hx hb hr (fun t ht hW => ⟨rfl, by rw [ht]; exact hP, hS.F ht⟩) hS.2.2 hdg hlocks
theorem V_zret (C : CX E own cc nL d) (D : CR E (some .boolean)) {v : Int32} (hdg : decode cc pc = .ok (.ireturn, 1)) : VJ rvI (QM E b) E b nL σ pc L [.int v] (zr v σ) := by
  obtain ⟨p, l, e, R, s, m, args, below, meth, c, cells, slots, dC, dI, cA⟩ := E
  obtain ⟨⟨hx, hb, hml, ho, hts⟩, hK, hR1, hR2, hR3, hR4⟩ := C
  obtain ⟨hr, hlocks⟩ := D
  intro r σ' hX H locs ls hP hS hl
  unfold zr at hX
  by_cases h : v = 0 ∨ v = 1
  · rw [if_pos h] at hX
    cases hX
    exact W.zret hx hb hr (by rcases h with rfl | rfl <;> rfl) (fun t ht hW => ⟨rfl, by rw [ht]; exact hP, hS.F ht⟩) hS.2.2 hdg hlocks
  · rw [if_neg h] at hX; cases hX
theorem V_lret (C : CX E own cc nL d) (D : CR E (some .long)) {v : Int64} (hdg : decode cc pc = .ok (.lreturn, 1)) : VJ rvL (QM E b) E b nL σ pc L [.long v] (some (v, σ)) := by
  obtain ⟨p, l, e, R, s, m, args, below, meth, c, cells, slots, dC, dI, cA⟩ := E
  obtain ⟨⟨hx, hb, hml, ho, hts⟩, hK, hR1, hR2, hR3, hR4⟩ := C
  obtain ⟨hr, hlocks⟩ := D
  intro r σ' hX H locs ls hP hS hl
  cases hX
  exact W.lret hx hb hr (fun t ht hW => ⟨rfl, by rw [ht]; exact hP, hS.F ht⟩) hS.2.2 hdg hlocks
theorem V_vret (C : CX E own cc nL d) (D : CR E none) (hdg : decode cc pc = .ok (.return_, 1)) : VJ rvV (QM E b) E b nL σ pc L [] (some ((), σ)) := by
  obtain ⟨p, l, e, R, s, m, args, below, meth, c, cells, slots, dC, dI, cA⟩ := E
  obtain ⟨⟨hx, hb, hml, ho, hts⟩, hK, hR1, hR2, hR3, hR4⟩ := C
  obtain ⟨hr, hlocks⟩ := D
  intro r σ' hX H locs ls hP hS hl
  cases hX
  exact W.vret hx hb hr (fun t ht hW => ⟨rfl, by rw [ht]; exact hP, hS.F ht⟩) hS.2.2 hdg hlocks
end VR
section VCALL
variable {α β : Type} {rv : α → Option Value} {rc : β → Option Value} {QF : Option Value → Hp → State → Prop} {E : Ev} {b nL : Nat} {σ : Hp} {pc : Nat} {L : List (Nat × Value)} {S : List Value} {X : Option (α × Hp)} {own : String} {cc : ByteArray} {d : Nat}
theorem bd_some {x : Option (β × Hp)} {k : β → Hp → Option (α × Hp)} {y : α × Hp} (h : bd x k = some y) : ∃ r σ1, x = some (r, σ1) ∧ k r σ1 = some y := by
  cases x with
  | none => cases h
  | some p => exact ⟨p.1, p.2, rfl, h⟩
/-- behind a call, whatever its kind -/
theorem V_back {p : Program} {l : Launch} {e : Env} {R : Room} {s : State} {m : MethodId} {args : Array Value} {below : List Frame} {meth : Method} {c : Code} {cells slots : Nat} {dC : Nat → ClassId} {dI : Nat → Nat → Nat} {cA : Nat → ClassId} {H : Heap} {locs : List Loc} {ls : Array Slot} {st0 : List Value} {a : Array Value} {ro : Option Value} {σ1 : Hp} {Q : State → Prop}
    (hr : va_Run p l e R s m args below meth c H locs cells slots 0 0 (F0 m pc ls st0) S (Qx dC dI cA b ro σ1 a) (fun q => b ≤ q)) (hS : va_S (fun q => b ≤ q) s.heap H locs)
    (kk : ∀ (H1 : Heap) (locs1 : List Loc), HW dC dI cA b σ1 H1 → va_S (fun q => b ≤ q) s.heap H1 locs1 → W p l e R s m args below meth c H1 locs1 cells slots Q (F0 m (pc + 3) ls (ro.toList ++ S))) : W p l e R s m args below meth c H locs cells slots Q (F0 m pc ls st0) := by
  intro T hT X
  obtain ⟨v, st₀, t, T', L, h0, X', hL, e1, e2, ⟨hv, hp, hz, hk⟩, st⟩ := hr T hT X
  cases hv
  rw [h0] at hz hk
  obtain ⟨t2, a1, b1⟩ := kk T'.heap (locs ++ L) (by rw [e1]; exact hp) ⟨Nat.le_trans hS.1 (by rw [e1]; exact hz), fun q h1 h2 => by rw [e1, hk q (Nat.lt_of_lt_of_le h1 hS.1) h2]; exact hS.2.1 q h1 h2, fun q hq => by
      rcases List.mem_append.mp hq with h | h
      · exact hS.2.2 q h
      · exact hL q h⟩ T' rfl X'
  exact ⟨t2, st t2 a1, b1⟩
theorem V_callV (C : CX E own cc nL d) {y : MethodName} {cy : ByteArray} {maxL dc n index : Nat} {ret : Option FieldType} {As : List Value} {x : Option (β × Hp)} {k : β → Hp → Option (α × Hp)} {o ci N : Nat} {T : u_T} {tpl : List (Option Nat)} (hN : o < NN) (hlay : lay o = .inr (.inr (ci, tpl))) (hc : vwCl[ci]? = some (y.cls, T, N)) (hinst : Cond.instanceMethod y ∈ BW) (hsel : Cond.selects y.cls y y ∈ BW) (hlink : Cond.methodLink own index y ∈ BW)
    (hM : CT E.2.1 E.2.2.2.2.2.2.2.2.2.2.2.2.1 E.2.2.2.2.2.2.2.2.2.2.2.2.2.1 E.2.2.2.2.2.2.2.2.2.2.2.2.2.2 b y cy maxL ret dc (.ref (b + o) :: As) σ rc x) (hd : dc + 1 ≤ d) (hmx : maxL ≤ 41) (hcode : Cond.code y cy maxL ret ∈ BW) (hini : Cond.initialized y.cls ∈ BW) (hy : y.cls ≠ "java/lang/invoke/MethodHandle" ∧ y.cls ≠ "java/lang/invoke/VarHandle" ∧ (parseMethodDescriptor y.desc).map (fun d => d.parameters.length) = some n) (hAs : As.length = n) {st0 : List Value} (hst : st0 = As.reverse ++ .ref (b + o) :: S) (hcat : (S.map fun v => v.category).sum ≤ 8) (hdg : decode cc pc = .ok (.invokevirtual index, 3))
    (kk : ∀ (r : β) (σ1 : Hp), VJ rv QF E b nL σ1 (pc + 3) L ((rc r).toList ++ S) (k r σ1)) : VJ rv QF E b nL σ pc L st0 (bd x k) := by
  obtain ⟨p, l, e, R, s, m, args, below, meth, c, cells, slots, dC, dI, cA⟩ := E
  obtain ⟨⟨hx, hb, hml, ho, hts⟩, hK, hR1, hR2, hR3, hR4⟩ := C
  intro r σ' hX H locs ls hP hS hl
  obtain ⟨rr, σ1, hxx, hXX⟩ := bd_some hX
  have hM := hM rr σ1 hxx
  have hr := va_runV (C := y.cls) (l := l) (e := e) (R := R) (below := below) (meth := meth) (locs := locs) (cells := cells) (slots := slots) (As := As) (rest := S) (g := F0 m pc ls st0) ⟨hx, hb, hml, ho, hts⟩ hM ⟨callB_of n hts (BW_good hcode) rfl rfl rfl (hts _ hini) (hts _ hlink) hy ⟨by show dc + 1 ≤ R.frames; omega, by show 8 + (maxL + 11) + 60 * dc ≤ R.locals; omega⟩, hts _ hinst, hts _ hsel⟩ ⟨fun a U g mk q => ⟨q.1, q.2.1, KK_call q.2.2 g mk a⟩, va_recv hK.1 hP hc (q0 := o) (fs := mkF b (σ o) 0 tpl) (by rw [wl_get hN, hlay]; rfl), fun U hU hW => ⟨rfl, by rw [hU]; exact hP, KK_warm hK hW⟩⟩ rfl hAs hl.1 hst (lv_room hcat) hdg ⟨hR3, hR4⟩
  exact V_back hr hS (fun H1 locs1 hP1 hS1 => kk rr σ1 r σ' hXX H1 locs1 ls hP1 hS1 hl)
theorem V_callVN (C : CX E own cc nL d) {y : MethodName} {cy : ByteArray} {maxL dc n index : Nat} {ret : Option FieldType} {As : List Value} {x : Option (β × Hp)} {k : β → Hp → Option (α × Hp)} {o ci N : Nat} {T : u_T} {tpl : List (Option Nat)} (hN : o < NN) (hlay : lay o = .inr (.inr (ci, tpl))) (hc : vwCl[ci]? = some (y.cls, T, N)) (hinst : Cond.instanceMethod y ∈ BW) (hsel : Cond.selects y.cls y y ∈ BW) {host : String} (hlink : Cond.methodLinkNest own index y host ∈ NW)
    (hM : CT E.2.1 E.2.2.2.2.2.2.2.2.2.2.2.2.1 E.2.2.2.2.2.2.2.2.2.2.2.2.2.1 E.2.2.2.2.2.2.2.2.2.2.2.2.2.2 b y cy maxL ret dc (.ref (b + o) :: As) σ rc x) (hd : dc + 1 ≤ d) (hmx : maxL ≤ 41) (hcode : Cond.code y cy maxL ret ∈ BW) (hini : Cond.initialized y.cls ∈ BW) (hy : y.cls ≠ "java/lang/invoke/MethodHandle" ∧ y.cls ≠ "java/lang/invoke/VarHandle" ∧ (parseMethodDescriptor y.desc).map (fun d => d.parameters.length) = some n) (hAs : As.length = n) {st0 : List Value} (hst : st0 = As.reverse ++ .ref (b + o) :: S) (hcat : (S.map fun v => v.category).sum ≤ 8) (hdg : decode cc pc = .ok (.invokevirtual index, 3))
    (kk : ∀ (r : β) (σ1 : Hp), VJ rv QF E b nL σ1 (pc + 3) L ((rc r).toList ++ S) (k r σ1)) : VJ rv QF E b nL σ pc L st0 (bd x k) := by
  obtain ⟨p, l, e, R, s, m, args, below, meth, c, cells, slots, dC, dI, cA⟩ := E
  obtain ⟨⟨hx, hb, hml, ho, hts⟩, hK, hR1, hR2, hR3, hR4⟩ := C
  intro r σ' hX H locs ls hP hS hl
  obtain ⟨rr, σ1, hxx, hXX⟩ := bd_some hX
  have hM := hM rr σ1 hxx
  have hr := va_runVN (C := y.cls) (l := l) (e := e) (R := R) (below := below) (meth := meth) (locs := locs) (cells := cells) (slots := slots) (As := As) (rest := S) (g := F0 m pc ls st0) ⟨hx, hb, hml, ho, hts⟩ hM ⟨va_cnB n hts (BW_good hcode) rfl rfl rfl (hK.2 _ hlink) (hts _ hini) hy ⟨by show dc + 1 ≤ R.frames; omega, by show 8 + (maxL + 11) + 60 * dc ≤ R.locals; omega⟩, hts _ hinst, hts _ hsel⟩ ⟨fun a U g mk q => ⟨q.1, q.2.1, KK_call q.2.2 g mk a⟩, va_recv hK.1 hP hc (q0 := o) (fs := mkF b (σ o) 0 tpl) (by rw [wl_get hN, hlay]; rfl), fun U hU hW => ⟨rfl, by rw [hU]; exact hP, KK_warm hK hW⟩⟩ rfl hAs hl.1 hst (lv_room hcat) hdg ⟨hR3, hR4⟩
  exact V_back hr hS (fun H1 locs1 hP1 hS1 => kk rr σ1 r σ' hXX H1 locs1 ls hP1 hS1 hl)
theorem V_callS (C : CX E own cc nL d) {y : MethodName} {cy : ByteArray} {maxL dc n index : Nat} {ret : Option FieldType} {As : List Value} {x : Option (β × Hp)} {k : β → Hp → Option (α × Hp)} (hstat : Cond.static y ∈ BW) (hlink : Cond.methodLink own index y ∈ BW)
    (hM : CT E.2.1 E.2.2.2.2.2.2.2.2.2.2.2.2.1 E.2.2.2.2.2.2.2.2.2.2.2.2.2.1 E.2.2.2.2.2.2.2.2.2.2.2.2.2.2 b y cy maxL ret dc (As) σ rc x) (hd : dc + 1 ≤ d) (hmx : maxL ≤ 41) (hcode : Cond.code y cy maxL ret ∈ BW) (hini : Cond.initialized y.cls ∈ BW) (hy : y.cls ≠ "java/lang/invoke/MethodHandle" ∧ y.cls ≠ "java/lang/invoke/VarHandle" ∧ (parseMethodDescriptor y.desc).map (fun d => d.parameters.length) = some n) (hAs : As.length = n) {st0 : List Value} (hst : st0 = As.reverse ++ S) (hcat : (S.map fun v => v.category).sum ≤ 8) (hdg : decode cc pc = .ok (.invokestatic index, 3))
    (kk : ∀ (r : β) (σ1 : Hp), VJ rv QF E b nL σ1 (pc + 3) L ((rc r).toList ++ S) (k r σ1)) : VJ rv QF E b nL σ pc L st0 (bd x k) := by
  obtain ⟨p, l, e, R, s, m, args, below, meth, c, cells, slots, dC, dI, cA⟩ := E
  obtain ⟨⟨hx, hb, hml, ho, hts⟩, hK, hR1, hR2, hR3, hR4⟩ := C
  intro r σ' hX H locs ls hP hS hl
  obtain ⟨rr, σ1, hxx, hXX⟩ := bd_some hX
  have hM := hM rr σ1 hxx
  have hr := va_runS (l := l) (e := e) (R := R) (below := below) (meth := meth) (locs := locs) (cells := cells) (slots := slots) (As := As) (rest := S) (g := F0 m pc ls st0) ⟨hx, hb, hml, ho, hts⟩ hM ⟨callB_of n hts (BW_good hcode) rfl rfl rfl (hts _ hini) (hts _ hlink) hy ⟨by show dc + 1 ≤ R.frames; omega, by show 8 + (maxL + 11) + 60 * dc ≤ R.locals; omega⟩, hts _ hstat⟩ ⟨fun a U g mk q => ⟨q.1, q.2.1, KK_call q.2.2 g mk a⟩, fun U hU hW => ⟨rfl, by rw [hU]; exact hP, KK_warm hK hW⟩⟩ rfl hAs hl.1 hst (lv_room hcat) hdg ⟨hR3, hR4⟩
  exact V_back hr hS (fun H1 locs1 hP1 hS1 => kk rr σ1 r σ' hXX H1 locs1 ls hP1 hS1 hl)
end VCALL
