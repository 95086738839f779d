theorem bw_oI : Cond.instanceMethod objectInit ∈ BW := tb1 (List.mem_of_getElem? (i := 21) (by decide +kernel)) (by decide +kernel)
theorem bw_oC : Cond.code objectInit ⟨#[0xb1]⟩ 1 none ∈ BW := tb1 (List.mem_of_getElem? (i := 22) (by decide +kernel)) (by decide +kernel)
abbrev St : Type := Nat → Nat → Bool
def sS (st : St) (k j : Nat) : St := va_up st k (fun i => if i = j then true else st k i)
def mkS (b : Nat) (row : Nat → Int32) (st : Nat → Bool) : Nat → List (Option Nat) → List Value
  | _, [] => []
  | i, none :: r => .int (row i) :: mkS b row st (i + 1) r
  | i, some q :: r => (if st i = true then .ref (b + q) else .null) :: mkS b row st (i + 1) r
theorem mkS_at (b : Nat) (row : Nat → Int32) (st : Nat → Bool) : ∀ (tpl : List (Option Nat)) (i k : Nat), (mkS b row st i tpl)[k]? = (tpl[k]?).map (fun o => match o with
    | none => Value.int (row (i + k))
    | some q => if st (i + k) = true then .ref (b + q) else .null)
  | [], _, _ => by simp [mkS]
  | none :: r, i, 0 => by simp [mkS]
  | some q :: r, i, 0 => by simp [mkS]
  | none :: r, i, k + 1 => by
    have e := mkS_at b row st r (i + 1) k
    simp only [mkS, List.getElem?_cons_succ]
    rw [e, Nat.add_assoc, Nat.add_comm 1 k]
  | some q :: r, i, k + 1 => by
    have e := mkS_at b row st r (i + 1) k
    simp only [mkS, List.getElem?_cons_succ]
    rw [e, Nat.add_assoc, Nat.add_comm 1 k]
theorem mkS_len (b : Nat) (row : Nat → Int32) (st : Nat → Bool) : ∀ (tpl : List (Option Nat)) (i : Nat), (mkS b row st i tpl).length = tpl.length
  | [], _ => rfl
  | none :: r, i => by simp [mkS, mkS_len b row st r]
  | some q :: r, i => by simp [mkS, mkS_len b row st r]
def cS (b : Nat) (cA : Nat → ClassId) (k : KD) (st : Nat → Bool) (row : Nat → Int32) : va_E := match k with
  | .inl (t, n) => .inl (cA t, n, .inl row)
  | .inr (.inl (t, n, a, d)) => .inl (cA t, n, .inr (.inr (.inr (.inr (fun j => if st j = true then some (b + (a + d * j)) else none)))))
  | .inr (.inr (ci, tpl)) => .inr (ci, mkS b row st 0 tpl)
def wc (cA : Nat → ClassId) (b n : Nat) (st : St) (σ : Hp) : va_W := (List.range n).map (fun k => (b + k, cS b cA (lay k) (st k) (σ k)))
theorem wc_get {cA : Nat → ClassId} {b n : Nat} {st : St} {σ : Hp} {k : Nat} (h : k < n) : (wc cA b n st σ)[k]? = some (b + k, cS b cA (lay k) (st k) (σ k)) := by
  simp [wc, List.getElem?_map, List.getElem?_range h]
theorem wc_set {cA : Nat → ClassId} {b n : Nat} {st : St} {σ : Hp} {k : Nat} (s' : Nat → Bool) (row : Nat → Int32) : (wc cA b n st σ).set k (b + k, cS b cA (lay k) s' row) = wc cA b n (va_up st k s') (va_up σ k row) := by
  apply List.ext_getElem?
  intro i
  by_cases hi : i < n
  · by_cases hk : i = k
    · subst hk
      rw [List.getElem?_set_self (by simp [wc, hi]), wc_get hi]
      simp [va_up]
    · rw [List.getElem?_set_ne (Ne.symm hk), wc_get hi, wc_get hi]
      simp [va_up, hk]
  · rw [List.getElem?_eq_none (by simp [wc]; omega), List.getElem?_eq_none (by simp [wc]; omega)]
theorem wc_D (cA : Nat → ClassId) (b n : Nat) (st : St) (σ : Hp) : va_D (fun q => b ≤ q) (wc cA b n st σ) := by
  have key : ∀ (k : Nat) (q : Nat × va_E), (wc cA b n st σ)[k]? = some q → q.1 = b + k := by
    intro k q h
    have hk : k < n := by
      have := (List.getElem?_eq_some_iff.mp h).1
      simpa [wc] using this
    rw [wc_get hk] at h
    cases h
    rfl
  refine ⟨fun i j p q hi hj e => ?_, fun k q h => ?_⟩
  · rw [key i p hi, key j q hj] at e
    omega
  · rw [key k q h]
    exact Nat.le_add_right b k
theorem wc_push (cA : Nat → ClassId) (b n : Nat) (st : St) (σ : Hp) : wc cA b (n + 1) st σ = wc cA b n st σ ++ [(b + n, cS b cA (lay n) (st n) (σ n))] := by
  simp [wc, List.range_succ]
def HC (dC : Nat → ClassId) (dI : Nat → Nat → Nat) (cA : Nat → ClassId) (b n : Nat) (st : St) (σ : Hp) (H : Heap) : Prop := H.size = b + n ∧ va_P (dC, dI) vwCl (wc cA b n st σ) H ∧ (∀ k, n ≤ k → σ k = fun _ => 0) ∧ ∀ k, n ≤ k → st k = fun _ => false
theorem va_up_same {α : Type} (f : Nat → α) (k : Nat) : va_up f k (f k) = f := by
  funext j
  by_cases h : j = k
  · subst h; simp [va_up]
  · simp [va_up, h]
theorem HC_grow {dC : Nat → ClassId} {dI : Nat → Nat → Nat} {cA : Nat → ClassId} {b n : Nat} {st : St} {σ : Hp} {H H1 : Heap} (h : HC dC dI cA b n st σ H) (z : H1.size = H.size + 1) (o : ∀ q, q < H.size → H1[q]? = H[q]?) (e : va_at (dC, dI) vwCl (b + n, cS b cA (lay n) (fun _ => false) (fun _ => 0)) H1) : HC dC dI cA b (n + 1) st σ H1 := by
  obtain ⟨h1, h2, h3, h4⟩ := h
  refine ⟨by rw [z, h1]; omega, ?_, fun k hk => h3 k (by omega), fun k hk => h4 k (by omega)⟩
  rw [wc_push]
  refine (h2.kept (fun k x hx => o x.1 ((h2 k x hx).lt))).app (fun k x hx => ?_)
  have hz : k < 1 := (List.getElem?_eq_some_iff.mp hx).1
  rw [show k = 0 by omega] at hx
  cases hx
  rw [h3 n (Nat.le_refl n), h4 n (Nat.le_refl n)]
  exact e
theorem HC_set {dC : Nat → ClassId} {dI : Nat → Nat → Nat} {cA : Nat → ClassId} {b n : Nat} {st : St} {σ : Hp} {H H1 : Heap} {k : Nat} {s' : Nat → Bool} {row : Nat → Int32} {ws : va_W} (h : HC dC dI cA b n st σ H) (hk : k < n) (z : H1.size = H.size) (hw : ws = (wc cA b n st σ).set k (b + k, cS b cA (lay k) s' row)) (hP : va_P (dC, dI) vwCl ws H1) : HC dC dI cA b n (va_up st k s') (va_up σ k row) H1 := by
  obtain ⟨h1, h2, h3, h4⟩ := h
  rw [hw, wc_set] at hP
  exact ⟨by rw [z, h1], hP, fun j hj => by simp [va_up, show j ≠ k by omega]; exact h3 j hj, fun j hj => by simp [va_up, show j ≠ k by omega]; exact h4 j hj⟩
def K2 (dC : Nat → ClassId) (dI : Nat → Nat → Nat) (cA : Nat → ClassId) (U : State) : Prop := KK dC dI cA U ∧ va_AO "SleepByRation$Roll" U ∧ va_AO "SleepByRation$Slot" U
theorem K2_warm {dC : Nat → ClassId} {dI : Nat → Nat → Nat} {cA : Nat → ClassId} {s U : State} (h : K2 dC dI cA s) (hW : s.WarmedH U.vm) : K2 dC dI cA U := ⟨KK_warm h.1 hW, va_AO.moved hW.alike h.2.1, va_AO.moved hW.alike h.2.2⟩
theorem K2_call {dC : Nat → ClassId} {dI : Nat → Nat → Nat} {cA : Nat → ClassId} {U : State} (h : K2 dC dI cA U) (g : JFrame) (mk : MethodId) (a : Array Value) : K2 dC dI cA (U.calling g mk a) := ⟨KK_call h.1 g mk a, va_AO.moved (u := U) (U := U.calling g mk a) (Vm.Alike.refl U.vm) h.2.1, va_AO.moved (u := U) (U := U.calling g mk a) (Vm.Alike.refl U.vm) h.2.2⟩
def CXC (E : Ev) (own : String) (cc : ByteArray) (nL d MC MS : Nat) : Prop := match E with
  | (p, _, _, R, s, m, args, _, _, c, _, _, dC, dI, cA) => CallFix p m c cc nL s args BW own ∧ K2 dC dI cA s ∧ d ≤ R.frames ∧ 60 * d ≤ R.locals ∧ MC ≤ R.cells ∧ MS ≤ R.slots
def CNI (E : Ev) : Prop := match E with
  | (_, _, _, _, _, _, _, _, meth, _, _, _, _, _, _) => meth.name = "<init>"
def VC (Q : State → Prop) (E : Ev) (b nL n : Nat) (st : St) (σ : Hp) (kc ks pc : Nat) (L : List (Nat × Value)) (S : List Value) : Prop := match E with
  | (p, l, e, R, s, m, args, below, meth, c, _, _, dC, dI, cA) => ∀ (H : Heap) (locs : List Loc) (ls : Array Slot), HC dC dI cA b n st σ H → va_S (fun q => b ≤ q) s.heap H locs → lv_has ls nL L → W p l e R s m args below meth c H locs kc ks Q (F0 m pc ls S)
def Qcc (dC : Nat → ClassId) (dI : Nat → Nat → Nat) (cA : Nat → ClassId) (b n : Nat) (st : St) (σ : Hp) : Array Value → State → Outcome → State → Prop := fun _ s0 oc t => oc = .returned none ∧ HC dC dI cA b n st σ t.heap ∧ va_F (fun q => b ≤ q) s0 t
def rmC (d mc ms : Nat) : Room := { frames := d, cells := mc, slots := ms, locals := 60 * d }
def CC (l : Launch) (dC : Nat → ClassId) (dI : Nat → Nat → Nat) (cA : Nat → ClassId) (b : Nat) (y : MethodName) (cc : ByteArray) (maxL d : Nat) (av : List Value) (n : Nat) (st : St) (σ : Hp) (n' : Nat) (st' : St) (σ' : Hp) (mc ms : Nat) : Prop :=
  Met l y (.code y cc maxL none :: BW) (rmC d mc ms) (va_Pc av (fun U => HC dC dI cA b n st σ U.heap ∧ K2 dC dI cA U)) (Qcc dC dI cA b n' st' σ') mc ms (fun q => b ≤ q)
def QC (E : Ev) (b n : Nat) (st : St) (σ : Hp) (mc ms : Nat) : State → Prop := match E with
  | (_, _, _, _, s, _, args, below, _, _, _, _, dC, dI, cA) => MQ below (Qcc dC dI cA b n st σ) args s mc ms (fun q => b ≤ q)
theorem CC_of {l : Launch} {dC : Nat → ClassId} {dI : Nat → Nat → Nat} {cA : Nat → ClassId} {b : Nat} {y : MethodName} {cc : ByteArray} {maxL d : Nat} {av : List Value} {n : Nat} {st : St} {σ : Hp} {n' : Nat} {st' : St} {σ' : Hp} {mc ms : Nat} {own nme : String} (L : List (Nat × Value)) (hy : plainName y.cls = true) (ho : y.cls = own) (hnm : y.name = nme) (hn : (lg_sl av).length ≤ maxL) (hL : lv_args 0 av = L)
    (body : ∀ E : Ev, E.2.1 = l → CXC E own cc maxL d mc ms → CR E none → (nme = "<init>" → CNI E) → VC (QC E b n' st' σ' mc ms) E b maxL n st σ 0 0 0 L []) (hdep : True) : CC l dC dI cA b y cc maxL d av n st σ n' st' σ' mc ms := by
  refine Met.ofW (cc := cc) (maxL := maxL) (ret := none) hy rfl ?_
  intro p e s m args below meth c s₁ B hml hv
  obtain ⟨rfl, hP, hK⟩ := hv
  have hts := atoms_spec (ws := .code y cc maxL none :: BW) B.pre
  have hown : s.vm.findClass own = some m.cls := by rw [← ho]; exact findClass_of_methodNamed B.named
  have V := body (p, l, e, rmC d mc ms, s, m, av.toArray, below, meth, c, 0, 0, dC, dI, cA) rfl ⟨⟨B.exec, B.bytes, hml, hown, fun w hw => hts w (List.mem_cons_of_mem _ hw)⟩, hK, Nat.le_refl _, Nat.le_refl _, Nat.le_refl _, Nat.le_refl _⟩ ⟨B.returns, B.notSynchronized⟩ (fun q => by show meth.name = "<init>"; rw [← q, ← hnm]; exact (name_of_methodNamed B.named B.method).1)
  have hl := lv_entry av (n := maxL) hn
  rw [lg_entry_eq]
  rw [hL] at hl
  exact V s.heap [] _ hP va_S.rf hl
section CR1
variable {Q : State → Prop} {E : Ev} {b nL n : Nat} {st : St} {σ : Hp} {kc ks pc : Nat} {L L' : List (Nat × Value)} {S : List Value} {own : String} {cc : ByteArray} {d MC MS : Nat}
theorem C_iconst (C : CXC E own cc nL d MC MS) {n1 : Int} {v : Int32} (hdg : decode cc pc = .ok (.iconst n1, 1)) (hv : Int32.ofInt n1 = v) (kk : VC Q E b nL (n) (st) (σ) (kc) (ks) (pc + 1) L (.int v :: S)) : VC Q E b nL (n) (st) (σ) (kc) (ks) (pc) L (S) := by
  obtain ⟨p, l, e, R, s, m, args, below, meth, c, cells, slots, dC, dI, cA⟩ := E
  obtain ⟨⟨hx, hb, hml, ho, hts⟩, hK, hR1, hR2, hR3, hR4⟩ := C
  intro H locs ls hP hS hl
  exact lv_iconst hx hb hdg hv (kk H locs ls hP hS hl)
theorem C_bipush (C : CXC E own cc nL d MC MS) {n1 : Int} {v : Int32} (hdg : decode cc pc = .ok (.bipush n1, 2)) (hv : (Int8.ofInt n1).toInt32 = v) (kk : VC Q E b nL (n) (st) (σ) (kc) (ks) (pc + 2) L (.int v :: S)) : VC Q E b nL (n) (st) (σ) (kc) (ks) (pc) L (S) := by
  obtain ⟨p, l, e, R, s, m, args, below, meth, c, cells, slots, dC, dI, cA⟩ := E
  obtain ⟨⟨hx, hb, hml, ho, hts⟩, hK, hR1, hR2, hR3, hR4⟩ := C
  intro H locs ls hP hS hl
  exact lv_bipush hx hb hdg hv (kk H locs ls hP hS hl)
theorem C_sipush (C : CXC E own cc nL d MC MS) {n1 : Int} {v : Int32} (hdg : decode cc pc = .ok (.sipush n1, 3)) (hv : (Int16.ofInt n1).toInt32 = v) (kk : VC Q E b nL (n) (st) (σ) (kc) (ks) (pc + 3) L (.int v :: S)) : VC Q E b nL (n) (st) (σ) (kc) (ks) (pc) L (S) := by
  obtain ⟨p, l, e, R, s, m, args, below, meth, c, cells, slots, dC, dI, cA⟩ := E
  obtain ⟨⟨hx, hb, hml, ho, hts⟩, hK, hR1, hR2, hR3, hR4⟩ := C
  intro H locs ls hP hS hl
  exact lv_sipush hx hb hdg hv (kk H locs ls hP hS hl)
theorem C_iload_n (C : CXC E own cc nL d MC MS) {n1 : Fin 4} {i : Nat} {x : Int32} (hdg : decode cc pc = .ok (.iload_n n1, 1)) (hi : (n1 : Nat) = i) (k : Nat) (hk : L[k]? = some (i, .int x)) (kk : VC Q E b nL (n) (st) (σ) (kc) (ks) (pc + 1) L (.int x :: S)) : VC Q E b nL (n) (st) (σ) (kc) (ks) (pc) L (S) := by
  obtain ⟨p, l, e, R, s, m, args, below, meth, c, cells, slots, dC, dI, cA⟩ := E
  obtain ⟨⟨hx, hb, hml, ho, hts⟩, hK, hR1, hR2, hR3, hR4⟩ := C
  intro H locs ls hP hS hl
  exact lv_iload_n hx hb hdg hi (lv_at hl k hk) (kk H locs ls hP hS hl)
theorem C_iload (C : CXC E own cc nL d MC MS) {i : Nat} {x : Int32} (hdg : decode cc pc = .ok (.iload i, 2)) (k : Nat) (hk : L[k]? = some (i, .int x)) (kk : VC Q E b nL (n) (st) (σ) (kc) (ks) (pc + 2) L (.int x :: S)) : VC Q E b nL (n) (st) (σ) (kc) (ks) (pc) L (S) := by
  obtain ⟨p, l, e, R, s, m, args, below, meth, c, cells, slots, dC, dI, cA⟩ := E
  obtain ⟨⟨hx, hb, hml, ho, hts⟩, hK, hR1, hR2, hR3, hR4⟩ := C
  intro H locs ls hP hS hl
  exact lv_iload hx hb hdg (lv_at hl k hk) (kk H locs ls hP hS hl)
theorem C_aload_n (C : CXC E own cc nL d MC MS) {n1 : Fin 4} {i : Nat} {x : Nat} (hdg : decode cc pc = .ok (.aload_n n1, 1)) (hi : (n1 : Nat) = i) (k : Nat) (hk : L[k]? = some (i, .ref x)) (kk : VC Q E b nL (n) (st) (σ) (kc) (ks) (pc + 1) L (.ref x :: S)) : VC Q E b nL (n) (st) (σ) (kc) (ks) (pc) L (S) := by
  obtain ⟨p, l, e, R, s, m, args, below, meth, c, cells, slots, dC, dI, cA⟩ := E
  obtain ⟨⟨hx, hb, hml, ho, hts⟩, hK, hR1, hR2, hR3, hR4⟩ := C
  intro H locs ls hP hS hl
  exact lv_aload_n hx hb hdg hi (lv_at hl k hk) (kk H locs ls hP hS hl)
theorem C_aload (C : CXC E own cc nL d MC MS) {i : Nat} {x : Nat} (hdg : decode cc pc = .ok (.aload i, 2)) (k : Nat) (hk : L[k]? = some (i, .ref x)) (kk : VC Q E b nL (n) (st) (σ) (kc) (ks) (pc + 2) L (.ref x :: S)) : VC Q E b nL (n) (st) (σ) (kc) (ks) (pc) L (S) := by
  obtain ⟨p, l, e, R, s, m, args, below, meth, c, cells, slots, dC, dI, cA⟩ := E
  obtain ⟨⟨hx, hb, hml, ho, hts⟩, hK, hR1, hR2, hR3, hR4⟩ := C
  intro H locs ls hP hS hl
  exact lv_aload hx hb hdg (lv_at hl k hk) (kk H locs ls hP hS hl)
theorem C_istore_n (C : CXC E own cc nL d MC MS) {n1 : Fin 4} {i : Nat} {x : Int32} (hdg : decode cc pc = .ok (.istore_n n1, 1)) (hi : (n1 : Nat) = i) (hn : i < nL) (hL : (i, Value.int x) :: L.filter (fun q => !(q.1 == i) && !(q.1 + 1 == i && q.2.category == 2)) = L') (kk : VC Q E b nL (n) (st) (σ) (kc) (ks) (pc + 1) L' (S)) : VC Q E b nL (n) (st) (σ) (kc) (ks) (pc) L (Value.int x :: S) := by
  obtain ⟨p, l, e, R, s, m, args, below, meth, c, cells, slots, dC, dI, cA⟩ := E
  obtain ⟨⟨hx, hb, hml, ho, hts⟩, hK, hR1, hR2, hR3, hR4⟩ := C
  intro H locs ls hP hS hl
  exact lv_istore_n hx hb hdg hi hl hn hL (fun ls hl => kk H locs ls hP hS hl)
theorem C_astore_n (C : CXC E own cc nL d MC MS) {n1 : Fin 4} {i : Nat} {x : Nat} (hdg : decode cc pc = .ok (.astore_n n1, 1)) (hi : (n1 : Nat) = i) (hn : i < nL) (hL : (i, Value.ref x) :: L.filter (fun q => !(q.1 == i) && !(q.1 + 1 == i && q.2.category == 2)) = L') (kk : VC Q E b nL (n) (st) (σ) (kc) (ks) (pc + 1) L' (S)) : VC Q E b nL (n) (st) (σ) (kc) (ks) (pc) L (Value.ref x :: S) := by
  obtain ⟨p, l, e, R, s, m, args, below, meth, c, cells, slots, dC, dI, cA⟩ := E
  obtain ⟨⟨hx, hb, hml, ho, hts⟩, hK, hR1, hR2, hR3, hR4⟩ := C
  intro H locs ls hP hS hl
  exact lv_astore_n hx hb hdg hi hl hn hL (fun ls hl => kk H locs ls hP hS hl)
theorem C_iinc (C : CXC E own cc nL d MC MS) {i k : Nat} {n1 : Int} {x v : Int32} (hdg : decode cc pc = .ok (.iinc i n1, 3)) (hk : L[k]? = some (i, .int x)) (hv : x + Int32.ofInt n1 = v) (hn : i < nL) (hL : (i, Value.int v) :: L.filter (fun q => !(q.1 == i) && !(q.1 + 1 == i && q.2.category == 2)) = L') (kk : VC Q E b nL (n) (st) (σ) (kc) (ks) (pc + 3) L' (S)) : VC Q E b nL (n) (st) (σ) (kc) (ks) (pc) L (S) := by
  obtain ⟨p, l, e, R, s, m, args, below, meth, c, cells, slots, dC, dI, cA⟩ := E
  obtain ⟨⟨hx, hb, hml, ho, hts⟩, hK, hR1, hR2, hR3, hR4⟩ := C
  intro H locs ls hP hS hl
  exact lv_iinc hx hb hdg hl hk hv hn hL (fun ls hl => kk H locs ls hP hS hl)
theorem C_dup (C : CXC E own cc nL d MC MS) {v : Value} (hdg : decode cc pc = .ok (.dup, 1)) (hv : v.category = 1) (kk : VC Q E b nL (n) (st) (σ) (kc) (ks) (pc + 1) L (v :: v :: S)) : VC Q E b nL (n) (st) (σ) (kc) (ks) (pc) L (v :: S) := by
  obtain ⟨p, l, e, R, s, m, args, below, meth, c, cells, slots, dC, dI, cA⟩ := E
  obtain ⟨⟨hx, hb, hml, ho, hts⟩, hK, hR1, hR2, hR3, hR4⟩ := C
  intro H locs ls hP hS hl
  exact lv_dup hx hb hdg hv (kk H locs ls hP hS hl)
theorem C_ge_t (C : CXC E own cc nL d MC MS) {x y : Int32} {off : Int} {tgt : Nat} (hdg : decode cc pc = .ok (.if_icmp .ge off, 3)) (ht : (pc : Int) + off = (tgt : Int)) (hc : y ≤ x) (kk : VC Q E b nL (n) (st) (σ) (kc) (ks) (tgt) L (S)) : VC Q E b nL (n) (st) (σ) (kc) (ks) (pc) L (.int y :: .int x :: S) := by
  obtain ⟨p, l, e, R, s, m, args, below, meth, c, cells, slots, dC, dI, cA⟩ := E
  obtain ⟨⟨hx, hb, hml, ho, hts⟩, hK, hR1, hR2, hR3, hR4⟩ := C
  intro H locs ls hP hS hl
  exact lv_icmp_ge hx hb hdg ht (fun _ => kk H locs ls hP hS hl) (fun q => absurd hc q)
theorem C_ge_f (C : CXC E own cc nL d MC MS) {x y : Int32} {off : Int} {tgt : Nat} (hdg : decode cc pc = .ok (.if_icmp .ge off, 3)) (ht : (pc : Int) + off = (tgt : Int)) (hc : ¬ y ≤ x) (kk : VC Q E b nL (n) (st) (σ) (kc) (ks) (pc + 3) L (S)) : VC Q E b nL (n) (st) (σ) (kc) (ks) (pc) L (.int y :: .int x :: S) := by
  obtain ⟨p, l, e, R, s, m, args, below, meth, c, cells, slots, dC, dI, cA⟩ := E
  obtain ⟨⟨hx, hb, hml, ho, hts⟩, hK, hR1, hR2, hR3, hR4⟩ := C
  intro H locs ls hP hS hl
  exact lv_icmp_ge hx hb hdg ht (fun q => absurd q hc) (fun _ => kk H locs ls hP hS hl)
theorem C_gt_t (C : CXC E own cc nL d MC MS) {x y : Int32} {off : Int} {tgt : Nat} (hdg : decode cc pc = .ok (.if_icmp .gt off, 3)) (ht : (pc : Int) + off = (tgt : Int)) (hc : y < x) (kk : VC Q E b nL (n) (st) (σ) (kc) (ks) (tgt) L (S)) : VC Q E b nL (n) (st) (σ) (kc) (ks) (pc) L (.int y :: .int x :: S) := by
  obtain ⟨p, l, e, R, s, m, args, below, meth, c, cells, slots, dC, dI, cA⟩ := E
  obtain ⟨⟨hx, hb, hml, ho, hts⟩, hK, hR1, hR2, hR3, hR4⟩ := C
  intro H locs ls hP hS hl
  exact lv_icmp_gt hx hb hdg ht (fun _ => kk H locs ls hP hS hl) (fun q => absurd hc q)
theorem C_gt_f (C : CXC E own cc nL d MC MS) {x y : Int32} {off : Int} {tgt : Nat} (hdg : decode cc pc = .ok (.if_icmp .gt off, 3)) (ht : (pc : Int) + off = (tgt : Int)) (hc : ¬ y < x) (kk : VC Q E b nL (n) (st) (σ) (kc) (ks) (pc + 3) L (S)) : VC Q E b nL (n) (st) (σ) (kc) (ks) (pc) L (.int y :: .int x :: S) := by
  obtain ⟨p, l, e, R, s, m, args, below, meth, c, cells, slots, dC, dI, cA⟩ := E
  obtain ⟨⟨hx, hb, hml, ho, hts⟩, hK, hR1, hR2, hR3, hR4⟩ := C
  intro H locs ls hP hS hl
  exact lv_icmp_gt hx hb hdg ht (fun q => absurd q hc) (fun _ => kk H locs ls hP hS hl)
theorem C_goto (C : CXC E own cc nL d MC MS) {off : Int} {tgt : Nat} (hdg : decode cc pc = .ok (.goto off, 3)) (ht : (pc : Int) + off = (tgt : Int)) (kk : VC Q E b nL (n) (st) (σ) (kc) (ks) (tgt) L (S)) : VC Q E b nL (n) (st) (σ) (kc) (ks) (pc) L (S) := by
  obtain ⟨p, l, e, R, s, m, args, below, meth, c, cells, slots, dC, dI, cA⟩ := E
  obtain ⟨⟨hx, hb, hml, ho, hts⟩, hK, hR1, hR2, hR3, hR4⟩ := C
  intro H locs ls hP hS hl
  exact lv_goto hx hb hdg ht (kk H locs ls hP hS hl)
theorem C_obj (C : CXC E own cc nL d MC MS) {a index : Nat} (hd : 1 ≤ d) (hlink : Cond.methodLink own index objectInit ∈ BW) (hcat : (S.map fun v => v.category).sum ≤ 8) (hdg : decode cc pc = .ok (.invokespecial index, 3)) (kk : VC Q E b nL (n) (st) (σ) (kc) (ks) (pc + 3) L (S)) : VC Q E b nL (n) (st) (σ) (kc) (ks) (pc) L (.ref a :: S) := by
  obtain ⟨p, l, e, R, s, m, args, below, meth, c, cells, slots, dC, dI, cA⟩ := E
  obtain ⟨⟨hx, hb, hml, ho, hts⟩, hK, hR1, hR2, hR3, hR4⟩ := C
  intro H locs ls hP hS hl
  exact W.objInit hx hb ho (hts _ hlink) (hts _ bw_oI) (hts _ bw_oC) rfl (by rw [hml]; exact hl.1) rfl hdg (by omega) (by have := lv_room (m := m) (pc := pc) (ls := ls) (rest := S) hcat; show 2 * 0 + _ + 12 ≤ _; omega) (by exact kk H locs ls hP hS hl)
theorem C_new (C : CXC E own cc nL d MC MS) {ci index N : Nat} {Cn : String} {T : u_T} {tpl : List (Option Nat)} (hlay : lay n = .inr (.inr (ci, tpl))) (hc : vwCl[ci]? = some (Cn, T, N)) (hin : ∀ w ∈ u_ws Cn T N, w ∈ BW) (ty : Nat → FieldType) (hty : ∀ k, k < N → parseFieldDescriptor (T k).2.2.1 = some (ty k)) (hcl : Cond.classLink own index Cn ∈ BW) (hinst : Cond.instantiable Cn N ∈ BW) (hini : Cond.initialized Cn ∈ BW) (hfs : ∀ j, j < N → defaultValue (ty j) = vp_V (mkS b (fun _ => 0) (fun _ => false) 0 tpl) j) (h1 : kc + 1 ≤ MC) (h2 : ks + N ≤ MS) (hdg : decode cc pc = .ok (.new index, 3)) {n2 kc2 ks2 : Nat} (en : n + 1 = n2) (ec : kc + 1 = kc2) (es : ks + N = ks2) (kk : VC Q E b nL n2 st σ kc2 ks2 (pc + 3) L (.ref (b + n) :: S)) : VC Q E b nL n st σ kc ks pc L S := by
  obtain ⟨p, l, e, R, s, m, args, below, meth, c, cells, slots, dC, dI, cA⟩ := E
  obtain ⟨⟨hx, hb, hml, ho, hts⟩, hK, hR1, hR2, hR3, hR4⟩ := C
  intro H locs ls hP hS hl
  subst en; subst ec; subst es
  have hKn := hK.1.1.1 ci _ hc
  refine W.newcK (n := N) hx hb ho (hts _ hcl) (hts _ hinst) (hts _ hini) rfl hdg (Nat.le_trans h1 hR3) (Nat.le_trans h2 hR4) hKn.2.1 hP.1 fun H1 kC hkC e1 z1 o1 => ?_
  have hz : H1.size = H.size + 1 := by rw [z1, hP.1]
  have ho1 : ∀ q, q < H.size → H1[q]? = H[q]? := fun q hq => o1 q (by rw [hP.1] at hq; exact hq)
  refine kk H1 locs ls (HC_grow hP hz ho1 ?_) ⟨Nat.le_trans hS.1 (by omega), fun x g1 g2 => (ho1 x (Nat.lt_of_lt_of_le g1 hS.1)).trans (hS.2.1 x g1 g2), hS.2.2⟩ hl
  rw [hlay]
  exact ⟨_, hc, (u_born ty hts hin hKn hkC e1 hty).to hfs⟩
theorem C_newa (C : CXC E own cc nL d MC MS) {atype : ArrayType} {t N : Nat} {ty : FieldType} (hty : newarray.typeOf atype = ty) (hdf : defaultValue ty = .int 0) (htl : ∀ cA : Nat → ClassId, (tyL cA)[t]? = some (cA t, ty)) (hra : ∀ (U : State) (cA : ClassId), va_RA U cA ty → U.vm.findClass ("[" ++ ty.toString) = some cA) (hlay : lay n = .inl (t, N)) (hw : Cond.arrayClass ty ∈ BW) {v : Int32} (hv : ¬ v < 0) (hN : v.toNatClampNeg = N) (hby : N * componentBytes ty ≤ 536870912) (h1 : kc + 1 ≤ MC) (h2 : ks + N ≤ MS) (hdg : decode cc pc = .ok (.newarray atype, 2)) {n2 kc2 ks2 : Nat} (en : n + 1 = n2) (ec : kc + 1 = kc2) (es : ks + N = ks2) (kk : VC Q E b nL n2 st σ kc2 ks2 (pc + 2) L (.ref (b + n) :: S)) : VC Q E b nL n st σ kc ks pc L (.int v :: S) := by
  obtain ⟨p, l, e, R, s, m, args, below, meth, c, cells, slots, dC, dI, cA⟩ := E
  obtain ⟨⟨hx, hb, hml, ho, hts⟩, hK, hR1, hR2, hR3, hR4⟩ := C
  intro H locs ls hP hS hl
  subst en; subst ec; subst es
  subst hty
  refine va_newaK hx hb (hts _ hw) rfl hdg rfl hv hN hby (Nat.le_trans h1 hR3) (Nat.le_trans h2 hR4) hP.1 fun H1 cA1 e1 z1 o1 hAr hNm => ?_
  have hz : H1.size = H.size + 1 := by rw [z1, hP.1]
  have ho1 : ∀ q, q < H.size → H1[q]? = H[q]? := fun q hq => o1 q (by rw [hP.1] at hq; exact hq)
  refine kk H1 locs ls (HC_grow hP hz ho1 ?_) ⟨Nat.le_trans hS.1 (by omega), fun x g1 g2 => (ho1 x (Nat.lt_of_lt_of_le g1 hS.1)).trans (hS.2.1 x g1 g2), hS.2.2⟩ hl
  rw [hlay]
  have hcA : cA1 = cA t := Option.some.inj (hNm.symm.trans (hra _ _ (hK.1.1.2 t _ (htl cA)).2))
  show H1[b + n]? = some (vp_cell (cA t) (N, .inl (fun _ => 0)))
  rw [vp_cell_i, ← hcA, e1, hdf]
theorem C_newq (C : CXC E own cc nL d MC MS) {index t N a dd : Nat} {Cn : String} (htl : ∀ cA : Nat → ClassId, (tyL cA)[t]? = some (cA t, .object Cn)) (hao : ∀ (dC : Nat → ClassId) (dI : Nat → Nat → Nat) (cA : Nat → ClassId) (U : State), K2 dC dI cA U → va_AO Cn U) (hlay : lay n = .inr (.inl (t, N, a, dd))) (hcl : Cond.classLink own index Cn ∈ BW) {v : Int32} (hv : ¬ v < 0) (hN : v.toNatClampNeg = N) (hby : N * 4 ≤ 536870912) (h1 : kc + 1 ≤ MC) (h2 : ks + N ≤ MS) (hdg : decode cc pc = .ok (.anewarray index, 3)) {n2 kc2 ks2 : Nat} (en : n + 1 = n2) (ec : kc + 1 = kc2) (es : ks + N = ks2) (kk : VC Q E b nL n2 st σ kc2 ks2 (pc + 3) L (.ref (b + n) :: S)) : VC Q E b nL n st σ kc ks pc L (.int v :: S) := by
  obtain ⟨p, l, e, R, s, m, args, below, meth, c, cells, slots, dC, dI, cA⟩ := E
  obtain ⟨⟨hx, hb, hml, ho, hts⟩, hK, hR1, hR2, hR3, hR4⟩ := C
  intro H locs ls hP hS hl
  subst en; subst ec; subst es
  subst hN
  refine W.anew hx hb ho (hts _ hcl) (va_AO.use (hao _ _ _ _ hK)) rfl hdg rfl hv hby (Nat.le_trans h1 hR3) (Nat.le_trans h2 hR4) fun cA1 kA comp f1 f2 f3 f4 => ?_
  generalize hH1 : H.push ({ cls := cA1, slots := Array.replicate v.toNatClampNeg .null, vm := .none } : Cell) = H1
  have hz : H1.size = H.size + 1 := by rw [← hH1, Array.size_push]
  have e1 : H1[H.size]? = some (arrV cA1 v.toNatClampNeg (fun _ => .null)) := by rw [← hH1, Array.getElem?_push_size, ← arrV_new]
  have ho1 : ∀ q : Nat, q < H.size → H1[q]? = H[q]? := fun q hq => by rw [← hH1, Array.getElem?_push, if_neg (Nat.ne_of_lt hq)]
  rw [hP.1]
  refine kk H1 locs ls (HC_grow hP hz ho1 ?_) ⟨Nat.le_trans hS.1 (by omega), fun x g1 g2 => (ho1 x (Nat.lt_of_lt_of_le g1 hS.1)).trans (hS.2.1 x g1 g2), hS.2.2⟩ hl
  rw [hlay]
  obtain ⟨kA', comp', g1, g2, g3, g4⟩ := (hK.1.1.2 t _ (htl cA)).2
  have hcA : cA1 = cA t := Option.some.inj (f1.symm.trans g4)
  show H1[b + n]? = some (vp_cell (cA t) (_, .inr (.inr (.inr (.inr (fun _ => if false = true then _ else none))))))
  rw [vp_cell_q, ← hcA, ← hP.1, e1]
  rfl
theorem C_getR (C : CXC E own cc nL d MC MS) {o ci k N : Nat} {Cn : String} {T : u_T} {index : Nat} {tpl : List (Option Nat)} (hN : o < n) (hlay : lay o = .inr (.inr (ci, tpl))) (hc : vwCl[ci]? = some (Cn, T, N)) (hin : ∀ w ∈ u_ws Cn T N, w ∈ BW) (hk : k < N) (hlink : Cond.fieldLink own index (T k).1 (T k).2.1 (T k).2.2.1 ∈ BW) {q : Nat} (ht : tpl[k]? = some (some q)) (hst : st o k = true) (hdg : decode cc pc = .ok (.getfield index, 3)) (kk : VC Q E b nL (n) (st) (σ) (kc) (ks) (pc + 3) L (.ref (b + q) :: S)) : VC Q E b nL (n) (st) (σ) (kc) (ks) (pc) L (.ref (b + o) :: S) := by
  obtain ⟨p, l, e, R, s, m, args, below, meth, c, cells, slots, dC, dI, cA⟩ := E
  obtain ⟨⟨hx, hb, hml, ho, hts⟩, hK, hR1, hR2, hR3, hR4⟩ := C
  intro H locs ls hP hS hl
  have he : (wc cA b n st σ)[o]? = some (b + o, .inr (ci, mkS b (σ o) (st o) 0 tpl)) := by rw [wc_get hN, hlay]; rfl
  have hv : (mkS b (σ o) (st o) 0 tpl)[k]? = some (.ref (b + q)) := by rw [mkS_at, ht]; simp [hst]
  exact va_get (D := (dC, dI)) (ci := ci) (C := Cn) (T := T) (N := N) hx hb hts hin ho hK.1.1 hP.2.1 o he hc k hk (hts _ hlink) (fun _ h => h) hv hdg (kk H locs ls hP hS hl)
theorem C_putR (C : CXC E own cc nL d MC MS) (CI : CNI E) {o ci k N : Nat} {Cn : String} {T : u_T} {index : Nat} {tpl : List (Option Nat)} (hN : o < n) (hlay : lay o = .inr (.inr (ci, tpl))) (hc : vwCl[ci]? = some (Cn, T, N)) (hin : ∀ w ∈ u_ws Cn T N, w ∈ BW) (hk : k < N) (hlink : Cond.fieldLink own index (T k).1 (T k).2.1 (T k).2.2.1 ∈ BW) (ty0 : Nat → FieldType) (hty : ∀ k, k < N → parseFieldDescriptor (T k).2.2.1 = some (ty0 k)) (hnm : ∀ a, a < N → ∀ b, b < N → a ≠ b → (T a).2.1 ≠ (T b).2.1) (hfin : (T k).2.2.2 = true) (hdecl : (T k).1 = own) {ty : FieldType} (hd : parseFieldDescriptor (T k).2.2.1 = some ty) {q : Nat} (hn : narrow ty (.ref (b + q)) = .ref (b + q)) (hfit : fits ty (.ref (b + q)) = true) (ht : tpl[k]? = some (some q)) (hdg : decode cc pc = .ok (.putfield index, 3)) (kk : VC Q E b nL (n) (sS st o k) (σ) (kc) (ks) (pc + 3) L (S)) : VC Q E b nL (n) (st) (σ) (kc) (ks) (pc) L (.ref (b + q) :: .ref (b + o) :: S) := by
  obtain ⟨p, l, e, R, s, m, args, below, meth, c, cells, slots, dC, dI, cA⟩ := E
  obtain ⟨⟨hx, hb, hml, ho, hts⟩, hK, hR1, hR2, hR3, hR4⟩ := C
  intro H locs ls hP hS hl
  have he : (wc cA b n st σ)[o]? = some (b + o, .inr (ci, mkS b (σ o) (st o) 0 tpl)) := by rw [wc_get hN, hlay]; rfl
  have hlen : k < (mkS b (σ o) (st o) 0 tpl).length := by rw [mkS_len]; exact (List.getElem?_eq_some_iff.mp ht).1
  have hset : (wc cA b n st σ).set o (b + o, .inr (ci, (mkS b (σ o) (st o) 0 tpl).set k (.ref (b + q)))) = (wc cA b n st σ).set o (b + o, cS b cA (lay o) (fun i => if i = k then true else st o i) (σ o)) := by
    rw [hlay]
    show _ = (wc cA b n st σ).set o (b + o, .inr (ci, mkS b (σ o) (fun i => if i = k then true else st o i) 0 tpl))
    congr 4
    apply List.ext_getElem?
    intro i
    rw [List.getElem?_set, mkS_at, mkS_at]
    by_cases hi : k = i
    · subst hi
      rw [if_pos rfl, if_pos hlen, ht]
      simp
    · rw [if_neg hi]
      simp [Ne.symm hi]
  obtain ⟨r, h1, cell, q1, q2, q3, q4⟩ := hP.2.1 o _ he
  have hr : r = (Cn, T, N) := Option.some.inj (h1.symm.trans hc)
  subst hr
  have hap := va_apart (own := own) hts hin ty0 hty hnm hK.1.1 hc
  obtain ⟨hSl, hfc, kC, hkC, hkind⟩ := hK.1.1.1 ci _ hc
  obtain ⟨cf, kf, fi, f, hi, hsl⟩ := hSl k hk
  have hly := hts _ (hin _ (u_in_lay hk))
  unfold u_lay at hly
  have hst := (u_facts hfc hkC (u_lays hts hin hk) hi).1
  rw [if_pos hfin] at hly
  have hcf : m.cls = cf := by
    obtain ⟨_, _, c', _, _, _, -, -, hf', -, -, -, hown2, -⟩ := Cond.laysFinal_spec hly
    have e1 : c' = cf := by have := hi.symm.trans hf'; simp at this; exact this.1.symm
    rw [hdecl] at hown2
    rw [← e1]; exact Option.some.inj (ho.symm.trans hown2)
  have h6 := u_fits hfc hkC hkind (Or.inr hly) hi hd hn hfit
  refine W.putFinK hx hb ho (hts _ hlink) hi hst hcf CI (by rw [q2]; exact h6) q1 q3 (by rw [hsl]; exact k2_hasslot (q4 k hk)) rfl rfl hdg fun H' e1 e2 e3 => ?_
  rw [hsl] at e1 ⊢
  have hP1 := hP.2.1.set (wc_D cA b n st σ) he (e := .inr (ci, (mkS b (σ o) (st o) 0 tpl).set k (.ref (b + q)))) ⟨_, hc, t_OB.to (V := updV (vp_V (mkS b (σ o) (st o) 0 tpl)) k (.ref (b + q))) ⟨_, e1, q2, q3, t_set q4 hap hk (.ref (b + q))⟩ (fun j _ => vp_updV_set hlen (.ref (b + q)) j)⟩ e3
  have hC := HC_set hP hN e2 hset hP1
  rw [va_up_same] at hC
  exact kk H' _ ls hC (hS.put e2 e3 (Nat.le_add_right b o)) hl
theorem C_putI (C : CXC E own cc nL d MC MS) {o ci k N : Nat} {Cn : String} {T : u_T} {index : Nat} {tpl : List (Option Nat)} (hN : o < n) (hlay : lay o = .inr (.inr (ci, tpl))) (hc : vwCl[ci]? = some (Cn, T, N)) (hin : ∀ w ∈ u_ws Cn T N, w ∈ BW) (hk : k < N) (hlink : Cond.fieldLink own index (T k).1 (T k).2.1 (T k).2.2.1 ∈ BW) (ty0 : Nat → FieldType) (hty : ∀ k, k < N → parseFieldDescriptor (T k).2.2.1 = some (ty0 k)) (hnm : ∀ a, a < N → ∀ b, b < N → a ≠ b → (T a).2.1 ≠ (T b).2.1) (hfin : (T k).2.2.2 = false) (hd : parseFieldDescriptor (T k).2.2.1 = some .int) {v : Int32} (ht : tpl[k]? = some none) (hdg : decode cc pc = .ok (.putfield index, 3)) (kk : VC Q E b nL (n) (st) (wr σ o k v) (kc) (ks) (pc + 3) L (S)) : VC Q E b nL (n) (st) (σ) (kc) (ks) (pc) L (.int v :: .ref (b + o) :: S) := by
  obtain ⟨p, l, e, R, s, m, args, below, meth, c, cells, slots, dC, dI, cA⟩ := E
  obtain ⟨⟨hx, hb, hml, ho, hts⟩, hK, hR1, hR2, hR3, hR4⟩ := C
  intro H locs ls hP hS hl
  have he : (wc cA b n st σ)[o]? = some (b + o, .inr (ci, mkS b (σ o) (st o) 0 tpl)) := by rw [wc_get hN, hlay]; rfl
  have hlen : k < (mkS b (σ o) (st o) 0 tpl).length := by rw [mkS_len]; exact (List.getElem?_eq_some_iff.mp ht).1
  have hset : (wc cA b n st σ).set o (b + o, .inr (ci, (mkS b (σ o) (st o) 0 tpl).set k (.int v))) = (wc cA b n st σ).set o (b + o, cS b cA (lay o) (st o) (upd (σ o) k v)) := by
    rw [hlay]
    show _ = (wc cA b n st σ).set o (b + o, .inr (ci, mkS b (upd (σ o) k v) (st o) 0 tpl))
    congr 4
    apply List.ext_getElem?
    intro i
    rw [List.getElem?_set, mkS_at, mkS_at]
    by_cases hi : k = i
    · subst hi
      rw [if_pos rfl, if_pos hlen, ht]
      simp [upd]
    · rw [if_neg hi]
      simp [Ne.symm hi, upd]
  obtain ⟨r, h1, cell, q1, q2, q3, q4⟩ := hP.2.1 o _ he
  have hr : r = (Cn, T, N) := Option.some.inj (h1.symm.trans hc)
  subst hr
  have hap := va_apart (own := own) hts hin ty0 hty hnm hK.1.1 hc
  obtain ⟨hSl, hfc, kC, hkC, hkind⟩ := hK.1.1.1 ci _ hc
  obtain ⟨cf, kf, fi, f, hi, hsl⟩ := hSl k hk
  have hly := hts _ (hin _ (u_in_lay hk))
  unfold u_lay at hly
  have hst := (u_facts hfc hkC (u_lays hts hin hk) hi).1
  rw [if_neg (by rw [hfin]; decide)] at hly
  have h6 := u_store hfc hkC hkind hly hi hd (v := .int v) rfl rfl
  refine W.putK hx hb (f := f) ⟨ho, hts _ hlink, ⟨_, _, _, hi⟩, hst⟩ (by rw [q2]; exact h6) q1 q3 (by rw [hsl]; exact k2_hasslot (q4 k hk)) rfl rfl hdg fun H' e1 e2 e3 => ?_
  rw [hsl] at e1 ⊢
  have hP1 := hP.2.1.set (wc_D cA b n st σ) he (e := .inr (ci, (mkS b (σ o) (st o) 0 tpl).set k (.int v))) ⟨_, hc, t_OB.to (V := updV (vp_V (mkS b (σ o) (st o) 0 tpl)) k (.int v)) ⟨_, e1, q2, q3, t_set q4 hap hk (.int v)⟩ (fun j _ => vp_updV_set hlen (.int v) j)⟩ e3
  have hC := HC_set hP hN e2 hset hP1
  rw [va_up_same] at hC
  exact kk H' _ ls hC (hS.put e2 e3 (Nat.le_add_right b o)) hl
theorem C_astq (C : CXC E own cc nL d MC MS) {o t N a dd o2 ci : Nat} {r : vw_C} {tpl : List (Option Nat)} (hN : o < n) (hlay : lay o = .inr (.inl (t, N, a, dd))) (htl : ∀ cA : Nat → ClassId, (tyL cA)[t]? = some (cA t, .object r.1)) (hN2 : o2 < n) (hlay2 : lay o2 = .inr (.inr (ci, tpl))) (hc : vwCl[ci]? = some r) {i : Int32} {j : Nat} (hj : i.toNatClampNeg = j) (hi0 : ¬ i < 0) (hjN : j < N) (ho2 : o2 = a + dd * j) (hdg : decode cc pc = .ok (.aastore, 1)) (kk : VC Q E b nL (n) (sS st o j) (σ) (kc) (ks) (pc + 1) L (S)) : VC Q E b nL (n) (st) (σ) (kc) (ks) (pc) L (.ref (b + o2) :: .int i :: .ref (b + o) :: S) := by
  obtain ⟨p, l, e, R, s, m, args, below, meth, c, cells, slots, dC, dI, cA⟩ := E
  obtain ⟨⟨hx, hb, hml, ho, hts⟩, hK, hR1, hR2, hR3, hR4⟩ := C
  intro H locs ls hP hS hl
  have ha : (wc cA b n st σ)[o]? = some (b + o, .inl (cA t, N, .inr (.inr (.inr (.inr (fun j => if st o j = true then some (b + (a + dd * j)) else none)))))) := by rw [wc_get hN, hlay]; rfl
  have hv : (wc cA b n st σ)[o2]? = some (b + o2, .inr (ci, mkS b (σ o2) (st o2) 0 tpl)) := by rw [wc_get hN2, hlay2]; rfl
  obtain ⟨r', hr', cellV, g1, g2, g3, -⟩ := hP.2.1 o2 _ hv
  have hcls := (hK.1.1.1 ci r hc).2
  obtain ⟨kA, comp, k1, k2, k3, -⟩ := (hK.1.1.2 t _ (htl cA)).2
  have hcomp : comp = dC ci := Option.some.inj (k3.symm.trans hcls.1)
  subst hcomp
  obtain ⟨kC, hkC, -⟩ := hcls.2
  subst hj
  refine W.aast hx hb (hP.2.1 o _ ha) (fun q h => by cases h) (fun h => by cases h) k1 k2 rfl hkC ⟨hi0, by show _ < (arrV _ _ _).slots.size; rw [arrV_size]; exact hjN⟩ g1 (fun q h => by rw [g3] at h; cases h) (by rw [g2]; exact hkC) (by rw [g2]; exact va_assign hcls) rfl rfl hdg fun H1 e z oq => ?_
  have hP1 := hP.2.1.set (wc_D cA b n st σ) ha (e := cS b cA (lay o) (fun q => if q = i.toNatClampNeg then true else st o q) (σ o)) (H1 := H1) (by
    rw [hlay]
    show H1[b + o]? = some (vp_cell _ _)
    rw [e]
    rw [vp_cell_q, vp_cell_q, arrV_store]
    congr 2
    funext q
    by_cases hq : q = i.toNatClampNeg
    · subst hq
      simp [updV, va_rf, ho2]
    · simp [updV, hq]) oq
  have hC := HC_set hP hN z rfl hP1
  rw [va_up_same] at hC
  exact kk H1 _ ls hC (hS.put z oq (Nat.le_add_right b o)) hl
theorem C_iast (C : CXC E own cc nL d MC MS) {o N : Nat} (hN : o < n) (hlay : lay o = .inl (0, N)) {i v : Int32} {j : Nat} (hj : i.toNatClampNeg = j) (hi0 : ¬ i < 0) (hjN : j < N) (hdg : decode cc pc = .ok (.iastore, 1)) (kk : VC Q E b nL (n) (st) (wr σ o j v) (kc) (ks) (pc + 1) L (S)) : VC Q E b nL (n) (st) (σ) (kc) (ks) (pc) L (.int v :: .int i :: .ref (b + o) :: S) := by
  obtain ⟨p, l, e, R, s, m, args, below, meth, c, cells, slots, dC, dI, cA⟩ := E
  obtain ⟨⟨hx, hb, hml, ho, hts⟩, hK, hR1, hR2, hR3, hR4⟩ := C
  intro H locs ls hP hS hl
  have ha : (wc cA b n st σ)[o]? = some (b + o, .inl (cA 0, N, .inl (σ o))) := by rw [wc_get hN, hlay]; rfl
  subst hj
  refine W.iast hx hb (hP.2.1 o _ ha) ((hK.1.1.2 0 _ rfl).1 N (fun j => .int (σ o j))) (fun q => by cases q) (by show ¬ (i < 0 ∨ (arrV _ _ _).slots.size ≤ _); rw [arrV_size]; exact fun h => h.elim hi0 (fun q => absurd hjN (Nat.not_lt.mpr q))) rfl rfl hdg fun H1 e z oq => ?_
  have hP1 := hP.2.1.set (wc_D cA b n st σ) ha (e := cS b cA (lay o) (st o) (upd (σ o) i.toNatClampNeg v)) (H1 := H1) (by
    rw [hlay]
    show H1[b + o]? = some (vp_cell _ _)
    rw [e]
    rw [vp_cell_i, vp_cell_i, arrV_store]
    congr 2
    funext q
    by_cases hq : q = i.toNatClampNeg
    · subst hq
      simp [updV, upd]
    · simp [updV, upd, hq]) oq
  have hC := HC_set hP hN z rfl hP1
  rw [va_up_same] at hC
  exact kk H1 _ ls hC (hS.put z oq (Nat.le_add_right b o)) hl
theorem C_alen (C : CXC E own cc nL d MC MS) {o N : Nat} (hN : o < n) (hlay : lay o = .inl (0, N)) {v : Int32} (hv : Int32.ofNat N = v) (hdg : decode cc pc = .ok (.arraylength, 1)) (kk : VC Q E b nL (n) (st) (σ) (kc) (ks) (pc + 1) L (.int v :: S)) : VC Q E b nL (n) (st) (σ) (kc) (ks) (pc) L (.ref (b + o) :: S) := by
  obtain ⟨p, l, e, R, s, m, args, below, meth, c, cells, slots, dC, dI, cA⟩ := E
  obtain ⟨⟨hx, hb, hml, ho, hts⟩, hK, hR1, hR2, hR3, hR4⟩ := C
  intro H locs ls hP hS hl
  have ha : (wc cA b n st σ)[o]? = some (b + o, .inl (cA 0, N, .inl (σ o))) := by rw [wc_get hN, hlay]; rfl
  exact va_alen hx hb hK.1.1 hP.2.1 o 0 (ty := .int) ha rfl hv hdg (kk H locs ls hP hS hl)
theorem C_vret (C : CXC E own cc nL d MC MS) (D : CR E none) (hdg : decode cc pc = .ok (.return_, 1)) : VC (QC E b n st σ kc ks) E b nL n st σ kc ks pc L [] := by
  obtain ⟨p, l, e, R, s, m, args, below, meth, c, cells, slots, dC, dI, cA⟩ := E
  obtain ⟨⟨hx, hb, hml, ho, hts⟩, hK, hR1, hR2, hR3, hR4⟩ := C
  obtain ⟨hr, hlocks⟩ := D
  intro H locs ls hP hS hl
  exact W.vret hx hb hr (fun t ht hW => ⟨rfl, by rw [ht]; exact hP, hS.F ht⟩) hS.2.2 hdg hlocks
/-- behind a call -/
theorem C_back {p : Program} {l : Launch} {e : Env} {R : Room} {s : State} {m : MethodId} {args : Array Value} {below : List Frame} {meth : Method} {c : Code} {dC : Nat → ClassId} {dI : Nat → Nat → Nat} {cA : Nat → ClassId} {H : Heap} {locs : List Loc} {ls : Array Slot} {st0 : List Value} {a : Array Value} {n' : Nat} {st' : St} {σ' : Hp} {mc ms : Nat}
    (hr : va_Run p l e R s m args below meth c H locs kc ks mc ms (F0 m pc ls st0) S (Qcc dC dI cA b n' st' σ' a) (fun q => b ≤ q)) (hS : va_S (fun q => b ≤ q) s.heap H locs)
    (kk : ∀ (H1 : Heap) (locs1 : List Loc), HC dC dI cA b n' st' σ' H1 → va_S (fun q => b ≤ q) s.heap H1 locs1 → W p l e R s m args below meth c H1 locs1 (kc + mc) (ks + ms) Q (F0 m (pc + 3) ls S)) : W p l e R s m args below meth c H locs kc ks Q (F0 m pc ls st0) := by
  intro T hT X
  obtain ⟨v, st₀, t, T', L, h0, X', hL, e1, e2, ⟨hv, hp, hz, hk⟩, st⟩ := hr T hT X
  cases hv
  rw [h0] at hz hk
  obtain ⟨t2, a1, b1⟩ := kk T'.heap (locs ++ L) (by rw [e1]; exact hp) ⟨Nat.le_trans hS.1 (by rw [e1]; exact hz), fun q h1 h2 => by rw [e1, hk q (Nat.lt_of_lt_of_le h1 hS.1) h2]; exact hS.2.1 q h1 h2, fun q hq => by
      rcases List.mem_append.mp hq with h | h
      · exact hS.2.2 q h
      · exact hL q h⟩ T' rfl X'
  exact ⟨t2, st t2 a1, b1⟩
theorem C_callIN (C : CXC E own cc nL d MC MS) {y : MethodName} {cy : ByteArray} {maxL dc na index n' mc ms : Nat} {st' : St} {σ' : Hp} {As : List Value} {o : Nat} {host : String} (hnm : y.name = "<init>") (hinst : Cond.instanceMethod y ∈ BW) (hlink : Cond.methodLinkNest own index y host ∈ NW) (hM : CC E.2.1 E.2.2.2.2.2.2.2.2.2.2.2.2.1 E.2.2.2.2.2.2.2.2.2.2.2.2.2.1 E.2.2.2.2.2.2.2.2.2.2.2.2.2.2 b y cy maxL dc (.ref (b + o) :: As) n st σ n' st' σ' mc ms) (hd : dc + 1 ≤ d) (hmx : maxL ≤ 41) (h1 : kc + mc ≤ MC) (h2 : ks + ms ≤ MS) (hcode : Cond.code y cy maxL none ∈ BW) (hini : Cond.initialized y.cls ∈ BW) (hy : y.cls ≠ "java/lang/invoke/MethodHandle" ∧ y.cls ≠ "java/lang/invoke/VarHandle" ∧ (parseMethodDescriptor y.desc).map (fun d => d.parameters.length) = some na) (hAs : As.length = na) {st0 : List Value} (hst : st0 = As.reverse ++ .ref (b + o) :: S) (hcat : (S.map fun v => v.category).sum ≤ 8) (hdg : decode cc pc = .ok (.invokespecial index, 3)) {kc2 ks2 : Nat} (ec : kc + mc = kc2) (es : ks + ms = ks2) (kk : VC Q E b nL n' st' σ' kc2 ks2 (pc + 3) L S) : VC Q E b nL n st σ kc ks pc L st0 := by
  obtain ⟨p, l, e, R, s, m, args, below, meth, c, cells, slots, dC, dI, cA⟩ := E
  obtain ⟨⟨hx, hb, hml, ho, hts⟩, hK, hR1, hR2, hR3, hR4⟩ := C
  intro H locs ls hP hS hl
  subst ec; subst es
  have hr := va_runIN (l := l) (e := e) (R := R) (below := below) (meth := meth) (locs := locs) (cells := kc) (slots := ks) (mc := mc) (ms := ms) (As := As) (rest := S) (g := F0 m pc ls st0) ⟨hx, hb, hml, ho, hts⟩ hM ⟨va_cnB na hts (BW_good hcode) rfl rfl rfl (hK.1.2 _ hlink) (hts _ hini) hy ⟨by show dc + 1 ≤ R.frames; omega, by show 8 + (maxL + 11) + 60 * dc ≤ R.locals; omega⟩, hnm, hts _ hinst⟩ ⟨fun a U g mk q => ⟨q.1, q.2.1, K2_call q.2.2 g mk a⟩, fun U hU hW => ⟨rfl, by rw [hU]; exact hP, K2_warm hK hW⟩⟩ rfl hAs hl.1 hst (lv_room hcat) hdg ⟨Nat.le_trans h1 hR3, Nat.le_trans h2 hR4⟩
  exact C_back hr hS (fun H1 locs1 hP1 hS1 => kk H1 locs1 ls hP1 hS1 hl)
theorem C_callI (C : CXC E own cc nL d MC MS) {y : MethodName} {cy : ByteArray} {maxL dc na index n' mc ms : Nat} {st' : St} {σ' : Hp} {As : List Value} {o : Nat} (hnm : y.name = "<init>") (hinst : Cond.instanceMethod y ∈ BW) (hlink : Cond.methodLink own index y ∈ BW) (hM : CC E.2.1 E.2.2.2.2.2.2.2.2.2.2.2.2.1 E.2.2.2.2.2.2.2.2.2.2.2.2.2.1 E.2.2.2.2.2.2.2.2.2.2.2.2.2.2 b y cy maxL dc (.ref (b + o) :: As) n st σ n' st' σ' mc ms) (hd : dc + 1 ≤ d) (hmx : maxL ≤ 41) (h1 : kc + mc ≤ MC) (h2 : ks + ms ≤ MS) (hcode : Cond.code y cy maxL none ∈ BW) (hini : Cond.initialized y.cls ∈ BW) (hy : y.cls ≠ "java/lang/invoke/MethodHandle" ∧ y.cls ≠ "java/lang/invoke/VarHandle" ∧ (parseMethodDescriptor y.desc).map (fun d => d.parameters.length) = some na) (hAs : As.length = na) {st0 : List Value} (hst : st0 = As.reverse ++ .ref (b + o) :: S) (hcat : (S.map fun v => v.category).sum ≤ 8) (hdg : decode cc pc = .ok (.invokespecial index, 3)) {kc2 ks2 : Nat} (ec : kc + mc = kc2) (es : ks + ms = ks2) (kk : VC Q E b nL n' st' σ' kc2 ks2 (pc + 3) L S) : VC Q E b nL n st σ kc ks pc L st0 := by
  obtain ⟨p, l, e, R, s, m, args, below, meth, c, cells, slots, dC, dI, cA⟩ := E
  obtain ⟨⟨hx, hb, hml, ho, hts⟩, hK, hR1, hR2, hR3, hR4⟩ := C
  intro H locs ls hP hS hl
  subst ec; subst es
  have hr := va_runI (l := l) (e := e) (R := R) (below := below) (meth := meth) (locs := locs) (cells := kc) (slots := ks) (mc := mc) (ms := ms) (As := As) (rest := S) (g := F0 m pc ls st0) ⟨hx, hb, hml, ho, hts⟩ hM ⟨callB_of na hts (BW_good hcode) rfl rfl rfl (hts _ hini) (hts _ hlink) hy ⟨by show dc + 1 ≤ R.frames; omega, by show 8 + (maxL + 11) + 60 * dc ≤ R.locals; omega⟩, hnm, hts _ hinst⟩ ⟨fun a U g mk q => ⟨q.1, q.2.1, K2_call q.2.2 g mk a⟩, fun U hU hW => ⟨rfl, by rw [hU]; exact hP, K2_warm hK hW⟩⟩ rfl hAs hl.1 hst (lv_room hcat) hdg ⟨Nat.le_trans h1 hR3, Nat.le_trans h2 hR4⟩
  exact C_back hr hS (fun H1 locs1 hP1 hS1 => kk H1 locs1 ls hP1 hS1 hl)
theorem C_callV (C : CXC E own cc nL d MC MS) {y : MethodName} {cy : ByteArray} {maxL dc na index n' mc ms : Nat} {st' : St} {σ' : Hp} {As : List Value} {o ci N : Nat} {T : u_T} {tpl : List (Option Nat)} (hN : o < n) (hlay : lay o = .inr (.inr (ci, tpl))) (hc : vwCl[ci]? = some (y.cls, T, N)) (hinst : Cond.instanceMethod y ∈ BW) (hsel : Cond.selects y.cls y y ∈ BW) (hlink : Cond.methodLink own index y ∈ BW) (hM : CC E.2.1 E.2.2.2.2.2.2.2.2.2.2.2.2.1 E.2.2.2.2.2.2.2.2.2.2.2.2.2.1 E.2.2.2.2.2.2.2.2.2.2.2.2.2.2 b y cy maxL dc (.ref (b + o) :: As) n st σ n' st' σ' mc ms) (hd : dc + 1 ≤ d) (hmx : maxL ≤ 41) (h1 : kc + mc ≤ MC) (h2 : ks + ms ≤ MS) (hcode : Cond.code y cy maxL none ∈ BW) (hini : Cond.initialized y.cls ∈ BW) (hy : y.cls ≠ "java/lang/invoke/MethodHandle" ∧ y.cls ≠ "java/lang/invoke/VarHandle" ∧ (parseMethodDescriptor y.desc).map (fun d => d.parameters.length) = some na) (hAs : As.length = na) {st0 : List Value} (hst : st0 = As.reverse ++ .ref (b + o) :: S) (hcat : (S.map fun v => v.category).sum ≤ 8) (hdg : decode cc pc = .ok (.invokevirtual index, 3)) {kc2 ks2 : Nat} (ec : kc + mc = kc2) (es : ks + ms = ks2) (kk : VC Q E b nL n' st' σ' kc2 ks2 (pc + 3) L S) : VC Q E b nL n st σ kc ks pc L st0 := by
  obtain ⟨p, l, e, R, s, m, args, below, meth, c, cells, slots, dC, dI, cA⟩ := E
  obtain ⟨⟨hx, hb, hml, ho, hts⟩, hK, hR1, hR2, hR3, hR4⟩ := C
  intro H locs ls hP hS hl
  subst ec; subst es
  have hr := va_runV (C := y.cls) (l := l) (e := e) (R := R) (below := below) (meth := meth) (locs := locs) (cells := kc) (slots := ks) (mc := mc) (ms := ms) (As := As) (rest := S) (g := F0 m pc ls st0) ⟨hx, hb, hml, ho, hts⟩ hM ⟨callB_of na hts (BW_good hcode) rfl rfl rfl (hts _ hini) (hts _ hlink) hy ⟨by show dc + 1 ≤ R.frames; omega, by show 8 + (maxL + 11) + 60 * dc ≤ R.locals; omega⟩, hts _ hinst, hts _ hsel⟩ ⟨fun a U g mk q => ⟨q.1, q.2.1, K2_call q.2.2 g mk a⟩, va_recv hK.1.1 hP.2.1 hc (q0 := o) (fs := mkS b (σ o) (st o) 0 tpl) (by rw [wc_get hN, hlay]; rfl), fun U hU hW => ⟨rfl, by rw [hU]; exact hP, K2_warm hK hW⟩⟩ rfl hAs hl.1 hst (lv_room hcat) hdg ⟨Nat.le_trans h1 hR3, Nat.le_trans h2 hR4⟩
  exact C_back hr hS (fun H1 locs1 hP1 hS1 => kk H1 locs1 ls hP1 hS1 hl)
theorem C_callS (C : CXC E own cc nL d MC MS) {y : MethodName} {cy : ByteArray} {maxL dc na index n' mc ms : Nat} {st' : St} {σ' : Hp} {As : List Value} (hstat : Cond.static y ∈ BW) (hlink : Cond.methodLink own index y ∈ BW) (hM : CC E.2.1 E.2.2.2.2.2.2.2.2.2.2.2.2.1 E.2.2.2.2.2.2.2.2.2.2.2.2.2.1 E.2.2.2.2.2.2.2.2.2.2.2.2.2.2 b y cy maxL dc (As) n st σ n' st' σ' mc ms) (hd : dc + 1 ≤ d) (hmx : maxL ≤ 41) (h1 : kc + mc ≤ MC) (h2 : ks + ms ≤ MS) (hcode : Cond.code y cy maxL none ∈ BW) (hini : Cond.initialized y.cls ∈ BW) (hy : y.cls ≠ "java/lang/invoke/MethodHandle" ∧ y.cls ≠ "java/lang/invoke/VarHandle" ∧ (parseMethodDescriptor y.desc).map (fun d => d.parameters.length) = some na) (hAs : As.length = na) {st0 : List Value} (hst : st0 = As.reverse ++ S) (hcat : (S.map fun v => v.category).sum ≤ 8) (hdg : decode cc pc = .ok (.invokestatic index, 3)) {kc2 ks2 : Nat} (ec : kc + mc = kc2) (es : ks + ms = ks2) (kk : VC Q E b nL n' st' σ' kc2 ks2 (pc + 3) L S) : VC Q E b nL n st σ kc ks pc L st0 := by
  obtain ⟨p, l, e, R, s, m, args, below, meth, c, cells, slots, dC, dI, cA⟩ := E
  obtain ⟨⟨hx, hb, hml, ho, hts⟩, hK, hR1, hR2, hR3, hR4⟩ := C
  intro H locs ls hP hS hl
  subst ec; subst es
  have hr := va_runS (l := l) (e := e) (R := R) (below := below) (meth := meth) (locs := locs) (cells := kc) (slots := ks) (mc := mc) (ms := ms) (As := As) (rest := S) (g := F0 m pc ls st0) ⟨hx, hb, hml, ho, hts⟩ hM ⟨callB_of na hts (BW_good hcode) rfl rfl rfl (hts _ hini) (hts _ hlink) hy ⟨by show dc + 1 ≤ R.frames; omega, by show 8 + (maxL + 11) + 60 * dc ≤ R.locals; omega⟩, hts _ hstat⟩ ⟨fun a U g mk q => ⟨q.1, q.2.1, K2_call q.2.2 g mk a⟩, fun U hU hW => ⟨rfl, by rw [hU]; exact hP, K2_warm hK hW⟩⟩ rfl hAs hl.1 hst (lv_room hcat) hdg ⟨Nat.le_trans h1 hR3, Nat.le_trans h2 hR4⟩
  exact C_back hr hS (fun H1 locs1 hP1 hS1 => kk H1 locs1 ls hP1 hS1 hl)
end CR1
