/-! from the constructors' world to that of the methods -/
def okT (st : Nat → Bool) : Nat → List (Option Nat) → Bool
  | _, [] => true
  | i, none :: r => okT st (i + 1) r
  | i, some _ :: r => st i && okT st (i + 1) r
def okS (k : KD) (st : Nat → Bool) : Bool := match k with
  | .inl _ => true
  | .inr (.inl (_, n, _, _)) => (List.range n).all st
  | .inr (.inr (_, tpl)) => okT st 0 tpl
theorem mkS_full (b : Nat) (row : Nat → Int32) (st : Nat → Bool) : ∀ (tpl : List (Option Nat)) (i : Nat), okT st i tpl = true → mkS b row st i tpl = mkF b row i tpl
  | [], _, _ => rfl
  | none :: r, i, h => by simp only [mkS, mkF]; rw [mkS_full b row st r (i + 1) h]
  | some q :: r, i, h => by
    simp only [okT, Bool.and_eq_true] at h
    simp only [mkS, mkF]
    rw [mkS_full b row st r (i + 1) h.2, if_pos h.1]
theorem arrV_congr (c : ClassId) {N : Nat} {f g : Nat → Value} (h : ∀ j, j < N → f j = g j) : arrV c N f = arrV c N g := by
  unfold arrV
  congr 2
  funext j
  exact h j.val j.isLt
theorem HW_of_HC {dC : Nat → ClassId} {dI : Nat → Nat → Nat} {cA : Nat → ClassId} {b : Nat} {st : St} {σ : Hp} {H : Heap} (h : HC dC dI cA b NN st σ H) (hst : ∀ k, k < NN → okS (lay k) (st k) = true) : HW dC dI cA b σ H := by
  intro k q hq
  have hk : k < NN := by
    have := (List.getElem?_eq_some_iff.mp hq).1
    simpa [wl] using this
  rw [wl_get hk] at hq
  cases hq
  have h2 := h.2.1 k _ (wc_get hk)
  have h3 := hst k hk
  revert h2 h3
  cases hl : lay k with
  | inl a => exact fun h2 _ => h2
  | inr a =>
    cases a with
    | inl a =>
      obtain ⟨t, n, a, d⟩ := a
      intro h2 h3
      have h4 : ∀ j, j < n → st k j = true := fun j hj => List.all_eq_true.mp h3 j (List.mem_range.mpr hj)
      show H[b + k]? = some (vp_cell _ _)
      have h5 : H[b + k]? = some (vp_cell _ _) := h2
      rw [h5, vp_cell_q, vp_cell_q]
      congr 1
      exact arrV_congr _ (fun j hj => by rw [h4 j hj]; rfl)
    | inr a =>
      obtain ⟨ci, tpl⟩ := a
      intro h2 h3
      have h4 := mkS_full b (σ k) (st k) tpl 0 h3
      have h5 : va_at (dC, dI) vwCl (b + k, .inr (ci, mkS b (σ k) (st k) 0 tpl)) H := h2
      rw [h4] at h5
      exact h5
def st0 : St := fun _ _ => false
def hp0 : Hp := fun _ _ => 0
def stF : St := sc_X9_init (sc_X8_init st0)
def hpF : Hp := sg_X9_init (sg_X8_init hp0)
theorem stF_ok : ∀ k, k < NN → okS (lay k) (stF k) = true := by decide +kernel
theorem wx_RL_7 : Cond.classLink RL 7 RX8 ∈ BW := tb1 (List.mem_of_getElem? (i := 15) (by decide +kernel)) (by decide +kernel)
theorem wx_RL_10 : Cond.classLink RL 10 RX9 ∈ BW := tb3 (List.mem_of_getElem? (i := 91) (by decide +kernel)) (by decide +kernel)
theorem wq_8 : Cond.instantiable RX8 10 ∈ BW := tb1 (List.mem_of_getElem? (i := 16) (by decide +kernel)) (by decide +kernel)
theorem wq_9 : Cond.instantiable RX9 37 ∈ BW := tb3 (List.mem_of_getElem? (i := 92) (by decide +kernel)) (by decide +kernel)
theorem wl_RL_9 : Cond.methodLink RL 9 yX8_init ∈ BW := tb1 (List.mem_of_getElem? (i := 17) (by decide +kernel)) (by decide +kernel)
theorem wl_RL_12 : Cond.methodLink RL 12 yX9_init ∈ BW := tb3 (List.mem_of_getElem? (i := 93) (by decide +kernel)) (by decide +kernel)
theorem wm_X8_init : Cond.instanceMethod yX8_init ∈ BW := tb1 (List.mem_of_getElem? (i := 18) (by decide +kernel)) (by decide +kernel)
theorem wm_X9_init : Cond.instanceMethod yX9_init ∈ BW := tb3 (List.mem_of_getElem? (i := 94) (by decide +kernel)) (by decide +kernel)
theorem wc_X8_init : Cond.code yX8_init cX8_init 2 none ∈ BW := tb1 (List.mem_of_getElem? (i := 19) (by decide +kernel)) (by decide +kernel)
theorem wc_X9_init : Cond.code yX9_init cX9_init 2 none ∈ BW := tb3 (List.mem_of_getElem? (i := 95) (by decide +kernel)) (by decide +kernel)
theorem df0 {b : Nat} : ∀ j, j < 10 → defaultValue (tyX8 j) = vp_V (mkS b (fun _ => 0) (fun _ => false) 0 [some 1, some 3, some 11, some 13, some 18, some 23, some 24, some 86, some 115, some 119]) j := (by decide +kernel : ∀ j, j < 10 → defaultValue (tyX8 j) = vp_V [.null, .null, .null, .null, .null, .null, .null, .null, .null, .null] j)
theorem df134 {b : Nat} : ∀ j, j < 37 → defaultValue (tyX9 j) = vp_V (mkS b (fun _ => 0) (fun _ => false) 0 [none, some 135, none, none, none, none, none, some 136, some 137, some 138, some 139, some 140, some 141, some 142, none, none, some 143, none, none, none, some 144, some 145, some 146, some 147, some 148, none, some 149, some 150, none, some 151, some 152, some 153, some 154, some 155, some 156, some 157, some 158]) j := (by decide +kernel : ∀ j, j < 37 → defaultValue (tyX9 j) = vp_V [.int 0, .null, .int 0, .int 0, .int 0, .int 0, .int 0, .null, .null, .null, .null, .null, .null, .null, .int 0, .int 0, .null, .int 0, .int 0, .int 0, .null, .null, .null, .null, .null, .int 0, .null, .null, .int 0, .null, .null, .null, .null, .null, .null, .null, .null] j)
theorem ao_R : Cond.arrayOver (.object "SleepByRation$Roll") ∈ lw_tbl := List.mem_append_right _ (List.mem_append_left _ (List.mem_of_getElem? (i := 161) (by decide +kernel)))
theorem ao_S : Cond.arrayOver (.object "SleepByRation$Slot") ∈ lw_tbl := List.mem_append_right _ (List.mem_append_left _ (List.mem_of_getElem? (i := 230) (by decide +kernel)))
theorem arr_known {s : State} {args : Array Value} {ty : FieldType} (h : (Cond.arrayClass ty).before args s = true) : ∃ c : ClassId, ArrOfT s c ty ∧ s.vm.findClass ("[" ++ ty.toString) = some c := by
  obtain ⟨c, k, comp, h1, h2, h3⟩ := Cond.arrayClass_spec h
  exact ⟨c, fun n z => ⟨fun k h => (by cases h), k, h2, comp, h3⟩, h1⟩
theorem arr_knownQ {s : State} {args : Array Value} {C : String} (h : (Cond.arrayOver (.object C)).before args s = true) : ∃ c : ClassId, ArrOfT s c (.object C) ∧ va_RA s c (.object C) := by
  obtain ⟨comp, c, k, h1, -, h3, h4, h5⟩ := Cond.arrayOver_spec h
  exact ⟨c, fun N z => ⟨(fun k h => by cases h), k, h3, comp, h4⟩, k, comp, h3, h4, h1, h5⟩
theorem KK_start {s : State} {sb : Nat} (hts : ∀ w ∈ lw_tbl, w.before #[Value.ref sb] s = true) : ∃ (dC : Nat → ClassId) (dI : Nat → Nat → Nat) (cA : Nat → ClassId), K2 dC dI cA s := by
  have hB : ∀ w ∈ BW, w.before #[Value.ref sb] s = true := fun w hw => hts w (List.mem_filter.mp hw).1
  obtain ⟨c0, i0, hk0⟩ := u_known (C := RX0) (T := TX0) (N := 3) (n := 3) hB inB0 (hB _ wq_0)
  obtain ⟨c1, i1, hk1⟩ := u_known (C := RX1) (T := TX1) (N := 4) (n := 4) hB inB1 (hB _ wq_1)
  obtain ⟨c2, i2, hk2⟩ := u_known (C := RX2) (T := TX2) (N := 4) (n := 4) hB inB2 (hB _ wq_2)
  obtain ⟨c3, i3, hk3⟩ := u_known (C := RX3) (T := TX3) (N := 5) (n := 5) hB inB3 (hB _ wq_3)
  obtain ⟨c4, i4, hk4⟩ := u_known (C := RX4) (T := TX4) (N := 9) (n := 9) hB inB4 (hB _ wq_4)
  obtain ⟨c5, i5, hk5⟩ := u_known (C := RX5) (T := TX5) (N := 7) (n := 7) hB inB5 (hB _ wq_5)
  obtain ⟨c6, i6, hk6⟩ := u_known (C := RX6) (T := TX6) (N := 3) (n := 3) hB inB6 (hB _ wq_6)
  obtain ⟨c7, i7, hk7⟩ := u_known (C := RX7) (T := TX7) (N := 2) (n := 2) hB inB7 (hB _ wq_7)
  obtain ⟨c8, i8, hk8⟩ := u_known (C := RX8) (T := TX8) (N := 10) (n := 10) hB inB8 (hB _ wq_8)
  obtain ⟨c9, i9, hk9⟩ := u_known (C := RX9) (T := TX9) (N := 37) (n := 37) hB inB9 (hB _ wq_9)
  obtain ⟨a0, ha0, hb0⟩ := arr_known (hB _ wy_int)
  obtain ⟨a1, ha1, hb1⟩ := arr_known (hB _ wy_byte)
  obtain ⟨a2, ha2, hb2⟩ := arr_known (hB _ wy_boolean)
  obtain ⟨a3, ha3, hb3⟩ := arr_knownQ (hts _ ao_R)
  obtain ⟨a4, ha4, hb4⟩ := arr_knownQ (hts _ ao_S)
  refine ⟨fun k => [c0, c1, c2, c3, c4, c5, c6, c7, c8, c9].getD k c0, fun k => [i0, i1, i2, i3, i4, i5, i6, i7, i8, i9].getD k i0, fun k => [a0, a1, a2, a3, a4].getD k a0, ⟨⟨fun k q hq => ?_, fun k q hq => ?_⟩, fun w hw => ?_⟩, va_AO.of (hts _ ao_R), va_AO.of (hts _ ao_S)⟩
  · match k, hq with
    | 0, hq => cases hq; exact hk0
    | 1, hq => cases hq; exact hk1
    | 2, hq => cases hq; exact hk2
    | 3, hq => cases hq; exact hk3
    | 4, hq => cases hq; exact hk4
    | 5, hq => cases hq; exact hk5
    | 6, hq => cases hq; exact hk6
    | 7, hq => cases hq; exact hk7
    | 8, hq => cases hq; exact hk8
    | 9, hq => cases hq; exact hk9
    | k + 10, hq => simp [vwCl] at hq
  · match k, hq with
    | 0, hq => cases hq; exact ⟨ha0, hb0⟩
    | 1, hq => cases hq; exact ⟨ha1, hb1⟩
    | 2, hq => cases hq; exact ⟨ha2, hb2⟩
    | 3, hq => cases hq; exact ⟨ha3, hb3⟩
    | 4, hq => cases hq; exact ⟨ha4, hb4⟩
    | k + 5, hq => simp [tyL] at hq
  · have h := List.mem_filter.mp hw
    have h2 := hts w h.1
    have h3 := h.2
    cases w <;> first | (simp [isNest] at h3; done) | exact va_Nw.of rfl h2
theorem VJ_of_VC {E : Ev} {b nL pc : Nat} {L : List (Nat × Value)} {S : List Value} {kc ks : Nat} {st : St} {σ : Hp} {p : Program} {l : Launch} {e : Env} {R : Room} {s : State} {m : MethodId} {args : Array Value} {below : List Frame} {meth : Method} {c : Code} {dC : Nat → ClassId} {dI : Nat → Nat → Nat} {cA : Nat → ClassId} (hE : E = (p, l, e, R, s, m, args, below, meth, c, kc, ks, dC, dI, cA)) {E0 : Ev} (hE0 : E0 = (p, l, e, R, s, m, args, below, meth, c, 0, 0, dC, dI, cA)) {x : Option (Int32 × Hp)} {r : Int32} {σ' : Hp} (hx : x = some (r, σ')) (hst : ∀ k, k < NN → okS (lay k) (st k) = true) {Q : State → Prop} (hQ : QL E (rvI r) σ' = Q) (V : VJ rvI (QL E) E b nL σ pc L S x) : VC Q E0 b nL NN st σ kc ks pc L S := by
  subst hE; subst hE0; subst hQ
  intro H locs ls hP hS hl
  exact V r σ' hx H locs ls (HW_of_HC hP hst) hS hl
set_option maxRecDepth 8000 in
theorem law_start {E E2 : Ev} {b sb SL : Nat} {xs : Nat → Int32} {Q : State → Prop} (C : CXC E RL cL_law 4 30 600000 7302250)
    (V : VC Q E b 4 NN stF hpF 159 1430 18 [(3, .int 0), (2, .ref (b + 134)), (1, .ref (b + 0)), (0, .ref sb)] []) : VC Q E b 4 0 st0 hp0 0 0 0 [(0, .ref sb)] [] := by
  refine C_new (n2 := 1) (kc2 := 1) (ks2 := 10) C ly0 rfl inB8 tyX8 tyX8_ok wx_RL_7 wq_8 wi_RX8 df0 (by decide) (by decide) dL_law_0 rfl rfl rfl ?_
  refine C_dup C dL_law_3 rfl ?_
  refine C_callI (na := 0) (kc2 := 134) (ks2 := 816) C rfl wm_X8_init wl_RL_9 (cc_X8_init _ _ _ _ _ _ _) (by decide) (by decide) (by decide) (by decide) wc_X8_init wi_RX8 (by decide +kernel) rfl rfl (Nat.le_of_ble_eq_true rfl) dL_law_4 rfl rfl ?_
  refine C_astore_n (L' := [(1, .ref (b + 0)), (0, .ref sb)]) C dL_law_7 rfl (by decide) rfl ?_
  refine C_new (n2 := 135) (kc2 := 135) (ks2 := 853) C ly134 rfl inB9 tyX9 tyX9_ok wx_RL_10 wq_9 wi_RX9 df134 (by decide) (by decide) dL_law_8 rfl rfl rfl ?_
  refine C_dup C dL_law_11 rfl ?_
  refine C_callI (na := 0) (kc2 := 159) (ks2 := 1430) C rfl wm_X9_init wl_RL_12 (cc_X9_init _ _ _ _ _ _ _) (by decide) (by decide) (by decide) (by decide) wc_X9_init wi_RX9 (by decide +kernel) rfl rfl (Nat.le_of_ble_eq_true rfl) dL_law_12 rfl rfl ?_
  refine C_astore_n (L' := [(2, .ref (b + 134)), (1, .ref (b + 0)), (0, .ref sb)]) C dL_law_15 rfl (by decide) rfl ?_
  refine C_iconst (v := (0 : Int32)) C dL_law_16 (by decide) ?_
  refine C_istore_n (L' := [(3, .int 0), (2, .ref (b + 134)), (1, .ref (b + 0)), (0, .ref sb)]) C dL_law_17 rfl (by decide) rfl ?_
  exact V
/-- the whole claim out of the pure half -/
theorem whole_of {p : Program} {e : Env} {s : State} {m : MethodId} {below : List Frame} {meth : Method} {c : Code} (l : Launch) {sb SL : Nat} {xs : Nat → Int32} (C0 : lw_At p s m meth c sb SL xs) (hpure : ∃ (n : Nat) (r : Int32) (σ' : Hp), f_L_law_18 SL xs n hpF 0 = some (r, σ')) : W p l e room_1 s m #[Value.ref sb] below meth c s.heap [] 0 0 (lw_Z below #[Value.ref sb] s) (entryFrame m ([Value.ref sb] : List Value).toArray 4) := by
  obtain ⟨hx, hb, hr, hml, hown, hts, hX, hbl, hlocks, hgv⟩ := id C0
  obtain ⟨dC, dI, cA, hK⟩ := KK_start hts
  obtain ⟨n, r, σ', hf⟩ := hpure
  have hB : ∀ w ∈ BW, w.before #[Value.ref sb] s = true := fun w hw => hts w (List.mem_filter.mp hw).1
  have hl := lv_entry ([.ref sb]) (n := 4) (Nat.le_of_ble_eq_true rfl)
  rw [lg_entry_eq]
  have C1 : CXC (p, l, e, room_1, s, m, #[Value.ref sb], below, meth, c, 0, 0, dC, dI, cA) RL cL_law 4 30 600000 7302250 := ⟨⟨hx, hb, hml, hown, hB⟩, hK, by decide, by decide, Nat.le_refl _, Nat.le_refl _⟩
  have C2 : CX (p, l, e, room_1, s, m, #[Value.ref sb], below, meth, c, 159, 1430, dC, dI, cA) RL cL_law 4 30 := ⟨⟨hx, hb, hml, hown, hB⟩, hK.1, by decide, by decide, by decide, by decide⟩
  have LX : LEX (p, l, e, room_1, s, m, #[Value.ref sb], below, meth, c, 159, 1430, dC, dI, cA) s.heap.size sb SL xs := ⟨hX, hbl, rfl, rfl, rfl, by decide, by decide, hr, hlocks⟩
  have V := vj_L_law_18 C2 LX n hpF 0
  have V2 := V_sub (L := [(3, .int 0), (2, .ref (s.heap.size + 134)), (1, .ref (s.heap.size + 0)), (0, .ref sb)]) [3, 2, 1, 0] rfl V
  have V3 := VJ_of_VC (st := stF) rfl rfl hf stF_ok rfl V2
  exact law_start (sb := sb) (SL := SL) (xs := xs) (E2 := (p, l, e, room_1, s, m, #[Value.ref sb], below, meth, c, 0, 0, dC, dI, cA)) C1 V3 s.heap [] _ ⟨rfl, fun k q h => by simp [wc] at h, fun _ _ => rfl, fun _ _ => rfl⟩ va_S.rf hl
