-- ===== end of PART A; then your names; then what follows =====
/-! THE CLAIM OUT OF ONE WALK OF THE LAW'S BODY. Your part is whole_start (and what it stands on); all else here is the same for every law, but numbers. -/
def R_law : String := "SleepByRationLaw"
def lw_P (b : Addr) (xs : List Int32) (args : Array Value) (s : State) : Prop := args = #[.ref b] ∧ s.IntsAt b xs ∧ xs.length ≤ 2048 ∧ (Jvm.Cond.and given_1 narrow_1).before args s = true
def lw_Q (_ : Array Value) (s : State) (o : Outcome) (t : State) : Prop := o = .returned (some (.int 1)) ∧ Framed s o t [] 600000 7302250
def lw_Z (below : List Frame) (a : Array Value) (s : State) : State → Prop := fun t => ∃ o, t.status = .running ∧ Ended t below o ∧ lw_Q a s o t
/-- the law's own end, with 1 on the stack, nothing written that was there before, its room as the claim has it -/
theorem lw_ret {p : Program} {l : Launch} {e : Env} {s : State} {m : MethodId} {below : List Frame} {meth : Method} {c : Code} {b : Nat} (hx : p.tables.exec = Jvm.exec) (hb : c.code = code) (hr : meth.sig.returnType = ret) (hlocks : meth.locks = false) {pc : Nat} {H : Heap} {ls : Array Slot} (hdg : decode code pc = .ok (.ireturn, 1)) : W p l e room_1 s m #[Value.ref b] below meth c H [] 600000 7302250 (lw_Z below #[Value.ref b] s) (F0 m pc ls [.int 1]) := by
  intro T hT X
  obtain ⟨fs, hret, hrun, hended, hW, hframe⟩ := X.leave (v := some (.int 1)) (hlocks := hlocks) (fun h => by rw [hr] at h; cases h)
  have hmeth' : T.vm.method? m = some meth := X.method'
  refine ⟨T.setFrames fs, ?_, .returned (some (.int 1)), hrun, hended, rfl, ⟨_, rfl⟩, hW, hframe⟩
  jvm_step X.here [X.here.top, hx, hb, hdg, hmeth', hr, ret, narrow_b1]
  (try refine ⟨rfl, ?_⟩); (try refine ⟨rfl, ?_⟩)
  first | (intro acts; rw [hret _ acts rfl rfl rfl]) | rw [hret _ _ rfl rfl rfl]
  exact Steps.refl _
/-- what holds at the law's entry: the machine, the code, the tables' words (any of lw_tbl by 'hts w (by decide +kernel)'), the script of L ints xs at the cell b, what the Statement gives of the start (any of its parts by flat_of_before) -/
def lw_At (p : Program) (s : State) (m : MethodId) (meth : Method) (c : Code) (b L : Nat) (xs : Nat → Int32) : Prop :=
  p.tables.exec = Jvm.exec ∧ c.code = code ∧ meth.sig.returnType = ret ∧ c.maxLocals = 4 ∧ s.vm.findClass R_law = some m.cls ∧ (∀ w ∈ lw_tbl, w.before #[Value.ref b] s = true) ∧ va_X b L xs s s.heap ∧ b < s.heap.size ∧ meth.locks = false ∧ (Jvm.Cond.and given_1 narrow_1).before #[Value.ref b] s = true
def QL (E : Ev) (_ : Option Value) (_ : Hp) : State → Prop := match E with
  | (_, _, _, _, s, _, args, below, _, _, _, _, _, _, _) => lw_Z below args s
/-- the law's own: its script, its room -/
def LEX (E : Ev) (b sb SL : Nat) (xs : Nat → Int32) : Prop := match E with
  | (_, _, _, R, s, _, args, _, meth, _, cells, slots, _, _, _) => va_X sb SL xs s s.heap ∧ sb < s.heap.size ∧ s.heap.size = b ∧ R = room_1 ∧ args = #[Value.ref sb] ∧ cells ≤ 600000 ∧ slots ≤ 7302250 ∧ meth.sig.returnType = ret ∧ meth.locks = false
section VL
variable {α : Type} {rv : α → Option Value} {QF : Option Value → Hp → State → Prop} {E : Ev} {b nL : Nat} {σ : Hp} {pc : Nat} {L : List (Nat × Value)} {S : List Value} {X : Option (α × Hp)} {own : String} {cc : ByteArray} {d : Nat} {sb SL : Nat} {xs : Nat → Int32}
theorem V_sld (C : CX E own cc nL d) (LX : LEX E b sb SL xs) {i : Int32} (hdg : decode cc pc = .ok (.iaload, 1)) (kk : VJ rv QF E b nL σ (pc + 1) L (.int (xs (ix i)) :: S) X) : VJ rv QF E b nL σ pc L (.int i :: .ref sb :: S) (ck i SL X) := by
  obtain ⟨p, l, e, R, s, m, args, below, meth, c, cells, slots, dC, dI, cA⟩ := E
  obtain ⟨⟨hx, hb, hml, ho, hts⟩, hK, hR1, hR2, hR3, hR4⟩ := C
  obtain ⟨h1, h2, h3, -⟩ := LX
  intro r σ' hX H locs ls hP hS hl
  obtain ⟨hin, hX⟩ := ck_some hX
  exact va_sld hx hb h1 h2 (by rw [← h3]; exact Nat.not_le.mpr h2) hS hin hdg (kk r σ' hX H locs ls hP hS hl)
theorem V_slen (C : CX E own cc nL d) (LX : LEX E b sb SL xs) (hdg : decode cc pc = .ok (.arraylength, 1)) (kk : VJ rv QF E b nL σ (pc + 1) L (.int (nI SL) :: S) X) : VJ rv QF E b nL σ pc L (.ref sb :: S) X := by
  obtain ⟨p, l, e, R, s, m, args, below, meth, c, cells, slots, dC, dI, cA⟩ := E
  obtain ⟨⟨hx, hb, hml, ho, hts⟩, hK, hR1, hR2, hR3, hR4⟩ := C
  obtain ⟨h1, h2, h3, -⟩ := LX
  intro r σ' hX H locs ls hP hS hl
  exact va_slen hx hb h1 h2 (by rw [← h3]; exact Nat.not_le.mpr h2) hS hdg (kk r σ' hX H locs ls hP hS hl)
theorem V_law1 (C : CX E own code nL d) (LX : LEX E b sb SL xs) (hdg : decode code pc = .ok (.ireturn, 1)) : VJ rvI (QL E) E b nL σ pc L [.int 1] (some ((1 : Int32), σ)) := by
  obtain ⟨p, l, e, R, s, m, args, below, meth, c, cells, slots, dC, dI, cA⟩ := E
  obtain ⟨⟨hx, hb, hml, ho, hts⟩, hK, hR1, hR2, hR3, hR4⟩ := C
  obtain ⟨h1, h2, h3, rfl, rfl, h6, h7, h8, h9⟩ := LX
  intro r σ' hX H locs ls hP hS hl
  refine va_forget (fun q hq => by rw [h3]; exact hS.2.2 q hq) ?_
  refine W.widen (k := 600000) (n := 7302250) h6 h7 ?_
  exact lw_ret hx hb h8 h9 hdg
end VL
theorem wm_X9_sick : Cond.instanceMethod yX9_sick ∈ BW := tb4 (List.mem_of_getElem? (i := 31) (by decide +kernel)) (by decide +kernel)
theorem ws_X9_sick : Cond.selects yX9_sick.cls yX9_sick yX9_sick ∈ BW := tb4 (List.mem_of_getElem? (i := 32) (by decide +kernel)) (by decide +kernel)
theorem wl_RL_47 : Cond.methodLink RL 47 yX9_sick ∈ BW := tb4 (List.mem_of_getElem? (i := 30) (by decide +kernel)) (by decide +kernel)
theorem wc_X9_sick : Cond.code yX9_sick cX9_sick 4 (some .int) ∈ BW := tb4 (List.mem_of_getElem? (i := 33) (by decide +kernel)) (by decide +kernel)
theorem wm_X8_sick : Cond.instanceMethod yX8_sick ∈ BW := tb2 (List.mem_of_getElem? (i := 128) (by decide +kernel)) (by decide +kernel)
theorem ws_X8_sick : Cond.selects yX8_sick.cls yX8_sick yX8_sick ∈ BW := tb2 (List.mem_of_getElem? (i := 129) (by decide +kernel)) (by decide +kernel)
theorem wl_RL_43 : Cond.methodLink RL 43 yX8_sick ∈ BW := tb2 (List.mem_of_getElem? (i := 127) (by decide +kernel)) (by decide +kernel)
theorem wc_X8_sick : Cond.code yX8_sick cX8_sick 4 (some .int) ∈ BW := tb2 (List.mem_of_getElem? (i := 130) (by decide +kernel)) (by decide +kernel)
theorem wm_X9_chance : Cond.instanceMethod yX9_chance ∈ BW := tb4 (List.mem_of_getElem? (i := 124) (by decide +kernel)) (by decide +kernel)
theorem ws_X9_chance : Cond.selects yX9_chance.cls yX9_chance yX9_chance ∈ BW := tb4 (List.mem_of_getElem? (i := 125) (by decide +kernel)) (by decide +kernel)
theorem wl_RL_89 : Cond.methodLink RL 89 yX9_chance ∈ BW := tb4 (List.mem_of_getElem? (i := 123) (by decide +kernel)) (by decide +kernel)
theorem wc_X9_chance : Cond.code yX9_chance cX9_chance 12 (some .long) ∈ BW := tb4 (List.mem_of_getElem? (i := 126) (by decide +kernel)) (by decide +kernel)
theorem wm_X8_chance : Cond.instanceMethod yX8_chance ∈ BW := tb3 (List.mem_of_getElem? (i := 9) (by decide +kernel)) (by decide +kernel)
theorem ws_X8_chance : Cond.selects yX8_chance.cls yX8_chance yX8_chance ∈ BW := tb3 (List.mem_of_getElem? (i := 10) (by decide +kernel)) (by decide +kernel)
theorem wl_RL_85 : Cond.methodLink RL 85 yX8_chance ∈ BW := tb3 (List.mem_of_getElem? (i := 8) (by decide +kernel)) (by decide +kernel)
theorem wc_X8_chance : Cond.code yX8_chance cX8_chance 12 (some .long) ∈ BW := tb3 (List.mem_of_getElem? (i := 11) (by decide +kernel)) (by decide +kernel)
theorem wm_X9_settled : Cond.instanceMethod yX9_settled ∈ BW := tb4 (List.mem_of_getElem? (i := 149) (by decide +kernel)) (by decide +kernel)
theorem ws_X9_settled : Cond.selects yX9_settled.cls yX9_settled yX9_settled ∈ BW := tb4 (List.mem_of_getElem? (i := 150) (by decide +kernel)) (by decide +kernel)
theorem wl_RL_102 : Cond.methodLink RL 102 yX9_settled ∈ BW := tb4 (List.mem_of_getElem? (i := 148) (by decide +kernel)) (by decide +kernel)
theorem wc_X9_settled : Cond.code yX9_settled cX9_settled 7 (some .int) ∈ BW := tb4 (List.mem_of_getElem? (i := 151) (by decide +kernel)) (by decide +kernel)
theorem wm_X8_settled : Cond.instanceMethod yX8_settled ∈ BW := tb3 (List.mem_of_getElem? (i := 32) (by decide +kernel)) (by decide +kernel)
theorem ws_X8_settled : Cond.selects yX8_settled.cls yX8_settled yX8_settled ∈ BW := tb3 (List.mem_of_getElem? (i := 33) (by decide +kernel)) (by decide +kernel)
theorem wl_RL_98 : Cond.methodLink RL 98 yX8_settled ∈ BW := tb3 (List.mem_of_getElem? (i := 31) (by decide +kernel)) (by decide +kernel)
theorem wc_X8_settled : Cond.code yX8_settled cX8_settled 8 (some .int) ∈ BW := tb3 (List.mem_of_getElem? (i := 34) (by decide +kernel)) (by decide +kernel)
theorem wk_RL_13 : Cond.constantLong RL 13 (4294967295 : Int64) ∈ BW := tb4 (List.mem_of_getElem? (i := 189) (by decide +kernel)) (by decide +kernel)
theorem wm_X8_write : Cond.instanceMethod yX8_write ∈ BW := tb2 (List.mem_of_getElem? (i := 41) (by decide +kernel)) (by decide +kernel)
theorem ws_X8_write : Cond.selects yX8_write.cls yX8_write yX8_write ∈ BW := tb2 (List.mem_of_getElem? (i := 42) (by decide +kernel)) (by decide +kernel)
theorem wl_RL_15 : Cond.methodLink RL 15 yX8_write ∈ BW := tb2 (List.mem_of_getElem? (i := 40) (by decide +kernel)) (by decide +kernel)
theorem wc_X8_write : Cond.code yX8_write cX8_write 4 (some .int) ∈ BW := tb2 (List.mem_of_getElem? (i := 43) (by decide +kernel)) (by decide +kernel)
theorem wm_X9_write : Cond.instanceMethod yX9_write ∈ BW := tb3 (List.mem_of_getElem? (i := 211) (by decide +kernel)) (by decide +kernel)
theorem ws_X9_write : Cond.selects yX9_write.cls yX9_write yX9_write ∈ BW := tb3 (List.mem_of_getElem? (i := 212) (by decide +kernel)) (by decide +kernel)
theorem wl_RL_19 : Cond.methodLink RL 19 yX9_write ∈ BW := tb3 (List.mem_of_getElem? (i := 210) (by decide +kernel)) (by decide +kernel)
theorem wc_X9_write : Cond.code yX9_write cX9_write 5 (some .int) ∈ BW := tb3 (List.mem_of_getElem? (i := 213) (by decide +kernel)) (by decide +kernel)
theorem wm_X8_wipe : Cond.instanceMethod yX8_wipe ∈ BW := tb2 (List.mem_of_getElem? (i := 49) (by decide +kernel)) (by decide +kernel)
theorem ws_X8_wipe : Cond.selects yX8_wipe.cls yX8_wipe yX8_wipe ∈ BW := tb2 (List.mem_of_getElem? (i := 50) (by decide +kernel)) (by decide +kernel)
theorem wl_RL_20 : Cond.methodLink RL 20 yX8_wipe ∈ BW := tb2 (List.mem_of_getElem? (i := 48) (by decide +kernel)) (by decide +kernel)
theorem wc_X8_wipe : Cond.code yX8_wipe cX8_wipe 2 (some .int) ∈ BW := tb2 (List.mem_of_getElem? (i := 51) (by decide +kernel)) (by decide +kernel)
theorem wm_X9_wipe : Cond.instanceMethod yX9_wipe ∈ BW := tb3 (List.mem_of_getElem? (i := 219) (by decide +kernel)) (by decide +kernel)
theorem ws_X9_wipe : Cond.selects yX9_wipe.cls yX9_wipe yX9_wipe ∈ BW := tb3 (List.mem_of_getElem? (i := 220) (by decide +kernel)) (by decide +kernel)
theorem wl_RL_24 : Cond.methodLink RL 24 yX9_wipe ∈ BW := tb3 (List.mem_of_getElem? (i := 218) (by decide +kernel)) (by decide +kernel)
theorem wc_X9_wipe : Cond.code yX9_wipe cX9_wipe 2 (some .int) ∈ BW := tb3 (List.mem_of_getElem? (i := 221) (by decide +kernel)) (by decide +kernel)
theorem wm_X8_fault : Cond.instanceMethod yX8_fault ∈ BW := tb2 (List.mem_of_getElem? (i := 53) (by decide +kernel)) (by decide +kernel)
theorem ws_X8_fault : Cond.selects yX8_fault.cls yX8_fault yX8_fault ∈ BW := tb2 (List.mem_of_getElem? (i := 54) (by decide +kernel)) (by decide +kernel)
theorem wl_RL_25 : Cond.methodLink RL 25 yX8_fault ∈ BW := tb2 (List.mem_of_getElem? (i := 52) (by decide +kernel)) (by decide +kernel)
theorem wc_X8_fault : Cond.code yX8_fault cX8_fault 1 (some .int) ∈ BW := tb2 (List.mem_of_getElem? (i := 55) (by decide +kernel)) (by decide +kernel)
theorem wm_X9_fault : Cond.instanceMethod yX9_fault ∈ BW := tb3 (List.mem_of_getElem? (i := 223) (by decide +kernel)) (by decide +kernel)
theorem ws_X9_fault : Cond.selects yX9_fault.cls yX9_fault yX9_fault ∈ BW := tb3 (List.mem_of_getElem? (i := 224) (by decide +kernel)) (by decide +kernel)
theorem wl_RL_28 : Cond.methodLink RL 28 yX9_fault ∈ BW := tb3 (List.mem_of_getElem? (i := 222) (by decide +kernel)) (by decide +kernel)
theorem wc_X9_fault : Cond.code yX9_fault cX9_fault 1 (some .int) ∈ BW := tb3 (List.mem_of_getElem? (i := 225) (by decide +kernel)) (by decide +kernel)
theorem wm_X8_fortress : Cond.instanceMethod yX8_fortress ∈ BW := tb2 (List.mem_of_getElem? (i := 94) (by decide +kernel)) (by decide +kernel)
theorem ws_X8_fortress : Cond.selects yX8_fortress.cls yX8_fortress yX8_fortress ∈ BW := tb2 (List.mem_of_getElem? (i := 95) (by decide +kernel)) (by decide +kernel)
theorem wl_RL_29 : Cond.methodLink RL 29 yX8_fortress ∈ BW := tb2 (List.mem_of_getElem? (i := 93) (by decide +kernel)) (by decide +kernel)
theorem wc_X8_fortress : Cond.code yX8_fortress cX8_fortress 2 (some .int) ∈ BW := tb2 (List.mem_of_getElem? (i := 96) (by decide +kernel)) (by decide +kernel)
theorem wm_X9_fortress : Cond.instanceMethod yX9_fortress ∈ BW := tb4 (List.mem_of_getElem? (i := 15) (by decide +kernel)) (by decide +kernel)
theorem ws_X9_fortress : Cond.selects yX9_fortress.cls yX9_fortress yX9_fortress ∈ BW := tb4 (List.mem_of_getElem? (i := 16) (by decide +kernel)) (by decide +kernel)
theorem wl_RL_32 : Cond.methodLink RL 32 yX9_fortress ∈ BW := tb4 (List.mem_of_getElem? (i := 14) (by decide +kernel)) (by decide +kernel)
theorem wc_X9_fortress : Cond.code yX9_fortress cX9_fortress 3 (some .int) ∈ BW := tb4 (List.mem_of_getElem? (i := 17) (by decide +kernel)) (by decide +kernel)
theorem wm_X8_about : Cond.instanceMethod yX8_about ∈ BW := tb2 (List.mem_of_getElem? (i := 115) (by decide +kernel)) (by decide +kernel)
theorem ws_X8_about : Cond.selects yX8_about.cls yX8_about yX8_about ∈ BW := tb2 (List.mem_of_getElem? (i := 116) (by decide +kernel)) (by decide +kernel)
theorem wl_RL_33 : Cond.methodLink RL 33 yX8_about ∈ BW := tb2 (List.mem_of_getElem? (i := 114) (by decide +kernel)) (by decide +kernel)
theorem wc_X8_about : Cond.code yX8_about cX8_about 2 (some .int) ∈ BW := tb2 (List.mem_of_getElem? (i := 117) (by decide +kernel)) (by decide +kernel)
theorem wm_X9_about : Cond.instanceMethod yX9_about ∈ BW := tb4 (List.mem_of_getElem? (i := 19) (by decide +kernel)) (by decide +kernel)
theorem ws_X9_about : Cond.selects yX9_about.cls yX9_about yX9_about ∈ BW := tb4 (List.mem_of_getElem? (i := 20) (by decide +kernel)) (by decide +kernel)
theorem wl_RL_37 : Cond.methodLink RL 37 yX9_about ∈ BW := tb4 (List.mem_of_getElem? (i := 18) (by decide +kernel)) (by decide +kernel)
theorem wc_X9_about : Cond.code yX9_about cX9_about 6 (some .int) ∈ BW := tb4 (List.mem_of_getElem? (i := 21) (by decide +kernel)) (by decide +kernel)
theorem wm_X8_guard : Cond.instanceMethod yX8_guard ∈ BW := tb2 (List.mem_of_getElem? (i := 123) (by decide +kernel)) (by decide +kernel)
theorem ws_X8_guard : Cond.selects yX8_guard.cls yX8_guard yX8_guard ∈ BW := tb2 (List.mem_of_getElem? (i := 124) (by decide +kernel)) (by decide +kernel)
theorem wl_RL_38 : Cond.methodLink RL 38 yX8_guard ∈ BW := tb2 (List.mem_of_getElem? (i := 122) (by decide +kernel)) (by decide +kernel)
theorem wc_X8_guard : Cond.code yX8_guard cX8_guard 3 (some .int) ∈ BW := tb2 (List.mem_of_getElem? (i := 125) (by decide +kernel)) (by decide +kernel)
theorem wm_X9_guard : Cond.instanceMethod yX9_guard ∈ BW := tb4 (List.mem_of_getElem? (i := 23) (by decide +kernel)) (by decide +kernel)
theorem ws_X9_guard : Cond.selects yX9_guard.cls yX9_guard yX9_guard ∈ BW := tb4 (List.mem_of_getElem? (i := 24) (by decide +kernel)) (by decide +kernel)
theorem wl_RL_42 : Cond.methodLink RL 42 yX9_guard ∈ BW := tb4 (List.mem_of_getElem? (i := 22) (by decide +kernel)) (by decide +kernel)
theorem wc_X9_guard : Cond.code yX9_guard cX9_guard 3 (some .int) ∈ BW := tb4 (List.mem_of_getElem? (i := 25) (by decide +kernel)) (by decide +kernel)
theorem wm_X8_hand : Cond.instanceMethod yX8_hand ∈ BW := tb2 (List.mem_of_getElem? (i := 132) (by decide +kernel)) (by decide +kernel)
theorem ws_X8_hand : Cond.selects yX8_hand.cls yX8_hand yX8_hand ∈ BW := tb2 (List.mem_of_getElem? (i := 133) (by decide +kernel)) (by decide +kernel)
theorem wl_RL_48 : Cond.methodLink RL 48 yX8_hand ∈ BW := tb2 (List.mem_of_getElem? (i := 131) (by decide +kernel)) (by decide +kernel)
theorem wc_X8_hand : Cond.code yX8_hand cX8_hand 4 (some .int) ∈ BW := tb2 (List.mem_of_getElem? (i := 134) (by decide +kernel)) (by decide +kernel)
theorem wm_X9_hand : Cond.instanceMethod yX9_hand ∈ BW := tb4 (List.mem_of_getElem? (i := 35) (by decide +kernel)) (by decide +kernel)
theorem ws_X9_hand : Cond.selects yX9_hand.cls yX9_hand yX9_hand ∈ BW := tb4 (List.mem_of_getElem? (i := 36) (by decide +kernel)) (by decide +kernel)
theorem wl_RL_52 : Cond.methodLink RL 52 yX9_hand ∈ BW := tb4 (List.mem_of_getElem? (i := 34) (by decide +kernel)) (by decide +kernel)
theorem wc_X9_hand : Cond.code yX9_hand cX9_hand 4 (some .int) ∈ BW := tb4 (List.mem_of_getElem? (i := 37) (by decide +kernel)) (by decide +kernel)
theorem wm_X8_pay : Cond.instanceMethod yX8_pay ∈ BW := tb2 (List.mem_of_getElem? (i := 136) (by decide +kernel)) (by decide +kernel)
theorem ws_X8_pay : Cond.selects yX8_pay.cls yX8_pay yX8_pay ∈ BW := tb2 (List.mem_of_getElem? (i := 137) (by decide +kernel)) (by decide +kernel)
theorem wl_RL_53 : Cond.methodLink RL 53 yX8_pay ∈ BW := tb2 (List.mem_of_getElem? (i := 135) (by decide +kernel)) (by decide +kernel)
theorem wc_X8_pay : Cond.code yX8_pay cX8_pay 3 (some .int) ∈ BW := tb2 (List.mem_of_getElem? (i := 138) (by decide +kernel)) (by decide +kernel)
theorem wm_X9_pay : Cond.instanceMethod yX9_pay ∈ BW := tb4 (List.mem_of_getElem? (i := 40) (by decide +kernel)) (by decide +kernel)
theorem ws_X9_pay : Cond.selects yX9_pay.cls yX9_pay yX9_pay ∈ BW := tb4 (List.mem_of_getElem? (i := 41) (by decide +kernel)) (by decide +kernel)
theorem wl_RL_56 : Cond.methodLink RL 56 yX9_pay ∈ BW := tb4 (List.mem_of_getElem? (i := 39) (by decide +kernel)) (by decide +kernel)
theorem wc_X9_pay : Cond.code yX9_pay cX9_pay 3 (some .int) ∈ BW := tb4 (List.mem_of_getElem? (i := 42) (by decide +kernel)) (by decide +kernel)
theorem wm_X8_may : Cond.instanceMethod yX8_may ∈ BW := tb2 (List.mem_of_getElem? (i := 140) (by decide +kernel)) (by decide +kernel)
theorem ws_X8_may : Cond.selects yX8_may.cls yX8_may yX8_may ∈ BW := tb2 (List.mem_of_getElem? (i := 141) (by decide +kernel)) (by decide +kernel)
theorem wl_RL_57 : Cond.methodLink RL 57 yX8_may ∈ BW := tb2 (List.mem_of_getElem? (i := 139) (by decide +kernel)) (by decide +kernel)
theorem wc_X8_may : Cond.code yX8_may cX8_may 2 (some .int) ∈ BW := tb2 (List.mem_of_getElem? (i := 142) (by decide +kernel)) (by decide +kernel)
theorem wm_X9_may : Cond.instanceMethod yX9_may ∈ BW := tb4 (List.mem_of_getElem? (i := 44) (by decide +kernel)) (by decide +kernel)
theorem ws_X9_may : Cond.selects yX9_may.cls yX9_may yX9_may ∈ BW := tb4 (List.mem_of_getElem? (i := 45) (by decide +kernel)) (by decide +kernel)
theorem wl_RL_60 : Cond.methodLink RL 60 yX9_may ∈ BW := tb4 (List.mem_of_getElem? (i := 43) (by decide +kernel)) (by decide +kernel)
theorem wc_X9_may : Cond.code yX9_may cX9_may 2 (some .int) ∈ BW := tb4 (List.mem_of_getElem? (i := 46) (by decide +kernel)) (by decide +kernel)
theorem wm_X8_quarter : Cond.instanceMethod yX8_quarter ∈ BW := tb2 (List.mem_of_getElem? (i := 166) (by decide +kernel)) (by decide +kernel)
theorem ws_X8_quarter : Cond.selects yX8_quarter.cls yX8_quarter yX8_quarter ∈ BW := tb2 (List.mem_of_getElem? (i := 167) (by decide +kernel)) (by decide +kernel)
theorem wl_RL_61 : Cond.methodLink RL 61 yX8_quarter ∈ BW := tb2 (List.mem_of_getElem? (i := 165) (by decide +kernel)) (by decide +kernel)
theorem wc_X8_quarter : Cond.code yX8_quarter cX8_quarter 2 (some .int) ∈ BW := tb2 (List.mem_of_getElem? (i := 168) (by decide +kernel)) (by decide +kernel)
theorem wm_X9_quarter : Cond.instanceMethod yX9_quarter ∈ BW := tb4 (List.mem_of_getElem? (i := 67) (by decide +kernel)) (by decide +kernel)
theorem ws_X9_quarter : Cond.selects yX9_quarter.cls yX9_quarter yX9_quarter ∈ BW := tb4 (List.mem_of_getElem? (i := 68) (by decide +kernel)) (by decide +kernel)
theorem wl_RL_64 : Cond.methodLink RL 64 yX9_quarter ∈ BW := tb4 (List.mem_of_getElem? (i := 66) (by decide +kernel)) (by decide +kernel)
theorem wc_X9_quarter : Cond.code yX9_quarter cX9_quarter 4 (some .int) ∈ BW := tb4 (List.mem_of_getElem? (i := 69) (by decide +kernel)) (by decide +kernel)
theorem wm_X8_drum : Cond.instanceMethod yX8_drum ∈ BW := tb2 (List.mem_of_getElem? (i := 195) (by decide +kernel)) (by decide +kernel)
theorem ws_X8_drum : Cond.selects yX8_drum.cls yX8_drum yX8_drum ∈ BW := tb2 (List.mem_of_getElem? (i := 196) (by decide +kernel)) (by decide +kernel)
theorem wl_RL_65 : Cond.methodLink RL 65 yX8_drum ∈ BW := tb2 (List.mem_of_getElem? (i := 194) (by decide +kernel)) (by decide +kernel)
theorem wc_X8_drum : Cond.code yX8_drum cX8_drum 1 (some .int) ∈ BW := tb2 (List.mem_of_getElem? (i := 197) (by decide +kernel)) (by decide +kernel)
theorem wm_X9_drum : Cond.instanceMethod yX9_drum ∈ BW := tb4 (List.mem_of_getElem? (i := 83) (by decide +kernel)) (by decide +kernel)
theorem ws_X9_drum : Cond.selects yX9_drum.cls yX9_drum yX9_drum ∈ BW := tb4 (List.mem_of_getElem? (i := 84) (by decide +kernel)) (by decide +kernel)
theorem wl_RL_68 : Cond.methodLink RL 68 yX9_drum ∈ BW := tb4 (List.mem_of_getElem? (i := 82) (by decide +kernel)) (by decide +kernel)
theorem wc_X9_drum : Cond.code yX9_drum cX9_drum 3 (some .int) ∈ BW := tb4 (List.mem_of_getElem? (i := 85) (by decide +kernel)) (by decide +kernel)
theorem wm_X8_undo : Cond.instanceMethod yX8_undo ∈ BW := tb2 (List.mem_of_getElem? (i := 203) (by decide +kernel)) (by decide +kernel)
theorem ws_X8_undo : Cond.selects yX8_undo.cls yX8_undo yX8_undo ∈ BW := tb2 (List.mem_of_getElem? (i := 204) (by decide +kernel)) (by decide +kernel)
theorem wl_RL_69 : Cond.methodLink RL 69 yX8_undo ∈ BW := tb2 (List.mem_of_getElem? (i := 202) (by decide +kernel)) (by decide +kernel)
theorem wc_X8_undo : Cond.code yX8_undo cX8_undo 1 (some .int) ∈ BW := tb2 (List.mem_of_getElem? (i := 205) (by decide +kernel)) (by decide +kernel)
theorem wm_X9_undo : Cond.instanceMethod yX9_undo ∈ BW := tb4 (List.mem_of_getElem? (i := 87) (by decide +kernel)) (by decide +kernel)
theorem ws_X9_undo : Cond.selects yX9_undo.cls yX9_undo yX9_undo ∈ BW := tb4 (List.mem_of_getElem? (i := 88) (by decide +kernel)) (by decide +kernel)
theorem wl_RL_72 : Cond.methodLink RL 72 yX9_undo ∈ BW := tb4 (List.mem_of_getElem? (i := 86) (by decide +kernel)) (by decide +kernel)
theorem wc_X9_undo : Cond.code yX9_undo cX9_undo 1 (some .int) ∈ BW := tb4 (List.mem_of_getElem? (i := 89) (by decide +kernel)) (by decide +kernel)
theorem wm_X8_rota : Cond.instanceMethod yX8_rota ∈ BW := tb2 (List.mem_of_getElem? (i := 211) (by decide +kernel)) (by decide +kernel)
theorem ws_X8_rota : Cond.selects yX8_rota.cls yX8_rota yX8_rota ∈ BW := tb2 (List.mem_of_getElem? (i := 212) (by decide +kernel)) (by decide +kernel)
theorem wl_RL_73 : Cond.methodLink RL 73 yX8_rota ∈ BW := tb2 (List.mem_of_getElem? (i := 210) (by decide +kernel)) (by decide +kernel)
theorem wc_X8_rota : Cond.code yX8_rota cX8_rota 3 (some .int) ∈ BW := tb2 (List.mem_of_getElem? (i := 213) (by decide +kernel)) (by decide +kernel)
theorem wm_X9_rota : Cond.instanceMethod yX9_rota ∈ BW := tb4 (List.mem_of_getElem? (i := 95) (by decide +kernel)) (by decide +kernel)
theorem ws_X9_rota : Cond.selects yX9_rota.cls yX9_rota yX9_rota ∈ BW := tb4 (List.mem_of_getElem? (i := 96) (by decide +kernel)) (by decide +kernel)
theorem wl_RL_76 : Cond.methodLink RL 76 yX9_rota ∈ BW := tb4 (List.mem_of_getElem? (i := 94) (by decide +kernel)) (by decide +kernel)
theorem wc_X9_rota : Cond.code yX9_rota cX9_rota 3 (some .int) ∈ BW := tb4 (List.mem_of_getElem? (i := 97) (by decide +kernel)) (by decide +kernel)
theorem wm_X8_rotaAt : Cond.instanceMethod yX8_rotaAt ∈ BW := tb3 (List.mem_of_getElem? (i := 0) (by decide +kernel)) (by decide +kernel)
theorem ws_X8_rotaAt : Cond.selects yX8_rotaAt.cls yX8_rotaAt yX8_rotaAt ∈ BW := tb3 (List.mem_of_getElem? (i := 1) (by decide +kernel)) (by decide +kernel)
theorem wl_RL_77 : Cond.methodLink RL 77 yX8_rotaAt ∈ BW := tb2 (List.mem_of_getElem? (i := 239) (by decide +kernel)) (by decide +kernel)
theorem wc_X8_rotaAt : Cond.code yX8_rotaAt cX8_rotaAt 4 (some .int) ∈ BW := tb3 (List.mem_of_getElem? (i := 2) (by decide +kernel)) (by decide +kernel)
theorem wm_X9_rotaAt : Cond.instanceMethod yX9_rotaAt ∈ BW := tb4 (List.mem_of_getElem? (i := 112) (by decide +kernel)) (by decide +kernel)
theorem ws_X9_rotaAt : Cond.selects yX9_rotaAt.cls yX9_rotaAt yX9_rotaAt ∈ BW := tb4 (List.mem_of_getElem? (i := 113) (by decide +kernel)) (by decide +kernel)
theorem wl_RL_80 : Cond.methodLink RL 80 yX9_rotaAt ∈ BW := tb4 (List.mem_of_getElem? (i := 111) (by decide +kernel)) (by decide +kernel)
theorem wc_X9_rotaAt : Cond.code yX9_rotaAt cX9_rotaAt 4 (some .int) ∈ BW := tb4 (List.mem_of_getElem? (i := 114) (by decide +kernel)) (by decide +kernel)
theorem wm_X8_allNod : Cond.instanceMethod yX8_allNod ∈ BW := tb3 (List.mem_of_getElem? (i := 4) (by decide +kernel)) (by decide +kernel)
theorem ws_X8_allNod : Cond.selects yX8_allNod.cls yX8_allNod yX8_allNod ∈ BW := tb3 (List.mem_of_getElem? (i := 5) (by decide +kernel)) (by decide +kernel)
theorem wl_RL_81 : Cond.methodLink RL 81 yX8_allNod ∈ BW := tb3 (List.mem_of_getElem? (i := 3) (by decide +kernel)) (by decide +kernel)
theorem wc_X8_allNod : Cond.code yX8_allNod cX8_allNod 3 (some .int) ∈ BW := tb3 (List.mem_of_getElem? (i := 6) (by decide +kernel)) (by decide +kernel)
theorem wm_X9_allNod : Cond.instanceMethod yX9_allNod ∈ BW := tb4 (List.mem_of_getElem? (i := 116) (by decide +kernel)) (by decide +kernel)
theorem ws_X9_allNod : Cond.selects yX9_allNod.cls yX9_allNod yX9_allNod ∈ BW := tb4 (List.mem_of_getElem? (i := 117) (by decide +kernel)) (by decide +kernel)
theorem wl_RL_84 : Cond.methodLink RL 84 yX9_allNod ∈ BW := tb4 (List.mem_of_getElem? (i := 115) (by decide +kernel)) (by decide +kernel)
theorem wc_X9_allNod : Cond.code yX9_allNod cX9_allNod 2 (some .int) ∈ BW := tb4 (List.mem_of_getElem? (i := 118) (by decide +kernel)) (by decide +kernel)
theorem wm_X8_plan : Cond.instanceMethod yX8_plan ∈ BW := tb3 (List.mem_of_getElem? (i := 23) (by decide +kernel)) (by decide +kernel)
theorem ws_X8_plan : Cond.selects yX8_plan.cls yX8_plan yX8_plan ∈ BW := tb3 (List.mem_of_getElem? (i := 24) (by decide +kernel)) (by decide +kernel)
theorem wl_RL_90 : Cond.methodLink RL 90 yX8_plan ∈ BW := tb3 (List.mem_of_getElem? (i := 22) (by decide +kernel)) (by decide +kernel)
theorem wc_X8_plan : Cond.code yX8_plan cX8_plan 4 (some .int) ∈ BW := tb3 (List.mem_of_getElem? (i := 25) (by decide +kernel)) (by decide +kernel)
theorem wm_X9_plan : Cond.instanceMethod yX9_plan ∈ BW := tb4 (List.mem_of_getElem? (i := 140) (by decide +kernel)) (by decide +kernel)
theorem ws_X9_plan : Cond.selects yX9_plan.cls yX9_plan yX9_plan ∈ BW := tb4 (List.mem_of_getElem? (i := 141) (by decide +kernel)) (by decide +kernel)
theorem wl_RL_93 : Cond.methodLink RL 93 yX9_plan ∈ BW := tb4 (List.mem_of_getElem? (i := 139) (by decide +kernel)) (by decide +kernel)
theorem wc_X9_plan : Cond.code yX9_plan cX9_plan 4 (some .int) ∈ BW := tb4 (List.mem_of_getElem? (i := 142) (by decide +kernel)) (by decide +kernel)
theorem wm_X8_weakest : Cond.instanceMethod yX8_weakest ∈ BW := tb3 (List.mem_of_getElem? (i := 27) (by decide +kernel)) (by decide +kernel)
theorem ws_X8_weakest : Cond.selects yX8_weakest.cls yX8_weakest yX8_weakest ∈ BW := tb3 (List.mem_of_getElem? (i := 28) (by decide +kernel)) (by decide +kernel)
theorem wl_RL_94 : Cond.methodLink RL 94 yX8_weakest ∈ BW := tb3 (List.mem_of_getElem? (i := 26) (by decide +kernel)) (by decide +kernel)
theorem wc_X8_weakest : Cond.code yX8_weakest cX8_weakest 6 (some .int) ∈ BW := tb3 (List.mem_of_getElem? (i := 29) (by decide +kernel)) (by decide +kernel)
theorem wm_X9_weakest : Cond.instanceMethod yX9_weakest ∈ BW := tb4 (List.mem_of_getElem? (i := 144) (by decide +kernel)) (by decide +kernel)
theorem ws_X9_weakest : Cond.selects yX9_weakest.cls yX9_weakest yX9_weakest ∈ BW := tb4 (List.mem_of_getElem? (i := 145) (by decide +kernel)) (by decide +kernel)
theorem wl_RL_97 : Cond.methodLink RL 97 yX9_weakest ∈ BW := tb4 (List.mem_of_getElem? (i := 143) (by decide +kernel)) (by decide +kernel)
theorem wc_X9_weakest : Cond.code yX9_weakest cX9_weakest 7 (some .int) ∈ BW := tb4 (List.mem_of_getElem? (i := 146) (by decide +kernel)) (by decide +kernel)
theorem wm_X8_use : Cond.instanceMethod yX8_use ∈ BW := tb3 (List.mem_of_getElem? (i := 42) (by decide +kernel)) (by decide +kernel)
theorem ws_X8_use : Cond.selects yX8_use.cls yX8_use yX8_use ∈ BW := tb3 (List.mem_of_getElem? (i := 43) (by decide +kernel)) (by decide +kernel)
theorem wl_RL_103 : Cond.methodLink RL 103 yX8_use ∈ BW := tb3 (List.mem_of_getElem? (i := 41) (by decide +kernel)) (by decide +kernel)
theorem wc_X8_use : Cond.code yX8_use cX8_use 4 (some .int) ∈ BW := tb3 (List.mem_of_getElem? (i := 44) (by decide +kernel)) (by decide +kernel)
theorem wm_X9_use : Cond.instanceMethod yX9_use ∈ BW := tb4 (List.mem_of_getElem? (i := 153) (by decide +kernel)) (by decide +kernel)
theorem ws_X9_use : Cond.selects yX9_use.cls yX9_use yX9_use ∈ BW := tb4 (List.mem_of_getElem? (i := 154) (by decide +kernel)) (by decide +kernel)
theorem wl_RL_106 : Cond.methodLink RL 106 yX9_use ∈ BW := tb4 (List.mem_of_getElem? (i := 152) (by decide +kernel)) (by decide +kernel)
theorem wc_X9_use : Cond.code yX9_use cX9_use 4 (some .int) ∈ BW := tb4 (List.mem_of_getElem? (i := 155) (by decide +kernel)) (by decide +kernel)
theorem wm_X8_burn : Cond.instanceMethod yX8_burn ∈ BW := tb3 (List.mem_of_getElem? (i := 50) (by decide +kernel)) (by decide +kernel)
theorem ws_X8_burn : Cond.selects yX8_burn.cls yX8_burn yX8_burn ∈ BW := tb3 (List.mem_of_getElem? (i := 51) (by decide +kernel)) (by decide +kernel)
theorem wl_RL_107 : Cond.methodLink RL 107 yX8_burn ∈ BW := tb3 (List.mem_of_getElem? (i := 49) (by decide +kernel)) (by decide +kernel)
theorem wc_X8_burn : Cond.code yX8_burn cX8_burn 2 (some .int) ∈ BW := tb3 (List.mem_of_getElem? (i := 52) (by decide +kernel)) (by decide +kernel)
theorem wm_X9_burn : Cond.instanceMethod yX9_burn ∈ BW := tb4 (List.mem_of_getElem? (i := 158) (by decide +kernel)) (by decide +kernel)
theorem ws_X9_burn : Cond.selects yX9_burn.cls yX9_burn yX9_burn ∈ BW := tb4 (List.mem_of_getElem? (i := 159) (by decide +kernel)) (by decide +kernel)
theorem wl_RL_110 : Cond.methodLink RL 110 yX9_burn ∈ BW := tb4 (List.mem_of_getElem? (i := 157) (by decide +kernel)) (by decide +kernel)
theorem wc_X9_burn : Cond.code yX9_burn cX9_burn 2 (some .int) ∈ BW := tb4 (List.mem_of_getElem? (i := 160) (by decide +kernel)) (by decide +kernel)
theorem wm_X8_forged : Cond.instanceMethod yX8_forged ∈ BW := tb3 (List.mem_of_getElem? (i := 54) (by decide +kernel)) (by decide +kernel)
theorem ws_X8_forged : Cond.selects yX8_forged.cls yX8_forged yX8_forged ∈ BW := tb3 (List.mem_of_getElem? (i := 55) (by decide +kernel)) (by decide +kernel)
theorem wl_RL_111 : Cond.methodLink RL 111 yX8_forged ∈ BW := tb3 (List.mem_of_getElem? (i := 53) (by decide +kernel)) (by decide +kernel)
theorem wc_X8_forged : Cond.code yX8_forged cX8_forged 3 (some .int) ∈ BW := tb3 (List.mem_of_getElem? (i := 56) (by decide +kernel)) (by decide +kernel)
theorem wm_X9_forged : Cond.instanceMethod yX9_forged ∈ BW := tb4 (List.mem_of_getElem? (i := 162) (by decide +kernel)) (by decide +kernel)
theorem ws_X9_forged : Cond.selects yX9_forged.cls yX9_forged yX9_forged ∈ BW := tb4 (List.mem_of_getElem? (i := 163) (by decide +kernel)) (by decide +kernel)
theorem wl_RL_114 : Cond.methodLink RL 114 yX9_forged ∈ BW := tb4 (List.mem_of_getElem? (i := 161) (by decide +kernel)) (by decide +kernel)
theorem wc_X9_forged : Cond.code yX9_forged cX9_forged 3 (some .int) ∈ BW := tb4 (List.mem_of_getElem? (i := 164) (by decide +kernel)) (by decide +kernel)
theorem wm_X8_forgedAt : Cond.instanceMethod yX8_forgedAt ∈ BW := tb3 (List.mem_of_getElem? (i := 66) (by decide +kernel)) (by decide +kernel)
theorem ws_X8_forgedAt : Cond.selects yX8_forgedAt.cls yX8_forgedAt yX8_forgedAt ∈ BW := tb3 (List.mem_of_getElem? (i := 67) (by decide +kernel)) (by decide +kernel)
theorem wl_RL_115 : Cond.methodLink RL 115 yX8_forgedAt ∈ BW := tb3 (List.mem_of_getElem? (i := 65) (by decide +kernel)) (by decide +kernel)
theorem wc_X8_forgedAt : Cond.code yX8_forgedAt cX8_forgedAt 4 (some .int) ∈ BW := tb3 (List.mem_of_getElem? (i := 68) (by decide +kernel)) (by decide +kernel)
theorem wm_X9_forgedAt : Cond.instanceMethod yX9_forgedAt ∈ BW := tb4 (List.mem_of_getElem? (i := 174) (by decide +kernel)) (by decide +kernel)
theorem ws_X9_forgedAt : Cond.selects yX9_forgedAt.cls yX9_forgedAt yX9_forgedAt ∈ BW := tb4 (List.mem_of_getElem? (i := 175) (by decide +kernel)) (by decide +kernel)
theorem wl_RL_118 : Cond.methodLink RL 118 yX9_forgedAt ∈ BW := tb4 (List.mem_of_getElem? (i := 173) (by decide +kernel)) (by decide +kernel)
theorem wc_X9_forgedAt : Cond.code yX9_forgedAt cX9_forgedAt 4 (some .int) ∈ BW := tb4 (List.mem_of_getElem? (i := 176) (by decide +kernel)) (by decide +kernel)
theorem wm_X8_forgers : Cond.instanceMethod yX8_forgers ∈ BW := tb3 (List.mem_of_getElem? (i := 70) (by decide +kernel)) (by decide +kernel)
theorem ws_X8_forgers : Cond.selects yX8_forgers.cls yX8_forgers yX8_forgers ∈ BW := tb3 (List.mem_of_getElem? (i := 71) (by decide +kernel)) (by decide +kernel)
theorem wl_RL_119 : Cond.methodLink RL 119 yX8_forgers ∈ BW := tb3 (List.mem_of_getElem? (i := 69) (by decide +kernel)) (by decide +kernel)
theorem wc_X8_forgers : Cond.code yX8_forgers cX8_forgers 3 (some .int) ∈ BW := tb3 (List.mem_of_getElem? (i := 72) (by decide +kernel)) (by decide +kernel)
theorem wm_X9_forgers : Cond.instanceMethod yX9_forgers ∈ BW := tb4 (List.mem_of_getElem? (i := 178) (by decide +kernel)) (by decide +kernel)
theorem ws_X9_forgers : Cond.selects yX9_forgers.cls yX9_forgers yX9_forgers ∈ BW := tb4 (List.mem_of_getElem? (i := 179) (by decide +kernel)) (by decide +kernel)
theorem wl_RL_122 : Cond.methodLink RL 122 yX9_forgers ∈ BW := tb4 (List.mem_of_getElem? (i := 177) (by decide +kernel)) (by decide +kernel)
theorem wc_X9_forgers : Cond.code yX9_forgers cX9_forgers 3 (some .int) ∈ BW := tb4 (List.mem_of_getElem? (i := 180) (by decide +kernel)) (by decide +kernel)
theorem wm_X8_keep : Cond.instanceMethod yX8_keep ∈ BW := tb3 (List.mem_of_getElem? (i := 74) (by decide +kernel)) (by decide +kernel)
theorem ws_X8_keep : Cond.selects yX8_keep.cls yX8_keep yX8_keep ∈ BW := tb3 (List.mem_of_getElem? (i := 75) (by decide +kernel)) (by decide +kernel)
theorem wl_RL_123 : Cond.methodLink RL 123 yX8_keep ∈ BW := tb3 (List.mem_of_getElem? (i := 73) (by decide +kernel)) (by decide +kernel)
theorem wc_X8_keep : Cond.code yX8_keep cX8_keep 2 (some .int) ∈ BW := tb3 (List.mem_of_getElem? (i := 76) (by decide +kernel)) (by decide +kernel)
theorem wm_X9_keep : Cond.instanceMethod yX9_keep ∈ BW := tb4 (List.mem_of_getElem? (i := 182) (by decide +kernel)) (by decide +kernel)
theorem ws_X9_keep : Cond.selects yX9_keep.cls yX9_keep yX9_keep ∈ BW := tb4 (List.mem_of_getElem? (i := 183) (by decide +kernel)) (by decide +kernel)
theorem wl_RL_126 : Cond.methodLink RL 126 yX9_keep ∈ BW := tb4 (List.mem_of_getElem? (i := 181) (by decide +kernel)) (by decide +kernel)
theorem wc_X9_keep : Cond.code yX9_keep cX9_keep 4 (some .int) ∈ BW := tb4 (List.mem_of_getElem? (i := 184) (by decide +kernel)) (by decide +kernel)
theorem wm_X8_again : Cond.instanceMethod yX8_again ∈ BW := tb3 (List.mem_of_getElem? (i := 84) (by decide +kernel)) (by decide +kernel)
theorem ws_X8_again : Cond.selects yX8_again.cls yX8_again yX8_again ∈ BW := tb3 (List.mem_of_getElem? (i := 85) (by decide +kernel)) (by decide +kernel)
theorem wl_RL_127 : Cond.methodLink RL 127 yX8_again ∈ BW := tb3 (List.mem_of_getElem? (i := 83) (by decide +kernel)) (by decide +kernel)
theorem wc_X8_again : Cond.code yX8_again cX8_again 2 (some .int) ∈ BW := tb3 (List.mem_of_getElem? (i := 86) (by decide +kernel)) (by decide +kernel)
theorem wm_X9_again : Cond.instanceMethod yX9_again ∈ BW := tb4 (List.mem_of_getElem? (i := 186) (by decide +kernel)) (by decide +kernel)
theorem ws_X9_again : Cond.selects yX9_again.cls yX9_again yX9_again ∈ BW := tb4 (List.mem_of_getElem? (i := 187) (by decide +kernel)) (by decide +kernel)
theorem wl_RL_130 : Cond.methodLink RL 130 yX9_again ∈ BW := tb4 (List.mem_of_getElem? (i := 185) (by decide +kernel)) (by decide +kernel)
theorem wc_X9_again : Cond.code yX9_again cX9_again 4 (some .int) ∈ BW := tb4 (List.mem_of_getElem? (i := 188) (by decide +kernel)) (by decide +kernel)
theorem cv_RL_47 {α : Type} {rv : α → Option Value} {QF : Option Value → Hp → State → Prop} {E : Ev} {b nL : Nat} {σ : Hp} {pc : Nat} {L : List (Nat × Value)} {S : List Value} {cc : ByteArray} {d dc : Nat} (C : CX E RL cc nL d) {As : List Value} {x : Option (Int32 × Hp)} {k : Int32 → Hp → Option (α × Hp)} {o : Nat} {tpl : List (Option Nat)} (hN : o < NN) (hlay : lay o = .inr (.inr (9, tpl))) (hM : CT E.2.1 E.2.2.2.2.2.2.2.2.2.2.2.2.1 E.2.2.2.2.2.2.2.2.2.2.2.2.2.1 E.2.2.2.2.2.2.2.2.2.2.2.2.2.2 b yX9_sick cX9_sick 4 (some .int) dc (.ref (b + o) :: As) σ rvI x) (hd : dc + 1 ≤ d) (hAs : As.length = 2) {st0 : List Value} (hst : st0 = As.reverse ++ .ref (b + o) :: S) (hcat : (S.map fun v => v.category).sum ≤ 8) (hdg : decode cc pc = .ok (.invokevirtual 47, 3)) (kk : ∀ (r : Int32) (σ1 : Hp), VJ rv QF E b nL σ1 (pc + 3) L (.int r :: S) (k r σ1)) : VJ rv QF E b nL σ pc L st0 (bd x k) := V_callV C hN hlay rfl wm_X9_sick ws_X9_sick wl_RL_47 hM hd (by decide) wc_X9_sick wi_RX9 (by decide +kernel) hAs hst hcat hdg kk
theorem cv_RL_43 {α : Type} {rv : α → Option Value} {QF : Option Value → Hp → State → Prop} {E : Ev} {b nL : Nat} {σ : Hp} {pc : Nat} {L : List (Nat × Value)} {S : List Value} {cc : ByteArray} {d dc : Nat} (C : CX E RL cc nL d) {As : List Value} {x : Option (Int32 × Hp)} {k : Int32 → Hp → Option (α × Hp)} {o : Nat} {tpl : List (Option Nat)} (hN : o < NN) (hlay : lay o = .inr (.inr (8, tpl))) (hM : CT E.2.1 E.2.2.2.2.2.2.2.2.2.2.2.2.1 E.2.2.2.2.2.2.2.2.2.2.2.2.2.1 E.2.2.2.2.2.2.2.2.2.2.2.2.2.2 b yX8_sick cX8_sick 4 (some .int) dc (.ref (b + o) :: As) σ rvI x) (hd : dc + 1 ≤ d) (hAs : As.length = 2) {st0 : List Value} (hst : st0 = As.reverse ++ .ref (b + o) :: S) (hcat : (S.map fun v => v.category).sum ≤ 8) (hdg : decode cc pc = .ok (.invokevirtual 43, 3)) (kk : ∀ (r : Int32) (σ1 : Hp), VJ rv QF E b nL σ1 (pc + 3) L (.int r :: S) (k r σ1)) : VJ rv QF E b nL σ pc L st0 (bd x k) := V_callV C hN hlay rfl wm_X8_sick ws_X8_sick wl_RL_43 hM hd (by decide) wc_X8_sick wi_RX8 (by decide +kernel) hAs hst hcat hdg kk
theorem cv_RL_89 {α : Type} {rv : α → Option Value} {QF : Option Value → Hp → State → Prop} {E : Ev} {b nL : Nat} {σ : Hp} {pc : Nat} {L : List (Nat × Value)} {S : List Value} {cc : ByteArray} {d dc : Nat} (C : CX E RL cc nL d) {As : List Value} {x : Option (Int64 × Hp)} {k : Int64 → Hp → Option (α × Hp)} {o : Nat} {tpl : List (Option Nat)} (hN : o < NN) (hlay : lay o = .inr (.inr (9, tpl))) (hM : CT E.2.1 E.2.2.2.2.2.2.2.2.2.2.2.2.1 E.2.2.2.2.2.2.2.2.2.2.2.2.2.1 E.2.2.2.2.2.2.2.2.2.2.2.2.2.2 b yX9_chance cX9_chance 12 (some .long) dc (.ref (b + o) :: As) σ rvL x) (hd : dc + 1 ≤ d) (hAs : As.length = 3) {st0 : List Value} (hst : st0 = As.reverse ++ .ref (b + o) :: S) (hcat : (S.map fun v => v.category).sum ≤ 8) (hdg : decode cc pc = .ok (.invokevirtual 89, 3)) (kk : ∀ (r : Int64) (σ1 : Hp), VJ rv QF E b nL σ1 (pc + 3) L (.long r :: S) (k r σ1)) : VJ rv QF E b nL σ pc L st0 (bd x k) := V_callV C hN hlay rfl wm_X9_chance ws_X9_chance wl_RL_89 hM hd (by decide) wc_X9_chance wi_RX9 (by decide +kernel) hAs hst hcat hdg kk
theorem cv_RL_85 {α : Type} {rv : α → Option Value} {QF : Option Value → Hp → State → Prop} {E : Ev} {b nL : Nat} {σ : Hp} {pc : Nat} {L : List (Nat × Value)} {S : List Value} {cc : ByteArray} {d dc : Nat} (C : CX E RL cc nL d) {As : List Value} {x : Option (Int64 × Hp)} {k : Int64 → Hp → Option (α × Hp)} {o : Nat} {tpl : List (Option Nat)} (hN : o < NN) (hlay : lay o = .inr (.inr (8, tpl))) (hM : CT E.2.1 E.2.2.2.2.2.2.2.2.2.2.2.2.1 E.2.2.2.2.2.2.2.2.2.2.2.2.2.1 E.2.2.2.2.2.2.2.2.2.2.2.2.2.2 b yX8_chance cX8_chance 12 (some .long) dc (.ref (b + o) :: As) σ rvL x) (hd : dc + 1 ≤ d) (hAs : As.length = 3) {st0 : List Value} (hst : st0 = As.reverse ++ .ref (b + o) :: S) (hcat : (S.map fun v => v.category).sum ≤ 8) (hdg : decode cc pc = .ok (.invokevirtual 85, 3)) (kk : ∀ (r : Int64) (σ1 : Hp), VJ rv QF E b nL σ1 (pc + 3) L (.long r :: S) (k r σ1)) : VJ rv QF E b nL σ pc L st0 (bd x k) := V_callV C hN hlay rfl wm_X8_chance ws_X8_chance wl_RL_85 hM hd (by decide) wc_X8_chance wi_RX8 (by decide +kernel) hAs hst hcat hdg kk
theorem cv_RL_102 {α : Type} {rv : α → Option Value} {QF : Option Value → Hp → State → Prop} {E : Ev} {b nL : Nat} {σ : Hp} {pc : Nat} {L : List (Nat × Value)} {S : List Value} {cc : ByteArray} {d dc : Nat} (C : CX E RL cc nL d) {As : List Value} {x : Option (Int32 × Hp)} {k : Int32 → Hp → Option (α × Hp)} {o : Nat} {tpl : List (Option Nat)} (hN : o < NN) (hlay : lay o = .inr (.inr (9, tpl))) (hM : CT E.2.1 E.2.2.2.2.2.2.2.2.2.2.2.2.1 E.2.2.2.2.2.2.2.2.2.2.2.2.2.1 E.2.2.2.2.2.2.2.2.2.2.2.2.2.2 b yX9_settled cX9_settled 7 (some .int) dc (.ref (b + o) :: As) σ rvI x) (hd : dc + 1 ≤ d) (hAs : As.length = 1) {st0 : List Value} (hst : st0 = As.reverse ++ .ref (b + o) :: S) (hcat : (S.map fun v => v.category).sum ≤ 8) (hdg : decode cc pc = .ok (.invokevirtual 102, 3)) (kk : ∀ (r : Int32) (σ1 : Hp), VJ rv QF E b nL σ1 (pc + 3) L (.int r :: S) (k r σ1)) : VJ rv QF E b nL σ pc L st0 (bd x k) := V_callV C hN hlay rfl wm_X9_settled ws_X9_settled wl_RL_102 hM hd (by decide) wc_X9_settled wi_RX9 (by decide +kernel) hAs hst hcat hdg kk
theorem cv_RL_98 {α : Type} {rv : α → Option Value} {QF : Option Value → Hp → State → Prop} {E : Ev} {b nL : Nat} {σ : Hp} {pc : Nat} {L : List (Nat × Value)} {S : List Value} {cc : ByteArray} {d dc : Nat} (C : CX E RL cc nL d) {As : List Value} {x : Option (Int32 × Hp)} {k : Int32 → Hp → Option (α × Hp)} {o : Nat} {tpl : List (Option Nat)} (hN : o < NN) (hlay : lay o = .inr (.inr (8, tpl))) (hM : CT E.2.1 E.2.2.2.2.2.2.2.2.2.2.2.2.1 E.2.2.2.2.2.2.2.2.2.2.2.2.2.1 E.2.2.2.2.2.2.2.2.2.2.2.2.2.2 b yX8_settled cX8_settled 8 (some .int) dc (.ref (b + o) :: As) σ rvI x) (hd : dc + 1 ≤ d) (hAs : As.length = 1) {st0 : List Value} (hst : st0 = As.reverse ++ .ref (b + o) :: S) (hcat : (S.map fun v => v.category).sum ≤ 8) (hdg : decode cc pc = .ok (.invokevirtual 98, 3)) (kk : ∀ (r : Int32) (σ1 : Hp), VJ rv QF E b nL σ1 (pc + 3) L (.int r :: S) (k r σ1)) : VJ rv QF E b nL σ pc L st0 (bd x k) := V_callV C hN hlay rfl wm_X8_settled ws_X8_settled wl_RL_98 hM hd (by decide) wc_X8_settled wi_RX8 (by decide +kernel) hAs hst hcat hdg kk
theorem cv_RL_15 {α : Type} {rv : α → Option Value} {QF : Option Value → Hp → State → Prop} {E : Ev} {b nL : Nat} {σ : Hp} {pc : Nat} {L : List (Nat × Value)} {S : List Value} {cc : ByteArray} {d dc : Nat} (C : CX E RL cc nL d) {As : List Value} {x : Option (Int32 × Hp)} {k : Int32 → Hp → Option (α × Hp)} {o : Nat} {tpl : List (Option Nat)} (hN : o < NN) (hlay : lay o = .inr (.inr (8, tpl))) (hM : CT E.2.1 E.2.2.2.2.2.2.2.2.2.2.2.2.1 E.2.2.2.2.2.2.2.2.2.2.2.2.2.1 E.2.2.2.2.2.2.2.2.2.2.2.2.2.2 b yX8_write cX8_write 4 (some .int) dc (.ref (b + o) :: As) σ rvI x) (hd : dc + 1 ≤ d) (hAs : As.length = 2) {st0 : List Value} (hst : st0 = As.reverse ++ .ref (b + o) :: S) (hcat : (S.map fun v => v.category).sum ≤ 8) (hdg : decode cc pc = .ok (.invokevirtual 15, 3)) (kk : ∀ (r : Int32) (σ1 : Hp), VJ rv QF E b nL σ1 (pc + 3) L (.int r :: S) (k r σ1)) : VJ rv QF E b nL σ pc L st0 (bd x k) := V_callV C hN hlay rfl wm_X8_write ws_X8_write wl_RL_15 hM hd (by decide) wc_X8_write wi_RX8 (by decide +kernel) hAs hst hcat hdg kk
theorem cv_RL_19 {α : Type} {rv : α → Option Value} {QF : Option Value → Hp → State → Prop} {E : Ev} {b nL : Nat} {σ : Hp} {pc : Nat} {L : List (Nat × Value)} {S : List Value} {cc : ByteArray} {d dc : Nat} (C : CX E RL cc nL d) {As : List Value} {x : Option (Int32 × Hp)} {k : Int32 → Hp → Option (α × Hp)} {o : Nat} {tpl : List (Option Nat)} (hN : o < NN) (hlay : lay o = .inr (.inr (9, tpl))) (hM : CT E.2.1 E.2.2.2.2.2.2.2.2.2.2.2.2.1 E.2.2.2.2.2.2.2.2.2.2.2.2.2.1 E.2.2.2.2.2.2.2.2.2.2.2.2.2.2 b yX9_write cX9_write 5 (some .int) dc (.ref (b + o) :: As) σ rvI x) (hd : dc + 1 ≤ d) (hAs : As.length = 2) {st0 : List Value} (hst : st0 = As.reverse ++ .ref (b + o) :: S) (hcat : (S.map fun v => v.category).sum ≤ 8) (hdg : decode cc pc = .ok (.invokevirtual 19, 3)) (kk : ∀ (r : Int32) (σ1 : Hp), VJ rv QF E b nL σ1 (pc + 3) L (.int r :: S) (k r σ1)) : VJ rv QF E b nL σ pc L st0 (bd x k) := V_callV C hN hlay rfl wm_X9_write ws_X9_write wl_RL_19 hM hd (by decide) wc_X9_write wi_RX9 (by decide +kernel) hAs hst hcat hdg kk
theorem cv_RL_20 {α : Type} {rv : α → Option Value} {QF : Option Value → Hp → State → Prop} {E : Ev} {b nL : Nat} {σ : Hp} {pc : Nat} {L : List (Nat × Value)} {S : List Value} {cc : ByteArray} {d dc : Nat} (C : CX E RL cc nL d) {As : List Value} {x : Option (Int32 × Hp)} {k : Int32 → Hp → Option (α × Hp)} {o : Nat} {tpl : List (Option Nat)} (hN : o < NN) (hlay : lay o = .inr (.inr (8, tpl))) (hM : CT E.2.1 E.2.2.2.2.2.2.2.2.2.2.2.2.1 E.2.2.2.2.2.2.2.2.2.2.2.2.2.1 E.2.2.2.2.2.2.2.2.2.2.2.2.2.2 b yX8_wipe cX8_wipe 2 (some .int) dc (.ref (b + o) :: As) σ rvI x) (hd : dc + 1 ≤ d) (hAs : As.length = 0) {st0 : List Value} (hst : st0 = As.reverse ++ .ref (b + o) :: S) (hcat : (S.map fun v => v.category).sum ≤ 8) (hdg : decode cc pc = .ok (.invokevirtual 20, 3)) (kk : ∀ (r : Int32) (σ1 : Hp), VJ rv QF E b nL σ1 (pc + 3) L (.int r :: S) (k r σ1)) : VJ rv QF E b nL σ pc L st0 (bd x k) := V_callV C hN hlay rfl wm_X8_wipe ws_X8_wipe wl_RL_20 hM hd (by decide) wc_X8_wipe wi_RX8 (by decide +kernel) hAs hst hcat hdg kk
theorem cv_RL_24 {α : Type} {rv : α → Option Value} {QF : Option Value → Hp → State → Prop} {E : Ev} {b nL : Nat} {σ : Hp} {pc : Nat} {L : List (Nat × Value)} {S : List Value} {cc : ByteArray} {d dc : Nat} (C : CX E RL cc nL d) {As : List Value} {x : Option (Int32 × Hp)} {k : Int32 → Hp → Option (α × Hp)} {o : Nat} {tpl : List (Option Nat)} (hN : o < NN) (hlay : lay o = .inr (.inr (9, tpl))) (hM : CT E.2.1 E.2.2.2.2.2.2.2.2.2.2.2.2.1 E.2.2.2.2.2.2.2.2.2.2.2.2.2.1 E.2.2.2.2.2.2.2.2.2.2.2.2.2.2 b yX9_wipe cX9_wipe 2 (some .int) dc (.ref (b + o) :: As) σ rvI x) (hd : dc + 1 ≤ d) (hAs : As.length = 0) {st0 : List Value} (hst : st0 = As.reverse ++ .ref (b + o) :: S) (hcat : (S.map fun v => v.category).sum ≤ 8) (hdg : decode cc pc = .ok (.invokevirtual 24, 3)) (kk : ∀ (r : Int32) (σ1 : Hp), VJ rv QF E b nL σ1 (pc + 3) L (.int r :: S) (k r σ1)) : VJ rv QF E b nL σ pc L st0 (bd x k) := V_callV C hN hlay rfl wm_X9_wipe ws_X9_wipe wl_RL_24 hM hd (by decide) wc_X9_wipe wi_RX9 (by decide +kernel) hAs hst hcat hdg kk
theorem cv_RL_25 {α : Type} {rv : α → Option Value} {QF : Option Value → Hp → State → Prop} {E : Ev} {b nL : Nat} {σ : Hp} {pc : Nat} {L : List (Nat × Value)} {S : List Value} {cc : ByteArray} {d dc : Nat} (C : CX E RL cc nL d) {As : List Value} {x : Option (Int32 × Hp)} {k : Int32 → Hp → Option (α × Hp)} {o : Nat} {tpl : List (Option Nat)} (hN : o < NN) (hlay : lay o = .inr (.inr (8, tpl))) (hM : CT E.2.1 E.2.2.2.2.2.2.2.2.2.2.2.2.1 E.2.2.2.2.2.2.2.2.2.2.2.2.2.1 E.2.2.2.2.2.2.2.2.2.2.2.2.2.2 b yX8_fault cX8_fault 1 (some .int) dc (.ref (b + o) :: As) σ rvI x) (hd : dc + 1 ≤ d) (hAs : As.length = 0) {st0 : List Value} (hst : st0 = As.reverse ++ .ref (b + o) :: S) (hcat : (S.map fun v => v.category).sum ≤ 8) (hdg : decode cc pc = .ok (.invokevirtual 25, 3)) (kk : ∀ (r : Int32) (σ1 : Hp), VJ rv QF E b nL σ1 (pc + 3) L (.int r :: S) (k r σ1)) : VJ rv QF E b nL σ pc L st0 (bd x k) := V_callV C hN hlay rfl wm_X8_fault ws_X8_fault wl_RL_25 hM hd (by decide) wc_X8_fault wi_RX8 (by decide +kernel) hAs hst hcat hdg kk
theorem cv_RL_28 {α : Type} {rv : α → Option Value} {QF : Option Value → Hp → State → Prop} {E : Ev} {b nL : Nat} {σ : Hp} {pc : Nat} {L : List (Nat × Value)} {S : List Value} {cc : ByteArray} {d dc : Nat} (C : CX E RL cc nL d) {As : List Value} {x : Option (Int32 × Hp)} {k : Int32 → Hp → Option (α × Hp)} {o : Nat} {tpl : List (Option Nat)} (hN : o < NN) (hlay : lay o = .inr (.inr (9, tpl))) (hM : CT E.2.1 E.2.2.2.2.2.2.2.2.2.2.2.2.1 E.2.2.2.2.2.2.2.2.2.2.2.2.2.1 E.2.2.2.2.2.2.2.2.2.2.2.2.2.2 b yX9_fault cX9_fault 1 (some .int) dc (.ref (b + o) :: As) σ rvI x) (hd : dc + 1 ≤ d) (hAs : As.length = 0) {st0 : List Value} (hst : st0 = As.reverse ++ .ref (b + o) :: S) (hcat : (S.map fun v => v.category).sum ≤ 8) (hdg : decode cc pc = .ok (.invokevirtual 28, 3)) (kk : ∀ (r : Int32) (σ1 : Hp), VJ rv QF E b nL σ1 (pc + 3) L (.int r :: S) (k r σ1)) : VJ rv QF E b nL σ pc L st0 (bd x k) := V_callV C hN hlay rfl wm_X9_fault ws_X9_fault wl_RL_28 hM hd (by decide) wc_X9_fault wi_RX9 (by decide +kernel) hAs hst hcat hdg kk
theorem cv_RL_29 {α : Type} {rv : α → Option Value} {QF : Option Value → Hp → State → Prop} {E : Ev} {b nL : Nat} {σ : Hp} {pc : Nat} {L : List (Nat × Value)} {S : List Value} {cc : ByteArray} {d dc : Nat} (C : CX E RL cc nL d) {As : List Value} {x : Option (Int32 × Hp)} {k : Int32 → Hp → Option (α × Hp)} {o : Nat} {tpl : List (Option Nat)} (hN : o < NN) (hlay : lay o = .inr (.inr (8, tpl))) (hM : CT E.2.1 E.2.2.2.2.2.2.2.2.2.2.2.2.1 E.2.2.2.2.2.2.2.2.2.2.2.2.2.1 E.2.2.2.2.2.2.2.2.2.2.2.2.2.2 b yX8_fortress cX8_fortress 2 (some .int) dc (.ref (b + o) :: As) σ rvI x) (hd : dc + 1 ≤ d) (hAs : As.length = 0) {st0 : List Value} (hst : st0 = As.reverse ++ .ref (b + o) :: S) (hcat : (S.map fun v => v.category).sum ≤ 8) (hdg : decode cc pc = .ok (.invokevirtual 29, 3)) (kk : ∀ (r : Int32) (σ1 : Hp), VJ rv QF E b nL σ1 (pc + 3) L (.int r :: S) (k r σ1)) : VJ rv QF E b nL σ pc L st0 (bd x k) := V_callV C hN hlay rfl wm_X8_fortress ws_X8_fortress wl_RL_29 hM hd (by decide) wc_X8_fortress wi_RX8 (by decide +kernel) hAs hst hcat hdg kk
theorem cv_RL_32 {α : Type} {rv : α → Option Value} {QF : Option Value → Hp → State → Prop} {E : Ev} {b nL : Nat} {σ : Hp} {pc : Nat} {L : List (Nat × Value)} {S : List Value} {cc : ByteArray} {d dc : Nat} (C : CX E RL cc nL d) {As : List Value} {x : Option (Int32 × Hp)} {k : Int32 → Hp → Option (α × Hp)} {o : Nat} {tpl : List (Option Nat)} (hN : o < NN) (hlay : lay o = .inr (.inr (9, tpl))) (hM : CT E.2.1 E.2.2.2.2.2.2.2.2.2.2.2.2.1 E.2.2.2.2.2.2.2.2.2.2.2.2.2.1 E.2.2.2.2.2.2.2.2.2.2.2.2.2.2 b yX9_fortress cX9_fortress 3 (some .int) dc (.ref (b + o) :: As) σ rvI x) (hd : dc + 1 ≤ d) (hAs : As.length = 0) {st0 : List Value} (hst : st0 = As.reverse ++ .ref (b + o) :: S) (hcat : (S.map fun v => v.category).sum ≤ 8) (hdg : decode cc pc = .ok (.invokevirtual 32, 3)) (kk : ∀ (r : Int32) (σ1 : Hp), VJ rv QF E b nL σ1 (pc + 3) L (.int r :: S) (k r σ1)) : VJ rv QF E b nL σ pc L st0 (bd x k) := V_callV C hN hlay rfl wm_X9_fortress ws_X9_fortress wl_RL_32 hM hd (by decide) wc_X9_fortress wi_RX9 (by decide +kernel) hAs hst hcat hdg kk
theorem cv_RL_33 {α : Type} {rv : α → Option Value} {QF : Option Value → Hp → State → Prop} {E : Ev} {b nL : Nat} {σ : Hp} {pc : Nat} {L : List (Nat × Value)} {S : List Value} {cc : ByteArray} {d dc : Nat} (C : CX E RL cc nL d) {As : List Value} {x : Option (Int32 × Hp)} {k : Int32 → Hp → Option (α × Hp)} {o : Nat} {tpl : List (Option Nat)} (hN : o < NN) (hlay : lay o = .inr (.inr (8, tpl))) (hM : CT E.2.1 E.2.2.2.2.2.2.2.2.2.2.2.2.1 E.2.2.2.2.2.2.2.2.2.2.2.2.2.1 E.2.2.2.2.2.2.2.2.2.2.2.2.2.2 b yX8_about cX8_about 2 (some .int) dc (.ref (b + o) :: As) σ rvI x) (hd : dc + 1 ≤ d) (hAs : As.length = 1) {st0 : List Value} (hst : st0 = As.reverse ++ .ref (b + o) :: S) (hcat : (S.map fun v => v.category).sum ≤ 8) (hdg : decode cc pc = .ok (.invokevirtual 33, 3)) (kk : ∀ (r : Int32) (σ1 : Hp), VJ rv QF E b nL σ1 (pc + 3) L (.int r :: S) (k r σ1)) : VJ rv QF E b nL σ pc L st0 (bd x k) := V_callV C hN hlay rfl wm_X8_about ws_X8_about wl_RL_33 hM hd (by decide) wc_X8_about wi_RX8 (by decide +kernel) hAs hst hcat hdg kk
theorem cv_RL_37 {α : Type} {rv : α → Option Value} {QF : Option Value → Hp → State → Prop} {E : Ev} {b nL : Nat} {σ : Hp} {pc : Nat} {L : List (Nat × Value)} {S : List Value} {cc : ByteArray} {d dc : Nat} (C : CX E RL cc nL d) {As : List Value} {x : Option (Int32 × Hp)} {k : Int32 → Hp → Option (α × Hp)} {o : Nat} {tpl : List (Option Nat)} (hN : o < NN) (hlay : lay o = .inr (.inr (9, tpl))) (hM : CT E.2.1 E.2.2.2.2.2.2.2.2.2.2.2.2.1 E.2.2.2.2.2.2.2.2.2.2.2.2.2.1 E.2.2.2.2.2.2.2.2.2.2.2.2.2.2 b yX9_about cX9_about 6 (some .int) dc (.ref (b + o) :: As) σ rvI x) (hd : dc + 1 ≤ d) (hAs : As.length = 1) {st0 : List Value} (hst : st0 = As.reverse ++ .ref (b + o) :: S) (hcat : (S.map fun v => v.category).sum ≤ 8) (hdg : decode cc pc = .ok (.invokevirtual 37, 3)) (kk : ∀ (r : Int32) (σ1 : Hp), VJ rv QF E b nL σ1 (pc + 3) L (.int r :: S) (k r σ1)) : VJ rv QF E b nL σ pc L st0 (bd x k) := V_callV C hN hlay rfl wm_X9_about ws_X9_about wl_RL_37 hM hd (by decide) wc_X9_about wi_RX9 (by decide +kernel) hAs hst hcat hdg kk
theorem cv_RL_38 {α : Type} {rv : α → Option Value} {QF : Option Value → Hp → State → Prop} {E : Ev} {b nL : Nat} {σ : Hp} {pc : Nat} {L : List (Nat × Value)} {S : List Value} {cc : ByteArray} {d dc : Nat} (C : CX E RL cc nL d) {As : List Value} {x : Option (Int32 × Hp)} {k : Int32 → Hp → Option (α × Hp)} {o : Nat} {tpl : List (Option Nat)} (hN : o < NN) (hlay : lay o = .inr (.inr (8, tpl))) (hM : CT E.2.1 E.2.2.2.2.2.2.2.2.2.2.2.2.1 E.2.2.2.2.2.2.2.2.2.2.2.2.2.1 E.2.2.2.2.2.2.2.2.2.2.2.2.2.2 b yX8_guard cX8_guard 3 (some .int) dc (.ref (b + o) :: As) σ rvI x) (hd : dc + 1 ≤ d) (hAs : As.length = 2) {st0 : List Value} (hst : st0 = As.reverse ++ .ref (b + o) :: S) (hcat : (S.map fun v => v.category).sum ≤ 8) (hdg : decode cc pc = .ok (.invokevirtual 38, 3)) (kk : ∀ (r : Int32) (σ1 : Hp), VJ rv QF E b nL σ1 (pc + 3) L (.int r :: S) (k r σ1)) : VJ rv QF E b nL σ pc L st0 (bd x k) := V_callV C hN hlay rfl wm_X8_guard ws_X8_guard wl_RL_38 hM hd (by decide) wc_X8_guard wi_RX8 (by decide +kernel) hAs hst hcat hdg kk
theorem cv_RL_42 {α : Type} {rv : α → Option Value} {QF : Option Value → Hp → State → Prop} {E : Ev} {b nL : Nat} {σ : Hp} {pc : Nat} {L : List (Nat × Value)} {S : List Value} {cc : ByteArray} {d dc : Nat} (C : CX E RL cc nL d) {As : List Value} {x : Option (Int32 × Hp)} {k : Int32 → Hp → Option (α × Hp)} {o : Nat} {tpl : List (Option Nat)} (hN : o < NN) (hlay : lay o = .inr (.inr (9, tpl))) (hM : CT E.2.1 E.2.2.2.2.2.2.2.2.2.2.2.2.1 E.2.2.2.2.2.2.2.2.2.2.2.2.2.1 E.2.2.2.2.2.2.2.2.2.2.2.2.2.2 b yX9_guard cX9_guard 3 (some .int) dc (.ref (b + o) :: As) σ rvI x) (hd : dc + 1 ≤ d) (hAs : As.length = 2) {st0 : List Value} (hst : st0 = As.reverse ++ .ref (b + o) :: S) (hcat : (S.map fun v => v.category).sum ≤ 8) (hdg : decode cc pc = .ok (.invokevirtual 42, 3)) (kk : ∀ (r : Int32) (σ1 : Hp), VJ rv QF E b nL σ1 (pc + 3) L (.int r :: S) (k r σ1)) : VJ rv QF E b nL σ pc L st0 (bd x k) := V_callV C hN hlay rfl wm_X9_guard ws_X9_guard wl_RL_42 hM hd (by decide) wc_X9_guard wi_RX9 (by decide +kernel) hAs hst hcat hdg kk
theorem cv_RL_48 {α : Type} {rv : α → Option Value} {QF : Option Value → Hp → State → Prop} {E : Ev} {b nL : Nat} {σ : Hp} {pc : Nat} {L : List (Nat × Value)} {S : List Value} {cc : ByteArray} {d dc : Nat} (C : CX E RL cc nL d) {As : List Value} {x : Option (Int32 × Hp)} {k : Int32 → Hp → Option (α × Hp)} {o : Nat} {tpl : List (Option Nat)} (hN : o < NN) (hlay : lay o = .inr (.inr (8, tpl))) (hM : CT E.2.1 E.2.2.2.2.2.2.2.2.2.2.2.2.1 E.2.2.2.2.2.2.2.2.2.2.2.2.2.1 E.2.2.2.2.2.2.2.2.2.2.2.2.2.2 b yX8_hand cX8_hand 4 (some .int) dc (.ref (b + o) :: As) σ rvI x) (hd : dc + 1 ≤ d) (hAs : As.length = 3) {st0 : List Value} (hst : st0 = As.reverse ++ .ref (b + o) :: S) (hcat : (S.map fun v => v.category).sum ≤ 8) (hdg : decode cc pc = .ok (.invokevirtual 48, 3)) (kk : ∀ (r : Int32) (σ1 : Hp), VJ rv QF E b nL σ1 (pc + 3) L (.int r :: S) (k r σ1)) : VJ rv QF E b nL σ pc L st0 (bd x k) := V_callV C hN hlay rfl wm_X8_hand ws_X8_hand wl_RL_48 hM hd (by decide) wc_X8_hand wi_RX8 (by decide +kernel) hAs hst hcat hdg kk
theorem cv_RL_52 {α : Type} {rv : α → Option Value} {QF : Option Value → Hp → State → Prop} {E : Ev} {b nL : Nat} {σ : Hp} {pc : Nat} {L : List (Nat × Value)} {S : List Value} {cc : ByteArray} {d dc : Nat} (C : CX E RL cc nL d) {As : List Value} {x : Option (Int32 × Hp)} {k : Int32 → Hp → Option (α × Hp)} {o : Nat} {tpl : List (Option Nat)} (hN : o < NN) (hlay : lay o = .inr (.inr (9, tpl))) (hM : CT E.2.1 E.2.2.2.2.2.2.2.2.2.2.2.2.1 E.2.2.2.2.2.2.2.2.2.2.2.2.2.1 E.2.2.2.2.2.2.2.2.2.2.2.2.2.2 b yX9_hand cX9_hand 4 (some .int) dc (.ref (b + o) :: As) σ rvI x) (hd : dc + 1 ≤ d) (hAs : As.length = 3) {st0 : List Value} (hst : st0 = As.reverse ++ .ref (b + o) :: S) (hcat : (S.map fun v => v.category).sum ≤ 8) (hdg : decode cc pc = .ok (.invokevirtual 52, 3)) (kk : ∀ (r : Int32) (σ1 : Hp), VJ rv QF E b nL σ1 (pc + 3) L (.int r :: S) (k r σ1)) : VJ rv QF E b nL σ pc L st0 (bd x k) := V_callV C hN hlay rfl wm_X9_hand ws_X9_hand wl_RL_52 hM hd (by decide) wc_X9_hand wi_RX9 (by decide +kernel) hAs hst hcat hdg kk
theorem cv_RL_53 {α : Type} {rv : α → Option Value} {QF : Option Value → Hp → State → Prop} {E : Ev} {b nL : Nat} {σ : Hp} {pc : Nat} {L : List (Nat × Value)} {S : List Value} {cc : ByteArray} {d dc : Nat} (C : CX E RL cc nL d) {As : List Value} {x : Option (Int32 × Hp)} {k : Int32 → Hp → Option (α × Hp)} {o : Nat} {tpl : List (Option Nat)} (hN : o < NN) (hlay : lay o = .inr (.inr (8, tpl))) (hM : CT E.2.1 E.2.2.2.2.2.2.2.2.2.2.2.2.1 E.2.2.2.2.2.2.2.2.2.2.2.2.2.1 E.2.2.2.2.2.2.2.2.2.2.2.2.2.2 b yX8_pay cX8_pay 3 (some .int) dc (.ref (b + o) :: As) σ rvI x) (hd : dc + 1 ≤ d) (hAs : As.length = 2) {st0 : List Value} (hst : st0 = As.reverse ++ .ref (b + o) :: S) (hcat : (S.map fun v => v.category).sum ≤ 8) (hdg : decode cc pc = .ok (.invokevirtual 53, 3)) (kk : ∀ (r : Int32) (σ1 : Hp), VJ rv QF E b nL σ1 (pc + 3) L (.int r :: S) (k r σ1)) : VJ rv QF E b nL σ pc L st0 (bd x k) := V_callV C hN hlay rfl wm_X8_pay ws_X8_pay wl_RL_53 hM hd (by decide) wc_X8_pay wi_RX8 (by decide +kernel) hAs hst hcat hdg kk
theorem cv_RL_56 {α : Type} {rv : α → Option Value} {QF : Option Value → Hp → State → Prop} {E : Ev} {b nL : Nat} {σ : Hp} {pc : Nat} {L : List (Nat × Value)} {S : List Value} {cc : ByteArray} {d dc : Nat} (C : CX E RL cc nL d) {As : List Value} {x : Option (Int32 × Hp)} {k : Int32 → Hp → Option (α × Hp)} {o : Nat} {tpl : List (Option Nat)} (hN : o < NN) (hlay : lay o = .inr (.inr (9, tpl))) (hM : CT E.2.1 E.2.2.2.2.2.2.2.2.2.2.2.2.1 E.2.2.2.2.2.2.2.2.2.2.2.2.2.1 E.2.2.2.2.2.2.2.2.2.2.2.2.2.2 b yX9_pay cX9_pay 3 (some .int) dc (.ref (b + o) :: As) σ rvI x) (hd : dc + 1 ≤ d) (hAs : As.length = 2) {st0 : List Value} (hst : st0 = As.reverse ++ .ref (b + o) :: S) (hcat : (S.map fun v => v.category).sum ≤ 8) (hdg : decode cc pc = .ok (.invokevirtual 56, 3)) (kk : ∀ (r : Int32) (σ1 : Hp), VJ rv QF E b nL σ1 (pc + 3) L (.int r :: S) (k r σ1)) : VJ rv QF E b nL σ pc L st0 (bd x k) := V_callV C hN hlay rfl wm_X9_pay ws_X9_pay wl_RL_56 hM hd (by decide) wc_X9_pay wi_RX9 (by decide +kernel) hAs hst hcat hdg kk
theorem cv_RL_57 {α : Type} {rv : α → Option Value} {QF : Option Value → Hp → State → Prop} {E : Ev} {b nL : Nat} {σ : Hp} {pc : Nat} {L : List (Nat × Value)} {S : List Value} {cc : ByteArray} {d dc : Nat} (C : CX E RL cc nL d) {As : List Value} {x : Option (Int32 × Hp)} {k : Int32 → Hp → Option (α × Hp)} {o : Nat} {tpl : List (Option Nat)} (hN : o < NN) (hlay : lay o = .inr (.inr (8, tpl))) (hM : CT E.2.1 E.2.2.2.2.2.2.2.2.2.2.2.2.1 E.2.2.2.2.2.2.2.2.2.2.2.2.2.1 E.2.2.2.2.2.2.2.2.2.2.2.2.2.2 b yX8_may cX8_may 2 (some .int) dc (.ref (b + o) :: As) σ rvI x) (hd : dc + 1 ≤ d) (hAs : As.length = 1) {st0 : List Value} (hst : st0 = As.reverse ++ .ref (b + o) :: S) (hcat : (S.map fun v => v.category).sum ≤ 8) (hdg : decode cc pc = .ok (.invokevirtual 57, 3)) (kk : ∀ (r : Int32) (σ1 : Hp), VJ rv QF E b nL σ1 (pc + 3) L (.int r :: S) (k r σ1)) : VJ rv QF E b nL σ pc L st0 (bd x k) := V_callV C hN hlay rfl wm_X8_may ws_X8_may wl_RL_57 hM hd (by decide) wc_X8_may wi_RX8 (by decide +kernel) hAs hst hcat hdg kk
theorem cv_RL_60 {α : Type} {rv : α → Option Value} {QF : Option Value → Hp → State → Prop} {E : Ev} {b nL : Nat} {σ : Hp} {pc : Nat} {L : List (Nat × Value)} {S : List Value} {cc : ByteArray} {d dc : Nat} (C : CX E RL cc nL d) {As : List Value} {x : Option (Int32 × Hp)} {k : Int32 → Hp → Option (α × Hp)} {o : Nat} {tpl : List (Option Nat)} (hN : o < NN) (hlay : lay o = .inr (.inr (9, tpl))) (hM : CT E.2.1 E.2.2.2.2.2.2.2.2.2.2.2.2.1 E.2.2.2.2.2.2.2.2.2.2.2.2.2.1 E.2.2.2.2.2.2.2.2.2.2.2.2.2.2 b yX9_may cX9_may 2 (some .int) dc (.ref (b + o) :: As) σ rvI x) (hd : dc + 1 ≤ d) (hAs : As.length = 1) {st0 : List Value} (hst : st0 = As.reverse ++ .ref (b + o) :: S) (hcat : (S.map fun v => v.category).sum ≤ 8) (hdg : decode cc pc = .ok (.invokevirtual 60, 3)) (kk : ∀ (r : Int32) (σ1 : Hp), VJ rv QF E b nL σ1 (pc + 3) L (.int r :: S) (k r σ1)) : VJ rv QF E b nL σ pc L st0 (bd x k) := V_callV C hN hlay rfl wm_X9_may ws_X9_may wl_RL_60 hM hd (by decide) wc_X9_may wi_RX9 (by decide +kernel) hAs hst hcat hdg kk
theorem cv_RL_61 {α : Type} {rv : α → Option Value} {QF : Option Value → Hp → State → Prop} {E : Ev} {b nL : Nat} {σ : Hp} {pc : Nat} {L : List (Nat × Value)} {S : List Value} {cc : ByteArray} {d dc : Nat} (C : CX E RL cc nL d) {As : List Value} {x : Option (Int32 × Hp)} {k : Int32 → Hp → Option (α × Hp)} {o : Nat} {tpl : List (Option Nat)} (hN : o < NN) (hlay : lay o = .inr (.inr (8, tpl))) (hM : CT E.2.1 E.2.2.2.2.2.2.2.2.2.2.2.2.1 E.2.2.2.2.2.2.2.2.2.2.2.2.2.1 E.2.2.2.2.2.2.2.2.2.2.2.2.2.2 b yX8_quarter cX8_quarter 2 (some .int) dc (.ref (b + o) :: As) σ rvI x) (hd : dc + 1 ≤ d) (hAs : As.length = 1) {st0 : List Value} (hst : st0 = As.reverse ++ .ref (b + o) :: S) (hcat : (S.map fun v => v.category).sum ≤ 8) (hdg : decode cc pc = .ok (.invokevirtual 61, 3)) (kk : ∀ (r : Int32) (σ1 : Hp), VJ rv QF E b nL σ1 (pc + 3) L (.int r :: S) (k r σ1)) : VJ rv QF E b nL σ pc L st0 (bd x k) := V_callV C hN hlay rfl wm_X8_quarter ws_X8_quarter wl_RL_61 hM hd (by decide) wc_X8_quarter wi_RX8 (by decide +kernel) hAs hst hcat hdg kk
theorem cv_RL_64 {α : Type} {rv : α → Option Value} {QF : Option Value → Hp → State → Prop} {E : Ev} {b nL : Nat} {σ : Hp} {pc : Nat} {L : List (Nat × Value)} {S : List Value} {cc : ByteArray} {d dc : Nat} (C : CX E RL cc nL d) {As : List Value} {x : Option (Int32 × Hp)} {k : Int32 → Hp → Option (α × Hp)} {o : Nat} {tpl : List (Option Nat)} (hN : o < NN) (hlay : lay o = .inr (.inr (9, tpl))) (hM : CT E.2.1 E.2.2.2.2.2.2.2.2.2.2.2.2.1 E.2.2.2.2.2.2.2.2.2.2.2.2.2.1 E.2.2.2.2.2.2.2.2.2.2.2.2.2.2 b yX9_quarter cX9_quarter 4 (some .int) dc (.ref (b + o) :: As) σ rvI x) (hd : dc + 1 ≤ d) (hAs : As.length = 1) {st0 : List Value} (hst : st0 = As.reverse ++ .ref (b + o) :: S) (hcat : (S.map fun v => v.category).sum ≤ 8) (hdg : decode cc pc = .ok (.invokevirtual 64, 3)) (kk : ∀ (r : Int32) (σ1 : Hp), VJ rv QF E b nL σ1 (pc + 3) L (.int r :: S) (k r σ1)) : VJ rv QF E b nL σ pc L st0 (bd x k) := V_callV C hN hlay rfl wm_X9_quarter ws_X9_quarter wl_RL_64 hM hd (by decide) wc_X9_quarter wi_RX9 (by decide +kernel) hAs hst hcat hdg kk
theorem cv_RL_65 {α : Type} {rv : α → Option Value} {QF : Option Value → Hp → State → Prop} {E : Ev} {b nL : Nat} {σ : Hp} {pc : Nat} {L : List (Nat × Value)} {S : List Value} {cc : ByteArray} {d dc : Nat} (C : CX E RL cc nL d) {As : List Value} {x : Option (Int32 × Hp)} {k : Int32 → Hp → Option (α × Hp)} {o : Nat} {tpl : List (Option Nat)} (hN : o < NN) (hlay : lay o = .inr (.inr (8, tpl))) (hM : CT E.2.1 E.2.2.2.2.2.2.2.2.2.2.2.2.1 E.2.2.2.2.2.2.2.2.2.2.2.2.2.1 E.2.2.2.2.2.2.2.2.2.2.2.2.2.2 b yX8_drum cX8_drum 1 (some .int) dc (.ref (b + o) :: As) σ rvI x) (hd : dc + 1 ≤ d) (hAs : As.length = 0) {st0 : List Value} (hst : st0 = As.reverse ++ .ref (b + o) :: S) (hcat : (S.map fun v => v.category).sum ≤ 8) (hdg : decode cc pc = .ok (.invokevirtual 65, 3)) (kk : ∀ (r : Int32) (σ1 : Hp), VJ rv QF E b nL σ1 (pc + 3) L (.int r :: S) (k r σ1)) : VJ rv QF E b nL σ pc L st0 (bd x k) := V_callV C hN hlay rfl wm_X8_drum ws_X8_drum wl_RL_65 hM hd (by decide) wc_X8_drum wi_RX8 (by decide +kernel) hAs hst hcat hdg kk
theorem cv_RL_68 {α : Type} {rv : α → Option Value} {QF : Option Value → Hp → State → Prop} {E : Ev} {b nL : Nat} {σ : Hp} {pc : Nat} {L : List (Nat × Value)} {S : List Value} {cc : ByteArray} {d dc : Nat} (C : CX E RL cc nL d) {As : List Value} {x : Option (Int32 × Hp)} {k : Int32 → Hp → Option (α × Hp)} {o : Nat} {tpl : List (Option Nat)} (hN : o < NN) (hlay : lay o = .inr (.inr (9, tpl))) (hM : CT E.2.1 E.2.2.2.2.2.2.2.2.2.2.2.2.1 E.2.2.2.2.2.2.2.2.2.2.2.2.2.1 E.2.2.2.2.2.2.2.2.2.2.2.2.2.2 b yX9_drum cX9_drum 3 (some .int) dc (.ref (b + o) :: As) σ rvI x) (hd : dc + 1 ≤ d) (hAs : As.length = 0) {st0 : List Value} (hst : st0 = As.reverse ++ .ref (b + o) :: S) (hcat : (S.map fun v => v.category).sum ≤ 8) (hdg : decode cc pc = .ok (.invokevirtual 68, 3)) (kk : ∀ (r : Int32) (σ1 : Hp), VJ rv QF E b nL σ1 (pc + 3) L (.int r :: S) (k r σ1)) : VJ rv QF E b nL σ pc L st0 (bd x k) := V_callV C hN hlay rfl wm_X9_drum ws_X9_drum wl_RL_68 hM hd (by decide) wc_X9_drum wi_RX9 (by decide +kernel) hAs hst hcat hdg kk
theorem cv_RL_69 {α : Type} {rv : α → Option Value} {QF : Option Value → Hp → State → Prop} {E : Ev} {b nL : Nat} {σ : Hp} {pc : Nat} {L : List (Nat × Value)} {S : List Value} {cc : ByteArray} {d dc : Nat} (C : CX E RL cc nL d) {As : List Value} {x : Option (Int32 × Hp)} {k : Int32 → Hp → Option (α × Hp)} {o : Nat} {tpl : List (Option Nat)} (hN : o < NN) (hlay : lay o = .inr (.inr (8, tpl))) (hM : CT E.2.1 E.2.2.2.2.2.2.2.2.2.2.2.2.1 E.2.2.2.2.2.2.2.2.2.2.2.2.2.1 E.2.2.2.2.2.2.2.2.2.2.2.2.2.2 b yX8_undo cX8_undo 1 (some .int) dc (.ref (b + o) :: As) σ rvI x) (hd : dc + 1 ≤ d) (hAs : As.length = 0) {st0 : List Value} (hst : st0 = As.reverse ++ .ref (b + o) :: S) (hcat : (S.map fun v => v.category).sum ≤ 8) (hdg : decode cc pc = .ok (.invokevirtual 69, 3)) (kk : ∀ (r : Int32) (σ1 : Hp), VJ rv QF E b nL σ1 (pc + 3) L (.int r :: S) (k r σ1)) : VJ rv QF E b nL σ pc L st0 (bd x k) := V_callV C hN hlay rfl wm_X8_undo ws_X8_undo wl_RL_69 hM hd (by decide) wc_X8_undo wi_RX8 (by decide +kernel) hAs hst hcat hdg kk
theorem cv_RL_72 {α : Type} {rv : α → Option Value} {QF : Option Value → Hp → State → Prop} {E : Ev} {b nL : Nat} {σ : Hp} {pc : Nat} {L : List (Nat × Value)} {S : List Value} {cc : ByteArray} {d dc : Nat} (C : CX E RL cc nL d) {As : List Value} {x : Option (Int32 × Hp)} {k : Int32 → Hp → Option (α × Hp)} {o : Nat} {tpl : List (Option Nat)} (hN : o < NN) (hlay : lay o = .inr (.inr (9, tpl))) (hM : CT E.2.1 E.2.2.2.2.2.2.2.2.2.2.2.2.1 E.2.2.2.2.2.2.2.2.2.2.2.2.2.1 E.2.2.2.2.2.2.2.2.2.2.2.2.2.2 b yX9_undo cX9_undo 1 (some .int) dc (.ref (b + o) :: As) σ rvI x) (hd : dc + 1 ≤ d) (hAs : As.length = 0) {st0 : List Value} (hst : st0 = As.reverse ++ .ref (b + o) :: S) (hcat : (S.map fun v => v.category).sum ≤ 8) (hdg : decode cc pc = .ok (.invokevirtual 72, 3)) (kk : ∀ (r : Int32) (σ1 : Hp), VJ rv QF E b nL σ1 (pc + 3) L (.int r :: S) (k r σ1)) : VJ rv QF E b nL σ pc L st0 (bd x k) := V_callV C hN hlay rfl wm_X9_undo ws_X9_undo wl_RL_72 hM hd (by decide) wc_X9_undo wi_RX9 (by decide +kernel) hAs hst hcat hdg kk
theorem cv_RL_73 {α : Type} {rv : α → Option Value} {QF : Option Value → Hp → State → Prop} {E : Ev} {b nL : Nat} {σ : Hp} {pc : Nat} {L : List (Nat × Value)} {S : List Value} {cc : ByteArray} {d dc : Nat} (C : CX E RL cc nL d) {As : List Value} {x : Option (Int32 × Hp)} {k : Int32 → Hp → Option (α × Hp)} {o : Nat} {tpl : List (Option Nat)} (hN : o < NN) (hlay : lay o = .inr (.inr (8, tpl))) (hM : CT E.2.1 E.2.2.2.2.2.2.2.2.2.2.2.2.1 E.2.2.2.2.2.2.2.2.2.2.2.2.2.1 E.2.2.2.2.2.2.2.2.2.2.2.2.2.2 b yX8_rota cX8_rota 3 (some .int) dc (.ref (b + o) :: As) σ rvI x) (hd : dc + 1 ≤ d) (hAs : As.length = 1) {st0 : List Value} (hst : st0 = As.reverse ++ .ref (b + o) :: S) (hcat : (S.map fun v => v.category).sum ≤ 8) (hdg : decode cc pc = .ok (.invokevirtual 73, 3)) (kk : ∀ (r : Int32) (σ1 : Hp), VJ rv QF E b nL σ1 (pc + 3) L (.int r :: S) (k r σ1)) : VJ rv QF E b nL σ pc L st0 (bd x k) := V_callV C hN hlay rfl wm_X8_rota ws_X8_rota wl_RL_73 hM hd (by decide) wc_X8_rota wi_RX8 (by decide +kernel) hAs hst hcat hdg kk
theorem cv_RL_76 {α : Type} {rv : α → Option Value} {QF : Option Value → Hp → State → Prop} {E : Ev} {b nL : Nat} {σ : Hp} {pc : Nat} {L : List (Nat × Value)} {S : List Value} {cc : ByteArray} {d dc : Nat} (C : CX E RL cc nL d) {As : List Value} {x : Option (Int32 × Hp)} {k : Int32 → Hp → Option (α × Hp)} {o : Nat} {tpl : List (Option Nat)} (hN : o < NN) (hlay : lay o = .inr (.inr (9, tpl))) (hM : CT E.2.1 E.2.2.2.2.2.2.2.2.2.2.2.2.1 E.2.2.2.2.2.2.2.2.2.2.2.2.2.1 E.2.2.2.2.2.2.2.2.2.2.2.2.2.2 b yX9_rota cX9_rota 3 (some .int) dc (.ref (b + o) :: As) σ rvI x) (hd : dc + 1 ≤ d) (hAs : As.length = 1) {st0 : List Value} (hst : st0 = As.reverse ++ .ref (b + o) :: S) (hcat : (S.map fun v => v.category).sum ≤ 8) (hdg : decode cc pc = .ok (.invokevirtual 76, 3)) (kk : ∀ (r : Int32) (σ1 : Hp), VJ rv QF E b nL σ1 (pc + 3) L (.int r :: S) (k r σ1)) : VJ rv QF E b nL σ pc L st0 (bd x k) := V_callV C hN hlay rfl wm_X9_rota ws_X9_rota wl_RL_76 hM hd (by decide) wc_X9_rota wi_RX9 (by decide +kernel) hAs hst hcat hdg kk
theorem cv_RL_77 {α : Type} {rv : α → Option Value} {QF : Option Value → Hp → State → Prop} {E : Ev} {b nL : Nat} {σ : Hp} {pc : Nat} {L : List (Nat × Value)} {S : List Value} {cc : ByteArray} {d dc : Nat} (C : CX E RL cc nL d) {As : List Value} {x : Option (Int32 × Hp)} {k : Int32 → Hp → Option (α × Hp)} {o : Nat} {tpl : List (Option Nat)} (hN : o < NN) (hlay : lay o = .inr (.inr (8, tpl))) (hM : CT E.2.1 E.2.2.2.2.2.2.2.2.2.2.2.2.1 E.2.2.2.2.2.2.2.2.2.2.2.2.2.1 E.2.2.2.2.2.2.2.2.2.2.2.2.2.2 b yX8_rotaAt cX8_rotaAt 4 (some .int) dc (.ref (b + o) :: As) σ rvI x) (hd : dc + 1 ≤ d) (hAs : As.length = 2) {st0 : List Value} (hst : st0 = As.reverse ++ .ref (b + o) :: S) (hcat : (S.map fun v => v.category).sum ≤ 8) (hdg : decode cc pc = .ok (.invokevirtual 77, 3)) (kk : ∀ (r : Int32) (σ1 : Hp), VJ rv QF E b nL σ1 (pc + 3) L (.int r :: S) (k r σ1)) : VJ rv QF E b nL σ pc L st0 (bd x k) := V_callV C hN hlay rfl wm_X8_rotaAt ws_X8_rotaAt wl_RL_77 hM hd (by decide) wc_X8_rotaAt wi_RX8 (by decide +kernel) hAs hst hcat hdg kk
theorem cv_RL_80 {α : Type} {rv : α → Option Value} {QF : Option Value → Hp → State → Prop} {E : Ev} {b nL : Nat} {σ : Hp} {pc : Nat} {L : List (Nat × Value)} {S : List Value} {cc : ByteArray} {d dc : Nat} (C : CX E RL cc nL d) {As : List Value} {x : Option (Int32 × Hp)} {k : Int32 → Hp → Option (α × Hp)} {o : Nat} {tpl : List (Option Nat)} (hN : o < NN) (hlay : lay o = .inr (.inr (9, tpl))) (hM : CT E.2.1 E.2.2.2.2.2.2.2.2.2.2.2.2.1 E.2.2.2.2.2.2.2.2.2.2.2.2.2.1 E.2.2.2.2.2.2.2.2.2.2.2.2.2.2 b yX9_rotaAt cX9_rotaAt 4 (some .int) dc (.ref (b + o) :: As) σ rvI x) (hd : dc + 1 ≤ d) (hAs : As.length = 2) {st0 : List Value} (hst : st0 = As.reverse ++ .ref (b + o) :: S) (hcat : (S.map fun v => v.category).sum ≤ 8) (hdg : decode cc pc = .ok (.invokevirtual 80, 3)) (kk : ∀ (r : Int32) (σ1 : Hp), VJ rv QF E b nL σ1 (pc + 3) L (.int r :: S) (k r σ1)) : VJ rv QF E b nL σ pc L st0 (bd x k) := V_callV C hN hlay rfl wm_X9_rotaAt ws_X9_rotaAt wl_RL_80 hM hd (by decide) wc_X9_rotaAt wi_RX9 (by decide +kernel) hAs hst hcat hdg kk
theorem cv_RL_81 {α : Type} {rv : α → Option Value} {QF : Option Value → Hp → State → Prop} {E : Ev} {b nL : Nat} {σ : Hp} {pc : Nat} {L : List (Nat × Value)} {S : List Value} {cc : ByteArray} {d dc : Nat} (C : CX E RL cc nL d) {As : List Value} {x : Option (Int32 × Hp)} {k : Int32 → Hp → Option (α × Hp)} {o : Nat} {tpl : List (Option Nat)} (hN : o < NN) (hlay : lay o = .inr (.inr (8, tpl))) (hM : CT E.2.1 E.2.2.2.2.2.2.2.2.2.2.2.2.1 E.2.2.2.2.2.2.2.2.2.2.2.2.2.1 E.2.2.2.2.2.2.2.2.2.2.2.2.2.2 b yX8_allNod cX8_allNod 3 (some .int) dc (.ref (b + o) :: As) σ rvI x) (hd : dc + 1 ≤ d) (hAs : As.length = 0) {st0 : List Value} (hst : st0 = As.reverse ++ .ref (b + o) :: S) (hcat : (S.map fun v => v.category).sum ≤ 8) (hdg : decode cc pc = .ok (.invokevirtual 81, 3)) (kk : ∀ (r : Int32) (σ1 : Hp), VJ rv QF E b nL σ1 (pc + 3) L (.int r :: S) (k r σ1)) : VJ rv QF E b nL σ pc L st0 (bd x k) := V_callV C hN hlay rfl wm_X8_allNod ws_X8_allNod wl_RL_81 hM hd (by decide) wc_X8_allNod wi_RX8 (by decide +kernel) hAs hst hcat hdg kk
theorem cv_RL_84 {α : Type} {rv : α → Option Value} {QF : Option Value → Hp → State → Prop} {E : Ev} {b nL : Nat} {σ : Hp} {pc : Nat} {L : List (Nat × Value)} {S : List Value} {cc : ByteArray} {d dc : Nat} (C : CX E RL cc nL d) {As : List Value} {x : Option (Int32 × Hp)} {k : Int32 → Hp → Option (α × Hp)} {o : Nat} {tpl : List (Option Nat)} (hN : o < NN) (hlay : lay o = .inr (.inr (9, tpl))) (hM : CT E.2.1 E.2.2.2.2.2.2.2.2.2.2.2.2.1 E.2.2.2.2.2.2.2.2.2.2.2.2.2.1 E.2.2.2.2.2.2.2.2.2.2.2.2.2.2 b yX9_allNod cX9_allNod 2 (some .int) dc (.ref (b + o) :: As) σ rvI x) (hd : dc + 1 ≤ d) (hAs : As.length = 0) {st0 : List Value} (hst : st0 = As.reverse ++ .ref (b + o) :: S) (hcat : (S.map fun v => v.category).sum ≤ 8) (hdg : decode cc pc = .ok (.invokevirtual 84, 3)) (kk : ∀ (r : Int32) (σ1 : Hp), VJ rv QF E b nL σ1 (pc + 3) L (.int r :: S) (k r σ1)) : VJ rv QF E b nL σ pc L st0 (bd x k) := V_callV C hN hlay rfl wm_X9_allNod ws_X9_allNod wl_RL_84 hM hd (by decide) wc_X9_allNod wi_RX9 (by decide +kernel) hAs hst hcat hdg kk
theorem cv_RL_90 {α : Type} {rv : α → Option Value} {QF : Option Value → Hp → State → Prop} {E : Ev} {b nL : Nat} {σ : Hp} {pc : Nat} {L : List (Nat × Value)} {S : List Value} {cc : ByteArray} {d dc : Nat} (C : CX E RL cc nL d) {As : List Value} {x : Option (Int32 × Hp)} {k : Int32 → Hp → Option (α × Hp)} {o : Nat} {tpl : List (Option Nat)} (hN : o < NN) (hlay : lay o = .inr (.inr (8, tpl))) (hM : CT E.2.1 E.2.2.2.2.2.2.2.2.2.2.2.2.1 E.2.2.2.2.2.2.2.2.2.2.2.2.2.1 E.2.2.2.2.2.2.2.2.2.2.2.2.2.2 b yX8_plan cX8_plan 4 (some .int) dc (.ref (b + o) :: As) σ rvI x) (hd : dc + 1 ≤ d) (hAs : As.length = 2) {st0 : List Value} (hst : st0 = As.reverse ++ .ref (b + o) :: S) (hcat : (S.map fun v => v.category).sum ≤ 8) (hdg : decode cc pc = .ok (.invokevirtual 90, 3)) (kk : ∀ (r : Int32) (σ1 : Hp), VJ rv QF E b nL σ1 (pc + 3) L (.int r :: S) (k r σ1)) : VJ rv QF E b nL σ pc L st0 (bd x k) := V_callV C hN hlay rfl wm_X8_plan ws_X8_plan wl_RL_90 hM hd (by decide) wc_X8_plan wi_RX8 (by decide +kernel) hAs hst hcat hdg kk
theorem cv_RL_93 {α : Type} {rv : α → Option Value} {QF : Option Value → Hp → State → Prop} {E : Ev} {b nL : Nat} {σ : Hp} {pc : Nat} {L : List (Nat × Value)} {S : List Value} {cc : ByteArray} {d dc : Nat} (C : CX E RL cc nL d) {As : List Value} {x : Option (Int32 × Hp)} {k : Int32 → Hp → Option (α × Hp)} {o : Nat} {tpl : List (Option Nat)} (hN : o < NN) (hlay : lay o = .inr (.inr (9, tpl))) (hM : CT E.2.1 E.2.2.2.2.2.2.2.2.2.2.2.2.1 E.2.2.2.2.2.2.2.2.2.2.2.2.2.1 E.2.2.2.2.2.2.2.2.2.2.2.2.2.2 b yX9_plan cX9_plan 4 (some .int) dc (.ref (b + o) :: As) σ rvI x) (hd : dc + 1 ≤ d) (hAs : As.length = 2) {st0 : List Value} (hst : st0 = As.reverse ++ .ref (b + o) :: S) (hcat : (S.map fun v => v.category).sum ≤ 8) (hdg : decode cc pc = .ok (.invokevirtual 93, 3)) (kk : ∀ (r : Int32) (σ1 : Hp), VJ rv QF E b nL σ1 (pc + 3) L (.int r :: S) (k r σ1)) : VJ rv QF E b nL σ pc L st0 (bd x k) := V_callV C hN hlay rfl wm_X9_plan ws_X9_plan wl_RL_93 hM hd (by decide) wc_X9_plan wi_RX9 (by decide +kernel) hAs hst hcat hdg kk
theorem cv_RL_94 {α : Type} {rv : α → Option Value} {QF : Option Value → Hp → State → Prop} {E : Ev} {b nL : Nat} {σ : Hp} {pc : Nat} {L : List (Nat × Value)} {S : List Value} {cc : ByteArray} {d dc : Nat} (C : CX E RL cc nL d) {As : List Value} {x : Option (Int32 × Hp)} {k : Int32 → Hp → Option (α × Hp)} {o : Nat} {tpl : List (Option Nat)} (hN : o < NN) (hlay : lay o = .inr (.inr (8, tpl))) (hM : CT E.2.1 E.2.2.2.2.2.2.2.2.2.2.2.2.1 E.2.2.2.2.2.2.2.2.2.2.2.2.2.1 E.2.2.2.2.2.2.2.2.2.2.2.2.2.2 b yX8_weakest cX8_weakest 6 (some .int) dc (.ref (b + o) :: As) σ rvI x) (hd : dc + 1 ≤ d) (hAs : As.length = 0) {st0 : List Value} (hst : st0 = As.reverse ++ .ref (b + o) :: S) (hcat : (S.map fun v => v.category).sum ≤ 8) (hdg : decode cc pc = .ok (.invokevirtual 94, 3)) (kk : ∀ (r : Int32) (σ1 : Hp), VJ rv QF E b nL σ1 (pc + 3) L (.int r :: S) (k r σ1)) : VJ rv QF E b nL σ pc L st0 (bd x k) := V_callV C hN hlay rfl wm_X8_weakest ws_X8_weakest wl_RL_94 hM hd (by decide) wc_X8_weakest wi_RX8 (by decide +kernel) hAs hst hcat hdg kk
theorem cv_RL_97 {α : Type} {rv : α → Option Value} {QF : Option Value → Hp → State → Prop} {E : Ev} {b nL : Nat} {σ : Hp} {pc : Nat} {L : List (Nat × Value)} {S : List Value} {cc : ByteArray} {d dc : Nat} (C : CX E RL cc nL d) {As : List Value} {x : Option (Int32 × Hp)} {k : Int32 → Hp → Option (α × Hp)} {o : Nat} {tpl : List (Option Nat)} (hN : o < NN) (hlay : lay o = .inr (.inr (9, tpl))) (hM : CT E.2.1 E.2.2.2.2.2.2.2.2.2.2.2.2.1 E.2.2.2.2.2.2.2.2.2.2.2.2.2.1 E.2.2.2.2.2.2.2.2.2.2.2.2.2.2 b yX9_weakest cX9_weakest 7 (some .int) dc (.ref (b + o) :: As) σ rvI x) (hd : dc + 1 ≤ d) (hAs : As.length = 0) {st0 : List Value} (hst : st0 = As.reverse ++ .ref (b + o) :: S) (hcat : (S.map fun v => v.category).sum ≤ 8) (hdg : decode cc pc = .ok (.invokevirtual 97, 3)) (kk : ∀ (r : Int32) (σ1 : Hp), VJ rv QF E b nL σ1 (pc + 3) L (.int r :: S) (k r σ1)) : VJ rv QF E b nL σ pc L st0 (bd x k) := V_callV C hN hlay rfl wm_X9_weakest ws_X9_weakest wl_RL_97 hM hd (by decide) wc_X9_weakest wi_RX9 (by decide +kernel) hAs hst hcat hdg kk
theorem cv_RL_103 {α : Type} {rv : α → Option Value} {QF : Option Value → Hp → State → Prop} {E : Ev} {b nL : Nat} {σ : Hp} {pc : Nat} {L : List (Nat × Value)} {S : List Value} {cc : ByteArray} {d dc : Nat} (C : CX E RL cc nL d) {As : List Value} {x : Option (Int32 × Hp)} {k : Int32 → Hp → Option (α × Hp)} {o : Nat} {tpl : List (Option Nat)} (hN : o < NN) (hlay : lay o = .inr (.inr (8, tpl))) (hM : CT E.2.1 E.2.2.2.2.2.2.2.2.2.2.2.2.1 E.2.2.2.2.2.2.2.2.2.2.2.2.2.1 E.2.2.2.2.2.2.2.2.2.2.2.2.2.2 b yX8_use cX8_use 4 (some .int) dc (.ref (b + o) :: As) σ rvI x) (hd : dc + 1 ≤ d) (hAs : As.length = 3) {st0 : List Value} (hst : st0 = As.reverse ++ .ref (b + o) :: S) (hcat : (S.map fun v => v.category).sum ≤ 8) (hdg : decode cc pc = .ok (.invokevirtual 103, 3)) (kk : ∀ (r : Int32) (σ1 : Hp), VJ rv QF E b nL σ1 (pc + 3) L (.int r :: S) (k r σ1)) : VJ rv QF E b nL σ pc L st0 (bd x k) := V_callV C hN hlay rfl wm_X8_use ws_X8_use wl_RL_103 hM hd (by decide) wc_X8_use wi_RX8 (by decide +kernel) hAs hst hcat hdg kk
theorem cv_RL_106 {α : Type} {rv : α → Option Value} {QF : Option Value → Hp → State → Prop} {E : Ev} {b nL : Nat} {σ : Hp} {pc : Nat} {L : List (Nat × Value)} {S : List Value} {cc : ByteArray} {d dc : Nat} (C : CX E RL cc nL d) {As : List Value} {x : Option (Int32 × Hp)} {k : Int32 → Hp → Option (α × Hp)} {o : Nat} {tpl : List (Option Nat)} (hN : o < NN) (hlay : lay o = .inr (.inr (9, tpl))) (hM : CT E.2.1 E.2.2.2.2.2.2.2.2.2.2.2.2.1 E.2.2.2.2.2.2.2.2.2.2.2.2.2.1 E.2.2.2.2.2.2.2.2.2.2.2.2.2.2 b yX9_use cX9_use 4 (some .int) dc (.ref (b + o) :: As) σ rvI x) (hd : dc + 1 ≤ d) (hAs : As.length = 3) {st0 : List Value} (hst : st0 = As.reverse ++ .ref (b + o) :: S) (hcat : (S.map fun v => v.category).sum ≤ 8) (hdg : decode cc pc = .ok (.invokevirtual 106, 3)) (kk : ∀ (r : Int32) (σ1 : Hp), VJ rv QF E b nL σ1 (pc + 3) L (.int r :: S) (k r σ1)) : VJ rv QF E b nL σ pc L st0 (bd x k) := V_callV C hN hlay rfl wm_X9_use ws_X9_use wl_RL_106 hM hd (by decide) wc_X9_use wi_RX9 (by decide +kernel) hAs hst hcat hdg kk
theorem cv_RL_107 {α : Type} {rv : α → Option Value} {QF : Option Value → Hp → State → Prop} {E : Ev} {b nL : Nat} {σ : Hp} {pc : Nat} {L : List (Nat × Value)} {S : List Value} {cc : ByteArray} {d dc : Nat} (C : CX E RL cc nL d) {As : List Value} {x : Option (Int32 × Hp)} {k : Int32 → Hp → Option (α × Hp)} {o : Nat} {tpl : List (Option Nat)} (hN : o < NN) (hlay : lay o = .inr (.inr (8, tpl))) (hM : CT E.2.1 E.2.2.2.2.2.2.2.2.2.2.2.2.1 E.2.2.2.2.2.2.2.2.2.2.2.2.2.1 E.2.2.2.2.2.2.2.2.2.2.2.2.2.2 b yX8_burn cX8_burn 2 (some .int) dc (.ref (b + o) :: As) σ rvI x) (hd : dc + 1 ≤ d) (hAs : As.length = 0) {st0 : List Value} (hst : st0 = As.reverse ++ .ref (b + o) :: S) (hcat : (S.map fun v => v.category).sum ≤ 8) (hdg : decode cc pc = .ok (.invokevirtual 107, 3)) (kk : ∀ (r : Int32) (σ1 : Hp), VJ rv QF E b nL σ1 (pc + 3) L (.int r :: S) (k r σ1)) : VJ rv QF E b nL σ pc L st0 (bd x k) := V_callV C hN hlay rfl wm_X8_burn ws_X8_burn wl_RL_107 hM hd (by decide) wc_X8_burn wi_RX8 (by decide +kernel) hAs hst hcat hdg kk
theorem cv_RL_110 {α : Type} {rv : α → Option Value} {QF : Option Value → Hp → State → Prop} {E : Ev} {b nL : Nat} {σ : Hp} {pc : Nat} {L : List (Nat × Value)} {S : List Value} {cc : ByteArray} {d dc : Nat} (C : CX E RL cc nL d) {As : List Value} {x : Option (Int32 × Hp)} {k : Int32 → Hp → Option (α × Hp)} {o : Nat} {tpl : List (Option Nat)} (hN : o < NN) (hlay : lay o = .inr (.inr (9, tpl))) (hM : CT E.2.1 E.2.2.2.2.2.2.2.2.2.2.2.2.1 E.2.2.2.2.2.2.2.2.2.2.2.2.2.1 E.2.2.2.2.2.2.2.2.2.2.2.2.2.2 b yX9_burn cX9_burn 2 (some .int) dc (.ref (b + o) :: As) σ rvI x) (hd : dc + 1 ≤ d) (hAs : As.length = 0) {st0 : List Value} (hst : st0 = As.reverse ++ .ref (b + o) :: S) (hcat : (S.map fun v => v.category).sum ≤ 8) (hdg : decode cc pc = .ok (.invokevirtual 110, 3)) (kk : ∀ (r : Int32) (σ1 : Hp), VJ rv QF E b nL σ1 (pc + 3) L (.int r :: S) (k r σ1)) : VJ rv QF E b nL σ pc L st0 (bd x k) := V_callV C hN hlay rfl wm_X9_burn ws_X9_burn wl_RL_110 hM hd (by decide) wc_X9_burn wi_RX9 (by decide +kernel) hAs hst hcat hdg kk
theorem cv_RL_111 {α : Type} {rv : α → Option Value} {QF : Option Value → Hp → State → Prop} {E : Ev} {b nL : Nat} {σ : Hp} {pc : Nat} {L : List (Nat × Value)} {S : List Value} {cc : ByteArray} {d dc : Nat} (C : CX E RL cc nL d) {As : List Value} {x : Option (Int32 × Hp)} {k : Int32 → Hp → Option (α × Hp)} {o : Nat} {tpl : List (Option Nat)} (hN : o < NN) (hlay : lay o = .inr (.inr (8, tpl))) (hM : CT E.2.1 E.2.2.2.2.2.2.2.2.2.2.2.2.1 E.2.2.2.2.2.2.2.2.2.2.2.2.2.1 E.2.2.2.2.2.2.2.2.2.2.2.2.2.2 b yX8_forged cX8_forged 3 (some .int) dc (.ref (b + o) :: As) σ rvI x) (hd : dc + 1 ≤ d) (hAs : As.length = 0) {st0 : List Value} (hst : st0 = As.reverse ++ .ref (b + o) :: S) (hcat : (S.map fun v => v.category).sum ≤ 8) (hdg : decode cc pc = .ok (.invokevirtual 111, 3)) (kk : ∀ (r : Int32) (σ1 : Hp), VJ rv QF E b nL σ1 (pc + 3) L (.int r :: S) (k r σ1)) : VJ rv QF E b nL σ pc L st0 (bd x k) := V_callV C hN hlay rfl wm_X8_forged ws_X8_forged wl_RL_111 hM hd (by decide) wc_X8_forged wi_RX8 (by decide +kernel) hAs hst hcat hdg kk
theorem cv_RL_114 {α : Type} {rv : α → Option Value} {QF : Option Value → Hp → State → Prop} {E : Ev} {b nL : Nat} {σ : Hp} {pc : Nat} {L : List (Nat × Value)} {S : List Value} {cc : ByteArray} {d dc : Nat} (C : CX E RL cc nL d) {As : List Value} {x : Option (Int32 × Hp)} {k : Int32 → Hp → Option (α × Hp)} {o : Nat} {tpl : List (Option Nat)} (hN : o < NN) (hlay : lay o = .inr (.inr (9, tpl))) (hM : CT E.2.1 E.2.2.2.2.2.2.2.2.2.2.2.2.1 E.2.2.2.2.2.2.2.2.2.2.2.2.2.1 E.2.2.2.2.2.2.2.2.2.2.2.2.2.2 b yX9_forged cX9_forged 3 (some .int) dc (.ref (b + o) :: As) σ rvI x) (hd : dc + 1 ≤ d) (hAs : As.length = 0) {st0 : List Value} (hst : st0 = As.reverse ++ .ref (b + o) :: S) (hcat : (S.map fun v => v.category).sum ≤ 8) (hdg : decode cc pc = .ok (.invokevirtual 114, 3)) (kk : ∀ (r : Int32) (σ1 : Hp), VJ rv QF E b nL σ1 (pc + 3) L (.int r :: S) (k r σ1)) : VJ rv QF E b nL σ pc L st0 (bd x k) := V_callV C hN hlay rfl wm_X9_forged ws_X9_forged wl_RL_114 hM hd (by decide) wc_X9_forged wi_RX9 (by decide +kernel) hAs hst hcat hdg kk
theorem cv_RL_115 {α : Type} {rv : α → Option Value} {QF : Option Value → Hp → State → Prop} {E : Ev} {b nL : Nat} {σ : Hp} {pc : Nat} {L : List (Nat × Value)} {S : List Value} {cc : ByteArray} {d dc : Nat} (C : CX E RL cc nL d) {As : List Value} {x : Option (Int32 × Hp)} {k : Int32 → Hp → Option (α × Hp)} {o : Nat} {tpl : List (Option Nat)} (hN : o < NN) (hlay : lay o = .inr (.inr (8, tpl))) (hM : CT E.2.1 E.2.2.2.2.2.2.2.2.2.2.2.2.1 E.2.2.2.2.2.2.2.2.2.2.2.2.2.1 E.2.2.2.2.2.2.2.2.2.2.2.2.2.2 b yX8_forgedAt cX8_forgedAt 4 (some .int) dc (.ref (b + o) :: As) σ rvI x) (hd : dc + 1 ≤ d) (hAs : As.length = 1) {st0 : List Value} (hst : st0 = As.reverse ++ .ref (b + o) :: S) (hcat : (S.map fun v => v.category).sum ≤ 8) (hdg : decode cc pc = .ok (.invokevirtual 115, 3)) (kk : ∀ (r : Int32) (σ1 : Hp), VJ rv QF E b nL σ1 (pc + 3) L (.int r :: S) (k r σ1)) : VJ rv QF E b nL σ pc L st0 (bd x k) := V_callV C hN hlay rfl wm_X8_forgedAt ws_X8_forgedAt wl_RL_115 hM hd (by decide) wc_X8_forgedAt wi_RX8 (by decide +kernel) hAs hst hcat hdg kk
theorem cv_RL_118 {α : Type} {rv : α → Option Value} {QF : Option Value → Hp → State → Prop} {E : Ev} {b nL : Nat} {σ : Hp} {pc : Nat} {L : List (Nat × Value)} {S : List Value} {cc : ByteArray} {d dc : Nat} (C : CX E RL cc nL d) {As : List Value} {x : Option (Int32 × Hp)} {k : Int32 → Hp → Option (α × Hp)} {o : Nat} {tpl : List (Option Nat)} (hN : o < NN) (hlay : lay o = .inr (.inr (9, tpl))) (hM : CT E.2.1 E.2.2.2.2.2.2.2.2.2.2.2.2.1 E.2.2.2.2.2.2.2.2.2.2.2.2.2.1 E.2.2.2.2.2.2.2.2.2.2.2.2.2.2 b yX9_forgedAt cX9_forgedAt 4 (some .int) dc (.ref (b + o) :: As) σ rvI x) (hd : dc + 1 ≤ d) (hAs : As.length = 1) {st0 : List Value} (hst : st0 = As.reverse ++ .ref (b + o) :: S) (hcat : (S.map fun v => v.category).sum ≤ 8) (hdg : decode cc pc = .ok (.invokevirtual 118, 3)) (kk : ∀ (r : Int32) (σ1 : Hp), VJ rv QF E b nL σ1 (pc + 3) L (.int r :: S) (k r σ1)) : VJ rv QF E b nL σ pc L st0 (bd x k) := V_callV C hN hlay rfl wm_X9_forgedAt ws_X9_forgedAt wl_RL_118 hM hd (by decide) wc_X9_forgedAt wi_RX9 (by decide +kernel) hAs hst hcat hdg kk
theorem cv_RL_119 {α : Type} {rv : α → Option Value} {QF : Option Value → Hp → State → Prop} {E : Ev} {b nL : Nat} {σ : Hp} {pc : Nat} {L : List (Nat × Value)} {S : List Value} {cc : ByteArray} {d dc : Nat} (C : CX E RL cc nL d) {As : List Value} {x : Option (Int32 × Hp)} {k : Int32 → Hp → Option (α × Hp)} {o : Nat} {tpl : List (Option Nat)} (hN : o < NN) (hlay : lay o = .inr (.inr (8, tpl))) (hM : CT E.2.1 E.2.2.2.2.2.2.2.2.2.2.2.2.1 E.2.2.2.2.2.2.2.2.2.2.2.2.2.1 E.2.2.2.2.2.2.2.2.2.2.2.2.2.2 b yX8_forgers cX8_forgers 3 (some .int) dc (.ref (b + o) :: As) σ rvI x) (hd : dc + 1 ≤ d) (hAs : As.length = 0) {st0 : List Value} (hst : st0 = As.reverse ++ .ref (b + o) :: S) (hcat : (S.map fun v => v.category).sum ≤ 8) (hdg : decode cc pc = .ok (.invokevirtual 119, 3)) (kk : ∀ (r : Int32) (σ1 : Hp), VJ rv QF E b nL σ1 (pc + 3) L (.int r :: S) (k r σ1)) : VJ rv QF E b nL σ pc L st0 (bd x k) := V_callV C hN hlay rfl wm_X8_forgers ws_X8_forgers wl_RL_119 hM hd (by decide) wc_X8_forgers wi_RX8 (by decide +kernel) hAs hst hcat hdg kk
theorem cv_RL_122 {α : Type} {rv : α → Option Value} {QF : Option Value → Hp → State → Prop} {E : Ev} {b nL : Nat} {σ : Hp} {pc : Nat} {L : List (Nat × Value)} {S : List Value} {cc : ByteArray} {d dc : Nat} (C : CX E RL cc nL d) {As : List Value} {x : Option (Int32 × Hp)} {k : Int32 → Hp → Option (α × Hp)} {o : Nat} {tpl : List (Option Nat)} (hN : o < NN) (hlay : lay o = .inr (.inr (9, tpl))) (hM : CT E.2.1 E.2.2.2.2.2.2.2.2.2.2.2.2.1 E.2.2.2.2.2.2.2.2.2.2.2.2.2.1 E.2.2.2.2.2.2.2.2.2.2.2.2.2.2 b yX9_forgers cX9_forgers 3 (some .int) dc (.ref (b + o) :: As) σ rvI x) (hd : dc + 1 ≤ d) (hAs : As.length = 0) {st0 : List Value} (hst : st0 = As.reverse ++ .ref (b + o) :: S) (hcat : (S.map fun v => v.category).sum ≤ 8) (hdg : decode cc pc = .ok (.invokevirtual 122, 3)) (kk : ∀ (r : Int32) (σ1 : Hp), VJ rv QF E b nL σ1 (pc + 3) L (.int r :: S) (k r σ1)) : VJ rv QF E b nL σ pc L st0 (bd x k) := V_callV C hN hlay rfl wm_X9_forgers ws_X9_forgers wl_RL_122 hM hd (by decide) wc_X9_forgers wi_RX9 (by decide +kernel) hAs hst hcat hdg kk
theorem cv_RL_123 {α : Type} {rv : α → Option Value} {QF : Option Value → Hp → State → Prop} {E : Ev} {b nL : Nat} {σ : Hp} {pc : Nat} {L : List (Nat × Value)} {S : List Value} {cc : ByteArray} {d dc : Nat} (C : CX E RL cc nL d) {As : List Value} {x : Option (Int32 × Hp)} {k : Int32 → Hp → Option (α × Hp)} {o : Nat} {tpl : List (Option Nat)} (hN : o < NN) (hlay : lay o = .inr (.inr (8, tpl))) (hM : CT E.2.1 E.2.2.2.2.2.2.2.2.2.2.2.2.1 E.2.2.2.2.2.2.2.2.2.2.2.2.2.1 E.2.2.2.2.2.2.2.2.2.2.2.2.2.2 b yX8_keep cX8_keep 2 (some .int) dc (.ref (b + o) :: As) σ rvI x) (hd : dc + 1 ≤ d) (hAs : As.length = 1) {st0 : List Value} (hst : st0 = As.reverse ++ .ref (b + o) :: S) (hcat : (S.map fun v => v.category).sum ≤ 8) (hdg : decode cc pc = .ok (.invokevirtual 123, 3)) (kk : ∀ (r : Int32) (σ1 : Hp), VJ rv QF E b nL σ1 (pc + 3) L (.int r :: S) (k r σ1)) : VJ rv QF E b nL σ pc L st0 (bd x k) := V_callV C hN hlay rfl wm_X8_keep ws_X8_keep wl_RL_123 hM hd (by decide) wc_X8_keep wi_RX8 (by decide +kernel) hAs hst hcat hdg kk
theorem cv_RL_126 {α : Type} {rv : α → Option Value} {QF : Option Value → Hp → State → Prop} {E : Ev} {b nL : Nat} {σ : Hp} {pc : Nat} {L : List (Nat × Value)} {S : List Value} {cc : ByteArray} {d dc : Nat} (C : CX E RL cc nL d) {As : List Value} {x : Option (Int32 × Hp)} {k : Int32 → Hp → Option (α × Hp)} {o : Nat} {tpl : List (Option Nat)} (hN : o < NN) (hlay : lay o = .inr (.inr (9, tpl))) (hM : CT E.2.1 E.2.2.2.2.2.2.2.2.2.2.2.2.1 E.2.2.2.2.2.2.2.2.2.2.2.2.2.1 E.2.2.2.2.2.2.2.2.2.2.2.2.2.2 b yX9_keep cX9_keep 4 (some .int) dc (.ref (b + o) :: As) σ rvI x) (hd : dc + 1 ≤ d) (hAs : As.length = 1) {st0 : List Value} (hst : st0 = As.reverse ++ .ref (b + o) :: S) (hcat : (S.map fun v => v.category).sum ≤ 8) (hdg : decode cc pc = .ok (.invokevirtual 126, 3)) (kk : ∀ (r : Int32) (σ1 : Hp), VJ rv QF E b nL σ1 (pc + 3) L (.int r :: S) (k r σ1)) : VJ rv QF E b nL σ pc L st0 (bd x k) := V_callV C hN hlay rfl wm_X9_keep ws_X9_keep wl_RL_126 hM hd (by decide) wc_X9_keep wi_RX9 (by decide +kernel) hAs hst hcat hdg kk
theorem cv_RL_127 {α : Type} {rv : α → Option Value} {QF : Option Value → Hp → State → Prop} {E : Ev} {b nL : Nat} {σ : Hp} {pc : Nat} {L : List (Nat × Value)} {S : List Value} {cc : ByteArray} {d dc : Nat} (C : CX E RL cc nL d) {As : List Value} {x : Option (Int32 × Hp)} {k : Int32 → Hp → Option (α × Hp)} {o : Nat} {tpl : List (Option Nat)} (hN : o < NN) (hlay : lay o = .inr (.inr (8, tpl))) (hM : CT E.2.1 E.2.2.2.2.2.2.2.2.2.2.2.2.1 E.2.2.2.2.2.2.2.2.2.2.2.2.2.1 E.2.2.2.2.2.2.2.2.2.2.2.2.2.2 b yX8_again cX8_again 2 (some .int) dc (.ref (b + o) :: As) σ rvI x) (hd : dc + 1 ≤ d) (hAs : As.length = 1) {st0 : List Value} (hst : st0 = As.reverse ++ .ref (b + o) :: S) (hcat : (S.map fun v => v.category).sum ≤ 8) (hdg : decode cc pc = .ok (.invokevirtual 127, 3)) (kk : ∀ (r : Int32) (σ1 : Hp), VJ rv QF E b nL σ1 (pc + 3) L (.int r :: S) (k r σ1)) : VJ rv QF E b nL σ pc L st0 (bd x k) := V_callV C hN hlay rfl wm_X8_again ws_X8_again wl_RL_127 hM hd (by decide) wc_X8_again wi_RX8 (by decide +kernel) hAs hst hcat hdg kk
theorem cv_RL_130 {α : Type} {rv : α → Option Value} {QF : Option Value → Hp → State → Prop} {E : Ev} {b nL : Nat} {σ : Hp} {pc : Nat} {L : List (Nat × Value)} {S : List Value} {cc : ByteArray} {d dc : Nat} (C : CX E RL cc nL d) {As : List Value} {x : Option (Int32 × Hp)} {k : Int32 → Hp → Option (α × Hp)} {o : Nat} {tpl : List (Option Nat)} (hN : o < NN) (hlay : lay o = .inr (.inr (9, tpl))) (hM : CT E.2.1 E.2.2.2.2.2.2.2.2.2.2.2.2.1 E.2.2.2.2.2.2.2.2.2.2.2.2.2.1 E.2.2.2.2.2.2.2.2.2.2.2.2.2.2 b yX9_again cX9_again 4 (some .int) dc (.ref (b + o) :: As) σ rvI x) (hd : dc + 1 ≤ d) (hAs : As.length = 1) {st0 : List Value} (hst : st0 = As.reverse ++ .ref (b + o) :: S) (hcat : (S.map fun v => v.category).sum ≤ 8) (hdg : decode cc pc = .ok (.invokevirtual 130, 3)) (kk : ∀ (r : Int32) (σ1 : Hp), VJ rv QF E b nL σ1 (pc + 3) L (.int r :: S) (k r σ1)) : VJ rv QF E b nL σ pc L st0 (bd x k) := V_callV C hN hlay rfl wm_X9_again ws_X9_again wl_RL_130 hM hd (by decide) wc_X9_again wi_RX9 (by decide +kernel) hAs hst hcat hdg kk
def f_L_law_876 (k18 : Hp → Int32 → Option (Int32 × Hp)) (SL : Nat) (xs : Nat → Int32) (σ : Hp) (x3 : Int32) : Option (Int32 × Hp) :=
  Lt (x3 + (4 : Int32)) fun v1 =>
  k18 σ v1

def f_L_law_355 (k18 : Hp → Int32 → Option (Int32 × Hp)) (SL : Nat) (xs : Nat → Int32) (σ : Hp) (x3 : Int32) (s0 : Int32) (s1 : Int32) (s3 : Int32) : Option (Int32 × Hp) :=
  bd (f_X9_sick σ s1 s0) fun r1 σ2 =>
  if s3 = r1 then (
    f_L_law_876 k18 SL xs σ2 x3)
  else (
    none)

def f_L_law_333 (k18 : Hp → Int32 → Option (Int32 × Hp)) (SL : Nat) (xs : Nat → Int32) (σ : Hp) (x3 : Int32) (s0 : Int32) (s1 : Int32) : Option (Int32 × Hp) :=
  bd (f_X8_sick σ s1 s0) fun r1 σ2 =>
  ck (x3 + (1 : Int32)) SL <|
  ck (x3 + (2 : Int32)) SL <|
  if (xs (ix (x3 + (2 : Int32)))) = 0 then (
    f_L_law_355 k18 SL xs σ2 x3 (0 : Int32) (xs (ix (x3 + (1 : Int32)))) r1)
  else (
    f_L_law_355 k18 SL xs σ2 x3 (1 : Int32) (xs (ix (x3 + (1 : Int32)))) r1)

def f_L_law_631 (k18 : Hp → Int32 → Option (Int32 × Hp)) (SL : Nat) (xs : Nat → Int32) (σ : Hp) (x3 : Int32) (s0 : Int32) (s1 : Int32) (s2 : Int32) (s4 : Int64) : Option (Int32 × Hp) :=
  bd (f_X9_chance σ s2 s1 s0) fun r1 σ2 =>
  if (lg_cmp s4 r1) = 0 then (
    f_L_law_876 k18 SL xs σ2 x3)
  else (
    none)

def f_L_law_604 (k18 : Hp → Int32 → Option (Int32 × Hp)) (SL : Nat) (xs : Nat → Int32) (σ : Hp) (x3 : Int32) (s0 : Int32) (s1 : Int32) (s2 : Int32) : Option (Int32 × Hp) :=
  bd (f_X8_chance σ s2 s1 s0) fun r1 σ2 =>
  ck (x3 + (1 : Int32)) SL <|
  ck (x3 + (2 : Int32)) SL <|
  ck (x3 + (3 : Int32)) SL <|
  if (xs (ix (x3 + (3 : Int32)))) = 0 then (
    f_L_law_631 k18 SL xs σ2 x3 (0 : Int32) (xs (ix (x3 + (2 : Int32)))) (xs (ix (x3 + (1 : Int32)))) r1)
  else (
    f_L_law_631 k18 SL xs σ2 x3 (1 : Int32) (xs (ix (x3 + (2 : Int32)))) (xs (ix (x3 + (1 : Int32)))) r1)

def f_L_law_717 (k18 : Hp → Int32 → Option (Int32 × Hp)) (SL : Nat) (xs : Nat → Int32) (σ : Hp) (x3 : Int32) (s0 : Int32) (s2 : Int32) : Option (Int32 × Hp) :=
  bd (f_X9_settled σ s0) fun r1 σ2 =>
  if s2 = r1 then (
    f_L_law_876 k18 SL xs σ2 x3)
  else (
    none)

def f_L_law_700 (k18 : Hp → Int32 → Option (Int32 × Hp)) (SL : Nat) (xs : Nat → Int32) (σ : Hp) (x3 : Int32) (s0 : Int32) : Option (Int32 × Hp) :=
  bd (f_X8_settled σ s0) fun r1 σ2 =>
  ck (x3 + (1 : Int32)) SL <|
  if (xs (ix (x3 + (1 : Int32)))) = 0 then (
    f_L_law_717 k18 SL xs σ2 x3 (0 : Int32) r1)
  else (
    f_L_law_717 k18 SL xs σ2 x3 (1 : Int32) r1)

def f_L_law_18  (SL : Nat) (xs : Nat → Int32) : Nat → Hp → Int32 → Option (Int32 × Hp)
  | 0, _, _ => none
  | n + 1, σ, x3 =>
    if ((nI SL) - (4 : Int32)) < x3 then (
      some (1, σ))
    else (
      ck x3 SL <|
      swt ((xs (ix x3)) &&& (31 : Int32)) [
        (
          ck (x3 + (1 : Int32)) SL <|
          ck (x3 + (2 : Int32)) SL <|
          ck (x3 + (3 : Int32)) SL <|
          bd (f_X8_write σ (xs (ix (x3 + (1 : Int32)))) ((((xs (ix (x3 + (2 : Int32)))).toInt64) <<< ((32 : Int32).toInt64 &&& 63)) ||| (((xs (ix (x3 + (3 : Int32)))).toInt64) &&& (4294967295 : Int64)))) fun r1 σ2 =>
          ck (x3 + (1 : Int32)) SL <|
          ck (x3 + (2 : Int32)) SL <|
          ck (x3 + (3 : Int32)) SL <|
          bd (f_X9_write σ2 (xs (ix (x3 + (1 : Int32)))) ((((xs (ix (x3 + (2 : Int32)))).toInt64) <<< ((32 : Int32).toInt64 &&& 63)) ||| (((xs (ix (x3 + (3 : Int32)))).toInt64) &&& (4294967295 : Int64)))) fun r3 σ4 =>
          if r1 = r3 then (
            f_L_law_876 (f_L_law_18 SL xs n) SL xs σ4 x3)
          else (
            none)),
        (
          bd (f_X8_wipe σ ) fun r5 σ6 =>
          bd (f_X9_wipe σ6 ) fun r7 σ8 =>
          if r5 = r7 then (
            f_L_law_876 (f_L_law_18 SL xs n) SL xs σ8 x3)
          else (
            none)),
        (
          bd (f_X8_fault σ ) fun r9 σ10 =>
          bd (f_X9_fault σ10 ) fun r11 σ12 =>
          if r9 = r11 then (
            f_L_law_876 (f_L_law_18 SL xs n) SL xs σ12 x3)
          else (
            none)),
        (
          bd (f_X8_fortress σ ) fun r13 σ14 =>
          bd (f_X9_fortress σ14 ) fun r15 σ16 =>
          if r13 = r15 then (
            f_L_law_876 (f_L_law_18 SL xs n) SL xs σ16 x3)
          else (
            none)),
        (
          ck (x3 + (1 : Int32)) SL <|
          bd (f_X8_about σ (xs (ix (x3 + (1 : Int32))))) fun r17 σ18 =>
          ck (x3 + (1 : Int32)) SL <|
          bd (f_X9_about σ18 (xs (ix (x3 + (1 : Int32))))) fun r19 σ20 =>
          if r17 = r19 then (
            f_L_law_876 (f_L_law_18 SL xs n) SL xs σ20 x3)
          else (
            none)),
        (
          ck (x3 + (1 : Int32)) SL <|
          ck (x3 + (2 : Int32)) SL <|
          bd (f_X8_guard σ (xs (ix (x3 + (1 : Int32)))) (xs (ix (x3 + (2 : Int32))))) fun r21 σ22 =>
          ck (x3 + (1 : Int32)) SL <|
          ck (x3 + (2 : Int32)) SL <|
          bd (f_X9_guard σ22 (xs (ix (x3 + (1 : Int32)))) (xs (ix (x3 + (2 : Int32))))) fun r23 σ24 =>
          if r21 = r23 then (
            f_L_law_876 (f_L_law_18 SL xs n) SL xs σ24 x3)
          else (
            none)),
        (
          ck (x3 + (1 : Int32)) SL <|
          ck (x3 + (2 : Int32)) SL <|
          if (xs (ix (x3 + (2 : Int32)))) = 0 then (
            f_L_law_333 (f_L_law_18 SL xs n) SL xs σ x3 (0 : Int32) (xs (ix (x3 + (1 : Int32)))))
          else (
            f_L_law_333 (f_L_law_18 SL xs n) SL xs σ x3 (1 : Int32) (xs (ix (x3 + (1 : Int32)))))),
        (
          ck (x3 + (1 : Int32)) SL <|
          ck (x3 + (2 : Int32)) SL <|
          ck (x3 + (3 : Int32)) SL <|
          bd (f_X8_hand σ (xs (ix (x3 + (1 : Int32)))) (xs (ix (x3 + (2 : Int32)))) (xs (ix (x3 + (3 : Int32))))) fun r25 σ26 =>
          ck (x3 + (1 : Int32)) SL <|
          ck (x3 + (2 : Int32)) SL <|
          ck (x3 + (3 : Int32)) SL <|
          bd (f_X9_hand σ26 (xs (ix (x3 + (1 : Int32)))) (xs (ix (x3 + (2 : Int32)))) (xs (ix (x3 + (3 : Int32))))) fun r27 σ28 =>
          if r25 = r27 then (
            f_L_law_876 (f_L_law_18 SL xs n) SL xs σ28 x3)
          else (
            none)),
        (
          ck (x3 + (1 : Int32)) SL <|
          ck (x3 + (2 : Int32)) SL <|
          bd (f_X8_pay σ (xs (ix (x3 + (1 : Int32)))) (xs (ix (x3 + (2 : Int32))))) fun r29 σ30 =>
          ck (x3 + (1 : Int32)) SL <|
          ck (x3 + (2 : Int32)) SL <|
          bd (f_X9_pay σ30 (xs (ix (x3 + (1 : Int32)))) (xs (ix (x3 + (2 : Int32))))) fun r31 σ32 =>
          if r29 = r31 then (
            f_L_law_876 (f_L_law_18 SL xs n) SL xs σ32 x3)
          else (
            none)),
        (
          ck (x3 + (1 : Int32)) SL <|
          bd (f_X8_may σ (xs (ix (x3 + (1 : Int32))))) fun r33 σ34 =>
          ck (x3 + (1 : Int32)) SL <|
          bd (f_X9_may σ34 (xs (ix (x3 + (1 : Int32))))) fun r35 σ36 =>
          if r33 = r35 then (
            f_L_law_876 (f_L_law_18 SL xs n) SL xs σ36 x3)
          else (
            none)),
        (
          ck (x3 + (1 : Int32)) SL <|
          bd (f_X8_quarter σ (xs (ix (x3 + (1 : Int32))))) fun r37 σ38 =>
          ck (x3 + (1 : Int32)) SL <|
          bd (f_X9_quarter σ38 (xs (ix (x3 + (1 : Int32))))) fun r39 σ40 =>
          if r37 = r39 then (
            f_L_law_876 (f_L_law_18 SL xs n) SL xs σ40 x3)
          else (
            none)),
        (
          bd (f_X8_drum σ ) fun r41 σ42 =>
          bd (f_X9_drum σ42 ) fun r43 σ44 =>
          if r41 = r43 then (
            f_L_law_876 (f_L_law_18 SL xs n) SL xs σ44 x3)
          else (
            none)),
        (
          bd (f_X8_undo σ ) fun r45 σ46 =>
          bd (f_X9_undo σ46 ) fun r47 σ48 =>
          if r45 = r47 then (
            f_L_law_876 (f_L_law_18 SL xs n) SL xs σ48 x3)
          else (
            none)),
        (
          ck (x3 + (1 : Int32)) SL <|
          bd (f_X8_rota σ (xs (ix (x3 + (1 : Int32))))) fun r49 σ50 =>
          ck (x3 + (1 : Int32)) SL <|
          bd (f_X9_rota σ50 (xs (ix (x3 + (1 : Int32))))) fun r51 σ52 =>
          if r49 = r51 then (
            f_L_law_876 (f_L_law_18 SL xs n) SL xs σ52 x3)
          else (
            none)),
        (
          ck (x3 + (1 : Int32)) SL <|
          ck (x3 + (2 : Int32)) SL <|
          bd (f_X8_rotaAt σ (xs (ix (x3 + (1 : Int32)))) (xs (ix (x3 + (2 : Int32))))) fun r53 σ54 =>
          ck (x3 + (1 : Int32)) SL <|
          ck (x3 + (2 : Int32)) SL <|
          bd (f_X9_rotaAt σ54 (xs (ix (x3 + (1 : Int32)))) (xs (ix (x3 + (2 : Int32))))) fun r55 σ56 =>
          if r53 = r55 then (
            f_L_law_876 (f_L_law_18 SL xs n) SL xs σ56 x3)
          else (
            none)),
        (
          bd (f_X8_allNod σ ) fun r57 σ58 =>
          bd (f_X9_allNod σ58 ) fun r59 σ60 =>
          if r57 = r59 then (
            f_L_law_876 (f_L_law_18 SL xs n) SL xs σ60 x3)
          else (
            none)),
        (
          ck (x3 + (1 : Int32)) SL <|
          ck (x3 + (2 : Int32)) SL <|
          ck (x3 + (3 : Int32)) SL <|
          if (xs (ix (x3 + (3 : Int32)))) = 0 then (
            f_L_law_604 (f_L_law_18 SL xs n) SL xs σ x3 (0 : Int32) (xs (ix (x3 + (2 : Int32)))) (xs (ix (x3 + (1 : Int32)))))
          else (
            f_L_law_604 (f_L_law_18 SL xs n) SL xs σ x3 (1 : Int32) (xs (ix (x3 + (2 : Int32)))) (xs (ix (x3 + (1 : Int32)))))),
        (
          ck (x3 + (1 : Int32)) SL <|
          ck (x3 + (2 : Int32)) SL <|
          bd (f_X8_plan σ (xs (ix (x3 + (1 : Int32)))) (xs (ix (x3 + (2 : Int32))))) fun r61 σ62 =>
          ck (x3 + (1 : Int32)) SL <|
          ck (x3 + (2 : Int32)) SL <|
          bd (f_X9_plan σ62 (xs (ix (x3 + (1 : Int32)))) (xs (ix (x3 + (2 : Int32))))) fun r63 σ64 =>
          if r61 = r63 then (
            f_L_law_876 (f_L_law_18 SL xs n) SL xs σ64 x3)
          else (
            none)),
        (
          bd (f_X8_weakest σ ) fun r65 σ66 =>
          bd (f_X9_weakest σ66 ) fun r67 σ68 =>
          if r65 = r67 then (
            f_L_law_876 (f_L_law_18 SL xs n) SL xs σ68 x3)
          else (
            none)),
        (
          ck (x3 + (1 : Int32)) SL <|
          if (xs (ix (x3 + (1 : Int32)))) = 0 then (
            f_L_law_700 (f_L_law_18 SL xs n) SL xs σ x3 (0 : Int32))
          else (
            f_L_law_700 (f_L_law_18 SL xs n) SL xs σ x3 (1 : Int32))),
        (
          ck (x3 + (1 : Int32)) SL <|
          ck (x3 + (2 : Int32)) SL <|
          ck (x3 + (3 : Int32)) SL <|
          bd (f_X8_use σ (xs (ix (x3 + (1 : Int32)))) (xs (ix (x3 + (2 : Int32)))) (xs (ix (x3 + (3 : Int32))))) fun r69 σ70 =>
          ck (x3 + (1 : Int32)) SL <|
          ck (x3 + (2 : Int32)) SL <|
          ck (x3 + (3 : Int32)) SL <|
          bd (f_X9_use σ70 (xs (ix (x3 + (1 : Int32)))) (xs (ix (x3 + (2 : Int32)))) (xs (ix (x3 + (3 : Int32))))) fun r71 σ72 =>
          if r69 = r71 then (
            f_L_law_876 (f_L_law_18 SL xs n) SL xs σ72 x3)
          else (
            none)),
        (
          bd (f_X8_burn σ ) fun r73 σ74 =>
          bd (f_X9_burn σ74 ) fun r75 σ76 =>
          if r73 = r75 then (
            f_L_law_876 (f_L_law_18 SL xs n) SL xs σ76 x3)
          else (
            none)),
        (
          bd (f_X8_forged σ ) fun r77 σ78 =>
          bd (f_X9_forged σ78 ) fun r79 σ80 =>
          if r77 = r79 then (
            f_L_law_876 (f_L_law_18 SL xs n) SL xs σ80 x3)
          else (
            none)),
        (
          ck (x3 + (1 : Int32)) SL <|
          bd (f_X8_forgedAt σ (xs (ix (x3 + (1 : Int32))))) fun r81 σ82 =>
          ck (x3 + (1 : Int32)) SL <|
          bd (f_X9_forgedAt σ82 (xs (ix (x3 + (1 : Int32))))) fun r83 σ84 =>
          if r81 = r83 then (
            f_L_law_876 (f_L_law_18 SL xs n) SL xs σ84 x3)
          else (
            none)),
        (
          bd (f_X8_forgers σ ) fun r85 σ86 =>
          bd (f_X9_forgers σ86 ) fun r87 σ88 =>
          if r85 = r87 then (
            f_L_law_876 (f_L_law_18 SL xs n) SL xs σ88 x3)
          else (
            none)),
        (
          ck (x3 + (1 : Int32)) SL <|
          bd (f_X8_keep σ (xs (ix (x3 + (1 : Int32))))) fun r89 σ90 =>
          ck (x3 + (1 : Int32)) SL <|
          bd (f_X9_keep σ90 (xs (ix (x3 + (1 : Int32))))) fun r91 σ92 =>
          if r89 = r91 then (
            f_L_law_876 (f_L_law_18 SL xs n) SL xs σ92 x3)
          else (
            none)),
        (
          ck (x3 + (1 : Int32)) SL <|
          bd (f_X8_again σ (xs (ix (x3 + (1 : Int32))))) fun r93 σ94 =>
          ck (x3 + (1 : Int32)) SL <|
          bd (f_X9_again σ94 (xs (ix (x3 + (1 : Int32))))) fun r95 σ96 =>
          if r93 = r95 then (
            f_L_law_876 (f_L_law_18 SL xs n) SL xs σ96 x3)
          else (
            none))] (
        f_L_law_876 (f_L_law_18 SL xs n) SL xs σ x3))

set_option maxRecDepth 4000 in
theorem vj_L_law_876 {E : Ev} {b : Nat} (C : CX E RL cL_law 4 30) {sb : Nat} {SL : Nat} {xs : Nat → Int32} (LX : LEX E b sb SL xs)  {k18 : Hp → Int32 → Option (Int32 × Hp)} (hk18 : ∀ (σ : Hp) (x3 : Int32) , VJ rvI (QL E) E b 4 σ 18 [(0, .ref sb), (1, .ref (b + 0)), (2, .ref (b + 134)), (3, .int x3)] [] (k18 σ x3)) (σ : Hp) (x3 : Int32)  : VJ rvI (QL E) E b 4 σ 876 [(0, .ref sb), (1, .ref (b + 0)), (2, .ref (b + 134)), (3, .int x3)] [] (f_L_law_876 k18 SL xs σ x3) := by
  unfold f_L_law_876
  refine V_iinc (k := 3) (v := (4 : Int32)) (L' := fun v1 => [(3, .int v1), (0, .ref sb), (1, .ref (b + 0)), (2, .ref (b + 134))]) C dL_law_876 rfl (by decide) (by decide) (fun _ => rfl) (fun v1 => ?_)
  refine V_goto (tgt := 18) C dL_law_879 (by decide) ?_
  exact V_sub [1, 2, 3, 0] rfl (hk18 σ v1)

set_option maxRecDepth 4000 in
theorem vj_L_law_355 {E : Ev} {b : Nat} (C : CX E RL cL_law 4 30) {sb : Nat} {SL : Nat} {xs : Nat → Int32} (LX : LEX E b sb SL xs)  {k18 : Hp → Int32 → Option (Int32 × Hp)} (hk18 : ∀ (σ : Hp) (x3 : Int32) , VJ rvI (QL E) E b 4 σ 18 [(0, .ref sb), (1, .ref (b + 0)), (2, .ref (b + 134)), (3, .int x3)] [] (k18 σ x3)) (σ : Hp) (x3 : Int32) (s0 : Int32) (s1 : Int32) (s3 : Int32)  : VJ rvI (QL E) E b 4 σ 355 [(0, .ref sb), (1, .ref (b + 0)), (2, .ref (b + 134)), (3, .int x3)] [.int s0, .int s1, .ref (b + 134), .int s3] (f_L_law_355 k18 SL xs σ x3 s0 s1 s3) := by
  unfold f_L_law_355
  refine cv_RL_47 C (ln134) ly134 (ct_X9_sick _ _ _ _ _ σ s1 s0) (by decide) rfl rfl (Nat.le_of_ble_eq_true rfl) dL_law_355 (fun r1 σ2 => ?_)
  refine V_icmp_eq (tgt := 876) C dL_law_358 (by decide) ?_ ?_
  · exact V_sub [0, 1, 2, 3] rfl (vj_L_law_876 C LX hk18 σ2 x3)
  · refine V_iconst (v := (0 : Int32)) C dL_law_361 (by decide) ?_
    exact V_none

set_option maxRecDepth 4000 in
theorem vj_L_law_333 {E : Ev} {b : Nat} (C : CX E RL cL_law 4 30) {sb : Nat} {SL : Nat} {xs : Nat → Int32} (LX : LEX E b sb SL xs)  {k18 : Hp → Int32 → Option (Int32 × Hp)} (hk18 : ∀ (σ : Hp) (x3 : Int32) , VJ rvI (QL E) E b 4 σ 18 [(0, .ref sb), (1, .ref (b + 0)), (2, .ref (b + 134)), (3, .int x3)] [] (k18 σ x3)) (σ : Hp) (x3 : Int32) (s0 : Int32) (s1 : Int32)  : VJ rvI (QL E) E b 4 σ 333 [(0, .ref sb), (1, .ref (b + 0)), (2, .ref (b + 134)), (3, .int x3)] [.int s0, .int s1, .ref (b + 0)] (f_L_law_333 k18 SL xs σ x3 s0 s1) := by
  unfold f_L_law_333
  refine cv_RL_43 C (ln0) ly0 (ct_X8_sick _ _ _ _ _ σ s1 s0) (by decide) rfl rfl (Nat.le_of_ble_eq_true rfl) dL_law_333 (fun r1 σ2 => ?_)
  refine V_aload_n C dL_law_336 rfl 2 rfl ?_
  refine V_aload_n C dL_law_337 rfl 0 rfl ?_
  refine V_iload_n C dL_law_338 rfl 3 rfl ?_
  refine V_iconst (v := (1 : Int32)) C dL_law_339 (by decide) ?_
  refine V_iadd C dL_law_340 ?_
  refine V_sld C LX dL_law_341 ?_
  refine V_aload_n C dL_law_342 rfl 0 rfl ?_
  refine V_iload_n C dL_law_343 rfl 3 rfl ?_
  refine V_iconst (v := (2 : Int32)) C dL_law_344 (by decide) ?_
  refine V_iadd C dL_law_345 ?_
  refine V_sld C LX dL_law_346 ?_
  refine V_if_eq (tgt := 354) C dL_law_347 (by decide) ?_ ?_
  · refine V_iconst (v := (0 : Int32)) C dL_law_354 (by decide) ?_
    exact V_sub [0, 1, 2, 3] rfl (vj_L_law_355 C LX hk18 σ2 x3 (0 : Int32) (xs (ix (x3 + (1 : Int32)))) r1)
  · refine V_iconst (v := (1 : Int32)) C dL_law_350 (by decide) ?_
    refine V_goto (tgt := 355) C dL_law_351 (by decide) ?_
    exact V_sub [0, 1, 2, 3] rfl (vj_L_law_355 C LX hk18 σ2 x3 (1 : Int32) (xs (ix (x3 + (1 : Int32)))) r1)

set_option maxRecDepth 4000 in
theorem vj_L_law_631 {E : Ev} {b : Nat} (C : CX E RL cL_law 4 30) {sb : Nat} {SL : Nat} {xs : Nat → Int32} (LX : LEX E b sb SL xs)  {k18 : Hp → Int32 → Option (Int32 × Hp)} (hk18 : ∀ (σ : Hp) (x3 : Int32) , VJ rvI (QL E) E b 4 σ 18 [(0, .ref sb), (1, .ref (b + 0)), (2, .ref (b + 134)), (3, .int x3)] [] (k18 σ x3)) (σ : Hp) (x3 : Int32) (s0 : Int32) (s1 : Int32) (s2 : Int32) (s4 : Int64)  : VJ rvI (QL E) E b 4 σ 631 [(0, .ref sb), (1, .ref (b + 0)), (2, .ref (b + 134)), (3, .int x3)] [.int s0, .int s1, .int s2, .ref (b + 134), .long s4] (f_L_law_631 k18 SL xs σ x3 s0 s1 s2 s4) := by
  unfold f_L_law_631
  refine cv_RL_89 C (ln134) ly134 (ct_X9_chance _ _ _ _ _ σ s2 s1 s0) (by decide) rfl rfl (Nat.le_of_ble_eq_true rfl) dL_law_631 (fun r1 σ2 => ?_)
  refine V_lcmp C dL_law_634 ?_
  refine V_if_eq (tgt := 876) C dL_law_635 (by decide) ?_ ?_
  · exact V_sub [0, 1, 2, 3] rfl (vj_L_law_876 C LX hk18 σ2 x3)
  · refine V_iconst (v := (0 : Int32)) C dL_law_638 (by decide) ?_
    exact V_none

set_option maxRecDepth 4000 in
theorem vj_L_law_604 {E : Ev} {b : Nat} (C : CX E RL cL_law 4 30) {sb : Nat} {SL : Nat} {xs : Nat → Int32} (LX : LEX E b sb SL xs)  {k18 : Hp → Int32 → Option (Int32 × Hp)} (hk18 : ∀ (σ : Hp) (x3 : Int32) , VJ rvI (QL E) E b 4 σ 18 [(0, .ref sb), (1, .ref (b + 0)), (2, .ref (b + 134)), (3, .int x3)] [] (k18 σ x3)) (σ : Hp) (x3 : Int32) (s0 : Int32) (s1 : Int32) (s2 : Int32)  : VJ rvI (QL E) E b 4 σ 604 [(0, .ref sb), (1, .ref (b + 0)), (2, .ref (b + 134)), (3, .int x3)] [.int s0, .int s1, .int s2, .ref (b + 0)] (f_L_law_604 k18 SL xs σ x3 s0 s1 s2) := by
  unfold f_L_law_604
  refine cv_RL_85 C (ln0) ly0 (ct_X8_chance _ _ _ _ _ σ s2 s1 s0) (by decide) rfl rfl (Nat.le_of_ble_eq_true rfl) dL_law_604 (fun r1 σ2 => ?_)
  refine V_aload_n C dL_law_607 rfl 2 rfl ?_
  refine V_aload_n C dL_law_608 rfl 0 rfl ?_
  refine V_iload_n C dL_law_609 rfl 3 rfl ?_
  refine V_iconst (v := (1 : Int32)) C dL_law_610 (by decide) ?_
  refine V_iadd C dL_law_611 ?_
  refine V_sld C LX dL_law_612 ?_
  refine V_aload_n C dL_law_613 rfl 0 rfl ?_
  refine V_iload_n C dL_law_614 rfl 3 rfl ?_
  refine V_iconst (v := (2 : Int32)) C dL_law_615 (by decide) ?_
  refine V_iadd C dL_law_616 ?_
  refine V_sld C LX dL_law_617 ?_
  refine V_aload_n C dL_law_618 rfl 0 rfl ?_
  refine V_iload_n C dL_law_619 rfl 3 rfl ?_
  refine V_iconst (v := (3 : Int32)) C dL_law_620 (by decide) ?_
  refine V_iadd C dL_law_621 ?_
  refine V_sld C LX dL_law_622 ?_
  refine V_if_eq (tgt := 630) C dL_law_623 (by decide) ?_ ?_
  · refine V_iconst (v := (0 : Int32)) C dL_law_630 (by decide) ?_
    exact V_sub [0, 1, 2, 3] rfl (vj_L_law_631 C LX hk18 σ2 x3 (0 : Int32) (xs (ix (x3 + (2 : Int32)))) (xs (ix (x3 + (1 : Int32)))) r1)
  · refine V_iconst (v := (1 : Int32)) C dL_law_626 (by decide) ?_
    refine V_goto (tgt := 631) C dL_law_627 (by decide) ?_
    exact V_sub [0, 1, 2, 3] rfl (vj_L_law_631 C LX hk18 σ2 x3 (1 : Int32) (xs (ix (x3 + (2 : Int32)))) (xs (ix (x3 + (1 : Int32)))) r1)

set_option maxRecDepth 4000 in
theorem vj_L_law_717 {E : Ev} {b : Nat} (C : CX E RL cL_law 4 30) {sb : Nat} {SL : Nat} {xs : Nat → Int32} (LX : LEX E b sb SL xs)  {k18 : Hp → Int32 → Option (Int32 × Hp)} (hk18 : ∀ (σ : Hp) (x3 : Int32) , VJ rvI (QL E) E b 4 σ 18 [(0, .ref sb), (1, .ref (b + 0)), (2, .ref (b + 134)), (3, .int x3)] [] (k18 σ x3)) (σ : Hp) (x3 : Int32) (s0 : Int32) (s2 : Int32)  : VJ rvI (QL E) E b 4 σ 717 [(0, .ref sb), (1, .ref (b + 0)), (2, .ref (b + 134)), (3, .int x3)] [.int s0, .ref (b + 134), .int s2] (f_L_law_717 k18 SL xs σ x3 s0 s2) := by
  unfold f_L_law_717
  refine cv_RL_102 C (ln134) ly134 (ct_X9_settled _ _ _ _ _ σ s0) (by decide) rfl rfl (Nat.le_of_ble_eq_true rfl) dL_law_717 (fun r1 σ2 => ?_)
  refine V_icmp_eq (tgt := 876) C dL_law_720 (by decide) ?_ ?_
  · exact V_sub [0, 1, 2, 3] rfl (vj_L_law_876 C LX hk18 σ2 x3)
  · refine V_iconst (v := (0 : Int32)) C dL_law_723 (by decide) ?_
    exact V_none

set_option maxRecDepth 4000 in
theorem vj_L_law_700 {E : Ev} {b : Nat} (C : CX E RL cL_law 4 30) {sb : Nat} {SL : Nat} {xs : Nat → Int32} (LX : LEX E b sb SL xs)  {k18 : Hp → Int32 → Option (Int32 × Hp)} (hk18 : ∀ (σ : Hp) (x3 : Int32) , VJ rvI (QL E) E b 4 σ 18 [(0, .ref sb), (1, .ref (b + 0)), (2, .ref (b + 134)), (3, .int x3)] [] (k18 σ x3)) (σ : Hp) (x3 : Int32) (s0 : Int32)  : VJ rvI (QL E) E b 4 σ 700 [(0, .ref sb), (1, .ref (b + 0)), (2, .ref (b + 134)), (3, .int x3)] [.int s0, .ref (b + 0)] (f_L_law_700 k18 SL xs σ x3 s0) := by
  unfold f_L_law_700
  refine cv_RL_98 C (ln0) ly0 (ct_X8_settled _ _ _ _ _ σ s0) (by decide) rfl rfl (Nat.le_of_ble_eq_true rfl) dL_law_700 (fun r1 σ2 => ?_)
  refine V_aload_n C dL_law_703 rfl 2 rfl ?_
  refine V_aload_n C dL_law_704 rfl 0 rfl ?_
  refine V_iload_n C dL_law_705 rfl 3 rfl ?_
  refine V_iconst (v := (1 : Int32)) C dL_law_706 (by decide) ?_
  refine V_iadd C dL_law_707 ?_
  refine V_sld C LX dL_law_708 ?_
  refine V_if_eq (tgt := 716) C dL_law_709 (by decide) ?_ ?_
  · refine V_iconst (v := (0 : Int32)) C dL_law_716 (by decide) ?_
    exact V_sub [0, 1, 2, 3] rfl (vj_L_law_717 C LX hk18 σ2 x3 (0 : Int32) r1)
  · refine V_iconst (v := (1 : Int32)) C dL_law_712 (by decide) ?_
    refine V_goto (tgt := 717) C dL_law_713 (by decide) ?_
    exact V_sub [0, 1, 2, 3] rfl (vj_L_law_717 C LX hk18 σ2 x3 (1 : Int32) r1)

set_option maxRecDepth 4000 in
theorem vj_L_law_18 {E : Ev} {b : Nat} (C : CX E RL cL_law 4 30) {sb : Nat} {SL : Nat} {xs : Nat → Int32} (LX : LEX E b sb SL xs)   : ∀ (n : Nat) (σ : Hp) (x3 : Int32) , VJ rvI (QL E) E b 4 σ 18 [(0, .ref sb), (1, .ref (b + 0)), (2, .ref (b + 134)), (3, .int x3)] [] (f_L_law_18 SL xs n σ x3)
  | 0, σ, x3 => V_none
  | n + 1, σ, x3 => by
    show VJ rvI (QL E) E b 4 σ 18 [(0, .ref sb), (1, .ref (b + 0)), (2, .ref (b + 134)), (3, .int x3)] [] (if ((nI SL) - (4 : Int32)) < x3 then (
          some (1, σ))
        else (
          ck x3 SL <|
          swt ((xs (ix x3)) &&& (31 : Int32)) [
            (
              ck (x3 + (1 : Int32)) SL <|
              ck (x3 + (2 : Int32)) SL <|
              ck (x3 + (3 : Int32)) SL <|
              bd (f_X8_write σ (xs (ix (x3 + (1 : Int32)))) ((((xs (ix (x3 + (2 : Int32)))).toInt64) <<< ((32 : Int32).toInt64 &&& 63)) ||| (((xs (ix (x3 + (3 : Int32)))).toInt64) &&& (4294967295 : Int64)))) fun r1 σ2 =>
              ck (x3 + (1 : Int32)) SL <|
              ck (x3 + (2 : Int32)) SL <|
              ck (x3 + (3 : Int32)) SL <|
              bd (f_X9_write σ2 (xs (ix (x3 + (1 : Int32)))) ((((xs (ix (x3 + (2 : Int32)))).toInt64) <<< ((32 : Int32).toInt64 &&& 63)) ||| (((xs (ix (x3 + (3 : Int32)))).toInt64) &&& (4294967295 : Int64)))) fun r3 σ4 =>
              if r1 = r3 then (
                f_L_law_876 (f_L_law_18 SL xs n) SL xs σ4 x3)
              else (
                none)),
            (
              bd (f_X8_wipe σ ) fun r5 σ6 =>
              bd (f_X9_wipe σ6 ) fun r7 σ8 =>
              if r5 = r7 then (
                f_L_law_876 (f_L_law_18 SL xs n) SL xs σ8 x3)
              else (
                none)),
            (
              bd (f_X8_fault σ ) fun r9 σ10 =>
              bd (f_X9_fault σ10 ) fun r11 σ12 =>
              if r9 = r11 then (
                f_L_law_876 (f_L_law_18 SL xs n) SL xs σ12 x3)
              else (
                none)),
            (
              bd (f_X8_fortress σ ) fun r13 σ14 =>
              bd (f_X9_fortress σ14 ) fun r15 σ16 =>
              if r13 = r15 then (
                f_L_law_876 (f_L_law_18 SL xs n) SL xs σ16 x3)
              else (
                none)),
            (
              ck (x3 + (1 : Int32)) SL <|
              bd (f_X8_about σ (xs (ix (x3 + (1 : Int32))))) fun r17 σ18 =>
              ck (x3 + (1 : Int32)) SL <|
              bd (f_X9_about σ18 (xs (ix (x3 + (1 : Int32))))) fun r19 σ20 =>
              if r17 = r19 then (
                f_L_law_876 (f_L_law_18 SL xs n) SL xs σ20 x3)
              else (
                none)),
            (
              ck (x3 + (1 : Int32)) SL <|
              ck (x3 + (2 : Int32)) SL <|
              bd (f_X8_guard σ (xs (ix (x3 + (1 : Int32)))) (xs (ix (x3 + (2 : Int32))))) fun r21 σ22 =>
              ck (x3 + (1 : Int32)) SL <|
              ck (x3 + (2 : Int32)) SL <|
              bd (f_X9_guard σ22 (xs (ix (x3 + (1 : Int32)))) (xs (ix (x3 + (2 : Int32))))) fun r23 σ24 =>
              if r21 = r23 then (
                f_L_law_876 (f_L_law_18 SL xs n) SL xs σ24 x3)
              else (
                none)),
            (
              ck (x3 + (1 : Int32)) SL <|
              ck (x3 + (2 : Int32)) SL <|
              if (xs (ix (x3 + (2 : Int32)))) = 0 then (
                f_L_law_333 (f_L_law_18 SL xs n) SL xs σ x3 (0 : Int32) (xs (ix (x3 + (1 : Int32)))))
              else (
                f_L_law_333 (f_L_law_18 SL xs n) SL xs σ x3 (1 : Int32) (xs (ix (x3 + (1 : Int32)))))),
            (
              ck (x3 + (1 : Int32)) SL <|
              ck (x3 + (2 : Int32)) SL <|
              ck (x3 + (3 : Int32)) SL <|
              bd (f_X8_hand σ (xs (ix (x3 + (1 : Int32)))) (xs (ix (x3 + (2 : Int32)))) (xs (ix (x3 + (3 : Int32))))) fun r25 σ26 =>
              ck (x3 + (1 : Int32)) SL <|
              ck (x3 + (2 : Int32)) SL <|
              ck (x3 + (3 : Int32)) SL <|
              bd (f_X9_hand σ26 (xs (ix (x3 + (1 : Int32)))) (xs (ix (x3 + (2 : Int32)))) (xs (ix (x3 + (3 : Int32))))) fun r27 σ28 =>
              if r25 = r27 then (
                f_L_law_876 (f_L_law_18 SL xs n) SL xs σ28 x3)
              else (
                none)),
            (
              ck (x3 + (1 : Int32)) SL <|
              ck (x3 + (2 : Int32)) SL <|
              bd (f_X8_pay σ (xs (ix (x3 + (1 : Int32)))) (xs (ix (x3 + (2 : Int32))))) fun r29 σ30 =>
              ck (x3 + (1 : Int32)) SL <|
              ck (x3 + (2 : Int32)) SL <|
              bd (f_X9_pay σ30 (xs (ix (x3 + (1 : Int32)))) (xs (ix (x3 + (2 : Int32))))) fun r31 σ32 =>
              if r29 = r31 then (
                f_L_law_876 (f_L_law_18 SL xs n) SL xs σ32 x3)
              else (
                none)),
            (
              ck (x3 + (1 : Int32)) SL <|
              bd (f_X8_may σ (xs (ix (x3 + (1 : Int32))))) fun r33 σ34 =>
              ck (x3 + (1 : Int32)) SL <|
              bd (f_X9_may σ34 (xs (ix (x3 + (1 : Int32))))) fun r35 σ36 =>
              if r33 = r35 then (
                f_L_law_876 (f_L_law_18 SL xs n) SL xs σ36 x3)
              else (
                none)),
            (
              ck (x3 + (1 : Int32)) SL <|
              bd (f_X8_quarter σ (xs (ix (x3 + (1 : Int32))))) fun r37 σ38 =>
              ck (x3 + (1 : Int32)) SL <|
              bd (f_X9_quarter σ38 (xs (ix (x3 + (1 : Int32))))) fun r39 σ40 =>
              if r37 = r39 then (
                f_L_law_876 (f_L_law_18 SL xs n) SL xs σ40 x3)
              else (
                none)),
            (
              bd (f_X8_drum σ ) fun r41 σ42 =>
              bd (f_X9_drum σ42 ) fun r43 σ44 =>
              if r41 = r43 then (
                f_L_law_876 (f_L_law_18 SL xs n) SL xs σ44 x3)
              else (
                none)),
            (
              bd (f_X8_undo σ ) fun r45 σ46 =>
              bd (f_X9_undo σ46 ) fun r47 σ48 =>
              if r45 = r47 then (
                f_L_law_876 (f_L_law_18 SL xs n) SL xs σ48 x3)
              else (
                none)),
            (
              ck (x3 + (1 : Int32)) SL <|
              bd (f_X8_rota σ (xs (ix (x3 + (1 : Int32))))) fun r49 σ50 =>
              ck (x3 + (1 : Int32)) SL <|
              bd (f_X9_rota σ50 (xs (ix (x3 + (1 : Int32))))) fun r51 σ52 =>
              if r49 = r51 then (
                f_L_law_876 (f_L_law_18 SL xs n) SL xs σ52 x3)
              else (
                none)),
            (
              ck (x3 + (1 : Int32)) SL <|
              ck (x3 + (2 : Int32)) SL <|
              bd (f_X8_rotaAt σ (xs (ix (x3 + (1 : Int32)))) (xs (ix (x3 + (2 : Int32))))) fun r53 σ54 =>
              ck (x3 + (1 : Int32)) SL <|
              ck (x3 + (2 : Int32)) SL <|
              bd (f_X9_rotaAt σ54 (xs (ix (x3 + (1 : Int32)))) (xs (ix (x3 + (2 : Int32))))) fun r55 σ56 =>
              if r53 = r55 then (
                f_L_law_876 (f_L_law_18 SL xs n) SL xs σ56 x3)
              else (
                none)),
            (
              bd (f_X8_allNod σ ) fun r57 σ58 =>
              bd (f_X9_allNod σ58 ) fun r59 σ60 =>
              if r57 = r59 then (
                f_L_law_876 (f_L_law_18 SL xs n) SL xs σ60 x3)
              else (
                none)),
            (
              ck (x3 + (1 : Int32)) SL <|
              ck (x3 + (2 : Int32)) SL <|
              ck (x3 + (3 : Int32)) SL <|
              if (xs (ix (x3 + (3 : Int32)))) = 0 then (
                f_L_law_604 (f_L_law_18 SL xs n) SL xs σ x3 (0 : Int32) (xs (ix (x3 + (2 : Int32)))) (xs (ix (x3 + (1 : Int32)))))
              else (
                f_L_law_604 (f_L_law_18 SL xs n) SL xs σ x3 (1 : Int32) (xs (ix (x3 + (2 : Int32)))) (xs (ix (x3 + (1 : Int32)))))),
            (
              ck (x3 + (1 : Int32)) SL <|
              ck (x3 + (2 : Int32)) SL <|
              bd (f_X8_plan σ (xs (ix (x3 + (1 : Int32)))) (xs (ix (x3 + (2 : Int32))))) fun r61 σ62 =>
              ck (x3 + (1 : Int32)) SL <|
              ck (x3 + (2 : Int32)) SL <|
              bd (f_X9_plan σ62 (xs (ix (x3 + (1 : Int32)))) (xs (ix (x3 + (2 : Int32))))) fun r63 σ64 =>
              if r61 = r63 then (
                f_L_law_876 (f_L_law_18 SL xs n) SL xs σ64 x3)
              else (
                none)),
            (
              bd (f_X8_weakest σ ) fun r65 σ66 =>
              bd (f_X9_weakest σ66 ) fun r67 σ68 =>
              if r65 = r67 then (
                f_L_law_876 (f_L_law_18 SL xs n) SL xs σ68 x3)
              else (
                none)),
            (
              ck (x3 + (1 : Int32)) SL <|
              if (xs (ix (x3 + (1 : Int32)))) = 0 then (
                f_L_law_700 (f_L_law_18 SL xs n) SL xs σ x3 (0 : Int32))
              else (
                f_L_law_700 (f_L_law_18 SL xs n) SL xs σ x3 (1 : Int32))),
            (
              ck (x3 + (1 : Int32)) SL <|
              ck (x3 + (2 : Int32)) SL <|
              ck (x3 + (3 : Int32)) SL <|
              bd (f_X8_use σ (xs (ix (x3 + (1 : Int32)))) (xs (ix (x3 + (2 : Int32)))) (xs (ix (x3 + (3 : Int32))))) fun r69 σ70 =>
              ck (x3 + (1 : Int32)) SL <|
              ck (x3 + (2 : Int32)) SL <|
              ck (x3 + (3 : Int32)) SL <|
              bd (f_X9_use σ70 (xs (ix (x3 + (1 : Int32)))) (xs (ix (x3 + (2 : Int32)))) (xs (ix (x3 + (3 : Int32))))) fun r71 σ72 =>
              if r69 = r71 then (
                f_L_law_876 (f_L_law_18 SL xs n) SL xs σ72 x3)
              else (
                none)),
            (
              bd (f_X8_burn σ ) fun r73 σ74 =>
              bd (f_X9_burn σ74 ) fun r75 σ76 =>
              if r73 = r75 then (
                f_L_law_876 (f_L_law_18 SL xs n) SL xs σ76 x3)
              else (
                none)),
            (
              bd (f_X8_forged σ ) fun r77 σ78 =>
              bd (f_X9_forged σ78 ) fun r79 σ80 =>
              if r77 = r79 then (
                f_L_law_876 (f_L_law_18 SL xs n) SL xs σ80 x3)
              else (
                none)),
            (
              ck (x3 + (1 : Int32)) SL <|
              bd (f_X8_forgedAt σ (xs (ix (x3 + (1 : Int32))))) fun r81 σ82 =>
              ck (x3 + (1 : Int32)) SL <|
              bd (f_X9_forgedAt σ82 (xs (ix (x3 + (1 : Int32))))) fun r83 σ84 =>
              if r81 = r83 then (
                f_L_law_876 (f_L_law_18 SL xs n) SL xs σ84 x3)
              else (
                none)),
            (
              bd (f_X8_forgers σ ) fun r85 σ86 =>
              bd (f_X9_forgers σ86 ) fun r87 σ88 =>
              if r85 = r87 then (
                f_L_law_876 (f_L_law_18 SL xs n) SL xs σ88 x3)
              else (
                none)),
            (
              ck (x3 + (1 : Int32)) SL <|
              bd (f_X8_keep σ (xs (ix (x3 + (1 : Int32))))) fun r89 σ90 =>
              ck (x3 + (1 : Int32)) SL <|
              bd (f_X9_keep σ90 (xs (ix (x3 + (1 : Int32))))) fun r91 σ92 =>
              if r89 = r91 then (
                f_L_law_876 (f_L_law_18 SL xs n) SL xs σ92 x3)
              else (
                none)),
            (
              ck (x3 + (1 : Int32)) SL <|
              bd (f_X8_again σ (xs (ix (x3 + (1 : Int32))))) fun r93 σ94 =>
              ck (x3 + (1 : Int32)) SL <|
              bd (f_X9_again σ94 (xs (ix (x3 + (1 : Int32))))) fun r95 σ96 =>
              if r93 = r95 then (
                f_L_law_876 (f_L_law_18 SL xs n) SL xs σ96 x3)
              else (
                none))] (
            f_L_law_876 (f_L_law_18 SL xs n) SL xs σ x3)))
    have ih := vj_L_law_18 C LX  n
    refine V_iload_n C dL_law_18 rfl 3 rfl ?_
    refine V_aload_n C dL_law_19 rfl 0 rfl ?_
    refine V_slen C LX dL_law_20 ?_
    refine V_iconst (v := (4 : Int32)) C dL_law_21 (by decide) ?_
    refine V_isub C dL_law_22 ?_
    refine V_icmp_gt (tgt := 882) C dL_law_23 (by decide) ?_ ?_
    · refine V_iconst (v := (1 : Int32)) C dL_law_882 (by decide) ?_
      exact V_law1 C LX dL_law_883
    · refine V_aload_n C dL_law_26 rfl 0 rfl ?_
      refine V_iload_n C dL_law_27 rfl 3 rfl ?_
      refine V_sld C LX dL_law_28 ?_
      refine V_bipush (v := (31 : Int32)) C dL_law_29 (by decide) ?_
      refine V_iand C dL_law_31 ?_
      refine V_table (dt := 876) C dL_law_32 rfl (by decide) ?_ ?_
      · exact V_sub [0, 1, 2, 3] rfl (vj_L_law_876 C LX ih σ x3)
      · intro k X hX
        match k, hX with
        | 0, hX =>
          cases hX
          refine ⟨124, 156, rfl, by decide, ?_⟩
          refine V_aload_n C dL_law_156 rfl 1 rfl ?_
          refine V_aload_n C dL_law_157 rfl 0 rfl ?_
          refine V_iload_n C dL_law_158 rfl 3 rfl ?_
          refine V_iconst (v := (1 : Int32)) C dL_law_159 (by decide) ?_
          refine V_iadd C dL_law_160 ?_
          refine V_sld C LX dL_law_161 ?_
          refine V_aload_n C dL_law_162 rfl 0 rfl ?_
          refine V_iload_n C dL_law_163 rfl 3 rfl ?_
          refine V_iconst (v := (2 : Int32)) C dL_law_164 (by decide) ?_
          refine V_iadd C dL_law_165 ?_
          refine V_sld C LX dL_law_166 ?_
          refine V_i2l C dL_law_167 ?_
          refine V_bipush (v := (32 : Int32)) C dL_law_168 (by decide) ?_
          refine V_lshl C dL_law_170 ?_
          refine V_aload_n C dL_law_171 rfl 0 rfl ?_
          refine V_iload_n C dL_law_172 rfl 3 rfl ?_
          refine V_iconst (v := (3 : Int32)) C dL_law_173 (by decide) ?_
          refine V_iadd C dL_law_174 ?_
          refine V_sld C LX dL_law_175 ?_
          refine V_i2l C dL_law_176 ?_
          refine V_ldc2 C wk_RL_13 dL_law_177 ?_
          refine V_land C dL_law_180 ?_
          refine V_lor C dL_law_181 ?_
          refine cv_RL_15 C (ln0) ly0 (ct_X8_write _ _ _ _ _ σ (xs (ix (x3 + (1 : Int32)))) ((((xs (ix (x3 + (2 : Int32)))).toInt64) <<< ((32 : Int32).toInt64 &&& 63)) ||| (((xs (ix (x3 + (3 : Int32)))).toInt64) &&& (4294967295 : Int64)))) (by decide) rfl rfl (Nat.le_of_ble_eq_true rfl) dL_law_182 (fun r1 σ2 => ?_)
          refine V_aload_n C dL_law_185 rfl 2 rfl ?_
          refine V_aload_n C dL_law_186 rfl 0 rfl ?_
          refine V_iload_n C dL_law_187 rfl 3 rfl ?_
          refine V_iconst (v := (1 : Int32)) C dL_law_188 (by decide) ?_
          refine V_iadd C dL_law_189 ?_
          refine V_sld C LX dL_law_190 ?_
          refine V_aload_n C dL_law_191 rfl 0 rfl ?_
          refine V_iload_n C dL_law_192 rfl 3 rfl ?_
          refine V_iconst (v := (2 : Int32)) C dL_law_193 (by decide) ?_
          refine V_iadd C dL_law_194 ?_
          refine V_sld C LX dL_law_195 ?_
          refine V_i2l C dL_law_196 ?_
          refine V_bipush (v := (32 : Int32)) C dL_law_197 (by decide) ?_
          refine V_lshl C dL_law_199 ?_
          refine V_aload_n C dL_law_200 rfl 0 rfl ?_
          refine V_iload_n C dL_law_201 rfl 3 rfl ?_
          refine V_iconst (v := (3 : Int32)) C dL_law_202 (by decide) ?_
          refine V_iadd C dL_law_203 ?_
          refine V_sld C LX dL_law_204 ?_
          refine V_i2l C dL_law_205 ?_
          refine V_ldc2 C wk_RL_13 dL_law_206 ?_
          refine V_land C dL_law_209 ?_
          refine V_lor C dL_law_210 ?_
          refine cv_RL_19 C (ln134) ly134 (ct_X9_write _ _ _ _ _ σ2 (xs (ix (x3 + (1 : Int32)))) ((((xs (ix (x3 + (2 : Int32)))).toInt64) <<< ((32 : Int32).toInt64 &&& 63)) ||| (((xs (ix (x3 + (3 : Int32)))).toInt64) &&& (4294967295 : Int64)))) (by decide) rfl rfl (Nat.le_of_ble_eq_true rfl) dL_law_211 (fun r3 σ4 => ?_)
          refine V_icmp_eq (tgt := 876) C dL_law_214 (by decide) ?_ ?_
          · exact V_sub [0, 1, 2, 3] rfl (vj_L_law_876 C LX ih σ4 x3)
          · refine V_iconst (v := (0 : Int32)) C dL_law_217 (by decide) ?_
            exact V_none
        | 1, hX =>
          cases hX
          refine ⟨187, 219, rfl, by decide, ?_⟩
          refine V_aload_n C dL_law_219 rfl 1 rfl ?_
          refine cv_RL_20 C (ln0) ly0 (ct_X8_wipe _ _ _ _ _ σ ) (by decide) rfl rfl (Nat.le_of_ble_eq_true rfl) dL_law_220 (fun r5 σ6 => ?_)
          refine V_aload_n C dL_law_223 rfl 2 rfl ?_
          refine cv_RL_24 C (ln134) ly134 (ct_X9_wipe _ _ _ _ _ σ6 ) (by decide) rfl rfl (Nat.le_of_ble_eq_true rfl) dL_law_224 (fun r7 σ8 => ?_)
          refine V_icmp_eq (tgt := 876) C dL_law_227 (by decide) ?_ ?_
          · exact V_sub [0, 1, 2, 3] rfl (vj_L_law_876 C LX ih σ8 x3)
          · refine V_iconst (v := (0 : Int32)) C dL_law_230 (by decide) ?_
            exact V_none
        | 2, hX =>
          cases hX
          refine ⟨200, 232, rfl, by decide, ?_⟩
          refine V_aload_n C dL_law_232 rfl 1 rfl ?_
          refine cv_RL_25 C (ln0) ly0 (ct_X8_fault _ _ _ _ _ σ ) (by decide) rfl rfl (Nat.le_of_ble_eq_true rfl) dL_law_233 (fun r9 σ10 => ?_)
          refine V_aload_n C dL_law_236 rfl 2 rfl ?_
          refine cv_RL_28 C (ln134) ly134 (ct_X9_fault _ _ _ _ _ σ10 ) (by decide) rfl rfl (Nat.le_of_ble_eq_true rfl) dL_law_237 (fun r11 σ12 => ?_)
          refine V_icmp_eq (tgt := 876) C dL_law_240 (by decide) ?_ ?_
          · exact V_sub [0, 1, 2, 3] rfl (vj_L_law_876 C LX ih σ12 x3)
          · refine V_iconst (v := (0 : Int32)) C dL_law_243 (by decide) ?_
            exact V_none
        | 3, hX =>
          cases hX
          refine ⟨213, 245, rfl, by decide, ?_⟩
          refine V_aload_n C dL_law_245 rfl 1 rfl ?_
          refine cv_RL_29 C (ln0) ly0 (ct_X8_fortress _ _ _ _ _ σ ) (by decide) rfl rfl (Nat.le_of_ble_eq_true rfl) dL_law_246 (fun r13 σ14 => ?_)
          refine V_aload_n C dL_law_249 rfl 2 rfl ?_
          refine cv_RL_32 C (ln134) ly134 (ct_X9_fortress _ _ _ _ _ σ14 ) (by decide) rfl rfl (Nat.le_of_ble_eq_true rfl) dL_law_250 (fun r15 σ16 => ?_)
          refine V_icmp_eq (tgt := 876) C dL_law_253 (by decide) ?_ ?_
          · exact V_sub [0, 1, 2, 3] rfl (vj_L_law_876 C LX ih σ16 x3)
          · refine V_iconst (v := (0 : Int32)) C dL_law_256 (by decide) ?_
            exact V_none
        | 4, hX =>
          cases hX
          refine ⟨226, 258, rfl, by decide, ?_⟩
          refine V_aload_n C dL_law_258 rfl 1 rfl ?_
          refine V_aload_n C dL_law_259 rfl 0 rfl ?_
          refine V_iload_n C dL_law_260 rfl 3 rfl ?_
          refine V_iconst (v := (1 : Int32)) C dL_law_261 (by decide) ?_
          refine V_iadd C dL_law_262 ?_
          refine V_sld C LX dL_law_263 ?_
          refine cv_RL_33 C (ln0) ly0 (ct_X8_about _ _ _ _ _ σ (xs (ix (x3 + (1 : Int32))))) (by decide) rfl rfl (Nat.le_of_ble_eq_true rfl) dL_law_264 (fun r17 σ18 => ?_)
          refine V_aload_n C dL_law_267 rfl 2 rfl ?_
          refine V_aload_n C dL_law_268 rfl 0 rfl ?_
          refine V_iload_n C dL_law_269 rfl 3 rfl ?_
          refine V_iconst (v := (1 : Int32)) C dL_law_270 (by decide) ?_
          refine V_iadd C dL_law_271 ?_
          refine V_sld C LX dL_law_272 ?_
          refine cv_RL_37 C (ln134) ly134 (ct_X9_about _ _ _ _ _ σ18 (xs (ix (x3 + (1 : Int32))))) (by decide) rfl rfl (Nat.le_of_ble_eq_true rfl) dL_law_273 (fun r19 σ20 => ?_)
          refine V_icmp_eq (tgt := 876) C dL_law_276 (by decide) ?_ ?_
          · exact V_sub [0, 1, 2, 3] rfl (vj_L_law_876 C LX ih σ20 x3)
          · refine V_iconst (v := (0 : Int32)) C dL_law_279 (by decide) ?_
            exact V_none
        | 5, hX =>
          cases hX
          refine ⟨249, 281, rfl, by decide, ?_⟩
          refine V_aload_n C dL_law_281 rfl 1 rfl ?_
          refine V_aload_n C dL_law_282 rfl 0 rfl ?_
          refine V_iload_n C dL_law_283 rfl 3 rfl ?_
          refine V_iconst (v := (1 : Int32)) C dL_law_284 (by decide) ?_
          refine V_iadd C dL_law_285 ?_
          refine V_sld C LX dL_law_286 ?_
          refine V_aload_n C dL_law_287 rfl 0 rfl ?_
          refine V_iload_n C dL_law_288 rfl 3 rfl ?_
          refine V_iconst (v := (2 : Int32)) C dL_law_289 (by decide) ?_
          refine V_iadd C dL_law_290 ?_
          refine V_sld C LX dL_law_291 ?_
          refine cv_RL_38 C (ln0) ly0 (ct_X8_guard _ _ _ _ _ σ (xs (ix (x3 + (1 : Int32)))) (xs (ix (x3 + (2 : Int32))))) (by decide) rfl rfl (Nat.le_of_ble_eq_true rfl) dL_law_292 (fun r21 σ22 => ?_)
          refine V_aload_n C dL_law_295 rfl 2 rfl ?_
          refine V_aload_n C dL_law_296 rfl 0 rfl ?_
          refine V_iload_n C dL_law_297 rfl 3 rfl ?_
          refine V_iconst (v := (1 : Int32)) C dL_law_298 (by decide) ?_
          refine V_iadd C dL_law_299 ?_
          refine V_sld C LX dL_law_300 ?_
          refine V_aload_n C dL_law_301 rfl 0 rfl ?_
          refine V_iload_n C dL_law_302 rfl 3 rfl ?_
          refine V_iconst (v := (2 : Int32)) C dL_law_303 (by decide) ?_
          refine V_iadd C dL_law_304 ?_
          refine V_sld C LX dL_law_305 ?_
          refine cv_RL_42 C (ln134) ly134 (ct_X9_guard _ _ _ _ _ σ22 (xs (ix (x3 + (1 : Int32)))) (xs (ix (x3 + (2 : Int32))))) (by decide) rfl rfl (Nat.le_of_ble_eq_true rfl) dL_law_306 (fun r23 σ24 => ?_)
          refine V_icmp_eq (tgt := 876) C dL_law_309 (by decide) ?_ ?_
          · exact V_sub [0, 1, 2, 3] rfl (vj_L_law_876 C LX ih σ24 x3)
          · refine V_iconst (v := (0 : Int32)) C dL_law_312 (by decide) ?_
            exact V_none
        | 6, hX =>
          cases hX
          refine ⟨282, 314, rfl, by decide, ?_⟩
          refine V_aload_n C dL_law_314 rfl 1 rfl ?_
          refine V_aload_n C dL_law_315 rfl 0 rfl ?_
          refine V_iload_n C dL_law_316 rfl 3 rfl ?_
          refine V_iconst (v := (1 : Int32)) C dL_law_317 (by decide) ?_
          refine V_iadd C dL_law_318 ?_
          refine V_sld C LX dL_law_319 ?_
          refine V_aload_n C dL_law_320 rfl 0 rfl ?_
          refine V_iload_n C dL_law_321 rfl 3 rfl ?_
          refine V_iconst (v := (2 : Int32)) C dL_law_322 (by decide) ?_
          refine V_iadd C dL_law_323 ?_
          refine V_sld C LX dL_law_324 ?_
          refine V_if_eq (tgt := 332) C dL_law_325 (by decide) ?_ ?_
          · refine V_iconst (v := (0 : Int32)) C dL_law_332 (by decide) ?_
            exact V_sub [0, 1, 2, 3] rfl (vj_L_law_333 C LX ih σ x3 (0 : Int32) (xs (ix (x3 + (1 : Int32)))))
          · refine V_iconst (v := (1 : Int32)) C dL_law_328 (by decide) ?_
            refine V_goto (tgt := 333) C dL_law_329 (by decide) ?_
            exact V_sub [0, 1, 2, 3] rfl (vj_L_law_333 C LX ih σ x3 (1 : Int32) (xs (ix (x3 + (1 : Int32)))))
        | 7, hX =>
          cases hX
          refine ⟨331, 363, rfl, by decide, ?_⟩
          refine V_aload_n C dL_law_363 rfl 1 rfl ?_
          refine V_aload_n C dL_law_364 rfl 0 rfl ?_
          refine V_iload_n C dL_law_365 rfl 3 rfl ?_
          refine V_iconst (v := (1 : Int32)) C dL_law_366 (by decide) ?_
          refine V_iadd C dL_law_367 ?_
          refine V_sld C LX dL_law_368 ?_
          refine V_aload_n C dL_law_369 rfl 0 rfl ?_
          refine V_iload_n C dL_law_370 rfl 3 rfl ?_
          refine V_iconst (v := (2 : Int32)) C dL_law_371 (by decide) ?_
          refine V_iadd C dL_law_372 ?_
          refine V_sld C LX dL_law_373 ?_
          refine V_aload_n C dL_law_374 rfl 0 rfl ?_
          refine V_iload_n C dL_law_375 rfl 3 rfl ?_
          refine V_iconst (v := (3 : Int32)) C dL_law_376 (by decide) ?_
          refine V_iadd C dL_law_377 ?_
          refine V_sld C LX dL_law_378 ?_
          refine cv_RL_48 C (ln0) ly0 (ct_X8_hand _ _ _ _ _ σ (xs (ix (x3 + (1 : Int32)))) (xs (ix (x3 + (2 : Int32)))) (xs (ix (x3 + (3 : Int32))))) (by decide) rfl rfl (Nat.le_of_ble_eq_true rfl) dL_law_379 (fun r25 σ26 => ?_)
          refine V_aload_n C dL_law_382 rfl 2 rfl ?_
          refine V_aload_n C dL_law_383 rfl 0 rfl ?_
          refine V_iload_n C dL_law_384 rfl 3 rfl ?_
          refine V_iconst (v := (1 : Int32)) C dL_law_385 (by decide) ?_
          refine V_iadd C dL_law_386 ?_
          refine V_sld C LX dL_law_387 ?_
          refine V_aload_n C dL_law_388 rfl 0 rfl ?_
          refine V_iload_n C dL_law_389 rfl 3 rfl ?_
          refine V_iconst (v := (2 : Int32)) C dL_law_390 (by decide) ?_
          refine V_iadd C dL_law_391 ?_
          refine V_sld C LX dL_law_392 ?_
          refine V_aload_n C dL_law_393 rfl 0 rfl ?_
          refine V_iload_n C dL_law_394 rfl 3 rfl ?_
          refine V_iconst (v := (3 : Int32)) C dL_law_395 (by decide) ?_
          refine V_iadd C dL_law_396 ?_
          refine V_sld C LX dL_law_397 ?_
          refine cv_RL_52 C (ln134) ly134 (ct_X9_hand _ _ _ _ _ σ26 (xs (ix (x3 + (1 : Int32)))) (xs (ix (x3 + (2 : Int32)))) (xs (ix (x3 + (3 : Int32))))) (by decide) rfl rfl (Nat.le_of_ble_eq_true rfl) dL_law_398 (fun r27 σ28 => ?_)
          refine V_icmp_eq (tgt := 876) C dL_law_401 (by decide) ?_ ?_
          · exact V_sub [0, 1, 2, 3] rfl (vj_L_law_876 C LX ih σ28 x3)
          · refine V_iconst (v := (0 : Int32)) C dL_law_404 (by decide) ?_
            exact V_none
        | 8, hX =>
          cases hX
          refine ⟨374, 406, rfl, by decide, ?_⟩
          refine V_aload_n C dL_law_406 rfl 1 rfl ?_
          refine V_aload_n C dL_law_407 rfl 0 rfl ?_
          refine V_iload_n C dL_law_408 rfl 3 rfl ?_
          refine V_iconst (v := (1 : Int32)) C dL_law_409 (by decide) ?_
          refine V_iadd C dL_law_410 ?_
          refine V_sld C LX dL_law_411 ?_
          refine V_aload_n C dL_law_412 rfl 0 rfl ?_
          refine V_iload_n C dL_law_413 rfl 3 rfl ?_
          refine V_iconst (v := (2 : Int32)) C dL_law_414 (by decide) ?_
          refine V_iadd C dL_law_415 ?_
          refine V_sld C LX dL_law_416 ?_
          refine cv_RL_53 C (ln0) ly0 (ct_X8_pay _ _ _ _ _ σ (xs (ix (x3 + (1 : Int32)))) (xs (ix (x3 + (2 : Int32))))) (by decide) rfl rfl (Nat.le_of_ble_eq_true rfl) dL_law_417 (fun r29 σ30 => ?_)
          refine V_aload_n C dL_law_420 rfl 2 rfl ?_
          refine V_aload_n C dL_law_421 rfl 0 rfl ?_
          refine V_iload_n C dL_law_422 rfl 3 rfl ?_
          refine V_iconst (v := (1 : Int32)) C dL_law_423 (by decide) ?_
          refine V_iadd C dL_law_424 ?_
          refine V_sld C LX dL_law_425 ?_
          refine V_aload_n C dL_law_426 rfl 0 rfl ?_
          refine V_iload_n C dL_law_427 rfl 3 rfl ?_
          refine V_iconst (v := (2 : Int32)) C dL_law_428 (by decide) ?_
          refine V_iadd C dL_law_429 ?_
          refine V_sld C LX dL_law_430 ?_
          refine cv_RL_56 C (ln134) ly134 (ct_X9_pay _ _ _ _ _ σ30 (xs (ix (x3 + (1 : Int32)))) (xs (ix (x3 + (2 : Int32))))) (by decide) rfl rfl (Nat.le_of_ble_eq_true rfl) dL_law_431 (fun r31 σ32 => ?_)
          refine V_icmp_eq (tgt := 876) C dL_law_434 (by decide) ?_ ?_
          · exact V_sub [0, 1, 2, 3] rfl (vj_L_law_876 C LX ih σ32 x3)
          · refine V_iconst (v := (0 : Int32)) C dL_law_437 (by decide) ?_
            exact V_none
        | 9, hX =>
          cases hX
          refine ⟨407, 439, rfl, by decide, ?_⟩
          refine V_aload_n C dL_law_439 rfl 1 rfl ?_
          refine V_aload_n C dL_law_440 rfl 0 rfl ?_
          refine V_iload_n C dL_law_441 rfl 3 rfl ?_
          refine V_iconst (v := (1 : Int32)) C dL_law_442 (by decide) ?_
          refine V_iadd C dL_law_443 ?_
          refine V_sld C LX dL_law_444 ?_
          refine cv_RL_57 C (ln0) ly0 (ct_X8_may _ _ _ _ _ σ (xs (ix (x3 + (1 : Int32))))) (by decide) rfl rfl (Nat.le_of_ble_eq_true rfl) dL_law_445 (fun r33 σ34 => ?_)
          refine V_aload_n C dL_law_448 rfl 2 rfl ?_
          refine V_aload_n C dL_law_449 rfl 0 rfl ?_
          refine V_iload_n C dL_law_450 rfl 3 rfl ?_
          refine V_iconst (v := (1 : Int32)) C dL_law_451 (by decide) ?_
          refine V_iadd C dL_law_452 ?_
          refine V_sld C LX dL_law_453 ?_
          refine cv_RL_60 C (ln134) ly134 (ct_X9_may _ _ _ _ _ σ34 (xs (ix (x3 + (1 : Int32))))) (by decide) rfl rfl (Nat.le_of_ble_eq_true rfl) dL_law_454 (fun r35 σ36 => ?_)
          refine V_icmp_eq (tgt := 876) C dL_law_457 (by decide) ?_ ?_
          · exact V_sub [0, 1, 2, 3] rfl (vj_L_law_876 C LX ih σ36 x3)
          · refine V_iconst (v := (0 : Int32)) C dL_law_460 (by decide) ?_
            exact V_none
        | 10, hX =>
          cases hX
          refine ⟨430, 462, rfl, by decide, ?_⟩
          refine V_aload_n C dL_law_462 rfl 1 rfl ?_
          refine V_aload_n C dL_law_463 rfl 0 rfl ?_
          refine V_iload_n C dL_law_464 rfl 3 rfl ?_
          refine V_iconst (v := (1 : Int32)) C dL_law_465 (by decide) ?_
          refine V_iadd C dL_law_466 ?_
          refine V_sld C LX dL_law_467 ?_
          refine cv_RL_61 C (ln0) ly0 (ct_X8_quarter _ _ _ _ _ σ (xs (ix (x3 + (1 : Int32))))) (by decide) rfl rfl (Nat.le_of_ble_eq_true rfl) dL_law_468 (fun r37 σ38 => ?_)
          refine V_aload_n C dL_law_471 rfl 2 rfl ?_
          refine V_aload_n C dL_law_472 rfl 0 rfl ?_
          refine V_iload_n C dL_law_473 rfl 3 rfl ?_
          refine V_iconst (v := (1 : Int32)) C dL_law_474 (by decide) ?_
          refine V_iadd C dL_law_475 ?_
          refine V_sld C LX dL_law_476 ?_
          refine cv_RL_64 C (ln134) ly134 (ct_X9_quarter _ _ _ _ _ σ38 (xs (ix (x3 + (1 : Int32))))) (by decide) rfl rfl (Nat.le_of_ble_eq_true rfl) dL_law_477 (fun r39 σ40 => ?_)
          refine V_icmp_eq (tgt := 876) C dL_law_480 (by decide) ?_ ?_
          · exact V_sub [0, 1, 2, 3] rfl (vj_L_law_876 C LX ih σ40 x3)
          · refine V_iconst (v := (0 : Int32)) C dL_law_483 (by decide) ?_
            exact V_none
        | 11, hX =>
          cases hX
          refine ⟨453, 485, rfl, by decide, ?_⟩
          refine V_aload_n C dL_law_485 rfl 1 rfl ?_
          refine cv_RL_65 C (ln0) ly0 (ct_X8_drum _ _ _ _ _ σ ) (by decide) rfl rfl (Nat.le_of_ble_eq_true rfl) dL_law_486 (fun r41 σ42 => ?_)
          refine V_aload_n C dL_law_489 rfl 2 rfl ?_
          refine cv_RL_68 C (ln134) ly134 (ct_X9_drum _ _ _ _ _ σ42 ) (by decide) rfl rfl (Nat.le_of_ble_eq_true rfl) dL_law_490 (fun r43 σ44 => ?_)
          refine V_icmp_eq (tgt := 876) C dL_law_493 (by decide) ?_ ?_
          · exact V_sub [0, 1, 2, 3] rfl (vj_L_law_876 C LX ih σ44 x3)
          · refine V_iconst (v := (0 : Int32)) C dL_law_496 (by decide) ?_
            exact V_none
        | 12, hX =>
          cases hX
          refine ⟨466, 498, rfl, by decide, ?_⟩
          refine V_aload_n C dL_law_498 rfl 1 rfl ?_
          refine cv_RL_69 C (ln0) ly0 (ct_X8_undo _ _ _ _ _ σ ) (by decide) rfl rfl (Nat.le_of_ble_eq_true rfl) dL_law_499 (fun r45 σ46 => ?_)
          refine V_aload_n C dL_law_502 rfl 2 rfl ?_
          refine cv_RL_72 C (ln134) ly134 (ct_X9_undo _ _ _ _ _ σ46 ) (by decide) rfl rfl (Nat.le_of_ble_eq_true rfl) dL_law_503 (fun r47 σ48 => ?_)
          refine V_icmp_eq (tgt := 876) C dL_law_506 (by decide) ?_ ?_
          · exact V_sub [0, 1, 2, 3] rfl (vj_L_law_876 C LX ih σ48 x3)
          · refine V_iconst (v := (0 : Int32)) C dL_law_509 (by decide) ?_
            exact V_none
        | 13, hX =>
          cases hX
          refine ⟨479, 511, rfl, by decide, ?_⟩
          refine V_aload_n C dL_law_511 rfl 1 rfl ?_
          refine V_aload_n C dL_law_512 rfl 0 rfl ?_
          refine V_iload_n C dL_law_513 rfl 3 rfl ?_
          refine V_iconst (v := (1 : Int32)) C dL_law_514 (by decide) ?_
          refine V_iadd C dL_law_515 ?_
          refine V_sld C LX dL_law_516 ?_
          refine cv_RL_73 C (ln0) ly0 (ct_X8_rota _ _ _ _ _ σ (xs (ix (x3 + (1 : Int32))))) (by decide) rfl rfl (Nat.le_of_ble_eq_true rfl) dL_law_517 (fun r49 σ50 => ?_)
          refine V_aload_n C dL_law_520 rfl 2 rfl ?_
          refine V_aload_n C dL_law_521 rfl 0 rfl ?_
          refine V_iload_n C dL_law_522 rfl 3 rfl ?_
          refine V_iconst (v := (1 : Int32)) C dL_law_523 (by decide) ?_
          refine V_iadd C dL_law_524 ?_
          refine V_sld C LX dL_law_525 ?_
          refine cv_RL_76 C (ln134) ly134 (ct_X9_rota _ _ _ _ _ σ50 (xs (ix (x3 + (1 : Int32))))) (by decide) rfl rfl (Nat.le_of_ble_eq_true rfl) dL_law_526 (fun r51 σ52 => ?_)
          refine V_icmp_eq (tgt := 876) C dL_law_529 (by decide) ?_ ?_
          · exact V_sub [0, 1, 2, 3] rfl (vj_L_law_876 C LX ih σ52 x3)
          · refine V_iconst (v := (0 : Int32)) C dL_law_532 (by decide) ?_
            exact V_none
        | 14, hX =>
          cases hX
          refine ⟨502, 534, rfl, by decide, ?_⟩
          refine V_aload_n C dL_law_534 rfl 1 rfl ?_
          refine V_aload_n C dL_law_535 rfl 0 rfl ?_
          refine V_iload_n C dL_law_536 rfl 3 rfl ?_
          refine V_iconst (v := (1 : Int32)) C dL_law_537 (by decide) ?_
          refine V_iadd C dL_law_538 ?_
          refine V_sld C LX dL_law_539 ?_
          refine V_aload_n C dL_law_540 rfl 0 rfl ?_
          refine V_iload_n C dL_law_541 rfl 3 rfl ?_
          refine V_iconst (v := (2 : Int32)) C dL_law_542 (by decide) ?_
          refine V_iadd C dL_law_543 ?_
          refine V_sld C LX dL_law_544 ?_
          refine cv_RL_77 C (ln0) ly0 (ct_X8_rotaAt _ _ _ _ _ σ (xs (ix (x3 + (1 : Int32)))) (xs (ix (x3 + (2 : Int32))))) (by decide) rfl rfl (Nat.le_of_ble_eq_true rfl) dL_law_545 (fun r53 σ54 => ?_)
          refine V_aload_n C dL_law_548 rfl 2 rfl ?_
          refine V_aload_n C dL_law_549 rfl 0 rfl ?_
          refine V_iload_n C dL_law_550 rfl 3 rfl ?_
          refine V_iconst (v := (1 : Int32)) C dL_law_551 (by decide) ?_
          refine V_iadd C dL_law_552 ?_
          refine V_sld C LX dL_law_553 ?_
          refine V_aload_n C dL_law_554 rfl 0 rfl ?_
          refine V_iload_n C dL_law_555 rfl 3 rfl ?_
          refine V_iconst (v := (2 : Int32)) C dL_law_556 (by decide) ?_
          refine V_iadd C dL_law_557 ?_
          refine V_sld C LX dL_law_558 ?_
          refine cv_RL_80 C (ln134) ly134 (ct_X9_rotaAt _ _ _ _ _ σ54 (xs (ix (x3 + (1 : Int32)))) (xs (ix (x3 + (2 : Int32))))) (by decide) rfl rfl (Nat.le_of_ble_eq_true rfl) dL_law_559 (fun r55 σ56 => ?_)
          refine V_icmp_eq (tgt := 876) C dL_law_562 (by decide) ?_ ?_
          · exact V_sub [0, 1, 2, 3] rfl (vj_L_law_876 C LX ih σ56 x3)
          · refine V_iconst (v := (0 : Int32)) C dL_law_565 (by decide) ?_
            exact V_none
        | 15, hX =>
          cases hX
          refine ⟨535, 567, rfl, by decide, ?_⟩
          refine V_aload_n C dL_law_567 rfl 1 rfl ?_
          refine cv_RL_81 C (ln0) ly0 (ct_X8_allNod _ _ _ _ _ σ ) (by decide) rfl rfl (Nat.le_of_ble_eq_true rfl) dL_law_568 (fun r57 σ58 => ?_)
          refine V_aload_n C dL_law_571 rfl 2 rfl ?_
          refine cv_RL_84 C (ln134) ly134 (ct_X9_allNod _ _ _ _ _ σ58 ) (by decide) rfl rfl (Nat.le_of_ble_eq_true rfl) dL_law_572 (fun r59 σ60 => ?_)
          refine V_icmp_eq (tgt := 876) C dL_law_575 (by decide) ?_ ?_
          · exact V_sub [0, 1, 2, 3] rfl (vj_L_law_876 C LX ih σ60 x3)
          · refine V_iconst (v := (0 : Int32)) C dL_law_578 (by decide) ?_
            exact V_none
        | 16, hX =>
          cases hX
          refine ⟨548, 580, rfl, by decide, ?_⟩
          refine V_aload_n C dL_law_580 rfl 1 rfl ?_
          refine V_aload_n C dL_law_581 rfl 0 rfl ?_
          refine V_iload_n C dL_law_582 rfl 3 rfl ?_
          refine V_iconst (v := (1 : Int32)) C dL_law_583 (by decide) ?_
          refine V_iadd C dL_law_584 ?_
          refine V_sld C LX dL_law_585 ?_
          refine V_aload_n C dL_law_586 rfl 0 rfl ?_
          refine V_iload_n C dL_law_587 rfl 3 rfl ?_
          refine V_iconst (v := (2 : Int32)) C dL_law_588 (by decide) ?_
          refine V_iadd C dL_law_589 ?_
          refine V_sld C LX dL_law_590 ?_
          refine V_aload_n C dL_law_591 rfl 0 rfl ?_
          refine V_iload_n C dL_law_592 rfl 3 rfl ?_
          refine V_iconst (v := (3 : Int32)) C dL_law_593 (by decide) ?_
          refine V_iadd C dL_law_594 ?_
          refine V_sld C LX dL_law_595 ?_
          refine V_if_eq (tgt := 603) C dL_law_596 (by decide) ?_ ?_
          · refine V_iconst (v := (0 : Int32)) C dL_law_603 (by decide) ?_
            exact V_sub [0, 1, 2, 3] rfl (vj_L_law_604 C LX ih σ x3 (0 : Int32) (xs (ix (x3 + (2 : Int32)))) (xs (ix (x3 + (1 : Int32)))))
          · refine V_iconst (v := (1 : Int32)) C dL_law_599 (by decide) ?_
            refine V_goto (tgt := 604) C dL_law_600 (by decide) ?_
            exact V_sub [0, 1, 2, 3] rfl (vj_L_law_604 C LX ih σ x3 (1 : Int32) (xs (ix (x3 + (2 : Int32)))) (xs (ix (x3 + (1 : Int32)))))
        | 17, hX =>
          cases hX
          refine ⟨608, 640, rfl, by decide, ?_⟩
          refine V_aload_n C dL_law_640 rfl 1 rfl ?_
          refine V_aload_n C dL_law_641 rfl 0 rfl ?_
          refine V_iload_n C dL_law_642 rfl 3 rfl ?_
          refine V_iconst (v := (1 : Int32)) C dL_law_643 (by decide) ?_
          refine V_iadd C dL_law_644 ?_
          refine V_sld C LX dL_law_645 ?_
          refine V_aload_n C dL_law_646 rfl 0 rfl ?_
          refine V_iload_n C dL_law_647 rfl 3 rfl ?_
          refine V_iconst (v := (2 : Int32)) C dL_law_648 (by decide) ?_
          refine V_iadd C dL_law_649 ?_
          refine V_sld C LX dL_law_650 ?_
          refine cv_RL_90 C (ln0) ly0 (ct_X8_plan _ _ _ _ _ σ (xs (ix (x3 + (1 : Int32)))) (xs (ix (x3 + (2 : Int32))))) (by decide) rfl rfl (Nat.le_of_ble_eq_true rfl) dL_law_651 (fun r61 σ62 => ?_)
          refine V_aload_n C dL_law_654 rfl 2 rfl ?_
          refine V_aload_n C dL_law_655 rfl 0 rfl ?_
          refine V_iload_n C dL_law_656 rfl 3 rfl ?_
          refine V_iconst (v := (1 : Int32)) C dL_law_657 (by decide) ?_
          refine V_iadd C dL_law_658 ?_
          refine V_sld C LX dL_law_659 ?_
          refine V_aload_n C dL_law_660 rfl 0 rfl ?_
          refine V_iload_n C dL_law_661 rfl 3 rfl ?_
          refine V_iconst (v := (2 : Int32)) C dL_law_662 (by decide) ?_
          refine V_iadd C dL_law_663 ?_
          refine V_sld C LX dL_law_664 ?_
          refine cv_RL_93 C (ln134) ly134 (ct_X9_plan _ _ _ _ _ σ62 (xs (ix (x3 + (1 : Int32)))) (xs (ix (x3 + (2 : Int32))))) (by decide) rfl rfl (Nat.le_of_ble_eq_true rfl) dL_law_665 (fun r63 σ64 => ?_)
          refine V_icmp_eq (tgt := 876) C dL_law_668 (by decide) ?_ ?_
          · exact V_sub [0, 1, 2, 3] rfl (vj_L_law_876 C LX ih σ64 x3)
          · refine V_iconst (v := (0 : Int32)) C dL_law_671 (by decide) ?_
            exact V_none
        | 18, hX =>
          cases hX
          refine ⟨641, 673, rfl, by decide, ?_⟩
          refine V_aload_n C dL_law_673 rfl 1 rfl ?_
          refine cv_RL_94 C (ln0) ly0 (ct_X8_weakest _ _ _ _ _ σ ) (by decide) rfl rfl (Nat.le_of_ble_eq_true rfl) dL_law_674 (fun r65 σ66 => ?_)
          refine V_aload_n C dL_law_677 rfl 2 rfl ?_
          refine cv_RL_97 C (ln134) ly134 (ct_X9_weakest _ _ _ _ _ σ66 ) (by decide) rfl rfl (Nat.le_of_ble_eq_true rfl) dL_law_678 (fun r67 σ68 => ?_)
          refine V_icmp_eq (tgt := 876) C dL_law_681 (by decide) ?_ ?_
          · exact V_sub [0, 1, 2, 3] rfl (vj_L_law_876 C LX ih σ68 x3)
          · refine V_iconst (v := (0 : Int32)) C dL_law_684 (by decide) ?_
            exact V_none
        | 19, hX =>
          cases hX
          refine ⟨654, 686, rfl, by decide, ?_⟩
          refine V_aload_n C dL_law_686 rfl 1 rfl ?_
          refine V_aload_n C dL_law_687 rfl 0 rfl ?_
          refine V_iload_n C dL_law_688 rfl 3 rfl ?_
          refine V_iconst (v := (1 : Int32)) C dL_law_689 (by decide) ?_
          refine V_iadd C dL_law_690 ?_
          refine V_sld C LX dL_law_691 ?_
          refine V_if_eq (tgt := 699) C dL_law_692 (by decide) ?_ ?_
          · refine V_iconst (v := (0 : Int32)) C dL_law_699 (by decide) ?_
            exact V_sub [0, 1, 2, 3] rfl (vj_L_law_700 C LX ih σ x3 (0 : Int32))
          · refine V_iconst (v := (1 : Int32)) C dL_law_695 (by decide) ?_
            refine V_goto (tgt := 700) C dL_law_696 (by decide) ?_
            exact V_sub [0, 1, 2, 3] rfl (vj_L_law_700 C LX ih σ x3 (1 : Int32))
        | 20, hX =>
          cases hX
          refine ⟨693, 725, rfl, by decide, ?_⟩
          refine V_aload_n C dL_law_725 rfl 1 rfl ?_
          refine V_aload_n C dL_law_726 rfl 0 rfl ?_
          refine V_iload_n C dL_law_727 rfl 3 rfl ?_
          refine V_iconst (v := (1 : Int32)) C dL_law_728 (by decide) ?_
          refine V_iadd C dL_law_729 ?_
          refine V_sld C LX dL_law_730 ?_
          refine V_aload_n C dL_law_731 rfl 0 rfl ?_
          refine V_iload_n C dL_law_732 rfl 3 rfl ?_
          refine V_iconst (v := (2 : Int32)) C dL_law_733 (by decide) ?_
          refine V_iadd C dL_law_734 ?_
          refine V_sld C LX dL_law_735 ?_
          refine V_aload_n C dL_law_736 rfl 0 rfl ?_
          refine V_iload_n C dL_law_737 rfl 3 rfl ?_
          refine V_iconst (v := (3 : Int32)) C dL_law_738 (by decide) ?_
          refine V_iadd C dL_law_739 ?_
          refine V_sld C LX dL_law_740 ?_
          refine cv_RL_103 C (ln0) ly0 (ct_X8_use _ _ _ _ _ σ (xs (ix (x3 + (1 : Int32)))) (xs (ix (x3 + (2 : Int32)))) (xs (ix (x3 + (3 : Int32))))) (by decide) rfl rfl (Nat.le_of_ble_eq_true rfl) dL_law_741 (fun r69 σ70 => ?_)
          refine V_aload_n C dL_law_744 rfl 2 rfl ?_
          refine V_aload_n C dL_law_745 rfl 0 rfl ?_
          refine V_iload_n C dL_law_746 rfl 3 rfl ?_
          refine V_iconst (v := (1 : Int32)) C dL_law_747 (by decide) ?_
          refine V_iadd C dL_law_748 ?_
          refine V_sld C LX dL_law_749 ?_
          refine V_aload_n C dL_law_750 rfl 0 rfl ?_
          refine V_iload_n C dL_law_751 rfl 3 rfl ?_
          refine V_iconst (v := (2 : Int32)) C dL_law_752 (by decide) ?_
          refine V_iadd C dL_law_753 ?_
          refine V_sld C LX dL_law_754 ?_
          refine V_aload_n C dL_law_755 rfl 0 rfl ?_
          refine V_iload_n C dL_law_756 rfl 3 rfl ?_
          refine V_iconst (v := (3 : Int32)) C dL_law_757 (by decide) ?_
          refine V_iadd C dL_law_758 ?_
          refine V_sld C LX dL_law_759 ?_
          refine cv_RL_106 C (ln134) ly134 (ct_X9_use _ _ _ _ _ σ70 (xs (ix (x3 + (1 : Int32)))) (xs (ix (x3 + (2 : Int32)))) (xs (ix (x3 + (3 : Int32))))) (by decide) rfl rfl (Nat.le_of_ble_eq_true rfl) dL_law_760 (fun r71 σ72 => ?_)
          refine V_icmp_eq (tgt := 876) C dL_law_763 (by decide) ?_ ?_
          · exact V_sub [0, 1, 2, 3] rfl (vj_L_law_876 C LX ih σ72 x3)
          · refine V_iconst (v := (0 : Int32)) C dL_law_766 (by decide) ?_
            exact V_none
        | 21, hX =>
          cases hX
          refine ⟨736, 768, rfl, by decide, ?_⟩
          refine V_aload_n C dL_law_768 rfl 1 rfl ?_
          refine cv_RL_107 C (ln0) ly0 (ct_X8_burn _ _ _ _ _ σ ) (by decide) rfl rfl (Nat.le_of_ble_eq_true rfl) dL_law_769 (fun r73 σ74 => ?_)
          refine V_aload_n C dL_law_772 rfl 2 rfl ?_
          refine cv_RL_110 C (ln134) ly134 (ct_X9_burn _ _ _ _ _ σ74 ) (by decide) rfl rfl (Nat.le_of_ble_eq_true rfl) dL_law_773 (fun r75 σ76 => ?_)
          refine V_icmp_eq (tgt := 876) C dL_law_776 (by decide) ?_ ?_
          · exact V_sub [0, 1, 2, 3] rfl (vj_L_law_876 C LX ih σ76 x3)
          · refine V_iconst (v := (0 : Int32)) C dL_law_779 (by decide) ?_
            exact V_none
        | 22, hX =>
          cases hX
          refine ⟨749, 781, rfl, by decide, ?_⟩
          refine V_aload_n C dL_law_781 rfl 1 rfl ?_
          refine cv_RL_111 C (ln0) ly0 (ct_X8_forged _ _ _ _ _ σ ) (by decide) rfl rfl (Nat.le_of_ble_eq_true rfl) dL_law_782 (fun r77 σ78 => ?_)
          refine V_aload_n C dL_law_785 rfl 2 rfl ?_
          refine cv_RL_114 C (ln134) ly134 (ct_X9_forged _ _ _ _ _ σ78 ) (by decide) rfl rfl (Nat.le_of_ble_eq_true rfl) dL_law_786 (fun r79 σ80 => ?_)
          refine V_icmp_eq (tgt := 876) C dL_law_789 (by decide) ?_ ?_
          · exact V_sub [0, 1, 2, 3] rfl (vj_L_law_876 C LX ih σ80 x3)
          · refine V_iconst (v := (0 : Int32)) C dL_law_792 (by decide) ?_
            exact V_none
        | 23, hX =>
          cases hX
          refine ⟨762, 794, rfl, by decide, ?_⟩
          refine V_aload_n C dL_law_794 rfl 1 rfl ?_
          refine V_aload_n C dL_law_795 rfl 0 rfl ?_
          refine V_iload_n C dL_law_796 rfl 3 rfl ?_
          refine V_iconst (v := (1 : Int32)) C dL_law_797 (by decide) ?_
          refine V_iadd C dL_law_798 ?_
          refine V_sld C LX dL_law_799 ?_
          refine cv_RL_115 C (ln0) ly0 (ct_X8_forgedAt _ _ _ _ _ σ (xs (ix (x3 + (1 : Int32))))) (by decide) rfl rfl (Nat.le_of_ble_eq_true rfl) dL_law_800 (fun r81 σ82 => ?_)
          refine V_aload_n C dL_law_803 rfl 2 rfl ?_
          refine V_aload_n C dL_law_804 rfl 0 rfl ?_
          refine V_iload_n C dL_law_805 rfl 3 rfl ?_
          refine V_iconst (v := (1 : Int32)) C dL_law_806 (by decide) ?_
          refine V_iadd C dL_law_807 ?_
          refine V_sld C LX dL_law_808 ?_
          refine cv_RL_118 C (ln134) ly134 (ct_X9_forgedAt _ _ _ _ _ σ82 (xs (ix (x3 + (1 : Int32))))) (by decide) rfl rfl (Nat.le_of_ble_eq_true rfl) dL_law_809 (fun r83 σ84 => ?_)
          refine V_icmp_eq (tgt := 876) C dL_law_812 (by decide) ?_ ?_
          · exact V_sub [0, 1, 2, 3] rfl (vj_L_law_876 C LX ih σ84 x3)
          · refine V_iconst (v := (0 : Int32)) C dL_law_815 (by decide) ?_
            exact V_none
        | 24, hX =>
          cases hX
          refine ⟨785, 817, rfl, by decide, ?_⟩
          refine V_aload_n C dL_law_817 rfl 1 rfl ?_
          refine cv_RL_119 C (ln0) ly0 (ct_X8_forgers _ _ _ _ _ σ ) (by decide) rfl rfl (Nat.le_of_ble_eq_true rfl) dL_law_818 (fun r85 σ86 => ?_)
          refine V_aload_n C dL_law_821 rfl 2 rfl ?_
          refine cv_RL_122 C (ln134) ly134 (ct_X9_forgers _ _ _ _ _ σ86 ) (by decide) rfl rfl (Nat.le_of_ble_eq_true rfl) dL_law_822 (fun r87 σ88 => ?_)
          refine V_icmp_eq (tgt := 876) C dL_law_825 (by decide) ?_ ?_
          · exact V_sub [0, 1, 2, 3] rfl (vj_L_law_876 C LX ih σ88 x3)
          · refine V_iconst (v := (0 : Int32)) C dL_law_828 (by decide) ?_
            exact V_none
        | 25, hX =>
          cases hX
          refine ⟨798, 830, rfl, by decide, ?_⟩
          refine V_aload_n C dL_law_830 rfl 1 rfl ?_
          refine V_aload_n C dL_law_831 rfl 0 rfl ?_
          refine V_iload_n C dL_law_832 rfl 3 rfl ?_
          refine V_iconst (v := (1 : Int32)) C dL_law_833 (by decide) ?_
          refine V_iadd C dL_law_834 ?_
          refine V_sld C LX dL_law_835 ?_
          refine cv_RL_123 C (ln0) ly0 (ct_X8_keep _ _ _ _ _ σ (xs (ix (x3 + (1 : Int32))))) (by decide) rfl rfl (Nat.le_of_ble_eq_true rfl) dL_law_836 (fun r89 σ90 => ?_)
          refine V_aload_n C dL_law_839 rfl 2 rfl ?_
          refine V_aload_n C dL_law_840 rfl 0 rfl ?_
          refine V_iload_n C dL_law_841 rfl 3 rfl ?_
          refine V_iconst (v := (1 : Int32)) C dL_law_842 (by decide) ?_
          refine V_iadd C dL_law_843 ?_
          refine V_sld C LX dL_law_844 ?_
          refine cv_RL_126 C (ln134) ly134 (ct_X9_keep _ _ _ _ _ σ90 (xs (ix (x3 + (1 : Int32))))) (by decide) rfl rfl (Nat.le_of_ble_eq_true rfl) dL_law_845 (fun r91 σ92 => ?_)
          refine V_icmp_eq (tgt := 876) C dL_law_848 (by decide) ?_ ?_
          · exact V_sub [0, 1, 2, 3] rfl (vj_L_law_876 C LX ih σ92 x3)
          · refine V_iconst (v := (0 : Int32)) C dL_law_851 (by decide) ?_
            exact V_none
        | 26, hX =>
          cases hX
          refine ⟨821, 853, rfl, by decide, ?_⟩
          refine V_aload_n C dL_law_853 rfl 1 rfl ?_
          refine V_aload_n C dL_law_854 rfl 0 rfl ?_
          refine V_iload_n C dL_law_855 rfl 3 rfl ?_
          refine V_iconst (v := (1 : Int32)) C dL_law_856 (by decide) ?_
          refine V_iadd C dL_law_857 ?_
          refine V_sld C LX dL_law_858 ?_
          refine cv_RL_127 C (ln0) ly0 (ct_X8_again _ _ _ _ _ σ (xs (ix (x3 + (1 : Int32))))) (by decide) rfl rfl (Nat.le_of_ble_eq_true rfl) dL_law_859 (fun r93 σ94 => ?_)
          refine V_aload_n C dL_law_862 rfl 2 rfl ?_
          refine V_aload_n C dL_law_863 rfl 0 rfl ?_
          refine V_iload_n C dL_law_864 rfl 3 rfl ?_
          refine V_iconst (v := (1 : Int32)) C dL_law_865 (by decide) ?_
          refine V_iadd C dL_law_866 ?_
          refine V_sld C LX dL_law_867 ?_
          refine cv_RL_130 C (ln134) ly134 (ct_X9_again _ _ _ _ _ σ94 (xs (ix (x3 + (1 : Int32))))) (by decide) rfl rfl (Nat.le_of_ble_eq_true rfl) dL_law_868 (fun r95 σ96 => ?_)
          refine V_icmp_eq (tgt := 876) C dL_law_871 (by decide) ?_ ?_
          · exact V_sub [0, 1, 2, 3] rfl (vj_L_law_876 C LX ih σ96 x3)
          · refine V_iconst (v := (0 : Int32)) C dL_law_874 (by decide) ?_
            exact V_none
        | (k + 27), hX => simp at hX

