set_option maxRecDepth 4000 in
theorem vj_X4_copyFrom_0 {E : Ev} {b : Nat} (C : CX E RX4 cX4_copyFrom 2 1) (D : CR E none)    (σ : Hp) (o : Nat) (q1 : Nat) (ho : rollP o) (hq1 : rollP q1) : VJ rvV (QM E b) E b 2 σ 0 [(0, .ref (b + o)), (1, .ref (b + q1))] [] (f_X4_copyFrom σ o q1) := by
  unfold f_X4_copyFrom
  refine V_aload_n C dX4_copyFrom_0 rfl 1 rfl ?_
  refine gf_RX4_9 C (rlN hq1) (rl0 hq1) rfl dX4_copyFrom_1 ?_
  refine V_iconst (v := (0 : Int32)) C dX4_copyFrom_4 (by decide) ?_
  refine V_aload_n C dX4_copyFrom_5 rfl 0 rfl ?_
  refine gf_RX4_9 C (rlN ho) (rl0 ho) rfl dX4_copyFrom_6 ?_
  refine V_iconst (v := (0 : Int32)) C dX4_copyFrom_9 (by decide) ?_
  refine V_iconst (v := (5 : Int32)) C dX4_copyFrom_10 (by decide) ?_
  refine V_copy C (by decide) (rlN1 hq1) (rlN1 ho) (rl1 hq1) (rl1 ho) wl_RX4_28 (by decide) (by decide) dX4_copyFrom_11 (fun σ1 => ?_)
  refine V_aload_n C dX4_copyFrom_14 rfl 1 rfl ?_
  refine gf_RX4_15 C (rlN hq1) (rl0 hq1) rfl dX4_copyFrom_15 ?_
  refine V_iconst (v := (0 : Int32)) C dX4_copyFrom_18 (by decide) ?_
  refine V_aload_n C dX4_copyFrom_19 rfl 0 rfl ?_
  refine gf_RX4_15 C (rlN ho) (rl0 ho) rfl dX4_copyFrom_20 ?_
  refine V_iconst (v := (0 : Int32)) C dX4_copyFrom_23 (by decide) ?_
  refine V_iconst (v := (5 : Int32)) C dX4_copyFrom_24 (by decide) ?_
  refine V_copy C (by decide) (rlN2 hq1) (rlN2 ho) (rl2 hq1) (rl2 ho) wl_RX4_28 (by decide) (by decide) dX4_copyFrom_25 (fun σ2 => ?_)
  refine V_aload_n C dX4_copyFrom_28 rfl 1 rfl ?_
  refine gf_RX4_18 C (rlN hq1) (rl0 hq1) rfl dX4_copyFrom_29 ?_
  refine V_iconst (v := (0 : Int32)) C dX4_copyFrom_32 (by decide) ?_
  refine V_aload_n C dX4_copyFrom_33 rfl 0 rfl ?_
  refine gf_RX4_18 C (rlN ho) (rl0 ho) rfl dX4_copyFrom_34 ?_
  refine V_iconst (v := (0 : Int32)) C dX4_copyFrom_37 (by decide) ?_
  refine V_iconst (v := (5 : Int32)) C dX4_copyFrom_38 (by decide) ?_
  refine V_copy C (by decide) (rlN3 hq1) (rlN3 ho) (rl3 hq1) (rl3 ho) wl_RX4_28 (by decide) (by decide) dX4_copyFrom_39 (fun σ3 => ?_)
  refine V_aload_n C dX4_copyFrom_42 rfl 1 rfl ?_
  refine gf_RX4_21 C (rlN hq1) (rl0 hq1) rfl dX4_copyFrom_43 ?_
  refine V_iconst (v := (0 : Int32)) C dX4_copyFrom_46 (by decide) ?_
  refine V_aload_n C dX4_copyFrom_47 rfl 0 rfl ?_
  refine gf_RX4_21 C (rlN ho) (rl0 ho) rfl dX4_copyFrom_48 ?_
  refine V_iconst (v := (0 : Int32)) C dX4_copyFrom_51 (by decide) ?_
  refine V_iconst (v := (5 : Int32)) C dX4_copyFrom_52 (by decide) ?_
  refine V_copy C (by decide) (rlN4 hq1) (rlN4 ho) (rl4 hq1) (rl4 ho) wl_RX4_28 (by decide) (by decide) dX4_copyFrom_53 (fun σ4 => ?_)
  refine V_aload_n C dX4_copyFrom_56 rfl 0 rfl ?_
  refine V_aload_n C dX4_copyFrom_57 rfl 1 rfl ?_
  refine gf_RX4_34 C (rlN hq1) (rl0 hq1) rfl dX4_copyFrom_58 ?_
  refine pf_RX4_34 C (rlN ho) (rl0 ho) rfl dX4_copyFrom_61 (fun σ5 => ?_)
  refine V_aload_n C dX4_copyFrom_64 rfl 0 rfl ?_
  refine V_aload_n C dX4_copyFrom_65 rfl 1 rfl ?_
  refine gf_RX4_38 C (rlN hq1) (rl0 hq1) rfl dX4_copyFrom_66 ?_
  refine pf_RX4_38 C (rlN ho) (rl0 ho) rfl dX4_copyFrom_69 (fun σ6 => ?_)
  refine V_aload_n C dX4_copyFrom_72 rfl 0 rfl ?_
  refine V_aload_n C dX4_copyFrom_73 rfl 1 rfl ?_
  refine gf_RX4_41 C (rlN hq1) (rl0 hq1) rfl dX4_copyFrom_74 ?_
  refine pf_RX4_41 C (rlN ho) (rl0 ho) rfl dX4_copyFrom_77 (fun σ7 => ?_)
  refine V_aload_n C dX4_copyFrom_80 rfl 0 rfl ?_
  refine V_aload_n C dX4_copyFrom_81 rfl 1 rfl ?_
  refine gf_RX4_44 C (rlN hq1) (rl0 hq1) rfl dX4_copyFrom_82 ?_
  refine pf_RX4_44 C (rlN ho) (rl0 ho) rfl dX4_copyFrom_85 (fun σ8 => ?_)
  exact V_vret C D dX4_copyFrom_88

theorem ct_X4_copyFrom (l : Launch) (dC : Nat → ClassId) (dI : Nat → Nat → Nat) (cA : Nat → ClassId) (b : Nat) (σ : Hp) (o : Nat) (q1 : Nat) (ho : rollP o) (hq1 : rollP q1) : CT l dC dI cA b yX4_copyFrom cX4_copyFrom 2 none 1 [.ref (b + o), .ref (b + q1)] σ rvV (f_X4_copyFrom σ o q1) := CT_of [(0, .ref (b + o)), (1, .ref (b + q1))] (by decide +kernel) rfl (Nat.le_of_ble_eq_true rfl) rfl (fun E _ C D _ _ _ => vj_X4_copyFrom_0 C D σ o q1 ho hq1)
set_option maxRecDepth 4000 in
theorem vj_X0_push_0 {E : Ev} {b : Nat} (C : CX E RX0 cX0_push 2 2) (D : CR E none)    (σ : Hp) (q1 : Nat) (hq1 : rollP q1) : VJ rvV (QM E b) E b 2 σ 0 [(0, .ref (b + 24)), (1, .ref (b + q1))] [] (f_X0_push σ q1) := by
  unfold f_X0_push
  refine V_aload_n C dX0_push_0 rfl 0 rfl ?_
  refine gf_RX0_11 C (ln24) ly24 rfl dX0_push_1 ?_
  refine V_aload_n C dX0_push_4 rfl 0 rfl ?_
  refine gf_RX0_20 C (ln24) ly24 rfl dX0_push_5 ?_
  refine V_aald (Cn := "SleepByRation$Roll") C (ln25) ly25 (fun _ => rfl) dX0_push_8 (fun h1 => ?_)
  refine V_aload_n C dX0_push_9 rfl 1 rfl ?_
  refine cv_RX0_24 C (rlN (rpA h1)) (rl0 (rpA h1)) (ct_X4_copyFrom _ _ _ _ _ σ (26 + 5 * ix (σ 24 1)) q1 (rpA h1) hq1) (by decide) rfl rfl (Nat.le_of_ble_eq_true rfl) dX0_push_10 (fun r2 σ3 => ?_)
  refine V_aload_n C dX0_push_13 rfl 0 rfl ?_
  refine V_aload_n C dX0_push_14 rfl 0 rfl ?_
  refine gf_RX0_20 C (ln24) ly24 rfl dX0_push_15 ?_
  refine V_iconst (v := (1 : Int32)) C dX0_push_18 (by decide) ?_
  refine V_iadd C dX0_push_19 ?_
  refine V_bipush (v := (12 : Int32)) C dX0_push_20 (by decide) ?_
  refine V_irem C dX0_push_22 ?_
  refine pf_RX0_20 C (ln24) ly24 rfl dX0_push_23 (fun σ4 => ?_)
  refine V_aload_n C dX0_push_26 rfl 0 rfl ?_
  refine V_bipush (v := (12 : Int32)) C dX0_push_27 (by decide) ?_
  refine V_aload_n C dX0_push_29 rfl 0 rfl ?_
  refine gf_RX0_28 C (ln24) ly24 rfl dX0_push_30 ?_
  refine V_iconst (v := (1 : Int32)) C dX0_push_33 (by decide) ?_
  refine V_iadd C dX0_push_34 ?_
  refine V_mmin C (by decide) wl_RX0_31 (Nat.le_of_ble_eq_true rfl) dX0_push_35 ?_
  refine pf_RX0_28 C (ln24) ly24 rfl dX0_push_38 (fun σ5 => ?_)
  exact V_vret C D dX0_push_41

theorem ct_X0_push (l : Launch) (dC : Nat → ClassId) (dI : Nat → Nat → Nat) (cA : Nat → ClassId) (b : Nat) (σ : Hp) (q1 : Nat) (hq1 : rollP q1) : CT l dC dI cA b yX0_push cX0_push 2 none 2 [.ref (b + 24), .ref (b + q1)] σ rvV (f_X0_push σ q1) := CT_of [(0, .ref (b + 24)), (1, .ref (b + q1))] (by decide +kernel) rfl (Nat.le_of_ble_eq_true rfl) rfl (fun E _ C D _ _ _ => vj_X0_push_0 C D σ q1 hq1)
set_option maxRecDepth 4000 in
theorem vj_X0_pop_0 {E : Ev} {b : Nat} (C : CX E RX0 cX0_pop 3 2) (D : CR E none)    (σ : Hp) (q1 : Nat) (hq1 : rollP q1) : VJ rvV (QM E b) E b 3 σ 0 [(0, .ref (b + 24)), (1, .ref (b + q1))] [] (f_X0_pop σ q1) := by
  unfold f_X0_pop
  refine V_aload_n C dX0_pop_0 rfl 0 rfl ?_
  refine V_aload_n C dX0_pop_1 rfl 0 rfl ?_
  refine gf_RX0_20 C (ln24) ly24 rfl dX0_pop_2 ?_
  refine V_bipush (v := (12 : Int32)) C dX0_pop_5 (by decide) ?_
  refine V_iadd C dX0_pop_7 ?_
  refine V_iconst (v := (1 : Int32)) C dX0_pop_8 (by decide) ?_
  refine V_isub C dX0_pop_9 ?_
  refine V_bipush (v := (12 : Int32)) C dX0_pop_10 (by decide) ?_
  refine V_irem C dX0_pop_12 ?_
  refine pf_RX0_20 C (ln24) ly24 rfl dX0_pop_13 (fun σ1 => ?_)
  refine V_aload_n C dX0_pop_16 rfl 0 rfl ?_
  refine V_dup C dX0_pop_17 rfl ?_
  refine gf_RX0_28 C (ln24) ly24 rfl dX0_pop_18 ?_
  refine V_iconst (v := (1 : Int32)) C dX0_pop_21 (by decide) ?_
  refine V_isub C dX0_pop_22 ?_
  refine pf_RX0_28 C (ln24) ly24 rfl dX0_pop_23 (fun σ2 => ?_)
  refine V_aload_n C dX0_pop_26 rfl 1 rfl ?_
  refine gf_RX0_37 C (rlN hq1) (rl0 hq1) rfl dX0_pop_27 ?_
  refine V_ltI (fun v3 => ?_)
  refine V_istore_n (L' := [(2, .int v3), (0, .ref (b + 24)), (1, .ref (b + q1))]) C dX0_pop_30 rfl (by decide) rfl ?_
  refine V_aload_n C dX0_pop_31 rfl 2 rfl ?_
  refine V_aload_n C dX0_pop_32 rfl 1 rfl ?_
  refine gf_RX0_11 C (ln24) ly24 rfl dX0_pop_33 ?_
  refine V_aload_n C dX0_pop_36 rfl 1 rfl ?_
  refine gf_RX0_20 C (ln24) ly24 rfl dX0_pop_37 ?_
  refine V_aald (Cn := "SleepByRation$Roll") C (ln25) ly25 (fun _ => rfl) dX0_pop_40 (fun h4 => ?_)
  refine cv_RX0_24 C (rlN hq1) (rl0 hq1) (ct_X4_copyFrom _ _ _ _ _ σ2 q1 (26 + 5 * ix (σ2 24 1)) hq1 (rpA h4)) (by decide) rfl rfl (Nat.le_of_ble_eq_true rfl) dX0_pop_41 (fun r5 σ6 => ?_)
  refine V_aload_n C dX0_pop_44 rfl 2 rfl ?_
  refine V_iload_n C dX0_pop_45 rfl 0 rfl ?_
  refine pf_RX0_37 C (rlN hq1) (rl0 hq1) rfl dX0_pop_46 (fun σ7 => ?_)
  exact V_vret C D dX0_pop_49

theorem ct_X0_pop (l : Launch) (dC : Nat → ClassId) (dI : Nat → Nat → Nat) (cA : Nat → ClassId) (b : Nat) (σ : Hp) (q1 : Nat) (hq1 : rollP q1) : CT l dC dI cA b yX0_pop cX0_pop 3 none 2 [.ref (b + 24), .ref (b + q1)] σ rvV (f_X0_pop σ q1) := CT_of [(0, .ref (b + 24)), (1, .ref (b + q1))] (by decide +kernel) rfl (Nat.le_of_ble_eq_true rfl) rfl (fun E _ C D _ _ _ => vj_X0_pop_0 C D σ q1 hq1)
set_option maxRecDepth 4000 in
theorem vj_X1_add_0 {E : Ev} {b : Nat} (C : CX E RX1 cX1_add 4 1) (D : CR E none)    (σ : Hp) (a1 : Int32) (a2 : Int32) (a3 : Int32)  : VJ rvV (QM E b) E b 4 σ 0 [(0, .ref (b + 115)), (1, .int a1), (2, .int a2), (3, .int a3)] [] (f_X1_add σ a1 a2 a3) := by
  unfold f_X1_add
  refine V_aload_n C dX1_add_0 rfl 0 rfl ?_
  refine gf_RX1_21 C (ln115) ly115 rfl dX1_add_1 ?_
  refine V_bipush (v := (12 : Int32)) C dX1_add_4 (by decide) ?_
  refine V_icmp_ge (tgt := 49) C dX1_add_6 (by decide) ?_ ?_
  · exact V_vret C D dX1_add_49
  · refine V_aload_n C dX1_add_9 rfl 0 rfl ?_
    refine gf_RX1_9 C (ln115) ly115 rfl dX1_add_10 ?_
    refine V_aload_n C dX1_add_13 rfl 0 rfl ?_
    refine gf_RX1_21 C (ln115) ly115 rfl dX1_add_14 ?_
    refine V_iload_n C dX1_add_17 rfl 1 rfl ?_
    refine V_iast C (ln116) ly116 dX1_add_18 (fun σ1 => ?_)
    refine V_aload_n C dX1_add_19 rfl 0 rfl ?_
    refine gf_RX1_15 C (ln115) ly115 rfl dX1_add_20 ?_
    refine V_aload_n C dX1_add_23 rfl 0 rfl ?_
    refine gf_RX1_21 C (ln115) ly115 rfl dX1_add_24 ?_
    refine V_iload_n C dX1_add_27 rfl 2 rfl ?_
    refine V_iast C (ln117) ly117 dX1_add_28 (fun σ2 => ?_)
    refine V_aload_n C dX1_add_29 rfl 0 rfl ?_
    refine gf_RX1_18 C (ln115) ly115 rfl dX1_add_30 ?_
    refine V_aload_n C dX1_add_33 rfl 0 rfl ?_
    refine gf_RX1_21 C (ln115) ly115 rfl dX1_add_34 ?_
    refine V_iload_n C dX1_add_37 rfl 3 rfl ?_
    refine V_iast C (ln118) ly118 dX1_add_38 (fun σ3 => ?_)
    refine V_aload_n C dX1_add_39 rfl 0 rfl ?_
    refine V_dup C dX1_add_40 rfl ?_
    refine gf_RX1_21 C (ln115) ly115 rfl dX1_add_41 ?_
    refine V_iconst (v := (1 : Int32)) C dX1_add_44 (by decide) ?_
    refine V_iadd C dX1_add_45 ?_
    refine pf_RX1_21 C (ln115) ly115 rfl dX1_add_46 (fun σ4 => ?_)
    exact V_vret C D dX1_add_49

theorem ct_X1_add (l : Launch) (dC : Nat → ClassId) (dI : Nat → Nat → Nat) (cA : Nat → ClassId) (b : Nat) (σ : Hp) (a1 : Int32) (a2 : Int32) (a3 : Int32)  : CT l dC dI cA b yX1_add cX1_add 4 none 1 [.ref (b + 115), .int a1, .int a2, .int a3] σ rvV (f_X1_add σ a1 a2 a3) := CT_of [(0, .ref (b + 115)), (1, .int a1), (2, .int a2), (3, .int a3)] (by decide +kernel) rfl (Nat.le_of_ble_eq_true rfl) rfl (fun E _ C D _ _ _ => vj_X1_add_0 C D σ a1 a2 a3 )
set_option maxRecDepth 4000 in
theorem vj_X1_clash_35 {E : Ev} {b : Nat} (C : CX E RX1 cX1_clash 4 1) (D : CR E (some .boolean)) (q3 : Nat) (hq3 : chartP q3)  (σ : Hp)   : VJ rvI (QM E b) E b 4 σ 35 [] [] (f_X1_clash_35 q3 σ ) := by
  unfold f_X1_clash_35
  refine V_iconst (v := (1 : Int32)) C dX1_clash_35 (by decide) ?_
  refine V_goto (tgt := 40) C dX1_clash_36 (by decide) ?_
  exact V_zret C D dX1_clash_40

set_option maxRecDepth 4000 in
theorem vj_X1_clash_0 {E : Ev} {b : Nat} (C : CX E RX1 cX1_clash 4 1) (D : CR E (some .boolean))    (σ : Hp) (a1 : Int32) (a2 : Int32) (q3 : Nat) (hq3 : chartP q3) : VJ rvI (QM E b) E b 4 σ 0 [(0, .ref (b + 115)), (1, .int a1), (2, .int a2), (3, .ref (b + q3))] [] (f_X1_clash σ a1 a2 q3) := by
  unfold f_X1_clash
  refine V_aload_n C dX1_clash_0 rfl 0 rfl ?_
  refine gf_RX1_18 C (ln115) ly115 rfl dX1_clash_1 ?_
  refine V_iload_n C dX1_clash_4 rfl 1 rfl ?_
  refine V_iald C (ln118) ly118 dX1_clash_5 ?_
  refine V_aload_n C dX1_clash_6 rfl 0 rfl ?_
  refine gf_RX1_18 C (ln115) ly115 rfl dX1_clash_7 ?_
  refine V_iload_n C dX1_clash_10 rfl 2 rfl ?_
  refine V_iald C (ln118) ly118 dX1_clash_11 ?_
  refine V_icmp_ne (tgt := 35) C dX1_clash_12 (by decide) ?_ ?_
  · exact V_sub [] rfl (vj_X1_clash_35 C D q3 hq3 σ)
  · refine V_aload_n C dX1_clash_15 rfl 3 rfl ?_
    refine gf_RX1_29 C (clN hq3) (cl0 hq3) rfl dX1_clash_16 ?_
    refine V_aload_n C dX1_clash_19 rfl 0 rfl ?_
    refine gf_RX1_15 C (ln115) ly115 rfl dX1_clash_20 ?_
    refine V_iload_n C dX1_clash_23 rfl 1 rfl ?_
    refine V_iald C (ln117) ly117 dX1_clash_24 ?_
    refine V_iald C (clN1 hq3) (cl1 hq3) dX1_clash_25 ?_
    refine V_aload_n C dX1_clash_26 rfl 0 rfl ?_
    refine gf_RX1_15 C (ln115) ly115 rfl dX1_clash_27 ?_
    refine V_iload_n C dX1_clash_30 rfl 2 rfl ?_
    refine V_iald C (ln117) ly117 dX1_clash_31 ?_
    refine V_icmp_eq (tgt := 39) C dX1_clash_32 (by decide) ?_ ?_
    · refine V_iconst (v := (0 : Int32)) C dX1_clash_39 (by decide) ?_
      exact V_zret C D dX1_clash_40
    · exact V_sub [] rfl (vj_X1_clash_35 C D q3 hq3 σ)

theorem ct_X1_clash (l : Launch) (dC : Nat → ClassId) (dI : Nat → Nat → Nat) (cA : Nat → ClassId) (b : Nat) (σ : Hp) (a1 : Int32) (a2 : Int32) (q3 : Nat) (hq3 : chartP q3) : CT l dC dI cA b yX1_clash cX1_clash 4 (some .boolean) 1 [.ref (b + 115), .int a1, .int a2, .ref (b + q3)] σ rvI (f_X1_clash σ a1 a2 q3) := CT_of [(0, .ref (b + 115)), (1, .int a1), (2, .int a2), (3, .ref (b + q3))] (by decide +kernel) rfl (Nat.le_of_ble_eq_true rfl) rfl (fun E _ C D _ _ _ => vj_X1_clash_0 C D σ a1 a2 q3 hq3)
set_option maxRecDepth 4000 in
theorem vj_X1_isFalse_53 {E : Ev} {b : Nat} (C : CX E RX1 cX1_isFalse 5 2) (D : CR E (some .boolean)) (q2 : Nat) (hq2 : chartP q2) {k13 : Hp → Int32 → Int32 → Int32 → Option (Int32 × Hp)} (hk13 : ∀ (σ : Hp) (x1 : Int32) (x3 : Int32) (x4 : Int32) , VJ rvI (QM E b) E b 5 σ 13 [(0, .ref (b + 115)), (1, .int x1), (2, .ref (b + q2)), (3, .int x3), (4, .int x4)] [] (k13 σ x1 x3 x4)) {k2 : Hp → Int32 → Int32 → Option (Int32 × Hp)} (hk2 : ∀ (σ : Hp) (x1 : Int32) (x3 : Int32) , VJ rvI (QM E b) E b 5 σ 2 [(0, .ref (b + 115)), (1, .int x1), (2, .ref (b + q2)), (3, .int x3)] [] (k2 σ x1 x3)) (σ : Hp) (x1 : Int32) (x3 : Int32) (x4 : Int32)  : VJ rvI (QM E b) E b 5 σ 53 [(0, .ref (b + 115)), (1, .int x1), (2, .ref (b + q2)), (3, .int x3), (4, .int x4)] [] (f_X1_isFalse_53 k13 k2 q2 σ x1 x3 x4) := by
  unfold f_X1_isFalse_53
  refine V_iinc (k := 4) (v := (1 : Int32)) (L' := fun v1 => [(4, .int v1), (0, .ref (b + 115)), (1, .int x1), (2, .ref (b + q2)), (3, .int x3)]) C dX1_isFalse_53 rfl (by decide) (by decide) (fun _ => rfl) (fun v1 => ?_)
  refine V_goto (tgt := 13) C dX1_isFalse_56 (by decide) ?_
  exact V_sub [1, 2, 3, 4, 0] rfl (hk13 σ x1 x3 v1)

set_option maxRecDepth 4000 in
theorem vj_X1_isFalse_59 {E : Ev} {b : Nat} (C : CX E RX1 cX1_isFalse 5 2) (D : CR E (some .boolean)) (q2 : Nat) (hq2 : chartP q2) {k2 : Hp → Int32 → Int32 → Option (Int32 × Hp)} (hk2 : ∀ (σ : Hp) (x1 : Int32) (x3 : Int32) , VJ rvI (QM E b) E b 5 σ 2 [(0, .ref (b + 115)), (1, .int x1), (2, .ref (b + q2)), (3, .int x3)] [] (k2 σ x1 x3)) (σ : Hp) (x1 : Int32) (x3 : Int32)  : VJ rvI (QM E b) E b 5 σ 59 [(0, .ref (b + 115)), (1, .int x1), (2, .ref (b + q2)), (3, .int x3)] [] (f_X1_isFalse_59 k2 q2 σ x1 x3) := by
  unfold f_X1_isFalse_59
  refine V_iinc (k := 3) (v := (1 : Int32)) (L' := fun v1 => [(3, .int v1), (0, .ref (b + 115)), (1, .int x1), (2, .ref (b + q2))]) C dX1_isFalse_59 rfl (by decide) (by decide) (fun _ => rfl) (fun v1 => ?_)
  refine V_goto (tgt := 2) C dX1_isFalse_62 (by decide) ?_
  exact V_sub [1, 2, 3, 0] rfl (hk2 σ x1 v1)

set_option maxRecDepth 4000 in
theorem vj_X1_isFalse_13 {E : Ev} {b : Nat} (C : CX E RX1 cX1_isFalse 5 2) (D : CR E (some .boolean)) (q2 : Nat) (hq2 : chartP q2) {k2 : Hp → Int32 → Int32 → Option (Int32 × Hp)} (hk2 : ∀ (σ : Hp) (x1 : Int32) (x3 : Int32) , VJ rvI (QM E b) E b 5 σ 2 [(0, .ref (b + 115)), (1, .int x1), (2, .ref (b + q2)), (3, .int x3)] [] (k2 σ x1 x3)) : ∀ (n : Nat) (σ : Hp) (x1 : Int32) (x3 : Int32) (x4 : Int32) , VJ rvI (QM E b) E b 5 σ 13 [(0, .ref (b + 115)), (1, .int x1), (2, .ref (b + q2)), (3, .int x3), (4, .int x4)] [] (f_X1_isFalse_13 k2 q2 n σ x1 x3 x4)
  | 0, σ, x1, x3, x4 => V_none
  | n + 1, σ, x1, x3, x4 => by
    show VJ rvI (QM E b) E b 5 σ 13 [(0, .ref (b + 115)), (1, .int x1), (2, .ref (b + q2)), (3, .int x3), (4, .int x4)] [] (if x3 ≤ x4 then (
          f_X1_isFalse_59 k2 q2 σ x1 x3)
        else (
          ck x3 12 <|
          if (σ 116 (ix x3)) = x1 then (
            ck x4 12 <|
            if (σ 116 (ix x4)) = x1 then (
              bd (f_X1_clash σ x3 x4 q2) fun r1 σ2 =>
              if r1 = 0 then (
                f_X1_isFalse_53 (f_X1_isFalse_13 k2 q2 n) k2 q2 σ2 x1 x3 x4)
              else (
                zr (1 : Int32) σ2))
            else (
              f_X1_isFalse_53 (f_X1_isFalse_13 k2 q2 n) k2 q2 σ x1 x3 x4))
          else (
            f_X1_isFalse_59 k2 q2 σ x1 x3)))
    have ih := vj_X1_isFalse_13 (b := b) C D q2 hq2 hk2 n
    refine V_iload C dX1_isFalse_13 4 rfl ?_
    refine V_iload_n C dX1_isFalse_15 rfl 3 rfl ?_
    refine V_icmp_ge (tgt := 59) C dX1_isFalse_16 (by decide) ?_ ?_
    · exact V_sub [0, 1, 2, 3] rfl (vj_X1_isFalse_59 C D q2 hq2 hk2 σ x1 x3)
    · refine V_aload_n C dX1_isFalse_19 rfl 0 rfl ?_
      refine gf_RX1_9 C (ln115) ly115 rfl dX1_isFalse_20 ?_
      refine V_iload_n C dX1_isFalse_23 rfl 3 rfl ?_
      refine V_iald C (ln116) ly116 dX1_isFalse_24 ?_
      refine V_iload_n C dX1_isFalse_25 rfl 1 rfl ?_
      refine V_icmp_ne (tgt := 59) C dX1_isFalse_26 (by decide) ?_ ?_
      · exact V_sub [0, 1, 2, 3] rfl (vj_X1_isFalse_59 C D q2 hq2 hk2 σ x1 x3)
      · refine V_aload_n C dX1_isFalse_29 rfl 0 rfl ?_
        refine gf_RX1_9 C (ln115) ly115 rfl dX1_isFalse_30 ?_
        refine V_iload C dX1_isFalse_33 4 rfl ?_
        refine V_iald C (ln116) ly116 dX1_isFalse_35 ?_
        refine V_iload_n C dX1_isFalse_36 rfl 1 rfl ?_
        refine V_icmp_ne (tgt := 53) C dX1_isFalse_37 (by decide) ?_ ?_
        · exact V_sub [0, 1, 2, 3, 4] rfl (vj_X1_isFalse_53 C D q2 hq2 ih hk2 σ x1 x3 x4)
        · refine V_aload_n C dX1_isFalse_40 rfl 0 rfl ?_
          refine V_iload_n C dX1_isFalse_41 rfl 3 rfl ?_
          refine V_iload C dX1_isFalse_42 4 rfl ?_
          refine V_aload_n C dX1_isFalse_44 rfl 2 rfl ?_
          refine cv_RX1_25 C (ln115) ly115 (ct_X1_clash _ _ _ _ _ σ x3 x4 q2 hq2) (by decide) rfl rfl (Nat.le_of_ble_eq_true rfl) dX1_isFalse_45 (fun r1 σ2 => ?_)
          refine V_if_eq (tgt := 53) C dX1_isFalse_48 (by decide) ?_ ?_
          · exact V_sub [0, 1, 2, 3, 4] rfl (vj_X1_isFalse_53 C D q2 hq2 ih hk2 σ2 x1 x3 x4)
          · refine V_iconst (v := (1 : Int32)) C dX1_isFalse_51 (by decide) ?_
            exact V_zret C D dX1_isFalse_52

set_option maxRecDepth 4000 in
theorem vj_X1_isFalse_2 {E : Ev} {b : Nat} (C : CX E RX1 cX1_isFalse 5 2) (D : CR E (some .boolean)) (q2 : Nat) (hq2 : chartP q2)  : ∀ (n : Nat) (σ : Hp) (x1 : Int32) (x3 : Int32) , VJ rvI (QM E b) E b 5 σ 2 [(0, .ref (b + 115)), (1, .int x1), (2, .ref (b + q2)), (3, .int x3)] [] (f_X1_isFalse_2 q2 n σ x1 x3)
  | 0, σ, x1, x3 => V_none
  | n + 1, σ, x1, x3 => by
    show VJ rvI (QM E b) E b 5 σ 2 [(0, .ref (b + 115)), (1, .int x1), (2, .ref (b + q2)), (3, .int x3)] [] (if (σ 115 3) ≤ x3 then (
          zr (0 : Int32) σ)
        else (
          f_X1_isFalse_13 (f_X1_isFalse_2 q2 n) q2 FU σ x1 x3 (0 : Int32)))
    have ih := vj_X1_isFalse_2 (b := b) C D q2 hq2  n
    refine V_iload_n C dX1_isFalse_2 rfl 3 rfl ?_
    refine V_aload_n C dX1_isFalse_3 rfl 0 rfl ?_
    refine gf_RX1_21 C (ln115) ly115 rfl dX1_isFalse_4 ?_
    refine V_icmp_ge (tgt := 65) C dX1_isFalse_7 (by decide) ?_ ?_
    · refine V_iconst (v := (0 : Int32)) C dX1_isFalse_65 (by decide) ?_
      exact V_zret C D dX1_isFalse_66
    · refine V_iconst (v := (0 : Int32)) C dX1_isFalse_10 (by decide) ?_
      refine V_istore (L' := [(4, .int (0 : Int32)), (0, .ref (b + 115)), (1, .int x1), (2, .ref (b + q2)), (3, .int x3)]) C dX1_isFalse_11 (by decide) rfl ?_
      exact V_sub [1, 2, 3, 4, 0] rfl (vj_X1_isFalse_13 C D q2 hq2 ih FU σ x1 x3 (0 : Int32))

set_option maxRecDepth 4000 in
theorem vj_X1_isFalse_0 {E : Ev} {b : Nat} (C : CX E RX1 cX1_isFalse 5 2) (D : CR E (some .boolean))    (σ : Hp) (a1 : Int32) (q2 : Nat) (hq2 : chartP q2) : VJ rvI (QM E b) E b 5 σ 0 [(0, .ref (b + 115)), (1, .int a1), (2, .ref (b + q2))] [] (f_X1_isFalse σ a1 q2) := by
  unfold f_X1_isFalse
  refine V_iconst (v := (0 : Int32)) C dX1_isFalse_0 (by decide) ?_
  refine V_istore_n (L' := [(3, .int (0 : Int32)), (0, .ref (b + 115)), (1, .int a1), (2, .ref (b + q2))]) C dX1_isFalse_1 rfl (by decide) rfl ?_
  exact V_sub [1, 2, 3, 0] rfl (vj_X1_isFalse_2 C D q2 hq2 FU σ a1 (0 : Int32))

theorem ct_X1_isFalse (l : Launch) (dC : Nat → ClassId) (dI : Nat → Nat → Nat) (cA : Nat → ClassId) (b : Nat) (σ : Hp) (a1 : Int32) (q2 : Nat) (hq2 : chartP q2) : CT l dC dI cA b yX1_isFalse cX1_isFalse 5 (some .boolean) 2 [.ref (b + 115), .int a1, .ref (b + q2)] σ rvI (f_X1_isFalse σ a1 q2) := CT_of [(0, .ref (b + 115)), (1, .int a1), (2, .ref (b + q2))] (by decide +kernel) rfl (Nat.le_of_ble_eq_true rfl) rfl (fun E _ C D _ _ _ => vj_X1_isFalse_0 C D σ a1 q2 hq2)
set_option maxRecDepth 4000 in
theorem vj_J7_fill_53178_5 {E : Ev} {b : Nat} (C : CX E RJ7 cJ7_fill_53178 4 1) (D : CR E none) (q0 : Nat) (q0n : Nat) (hq0 : arrP q0 q0n)  : ∀ (n : Nat) (σ : Hp) (x1 : Int32) (x2 : Int32) (x3 : Int32) , VJ rvV (QM E b) E b 4 σ 5 [(0, .ref (b + q0)), (1, .int x1), (2, .int x2), (3, .int x3)] [] (f_J7_fill_53178_5 q0 q0n n σ x1 x2 x3)
  | 0, σ, x1, x2, x3 => V_none
  | n + 1, σ, x1, x2, x3 => by
    show VJ rvV (QM E b) E b 4 σ 5 [(0, .ref (b + q0)), (1, .int x1), (2, .int x2), (3, .int x3)] [] (if x3 ≤ x2 then (
          some ((), σ))
        else (
          ck x2 q0n <|
          Lt (wr σ q0 (ix x2) x1) fun σ1 =>
          Lt (x2 + (1 : Int32)) fun v2 =>
          f_J7_fill_53178_5 q0 q0n n σ1 x1 v2 x3))
    have ih := vj_J7_fill_53178_5 (b := b) C D q0 q0n hq0  n
    refine V_iload_n C dJ7_fill_53178_5 rfl 2 rfl ?_
    refine V_iload_n C dJ7_fill_53178_6 rfl 3 rfl ?_
    refine V_icmp_ge (tgt := 20) C dJ7_fill_53178_7 (by decide) ?_ ?_
    · exact V_vret C D dJ7_fill_53178_20
    · refine V_aload_n C dJ7_fill_53178_10 rfl 0 rfl ?_
      refine V_iload_n C dJ7_fill_53178_11 rfl 2 rfl ?_
      refine V_iload_n C dJ7_fill_53178_12 rfl 1 rfl ?_
      refine V_iast C hq0.1 hq0.2 dJ7_fill_53178_13 (fun σ1 => ?_)
      refine V_iinc (k := 2) (v := (1 : Int32)) (L' := fun v2 => [(2, .int v2), (0, .ref (b + q0)), (1, .int x1), (3, .int x3)]) C dJ7_fill_53178_14 rfl (by decide) (by decide) (fun _ => rfl) (fun v2 => ?_)
      refine V_goto (tgt := 5) C dJ7_fill_53178_17 (by decide) ?_
      exact V_sub [1, 2, 0, 3] rfl (ih σ1 x1 v2 x3)

set_option maxRecDepth 4000 in
theorem vj_J7_fill_53178_0 {E : Ev} {b : Nat} (C : CX E RJ7 cJ7_fill_53178 4 1) (D : CR E none)    (σ : Hp) (q0 : Nat) (q0n : Nat) (a1 : Int32) (hq0 : arrP q0 q0n) : VJ rvV (QM E b) E b 4 σ 0 [(0, .ref (b + q0)), (1, .int a1)] [] (f_J7_fill_53178 σ q0 q0n a1) := by
  unfold f_J7_fill_53178
  refine V_iconst (v := (0 : Int32)) C dJ7_fill_53178_0 (by decide) ?_
  refine V_istore_n (L' := [(2, .int (0 : Int32)), (0, .ref (b + q0)), (1, .int a1)]) C dJ7_fill_53178_1 rfl (by decide) rfl ?_
  refine V_aload_n C dJ7_fill_53178_2 rfl 1 rfl ?_
  refine V_alen C hq0.1 hq0.2 dJ7_fill_53178_3 ?_
  refine V_ltI (fun v1 => ?_)
  refine V_istore_n (L' := [(3, .int v1), (2, .int (0 : Int32)), (0, .ref (b + q0)), (1, .int a1)]) C dJ7_fill_53178_4 rfl (by decide) rfl ?_
  exact V_sub [2, 3, 1, 0] rfl (vj_J7_fill_53178_5 C D q0 q0n hq0 FU σ a1 (0 : Int32) v1)

theorem ct_J7_fill_53178 (l : Launch) (dC : Nat → ClassId) (dI : Nat → Nat → Nat) (cA : Nat → ClassId) (b : Nat) (σ : Hp) (q0 : Nat) (q0n : Nat) (a1 : Int32) (hq0 : arrP q0 q0n) : CT l dC dI cA b yJ7_fill_53178 cJ7_fill_53178 4 none 1 [.ref (b + q0), .int a1] σ rvV (f_J7_fill_53178 σ q0 q0n a1) := CT_of [(0, .ref (b + q0)), (1, .int a1)] (by decide +kernel) rfl (Nat.le_of_ble_eq_true rfl) rfl (fun E _ C D _ _ _ => vj_J7_fill_53178_0 C D σ q0 q0n a1 hq0)
set_option maxRecDepth 4000 in
theorem vj_X2_clear_0 {E : Ev} {b : Nat} (C : CX E RX2 cX2_clear 1 2) (D : CR E none)    (σ : Hp) (o : Nat) (ho : chartP o) : VJ rvV (QM E b) E b 1 σ 0 [(0, .ref (b + o))] [] (f_X2_clear σ o) := by
  unfold f_X2_clear
  refine V_aload_n C dX2_clear_0 rfl 0 rfl ?_
  refine gf_RX2_9 C (clN ho) (cl0 ho) rfl dX2_clear_1 ?_
  refine V_bipush (v := (-9 : Int32)) C dX2_clear_4 (by decide) ?_
  refine cs_RX2_18 C (ct_J7_fill_53178 _ _ _ _ _ σ (o + 1) 5 (-9 : Int32) ⟨(clN1 ho), (cl1 ho)⟩) (by decide) rfl rfl (Nat.le_of_ble_eq_true rfl) dX2_clear_6 (fun r1 σ2 => ?_)
  refine V_aload_n C dX2_clear_9 rfl 0 rfl ?_
  refine V_iconst (v := (0 : Int32)) C dX2_clear_10 (by decide) ?_
  refine pf_RX2_24 C (clN ho) (cl0 ho) rfl dX2_clear_11 (fun σ3 => ?_)
  refine V_aload_n C dX2_clear_14 rfl 0 rfl ?_
  refine V_iconst (v := (0 : Int32)) C dX2_clear_15 (by decide) ?_
  refine pf_RX2_28 C (clN ho) (cl0 ho) rfl dX2_clear_16 (fun σ4 => ?_)
  refine V_aload_n C dX2_clear_19 rfl 0 rfl ?_
  refine V_iconst (v := (1 : Int32)) C dX2_clear_20 (by decide) ?_
  refine pf_RX2_31 C (clN ho) (cl0 ho) rfl dX2_clear_21 (fun σ5 => ?_)
  exact V_vret C D dX2_clear_24

theorem ct_X2_clear (l : Launch) (dC : Nat → ClassId) (dI : Nat → Nat → Nat) (cA : Nat → ClassId) (b : Nat) (σ : Hp) (o : Nat) (ho : chartP o) : CT l dC dI cA b yX2_clear cX2_clear 1 none 2 [.ref (b + o)] σ rvV (f_X2_clear σ o) := CT_of [(0, .ref (b + o))] (by decide +kernel) rfl (Nat.le_of_ble_eq_true rfl) rfl (fun E _ C D _ _ _ => vj_X2_clear_0 C D σ o ho)
set_option maxRecDepth 4000 in
theorem vj_X2_copyFrom_0 {E : Ev} {b : Nat} (C : CX E RX2 cX2_copyFrom 2 1) (D : CR E none)    (σ : Hp) (o : Nat) (q1 : Nat) (ho : chartP o) (hq1 : chartP q1) : VJ rvV (QM E b) E b 2 σ 0 [(0, .ref (b + o)), (1, .ref (b + q1))] [] (f_X2_copyFrom σ o q1) := by
  unfold f_X2_copyFrom
  refine V_aload_n C dX2_copyFrom_0 rfl 1 rfl ?_
  refine gf_RX2_9 C (clN hq1) (cl0 hq1) rfl dX2_copyFrom_1 ?_
  refine V_iconst (v := (0 : Int32)) C dX2_copyFrom_4 (by decide) ?_
  refine V_aload_n C dX2_copyFrom_5 rfl 0 rfl ?_
  refine gf_RX2_9 C (clN ho) (cl0 ho) rfl dX2_copyFrom_6 ?_
  refine V_iconst (v := (0 : Int32)) C dX2_copyFrom_9 (by decide) ?_
  refine V_iconst (v := (5 : Int32)) C dX2_copyFrom_10 (by decide) ?_
  refine V_copy C (by decide) (clN1 hq1) (clN1 ho) (cl1 hq1) (cl1 ho) wl_RX2_34 (by decide) (by decide) dX2_copyFrom_11 (fun σ1 => ?_)
  refine V_aload_n C dX2_copyFrom_14 rfl 0 rfl ?_
  refine V_aload_n C dX2_copyFrom_15 rfl 1 rfl ?_
  refine gf_RX2_24 C (clN hq1) (cl0 hq1) rfl dX2_copyFrom_16 ?_
  refine pf_RX2_24 C (clN ho) (cl0 ho) rfl dX2_copyFrom_19 (fun σ2 => ?_)
  refine V_aload_n C dX2_copyFrom_22 rfl 0 rfl ?_
  refine V_aload_n C dX2_copyFrom_23 rfl 1 rfl ?_
  refine gf_RX2_28 C (clN hq1) (cl0 hq1) rfl dX2_copyFrom_24 ?_
  refine pf_RX2_28 C (clN ho) (cl0 ho) rfl dX2_copyFrom_27 (fun σ3 => ?_)
  refine V_aload_n C dX2_copyFrom_30 rfl 0 rfl ?_
  refine V_aload_n C dX2_copyFrom_31 rfl 1 rfl ?_
  refine gf_RX2_31 C (clN hq1) (cl0 hq1) rfl dX2_copyFrom_32 ?_
  refine pf_RX2_31 C (clN ho) (cl0 ho) rfl dX2_copyFrom_35 (fun σ4 => ?_)
  exact V_vret C D dX2_copyFrom_38

theorem ct_X2_copyFrom (l : Launch) (dC : Nat → ClassId) (dI : Nat → Nat → Nat) (cA : Nat → ClassId) (b : Nat) (σ : Hp) (o : Nat) (q1 : Nat) (ho : chartP o) (hq1 : chartP q1) : CT l dC dI cA b yX2_copyFrom cX2_copyFrom 2 none 1 [.ref (b + o), .ref (b + q1)] σ rvV (f_X2_copyFrom σ o q1) := CT_of [(0, .ref (b + o)), (1, .ref (b + q1))] (by decide +kernel) rfl (Nat.le_of_ble_eq_true rfl) rfl (fun E _ C D _ _ _ => vj_X2_copyFrom_0 C D σ o q1 ho hq1)
set_option maxRecDepth 4000 in
theorem vj_X2_has_0 {E : Ev} {b : Nat} (C : CX E RX2 cX2_has 2 1) (D : CR E (some .boolean))    (σ : Hp) (o : Nat) (a1 : Int32) (ho : chartP o) : VJ rvI (QM E b) E b 2 σ 0 [(0, .ref (b + o)), (1, .int a1)] [] (f_X2_has σ o a1) := by
  unfold f_X2_has
  refine V_iload_n C dX2_has_0 rfl 1 rfl ?_
  refine V_if_lt (tgt := 16) C dX2_has_1 (by decide) ?_ ?_
  · refine V_iconst (v := (0 : Int32)) C dX2_has_16 (by decide) ?_
    exact V_zret C D dX2_has_17
  · refine V_iload_n C dX2_has_4 rfl 1 rfl ?_
    refine V_aload_n C dX2_has_5 rfl 0 rfl ?_
    refine gf_RX2_24 C (clN ho) (cl0 ho) rfl dX2_has_6 ?_
    refine V_icmp_ge (tgt := 16) C dX2_has_9 (by decide) ?_ ?_
    · refine V_iconst (v := (0 : Int32)) C dX2_has_16 (by decide) ?_
      exact V_zret C D dX2_has_17
    · refine V_iconst (v := (1 : Int32)) C dX2_has_12 (by decide) ?_
      refine V_goto (tgt := 17) C dX2_has_13 (by decide) ?_
      exact V_zret C D dX2_has_17

theorem ct_X2_has (l : Launch) (dC : Nat → ClassId) (dI : Nat → Nat → Nat) (cA : Nat → ClassId) (b : Nat) (σ : Hp) (o : Nat) (a1 : Int32) (ho : chartP o) : CT l dC dI cA b yX2_has cX2_has 2 (some .boolean) 1 [.ref (b + o), .int a1] σ rvI (f_X2_has σ o a1) := CT_of [(0, .ref (b + o)), (1, .int a1)] (by decide +kernel) rfl (Nat.le_of_ble_eq_true rfl) rfl (fun E _ C D _ _ _ => vj_X2_has_0 C D σ o a1 ho)
set_option maxRecDepth 4000 in
theorem vj_X2_everyone_0 {E : Ev} {b : Nat} (C : CX E RX2 cX2_everyone 1 1) (D : CR E (some .int))    (σ : Hp) (o : Nat) (ho : chartP o) : VJ rvI (QM E b) E b 1 σ 0 [(0, .ref (b + o))] [] (f_X2_everyone σ o) := by
  unfold f_X2_everyone
  refine V_iconst (v := (1 : Int32)) C dX2_everyone_0 (by decide) ?_
  refine V_aload_n C dX2_everyone_1 rfl 0 rfl ?_
  refine gf_RX2_24 C (clN ho) (cl0 ho) rfl dX2_everyone_2 ?_
  refine V_ishl C dX2_everyone_5 ?_
  refine V_iconst (v := (1 : Int32)) C dX2_everyone_6 (by decide) ?_
  refine V_isub C dX2_everyone_7 ?_
  exact V_iret C D dX2_everyone_8

theorem ct_X2_everyone (l : Launch) (dC : Nat → ClassId) (dI : Nat → Nat → Nat) (cA : Nat → ClassId) (b : Nat) (σ : Hp) (o : Nat) (ho : chartP o) : CT l dC dI cA b yX2_everyone cX2_everyone 1 (some .int) 1 [.ref (b + o)] σ rvI (f_X2_everyone σ o) := CT_of [(0, .ref (b + o))] (by decide +kernel) rfl (Nat.le_of_ble_eq_true rfl) rfl (fun E _ C D _ _ _ => vj_X2_everyone_0 C D σ o ho)
set_option maxRecDepth 4000 in
theorem vj_X2_hasAll_0 {E : Ev} {b : Nat} (C : CX E RX2 cX2_hasAll 2 2) (D : CR E (some .boolean))    (σ : Hp) (o : Nat) (a1 : Int32) (ho : chartP o) : VJ rvI (QM E b) E b 2 σ 0 [(0, .ref (b + o)), (1, .int a1)] [] (f_X2_hasAll σ o a1) := by
  unfold f_X2_hasAll
  refine V_iload_n C dX2_hasAll_0 rfl 1 rfl ?_
  refine V_aload_n C dX2_hasAll_1 rfl 0 rfl ?_
  refine cv_RX2_40 C (clN ho) (cl0 ho) (ct_X2_everyone _ _ _ _ _ σ o ho) (by decide) rfl rfl (Nat.le_of_ble_eq_true rfl) dX2_hasAll_2 (fun r1 σ2 => ?_)
  refine V_iconst (v := (-1 : Int32)) C dX2_hasAll_5 (by decide) ?_
  refine V_ixor C dX2_hasAll_6 ?_
  refine V_iand C dX2_hasAll_7 ?_
  refine V_if_ne (tgt := 15) C dX2_hasAll_8 (by decide) ?_ ?_
  · refine V_iconst (v := (0 : Int32)) C dX2_hasAll_15 (by decide) ?_
    exact V_zret C D dX2_hasAll_16
  · refine V_iconst (v := (1 : Int32)) C dX2_hasAll_11 (by decide) ?_
    refine V_goto (tgt := 16) C dX2_hasAll_12 (by decide) ?_
    exact V_zret C D dX2_hasAll_16

theorem ct_X2_hasAll (l : Launch) (dC : Nat → ClassId) (dI : Nat → Nat → Nat) (cA : Nat → ClassId) (b : Nat) (σ : Hp) (o : Nat) (a1 : Int32) (ho : chartP o) : CT l dC dI cA b yX2_hasAll cX2_hasAll 2 (some .boolean) 2 [.ref (b + o), .int a1] σ rvI (f_X2_hasAll σ o a1) := CT_of [(0, .ref (b + o)), (1, .int a1)] (by decide +kernel) rfl (Nat.le_of_ble_eq_true rfl) rfl (fun E _ C D _ _ _ => vj_X2_hasAll_0 C D σ o a1 ho)
set_option maxRecDepth 4000 in
theorem vj_X2_twinless_26 {E : Ev} {b : Nat} (C : CX E RX2 cX2_twinless 3 1) (D : CR E (some .int)) (o : Nat) (ho : chartP o) {k4 : Hp → Int32 → Int32 → Option (Int32 × Hp)} (hk4 : ∀ (σ : Hp) (x1 : Int32) (x2 : Int32) , VJ rvI (QM E b) E b 3 σ 4 [(0, .ref (b + o)), (1, .int x1), (2, .int x2)] [] (k4 σ x1 x2)) (σ : Hp) (x1 : Int32) (x2 : Int32)  : VJ rvI (QM E b) E b 3 σ 26 [(0, .ref (b + o)), (1, .int x1), (2, .int x2)] [] (f_X2_twinless_26 k4 o σ x1 x2) := by
  unfold f_X2_twinless_26
  refine V_iinc (k := 2) (v := (1 : Int32)) (L' := fun v1 => [(2, .int v1), (0, .ref (b + o)), (1, .int x1)]) C dX2_twinless_26 rfl (by decide) (by decide) (fun _ => rfl) (fun v1 => ?_)
  refine V_goto (tgt := 4) C dX2_twinless_29 (by decide) ?_
  exact V_sub [1, 2, 0] rfl (hk4 σ x1 v1)

set_option maxRecDepth 4000 in
theorem vj_X2_twinless_4 {E : Ev} {b : Nat} (C : CX E RX2 cX2_twinless 3 1) (D : CR E (some .int)) (o : Nat) (ho : chartP o)  : ∀ (n : Nat) (σ : Hp) (x1 : Int32) (x2 : Int32) , VJ rvI (QM E b) E b 3 σ 4 [(0, .ref (b + o)), (1, .int x1), (2, .int x2)] [] (f_X2_twinless_4 o n σ x1 x2)
  | 0, σ, x1, x2 => V_none
  | n + 1, σ, x1, x2 => by
    show VJ rvI (QM E b) E b 3 σ 4 [(0, .ref (b + o)), (1, .int x1), (2, .int x2)] [] (if (σ o 1) ≤ x2 then (
          some (x1, σ))
        else (
          ck x2 5 <|
          if (σ (o + 1) (ix x2)) = (-9 : Int32) then (
            Lt (x1 + (1 : Int32)) fun v1 =>
            f_X2_twinless_26 (f_X2_twinless_4 o n) o σ v1 x2)
          else (
            f_X2_twinless_26 (f_X2_twinless_4 o n) o σ x1 x2)))
    have ih := vj_X2_twinless_4 (b := b) C D o ho  n
    refine V_iload_n C dX2_twinless_4 rfl 2 rfl ?_
    refine V_aload_n C dX2_twinless_5 rfl 0 rfl ?_
    refine gf_RX2_24 C (clN ho) (cl0 ho) rfl dX2_twinless_6 ?_
    refine V_icmp_ge (tgt := 32) C dX2_twinless_9 (by decide) ?_ ?_
    · refine V_iload_n C dX2_twinless_32 rfl 1 rfl ?_
      exact V_iret C D dX2_twinless_33
    · refine V_aload_n C dX2_twinless_12 rfl 0 rfl ?_
      refine gf_RX2_9 C (clN ho) (cl0 ho) rfl dX2_twinless_13 ?_
      refine V_iload_n C dX2_twinless_16 rfl 2 rfl ?_
      refine V_iald C (clN1 ho) (cl1 ho) dX2_twinless_17 ?_
      refine V_bipush (v := (-9 : Int32)) C dX2_twinless_18 (by decide) ?_
      refine V_icmp_ne (tgt := 26) C dX2_twinless_20 (by decide) ?_ ?_
      · exact V_sub [0, 1, 2] rfl (vj_X2_twinless_26 C D o ho ih σ x1 x2)
      · refine V_iinc (k := 1) (v := (1 : Int32)) (L' := fun v1 => [(1, .int v1), (0, .ref (b + o)), (2, .int x2)]) C dX2_twinless_23 rfl (by decide) (by decide) (fun _ => rfl) (fun v1 => ?_)
        exact V_sub [1, 0, 2] rfl (vj_X2_twinless_26 C D o ho ih σ v1 x2)

set_option maxRecDepth 4000 in
theorem vj_X2_twinless_0 {E : Ev} {b : Nat} (C : CX E RX2 cX2_twinless 3 1) (D : CR E (some .int))    (σ : Hp) (o : Nat) (ho : chartP o) : VJ rvI (QM E b) E b 3 σ 0 [(0, .ref (b + o))] [] (f_X2_twinless σ o) := by
  unfold f_X2_twinless
  refine V_iconst (v := (0 : Int32)) C dX2_twinless_0 (by decide) ?_
  refine V_istore_n (L' := [(1, .int (0 : Int32)), (0, .ref (b + o))]) C dX2_twinless_1 rfl (by decide) rfl ?_
  refine V_iconst (v := (0 : Int32)) C dX2_twinless_2 (by decide) ?_
  refine V_istore_n (L' := [(2, .int (0 : Int32)), (1, .int (0 : Int32)), (0, .ref (b + o))]) C dX2_twinless_3 rfl (by decide) rfl ?_
  exact V_sub [2, 1, 0] rfl (vj_X2_twinless_4 C D o ho FU σ (0 : Int32) (0 : Int32))

theorem ct_X2_twinless (l : Launch) (dC : Nat → ClassId) (dI : Nat → Nat → Nat) (cA : Nat → ClassId) (b : Nat) (σ : Hp) (o : Nat) (ho : chartP o) : CT l dC dI cA b yX2_twinless cX2_twinless 3 (some .int) 1 [.ref (b + o)] σ rvI (f_X2_twinless σ o) := CT_of [(0, .ref (b + o))] (by decide +kernel) rfl (Nat.le_of_ble_eq_true rfl) rfl (fun E _ C D _ _ _ => vj_X2_twinless_0 C D σ o ho)
set_option maxRecDepth 4000 in
theorem vj_X3_next_61 {E : Ev} {b : Nat} (C : CX E RX3 cX3_next 4 1) (D : CR E (some .int))    (σ : Hp)   : VJ rvI (QM E b) E b 4 σ 61 [(0, .ref (b + 3))] [] (f_X3_next_61 σ ) := by
  unfold f_X3_next_61
  refine V_aload_n C dX3_next_61 rfl 0 rfl ?_
  refine V_aload_n C dX3_next_62 rfl 0 rfl ?_
  refine gf_RX3_31 C (ln3) ly3 rfl dX3_next_63 ?_
  refine pf_RX3_35 C (ln3) ly3 rfl dX3_next_66 (fun σ1 => ?_)
  refine V_iconst (v := (0 : Int32)) C dX3_next_69 (by decide) ?_
  exact V_iret C D dX3_next_70

set_option maxRecDepth 4000 in
theorem vj_X3_next_0 {E : Ev} {b : Nat} (C : CX E RX3 cX3_next 4 1) (D : CR E (some .int))    (σ : Hp) (a1 : Int32) (a2 : Int32)  : VJ rvI (QM E b) E b 4 σ 0 [(0, .ref (b + 3)), (1, .int a1), (2, .int a2)] [] (f_X3_next σ a1 a2) := by
  unfold f_X3_next
  refine V_aload_n C dX3_next_0 rfl 0 rfl ?_
  refine gf_RX3_35 C (ln3) ly3 rfl dX3_next_1 ?_
  refine V_bipush (v := (-9 : Int32)) C dX3_next_4 (by decide) ?_
  refine V_icmp_eq (tgt := 11) C dX3_next_6 (by decide) ?_ ?_
  · refine V_aload_n C dX3_next_11 rfl 0 rfl ?_
    refine gf_RX3_31 C (ln3) ly3 rfl dX3_next_12 ?_
    refine V_aload_n C dX3_next_15 rfl 0 rfl ?_
    refine gf_RX3_27 C (ln3) ly3 rfl dX3_next_16 ?_
    refine gf_RX3_44 C (ln1) ly1 rfl dX3_next_19 ?_
    refine V_icmp_lt (tgt := 38) C dX3_next_22 (by decide) ?_ ?_
    · refine V_aload_n C dX3_next_38 rfl 0 rfl ?_
      refine gf_RX3_27 C (ln3) ly3 rfl dX3_next_39 ?_
      refine gf_RX3_62 C (ln1) ly1 rfl dX3_next_42 ?_
      refine V_aload_n C dX3_next_45 rfl 0 rfl ?_
      refine gf_RX3_31 C (ln3) ly3 rfl dX3_next_46 ?_
      refine V_bald C (ln2) ly2 dX3_next_49 ?_
      refine V_ltI (fun v1 => ?_)
      refine V_istore_n (L' := [(3, .int v1), (0, .ref (b + 3)), (1, .int a1), (2, .int a2)]) C dX3_next_50 rfl (by decide) rfl ?_
      refine V_iload_n C dX3_next_51 rfl 0 rfl ?_
      refine V_iload_n C dX3_next_52 rfl 2 rfl ?_
      refine V_icmp_lt (tgt := 61) C dX3_next_53 (by decide) ?_ ?_
      · exact V_sub [1] rfl (vj_X3_next_61 C D σ)
      · refine V_iload_n C dX3_next_56 rfl 0 rfl ?_
        refine V_iload_n C dX3_next_57 rfl 3 rfl ?_
        refine V_icmp_le (tgt := 71) C dX3_next_58 (by decide) ?_ ?_
        · refine V_aload_n C dX3_next_71 rfl 1 rfl ?_
          refine V_dup C dX3_next_72 rfl ?_
          refine gf_RX3_31 C (ln3) ly3 rfl dX3_next_73 ?_
          refine V_iconst (v := (1 : Int32)) C dX3_next_76 (by decide) ?_
          refine V_iadd C dX3_next_77 ?_
          refine pf_RX3_31 C (ln3) ly3 rfl dX3_next_78 (fun σ2 => ?_)
          refine V_iload_n C dX3_next_81 rfl 0 rfl ?_
          refine V_iload_n C dX3_next_82 rfl 2 rfl ?_
          refine V_isub C dX3_next_83 ?_
          exact V_iret C D dX3_next_84
        · exact V_sub [1] rfl (vj_X3_next_61 C D σ)
    · refine V_aload_n C dX3_next_25 rfl 0 rfl ?_
      refine V_aload_n C dX3_next_26 rfl 0 rfl ?_
      refine gf_RX3_27 C (ln3) ly3 rfl dX3_next_27 ?_
      refine gf_RX3_44 C (ln1) ly1 rfl dX3_next_30 ?_
      refine pf_RX3_35 C (ln3) ly3 rfl dX3_next_33 (fun σ3 => ?_)
      refine V_iconst (v := (0 : Int32)) C dX3_next_36 (by decide) ?_
      exact V_iret C D dX3_next_37
  · refine V_iconst (v := (0 : Int32)) C dX3_next_9 (by decide) ?_
    exact V_iret C D dX3_next_10

theorem ct_X3_next (l : Launch) (dC : Nat → ClassId) (dI : Nat → Nat → Nat) (cA : Nat → ClassId) (b : Nat) (σ : Hp) (a1 : Int32) (a2 : Int32)  : CT l dC dI cA b yX3_next cX3_next 4 (some .int) 1 [.ref (b + 3), .int a1, .int a2] σ rvI (f_X3_next σ a1 a2) := CT_of [(0, .ref (b + 3)), (1, .int a1), (2, .int a2)] (by decide +kernel) rfl (Nat.le_of_ble_eq_true rfl) rfl (fun E _ C D _ _ _ => vj_X3_next_0 C D σ a1 a2 )
set_option maxRecDepth 4000 in
theorem vj_X3_readHead_70 {E : Ev} {b : Nat} (C : CX E RX3 cX3_readHead 3 2) (D : CR E none)    (σ : Hp) (s0 : Int32) (s1 : Int32)  : VJ rvV (QM E b) E b 3 σ 70 [] [.int s0, .int s1, .ref (b + 4)] (f_X3_readHead_70 σ s0 s1) := by
  unfold f_X3_readHead_70
  refine V_iadd C dX3_readHead_70 ?_
  refine pf_RX3_59 C (ln4) ly4 rfl dX3_readHead_71 (fun σ1 => ?_)
  exact V_vret C D dX3_readHead_74

set_option maxRecDepth 4000 in
theorem vj_X3_readHead_45 {E : Ev} {b : Nat} (C : CX E RX3 cX3_readHead 3 2) (D : CR E none)    (σ : Hp) (x1 : Int32) (s0 : Int32)  : VJ rvV (QM E b) E b 3 σ 45 [(0, .ref (b + 3)), (1, .int x1)] [.int s0, .ref (b + 3)] (f_X3_readHead_45 σ x1 s0) := by
  unfold f_X3_readHead_45
  refine V_bipush (v := (57 : Int32)) C dX3_readHead_45 (by decide) ?_
  refine cv_RX3_52 C (ln3) ly3 (ct_X3_next _ _ _ _ _ σ s0 (57 : Int32)) (by decide) rfl rfl (Nat.le_of_ble_eq_true rfl) dX3_readHead_47 (fun r1 σ2 => ?_)
  refine V_istore_n (L' := [(2, .int r1), (0, .ref (b + 3)), (1, .int x1)]) C dX3_readHead_50 rfl (by decide) rfl ?_
  refine V_aload_n C dX3_readHead_51 rfl 1 rfl ?_
  refine gf_RX3_12 C (ln3) ly3 rfl dX3_readHead_52 ?_
  refine V_bipush (v := (10 : Int32)) C dX3_readHead_55 (by decide) ?_
  refine V_iload_n C dX3_readHead_57 rfl 2 rfl ?_
  refine V_imul C dX3_readHead_58 ?_
  refine V_iload_n C dX3_readHead_59 rfl 2 rfl ?_
  refine V_if_ne (tgt := 69) C dX3_readHead_60 (by decide) ?_ ?_
  · refine V_iload_n C dX3_readHead_69 rfl 0 rfl ?_
    exact V_sub [] rfl (vj_X3_readHead_70 C D σ2 r1 ((10 : Int32) * x1))
  · refine V_iload_n C dX3_readHead_63 rfl 0 rfl ?_
    refine V_iconst (v := (1 : Int32)) C dX3_readHead_64 (by decide) ?_
    refine V_iadd C dX3_readHead_65 ?_
    refine V_goto (tgt := 70) C dX3_readHead_66 (by decide) ?_
    exact V_sub [] rfl (vj_X3_readHead_70 C D σ2 (r1 + (1 : Int32)) ((10 : Int32) * x1))

set_option maxRecDepth 4000 in
theorem vj_X3_readHead_0 {E : Ev} {b : Nat} (C : CX E RX3 cX3_readHead 3 2) (D : CR E none)    (σ : Hp)   : VJ rvV (QM E b) E b 3 σ 0 [(0, .ref (b + 3))] [] (f_X3_readHead σ ) := by
  unfold f_X3_readHead
  refine V_aload_n C dX3_readHead_0 rfl 0 rfl ?_
  refine V_bipush (v := (70 : Int32)) C dX3_readHead_1 (by decide) ?_
  refine V_bipush (v := (70 : Int32)) C dX3_readHead_3 (by decide) ?_
  refine cv_RX3_52 C (ln3) ly3 (ct_X3_next _ _ _ _ _ σ (70 : Int32) (70 : Int32)) (by decide) rfl rfl (Nat.le_of_ble_eq_true rfl) dX3_readHead_5 (fun r1 σ2 => ?_)
  refine V_pop C dX3_readHead_8 rfl ?_
  refine V_aload_n C dX3_readHead_9 rfl 0 rfl ?_
  refine gf_RX3_12 C (ln3) ly3 rfl dX3_readHead_10 ?_
  refine V_aload_n C dX3_readHead_13 rfl 0 rfl ?_
  refine V_bipush (v := (48 : Int32)) C dX3_readHead_14 (by decide) ?_
  refine V_bipush (v := (53 : Int32)) C dX3_readHead_16 (by decide) ?_
  refine cv_RX3_52 C (ln3) ly3 (ct_X3_next _ _ _ _ _ σ2 (48 : Int32) (53 : Int32)) (by decide) rfl rfl (Nat.le_of_ble_eq_true rfl) dX3_readHead_18 (fun r3 σ4 => ?_)
  refine pf_RX3_56 C (ln4) ly4 rfl dX3_readHead_21 (fun σ5 => ?_)
  refine V_aload_n C dX3_readHead_24 rfl 0 rfl ?_
  refine V_bipush (v := (48 : Int32)) C dX3_readHead_25 (by decide) ?_
  refine V_bipush (v := (57 : Int32)) C dX3_readHead_27 (by decide) ?_
  refine cv_RX3_52 C (ln3) ly3 (ct_X3_next _ _ _ _ _ σ5 (48 : Int32) (57 : Int32)) (by decide) rfl rfl (Nat.le_of_ble_eq_true rfl) dX3_readHead_29 (fun r6 σ7 => ?_)
  refine V_istore_n (L' := [(1, .int r6), (0, .ref (b + 3))]) C dX3_readHead_32 rfl (by decide) rfl ?_
  refine V_aload_n C dX3_readHead_33 rfl 1 rfl ?_
  refine V_iload_n C dX3_readHead_34 rfl 0 rfl ?_
  refine V_if_ne (tgt := 43) C dX3_readHead_35 (by decide) ?_ ?_
  · refine V_bipush (v := (48 : Int32)) C dX3_readHead_43 (by decide) ?_
    exact V_sub [1, 0] rfl (vj_X3_readHead_45 C D σ7 r6 (48 : Int32))
  · refine V_bipush (v := (49 : Int32)) C dX3_readHead_38 (by decide) ?_
    refine V_goto (tgt := 45) C dX3_readHead_40 (by decide) ?_
    exact V_sub [1, 0] rfl (vj_X3_readHead_45 C D σ7 r6 (49 : Int32))

theorem ct_X3_readHead (l : Launch) (dC : Nat → ClassId) (dI : Nat → Nat → Nat) (cA : Nat → ClassId) (b : Nat) (σ : Hp)   : CT l dC dI cA b yX3_readHead cX3_readHead 3 none 2 [.ref (b + 3)] σ rvV (f_X3_readHead σ ) := CT_of [(0, .ref (b + 3))] (by decide +kernel) rfl (Nat.le_of_ble_eq_true rfl) rfl (fun E _ C D _ _ _ => vj_X3_readHead_0 C D σ  )
set_option maxRecDepth 4000 in
theorem vj_X3_readGuard_0 {E : Ev} {b : Nat} (C : CX E RX3 cX3_readGuard 3 2) (D : CR E none)    (σ : Hp)   : VJ rvV (QM E b) E b 3 σ 0 [(0, .ref (b + 3))] [] (f_X3_readGuard σ ) := by
  unfold f_X3_readGuard
  refine V_aload_n C dX3_readGuard_0 rfl 0 rfl ?_
  refine gf_RX3_12 C (ln3) ly3 rfl dX3_readGuard_1 ?_
  refine gf_RX3_66 C (ln4) ly4 rfl dX3_readGuard_4 ?_
  refine V_ltI (fun v1 => ?_)
  refine V_istore_n (L' := [(1, .int v1), (0, .ref (b + 3))]) C dX3_readGuard_7 rfl (by decide) rfl ?_
  refine V_aload_n C dX3_readGuard_8 rfl 1 rfl ?_
  refine V_bipush (v := (48 : Int32)) C dX3_readGuard_9 (by decide) ?_
  refine V_bipush (v := (57 : Int32)) C dX3_readGuard_11 (by decide) ?_
  refine cv_RX3_52 C (ln3) ly3 (ct_X3_next _ _ _ _ _ σ (48 : Int32) (57 : Int32)) (by decide) rfl rfl (Nat.le_of_ble_eq_true rfl) dX3_readGuard_13 (fun r2 σ3 => ?_)
  refine V_istore_n (L' := [(2, .int r2), (1, .int v1), (0, .ref (b + 3))]) C dX3_readGuard_16 rfl (by decide) rfl ?_
  refine V_aload_n C dX3_readGuard_17 rfl 2 rfl ?_
  refine gf_RX3_23 C (ln3) ly3 rfl dX3_readGuard_18 ?_
  refine gf_RX3_79 C (ln6) ly6 rfl dX3_readGuard_21 ?_
  refine V_iload_n C dX3_readGuard_24 rfl 1 rfl ?_
  refine V_bipush (v := (10 : Int32)) C dX3_readGuard_25 (by decide) ?_
  refine V_iload_n C dX3_readGuard_27 rfl 0 rfl ?_
  refine V_imul C dX3_readGuard_28 ?_
  refine V_aload_n C dX3_readGuard_29 rfl 2 rfl ?_
  refine V_bipush (v := (48 : Int32)) C dX3_readGuard_30 (by decide) ?_
  refine V_bipush (v := (57 : Int32)) C dX3_readGuard_32 (by decide) ?_
  refine cv_RX3_52 C (ln3) ly3 (ct_X3_next _ _ _ _ _ σ3 (48 : Int32) (57 : Int32)) (by decide) rfl rfl (Nat.le_of_ble_eq_true rfl) dX3_readGuard_34 (fun r4 σ5 => ?_)
  refine V_iadd C dX3_readGuard_37 ?_
  refine V_iast C (ln7) ly7 dX3_readGuard_38 (fun σ6 => ?_)
  refine V_aload_n C dX3_readGuard_39 rfl 2 rfl ?_
  refine gf_RX3_23 C (ln3) ly3 rfl dX3_readGuard_40 ?_
  refine gf_RX3_83 C (ln6) ly6 rfl dX3_readGuard_43 ?_
  refine V_iload_n C dX3_readGuard_46 rfl 1 rfl ?_
  refine V_aload_n C dX3_readGuard_47 rfl 2 rfl ?_
  refine V_bipush (v := (48 : Int32)) C dX3_readGuard_48 (by decide) ?_
  refine V_bipush (v := (57 : Int32)) C dX3_readGuard_50 (by decide) ?_
  refine cv_RX3_52 C (ln3) ly3 (ct_X3_next _ _ _ _ _ σ6 (48 : Int32) (57 : Int32)) (by decide) rfl rfl (Nat.le_of_ble_eq_true rfl) dX3_readGuard_52 (fun r7 σ8 => ?_)
  refine V_iast C (ln8) ly8 dX3_readGuard_55 (fun σ9 => ?_)
  refine V_aload_n C dX3_readGuard_56 rfl 2 rfl ?_
  refine gf_RX3_23 C (ln3) ly3 rfl dX3_readGuard_57 ?_
  refine gf_RX3_86 C (ln6) ly6 rfl dX3_readGuard_60 ?_
  refine V_iload_n C dX3_readGuard_63 rfl 1 rfl ?_
  refine V_aload_n C dX3_readGuard_64 rfl 2 rfl ?_
  refine V_bipush (v := (48 : Int32)) C dX3_readGuard_65 (by decide) ?_
  refine V_bipush (v := (57 : Int32)) C dX3_readGuard_67 (by decide) ?_
  refine cv_RX3_52 C (ln3) ly3 (ct_X3_next _ _ _ _ _ σ9 (48 : Int32) (57 : Int32)) (by decide) rfl rfl (Nat.le_of_ble_eq_true rfl) dX3_readGuard_69 (fun r10 σ11 => ?_)
  refine V_iast C (ln9) ly9 dX3_readGuard_72 (fun σ12 => ?_)
  refine V_aload_n C dX3_readGuard_73 rfl 2 rfl ?_
  refine gf_RX3_12 C (ln3) ly3 rfl dX3_readGuard_74 ?_
  refine V_iload_n C dX3_readGuard_77 rfl 1 rfl ?_
  refine V_iconst (v := (1 : Int32)) C dX3_readGuard_78 (by decide) ?_
  refine V_iadd C dX3_readGuard_79 ?_
  refine pf_RX3_66 C (ln4) ly4 rfl dX3_readGuard_80 (fun σ13 => ?_)
  exact V_vret C D dX3_readGuard_83

theorem ct_X3_readGuard (l : Launch) (dC : Nat → ClassId) (dI : Nat → Nat → Nat) (cA : Nat → ClassId) (b : Nat) (σ : Hp)   : CT l dC dI cA b yX3_readGuard cX3_readGuard 3 none 2 [.ref (b + 3)] σ rvV (f_X3_readGuard σ ) := CT_of [(0, .ref (b + 3))] (by decide +kernel) rfl (Nat.le_of_ble_eq_true rfl) rfl (fun E _ C D _ _ _ => vj_X3_readGuard_0 C D σ  )
set_option maxRecDepth 4000 in
theorem vj_X3_nextTwin_53 {E : Ev} {b : Nat} (C : CX E RX3 cX3_nextTwin 4 2) (D : CR E (some .int))    (σ : Hp) (x2 : Int32) (x3 : Int32)  : VJ rvI (QM E b) E b 4 σ 53 [(0, .ref (b + 3)), (2, .int x2), (3, .int x3)] [] (f_X3_nextTwin_53 σ x2 x3) := by
  unfold f_X3_nextTwin_53
  refine V_aload_n C dX3_nextTwin_53 rfl 0 rfl ?_
  refine V_iload_n C dX3_nextTwin_54 rfl 1 rfl ?_
  refine pf_RX3_35 C (ln3) ly3 rfl dX3_nextTwin_55 (fun σ1 => ?_)
  refine V_iload_n C dX3_nextTwin_58 rfl 2 rfl ?_
  exact V_iret C D dX3_nextTwin_59

set_option maxRecDepth 4000 in
theorem vj_X3_nextTwin_0 {E : Ev} {b : Nat} (C : CX E RX3 cX3_nextTwin 4 2) (D : CR E (some .int))    (σ : Hp) (a1 : Int32)  : VJ rvI (QM E b) E b 4 σ 0 [(0, .ref (b + 3)), (1, .int a1)] [] (f_X3_nextTwin σ a1) := by
  unfold f_X3_nextTwin
  refine V_aload_n C dX3_nextTwin_0 rfl 0 rfl ?_
  refine gf_RX3_31 C (ln3) ly3 rfl dX3_nextTwin_1 ?_
  refine V_ltI (fun v1 => ?_)
  refine V_istore_n (L' := [(2, .int v1), (0, .ref (b + 3)), (1, .int a1)]) C dX3_nextTwin_4 rfl (by decide) rfl ?_
  refine V_aload_n C dX3_nextTwin_5 rfl 1 rfl ?_
  refine V_bipush (v := (48 : Int32)) C dX3_nextTwin_6 (by decide) ?_
  refine V_bipush (v := (57 : Int32)) C dX3_nextTwin_8 (by decide) ?_
  refine cv_RX3_52 C (ln3) ly3 (ct_X3_next _ _ _ _ _ σ (48 : Int32) (57 : Int32)) (by decide) rfl rfl (Nat.le_of_ble_eq_true rfl) dX3_nextTwin_10 (fun r2 σ3 => ?_)
  refine V_istore_n (L' := [(3, .int r2), (2, .int v1), (0, .ref (b + 3)), (1, .int a1)]) C dX3_nextTwin_13 rfl (by decide) rfl ?_
  refine V_aload_n C dX3_nextTwin_14 rfl 2 rfl ?_
  refine gf_RX3_35 C (ln3) ly3 rfl dX3_nextTwin_15 ?_
  refine V_bipush (v := (-9 : Int32)) C dX3_nextTwin_18 (by decide) ?_
  refine V_icmp_ne (tgt := 58) C dX3_nextTwin_20 (by decide) ?_ ?_
  · refine V_iload_n C dX3_nextTwin_58 rfl 0 rfl ?_
    exact V_iret C D dX3_nextTwin_59
  · refine V_aload_n C dX3_nextTwin_23 rfl 2 rfl ?_
    refine gf_RX3_12 C (ln3) ly3 rfl dX3_nextTwin_24 ?_
    refine V_iload_n C dX3_nextTwin_27 rfl 0 rfl ?_
    refine cv_RX3_96 C (ln4) ly4 (ct_X2_has _ _ _ _ _ σ3 4 r2 cP_4) (by decide) rfl rfl (Nat.le_of_ble_eq_true rfl) dX3_nextTwin_28 (fun r4 σ5 => ?_)
    refine V_if_eq (tgt := 53) C dX3_nextTwin_31 (by decide) ?_ ?_
    · exact V_sub [2, 1, 0] rfl (vj_X3_nextTwin_53 C D σ5 v1 r2)
    · refine V_aload_n C dX3_nextTwin_34 rfl 2 rfl ?_
      refine gf_RX3_12 C (ln3) ly3 rfl dX3_nextTwin_35 ?_
      refine gf_RX3_93 C (ln4) ly4 rfl dX3_nextTwin_38 ?_
      refine V_iload_n C dX3_nextTwin_41 rfl 0 rfl ?_
      refine V_iald C (ln5) ly5 dX3_nextTwin_42 ?_
      refine V_bipush (v := (-9 : Int32)) C dX3_nextTwin_43 (by decide) ?_
      refine V_icmp_ne (tgt := 53) C dX3_nextTwin_45 (by decide) ?_ ?_
      · exact V_sub [2, 1, 0] rfl (vj_X3_nextTwin_53 C D σ5 v1 r2)
      · refine V_iload_n C dX3_nextTwin_48 rfl 0 rfl ?_
        refine V_iload_n C dX3_nextTwin_49 rfl 3 rfl ?_
        refine V_icmp_ne (tgt := 58) C dX3_nextTwin_50 (by decide) ?_ ?_
        · refine V_iload_n C dX3_nextTwin_58 rfl 0 rfl ?_
          exact V_iret C D dX3_nextTwin_59
        · exact V_sub [2, 1, 0] rfl (vj_X3_nextTwin_53 C D σ5 v1 r2)

theorem ct_X3_nextTwin (l : Launch) (dC : Nat → ClassId) (dI : Nat → Nat → Nat) (cA : Nat → ClassId) (b : Nat) (σ : Hp) (a1 : Int32)  : CT l dC dI cA b yX3_nextTwin cX3_nextTwin 4 (some .int) 2 [.ref (b + 3), .int a1] σ rvI (f_X3_nextTwin σ a1) := CT_of [(0, .ref (b + 3)), (1, .int a1)] (by decide +kernel) rfl (Nat.le_of_ble_eq_true rfl) rfl (fun E _ C D _ _ _ => vj_X3_nextTwin_0 C D σ a1 )
set_option maxRecDepth 4000 in
theorem vj_X3_readTwins_0 {E : Ev} {b : Nat} (C : CX E RX3 cX3_readTwins 3 3) (D : CR E none)    (σ : Hp)   : VJ rvV (QM E b) E b 3 σ 0 [(0, .ref (b + 3))] [] (f_X3_readTwins σ ) := by
  unfold f_X3_readTwins
  refine V_aload_n C dX3_readTwins_0 rfl 0 rfl ?_
  refine V_bipush (v := (-9 : Int32)) C dX3_readTwins_1 (by decide) ?_
  refine cv_RX3_89 C (ln3) ly3 (ct_X3_nextTwin _ _ _ _ _ σ (-9 : Int32)) (by decide) rfl rfl (Nat.le_of_ble_eq_true rfl) dX3_readTwins_3 (fun r1 σ2 => ?_)
  refine V_istore_n (L' := [(1, .int r1), (0, .ref (b + 3))]) C dX3_readTwins_6 rfl (by decide) rfl ?_
  refine V_aload_n C dX3_readTwins_7 rfl 1 rfl ?_
  refine V_iload_n C dX3_readTwins_8 rfl 0 rfl ?_
  refine cv_RX3_89 C (ln3) ly3 (ct_X3_nextTwin _ _ _ _ _ σ2 r1) (by decide) rfl rfl (Nat.le_of_ble_eq_true rfl) dX3_readTwins_9 (fun r3 σ4 => ?_)
  refine V_istore_n (L' := [(2, .int r3), (1, .int r1), (0, .ref (b + 3))]) C dX3_readTwins_12 rfl (by decide) rfl ?_
  refine V_aload_n C dX3_readTwins_13 rfl 2 rfl ?_
  refine gf_RX3_35 C (ln3) ly3 rfl dX3_readTwins_14 ?_
  refine V_bipush (v := (-9 : Int32)) C dX3_readTwins_17 (by decide) ?_
  refine V_icmp_ne (tgt := 42) C dX3_readTwins_19 (by decide) ?_ ?_
  · exact V_vret C D dX3_readTwins_42
  · refine V_aload_n C dX3_readTwins_22 rfl 2 rfl ?_
    refine gf_RX3_12 C (ln3) ly3 rfl dX3_readTwins_23 ?_
    refine gf_RX3_93 C (ln4) ly4 rfl dX3_readTwins_26 ?_
    refine V_iload_n C dX3_readTwins_29 rfl 1 rfl ?_
    refine V_iload_n C dX3_readTwins_30 rfl 0 rfl ?_
    refine V_iast C (ln5) ly5 dX3_readTwins_31 (fun σ5 => ?_)
    refine V_aload_n C dX3_readTwins_32 rfl 2 rfl ?_
    refine gf_RX3_12 C (ln3) ly3 rfl dX3_readTwins_33 ?_
    refine gf_RX3_93 C (ln4) ly4 rfl dX3_readTwins_36 ?_
    refine V_iload_n C dX3_readTwins_39 rfl 0 rfl ?_
    refine V_iload_n C dX3_readTwins_40 rfl 1 rfl ?_
    refine V_iast C (ln5) ly5 dX3_readTwins_41 (fun σ6 => ?_)
    exact V_vret C D dX3_readTwins_42

theorem ct_X3_readTwins (l : Launch) (dC : Nat → ClassId) (dI : Nat → Nat → Nat) (cA : Nat → ClassId) (b : Nat) (σ : Hp)   : CT l dC dI cA b yX3_readTwins cX3_readTwins 3 none 3 [.ref (b + 3)] σ rvV (f_X3_readTwins σ ) := CT_of [(0, .ref (b + 3))] (by decide +kernel) rfl (Nat.le_of_ble_eq_true rfl) rfl (fun E _ C D _ _ _ => vj_X3_readTwins_0 C D σ  )
set_option maxRecDepth 4000 in
theorem vj_X3_readPart_81 {E : Ev} {b : Nat} (C : CX E RX3 cX3_readPart 2 4) (D : CR E none)    (σ : Hp)   : VJ rvV (QM E b) E b 2 σ 81 [(0, .ref (b + 3))] [] (f_X3_readPart_81 σ ) := by
  unfold f_X3_readPart_81
  refine V_aload_n C dX3_readPart_81 rfl 0 rfl ?_
  refine V_aload_n C dX3_readPart_82 rfl 0 rfl ?_
  refine gf_RX3_31 C (ln3) ly3 rfl dX3_readPart_83 ?_
  refine pf_RX3_35 C (ln3) ly3 rfl dX3_readPart_86 (fun σ1 => ?_)
  exact V_vret C D dX3_readPart_89

set_option maxRecDepth 4000 in
theorem vj_X3_readPart_47 {E : Ev} {b : Nat} (C : CX E RX3 cX3_readPart 2 4) (D : CR E none)    (σ : Hp) (x1 : Int32)  : VJ rvV (QM E b) E b 2 σ 47 [(0, .ref (b + 3)), (1, .int x1)] [] (f_X3_readPart_47 σ x1) := by
  unfold f_X3_readPart_47
  refine V_iload_n C dX3_readPart_47 rfl 1 rfl ?_
  refine V_bipush (v := (84 : Int32)) C dX3_readPart_48 (by decide) ?_
  refine V_icmp_ne (tgt := 81) C dX3_readPart_50 (by decide) ?_ ?_
  · exact V_sub [0] rfl (vj_X3_readPart_81 C D σ)
  · refine V_aload_n C dX3_readPart_53 rfl 0 rfl ?_
    refine gf_RX3_12 C (ln3) ly3 rfl dX3_readPart_54 ?_
    refine cv_RX3_72 C (ln4) ly4 (ct_X2_twinless _ _ _ _ _ σ 4 cP_4) (by decide) rfl rfl (Nat.le_of_ble_eq_true rfl) dX3_readPart_57 (fun r1 σ2 => ?_)
    refine V_iconst (v := (2 : Int32)) C dX3_readPart_60 (by decide) ?_
    refine V_icmp_lt (tgt := 81) C dX3_readPart_61 (by decide) ?_ ?_
    · exact V_sub [0] rfl (vj_X3_readPart_81 C D σ2)
    · refine V_aload_n C dX3_readPart_64 rfl 0 rfl ?_
      refine V_dup C dX3_readPart_65 rfl ?_
      refine gf_RX3_31 C (ln3) ly3 rfl dX3_readPart_66 ?_
      refine V_iconst (v := (1 : Int32)) C dX3_readPart_69 (by decide) ?_
      refine V_iadd C dX3_readPart_70 ?_
      refine pf_RX3_31 C (ln3) ly3 rfl dX3_readPart_71 (fun σ3 => ?_)
      refine V_aload_n C dX3_readPart_74 rfl 0 rfl ?_
      refine cv_RX3_76 C (ln3) ly3 (ct_X3_readTwins _ _ _ _ _ σ3 ) (by decide) rfl rfl (Nat.le_of_ble_eq_true rfl) dX3_readPart_75 (fun r4 σ5 => ?_)
      refine V_goto (tgt := 89) C dX3_readPart_78 (by decide) ?_
      exact V_vret C D dX3_readPart_89

set_option maxRecDepth 4000 in
theorem vj_X3_readPart_0 {E : Ev} {b : Nat} (C : CX E RX3 cX3_readPart 2 4) (D : CR E none)    (σ : Hp)   : VJ rvV (QM E b) E b 2 σ 0 [(0, .ref (b + 3))] [] (f_X3_readPart σ ) := by
  unfold f_X3_readPart
  refine V_aload_n C dX3_readPart_0 rfl 0 rfl ?_
  refine gf_RX3_27 C (ln3) ly3 rfl dX3_readPart_1 ?_
  refine gf_RX3_62 C (ln1) ly1 rfl dX3_readPart_4 ?_
  refine V_aload_n C dX3_readPart_7 rfl 0 rfl ?_
  refine gf_RX3_31 C (ln3) ly3 rfl dX3_readPart_8 ?_
  refine V_bald C (ln2) ly2 dX3_readPart_11 ?_
  refine V_ltI (fun v1 => ?_)
  refine V_istore_n (L' := [(1, .int v1), (0, .ref (b + 3))]) C dX3_readPart_12 rfl (by decide) rfl ?_
  refine V_iload_n C dX3_readPart_13 rfl 0 rfl ?_
  refine V_bipush (v := (71 : Int32)) C dX3_readPart_14 (by decide) ?_
  refine V_icmp_ne (tgt := 47) C dX3_readPart_16 (by decide) ?_ ?_
  · exact V_sub [1, 0] rfl (vj_X3_readPart_47 C D σ v1)
  · refine V_aload_n C dX3_readPart_19 rfl 1 rfl ?_
    refine gf_RX3_12 C (ln3) ly3 rfl dX3_readPart_20 ?_
    refine gf_RX3_66 C (ln4) ly4 rfl dX3_readPart_23 ?_
    refine V_iconst (v := (5 : Int32)) C dX3_readPart_26 (by decide) ?_
    refine V_icmp_ge (tgt := 47) C dX3_readPart_27 (by decide) ?_ ?_
    · exact V_sub [1, 0] rfl (vj_X3_readPart_47 C D σ v1)
    · refine V_aload_n C dX3_readPart_30 rfl 1 rfl ?_
      refine V_dup C dX3_readPart_31 rfl ?_
      refine gf_RX3_31 C (ln3) ly3 rfl dX3_readPart_32 ?_
      refine V_iconst (v := (1 : Int32)) C dX3_readPart_35 (by decide) ?_
      refine V_iadd C dX3_readPart_36 ?_
      refine pf_RX3_31 C (ln3) ly3 rfl dX3_readPart_37 (fun σ2 => ?_)
      refine V_aload_n C dX3_readPart_40 rfl 1 rfl ?_
      refine cv_RX3_69 C (ln3) ly3 (ct_X3_readGuard _ _ _ _ _ σ2 ) (by decide) rfl rfl (Nat.le_of_ble_eq_true rfl) dX3_readPart_41 (fun r3 σ4 => ?_)
      refine V_goto (tgt := 89) C dX3_readPart_44 (by decide) ?_
      exact V_vret C D dX3_readPart_89

theorem ct_X3_readPart (l : Launch) (dC : Nat → ClassId) (dI : Nat → Nat → Nat) (cA : Nat → ClassId) (b : Nat) (σ : Hp)   : CT l dC dI cA b yX3_readPart cX3_readPart 2 none 4 [.ref (b + 3)] σ rvV (f_X3_readPart σ ) := CT_of [(0, .ref (b + 3))] (by decide +kernel) rfl (Nat.le_of_ble_eq_true rfl) rfl (fun E _ C D _ _ _ => vj_X3_readPart_0 C D σ  )
set_option maxRecDepth 4000 in
theorem vj_X3_read_63 {E : Ev} {b : Nat} (C : CX E RX3 cX3_read 2 5) (D : CR E (some .int))    (σ : Hp)   : VJ rvI (QM E b) E b 2 σ 63 [(0, .ref (b + 3))] [] (f_X3_read_63 σ ) := by
  unfold f_X3_read_63
  refine V_aload_n C dX3_read_63 rfl 0 rfl ?_
  refine gf_RX3_35 C (ln3) ly3 rfl dX3_read_64 ?_
  exact V_iret C D dX3_read_67

set_option maxRecDepth 4000 in
theorem vj_X3_read_24 {E : Ev} {b : Nat} (C : CX E RX3 cX3_read 2 5) (D : CR E (some .int))    : ∀ (n : Nat) (σ : Hp) (x1 : Int32) , VJ rvI (QM E b) E b 2 σ 24 [(0, .ref (b + 3)), (1, .int x1)] [] (f_X3_read_24 n σ x1)
  | 0, σ, x1 => V_none
  | n + 1, σ, x1 => by
    show VJ rvI (QM E b) E b 2 σ 24 [(0, .ref (b + 3)), (1, .int x1)] [] (if (48 : Int32) ≤ x1 then (
          f_X3_read_63 σ )
        else (
          if (σ 3 4) = (-9 : Int32) then (
            if (σ 1 1) ≤ (σ 3 3) then (
              f_X3_read_63 σ )
            else (
              bd (f_X3_readPart σ ) fun r1 σ2 =>
              Lt (x1 + (1 : Int32)) fun v3 =>
              f_X3_read_24 n σ2 v3))
          else (
            f_X3_read_63 σ )))
    have ih := vj_X3_read_24 (b := b) C D   n
    refine V_iload_n C dX3_read_24 rfl 1 rfl ?_
    refine V_bipush (v := (48 : Int32)) C dX3_read_25 (by decide) ?_
    refine V_icmp_ge (tgt := 63) C dX3_read_27 (by decide) ?_ ?_
    · exact V_sub [0] rfl (vj_X3_read_63 C D σ)
    · refine V_aload_n C dX3_read_30 rfl 0 rfl ?_
      refine gf_RX3_35 C (ln3) ly3 rfl dX3_read_31 ?_
      refine V_bipush (v := (-9 : Int32)) C dX3_read_34 (by decide) ?_
      refine V_icmp_ne (tgt := 63) C dX3_read_36 (by decide) ?_ ?_
      · exact V_sub [0] rfl (vj_X3_read_63 C D σ)
      · refine V_aload_n C dX3_read_39 rfl 0 rfl ?_
        refine gf_RX3_31 C (ln3) ly3 rfl dX3_read_40 ?_
        refine V_aload_n C dX3_read_43 rfl 0 rfl ?_
        refine gf_RX3_27 C (ln3) ly3 rfl dX3_read_44 ?_
        refine gf_RX3_44 C (ln1) ly1 rfl dX3_read_47 ?_
        refine V_icmp_ge (tgt := 63) C dX3_read_50 (by decide) ?_ ?_
        · exact V_sub [0] rfl (vj_X3_read_63 C D σ)
        · refine V_aload_n C dX3_read_53 rfl 0 rfl ?_
          refine cv_RX3_49 C (ln3) ly3 (ct_X3_readPart _ _ _ _ _ σ ) (by decide) rfl rfl (Nat.le_of_ble_eq_true rfl) dX3_read_54 (fun r1 σ2 => ?_)
          refine V_iinc (k := 1) (v := (1 : Int32)) (L' := fun v3 => [(1, .int v3), (0, .ref (b + 3))]) C dX3_read_57 rfl (by decide) (by decide) (fun _ => rfl) (fun v3 => ?_)
          refine V_goto (tgt := 24) C dX3_read_60 (by decide) ?_
          exact V_sub [1, 0] rfl (ih σ2 v3)

set_option maxRecDepth 4000 in
theorem vj_X3_read_0 {E : Ev} {b : Nat} (C : CX E RX3 cX3_read 2 5) (D : CR E (some .int))    (σ : Hp)   : VJ rvI (QM E b) E b 2 σ 0 [(0, .ref (b + 3))] [] (f_X3_read σ ) := by
  unfold f_X3_read
  refine V_aload_n C dX3_read_0 rfl 0 rfl ?_
  refine V_iconst (v := (0 : Int32)) C dX3_read_1 (by decide) ?_
  refine pf_RX3_31 C (ln3) ly3 rfl dX3_read_2 (fun σ1 => ?_)
  refine V_aload_n C dX3_read_5 rfl 0 rfl ?_
  refine V_bipush (v := (-9 : Int32)) C dX3_read_6 (by decide) ?_
  refine pf_RX3_35 C (ln3) ly3 rfl dX3_read_8 (fun σ2 => ?_)
  refine V_aload_n C dX3_read_11 rfl 0 rfl ?_
  refine gf_RX3_12 C (ln3) ly3 rfl dX3_read_12 ?_
  refine cv_RX3_38 C (ln4) ly4 (ct_X2_clear _ _ _ _ _ σ2 4 cP_4) (by decide) rfl rfl (Nat.le_of_ble_eq_true rfl) dX3_read_15 (fun r3 σ4 => ?_)
  refine V_aload_n C dX3_read_18 rfl 0 rfl ?_
  refine cv_RX3_41 C (ln3) ly3 (ct_X3_readHead _ _ _ _ _ σ4 ) (by decide) rfl rfl (Nat.le_of_ble_eq_true rfl) dX3_read_19 (fun r5 σ6 => ?_)
  refine V_iconst (v := (0 : Int32)) C dX3_read_22 (by decide) ?_
  refine V_istore_n (L' := [(1, .int (0 : Int32)), (0, .ref (b + 3))]) C dX3_read_23 rfl (by decide) rfl ?_
  exact V_sub [1, 0] rfl (vj_X3_read_24 C D FU σ6 (0 : Int32))

theorem ct_X3_read (l : Launch) (dC : Nat → ClassId) (dI : Nat → Nat → Nat) (cA : Nat → ClassId) (b : Nat) (σ : Hp)   : CT l dC dI cA b yX3_read cX3_read 2 (some .int) 5 [.ref (b + 3)] σ rvI (f_X3_read σ ) := CT_of [(0, .ref (b + 3))] (by decide +kernel) rfl (Nat.le_of_ble_eq_true rfl) rfl (fun E _ C D _ _ _ => vj_X3_read_0 C D σ  )
set_option maxRecDepth 4000 in
theorem vj_X4_tiredOfAll_4 {E : Ev} {b : Nat} (C : CX E RX4 cX4_tiredOfAll 3 1) (D : CR E (some .int)) (o : Nat) (ho : rollP o)  : ∀ (n : Nat) (σ : Hp) (x1 : Int32) (x2 : Int32) , VJ rvI (QM E b) E b 3 σ 4 [(0, .ref (b + o)), (1, .int x1), (2, .int x2)] [] (f_X4_tiredOfAll_4 o n σ x1 x2)
  | 0, σ, x1, x2 => V_none
  | n + 1, σ, x1, x2 => by
    show VJ rvI (QM E b) E b 3 σ 4 [(0, .ref (b + o)), (1, .int x1), (2, .int x2)] [] (if (σ (chO o) 1) ≤ x2 then (
          some (x1, σ))
        else (
          ck x2 5 <|
          Lt (x1 + (σ (o + 1) (ix x2))) fun v1 =>
          Lt (x2 + (1 : Int32)) fun v2 =>
          f_X4_tiredOfAll_4 o n σ v1 v2))
    have ih := vj_X4_tiredOfAll_4 (b := b) C D o ho  n
    refine V_iload_n C dX4_tiredOfAll_4 rfl 2 rfl ?_
    refine V_aload_n C dX4_tiredOfAll_5 rfl 0 rfl ?_
    refine gf_RX4_24 C (rlN ho) (rl0 ho) rfl dX4_tiredOfAll_6 ?_
    refine gf_RX4_47 C (clN (chP ho)) (cl0 (chP ho)) rfl dX4_tiredOfAll_9 ?_
    refine V_icmp_ge (tgt := 30) C dX4_tiredOfAll_12 (by decide) ?_ ?_
    · refine V_iload_n C dX4_tiredOfAll_30 rfl 1 rfl ?_
      exact V_iret C D dX4_tiredOfAll_31
    · refine V_iload_n C dX4_tiredOfAll_15 rfl 1 rfl ?_
      refine V_aload_n C dX4_tiredOfAll_16 rfl 0 rfl ?_
      refine gf_RX4_9 C (rlN ho) (rl0 ho) rfl dX4_tiredOfAll_17 ?_
      refine V_iload_n C dX4_tiredOfAll_20 rfl 2 rfl ?_
      refine V_iald C (rlN1 ho) (rl1 ho) dX4_tiredOfAll_21 ?_
      refine V_iadd C dX4_tiredOfAll_22 ?_
      refine V_ltI (fun v1 => ?_)
      refine V_istore_n (L' := [(1, .int v1), (0, .ref (b + o)), (2, .int x2)]) C dX4_tiredOfAll_23 rfl (by decide) rfl ?_
      refine V_iinc (k := 2) (v := (1 : Int32)) (L' := fun v2 => [(2, .int v2), (1, .int v1), (0, .ref (b + o))]) C dX4_tiredOfAll_24 rfl (by decide) (by decide) (fun _ => rfl) (fun v2 => ?_)
      refine V_goto (tgt := 4) C dX4_tiredOfAll_27 (by decide) ?_
      exact V_sub [2, 1, 0] rfl (ih σ v1 v2)

set_option maxRecDepth 4000 in
theorem vj_X4_tiredOfAll_0 {E : Ev} {b : Nat} (C : CX E RX4 cX4_tiredOfAll 3 1) (D : CR E (some .int))    (σ : Hp) (o : Nat) (ho : rollP o) : VJ rvI (QM E b) E b 3 σ 0 [(0, .ref (b + o))] [] (f_X4_tiredOfAll σ o) := by
  unfold f_X4_tiredOfAll
  refine V_iconst (v := (0 : Int32)) C dX4_tiredOfAll_0 (by decide) ?_
  refine V_istore_n (L' := [(1, .int (0 : Int32)), (0, .ref (b + o))]) C dX4_tiredOfAll_1 rfl (by decide) rfl ?_
  refine V_iconst (v := (0 : Int32)) C dX4_tiredOfAll_2 (by decide) ?_
  refine V_istore_n (L' := [(2, .int (0 : Int32)), (1, .int (0 : Int32)), (0, .ref (b + o))]) C dX4_tiredOfAll_3 rfl (by decide) rfl ?_
  exact V_sub [2, 1, 0] rfl (vj_X4_tiredOfAll_4 C D o ho FU σ (0 : Int32) (0 : Int32))

theorem ct_X4_tiredOfAll (l : Launch) (dC : Nat → ClassId) (dI : Nat → Nat → Nat) (cA : Nat → ClassId) (b : Nat) (σ : Hp) (o : Nat) (ho : rollP o) : CT l dC dI cA b yX4_tiredOfAll cX4_tiredOfAll 3 (some .int) 1 [.ref (b + o)] σ rvI (f_X4_tiredOfAll σ o) := CT_of [(0, .ref (b + o))] (by decide +kernel) rfl (Nat.le_of_ble_eq_true rfl) rfl (fun E _ C D _ _ _ => vj_X4_tiredOfAll_0 C D σ o ho)
set_option maxRecDepth 4000 in
theorem vj_X4_leastTiredBehind_4 {E : Ev} {b : Nat} (C : CX E RX4 cX4_leastTiredBehind 4 1) (D : CR E (some .int)) (o : Nat) (ho : rollP o)  : ∀ (n : Nat) (σ : Hp) (x1 : Int32) (x2 : Int32) (x3 : Int32) , VJ rvI (QM E b) E b 4 σ 4 [(0, .ref (b + o)), (1, .int x1), (2, .int x2), (3, .int x3)] [] (f_X4_leastTiredBehind_4 o n σ x1 x2 x3)
  | 0, σ, x1, x2, x3 => V_none
  | n + 1, σ, x1, x2, x3 => by
    show VJ rvI (QM E b) E b 4 σ 4 [(0, .ref (b + o)), (1, .int x1), (2, .int x2), (3, .int x3)] [] (if (σ (chO o) 1) ≤ x3 then (
          some (x2, σ))
        else (
          ck x3 5 <|
          Lt (x2 + (if (0 : Int32) < ((σ (o + 1) (ix x3)) - ((4 : Int32) * x1)) then ((σ (o + 1) (ix x3)) - ((4 : Int32) * x1)) else (0 : Int32))) fun v1 =>
          Lt (x3 + (1 : Int32)) fun v2 =>
          f_X4_leastTiredBehind_4 o n σ x1 v1 v2))
    have ih := vj_X4_leastTiredBehind_4 (b := b) C D o ho  n
    refine V_iload_n C dX4_leastTiredBehind_4 rfl 3 rfl ?_
    refine V_aload_n C dX4_leastTiredBehind_5 rfl 0 rfl ?_
    refine gf_RX4_24 C (rlN ho) (rl0 ho) rfl dX4_leastTiredBehind_6 ?_
    refine gf_RX4_47 C (clN (chP ho)) (cl0 (chP ho)) rfl dX4_leastTiredBehind_9 ?_
    refine V_icmp_ge (tgt := 38) C dX4_leastTiredBehind_12 (by decide) ?_ ?_
    · refine V_iload_n C dX4_leastTiredBehind_38 rfl 2 rfl ?_
      exact V_iret C D dX4_leastTiredBehind_39
    · refine V_iload_n C dX4_leastTiredBehind_15 rfl 2 rfl ?_
      refine V_iconst (v := (0 : Int32)) C dX4_leastTiredBehind_16 (by decide) ?_
      refine V_aload_n C dX4_leastTiredBehind_17 rfl 0 rfl ?_
      refine gf_RX4_9 C (rlN ho) (rl0 ho) rfl dX4_leastTiredBehind_18 ?_
      refine V_iload_n C dX4_leastTiredBehind_21 rfl 3 rfl ?_
      refine V_iald C (rlN1 ho) (rl1 ho) dX4_leastTiredBehind_22 ?_
      refine V_iconst (v := (4 : Int32)) C dX4_leastTiredBehind_23 (by decide) ?_
      refine V_iload_n C dX4_leastTiredBehind_24 rfl 1 rfl ?_
      refine V_imul C dX4_leastTiredBehind_25 ?_
      refine V_isub C dX4_leastTiredBehind_26 ?_
      refine V_mmax C (by decide) wl_RX4_52 (Nat.le_of_ble_eq_true rfl) dX4_leastTiredBehind_27 ?_
      refine V_iadd C dX4_leastTiredBehind_30 ?_
      refine V_ltI (fun v1 => ?_)
      refine V_istore_n (L' := [(2, .int v1), (0, .ref (b + o)), (1, .int x1), (3, .int x3)]) C dX4_leastTiredBehind_31 rfl (by decide) rfl ?_
      refine V_iinc (k := 3) (v := (1 : Int32)) (L' := fun v2 => [(3, .int v2), (2, .int v1), (0, .ref (b + o)), (1, .int x1)]) C dX4_leastTiredBehind_32 rfl (by decide) (by decide) (fun _ => rfl) (fun v2 => ?_)
      refine V_goto (tgt := 4) C dX4_leastTiredBehind_35 (by decide) ?_
      exact V_sub [2, 3, 1, 0] rfl (ih σ x1 v1 v2)

set_option maxRecDepth 4000 in
theorem vj_X4_leastTiredBehind_0 {E : Ev} {b : Nat} (C : CX E RX4 cX4_leastTiredBehind 4 1) (D : CR E (some .int))    (σ : Hp) (o : Nat) (a1 : Int32) (ho : rollP o) : VJ rvI (QM E b) E b 4 σ 0 [(0, .ref (b + o)), (1, .int a1)] [] (f_X4_leastTiredBehind σ o a1) := by
  unfold f_X4_leastTiredBehind
  refine V_iconst (v := (0 : Int32)) C dX4_leastTiredBehind_0 (by decide) ?_
  refine V_istore_n (L' := [(2, .int (0 : Int32)), (0, .ref (b + o)), (1, .int a1)]) C dX4_leastTiredBehind_1 rfl (by decide) rfl ?_
  refine V_iconst (v := (0 : Int32)) C dX4_leastTiredBehind_2 (by decide) ?_
  refine V_istore_n (L' := [(3, .int (0 : Int32)), (2, .int (0 : Int32)), (0, .ref (b + o)), (1, .int a1)]) C dX4_leastTiredBehind_3 rfl (by decide) rfl ?_
  exact V_sub [2, 3, 1, 0] rfl (vj_X4_leastTiredBehind_4 C D o ho FU σ a1 (0 : Int32) (0 : Int32))

theorem ct_X4_leastTiredBehind (l : Launch) (dC : Nat → ClassId) (dI : Nat → Nat → Nat) (cA : Nat → ClassId) (b : Nat) (σ : Hp) (o : Nat) (a1 : Int32) (ho : rollP o) : CT l dC dI cA b yX4_leastTiredBehind cX4_leastTiredBehind 4 (some .int) 1 [.ref (b + o), .int a1] σ rvI (f_X4_leastTiredBehind σ o a1) := CT_of [(0, .ref (b + o)), (1, .int a1)] (by decide +kernel) rfl (Nat.le_of_ble_eq_true rfl) rfl (fun E _ C D _ _ _ => vj_X4_leastTiredBehind_0 C D σ o a1 ho)
set_option maxRecDepth 4000 in
theorem vj_X4_isLike_2 {E : Ev} {b : Nat} (C : CX E RX4 cX4_isLike 3 1) (D : CR E (some .boolean)) (o : Nat) (q1 : Nat) (ho : rollP o) (hq1 : rollP q1)  : ∀ (n : Nat) (σ : Hp) (x2 : Int32) , VJ rvI (QM E b) E b 3 σ 2 [(0, .ref (b + o)), (1, .ref (b + q1)), (2, .int x2)] [] (f_X4_isLike_2 o q1 n σ x2)
  | 0, σ, x2 => V_none
  | n + 1, σ, x2 => by
    show VJ rvI (QM E b) E b 3 σ 2 [(0, .ref (b + o)), (1, .ref (b + q1)), (2, .int x2)] [] (if (σ (chO o) 1) ≤ x2 then (
          if (σ o 5) = (σ q1 5) then (
            if (σ o 6) = (σ q1 6) then (
              zr (1 : Int32) σ)
            else (
              zr (0 : Int32) σ))
          else (
            zr (0 : Int32) σ))
        else (
          ck x2 5 <|
          ck x2 5 <|
          if (σ (o + 1) (ix x2)) = (σ (q1 + 1) (ix x2)) then (
            ck x2 5 <|
            ck x2 5 <|
            if (σ (o + 2) (ix x2)) = (σ (q1 + 2) (ix x2)) then (
              ck x2 5 <|
              ck x2 5 <|
              if (σ (o + 3) (ix x2)) = (σ (q1 + 3) (ix x2)) then (
                Lt (x2 + (1 : Int32)) fun v1 =>
                f_X4_isLike_2 o q1 n σ v1)
              else (
                zr (0 : Int32) σ))
            else (
              zr (0 : Int32) σ))
          else (
            zr (0 : Int32) σ)))
    have ih := vj_X4_isLike_2 (b := b) C D o q1 ho hq1  n
    refine V_iload_n C dX4_isLike_2 rfl 2 rfl ?_
    refine V_aload_n C dX4_isLike_3 rfl 0 rfl ?_
    refine gf_RX4_24 C (rlN ho) (rl0 ho) rfl dX4_isLike_4 ?_
    refine gf_RX4_47 C (clN (chP ho)) (cl0 (chP ho)) rfl dX4_isLike_7 ?_
    refine V_icmp_ge (tgt := 66) C dX4_isLike_10 (by decide) ?_ ?_
    · refine V_aload_n C dX4_isLike_66 rfl 0 rfl ?_
      refine gf_RX4_34 C (rlN ho) (rl0 ho) rfl dX4_isLike_67 ?_
      refine V_aload_n C dX4_isLike_70 rfl 1 rfl ?_
      refine gf_RX4_34 C (rlN hq1) (rl0 hq1) rfl dX4_isLike_71 ?_
      refine V_icmp_ne (tgt := 92) C dX4_isLike_74 (by decide) ?_ ?_
      · refine V_iconst (v := (0 : Int32)) C dX4_isLike_92 (by decide) ?_
        exact V_zret C D dX4_isLike_93
      · refine V_aload_n C dX4_isLike_77 rfl 0 rfl ?_
        refine gf_RX4_38 C (rlN ho) (rl0 ho) rfl dX4_isLike_78 ?_
        refine V_aload_n C dX4_isLike_81 rfl 1 rfl ?_
        refine gf_RX4_38 C (rlN hq1) (rl0 hq1) rfl dX4_isLike_82 ?_
        refine V_icmp_ne (tgt := 92) C dX4_isLike_85 (by decide) ?_ ?_
        · refine V_iconst (v := (0 : Int32)) C dX4_isLike_92 (by decide) ?_
          exact V_zret C D dX4_isLike_93
        · refine V_iconst (v := (1 : Int32)) C dX4_isLike_88 (by decide) ?_
          refine V_goto (tgt := 93) C dX4_isLike_89 (by decide) ?_
          exact V_zret C D dX4_isLike_93
    · refine V_aload_n C dX4_isLike_13 rfl 0 rfl ?_
      refine gf_RX4_9 C (rlN ho) (rl0 ho) rfl dX4_isLike_14 ?_
      refine V_iload_n C dX4_isLike_17 rfl 2 rfl ?_
      refine V_iald C (rlN1 ho) (rl1 ho) dX4_isLike_18 ?_
      refine V_aload_n C dX4_isLike_19 rfl 1 rfl ?_
      refine gf_RX4_9 C (rlN hq1) (rl0 hq1) rfl dX4_isLike_20 ?_
      refine V_iload_n C dX4_isLike_23 rfl 2 rfl ?_
      refine V_iald C (rlN1 hq1) (rl1 hq1) dX4_isLike_24 ?_
      refine V_icmp_ne (tgt := 58) C dX4_isLike_25 (by decide) ?_ ?_
      · refine V_iconst (v := (0 : Int32)) C dX4_isLike_58 (by decide) ?_
        exact V_zret C D dX4_isLike_59
      · refine V_aload_n C dX4_isLike_28 rfl 0 rfl ?_
        refine gf_RX4_15 C (rlN ho) (rl0 ho) rfl dX4_isLike_29 ?_
        refine V_iload_n C dX4_isLike_32 rfl 2 rfl ?_
        refine V_iald C (rlN2 ho) (rl2 ho) dX4_isLike_33 ?_
        refine V_aload_n C dX4_isLike_34 rfl 1 rfl ?_
        refine gf_RX4_15 C (rlN hq1) (rl0 hq1) rfl dX4_isLike_35 ?_
        refine V_iload_n C dX4_isLike_38 rfl 2 rfl ?_
        refine V_iald C (rlN2 hq1) (rl2 hq1) dX4_isLike_39 ?_
        refine V_icmp_ne (tgt := 58) C dX4_isLike_40 (by decide) ?_ ?_
        · refine V_iconst (v := (0 : Int32)) C dX4_isLike_58 (by decide) ?_
          exact V_zret C D dX4_isLike_59
        · refine V_aload_n C dX4_isLike_43 rfl 0 rfl ?_
          refine gf_RX4_18 C (rlN ho) (rl0 ho) rfl dX4_isLike_44 ?_
          refine V_iload_n C dX4_isLike_47 rfl 2 rfl ?_
          refine V_iald C (rlN3 ho) (rl3 ho) dX4_isLike_48 ?_
          refine V_aload_n C dX4_isLike_49 rfl 1 rfl ?_
          refine gf_RX4_18 C (rlN hq1) (rl0 hq1) rfl dX4_isLike_50 ?_
          refine V_iload_n C dX4_isLike_53 rfl 2 rfl ?_
          refine V_iald C (rlN3 hq1) (rl3 hq1) dX4_isLike_54 ?_
          refine V_icmp_eq (tgt := 60) C dX4_isLike_55 (by decide) ?_ ?_
          · refine V_iinc (k := 2) (v := (1 : Int32)) (L' := fun v1 => [(2, .int v1), (0, .ref (b + o)), (1, .ref (b + q1))]) C dX4_isLike_60 rfl (by decide) (by decide) (fun _ => rfl) (fun v1 => ?_)
            refine V_goto (tgt := 2) C dX4_isLike_63 (by decide) ?_
            exact V_sub [1, 2, 0] rfl (ih σ v1)
          · refine V_iconst (v := (0 : Int32)) C dX4_isLike_58 (by decide) ?_
            exact V_zret C D dX4_isLike_59

set_option maxRecDepth 4000 in
theorem vj_X4_isLike_0 {E : Ev} {b : Nat} (C : CX E RX4 cX4_isLike 3 1) (D : CR E (some .boolean))    (σ : Hp) (o : Nat) (q1 : Nat) (ho : rollP o) (hq1 : rollP q1) : VJ rvI (QM E b) E b 3 σ 0 [(0, .ref (b + o)), (1, .ref (b + q1))] [] (f_X4_isLike σ o q1) := by
  unfold f_X4_isLike
  refine V_iconst (v := (0 : Int32)) C dX4_isLike_0 (by decide) ?_
  refine V_istore_n (L' := [(2, .int (0 : Int32)), (0, .ref (b + o)), (1, .ref (b + q1))]) C dX4_isLike_1 rfl (by decide) rfl ?_
  exact V_sub [1, 2, 0] rfl (vj_X4_isLike_2 C D o q1 ho hq1 FU σ (0 : Int32))

theorem ct_X4_isLike (l : Launch) (dC : Nat → ClassId) (dI : Nat → Nat → Nat) (cA : Nat → ClassId) (b : Nat) (σ : Hp) (o : Nat) (q1 : Nat) (ho : rollP o) (hq1 : rollP q1) : CT l dC dI cA b yX4_isLike cX4_isLike 3 (some .boolean) 1 [.ref (b + o), .ref (b + q1)] σ rvI (f_X4_isLike σ o q1) := CT_of [(0, .ref (b + o)), (1, .ref (b + q1))] (by decide +kernel) rfl (Nat.le_of_ble_eq_true rfl) rfl (fun E _ C D _ _ _ => vj_X4_isLike_0 C D σ o q1 ho hq1)
set_option maxRecDepth 4000 in
theorem vj_J6_bitCount_0f7a4_0 {E : Ev} {b : Nat} (C : CX E RJ6 cJ6_bitCount_0f7a4 1 1) (D : CR E (some .int))    (σ : Hp) (a0 : Int32)  : VJ rvI (QM E b) E b 1 σ 0 [(0, .int a0)] [] (f_J6_bitCount_0f7a4 σ a0) := by
  unfold f_J6_bitCount_0f7a4
  refine V_iload_n C dJ6_bitCount_0f7a4_0 rfl 0 rfl ?_
  refine V_iload_n C dJ6_bitCount_0f7a4_1 rfl 0 rfl ?_
  refine V_iconst (v := (1 : Int32)) C dJ6_bitCount_0f7a4_2 (by decide) ?_
  refine V_iushr C dJ6_bitCount_0f7a4_3 ?_
  refine V_ldcw C wk_RJ6_265 dJ6_bitCount_0f7a4_4 ?_
  refine V_iand C dJ6_bitCount_0f7a4_7 ?_
  refine V_isub C dJ6_bitCount_0f7a4_8 ?_
  refine V_ltI (fun v1 => ?_)
  refine V_istore_n (L' := [(0, .int v1)]) C dJ6_bitCount_0f7a4_9 rfl (by decide) rfl ?_
  refine V_iload_n C dJ6_bitCount_0f7a4_10 rfl 0 rfl ?_
  refine V_ldcw C wk_RJ6_266 dJ6_bitCount_0f7a4_11 ?_
  refine V_iand C dJ6_bitCount_0f7a4_14 ?_
  refine V_iload_n C dJ6_bitCount_0f7a4_15 rfl 0 rfl ?_
  refine V_iconst (v := (2 : Int32)) C dJ6_bitCount_0f7a4_16 (by decide) ?_
  refine V_iushr C dJ6_bitCount_0f7a4_17 ?_
  refine V_ldcw C wk_RJ6_266 dJ6_bitCount_0f7a4_18 ?_
  refine V_iand C dJ6_bitCount_0f7a4_21 ?_
  refine V_iadd C dJ6_bitCount_0f7a4_22 ?_
  refine V_ltI (fun v2 => ?_)
  refine V_istore_n (L' := [(0, .int v2)]) C dJ6_bitCount_0f7a4_23 rfl (by decide) rfl ?_
  refine V_iload_n C dJ6_bitCount_0f7a4_24 rfl 0 rfl ?_
  refine V_iload_n C dJ6_bitCount_0f7a4_25 rfl 0 rfl ?_
  refine V_iconst (v := (4 : Int32)) C dJ6_bitCount_0f7a4_26 (by decide) ?_
  refine V_iushr C dJ6_bitCount_0f7a4_27 ?_
  refine V_iadd C dJ6_bitCount_0f7a4_28 ?_
  refine V_ldcw C wk_RJ6_267 dJ6_bitCount_0f7a4_29 ?_
  refine V_iand C dJ6_bitCount_0f7a4_32 ?_
  refine V_ltI (fun v3 => ?_)
  refine V_istore_n (L' := [(0, .int v3)]) C dJ6_bitCount_0f7a4_33 rfl (by decide) rfl ?_
  refine V_iload_n C dJ6_bitCount_0f7a4_34 rfl 0 rfl ?_
  refine V_iload_n C dJ6_bitCount_0f7a4_35 rfl 0 rfl ?_
  refine V_bipush (v := (8 : Int32)) C dJ6_bitCount_0f7a4_36 (by decide) ?_
  refine V_iushr C dJ6_bitCount_0f7a4_38 ?_
  refine V_iadd C dJ6_bitCount_0f7a4_39 ?_
  refine V_ltI (fun v4 => ?_)
  refine V_istore_n (L' := [(0, .int v4)]) C dJ6_bitCount_0f7a4_40 rfl (by decide) rfl ?_
  refine V_iload_n C dJ6_bitCount_0f7a4_41 rfl 0 rfl ?_
  refine V_iload_n C dJ6_bitCount_0f7a4_42 rfl 0 rfl ?_
  refine V_bipush (v := (16 : Int32)) C dJ6_bitCount_0f7a4_43 (by decide) ?_
  refine V_iushr C dJ6_bitCount_0f7a4_45 ?_
  refine V_iadd C dJ6_bitCount_0f7a4_46 ?_
  refine V_ltI (fun v5 => ?_)
  refine V_istore_n (L' := [(0, .int v5)]) C dJ6_bitCount_0f7a4_47 rfl (by decide) rfl ?_
  refine V_iload_n C dJ6_bitCount_0f7a4_48 rfl 0 rfl ?_
  refine V_bipush (v := (63 : Int32)) C dJ6_bitCount_0f7a4_49 (by decide) ?_
  refine V_iand C dJ6_bitCount_0f7a4_51 ?_
  exact V_iret C D dJ6_bitCount_0f7a4_52

theorem ct_J6_bitCount_0f7a4 (l : Launch) (dC : Nat → ClassId) (dI : Nat → Nat → Nat) (cA : Nat → ClassId) (b : Nat) (σ : Hp) (a0 : Int32)  : CT l dC dI cA b yJ6_bitCount_0f7a4 cJ6_bitCount_0f7a4 1 (some .int) 1 [.int a0] σ rvI (f_J6_bitCount_0f7a4 σ a0) := CT_of [(0, .int a0)] (by decide +kernel) rfl (Nat.le_of_ble_eq_true rfl) rfl (fun E _ C D _ _ _ => vj_J6_bitCount_0f7a4_0 C D σ a0 )
set_option maxRecDepth 4000 in
theorem vj_X4_giversOf_90 {E : Ev} {b : Nat} (C : CX E RX4 cX4_giversOf 6 1) (D : CR E (some .int)) (o : Nat) (ho : rollP o) {k14 : Hp → Int32 → Int32 → Int32 → Option (Int32 × Hp)} (hk14 : ∀ (σ : Hp) (x2 : Int32) (x3 : Int32) (x4 : Int32) , VJ rvI (QM E b) E b 6 σ 14 [(0, .ref (b + o)), (2, .int x2), (3, .int x3), (4, .int x4)] [] (k14 σ x2 x3 x4)) (σ : Hp) (x2 : Int32) (x3 : Int32) (x4 : Int32)  : VJ rvI (QM E b) E b 6 σ 90 [(0, .ref (b + o)), (2, .int x2), (3, .int x3), (4, .int x4)] [] (f_X4_giversOf_90 k14 o σ x2 x3 x4) := by
  unfold f_X4_giversOf_90
  refine V_iinc (k := 3) (v := (1 : Int32)) (L' := fun v1 => [(4, .int v1), (0, .ref (b + o)), (2, .int x2), (3, .int x3)]) C dX4_giversOf_90 rfl (by decide) (by decide) (fun _ => rfl) (fun v1 => ?_)
  refine V_goto (tgt := 14) C dX4_giversOf_93 (by decide) ?_
  exact V_sub [1, 2, 3, 0] rfl (hk14 σ x2 x3 v1)

set_option maxRecDepth 4000 in
theorem vj_X4_giversOf_85 {E : Ev} {b : Nat} (C : CX E RX4 cX4_giversOf 6 1) (D : CR E (some .int)) (o : Nat) (ho : rollP o) {k14 : Hp → Int32 → Int32 → Int32 → Option (Int32 × Hp)} (hk14 : ∀ (σ : Hp) (x2 : Int32) (x3 : Int32) (x4 : Int32) , VJ rvI (QM E b) E b 6 σ 14 [(0, .ref (b + o)), (2, .int x2), (3, .int x3), (4, .int x4)] [] (k14 σ x2 x3 x4)) (σ : Hp) (x2 : Int32) (x4 : Int32) (s0 : Int32) (s1 : Int32) (s2 : Int32)  : VJ rvI (QM E b) E b 6 σ 85 [(0, .ref (b + o)), (2, .int x2), (4, .int x4)] [.int s0, .int s1, .int s2] (f_X4_giversOf_85 k14 o σ x2 x4 s0 s1 s2) := by
  unfold f_X4_giversOf_85
  refine V_ishl C dX4_giversOf_85 ?_
  refine V_iconst (v := (-1 : Int32)) C dX4_giversOf_86 (by decide) ?_
  refine V_ixor C dX4_giversOf_87 ?_
  refine V_iand C dX4_giversOf_88 ?_
  refine V_ltI (fun v1 => ?_)
  refine V_istore_n (L' := [(3, .int v1), (0, .ref (b + o)), (2, .int x2), (4, .int x4)]) C dX4_giversOf_89 rfl (by decide) rfl ?_
  exact V_sub [1, 2, 0, 3] rfl (vj_X4_giversOf_90 C D o ho hk14 σ x2 v1 x4)

set_option maxRecDepth 4000 in
theorem vj_X4_giversOf_14 {E : Ev} {b : Nat} (C : CX E RX4 cX4_giversOf 6 1) (D : CR E (some .int)) (o : Nat) (ho : rollP o)  : ∀ (n : Nat) (σ : Hp) (x2 : Int32) (x3 : Int32) (x4 : Int32) , VJ rvI (QM E b) E b 6 σ 14 [(0, .ref (b + o)), (2, .int x2), (3, .int x3), (4, .int x4)] [] (f_X4_giversOf_14 o n σ x2 x3 x4)
  | 0, σ, x2, x3, x4 => V_none
  | n + 1, σ, x2, x3, x4 => by
    show VJ rvI (QM E b) E b 6 σ 14 [(0, .ref (b + o)), (2, .int x2), (3, .int x3), (4, .int x4)] [] (if (σ (chO o) 1) ≤ x4 then (
          some (x3, σ))
        else (
          ck x4 5 <|
          Lt (σ ((chO o) + 1) (ix x4)) fun v1 =>
          if v1 ≤ x4 then (
            f_X4_giversOf_90 (f_X4_giversOf_14 o n) o σ x2 x3 x4)
          else (
            if (((x2 >>> (x4 &&& 31)) &&& (x2 >>> (v1 &&& 31))) &&& (1 : Int32)) = 0 then (
              f_X4_giversOf_90 (f_X4_giversOf_14 o n) o σ x2 x3 x4)
            else (
              ck v1 5 <|
              ck x4 5 <|
              if (σ (o + 2) (ix v1)) ≤ (σ (o + 2) (ix x4)) then (
                f_X4_giversOf_85 (f_X4_giversOf_14 o n) o σ x2 x4 v1 (1 : Int32) x3)
              else (
                f_X4_giversOf_85 (f_X4_giversOf_14 o n) o σ x2 x4 x4 (1 : Int32) x3)))))
    have ih := vj_X4_giversOf_14 (b := b) C D o ho  n
    refine V_iload C dX4_giversOf_14 3 rfl ?_
    refine V_aload_n C dX4_giversOf_16 rfl 0 rfl ?_
    refine gf_RX4_24 C (rlN ho) (rl0 ho) rfl dX4_giversOf_17 ?_
    refine gf_RX4_47 C (clN (chP ho)) (cl0 (chP ho)) rfl dX4_giversOf_20 ?_
    refine V_icmp_ge (tgt := 96) C dX4_giversOf_23 (by decide) ?_ ?_
    · refine V_iload_n C dX4_giversOf_96 rfl 2 rfl ?_
      exact V_iret C D dX4_giversOf_97
    · refine V_aload_n C dX4_giversOf_26 rfl 0 rfl ?_
      refine gf_RX4_24 C (rlN ho) (rl0 ho) rfl dX4_giversOf_27 ?_
      refine gf_RX4_70 C (clN (chP ho)) (cl0 (chP ho)) rfl dX4_giversOf_30 ?_
      refine V_iload C dX4_giversOf_33 3 rfl ?_
      refine V_iald C (clN1 (chP ho)) (cl1 (chP ho)) dX4_giversOf_35 ?_
      refine V_ltI (fun v1 => ?_)
      refine V_istore (L' := [(5, .int v1), (0, .ref (b + o)), (2, .int x2), (3, .int x3), (4, .int x4)]) C dX4_giversOf_36 (by decide) rfl ?_
      refine V_iload C dX4_giversOf_38 0 rfl ?_
      refine V_iload C dX4_giversOf_40 4 rfl ?_
      refine V_icmp_le (tgt := 90) C dX4_giversOf_42 (by decide) ?_ ?_
      · exact V_sub [1, 2, 3, 4] rfl (vj_X4_giversOf_90 C D o ho ih σ x2 x3 x4)
      · refine V_iload_n C dX4_giversOf_45 rfl 2 rfl ?_
        refine V_iload C dX4_giversOf_46 4 rfl ?_
        refine V_ishr C dX4_giversOf_48 ?_
        refine V_iload_n C dX4_giversOf_49 rfl 2 rfl ?_
        refine V_iload C dX4_giversOf_50 0 rfl ?_
        refine V_ishr C dX4_giversOf_52 ?_
        refine V_iand C dX4_giversOf_53 ?_
        refine V_iconst (v := (1 : Int32)) C dX4_giversOf_54 (by decide) ?_
        refine V_iand C dX4_giversOf_55 ?_
        refine V_if_eq (tgt := 90) C dX4_giversOf_56 (by decide) ?_ ?_
        · exact V_sub [1, 2, 3, 4] rfl (vj_X4_giversOf_90 C D o ho ih σ x2 x3 x4)
        · refine V_iload_n C dX4_giversOf_59 rfl 3 rfl ?_
          refine V_iconst (v := (1 : Int32)) C dX4_giversOf_60 (by decide) ?_
          refine V_aload_n C dX4_giversOf_61 rfl 1 rfl ?_
          refine gf_RX4_15 C (rlN ho) (rl0 ho) rfl dX4_giversOf_62 ?_
          refine V_iload C dX4_giversOf_65 0 rfl ?_
          refine V_iald C (rlN2 ho) (rl2 ho) dX4_giversOf_67 ?_
          refine V_aload_n C dX4_giversOf_68 rfl 1 rfl ?_
          refine gf_RX4_15 C (rlN ho) (rl0 ho) rfl dX4_giversOf_69 ?_
          refine V_iload C dX4_giversOf_72 4 rfl ?_
          refine V_iald C (rlN2 ho) (rl2 ho) dX4_giversOf_74 ?_
          refine V_icmp_le (tgt := 83) C dX4_giversOf_75 (by decide) ?_ ?_
          · refine V_iload C dX4_giversOf_83 0 rfl ?_
            exact V_sub [1, 2, 4] rfl (vj_X4_giversOf_85 C D o ho ih σ x2 x4 v1 (1 : Int32) x3)
          · refine V_iload C dX4_giversOf_78 4 rfl ?_
            refine V_goto (tgt := 85) C dX4_giversOf_80 (by decide) ?_
            exact V_sub [1, 2, 4] rfl (vj_X4_giversOf_85 C D o ho ih σ x2 x4 x4 (1 : Int32) x3)

set_option maxRecDepth 4000 in
theorem vj_X4_giversOf_0 {E : Ev} {b : Nat} (C : CX E RX4 cX4_giversOf 6 1) (D : CR E (some .int))    (σ : Hp) (o : Nat) (a1 : Int32) (ho : rollP o) : VJ rvI (QM E b) E b 6 σ 0 [(0, .ref (b + o)), (1, .int a1)] [] (f_X4_giversOf σ o a1) := by
  unfold f_X4_giversOf
  refine V_iload_n C dX4_giversOf_0 rfl 1 rfl ?_
  refine V_aload_n C dX4_giversOf_1 rfl 0 rfl ?_
  refine gf_RX4_38 C (rlN ho) (rl0 ho) rfl dX4_giversOf_2 ?_
  refine V_iconst (v := (-1 : Int32)) C dX4_giversOf_5 (by decide) ?_
  refine V_ixor C dX4_giversOf_6 ?_
  refine V_iand C dX4_giversOf_7 ?_
  refine V_ltI (fun v1 => ?_)
  refine V_istore_n (L' := [(2, .int v1), (0, .ref (b + o)), (1, .int a1)]) C dX4_giversOf_8 rfl (by decide) rfl ?_
  refine V_iload_n C dX4_giversOf_9 rfl 0 rfl ?_
  refine V_istore_n (L' := [(3, .int v1), (2, .int v1), (0, .ref (b + o)), (1, .int a1)]) C dX4_giversOf_10 rfl (by decide) rfl ?_
  refine V_iconst (v := (0 : Int32)) C dX4_giversOf_11 (by decide) ?_
  refine V_istore (L' := [(4, .int (0 : Int32)), (3, .int v1), (2, .int v1), (0, .ref (b + o)), (1, .int a1)]) C dX4_giversOf_12 (by decide) rfl ?_
  exact V_sub [3, 2, 1, 0] rfl (vj_X4_giversOf_14 C D o ho FU σ v1 v1 (0 : Int32))

theorem ct_X4_giversOf (l : Launch) (dC : Nat → ClassId) (dI : Nat → Nat → Nat) (cA : Nat → ClassId) (b : Nat) (σ : Hp) (o : Nat) (a1 : Int32) (ho : rollP o) : CT l dC dI cA b yX4_giversOf cX4_giversOf 6 (some .int) 1 [.ref (b + o), .int a1] σ rvI (f_X4_giversOf σ o a1) := CT_of [(0, .ref (b + o)), (1, .int a1)] (by decide +kernel) rfl (Nat.le_of_ble_eq_true rfl) rfl (fun E _ C D _ _ _ => vj_X4_giversOf_0 C D σ o a1 ho)
set_option maxRecDepth 4000 in
theorem vj_X4_allows_84 {E : Ev} {b : Nat} (C : CX E RX4 cX4_allows 5 2) (D : CR E (some .boolean)) (o : Nat) (ho : rollP o) {k24 : Hp → Int32 → Int32 → Int32 → Option (Int32 × Hp)} (hk24 : ∀ (σ : Hp) (x1 : Int32) (x2 : Int32) (x3 : Int32) , VJ rvI (QM E b) E b 5 σ 24 [(0, .ref (b + o)), (1, .int x1), (2, .int x2), (3, .int x3)] [] (k24 σ x1 x2 x3)) (σ : Hp) (x1 : Int32) (x2 : Int32) (x3 : Int32)  : VJ rvI (QM E b) E b 5 σ 84 [(0, .ref (b + o)), (1, .int x1), (2, .int x2), (3, .int x3)] [] (f_X4_allows_84 k24 o σ x1 x2 x3) := by
  unfold f_X4_allows_84
  refine V_iinc (k := 3) (v := (1 : Int32)) (L' := fun v1 => [(3, .int v1), (0, .ref (b + o)), (1, .int x1), (2, .int x2)]) C dX4_allows_84 rfl (by decide) (by decide) (fun _ => rfl) (fun v1 => ?_)
  refine V_goto (tgt := 24) C dX4_allows_87 (by decide) ?_
  exact V_sub [1, 2, 3, 0] rfl (hk24 σ x1 x2 v1)

set_option maxRecDepth 4000 in
theorem vj_X4_allows_59 {E : Ev} {b : Nat} (C : CX E RX4 cX4_allows 5 2) (D : CR E (some .boolean)) (o : Nat) (ho : rollP o) {k24 : Hp → Int32 → Int32 → Int32 → Option (Int32 × Hp)} (hk24 : ∀ (σ : Hp) (x1 : Int32) (x2 : Int32) (x3 : Int32) , VJ rvI (QM E b) E b 5 σ 24 [(0, .ref (b + o)), (1, .int x1), (2, .int x2), (3, .int x3)] [] (k24 σ x1 x2 x3)) (σ : Hp) (x1 : Int32) (x2 : Int32) (x3 : Int32) (x4 : Int32)  : VJ rvI (QM E b) E b 5 σ 59 [(0, .ref (b + o)), (1, .int x1), (2, .int x2), (3, .int x3), (4, .int x4)] [] (f_X4_allows_59 k24 o σ x1 x2 x3 x4) := by
  unfold f_X4_allows_59
  refine V_iload_n C dX4_allows_59 rfl 1 rfl ?_
  refine V_aload_n C dX4_allows_60 rfl 0 rfl ?_
  refine gf_RX4_38 C (rlN ho) (rl0 ho) rfl dX4_allows_61 ?_
  refine V_iand C dX4_allows_64 ?_
  refine V_iload C dX4_allows_65 4 rfl ?_
  refine V_iand C dX4_allows_67 ?_
  refine V_if_eq (tgt := 84) C dX4_allows_68 (by decide) ?_ ?_
  · exact V_sub [0, 1, 2, 3] rfl (vj_X4_allows_84 C D o ho hk24 σ x1 x2 x3)
  · refine V_aload_n C dX4_allows_71 rfl 0 rfl ?_
    refine gf_RX4_18 C (rlN ho) (rl0 ho) rfl dX4_allows_72 ?_
    refine V_iload_n C dX4_allows_75 rfl 3 rfl ?_
    refine V_iald C (rlN3 ho) (rl3 ho) dX4_allows_76 ?_
    refine V_bipush (v := (9 : Int32)) C dX4_allows_77 (by decide) ?_
    refine V_icmp_lt (tgt := 84) C dX4_allows_79 (by decide) ?_ ?_
    · exact V_sub [0, 1, 2, 3] rfl (vj_X4_allows_84 C D o ho hk24 σ x1 x2 x3)
    · refine V_iconst (v := (0 : Int32)) C dX4_allows_82 (by decide) ?_
      exact V_zret C D dX4_allows_83

set_option maxRecDepth 4000 in
theorem vj_X4_allows_24 {E : Ev} {b : Nat} (C : CX E RX4 cX4_allows 5 2) (D : CR E (some .boolean)) (o : Nat) (ho : rollP o)  : ∀ (n : Nat) (σ : Hp) (x1 : Int32) (x2 : Int32) (x3 : Int32) , VJ rvI (QM E b) E b 5 σ 24 [(0, .ref (b + o)), (1, .int x1), (2, .int x2), (3, .int x3)] [] (f_X4_allows_24 o n σ x1 x2 x3)
  | 0, σ, x1, x2, x3 => V_none
  | n + 1, σ, x1, x2, x3 => by
    show VJ rvI (QM E b) E b 5 σ 24 [(0, .ref (b + o)), (1, .int x1), (2, .int x2), (3, .int x3)] [] (if (σ (chO o) 1) ≤ x3 then (
          zr (1 : Int32) σ)
        else (
          Lt ((1 : Int32) <<< (x3 &&& 31)) fun v1 =>
          if (x2 &&& v1) = 0 then (
            f_X4_allows_59 (f_X4_allows_24 o n) o σ x1 x2 x3 v1)
          else (
            ck x3 5 <|
            if (1 : Int32) ≤ (σ (o + 2) (ix x3)) then (
              f_X4_allows_59 (f_X4_allows_24 o n) o σ x1 x2 x3 v1)
            else (
              zr (0 : Int32) σ))))
    have ih := vj_X4_allows_24 (b := b) C D o ho  n
    refine V_iload_n C dX4_allows_24 rfl 3 rfl ?_
    refine V_aload_n C dX4_allows_25 rfl 0 rfl ?_
    refine gf_RX4_24 C (rlN ho) (rl0 ho) rfl dX4_allows_26 ?_
    refine gf_RX4_47 C (clN (chP ho)) (cl0 (chP ho)) rfl dX4_allows_29 ?_
    refine V_icmp_ge (tgt := 90) C dX4_allows_32 (by decide) ?_ ?_
    · refine V_iconst (v := (1 : Int32)) C dX4_allows_90 (by decide) ?_
      exact V_zret C D dX4_allows_91
    · refine V_iconst (v := (1 : Int32)) C dX4_allows_35 (by decide) ?_
      refine V_iload_n C dX4_allows_36 rfl 3 rfl ?_
      refine V_ishl C dX4_allows_37 ?_
      refine V_ltI (fun v1 => ?_)
      refine V_istore (L' := [(4, .int v1), (0, .ref (b + o)), (1, .int x1), (2, .int x2), (3, .int x3)]) C dX4_allows_38 (by decide) rfl ?_
      refine V_iload_n C dX4_allows_40 rfl 3 rfl ?_
      refine V_iload C dX4_allows_41 0 rfl ?_
      refine V_iand C dX4_allows_43 ?_
      refine V_if_eq (tgt := 59) C dX4_allows_44 (by decide) ?_ ?_
      · exact V_sub [1, 2, 3, 4, 0] rfl (vj_X4_allows_59 C D o ho ih σ x1 x2 x3 v1)
      · refine V_aload_n C dX4_allows_47 rfl 1 rfl ?_
        refine gf_RX4_15 C (rlN ho) (rl0 ho) rfl dX4_allows_48 ?_
        refine V_iload_n C dX4_allows_51 rfl 4 rfl ?_
        refine V_iald C (rlN2 ho) (rl2 ho) dX4_allows_52 ?_
        refine V_iconst (v := (1 : Int32)) C dX4_allows_53 (by decide) ?_
        refine V_icmp_ge (tgt := 59) C dX4_allows_54 (by decide) ?_ ?_
        · exact V_sub [1, 2, 3, 4, 0] rfl (vj_X4_allows_59 C D o ho ih σ x1 x2 x3 v1)
        · refine V_iconst (v := (0 : Int32)) C dX4_allows_57 (by decide) ?_
          exact V_zret C D dX4_allows_58

set_option maxRecDepth 4000 in
theorem vj_X4_allows_0 {E : Ev} {b : Nat} (C : CX E RX4 cX4_allows 5 2) (D : CR E (some .boolean))    (σ : Hp) (o : Nat) (a1 : Int32) (ho : rollP o) : VJ rvI (QM E b) E b 5 σ 0 [(0, .ref (b + o)), (1, .int a1)] [] (f_X4_allows σ o a1) := by
  unfold f_X4_allows
  refine V_iload_n C dX4_allows_0 rfl 1 rfl ?_
  refine cs_RX4_58 C (ct_J6_bitCount_0f7a4 _ _ _ _ _ σ a1) (by decide) rfl rfl (Nat.le_of_ble_eq_true rfl) dX4_allows_1 (fun r1 σ2 => ?_)
  refine V_aload_n C dX4_allows_4 rfl 0 rfl ?_
  refine gf_RX4_24 C (rlN ho) (rl0 ho) rfl dX4_allows_5 ?_
  refine gf_RX4_64 C (clN (chP ho)) (cl0 (chP ho)) rfl dX4_allows_8 ?_
  refine V_icmp_le (tgt := 16) C dX4_allows_11 (by decide) ?_ ?_
  · refine V_aload_n C dX4_allows_16 rfl 0 rfl ?_
    refine V_iload_n C dX4_allows_17 rfl 1 rfl ?_
    refine cv_RX4_67 C (rlN ho) (rl0 ho) (ct_X4_giversOf _ _ _ _ _ σ2 o a1 ho) (by decide) rfl rfl (Nat.le_of_ble_eq_true rfl) dX4_allows_18 (fun r3 σ4 => ?_)
    refine V_istore_n (L' := [(2, .int r3), (0, .ref (b + o)), (1, .int a1)]) C dX4_allows_21 rfl (by decide) rfl ?_
    refine V_iconst (v := (0 : Int32)) C dX4_allows_22 (by decide) ?_
    refine V_istore_n (L' := [(3, .int (0 : Int32)), (2, .int r3), (0, .ref (b + o)), (1, .int a1)]) C dX4_allows_23 rfl (by decide) rfl ?_
    exact V_sub [2, 3, 1, 0] rfl (vj_X4_allows_24 C D o ho FU σ4 a1 r3 (0 : Int32))
  · refine V_iconst (v := (0 : Int32)) C dX4_allows_14 (by decide) ?_
    exact V_zret C D dX4_allows_15

theorem ct_X4_allows (l : Launch) (dC : Nat → ClassId) (dI : Nat → Nat → Nat) (cA : Nat → ClassId) (b : Nat) (σ : Hp) (o : Nat) (a1 : Int32) (ho : rollP o) : CT l dC dI cA b yX4_allows cX4_allows 5 (some .boolean) 2 [.ref (b + o), .int a1] σ rvI (f_X4_allows σ o a1) := CT_of [(0, .ref (b + o)), (1, .int a1)] (by decide +kernel) rfl (Nat.le_of_ble_eq_true rfl) rfl (fun E _ C D _ _ _ => vj_X4_allows_0 C D σ o a1 ho)
