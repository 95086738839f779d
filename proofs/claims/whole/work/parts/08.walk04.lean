set_option maxRecDepth 4000 in
theorem vj_X9_readSingle_28 {E : Ev} {b : Nat} (C : CX E RX9 cX9_readSingle 3 2) (D : CR E (some .int))    (σ : Hp) (x1 : Int32) (s0 : Int32)  : VJ rvI (QM E b) E b 3 σ 28 [(0, .ref (b + 134)), (1, .int x1)] [.int s0] (f_X9_readSingle_28 σ x1 s0) := by
  unfold f_X9_readSingle_28
  refine V_istore_n (L' := [(2, .int s0), (0, .ref (b + 134)), (1, .int x1)]) C dX9_readSingle_28 rfl (by decide) rfl ?_
  refine V_iload_n C dX9_readSingle_29 rfl 0 rfl ?_
  refine V_i2l C dX9_readSingle_30 ?_
  refine V_lconst (v := (0 : Int64)) C dX9_readSingle_31 (by decide) ?_
  refine V_aload_n C dX9_readSingle_32 rfl 1 rfl ?_
  refine gf_RX9_109 C (ln134) ly134 rfl dX9_readSingle_33 ?_
  refine V_iconst (v := (1 : Int32)) C dX9_readSingle_36 (by decide) ?_
  refine V_isub C dX9_readSingle_37 ?_
  refine V_i2l C dX9_readSingle_38 ?_
  refine cs_RX9_93 C (ct_X9_in _ _ _ _ _ σ (s0.toInt64) (0 : Int64) (((σ 134 17) - (1 : Int32)).toInt64)) (by decide) rfl rfl (Nat.le_of_ble_eq_true rfl) dX9_readSingle_39 (fun r1 σ2 => ?_)
  refine V_if_eq (tgt := 61) C dX9_readSingle_42 (by decide) ?_ ?_
  · refine V_bipush (v := (-9 : Int32)) C dX9_readSingle_61 (by decide) ?_
    exact V_iret C D dX9_readSingle_63
  · refine V_iload_n C dX9_readSingle_45 rfl 0 rfl ?_
    refine V_iload_n C dX9_readSingle_46 rfl 2 rfl ?_
    refine V_icmp_eq (tgt := 61) C dX9_readSingle_47 (by decide) ?_ ?_
    · refine V_bipush (v := (-9 : Int32)) C dX9_readSingle_61 (by decide) ?_
      exact V_iret C D dX9_readSingle_63
    · refine V_aload_n C dX9_readSingle_50 rfl 1 rfl ?_
      refine gf_RX9_51 C (ln134) ly134 rfl dX9_readSingle_51 ?_
      refine V_iload_n C dX9_readSingle_54 rfl 0 rfl ?_
      refine V_iald C (ln147) ly147 dX9_readSingle_55 ?_
      refine V_bipush (v := (-9 : Int32)) C dX9_readSingle_56 (by decide) ?_
      refine V_icmp_eq (tgt := 64) C dX9_readSingle_58 (by decide) ?_ ?_
      · refine V_aload_n C dX9_readSingle_64 rfl 1 rfl ?_
        refine V_dup C dX9_readSingle_65 rfl ?_
        refine gf_RX9_102 C (ln134) ly134 rfl dX9_readSingle_66 ?_
        refine V_iconst (v := (1 : Int32)) C dX9_readSingle_69 (by decide) ?_
        refine V_iadd C dX9_readSingle_70 ?_
        refine pf_RX9_102 C (ln134) ly134 rfl dX9_readSingle_71 (fun σ3 => ?_)
        refine V_iload_n C dX9_readSingle_74 rfl 0 rfl ?_
        exact V_iret C D dX9_readSingle_75
      · refine V_bipush (v := (-9 : Int32)) C dX9_readSingle_61 (by decide) ?_
        exact V_iret C D dX9_readSingle_63

set_option maxRecDepth 4000 in
theorem vj_X9_readSingle_0 {E : Ev} {b : Nat} (C : CX E RX9 cX9_readSingle 3 2) (D : CR E (some .int))    (σ : Hp) (a1 : Int32)  : VJ rvI (QM E b) E b 3 σ 0 [(0, .ref (b + 134)), (1, .int a1)] [] (f_X9_readSingle σ a1) := by
  unfold f_X9_readSingle
  refine V_aload_n C dX9_readSingle_0 rfl 0 rfl ?_
  refine gf_RX9_102 C (ln134) ly134 rfl dX9_readSingle_1 ?_
  refine V_aload_n C dX9_readSingle_4 rfl 0 rfl ?_
  refine gf_RX9_99 C (ln134) ly134 rfl dX9_readSingle_5 ?_
  refine V_icmp_ge (tgt := 26) C dX9_readSingle_8 (by decide) ?_ ?_
  · refine V_bipush (v := (-9 : Int32)) C dX9_readSingle_26 (by decide) ?_
    exact V_sub [0, 1] rfl (vj_X9_readSingle_28 C D σ a1 (-9 : Int32))
  · refine V_aload_n C dX9_readSingle_11 rfl 0 rfl ?_
    refine gf_RX9_7 C (ln134) ly134 rfl dX9_readSingle_12 ?_
    refine V_aload_n C dX9_readSingle_15 rfl 0 rfl ?_
    refine gf_RX9_102 C (ln134) ly134 rfl dX9_readSingle_16 ?_
    refine V_iald C (ln135) ly135 dX9_readSingle_19 ?_
    refine V_bipush (v := (48 : Int32)) C dX9_readSingle_20 (by decide) ?_
    refine V_isub C dX9_readSingle_22 ?_
    refine V_goto (tgt := 28) C dX9_readSingle_23 (by decide) ?_
    exact V_sub [0, 1] rfl (vj_X9_readSingle_28 C D σ a1 ((σ 135 (ix (σ 134 3))) - (48 : Int32)))

theorem ct_X9_readSingle (l : Launch) (dC : Nat → ClassId) (dI : Nat → Nat → Nat) (cA : Nat → ClassId) (b : Nat) (σ : Hp) (a1 : Int32)  : CT l dC dI cA b yX9_readSingle cX9_readSingle 3 (some .int) 2 [.ref (b + 134), .int a1] σ rvI (f_X9_readSingle σ a1) := CT_of [(0, .ref (b + 134)), (1, .int a1)] (by decide +kernel) rfl (Nat.le_of_ble_eq_true rfl) rfl (fun E _ C D _ _ _ => vj_X9_readSingle_0 C D σ a1 )
set_option maxRecDepth 4000 in
theorem vj_X9_readTwins_23 {E : Ev} {b : Nat} (C : CX E RX9 cX9_readTwins 3 3) (D : CR E (some .boolean))    (σ : Hp) (x1 : Int32) (s0 : Int32)  : VJ rvI (QM E b) E b 3 σ 23 [(0, .ref (b + 134)), (1, .int x1)] [.int s0] (f_X9_readTwins_23 σ x1 s0) := by
  unfold f_X9_readTwins_23
  refine V_istore_n (L' := [(2, .int s0), (0, .ref (b + 134)), (1, .int x1)]) C dX9_readTwins_23 rfl (by decide) rfl ?_
  refine V_iload_n C dX9_readTwins_24 rfl 0 rfl ?_
  refine V_bipush (v := (-9 : Int32)) C dX9_readTwins_25 (by decide) ?_
  refine V_icmp_ne (tgt := 32) C dX9_readTwins_27 (by decide) ?_ ?_
  · refine V_aload_n C dX9_readTwins_32 rfl 1 rfl ?_
    refine gf_RX9_51 C (ln134) ly134 rfl dX9_readTwins_33 ?_
    refine V_iload_n C dX9_readTwins_36 rfl 2 rfl ?_
    refine V_iload_n C dX9_readTwins_37 rfl 0 rfl ?_
    refine V_iast C (ln147) ly147 dX9_readTwins_38 (fun σ1 => ?_)
    refine V_aload_n C dX9_readTwins_39 rfl 1 rfl ?_
    refine gf_RX9_51 C (ln134) ly134 rfl dX9_readTwins_40 ?_
    refine V_iload_n C dX9_readTwins_43 rfl 0 rfl ?_
    refine V_iload_n C dX9_readTwins_44 rfl 2 rfl ?_
    refine V_iast C (ln147) ly147 dX9_readTwins_45 (fun σ2 => ?_)
    refine V_iconst (v := (1 : Int32)) C dX9_readTwins_46 (by decide) ?_
    exact V_zret C D dX9_readTwins_47
  · refine V_iconst (v := (0 : Int32)) C dX9_readTwins_30 (by decide) ?_
    exact V_zret C D dX9_readTwins_31

set_option maxRecDepth 4000 in
theorem vj_X9_readTwins_0 {E : Ev} {b : Nat} (C : CX E RX9 cX9_readTwins 3 3) (D : CR E (some .boolean))    (σ : Hp)   : VJ rvI (QM E b) E b 3 σ 0 [(0, .ref (b + 134))] [] (f_X9_readTwins σ ) := by
  unfold f_X9_readTwins
  refine V_aload_n C dX9_readTwins_0 rfl 0 rfl ?_
  refine V_bipush (v := (-9 : Int32)) C dX9_readTwins_1 (by decide) ?_
  refine cv_RX9_112 C (ln134) ly134 (ct_X9_readSingle _ _ _ _ _ σ (-9 : Int32)) (by decide) rfl rfl (Nat.le_of_ble_eq_true rfl) dX9_readTwins_3 (fun r1 σ2 => ?_)
  refine V_istore_n (L' := [(1, .int r1), (0, .ref (b + 134))]) C dX9_readTwins_6 rfl (by decide) rfl ?_
  refine V_iload_n C dX9_readTwins_7 rfl 0 rfl ?_
  refine V_bipush (v := (-9 : Int32)) C dX9_readTwins_8 (by decide) ?_
  refine V_icmp_ne (tgt := 18) C dX9_readTwins_10 (by decide) ?_ ?_
  · refine V_aload_n C dX9_readTwins_18 rfl 1 rfl ?_
    refine V_iload_n C dX9_readTwins_19 rfl 0 rfl ?_
    refine cv_RX9_112 C (ln134) ly134 (ct_X9_readSingle _ _ _ _ _ σ2 r1) (by decide) rfl rfl (Nat.le_of_ble_eq_true rfl) dX9_readTwins_20 (fun r3 σ4 => ?_)
    exact V_sub [1, 0] rfl (vj_X9_readTwins_23 C D σ4 r1 r3)
  · refine V_bipush (v := (-9 : Int32)) C dX9_readTwins_13 (by decide) ?_
    refine V_goto (tgt := 23) C dX9_readTwins_15 (by decide) ?_
    exact V_sub [1, 0] rfl (vj_X9_readTwins_23 C D σ2 r1 (-9 : Int32))

theorem ct_X9_readTwins (l : Launch) (dC : Nat → ClassId) (dI : Nat → Nat → Nat) (cA : Nat → ClassId) (b : Nat) (σ : Hp)   : CT l dC dI cA b yX9_readTwins cX9_readTwins 3 (some .boolean) 3 [.ref (b + 134)] σ rvI (f_X9_readTwins σ ) := CT_of [(0, .ref (b + 134))] (by decide +kernel) rfl (Nat.le_of_ble_eq_true rfl) rfl (fun E _ C D _ _ _ => vj_X9_readTwins_0 C D σ  )
set_option maxRecDepth 4000 in
theorem vj_X9_readPart_39 {E : Ev} {b : Nat} (C : CX E RX9 cX9_readPart 2 4) (D : CR E (some .boolean))    (σ : Hp) (x1 : Int32)  : VJ rvI (QM E b) E b 2 σ 39 [(0, .ref (b + 134)), (1, .int x1)] [] (f_X9_readPart_39 σ x1) := by
  unfold f_X9_readPart_39
  refine V_iload_n C dX9_readPart_39 rfl 1 rfl ?_
  refine V_bipush (v := (84 : Int32)) C dX9_readPart_40 (by decide) ?_
  refine V_icmp_ne (tgt := 68) C dX9_readPart_42 (by decide) ?_ ?_
  · refine V_iconst (v := (0 : Int32)) C dX9_readPart_68 (by decide) ?_
    exact V_zret C D dX9_readPart_69
  · refine V_aload_n C dX9_readPart_45 rfl 0 rfl ?_
    refine cv_RX9_120 C (ln134) ly134 (ct_X9_single _ _ _ _ _ σ ) (by decide) rfl rfl (Nat.le_of_ble_eq_true rfl) dX9_readPart_46 (fun r1 σ2 => ?_)
    refine V_iconst (v := (1 : Int32)) C dX9_readPart_49 (by decide) ?_
    refine V_icmp_le (tgt := 68) C dX9_readPart_50 (by decide) ?_ ?_
    · refine V_iconst (v := (0 : Int32)) C dX9_readPart_68 (by decide) ?_
      exact V_zret C D dX9_readPart_69
    · refine V_aload_n C dX9_readPart_53 rfl 0 rfl ?_
      refine V_dup C dX9_readPart_54 rfl ?_
      refine gf_RX9_102 C (ln134) ly134 rfl dX9_readPart_55 ?_
      refine V_iconst (v := (1 : Int32)) C dX9_readPart_58 (by decide) ?_
      refine V_iadd C dX9_readPart_59 ?_
      refine pf_RX9_102 C (ln134) ly134 rfl dX9_readPart_60 (fun σ3 => ?_)
      refine V_aload_n C dX9_readPart_63 rfl 0 rfl ?_
      refine cv_RX9_124 C (ln134) ly134 (ct_X9_readTwins _ _ _ _ _ σ3 ) (by decide) rfl rfl (Nat.le_of_ble_eq_true rfl) dX9_readPart_64 (fun r4 σ5 => ?_)
      exact V_zret C D dX9_readPart_67

set_option maxRecDepth 4000 in
theorem vj_X9_readPart_0 {E : Ev} {b : Nat} (C : CX E RX9 cX9_readPart 2 4) (D : CR E (some .boolean))    (σ : Hp)   : VJ rvI (QM E b) E b 2 σ 0 [(0, .ref (b + 134))] [] (f_X9_readPart σ ) := by
  unfold f_X9_readPart
  refine V_aload_n C dX9_readPart_0 rfl 0 rfl ?_
  refine gf_RX9_7 C (ln134) ly134 rfl dX9_readPart_1 ?_
  refine V_aload_n C dX9_readPart_4 rfl 0 rfl ?_
  refine gf_RX9_102 C (ln134) ly134 rfl dX9_readPart_5 ?_
  refine V_iald C (ln135) ly135 dX9_readPart_8 ?_
  refine V_ltI (fun v1 => ?_)
  refine V_istore_n (L' := [(1, .int v1), (0, .ref (b + 134))]) C dX9_readPart_9 rfl (by decide) rfl ?_
  refine V_iload_n C dX9_readPart_10 rfl 0 rfl ?_
  refine V_bipush (v := (71 : Int32)) C dX9_readPart_11 (by decide) ?_
  refine V_icmp_ne (tgt := 39) C dX9_readPart_13 (by decide) ?_ ?_
  · exact V_sub [1, 0] rfl (vj_X9_readPart_39 C D σ v1)
  · refine V_aload_n C dX9_readPart_16 rfl 1 rfl ?_
    refine gf_RX9_109 C (ln134) ly134 rfl dX9_readPart_17 ?_
    refine V_iconst (v := (5 : Int32)) C dX9_readPart_20 (by decide) ?_
    refine V_icmp_ge (tgt := 39) C dX9_readPart_21 (by decide) ?_ ?_
    · exact V_sub [1, 0] rfl (vj_X9_readPart_39 C D σ v1)
    · refine V_aload_n C dX9_readPart_24 rfl 1 rfl ?_
      refine V_dup C dX9_readPart_25 rfl ?_
      refine gf_RX9_102 C (ln134) ly134 rfl dX9_readPart_26 ?_
      refine V_iconst (v := (1 : Int32)) C dX9_readPart_29 (by decide) ?_
      refine V_iadd C dX9_readPart_30 ?_
      refine pf_RX9_102 C (ln134) ly134 rfl dX9_readPart_31 (fun σ2 => ?_)
      refine V_aload_n C dX9_readPart_34 rfl 1 rfl ?_
      refine cv_RX9_116 C (ln134) ly134 (ct_X9_readGuard _ _ _ _ _ σ2 ) (by decide) rfl rfl (Nat.le_of_ble_eq_true rfl) dX9_readPart_35 (fun r3 σ4 => ?_)
      exact V_zret C D dX9_readPart_38

theorem ct_X9_readPart (l : Launch) (dC : Nat → ClassId) (dI : Nat → Nat → Nat) (cA : Nat → ClassId) (b : Nat) (σ : Hp)   : CT l dC dI cA b yX9_readPart cX9_readPart 2 (some .boolean) 4 [.ref (b + 134)] σ rvI (f_X9_readPart σ ) := CT_of [(0, .ref (b + 134))] (by decide +kernel) rfl (Nat.le_of_ble_eq_true rfl) rfl (fun E _ C D _ _ _ => vj_X9_readPart_0 C D σ  )
set_option maxRecDepth 4000 in
theorem vj_X9_readFortress_115 {E : Ev} {b : Nat} (C : CX E RX9 cX9_readFortress 3 5) (D : CR E (some .int))    : ∀ (n : Nat) (σ : Hp)  , VJ rvI (QM E b) E b 3 σ 115 [(0, .ref (b + 134))] [] (f_X9_readFortress_115 n σ )
  | 0, σ => V_none
  | n + 1, σ => by
    show VJ rvI (QM E b) E b 3 σ 115 [(0, .ref (b + 134))] [] (if (σ 134 2) ≤ (σ 134 3) then (
          some ((-9 : Int32), σ))
        else (
          bd (f_X9_readPart σ ) fun r1 σ2 =>
          if r1 = 0 then (
            some ((σ2 134 3), σ2))
          else (
            f_X9_readFortress_115 n σ2 )))
    have ih := vj_X9_readFortress_115 (b := b) C D   n
    refine V_aload_n C dX9_readFortress_115 rfl 0 rfl ?_
    refine gf_RX9_102 C (ln134) ly134 rfl dX9_readFortress_116 ?_
    refine V_aload_n C dX9_readFortress_119 rfl 0 rfl ?_
    refine gf_RX9_99 C (ln134) ly134 rfl dX9_readFortress_120 ?_
    refine V_icmp_ge (tgt := 138) C dX9_readFortress_123 (by decide) ?_ ?_
    · refine V_bipush (v := (-9 : Int32)) C dX9_readFortress_138 (by decide) ?_
      exact V_iret C D dX9_readFortress_140
    · refine V_aload_n C dX9_readFortress_126 rfl 0 rfl ?_
      refine cv_RX9_133 C (ln134) ly134 (ct_X9_readPart _ _ _ _ _ σ ) (by decide) rfl rfl (Nat.le_of_ble_eq_true rfl) dX9_readFortress_127 (fun r1 σ2 => ?_)
      refine V_if_ne (tgt := 115) C dX9_readFortress_130 (by decide) ?_ ?_
      · exact V_sub [0] rfl (ih σ2)
      · refine V_aload_n C dX9_readFortress_133 rfl 0 rfl ?_
        refine gf_RX9_102 C (ln134) ly134 rfl dX9_readFortress_134 ?_
        exact V_iret C D dX9_readFortress_137

set_option maxRecDepth 4000 in
theorem vj_X9_readFortress_93 {E : Ev} {b : Nat} (C : CX E RX9 cX9_readFortress 3 5) (D : CR E (some .int))    (σ : Hp) (x1 : Int32) (s0 : Int32)  : VJ rvI (QM E b) E b 3 σ 93 [(0, .ref (b + 134)), (1, .int x1)] [.int s0] (f_X9_readFortress_93 σ x1 s0) := by
  unfold f_X9_readFortress_93
  refine V_istore_n (L' := [(2, .int s0), (0, .ref (b + 134)), (1, .int x1)]) C dX9_readFortress_93 rfl (by decide) rfl ?_
  refine V_iload_n C dX9_readFortress_94 rfl 0 rfl ?_
  refine V_bipush (v := (-9 : Int32)) C dX9_readFortress_95 (by decide) ?_
  refine V_icmp_ne (tgt := 105) C dX9_readFortress_97 (by decide) ?_ ?_
  · refine V_aload_n C dX9_readFortress_105 rfl 1 rfl ?_
    refine V_bipush (v := (10 : Int32)) C dX9_readFortress_106 (by decide) ?_
    refine V_iload_n C dX9_readFortress_108 rfl 2 rfl ?_
    refine V_imul C dX9_readFortress_109 ?_
    refine V_iload_n C dX9_readFortress_110 rfl 0 rfl ?_
    refine V_iadd C dX9_readFortress_111 ?_
    refine pf_RX9_130 C (ln134) ly134 rfl dX9_readFortress_112 (fun σ1 => ?_)
    exact V_sub [1] rfl (vj_X9_readFortress_115 C D FU σ1)
  · refine V_aload_n C dX9_readFortress_100 rfl 1 rfl ?_
    refine gf_RX9_102 C (ln134) ly134 rfl dX9_readFortress_101 ?_
    exact V_iret C D dX9_readFortress_104

set_option maxRecDepth 4000 in
theorem vj_X9_readFortress_88 {E : Ev} {b : Nat} (C : CX E RX9 cX9_readFortress 3 5) (D : CR E (some .int))    (σ : Hp) (x1 : Int32) (s0 : Int32)  : VJ rvI (QM E b) E b 3 σ 88 [(0, .ref (b + 134)), (1, .int x1)] [.int s0, .ref (b + 134)] (f_X9_readFortress_88 σ x1 s0) := by
  unfold f_X9_readFortress_88
  refine V_bipush (v := (9 : Int32)) C dX9_readFortress_88 (by decide) ?_
  refine cv_RX9_105 C (ln134) ly134 (ct_X9_figure _ _ _ _ _ σ s0 (9 : Int32)) (by decide) rfl rfl (Nat.le_of_ble_eq_true rfl) dX9_readFortress_90 (fun r1 σ2 => ?_)
  exact V_sub [0, 1] rfl (vj_X9_readFortress_93 C D σ2 x1 r1)

set_option maxRecDepth 4000 in
theorem vj_X9_readFortress_66 {E : Ev} {b : Nat} (C : CX E RX9 cX9_readFortress 3 5) (D : CR E (some .int))    (σ : Hp) (s0 : Int32)  : VJ rvI (QM E b) E b 3 σ 66 [(0, .ref (b + 134))] [.int s0] (f_X9_readFortress_66 σ s0) := by
  unfold f_X9_readFortress_66
  refine V_istore_n (L' := [(1, .int s0), (0, .ref (b + 134))]) C dX9_readFortress_66 rfl (by decide) rfl ?_
  refine V_iload_n C dX9_readFortress_67 rfl 0 rfl ?_
  refine V_bipush (v := (-9 : Int32)) C dX9_readFortress_68 (by decide) ?_
  refine V_icmp_ne (tgt := 78) C dX9_readFortress_70 (by decide) ?_ ?_
  · refine V_aload_n C dX9_readFortress_78 rfl 1 rfl ?_
    refine V_iload_n C dX9_readFortress_79 rfl 0 rfl ?_
    refine V_if_ne (tgt := 87) C dX9_readFortress_80 (by decide) ?_ ?_
    · refine V_iconst (v := (0 : Int32)) C dX9_readFortress_87 (by decide) ?_
      exact V_sub [1, 0] rfl (vj_X9_readFortress_88 C D σ s0 (0 : Int32))
    · refine V_iconst (v := (1 : Int32)) C dX9_readFortress_83 (by decide) ?_
      refine V_goto (tgt := 88) C dX9_readFortress_84 (by decide) ?_
      exact V_sub [1, 0] rfl (vj_X9_readFortress_88 C D σ s0 (1 : Int32))
  · refine V_bipush (v := (-9 : Int32)) C dX9_readFortress_73 (by decide) ?_
    refine V_goto (tgt := 93) C dX9_readFortress_75 (by decide) ?_
    exact V_sub [1, 0] rfl (vj_X9_readFortress_93 C D σ s0 (-9 : Int32))

set_option maxRecDepth 4000 in
theorem vj_X9_readFortress_0 {E : Ev} {b : Nat} (C : CX E RX9 cX9_readFortress 3 5) (D : CR E (some .int))    (σ : Hp)   : VJ rvI (QM E b) E b 3 σ 0 [(0, .ref (b + 134))] [] (f_X9_readFortress σ ) := by
  unfold f_X9_readFortress
  refine V_aload_n C dX9_readFortress_0 rfl 0 rfl ?_
  refine V_iconst (v := (0 : Int32)) C dX9_readFortress_1 (by decide) ?_
  refine pf_RX9_102 C (ln134) ly134 rfl dX9_readFortress_2 (fun σ1 => ?_)
  refine V_aload_n C dX9_readFortress_5 rfl 0 rfl ?_
  refine V_iconst (v := (0 : Int32)) C dX9_readFortress_6 (by decide) ?_
  refine pf_RX9_109 C (ln134) ly134 rfl dX9_readFortress_7 (fun σ2 => ?_)
  refine V_aload_n C dX9_readFortress_10 rfl 0 rfl ?_
  refine gf_RX9_99 C (ln134) ly134 rfl dX9_readFortress_11 ?_
  refine V_if_eq (tgt := 28) C dX9_readFortress_14 (by decide) ?_ ?_
  · refine V_iconst (v := (0 : Int32)) C dX9_readFortress_28 (by decide) ?_
    exact V_iret C D dX9_readFortress_29
  · refine V_aload_n C dX9_readFortress_17 rfl 0 rfl ?_
    refine gf_RX9_7 C (ln134) ly134 rfl dX9_readFortress_18 ?_
    refine V_iconst (v := (0 : Int32)) C dX9_readFortress_21 (by decide) ?_
    refine V_iald C (ln135) ly135 dX9_readFortress_22 ?_
    refine V_bipush (v := (70 : Int32)) C dX9_readFortress_23 (by decide) ?_
    refine V_icmp_eq (tgt := 30) C dX9_readFortress_25 (by decide) ?_ ?_
    · refine V_aload_n C dX9_readFortress_30 rfl 0 rfl ?_
      refine V_iconst (v := (1 : Int32)) C dX9_readFortress_31 (by decide) ?_
      refine pf_RX9_102 C (ln134) ly134 rfl dX9_readFortress_32 (fun σ3 => ?_)
      refine V_aload_n C dX9_readFortress_35 rfl 0 rfl ?_
      refine V_aload_n C dX9_readFortress_36 rfl 0 rfl ?_
      refine V_iconst (v := (0 : Int32)) C dX9_readFortress_37 (by decide) ?_
      refine V_iconst (v := (5 : Int32)) C dX9_readFortress_38 (by decide) ?_
      refine cv_RX9_105 C (ln134) ly134 (ct_X9_figure _ _ _ _ _ σ3 (0 : Int32) (5 : Int32)) (by decide) rfl rfl (Nat.le_of_ble_eq_true rfl) dX9_readFortress_39 (fun r4 σ5 => ?_)
      refine pf_RX9_127 C (ln134) ly134 rfl dX9_readFortress_42 (fun σ6 => ?_)
      refine V_aload_n C dX9_readFortress_45 rfl 0 rfl ?_
      refine gf_RX9_127 C (ln134) ly134 rfl dX9_readFortress_46 ?_
      refine V_bipush (v := (-9 : Int32)) C dX9_readFortress_49 (by decide) ?_
      refine V_icmp_ne (tgt := 59) C dX9_readFortress_51 (by decide) ?_ ?_
      · refine V_aload_n C dX9_readFortress_59 rfl 0 rfl ?_
        refine V_iconst (v := (0 : Int32)) C dX9_readFortress_60 (by decide) ?_
        refine V_bipush (v := (9 : Int32)) C dX9_readFortress_61 (by decide) ?_
        refine cv_RX9_105 C (ln134) ly134 (ct_X9_figure _ _ _ _ _ σ6 (0 : Int32) (9 : Int32)) (by decide) rfl rfl (Nat.le_of_ble_eq_true rfl) dX9_readFortress_63 (fun r7 σ8 => ?_)
        exact V_sub [0] rfl (vj_X9_readFortress_66 C D σ8 r7)
      · refine V_bipush (v := (-9 : Int32)) C dX9_readFortress_54 (by decide) ?_
        refine V_goto (tgt := 66) C dX9_readFortress_56 (by decide) ?_
        exact V_sub [0] rfl (vj_X9_readFortress_66 C D σ6 (-9 : Int32))
    · refine V_iconst (v := (0 : Int32)) C dX9_readFortress_28 (by decide) ?_
      exact V_iret C D dX9_readFortress_29

theorem ct_X9_readFortress (l : Launch) (dC : Nat → ClassId) (dI : Nat → Nat → Nat) (cA : Nat → ClassId) (b : Nat) (σ : Hp)   : CT l dC dI cA b yX9_readFortress cX9_readFortress 3 (some .int) 5 [.ref (b + 134)] σ rvI (f_X9_readFortress σ ) := CT_of [(0, .ref (b + 134))] (by decide +kernel) rfl (Nat.le_of_ble_eq_true rfl) rfl (fun E _ C D _ _ _ => vj_X9_readFortress_0 C D σ  )
set_option maxRecDepth 4000 in
theorem vj_X9_fault_0 {E : Ev} {b : Nat} (C : CX E RX9 cX9_fault 1 6) (D : CR E (some .int))    (σ : Hp)   : VJ rvI (QM E b) E b 1 σ 0 [(0, .ref (b + 134))] [] (f_X9_fault σ ) := by
  unfold f_X9_fault
  refine V_aload_n C dX9_fault_0 rfl 0 rfl ?_
  refine V_iconst (v := (0 : Int32)) C dX9_fault_1 (by decide) ?_
  refine pf_RX9_87 C (ln134) ly134 rfl dX9_fault_2 (fun σ1 => ?_)
  refine V_aload_n C dX9_fault_5 rfl 0 rfl ?_
  refine cv_RX9_136 C (ln134) ly134 (ct_X9_readFortress _ _ _ _ _ σ1 ) (by decide) rfl rfl (Nat.le_of_ble_eq_true rfl) dX9_fault_6 (fun r2 σ3 => ?_)
  exact V_iret C D dX9_fault_9

theorem ct_X9_fault (l : Launch) (dC : Nat → ClassId) (dI : Nat → Nat → Nat) (cA : Nat → ClassId) (b : Nat) (σ : Hp)   : CT l dC dI cA b yX9_fault cX9_fault 1 (some .int) 6 [.ref (b + 134)] σ rvI (f_X9_fault σ ) := CT_of [(0, .ref (b + 134))] (by decide +kernel) rfl (Nat.le_of_ble_eq_true rfl) rfl (fun E _ C D _ _ _ => vj_X9_fault_0 C D σ  )
set_option maxRecDepth 4000 in
theorem vj_X9_fortress_142 {E : Ev} {b : Nat} (C : CX E RX9 cX9_fortress 3 6) (D : CR E (some .int))   {k43 : Hp → Int32 → Option (Int32 × Hp)} (hk43 : ∀ (σ : Hp) (x1 : Int32) , VJ rvI (QM E b) E b 3 σ 43 [(0, .ref (b + 134)), (1, .int x1)] [] (k43 σ x1)) (σ : Hp) (x1 : Int32) (s0 : Int32) (s1 : Int32)  : VJ rvI (QM E b) E b 3 σ 142 [(0, .ref (b + 134)), (1, .int x1)] [.int s0, .int s1, .ref (b + 141)] (f_X9_fortress_142 k43 σ x1 s0 s1) := by
  unfold f_X9_fortress_142
  refine V_iast C (ln141) ly141 dX9_fortress_142 (fun σ1 => ?_)
  refine V_aload_n C dX9_fortress_143 rfl 0 rfl ?_
  refine gf_RX9_26 C (ln134) ly134 rfl dX9_fortress_144 ?_
  refine V_iload_n C dX9_fortress_147 rfl 1 rfl ?_
  refine V_iconst (v := (0 : Int32)) C dX9_fortress_148 (by decide) ?_
  refine V_zast C (ln139) ly139 dX9_fortress_149 (fun σ2 => ?_)
  refine V_aload_n C dX9_fortress_150 rfl 0 rfl ?_
  refine gf_RX9_30 C (ln134) ly134 rfl dX9_fortress_151 ?_
  refine V_iload_n C dX9_fortress_154 rfl 1 rfl ?_
  refine V_iconst (v := (0 : Int32)) C dX9_fortress_155 (by decide) ?_
  refine V_zast C (ln140) ly140 dX9_fortress_156 (fun σ3 => ?_)
  refine V_aload_n C dX9_fortress_157 rfl 0 rfl ?_
  refine gf_RX9_36 C (ln134) ly134 rfl dX9_fortress_158 ?_
  refine V_iload_n C dX9_fortress_161 rfl 1 rfl ?_
  refine V_iconst (v := (0 : Int32)) C dX9_fortress_162 (by decide) ?_
  refine V_iast C (ln142) ly142 dX9_fortress_163 (fun σ4 => ?_)
  refine V_iinc (k := 1) (v := (1 : Int32)) (L' := fun v5 => [(1, .int v5), (0, .ref (b + 134))]) C dX9_fortress_164 rfl (by decide) (by decide) (fun _ => rfl) (fun v5 => ?_)
  refine V_goto (tgt := 43) C dX9_fortress_167 (by decide) ?_
  exact V_sub [1, 0] rfl (hk43 σ4 v5)

set_option maxRecDepth 4000 in
theorem vj_X9_fortress_121 {E : Ev} {b : Nat} (C : CX E RX9 cX9_fortress 3 6) (D : CR E (some .int))   {k43 : Hp → Int32 → Option (Int32 × Hp)} (hk43 : ∀ (σ : Hp) (x1 : Int32) , VJ rvI (QM E b) E b 3 σ 43 [(0, .ref (b + 134)), (1, .int x1)] [] (k43 σ x1)) (σ : Hp) (x1 : Int32) (x2 : Int32) (s0 : Int32) (s1 : Int32)  : VJ rvI (QM E b) E b 3 σ 121 [(0, .ref (b + 134)), (1, .int x1), (2, .int x2)] [.int s0, .int s1, .ref (b + 138)] (f_X9_fortress_121 k43 σ x1 x2 s0 s1) := by
  unfold f_X9_fortress_121
  refine V_iast C (ln138) ly138 dX9_fortress_121 (fun σ1 => ?_)
  refine V_aload_n C dX9_fortress_122 rfl 0 rfl ?_
  refine gf_RX9_33 C (ln134) ly134 rfl dX9_fortress_123 ?_
  refine V_iload_n C dX9_fortress_126 rfl 1 rfl ?_
  refine V_iload_n C dX9_fortress_127 rfl 2 rfl ?_
  refine V_if_eq (tgt := 140) C dX9_fortress_128 (by decide) ?_ ?_
  · refine V_bipush (v := (-9 : Int32)) C dX9_fortress_140 (by decide) ?_
    exact V_sub [0, 1] rfl (vj_X9_fortress_142 C D hk43 σ1 x1 (-9 : Int32) x1)
  · refine V_aload_n C dX9_fortress_131 rfl 0 rfl ?_
    refine gf_RX9_51 C (ln134) ly134 rfl dX9_fortress_132 ?_
    refine V_iload_n C dX9_fortress_135 rfl 1 rfl ?_
    refine V_iald C (ln147) ly147 dX9_fortress_136 ?_
    refine V_goto (tgt := 142) C dX9_fortress_137 (by decide) ?_
    exact V_sub [0, 1] rfl (vj_X9_fortress_142 C D hk43 σ1 x1 (σ1 147 (ix x1)) x1)

set_option maxRecDepth 4000 in
theorem vj_X9_fortress_101 {E : Ev} {b : Nat} (C : CX E RX9 cX9_fortress 3 6) (D : CR E (some .int))   {k43 : Hp → Int32 → Option (Int32 × Hp)} (hk43 : ∀ (σ : Hp) (x1 : Int32) , VJ rvI (QM E b) E b 3 σ 43 [(0, .ref (b + 134)), (1, .int x1)] [] (k43 σ x1)) (σ : Hp) (x1 : Int32) (x2 : Int32) (s0 : Int32) (s1 : Int32)  : VJ rvI (QM E b) E b 3 σ 101 [(0, .ref (b + 134)), (1, .int x1), (2, .int x2)] [.int s0, .int s1, .ref (b + 137)] (f_X9_fortress_101 k43 σ x1 x2 s0 s1) := by
  unfold f_X9_fortress_101
  refine V_iast C (ln137) ly137 dX9_fortress_101 (fun σ1 => ?_)
  refine V_aload_n C dX9_fortress_102 rfl 0 rfl ?_
  refine gf_RX9_23 C (ln134) ly134 rfl dX9_fortress_103 ?_
  refine V_iload_n C dX9_fortress_106 rfl 1 rfl ?_
  refine V_iload_n C dX9_fortress_107 rfl 2 rfl ?_
  refine V_if_eq (tgt := 120) C dX9_fortress_108 (by decide) ?_ ?_
  · refine V_iconst (v := (0 : Int32)) C dX9_fortress_120 (by decide) ?_
    exact V_sub [0, 1, 2] rfl (vj_X9_fortress_121 C D hk43 σ1 x1 x2 (0 : Int32) x1)
  · refine V_aload_n C dX9_fortress_111 rfl 0 rfl ?_
    refine gf_RX9_48 C (ln134) ly134 rfl dX9_fortress_112 ?_
    refine V_iload_n C dX9_fortress_115 rfl 1 rfl ?_
    refine V_iald C (ln146) ly146 dX9_fortress_116 ?_
    refine V_goto (tgt := 121) C dX9_fortress_117 (by decide) ?_
    exact V_sub [0, 1, 2] rfl (vj_X9_fortress_121 C D hk43 σ1 x1 x2 (σ1 146 (ix x1)) x1)

set_option maxRecDepth 4000 in
theorem vj_X9_fortress_81 {E : Ev} {b : Nat} (C : CX E RX9 cX9_fortress 3 6) (D : CR E (some .int))   {k43 : Hp → Int32 → Option (Int32 × Hp)} (hk43 : ∀ (σ : Hp) (x1 : Int32) , VJ rvI (QM E b) E b 3 σ 43 [(0, .ref (b + 134)), (1, .int x1)] [] (k43 σ x1)) (σ : Hp) (x1 : Int32) (x2 : Int32) (s0 : Int32) (s1 : Int32)  : VJ rvI (QM E b) E b 3 σ 81 [(0, .ref (b + 134)), (1, .int x1), (2, .int x2)] [.int s0, .int s1, .ref (b + 136)] (f_X9_fortress_81 k43 σ x1 x2 s0 s1) := by
  unfold f_X9_fortress_81
  refine V_iast C (ln136) ly136 dX9_fortress_81 (fun σ1 => ?_)
  refine V_aload_n C dX9_fortress_82 rfl 0 rfl ?_
  refine gf_RX9_20 C (ln134) ly134 rfl dX9_fortress_83 ?_
  refine V_iload_n C dX9_fortress_86 rfl 1 rfl ?_
  refine V_iload_n C dX9_fortress_87 rfl 2 rfl ?_
  refine V_if_eq (tgt := 100) C dX9_fortress_88 (by decide) ?_ ?_
  · refine V_iconst (v := (0 : Int32)) C dX9_fortress_100 (by decide) ?_
    exact V_sub [0, 1, 2] rfl (vj_X9_fortress_101 C D hk43 σ1 x1 x2 (0 : Int32) x1)
  · refine V_aload_n C dX9_fortress_91 rfl 0 rfl ?_
    refine gf_RX9_45 C (ln134) ly134 rfl dX9_fortress_92 ?_
    refine V_iload_n C dX9_fortress_95 rfl 1 rfl ?_
    refine V_iald C (ln145) ly145 dX9_fortress_96 ?_
    refine V_goto (tgt := 101) C dX9_fortress_97 (by decide) ?_
    exact V_sub [0, 1, 2] rfl (vj_X9_fortress_101 C D hk43 σ1 x1 x2 (σ1 145 (ix x1)) x1)

set_option maxRecDepth 4000 in
theorem vj_X9_fortress_61 {E : Ev} {b : Nat} (C : CX E RX9 cX9_fortress 3 6) (D : CR E (some .int))   {k43 : Hp → Int32 → Option (Int32 × Hp)} (hk43 : ∀ (σ : Hp) (x1 : Int32) , VJ rvI (QM E b) E b 3 σ 43 [(0, .ref (b + 134)), (1, .int x1)] [] (k43 σ x1)) (σ : Hp) (x1 : Int32) (s0 : Int32)  : VJ rvI (QM E b) E b 3 σ 61 [(0, .ref (b + 134)), (1, .int x1)] [.int s0] (f_X9_fortress_61 k43 σ x1 s0) := by
  unfold f_X9_fortress_61
  refine V_istore_n (L' := [(2, .int s0), (0, .ref (b + 134)), (1, .int x1)]) C dX9_fortress_61 rfl (by decide) rfl ?_
  refine V_aload_n C dX9_fortress_62 rfl 1 rfl ?_
  refine gf_RX9_17 C (ln134) ly134 rfl dX9_fortress_63 ?_
  refine V_iload_n C dX9_fortress_66 rfl 2 rfl ?_
  refine V_iload_n C dX9_fortress_67 rfl 0 rfl ?_
  refine V_if_eq (tgt := 80) C dX9_fortress_68 (by decide) ?_ ?_
  · refine V_iconst (v := (0 : Int32)) C dX9_fortress_80 (by decide) ?_
    exact V_sub [1, 2, 0] rfl (vj_X9_fortress_81 C D hk43 σ x1 s0 (0 : Int32) x1)
  · refine V_aload_n C dX9_fortress_71 rfl 1 rfl ?_
    refine gf_RX9_42 C (ln134) ly134 rfl dX9_fortress_72 ?_
    refine V_iload_n C dX9_fortress_75 rfl 2 rfl ?_
    refine V_iald C (ln144) ly144 dX9_fortress_76 ?_
    refine V_goto (tgt := 81) C dX9_fortress_77 (by decide) ?_
    exact V_sub [1, 2, 0] rfl (vj_X9_fortress_81 C D hk43 σ x1 s0 (σ 144 (ix x1)) x1)

set_option maxRecDepth 4000 in
theorem vj_X9_fortress_172 {E : Ev} {b : Nat} (C : CX E RX9 cX9_fortress 3 6) (D : CR E (some .int))    : ∀ (n : Nat) (σ : Hp) (x1 : Int32) , VJ rvI (QM E b) E b 3 σ 172 [(0, .ref (b + 134)), (1, .int x1)] [] (f_X9_fortress_172 n σ x1)
  | 0, σ, x1 => V_none
  | n + 1, σ, x1 => by
    show VJ rvI (QM E b) E b 3 σ 172 [(0, .ref (b + 134)), (1, .int x1)] [] (if (4 : Int32) ≤ x1 then (
          Lt (wr σ 134 14 (0 : Int32)) fun σ1 =>
          Lt (wr σ1 134 15 (0 : Int32)) fun σ2 =>
          Lt (wr σ2 134 25 (0 : Int32)) fun σ3 =>
          ck (0 : Int32) 2 <|
          Lt (wr σ3 150 (ix (0 : Int32)) (vp_nar .boolean (0 : Int32))) fun σ4 =>
          ck (1 : Int32) 2 <|
          Lt (wr σ4 150 (ix (1 : Int32)) (vp_nar .boolean (0 : Int32))) fun σ5 =>
          some ((σ5 134 4), σ5))
        else (
          ck x1 4 <|
          Lt (wr σ 143 (ix x1) (0 : Int32)) fun σ6 =>
          Lt (x1 + (1 : Int32)) fun v7 =>
          f_X9_fortress_172 n σ6 v7))
    have ih := vj_X9_fortress_172 (b := b) C D   n
    refine V_iload_n C dX9_fortress_172 rfl 1 rfl ?_
    refine V_iconst (v := (4 : Int32)) C dX9_fortress_173 (by decide) ?_
    refine V_icmp_ge (tgt := 190) C dX9_fortress_174 (by decide) ?_ ?_
    · refine V_aload_n C dX9_fortress_190 rfl 0 rfl ?_
      refine V_iconst (v := (0 : Int32)) C dX9_fortress_191 (by decide) ?_
      refine pf_RX9_142 C (ln134) ly134 rfl dX9_fortress_192 (fun σ1 => ?_)
      refine V_aload_n C dX9_fortress_195 rfl 0 rfl ?_
      refine V_iconst (v := (0 : Int32)) C dX9_fortress_196 (by decide) ?_
      refine pf_RX9_145 C (ln134) ly134 rfl dX9_fortress_197 (fun σ2 => ?_)
      refine V_aload_n C dX9_fortress_200 rfl 0 rfl ?_
      refine V_iconst (v := (0 : Int32)) C dX9_fortress_201 (by decide) ?_
      refine pf_RX9_148 C (ln134) ly134 rfl dX9_fortress_202 (fun σ3 => ?_)
      refine V_aload_n C dX9_fortress_205 rfl 0 rfl ?_
      refine gf_RX9_60 C (ln134) ly134 rfl dX9_fortress_206 ?_
      refine V_iconst (v := (0 : Int32)) C dX9_fortress_209 (by decide) ?_
      refine V_iconst (v := (0 : Int32)) C dX9_fortress_210 (by decide) ?_
      refine V_zast C (ln150) ly150 dX9_fortress_211 (fun σ4 => ?_)
      refine V_aload_n C dX9_fortress_212 rfl 0 rfl ?_
      refine gf_RX9_60 C (ln134) ly134 rfl dX9_fortress_213 ?_
      refine V_iconst (v := (1 : Int32)) C dX9_fortress_216 (by decide) ?_
      refine V_iconst (v := (0 : Int32)) C dX9_fortress_217 (by decide) ?_
      refine V_zast C (ln150) ly150 dX9_fortress_218 (fun σ5 => ?_)
      refine V_aload_n C dX9_fortress_219 rfl 0 rfl ?_
      refine gf_RX9_90 C (ln134) ly134 rfl dX9_fortress_220 ?_
      exact V_iret C D dX9_fortress_223
    · refine V_aload_n C dX9_fortress_177 rfl 0 rfl ?_
      refine gf_RX9_39 C (ln134) ly134 rfl dX9_fortress_178 ?_
      refine V_iload_n C dX9_fortress_181 rfl 1 rfl ?_
      refine V_iconst (v := (0 : Int32)) C dX9_fortress_182 (by decide) ?_
      refine V_iast C (ln143) ly143 dX9_fortress_183 (fun σ6 => ?_)
      refine V_iinc (k := 1) (v := (1 : Int32)) (L' := fun v7 => [(1, .int v7), (0, .ref (b + 134))]) C dX9_fortress_184 rfl (by decide) (by decide) (fun _ => rfl) (fun v7 => ?_)
      refine V_goto (tgt := 172) C dX9_fortress_187 (by decide) ?_
      exact V_sub [1, 0] rfl (ih σ6 v7)

set_option maxRecDepth 4000 in
theorem vj_X9_fortress_43 {E : Ev} {b : Nat} (C : CX E RX9 cX9_fortress 3 6) (D : CR E (some .int))    : ∀ (n : Nat) (σ : Hp) (x1 : Int32) , VJ rvI (QM E b) E b 3 σ 43 [(0, .ref (b + 134)), (1, .int x1)] [] (f_X9_fortress_43 n σ x1)
  | 0, σ, x1 => V_none
  | n + 1, σ, x1 => by
    show VJ rvI (QM E b) E b 3 σ 43 [(0, .ref (b + 134)), (1, .int x1)] [] (if (5 : Int32) ≤ x1 then (
          f_X9_fortress_172 FU σ (0 : Int32))
        else (
          if (σ 134 4) ≤ x1 then (
            f_X9_fortress_61 (f_X9_fortress_43 n) σ x1 (0 : Int32))
          else (
            f_X9_fortress_61 (f_X9_fortress_43 n) σ x1 (1 : Int32))))
    have ih := vj_X9_fortress_43 (b := b) C D   n
    refine V_iload_n C dX9_fortress_43 rfl 1 rfl ?_
    refine V_iconst (v := (5 : Int32)) C dX9_fortress_44 (by decide) ?_
    refine V_icmp_ge (tgt := 170) C dX9_fortress_45 (by decide) ?_ ?_
    · refine V_iconst (v := (0 : Int32)) C dX9_fortress_170 (by decide) ?_
      refine V_istore_n (L' := [(1, .int (0 : Int32)), (0, .ref (b + 134))]) C dX9_fortress_171 rfl (by decide) rfl ?_
      exact V_sub [1, 0] rfl (vj_X9_fortress_172 C D FU σ (0 : Int32))
    · refine V_iload_n C dX9_fortress_48 rfl 1 rfl ?_
      refine V_aload_n C dX9_fortress_49 rfl 0 rfl ?_
      refine gf_RX9_90 C (ln134) ly134 rfl dX9_fortress_50 ?_
      refine V_icmp_ge (tgt := 60) C dX9_fortress_53 (by decide) ?_ ?_
      · refine V_iconst (v := (0 : Int32)) C dX9_fortress_60 (by decide) ?_
        exact V_sub [0, 1] rfl (vj_X9_fortress_61 C D ih σ x1 (0 : Int32))
      · refine V_iconst (v := (1 : Int32)) C dX9_fortress_56 (by decide) ?_
        refine V_goto (tgt := 61) C dX9_fortress_57 (by decide) ?_
        exact V_sub [0, 1] rfl (vj_X9_fortress_61 C D ih σ x1 (1 : Int32))

set_option maxRecDepth 4000 in
theorem vj_X9_fortress_0 {E : Ev} {b : Nat} (C : CX E RX9 cX9_fortress 3 6) (D : CR E (some .int))    (σ : Hp)   : VJ rvI (QM E b) E b 3 σ 0 [(0, .ref (b + 134))] [] (f_X9_fortress σ ) := by
  unfold f_X9_fortress
  refine V_aload_n C dX9_fortress_0 rfl 0 rfl ?_
  refine V_iconst (v := (0 : Int32)) C dX9_fortress_1 (by decide) ?_
  refine pf_RX9_87 C (ln134) ly134 rfl dX9_fortress_2 (fun σ1 => ?_)
  refine V_aload_n C dX9_fortress_5 rfl 0 rfl ?_
  refine cv_RX9_136 C (ln134) ly134 (ct_X9_readFortress _ _ _ _ _ σ1 ) (by decide) rfl rfl (Nat.le_of_ble_eq_true rfl) dX9_fortress_6 (fun r2 σ3 => ?_)
  refine V_bipush (v := (-9 : Int32)) C dX9_fortress_9 (by decide) ?_
  refine V_icmp_eq (tgt := 17) C dX9_fortress_11 (by decide) ?_ ?_
  · refine V_aload_n C dX9_fortress_17 rfl 0 rfl ?_
    refine V_aload_n C dX9_fortress_18 rfl 0 rfl ?_
    refine gf_RX9_109 C (ln134) ly134 rfl dX9_fortress_19 ?_
    refine pf_RX9_90 C (ln134) ly134 rfl dX9_fortress_22 (fun σ4 => ?_)
    refine V_aload_n C dX9_fortress_25 rfl 0 rfl ?_
    refine V_aload_n C dX9_fortress_26 rfl 0 rfl ?_
    refine gf_RX9_127 C (ln134) ly134 rfl dX9_fortress_27 ?_
    refine pf_RX9_139 C (ln134) ly134 rfl dX9_fortress_30 (fun σ5 => ?_)
    refine V_aload_n C dX9_fortress_33 rfl 0 rfl ?_
    refine V_aload_n C dX9_fortress_34 rfl 0 rfl ?_
    refine gf_RX9_130 C (ln134) ly134 rfl dX9_fortress_35 ?_
    refine pf_RX9_13 C (ln134) ly134 rfl dX9_fortress_38 (fun σ6 => ?_)
    refine V_iconst (v := (0 : Int32)) C dX9_fortress_41 (by decide) ?_
    refine V_istore_n (L' := [(1, .int (0 : Int32)), (0, .ref (b + 134))]) C dX9_fortress_42 rfl (by decide) rfl ?_
    exact V_sub [1, 0] rfl (vj_X9_fortress_43 C D FU σ6 (0 : Int32))
  · refine V_bipush (v := (-3 : Int32)) C dX9_fortress_14 (by decide) ?_
    exact V_iret C D dX9_fortress_16

theorem ct_X9_fortress (l : Launch) (dC : Nat → ClassId) (dI : Nat → Nat → Nat) (cA : Nat → ClassId) (b : Nat) (σ : Hp)   : CT l dC dI cA b yX9_fortress cX9_fortress 3 (some .int) 6 [.ref (b + 134)] σ rvI (f_X9_fortress σ ) := CT_of [(0, .ref (b + 134))] (by decide +kernel) rfl (Nat.le_of_ble_eq_true rfl) rfl (fun E _ C D _ _ _ => vj_X9_fortress_0 C D σ  )
set_option maxRecDepth 4000 in
theorem vj_X9_about_64 {E : Ev} {b : Nat} (C : CX E RX9 cX9_about 6 1) (D : CR E (some .int))   {k15 : Hp → Int32 → Int32 → Int32 → Int32 → Int32 → Option (Int32 × Hp)} (hk15 : ∀ (σ : Hp) (x1 : Int32) (x2 : Int32) (x3 : Int32) (x4 : Int32) (x5 : Int32) , VJ rvI (QM E b) E b 6 σ 15 [(0, .ref (b + 134)), (1, .int x1), (2, .int x2), (3, .int x3), (4, .int x4), (5, .int x5)] [] (k15 σ x1 x2 x3 x4 x5)) (σ : Hp) (x1 : Int32) (x2 : Int32) (x4 : Int32) (x5 : Int32) (s0 : Int32) (s1 : Int32)  : VJ rvI (QM E b) E b 6 σ 64 [(0, .ref (b + 134)), (1, .int x1), (2, .int x2), (4, .int x4), (5, .int x5)] [.int s0, .int s1] (f_X9_about_64 k15 σ x1 x2 x4 x5 s0 s1) := by
  unfold f_X9_about_64
  refine V_ior C dX9_about_64 ?_
  refine V_ltI (fun v1 => ?_)
  refine V_istore_n (L' := [(3, .int v1), (0, .ref (b + 134)), (1, .int x1), (2, .int x2), (4, .int x4), (5, .int x5)]) C dX9_about_65 rfl (by decide) rfl ?_
  refine V_iload C dX9_about_66 4 rfl ?_
  refine V_aload_n C dX9_about_68 rfl 1 rfl ?_
  refine gf_RX9_17 C (ln134) ly134 rfl dX9_about_69 ?_
  refine V_iload C dX9_about_72 5 rfl ?_
  refine V_iald C (ln136) ly136 dX9_about_74 ?_
  refine V_iadd C dX9_about_75 ?_
  refine V_ltI (fun v2 => ?_)
  refine V_istore (L' := [(4, .int v2), (3, .int v1), (0, .ref (b + 134)), (1, .int x1), (2, .int x2), (5, .int x5)]) C dX9_about_76 (by decide) rfl ?_
  refine V_iinc (k := 5) (v := (1 : Int32)) (L' := fun v3 => [(5, .int v3), (4, .int v2), (3, .int v1), (0, .ref (b + 134)), (1, .int x1), (2, .int x2)]) C dX9_about_78 rfl (by decide) (by decide) (fun _ => rfl) (fun v3 => ?_)
  refine V_goto (tgt := 15) C dX9_about_81 (by decide) ?_
  exact V_sub [3, 4, 5, 2, 1, 0] rfl (hk15 σ x1 x2 v1 v2 v3)

set_option maxRecDepth 4000 in
theorem vj_X9_about_43 {E : Ev} {b : Nat} (C : CX E RX9 cX9_about 6 1) (D : CR E (some .int))   {k15 : Hp → Int32 → Int32 → Int32 → Int32 → Int32 → Option (Int32 × Hp)} (hk15 : ∀ (σ : Hp) (x1 : Int32) (x2 : Int32) (x3 : Int32) (x4 : Int32) (x5 : Int32) , VJ rvI (QM E b) E b 6 σ 15 [(0, .ref (b + 134)), (1, .int x1), (2, .int x2), (3, .int x3), (4, .int x4), (5, .int x5)] [] (k15 σ x1 x2 x3 x4 x5)) (σ : Hp) (x1 : Int32) (x3 : Int32) (x4 : Int32) (x5 : Int32) (s0 : Int32) (s1 : Int32)  : VJ rvI (QM E b) E b 6 σ 43 [(0, .ref (b + 134)), (1, .int x1), (3, .int x3), (4, .int x4), (5, .int x5)] [.int s0, .int s1] (f_X9_about_43 k15 σ x1 x3 x4 x5 s0 s1) := by
  unfold f_X9_about_43
  refine V_ior C dX9_about_43 ?_
  refine V_ltI (fun v1 => ?_)
  refine V_istore_n (L' := [(2, .int v1), (0, .ref (b + 134)), (1, .int x1), (3, .int x3), (4, .int x4), (5, .int x5)]) C dX9_about_44 rfl (by decide) rfl ?_
  refine V_iload_n C dX9_about_45 rfl 3 rfl ?_
  refine V_aload_n C dX9_about_46 rfl 1 rfl ?_
  refine gf_RX9_30 C (ln134) ly134 rfl dX9_about_47 ?_
  refine V_iload C dX9_about_50 5 rfl ?_
  refine V_zald C (ln140) ly140 dX9_about_52 ?_
  refine V_if_eq (tgt := 63) C dX9_about_53 (by decide) ?_ ?_
  · refine V_iconst (v := (0 : Int32)) C dX9_about_63 (by decide) ?_
    exact V_sub [1, 2, 0, 4, 5] rfl (vj_X9_about_64 C D hk15 σ x1 v1 x4 x5 (0 : Int32) x3)
  · refine V_iconst (v := (1 : Int32)) C dX9_about_56 (by decide) ?_
    refine V_iload C dX9_about_57 5 rfl ?_
    refine V_ishl C dX9_about_59 ?_
    refine V_goto (tgt := 64) C dX9_about_60 (by decide) ?_
    exact V_sub [1, 2, 0, 4, 5] rfl (vj_X9_about_64 C D hk15 σ x1 v1 x4 x5 ((1 : Int32) <<< (x5 &&& 31)) x3)

set_option maxRecDepth 4000 in
theorem vj_X9_about_15 {E : Ev} {b : Nat} (C : CX E RX9 cX9_about 6 1) (D : CR E (some .int))    : ∀ (n : Nat) (σ : Hp) (x1 : Int32) (x2 : Int32) (x3 : Int32) (x4 : Int32) (x5 : Int32) , VJ rvI (QM E b) E b 6 σ 15 [(0, .ref (b + 134)), (1, .int x1), (2, .int x2), (3, .int x3), (4, .int x4), (5, .int x5)] [] (f_X9_about_15 n σ x1 x2 x3 x4 x5)
  | 0, σ, x1, x2, x3, x4, x5 => V_none
  | n + 1, σ, x1, x2, x3, x4, x5 => by
    show VJ rvI (QM E b) E b 6 σ 15 [(0, .ref (b + 134)), (1, .int x1), (2, .int x2), (3, .int x3), (4, .int x4), (5, .int x5)] [] (if (σ 134 4) ≤ x5 then (
          swt x1 [
            (
              some ((σ 134 4), σ)),
            (
              some ((σ 134 5), σ)),
            (
              some ((σ 134 6), σ)),
            (
              some ((σ 134 14), σ)),
            (
              some ((σ 134 15), σ)),
            (
              some (x2, σ)),
            (
              some (x3, σ)),
            (
              some (x4, σ)),
            (
              some ((σ 134 25), σ)),
            (
              some ((σ 134 28), σ)),
            (
              some ((σ 134 2), σ))] (
            some ((-2 : Int32), σ)))
        else (
          ck x5 5 <|
          if (σ 139 (ix x5)) = 0 then (
            f_X9_about_43 (f_X9_about_15 n) σ x1 x3 x4 x5 (0 : Int32) x2)
          else (
            f_X9_about_43 (f_X9_about_15 n) σ x1 x3 x4 x5 ((1 : Int32) <<< (x5 &&& 31)) x2)))
    have ih := vj_X9_about_15 (b := b) C D   n
    refine V_iload C dX9_about_15 5 rfl ?_
    refine V_aload_n C dX9_about_17 rfl 0 rfl ?_
    refine gf_RX9_90 C (ln134) ly134 rfl dX9_about_18 ?_
    refine V_icmp_ge (tgt := 84) C dX9_about_21 (by decide) ?_ ?_
    · refine V_iload_n C dX9_about_84 rfl 1 rfl ?_
      refine V_table (dt := 191) C dX9_about_85 rfl (by decide) ?_ ?_
      · refine V_bipush (v := (-2 : Int32)) C dX9_about_191 (by decide) ?_
        exact V_iret C D dX9_about_193
      · intro k X hX
        match k, hX with
        | 0, hX =>
          cases hX
          refine ⟨59, 144, rfl, by decide, ?_⟩
          refine V_aload_n C dX9_about_144 rfl 0 rfl ?_
          refine gf_RX9_90 C (ln134) ly134 rfl dX9_about_145 ?_
          exact V_iret C D dX9_about_148
        | 1, hX =>
          cases hX
          refine ⟨64, 149, rfl, by decide, ?_⟩
          refine V_aload_n C dX9_about_149 rfl 0 rfl ?_
          refine gf_RX9_139 C (ln134) ly134 rfl dX9_about_150 ?_
          exact V_iret C D dX9_about_153
        | 2, hX =>
          cases hX
          refine ⟨69, 154, rfl, by decide, ?_⟩
          refine V_aload_n C dX9_about_154 rfl 0 rfl ?_
          refine gf_RX9_13 C (ln134) ly134 rfl dX9_about_155 ?_
          exact V_iret C D dX9_about_158
        | 3, hX =>
          cases hX
          refine ⟨74, 159, rfl, by decide, ?_⟩
          refine V_aload_n C dX9_about_159 rfl 0 rfl ?_
          refine gf_RX9_142 C (ln134) ly134 rfl dX9_about_160 ?_
          exact V_iret C D dX9_about_163
        | 4, hX =>
          cases hX
          refine ⟨79, 164, rfl, by decide, ?_⟩
          refine V_aload_n C dX9_about_164 rfl 0 rfl ?_
          refine gf_RX9_145 C (ln134) ly134 rfl dX9_about_165 ?_
          exact V_iret C D dX9_about_168
        | 5, hX =>
          cases hX
          refine ⟨84, 169, rfl, by decide, ?_⟩
          refine V_iload_n C dX9_about_169 rfl 2 rfl ?_
          exact V_iret C D dX9_about_170
        | 6, hX =>
          cases hX
          refine ⟨86, 171, rfl, by decide, ?_⟩
          refine V_iload_n C dX9_about_171 rfl 3 rfl ?_
          exact V_iret C D dX9_about_172
        | 7, hX =>
          cases hX
          refine ⟨88, 173, rfl, by decide, ?_⟩
          refine V_iload C dX9_about_173 4 rfl ?_
          exact V_iret C D dX9_about_175
        | 8, hX =>
          cases hX
          refine ⟨91, 176, rfl, by decide, ?_⟩
          refine V_aload_n C dX9_about_176 rfl 0 rfl ?_
          refine gf_RX9_148 C (ln134) ly134 rfl dX9_about_177 ?_
          exact V_iret C D dX9_about_180
        | 9, hX =>
          cases hX
          refine ⟨96, 181, rfl, by decide, ?_⟩
          refine V_aload_n C dX9_about_181 rfl 0 rfl ?_
          refine gf_RX9_151 C (ln134) ly134 rfl dX9_about_182 ?_
          exact V_iret C D dX9_about_185
        | 10, hX =>
          cases hX
          refine ⟨101, 186, rfl, by decide, ?_⟩
          refine V_aload_n C dX9_about_186 rfl 0 rfl ?_
          refine gf_RX9_99 C (ln134) ly134 rfl dX9_about_187 ?_
          exact V_iret C D dX9_about_190
        | (k + 11), hX => simp at hX
    · refine V_iload_n C dX9_about_24 rfl 2 rfl ?_
      refine V_aload_n C dX9_about_25 rfl 0 rfl ?_
      refine gf_RX9_26 C (ln134) ly134 rfl dX9_about_26 ?_
      refine V_iload C dX9_about_29 5 rfl ?_
      refine V_zald C (ln139) ly139 dX9_about_31 ?_
      refine V_if_eq (tgt := 42) C dX9_about_32 (by decide) ?_ ?_
      · refine V_iconst (v := (0 : Int32)) C dX9_about_42 (by decide) ?_
        exact V_sub [0, 1, 3, 4, 5] rfl (vj_X9_about_43 C D ih σ x1 x3 x4 x5 (0 : Int32) x2)
      · refine V_iconst (v := (1 : Int32)) C dX9_about_35 (by decide) ?_
        refine V_iload C dX9_about_36 5 rfl ?_
        refine V_ishl C dX9_about_38 ?_
        refine V_goto (tgt := 43) C dX9_about_39 (by decide) ?_
        exact V_sub [0, 1, 3, 4, 5] rfl (vj_X9_about_43 C D ih σ x1 x3 x4 x5 ((1 : Int32) <<< (x5 &&& 31)) x2)

set_option maxRecDepth 4000 in
theorem vj_X9_about_0 {E : Ev} {b : Nat} (C : CX E RX9 cX9_about 6 1) (D : CR E (some .int))    (σ : Hp) (a1 : Int32)  : VJ rvI (QM E b) E b 6 σ 0 [(0, .ref (b + 134)), (1, .int a1)] [] (f_X9_about σ a1) := by
  unfold f_X9_about
  refine V_aload_n C dX9_about_0 rfl 0 rfl ?_
  refine V_iconst (v := (0 : Int32)) C dX9_about_1 (by decide) ?_
  refine pf_RX9_87 C (ln134) ly134 rfl dX9_about_2 (fun σ1 => ?_)
  refine V_iconst (v := (0 : Int32)) C dX9_about_5 (by decide) ?_
  refine V_istore_n (L' := [(2, .int (0 : Int32)), (0, .ref (b + 134)), (1, .int a1)]) C dX9_about_6 rfl (by decide) rfl ?_
  refine V_iconst (v := (0 : Int32)) C dX9_about_7 (by decide) ?_
  refine V_istore_n (L' := [(3, .int (0 : Int32)), (2, .int (0 : Int32)), (0, .ref (b + 134)), (1, .int a1)]) C dX9_about_8 rfl (by decide) rfl ?_
  refine V_iconst (v := (0 : Int32)) C dX9_about_9 (by decide) ?_
  refine V_istore (L' := [(4, .int (0 : Int32)), (3, .int (0 : Int32)), (2, .int (0 : Int32)), (0, .ref (b + 134)), (1, .int a1)]) C dX9_about_10 (by decide) rfl ?_
  refine V_iconst (v := (0 : Int32)) C dX9_about_12 (by decide) ?_
  refine V_istore (L' := [(5, .int (0 : Int32)), (4, .int (0 : Int32)), (3, .int (0 : Int32)), (2, .int (0 : Int32)), (0, .ref (b + 134)), (1, .int a1)]) C dX9_about_13 (by decide) rfl ?_
  exact V_sub [4, 5, 3, 2, 1, 0] rfl (vj_X9_about_15 C D FU σ1 a1 (0 : Int32) (0 : Int32) (0 : Int32) (0 : Int32))

theorem ct_X9_about (l : Launch) (dC : Nat → ClassId) (dI : Nat → Nat → Nat) (cA : Nat → ClassId) (b : Nat) (σ : Hp) (a1 : Int32)  : CT l dC dI cA b yX9_about cX9_about 6 (some .int) 1 [.ref (b + 134), .int a1] σ rvI (f_X9_about σ a1) := CT_of [(0, .ref (b + 134)), (1, .int a1)] (by decide +kernel) rfl (Nat.le_of_ble_eq_true rfl) rfl (fun E _ C D _ _ _ => vj_X9_about_0 C D σ a1 )
set_option maxRecDepth 4000 in
theorem vj_X9_guard_0 {E : Ev} {b : Nat} (C : CX E RX9 cX9_guard 3 3) (D : CR E (some .int))    (σ : Hp) (a1 : Int32) (a2 : Int32)  : VJ rvI (QM E b) E b 3 σ 0 [(0, .ref (b + 134)), (1, .int a1), (2, .int a2)] [] (f_X9_guard σ a1 a2) := by
  unfold f_X9_guard
  refine V_aload_n C dX9_guard_0 rfl 0 rfl ?_
  refine V_iconst (v := (0 : Int32)) C dX9_guard_1 (by decide) ?_
  refine pf_RX9_87 C (ln134) ly134 rfl dX9_guard_2 (fun σ1 => ?_)
  refine V_aload_n C dX9_guard_5 rfl 0 rfl ?_
  refine V_iload_n C dX9_guard_6 rfl 1 rfl ?_
  refine cv_RX9_154 C (ln134) ly134 (ct_X9_noGuard _ _ _ _ _ σ1 a1) (by decide) rfl rfl (Nat.le_of_ble_eq_true rfl) dX9_guard_7 (fun r2 σ3 => ?_)
  refine V_if_eq (tgt := 15) C dX9_guard_10 (by decide) ?_ ?_
  · refine V_iload_n C dX9_guard_15 rfl 2 rfl ?_
    refine V_table (dt := 125) C dX9_guard_16 rfl (by decide) ?_ ?_
    · refine V_bipush (v := (-2 : Int32)) C dX9_guard_125 (by decide) ?_
      exact V_iret C D dX9_guard_127
    · intro k X hX
      match k, hX with
      | 0, hX =>
        cases hX
        refine ⟨44, 60, rfl, by decide, ?_⟩
        refine V_aload_n C dX9_guard_60 rfl 0 rfl ?_
        refine gf_RX9_17 C (ln134) ly134 rfl dX9_guard_61 ?_
        refine V_iload_n C dX9_guard_64 rfl 1 rfl ?_
        refine V_iald C (ln136) ly136 dX9_guard_65 ?_
        exact V_iret C D dX9_guard_66
      | 1, hX =>
        cases hX
        refine ⟨51, 67, rfl, by decide, ?_⟩
        refine V_aload_n C dX9_guard_67 rfl 0 rfl ?_
        refine gf_RX9_20 C (ln134) ly134 rfl dX9_guard_68 ?_
        refine V_iload_n C dX9_guard_71 rfl 1 rfl ?_
        refine V_iald C (ln137) ly137 dX9_guard_72 ?_
        exact V_iret C D dX9_guard_73
      | 2, hX =>
        cases hX
        refine ⟨58, 74, rfl, by decide, ?_⟩
        refine V_aload_n C dX9_guard_74 rfl 0 rfl ?_
        refine gf_RX9_23 C (ln134) ly134 rfl dX9_guard_75 ?_
        refine V_iload_n C dX9_guard_78 rfl 1 rfl ?_
        refine V_iald C (ln138) ly138 dX9_guard_79 ?_
        exact V_iret C D dX9_guard_80
      | 3, hX =>
        cases hX
        refine ⟨65, 81, rfl, by decide, ?_⟩
        refine V_aload_n C dX9_guard_81 rfl 0 rfl ?_
        refine gf_RX9_26 C (ln134) ly134 rfl dX9_guard_82 ?_
        refine V_iload_n C dX9_guard_85 rfl 1 rfl ?_
        refine V_zald C (ln139) ly139 dX9_guard_86 ?_
        refine V_if_eq (tgt := 94) C dX9_guard_87 (by decide) ?_ ?_
        · refine V_iconst (v := (0 : Int32)) C dX9_guard_94 (by decide) ?_
          exact V_iret C D dX9_guard_95
        · refine V_iconst (v := (1 : Int32)) C dX9_guard_90 (by decide) ?_
          refine V_goto (tgt := 95) C dX9_guard_91 (by decide) ?_
          exact V_iret C D dX9_guard_95
      | 4, hX =>
        cases hX
        refine ⟨80, 96, rfl, by decide, ?_⟩
        refine V_aload_n C dX9_guard_96 rfl 0 rfl ?_
        refine gf_RX9_30 C (ln134) ly134 rfl dX9_guard_97 ?_
        refine V_iload_n C dX9_guard_100 rfl 1 rfl ?_
        refine V_zald C (ln140) ly140 dX9_guard_101 ?_
        refine V_if_eq (tgt := 109) C dX9_guard_102 (by decide) ?_ ?_
        · refine V_iconst (v := (0 : Int32)) C dX9_guard_109 (by decide) ?_
          exact V_iret C D dX9_guard_110
        · refine V_iconst (v := (1 : Int32)) C dX9_guard_105 (by decide) ?_
          refine V_goto (tgt := 110) C dX9_guard_106 (by decide) ?_
          exact V_iret C D dX9_guard_110
      | 5, hX =>
        cases hX
        refine ⟨95, 111, rfl, by decide, ?_⟩
        refine V_aload_n C dX9_guard_111 rfl 0 rfl ?_
        refine gf_RX9_33 C (ln134) ly134 rfl dX9_guard_112 ?_
        refine V_iload_n C dX9_guard_115 rfl 1 rfl ?_
        refine V_iald C (ln141) ly141 dX9_guard_116 ?_
        exact V_iret C D dX9_guard_117
      | 6, hX =>
        cases hX
        refine ⟨102, 118, rfl, by decide, ?_⟩
        refine V_aload_n C dX9_guard_118 rfl 0 rfl ?_
        refine gf_RX9_36 C (ln134) ly134 rfl dX9_guard_119 ?_
        refine V_iload_n C dX9_guard_122 rfl 1 rfl ?_
        refine V_iald C (ln142) ly142 dX9_guard_123 ?_
        exact V_iret C D dX9_guard_124
      | (k + 7), hX => simp at hX
  · refine V_iconst (v := (-1 : Int32)) C dX9_guard_13 (by decide) ?_
    exact V_iret C D dX9_guard_14

theorem ct_X9_guard (l : Launch) (dC : Nat → ClassId) (dI : Nat → Nat → Nat) (cA : Nat → ClassId) (b : Nat) (σ : Hp) (a1 : Int32) (a2 : Int32)  : CT l dC dI cA b yX9_guard cX9_guard 3 (some .int) 3 [.ref (b + 134), .int a1, .int a2] σ rvI (f_X9_guard σ a1 a2) := CT_of [(0, .ref (b + 134)), (1, .int a1), (2, .int a2)] (by decide +kernel) rfl (Nat.le_of_ble_eq_true rfl) rfl (fun E _ C D _ _ _ => vj_X9_guard_0 C D σ a1 a2 )
set_option maxRecDepth 4000 in
theorem vj_X9_sick_0 {E : Ev} {b : Nat} (C : CX E RX9 cX9_sick 4 3) (D : CR E (some .int))    (σ : Hp) (a1 : Int32) (a2 : Int32)  : VJ rvI (QM E b) E b 4 σ 0 [(0, .ref (b + 134)), (1, .int a1), (2, .int a2)] [] (f_X9_sick σ a1 a2) := by
  unfold f_X9_sick
  refine V_aload_n C dX9_sick_0 rfl 0 rfl ?_
  refine V_iconst (v := (0 : Int32)) C dX9_sick_1 (by decide) ?_
  refine pf_RX9_87 C (ln134) ly134 rfl dX9_sick_2 (fun σ1 => ?_)
  refine V_aload_n C dX9_sick_5 rfl 0 rfl ?_
  refine V_iload_n C dX9_sick_6 rfl 1 rfl ?_
  refine cv_RX9_154 C (ln134) ly134 (ct_X9_noGuard _ _ _ _ _ σ1 a1) (by decide) rfl rfl (Nat.le_of_ble_eq_true rfl) dX9_sick_7 (fun r2 σ3 => ?_)
  refine V_if_eq (tgt := 15) C dX9_sick_10 (by decide) ?_ ?_
  · refine V_aload_n C dX9_sick_15 rfl 0 rfl ?_
    refine gf_RX9_30 C (ln134) ly134 rfl dX9_sick_16 ?_
    refine V_iload_n C dX9_sick_19 rfl 1 rfl ?_
    refine V_zald C (ln140) ly140 dX9_sick_20 ?_
    refine V_ltI (fun v4 => ?_)
    refine V_istore_n (L' := [(3, .int v4), (0, .ref (b + 134)), (1, .int a1), (2, .int a2)]) C dX9_sick_21 rfl (by decide) rfl ?_
    refine V_aload_n C dX9_sick_22 rfl 1 rfl ?_
    refine gf_RX9_30 C (ln134) ly134 rfl dX9_sick_23 ?_
    refine V_iload_n C dX9_sick_26 rfl 2 rfl ?_
    refine V_iload_n C dX9_sick_27 rfl 3 rfl ?_
    refine V_zast C (ln140) ly140 dX9_sick_28 (fun σ5 => ?_)
    refine V_iload_n C dX9_sick_29 rfl 0 rfl ?_
    refine V_iload_n C dX9_sick_30 rfl 3 rfl ?_
    refine V_icmp_ne (tgt := 38) C dX9_sick_31 (by decide) ?_ ?_
    · refine V_iconst (v := (1 : Int32)) C dX9_sick_38 (by decide) ?_
      exact V_iret C D dX9_sick_39
    · refine V_iconst (v := (0 : Int32)) C dX9_sick_34 (by decide) ?_
      refine V_goto (tgt := 39) C dX9_sick_35 (by decide) ?_
      exact V_iret C D dX9_sick_39
  · refine V_iconst (v := (-1 : Int32)) C dX9_sick_13 (by decide) ?_
    exact V_iret C D dX9_sick_14

theorem ct_X9_sick (l : Launch) (dC : Nat → ClassId) (dI : Nat → Nat → Nat) (cA : Nat → ClassId) (b : Nat) (σ : Hp) (a1 : Int32) (a2 : Int32)  : CT l dC dI cA b yX9_sick cX9_sick 4 (some .int) 3 [.ref (b + 134), .int a1, .int a2] σ rvI (f_X9_sick σ a1 a2) := CT_of [(0, .ref (b + 134)), (1, .int a1), (2, .int a2)] (by decide +kernel) rfl (Nat.le_of_ble_eq_true rfl) rfl (fun E _ C D _ _ _ => vj_X9_sick_0 C D σ a1 a2 )
set_option maxRecDepth 4000 in
theorem vj_X9_hand_0 {E : Ev} {b : Nat} (C : CX E RX9 cX9_hand 4 3) (D : CR E (some .int))    (σ : Hp) (a1 : Int32) (a2 : Int32) (a3 : Int32)  : VJ rvI (QM E b) E b 4 σ 0 [(0, .ref (b + 134)), (1, .int a1), (2, .int a2), (3, .int a3)] [] (f_X9_hand σ a1 a2 a3) := by
  unfold f_X9_hand
  refine V_aload_n C dX9_hand_0 rfl 0 rfl ?_
  refine V_iconst (v := (0 : Int32)) C dX9_hand_1 (by decide) ?_
  refine pf_RX9_87 C (ln134) ly134 rfl dX9_hand_2 (fun σ1 => ?_)
  refine V_aload_n C dX9_hand_5 rfl 0 rfl ?_
  refine V_iload_n C dX9_hand_6 rfl 1 rfl ?_
  refine cv_RX9_154 C (ln134) ly134 (ct_X9_noGuard _ _ _ _ _ σ1 a1) (by decide) rfl rfl (Nat.le_of_ble_eq_true rfl) dX9_hand_7 (fun r2 σ3 => ?_)
  refine V_if_ne (tgt := 21) C dX9_hand_10 (by decide) ?_ ?_
  · refine V_iconst (v := (-1 : Int32)) C dX9_hand_21 (by decide) ?_
    exact V_iret C D dX9_hand_22
  · refine V_aload_n C dX9_hand_13 rfl 0 rfl ?_
    refine V_iload_n C dX9_hand_14 rfl 2 rfl ?_
    refine cv_RX9_154 C (ln134) ly134 (ct_X9_noGuard _ _ _ _ _ σ3 a2) (by decide) rfl rfl (Nat.le_of_ble_eq_true rfl) dX9_hand_15 (fun r4 σ5 => ?_)
    refine V_if_eq (tgt := 23) C dX9_hand_18 (by decide) ?_ ?_
    · refine V_iload_n C dX9_hand_23 rfl 1 rfl ?_
      refine V_iload_n C dX9_hand_24 rfl 2 rfl ?_
      refine V_icmp_eq (tgt := 40) C dX9_hand_25 (by decide) ?_ ?_
      · refine V_bipush (v := (-2 : Int32)) C dX9_hand_40 (by decide) ?_
        exact V_iret C D dX9_hand_42
      · refine V_iload_n C dX9_hand_28 rfl 3 rfl ?_
        refine V_i2l C dX9_hand_29 ?_
        refine V_lconst (v := (1 : Int64)) C dX9_hand_30 (by decide) ?_
        refine V_ldc2 C wk_RX9_158 dX9_hand_31 ?_
        refine cs_RX9_93 C (ct_X9_in _ _ _ _ _ σ5 (a3.toInt64) (1 : Int64) (9 : Int64)) (by decide) rfl rfl (Nat.le_of_ble_eq_true rfl) dX9_hand_34 (fun r6 σ7 => ?_)
        refine V_if_ne (tgt := 43) C dX9_hand_37 (by decide) ?_ ?_
        · refine V_aload_n C dX9_hand_43 rfl 0 rfl ?_
          refine gf_RX9_20 C (ln134) ly134 rfl dX9_hand_44 ?_
          refine V_iload_n C dX9_hand_47 rfl 1 rfl ?_
          refine V_iald C (ln137) ly137 dX9_hand_48 ?_
          refine V_iload_n C dX9_hand_49 rfl 3 rfl ?_
          refine V_icmp_ge (tgt := 56) C dX9_hand_50 (by decide) ?_ ?_
          · refine V_aload_n C dX9_hand_56 rfl 0 rfl ?_
            refine gf_RX9_20 C (ln134) ly134 rfl dX9_hand_57 ?_
            refine V_iload_n C dX9_hand_60 rfl 2 rfl ?_
            refine V_iald C (ln137) ly137 dX9_hand_61 ?_
            refine V_iload_n C dX9_hand_62 rfl 3 rfl ?_
            refine V_iadd C dX9_hand_63 ?_
            refine V_bipush (v := (9 : Int32)) C dX9_hand_64 (by decide) ?_
            refine V_icmp_le (tgt := 72) C dX9_hand_66 (by decide) ?_ ?_
            · refine V_aload_n C dX9_hand_72 rfl 0 rfl ?_
              refine gf_RX9_20 C (ln134) ly134 rfl dX9_hand_73 ?_
              refine V_iload_n C dX9_hand_76 rfl 1 rfl ?_
              refine V_dup2 C dX9_hand_77 rfl rfl ?_
              refine V_iald C (ln137) ly137 dX9_hand_78 ?_
              refine V_iload_n C dX9_hand_79 rfl 3 rfl ?_
              refine V_isub C dX9_hand_80 ?_
              refine V_iast C (ln137) ly137 dX9_hand_81 (fun σ8 => ?_)
              refine V_aload_n C dX9_hand_82 rfl 0 rfl ?_
              refine gf_RX9_20 C (ln134) ly134 rfl dX9_hand_83 ?_
              refine V_iload_n C dX9_hand_86 rfl 2 rfl ?_
              refine V_dup2 C dX9_hand_87 rfl rfl ?_
              refine V_iald C (ln137) ly137 dX9_hand_88 ?_
              refine V_iload_n C dX9_hand_89 rfl 3 rfl ?_
              refine V_iadd C dX9_hand_90 ?_
              refine V_iast C (ln137) ly137 dX9_hand_91 (fun σ9 => ?_)
              refine V_aload_n C dX9_hand_92 rfl 0 rfl ?_
              refine gf_RX9_20 C (ln134) ly134 rfl dX9_hand_93 ?_
              refine V_iload_n C dX9_hand_96 rfl 2 rfl ?_
              refine V_iald C (ln137) ly137 dX9_hand_97 ?_
              exact V_iret C D dX9_hand_98
            · refine V_bipush (v := (-4 : Int32)) C dX9_hand_69 (by decide) ?_
              exact V_iret C D dX9_hand_71
          · refine V_bipush (v := (-3 : Int32)) C dX9_hand_53 (by decide) ?_
            exact V_iret C D dX9_hand_55
        · refine V_bipush (v := (-2 : Int32)) C dX9_hand_40 (by decide) ?_
          exact V_iret C D dX9_hand_42
    · refine V_iconst (v := (-1 : Int32)) C dX9_hand_21 (by decide) ?_
      exact V_iret C D dX9_hand_22

theorem ct_X9_hand (l : Launch) (dC : Nat → ClassId) (dI : Nat → Nat → Nat) (cA : Nat → ClassId) (b : Nat) (σ : Hp) (a1 : Int32) (a2 : Int32) (a3 : Int32)  : CT l dC dI cA b yX9_hand cX9_hand 4 (some .int) 3 [.ref (b + 134), .int a1, .int a2, .int a3] σ rvI (f_X9_hand σ a1 a2 a3) := CT_of [(0, .ref (b + 134)), (1, .int a1), (2, .int a2), (3, .int a3)] (by decide +kernel) rfl (Nat.le_of_ble_eq_true rfl) rfl (fun E _ C D _ _ _ => vj_X9_hand_0 C D σ a1 a2 a3 )
set_option maxRecDepth 4000 in
theorem vj_X9_pay_0 {E : Ev} {b : Nat} (C : CX E RX9 cX9_pay 3 3) (D : CR E (some .int))    (σ : Hp) (a1 : Int32) (a2 : Int32)  : VJ rvI (QM E b) E b 3 σ 0 [(0, .ref (b + 134)), (1, .int a1), (2, .int a2)] [] (f_X9_pay σ a1 a2) := by
  unfold f_X9_pay
  refine V_aload_n C dX9_pay_0 rfl 0 rfl ?_
  refine V_iconst (v := (0 : Int32)) C dX9_pay_1 (by decide) ?_
  refine pf_RX9_87 C (ln134) ly134 rfl dX9_pay_2 (fun σ1 => ?_)
  refine V_aload_n C dX9_pay_5 rfl 0 rfl ?_
  refine V_iload_n C dX9_pay_6 rfl 1 rfl ?_
  refine cv_RX9_154 C (ln134) ly134 (ct_X9_noGuard _ _ _ _ _ σ1 a1) (by decide) rfl rfl (Nat.le_of_ble_eq_true rfl) dX9_pay_7 (fun r2 σ3 => ?_)
  refine V_if_eq (tgt := 15) C dX9_pay_10 (by decide) ?_ ?_
  · refine V_iload_n C dX9_pay_15 rfl 2 rfl ?_
    refine V_i2l C dX9_pay_16 ?_
    refine V_lconst (v := (1 : Int64)) C dX9_pay_17 (by decide) ?_
    refine V_ldc2 C wk_RX9_158 dX9_pay_18 ?_
    refine cs_RX9_93 C (ct_X9_in _ _ _ _ _ σ3 (a2.toInt64) (1 : Int64) (9 : Int64)) (by decide) rfl rfl (Nat.le_of_ble_eq_true rfl) dX9_pay_21 (fun r4 σ5 => ?_)
    refine V_if_ne (tgt := 30) C dX9_pay_24 (by decide) ?_ ?_
    · refine V_aload_n C dX9_pay_30 rfl 0 rfl ?_
      refine gf_RX9_20 C (ln134) ly134 rfl dX9_pay_31 ?_
      refine V_iload_n C dX9_pay_34 rfl 1 rfl ?_
      refine V_iald C (ln137) ly137 dX9_pay_35 ?_
      refine V_iload_n C dX9_pay_36 rfl 2 rfl ?_
      refine V_icmp_lt (tgt := 50) C dX9_pay_37 (by decide) ?_ ?_
      · refine V_bipush (v := (-3 : Int32)) C dX9_pay_50 (by decide) ?_
        exact V_iret C D dX9_pay_52
      · refine V_aload_n C dX9_pay_40 rfl 0 rfl ?_
        refine gf_RX9_23 C (ln134) ly134 rfl dX9_pay_41 ?_
        refine V_iload_n C dX9_pay_44 rfl 1 rfl ?_
        refine V_iald C (ln138) ly138 dX9_pay_45 ?_
        refine V_iload_n C dX9_pay_46 rfl 2 rfl ?_
        refine V_icmp_ge (tgt := 53) C dX9_pay_47 (by decide) ?_ ?_
        · refine V_aload_n C dX9_pay_53 rfl 0 rfl ?_
          refine gf_RX9_20 C (ln134) ly134 rfl dX9_pay_54 ?_
          refine V_iload_n C dX9_pay_57 rfl 1 rfl ?_
          refine V_dup2 C dX9_pay_58 rfl rfl ?_
          refine V_iald C (ln137) ly137 dX9_pay_59 ?_
          refine V_iload_n C dX9_pay_60 rfl 2 rfl ?_
          refine V_isub C dX9_pay_61 ?_
          refine V_iast C (ln137) ly137 dX9_pay_62 (fun σ6 => ?_)
          refine V_aload_n C dX9_pay_63 rfl 0 rfl ?_
          refine gf_RX9_23 C (ln134) ly134 rfl dX9_pay_64 ?_
          refine V_iload_n C dX9_pay_67 rfl 1 rfl ?_
          refine V_dup2 C dX9_pay_68 rfl rfl ?_
          refine V_iald C (ln138) ly138 dX9_pay_69 ?_
          refine V_iload_n C dX9_pay_70 rfl 2 rfl ?_
          refine V_isub C dX9_pay_71 ?_
          refine V_iast C (ln138) ly138 dX9_pay_72 (fun σ7 => ?_)
          refine V_aload_n C dX9_pay_73 rfl 0 rfl ?_
          refine gf_RX9_23 C (ln134) ly134 rfl dX9_pay_74 ?_
          refine V_iload_n C dX9_pay_77 rfl 1 rfl ?_
          refine V_iald C (ln138) ly138 dX9_pay_78 ?_
          exact V_iret C D dX9_pay_79
        · refine V_bipush (v := (-3 : Int32)) C dX9_pay_50 (by decide) ?_
          exact V_iret C D dX9_pay_52
    · refine V_bipush (v := (-2 : Int32)) C dX9_pay_27 (by decide) ?_
      exact V_iret C D dX9_pay_29
  · refine V_iconst (v := (-1 : Int32)) C dX9_pay_13 (by decide) ?_
    exact V_iret C D dX9_pay_14

theorem ct_X9_pay (l : Launch) (dC : Nat → ClassId) (dI : Nat → Nat → Nat) (cA : Nat → ClassId) (b : Nat) (σ : Hp) (a1 : Int32) (a2 : Int32)  : CT l dC dI cA b yX9_pay cX9_pay 3 (some .int) 3 [.ref (b + 134), .int a1, .int a2] σ rvI (f_X9_pay σ a1 a2) := CT_of [(0, .ref (b + 134)), (1, .int a1), (2, .int a2)] (by decide +kernel) rfl (Nat.le_of_ble_eq_true rfl) rfl (fun E _ C D _ _ _ => vj_X9_pay_0 C D σ a1 a2 )
set_option maxRecDepth 4000 in
theorem vj_X9_begin_2 {E : Ev} {b : Nat} (C : CX E RX9 cX9_begin 2 1) (D : CR E none)    : ∀ (n : Nat) (σ : Hp) (x1 : Int32) , VJ rvV (QM E b) E b 2 σ 2 [(0, .ref (b + 134)), (1, .int x1)] [] (f_X9_begin_2 n σ x1)
  | 0, σ, x1 => V_none
  | n + 1, σ, x1 => by
    show VJ rvV (QM E b) E b 2 σ 2 [(0, .ref (b + 134)), (1, .int x1)] [] (if (σ 134 4) ≤ x1 then (
          some ((), σ))
        else (
          ck x1 5 <|
          ck x1 5 <|
          Lt (wr σ 154 (ix x1) (σ 136 (ix x1))) fun σ1 =>
          ck x1 5 <|
          ck x1 5 <|
          Lt (wr σ1 155 (ix x1) (σ1 137 (ix x1))) fun σ2 =>
          ck x1 5 <|
          ck x1 5 <|
          Lt (wr σ2 156 (ix x1) (σ2 138 (ix x1))) fun σ3 =>
          ck x1 5 <|
          ck x1 5 <|
          Lt (wr σ3 157 (ix x1) (vp_nar .boolean (σ3 139 (ix x1)))) fun σ4 =>
          Lt (x1 + (1 : Int32)) fun v5 =>
          f_X9_begin_2 n σ4 v5))
    have ih := vj_X9_begin_2 (b := b) C D   n
    refine V_iload_n C dX9_begin_2 rfl 1 rfl ?_
    refine V_aload_n C dX9_begin_3 rfl 0 rfl ?_
    refine gf_RX9_90 C (ln134) ly134 rfl dX9_begin_4 ?_
    refine V_icmp_ge (tgt := 64) C dX9_begin_7 (by decide) ?_ ?_
    · exact V_vret C D dX9_begin_64
    · refine V_aload_n C dX9_begin_10 rfl 0 rfl ?_
      refine gf_RX9_72 C (ln134) ly134 rfl dX9_begin_11 ?_
      refine V_iload_n C dX9_begin_14 rfl 1 rfl ?_
      refine V_aload_n C dX9_begin_15 rfl 0 rfl ?_
      refine gf_RX9_17 C (ln134) ly134 rfl dX9_begin_16 ?_
      refine V_iload_n C dX9_begin_19 rfl 1 rfl ?_
      refine V_iald C (ln136) ly136 dX9_begin_20 ?_
      refine V_iast C (ln154) ly154 dX9_begin_21 (fun σ1 => ?_)
      refine V_aload_n C dX9_begin_22 rfl 0 rfl ?_
      refine gf_RX9_75 C (ln134) ly134 rfl dX9_begin_23 ?_
      refine V_iload_n C dX9_begin_26 rfl 1 rfl ?_
      refine V_aload_n C dX9_begin_27 rfl 0 rfl ?_
      refine gf_RX9_20 C (ln134) ly134 rfl dX9_begin_28 ?_
      refine V_iload_n C dX9_begin_31 rfl 1 rfl ?_
      refine V_iald C (ln137) ly137 dX9_begin_32 ?_
      refine V_iast C (ln155) ly155 dX9_begin_33 (fun σ2 => ?_)
      refine V_aload_n C dX9_begin_34 rfl 0 rfl ?_
      refine gf_RX9_78 C (ln134) ly134 rfl dX9_begin_35 ?_
      refine V_iload_n C dX9_begin_38 rfl 1 rfl ?_
      refine V_aload_n C dX9_begin_39 rfl 0 rfl ?_
      refine gf_RX9_23 C (ln134) ly134 rfl dX9_begin_40 ?_
      refine V_iload_n C dX9_begin_43 rfl 1 rfl ?_
      refine V_iald C (ln138) ly138 dX9_begin_44 ?_
      refine V_iast C (ln156) ly156 dX9_begin_45 (fun σ3 => ?_)
      refine V_aload_n C dX9_begin_46 rfl 0 rfl ?_
      refine gf_RX9_81 C (ln134) ly134 rfl dX9_begin_47 ?_
      refine V_iload_n C dX9_begin_50 rfl 1 rfl ?_
      refine V_aload_n C dX9_begin_51 rfl 0 rfl ?_
      refine gf_RX9_26 C (ln134) ly134 rfl dX9_begin_52 ?_
      refine V_iload_n C dX9_begin_55 rfl 1 rfl ?_
      refine V_zald C (ln139) ly139 dX9_begin_56 ?_
      refine V_zast C (ln157) ly157 dX9_begin_57 (fun σ4 => ?_)
      refine V_iinc (k := 1) (v := (1 : Int32)) (L' := fun v5 => [(1, .int v5), (0, .ref (b + 134))]) C dX9_begin_58 rfl (by decide) (by decide) (fun _ => rfl) (fun v5 => ?_)
      refine V_goto (tgt := 2) C dX9_begin_61 (by decide) ?_
      exact V_sub [1, 0] rfl (ih σ4 v5)

set_option maxRecDepth 4000 in
theorem vj_X9_begin_0 {E : Ev} {b : Nat} (C : CX E RX9 cX9_begin 2 1) (D : CR E none)    (σ : Hp)   : VJ rvV (QM E b) E b 2 σ 0 [(0, .ref (b + 134))] [] (f_X9_begin σ ) := by
  unfold f_X9_begin
  refine V_iconst (v := (0 : Int32)) C dX9_begin_0 (by decide) ?_
  refine V_istore_n (L' := [(1, .int (0 : Int32)), (0, .ref (b + 134))]) C dX9_begin_1 rfl (by decide) rfl ?_
  exact V_sub [1, 0] rfl (vj_X9_begin_2 C D FU σ (0 : Int32))

theorem ct_X9_begin (l : Launch) (dC : Nat → ClassId) (dI : Nat → Nat → Nat) (cA : Nat → ClassId) (b : Nat) (σ : Hp)   : CT l dC dI cA b yX9_begin cX9_begin 2 none 1 [.ref (b + 134)] σ rvV (f_X9_begin σ ) := CT_of [(0, .ref (b + 134))] (by decide +kernel) rfl (Nat.le_of_ble_eq_true rfl) rfl (fun E _ C D _ _ _ => vj_X9_begin_0 C D σ  )
set_option maxRecDepth 4000 in
theorem vj_X9_giver_54 {E : Ev} {b : Nat} (C : CX E RX9 cX9_giver 6 2) (D : CR E (some .int))    (σ : Hp) (x4 : Int32) (s0 : Int32)  : VJ rvI (QM E b) E b 6 σ 54 [(0, .ref (b + 134)), (4, .int x4)] [.int s0] (f_X9_giver_54 σ x4 s0) := by
  unfold f_X9_giver_54
  refine V_istore (L' := [(5, .int s0), (0, .ref (b + 134)), (4, .int x4)]) C dX9_giver_54 (by decide) rfl ?_
  refine V_aload_n C dX9_giver_56 rfl 1 rfl ?_
  refine gf_RX9_75 C (ln134) ly134 rfl dX9_giver_57 ?_
  refine V_iload C dX9_giver_60 0 rfl ?_
  refine V_iald C (ln155) ly155 dX9_giver_62 ?_
  refine V_aload_n C dX9_giver_63 rfl 1 rfl ?_
  refine gf_RX9_75 C (ln134) ly134 rfl dX9_giver_64 ?_
  refine V_iload C dX9_giver_67 2 rfl ?_
  refine V_iald C (ln155) ly155 dX9_giver_69 ?_
  refine V_icmp_le (tgt := 78) C dX9_giver_70 (by decide) ?_ ?_
  · refine V_iload C dX9_giver_78 2 rfl ?_
    exact V_iret C D dX9_giver_80
  · refine V_iload C dX9_giver_73 0 rfl ?_
    refine V_goto (tgt := 80) C dX9_giver_75 (by decide) ?_
    exact V_iret C D dX9_giver_80

set_option maxRecDepth 4000 in
theorem vj_X9_giver_42 {E : Ev} {b : Nat} (C : CX E RX9 cX9_giver 6 2) (D : CR E (some .int))    (σ : Hp) (x1 : Int32) (x3 : Int32) (s0 : Int32)  : VJ rvI (QM E b) E b 6 σ 42 [(0, .ref (b + 134)), (1, .int x1), (3, .int x3)] [.int s0] (f_X9_giver_42 σ x1 x3 s0) := by
  unfold f_X9_giver_42
  refine V_istore (L' := [(4, .int s0), (0, .ref (b + 134)), (1, .int x1), (3, .int x3)]) C dX9_giver_42 (by decide) rfl ?_
  refine V_iload_n C dX9_giver_44 rfl 2 rfl ?_
  refine V_iload_n C dX9_giver_45 rfl 3 rfl ?_
  refine V_icmp_ge (tgt := 53) C dX9_giver_46 (by decide) ?_ ?_
  · refine V_iload_n C dX9_giver_53 rfl 2 rfl ?_
    exact V_sub [1, 0] rfl (vj_X9_giver_54 C D σ s0 x1)
  · refine V_iload_n C dX9_giver_49 rfl 3 rfl ?_
    refine V_goto (tgt := 54) C dX9_giver_50 (by decide) ?_
    exact V_sub [1, 0] rfl (vj_X9_giver_54 C D σ s0 x3)

set_option maxRecDepth 4000 in
theorem vj_X9_giver_0 {E : Ev} {b : Nat} (C : CX E RX9 cX9_giver 6 2) (D : CR E (some .int))    (σ : Hp) (a1 : Int32) (a2 : Int32)  : VJ rvI (QM E b) E b 6 σ 0 [(0, .ref (b + 134)), (1, .int a1), (2, .int a2)] [] (f_X9_giver σ a1 a2) := by
  unfold f_X9_giver
  refine V_aload_n C dX9_giver_0 rfl 0 rfl ?_
  refine gf_RX9_33 C (ln134) ly134 rfl dX9_giver_1 ?_
  refine V_iload_n C dX9_giver_4 rfl 1 rfl ?_
  refine V_iald C (ln141) ly141 dX9_giver_5 ?_
  refine V_ltI (fun v1 => ?_)
  refine V_istore_n (L' := [(3, .int v1), (0, .ref (b + 134)), (1, .int a1), (2, .int a2)]) C dX9_giver_6 rfl (by decide) rfl ?_
  refine V_iload_n C dX9_giver_7 rfl 0 rfl ?_
  refine V_bipush (v := (-9 : Int32)) C dX9_giver_8 (by decide) ?_
  refine V_icmp_eq (tgt := 30) C dX9_giver_10 (by decide) ?_ ?_
  · refine V_iload_n C dX9_giver_30 rfl 2 rfl ?_
    exact V_iret C D dX9_giver_31
  · refine V_iload_n C dX9_giver_13 rfl 3 rfl ?_
    refine V_iload_n C dX9_giver_14 rfl 0 rfl ?_
    refine cs_RX9_160 C (ct_X9_has _ _ _ _ _ σ a2 v1) (by decide) rfl rfl (Nat.le_of_ble_eq_true rfl) dX9_giver_15 (fun r2 σ3 => ?_)
    refine V_if_eq (tgt := 30) C dX9_giver_18 (by decide) ?_ ?_
    · refine V_iload_n C dX9_giver_30 rfl 2 rfl ?_
      exact V_iret C D dX9_giver_31
    · refine V_aload_n C dX9_giver_21 rfl 1 rfl ?_
      refine gf_RX9_30 C (ln134) ly134 rfl dX9_giver_22 ?_
      refine V_iload_n C dX9_giver_25 rfl 0 rfl ?_
      refine V_zald C (ln140) ly140 dX9_giver_26 ?_
      refine V_if_eq (tgt := 32) C dX9_giver_27 (by decide) ?_ ?_
      · refine V_iload_n C dX9_giver_32 rfl 2 rfl ?_
        refine V_iload_n C dX9_giver_33 rfl 0 rfl ?_
        refine V_icmp_ge (tgt := 41) C dX9_giver_34 (by decide) ?_ ?_
        · refine V_iload_n C dX9_giver_41 rfl 0 rfl ?_
          exact V_sub [1, 2, 0] rfl (vj_X9_giver_42 C D σ3 a1 v1 v1)
        · refine V_iload_n C dX9_giver_37 rfl 2 rfl ?_
          refine V_goto (tgt := 42) C dX9_giver_38 (by decide) ?_
          exact V_sub [1, 2, 0] rfl (vj_X9_giver_42 C D σ3 a1 v1 a1)
      · refine V_iload_n C dX9_giver_30 rfl 2 rfl ?_
        exact V_iret C D dX9_giver_31

theorem ct_X9_giver (l : Launch) (dC : Nat → ClassId) (dI : Nat → Nat → Nat) (cA : Nat → ClassId) (b : Nat) (σ : Hp) (a1 : Int32) (a2 : Int32)  : CT l dC dI cA b yX9_giver cX9_giver 6 (some .int) 2 [.ref (b + 134), .int a1, .int a2] σ rvI (f_X9_giver σ a1 a2) := CT_of [(0, .ref (b + 134)), (1, .int a1), (2, .int a2)] (by decide +kernel) rfl (Nat.le_of_ble_eq_true rfl) rfl (fun E _ C D _ _ _ => vj_X9_giver_0 C D σ a1 a2 )
set_option maxRecDepth 4000 in
theorem vj_X9_canBe_78 {E : Ev} {b : Nat} (C : CX E RX9 cX9_canBe 5 3) (D : CR E (some .boolean))   {k7 : Hp → Int32 → Int32 → Int32 → Int32 → Option (Int32 × Hp)} (hk7 : ∀ (σ : Hp) (x1 : Int32) (x2 : Int32) (x3 : Int32) (x4 : Int32) , VJ rvI (QM E b) E b 5 σ 7 [(0, .ref (b + 134)), (1, .int x1), (2, .int x2), (3, .int x3), (4, .int x4)] [] (k7 σ x1 x2 x3 x4)) (σ : Hp) (x1 : Int32) (x2 : Int32) (x3 : Int32) (x4 : Int32)  : VJ rvI (QM E b) E b 5 σ 78 [(0, .ref (b + 134)), (1, .int x1), (2, .int x2), (3, .int x3), (4, .int x4)] [] (f_X9_canBe_78 k7 σ x1 x2 x3 x4) := by
  unfold f_X9_canBe_78
  refine V_iinc (k := 4) (v := (1 : Int32)) (L' := fun v1 => [(4, .int v1), (0, .ref (b + 134)), (1, .int x1), (2, .int x2), (3, .int x3)]) C dX9_canBe_78 rfl (by decide) (by decide) (fun _ => rfl) (fun v1 => ?_)
  refine V_goto (tgt := 7) C dX9_canBe_81 (by decide) ?_
  exact V_sub [1, 2, 3, 4, 0] rfl (hk7 σ x1 x2 x3 v1)

set_option maxRecDepth 4000 in
theorem vj_X9_canBe_77 {E : Ev} {b : Nat} (C : CX E RX9 cX9_canBe 5 3) (D : CR E (some .boolean))   {k7 : Hp → Int32 → Int32 → Int32 → Int32 → Option (Int32 × Hp)} (hk7 : ∀ (σ : Hp) (x1 : Int32) (x2 : Int32) (x3 : Int32) (x4 : Int32) , VJ rvI (QM E b) E b 5 σ 7 [(0, .ref (b + 134)), (1, .int x1), (2, .int x2), (3, .int x3), (4, .int x4)] [] (k7 σ x1 x2 x3 x4)) (σ : Hp) (x1 : Int32) (x2 : Int32) (x4 : Int32) (s0 : Int32)  : VJ rvI (QM E b) E b 5 σ 77 [(0, .ref (b + 134)), (1, .int x1), (2, .int x2), (4, .int x4)] [.int s0] (f_X9_canBe_77 k7 σ x1 x2 x4 s0) := by
  unfold f_X9_canBe_77
  refine V_istore_n (L' := [(3, .int s0), (0, .ref (b + 134)), (1, .int x1), (2, .int x2), (4, .int x4)]) C dX9_canBe_77 rfl (by decide) rfl ?_
  exact V_sub [1, 2, 3, 0, 4] rfl (vj_X9_canBe_78 C D hk7 σ x1 x2 s0 x4)

set_option maxRecDepth 4000 in
theorem vj_X9_canBe_72 {E : Ev} {b : Nat} (C : CX E RX9 cX9_canBe 5 3) (D : CR E (some .boolean))   {k7 : Hp → Int32 → Int32 → Int32 → Int32 → Option (Int32 × Hp)} (hk7 : ∀ (σ : Hp) (x1 : Int32) (x2 : Int32) (x3 : Int32) (x4 : Int32) , VJ rvI (QM E b) E b 5 σ 7 [(0, .ref (b + 134)), (1, .int x1), (2, .int x2), (3, .int x3), (4, .int x4)] [] (k7 σ x1 x2 x3 x4)) (σ : Hp) (x1 : Int32) (x2 : Int32) (x4 : Int32)  : VJ rvI (QM E b) E b 5 σ 72 [(0, .ref (b + 134)), (1, .int x1), (2, .int x2), (4, .int x4)] [] (f_X9_canBe_72 k7 σ x1 x2 x4) := by
  unfold f_X9_canBe_72
  refine V_iconst (v := (1 : Int32)) C dX9_canBe_72 (by decide) ?_
  refine V_goto (tgt := 77) C dX9_canBe_73 (by decide) ?_
  exact V_sub [0, 1, 2, 3] rfl (vj_X9_canBe_77 C D hk7 σ x1 x2 x4 (1 : Int32))

set_option maxRecDepth 4000 in
theorem vj_X9_canBe_76 {E : Ev} {b : Nat} (C : CX E RX9 cX9_canBe 5 3) (D : CR E (some .boolean))   {k7 : Hp → Int32 → Int32 → Int32 → Int32 → Option (Int32 × Hp)} (hk7 : ∀ (σ : Hp) (x1 : Int32) (x2 : Int32) (x3 : Int32) (x4 : Int32) , VJ rvI (QM E b) E b 5 σ 7 [(0, .ref (b + 134)), (1, .int x1), (2, .int x2), (3, .int x3), (4, .int x4)] [] (k7 σ x1 x2 x3 x4)) (σ : Hp) (x1 : Int32) (x2 : Int32) (x4 : Int32)  : VJ rvI (QM E b) E b 5 σ 76 [(0, .ref (b + 134)), (1, .int x1), (2, .int x2), (4, .int x4)] [] (f_X9_canBe_76 k7 σ x1 x2 x4) := by
  unfold f_X9_canBe_76
  refine V_iconst (v := (0 : Int32)) C dX9_canBe_76 (by decide) ?_
  exact V_sub [0, 1, 2, 3] rfl (vj_X9_canBe_77 C D hk7 σ x1 x2 x4 (0 : Int32))

set_option maxRecDepth 4000 in
theorem vj_X9_canBe_7 {E : Ev} {b : Nat} (C : CX E RX9 cX9_canBe 5 3) (D : CR E (some .boolean))    : ∀ (n : Nat) (σ : Hp) (x1 : Int32) (x2 : Int32) (x3 : Int32) (x4 : Int32) , VJ rvI (QM E b) E b 5 σ 7 [(0, .ref (b + 134)), (1, .int x1), (2, .int x2), (3, .int x3), (4, .int x4)] [] (f_X9_canBe_7 n σ x1 x2 x3 x4)
  | 0, σ, x1, x2, x3, x4 => V_none
  | n + 1, σ, x1, x2, x3, x4 => by
    show VJ rvI (QM E b) E b 5 σ 7 [(0, .ref (b + 134)), (1, .int x1), (2, .int x2), (3, .int x3), (4, .int x4)] [] (if (σ 134 4) ≤ x4 then (
          if x3 = 0 then (
            zr (0 : Int32) σ)
          else (
            if (σ 134 5) < x2 then (
              zr (0 : Int32) σ)
            else (
              zr (1 : Int32) σ)))
        else (
          bd (f_X9_has σ x1 x4) fun r1 σ2 =>
          if r1 = 0 then (
            f_X9_canBe_78 (f_X9_canBe_7 n) σ2 x1 x2 x3 x4)
          else (
            Lt (x2 + (1 : Int32)) fun v3 =>
            if x3 = 0 then (
              f_X9_canBe_76 (f_X9_canBe_7 n) σ2 x1 v3 x4)
            else (
              ck x4 5 <|
              if (σ2 140 (ix x4)) = 0 then (
                bd (f_X9_giver σ2 x4 x1) fun r5 σ6 =>
                ck r5 5 <|
                if (σ6 155 (ix r5)) ≤ 0 then (
                  f_X9_canBe_76 (f_X9_canBe_7 n) σ6 x1 v3 x4)
                else (
                  f_X9_canBe_72 (f_X9_canBe_7 n) σ6 x1 v3 x4))
              else (
                ck x4 5 <|
                if (9 : Int32) ≤ (σ2 156 (ix x4)) then (
                  f_X9_canBe_76 (f_X9_canBe_7 n) σ2 x1 v3 x4)
                else (
                  f_X9_canBe_72 (f_X9_canBe_7 n) σ2 x1 v3 x4))))))
    have ih := vj_X9_canBe_7 (b := b) C D   n
    refine V_iload C dX9_canBe_7 4 rfl ?_
    refine V_aload_n C dX9_canBe_9 rfl 0 rfl ?_
    refine gf_RX9_90 C (ln134) ly134 rfl dX9_canBe_10 ?_
    refine V_icmp_ge (tgt := 84) C dX9_canBe_13 (by decide) ?_ ?_
    · refine V_iload_n C dX9_canBe_84 rfl 3 rfl ?_
      refine V_if_eq (tgt := 100) C dX9_canBe_85 (by decide) ?_ ?_
      · refine V_iconst (v := (0 : Int32)) C dX9_canBe_100 (by decide) ?_
        exact V_zret C D dX9_canBe_101
      · refine V_iload_n C dX9_canBe_88 rfl 2 rfl ?_
        refine V_aload_n C dX9_canBe_89 rfl 0 rfl ?_
        refine gf_RX9_139 C (ln134) ly134 rfl dX9_canBe_90 ?_
        refine V_icmp_gt (tgt := 100) C dX9_canBe_93 (by decide) ?_ ?_
        · refine V_iconst (v := (0 : Int32)) C dX9_canBe_100 (by decide) ?_
          exact V_zret C D dX9_canBe_101
        · refine V_iconst (v := (1 : Int32)) C dX9_canBe_96 (by decide) ?_
          refine V_goto (tgt := 101) C dX9_canBe_97 (by decide) ?_
          exact V_zret C D dX9_canBe_101
    · refine V_iload_n C dX9_canBe_16 rfl 1 rfl ?_
      refine V_iload C dX9_canBe_17 4 rfl ?_
      refine cs_RX9_160 C (ct_X9_has _ _ _ _ _ σ x1 x4) (by decide) rfl rfl (Nat.le_of_ble_eq_true rfl) dX9_canBe_19 (fun r1 σ2 => ?_)
      refine V_if_eq (tgt := 78) C dX9_canBe_22 (by decide) ?_ ?_
      · exact V_sub [0, 1, 2, 3, 4] rfl (vj_X9_canBe_78 C D ih σ2 x1 x2 x3 x4)
      · refine V_iinc (k := 2) (v := (1 : Int32)) (L' := fun v3 => [(2, .int v3), (0, .ref (b + 134)), (1, .int x1), (3, .int x3), (4, .int x4)]) C dX9_canBe_25 rfl (by decide) (by decide) (fun _ => rfl) (fun v3 => ?_)
        refine V_iload_n C dX9_canBe_28 rfl 3 rfl ?_
        refine V_if_eq (tgt := 76) C dX9_canBe_29 (by decide) ?_ ?_
        · exact V_sub [1, 2, 0, 4] rfl (vj_X9_canBe_76 C D ih σ2 x1 v3 x4)
        · refine V_aload_n C dX9_canBe_32 rfl 1 rfl ?_
          refine gf_RX9_30 C (ln134) ly134 rfl dX9_canBe_33 ?_
          refine V_iload C dX9_canBe_36 4 rfl ?_
          refine V_zald C (ln140) ly140 dX9_canBe_38 ?_
          refine V_if_eq (tgt := 57) C dX9_canBe_39 (by decide) ?_ ?_
          · refine V_aload_n C dX9_canBe_57 rfl 1 rfl ?_
            refine gf_RX9_75 C (ln134) ly134 rfl dX9_canBe_58 ?_
            refine V_aload_n C dX9_canBe_61 rfl 1 rfl ?_
            refine V_iload C dX9_canBe_62 4 rfl ?_
            refine V_iload_n C dX9_canBe_64 rfl 2 rfl ?_
            refine cv_RX9_164 C (ln134) ly134 (ct_X9_giver _ _ _ _ _ σ2 x4 x1) (by decide) rfl rfl (Nat.le_of_ble_eq_true rfl) dX9_canBe_65 (fun r5 σ6 => ?_)
            refine V_iald C (ln155) ly155 dX9_canBe_68 ?_
            refine V_if_le (tgt := 76) C dX9_canBe_69 (by decide) ?_ ?_
            · exact V_sub [1, 2, 0, 4] rfl (vj_X9_canBe_76 C D ih σ6 x1 v3 x4)
            · exact V_sub [1, 2, 0, 4] rfl (vj_X9_canBe_72 C D ih σ6 x1 v3 x4)
          · refine V_aload_n C dX9_canBe_42 rfl 1 rfl ?_
            refine gf_RX9_78 C (ln134) ly134 rfl dX9_canBe_43 ?_
            refine V_iload C dX9_canBe_46 4 rfl ?_
            refine V_iald C (ln156) ly156 dX9_canBe_48 ?_
            refine V_bipush (v := (9 : Int32)) C dX9_canBe_49 (by decide) ?_
            refine V_icmp_ge (tgt := 76) C dX9_canBe_51 (by decide) ?_ ?_
            · exact V_sub [1, 2, 0, 4] rfl (vj_X9_canBe_76 C D ih σ2 x1 v3 x4)
            · refine V_goto (tgt := 72) C dX9_canBe_54 (by decide) ?_
              exact V_sub [1, 2, 0, 4] rfl (vj_X9_canBe_72 C D ih σ2 x1 v3 x4)

set_option maxRecDepth 4000 in
theorem vj_X9_canBe_0 {E : Ev} {b : Nat} (C : CX E RX9 cX9_canBe 5 3) (D : CR E (some .boolean))    (σ : Hp) (a1 : Int32)  : VJ rvI (QM E b) E b 5 σ 0 [(0, .ref (b + 134)), (1, .int a1)] [] (f_X9_canBe σ a1) := by
  unfold f_X9_canBe
  refine V_iconst (v := (0 : Int32)) C dX9_canBe_0 (by decide) ?_
  refine V_istore_n (L' := [(2, .int (0 : Int32)), (0, .ref (b + 134)), (1, .int a1)]) C dX9_canBe_1 rfl (by decide) rfl ?_
  refine V_iconst (v := (1 : Int32)) C dX9_canBe_2 (by decide) ?_
  refine V_istore_n (L' := [(3, .int (1 : Int32)), (2, .int (0 : Int32)), (0, .ref (b + 134)), (1, .int a1)]) C dX9_canBe_3 rfl (by decide) rfl ?_
  refine V_iconst (v := (0 : Int32)) C dX9_canBe_4 (by decide) ?_
  refine V_istore (L' := [(4, .int (0 : Int32)), (3, .int (1 : Int32)), (2, .int (0 : Int32)), (0, .ref (b + 134)), (1, .int a1)]) C dX9_canBe_5 (by decide) rfl ?_
  exact V_sub [3, 4, 2, 1, 0] rfl (vj_X9_canBe_7 C D FU σ a1 (0 : Int32) (1 : Int32) (0 : Int32))

theorem ct_X9_canBe (l : Launch) (dC : Nat → ClassId) (dI : Nat → Nat → Nat) (cA : Nat → ClassId) (b : Nat) (σ : Hp) (a1 : Int32)  : CT l dC dI cA b yX9_canBe cX9_canBe 5 (some .boolean) 3 [.ref (b + 134), .int a1] σ rvI (f_X9_canBe σ a1) := CT_of [(0, .ref (b + 134)), (1, .int a1)] (by decide +kernel) rfl (Nat.le_of_ble_eq_true rfl) rfl (fun E _ C D _ _ _ => vj_X9_canBe_0 C D σ a1 )
set_option maxRecDepth 4000 in
theorem vj_X9_go_40 {E : Ev} {b : Nat} (C : CX E RX9 cX9_go 5 3) (D : CR E (some .int))   {k4 : Hp → Int32 → Int32 → Int32 → Option (Int32 × Hp)} (hk4 : ∀ (σ : Hp) (x1 : Int32) (x2 : Int32) (x3 : Int32) , VJ rvI (QM E b) E b 5 σ 4 [(0, .ref (b + 134)), (1, .int x1), (2, .int x2), (3, .int x3)] [] (k4 σ x1 x2 x3)) (σ : Hp) (x1 : Int32) (x2 : Int32) (x3 : Int32)  : VJ rvI (QM E b) E b 5 σ 40 [(0, .ref (b + 134)), (1, .int x1), (2, .int x2), (3, .int x3)] [] (f_X9_go_40 k4 σ x1 x2 x3) := by
  unfold f_X9_go_40
  refine V_iinc (k := 3) (v := (1 : Int32)) (L' := fun v1 => [(3, .int v1), (0, .ref (b + 134)), (1, .int x1), (2, .int x2)]) C dX9_go_40 rfl (by decide) (by decide) (fun _ => rfl) (fun v1 => ?_)
  refine V_goto (tgt := 4) C dX9_go_43 (by decide) ?_
  exact V_sub [1, 2, 3, 0] rfl (hk4 σ x1 x2 v1)

set_option maxRecDepth 4000 in
theorem vj_X9_go_327 {E : Ev} {b : Nat} (C : CX E RX9 cX9_go 5 3) (D : CR E (some .int))   {k51 : Hp → Int32 → Int32 → Int32 → Int32 → Option (Int32 × Hp)} (hk51 : ∀ (σ : Hp) (x1 : Int32) (x2 : Int32) (x3 : Int32) (x4 : Int32) , VJ rvI (QM E b) E b 5 σ 51 [(0, .ref (b + 134)), (1, .int x1), (2, .int x2), (3, .int x3), (4, .int x4)] [] (k51 σ x1 x2 x3 x4)) (σ : Hp) (x1 : Int32) (x2 : Int32) (x4 : Int32) (s0 : Int32) (s1 : Int32)  : VJ rvI (QM E b) E b 5 σ 327 [(0, .ref (b + 134)), (1, .int x1), (2, .int x2), (4, .int x4)] [.int s0, .int s1] (f_X9_go_327 k51 σ x1 x2 x4 s0 s1) := by
  unfold f_X9_go_327
  refine V_ior C dX9_go_327 ?_
  refine V_ltI (fun v1 => ?_)
  refine V_istore_n (L' := [(3, .int v1), (0, .ref (b + 134)), (1, .int x1), (2, .int x2), (4, .int x4)]) C dX9_go_328 rfl (by decide) rfl ?_
  refine V_iinc (k := 4) (v := (1 : Int32)) (L' := fun v2 => [(4, .int v2), (3, .int v1), (0, .ref (b + 134)), (1, .int x1), (2, .int x2)]) C dX9_go_329 rfl (by decide) (by decide) (fun _ => rfl) (fun v2 => ?_)
  refine V_goto (tgt := 51) C dX9_go_332 (by decide) ?_
  exact V_sub [2, 3, 4, 1, 0] rfl (hk51 σ x1 x2 v1 v2)

set_option maxRecDepth 4000 in
theorem vj_X9_go_326 {E : Ev} {b : Nat} (C : CX E RX9 cX9_go 5 3) (D : CR E (some .int))   {k51 : Hp → Int32 → Int32 → Int32 → Int32 → Option (Int32 × Hp)} (hk51 : ∀ (σ : Hp) (x1 : Int32) (x2 : Int32) (x3 : Int32) (x4 : Int32) , VJ rvI (QM E b) E b 5 σ 51 [(0, .ref (b + 134)), (1, .int x1), (2, .int x2), (3, .int x3), (4, .int x4)] [] (k51 σ x1 x2 x3 x4)) (σ : Hp) (x1 : Int32) (x2 : Int32) (x4 : Int32) (s0 : Int32)  : VJ rvI (QM E b) E b 5 σ 326 [(0, .ref (b + 134)), (1, .int x1), (2, .int x2), (4, .int x4)] [.int s0] (f_X9_go_326 k51 σ x1 x2 x4 s0) := by
  unfold f_X9_go_326
  refine V_iconst (v := (0 : Int32)) C dX9_go_326 (by decide) ?_
  exact V_sub [0, 1, 2, 3] rfl (vj_X9_go_327 C D hk51 σ x1 x2 x4 (0 : Int32) s0)

set_option maxRecDepth 4000 in
theorem vj_X9_go_299 {E : Ev} {b : Nat} (C : CX E RX9 cX9_go 5 3) (D : CR E (some .int))   {k51 : Hp → Int32 → Int32 → Int32 → Int32 → Option (Int32 × Hp)} (hk51 : ∀ (σ : Hp) (x1 : Int32) (x2 : Int32) (x3 : Int32) (x4 : Int32) , VJ rvI (QM E b) E b 5 σ 51 [(0, .ref (b + 134)), (1, .int x1), (2, .int x2), (3, .int x3), (4, .int x4)] [] (k51 σ x1 x2 x3 x4)) (σ : Hp) (x1 : Int32) (x2 : Int32) (x3 : Int32) (x4 : Int32)  : VJ rvI (QM E b) E b 5 σ 299 [(0, .ref (b + 134)), (1, .int x1), (2, .int x2), (3, .int x3), (4, .int x4)] [] (f_X9_go_299 k51 σ x1 x2 x3 x4) := by
  unfold f_X9_go_299
  refine V_iload_n C dX9_go_299 rfl 3 rfl ?_
  refine V_iload_n C dX9_go_300 rfl 1 rfl ?_
  refine V_iload C dX9_go_301 4 rfl ?_
  refine cs_RX9_160 C (ct_X9_has _ _ _ _ _ σ x1 x4) (by decide) rfl rfl (Nat.le_of_ble_eq_true rfl) dX9_go_303 (fun r1 σ2 => ?_)
  refine V_if_ne (tgt := 326) C dX9_go_306 (by decide) ?_ ?_
  · exact V_sub [0, 1, 2, 4] rfl (vj_X9_go_326 C D hk51 σ2 x1 x2 x4 x3)
  · refine V_aload_n C dX9_go_309 rfl 0 rfl ?_
    refine gf_RX9_81 C (ln134) ly134 rfl dX9_go_310 ?_
    refine V_iload C dX9_go_313 4 rfl ?_
    refine V_zald C (ln157) ly157 dX9_go_315 ?_
    refine V_if_ne (tgt := 326) C dX9_go_316 (by decide) ?_ ?_
    · exact V_sub [0, 1, 2, 4] rfl (vj_X9_go_326 C D hk51 σ2 x1 x2 x4 x3)
    · refine V_iconst (v := (1 : Int32)) C dX9_go_319 (by decide) ?_
      refine V_iload C dX9_go_320 4 rfl ?_
      refine V_ishl C dX9_go_322 ?_
      refine V_goto (tgt := 327) C dX9_go_323 (by decide) ?_
      exact V_sub [0, 1, 2, 4] rfl (vj_X9_go_327 C D hk51 σ2 x1 x2 x4 ((1 : Int32) <<< (x4 &&& 31)) x3)

set_option maxRecDepth 4000 in
theorem vj_X9_go_157 {E : Ev} {b : Nat} (C : CX E RX9 cX9_go 5 3) (D : CR E (some .int))   {k51 : Hp → Int32 → Int32 → Int32 → Int32 → Option (Int32 × Hp)} (hk51 : ∀ (σ : Hp) (x1 : Int32) (x2 : Int32) (x3 : Int32) (x4 : Int32) , VJ rvI (QM E b) E b 5 σ 51 [(0, .ref (b + 134)), (1, .int x1), (2, .int x2), (3, .int x3), (4, .int x4)] [] (k51 σ x1 x2 x3 x4)) (σ : Hp) (x1 : Int32) (x2 : Int32) (x3 : Int32) (x4 : Int32) (s0 : Int32) (s1 : Int32)  : VJ rvI (QM E b) E b 5 σ 157 [(0, .ref (b + 134)), (1, .int x1), (2, .int x2), (3, .int x3), (4, .int x4)] [.int s0, .int s1, .ref (b + 154)] (f_X9_go_157 k51 σ x1 x2 x3 x4 s0 s1) := by
  unfold f_X9_go_157
  refine V_iast C (ln154) ly154 dX9_go_157 (fun σ1 => ?_)
  refine V_aload_n C dX9_go_158 rfl 0 rfl ?_
  refine gf_RX9_81 C (ln134) ly134 rfl dX9_go_159 ?_
  refine V_iload C dX9_go_162 4 rfl ?_
  refine V_iconst (v := (0 : Int32)) C dX9_go_164 (by decide) ?_
  refine V_zast C (ln157) ly157 dX9_go_165 (fun σ2 => ?_)
  refine V_goto (tgt := 299) C dX9_go_166 (by decide) ?_
  exact V_sub [0, 1, 2, 3, 4] rfl (vj_X9_go_299 C D hk51 σ2 x1 x2 x3 x4)

set_option maxRecDepth 4000 in
theorem vj_X9_go_236 {E : Ev} {b : Nat} (C : CX E RX9 cX9_go 5 3) (D : CR E (some .int))   {k51 : Hp → Int32 → Int32 → Int32 → Int32 → Option (Int32 × Hp)} (hk51 : ∀ (σ : Hp) (x1 : Int32) (x2 : Int32) (x3 : Int32) (x4 : Int32) , VJ rvI (QM E b) E b 5 σ 51 [(0, .ref (b + 134)), (1, .int x1), (2, .int x2), (3, .int x3), (4, .int x4)] [] (k51 σ x1 x2 x3 x4)) (σ : Hp) (x1 : Int32) (x2 : Int32) (x3 : Int32) (x4 : Int32) (s0 : Int32) (s1 : Int32)  : VJ rvI (QM E b) E b 5 σ 236 [(0, .ref (b + 134)), (1, .int x1), (2, .int x2), (3, .int x3), (4, .int x4)] [.int s0, .int s1, .ref (b + 157)] (f_X9_go_236 k51 σ x1 x2 x3 x4 s0 s1) := by
  unfold f_X9_go_236
  refine V_zast C (ln157) ly157 dX9_go_236 (fun σ1 => ?_)
  refine V_goto (tgt := 299) C dX9_go_237 (by decide) ?_
  exact V_sub [0, 1, 2, 3, 4] rfl (vj_X9_go_299 C D hk51 σ1 x1 x2 x3 x4)

set_option maxRecDepth 4000 in
theorem vj_X9_go_208 {E : Ev} {b : Nat} (C : CX E RX9 cX9_go 5 3) (D : CR E (some .int))   {k51 : Hp → Int32 → Int32 → Int32 → Int32 → Option (Int32 × Hp)} (hk51 : ∀ (σ : Hp) (x1 : Int32) (x2 : Int32) (x3 : Int32) (x4 : Int32) , VJ rvI (QM E b) E b 5 σ 51 [(0, .ref (b + 134)), (1, .int x1), (2, .int x2), (3, .int x3), (4, .int x4)] [] (k51 σ x1 x2 x3 x4)) (σ : Hp) (x1 : Int32) (x2 : Int32) (x3 : Int32) (x4 : Int32) (s0 : Int32) (s1 : Int32)  : VJ rvI (QM E b) E b 5 σ 208 [(0, .ref (b + 134)), (1, .int x1), (2, .int x2), (3, .int x3), (4, .int x4)] [.int s0, .int s1, .ref (b + 154)] (f_X9_go_208 k51 σ x1 x2 x3 x4 s0 s1) := by
  unfold f_X9_go_208
  refine V_iast C (ln154) ly154 dX9_go_208 (fun σ1 => ?_)
  refine V_aload_n C dX9_go_209 rfl 0 rfl ?_
  refine gf_RX9_81 C (ln134) ly134 rfl dX9_go_210 ?_
  refine V_iload C dX9_go_213 4 rfl ?_
  refine V_aload_n C dX9_go_215 rfl 0 rfl ?_
  refine gf_RX9_72 C (ln134) ly134 rfl dX9_go_216 ?_
  refine V_iload C dX9_go_219 4 rfl ?_
  refine V_iald C (ln154) ly154 dX9_go_221 ?_
  refine V_aload_n C dX9_go_222 rfl 0 rfl ?_
  refine gf_RX9_13 C (ln134) ly134 rfl dX9_go_223 ?_
  refine V_iconst (v := (4 : Int32)) C dX9_go_226 (by decide) ?_
  refine V_isub C dX9_go_227 ?_
  refine V_icmp_le (tgt := 235) C dX9_go_228 (by decide) ?_ ?_
  · refine V_iconst (v := (0 : Int32)) C dX9_go_235 (by decide) ?_
    exact V_sub [0, 1, 2, 3, 4] rfl (vj_X9_go_236 C D hk51 σ1 x1 x2 x3 x4 (0 : Int32) x4)
  · refine V_iconst (v := (1 : Int32)) C dX9_go_231 (by decide) ?_
    refine V_goto (tgt := 236) C dX9_go_232 (by decide) ?_
    exact V_sub [0, 1, 2, 3, 4] rfl (vj_X9_go_236 C D hk51 σ1 x1 x2 x3 x4 (1 : Int32) x4)

set_option maxRecDepth 4000 in
theorem vj_X9_go_298 {E : Ev} {b : Nat} (C : CX E RX9 cX9_go 5 3) (D : CR E (some .int))   {k51 : Hp → Int32 → Int32 → Int32 → Int32 → Option (Int32 × Hp)} (hk51 : ∀ (σ : Hp) (x1 : Int32) (x2 : Int32) (x3 : Int32) (x4 : Int32) , VJ rvI (QM E b) E b 5 σ 51 [(0, .ref (b + 134)), (1, .int x1), (2, .int x2), (3, .int x3), (4, .int x4)] [] (k51 σ x1 x2 x3 x4)) (σ : Hp) (x1 : Int32) (x2 : Int32) (x3 : Int32) (x4 : Int32) (s0 : Int32) (s1 : Int32)  : VJ rvI (QM E b) E b 5 σ 298 [(0, .ref (b + 134)), (1, .int x1), (2, .int x2), (3, .int x3), (4, .int x4)] [.int s0, .int s1, .ref (b + 157)] (f_X9_go_298 k51 σ x1 x2 x3 x4 s0 s1) := by
  unfold f_X9_go_298
  refine V_zast C (ln157) ly157 dX9_go_298 (fun σ1 => ?_)
  exact V_sub [0, 1, 2, 3, 4] rfl (vj_X9_go_299 C D hk51 σ1 x1 x2 x3 x4)

set_option maxRecDepth 4000 in
theorem vj_X9_go_272 {E : Ev} {b : Nat} (C : CX E RX9 cX9_go 5 3) (D : CR E (some .int))   {k51 : Hp → Int32 → Int32 → Int32 → Int32 → Option (Int32 × Hp)} (hk51 : ∀ (σ : Hp) (x1 : Int32) (x2 : Int32) (x3 : Int32) (x4 : Int32) , VJ rvI (QM E b) E b 5 σ 51 [(0, .ref (b + 134)), (1, .int x1), (2, .int x2), (3, .int x3), (4, .int x4)] [] (k51 σ x1 x2 x3 x4)) (σ : Hp) (x1 : Int32) (x2 : Int32) (x3 : Int32) (x4 : Int32) (s0 : Int32) (s1 : Int32)  : VJ rvI (QM E b) E b 5 σ 272 [(0, .ref (b + 134)), (1, .int x1), (2, .int x2), (3, .int x3), (4, .int x4)] [.int s0, .int s1, .ref (b + 154)] (f_X9_go_272 k51 σ x1 x2 x3 x4 s0 s1) := by
  unfold f_X9_go_272
  refine V_iast C (ln154) ly154 dX9_go_272 (fun σ1 => ?_)
  refine V_aload_n C dX9_go_273 rfl 0 rfl ?_
  refine gf_RX9_81 C (ln134) ly134 rfl dX9_go_274 ?_
  refine V_iload C dX9_go_277 4 rfl ?_
  refine V_aload_n C dX9_go_279 rfl 0 rfl ?_
  refine gf_RX9_72 C (ln134) ly134 rfl dX9_go_280 ?_
  refine V_iload C dX9_go_283 4 rfl ?_
  refine V_iald C (ln154) ly154 dX9_go_285 ?_
  refine V_aload_n C dX9_go_286 rfl 0 rfl ?_
  refine gf_RX9_13 C (ln134) ly134 rfl dX9_go_287 ?_
  refine V_icmp_lt (tgt := 297) C dX9_go_290 (by decide) ?_ ?_
  · refine V_iconst (v := (0 : Int32)) C dX9_go_297 (by decide) ?_
    exact V_sub [0, 1, 2, 3, 4] rfl (vj_X9_go_298 C D hk51 σ1 x1 x2 x3 x4 (0 : Int32) x4)
  · refine V_iconst (v := (1 : Int32)) C dX9_go_293 (by decide) ?_
    refine V_goto (tgt := 298) C dX9_go_294 (by decide) ?_
    exact V_sub [0, 1, 2, 3, 4] rfl (vj_X9_go_298 C D hk51 σ1 x1 x2 x3 x4 (1 : Int32) x4)

set_option maxRecDepth 4000 in
theorem vj_X9_go_116 {E : Ev} {b : Nat} (C : CX E RX9 cX9_go 5 3) (D : CR E (some .int))   {k51 : Hp → Int32 → Int32 → Int32 → Int32 → Option (Int32 × Hp)} (hk51 : ∀ (σ : Hp) (x1 : Int32) (x2 : Int32) (x3 : Int32) (x4 : Int32) , VJ rvI (QM E b) E b 5 σ 51 [(0, .ref (b + 134)), (1, .int x1), (2, .int x2), (3, .int x3), (4, .int x4)] [] (k51 σ x1 x2 x3 x4)) (σ : Hp) (x1 : Int32) (x2 : Int32) (x3 : Int32) (x4 : Int32) (s0 : Int32) (s1 : Int32) (s2 : Int32)  : VJ rvI (QM E b) E b 5 σ 116 [(0, .ref (b + 134)), (1, .int x1), (2, .int x2), (3, .int x3), (4, .int x4)] [.int s0, .int s1, .int s2, .ref (b + 156)] (f_X9_go_116 k51 σ x1 x2 x3 x4 s0 s1 s2) := by
  unfold f_X9_go_116
  refine V_iadd C dX9_go_116 ?_
  refine V_iast C (ln156) ly156 dX9_go_117 (fun σ1 => ?_)
  refine V_iload_n C dX9_go_118 rfl 1 rfl ?_
  refine V_iload C dX9_go_119 4 rfl ?_
  refine cs_RX9_160 C (ct_X9_has _ _ _ _ _ σ1 x1 x4) (by decide) rfl rfl (Nat.le_of_ble_eq_true rfl) dX9_go_121 (fun r2 σ3 => ?_)
  refine V_if_eq (tgt := 169) C dX9_go_124 (by decide) ?_ ?_
  · refine V_aload_n C dX9_go_169 rfl 0 rfl ?_
    refine gf_RX9_81 C (ln134) ly134 rfl dX9_go_170 ?_
    refine V_iload C dX9_go_173 4 rfl ?_
    refine V_zald C (ln157) ly157 dX9_go_175 ?_
    refine V_if_eq (tgt := 240) C dX9_go_176 (by decide) ?_ ?_
    · refine V_aload_n C dX9_go_240 rfl 0 rfl ?_
      refine gf_RX9_72 C (ln134) ly134 rfl dX9_go_241 ?_
      refine V_iload C dX9_go_244 4 rfl ?_
      refine V_aload_n C dX9_go_246 rfl 0 rfl ?_
      refine gf_RX9_72 C (ln134) ly134 rfl dX9_go_247 ?_
      refine V_iload C dX9_go_250 4 rfl ?_
      refine V_iald C (ln154) ly154 dX9_go_252 ?_
      refine V_bipush (v := (97 : Int32)) C dX9_go_253 (by decide) ?_
      refine V_icmp_le (tgt := 263) C dX9_go_255 (by decide) ?_ ?_
      · refine V_aload_n C dX9_go_263 rfl 0 rfl ?_
        refine gf_RX9_72 C (ln134) ly134 rfl dX9_go_264 ?_
        refine V_iload C dX9_go_267 4 rfl ?_
        refine V_iald C (ln154) ly154 dX9_go_269 ?_
        refine V_iconst (v := (2 : Int32)) C dX9_go_270 (by decide) ?_
        refine V_iadd C dX9_go_271 ?_
        exact V_sub [0, 1, 2, 3, 4] rfl (vj_X9_go_272 C D hk51 σ3 x1 x2 x3 x4 ((σ3 154 (ix x4)) + (2 : Int32)) x4)
      · refine V_bipush (v := (99 : Int32)) C dX9_go_258 (by decide) ?_
        refine V_goto (tgt := 272) C dX9_go_260 (by decide) ?_
        exact V_sub [0, 1, 2, 3, 4] rfl (vj_X9_go_272 C D hk51 σ3 x1 x2 x3 x4 (99 : Int32) x4)
    · refine V_aload_n C dX9_go_179 rfl 0 rfl ?_
      refine gf_RX9_72 C (ln134) ly134 rfl dX9_go_180 ?_
      refine V_iload C dX9_go_183 4 rfl ?_
      refine V_aload_n C dX9_go_185 rfl 0 rfl ?_
      refine gf_RX9_72 C (ln134) ly134 rfl dX9_go_186 ?_
      refine V_iload C dX9_go_189 4 rfl ?_
      refine V_iald C (ln154) ly154 dX9_go_191 ?_
      refine V_if_le (tgt := 207) C dX9_go_192 (by decide) ?_ ?_
      · refine V_iconst (v := (0 : Int32)) C dX9_go_207 (by decide) ?_
        exact V_sub [0, 1, 2, 3, 4] rfl (vj_X9_go_208 C D hk51 σ3 x1 x2 x3 x4 (0 : Int32) x4)
      · refine V_aload_n C dX9_go_195 rfl 0 rfl ?_
        refine gf_RX9_72 C (ln134) ly134 rfl dX9_go_196 ?_
        refine V_iload C dX9_go_199 4 rfl ?_
        refine V_iald C (ln154) ly154 dX9_go_201 ?_
        refine V_iconst (v := (1 : Int32)) C dX9_go_202 (by decide) ?_
        refine V_isub C dX9_go_203 ?_
        refine V_goto (tgt := 208) C dX9_go_204 (by decide) ?_
        exact V_sub [0, 1, 2, 3, 4] rfl (vj_X9_go_208 C D hk51 σ3 x1 x2 x3 x4 ((σ3 154 (ix x4)) - (1 : Int32)) x4)
  · refine V_aload_n C dX9_go_127 rfl 0 rfl ?_
    refine gf_RX9_72 C (ln134) ly134 rfl dX9_go_128 ?_
    refine V_iload C dX9_go_131 4 rfl ?_
    refine V_aload_n C dX9_go_133 rfl 0 rfl ?_
    refine gf_RX9_72 C (ln134) ly134 rfl dX9_go_134 ?_
    refine V_iload C dX9_go_137 4 rfl ?_
    refine V_iald C (ln154) ly154 dX9_go_139 ?_
    refine V_iconst (v := (4 : Int32)) C dX9_go_140 (by decide) ?_
    refine V_icmp_le (tgt := 156) C dX9_go_141 (by decide) ?_ ?_
    · refine V_iconst (v := (0 : Int32)) C dX9_go_156 (by decide) ?_
      exact V_sub [0, 1, 2, 3, 4] rfl (vj_X9_go_157 C D hk51 σ3 x1 x2 x3 x4 (0 : Int32) x4)
    · refine V_aload_n C dX9_go_144 rfl 0 rfl ?_
      refine gf_RX9_72 C (ln134) ly134 rfl dX9_go_145 ?_
      refine V_iload C dX9_go_148 4 rfl ?_
      refine V_iald C (ln154) ly154 dX9_go_150 ?_
      refine V_iconst (v := (4 : Int32)) C dX9_go_151 (by decide) ?_
      refine V_isub C dX9_go_152 ?_
      refine V_goto (tgt := 157) C dX9_go_153 (by decide) ?_
      exact V_sub [0, 1, 2, 3, 4] rfl (vj_X9_go_157 C D hk51 σ3 x1 x2 x3 x4 ((σ3 154 (ix x4)) - (4 : Int32)) x4)

set_option maxRecDepth 4000 in
theorem vj_X9_go_115 {E : Ev} {b : Nat} (C : CX E RX9 cX9_go 5 3) (D : CR E (some .int))   {k51 : Hp → Int32 → Int32 → Int32 → Int32 → Option (Int32 × Hp)} (hk51 : ∀ (σ : Hp) (x1 : Int32) (x2 : Int32) (x3 : Int32) (x4 : Int32) , VJ rvI (QM E b) E b 5 σ 51 [(0, .ref (b + 134)), (1, .int x1), (2, .int x2), (3, .int x3), (4, .int x4)] [] (k51 σ x1 x2 x3 x4)) (σ : Hp) (x1 : Int32) (x2 : Int32) (x3 : Int32) (x4 : Int32) (s0 : Int32) (s1 : Int32)  : VJ rvI (QM E b) E b 5 σ 115 [(0, .ref (b + 134)), (1, .int x1), (2, .int x2), (3, .int x3), (4, .int x4)] [.int s0, .int s1, .ref (b + 156)] (f_X9_go_115 k51 σ x1 x2 x3 x4 s0 s1) := by
  unfold f_X9_go_115
  refine V_iconst (v := (0 : Int32)) C dX9_go_115 (by decide) ?_
  exact V_sub [0, 1, 2, 3, 4] rfl (vj_X9_go_116 C D hk51 σ x1 x2 x3 x4 (0 : Int32) s0 s1)

set_option maxRecDepth 4000 in
theorem vj_X9_go_82 {E : Ev} {b : Nat} (C : CX E RX9 cX9_go 5 3) (D : CR E (some .int))   {k51 : Hp → Int32 → Int32 → Int32 → Int32 → Option (Int32 × Hp)} (hk51 : ∀ (σ : Hp) (x1 : Int32) (x2 : Int32) (x3 : Int32) (x4 : Int32) , VJ rvI (QM E b) E b 5 σ 51 [(0, .ref (b + 134)), (1, .int x1), (2, .int x2), (3, .int x3), (4, .int x4)] [] (k51 σ x1 x2 x3 x4)) (σ : Hp) (x1 : Int32) (x2 : Int32) (x3 : Int32) (x4 : Int32) (s0 : Int32) (s1 : Int32) (s2 : Int32)  : VJ rvI (QM E b) E b 5 σ 82 [(0, .ref (b + 134)), (1, .int x1), (2, .int x2), (3, .int x3), (4, .int x4)] [.int s0, .int s1, .int s2, .ref (b + 155)] (f_X9_go_82 k51 σ x1 x2 x3 x4 s0 s1 s2) := by
  unfold f_X9_go_82
  refine V_isub C dX9_go_82 ?_
  refine V_iast C (ln155) ly155 dX9_go_83 (fun σ1 => ?_)
  refine V_aload_n C dX9_go_84 rfl 0 rfl ?_
  refine gf_RX9_78 C (ln134) ly134 rfl dX9_go_85 ?_
  refine V_iload C dX9_go_88 4 rfl ?_
  refine V_dup2 C dX9_go_90 rfl rfl ?_
  refine V_iald C (ln156) ly156 dX9_go_91 ?_
  refine V_iload_n C dX9_go_92 rfl 1 rfl ?_
  refine V_iload C dX9_go_93 4 rfl ?_
  refine cs_RX9_160 C (ct_X9_has _ _ _ _ _ σ1 x1 x4) (by decide) rfl rfl (Nat.le_of_ble_eq_true rfl) dX9_go_95 (fun r2 σ3 => ?_)
  refine V_if_eq (tgt := 115) C dX9_go_98 (by decide) ?_ ?_
  · exact V_sub [0, 1, 2, 3, 4] rfl (vj_X9_go_115 C D hk51 σ3 x1 x2 x3 x4 (σ1 156 (ix x4)) x4)
  · refine V_aload_n C dX9_go_101 rfl 0 rfl ?_
    refine gf_RX9_30 C (ln134) ly134 rfl dX9_go_102 ?_
    refine V_iload C dX9_go_105 4 rfl ?_
    refine V_zald C (ln140) ly140 dX9_go_107 ?_
    refine V_if_eq (tgt := 115) C dX9_go_108 (by decide) ?_ ?_
    · exact V_sub [0, 1, 2, 3, 4] rfl (vj_X9_go_115 C D hk51 σ3 x1 x2 x3 x4 (σ1 156 (ix x4)) x4)
    · refine V_iconst (v := (1 : Int32)) C dX9_go_111 (by decide) ?_
      refine V_goto (tgt := 116) C dX9_go_112 (by decide) ?_
      exact V_sub [0, 1, 2, 3, 4] rfl (vj_X9_go_116 C D hk51 σ3 x1 x2 x3 x4 (1 : Int32) (σ1 156 (ix x4)) x4)

set_option maxRecDepth 4000 in
theorem vj_X9_go_51 {E : Ev} {b : Nat} (C : CX E RX9 cX9_go 5 3) (D : CR E (some .int))    : ∀ (n : Nat) (σ : Hp) (x1 : Int32) (x2 : Int32) (x3 : Int32) (x4 : Int32) , VJ rvI (QM E b) E b 5 σ 51 [(0, .ref (b + 134)), (1, .int x1), (2, .int x2), (3, .int x3), (4, .int x4)] [] (f_X9_go_51 n σ x1 x2 x3 x4)
  | 0, σ, x1, x2, x3, x4 => V_none
  | n + 1, σ, x1, x2, x3, x4 => by
    show VJ rvI (QM E b) E b 5 σ 51 [(0, .ref (b + 134)), (1, .int x1), (2, .int x2), (3, .int x3), (4, .int x4)] [] (if (σ 134 4) ≤ x4 then (
          some (x3, σ))
        else (
          ck x4 5 <|
          bd (f_X9_has σ x2 x4) fun r1 σ2 =>
          if r1 = 0 then (
            f_X9_go_82 (f_X9_go_51 n) σ2 x1 x2 x3 x4 (0 : Int32) (σ 155 (ix x4)) x4)
          else (
            f_X9_go_82 (f_X9_go_51 n) σ2 x1 x2 x3 x4 (1 : Int32) (σ 155 (ix x4)) x4)))
    have ih := vj_X9_go_51 (b := b) C D   n
    refine V_iload C dX9_go_51 4 rfl ?_
    refine V_aload_n C dX9_go_53 rfl 0 rfl ?_
    refine gf_RX9_90 C (ln134) ly134 rfl dX9_go_54 ?_
    refine V_icmp_ge (tgt := 335) C dX9_go_57 (by decide) ?_ ?_
    · refine V_iload_n C dX9_go_335 rfl 3 rfl ?_
      exact V_iret C D dX9_go_336
    · refine V_aload_n C dX9_go_60 rfl 0 rfl ?_
      refine gf_RX9_75 C (ln134) ly134 rfl dX9_go_61 ?_
      refine V_iload C dX9_go_64 4 rfl ?_
      refine V_dup2 C dX9_go_66 rfl rfl ?_
      refine V_iald C (ln155) ly155 dX9_go_67 ?_
      refine V_iload_n C dX9_go_68 rfl 2 rfl ?_
      refine V_iload C dX9_go_69 4 rfl ?_
      refine cs_RX9_160 C (ct_X9_has _ _ _ _ _ σ x2 x4) (by decide) rfl rfl (Nat.le_of_ble_eq_true rfl) dX9_go_71 (fun r1 σ2 => ?_)
      refine V_if_eq (tgt := 81) C dX9_go_74 (by decide) ?_ ?_
      · refine V_iconst (v := (0 : Int32)) C dX9_go_81 (by decide) ?_
        exact V_sub [0, 1, 2, 3, 4] rfl (vj_X9_go_82 C D ih σ2 x1 x2 x3 x4 (0 : Int32) (σ 155 (ix x4)) x4)
      · refine V_iconst (v := (1 : Int32)) C dX9_go_77 (by decide) ?_
        refine V_goto (tgt := 82) C dX9_go_78 (by decide) ?_
        exact V_sub [0, 1, 2, 3, 4] rfl (vj_X9_go_82 C D ih σ2 x1 x2 x3 x4 (1 : Int32) (σ 155 (ix x4)) x4)

set_option maxRecDepth 4000 in
theorem vj_X9_go_4 {E : Ev} {b : Nat} (C : CX E RX9 cX9_go 5 3) (D : CR E (some .int))    : ∀ (n : Nat) (σ : Hp) (x1 : Int32) (x2 : Int32) (x3 : Int32) , VJ rvI (QM E b) E b 5 σ 4 [(0, .ref (b + 134)), (1, .int x1), (2, .int x2), (3, .int x3)] [] (f_X9_go_4 n σ x1 x2 x3)
  | 0, σ, x1, x2, x3 => V_none
  | n + 1, σ, x1, x2, x3 => by
    show VJ rvI (QM E b) E b 5 σ 4 [(0, .ref (b + 134)), (1, .int x1), (2, .int x2), (3, .int x3)] [] (if (σ 134 4) ≤ x3 then (
          f_X9_go_51 FU σ x1 x2 (0 : Int32) (0 : Int32))
        else (
          bd (f_X9_has σ x1 x3) fun r1 σ2 =>
          if r1 = 0 then (
            f_X9_go_40 (f_X9_go_4 n) σ2 x1 x2 x3)
          else (
            ck x3 5 <|
            if (σ2 140 (ix x3)) = 0 then (
              bd (f_X9_giver σ2 x3 x1) fun r3 σ4 =>
              Lt (x2 ||| ((1 : Int32) <<< (r3 &&& 31))) fun v5 =>
              f_X9_go_40 (f_X9_go_4 n) σ4 x1 v5 x3)
            else (
              f_X9_go_40 (f_X9_go_4 n) σ2 x1 x2 x3))))
    have ih := vj_X9_go_4 (b := b) C D   n
    refine V_iload_n C dX9_go_4 rfl 3 rfl ?_
    refine V_aload_n C dX9_go_5 rfl 0 rfl ?_
    refine gf_RX9_90 C (ln134) ly134 rfl dX9_go_6 ?_
    refine V_icmp_ge (tgt := 46) C dX9_go_9 (by decide) ?_ ?_
    · refine V_iconst (v := (0 : Int32)) C dX9_go_46 (by decide) ?_
      refine V_istore_n (L' := [(3, .int (0 : Int32)), (0, .ref (b + 134)), (1, .int x1), (2, .int x2)]) C dX9_go_47 rfl (by decide) rfl ?_
      refine V_iconst (v := (0 : Int32)) C dX9_go_48 (by decide) ?_
      refine V_istore (L' := [(4, .int (0 : Int32)), (3, .int (0 : Int32)), (0, .ref (b + 134)), (1, .int x1), (2, .int x2)]) C dX9_go_49 (by decide) rfl ?_
      exact V_sub [2, 3, 4, 1, 0] rfl (vj_X9_go_51 C D FU σ x1 x2 (0 : Int32) (0 : Int32))
    · refine V_iload_n C dX9_go_12 rfl 1 rfl ?_
      refine V_iload_n C dX9_go_13 rfl 3 rfl ?_
      refine cs_RX9_160 C (ct_X9_has _ _ _ _ _ σ x1 x3) (by decide) rfl rfl (Nat.le_of_ble_eq_true rfl) dX9_go_14 (fun r1 σ2 => ?_)
      refine V_if_eq (tgt := 40) C dX9_go_17 (by decide) ?_ ?_
      · exact V_sub [0, 1, 2, 3] rfl (vj_X9_go_40 C D ih σ2 x1 x2 x3)
      · refine V_aload_n C dX9_go_20 rfl 0 rfl ?_
        refine gf_RX9_30 C (ln134) ly134 rfl dX9_go_21 ?_
        refine V_iload_n C dX9_go_24 rfl 3 rfl ?_
        refine V_zald C (ln140) ly140 dX9_go_25 ?_
        refine V_if_ne (tgt := 40) C dX9_go_26 (by decide) ?_ ?_
        · exact V_sub [0, 1, 2, 3] rfl (vj_X9_go_40 C D ih σ2 x1 x2 x3)
        · refine V_iload_n C dX9_go_29 rfl 2 rfl ?_
          refine V_iconst (v := (1 : Int32)) C dX9_go_30 (by decide) ?_
          refine V_aload_n C dX9_go_31 rfl 0 rfl ?_
          refine V_iload_n C dX9_go_32 rfl 3 rfl ?_
          refine V_iload_n C dX9_go_33 rfl 1 rfl ?_
          refine cv_RX9_164 C (ln134) ly134 (ct_X9_giver _ _ _ _ _ σ2 x3 x1) (by decide) rfl rfl (Nat.le_of_ble_eq_true rfl) dX9_go_34 (fun r3 σ4 => ?_)
          refine V_ishl C dX9_go_37 ?_
          refine V_ior C dX9_go_38 ?_
          refine V_ltI (fun v5 => ?_)
          refine V_istore_n (L' := [(2, .int v5), (0, .ref (b + 134)), (1, .int x1), (3, .int x3)]) C dX9_go_39 rfl (by decide) rfl ?_
          exact V_sub [1, 2, 0, 3] rfl (vj_X9_go_40 C D ih σ4 x1 v5 x3)

set_option maxRecDepth 4000 in
theorem vj_X9_go_0 {E : Ev} {b : Nat} (C : CX E RX9 cX9_go 5 3) (D : CR E (some .int))    (σ : Hp) (a1 : Int32)  : VJ rvI (QM E b) E b 5 σ 0 [(0, .ref (b + 134)), (1, .int a1)] [] (f_X9_go σ a1) := by
  unfold f_X9_go
  refine V_iconst (v := (0 : Int32)) C dX9_go_0 (by decide) ?_
  refine V_istore_n (L' := [(2, .int (0 : Int32)), (0, .ref (b + 134)), (1, .int a1)]) C dX9_go_1 rfl (by decide) rfl ?_
  refine V_iconst (v := (0 : Int32)) C dX9_go_2 (by decide) ?_
  refine V_istore_n (L' := [(3, .int (0 : Int32)), (2, .int (0 : Int32)), (0, .ref (b + 134)), (1, .int a1)]) C dX9_go_3 rfl (by decide) rfl ?_
  exact V_sub [2, 3, 1, 0] rfl (vj_X9_go_4 C D FU σ a1 (0 : Int32) (0 : Int32))

theorem ct_X9_go (l : Launch) (dC : Nat → ClassId) (dI : Nat → Nat → Nat) (cA : Nat → ClassId) (b : Nat) (σ : Hp) (a1 : Int32)  : CT l dC dI cA b yX9_go cX9_go 5 (some .int) 3 [.ref (b + 134), .int a1] σ rvI (f_X9_go σ a1) := CT_of [(0, .ref (b + 134)), (1, .int a1)] (by decide +kernel) rfl (Nat.le_of_ble_eq_true rfl) rfl (fun E _ C D _ _ _ => vj_X9_go_0 C D σ a1 )
