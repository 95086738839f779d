set_option maxRecDepth 4000 in
theorem vj_X4_watch_0 {E : Ev} {b : Nat} (C : CX E RX4 cX4_watch 3 1) (D : CR E none)    (σ : Hp) (o : Nat) (a1 : Int32) (ho : rollP o) : VJ rvV (QM E b) E b 3 σ 0 [(0, .ref (b + o)), (1, .int a1)] [] (f_X4_watch σ o a1) := by
  unfold f_X4_watch
  refine V_iconst (v := (1 : Int32)) C dX4_watch_0 (by decide) ?_
  refine V_iload_n C dX4_watch_1 rfl 1 rfl ?_
  refine V_ishl C dX4_watch_2 ?_
  refine V_ltI (fun v1 => ?_)
  refine V_istore_n (L' := [(2, .int v1), (0, .ref (b + o)), (1, .int a1)]) C dX4_watch_3 rfl (by decide) rfl ?_
  refine V_aload_n C dX4_watch_4 rfl 1 rfl ?_
  refine gf_RX4_34 C (rlN ho) (rl0 ho) rfl dX4_watch_5 ?_
  refine V_iload_n C dX4_watch_8 rfl 0 rfl ?_
  refine V_iand C dX4_watch_9 ?_
  refine V_if_eq (tgt := 64) C dX4_watch_10 (by decide) ?_ ?_
  · refine V_aload_n C dX4_watch_64 rfl 1 rfl ?_
    refine gf_RX4_9 C (rlN ho) (rl0 ho) rfl dX4_watch_65 ?_
    refine V_iload_n C dX4_watch_68 rfl 2 rfl ?_
    refine V_bipush (v := (99 : Int32)) C dX4_watch_69 (by decide) ?_
    refine V_aload_n C dX4_watch_71 rfl 1 rfl ?_
    refine gf_RX4_9 C (rlN ho) (rl0 ho) rfl dX4_watch_72 ?_
    refine V_iload_n C dX4_watch_75 rfl 2 rfl ?_
    refine V_iald C (rlN1 ho) (rl1 ho) dX4_watch_76 ?_
    refine V_iconst (v := (2 : Int32)) C dX4_watch_77 (by decide) ?_
    refine V_iadd C dX4_watch_78 ?_
    refine V_mmin C (by decide) wl_RX4_88 (Nat.le_of_ble_eq_true rfl) dX4_watch_79 ?_
    refine V_iast C (rlN1 ho) (rl1 ho) dX4_watch_82 (fun σ2 => ?_)
    refine V_aload_n C dX4_watch_83 rfl 1 rfl ?_
    refine gf_RX4_9 C (rlN ho) (rl0 ho) rfl dX4_watch_84 ?_
    refine V_iload_n C dX4_watch_87 rfl 2 rfl ?_
    refine V_iald C (rlN1 ho) (rl1 ho) dX4_watch_88 ?_
    refine V_aload_n C dX4_watch_89 rfl 1 rfl ?_
    refine gf_RX4_24 C (rlN ho) (rl0 ho) rfl dX4_watch_90 ?_
    refine gf_RX4_85 C (clN (chP ho)) (cl0 (chP ho)) rfl dX4_watch_93 ?_
    refine V_icmp_lt (tgt := 109) C dX4_watch_96 (by decide) ?_ ?_
    · exact V_vret C D dX4_watch_109
    · refine V_aload_n C dX4_watch_99 rfl 1 rfl ?_
      refine V_dup C dX4_watch_100 rfl ?_
      refine gf_RX4_34 C (rlN ho) (rl0 ho) rfl dX4_watch_101 ?_
      refine V_iload_n C dX4_watch_104 rfl 0 rfl ?_
      refine V_ior C dX4_watch_105 ?_
      refine pf_RX4_34 C (rlN ho) (rl0 ho) rfl dX4_watch_106 (fun σ3 => ?_)
      exact V_vret C D dX4_watch_109
  · refine V_aload_n C dX4_watch_13 rfl 1 rfl ?_
    refine gf_RX4_9 C (rlN ho) (rl0 ho) rfl dX4_watch_14 ?_
    refine V_iload_n C dX4_watch_17 rfl 2 rfl ?_
    refine V_iconst (v := (0 : Int32)) C dX4_watch_18 (by decide) ?_
    refine V_aload_n C dX4_watch_19 rfl 1 rfl ?_
    refine gf_RX4_9 C (rlN ho) (rl0 ho) rfl dX4_watch_20 ?_
    refine V_iload_n C dX4_watch_23 rfl 2 rfl ?_
    refine V_iald C (rlN1 ho) (rl1 ho) dX4_watch_24 ?_
    refine V_iconst (v := (1 : Int32)) C dX4_watch_25 (by decide) ?_
    refine V_isub C dX4_watch_26 ?_
    refine V_mmax C (by decide) wl_RX4_52 (Nat.le_of_ble_eq_true rfl) dX4_watch_27 ?_
    refine V_iast C (rlN1 ho) (rl1 ho) dX4_watch_30 (fun σ4 => ?_)
    refine V_aload_n C dX4_watch_31 rfl 1 rfl ?_
    refine gf_RX4_9 C (rlN ho) (rl0 ho) rfl dX4_watch_32 ?_
    refine V_iload_n C dX4_watch_35 rfl 2 rfl ?_
    refine V_iald C (rlN1 ho) (rl1 ho) dX4_watch_36 ?_
    refine V_aload_n C dX4_watch_37 rfl 1 rfl ?_
    refine gf_RX4_24 C (rlN ho) (rl0 ho) rfl dX4_watch_38 ?_
    refine gf_RX4_85 C (clN (chP ho)) (cl0 (chP ho)) rfl dX4_watch_41 ?_
    refine V_iconst (v := (4 : Int32)) C dX4_watch_44 (by decide) ?_
    refine V_isub C dX4_watch_45 ?_
    refine V_icmp_gt (tgt := 109) C dX4_watch_46 (by decide) ?_ ?_
    · exact V_vret C D dX4_watch_109
    · refine V_aload_n C dX4_watch_49 rfl 1 rfl ?_
      refine V_dup C dX4_watch_50 rfl ?_
      refine gf_RX4_34 C (rlN ho) (rl0 ho) rfl dX4_watch_51 ?_
      refine V_iload_n C dX4_watch_54 rfl 0 rfl ?_
      refine V_iconst (v := (-1 : Int32)) C dX4_watch_55 (by decide) ?_
      refine V_ixor C dX4_watch_56 ?_
      refine V_iand C dX4_watch_57 ?_
      refine pf_RX4_34 C (rlN ho) (rl0 ho) rfl dX4_watch_58 (fun σ5 => ?_)
      refine V_goto (tgt := 109) C dX4_watch_61 (by decide) ?_
      exact V_vret C D dX4_watch_109

theorem ct_X4_watch (l : Launch) (dC : Nat → ClassId) (dI : Nat → Nat → Nat) (cA : Nat → ClassId) (b : Nat) (σ : Hp) (o : Nat) (a1 : Int32) (ho : rollP o) : CT l dC dI cA b yX4_watch cX4_watch 3 none 1 [.ref (b + o), .int a1] σ rvV (f_X4_watch σ o a1) := CT_of [(0, .ref (b + o)), (1, .int a1)] (by decide +kernel) rfl (Nat.le_of_ble_eq_true rfl) rfl (fun E _ C D _ _ _ => vj_X4_watch_0 C D σ o a1 ho)
set_option maxRecDepth 4000 in
theorem vj_X4_rest_40 {E : Ev} {b : Nat} (C : CX E RX4 cX4_rest 4 1) (D : CR E none) (o : Nat) (ho : rollP o)  (σ : Hp) (x1 : Int32) (x3 : Int32)  : VJ rvV (QM E b) E b 4 σ 40 [(0, .ref (b + o)), (1, .int x1), (3, .int x3)] [] (f_X4_rest_40 o σ x1 x3) := by
  unfold f_X4_rest_40
  refine V_aload_n C dX4_rest_40 rfl 0 rfl ?_
  refine gf_RX4_9 C (rlN ho) (rl0 ho) rfl dX4_rest_41 ?_
  refine V_iload_n C dX4_rest_44 rfl 1 rfl ?_
  refine V_iconst (v := (0 : Int32)) C dX4_rest_45 (by decide) ?_
  refine V_aload_n C dX4_rest_46 rfl 0 rfl ?_
  refine gf_RX4_9 C (rlN ho) (rl0 ho) rfl dX4_rest_47 ?_
  refine V_iload_n C dX4_rest_50 rfl 1 rfl ?_
  refine V_iald C (rlN1 ho) (rl1 ho) dX4_rest_51 ?_
  refine V_iconst (v := (4 : Int32)) C dX4_rest_52 (by decide) ?_
  refine V_isub C dX4_rest_53 ?_
  refine V_mmax C (by decide) wl_RX4_52 (Nat.le_of_ble_eq_true rfl) dX4_rest_54 ?_
  refine V_iast C (rlN1 ho) (rl1 ho) dX4_rest_57 (fun σ1 => ?_)
  refine V_aload_n C dX4_rest_58 rfl 0 rfl ?_
  refine V_dup C dX4_rest_59 rfl ?_
  refine gf_RX4_34 C (rlN ho) (rl0 ho) rfl dX4_rest_60 ?_
  refine V_iload_n C dX4_rest_63 rfl 2 rfl ?_
  refine V_iconst (v := (-1 : Int32)) C dX4_rest_64 (by decide) ?_
  refine V_ixor C dX4_rest_65 ?_
  refine V_iand C dX4_rest_66 ?_
  refine pf_RX4_34 C (rlN ho) (rl0 ho) rfl dX4_rest_67 (fun σ2 => ?_)
  refine V_aload_n C dX4_rest_70 rfl 0 rfl ?_
  refine gf_RX4_21 C (rlN ho) (rl0 ho) rfl dX4_rest_71 ?_
  refine V_iload_n C dX4_rest_74 rfl 1 rfl ?_
  refine V_dup2 C dX4_rest_75 rfl rfl ?_
  refine V_iald C (rlN4 ho) (rl4 ho) dX4_rest_76 ?_
  refine V_iconst (v := (1 : Int32)) C dX4_rest_77 (by decide) ?_
  refine V_iadd C dX4_rest_78 ?_
  refine V_iast C (rlN4 ho) (rl4 ho) dX4_rest_79 (fun σ3 => ?_)
  exact V_vret C D dX4_rest_80

set_option maxRecDepth 4000 in
theorem vj_X4_rest_0 {E : Ev} {b : Nat} (C : CX E RX4 cX4_rest 4 1) (D : CR E none)    (σ : Hp) (o : Nat) (a1 : Int32) (a2 : Int32) (ho : rollP o) : VJ rvV (QM E b) E b 4 σ 0 [(0, .ref (b + o)), (1, .int a1), (2, .int a2)] [] (f_X4_rest σ o a1 a2) := by
  unfold f_X4_rest
  refine V_iconst (v := (1 : Int32)) C dX4_rest_0 (by decide) ?_
  refine V_iload_n C dX4_rest_1 rfl 1 rfl ?_
  refine V_ishl C dX4_rest_2 ?_
  refine V_ltI (fun v1 => ?_)
  refine V_istore_n (L' := [(3, .int v1), (0, .ref (b + o)), (1, .int a1), (2, .int a2)]) C dX4_rest_3 rfl (by decide) rfl ?_
  refine V_aload_n C dX4_rest_4 rfl 1 rfl ?_
  refine gf_RX4_38 C (rlN ho) (rl0 ho) rfl dX4_rest_5 ?_
  refine V_iload_n C dX4_rest_8 rfl 0 rfl ?_
  refine V_iand C dX4_rest_9 ?_
  refine V_if_eq (tgt := 26) C dX4_rest_10 (by decide) ?_ ?_
  · refine V_iload_n C dX4_rest_26 rfl 3 rfl ?_
    refine V_if_eq (tgt := 40) C dX4_rest_27 (by decide) ?_ ?_
    · exact V_sub [1, 2, 0] rfl (vj_X4_rest_40 C D o ho σ a1 v1)
    · refine V_aload_n C dX4_rest_30 rfl 1 rfl ?_
      refine gf_RX4_15 C (rlN ho) (rl0 ho) rfl dX4_rest_31 ?_
      refine V_iload_n C dX4_rest_34 rfl 2 rfl ?_
      refine V_dup2 C dX4_rest_35 rfl rfl ?_
      refine V_iald C (rlN2 ho) (rl2 ho) dX4_rest_36 ?_
      refine V_iconst (v := (1 : Int32)) C dX4_rest_37 (by decide) ?_
      refine V_isub C dX4_rest_38 ?_
      refine V_iast C (rlN2 ho) (rl2 ho) dX4_rest_39 (fun σ2 => ?_)
      exact V_sub [1, 2, 0] rfl (vj_X4_rest_40 C D o ho σ2 a1 v1)
  · refine V_aload_n C dX4_rest_13 rfl 1 rfl ?_
    refine gf_RX4_18 C (rlN ho) (rl0 ho) rfl dX4_rest_14 ?_
    refine V_iload_n C dX4_rest_17 rfl 2 rfl ?_
    refine V_dup2 C dX4_rest_18 rfl rfl ?_
    refine V_iald C (rlN3 ho) (rl3 ho) dX4_rest_19 ?_
    refine V_iconst (v := (1 : Int32)) C dX4_rest_20 (by decide) ?_
    refine V_iadd C dX4_rest_21 ?_
    refine V_iast C (rlN3 ho) (rl3 ho) dX4_rest_22 (fun σ3 => ?_)
    refine V_goto (tgt := 40) C dX4_rest_23 (by decide) ?_
    exact V_sub [1, 2, 0] rfl (vj_X4_rest_40 C D o ho σ3 a1 v1)

theorem ct_X4_rest (l : Launch) (dC : Nat → ClassId) (dI : Nat → Nat → Nat) (cA : Nat → ClassId) (b : Nat) (σ : Hp) (o : Nat) (a1 : Int32) (a2 : Int32) (ho : rollP o) : CT l dC dI cA b yX4_rest cX4_rest 4 none 1 [.ref (b + o), .int a1, .int a2] σ rvV (f_X4_rest σ o a1 a2) := CT_of [(0, .ref (b + o)), (1, .int a1), (2, .int a2)] (by decide +kernel) rfl (Nat.le_of_ble_eq_true rfl) rfl (fun E _ C D _ _ _ => vj_X4_rest_0 C D σ o a1 a2 ho)
set_option maxRecDepth 4000 in
theorem vj_X4_pass_56 {E : Ev} {b : Nat} (C : CX E RX4 cX4_pass 5 2) (D : CR E (some .int)) (o : Nat) (ho : rollP o) {k8 : Hp → Int32 → Int32 → Int32 → Option (Int32 × Hp)} (hk8 : ∀ (σ : Hp) (x1 : Int32) (x2 : Int32) (x3 : Int32) , VJ rvI (QM E b) E b 5 σ 8 [(0, .ref (b + o)), (1, .int x1), (2, .int x2), (3, .int x3)] [] (k8 σ x1 x2 x3)) (σ : Hp) (x1 : Int32) (x2 : Int32) (x3 : Int32)  : VJ rvI (QM E b) E b 5 σ 56 [(0, .ref (b + o)), (1, .int x1), (2, .int x2), (3, .int x3)] [] (f_X4_pass_56 k8 o σ x1 x2 x3) := by
  unfold f_X4_pass_56
  refine V_iinc (k := 3) (v := (1 : Int32)) (L' := fun v1 => [(3, .int v1), (0, .ref (b + o)), (1, .int x1), (2, .int x2)]) C dX4_pass_56 rfl (by decide) (by decide) (fun _ => rfl) (fun v1 => ?_)
  refine V_goto (tgt := 8) C dX4_pass_59 (by decide) ?_
  exact V_sub [1, 2, 3, 0] rfl (hk8 σ x1 x2 v1)

set_option maxRecDepth 4000 in
theorem vj_X4_pass_53 {E : Ev} {b : Nat} (C : CX E RX4 cX4_pass 5 2) (D : CR E (some .int)) (o : Nat) (ho : rollP o) {k8 : Hp → Int32 → Int32 → Int32 → Option (Int32 × Hp)} (hk8 : ∀ (σ : Hp) (x1 : Int32) (x2 : Int32) (x3 : Int32) , VJ rvI (QM E b) E b 5 σ 8 [(0, .ref (b + o)), (1, .int x1), (2, .int x2), (3, .int x3)] [] (k8 σ x1 x2 x3)) (σ : Hp) (x1 : Int32) (x2 : Int32) (x3 : Int32) (s0 : Int32) (s1 : Int32)  : VJ rvI (QM E b) E b 5 σ 53 [(0, .ref (b + o)), (1, .int x1), (2, .int x2), (3, .int x3)] [.int s0, .int s1, .ref (b + o)] (f_X4_pass_53 k8 o σ x1 x2 x3 s0 s1) := by
  unfold f_X4_pass_53
  refine cv_RX4_77 C (rlN ho) (rl0 ho) (ct_X4_rest _ _ _ _ _ σ o s1 s0 ho) (by decide) rfl rfl (Nat.le_of_ble_eq_true rfl) dX4_pass_53 (fun r1 σ2 => ?_)
  exact V_sub [0, 1, 2, 3] rfl (vj_X4_pass_56 C D o ho hk8 σ2 x1 x2 x3)

set_option maxRecDepth 4000 in
theorem vj_X4_pass_8 {E : Ev} {b : Nat} (C : CX E RX4 cX4_pass 5 2) (D : CR E (some .int)) (o : Nat) (ho : rollP o)  : ∀ (n : Nat) (σ : Hp) (x1 : Int32) (x2 : Int32) (x3 : Int32) , VJ rvI (QM E b) E b 5 σ 8 [(0, .ref (b + o)), (1, .int x1), (2, .int x2), (3, .int x3)] [] (f_X4_pass_8 o n σ x1 x2 x3)
  | 0, σ, x1, x2, x3 => V_none
  | n + 1, σ, x1, x2, x3 => by
    show VJ rvI (QM E b) E b 5 σ 8 [(0, .ref (b + o)), (1, .int x1), (2, .int x2), (3, .int x3)] [] (if (σ (chO o) 1) ≤ x3 then (
          bd (f_X2_everyone σ (chO o)) fun r1 σ2 =>
          Lt ((r1 &&& (x1 ^^^ (-1 : Int32))) &&& ((σ2 o 5) ^^^ (-1 : Int32))) fun v3 =>
          Lt (wr σ2 o 7 ((σ2 o 7) + (1 : Int32))) fun σ4 =>
          if v3 = 0 then (
            Lt (wr σ4 o 8 ((σ4 o 8) + (1 : Int32))) fun σ5 =>
            some (v3, σ5))
          else (
            some (v3, σ4)))
        else (
          Lt ((1 : Int32) <<< (x3 &&& 31)) fun v6 =>
          if (x1 &&& v6) = 0 then (
            bd (f_X4_watch σ o x3) fun r7 σ8 =>
            f_X4_pass_56 (f_X4_pass_8 o n) o σ8 x1 x2 x3)
          else (
            if (x2 &&& v6) = 0 then (
              f_X4_pass_53 (f_X4_pass_8 o n) o σ x1 x2 x3 (0 : Int32) x3)
            else (
              f_X4_pass_53 (f_X4_pass_8 o n) o σ x1 x2 x3 (1 : Int32) x3))))
    have ih := vj_X4_pass_8 (b := b) C D o ho  n
    refine V_iload_n C dX4_pass_8 rfl 3 rfl ?_
    refine V_aload_n C dX4_pass_9 rfl 0 rfl ?_
    refine gf_RX4_24 C (rlN ho) (rl0 ho) rfl dX4_pass_10 ?_
    refine gf_RX4_47 C (clN (chP ho)) (cl0 (chP ho)) rfl dX4_pass_13 ?_
    refine V_icmp_ge (tgt := 62) C dX4_pass_16 (by decide) ?_ ?_
    · refine V_aload_n C dX4_pass_62 rfl 0 rfl ?_
      refine gf_RX4_24 C (rlN ho) (rl0 ho) rfl dX4_pass_63 ?_
      refine cv_RX4_81 C (clN (chP ho)) (cl0 (chP ho)) (ct_X2_everyone _ _ _ _ _ σ (chO o) (chP ho)) (by decide) rfl rfl (Nat.le_of_ble_eq_true rfl) dX4_pass_66 (fun r1 σ2 => ?_)
      refine V_iload_n C dX4_pass_69 rfl 1 rfl ?_
      refine V_iconst (v := (-1 : Int32)) C dX4_pass_70 (by decide) ?_
      refine V_ixor C dX4_pass_71 ?_
      refine V_iand C dX4_pass_72 ?_
      refine V_aload_n C dX4_pass_73 rfl 0 rfl ?_
      refine gf_RX4_34 C (rlN ho) (rl0 ho) rfl dX4_pass_74 ?_
      refine V_iconst (v := (-1 : Int32)) C dX4_pass_77 (by decide) ?_
      refine V_ixor C dX4_pass_78 ?_
      refine V_iand C dX4_pass_79 ?_
      refine V_ltI (fun v3 => ?_)
      refine V_istore_n (L' := [(3, .int v3), (0, .ref (b + o)), (1, .int x1), (2, .int x2)]) C dX4_pass_80 rfl (by decide) rfl ?_
      refine V_aload_n C dX4_pass_81 rfl 1 rfl ?_
      refine V_dup C dX4_pass_82 rfl ?_
      refine gf_RX4_41 C (rlN ho) (rl0 ho) rfl dX4_pass_83 ?_
      refine V_iconst (v := (1 : Int32)) C dX4_pass_86 (by decide) ?_
      refine V_iadd C dX4_pass_87 ?_
      refine pf_RX4_41 C (rlN ho) (rl0 ho) rfl dX4_pass_88 (fun σ4 => ?_)
      refine V_iload_n C dX4_pass_91 rfl 0 rfl ?_
      refine V_if_ne (tgt := 105) C dX4_pass_92 (by decide) ?_ ?_
      · refine V_iload_n C dX4_pass_105 rfl 0 rfl ?_
        exact V_iret C D dX4_pass_106
      · refine V_aload_n C dX4_pass_95 rfl 1 rfl ?_
        refine V_dup C dX4_pass_96 rfl ?_
        refine gf_RX4_44 C (rlN ho) (rl0 ho) rfl dX4_pass_97 ?_
        refine V_iconst (v := (1 : Int32)) C dX4_pass_100 (by decide) ?_
        refine V_iadd C dX4_pass_101 ?_
        refine pf_RX4_44 C (rlN ho) (rl0 ho) rfl dX4_pass_102 (fun σ5 => ?_)
        refine V_iload_n C dX4_pass_105 rfl 0 rfl ?_
        exact V_iret C D dX4_pass_106
    · refine V_iconst (v := (1 : Int32)) C dX4_pass_19 (by decide) ?_
      refine V_iload_n C dX4_pass_20 rfl 3 rfl ?_
      refine V_ishl C dX4_pass_21 ?_
      refine V_ltI (fun v6 => ?_)
      refine V_istore (L' := [(4, .int v6), (0, .ref (b + o)), (1, .int x1), (2, .int x2), (3, .int x3)]) C dX4_pass_22 (by decide) rfl ?_
      refine V_iload_n C dX4_pass_24 rfl 2 rfl ?_
      refine V_iload C dX4_pass_25 0 rfl ?_
      refine V_iand C dX4_pass_27 ?_
      refine V_if_ne (tgt := 39) C dX4_pass_28 (by decide) ?_ ?_
      · refine V_aload_n C dX4_pass_39 rfl 1 rfl ?_
        refine V_iload_n C dX4_pass_40 rfl 4 rfl ?_
        refine V_iload_n C dX4_pass_41 rfl 3 rfl ?_
        refine V_iload C dX4_pass_42 0 rfl ?_
        refine V_iand C dX4_pass_44 ?_
        refine V_if_eq (tgt := 52) C dX4_pass_45 (by decide) ?_ ?_
        · refine V_iconst (v := (0 : Int32)) C dX4_pass_52 (by decide) ?_
          exact V_sub [1, 2, 3, 4] rfl (vj_X4_pass_53 C D o ho ih σ x1 x2 x3 (0 : Int32) x3)
        · refine V_iconst (v := (1 : Int32)) C dX4_pass_48 (by decide) ?_
          refine V_goto (tgt := 53) C dX4_pass_49 (by decide) ?_
          exact V_sub [1, 2, 3, 4] rfl (vj_X4_pass_53 C D o ho ih σ x1 x2 x3 (1 : Int32) x3)
      · refine V_aload_n C dX4_pass_31 rfl 1 rfl ?_
        refine V_iload_n C dX4_pass_32 rfl 4 rfl ?_
        refine cv_RX4_73 C (rlN ho) (rl0 ho) (ct_X4_watch _ _ _ _ _ σ o x3 ho) (by decide) rfl rfl (Nat.le_of_ble_eq_true rfl) dX4_pass_33 (fun r7 σ8 => ?_)
        refine V_goto (tgt := 56) C dX4_pass_36 (by decide) ?_
        exact V_sub [1, 2, 3, 4] rfl (vj_X4_pass_56 C D o ho ih σ8 x1 x2 x3)

set_option maxRecDepth 4000 in
theorem vj_X4_pass_0 {E : Ev} {b : Nat} (C : CX E RX4 cX4_pass 5 2) (D : CR E (some .int))    (σ : Hp) (o : Nat) (a1 : Int32) (ho : rollP o) : VJ rvI (QM E b) E b 5 σ 0 [(0, .ref (b + o)), (1, .int a1)] [] (f_X4_pass σ o a1) := by
  unfold f_X4_pass
  refine V_aload_n C dX4_pass_0 rfl 0 rfl ?_
  refine V_iload_n C dX4_pass_1 rfl 1 rfl ?_
  refine cv_RX4_67 C (rlN ho) (rl0 ho) (ct_X4_giversOf _ _ _ _ _ σ o a1 ho) (by decide) rfl rfl (Nat.le_of_ble_eq_true rfl) dX4_pass_2 (fun r1 σ2 => ?_)
  refine V_istore_n (L' := [(2, .int r1), (0, .ref (b + o)), (1, .int a1)]) C dX4_pass_5 rfl (by decide) rfl ?_
  refine V_iconst (v := (0 : Int32)) C dX4_pass_6 (by decide) ?_
  refine V_istore_n (L' := [(3, .int (0 : Int32)), (2, .int r1), (0, .ref (b + o)), (1, .int a1)]) C dX4_pass_7 rfl (by decide) rfl ?_
  exact V_sub [2, 3, 1, 0] rfl (vj_X4_pass_8 C D o ho FU σ2 a1 r1 (0 : Int32))

theorem ct_X4_pass (l : Launch) (dC : Nat → ClassId) (dI : Nat → Nat → Nat) (cA : Nat → ClassId) (b : Nat) (σ : Hp) (o : Nat) (a1 : Int32) (ho : rollP o) : CT l dC dI cA b yX4_pass cX4_pass 5 (some .int) 2 [.ref (b + o), .int a1] σ rvI (f_X4_pass σ o a1) := CT_of [(0, .ref (b + o)), (1, .int a1)] (by decide +kernel) rfl (Nat.le_of_ble_eq_true rfl) rfl (fun E _ C D _ _ _ => vj_X4_pass_0 C D σ o a1 ho)
set_option maxRecDepth 4000 in
theorem vj_X4_wakeAll_43 {E : Ev} {b : Nat} (C : CX E RX4 cX4_wakeAll 2 2) (D : CR E (some .int)) (o : Nat) (ho : rollP o) {k2 : Hp → Int32 → Option (Int32 × Hp)} (hk2 : ∀ (σ : Hp) (x1 : Int32) , VJ rvI (QM E b) E b 2 σ 2 [(0, .ref (b + o)), (1, .int x1)] [] (k2 σ x1)) (σ : Hp) (x1 : Int32)  : VJ rvI (QM E b) E b 2 σ 43 [(0, .ref (b + o)), (1, .int x1)] [] (f_X4_wakeAll_43 k2 o σ x1) := by
  unfold f_X4_wakeAll_43
  refine V_iinc (k := 1) (v := (1 : Int32)) (L' := fun v1 => [(1, .int v1), (0, .ref (b + o))]) C dX4_wakeAll_43 rfl (by decide) (by decide) (fun _ => rfl) (fun v1 => ?_)
  refine V_goto (tgt := 2) C dX4_wakeAll_46 (by decide) ?_
  exact V_sub [1, 0] rfl (hk2 σ v1)

set_option maxRecDepth 4000 in
theorem vj_X4_wakeAll_2 {E : Ev} {b : Nat} (C : CX E RX4 cX4_wakeAll 2 2) (D : CR E (some .int)) (o : Nat) (ho : rollP o)  : ∀ (n : Nat) (σ : Hp) (x1 : Int32) , VJ rvI (QM E b) E b 2 σ 2 [(0, .ref (b + o)), (1, .int x1)] [] (f_X4_wakeAll_2 o n σ x1)
  | 0, σ, x1 => V_none
  | n + 1, σ, x1 => by
    show VJ rvI (QM E b) E b 2 σ 2 [(0, .ref (b + o)), (1, .int x1)] [] (if (σ (chO o) 1) ≤ x1 then (
          bd (f_J6_bitCount_0f7a4 σ (σ o 5)) fun r1 σ2 =>
          Lt (wr σ2 o 5 (0 : Int32)) fun σ3 =>
          some (r1, σ3))
        else (
          if (((σ o 5) >>> (x1 &&& 31)) &&& (1 : Int32)) = 0 then (
            f_X4_wakeAll_43 (f_X4_wakeAll_2 o n) o σ x1)
          else (
            ck x1 5 <|
            ck x1 5 <|
            Lt (wr σ (o + 1) (ix x1) (if ((σ (o + 1) (ix x1)) + (3 : Int32)) < (99 : Int32) then ((σ (o + 1) (ix x1)) + (3 : Int32)) else (99 : Int32))) fun σ4 =>
            f_X4_wakeAll_43 (f_X4_wakeAll_2 o n) o σ4 x1)))
    have ih := vj_X4_wakeAll_2 (b := b) C D o ho  n
    refine V_iload_n C dX4_wakeAll_2 rfl 1 rfl ?_
    refine V_aload_n C dX4_wakeAll_3 rfl 0 rfl ?_
    refine gf_RX4_24 C (rlN ho) (rl0 ho) rfl dX4_wakeAll_4 ?_
    refine gf_RX4_47 C (clN (chP ho)) (cl0 (chP ho)) rfl dX4_wakeAll_7 ?_
    refine V_icmp_ge (tgt := 49) C dX4_wakeAll_10 (by decide) ?_ ?_
    · refine V_aload_n C dX4_wakeAll_49 rfl 0 rfl ?_
      refine gf_RX4_34 C (rlN ho) (rl0 ho) rfl dX4_wakeAll_50 ?_
      refine cs_RX4_58 C (ct_J6_bitCount_0f7a4 _ _ _ _ _ σ (σ o 5)) (by decide) rfl rfl (Nat.le_of_ble_eq_true rfl) dX4_wakeAll_53 (fun r1 σ2 => ?_)
      refine V_istore_n (L' := [(1, .int r1), (0, .ref (b + o))]) C dX4_wakeAll_56 rfl (by decide) rfl ?_
      refine V_aload_n C dX4_wakeAll_57 rfl 1 rfl ?_
      refine V_iconst (v := (0 : Int32)) C dX4_wakeAll_58 (by decide) ?_
      refine pf_RX4_34 C (rlN ho) (rl0 ho) rfl dX4_wakeAll_59 (fun σ3 => ?_)
      refine V_iload_n C dX4_wakeAll_62 rfl 0 rfl ?_
      exact V_iret C D dX4_wakeAll_63
    · refine V_aload_n C dX4_wakeAll_13 rfl 0 rfl ?_
      refine gf_RX4_34 C (rlN ho) (rl0 ho) rfl dX4_wakeAll_14 ?_
      refine V_iload_n C dX4_wakeAll_17 rfl 1 rfl ?_
      refine V_ishr C dX4_wakeAll_18 ?_
      refine V_iconst (v := (1 : Int32)) C dX4_wakeAll_19 (by decide) ?_
      refine V_iand C dX4_wakeAll_20 ?_
      refine V_if_eq (tgt := 43) C dX4_wakeAll_21 (by decide) ?_ ?_
      · exact V_sub [0, 1] rfl (vj_X4_wakeAll_43 C D o ho ih σ x1)
      · refine V_aload_n C dX4_wakeAll_24 rfl 0 rfl ?_
        refine gf_RX4_9 C (rlN ho) (rl0 ho) rfl dX4_wakeAll_25 ?_
        refine V_iload_n C dX4_wakeAll_28 rfl 1 rfl ?_
        refine V_bipush (v := (99 : Int32)) C dX4_wakeAll_29 (by decide) ?_
        refine V_aload_n C dX4_wakeAll_31 rfl 0 rfl ?_
        refine gf_RX4_9 C (rlN ho) (rl0 ho) rfl dX4_wakeAll_32 ?_
        refine V_iload_n C dX4_wakeAll_35 rfl 1 rfl ?_
        refine V_iald C (rlN1 ho) (rl1 ho) dX4_wakeAll_36 ?_
        refine V_iconst (v := (3 : Int32)) C dX4_wakeAll_37 (by decide) ?_
        refine V_iadd C dX4_wakeAll_38 ?_
        refine V_mmin C (by decide) wl_RX4_88 (Nat.le_of_ble_eq_true rfl) dX4_wakeAll_39 ?_
        refine V_iast C (rlN1 ho) (rl1 ho) dX4_wakeAll_42 (fun σ4 => ?_)
        exact V_sub [0, 1] rfl (vj_X4_wakeAll_43 C D o ho ih σ4 x1)

set_option maxRecDepth 4000 in
theorem vj_X4_wakeAll_0 {E : Ev} {b : Nat} (C : CX E RX4 cX4_wakeAll 2 2) (D : CR E (some .int))    (σ : Hp) (o : Nat) (ho : rollP o) : VJ rvI (QM E b) E b 2 σ 0 [(0, .ref (b + o))] [] (f_X4_wakeAll σ o) := by
  unfold f_X4_wakeAll
  refine V_iconst (v := (0 : Int32)) C dX4_wakeAll_0 (by decide) ?_
  refine V_istore_n (L' := [(1, .int (0 : Int32)), (0, .ref (b + o))]) C dX4_wakeAll_1 rfl (by decide) rfl ?_
  exact V_sub [1, 0] rfl (vj_X4_wakeAll_2 C D o ho FU σ (0 : Int32))

theorem ct_X4_wakeAll (l : Launch) (dC : Nat → ClassId) (dI : Nat → Nat → Nat) (cA : Nat → ClassId) (b : Nat) (σ : Hp) (o : Nat) (ho : rollP o) : CT l dC dI cA b yX4_wakeAll cX4_wakeAll 2 (some .int) 2 [.ref (b + o)] σ rvI (f_X4_wakeAll σ o) := CT_of [(0, .ref (b + o))] (by decide +kernel) rfl (Nat.le_of_ble_eq_true rfl) rfl (fun E _ C D _ _ _ => vj_X4_wakeAll_0 C D σ o ho)
set_option maxRecDepth 4000 in
theorem vj_X4_waysAwake_79 {E : Ev} {b : Nat} (C : CX E RX4 cX4_waysAwake 8 1) (D : CR E (some .long)) (o : Nat) (ho : rollP o) {k19 : Hp → Int32 → Int32 → Int32 → Int64 → Int32 → Option (Int64 × Hp)} (hk19 : ∀ (σ : Hp) (x1 : Int32) (x2 : Int32) (x3 : Int32) (x4 : Int64) (x6 : Int32) , VJ rvL (QM E b) E b 8 σ 19 [(0, .ref (b + o)), (1, .int x1), (2, .int x2), (3, .int x3), (4, .long x4), (6, .int x6)] [] (k19 σ x1 x2 x3 x4 x6)) (σ : Hp) (x1 : Int32) (x2 : Int32) (x3 : Int32) (x6 : Int32) (s0 : Int64) (s1 : Int64)  : VJ rvL (QM E b) E b 8 σ 79 [(0, .ref (b + o)), (1, .int x1), (2, .int x2), (3, .int x3), (6, .int x6)] [.long s0, .long s1] (f_X4_waysAwake_79 k19 o σ x1 x2 x3 x6 s0 s1) := by
  unfold f_X4_waysAwake_79
  refine V_lmul C dX4_waysAwake_79 ?_
  refine V_ltL (fun v1 => ?_)
  refine V_lstore (L' := [(4, .long v1), (0, .ref (b + o)), (1, .int x1), (2, .int x2), (3, .int x3), (6, .int x6)]) C dX4_waysAwake_80 (by decide) rfl ?_
  refine V_iinc (k := 5) (v := (1 : Int32)) (L' := fun v2 => [(6, .int v2), (4, .long v1), (0, .ref (b + o)), (1, .int x1), (2, .int x2), (3, .int x3)]) C dX4_waysAwake_82 rfl (by decide) (by decide) (fun _ => rfl) (fun v2 => ?_)
  refine V_goto (tgt := 19) C dX4_waysAwake_85 (by decide) ?_
  exact V_sub [2, 3, 4, 5, 1, 0] rfl (hk19 σ x1 x2 x3 v1 v2)

set_option maxRecDepth 4000 in
theorem vj_X4_waysAwake_19 {E : Ev} {b : Nat} (C : CX E RX4 cX4_waysAwake 8 1) (D : CR E (some .long)) (o : Nat) (ho : rollP o)  : ∀ (n : Nat) (σ : Hp) (x1 : Int32) (x2 : Int32) (x3 : Int32) (x4 : Int64) (x6 : Int32) , VJ rvL (QM E b) E b 8 σ 19 [(0, .ref (b + o)), (1, .int x1), (2, .int x2), (3, .int x3), (4, .long x4), (6, .int x6)] [] (f_X4_waysAwake_19 o n σ x1 x2 x3 x4 x6)
  | 0, σ, x1, x2, x3, x4, x6 => V_none
  | n + 1, σ, x1, x2, x3, x4, x6 => by
    show VJ rvL (QM E b) E b 8 σ 19 [(0, .ref (b + o)), (1, .int x1), (2, .int x2), (3, .int x3), (4, .long x4), (6, .int x6)] [] (if x2 < x6 then (
          some (x4, σ))
        else (
          ck x1 5 <|
          Lt ((σ (o + 1) (ix x1)) + ((2 : Int32) * x6)) fun v1 =>
          if v1 < (σ (chO o) 3) then (
            if ((2 : Int32) * v1) < (σ (chO o) 3) then (
              f_X4_waysAwake_79 (f_X4_waysAwake_19 o n) o σ x1 x2 x3 x6 (10 : Int64) x4)
            else (
              f_X4_waysAwake_79 (f_X4_waysAwake_19 o n) o σ x1 x2 x3 x6 (((10 : Int32) - x3).toInt64) x4))
          else (
            some ((0 : Int64), σ))))
    have ih := vj_X4_waysAwake_19 (b := b) C D o ho  n
    refine V_iload C dX4_waysAwake_19 5 rfl ?_
    refine V_iload_n C dX4_waysAwake_21 rfl 2 rfl ?_
    refine V_icmp_gt (tgt := 88) C dX4_waysAwake_22 (by decide) ?_ ?_
    · refine V_lload C dX4_waysAwake_88 4 rfl ?_
      exact V_lret C D dX4_waysAwake_90
    · refine V_aload_n C dX4_waysAwake_25 rfl 0 rfl ?_
      refine gf_RX4_9 C (rlN ho) (rl0 ho) rfl dX4_waysAwake_26 ?_
      refine V_iload_n C dX4_waysAwake_29 rfl 1 rfl ?_
      refine V_iald C (rlN1 ho) (rl1 ho) dX4_waysAwake_30 ?_
      refine V_iconst (v := (2 : Int32)) C dX4_waysAwake_31 (by decide) ?_
      refine V_iload C dX4_waysAwake_32 5 rfl ?_
      refine V_imul C dX4_waysAwake_34 ?_
      refine V_iadd C dX4_waysAwake_35 ?_
      refine V_ltI (fun v1 => ?_)
      refine V_istore (L' := [(7, .int v1), (0, .ref (b + o)), (1, .int x1), (2, .int x2), (3, .int x3), (4, .long x4), (6, .int x6)]) C dX4_waysAwake_36 (by decide) rfl ?_
      refine V_iload C dX4_waysAwake_38 0 rfl ?_
      refine V_aload_n C dX4_waysAwake_40 rfl 1 rfl ?_
      refine gf_RX4_24 C (rlN ho) (rl0 ho) rfl dX4_waysAwake_41 ?_
      refine gf_RX4_85 C (clN (chP ho)) (cl0 (chP ho)) rfl dX4_waysAwake_44 ?_
      refine V_icmp_lt (tgt := 52) C dX4_waysAwake_47 (by decide) ?_ ?_
      · refine V_lload C dX4_waysAwake_52 5 rfl ?_
        refine V_iconst (v := (2 : Int32)) C dX4_waysAwake_54 (by decide) ?_
        refine V_iload C dX4_waysAwake_55 0 rfl ?_
        refine V_imul C dX4_waysAwake_57 ?_
        refine V_aload_n C dX4_waysAwake_58 rfl 1 rfl ?_
        refine gf_RX4_24 C (rlN ho) (rl0 ho) rfl dX4_waysAwake_59 ?_
        refine gf_RX4_85 C (clN (chP ho)) (cl0 (chP ho)) rfl dX4_waysAwake_62 ?_
        refine V_icmp_lt (tgt := 76) C dX4_waysAwake_65 (by decide) ?_ ?_
        · refine V_ldc2 C wk_RX4_91 dX4_waysAwake_76 ?_
          exact V_sub [1, 2, 3, 4, 6] rfl (vj_X4_waysAwake_79 C D o ho ih σ x1 x2 x3 x6 (10 : Int64) x4)
        · refine V_bipush (v := (10 : Int32)) C dX4_waysAwake_68 (by decide) ?_
          refine V_iload_n C dX4_waysAwake_70 rfl 4 rfl ?_
          refine V_isub C dX4_waysAwake_71 ?_
          refine V_i2l C dX4_waysAwake_72 ?_
          refine V_goto (tgt := 79) C dX4_waysAwake_73 (by decide) ?_
          exact V_sub [1, 2, 3, 4, 6] rfl (vj_X4_waysAwake_79 C D o ho ih σ x1 x2 x3 x6 (((10 : Int32) - x3).toInt64) x4)
      · refine V_lconst (v := (0 : Int64)) C dX4_waysAwake_50 (by decide) ?_
        exact V_lret C D dX4_waysAwake_51

set_option maxRecDepth 4000 in
theorem vj_X4_waysAwake_0 {E : Ev} {b : Nat} (C : CX E RX4 cX4_waysAwake 8 1) (D : CR E (some .long))    (σ : Hp) (o : Nat) (a1 : Int32) (a2 : Int32) (a3 : Int32) (ho : rollP o) : VJ rvL (QM E b) E b 8 σ 0 [(0, .ref (b + o)), (1, .int a1), (2, .int a2), (3, .int a3)] [] (f_X4_waysAwake σ o a1 a2 a3) := by
  unfold f_X4_waysAwake
  refine V_aload_n C dX4_waysAwake_0 rfl 0 rfl ?_
  refine gf_RX4_34 C (rlN ho) (rl0 ho) rfl dX4_waysAwake_1 ?_
  refine V_iload_n C dX4_waysAwake_4 rfl 1 rfl ?_
  refine V_ishr C dX4_waysAwake_5 ?_
  refine V_iconst (v := (1 : Int32)) C dX4_waysAwake_6 (by decide) ?_
  refine V_iand C dX4_waysAwake_7 ?_
  refine V_if_eq (tgt := 13) C dX4_waysAwake_8 (by decide) ?_ ?_
  · refine V_lconst (v := (1 : Int64)) C dX4_waysAwake_13 (by decide) ?_
    refine V_lstore (L' := [(4, .long (1 : Int64)), (0, .ref (b + o)), (1, .int a1), (2, .int a2), (3, .int a3)]) C dX4_waysAwake_14 (by decide) rfl ?_
    refine V_iconst (v := (1 : Int32)) C dX4_waysAwake_16 (by decide) ?_
    refine V_istore (L' := [(6, .int (1 : Int32)), (4, .long (1 : Int64)), (0, .ref (b + o)), (1, .int a1), (2, .int a2), (3, .int a3)]) C dX4_waysAwake_17 (by decide) rfl ?_
    exact V_sub [2, 3, 4, 5, 1, 0] rfl (vj_X4_waysAwake_19 C D o ho FU σ a1 a2 a3 (1 : Int64) (1 : Int32))
  · refine V_lconst (v := (0 : Int64)) C dX4_waysAwake_11 (by decide) ?_
    exact V_lret C D dX4_waysAwake_12

theorem ct_X4_waysAwake (l : Launch) (dC : Nat → ClassId) (dI : Nat → Nat → Nat) (cA : Nat → ClassId) (b : Nat) (σ : Hp) (o : Nat) (a1 : Int32) (a2 : Int32) (a3 : Int32) (ho : rollP o) : CT l dC dI cA b yX4_waysAwake cX4_waysAwake 8 (some .long) 1 [.ref (b + o), .int a1, .int a2, .int a3] σ rvL (f_X4_waysAwake σ o a1 a2 a3) := CT_of [(0, .ref (b + o)), (1, .int a1), (2, .int a2), (3, .int a3)] (by decide +kernel) rfl (Nat.le_of_ble_eq_true rfl) rfl (fun E _ C D _ _ _ => vj_X4_waysAwake_0 C D σ o a1 a2 a3 ho)
set_option maxRecDepth 4000 in
theorem vj_X4_spareOf_0 {E : Ev} {b : Nat} (C : CX E RX4 cX4_spareOf 2 2) (D : CR E (some .int))    (σ : Hp) (o : Nat) (a1 : Int32) (ho : rollP o) : VJ rvI (QM E b) E b 2 σ 0 [(0, .ref (b + o)), (1, .int a1)] [] (f_X4_spareOf σ o a1) := by
  unfold f_X4_spareOf
  refine V_aload_n C dX4_spareOf_0 rfl 0 rfl ?_
  refine gf_RX4_24 C (rlN ho) (rl0 ho) rfl dX4_spareOf_1 ?_
  refine V_iload_n C dX4_spareOf_4 rfl 1 rfl ?_
  refine cv_RX4_93 C (clN (chP ho)) (cl0 (chP ho)) (ct_X2_has _ _ _ _ _ σ (chO o) a1 (chP ho)) (by decide) rfl rfl (Nat.le_of_ble_eq_true rfl) dX4_spareOf_5 (fun r1 σ2 => ?_)
  refine V_if_eq (tgt := 31) C dX4_spareOf_8 (by decide) ?_ ?_
  · refine V_iconst (v := (0 : Int32)) C dX4_spareOf_31 (by decide) ?_
    exact V_iret C D dX4_spareOf_32
  · refine V_iconst (v := (0 : Int32)) C dX4_spareOf_11 (by decide) ?_
    refine V_aload_n C dX4_spareOf_12 rfl 0 rfl ?_
    refine gf_RX4_15 C (rlN ho) (rl0 ho) rfl dX4_spareOf_13 ?_
    refine V_iload_n C dX4_spareOf_16 rfl 1 rfl ?_
    refine V_iald C (rlN2 ho) (rl2 ho) dX4_spareOf_17 ?_
    refine V_aload_n C dX4_spareOf_18 rfl 0 rfl ?_
    refine gf_RX4_18 C (rlN ho) (rl0 ho) rfl dX4_spareOf_19 ?_
    refine V_iload_n C dX4_spareOf_22 rfl 1 rfl ?_
    refine V_iald C (rlN3 ho) (rl3 ho) dX4_spareOf_23 ?_
    refine V_isub C dX4_spareOf_24 ?_
    refine V_mmax C (by decide) wl_RX4_52 (Nat.le_of_ble_eq_true rfl) dX4_spareOf_25 ?_
    refine V_goto (tgt := 32) C dX4_spareOf_28 (by decide) ?_
    exact V_iret C D dX4_spareOf_32

theorem ct_X4_spareOf (l : Launch) (dC : Nat → ClassId) (dI : Nat → Nat → Nat) (cA : Nat → ClassId) (b : Nat) (σ : Hp) (o : Nat) (a1 : Int32) (ho : rollP o) : CT l dC dI cA b yX4_spareOf cX4_spareOf 2 (some .int) 2 [.ref (b + o), .int a1] σ rvI (f_X4_spareOf σ o a1) := CT_of [(0, .ref (b + o)), (1, .int a1)] (by decide +kernel) rfl (Nat.le_of_ble_eq_true rfl) rfl (fun E _ C D _ _ _ => vj_X4_spareOf_0 C D σ o a1 ho)
set_option maxRecDepth 4000 in
theorem vj_X5_forget_0 {E : Ev} {b : Nat} (C : CX E RX5 cX5_forget 1 1) (D : CR E none)    (σ : Hp)   : VJ rvV (QM E b) E b 1 σ 0 [(0, .ref (b + 86))] [] (f_X5_forget σ ) := by
  unfold f_X5_forget
  refine V_aload_n C dX5_forget_0 rfl 0 rfl ?_
  refine V_iconst (v := (0 : Int32)) C dX5_forget_1 (by decide) ?_
  refine pf_RX5_31 C (ln86) ly86 rfl dX5_forget_2 (fun σ1 => ?_)
  exact V_vret C D dX5_forget_5

theorem ct_X5_forget (l : Launch) (dC : Nat → ClassId) (dI : Nat → Nat → Nat) (cA : Nat → ClassId) (b : Nat) (σ : Hp)   : CT l dC dI cA b yX5_forget cX5_forget 1 none 1 [.ref (b + 86)] σ rvV (f_X5_forget σ ) := CT_of [(0, .ref (b + 86))] (by decide +kernel) rfl (Nat.le_of_ble_eq_true rfl) rfl (fun E _ C D _ _ _ => vj_X5_forget_0 C D σ  )
set_option maxRecDepth 4000 in
theorem vj_X5_seek_36 {E : Ev} {b : Nat} {dd : Nat} (C : CX E RX5 cX5_seek 8 (dd + 3)) (D : CR E none)   {rec : Hp → Int32 → Int32 → Option (Unit × Hp)} (hrec : ∀ (l : Launch) (dC : Nat → ClassId) (dI : Nat → Nat → Nat) (cA : Nat → ClassId) (σ : Hp) (a1 a2 : Int32), CT l dC dI cA b yX5_seek cX5_seek 8 none (dd + 2) [.ref (b + 86), .int a1, .int a2] σ rvV (rec σ a1 a2))  (σ : Hp) (x3 : Nat) (hx3 : rollP x3) : VJ rvV (QM E b) E b 8 σ 36 [(0, .ref (b + 86)), (3, .ref (b + x3))] [] (f_X5_seek_36 rec σ x3) := by
  unfold f_X5_seek_36
  refine V_aload_n C dX5_seek_36 rfl 0 rfl ?_
  refine V_iconst (v := (1 : Int32)) C dX5_seek_37 (by decide) ?_
  refine pf_RX5_39 C (ln86) ly86 rfl rfl rfl dX5_seek_38 (fun σ1 => ?_)
  refine V_aload_n C dX5_seek_41 rfl 0 rfl ?_
  refine V_aload_n C dX5_seek_42 rfl 1 rfl ?_
  refine cv_RX5_58 C (rlN hx3) (rl0 hx3) (ct_X4_tiredOfAll _ _ _ _ _ σ1 x3 hx3) (by omega) rfl rfl (Nat.le_of_ble_eq_true rfl) dX5_seek_43 (fun r2 σ3 => ?_)
  refine pf_RX5_43 C (ln86) ly86 rfl dX5_seek_46 (fun σ4 => ?_)
  refine V_aload_n C dX5_seek_49 rfl 0 rfl ?_
  refine gf_RX5_17 C (ln86) ly86 rfl dX5_seek_50 ?_
  refine V_iconst (v := (0 : Int32)) C dX5_seek_53 (by decide) ?_
  refine V_aload_n C dX5_seek_54 rfl 0 rfl ?_
  refine gf_RX5_21 C (ln86) ly86 rfl dX5_seek_55 ?_
  refine V_iconst (v := (0 : Int32)) C dX5_seek_58 (by decide) ?_
  refine V_iconst (v := (4 : Int32)) C dX5_seek_59 (by decide) ?_
  refine V_copy C (by omega) (ln88) (ln89) ly88 ly89 wl_RX5_62 (by decide) (by decide) dX5_seek_60 (fun σ5 => ?_)
  exact V_vret C D dX5_seek_63

set_option maxRecDepth 4000 in
theorem vj_X5_seek_134 {E : Ev} {b : Nat} {dd : Nat} (C : CX E RX5 cX5_seek 8 (dd + 3)) (D : CR E none)   {rec : Hp → Int32 → Int32 → Option (Unit × Hp)} (hrec : ∀ (l : Launch) (dC : Nat → ClassId) (dI : Nat → Nat → Nat) (cA : Nat → ClassId) (σ : Hp) (a1 a2 : Int32), CT l dC dI cA b yX5_seek cX5_seek 8 none (dd + 2) [.ref (b + 86), .int a1, .int a2] σ rvV (rec σ a1 a2)) {k86 : Hp → Int32 → Int32 → Nat → Nat → Int32 → Int32 → Option (Unit × Hp)} (hk86 : ∀ (σ : Hp) (x1 : Int32) (x2 : Int32) (x3 : Nat) (x5 : Nat) (x6 : Int32) (x7 : Int32) (hx3 : rollP x3) (hx5 : rollP x5), VJ rvV (QM E b) E b 8 σ 86 [(0, .ref (b + 86)), (1, .int x1), (2, .int x2), (3, .ref (b + x3)), (5, .ref (b + x5)), (6, .int x6), (7, .int x7)] [] (k86 σ x1 x2 x3 x5 x6 x7)) (σ : Hp) (x1 : Int32) (x2 : Int32) (x3 : Nat) (x5 : Nat) (x6 : Int32) (x7 : Int32) (hx3 : rollP x3) (hx5 : rollP x5) : VJ rvV (QM E b) E b 8 σ 134 [(0, .ref (b + 86)), (1, .int x1), (2, .int x2), (3, .ref (b + x3)), (5, .ref (b + x5)), (6, .int x6), (7, .int x7)] [] (f_X5_seek_134 rec k86 σ x1 x2 x3 x5 x6 x7) := by
  unfold f_X5_seek_134
  refine V_iinc (k := 6) (v := (1 : Int32)) (L' := fun v1 => [(7, .int v1), (0, .ref (b + 86)), (1, .int x1), (2, .int x2), (3, .ref (b + x3)), (5, .ref (b + x5)), (6, .int x6)]) C dX5_seek_134 rfl (by decide) (by decide) (fun _ => rfl) (fun v1 => ?_)
  refine V_goto (tgt := 86) C dX5_seek_137 (by decide) ?_
  exact V_sub [1, 2, 3, 4, 5, 6, 0] rfl (hk86 σ x1 x2 x3 x5 x6 v1 hx3 hx5)

set_option maxRecDepth 4000 in
theorem vj_X5_seek_86 {E : Ev} {b : Nat} {dd : Nat} (C : CX E RX5 cX5_seek 8 (dd + 3)) (D : CR E none)   {rec : Hp → Int32 → Int32 → Option (Unit × Hp)} (hrec : ∀ (l : Launch) (dC : Nat → ClassId) (dI : Nat → Nat → Nat) (cA : Nat → ClassId) (σ : Hp) (a1 a2 : Int32), CT l dC dI cA b yX5_seek cX5_seek 8 none (dd + 2) [.ref (b + 86), .int a1, .int a2] σ rvV (rec σ a1 a2))  : ∀ (n : Nat) (σ : Hp) (x1 : Int32) (x2 : Int32) (x3 : Nat) (x5 : Nat) (x6 : Int32) (x7 : Int32) (hx3 : rollP x3) (hx5 : rollP x5), VJ rvV (QM E b) E b 8 σ 86 [(0, .ref (b + 86)), (1, .int x1), (2, .int x2), (3, .ref (b + x3)), (5, .ref (b + x5)), (6, .int x6), (7, .int x7)] [] (f_X5_seek_86 rec n σ x1 x2 x3 x5 x6 x7)
  | 0, σ, x1, x2, x3, x5, x6, x7, hx3, hx5 => V_none
  | n + 1, σ, x1, x2, x3, x5, x6, x7, hx3, hx5 => by
    show VJ rvV (QM E b) E b 8 σ 86 [(0, .ref (b + 86)), (1, .int x1), (2, .int x2), (3, .ref (b + x3)), (5, .ref (b + x5)), (6, .int x6), (7, .int x7)] [] (if x6 < x7 then (
          some ((), σ))
        else (
          bd (f_X4_allows σ x3 x7) fun r1 σ2 =>
          if r1 = 0 then (
            f_X5_seek_134 rec (f_X5_seek_86 rec n) σ2 x1 x2 x3 x5 x6 x7)
          else (
            bd (f_X4_copyFrom σ2 x5 x3) fun r3 σ4 =>
            bd (f_X4_pass σ4 x5 x7) fun r5 σ6 =>
            if r5 = 0 then (
              f_X5_seek_134 rec (f_X5_seek_86 rec n) σ6 x1 x2 x3 x5 x6 x7)
            else (
              ck x1 4 <|
              Lt (wr σ6 88 (ix x1) x7) fun σ7 =>
              bd (rec σ7 (x1 + (1 : Int32)) x2) fun r8 σ9 =>
              f_X5_seek_134 rec (f_X5_seek_86 rec n) σ9 x1 x2 x3 x5 x6 x7))))
    have ih := vj_X5_seek_86 (b := b) C D  hrec  n
    refine V_iload C dX5_seek_86 6 rfl ?_
    refine V_iload C dX5_seek_88 5 rfl ?_
    refine V_icmp_gt (tgt := 140) C dX5_seek_90 (by decide) ?_ ?_
    · exact V_vret C D dX5_seek_140
    · refine V_aload_n C dX5_seek_93 rfl 3 rfl ?_
      refine V_iload C dX5_seek_94 6 rfl ?_
      refine cv_RX5_73 C (rlN hx3) (rl0 hx3) (ct_X4_allows _ _ _ _ _ σ x3 x7 hx3) (by omega) rfl rfl (Nat.le_of_ble_eq_true rfl) dX5_seek_96 (fun r1 σ2 => ?_)
      refine V_if_eq (tgt := 134) C dX5_seek_99 (by decide) ?_ ?_
      · exact V_sub [0, 1, 2, 3, 4, 5, 6] rfl (vj_X5_seek_134 C D hrec ih σ2 x1 x2 x3 x5 x6 x7 hx3 hx5)
      · refine V_aload C dX5_seek_102 4 rfl ?_
        refine V_aload_n C dX5_seek_104 rfl 3 rfl ?_
        refine cv_RX5_46 C (rlN hx5) (rl0 hx5) (ct_X4_copyFrom _ _ _ _ _ σ2 x5 x3 hx5 hx3) (by omega) rfl rfl (Nat.le_of_ble_eq_true rfl) dX5_seek_105 (fun r3 σ4 => ?_)
        refine V_aload C dX5_seek_108 4 rfl ?_
        refine V_iload C dX5_seek_110 6 rfl ?_
        refine cv_RX5_77 C (rlN hx5) (rl0 hx5) (ct_X4_pass _ _ _ _ _ σ4 x5 x7 hx5) (by omega) rfl rfl (Nat.le_of_ble_eq_true rfl) dX5_seek_112 (fun r5 σ6 => ?_)
        refine V_if_eq (tgt := 134) C dX5_seek_115 (by decide) ?_ ?_
        · exact V_sub [0, 1, 2, 3, 4, 5, 6] rfl (vj_X5_seek_134 C D hrec ih σ6 x1 x2 x3 x5 x6 x7 hx3 hx5)
        · refine V_aload_n C dX5_seek_118 rfl 0 rfl ?_
          refine gf_RX5_17 C (ln86) ly86 rfl dX5_seek_119 ?_
          refine V_iload_n C dX5_seek_122 rfl 1 rfl ?_
          refine V_iload C dX5_seek_123 6 rfl ?_
          refine V_iast C (ln88) ly88 dX5_seek_125 (fun σ7 => ?_)
          refine V_aload_n C dX5_seek_126 rfl 0 rfl ?_
          refine V_iload_n C dX5_seek_127 rfl 1 rfl ?_
          refine V_iconst (v := (1 : Int32)) C dX5_seek_128 (by decide) ?_
          refine V_iadd C dX5_seek_129 ?_
          refine V_iload_n C dX5_seek_130 rfl 2 rfl ?_
          refine cs_RX5_50 C (hrec _ _ _ _ σ7 (x1 + (1 : Int32)) x2) (by omega) rfl rfl (Nat.le_of_ble_eq_true rfl) dX5_seek_131 (fun r8 σ9 => ?_)
          exact V_sub [0, 1, 2, 3, 4, 5, 6] rfl (vj_X5_seek_134 C D hrec ih σ9 x1 x2 x3 x5 x6 x7 hx3 hx5)

set_option maxRecDepth 4000 in
theorem vj_X5_seek_0 {E : Ev} {b : Nat} {dd : Nat} (C : CX E RX5 cX5_seek 8 (dd + 3)) (D : CR E none)   {rec : Hp → Int32 → Int32 → Option (Unit × Hp)} (hrec : ∀ (l : Launch) (dC : Nat → ClassId) (dI : Nat → Nat → Nat) (cA : Nat → ClassId) (σ : Hp) (a1 a2 : Int32), CT l dC dI cA b yX5_seek cX5_seek 8 none (dd + 2) [.ref (b + 86), .int a1, .int a2] σ rvV (rec σ a1 a2))  (σ : Hp) (a1 : Int32) (a2 : Int32)  : VJ rvV (QM E b) E b 8 σ 0 [(0, .ref (b + 86)), (1, .int a1), (2, .int a2)] [] (f_X5_seek rec σ a1 a2) := by
  unfold f_X5_seek
  refine V_aload_n C dX5_seek_0 rfl 0 rfl ?_
  refine gf_RX5_11 C (ln86) ly86 rfl dX5_seek_1 ?_
  refine V_iload_n C dX5_seek_4 rfl 1 rfl ?_
  refine V_aald (Cn := "SleepByRation$Roll") C (ln87) ly87 (fun _ => rfl) dX5_seek_5 (fun h1 => ?_)
  refine V_astore_n (L' := [(3, .ref (b + (90 + 5 * ix a1))), (0, .ref (b + 86)), (1, .int a1), (2, .int a2)]) C dX5_seek_6 rfl (by decide) rfl ?_
  refine V_iload_n C dX5_seek_7 rfl 3 rfl ?_
  refine V_iload_n C dX5_seek_8 rfl 2 rfl ?_
  refine V_isub C dX5_seek_9 ?_
  refine V_ltI (fun v2 => ?_)
  refine V_istore (L' := [(4, .int v2), (3, .ref (b + (90 + 5 * ix a1))), (0, .ref (b + 86)), (1, .int a1), (2, .int a2)]) C dX5_seek_10 (by decide) rfl ?_
  refine V_aload_n C dX5_seek_12 rfl 1 rfl ?_
  refine V_iload C dX5_seek_13 0 rfl ?_
  refine cv_RX5_54 C (rlN (rpB h1)) (rl0 (rpB h1)) (ct_X4_leastTiredBehind _ _ _ _ _ σ (90 + 5 * ix a1) v2 (rpB h1)) (by omega) rfl rfl (Nat.le_of_ble_eq_true rfl) dX5_seek_15 (fun r3 σ4 => ?_)
  refine V_aload_n C dX5_seek_18 rfl 2 rfl ?_
  refine gf_RX5_43 C (ln86) ly86 rfl dX5_seek_19 ?_
  refine V_icmp_lt (tgt := 26) C dX5_seek_22 (by decide) ?_ ?_
  · refine V_iload C dX5_seek_26 0 rfl ?_
    refine V_if_le (tgt := 36) C dX5_seek_28 (by decide) ?_ ?_
    · exact V_sub [2, 1] rfl (vj_X5_seek_36 C D hrec σ4 (90 + 5 * ix a1) (rpB h1))
    · refine V_iload_n C dX5_seek_31 rfl 3 rfl ?_
      refine V_iconst (v := (4 : Int32)) C dX5_seek_32 (by decide) ?_
      refine V_icmp_lt (tgt := 64) C dX5_seek_33 (by decide) ?_ ?_
      · refine V_aload_n C dX5_seek_64 rfl 2 rfl ?_
        refine gf_RX5_11 C (ln86) ly86 rfl dX5_seek_65 ?_
        refine V_iload_n C dX5_seek_68 rfl 3 rfl ?_
        refine V_iconst (v := (1 : Int32)) C dX5_seek_69 (by decide) ?_
        refine V_iadd C dX5_seek_70 ?_
        refine V_aald (Cn := "SleepByRation$Roll") C (ln87) ly87 (fun _ => rfl) dX5_seek_71 (fun h5 => ?_)
        refine V_astore (L' := [(5, .ref (b + (90 + 5 * ix (a1 + (1 : Int32))))), (4, .int v2), (3, .ref (b + (90 + 5 * ix a1))), (0, .ref (b + 86)), (1, .int a1), (2, .int a2)]) C dX5_seek_72 (by decide) rfl ?_
        refine V_aload_n C dX5_seek_74 rfl 3 rfl ?_
        refine gf_RX5_24 C (ln86) ly86 rfl dX5_seek_75 ?_
        refine cv_RX5_68 C (ln11) ly11 (ct_X2_everyone _ _ _ _ _ σ4 11 cP_11) (by omega) rfl rfl (Nat.le_of_ble_eq_true rfl) dX5_seek_78 (fun r6 σ7 => ?_)
        refine V_istore (L' := [(6, .int r6), (5, .ref (b + (90 + 5 * ix (a1 + (1 : Int32))))), (4, .int v2), (3, .ref (b + (90 + 5 * ix a1))), (0, .ref (b + 86)), (1, .int a1), (2, .int a2)]) C dX5_seek_81 (by decide) rfl ?_
        refine V_iconst (v := (0 : Int32)) C dX5_seek_83 (by decide) ?_
        refine V_istore (L' := [(7, .int (0 : Int32)), (6, .int r6), (5, .ref (b + (90 + 5 * ix (a1 + (1 : Int32))))), (4, .int v2), (3, .ref (b + (90 + 5 * ix a1))), (0, .ref (b + 86)), (1, .int a1), (2, .int a2)]) C dX5_seek_84 (by decide) rfl ?_
        exact V_sub [5, 6, 7, 4, 2, 1, 0] rfl (vj_X5_seek_86 C D hrec FU σ7 a1 a2 (90 + 5 * ix a1) (90 + 5 * ix (a1 + (1 : Int32))) r6 (0 : Int32) (rpB h1) (rpB h5))
      · exact V_sub [2, 1] rfl (vj_X5_seek_36 C D hrec σ4 (90 + 5 * ix a1) (rpB h1))
  · exact V_vret C D dX5_seek_25

theorem ct_X5_seek : ∀ (nn : Nat) (l : Launch) (dC : Nat → ClassId) (dI : Nat → Nat → Nat) (cA : Nat → ClassId) (b : Nat) (σ : Hp) (a1 : Int32) (a2 : Int32) , CT l dC dI cA b yX5_seek cX5_seek 8 none (nn + 3) [.ref (b + 86), .int a1, .int a2] σ rvV (f_X5_seek_rec nn σ a1 a2)
  | 0, l, dC, dI, cA, b, σ, a1, a2 => fun r σ' h => by cases h
  | nn + 1, l, dC, dI, cA, b, σ, a1, a2 => CT_of [(0, .ref (b + 86)), (1, .int a1), (2, .int a2)] (by decide +kernel) rfl (Nat.le_of_ble_eq_true rfl) rfl (fun E _ C D _ _ _ => vj_X5_seek_0 (dd := nn + 1) C D (fun l dC dI cA σ a1 a2 => ct_X5_seek nn l dC dI cA b σ a1 a2) σ a1 a2 )
set_option maxRecDepth 4000 in
theorem vj_X5_run_22 {E : Ev} {b : Nat} (C : CX E RX5 cX5_run 3 10) (D : CR E none) (q1 : Nat) (hq1 : rollP q1)  (σ : Hp) (x2 : Int32)  : VJ rvV (QM E b) E b 3 σ 22 [(0, .ref (b + 86)), (1, .ref (b + q1)), (2, .int x2)] [] (f_X5_run_22 q1 σ x2) := by
  unfold f_X5_run_22
  refine V_aload_n C dX5_run_22 rfl 0 rfl ?_
  refine V_iload_n C dX5_run_23 rfl 2 rfl ?_
  refine pf_RX5_31 C (ln86) ly86 rfl dX5_run_24 (fun σ1 => ?_)
  refine V_aload_n C dX5_run_27 rfl 0 rfl ?_
  refine V_iconst (v := (0 : Int32)) C dX5_run_28 (by decide) ?_
  refine pf_RX5_39 C (ln86) ly86 rfl rfl rfl dX5_run_29 (fun σ2 => ?_)
  refine V_aload_n C dX5_run_32 rfl 0 rfl ?_
  refine V_sipush (v := (496 : Int32)) C dX5_run_33 (by decide) ?_
  refine pf_RX5_43 C (ln86) ly86 rfl dX5_run_36 (fun σ3 => ?_)
  refine V_aload_n C dX5_run_39 rfl 0 rfl ?_
  refine gf_RX5_11 C (ln86) ly86 rfl dX5_run_40 ?_
  refine V_iconst (v := (0 : Int32)) C dX5_run_43 (by decide) ?_
  refine V_aald (Cn := "SleepByRation$Roll") C (ln87) ly87 (fun _ => rfl) dX5_run_44 (fun h4 => ?_)
  refine V_aload_n C dX5_run_45 rfl 1 rfl ?_
  refine cv_RX5_46 C (rlN (rpB h4)) (rl0 (rpB h4)) (ct_X4_copyFrom _ _ _ _ _ σ3 (90 + 5 * ix (0 : Int32)) q1 (rpB h4) hq1) (by decide) rfl rfl (Nat.le_of_ble_eq_true rfl) dX5_run_46 (fun r5 σ6 => ?_)
  refine V_aload_n C dX5_run_49 rfl 0 rfl ?_
  refine V_iconst (v := (0 : Int32)) C dX5_run_50 (by decide) ?_
  refine V_iload_n C dX5_run_51 rfl 2 rfl ?_
  refine cs_RX5_50 C (ct_X5_seek 6 _ _ _ _ _ σ6 (0 : Int32) x2) (by decide) rfl rfl (Nat.le_of_ble_eq_true rfl) dX5_run_52 (fun r7 σ8 => ?_)
  exact V_vret C D dX5_run_55

set_option maxRecDepth 4000 in
theorem vj_X5_run_0 {E : Ev} {b : Nat} (C : CX E RX5 cX5_run 3 10) (D : CR E none)    (σ : Hp) (q1 : Nat) (a2 : Int32) (hq1 : rollP q1) : VJ rvV (QM E b) E b 3 σ 0 [(0, .ref (b + 86)), (1, .ref (b + q1)), (2, .int a2)] [] (f_X5_run σ q1 a2) := by
  unfold f_X5_run
  refine V_aload_n C dX5_run_0 rfl 0 rfl ?_
  refine gf_RX5_31 C (ln86) ly86 rfl dX5_run_1 ?_
  refine V_iload_n C dX5_run_4 rfl 2 rfl ?_
  refine V_icmp_ne (tgt := 22) C dX5_run_5 (by decide) ?_ ?_
  · exact V_sub [0, 1, 2] rfl (vj_X5_run_22 C D q1 hq1 σ a2)
  · refine V_aload_n C dX5_run_8 rfl 0 rfl ?_
    refine gf_RX5_11 C (ln86) ly86 rfl dX5_run_9 ?_
    refine V_iconst (v := (0 : Int32)) C dX5_run_12 (by decide) ?_
    refine V_aald (Cn := "SleepByRation$Roll") C (ln87) ly87 (fun _ => rfl) dX5_run_13 (fun h1 => ?_)
    refine V_aload_n C dX5_run_14 rfl 1 rfl ?_
    refine cv_RX5_35 C (rlN (rpB h1)) (rl0 (rpB h1)) (ct_X4_isLike _ _ _ _ _ σ (90 + 5 * ix (0 : Int32)) q1 (rpB h1) hq1) (by decide) rfl rfl (Nat.le_of_ble_eq_true rfl) dX5_run_15 (fun r2 σ3 => ?_)
    refine V_if_eq (tgt := 22) C dX5_run_18 (by decide) ?_ ?_
    · exact V_sub [0, 1, 2] rfl (vj_X5_run_22 C D q1 hq1 σ3 a2)
    · exact V_vret C D dX5_run_21

theorem ct_X5_run (l : Launch) (dC : Nat → ClassId) (dI : Nat → Nat → Nat) (cA : Nat → ClassId) (b : Nat) (σ : Hp) (q1 : Nat) (a2 : Int32) (hq1 : rollP q1) : CT l dC dI cA b yX5_run cX5_run 3 none 10 [.ref (b + 86), .ref (b + q1), .int a2] σ rvV (f_X5_run σ q1 a2) := CT_of [(0, .ref (b + 86)), (1, .ref (b + q1)), (2, .int a2)] (by decide +kernel) rfl (Nat.le_of_ble_eq_true rfl) rfl (fun E _ C D _ _ _ => vj_X5_run_0 C D σ q1 a2 hq1)
set_option maxRecDepth 4000 in
theorem vj_X6_store_0 {E : Ev} {b : Nat} (C : CX E RX6 cX6_store 3 2) (D : CR E none)    (σ : Hp) (o : Nat) (q1 : Nat) (ho : slotP o) (hq1 : rollP q1) : VJ rvV (QM E b) E b 3 σ 0 [(0, .ref (b + o)), (1, .ref (b + q1)), (2, .ref (b + 23))] [] (f_X6_store σ o q1) := by
  unfold f_X6_store
  refine V_aload_n C dX6_store_0 rfl 0 rfl ?_
  refine gf_RX6_20 C (slN ho) (sl0 ho) rfl dX6_store_1 ?_
  refine V_aload_n C dX6_store_4 rfl 1 rfl ?_
  refine cv_RX6_24 C (rlN (slR ho)) (rl0 (slR ho)) (ct_X4_copyFrom _ _ _ _ _ σ (o + 2) q1 (slR ho) hq1) (by decide) rfl rfl (Nat.le_of_ble_eq_true rfl) dX6_store_5 (fun r1 σ2 => ?_)
  refine V_aload_n C dX6_store_8 rfl 2 rfl ?_
  refine V_iconst (v := (0 : Int32)) C dX6_store_9 (by decide) ?_
  refine V_aload_n C dX6_store_10 rfl 0 rfl ?_
  refine gf_RX6_9 C (slN ho) (sl0 ho) rfl dX6_store_11 ?_
  refine V_iconst (v := (0 : Int32)) C dX6_store_14 (by decide) ?_
  refine V_iconst (v := (4 : Int32)) C dX6_store_15 (by decide) ?_
  refine V_copy C (by decide) (ln23) (slN1 ho) ly23 (sl1 ho) wl_RX6_28 (by decide) (by decide) dX6_store_16 (fun σ3 => ?_)
  refine V_aload_n C dX6_store_19 rfl 0 rfl ?_
  refine V_iconst (v := (1 : Int32)) C dX6_store_20 (by decide) ?_
  refine pf_RX6_34 C (slN ho) (sl0 ho) rfl rfl rfl dX6_store_21 (fun σ4 => ?_)
  exact V_vret C D dX6_store_24

theorem ct_X6_store (l : Launch) (dC : Nat → ClassId) (dI : Nat → Nat → Nat) (cA : Nat → ClassId) (b : Nat) (σ : Hp) (o : Nat) (q1 : Nat) (ho : slotP o) (hq1 : rollP q1) : CT l dC dI cA b yX6_store cX6_store 3 none 2 [.ref (b + o), .ref (b + q1), .ref (b + 23)] σ rvV (f_X6_store σ o q1) := CT_of [(0, .ref (b + o)), (1, .ref (b + q1)), (2, .ref (b + 23))] (by decide +kernel) rfl (Nat.le_of_ble_eq_true rfl) rfl (fun E _ C D _ _ _ => vj_X6_store_0 C D σ o q1 ho hq1)
set_option maxRecDepth 4000 in
theorem vj_X6_restore_0 {E : Ev} {b : Nat} (C : CX E RX6 cX6_restore 3 2) (D : CR E none)    (σ : Hp) (o : Nat) (q1 : Nat) (ho : slotP o) (hq1 : rollP q1) : VJ rvV (QM E b) E b 3 σ 0 [(0, .ref (b + o)), (1, .ref (b + q1)), (2, .ref (b + 23))] [] (f_X6_restore σ o q1) := by
  unfold f_X6_restore
  refine V_aload_n C dX6_restore_0 rfl 1 rfl ?_
  refine V_aload_n C dX6_restore_1 rfl 0 rfl ?_
  refine gf_RX6_20 C (slN ho) (sl0 ho) rfl dX6_restore_2 ?_
  refine cv_RX6_24 C (rlN hq1) (rl0 hq1) (ct_X4_copyFrom _ _ _ _ _ σ q1 (o + 2) hq1 (slR ho)) (by decide) rfl rfl (Nat.le_of_ble_eq_true rfl) dX6_restore_5 (fun r1 σ2 => ?_)
  refine V_aload_n C dX6_restore_8 rfl 0 rfl ?_
  refine gf_RX6_9 C (slN ho) (sl0 ho) rfl dX6_restore_9 ?_
  refine V_iconst (v := (0 : Int32)) C dX6_restore_12 (by decide) ?_
  refine V_aload_n C dX6_restore_13 rfl 2 rfl ?_
  refine V_iconst (v := (0 : Int32)) C dX6_restore_14 (by decide) ?_
  refine V_iconst (v := (4 : Int32)) C dX6_restore_15 (by decide) ?_
  refine V_copy C (by decide) (slN1 ho) (ln23) (sl1 ho) ly23 wl_RX6_28 (by decide) (by decide) dX6_restore_16 (fun σ3 => ?_)
  exact V_vret C D dX6_restore_19

theorem ct_X6_restore (l : Launch) (dC : Nat → ClassId) (dI : Nat → Nat → Nat) (cA : Nat → ClassId) (b : Nat) (σ : Hp) (o : Nat) (q1 : Nat) (ho : slotP o) (hq1 : rollP q1) : CT l dC dI cA b yX6_restore cX6_restore 3 none 2 [.ref (b + o), .ref (b + q1), .ref (b + 23)] σ rvV (f_X6_restore σ o q1) := CT_of [(0, .ref (b + o)), (1, .ref (b + q1)), (2, .ref (b + 23))] (by decide +kernel) rfl (Nat.le_of_ble_eq_true rfl) rfl (fun E _ C D _ _ _ => vj_X6_restore_0 C D σ o q1 ho hq1)
set_option maxRecDepth 4000 in
theorem vj_X7_append_5 {E : Ev} {b : Nat} (C : CX E RX7 cX7_append 5 1) (D : CR E none)    : ∀ (n : Nat) (σ : Hp) (x2 : Int64) (x4 : Int32) , VJ rvV (QM E b) E b 5 σ 5 [(0, .ref (b + 1)), (2, .long x2), (4, .int x4)] [] (f_X7_append_5 n σ x2 x4)
  | 0, σ, x2, x4 => V_none
  | n + 1, σ, x2, x4 => by
    show VJ rvV (QM E b) E b 5 σ 5 [(0, .ref (b + 1)), (2, .long x2), (4, .int x4)] [] (if x4 < 0 then (
          some ((), σ))
        else (
          if (48 : Int32) ≤ (σ 1 1) then (
            some ((), σ))
          else (
            ck (σ 1 1) 48 <|
            Lt (wr σ 2 (ix (σ 1 1)) (vp_nar .byte (((x2 >>> (((8 : Int32) * x4).toInt64 &&& 63)).toInt32).toInt8.toInt32))) fun σ1 =>
            Lt (wr σ1 1 1 ((σ1 1 1) + (1 : Int32))) fun σ2 =>
            Lt (x4 + (-1 : Int32)) fun v3 =>
            f_X7_append_5 n σ2 x2 v3)))
    have ih := vj_X7_append_5 (b := b) C D   n
    refine V_iload C dX7_append_5 2 rfl ?_
    refine V_if_lt (tgt := 53) C dX7_append_7 (by decide) ?_ ?_
    · exact V_vret C D dX7_append_53
    · refine V_aload_n C dX7_append_10 rfl 0 rfl ?_
      refine gf_RX7_15 C (ln1) ly1 rfl dX7_append_11 ?_
      refine V_bipush (v := (48 : Int32)) C dX7_append_14 (by decide) ?_
      refine V_icmp_ge (tgt := 53) C dX7_append_16 (by decide) ?_ ?_
      · exact V_vret C D dX7_append_53
      · refine V_aload_n C dX7_append_19 rfl 0 rfl ?_
        refine gf_RX7_9 C (ln1) ly1 rfl dX7_append_20 ?_
        refine V_aload_n C dX7_append_23 rfl 0 rfl ?_
        refine gf_RX7_15 C (ln1) ly1 rfl dX7_append_24 ?_
        refine V_lload_n C dX7_append_27 rfl 1 rfl ?_
        refine V_bipush (v := (8 : Int32)) C dX7_append_28 (by decide) ?_
        refine V_iload C dX7_append_30 2 rfl ?_
        refine V_imul C dX7_append_32 ?_
        refine V_lshr C dX7_append_33 ?_
        refine V_l2i C dX7_append_34 ?_
        refine V_i2b C dX7_append_35 ?_
        refine V_bast C (ln2) ly2 dX7_append_36 (fun σ1 => ?_)
        refine V_aload_n C dX7_append_37 rfl 0 rfl ?_
        refine V_dup C dX7_append_38 rfl ?_
        refine gf_RX7_15 C (ln1) ly1 rfl dX7_append_39 ?_
        refine V_iconst (v := (1 : Int32)) C dX7_append_42 (by decide) ?_
        refine V_iadd C dX7_append_43 ?_
        refine pf_RX7_15 C (ln1) ly1 rfl dX7_append_44 (fun σ2 => ?_)
        refine V_iinc (k := 2) (v := (-1 : Int32)) (L' := fun v3 => [(4, .int v3), (0, .ref (b + 1)), (2, .long x2)]) C dX7_append_47 rfl (by decide) (by decide) (fun _ => rfl) (fun v3 => ?_)
        refine V_goto (tgt := 5) C dX7_append_50 (by decide) ?_
        exact V_sub [1, 2, 0] rfl (ih σ2 x2 v3)

set_option maxRecDepth 4000 in
theorem vj_X7_append_0 {E : Ev} {b : Nat} (C : CX E RX7 cX7_append 5 1) (D : CR E none)    (σ : Hp) (a1 : Int32) (a2 : Int64)  : VJ rvV (QM E b) E b 5 σ 0 [(0, .ref (b + 1)), (1, .int a1), (2, .long a2)] [] (f_X7_append σ a1 a2) := by
  unfold f_X7_append
  refine V_iload_n C dX7_append_0 rfl 1 rfl ?_
  refine V_iconst (v := (1 : Int32)) C dX7_append_1 (by decide) ?_
  refine V_isub C dX7_append_2 ?_
  refine V_ltI (fun v1 => ?_)
  refine V_istore (L' := [(4, .int v1), (0, .ref (b + 1)), (1, .int a1), (2, .long a2)]) C dX7_append_3 (by decide) rfl ?_
  exact V_sub [1, 3, 0] rfl (vj_X7_append_5 C D FU σ a2 v1)

theorem ct_X7_append (l : Launch) (dC : Nat → ClassId) (dI : Nat → Nat → Nat) (cA : Nat → ClassId) (b : Nat) (σ : Hp) (a1 : Int32) (a2 : Int64)  : CT l dC dI cA b yX7_append cX7_append 5 none 1 [.ref (b + 1), .int a1, .long a2] σ rvV (f_X7_append σ a1 a2) := CT_of [(0, .ref (b + 1)), (1, .int a1), (2, .long a2)] (by decide +kernel) rfl (Nat.le_of_ble_eq_true rfl) rfl (fun E _ C D _ _ _ => vj_X7_append_0 C D σ a1 a2 )
set_option maxRecDepth 4000 in
theorem vj_X8_write_0 {E : Ev} {b : Nat} (C : CX E RX8 cX8_write 4 2) (D : CR E (some .int))    (σ : Hp) (a1 : Int32) (a2 : Int64)  : VJ rvI (QM E b) E b 4 σ 0 [(0, .ref (b + 0)), (1, .int a1), (2, .long a2)] [] (f_X8_write σ a1 a2) := by
  unfold f_X8_write
  refine V_iload_n C dX8_write_0 rfl 1 rfl ?_
  refine V_iconst (v := (1 : Int32)) C dX8_write_1 (by decide) ?_
  refine V_icmp_lt (tgt := 11) C dX8_write_2 (by decide) ?_ ?_
  · refine V_bipush (v := (-2 : Int32)) C dX8_write_11 (by decide) ?_
    exact V_iret C D dX8_write_13
  · refine V_iload_n C dX8_write_5 rfl 1 rfl ?_
    refine V_bipush (v := (8 : Int32)) C dX8_write_6 (by decide) ?_
    refine V_icmp_le (tgt := 14) C dX8_write_8 (by decide) ?_ ?_
    · refine V_iload_n C dX8_write_14 rfl 1 rfl ?_
      refine V_bipush (v := (48 : Int32)) C dX8_write_15 (by decide) ?_
      refine V_aload_n C dX8_write_17 rfl 0 rfl ?_
      refine gf_RX8_10 C (ln0) ly0 rfl dX8_write_18 ?_
      refine gf_RX8_76 C (ln1) ly1 rfl dX8_write_21 ?_
      refine V_isub C dX8_write_24 ?_
      refine V_icmp_le (tgt := 31) C dX8_write_25 (by decide) ?_ ?_
      · refine V_aload_n C dX8_write_31 rfl 0 rfl ?_
        refine gf_RX8_10 C (ln0) ly0 rfl dX8_write_32 ?_
        refine V_iload_n C dX8_write_35 rfl 1 rfl ?_
        refine V_lload_n C dX8_write_36 rfl 2 rfl ?_
        refine cv_RX8_80 C (ln1) ly1 (ct_X7_append _ _ _ _ _ σ a1 a2) (by decide) rfl rfl (Nat.le_of_ble_eq_true rfl) dX8_write_37 (fun r1 σ2 => ?_)
        refine V_aload_n C dX8_write_40 rfl 0 rfl ?_
        refine gf_RX8_10 C (ln0) ly0 rfl dX8_write_41 ?_
        refine gf_RX8_76 C (ln1) ly1 rfl dX8_write_44 ?_
        exact V_iret C D dX8_write_47
      · refine V_bipush (v := (-4 : Int32)) C dX8_write_28 (by decide) ?_
        exact V_iret C D dX8_write_30
    · refine V_bipush (v := (-2 : Int32)) C dX8_write_11 (by decide) ?_
      exact V_iret C D dX8_write_13

theorem ct_X8_write (l : Launch) (dC : Nat → ClassId) (dI : Nat → Nat → Nat) (cA : Nat → ClassId) (b : Nat) (σ : Hp) (a1 : Int32) (a2 : Int64)  : CT l dC dI cA b yX8_write cX8_write 4 (some .int) 2 [.ref (b + 0), .int a1, .long a2] σ rvI (f_X8_write σ a1 a2) := CT_of [(0, .ref (b + 0)), (1, .int a1), (2, .long a2)] (by decide +kernel) rfl (Nat.le_of_ble_eq_true rfl) rfl (fun E _ C D _ _ _ => vj_X8_write_0 C D σ a1 a2 )
set_option maxRecDepth 4000 in
theorem vj_X8_wipe_0 {E : Ev} {b : Nat} (C : CX E RX8 cX8_wipe 2 1) (D : CR E (some .int))    (σ : Hp)   : VJ rvI (QM E b) E b 2 σ 0 [(0, .ref (b + 0))] [] (f_X8_wipe σ ) := by
  unfold f_X8_wipe
  refine V_aload_n C dX8_wipe_0 rfl 0 rfl ?_
  refine gf_RX8_10 C (ln0) ly0 rfl dX8_wipe_1 ?_
  refine gf_RX8_76 C (ln1) ly1 rfl dX8_wipe_4 ?_
  refine V_ltI (fun v1 => ?_)
  refine V_istore_n (L' := [(1, .int v1), (0, .ref (b + 0))]) C dX8_wipe_7 rfl (by decide) rfl ?_
  refine V_aload_n C dX8_wipe_8 rfl 1 rfl ?_
  refine gf_RX8_10 C (ln0) ly0 rfl dX8_wipe_9 ?_
  refine V_iconst (v := (0 : Int32)) C dX8_wipe_12 (by decide) ?_
  refine pf_RX8_76 C (ln1) ly1 rfl dX8_wipe_13 (fun σ2 => ?_)
  refine V_iload_n C dX8_wipe_16 rfl 0 rfl ?_
  exact V_iret C D dX8_wipe_17

theorem ct_X8_wipe (l : Launch) (dC : Nat → ClassId) (dI : Nat → Nat → Nat) (cA : Nat → ClassId) (b : Nat) (σ : Hp)   : CT l dC dI cA b yX8_wipe cX8_wipe 2 (some .int) 1 [.ref (b + 0)] σ rvI (f_X8_wipe σ ) := CT_of [(0, .ref (b + 0))] (by decide +kernel) rfl (Nat.le_of_ble_eq_true rfl) rfl (fun E _ C D _ _ _ => vj_X8_wipe_0 C D σ  )
set_option maxRecDepth 4000 in
theorem vj_X8_fault_0 {E : Ev} {b : Nat} (C : CX E RX8 cX8_fault 1 6) (D : CR E (some .int))    (σ : Hp)   : VJ rvI (QM E b) E b 1 σ 0 [(0, .ref (b + 0))] [] (f_X8_fault σ ) := by
  unfold f_X8_fault
  refine V_aload_n C dX8_fault_0 rfl 0 rfl ?_
  refine gf_RX8_21 C (ln0) ly0 rfl dX8_fault_1 ?_
  refine cv_RX8_84 C (ln3) ly3 (ct_X3_read _ _ _ _ _ σ ) (by decide) rfl rfl (Nat.le_of_ble_eq_true rfl) dX8_fault_4 (fun r1 σ2 => ?_)
  exact V_iret C D dX8_fault_7

theorem ct_X8_fault (l : Launch) (dC : Nat → ClassId) (dI : Nat → Nat → Nat) (cA : Nat → ClassId) (b : Nat) (σ : Hp)   : CT l dC dI cA b yX8_fault cX8_fault 1 (some .int) 6 [.ref (b + 0)] σ rvI (f_X8_fault σ ) := CT_of [(0, .ref (b + 0))] (by decide +kernel) rfl (Nat.le_of_ble_eq_true rfl) rfl (fun E _ C D _ _ _ => vj_X8_fault_0 C D σ  )
set_option maxRecDepth 4000 in
theorem vj_X8_fortress_68 {E : Ev} {b : Nat} (C : CX E RX8 cX8_fortress 2 6) (D : CR E (some .int))    : ∀ (n : Nat) (σ : Hp) (x1 : Int32) , VJ rvI (QM E b) E b 2 σ 68 [(0, .ref (b + 0)), (1, .int x1)] [] (f_X8_fortress_68 n σ x1)
  | 0, σ, x1 => V_none
  | n + 1, σ, x1 => by
    show VJ rvI (QM E b) E b 2 σ 68 [(0, .ref (b + 0)), (1, .int x1)] [] (if (2 : Int32) ≤ x1 then (
          some ((σ 11 1), σ))
        else (
          ck x1 2 <|
          Lt (wr σ (120 + 7 * ix x1) 2 (0 : Int32)) fun σ2 =>
          Lt (x1 + (1 : Int32)) fun v3 =>
          f_X8_fortress_68 n σ2 v3))
    have ih := vj_X8_fortress_68 (b := b) C D   n
    refine V_iload_n C dX8_fortress_68 rfl 1 rfl ?_
    refine V_iconst (v := (2 : Int32)) C dX8_fortress_69 (by decide) ?_
    refine V_icmp_ge (tgt := 89) C dX8_fortress_70 (by decide) ?_ ?_
    · refine V_aload_n C dX8_fortress_89 rfl 0 rfl ?_
      refine gf_RX8_28 C (ln0) ly0 rfl dX8_fortress_90 ?_
      refine gf_RX8_114 C (ln11) ly11 rfl dX8_fortress_93 ?_
      exact V_iret C D dX8_fortress_96
    · refine V_aload_n C dX8_fortress_73 rfl 0 rfl ?_
      refine gf_RX8_71 C (ln0) ly0 rfl dX8_fortress_74 ?_
      refine V_iload_n C dX8_fortress_77 rfl 1 rfl ?_
      refine V_aald (Cn := "SleepByRation$Slot") C (ln119) ly119 (fun _ => rfl) dX8_fortress_78 (fun h1 => ?_)
      refine V_iconst (v := (0 : Int32)) C dX8_fortress_79 (by decide) ?_
      refine pf_RX8_110 C (slN (spA h1)) (sl0 (spA h1)) rfl rfl rfl dX8_fortress_80 (fun σ2 => ?_)
      refine V_iinc (k := 1) (v := (1 : Int32)) (L' := fun v3 => [(1, .int v3), (0, .ref (b + 0))]) C dX8_fortress_83 rfl (by decide) (by decide) (fun _ => rfl) (fun v3 => ?_)
      refine V_goto (tgt := 68) C dX8_fortress_86 (by decide) ?_
      exact V_sub [1, 0] rfl (ih σ2 v3)

set_option maxRecDepth 4000 in
theorem vj_X8_fortress_0 {E : Ev} {b : Nat} (C : CX E RX8 cX8_fortress 2 6) (D : CR E (some .int))    (σ : Hp)   : VJ rvI (QM E b) E b 2 σ 0 [(0, .ref (b + 0))] [] (f_X8_fortress σ ) := by
  unfold f_X8_fortress
  refine V_aload_n C dX8_fortress_0 rfl 0 rfl ?_
  refine gf_RX8_21 C (ln0) ly0 rfl dX8_fortress_1 ?_
  refine cv_RX8_84 C (ln3) ly3 (ct_X3_read _ _ _ _ _ σ ) (by decide) rfl rfl (Nat.le_of_ble_eq_true rfl) dX8_fortress_4 (fun r1 σ2 => ?_)
  refine V_bipush (v := (-9 : Int32)) C dX8_fortress_7 (by decide) ?_
  refine V_icmp_eq (tgt := 15) C dX8_fortress_9 (by decide) ?_ ?_
  · refine V_aload_n C dX8_fortress_15 rfl 0 rfl ?_
    refine gf_RX8_28 C (ln0) ly0 rfl dX8_fortress_16 ?_
    refine V_aload_n C dX8_fortress_19 rfl 0 rfl ?_
    refine gf_RX8_21 C (ln0) ly0 rfl dX8_fortress_20 ?_
    refine gf_RX8_88 C (ln3) ly3 rfl dX8_fortress_23 ?_
    refine cv_RX8_89 C (ln11) ly11 (ct_X2_copyFrom _ _ _ _ _ σ2 11 4 cP_11 cP_4) (by decide) rfl rfl (Nat.le_of_ble_eq_true rfl) dX8_fortress_26 (fun r3 σ4 => ?_)
    refine V_aload_n C dX8_fortress_29 rfl 0 rfl ?_
    refine gf_RX8_37 C (ln0) ly0 rfl dX8_fortress_30 ?_
    refine V_aload_n C dX8_fortress_33 rfl 0 rfl ?_
    refine gf_RX8_21 C (ln0) ly0 rfl dX8_fortress_34 ?_
    refine gf_RX8_92 C (ln3) ly3 rfl dX8_fortress_37 ?_
    refine cv_RX8_95 C (ln13) ly13 (ct_X4_copyFrom _ _ _ _ _ σ4 13 6 rP_13 rP_6) (by decide) rfl rfl (Nat.le_of_ble_eq_true rfl) dX8_fortress_40 (fun r5 σ6 => ?_)
    refine V_aload_n C dX8_fortress_43 rfl 0 rfl ?_
    refine gf_RX8_44 C (ln0) ly0 rfl dX8_fortress_44 ?_
    refine V_iconst (v := (0 : Int32)) C dX8_fortress_47 (by decide) ?_
    refine cs_RX8_98 C (ct_J7_fill_53178 _ _ _ _ _ σ6 23 4 (0 : Int32) ⟨(ln23), ly23⟩) (by decide) rfl rfl (Nat.le_of_ble_eq_true rfl) dX8_fortress_48 (fun r7 σ8 => ?_)
    refine V_aload_n C dX8_fortress_51 rfl 0 rfl ?_
    refine gf_RX8_51 C (ln0) ly0 rfl dX8_fortress_52 ?_
    refine V_iconst (v := (0 : Int32)) C dX8_fortress_55 (by decide) ?_
    refine pf_RX8_104 C (ln24) ly24 rfl dX8_fortress_56 (fun σ9 => ?_)
    refine V_aload_n C dX8_fortress_59 rfl 0 rfl ?_
    refine gf_RX8_58 C (ln0) ly0 rfl dX8_fortress_60 ?_
    refine cv_RX8_107 C (ln86) ly86 (ct_X5_forget _ _ _ _ _ σ9 ) (by decide) rfl rfl (Nat.le_of_ble_eq_true rfl) dX8_fortress_63 (fun r10 σ11 => ?_)
    refine V_iconst (v := (0 : Int32)) C dX8_fortress_66 (by decide) ?_
    refine V_istore_n (L' := [(1, .int (0 : Int32)), (0, .ref (b + 0))]) C dX8_fortress_67 rfl (by decide) rfl ?_
    exact V_sub [1, 0] rfl (vj_X8_fortress_68 C D FU σ11 (0 : Int32))
  · refine V_bipush (v := (-3 : Int32)) C dX8_fortress_12 (by decide) ?_
    exact V_iret C D dX8_fortress_14

theorem ct_X8_fortress (l : Launch) (dC : Nat → ClassId) (dI : Nat → Nat → Nat) (cA : Nat → ClassId) (b : Nat) (σ : Hp)   : CT l dC dI cA b yX8_fortress cX8_fortress 2 (some .int) 6 [.ref (b + 0)] σ rvI (f_X8_fortress σ ) := CT_of [(0, .ref (b + 0))] (by decide +kernel) rfl (Nat.le_of_ble_eq_true rfl) rfl (fun E _ C D _ _ _ => vj_X8_fortress_0 C D σ  )
set_option maxRecDepth 4000 in
theorem vj_X8_about_0 {E : Ev} {b : Nat} (C : CX E RX8 cX8_about 2 2) (D : CR E (some .int))    (σ : Hp) (a1 : Int32)  : VJ rvI (QM E b) E b 2 σ 0 [(0, .ref (b + 0)), (1, .int a1)] [] (f_X8_about σ a1) := by
  unfold f_X8_about
  refine V_iload_n C dX8_about_0 rfl 1 rfl ?_
  refine V_table (dt := 148) C dX8_about_1 rfl (by decide) ?_ ?_
  · refine V_bipush (v := (-2 : Int32)) C dX8_about_148 (by decide) ?_
    exact V_iret C D dX8_about_150
  · intro k X hX
    match k, hX with
    | 0, hX =>
      cases hX
      refine ⟨59, 60, rfl, by decide, ?_⟩
      refine V_aload_n C dX8_about_60 rfl 0 rfl ?_
      refine gf_RX8_28 C (ln0) ly0 rfl dX8_about_61 ?_
      refine gf_RX8_114 C (ln11) ly11 rfl dX8_about_64 ?_
      exact V_iret C D dX8_about_67
    | 1, hX =>
      cases hX
      refine ⟨67, 68, rfl, by decide, ?_⟩
      refine V_aload_n C dX8_about_68 rfl 0 rfl ?_
      refine gf_RX8_28 C (ln0) ly0 rfl dX8_about_69 ?_
      refine gf_RX8_117 C (ln11) ly11 rfl dX8_about_72 ?_
      exact V_iret C D dX8_about_75
    | 2, hX =>
      cases hX
      refine ⟨75, 76, rfl, by decide, ?_⟩
      refine V_aload_n C dX8_about_76 rfl 0 rfl ?_
      refine gf_RX8_28 C (ln0) ly0 rfl dX8_about_77 ?_
      refine gf_RX8_120 C (ln11) ly11 rfl dX8_about_80 ?_
      exact V_iret C D dX8_about_83
    | 3, hX =>
      cases hX
      refine ⟨83, 84, rfl, by decide, ?_⟩
      refine V_aload_n C dX8_about_84 rfl 0 rfl ?_
      refine gf_RX8_37 C (ln0) ly0 rfl dX8_about_85 ?_
      refine gf_RX8_123 C (ln13) ly13 rfl dX8_about_88 ?_
      exact V_iret C D dX8_about_91
    | 4, hX =>
      cases hX
      refine ⟨91, 92, rfl, by decide, ?_⟩
      refine V_aload_n C dX8_about_92 rfl 0 rfl ?_
      refine gf_RX8_37 C (ln0) ly0 rfl dX8_about_93 ?_
      refine gf_RX8_126 C (ln13) ly13 rfl dX8_about_96 ?_
      exact V_iret C D dX8_about_99
    | 5, hX =>
      cases hX
      refine ⟨99, 100, rfl, by decide, ?_⟩
      refine V_aload_n C dX8_about_100 rfl 0 rfl ?_
      refine gf_RX8_37 C (ln0) ly0 rfl dX8_about_101 ?_
      refine gf_RX8_129 C (ln13) ly13 rfl dX8_about_104 ?_
      exact V_iret C D dX8_about_107
    | 6, hX =>
      cases hX
      refine ⟨107, 108, rfl, by decide, ?_⟩
      refine V_aload_n C dX8_about_108 rfl 0 rfl ?_
      refine gf_RX8_37 C (ln0) ly0 rfl dX8_about_109 ?_
      refine gf_RX8_132 C (ln13) ly13 rfl dX8_about_112 ?_
      exact V_iret C D dX8_about_115
    | 7, hX =>
      cases hX
      refine ⟨115, 116, rfl, by decide, ?_⟩
      refine V_aload_n C dX8_about_116 rfl 0 rfl ?_
      refine gf_RX8_37 C (ln0) ly0 rfl dX8_about_117 ?_
      refine cv_RX8_135 C (ln13) ly13 (ct_X4_tiredOfAll _ _ _ _ _ σ 13 rP_13) (by decide) rfl rfl (Nat.le_of_ble_eq_true rfl) dX8_about_120 (fun r1 σ2 => ?_)
      exact V_iret C D dX8_about_123
    | 8, hX =>
      cases hX
      refine ⟨123, 124, rfl, by decide, ?_⟩
      refine V_aload_n C dX8_about_124 rfl 0 rfl ?_
      refine gf_RX8_51 C (ln0) ly0 rfl dX8_about_125 ?_
      refine gf_RX8_104 C (ln24) ly24 rfl dX8_about_128 ?_
      exact V_iret C D dX8_about_131
    | 9, hX =>
      cases hX
      refine ⟨131, 132, rfl, by decide, ?_⟩
      refine V_aload_n C dX8_about_132 rfl 0 rfl ?_
      refine gf_RX8_65 C (ln0) ly0 rfl dX8_about_133 ?_
      refine gf_RX8_138 C (ln115) ly115 rfl dX8_about_136 ?_
      exact V_iret C D dX8_about_139
    | 10, hX =>
      cases hX
      refine ⟨139, 140, rfl, by decide, ?_⟩
      refine V_aload_n C dX8_about_140 rfl 0 rfl ?_
      refine gf_RX8_10 C (ln0) ly0 rfl dX8_about_141 ?_
      refine gf_RX8_76 C (ln1) ly1 rfl dX8_about_144 ?_
      exact V_iret C D dX8_about_147
    | (k + 11), hX => simp at hX

theorem ct_X8_about (l : Launch) (dC : Nat → ClassId) (dI : Nat → Nat → Nat) (cA : Nat → ClassId) (b : Nat) (σ : Hp) (a1 : Int32)  : CT l dC dI cA b yX8_about cX8_about 2 (some .int) 2 [.ref (b + 0), .int a1] σ rvI (f_X8_about σ a1) := CT_of [(0, .ref (b + 0)), (1, .int a1)] (by decide +kernel) rfl (Nat.le_of_ble_eq_true rfl) rfl (fun E _ C D _ _ _ => vj_X8_about_0 C D σ a1 )
set_option maxRecDepth 4000 in
theorem vj_X8_guard_0 {E : Ev} {b : Nat} (C : CX E RX8 cX8_guard 3 2) (D : CR E (some .int))    (σ : Hp) (a1 : Int32) (a2 : Int32)  : VJ rvI (QM E b) E b 3 σ 0 [(0, .ref (b + 0)), (1, .int a1), (2, .int a2)] [] (f_X8_guard σ a1 a2) := by
  unfold f_X8_guard
  refine V_aload_n C dX8_guard_0 rfl 0 rfl ?_
  refine gf_RX8_28 C (ln0) ly0 rfl dX8_guard_1 ?_
  refine V_iload_n C dX8_guard_4 rfl 1 rfl ?_
  refine cv_RX8_141 C (ln11) ly11 (ct_X2_has _ _ _ _ _ σ 11 a1 cP_11) (by decide) rfl rfl (Nat.le_of_ble_eq_true rfl) dX8_guard_5 (fun r1 σ2 => ?_)
  refine V_if_ne (tgt := 13) C dX8_guard_8 (by decide) ?_ ?_
  · refine V_iload_n C dX8_guard_13 rfl 2 rfl ?_
    refine V_table (dt := 130) C dX8_guard_14 rfl (by decide) ?_ ?_
    · refine V_bipush (v := (-2 : Int32)) C dX8_guard_130 (by decide) ?_
      exact V_iret C D dX8_guard_132
    · intro k X hX
      match k, hX with
      | 0, hX =>
        cases hX
        refine ⟨42, 56, rfl, by decide, ?_⟩
        refine V_aload_n C dX8_guard_56 rfl 0 rfl ?_
        refine gf_RX8_37 C (ln0) ly0 rfl dX8_guard_57 ?_
        refine gf_RX8_145 C (ln13) ly13 rfl dX8_guard_60 ?_
        refine V_iload_n C dX8_guard_63 rfl 1 rfl ?_
        refine V_iald C (ln14) ly14 dX8_guard_64 ?_
        exact V_iret C D dX8_guard_65
      | 1, hX =>
        cases hX
        refine ⟨52, 66, rfl, by decide, ?_⟩
        refine V_aload_n C dX8_guard_66 rfl 0 rfl ?_
        refine gf_RX8_37 C (ln0) ly0 rfl dX8_guard_67 ?_
        refine gf_RX8_148 C (ln13) ly13 rfl dX8_guard_70 ?_
        refine V_iload_n C dX8_guard_73 rfl 1 rfl ?_
        refine V_iald C (ln15) ly15 dX8_guard_74 ?_
        exact V_iret C D dX8_guard_75
      | 2, hX =>
        cases hX
        refine ⟨62, 76, rfl, by decide, ?_⟩
        refine V_aload_n C dX8_guard_76 rfl 0 rfl ?_
        refine gf_RX8_37 C (ln0) ly0 rfl dX8_guard_77 ?_
        refine gf_RX8_151 C (ln13) ly13 rfl dX8_guard_80 ?_
        refine V_iload_n C dX8_guard_83 rfl 1 rfl ?_
        refine V_iald C (ln16) ly16 dX8_guard_84 ?_
        exact V_iret C D dX8_guard_85
      | 3, hX =>
        cases hX
        refine ⟨72, 86, rfl, by decide, ?_⟩
        refine V_aload_n C dX8_guard_86 rfl 0 rfl ?_
        refine gf_RX8_37 C (ln0) ly0 rfl dX8_guard_87 ?_
        refine gf_RX8_129 C (ln13) ly13 rfl dX8_guard_90 ?_
        refine V_iload_n C dX8_guard_93 rfl 1 rfl ?_
        refine V_ishr C dX8_guard_94 ?_
        refine V_iconst (v := (1 : Int32)) C dX8_guard_95 (by decide) ?_
        refine V_iand C dX8_guard_96 ?_
        exact V_iret C D dX8_guard_97
      | 4, hX =>
        cases hX
        refine ⟨84, 98, rfl, by decide, ?_⟩
        refine V_aload_n C dX8_guard_98 rfl 0 rfl ?_
        refine gf_RX8_37 C (ln0) ly0 rfl dX8_guard_99 ?_
        refine gf_RX8_132 C (ln13) ly13 rfl dX8_guard_102 ?_
        refine V_iload_n C dX8_guard_105 rfl 1 rfl ?_
        refine V_ishr C dX8_guard_106 ?_
        refine V_iconst (v := (1 : Int32)) C dX8_guard_107 (by decide) ?_
        refine V_iand C dX8_guard_108 ?_
        exact V_iret C D dX8_guard_109
      | 5, hX =>
        cases hX
        refine ⟨96, 110, rfl, by decide, ?_⟩
        refine V_aload_n C dX8_guard_110 rfl 0 rfl ?_
        refine gf_RX8_28 C (ln0) ly0 rfl dX8_guard_111 ?_
        refine gf_RX8_154 C (ln11) ly11 rfl dX8_guard_114 ?_
        refine V_iload_n C dX8_guard_117 rfl 1 rfl ?_
        refine V_iald C (ln12) ly12 dX8_guard_118 ?_
        exact V_iret C D dX8_guard_119
      | 6, hX =>
        cases hX
        refine ⟨106, 120, rfl, by decide, ?_⟩
        refine V_aload_n C dX8_guard_120 rfl 0 rfl ?_
        refine gf_RX8_37 C (ln0) ly0 rfl dX8_guard_121 ?_
        refine gf_RX8_157 C (ln13) ly13 rfl dX8_guard_124 ?_
        refine V_iload_n C dX8_guard_127 rfl 1 rfl ?_
        refine V_iald C (ln17) ly17 dX8_guard_128 ?_
        exact V_iret C D dX8_guard_129
      | (k + 7), hX => simp at hX
  · refine V_iconst (v := (-1 : Int32)) C dX8_guard_11 (by decide) ?_
    exact V_iret C D dX8_guard_12

theorem ct_X8_guard (l : Launch) (dC : Nat → ClassId) (dI : Nat → Nat → Nat) (cA : Nat → ClassId) (b : Nat) (σ : Hp) (a1 : Int32) (a2 : Int32)  : CT l dC dI cA b yX8_guard cX8_guard 3 (some .int) 2 [.ref (b + 0), .int a1, .int a2] σ rvI (f_X8_guard σ a1 a2) := CT_of [(0, .ref (b + 0)), (1, .int a1), (2, .int a2)] (by decide +kernel) rfl (Nat.le_of_ble_eq_true rfl) rfl (fun E _ C D _ _ _ => vj_X8_guard_0 C D σ a1 a2 )
set_option maxRecDepth 4000 in
theorem vj_X8_sick_44 {E : Ev} {b : Nat} (C : CX E RX8 cX8_sick 4 2) (D : CR E (some .int))    (σ : Hp) (x3 : Int32) (s0 : Int32)  : VJ rvI (QM E b) E b 4 σ 44 [(0, .ref (b + 0)), (3, .int x3)] [.int s0, .ref (b + 13)] (f_X8_sick_44 σ x3 s0) := by
  unfold f_X8_sick_44
  refine pf_RX8_132 C (ln13) ly13 rfl dX8_sick_44 (fun σ1 => ?_)
  refine V_aload_n C dX8_sick_47 rfl 0 rfl ?_
  refine gf_RX8_37 C (ln0) ly0 rfl dX8_sick_48 ?_
  refine gf_RX8_132 C (ln13) ly13 rfl dX8_sick_51 ?_
  refine V_iload_n C dX8_sick_54 rfl 1 rfl ?_
  refine V_icmp_ne (tgt := 62) C dX8_sick_55 (by decide) ?_ ?_
  · refine V_iconst (v := (1 : Int32)) C dX8_sick_62 (by decide) ?_
    exact V_iret C D dX8_sick_63
  · refine V_iconst (v := (0 : Int32)) C dX8_sick_58 (by decide) ?_
    refine V_goto (tgt := 63) C dX8_sick_59 (by decide) ?_
    exact V_iret C D dX8_sick_63

set_option maxRecDepth 4000 in
theorem vj_X8_sick_0 {E : Ev} {b : Nat} (C : CX E RX8 cX8_sick 4 2) (D : CR E (some .int))    (σ : Hp) (a1 : Int32) (a2 : Int32)  : VJ rvI (QM E b) E b 4 σ 0 [(0, .ref (b + 0)), (1, .int a1), (2, .int a2)] [] (f_X8_sick σ a1 a2) := by
  unfold f_X8_sick
  refine V_aload_n C dX8_sick_0 rfl 0 rfl ?_
  refine gf_RX8_28 C (ln0) ly0 rfl dX8_sick_1 ?_
  refine V_iload_n C dX8_sick_4 rfl 1 rfl ?_
  refine cv_RX8_141 C (ln11) ly11 (ct_X2_has _ _ _ _ _ σ 11 a1 cP_11) (by decide) rfl rfl (Nat.le_of_ble_eq_true rfl) dX8_sick_5 (fun r1 σ2 => ?_)
  refine V_if_ne (tgt := 13) C dX8_sick_8 (by decide) ?_ ?_
  · refine V_aload_n C dX8_sick_13 rfl 0 rfl ?_
    refine gf_RX8_37 C (ln0) ly0 rfl dX8_sick_14 ?_
    refine gf_RX8_132 C (ln13) ly13 rfl dX8_sick_17 ?_
    refine V_ltI (fun v3 => ?_)
    refine V_istore_n (L' := [(3, .int v3), (0, .ref (b + 0)), (1, .int a1), (2, .int a2)]) C dX8_sick_20 rfl (by decide) rfl ?_
    refine V_aload_n C dX8_sick_21 rfl 1 rfl ?_
    refine gf_RX8_37 C (ln0) ly0 rfl dX8_sick_22 ?_
    refine V_iload_n C dX8_sick_25 rfl 3 rfl ?_
    refine V_if_eq (tgt := 37) C dX8_sick_26 (by decide) ?_ ?_
    · refine V_iload_n C dX8_sick_37 rfl 0 rfl ?_
      refine V_iconst (v := (1 : Int32)) C dX8_sick_38 (by decide) ?_
      refine V_iload_n C dX8_sick_39 rfl 2 rfl ?_
      refine V_ishl C dX8_sick_40 ?_
      refine V_iconst (v := (-1 : Int32)) C dX8_sick_41 (by decide) ?_
      refine V_ixor C dX8_sick_42 ?_
      refine V_iand C dX8_sick_43 ?_
      exact V_sub [1, 0] rfl (vj_X8_sick_44 C D σ2 v3 (v3 &&& (((1 : Int32) <<< (a1 &&& 31)) ^^^ (-1 : Int32))))
    · refine V_iload_n C dX8_sick_29 rfl 0 rfl ?_
      refine V_iconst (v := (1 : Int32)) C dX8_sick_30 (by decide) ?_
      refine V_iload_n C dX8_sick_31 rfl 2 rfl ?_
      refine V_ishl C dX8_sick_32 ?_
      refine V_ior C dX8_sick_33 ?_
      refine V_goto (tgt := 44) C dX8_sick_34 (by decide) ?_
      exact V_sub [1, 0] rfl (vj_X8_sick_44 C D σ2 v3 (v3 ||| ((1 : Int32) <<< (a1 &&& 31))))
  · refine V_iconst (v := (-1 : Int32)) C dX8_sick_11 (by decide) ?_
    exact V_iret C D dX8_sick_12

theorem ct_X8_sick (l : Launch) (dC : Nat → ClassId) (dI : Nat → Nat → Nat) (cA : Nat → ClassId) (b : Nat) (σ : Hp) (a1 : Int32) (a2 : Int32)  : CT l dC dI cA b yX8_sick cX8_sick 4 (some .int) 2 [.ref (b + 0), .int a1, .int a2] σ rvI (f_X8_sick σ a1 a2) := CT_of [(0, .ref (b + 0)), (1, .int a1), (2, .int a2)] (by decide +kernel) rfl (Nat.le_of_ble_eq_true rfl) rfl (fun E _ C D _ _ _ => vj_X8_sick_0 C D σ a1 a2 )
set_option maxRecDepth 4000 in
theorem vj_X8_hand_0 {E : Ev} {b : Nat} (C : CX E RX8 cX8_hand 4 2) (D : CR E (some .int))    (σ : Hp) (a1 : Int32) (a2 : Int32) (a3 : Int32)  : VJ rvI (QM E b) E b 4 σ 0 [(0, .ref (b + 0)), (1, .int a1), (2, .int a2), (3, .int a3)] [] (f_X8_hand σ a1 a2 a3) := by
  unfold f_X8_hand
  refine V_aload_n C dX8_hand_0 rfl 0 rfl ?_
  refine gf_RX8_28 C (ln0) ly0 rfl dX8_hand_1 ?_
  refine V_iload_n C dX8_hand_4 rfl 1 rfl ?_
  refine cv_RX8_141 C (ln11) ly11 (ct_X2_has _ _ _ _ _ σ 11 a1 cP_11) (by decide) rfl rfl (Nat.le_of_ble_eq_true rfl) dX8_hand_5 (fun r1 σ2 => ?_)
  refine V_if_eq (tgt := 22) C dX8_hand_8 (by decide) ?_ ?_
  · refine V_iconst (v := (-1 : Int32)) C dX8_hand_22 (by decide) ?_
    exact V_iret C D dX8_hand_23
  · refine V_aload_n C dX8_hand_11 rfl 0 rfl ?_
    refine gf_RX8_28 C (ln0) ly0 rfl dX8_hand_12 ?_
    refine V_iload_n C dX8_hand_15 rfl 2 rfl ?_
    refine cv_RX8_141 C (ln11) ly11 (ct_X2_has _ _ _ _ _ σ2 11 a2 cP_11) (by decide) rfl rfl (Nat.le_of_ble_eq_true rfl) dX8_hand_16 (fun r3 σ4 => ?_)
    refine V_if_ne (tgt := 24) C dX8_hand_19 (by decide) ?_ ?_
    · refine V_iload_n C dX8_hand_24 rfl 1 rfl ?_
      refine V_iload_n C dX8_hand_25 rfl 2 rfl ?_
      refine V_icmp_eq (tgt := 40) C dX8_hand_26 (by decide) ?_ ?_
      · refine V_bipush (v := (-2 : Int32)) C dX8_hand_40 (by decide) ?_
        exact V_iret C D dX8_hand_42
      · refine V_iload_n C dX8_hand_29 rfl 3 rfl ?_
        refine V_iconst (v := (1 : Int32)) C dX8_hand_30 (by decide) ?_
        refine V_icmp_lt (tgt := 40) C dX8_hand_31 (by decide) ?_ ?_
        · refine V_bipush (v := (-2 : Int32)) C dX8_hand_40 (by decide) ?_
          exact V_iret C D dX8_hand_42
        · refine V_iload_n C dX8_hand_34 rfl 3 rfl ?_
          refine V_bipush (v := (9 : Int32)) C dX8_hand_35 (by decide) ?_
          refine V_icmp_le (tgt := 43) C dX8_hand_37 (by decide) ?_ ?_
          · refine V_aload_n C dX8_hand_43 rfl 0 rfl ?_
            refine gf_RX8_37 C (ln0) ly0 rfl dX8_hand_44 ?_
            refine gf_RX8_148 C (ln13) ly13 rfl dX8_hand_47 ?_
            refine V_iload_n C dX8_hand_50 rfl 1 rfl ?_
            refine V_iald C (ln15) ly15 dX8_hand_51 ?_
            refine V_iload_n C dX8_hand_52 rfl 3 rfl ?_
            refine V_icmp_ge (tgt := 59) C dX8_hand_53 (by decide) ?_ ?_
            · refine V_aload_n C dX8_hand_59 rfl 0 rfl ?_
              refine gf_RX8_37 C (ln0) ly0 rfl dX8_hand_60 ?_
              refine gf_RX8_148 C (ln13) ly13 rfl dX8_hand_63 ?_
              refine V_iload_n C dX8_hand_66 rfl 2 rfl ?_
              refine V_iald C (ln15) ly15 dX8_hand_67 ?_
              refine V_iload_n C dX8_hand_68 rfl 3 rfl ?_
              refine V_iadd C dX8_hand_69 ?_
              refine V_bipush (v := (9 : Int32)) C dX8_hand_70 (by decide) ?_
              refine V_icmp_le (tgt := 78) C dX8_hand_72 (by decide) ?_ ?_
              · refine V_aload_n C dX8_hand_78 rfl 0 rfl ?_
                refine gf_RX8_37 C (ln0) ly0 rfl dX8_hand_79 ?_
                refine gf_RX8_148 C (ln13) ly13 rfl dX8_hand_82 ?_
                refine V_iload_n C dX8_hand_85 rfl 1 rfl ?_
                refine V_dup2 C dX8_hand_86 rfl rfl ?_
                refine V_iald C (ln15) ly15 dX8_hand_87 ?_
                refine V_iload_n C dX8_hand_88 rfl 3 rfl ?_
                refine V_isub C dX8_hand_89 ?_
                refine V_iast C (ln15) ly15 dX8_hand_90 (fun σ5 => ?_)
                refine V_aload_n C dX8_hand_91 rfl 0 rfl ?_
                refine gf_RX8_37 C (ln0) ly0 rfl dX8_hand_92 ?_
                refine gf_RX8_148 C (ln13) ly13 rfl dX8_hand_95 ?_
                refine V_iload_n C dX8_hand_98 rfl 2 rfl ?_
                refine V_dup2 C dX8_hand_99 rfl rfl ?_
                refine V_iald C (ln15) ly15 dX8_hand_100 ?_
                refine V_iload_n C dX8_hand_101 rfl 3 rfl ?_
                refine V_iadd C dX8_hand_102 ?_
                refine V_iast C (ln15) ly15 dX8_hand_103 (fun σ6 => ?_)
                refine V_aload_n C dX8_hand_104 rfl 0 rfl ?_
                refine gf_RX8_37 C (ln0) ly0 rfl dX8_hand_105 ?_
                refine gf_RX8_148 C (ln13) ly13 rfl dX8_hand_108 ?_
                refine V_iload_n C dX8_hand_111 rfl 2 rfl ?_
                refine V_iald C (ln15) ly15 dX8_hand_112 ?_
                exact V_iret C D dX8_hand_113
              · refine V_bipush (v := (-4 : Int32)) C dX8_hand_75 (by decide) ?_
                exact V_iret C D dX8_hand_77
            · refine V_bipush (v := (-3 : Int32)) C dX8_hand_56 (by decide) ?_
              exact V_iret C D dX8_hand_58
          · refine V_bipush (v := (-2 : Int32)) C dX8_hand_40 (by decide) ?_
            exact V_iret C D dX8_hand_42
    · refine V_iconst (v := (-1 : Int32)) C dX8_hand_22 (by decide) ?_
      exact V_iret C D dX8_hand_23

theorem ct_X8_hand (l : Launch) (dC : Nat → ClassId) (dI : Nat → Nat → Nat) (cA : Nat → ClassId) (b : Nat) (σ : Hp) (a1 : Int32) (a2 : Int32) (a3 : Int32)  : CT l dC dI cA b yX8_hand cX8_hand 4 (some .int) 2 [.ref (b + 0), .int a1, .int a2, .int a3] σ rvI (f_X8_hand σ a1 a2 a3) := CT_of [(0, .ref (b + 0)), (1, .int a1), (2, .int a2), (3, .int a3)] (by decide +kernel) rfl (Nat.le_of_ble_eq_true rfl) rfl (fun E _ C D _ _ _ => vj_X8_hand_0 C D σ a1 a2 a3 )
set_option maxRecDepth 4000 in
theorem vj_X8_pay_0 {E : Ev} {b : Nat} (C : CX E RX8 cX8_pay 3 2) (D : CR E (some .int))    (σ : Hp) (a1 : Int32) (a2 : Int32)  : VJ rvI (QM E b) E b 3 σ 0 [(0, .ref (b + 0)), (1, .int a1), (2, .int a2)] [] (f_X8_pay σ a1 a2) := by
  unfold f_X8_pay
  refine V_aload_n C dX8_pay_0 rfl 0 rfl ?_
  refine gf_RX8_28 C (ln0) ly0 rfl dX8_pay_1 ?_
  refine V_iload_n C dX8_pay_4 rfl 1 rfl ?_
  refine cv_RX8_141 C (ln11) ly11 (ct_X2_has _ _ _ _ _ σ 11 a1 cP_11) (by decide) rfl rfl (Nat.le_of_ble_eq_true rfl) dX8_pay_5 (fun r1 σ2 => ?_)
  refine V_if_ne (tgt := 13) C dX8_pay_8 (by decide) ?_ ?_
  · refine V_iload_n C dX8_pay_13 rfl 2 rfl ?_
    refine V_iconst (v := (1 : Int32)) C dX8_pay_14 (by decide) ?_
    refine V_icmp_lt (tgt := 24) C dX8_pay_15 (by decide) ?_ ?_
    · refine V_bipush (v := (-2 : Int32)) C dX8_pay_24 (by decide) ?_
      exact V_iret C D dX8_pay_26
    · refine V_iload_n C dX8_pay_18 rfl 2 rfl ?_
      refine V_bipush (v := (9 : Int32)) C dX8_pay_19 (by decide) ?_
      refine V_icmp_le (tgt := 27) C dX8_pay_21 (by decide) ?_ ?_
      · refine V_aload_n C dX8_pay_27 rfl 0 rfl ?_
        refine gf_RX8_37 C (ln0) ly0 rfl dX8_pay_28 ?_
        refine gf_RX8_148 C (ln13) ly13 rfl dX8_pay_31 ?_
        refine V_iload_n C dX8_pay_34 rfl 1 rfl ?_
        refine V_iald C (ln15) ly15 dX8_pay_35 ?_
        refine V_iload_n C dX8_pay_36 rfl 2 rfl ?_
        refine V_icmp_lt (tgt := 53) C dX8_pay_37 (by decide) ?_ ?_
        · refine V_bipush (v := (-3 : Int32)) C dX8_pay_53 (by decide) ?_
          exact V_iret C D dX8_pay_55
        · refine V_aload_n C dX8_pay_40 rfl 0 rfl ?_
          refine gf_RX8_37 C (ln0) ly0 rfl dX8_pay_41 ?_
          refine gf_RX8_151 C (ln13) ly13 rfl dX8_pay_44 ?_
          refine V_iload_n C dX8_pay_47 rfl 1 rfl ?_
          refine V_iald C (ln16) ly16 dX8_pay_48 ?_
          refine V_iload_n C dX8_pay_49 rfl 2 rfl ?_
          refine V_icmp_ge (tgt := 56) C dX8_pay_50 (by decide) ?_ ?_
          · refine V_aload_n C dX8_pay_56 rfl 0 rfl ?_
            refine gf_RX8_37 C (ln0) ly0 rfl dX8_pay_57 ?_
            refine gf_RX8_148 C (ln13) ly13 rfl dX8_pay_60 ?_
            refine V_iload_n C dX8_pay_63 rfl 1 rfl ?_
            refine V_dup2 C dX8_pay_64 rfl rfl ?_
            refine V_iald C (ln15) ly15 dX8_pay_65 ?_
            refine V_iload_n C dX8_pay_66 rfl 2 rfl ?_
            refine V_isub C dX8_pay_67 ?_
            refine V_iast C (ln15) ly15 dX8_pay_68 (fun σ3 => ?_)
            refine V_aload_n C dX8_pay_69 rfl 0 rfl ?_
            refine gf_RX8_37 C (ln0) ly0 rfl dX8_pay_70 ?_
            refine gf_RX8_151 C (ln13) ly13 rfl dX8_pay_73 ?_
            refine V_iload_n C dX8_pay_76 rfl 1 rfl ?_
            refine V_dup2 C dX8_pay_77 rfl rfl ?_
            refine V_iald C (ln16) ly16 dX8_pay_78 ?_
            refine V_iload_n C dX8_pay_79 rfl 2 rfl ?_
            refine V_isub C dX8_pay_80 ?_
            refine V_iast C (ln16) ly16 dX8_pay_81 (fun σ4 => ?_)
            refine V_aload_n C dX8_pay_82 rfl 0 rfl ?_
            refine gf_RX8_37 C (ln0) ly0 rfl dX8_pay_83 ?_
            refine gf_RX8_151 C (ln13) ly13 rfl dX8_pay_86 ?_
            refine V_iload_n C dX8_pay_89 rfl 1 rfl ?_
            refine V_iald C (ln16) ly16 dX8_pay_90 ?_
            exact V_iret C D dX8_pay_91
          · refine V_bipush (v := (-3 : Int32)) C dX8_pay_53 (by decide) ?_
            exact V_iret C D dX8_pay_55
      · refine V_bipush (v := (-2 : Int32)) C dX8_pay_24 (by decide) ?_
        exact V_iret C D dX8_pay_26
  · refine V_iconst (v := (-1 : Int32)) C dX8_pay_11 (by decide) ?_
    exact V_iret C D dX8_pay_12

theorem ct_X8_pay (l : Launch) (dC : Nat → ClassId) (dI : Nat → Nat → Nat) (cA : Nat → ClassId) (b : Nat) (σ : Hp) (a1 : Int32) (a2 : Int32)  : CT l dC dI cA b yX8_pay cX8_pay 3 (some .int) 2 [.ref (b + 0), .int a1, .int a2] σ rvI (f_X8_pay σ a1 a2) := CT_of [(0, .ref (b + 0)), (1, .int a1), (2, .int a2)] (by decide +kernel) rfl (Nat.le_of_ble_eq_true rfl) rfl (fun E _ C D _ _ _ => vj_X8_pay_0 C D σ a1 a2 )
set_option maxRecDepth 4000 in
theorem vj_X8_may_0 {E : Ev} {b : Nat} (C : CX E RX8 cX8_may 2 3) (D : CR E (some .int))    (σ : Hp) (a1 : Int32)  : VJ rvI (QM E b) E b 2 σ 0 [(0, .ref (b + 0)), (1, .int a1)] [] (f_X8_may σ a1) := by
  unfold f_X8_may
  refine V_aload_n C dX8_may_0 rfl 0 rfl ?_
  refine gf_RX8_28 C (ln0) ly0 rfl dX8_may_1 ?_
  refine V_iload_n C dX8_may_4 rfl 1 rfl ?_
  refine cv_RX8_160 C (ln11) ly11 (ct_X2_hasAll _ _ _ _ _ σ 11 a1 cP_11) (by decide) rfl rfl (Nat.le_of_ble_eq_true rfl) dX8_may_5 (fun r1 σ2 => ?_)
  refine V_if_ne (tgt := 14) C dX8_may_8 (by decide) ?_ ?_
  · refine V_aload_n C dX8_may_14 rfl 0 rfl ?_
    refine gf_RX8_37 C (ln0) ly0 rfl dX8_may_15 ?_
    refine V_iload_n C dX8_may_18 rfl 1 rfl ?_
    refine cv_RX8_163 C (ln13) ly13 (ct_X4_allows _ _ _ _ _ σ2 13 a1 rP_13) (by decide) rfl rfl (Nat.le_of_ble_eq_true rfl) dX8_may_19 (fun r3 σ4 => ?_)
    refine V_if_eq (tgt := 29) C dX8_may_22 (by decide) ?_ ?_
    · refine V_iconst (v := (0 : Int32)) C dX8_may_29 (by decide) ?_
      exact V_iret C D dX8_may_30
    · refine V_iconst (v := (1 : Int32)) C dX8_may_25 (by decide) ?_
      refine V_goto (tgt := 30) C dX8_may_26 (by decide) ?_
      exact V_iret C D dX8_may_30
  · refine V_bipush (v := (-2 : Int32)) C dX8_may_11 (by decide) ?_
    exact V_iret C D dX8_may_13

theorem ct_X8_may (l : Launch) (dC : Nat → ClassId) (dI : Nat → Nat → Nat) (cA : Nat → ClassId) (b : Nat) (σ : Hp) (a1 : Int32)  : CT l dC dI cA b yX8_may cX8_may 2 (some .int) 3 [.ref (b + 0), .int a1] σ rvI (f_X8_may σ a1) := CT_of [(0, .ref (b + 0)), (1, .int a1)] (by decide +kernel) rfl (Nat.le_of_ble_eq_true rfl) rfl (fun E _ C D _ _ _ => vj_X8_may_0 C D σ a1 )
set_option maxRecDepth 4000 in
theorem vj_X8_quarter_0 {E : Ev} {b : Nat} (C : CX E RX8 cX8_quarter 2 3) (D : CR E (some .int))    (σ : Hp) (a1 : Int32)  : VJ rvI (QM E b) E b 2 σ 0 [(0, .ref (b + 0)), (1, .int a1)] [] (f_X8_quarter σ a1) := by
  unfold f_X8_quarter
  refine V_aload_n C dX8_quarter_0 rfl 0 rfl ?_
  refine gf_RX8_28 C (ln0) ly0 rfl dX8_quarter_1 ?_
  refine V_iload_n C dX8_quarter_4 rfl 1 rfl ?_
  refine cv_RX8_160 C (ln11) ly11 (ct_X2_hasAll _ _ _ _ _ σ 11 a1 cP_11) (by decide) rfl rfl (Nat.le_of_ble_eq_true rfl) dX8_quarter_5 (fun r1 σ2 => ?_)
  refine V_if_ne (tgt := 14) C dX8_quarter_8 (by decide) ?_ ?_
  · refine V_aload_n C dX8_quarter_14 rfl 0 rfl ?_
    refine gf_RX8_37 C (ln0) ly0 rfl dX8_quarter_15 ?_
    refine V_iload_n C dX8_quarter_18 rfl 1 rfl ?_
    refine cv_RX8_163 C (ln13) ly13 (ct_X4_allows _ _ _ _ _ σ2 13 a1 rP_13) (by decide) rfl rfl (Nat.le_of_ble_eq_true rfl) dX8_quarter_19 (fun r3 σ4 => ?_)
    refine V_if_ne (tgt := 28) C dX8_quarter_22 (by decide) ?_ ?_
    · refine V_aload_n C dX8_quarter_28 rfl 0 rfl ?_
      refine gf_RX8_51 C (ln0) ly0 rfl dX8_quarter_29 ?_
      refine V_aload_n C dX8_quarter_32 rfl 0 rfl ?_
      refine gf_RX8_37 C (ln0) ly0 rfl dX8_quarter_33 ?_
      refine cv_RX8_166 C (ln24) ly24 (ct_X0_push _ _ _ _ _ σ4 13 rP_13) (by decide) rfl rfl (Nat.le_of_ble_eq_true rfl) dX8_quarter_36 (fun r5 σ6 => ?_)
      refine V_aload_n C dX8_quarter_39 rfl 0 rfl ?_
      refine gf_RX8_37 C (ln0) ly0 rfl dX8_quarter_40 ?_
      refine V_iload_n C dX8_quarter_43 rfl 1 rfl ?_
      refine cv_RX8_169 C (ln13) ly13 (ct_X4_pass _ _ _ _ _ σ6 13 a1 rP_13) (by decide) rfl rfl (Nat.le_of_ble_eq_true rfl) dX8_quarter_44 (fun r7 σ8 => ?_)
      exact V_iret C D dX8_quarter_47
    · refine V_bipush (v := (-3 : Int32)) C dX8_quarter_25 (by decide) ?_
      exact V_iret C D dX8_quarter_27
  · refine V_bipush (v := (-2 : Int32)) C dX8_quarter_11 (by decide) ?_
    exact V_iret C D dX8_quarter_13

theorem ct_X8_quarter (l : Launch) (dC : Nat → ClassId) (dI : Nat → Nat → Nat) (cA : Nat → ClassId) (b : Nat) (σ : Hp) (a1 : Int32)  : CT l dC dI cA b yX8_quarter cX8_quarter 2 (some .int) 3 [.ref (b + 0), .int a1] σ rvI (f_X8_quarter σ a1) := CT_of [(0, .ref (b + 0)), (1, .int a1)] (by decide +kernel) rfl (Nat.le_of_ble_eq_true rfl) rfl (fun E _ C D _ _ _ => vj_X8_quarter_0 C D σ a1 )
set_option maxRecDepth 4000 in
theorem vj_X8_drum_0 {E : Ev} {b : Nat} (C : CX E RX8 cX8_drum 1 3) (D : CR E (some .int))    (σ : Hp)   : VJ rvI (QM E b) E b 1 σ 0 [(0, .ref (b + 0))] [] (f_X8_drum σ ) := by
  unfold f_X8_drum
  refine V_aload_n C dX8_drum_0 rfl 0 rfl ?_
  refine gf_RX8_51 C (ln0) ly0 rfl dX8_drum_1 ?_
  refine V_aload_n C dX8_drum_4 rfl 0 rfl ?_
  refine gf_RX8_37 C (ln0) ly0 rfl dX8_drum_5 ?_
  refine cv_RX8_166 C (ln24) ly24 (ct_X0_push _ _ _ _ _ σ 13 rP_13) (by decide) rfl rfl (Nat.le_of_ble_eq_true rfl) dX8_drum_8 (fun r1 σ2 => ?_)
  refine V_aload_n C dX8_drum_11 rfl 0 rfl ?_
  refine gf_RX8_37 C (ln0) ly0 rfl dX8_drum_12 ?_
  refine cv_RX8_173 C (ln13) ly13 (ct_X4_wakeAll _ _ _ _ _ σ2 13 rP_13) (by decide) rfl rfl (Nat.le_of_ble_eq_true rfl) dX8_drum_15 (fun r3 σ4 => ?_)
  exact V_iret C D dX8_drum_18

theorem ct_X8_drum (l : Launch) (dC : Nat → ClassId) (dI : Nat → Nat → Nat) (cA : Nat → ClassId) (b : Nat) (σ : Hp)   : CT l dC dI cA b yX8_drum cX8_drum 1 (some .int) 3 [.ref (b + 0)] σ rvI (f_X8_drum σ ) := CT_of [(0, .ref (b + 0))] (by decide +kernel) rfl (Nat.le_of_ble_eq_true rfl) rfl (fun E _ C D _ _ _ => vj_X8_drum_0 C D σ  )
set_option maxRecDepth 4000 in
theorem vj_X8_undo_0 {E : Ev} {b : Nat} (C : CX E RX8 cX8_undo 1 3) (D : CR E (some .int))    (σ : Hp)   : VJ rvI (QM E b) E b 1 σ 0 [(0, .ref (b + 0))] [] (f_X8_undo σ ) := by
  unfold f_X8_undo
  refine V_aload_n C dX8_undo_0 rfl 0 rfl ?_
  refine gf_RX8_51 C (ln0) ly0 rfl dX8_undo_1 ?_
  refine gf_RX8_104 C (ln24) ly24 rfl dX8_undo_4 ?_
  refine V_if_ne (tgt := 13) C dX8_undo_7 (by decide) ?_ ?_
  · refine V_aload_n C dX8_undo_13 rfl 0 rfl ?_
    refine gf_RX8_51 C (ln0) ly0 rfl dX8_undo_14 ?_
    refine V_aload_n C dX8_undo_17 rfl 0 rfl ?_
    refine gf_RX8_37 C (ln0) ly0 rfl dX8_undo_18 ?_
    refine cv_RX8_176 C (ln24) ly24 (ct_X0_pop _ _ _ _ _ σ 13 rP_13) (by decide) rfl rfl (Nat.le_of_ble_eq_true rfl) dX8_undo_21 (fun r1 σ2 => ?_)
    refine V_aload_n C dX8_undo_24 rfl 0 rfl ?_
    refine gf_RX8_51 C (ln0) ly0 rfl dX8_undo_25 ?_
    refine gf_RX8_104 C (ln24) ly24 rfl dX8_undo_28 ?_
    exact V_iret C D dX8_undo_31
  · refine V_bipush (v := (-3 : Int32)) C dX8_undo_10 (by decide) ?_
    exact V_iret C D dX8_undo_12

theorem ct_X8_undo (l : Launch) (dC : Nat → ClassId) (dI : Nat → Nat → Nat) (cA : Nat → ClassId) (b : Nat) (σ : Hp)   : CT l dC dI cA b yX8_undo cX8_undo 1 (some .int) 3 [.ref (b + 0)] σ rvI (f_X8_undo σ ) := CT_of [(0, .ref (b + 0))] (by decide +kernel) rfl (Nat.le_of_ble_eq_true rfl) rfl (fun E _ C D _ _ _ => vj_X8_undo_0 C D σ  )
