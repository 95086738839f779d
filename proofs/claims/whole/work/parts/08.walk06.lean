set_option maxRecDepth 4000 in
theorem vj_X9_plan_0 {E : Ev} {b : Nat} (C : CX E RX9 cX9_plan 4 3) (D : CR E (some .int))    (σ : Hp) (a1 : Int32) (a2 : Int32)  : VJ rvI (QM E b) E b 4 σ 0 [(0, .ref (b + 134)), (1, .int a1), (2, .int a2)] [] (f_X9_plan σ a1 a2) := by
  unfold f_X9_plan
  refine V_aload_n C dX9_plan_0 rfl 0 rfl ?_
  refine V_iconst (v := (0 : Int32)) C dX9_plan_1 (by decide) ?_
  refine pf_RX9_87 C (ln134) ly134 rfl dX9_plan_2 (fun σ1 => ?_)
  refine V_iload_n C dX9_plan_5 rfl 1 rfl ?_
  refine V_i2l C dX9_plan_6 ?_
  refine V_lconst (v := (0 : Int64)) C dX9_plan_7 (by decide) ?_
  refine V_ldc2 C wk_RX9_205 dX9_plan_8 ?_
  refine cs_RX9_93 C (ct_X9_in _ _ _ _ _ σ1 (a1.toInt64) (0 : Int64) (3 : Int64)) (by decide) rfl rfl (Nat.le_of_ble_eq_true rfl) dX9_plan_11 (fun r2 σ3 => ?_)
  refine V_if_eq (tgt := 25) C dX9_plan_14 (by decide) ?_ ?_
  · refine V_bipush (v := (-2 : Int32)) C dX9_plan_25 (by decide) ?_
    exact V_iret C D dX9_plan_27
  · refine V_aload_n C dX9_plan_17 rfl 0 rfl ?_
    refine V_iload_n C dX9_plan_18 rfl 2 rfl ?_
    refine cv_RX9_167 C (ln134) ly134 (ct_X9_noSet _ _ _ _ _ σ3 a2) (by decide) rfl rfl (Nat.le_of_ble_eq_true rfl) dX9_plan_19 (fun r4 σ5 => ?_)
    refine V_if_eq (tgt := 28) C dX9_plan_22 (by decide) ?_ ?_
    · refine V_aload_n C dX9_plan_28 rfl 0 rfl ?_
      refine gf_RX9_39 C (ln134) ly134 rfl dX9_plan_29 ?_
      refine V_iload_n C dX9_plan_32 rfl 1 rfl ?_
      refine V_iald C (ln143) ly143 dX9_plan_33 ?_
      refine V_ltI (fun v6 => ?_)
      refine V_istore_n (L' := [(3, .int v6), (0, .ref (b + 134)), (1, .int a1), (2, .int a2)]) C dX9_plan_34 rfl (by decide) rfl ?_
      refine V_aload_n C dX9_plan_35 rfl 1 rfl ?_
      refine gf_RX9_39 C (ln134) ly134 rfl dX9_plan_36 ?_
      refine V_iload_n C dX9_plan_39 rfl 2 rfl ?_
      refine V_iload_n C dX9_plan_40 rfl 3 rfl ?_
      refine V_iast C (ln143) ly143 dX9_plan_41 (fun σ7 => ?_)
      refine V_iload_n C dX9_plan_42 rfl 0 rfl ?_
      exact V_iret C D dX9_plan_43
    · refine V_bipush (v := (-2 : Int32)) C dX9_plan_25 (by decide) ?_
      exact V_iret C D dX9_plan_27

theorem ct_X9_plan (l : Launch) (dC : Nat → ClassId) (dI : Nat → Nat → Nat) (cA : Nat → ClassId) (b : Nat) (σ : Hp) (a1 : Int32) (a2 : Int32)  : CT l dC dI cA b yX9_plan cX9_plan 4 (some .int) 3 [.ref (b + 134), .int a1, .int a2] σ rvI (f_X9_plan σ a1 a2) := CT_of [(0, .ref (b + 134)), (1, .int a1), (2, .int a2)] (by decide +kernel) rfl (Nat.le_of_ble_eq_true rfl) rfl (fun E _ C D _ _ _ => vj_X9_plan_0 C D σ a1 a2 )
set_option maxRecDepth 4000 in
theorem vj_X9_weakest_87 {E : Ev} {b : Nat} (C : CX E RX9 cX9_weakest 7 4) (D : CR E (some .int))   {k61 : Hp → Int32 → Int32 → Int32 → Int32 → Int32 → Int32 → Option (Int32 × Hp)} (hk61 : ∀ (σ : Hp) (x1 : Int32) (x2 : Int32) (x3 : Int32) (x4 : Int32) (x5 : Int32) (x6 : Int32) , VJ rvI (QM E b) E b 7 σ 61 [(0, .ref (b + 134)), (1, .int x1), (2, .int x2), (3, .int x3), (4, .int x4), (5, .int x5), (6, .int x6)] [] (k61 σ x1 x2 x3 x4 x5 x6)) {k16 : Hp → Int32 → Int32 → Int32 → Option (Int32 × Hp)} (hk16 : ∀ (σ : Hp) (x1 : Int32) (x2 : Int32) (x3 : Int32) , VJ rvI (QM E b) E b 7 σ 16 [(0, .ref (b + 134)), (1, .int x1), (2, .int x2), (3, .int x3)] [] (k16 σ x1 x2 x3)) (σ : Hp) (x1 : Int32) (x2 : Int32) (x3 : Int32) (x4 : Int32) (x6 : Int32) (s0 : Int32) (s1 : Int32)  : VJ rvI (QM E b) E b 7 σ 87 [(0, .ref (b + 134)), (1, .int x1), (2, .int x2), (3, .int x3), (4, .int x4), (6, .int x6)] [.int s0, .int s1] (f_X9_weakest_87 k61 k16 σ x1 x2 x3 x4 x6 s0 s1) := by
  unfold f_X9_weakest_87
  refine V_iadd C dX9_weakest_87 ?_
  refine V_ltI (fun v1 => ?_)
  refine V_istore (L' := [(5, .int v1), (0, .ref (b + 134)), (1, .int x1), (2, .int x2), (3, .int x3), (4, .int x4), (6, .int x6)]) C dX9_weakest_88 (by decide) rfl ?_
  refine V_iinc (k := 6) (v := (1 : Int32)) (L' := fun v2 => [(6, .int v2), (5, .int v1), (0, .ref (b + 134)), (1, .int x1), (2, .int x2), (3, .int x3), (4, .int x4)]) C dX9_weakest_90 rfl (by decide) (by decide) (fun _ => rfl) (fun v2 => ?_)
  refine V_goto (tgt := 61) C dX9_weakest_93 (by decide) ?_
  exact V_sub [2, 3, 4, 5, 6, 1, 0] rfl (hk61 σ x1 x2 x3 x4 v1 v2)

set_option maxRecDepth 4000 in
theorem vj_X9_weakest_120 {E : Ev} {b : Nat} (C : CX E RX9 cX9_weakest 7 4) (D : CR E (some .int))   {k16 : Hp → Int32 → Int32 → Int32 → Option (Int32 × Hp)} (hk16 : ∀ (σ : Hp) (x1 : Int32) (x2 : Int32) (x3 : Int32) , VJ rvI (QM E b) E b 7 σ 16 [(0, .ref (b + 134)), (1, .int x1), (2, .int x2), (3, .int x3)] [] (k16 σ x1 x2 x3)) (σ : Hp) (x1 : Int32) (x3 : Int32) (s0 : Int32)  : VJ rvI (QM E b) E b 7 σ 120 [(0, .ref (b + 134)), (1, .int x1), (3, .int x3)] [.int s0] (f_X9_weakest_120 k16 σ x1 x3 s0) := by
  unfold f_X9_weakest_120
  refine V_istore_n (L' := [(2, .int s0), (0, .ref (b + 134)), (1, .int x1), (3, .int x3)]) C dX9_weakest_120 rfl (by decide) rfl ?_
  refine V_iinc (k := 3) (v := (1 : Int32)) (L' := fun v1 => [(3, .int v1), (2, .int s0), (0, .ref (b + 134)), (1, .int x1)]) C dX9_weakest_121 rfl (by decide) (by decide) (fun _ => rfl) (fun v1 => ?_)
  refine V_goto (tgt := 16) C dX9_weakest_124 (by decide) ?_
  exact V_sub [2, 3, 1, 0] rfl (hk16 σ x1 s0 v1)

set_option maxRecDepth 4000 in
theorem vj_X9_weakest_107 {E : Ev} {b : Nat} (C : CX E RX9 cX9_weakest 7 4) (D : CR E (some .int))   {k16 : Hp → Int32 → Int32 → Int32 → Option (Int32 × Hp)} (hk16 : ∀ (σ : Hp) (x1 : Int32) (x2 : Int32) (x3 : Int32) , VJ rvI (QM E b) E b 7 σ 16 [(0, .ref (b + 134)), (1, .int x1), (2, .int x2), (3, .int x3)] [] (k16 σ x1 x2 x3)) (σ : Hp) (x2 : Int32) (x3 : Int32) (x5 : Int32) (s0 : Int32)  : VJ rvI (QM E b) E b 7 σ 107 [(0, .ref (b + 134)), (2, .int x2), (3, .int x3), (5, .int x5)] [.int s0] (f_X9_weakest_107 k16 σ x2 x3 x5 s0) := by
  unfold f_X9_weakest_107
  refine V_istore_n (L' := [(1, .int s0), (0, .ref (b + 134)), (2, .int x2), (3, .int x3), (5, .int x5)]) C dX9_weakest_107 rfl (by decide) rfl ?_
  refine V_iload C dX9_weakest_108 4 rfl ?_
  refine V_iload_n C dX9_weakest_110 rfl 2 rfl ?_
  refine V_icmp_ge (tgt := 119) C dX9_weakest_111 (by decide) ?_ ?_
  · refine V_iload_n C dX9_weakest_119 rfl 2 rfl ?_
    exact V_sub [1, 0, 3] rfl (vj_X9_weakest_120 C D hk16 σ s0 x3 x2)
  · refine V_iload C dX9_weakest_114 4 rfl ?_
    refine V_goto (tgt := 120) C dX9_weakest_116 (by decide) ?_
    exact V_sub [1, 0, 3] rfl (vj_X9_weakest_120 C D hk16 σ s0 x3 x5)

set_option maxRecDepth 4000 in
theorem vj_X9_weakest_61 {E : Ev} {b : Nat} (C : CX E RX9 cX9_weakest 7 4) (D : CR E (some .int))   {k16 : Hp → Int32 → Int32 → Int32 → Option (Int32 × Hp)} (hk16 : ∀ (σ : Hp) (x1 : Int32) (x2 : Int32) (x3 : Int32) , VJ rvI (QM E b) E b 7 σ 16 [(0, .ref (b + 134)), (1, .int x1), (2, .int x2), (3, .int x3)] [] (k16 σ x1 x2 x3)) : ∀ (n : Nat) (σ : Hp) (x1 : Int32) (x2 : Int32) (x3 : Int32) (x4 : Int32) (x5 : Int32) (x6 : Int32) , VJ rvI (QM E b) E b 7 σ 61 [(0, .ref (b + 134)), (1, .int x1), (2, .int x2), (3, .int x3), (4, .int x4), (5, .int x5), (6, .int x6)] [] (f_X9_weakest_61 k16 n σ x1 x2 x3 x4 x5 x6)
  | 0, σ, x1, x2, x3, x4, x5, x6 => V_none
  | n + 1, σ, x1, x2, x3, x4, x5, x6 => by
    show VJ rvI (QM E b) E b 7 σ 61 [(0, .ref (b + 134)), (1, .int x1), (2, .int x2), (3, .int x3), (4, .int x4), (5, .int x5), (6, .int x6)] [] (if (σ 134 4) ≤ x6 then (
          if x2 ≤ x5 then (
            f_X9_weakest_107 k16 σ x2 x3 x5 x1)
          else (
            f_X9_weakest_107 k16 σ x2 x3 x5 x3))
        else (
          bd (f_X9_has σ x4 x6) fun r1 σ2 =>
          if r1 = 0 then (
            f_X9_weakest_87 (f_X9_weakest_61 k16 n) k16 σ2 x1 x2 x3 x4 x6 (0 : Int32) x5)
          else (
            f_X9_weakest_87 (f_X9_weakest_61 k16 n) k16 σ2 x1 x2 x3 x4 x6 (1 : Int32) x5)))
    have ih := vj_X9_weakest_61 (b := b) C D  hk16 n
    refine V_iload C dX9_weakest_61 6 rfl ?_
    refine V_aload_n C dX9_weakest_63 rfl 0 rfl ?_
    refine gf_RX9_90 C (ln134) ly134 rfl dX9_weakest_64 ?_
    refine V_icmp_ge (tgt := 96) C dX9_weakest_67 (by decide) ?_ ?_
    · refine V_iload C dX9_weakest_96 5 rfl ?_
      refine V_iload_n C dX9_weakest_98 rfl 2 rfl ?_
      refine V_icmp_ge (tgt := 106) C dX9_weakest_99 (by decide) ?_ ?_
      · refine V_iload_n C dX9_weakest_106 rfl 1 rfl ?_
        exact V_sub [0, 2, 3, 5] rfl (vj_X9_weakest_107 C D hk16 σ x2 x3 x5 x1)
      · refine V_iload_n C dX9_weakest_102 rfl 3 rfl ?_
        refine V_goto (tgt := 107) C dX9_weakest_103 (by decide) ?_
        exact V_sub [0, 2, 3, 5] rfl (vj_X9_weakest_107 C D hk16 σ x2 x3 x5 x3)
    · refine V_iload C dX9_weakest_70 5 rfl ?_
      refine V_iload C dX9_weakest_72 4 rfl ?_
      refine V_iload C dX9_weakest_74 6 rfl ?_
      refine cs_RX9_160 C (ct_X9_has _ _ _ _ _ σ x4 x6) (by decide) rfl rfl (Nat.le_of_ble_eq_true rfl) dX9_weakest_76 (fun r1 σ2 => ?_)
      refine V_if_eq (tgt := 86) C dX9_weakest_79 (by decide) ?_ ?_
      · refine V_iconst (v := (0 : Int32)) C dX9_weakest_86 (by decide) ?_
        exact V_sub [0, 1, 2, 3, 4, 6] rfl (vj_X9_weakest_87 C D ih hk16 σ2 x1 x2 x3 x4 x6 (0 : Int32) x5)
      · refine V_iconst (v := (1 : Int32)) C dX9_weakest_82 (by decide) ?_
        refine V_goto (tgt := 87) C dX9_weakest_83 (by decide) ?_
        exact V_sub [0, 1, 2, 3, 4, 6] rfl (vj_X9_weakest_87 C D ih hk16 σ2 x1 x2 x3 x4 x6 (1 : Int32) x5)

set_option maxRecDepth 4000 in
theorem vj_X9_weakest_50 {E : Ev} {b : Nat} (C : CX E RX9 cX9_weakest 7 4) (D : CR E (some .int))   {k16 : Hp → Int32 → Int32 → Int32 → Option (Int32 × Hp)} (hk16 : ∀ (σ : Hp) (x1 : Int32) (x2 : Int32) (x3 : Int32) , VJ rvI (QM E b) E b 7 σ 16 [(0, .ref (b + 134)), (1, .int x1), (2, .int x2), (3, .int x3)] [] (k16 σ x1 x2 x3)) (σ : Hp) (x1 : Int32) (x2 : Int32) (x3 : Int32) (s0 : Int32)  : VJ rvI (QM E b) E b 7 σ 50 [(0, .ref (b + 134)), (1, .int x1), (2, .int x2), (3, .int x3)] [.int s0, .ref (b + 134)] (f_X9_weakest_50 k16 σ x1 x2 x3 s0) := by
  unfold f_X9_weakest_50
  refine cv_RX9_183 C (ln134) ly134 (ct_X9_go _ _ _ _ _ σ s0) (by decide) rfl rfl (Nat.le_of_ble_eq_true rfl) dX9_weakest_50 (fun r1 σ2 => ?_)
  refine V_istore (L' := [(4, .int r1), (0, .ref (b + 134)), (1, .int x1), (2, .int x2), (3, .int x3)]) C dX9_weakest_53 (by decide) rfl ?_
  refine V_iconst (v := (0 : Int32)) C dX9_weakest_55 (by decide) ?_
  refine V_istore (L' := [(5, .int (0 : Int32)), (4, .int r1), (0, .ref (b + 134)), (1, .int x1), (2, .int x2), (3, .int x3)]) C dX9_weakest_56 (by decide) rfl ?_
  refine V_iconst (v := (0 : Int32)) C dX9_weakest_58 (by decide) ?_
  refine V_istore (L' := [(6, .int (0 : Int32)), (5, .int (0 : Int32)), (4, .int r1), (0, .ref (b + 134)), (1, .int x1), (2, .int x2), (3, .int x3)]) C dX9_weakest_59 (by decide) rfl ?_
  exact V_sub [3, 4, 5, 6, 2, 1, 0] rfl (vj_X9_weakest_61 C D hk16 FU σ2 x1 x2 x3 r1 (0 : Int32) (0 : Int32))

set_option maxRecDepth 4000 in
theorem vj_X9_weakest_16 {E : Ev} {b : Nat} (C : CX E RX9 cX9_weakest 7 4) (D : CR E (some .int))    : ∀ (n : Nat) (σ : Hp) (x1 : Int32) (x2 : Int32) (x3 : Int32) , VJ rvI (QM E b) E b 7 σ 16 [(0, .ref (b + 134)), (1, .int x1), (2, .int x2), (3, .int x3)] [] (f_X9_weakest_16 n σ x1 x2 x3)
  | 0, σ, x1, x2, x3 => V_none
  | n + 1, σ, x1, x2, x3 => by
    show VJ rvI (QM E b) E b 7 σ 16 [(0, .ref (b + 134)), (1, .int x1), (2, .int x2), (3, .int x3)] [] (if (8 : Int32) ≤ x3 then (
          some (x1, σ))
        else (
          nzI (4 : Int32) <|
          ck (x3 - x3 / (4 : Int32) * (4 : Int32)) 4 <|
          bd (f_X9_canBe σ (σ 143 (ix (x3 - x3 / (4 : Int32) * (4 : Int32))))) fun r1 σ2 =>
          if r1 = 0 then (
            f_X9_weakest_50 (f_X9_weakest_16 n) σ2 x1 x2 x3 (0 : Int32))
          else (
            nzI (4 : Int32) <|
            ck (x3 - x3 / (4 : Int32) * (4 : Int32)) 4 <|
            f_X9_weakest_50 (f_X9_weakest_16 n) σ2 x1 x2 x3 (σ2 143 (ix (x3 - x3 / (4 : Int32) * (4 : Int32)))))))
    have ih := vj_X9_weakest_16 (b := b) C D   n
    refine V_iload_n C dX9_weakest_16 rfl 3 rfl ?_
    refine V_bipush (v := (8 : Int32)) C dX9_weakest_17 (by decide) ?_
    refine V_icmp_ge (tgt := 127) C dX9_weakest_19 (by decide) ?_ ?_
    · refine V_iload_n C dX9_weakest_127 rfl 1 rfl ?_
      exact V_iret C D dX9_weakest_128
    · refine V_aload_n C dX9_weakest_22 rfl 0 rfl ?_
      refine V_aload_n C dX9_weakest_23 rfl 0 rfl ?_
      refine V_aload_n C dX9_weakest_24 rfl 0 rfl ?_
      refine gf_RX9_39 C (ln134) ly134 rfl dX9_weakest_25 ?_
      refine V_iload_n C dX9_weakest_28 rfl 3 rfl ?_
      refine V_iconst (v := (4 : Int32)) C dX9_weakest_29 (by decide) ?_
      refine V_irem C dX9_weakest_30 ?_
      refine V_iald C (ln143) ly143 dX9_weakest_31 ?_
      refine cv_RX9_173 C (ln134) ly134 (ct_X9_canBe _ _ _ _ _ σ (σ 143 (ix (x3 - x3 / (4 : Int32) * (4 : Int32))))) (by decide) rfl rfl (Nat.le_of_ble_eq_true rfl) dX9_weakest_32 (fun r1 σ2 => ?_)
      refine V_if_eq (tgt := 49) C dX9_weakest_35 (by decide) ?_ ?_
      · refine V_iconst (v := (0 : Int32)) C dX9_weakest_49 (by decide) ?_
        exact V_sub [0, 1, 2, 3] rfl (vj_X9_weakest_50 C D ih σ2 x1 x2 x3 (0 : Int32))
      · refine V_aload_n C dX9_weakest_38 rfl 0 rfl ?_
        refine gf_RX9_39 C (ln134) ly134 rfl dX9_weakest_39 ?_
        refine V_iload_n C dX9_weakest_42 rfl 3 rfl ?_
        refine V_iconst (v := (4 : Int32)) C dX9_weakest_43 (by decide) ?_
        refine V_irem C dX9_weakest_44 ?_
        refine V_iald C (ln143) ly143 dX9_weakest_45 ?_
        refine V_goto (tgt := 50) C dX9_weakest_46 (by decide) ?_
        exact V_sub [0, 1, 2, 3] rfl (vj_X9_weakest_50 C D ih σ2 x1 x2 x3 (σ2 143 (ix (x3 - x3 / (4 : Int32) * (4 : Int32)))))

set_option maxRecDepth 4000 in
theorem vj_X9_weakest_0 {E : Ev} {b : Nat} (C : CX E RX9 cX9_weakest 7 4) (D : CR E (some .int))    (σ : Hp)   : VJ rvI (QM E b) E b 7 σ 0 [(0, .ref (b + 134))] [] (f_X9_weakest σ ) := by
  unfold f_X9_weakest
  refine V_aload_n C dX9_weakest_0 rfl 0 rfl ?_
  refine V_iconst (v := (0 : Int32)) C dX9_weakest_1 (by decide) ?_
  refine pf_RX9_87 C (ln134) ly134 rfl dX9_weakest_2 (fun σ1 => ?_)
  refine V_aload_n C dX9_weakest_5 rfl 0 rfl ?_
  refine cv_RX9_170 C (ln134) ly134 (ct_X9_begin _ _ _ _ _ σ1 ) (by decide) rfl rfl (Nat.le_of_ble_eq_true rfl) dX9_weakest_6 (fun r2 σ3 => ?_)
  refine V_iconst (v := (0 : Int32)) C dX9_weakest_9 (by decide) ?_
  refine V_istore_n (L' := [(1, .int (0 : Int32)), (0, .ref (b + 134))]) C dX9_weakest_10 rfl (by decide) rfl ?_
  refine V_ldc C wk_RX9_221 dX9_weakest_11 ?_
  refine V_istore_n (L' := [(2, .int (99999 : Int32)), (1, .int (0 : Int32)), (0, .ref (b + 134))]) C dX9_weakest_13 rfl (by decide) rfl ?_
  refine V_iconst (v := (0 : Int32)) C dX9_weakest_14 (by decide) ?_
  refine V_istore_n (L' := [(3, .int (0 : Int32)), (2, .int (99999 : Int32)), (1, .int (0 : Int32)), (0, .ref (b + 134))]) C dX9_weakest_15 rfl (by decide) rfl ?_
  exact V_sub [3, 2, 1, 0] rfl (vj_X9_weakest_16 C D FU σ3 (0 : Int32) (99999 : Int32) (0 : Int32))

theorem ct_X9_weakest (l : Launch) (dC : Nat → ClassId) (dI : Nat → Nat → Nat) (cA : Nat → ClassId) (b : Nat) (σ : Hp)   : CT l dC dI cA b yX9_weakest cX9_weakest 7 (some .int) 4 [.ref (b + 134)] σ rvI (f_X9_weakest σ ) := CT_of [(0, .ref (b + 134))] (by decide +kernel) rfl (Nat.le_of_ble_eq_true rfl) rfl (fun E _ C D _ _ _ => vj_X9_weakest_0 C D σ  )
set_option maxRecDepth 4000 in
theorem vj_X9_settled_51 {E : Ev} {b : Nat} (C : CX E RX9 cX9_settled 7 2) (D : CR E (some .int))   {k13 : Hp → Int32 → Int32 → Int32 → Option (Int32 × Hp)} (hk13 : ∀ (σ : Hp) (x1 : Int32) (x2 : Int32) (x3 : Int32) , VJ rvI (QM E b) E b 7 σ 13 [(0, .ref (b + 134)), (1, .int x1), (2, .int x2), (3, .int x3)] [] (k13 σ x1 x2 x3)) (σ : Hp) (x1 : Int32) (x2 : Int32) (x3 : Int32) (s0 : Int32)  : VJ rvI (QM E b) E b 7 σ 51 [(0, .ref (b + 134)), (1, .int x1), (2, .int x2), (3, .int x3)] [.int s0] (f_X9_settled_51 k13 σ x1 x2 x3 s0) := by
  unfold f_X9_settled_51
  refine V_istore (L' := [(4, .int s0), (0, .ref (b + 134)), (1, .int x1), (2, .int x2), (3, .int x3)]) C dX9_settled_51 (by decide) rfl ?_
  refine V_aload_n C dX9_settled_53 rfl 1 rfl ?_
  refine gf_RX9_78 C (ln134) ly134 rfl dX9_settled_54 ?_
  refine V_iload_n C dX9_settled_57 rfl 4 rfl ?_
  refine V_dup2 C dX9_settled_58 rfl rfl ?_
  refine V_iald C (ln156) ly156 dX9_settled_59 ?_
  refine V_iload C dX9_settled_60 0 rfl ?_
  refine V_isub C dX9_settled_62 ?_
  refine V_iast C (ln156) ly156 dX9_settled_63 (fun σ1 => ?_)
  refine V_aload_n C dX9_settled_64 rfl 1 rfl ?_
  refine gf_RX9_75 C (ln134) ly134 rfl dX9_settled_65 ?_
  refine V_iload_n C dX9_settled_68 rfl 4 rfl ?_
  refine V_dup2 C dX9_settled_69 rfl rfl ?_
  refine V_iald C (ln155) ly155 dX9_settled_70 ?_
  refine V_iload C dX9_settled_71 0 rfl ?_
  refine V_isub C dX9_settled_73 ?_
  refine V_iast C (ln155) ly155 dX9_settled_74 (fun σ2 => ?_)
  refine V_iload_n C dX9_settled_75 rfl 3 rfl ?_
  refine V_iload C dX9_settled_76 0 rfl ?_
  refine V_iadd C dX9_settled_78 ?_
  refine V_ltI (fun v3 => ?_)
  refine V_istore_n (L' := [(2, .int v3), (4, .int s0), (0, .ref (b + 134)), (1, .int x1), (3, .int x3)]) C dX9_settled_79 rfl (by decide) rfl ?_
  refine V_iinc (k := 4) (v := (1 : Int32)) (L' := fun v4 => [(3, .int v4), (2, .int v3), (4, .int s0), (0, .ref (b + 134)), (1, .int x1)]) C dX9_settled_80 rfl (by decide) (by decide) (fun _ => rfl) (fun v4 => ?_)
  refine V_goto (tgt := 13) C dX9_settled_83 (by decide) ?_
  exact V_sub [3, 4, 1, 0] rfl (hk13 σ2 x1 v3 v4)

set_option maxRecDepth 4000 in
theorem vj_X9_settled_209 {E : Ev} {b : Nat} (C : CX E RX9 cX9_settled 7 2) (D : CR E (some .int))   {k91 : Hp → Int32 → Int32 → Int32 → Int32 → Option (Int32 × Hp)} (hk91 : ∀ (σ : Hp) (x1 : Int32) (x2 : Int32) (x3 : Int32) (x4 : Int32) , VJ rvI (QM E b) E b 7 σ 91 [(0, .ref (b + 134)), (1, .int x1), (2, .int x2), (3, .int x3), (4, .int x4)] [] (k91 σ x1 x2 x3 x4)) (σ : Hp) (x1 : Int32) (x2 : Int32) (x4 : Int32) (s0 : Int32) (s1 : Int32)  : VJ rvI (QM E b) E b 7 σ 209 [(0, .ref (b + 134)), (1, .int x1), (2, .int x2), (4, .int x4)] [.int s0, .int s1] (f_X9_settled_209 k91 σ x1 x2 x4 s0 s1) := by
  unfold f_X9_settled_209
  refine V_ior C dX9_settled_209 ?_
  refine V_ltI (fun v1 => ?_)
  refine V_istore_n (L' := [(3, .int v1), (0, .ref (b + 134)), (1, .int x1), (2, .int x2), (4, .int x4)]) C dX9_settled_210 rfl (by decide) rfl ?_
  refine V_iinc (k := 4) (v := (1 : Int32)) (L' := fun v2 => [(4, .int v2), (3, .int v1), (0, .ref (b + 134)), (1, .int x1), (2, .int x2)]) C dX9_settled_211 rfl (by decide) (by decide) (fun _ => rfl) (fun v2 => ?_)
  refine V_goto (tgt := 91) C dX9_settled_214 (by decide) ?_
  exact V_sub [2, 3, 4, 1, 0] rfl (hk91 σ x1 x2 v1 v2)

set_option maxRecDepth 4000 in
theorem vj_X9_settled_190 {E : Ev} {b : Nat} (C : CX E RX9 cX9_settled 7 2) (D : CR E (some .int))   {k91 : Hp → Int32 → Int32 → Int32 → Int32 → Option (Int32 × Hp)} (hk91 : ∀ (σ : Hp) (x1 : Int32) (x2 : Int32) (x3 : Int32) (x4 : Int32) , VJ rvI (QM E b) E b 7 σ 91 [(0, .ref (b + 134)), (1, .int x1), (2, .int x2), (3, .int x3), (4, .int x4)] [] (k91 σ x1 x2 x3 x4)) (σ : Hp) (x1 : Int32) (x2 : Int32) (x3 : Int32) (x4 : Int32)  : VJ rvI (QM E b) E b 7 σ 190 [(0, .ref (b + 134)), (1, .int x1), (2, .int x2), (3, .int x3), (4, .int x4)] [] (f_X9_settled_190 k91 σ x1 x2 x3 x4) := by
  unfold f_X9_settled_190
  refine V_iload_n C dX9_settled_190 rfl 3 rfl ?_
  refine V_aload_n C dX9_settled_191 rfl 0 rfl ?_
  refine gf_RX9_78 C (ln134) ly134 rfl dX9_settled_192 ?_
  refine V_iload C dX9_settled_195 4 rfl ?_
  refine V_iald C (ln156) ly156 dX9_settled_197 ?_
  refine V_if_le (tgt := 208) C dX9_settled_198 (by decide) ?_ ?_
  · refine V_iconst (v := (0 : Int32)) C dX9_settled_208 (by decide) ?_
    exact V_sub [0, 1, 2, 4] rfl (vj_X9_settled_209 C D hk91 σ x1 x2 x4 (0 : Int32) x3)
  · refine V_iconst (v := (1 : Int32)) C dX9_settled_201 (by decide) ?_
    refine V_iload C dX9_settled_202 4 rfl ?_
    refine V_ishl C dX9_settled_204 ?_
    refine V_goto (tgt := 209) C dX9_settled_205 (by decide) ?_
    exact V_sub [0, 1, 2, 4] rfl (vj_X9_settled_209 C D hk91 σ x1 x2 x4 ((1 : Int32) <<< (x4 &&& 31)) x3)

set_option maxRecDepth 4000 in
theorem vj_X9_settled_154 {E : Ev} {b : Nat} (C : CX E RX9 cX9_settled 7 2) (D : CR E (some .int))   {k91 : Hp → Int32 → Int32 → Int32 → Int32 → Option (Int32 × Hp)} (hk91 : ∀ (σ : Hp) (x1 : Int32) (x2 : Int32) (x3 : Int32) (x4 : Int32) , VJ rvI (QM E b) E b 7 σ 91 [(0, .ref (b + 134)), (1, .int x1), (2, .int x2), (3, .int x3), (4, .int x4)] [] (k91 σ x1 x2 x3 x4)) (σ : Hp) (x1 : Int32) (x2 : Int32) (x3 : Int32) (x4 : Int32) (x5 : Int32) (s0 : Int32)  : VJ rvI (QM E b) E b 7 σ 154 [(0, .ref (b + 134)), (1, .int x1), (2, .int x2), (3, .int x3), (4, .int x4), (5, .int x5)] [.int s0] (f_X9_settled_154 k91 σ x1 x2 x3 x4 x5 s0) := by
  unfold f_X9_settled_154
  refine V_istore (L' := [(6, .int s0), (0, .ref (b + 134)), (1, .int x1), (2, .int x2), (3, .int x3), (4, .int x4), (5, .int x5)]) C dX9_settled_154 (by decide) rfl ?_
  refine V_iload C dX9_settled_156 0 rfl ?_
  refine V_if_le (tgt := 190) C dX9_settled_158 (by decide) ?_ ?_
  · exact V_sub [1, 2, 3, 4, 5] rfl (vj_X9_settled_190 C D hk91 σ x1 x2 x3 x4)
  · refine V_aload_n C dX9_settled_161 rfl 1 rfl ?_
    refine gf_RX9_78 C (ln134) ly134 rfl dX9_settled_162 ?_
    refine V_iload C dX9_settled_165 5 rfl ?_
    refine V_dup2 C dX9_settled_167 rfl rfl ?_
    refine V_iald C (ln156) ly156 dX9_settled_168 ?_
    refine V_iload C dX9_settled_169 0 rfl ?_
    refine V_isub C dX9_settled_171 ?_
    refine V_iast C (ln156) ly156 dX9_settled_172 (fun σ1 => ?_)
    refine V_aload_n C dX9_settled_173 rfl 1 rfl ?_
    refine gf_RX9_75 C (ln134) ly134 rfl dX9_settled_174 ?_
    refine V_iload C dX9_settled_177 6 rfl ?_
    refine V_dup2 C dX9_settled_179 rfl rfl ?_
    refine V_iald C (ln155) ly155 dX9_settled_180 ?_
    refine V_iload C dX9_settled_181 0 rfl ?_
    refine V_isub C dX9_settled_183 ?_
    refine V_iast C (ln155) ly155 dX9_settled_184 (fun σ2 => ?_)
    refine V_iload_n C dX9_settled_185 rfl 3 rfl ?_
    refine V_iload C dX9_settled_186 0 rfl ?_
    refine V_iadd C dX9_settled_188 ?_
    refine V_ltI (fun v3 => ?_)
    refine V_istore_n (L' := [(2, .int v3), (6, .int s0), (0, .ref (b + 134)), (1, .int x1), (3, .int x3), (4, .int x4), (5, .int x5)]) C dX9_settled_189 rfl (by decide) rfl ?_
    exact V_sub [2, 3, 0, 4, 5] rfl (vj_X9_settled_190 C D hk91 σ2 x1 v3 x3 x4)

set_option maxRecDepth 4000 in
theorem vj_X9_settled_91 {E : Ev} {b : Nat} (C : CX E RX9 cX9_settled 7 2) (D : CR E (some .int))    : ∀ (n : Nat) (σ : Hp) (x1 : Int32) (x2 : Int32) (x3 : Int32) (x4 : Int32) , VJ rvI (QM E b) E b 7 σ 91 [(0, .ref (b + 134)), (1, .int x1), (2, .int x2), (3, .int x3), (4, .int x4)] [] (f_X9_settled_91 n σ x1 x2 x3 x4)
  | 0, σ, x1, x2, x3, x4 => V_none
  | n + 1, σ, x1, x2, x3, x4 => by
    show VJ rvI (QM E b) E b 7 σ 91 [(0, .ref (b + 134)), (1, .int x1), (2, .int x2), (3, .int x3), (4, .int x4)] [] (if (σ 134 4) ≤ x4 then (
          if x1 = 0 then (
            some (x2, σ))
          else (
            some (x3, σ)))
        else (
          ck x4 5 <|
          Lt (σ 141 (ix x4)) fun v1 =>
          if v1 = (-9 : Int32) then (
            f_X9_settled_154 (f_X9_settled_91 n) σ x1 x2 x3 x4 v1 (0 : Int32))
          else (
            ck x4 5 <|
            ck v1 5 <|
            if (σ 155 (ix v1)) ≤ (σ 156 (ix x4)) then (
              ck v1 5 <|
              f_X9_settled_154 (f_X9_settled_91 n) σ x1 x2 x3 x4 v1 (σ 155 (ix v1)))
            else (
              ck x4 5 <|
              f_X9_settled_154 (f_X9_settled_91 n) σ x1 x2 x3 x4 v1 (σ 156 (ix x4))))))
    have ih := vj_X9_settled_91 (b := b) C D   n
    refine V_iload C dX9_settled_91 4 rfl ?_
    refine V_aload_n C dX9_settled_93 rfl 0 rfl ?_
    refine gf_RX9_90 C (ln134) ly134 rfl dX9_settled_94 ?_
    refine V_icmp_ge (tgt := 217) C dX9_settled_97 (by decide) ?_ ?_
    · refine V_iload_n C dX9_settled_217 rfl 1 rfl ?_
      refine V_if_eq (tgt := 225) C dX9_settled_218 (by decide) ?_ ?_
      · refine V_iload_n C dX9_settled_225 rfl 2 rfl ?_
        exact V_iret C D dX9_settled_226
      · refine V_iload_n C dX9_settled_221 rfl 3 rfl ?_
        refine V_goto (tgt := 226) C dX9_settled_222 (by decide) ?_
        exact V_iret C D dX9_settled_226
    · refine V_aload_n C dX9_settled_100 rfl 0 rfl ?_
      refine gf_RX9_33 C (ln134) ly134 rfl dX9_settled_101 ?_
      refine V_iload C dX9_settled_104 4 rfl ?_
      refine V_iald C (ln141) ly141 dX9_settled_106 ?_
      refine V_ltI (fun v1 => ?_)
      refine V_istore (L' := [(5, .int v1), (0, .ref (b + 134)), (1, .int x1), (2, .int x2), (3, .int x3), (4, .int x4)]) C dX9_settled_107 (by decide) rfl ?_
      refine V_iload C dX9_settled_109 0 rfl ?_
      refine V_bipush (v := (-9 : Int32)) C dX9_settled_111 (by decide) ?_
      refine V_icmp_ne (tgt := 120) C dX9_settled_113 (by decide) ?_ ?_
      · refine V_aload_n C dX9_settled_120 rfl 1 rfl ?_
        refine gf_RX9_78 C (ln134) ly134 rfl dX9_settled_121 ?_
        refine V_iload C dX9_settled_124 5 rfl ?_
        refine V_iald C (ln156) ly156 dX9_settled_126 ?_
        refine V_aload_n C dX9_settled_127 rfl 1 rfl ?_
        refine gf_RX9_75 C (ln134) ly134 rfl dX9_settled_128 ?_
        refine V_iload C dX9_settled_131 0 rfl ?_
        refine V_iald C (ln155) ly155 dX9_settled_133 ?_
        refine V_icmp_ge (tgt := 147) C dX9_settled_134 (by decide) ?_ ?_
        · refine V_aload_n C dX9_settled_147 rfl 1 rfl ?_
          refine gf_RX9_75 C (ln134) ly134 rfl dX9_settled_148 ?_
          refine V_iload C dX9_settled_151 0 rfl ?_
          refine V_iald C (ln155) ly155 dX9_settled_153 ?_
          exact V_sub [1, 2, 3, 4, 5, 0] rfl (vj_X9_settled_154 C D ih σ x1 x2 x3 x4 v1 (σ 155 (ix v1)))
        · refine V_aload_n C dX9_settled_137 rfl 1 rfl ?_
          refine gf_RX9_78 C (ln134) ly134 rfl dX9_settled_138 ?_
          refine V_iload C dX9_settled_141 5 rfl ?_
          refine V_iald C (ln156) ly156 dX9_settled_143 ?_
          refine V_goto (tgt := 154) C dX9_settled_144 (by decide) ?_
          exact V_sub [1, 2, 3, 4, 5, 0] rfl (vj_X9_settled_154 C D ih σ x1 x2 x3 x4 v1 (σ 156 (ix x4)))
      · refine V_iconst (v := (0 : Int32)) C dX9_settled_116 (by decide) ?_
        refine V_goto (tgt := 154) C dX9_settled_117 (by decide) ?_
        exact V_sub [1, 2, 3, 4, 5, 0] rfl (vj_X9_settled_154 C D ih σ x1 x2 x3 x4 v1 (0 : Int32))

set_option maxRecDepth 4000 in
theorem vj_X9_settled_13 {E : Ev} {b : Nat} (C : CX E RX9 cX9_settled 7 2) (D : CR E (some .int))    : ∀ (n : Nat) (σ : Hp) (x1 : Int32) (x2 : Int32) (x3 : Int32) , VJ rvI (QM E b) E b 7 σ 13 [(0, .ref (b + 134)), (1, .int x1), (2, .int x2), (3, .int x3)] [] (f_X9_settled_13 n σ x1 x2 x3)
  | 0, σ, x1, x2, x3 => V_none
  | n + 1, σ, x1, x2, x3 => by
    show VJ rvI (QM E b) E b 7 σ 13 [(0, .ref (b + 134)), (1, .int x1), (2, .int x2), (3, .int x3)] [] (if (σ 134 4) ≤ x3 then (
          f_X9_settled_91 FU σ x1 x2 (0 : Int32) (0 : Int32))
        else (
          ck x3 5 <|
          ck x3 5 <|
          if (σ 155 (ix x3)) ≤ (σ 156 (ix x3)) then (
            ck x3 5 <|
            f_X9_settled_51 (f_X9_settled_13 n) σ x1 x2 x3 (σ 155 (ix x3)))
          else (
            ck x3 5 <|
            f_X9_settled_51 (f_X9_settled_13 n) σ x1 x2 x3 (σ 156 (ix x3)))))
    have ih := vj_X9_settled_13 (b := b) C D   n
    refine V_iload_n C dX9_settled_13 rfl 3 rfl ?_
    refine V_aload_n C dX9_settled_14 rfl 0 rfl ?_
    refine gf_RX9_90 C (ln134) ly134 rfl dX9_settled_15 ?_
    refine V_icmp_ge (tgt := 86) C dX9_settled_18 (by decide) ?_ ?_
    · refine V_iconst (v := (0 : Int32)) C dX9_settled_86 (by decide) ?_
      refine V_istore_n (L' := [(3, .int (0 : Int32)), (0, .ref (b + 134)), (1, .int x1), (2, .int x2)]) C dX9_settled_87 rfl (by decide) rfl ?_
      refine V_iconst (v := (0 : Int32)) C dX9_settled_88 (by decide) ?_
      refine V_istore (L' := [(4, .int (0 : Int32)), (3, .int (0 : Int32)), (0, .ref (b + 134)), (1, .int x1), (2, .int x2)]) C dX9_settled_89 (by decide) rfl ?_
      exact V_sub [2, 3, 4, 1, 0] rfl (vj_X9_settled_91 C D FU σ x1 x2 (0 : Int32) (0 : Int32))
    · refine V_aload_n C dX9_settled_21 rfl 0 rfl ?_
      refine gf_RX9_78 C (ln134) ly134 rfl dX9_settled_22 ?_
      refine V_iload_n C dX9_settled_25 rfl 3 rfl ?_
      refine V_iald C (ln156) ly156 dX9_settled_26 ?_
      refine V_aload_n C dX9_settled_27 rfl 0 rfl ?_
      refine gf_RX9_75 C (ln134) ly134 rfl dX9_settled_28 ?_
      refine V_iload_n C dX9_settled_31 rfl 3 rfl ?_
      refine V_iald C (ln155) ly155 dX9_settled_32 ?_
      refine V_icmp_ge (tgt := 45) C dX9_settled_33 (by decide) ?_ ?_
      · refine V_aload_n C dX9_settled_45 rfl 0 rfl ?_
        refine gf_RX9_75 C (ln134) ly134 rfl dX9_settled_46 ?_
        refine V_iload_n C dX9_settled_49 rfl 3 rfl ?_
        refine V_iald C (ln155) ly155 dX9_settled_50 ?_
        exact V_sub [0, 1, 2, 3] rfl (vj_X9_settled_51 C D ih σ x1 x2 x3 (σ 155 (ix x3)))
      · refine V_aload_n C dX9_settled_36 rfl 0 rfl ?_
        refine gf_RX9_78 C (ln134) ly134 rfl dX9_settled_37 ?_
        refine V_iload_n C dX9_settled_40 rfl 3 rfl ?_
        refine V_iald C (ln156) ly156 dX9_settled_41 ?_
        refine V_goto (tgt := 51) C dX9_settled_42 (by decide) ?_
        exact V_sub [0, 1, 2, 3] rfl (vj_X9_settled_51 C D ih σ x1 x2 x3 (σ 156 (ix x3)))

set_option maxRecDepth 4000 in
theorem vj_X9_settled_0 {E : Ev} {b : Nat} (C : CX E RX9 cX9_settled 7 2) (D : CR E (some .int))    (σ : Hp) (a1 : Int32)  : VJ rvI (QM E b) E b 7 σ 0 [(0, .ref (b + 134)), (1, .int a1)] [] (f_X9_settled σ a1) := by
  unfold f_X9_settled
  refine V_aload_n C dX9_settled_0 rfl 0 rfl ?_
  refine V_iconst (v := (0 : Int32)) C dX9_settled_1 (by decide) ?_
  refine pf_RX9_87 C (ln134) ly134 rfl dX9_settled_2 (fun σ1 => ?_)
  refine V_aload_n C dX9_settled_5 rfl 0 rfl ?_
  refine cv_RX9_170 C (ln134) ly134 (ct_X9_begin _ _ _ _ _ σ1 ) (by decide) rfl rfl (Nat.le_of_ble_eq_true rfl) dX9_settled_6 (fun r2 σ3 => ?_)
  refine V_iconst (v := (0 : Int32)) C dX9_settled_9 (by decide) ?_
  refine V_istore_n (L' := [(2, .int (0 : Int32)), (0, .ref (b + 134)), (1, .int a1)]) C dX9_settled_10 rfl (by decide) rfl ?_
  refine V_iconst (v := (0 : Int32)) C dX9_settled_11 (by decide) ?_
  refine V_istore_n (L' := [(3, .int (0 : Int32)), (2, .int (0 : Int32)), (0, .ref (b + 134)), (1, .int a1)]) C dX9_settled_12 rfl (by decide) rfl ?_
  exact V_sub [2, 3, 1, 0] rfl (vj_X9_settled_13 C D FU σ3 a1 (0 : Int32) (0 : Int32))

theorem ct_X9_settled (l : Launch) (dC : Nat → ClassId) (dI : Nat → Nat → Nat) (cA : Nat → ClassId) (b : Nat) (σ : Hp) (a1 : Int32)  : CT l dC dI cA b yX9_settled cX9_settled 7 (some .int) 2 [.ref (b + 134), .int a1] σ rvI (f_X9_settled σ a1) := CT_of [(0, .ref (b + 134)), (1, .int a1)] (by decide +kernel) rfl (Nat.le_of_ble_eq_true rfl) rfl (fun E _ C D _ _ _ => vj_X9_settled_0 C D σ a1 )
set_option maxRecDepth 4000 in
theorem vj_X9_use_0 {E : Ev} {b : Nat} (C : CX E RX9 cX9_use 4 3) (D : CR E (some .int))    (σ : Hp) (a1 : Int32) (a2 : Int32) (a3 : Int32)  : VJ rvI (QM E b) E b 4 σ 0 [(0, .ref (b + 134)), (1, .int a1), (2, .int a2), (3, .int a3)] [] (f_X9_use σ a1 a2 a3) := by
  unfold f_X9_use
  refine V_aload_n C dX9_use_0 rfl 0 rfl ?_
  refine V_iconst (v := (0 : Int32)) C dX9_use_1 (by decide) ?_
  refine pf_RX9_87 C (ln134) ly134 rfl dX9_use_2 (fun σ1 => ?_)
  refine V_aload_n C dX9_use_5 rfl 0 rfl ?_
  refine V_iload_n C dX9_use_6 rfl 2 rfl ?_
  refine cv_RX9_154 C (ln134) ly134 (ct_X9_noGuard _ _ _ _ _ σ1 a2) (by decide) rfl rfl (Nat.le_of_ble_eq_true rfl) dX9_use_7 (fun r2 σ3 => ?_)
  refine V_if_eq (tgt := 15) C dX9_use_10 (by decide) ?_ ?_
  · refine V_iload_n C dX9_use_15 rfl 1 rfl ?_
    refine V_i2l C dX9_use_16 ?_
    refine V_lconst (v := (0 : Int64)) C dX9_use_17 (by decide) ?_
    refine V_ldc2 C wk_RX9_222 dX9_use_18 ?_
    refine cs_RX9_93 C (ct_X9_in _ _ _ _ _ σ3 (a1.toInt64) (0 : Int64) (99 : Int64)) (by decide) rfl rfl (Nat.le_of_ble_eq_true rfl) dX9_use_21 (fun r4 σ5 => ?_)
    refine V_if_eq (tgt := 39) C dX9_use_24 (by decide) ?_ ?_
    · refine V_bipush (v := (-2 : Int32)) C dX9_use_39 (by decide) ?_
      exact V_iret C D dX9_use_41
    · refine V_iload_n C dX9_use_27 rfl 3 rfl ?_
      refine V_i2l C dX9_use_28 ?_
      refine V_lconst (v := (0 : Int64)) C dX9_use_29 (by decide) ?_
      refine V_ldc2 C wk_RX9_222 dX9_use_30 ?_
      refine cs_RX9_93 C (ct_X9_in _ _ _ _ _ σ5 (a3.toInt64) (0 : Int64) (99 : Int64)) (by decide) rfl rfl (Nat.le_of_ble_eq_true rfl) dX9_use_33 (fun r6 σ7 => ?_)
      refine V_if_ne (tgt := 42) C dX9_use_36 (by decide) ?_ ?_
      · refine V_aload_n C dX9_use_42 rfl 0 rfl ?_
        refine gf_RX9_151 C (ln134) ly134 rfl dX9_use_43 ?_
        refine V_bipush (v := (12 : Int32)) C dX9_use_46 (by decide) ?_
        refine V_icmp_ne (tgt := 54) C dX9_use_48 (by decide) ?_ ?_
        · refine V_aload_n C dX9_use_54 rfl 0 rfl ?_
          refine gf_RX9_63 C (ln134) ly134 rfl dX9_use_55 ?_
          refine V_aload_n C dX9_use_58 rfl 0 rfl ?_
          refine gf_RX9_151 C (ln134) ly134 rfl dX9_use_59 ?_
          refine V_iload_n C dX9_use_62 rfl 1 rfl ?_
          refine V_iast C (ln151) ly151 dX9_use_63 (fun σ8 => ?_)
          refine V_aload_n C dX9_use_64 rfl 0 rfl ?_
          refine gf_RX9_66 C (ln134) ly134 rfl dX9_use_65 ?_
          refine V_aload_n C dX9_use_68 rfl 0 rfl ?_
          refine gf_RX9_151 C (ln134) ly134 rfl dX9_use_69 ?_
          refine V_iload_n C dX9_use_72 rfl 2 rfl ?_
          refine V_iast C (ln152) ly152 dX9_use_73 (fun σ9 => ?_)
          refine V_aload_n C dX9_use_74 rfl 0 rfl ?_
          refine gf_RX9_69 C (ln134) ly134 rfl dX9_use_75 ?_
          refine V_aload_n C dX9_use_78 rfl 0 rfl ?_
          refine gf_RX9_151 C (ln134) ly134 rfl dX9_use_79 ?_
          refine V_iload_n C dX9_use_82 rfl 3 rfl ?_
          refine V_iast C (ln153) ly153 dX9_use_83 (fun σ10 => ?_)
          refine V_aload_n C dX9_use_84 rfl 0 rfl ?_
          refine V_dup C dX9_use_85 rfl ?_
          refine gf_RX9_151 C (ln134) ly134 rfl dX9_use_86 ?_
          refine V_iconst (v := (1 : Int32)) C dX9_use_89 (by decide) ?_
          refine V_iadd C dX9_use_90 ?_
          refine pf_RX9_151 C (ln134) ly134 rfl dX9_use_91 (fun σ11 => ?_)
          refine V_aload_n C dX9_use_94 rfl 0 rfl ?_
          refine gf_RX9_151 C (ln134) ly134 rfl dX9_use_95 ?_
          exact V_iret C D dX9_use_98
        · refine V_bipush (v := (-4 : Int32)) C dX9_use_51 (by decide) ?_
          exact V_iret C D dX9_use_53
      · refine V_bipush (v := (-2 : Int32)) C dX9_use_39 (by decide) ?_
        exact V_iret C D dX9_use_41
  · refine V_iconst (v := (-1 : Int32)) C dX9_use_13 (by decide) ?_
    exact V_iret C D dX9_use_14

theorem ct_X9_use (l : Launch) (dC : Nat → ClassId) (dI : Nat → Nat → Nat) (cA : Nat → ClassId) (b : Nat) (σ : Hp) (a1 : Int32) (a2 : Int32) (a3 : Int32)  : CT l dC dI cA b yX9_use cX9_use 4 (some .int) 3 [.ref (b + 134), .int a1, .int a2, .int a3] σ rvI (f_X9_use σ a1 a2 a3) := CT_of [(0, .ref (b + 134)), (1, .int a1), (2, .int a2), (3, .int a3)] (by decide +kernel) rfl (Nat.le_of_ble_eq_true rfl) rfl (fun E _ C D _ _ _ => vj_X9_use_0 C D σ a1 a2 a3 )
set_option maxRecDepth 4000 in
theorem vj_X9_burn_0 {E : Ev} {b : Nat} (C : CX E RX9 cX9_burn 2 1) (D : CR E (some .int))    (σ : Hp)   : VJ rvI (QM E b) E b 2 σ 0 [(0, .ref (b + 134))] [] (f_X9_burn σ ) := by
  unfold f_X9_burn
  refine V_aload_n C dX9_burn_0 rfl 0 rfl ?_
  refine V_iconst (v := (0 : Int32)) C dX9_burn_1 (by decide) ?_
  refine pf_RX9_87 C (ln134) ly134 rfl dX9_burn_2 (fun σ1 => ?_)
  refine V_aload_n C dX9_burn_5 rfl 0 rfl ?_
  refine gf_RX9_151 C (ln134) ly134 rfl dX9_burn_6 ?_
  refine V_ltI (fun v2 => ?_)
  refine V_istore_n (L' := [(1, .int v2), (0, .ref (b + 134))]) C dX9_burn_9 rfl (by decide) rfl ?_
  refine V_aload_n C dX9_burn_10 rfl 1 rfl ?_
  refine V_iconst (v := (0 : Int32)) C dX9_burn_11 (by decide) ?_
  refine pf_RX9_151 C (ln134) ly134 rfl dX9_burn_12 (fun σ3 => ?_)
  refine V_iload_n C dX9_burn_15 rfl 0 rfl ?_
  exact V_iret C D dX9_burn_16

theorem ct_X9_burn (l : Launch) (dC : Nat → ClassId) (dI : Nat → Nat → Nat) (cA : Nat → ClassId) (b : Nat) (σ : Hp)   : CT l dC dI cA b yX9_burn cX9_burn 2 (some .int) 1 [.ref (b + 134)] σ rvI (f_X9_burn σ ) := CT_of [(0, .ref (b + 134))] (by decide +kernel) rfl (Nat.le_of_ble_eq_true rfl) rfl (fun E _ C D _ _ _ => vj_X9_burn_0 C D σ  )
set_option maxRecDepth 4000 in
theorem vj_X9_areTwins_0 {E : Ev} {b : Nat} (C : CX E RX9 cX9_areTwins 3 3) (D : CR E (some .boolean))    (σ : Hp) (a1 : Int32) (a2 : Int32)  : VJ rvI (QM E b) E b 3 σ 0 [(0, .ref (b + 134)), (1, .int a1), (2, .int a2)] [] (f_X9_areTwins σ a1 a2) := by
  unfold f_X9_areTwins
  refine V_aload_n C dX9_areTwins_0 rfl 0 rfl ?_
  refine V_iload_n C dX9_areTwins_1 rfl 1 rfl ?_
  refine cv_RX9_154 C (ln134) ly134 (ct_X9_noGuard _ _ _ _ _ σ a1) (by decide) rfl rfl (Nat.le_of_ble_eq_true rfl) dX9_areTwins_2 (fun r1 σ2 => ?_)
  refine V_if_ne (tgt := 30) C dX9_areTwins_5 (by decide) ?_ ?_
  · refine V_iconst (v := (0 : Int32)) C dX9_areTwins_30 (by decide) ?_
    exact V_zret C D dX9_areTwins_31
  · refine V_aload_n C dX9_areTwins_8 rfl 0 rfl ?_
    refine V_iload_n C dX9_areTwins_9 rfl 2 rfl ?_
    refine cv_RX9_154 C (ln134) ly134 (ct_X9_noGuard _ _ _ _ _ σ2 a2) (by decide) rfl rfl (Nat.le_of_ble_eq_true rfl) dX9_areTwins_10 (fun r3 σ4 => ?_)
    refine V_if_ne (tgt := 30) C dX9_areTwins_13 (by decide) ?_ ?_
    · refine V_iconst (v := (0 : Int32)) C dX9_areTwins_30 (by decide) ?_
      exact V_zret C D dX9_areTwins_31
    · refine V_aload_n C dX9_areTwins_16 rfl 0 rfl ?_
      refine gf_RX9_33 C (ln134) ly134 rfl dX9_areTwins_17 ?_
      refine V_iload_n C dX9_areTwins_20 rfl 1 rfl ?_
      refine V_iald C (ln141) ly141 dX9_areTwins_21 ?_
      refine V_iload_n C dX9_areTwins_22 rfl 2 rfl ?_
      refine V_icmp_ne (tgt := 30) C dX9_areTwins_23 (by decide) ?_ ?_
      · refine V_iconst (v := (0 : Int32)) C dX9_areTwins_30 (by decide) ?_
        exact V_zret C D dX9_areTwins_31
      · refine V_iconst (v := (1 : Int32)) C dX9_areTwins_26 (by decide) ?_
        refine V_goto (tgt := 31) C dX9_areTwins_27 (by decide) ?_
        exact V_zret C D dX9_areTwins_31

theorem ct_X9_areTwins (l : Launch) (dC : Nat → ClassId) (dI : Nat → Nat → Nat) (cA : Nat → ClassId) (b : Nat) (σ : Hp) (a1 : Int32) (a2 : Int32)  : CT l dC dI cA b yX9_areTwins cX9_areTwins 3 (some .boolean) 3 [.ref (b + 134), .int a1, .int a2] σ rvI (f_X9_areTwins σ a1 a2) := CT_of [(0, .ref (b + 134)), (1, .int a1), (2, .int a2)] (by decide +kernel) rfl (Nat.le_of_ble_eq_true rfl) rfl (fun E _ C D _ _ _ => vj_X9_areTwins_0 C D σ a1 a2 )
set_option maxRecDepth 4000 in
theorem vj_X9_isForged_99 {E : Ev} {b : Nat} (C : CX E RX9 cX9_isForged 6 4) (D : CR E (some .boolean))   {k15 : Hp → Int32 → Int32 → Int32 → Int32 → Option (Int32 × Hp)} (hk15 : ∀ (σ : Hp) (x1 : Int32) (x2 : Int32) (x3 : Int32) (x4 : Int32) , VJ rvI (QM E b) E b 6 σ 15 [(0, .ref (b + 134)), (1, .int x1), (2, .int x2), (3, .int x3), (4, .int x4)] [] (k15 σ x1 x2 x3 x4)) {k4 : Hp → Int32 → Int32 → Int32 → Option (Int32 × Hp)} (hk4 : ∀ (σ : Hp) (x1 : Int32) (x2 : Int32) (x3 : Int32) , VJ rvI (QM E b) E b 6 σ 4 [(0, .ref (b + 134)), (1, .int x1), (2, .int x2), (3, .int x3)] [] (k4 σ x1 x2 x3)) (σ : Hp) (x1 : Int32) (x3 : Int32) (x4 : Int32) (s0 : Int32)  : VJ rvI (QM E b) E b 6 σ 99 [(0, .ref (b + 134)), (1, .int x1), (3, .int x3), (4, .int x4)] [.int s0] (f_X9_isForged_99 k15 k4 σ x1 x3 x4 s0) := by
  unfold f_X9_isForged_99
  refine V_istore_n (L' := [(2, .int s0), (0, .ref (b + 134)), (1, .int x1), (3, .int x3), (4, .int x4)]) C dX9_isForged_99 rfl (by decide) rfl ?_
  refine V_iinc (k := 4) (v := (1 : Int32)) (L' := fun v1 => [(4, .int v1), (2, .int s0), (0, .ref (b + 134)), (1, .int x1), (3, .int x3)]) C dX9_isForged_100 rfl (by decide) (by decide) (fun _ => rfl) (fun v1 => ?_)
  refine V_goto (tgt := 15) C dX9_isForged_103 (by decide) ?_
  exact V_sub [2, 3, 1, 4, 0] rfl (hk15 σ x1 s0 x3 v1)

set_option maxRecDepth 4000 in
theorem vj_X9_isForged_94 {E : Ev} {b : Nat} (C : CX E RX9 cX9_isForged 6 4) (D : CR E (some .boolean))   {k15 : Hp → Int32 → Int32 → Int32 → Int32 → Option (Int32 × Hp)} (hk15 : ∀ (σ : Hp) (x1 : Int32) (x2 : Int32) (x3 : Int32) (x4 : Int32) , VJ rvI (QM E b) E b 6 σ 15 [(0, .ref (b + 134)), (1, .int x1), (2, .int x2), (3, .int x3), (4, .int x4)] [] (k15 σ x1 x2 x3 x4)) {k4 : Hp → Int32 → Int32 → Int32 → Option (Int32 × Hp)} (hk4 : ∀ (σ : Hp) (x1 : Int32) (x2 : Int32) (x3 : Int32) , VJ rvI (QM E b) E b 6 σ 4 [(0, .ref (b + 134)), (1, .int x1), (2, .int x2), (3, .int x3)] [] (k4 σ x1 x2 x3)) (σ : Hp) (x1 : Int32) (x3 : Int32) (x4 : Int32)  : VJ rvI (QM E b) E b 6 σ 94 [(0, .ref (b + 134)), (1, .int x1), (3, .int x3), (4, .int x4)] [] (f_X9_isForged_94 k15 k4 σ x1 x3 x4) := by
  unfold f_X9_isForged_94
  refine V_iconst (v := (1 : Int32)) C dX9_isForged_94 (by decide) ?_
  refine V_goto (tgt := 99) C dX9_isForged_95 (by decide) ?_
  exact V_sub [0, 1, 2, 3] rfl (vj_X9_isForged_99 C D hk15 hk4 σ x1 x3 x4 (1 : Int32))

set_option maxRecDepth 4000 in
theorem vj_X9_isForged_98 {E : Ev} {b : Nat} (C : CX E RX9 cX9_isForged 6 4) (D : CR E (some .boolean))   {k15 : Hp → Int32 → Int32 → Int32 → Int32 → Option (Int32 × Hp)} (hk15 : ∀ (σ : Hp) (x1 : Int32) (x2 : Int32) (x3 : Int32) (x4 : Int32) , VJ rvI (QM E b) E b 6 σ 15 [(0, .ref (b + 134)), (1, .int x1), (2, .int x2), (3, .int x3), (4, .int x4)] [] (k15 σ x1 x2 x3 x4)) {k4 : Hp → Int32 → Int32 → Int32 → Option (Int32 × Hp)} (hk4 : ∀ (σ : Hp) (x1 : Int32) (x2 : Int32) (x3 : Int32) , VJ rvI (QM E b) E b 6 σ 4 [(0, .ref (b + 134)), (1, .int x1), (2, .int x2), (3, .int x3)] [] (k4 σ x1 x2 x3)) (σ : Hp) (x1 : Int32) (x3 : Int32) (x4 : Int32)  : VJ rvI (QM E b) E b 6 σ 98 [(0, .ref (b + 134)), (1, .int x1), (3, .int x3), (4, .int x4)] [] (f_X9_isForged_98 k15 k4 σ x1 x3 x4) := by
  unfold f_X9_isForged_98
  refine V_iconst (v := (0 : Int32)) C dX9_isForged_98 (by decide) ?_
  exact V_sub [0, 1, 2, 3] rfl (vj_X9_isForged_99 C D hk15 hk4 σ x1 x3 x4 (0 : Int32))

set_option maxRecDepth 4000 in
theorem vj_X9_isForged_47 {E : Ev} {b : Nat} (C : CX E RX9 cX9_isForged 6 4) (D : CR E (some .boolean))   {k15 : Hp → Int32 → Int32 → Int32 → Int32 → Option (Int32 × Hp)} (hk15 : ∀ (σ : Hp) (x1 : Int32) (x2 : Int32) (x3 : Int32) (x4 : Int32) , VJ rvI (QM E b) E b 6 σ 15 [(0, .ref (b + 134)), (1, .int x1), (2, .int x2), (3, .int x3), (4, .int x4)] [] (k15 σ x1 x2 x3 x4)) {k4 : Hp → Int32 → Int32 → Int32 → Option (Int32 × Hp)} (hk4 : ∀ (σ : Hp) (x1 : Int32) (x2 : Int32) (x3 : Int32) , VJ rvI (QM E b) E b 6 σ 4 [(0, .ref (b + 134)), (1, .int x1), (2, .int x2), (3, .int x3)] [] (k4 σ x1 x2 x3)) (σ : Hp) (x1 : Int32) (x2 : Int32) (x3 : Int32) (x4 : Int32) (s0 : Int32)  : VJ rvI (QM E b) E b 6 σ 47 [(0, .ref (b + 134)), (1, .int x1), (2, .int x2), (3, .int x3), (4, .int x4)] [.int s0] (f_X9_isForged_47 k15 k4 σ x1 x2 x3 x4 s0) := by
  unfold f_X9_isForged_47
  refine V_istore (L' := [(5, .int s0), (0, .ref (b + 134)), (1, .int x1), (2, .int x2), (3, .int x3), (4, .int x4)]) C dX9_isForged_47 (by decide) rfl ?_
  refine V_iload_n C dX9_isForged_49 rfl 3 rfl ?_
  refine V_if_ne (tgt := 94) C dX9_isForged_50 (by decide) ?_ ?_
  · exact V_sub [1, 2, 4, 5] rfl (vj_X9_isForged_94 C D hk15 hk4 σ x1 x3 x4)
  · refine V_iload C dX9_isForged_53 0 rfl ?_
    refine V_if_eq (tgt := 98) C dX9_isForged_55 (by decide) ?_ ?_
    · exact V_sub [1, 2, 4, 5] rfl (vj_X9_isForged_98 C D hk15 hk4 σ x1 x3 x4)
    · refine V_aload_n C dX9_isForged_58 rfl 1 rfl ?_
      refine gf_RX9_69 C (ln134) ly134 rfl dX9_isForged_59 ?_
      refine V_iload_n C dX9_isForged_62 rfl 4 rfl ?_
      refine V_iald C (ln153) ly153 dX9_isForged_63 ?_
      refine V_aload_n C dX9_isForged_64 rfl 1 rfl ?_
      refine gf_RX9_69 C (ln134) ly134 rfl dX9_isForged_65 ?_
      refine V_iload C dX9_isForged_68 5 rfl ?_
      refine V_iald C (ln153) ly153 dX9_isForged_70 ?_
      refine V_icmp_ne (tgt := 94) C dX9_isForged_71 (by decide) ?_ ?_
      · exact V_sub [1, 2, 4, 5] rfl (vj_X9_isForged_94 C D hk15 hk4 σ x1 x3 x4)
      · refine V_aload_n C dX9_isForged_74 rfl 1 rfl ?_
        refine V_aload_n C dX9_isForged_75 rfl 1 rfl ?_
        refine gf_RX9_66 C (ln134) ly134 rfl dX9_isForged_76 ?_
        refine V_iload_n C dX9_isForged_79 rfl 4 rfl ?_
        refine V_iald C (ln152) ly152 dX9_isForged_80 ?_
        refine V_aload_n C dX9_isForged_81 rfl 1 rfl ?_
        refine gf_RX9_66 C (ln134) ly134 rfl dX9_isForged_82 ?_
        refine V_iload C dX9_isForged_85 5 rfl ?_
        refine V_iald C (ln152) ly152 dX9_isForged_87 ?_
        refine cv_RX9_224 C (ln134) ly134 (ct_X9_areTwins _ _ _ _ _ σ (σ 152 (ix x3)) (σ 152 (ix x4))) (by decide) rfl rfl (Nat.le_of_ble_eq_true rfl) dX9_isForged_88 (fun r1 σ2 => ?_)
        refine V_if_ne (tgt := 98) C dX9_isForged_91 (by decide) ?_ ?_
        · exact V_sub [1, 2, 4, 5] rfl (vj_X9_isForged_98 C D hk15 hk4 σ2 x1 x3 x4)
        · exact V_sub [1, 2, 4, 5] rfl (vj_X9_isForged_94 C D hk15 hk4 σ2 x1 x3 x4)

set_option maxRecDepth 4000 in
theorem vj_X9_isForged_46 {E : Ev} {b : Nat} (C : CX E RX9 cX9_isForged 6 4) (D : CR E (some .boolean))   {k15 : Hp → Int32 → Int32 → Int32 → Int32 → Option (Int32 × Hp)} (hk15 : ∀ (σ : Hp) (x1 : Int32) (x2 : Int32) (x3 : Int32) (x4 : Int32) , VJ rvI (QM E b) E b 6 σ 15 [(0, .ref (b + 134)), (1, .int x1), (2, .int x2), (3, .int x3), (4, .int x4)] [] (k15 σ x1 x2 x3 x4)) {k4 : Hp → Int32 → Int32 → Int32 → Option (Int32 × Hp)} (hk4 : ∀ (σ : Hp) (x1 : Int32) (x2 : Int32) (x3 : Int32) , VJ rvI (QM E b) E b 6 σ 4 [(0, .ref (b + 134)), (1, .int x1), (2, .int x2), (3, .int x3)] [] (k4 σ x1 x2 x3)) (σ : Hp) (x1 : Int32) (x2 : Int32) (x3 : Int32) (x4 : Int32)  : VJ rvI (QM E b) E b 6 σ 46 [(0, .ref (b + 134)), (1, .int x1), (2, .int x2), (3, .int x3), (4, .int x4)] [] (f_X9_isForged_46 k15 k4 σ x1 x2 x3 x4) := by
  unfold f_X9_isForged_46
  refine V_iconst (v := (0 : Int32)) C dX9_isForged_46 (by decide) ?_
  exact V_sub [0, 1, 2, 3, 4] rfl (vj_X9_isForged_47 C D hk15 hk4 σ x1 x2 x3 x4 (0 : Int32))

set_option maxRecDepth 4000 in
theorem vj_X9_isForged_15 {E : Ev} {b : Nat} (C : CX E RX9 cX9_isForged 6 4) (D : CR E (some .boolean))   {k4 : Hp → Int32 → Int32 → Int32 → Option (Int32 × Hp)} (hk4 : ∀ (σ : Hp) (x1 : Int32) (x2 : Int32) (x3 : Int32) , VJ rvI (QM E b) E b 6 σ 4 [(0, .ref (b + 134)), (1, .int x1), (2, .int x2), (3, .int x3)] [] (k4 σ x1 x2 x3)) : ∀ (n : Nat) (σ : Hp) (x1 : Int32) (x2 : Int32) (x3 : Int32) (x4 : Int32) , VJ rvI (QM E b) E b 6 σ 15 [(0, .ref (b + 134)), (1, .int x1), (2, .int x2), (3, .int x3), (4, .int x4)] [] (f_X9_isForged_15 k4 n σ x1 x2 x3 x4)
  | 0, σ, x1, x2, x3, x4 => V_none
  | n + 1, σ, x1, x2, x3, x4 => by
    show VJ rvI (QM E b) E b 6 σ 15 [(0, .ref (b + 134)), (1, .int x1), (2, .int x2), (3, .int x3), (4, .int x4)] [] (if x3 ≤ x4 then (
          Lt (x3 + (1 : Int32)) fun v1 =>
          k4 σ x1 x2 v1)
        else (
          ck x3 12 <|
          if (σ 151 (ix x3)) = x1 then (
            ck x4 12 <|
            if (σ 151 (ix x4)) = x1 then (
              f_X9_isForged_47 (f_X9_isForged_15 k4 n) k4 σ x1 x2 x3 x4 (1 : Int32))
            else (
              f_X9_isForged_46 (f_X9_isForged_15 k4 n) k4 σ x1 x2 x3 x4))
          else (
            f_X9_isForged_46 (f_X9_isForged_15 k4 n) k4 σ x1 x2 x3 x4)))
    have ih := vj_X9_isForged_15 (b := b) C D  hk4 n
    refine V_iload C dX9_isForged_15 4 rfl ?_
    refine V_iload_n C dX9_isForged_17 rfl 3 rfl ?_
    refine V_icmp_ge (tgt := 106) C dX9_isForged_18 (by decide) ?_ ?_
    · refine V_iinc (k := 3) (v := (1 : Int32)) (L' := fun v1 => [(3, .int v1), (0, .ref (b + 134)), (1, .int x1), (2, .int x2), (4, .int x4)]) C dX9_isForged_106 rfl (by decide) (by decide) (fun _ => rfl) (fun v1 => ?_)
      refine V_goto (tgt := 4) C dX9_isForged_109 (by decide) ?_
      exact V_sub [1, 2, 3, 0] rfl (hk4 σ x1 x2 v1)
    · refine V_aload_n C dX9_isForged_21 rfl 0 rfl ?_
      refine gf_RX9_63 C (ln134) ly134 rfl dX9_isForged_22 ?_
      refine V_iload_n C dX9_isForged_25 rfl 3 rfl ?_
      refine V_iald C (ln151) ly151 dX9_isForged_26 ?_
      refine V_iload_n C dX9_isForged_27 rfl 1 rfl ?_
      refine V_icmp_ne (tgt := 46) C dX9_isForged_28 (by decide) ?_ ?_
      · exact V_sub [0, 1, 2, 3, 4] rfl (vj_X9_isForged_46 C D ih hk4 σ x1 x2 x3 x4)
      · refine V_aload_n C dX9_isForged_31 rfl 0 rfl ?_
        refine gf_RX9_63 C (ln134) ly134 rfl dX9_isForged_32 ?_
        refine V_iload C dX9_isForged_35 4 rfl ?_
        refine V_iald C (ln151) ly151 dX9_isForged_37 ?_
        refine V_iload_n C dX9_isForged_38 rfl 1 rfl ?_
        refine V_icmp_ne (tgt := 46) C dX9_isForged_39 (by decide) ?_ ?_
        · exact V_sub [0, 1, 2, 3, 4] rfl (vj_X9_isForged_46 C D ih hk4 σ x1 x2 x3 x4)
        · refine V_iconst (v := (1 : Int32)) C dX9_isForged_42 (by decide) ?_
          refine V_goto (tgt := 47) C dX9_isForged_43 (by decide) ?_
          exact V_sub [0, 1, 2, 3, 4] rfl (vj_X9_isForged_47 C D ih hk4 σ x1 x2 x3 x4 (1 : Int32))

set_option maxRecDepth 4000 in
theorem vj_X9_isForged_4 {E : Ev} {b : Nat} (C : CX E RX9 cX9_isForged 6 4) (D : CR E (some .boolean))    : ∀ (n : Nat) (σ : Hp) (x1 : Int32) (x2 : Int32) (x3 : Int32) , VJ rvI (QM E b) E b 6 σ 4 [(0, .ref (b + 134)), (1, .int x1), (2, .int x2), (3, .int x3)] [] (f_X9_isForged_4 n σ x1 x2 x3)
  | 0, σ, x1, x2, x3 => V_none
  | n + 1, σ, x1, x2, x3 => by
    show VJ rvI (QM E b) E b 6 σ 4 [(0, .ref (b + 134)), (1, .int x1), (2, .int x2), (3, .int x3)] [] (if (σ 134 28) ≤ x3 then (
          zr x2 σ)
        else (
          f_X9_isForged_15 (f_X9_isForged_4 n) FU σ x1 x2 x3 (0 : Int32)))
    have ih := vj_X9_isForged_4 (b := b) C D   n
    refine V_iload_n C dX9_isForged_4 rfl 3 rfl ?_
    refine V_aload_n C dX9_isForged_5 rfl 0 rfl ?_
    refine gf_RX9_151 C (ln134) ly134 rfl dX9_isForged_6 ?_
    refine V_icmp_ge (tgt := 112) C dX9_isForged_9 (by decide) ?_ ?_
    · refine V_iload_n C dX9_isForged_112 rfl 2 rfl ?_
      exact V_zret C D dX9_isForged_113
    · refine V_iconst (v := (0 : Int32)) C dX9_isForged_12 (by decide) ?_
      refine V_istore (L' := [(4, .int (0 : Int32)), (0, .ref (b + 134)), (1, .int x1), (2, .int x2), (3, .int x3)]) C dX9_isForged_13 (by decide) rfl ?_
      exact V_sub [1, 2, 3, 4, 0] rfl (vj_X9_isForged_15 C D ih FU σ x1 x2 x3 (0 : Int32))

set_option maxRecDepth 4000 in
theorem vj_X9_isForged_0 {E : Ev} {b : Nat} (C : CX E RX9 cX9_isForged 6 4) (D : CR E (some .boolean))    (σ : Hp) (a1 : Int32)  : VJ rvI (QM E b) E b 6 σ 0 [(0, .ref (b + 134)), (1, .int a1)] [] (f_X9_isForged σ a1) := by
  unfold f_X9_isForged
  refine V_iconst (v := (0 : Int32)) C dX9_isForged_0 (by decide) ?_
  refine V_istore_n (L' := [(2, .int (0 : Int32)), (0, .ref (b + 134)), (1, .int a1)]) C dX9_isForged_1 rfl (by decide) rfl ?_
  refine V_iconst (v := (0 : Int32)) C dX9_isForged_2 (by decide) ?_
  refine V_istore_n (L' := [(3, .int (0 : Int32)), (2, .int (0 : Int32)), (0, .ref (b + 134)), (1, .int a1)]) C dX9_isForged_3 rfl (by decide) rfl ?_
  exact V_sub [2, 3, 1, 0] rfl (vj_X9_isForged_4 C D FU σ a1 (0 : Int32) (0 : Int32))

theorem ct_X9_isForged (l : Launch) (dC : Nat → ClassId) (dI : Nat → Nat → Nat) (cA : Nat → ClassId) (b : Nat) (σ : Hp) (a1 : Int32)  : CT l dC dI cA b yX9_isForged cX9_isForged 6 (some .boolean) 4 [.ref (b + 134), .int a1] σ rvI (f_X9_isForged σ a1) := CT_of [(0, .ref (b + 134)), (1, .int a1)] (by decide +kernel) rfl (Nat.le_of_ble_eq_true rfl) rfl (fun E _ C D _ _ _ => vj_X9_isForged_0 C D σ a1 )
set_option maxRecDepth 4000 in
theorem vj_X9_forged_29 {E : Ev} {b : Nat} (C : CX E RX9 cX9_forged 3 5) (D : CR E (some .int))   {k9 : Hp → Int32 → Int32 → Option (Int32 × Hp)} (hk9 : ∀ (σ : Hp) (x1 : Int32) (x2 : Int32) , VJ rvI (QM E b) E b 3 σ 9 [(0, .ref (b + 134)), (1, .int x1), (2, .int x2)] [] (k9 σ x1 x2)) (σ : Hp) (x2 : Int32) (s0 : Int32) (s1 : Int32)  : VJ rvI (QM E b) E b 3 σ 29 [(0, .ref (b + 134)), (2, .int x2)] [.int s0, .int s1] (f_X9_forged_29 k9 σ x2 s0 s1) := by
  unfold f_X9_forged_29
  refine V_iadd C dX9_forged_29 ?_
  refine V_ltI (fun v1 => ?_)
  refine V_istore_n (L' := [(1, .int v1), (0, .ref (b + 134)), (2, .int x2)]) C dX9_forged_30 rfl (by decide) rfl ?_
  refine V_iinc (k := 2) (v := (1 : Int32)) (L' := fun v2 => [(2, .int v2), (1, .int v1), (0, .ref (b + 134))]) C dX9_forged_31 rfl (by decide) (by decide) (fun _ => rfl) (fun v2 => ?_)
  refine V_goto (tgt := 9) C dX9_forged_34 (by decide) ?_
  exact V_sub [2, 1, 0] rfl (hk9 σ v1 v2)

set_option maxRecDepth 4000 in
theorem vj_X9_forged_9 {E : Ev} {b : Nat} (C : CX E RX9 cX9_forged 3 5) (D : CR E (some .int))    : ∀ (n : Nat) (σ : Hp) (x1 : Int32) (x2 : Int32) , VJ rvI (QM E b) E b 3 σ 9 [(0, .ref (b + 134)), (1, .int x1), (2, .int x2)] [] (f_X9_forged_9 n σ x1 x2)
  | 0, σ, x1, x2 => V_none
  | n + 1, σ, x1, x2 => by
    show VJ rvI (QM E b) E b 3 σ 9 [(0, .ref (b + 134)), (1, .int x1), (2, .int x2)] [] (if (100 : Int32) ≤ x2 then (
          some (x1, σ))
        else (
          bd (f_X9_isForged σ x2) fun r1 σ2 =>
          if r1 = 0 then (
            f_X9_forged_29 (f_X9_forged_9 n) σ2 x2 (0 : Int32) x1)
          else (
            f_X9_forged_29 (f_X9_forged_9 n) σ2 x2 (1 : Int32) x1)))
    have ih := vj_X9_forged_9 (b := b) C D   n
    refine V_iload_n C dX9_forged_9 rfl 2 rfl ?_
    refine V_bipush (v := (100 : Int32)) C dX9_forged_10 (by decide) ?_
    refine V_icmp_ge (tgt := 37) C dX9_forged_12 (by decide) ?_ ?_
    · refine V_iload_n C dX9_forged_37 rfl 1 rfl ?_
      exact V_iret C D dX9_forged_38
    · refine V_iload_n C dX9_forged_15 rfl 1 rfl ?_
      refine V_aload_n C dX9_forged_16 rfl 0 rfl ?_
      refine V_iload_n C dX9_forged_17 rfl 2 rfl ?_
      refine cv_RX9_227 C (ln134) ly134 (ct_X9_isForged _ _ _ _ _ σ x2) (by decide) rfl rfl (Nat.le_of_ble_eq_true rfl) dX9_forged_18 (fun r1 σ2 => ?_)
      refine V_if_eq (tgt := 28) C dX9_forged_21 (by decide) ?_ ?_
      · refine V_iconst (v := (0 : Int32)) C dX9_forged_28 (by decide) ?_
        exact V_sub [0, 2] rfl (vj_X9_forged_29 C D ih σ2 x2 (0 : Int32) x1)
      · refine V_iconst (v := (1 : Int32)) C dX9_forged_24 (by decide) ?_
        refine V_goto (tgt := 29) C dX9_forged_25 (by decide) ?_
        exact V_sub [0, 2] rfl (vj_X9_forged_29 C D ih σ2 x2 (1 : Int32) x1)

set_option maxRecDepth 4000 in
theorem vj_X9_forged_0 {E : Ev} {b : Nat} (C : CX E RX9 cX9_forged 3 5) (D : CR E (some .int))    (σ : Hp)   : VJ rvI (QM E b) E b 3 σ 0 [(0, .ref (b + 134))] [] (f_X9_forged σ ) := by
  unfold f_X9_forged
  refine V_aload_n C dX9_forged_0 rfl 0 rfl ?_
  refine V_iconst (v := (0 : Int32)) C dX9_forged_1 (by decide) ?_
  refine pf_RX9_87 C (ln134) ly134 rfl dX9_forged_2 (fun σ1 => ?_)
  refine V_iconst (v := (0 : Int32)) C dX9_forged_5 (by decide) ?_
  refine V_istore_n (L' := [(1, .int (0 : Int32)), (0, .ref (b + 134))]) C dX9_forged_6 rfl (by decide) rfl ?_
  refine V_iconst (v := (0 : Int32)) C dX9_forged_7 (by decide) ?_
  refine V_istore_n (L' := [(2, .int (0 : Int32)), (1, .int (0 : Int32)), (0, .ref (b + 134))]) C dX9_forged_8 rfl (by decide) rfl ?_
  exact V_sub [2, 1, 0] rfl (vj_X9_forged_9 C D FU σ1 (0 : Int32) (0 : Int32))

theorem ct_X9_forged (l : Launch) (dC : Nat → ClassId) (dI : Nat → Nat → Nat) (cA : Nat → ClassId) (b : Nat) (σ : Hp)   : CT l dC dI cA b yX9_forged cX9_forged 3 (some .int) 5 [.ref (b + 134)] σ rvI (f_X9_forged σ ) := CT_of [(0, .ref (b + 134))] (by decide +kernel) rfl (Nat.le_of_ble_eq_true rfl) rfl (fun E _ C D _ _ _ => vj_X9_forged_0 C D σ  )
set_option maxRecDepth 4000 in
theorem vj_X9_forgedAt_36 {E : Ev} {b : Nat} (C : CX E RX9 cX9_forgedAt 4 5) (D : CR E (some .int))   {k9 : Hp → Int32 → Int32 → Int32 → Option (Int32 × Hp)} (hk9 : ∀ (σ : Hp) (x1 : Int32) (x2 : Int32) (x3 : Int32) , VJ rvI (QM E b) E b 4 σ 9 [(0, .ref (b + 134)), (1, .int x1), (2, .int x2), (3, .int x3)] [] (k9 σ x1 x2 x3)) (σ : Hp) (x1 : Int32) (x2 : Int32) (x3 : Int32)  : VJ rvI (QM E b) E b 4 σ 36 [(0, .ref (b + 134)), (1, .int x1), (2, .int x2), (3, .int x3)] [] (f_X9_forgedAt_36 k9 σ x1 x2 x3) := by
  unfold f_X9_forgedAt_36
  refine V_iinc (k := 3) (v := (1 : Int32)) (L' := fun v1 => [(3, .int v1), (0, .ref (b + 134)), (1, .int x1), (2, .int x2)]) C dX9_forgedAt_36 rfl (by decide) (by decide) (fun _ => rfl) (fun v1 => ?_)
  refine V_goto (tgt := 9) C dX9_forgedAt_39 (by decide) ?_
  exact V_sub [1, 2, 3, 0] rfl (hk9 σ x1 x2 v1)

set_option maxRecDepth 4000 in
theorem vj_X9_forgedAt_9 {E : Ev} {b : Nat} (C : CX E RX9 cX9_forgedAt 4 5) (D : CR E (some .int))    : ∀ (n : Nat) (σ : Hp) (x1 : Int32) (x2 : Int32) (x3 : Int32) , VJ rvI (QM E b) E b 4 σ 9 [(0, .ref (b + 134)), (1, .int x1), (2, .int x2), (3, .int x3)] [] (f_X9_forgedAt_9 n σ x1 x2 x3)
  | 0, σ, x1, x2, x3 => V_none
  | n + 1, σ, x1, x2, x3 => by
    show VJ rvI (QM E b) E b 4 σ 9 [(0, .ref (b + 134)), (1, .int x1), (2, .int x2), (3, .int x3)] [] (if (100 : Int32) ≤ x3 then (
          some ((-9 : Int32), σ))
        else (
          if x1 < 0 then (
            some ((-9 : Int32), σ))
          else (
            bd (f_X9_isForged σ x3) fun r1 σ2 =>
            if r1 = 0 then (
              f_X9_forgedAt_36 (f_X9_forgedAt_9 n) σ2 x1 x2 x3)
            else (
              if x2 = 0 then (
                some (x3, σ2))
              else (
                Lt (x2 + (-1 : Int32)) fun v3 =>
                f_X9_forgedAt_36 (f_X9_forgedAt_9 n) σ2 x1 v3 x3)))))
    have ih := vj_X9_forgedAt_9 (b := b) C D   n
    refine V_iload_n C dX9_forgedAt_9 rfl 3 rfl ?_
    refine V_bipush (v := (100 : Int32)) C dX9_forgedAt_10 (by decide) ?_
    refine V_icmp_ge (tgt := 42) C dX9_forgedAt_12 (by decide) ?_ ?_
    · refine V_bipush (v := (-9 : Int32)) C dX9_forgedAt_42 (by decide) ?_
      exact V_iret C D dX9_forgedAt_44
    · refine V_iload_n C dX9_forgedAt_15 rfl 1 rfl ?_
      refine V_if_lt (tgt := 42) C dX9_forgedAt_16 (by decide) ?_ ?_
      · refine V_bipush (v := (-9 : Int32)) C dX9_forgedAt_42 (by decide) ?_
        exact V_iret C D dX9_forgedAt_44
      · refine V_aload_n C dX9_forgedAt_19 rfl 0 rfl ?_
        refine V_iload_n C dX9_forgedAt_20 rfl 3 rfl ?_
        refine cv_RX9_227 C (ln134) ly134 (ct_X9_isForged _ _ _ _ _ σ x3) (by decide) rfl rfl (Nat.le_of_ble_eq_true rfl) dX9_forgedAt_21 (fun r1 σ2 => ?_)
        refine V_if_eq (tgt := 36) C dX9_forgedAt_24 (by decide) ?_ ?_
        · exact V_sub [0, 1, 2, 3] rfl (vj_X9_forgedAt_36 C D ih σ2 x1 x2 x3)
        · refine V_iload_n C dX9_forgedAt_27 rfl 2 rfl ?_
          refine V_if_ne (tgt := 33) C dX9_forgedAt_28 (by decide) ?_ ?_
          · refine V_iinc (k := 2) (v := (-1 : Int32)) (L' := fun v3 => [(2, .int v3), (0, .ref (b + 134)), (1, .int x1), (3, .int x3)]) C dX9_forgedAt_33 rfl (by decide) (by decide) (fun _ => rfl) (fun v3 => ?_)
            exact V_sub [1, 2, 0, 3] rfl (vj_X9_forgedAt_36 C D ih σ2 x1 v3 x3)
          · refine V_iload_n C dX9_forgedAt_31 rfl 3 rfl ?_
            exact V_iret C D dX9_forgedAt_32

set_option maxRecDepth 4000 in
theorem vj_X9_forgedAt_0 {E : Ev} {b : Nat} (C : CX E RX9 cX9_forgedAt 4 5) (D : CR E (some .int))    (σ : Hp) (a1 : Int32)  : VJ rvI (QM E b) E b 4 σ 0 [(0, .ref (b + 134)), (1, .int a1)] [] (f_X9_forgedAt σ a1) := by
  unfold f_X9_forgedAt
  refine V_aload_n C dX9_forgedAt_0 rfl 0 rfl ?_
  refine V_iconst (v := (0 : Int32)) C dX9_forgedAt_1 (by decide) ?_
  refine pf_RX9_87 C (ln134) ly134 rfl dX9_forgedAt_2 (fun σ1 => ?_)
  refine V_iload_n C dX9_forgedAt_5 rfl 1 rfl ?_
  refine V_istore_n (L' := [(2, .int a1), (0, .ref (b + 134)), (1, .int a1)]) C dX9_forgedAt_6 rfl (by decide) rfl ?_
  refine V_iconst (v := (0 : Int32)) C dX9_forgedAt_7 (by decide) ?_
  refine V_istore_n (L' := [(3, .int (0 : Int32)), (2, .int a1), (0, .ref (b + 134)), (1, .int a1)]) C dX9_forgedAt_8 rfl (by decide) rfl ?_
  exact V_sub [2, 3, 1, 0] rfl (vj_X9_forgedAt_9 C D FU σ1 a1 a1 (0 : Int32))

theorem ct_X9_forgedAt (l : Launch) (dC : Nat → ClassId) (dI : Nat → Nat → Nat) (cA : Nat → ClassId) (b : Nat) (σ : Hp) (a1 : Int32)  : CT l dC dI cA b yX9_forgedAt cX9_forgedAt 4 (some .int) 5 [.ref (b + 134), .int a1] σ rvI (f_X9_forgedAt σ a1) := CT_of [(0, .ref (b + 134)), (1, .int a1)] (by decide +kernel) rfl (Nat.le_of_ble_eq_true rfl) rfl (fun E _ C D _ _ _ => vj_X9_forgedAt_0 C D σ a1 )
set_option maxRecDepth 4000 in
theorem vj_X9_forgers_56 {E : Ev} {b : Nat} (C : CX E RX9 cX9_forgers 3 5) (D : CR E (some .int))   {k9 : Hp → Int32 → Int32 → Option (Int32 × Hp)} (hk9 : ∀ (σ : Hp) (x1 : Int32) (x2 : Int32) , VJ rvI (QM E b) E b 3 σ 9 [(0, .ref (b + 134)), (1, .int x1), (2, .int x2)] [] (k9 σ x1 x2)) (σ : Hp) (x2 : Int32) (s0 : Int32) (s1 : Int32)  : VJ rvI (QM E b) E b 3 σ 56 [(0, .ref (b + 134)), (2, .int x2)] [.int s0, .int s1] (f_X9_forgers_56 k9 σ x2 s0 s1) := by
  unfold f_X9_forgers_56
  refine V_ior C dX9_forgers_56 ?_
  refine V_ltI (fun v1 => ?_)
  refine V_istore_n (L' := [(1, .int v1), (0, .ref (b + 134)), (2, .int x2)]) C dX9_forgers_57 rfl (by decide) rfl ?_
  refine V_iinc (k := 2) (v := (1 : Int32)) (L' := fun v2 => [(2, .int v2), (1, .int v1), (0, .ref (b + 134))]) C dX9_forgers_58 rfl (by decide) (by decide) (fun _ => rfl) (fun v2 => ?_)
  refine V_goto (tgt := 9) C dX9_forgers_61 (by decide) ?_
  exact V_sub [2, 1, 0] rfl (hk9 σ v1 v2)

set_option maxRecDepth 4000 in
theorem vj_X9_forgers_55 {E : Ev} {b : Nat} (C : CX E RX9 cX9_forgers 3 5) (D : CR E (some .int))   {k9 : Hp → Int32 → Int32 → Option (Int32 × Hp)} (hk9 : ∀ (σ : Hp) (x1 : Int32) (x2 : Int32) , VJ rvI (QM E b) E b 3 σ 9 [(0, .ref (b + 134)), (1, .int x1), (2, .int x2)] [] (k9 σ x1 x2)) (σ : Hp) (x2 : Int32) (s0 : Int32)  : VJ rvI (QM E b) E b 3 σ 55 [(0, .ref (b + 134)), (2, .int x2)] [.int s0] (f_X9_forgers_55 k9 σ x2 s0) := by
  unfold f_X9_forgers_55
  refine V_iconst (v := (0 : Int32)) C dX9_forgers_55 (by decide) ?_
  exact V_sub [0, 1] rfl (vj_X9_forgers_56 C D hk9 σ x2 (0 : Int32) s0)

set_option maxRecDepth 4000 in
theorem vj_X9_forgers_9 {E : Ev} {b : Nat} (C : CX E RX9 cX9_forgers 3 5) (D : CR E (some .int))    : ∀ (n : Nat) (σ : Hp) (x1 : Int32) (x2 : Int32) , VJ rvI (QM E b) E b 3 σ 9 [(0, .ref (b + 134)), (1, .int x1), (2, .int x2)] [] (f_X9_forgers_9 n σ x1 x2)
  | 0, σ, x1, x2 => V_none
  | n + 1, σ, x1, x2 => by
    show VJ rvI (QM E b) E b 3 σ 9 [(0, .ref (b + 134)), (1, .int x1), (2, .int x2)] [] (if (σ 134 28) ≤ x2 then (
          some (x1, σ))
        else (
          ck x2 12 <|
          bd (f_X9_isForged σ (σ 151 (ix x2))) fun r1 σ2 =>
          if r1 = 0 then (
            f_X9_forgers_55 (f_X9_forgers_9 n) σ2 x2 x1)
          else (
            ck x2 12 <|
            bd (f_X9_noGuard σ2 (σ2 152 (ix x2))) fun r3 σ4 =>
            if r3 = 0 then (
              ck x2 12 <|
              f_X9_forgers_56 (f_X9_forgers_9 n) σ4 x2 ((1 : Int32) <<< ((σ4 152 (ix x2)) &&& 31)) x1)
            else (
              f_X9_forgers_55 (f_X9_forgers_9 n) σ4 x2 x1))))
    have ih := vj_X9_forgers_9 (b := b) C D   n
    refine V_iload_n C dX9_forgers_9 rfl 2 rfl ?_
    refine V_aload_n C dX9_forgers_10 rfl 0 rfl ?_
    refine gf_RX9_151 C (ln134) ly134 rfl dX9_forgers_11 ?_
    refine V_icmp_ge (tgt := 64) C dX9_forgers_14 (by decide) ?_ ?_
    · refine V_iload_n C dX9_forgers_64 rfl 1 rfl ?_
      exact V_iret C D dX9_forgers_65
    · refine V_iload_n C dX9_forgers_17 rfl 1 rfl ?_
      refine V_aload_n C dX9_forgers_18 rfl 0 rfl ?_
      refine V_aload_n C dX9_forgers_19 rfl 0 rfl ?_
      refine gf_RX9_63 C (ln134) ly134 rfl dX9_forgers_20 ?_
      refine V_iload_n C dX9_forgers_23 rfl 2 rfl ?_
      refine V_iald C (ln151) ly151 dX9_forgers_24 ?_
      refine cv_RX9_227 C (ln134) ly134 (ct_X9_isForged _ _ _ _ _ σ (σ 151 (ix x2))) (by decide) rfl rfl (Nat.le_of_ble_eq_true rfl) dX9_forgers_25 (fun r1 σ2 => ?_)
      refine V_if_eq (tgt := 55) C dX9_forgers_28 (by decide) ?_ ?_
      · exact V_sub [0, 2] rfl (vj_X9_forgers_55 C D ih σ2 x2 x1)
      · refine V_aload_n C dX9_forgers_31 rfl 0 rfl ?_
        refine V_aload_n C dX9_forgers_32 rfl 0 rfl ?_
        refine gf_RX9_66 C (ln134) ly134 rfl dX9_forgers_33 ?_
        refine V_iload_n C dX9_forgers_36 rfl 2 rfl ?_
        refine V_iald C (ln152) ly152 dX9_forgers_37 ?_
        refine cv_RX9_154 C (ln134) ly134 (ct_X9_noGuard _ _ _ _ _ σ2 (σ2 152 (ix x2))) (by decide) rfl rfl (Nat.le_of_ble_eq_true rfl) dX9_forgers_38 (fun r3 σ4 => ?_)
        refine V_if_ne (tgt := 55) C dX9_forgers_41 (by decide) ?_ ?_
        · exact V_sub [0, 2] rfl (vj_X9_forgers_55 C D ih σ4 x2 x1)
        · refine V_iconst (v := (1 : Int32)) C dX9_forgers_44 (by decide) ?_
          refine V_aload_n C dX9_forgers_45 rfl 0 rfl ?_
          refine gf_RX9_66 C (ln134) ly134 rfl dX9_forgers_46 ?_
          refine V_iload_n C dX9_forgers_49 rfl 2 rfl ?_
          refine V_iald C (ln152) ly152 dX9_forgers_50 ?_
          refine V_ishl C dX9_forgers_51 ?_
          refine V_goto (tgt := 56) C dX9_forgers_52 (by decide) ?_
          exact V_sub [0, 2] rfl (vj_X9_forgers_56 C D ih σ4 x2 ((1 : Int32) <<< ((σ4 152 (ix x2)) &&& 31)) x1)

set_option maxRecDepth 4000 in
theorem vj_X9_forgers_0 {E : Ev} {b : Nat} (C : CX E RX9 cX9_forgers 3 5) (D : CR E (some .int))    (σ : Hp)   : VJ rvI (QM E b) E b 3 σ 0 [(0, .ref (b + 134))] [] (f_X9_forgers σ ) := by
  unfold f_X9_forgers
  refine V_aload_n C dX9_forgers_0 rfl 0 rfl ?_
  refine V_iconst (v := (0 : Int32)) C dX9_forgers_1 (by decide) ?_
  refine pf_RX9_87 C (ln134) ly134 rfl dX9_forgers_2 (fun σ1 => ?_)
  refine V_iconst (v := (0 : Int32)) C dX9_forgers_5 (by decide) ?_
  refine V_istore_n (L' := [(1, .int (0 : Int32)), (0, .ref (b + 134))]) C dX9_forgers_6 rfl (by decide) rfl ?_
  refine V_iconst (v := (0 : Int32)) C dX9_forgers_7 (by decide) ?_
  refine V_istore_n (L' := [(2, .int (0 : Int32)), (1, .int (0 : Int32)), (0, .ref (b + 134))]) C dX9_forgers_8 rfl (by decide) rfl ?_
  exact V_sub [2, 1, 0] rfl (vj_X9_forgers_9 C D FU σ1 (0 : Int32) (0 : Int32))

theorem ct_X9_forgers (l : Launch) (dC : Nat → ClassId) (dI : Nat → Nat → Nat) (cA : Nat → ClassId) (b : Nat) (σ : Hp)   : CT l dC dI cA b yX9_forgers cX9_forgers 3 (some .int) 5 [.ref (b + 134)] σ rvI (f_X9_forgers σ ) := CT_of [(0, .ref (b + 134))] (by decide +kernel) rfl (Nat.le_of_ble_eq_true rfl) rfl (fun E _ C D _ _ _ => vj_X9_forgers_0 C D σ  )
set_option maxRecDepth 4000 in
theorem vj_X9_keep_69 {E : Ev} {b : Nat} (C : CX E RX9 cX9_keep 4 2) (D : CR E (some .int))   {k40 : Hp → Int32 → Int32 → Option (Int32 × Hp)} (hk40 : ∀ (σ : Hp) (x2 : Int32) (x3 : Int32) , VJ rvI (QM E b) E b 4 σ 40 [(0, .ref (b + 134)), (2, .int x2), (3, .int x3)] [] (k40 σ x2 x3)) (σ : Hp) (x2 : Int32) (x3 : Int32) (s0 : Int32) (s1 : Int32)  : VJ rvI (QM E b) E b 4 σ 69 [(0, .ref (b + 134)), (2, .int x2), (3, .int x3)] [.int s0, .int s1, .ref (b + 149)] (f_X9_keep_69 k40 σ x2 x3 s0 s1) := by
  unfold f_X9_keep_69
  refine V_iast C (ln149) ly149 dX9_keep_69 (fun σ1 => ?_)
  refine V_iinc (k := 2) (v := (1 : Int32)) (L' := fun v2 => [(3, .int v2), (0, .ref (b + 134)), (2, .int x2)]) C dX9_keep_70 rfl (by decide) (by decide) (fun _ => rfl) (fun v2 => ?_)
  refine V_goto (tgt := 40) C dX9_keep_73 (by decide) ?_
  exact V_sub [1, 2, 0] rfl (hk40 σ1 x2 v2)

set_option maxRecDepth 4000 in
theorem vj_X9_keep_78 {E : Ev} {b : Nat} (C : CX E RX9 cX9_keep 4 2) (D : CR E (some .int))    : ∀ (n : Nat) (σ : Hp) (x2 : Int32) (x3 : Int32) , VJ rvI (QM E b) E b 4 σ 78 [(0, .ref (b + 134)), (2, .int x2), (3, .int x3)] [] (f_X9_keep_78 n σ x2 x3)
  | 0, σ, x2, x3 => V_none
  | n + 1, σ, x2, x3 => by
    show VJ rvI (QM E b) E b 4 σ 78 [(0, .ref (b + 134)), (2, .int x2), (3, .int x3)] [] (if (4 : Int32) ≤ x3 then (
          some ((σ 134 14), σ))
        else (
          ck x3 4 <|
          ck ((x2 + (32 : Int32)) + x3) 84 <|
          Lt (wr σ 149 (ix ((x2 + (32 : Int32)) + x3)) (σ 143 (ix x3))) fun σ1 =>
          Lt (x3 + (1 : Int32)) fun v2 =>
          f_X9_keep_78 n σ1 x2 v2))
    have ih := vj_X9_keep_78 (b := b) C D   n
    refine V_iload_n C dX9_keep_78 rfl 2 rfl ?_
    refine V_iconst (v := (4 : Int32)) C dX9_keep_79 (by decide) ?_
    refine V_icmp_ge (tgt := 106) C dX9_keep_80 (by decide) ?_ ?_
    · refine V_aload_n C dX9_keep_106 rfl 0 rfl ?_
      refine gf_RX9_142 C (ln134) ly134 rfl dX9_keep_107 ?_
      exact V_iret C D dX9_keep_110
    · refine V_aload_n C dX9_keep_83 rfl 0 rfl ?_
      refine gf_RX9_57 C (ln134) ly134 rfl dX9_keep_84 ?_
      refine V_iload_n C dX9_keep_87 rfl 1 rfl ?_
      refine V_bipush (v := (32 : Int32)) C dX9_keep_88 (by decide) ?_
      refine V_iadd C dX9_keep_90 ?_
      refine V_iload_n C dX9_keep_91 rfl 2 rfl ?_
      refine V_iadd C dX9_keep_92 ?_
      refine V_aload_n C dX9_keep_93 rfl 0 rfl ?_
      refine gf_RX9_39 C (ln134) ly134 rfl dX9_keep_94 ?_
      refine V_iload_n C dX9_keep_97 rfl 2 rfl ?_
      refine V_iald C (ln143) ly143 dX9_keep_98 ?_
      refine V_iast C (ln149) ly149 dX9_keep_99 (fun σ1 => ?_)
      refine V_iinc (k := 2) (v := (1 : Int32)) (L' := fun v2 => [(3, .int v2), (0, .ref (b + 134)), (2, .int x2)]) C dX9_keep_100 rfl (by decide) (by decide) (fun _ => rfl) (fun v2 => ?_)
      refine V_goto (tgt := 78) C dX9_keep_103 (by decide) ?_
      exact V_sub [1, 2, 0] rfl (ih σ1 x2 v2)

set_option maxRecDepth 4000 in
theorem vj_X9_keep_40 {E : Ev} {b : Nat} (C : CX E RX9 cX9_keep 4 2) (D : CR E (some .int))    : ∀ (n : Nat) (σ : Hp) (x2 : Int32) (x3 : Int32) , VJ rvI (QM E b) E b 4 σ 40 [(0, .ref (b + 134)), (2, .int x2), (3, .int x3)] [] (f_X9_keep_40 n σ x2 x3)
  | 0, σ, x2, x3 => V_none
  | n + 1, σ, x2, x3 => by
    show VJ rvI (QM E b) E b 4 σ 40 [(0, .ref (b + 134)), (2, .int x2), (3, .int x3)] [] (if (5 : Int32) ≤ x3 then (
          f_X9_keep_78 FU σ x2 (0 : Int32))
        else (
          ck x3 5 <|
          if (σ 140 (ix x3)) = 0 then (
            f_X9_keep_69 (f_X9_keep_40 n) σ x2 x3 (0 : Int32) ((x2 + (27 : Int32)) + x3))
          else (
            f_X9_keep_69 (f_X9_keep_40 n) σ x2 x3 (1 : Int32) ((x2 + (27 : Int32)) + x3))))
    have ih := vj_X9_keep_40 (b := b) C D   n
    refine V_iload_n C dX9_keep_40 rfl 2 rfl ?_
    refine V_iconst (v := (5 : Int32)) C dX9_keep_41 (by decide) ?_
    refine V_icmp_ge (tgt := 76) C dX9_keep_42 (by decide) ?_ ?_
    · refine V_iconst (v := (0 : Int32)) C dX9_keep_76 (by decide) ?_
      refine V_istore_n (L' := [(3, .int (0 : Int32)), (0, .ref (b + 134)), (2, .int x2)]) C dX9_keep_77 rfl (by decide) rfl ?_
      exact V_sub [1, 2, 0] rfl (vj_X9_keep_78 C D FU σ x2 (0 : Int32))
    · refine V_aload_n C dX9_keep_45 rfl 0 rfl ?_
      refine gf_RX9_57 C (ln134) ly134 rfl dX9_keep_46 ?_
      refine V_iload_n C dX9_keep_49 rfl 1 rfl ?_
      refine V_bipush (v := (27 : Int32)) C dX9_keep_50 (by decide) ?_
      refine V_iadd C dX9_keep_52 ?_
      refine V_iload_n C dX9_keep_53 rfl 2 rfl ?_
      refine V_iadd C dX9_keep_54 ?_
      refine V_aload_n C dX9_keep_55 rfl 0 rfl ?_
      refine gf_RX9_30 C (ln134) ly134 rfl dX9_keep_56 ?_
      refine V_iload_n C dX9_keep_59 rfl 2 rfl ?_
      refine V_zald C (ln140) ly140 dX9_keep_60 ?_
      refine V_if_eq (tgt := 68) C dX9_keep_61 (by decide) ?_ ?_
      · refine V_iconst (v := (0 : Int32)) C dX9_keep_68 (by decide) ?_
        exact V_sub [0, 1, 2] rfl (vj_X9_keep_69 C D ih σ x2 x3 (0 : Int32) ((x2 + (27 : Int32)) + x3))
      · refine V_iconst (v := (1 : Int32)) C dX9_keep_64 (by decide) ?_
        refine V_goto (tgt := 69) C dX9_keep_65 (by decide) ?_
        exact V_sub [0, 1, 2] rfl (vj_X9_keep_69 C D ih σ x2 x3 (1 : Int32) ((x2 + (27 : Int32)) + x3))

set_option maxRecDepth 4000 in
theorem vj_X9_keep_0 {E : Ev} {b : Nat} (C : CX E RX9 cX9_keep 4 2) (D : CR E (some .int))    (σ : Hp) (a1 : Int32)  : VJ rvI (QM E b) E b 4 σ 0 [(0, .ref (b + 134)), (1, .int a1)] [] (f_X9_keep σ a1) := by
  unfold f_X9_keep
  refine V_aload_n C dX9_keep_0 rfl 0 rfl ?_
  refine V_iconst (v := (0 : Int32)) C dX9_keep_1 (by decide) ?_
  refine pf_RX9_87 C (ln134) ly134 rfl dX9_keep_2 (fun σ1 => ?_)
  refine V_iload_n C dX9_keep_5 rfl 1 rfl ?_
  refine V_i2l C dX9_keep_6 ?_
  refine V_lconst (v := (0 : Int64)) C dX9_keep_7 (by decide) ?_
  refine V_lconst (v := (1 : Int64)) C dX9_keep_8 (by decide) ?_
  refine cs_RX9_93 C (ct_X9_in _ _ _ _ _ σ1 (a1.toInt64) (0 : Int64) (1 : Int64)) (by decide) rfl rfl (Nat.le_of_ble_eq_true rfl) dX9_keep_9 (fun r2 σ3 => ?_)
  refine V_if_ne (tgt := 17) C dX9_keep_12 (by decide) ?_ ?_
  · refine V_aload_n C dX9_keep_17 rfl 0 rfl ?_
    refine gf_RX9_60 C (ln134) ly134 rfl dX9_keep_18 ?_
    refine V_iload_n C dX9_keep_21 rfl 1 rfl ?_
    refine V_iconst (v := (1 : Int32)) C dX9_keep_22 (by decide) ?_
    refine V_zast C (ln150) ly150 dX9_keep_23 (fun σ4 => ?_)
    refine V_bipush (v := (42 : Int32)) C dX9_keep_24 (by decide) ?_
    refine V_iload_n C dX9_keep_26 rfl 1 rfl ?_
    refine V_imul C dX9_keep_27 ?_
    refine V_ltI (fun v5 => ?_)
    refine V_istore_n (L' := [(2, .int v5), (0, .ref (b + 134)), (1, .int a1)]) C dX9_keep_28 rfl (by decide) rfl ?_
    refine V_aload_n C dX9_keep_29 rfl 1 rfl ?_
    refine V_aload_n C dX9_keep_30 rfl 1 rfl ?_
    refine gf_RX9_57 C (ln134) ly134 rfl dX9_keep_31 ?_
    refine V_iload_n C dX9_keep_34 rfl 0 rfl ?_
    refine cv_RX9_176 C (ln134) ly134 (ct_X9_layPage _ _ _ _ _ σ4 149 84 v5 ⟨(ln149), ly149⟩) (by decide) rfl rfl (Nat.le_of_ble_eq_true rfl) dX9_keep_35 (fun r6 σ7 => ?_)
    refine V_iconst (v := (0 : Int32)) C dX9_keep_38 (by decide) ?_
    refine V_istore_n (L' := [(3, .int (0 : Int32)), (2, .int v5), (0, .ref (b + 134)), (1, .int a1)]) C dX9_keep_39 rfl (by decide) rfl ?_
    exact V_sub [2, 1, 0] rfl (vj_X9_keep_40 C D FU σ7 v5 (0 : Int32))
  · refine V_iconst (v := (-1 : Int32)) C dX9_keep_15 (by decide) ?_
    exact V_iret C D dX9_keep_16

theorem ct_X9_keep (l : Launch) (dC : Nat → ClassId) (dI : Nat → Nat → Nat) (cA : Nat → ClassId) (b : Nat) (σ : Hp) (a1 : Int32)  : CT l dC dI cA b yX9_keep cX9_keep 4 (some .int) 2 [.ref (b + 134), .int a1] σ rvI (f_X9_keep σ a1) := CT_of [(0, .ref (b + 134)), (1, .int a1)] (by decide +kernel) rfl (Nat.le_of_ble_eq_true rfl) rfl (fun E _ C D _ _ _ => vj_X9_keep_0 C D σ a1 )
set_option maxRecDepth 4000 in
theorem vj_X9_again_75 {E : Ev} {b : Nat} (C : CX E RX9 cX9_again 4 2) (D : CR E (some .int))   {k45 : Hp → Int32 → Int32 → Option (Int32 × Hp)} (hk45 : ∀ (σ : Hp) (x2 : Int32) (x3 : Int32) , VJ rvI (QM E b) E b 4 σ 45 [(0, .ref (b + 134)), (2, .int x2), (3, .int x3)] [] (k45 σ x2 x3)) (σ : Hp) (x2 : Int32) (x3 : Int32) (s0 : Int32) (s1 : Int32)  : VJ rvI (QM E b) E b 4 σ 75 [(0, .ref (b + 134)), (2, .int x2), (3, .int x3)] [.int s0, .int s1, .ref (b + 140)] (f_X9_again_75 k45 σ x2 x3 s0 s1) := by
  unfold f_X9_again_75
  refine V_zast C (ln140) ly140 dX9_again_75 (fun σ1 => ?_)
  refine V_iinc (k := 2) (v := (1 : Int32)) (L' := fun v2 => [(3, .int v2), (0, .ref (b + 134)), (2, .int x2)]) C dX9_again_76 rfl (by decide) (by decide) (fun _ => rfl) (fun v2 => ?_)
  refine V_goto (tgt := 45) C dX9_again_79 (by decide) ?_
  exact V_sub [1, 2, 0] rfl (hk45 σ1 x2 v2)

set_option maxRecDepth 4000 in
theorem vj_X9_again_84 {E : Ev} {b : Nat} (C : CX E RX9 cX9_again 4 2) (D : CR E (some .int))    : ∀ (n : Nat) (σ : Hp) (x2 : Int32) (x3 : Int32) , VJ rvI (QM E b) E b 4 σ 84 [(0, .ref (b + 134)), (2, .int x2), (3, .int x3)] [] (f_X9_again_84 n σ x2 x3)
  | 0, σ, x2, x3 => V_none
  | n + 1, σ, x2, x3 => by
    show VJ rvI (QM E b) E b 4 σ 84 [(0, .ref (b + 134)), (2, .int x2), (3, .int x3)] [] (if (4 : Int32) ≤ x3 then (
          Lt (wr σ 134 25 (0 : Int32)) fun σ1 =>
          some ((σ1 134 14), σ1))
        else (
          ck ((x2 + (32 : Int32)) + x3) 84 <|
          ck x3 4 <|
          Lt (wr σ 143 (ix x3) (σ 149 (ix ((x2 + (32 : Int32)) + x3)))) fun σ2 =>
          Lt (x3 + (1 : Int32)) fun v3 =>
          f_X9_again_84 n σ2 x2 v3))
    have ih := vj_X9_again_84 (b := b) C D   n
    refine V_iload_n C dX9_again_84 rfl 2 rfl ?_
    refine V_iconst (v := (4 : Int32)) C dX9_again_85 (by decide) ?_
    refine V_icmp_ge (tgt := 112) C dX9_again_86 (by decide) ?_ ?_
    · refine V_aload_n C dX9_again_112 rfl 0 rfl ?_
      refine V_iconst (v := (0 : Int32)) C dX9_again_113 (by decide) ?_
      refine pf_RX9_148 C (ln134) ly134 rfl dX9_again_114 (fun σ1 => ?_)
      refine V_aload_n C dX9_again_117 rfl 0 rfl ?_
      refine gf_RX9_142 C (ln134) ly134 rfl dX9_again_118 ?_
      exact V_iret C D dX9_again_121
    · refine V_aload_n C dX9_again_89 rfl 0 rfl ?_
      refine gf_RX9_39 C (ln134) ly134 rfl dX9_again_90 ?_
      refine V_iload_n C dX9_again_93 rfl 2 rfl ?_
      refine V_aload_n C dX9_again_94 rfl 0 rfl ?_
      refine gf_RX9_57 C (ln134) ly134 rfl dX9_again_95 ?_
      refine V_iload_n C dX9_again_98 rfl 1 rfl ?_
      refine V_bipush (v := (32 : Int32)) C dX9_again_99 (by decide) ?_
      refine V_iadd C dX9_again_101 ?_
      refine V_iload_n C dX9_again_102 rfl 2 rfl ?_
      refine V_iadd C dX9_again_103 ?_
      refine V_iald C (ln149) ly149 dX9_again_104 ?_
      refine V_iast C (ln143) ly143 dX9_again_105 (fun σ2 => ?_)
      refine V_iinc (k := 2) (v := (1 : Int32)) (L' := fun v3 => [(3, .int v3), (0, .ref (b + 134)), (2, .int x2)]) C dX9_again_106 rfl (by decide) (by decide) (fun _ => rfl) (fun v3 => ?_)
      refine V_goto (tgt := 84) C dX9_again_109 (by decide) ?_
      exact V_sub [1, 2, 0] rfl (ih σ2 x2 v3)

set_option maxRecDepth 4000 in
theorem vj_X9_again_45 {E : Ev} {b : Nat} (C : CX E RX9 cX9_again 4 2) (D : CR E (some .int))    : ∀ (n : Nat) (σ : Hp) (x2 : Int32) (x3 : Int32) , VJ rvI (QM E b) E b 4 σ 45 [(0, .ref (b + 134)), (2, .int x2), (3, .int x3)] [] (f_X9_again_45 n σ x2 x3)
  | 0, σ, x2, x3 => V_none
  | n + 1, σ, x2, x3 => by
    show VJ rvI (QM E b) E b 4 σ 45 [(0, .ref (b + 134)), (2, .int x2), (3, .int x3)] [] (if (5 : Int32) ≤ x3 then (
          f_X9_again_84 FU σ x2 (0 : Int32))
        else (
          ck ((x2 + (27 : Int32)) + x3) 84 <|
          if (σ 149 (ix ((x2 + (27 : Int32)) + x3))) = (1 : Int32) then (
            f_X9_again_75 (f_X9_again_45 n) σ x2 x3 (1 : Int32) x3)
          else (
            f_X9_again_75 (f_X9_again_45 n) σ x2 x3 (0 : Int32) x3)))
    have ih := vj_X9_again_45 (b := b) C D   n
    refine V_iload_n C dX9_again_45 rfl 2 rfl ?_
    refine V_iconst (v := (5 : Int32)) C dX9_again_46 (by decide) ?_
    refine V_icmp_ge (tgt := 82) C dX9_again_47 (by decide) ?_ ?_
    · refine V_iconst (v := (0 : Int32)) C dX9_again_82 (by decide) ?_
      refine V_istore_n (L' := [(3, .int (0 : Int32)), (0, .ref (b + 134)), (2, .int x2)]) C dX9_again_83 rfl (by decide) rfl ?_
      exact V_sub [1, 2, 0] rfl (vj_X9_again_84 C D FU σ x2 (0 : Int32))
    · refine V_aload_n C dX9_again_50 rfl 0 rfl ?_
      refine gf_RX9_30 C (ln134) ly134 rfl dX9_again_51 ?_
      refine V_iload_n C dX9_again_54 rfl 2 rfl ?_
      refine V_aload_n C dX9_again_55 rfl 0 rfl ?_
      refine gf_RX9_57 C (ln134) ly134 rfl dX9_again_56 ?_
      refine V_iload_n C dX9_again_59 rfl 1 rfl ?_
      refine V_bipush (v := (27 : Int32)) C dX9_again_60 (by decide) ?_
      refine V_iadd C dX9_again_62 ?_
      refine V_iload_n C dX9_again_63 rfl 2 rfl ?_
      refine V_iadd C dX9_again_64 ?_
      refine V_iald C (ln149) ly149 dX9_again_65 ?_
      refine V_iconst (v := (1 : Int32)) C dX9_again_66 (by decide) ?_
      refine V_icmp_ne (tgt := 74) C dX9_again_67 (by decide) ?_ ?_
      · refine V_iconst (v := (0 : Int32)) C dX9_again_74 (by decide) ?_
        exact V_sub [0, 1, 2] rfl (vj_X9_again_75 C D ih σ x2 x3 (0 : Int32) x3)
      · refine V_iconst (v := (1 : Int32)) C dX9_again_70 (by decide) ?_
        refine V_goto (tgt := 75) C dX9_again_71 (by decide) ?_
        exact V_sub [0, 1, 2] rfl (vj_X9_again_75 C D ih σ x2 x3 (1 : Int32) x3)

set_option maxRecDepth 4000 in
theorem vj_X9_again_0 {E : Ev} {b : Nat} (C : CX E RX9 cX9_again 4 2) (D : CR E (some .int))    (σ : Hp) (a1 : Int32)  : VJ rvI (QM E b) E b 4 σ 0 [(0, .ref (b + 134)), (1, .int a1)] [] (f_X9_again σ a1) := by
  unfold f_X9_again
  refine V_aload_n C dX9_again_0 rfl 0 rfl ?_
  refine V_iconst (v := (0 : Int32)) C dX9_again_1 (by decide) ?_
  refine pf_RX9_87 C (ln134) ly134 rfl dX9_again_2 (fun σ1 => ?_)
  refine V_iload_n C dX9_again_5 rfl 1 rfl ?_
  refine V_i2l C dX9_again_6 ?_
  refine V_lconst (v := (0 : Int64)) C dX9_again_7 (by decide) ?_
  refine V_lconst (v := (1 : Int64)) C dX9_again_8 (by decide) ?_
  refine cs_RX9_93 C (ct_X9_in _ _ _ _ _ σ1 (a1.toInt64) (0 : Int64) (1 : Int64)) (by decide) rfl rfl (Nat.le_of_ble_eq_true rfl) dX9_again_9 (fun r2 σ3 => ?_)
  refine V_if_ne (tgt := 17) C dX9_again_12 (by decide) ?_ ?_
  · refine V_aload_n C dX9_again_17 rfl 0 rfl ?_
    refine gf_RX9_60 C (ln134) ly134 rfl dX9_again_18 ?_
    refine V_iload_n C dX9_again_21 rfl 1 rfl ?_
    refine V_zald C (ln150) ly150 dX9_again_22 ?_
    refine V_if_ne (tgt := 29) C dX9_again_23 (by decide) ?_ ?_
    · refine V_bipush (v := (42 : Int32)) C dX9_again_29 (by decide) ?_
      refine V_iload_n C dX9_again_31 rfl 1 rfl ?_
      refine V_imul C dX9_again_32 ?_
      refine V_ltI (fun v4 => ?_)
      refine V_istore_n (L' := [(2, .int v4), (0, .ref (b + 134)), (1, .int a1)]) C dX9_again_33 rfl (by decide) rfl ?_
      refine V_aload_n C dX9_again_34 rfl 1 rfl ?_
      refine V_aload_n C dX9_again_35 rfl 1 rfl ?_
      refine gf_RX9_57 C (ln134) ly134 rfl dX9_again_36 ?_
      refine V_iload_n C dX9_again_39 rfl 0 rfl ?_
      refine cv_RX9_186 C (ln134) ly134 (ct_X9_takePage _ _ _ _ _ σ3 149 84 v4 ⟨(ln149), ly149⟩) (by decide) rfl rfl (Nat.le_of_ble_eq_true rfl) dX9_again_40 (fun r5 σ6 => ?_)
      refine V_iconst (v := (0 : Int32)) C dX9_again_43 (by decide) ?_
      refine V_istore_n (L' := [(3, .int (0 : Int32)), (2, .int v4), (0, .ref (b + 134)), (1, .int a1)]) C dX9_again_44 rfl (by decide) rfl ?_
      exact V_sub [2, 1, 0] rfl (vj_X9_again_45 C D FU σ6 v4 (0 : Int32))
    · refine V_bipush (v := (-3 : Int32)) C dX9_again_26 (by decide) ?_
      exact V_iret C D dX9_again_28
  · refine V_iconst (v := (-1 : Int32)) C dX9_again_15 (by decide) ?_
    exact V_iret C D dX9_again_16

theorem ct_X9_again (l : Launch) (dC : Nat → ClassId) (dI : Nat → Nat → Nat) (cA : Nat → ClassId) (b : Nat) (σ : Hp) (a1 : Int32)  : CT l dC dI cA b yX9_again cX9_again 4 (some .int) 2 [.ref (b + 134), .int a1] σ rvI (f_X9_again σ a1) := CT_of [(0, .ref (b + 134)), (1, .int a1)] (by decide +kernel) rfl (Nat.le_of_ble_eq_true rfl) rfl (fun E _ C D _ _ _ => vj_X9_again_0 C D σ a1 )
