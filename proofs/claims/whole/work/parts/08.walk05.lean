set_option maxRecDepth 4000 in
theorem vj_X9_may_0 {E : Ev} {b : Nat} (C : CX E RX9 cX9_may 2 4) (D : CR E (some .int))    (σ : Hp) (a1 : Int32)  : VJ rvI (QM E b) E b 2 σ 0 [(0, .ref (b + 134)), (1, .int a1)] [] (f_X9_may σ a1) := by
  unfold f_X9_may
  refine V_aload_n C dX9_may_0 rfl 0 rfl ?_
  refine V_iconst (v := (0 : Int32)) C dX9_may_1 (by decide) ?_
  refine pf_RX9_87 C (ln134) ly134 rfl dX9_may_2 (fun σ1 => ?_)
  refine V_aload_n C dX9_may_5 rfl 0 rfl ?_
  refine V_iload_n C dX9_may_6 rfl 1 rfl ?_
  refine cv_RX9_167 C (ln134) ly134 (ct_X9_noSet _ _ _ _ _ σ1 a1) (by decide) rfl rfl (Nat.le_of_ble_eq_true rfl) dX9_may_7 (fun r2 σ3 => ?_)
  refine V_if_eq (tgt := 16) C dX9_may_10 (by decide) ?_ ?_
  · refine V_aload_n C dX9_may_16 rfl 0 rfl ?_
    refine cv_RX9_170 C (ln134) ly134 (ct_X9_begin _ _ _ _ _ σ3 ) (by decide) rfl rfl (Nat.le_of_ble_eq_true rfl) dX9_may_17 (fun r4 σ5 => ?_)
    refine V_aload_n C dX9_may_20 rfl 0 rfl ?_
    refine V_iload_n C dX9_may_21 rfl 1 rfl ?_
    refine cv_RX9_173 C (ln134) ly134 (ct_X9_canBe _ _ _ _ _ σ5 a1) (by decide) rfl rfl (Nat.le_of_ble_eq_true rfl) dX9_may_22 (fun r6 σ7 => ?_)
    refine V_if_eq (tgt := 32) C dX9_may_25 (by decide) ?_ ?_
    · refine V_iconst (v := (0 : Int32)) C dX9_may_32 (by decide) ?_
      exact V_iret C D dX9_may_33
    · refine V_iconst (v := (1 : Int32)) C dX9_may_28 (by decide) ?_
      refine V_goto (tgt := 33) C dX9_may_29 (by decide) ?_
      exact V_iret C D dX9_may_33
  · refine V_bipush (v := (-2 : Int32)) C dX9_may_13 (by decide) ?_
    exact V_iret C D dX9_may_15

theorem ct_X9_may (l : Launch) (dC : Nat → ClassId) (dI : Nat → Nat → Nat) (cA : Nat → ClassId) (b : Nat) (σ : Hp) (a1 : Int32)  : CT l dC dI cA b yX9_may cX9_may 2 (some .int) 4 [.ref (b + 134), .int a1] σ rvI (f_X9_may σ a1) := CT_of [(0, .ref (b + 134)), (1, .int a1)] (by decide +kernel) rfl (Nat.le_of_ble_eq_true rfl) rfl (fun E _ C D _ _ _ => vj_X9_may_0 C D σ a1 )
set_option maxRecDepth 4000 in
theorem vj_X9_layPage_66 {E : Ev} {b : Nat} (C : CX E RX9 cX9_layPage 4 1) (D : CR E none) (q1 : Nat) (q1n : Nat) (hq1 : arrP q1 q1n) {k2 : Hp → Int32 → Int32 → Option (Unit × Hp)} (hk2 : ∀ (σ : Hp) (x2 : Int32) (x3 : Int32) , VJ rvV (QM E b) E b 4 σ 2 [(0, .ref (b + 134)), (1, .ref (b + q1)), (2, .int x2), (3, .int x3)] [] (k2 σ x2 x3)) (σ : Hp) (x2 : Int32) (x3 : Int32) (s0 : Int32) (s1 : Int32)  : VJ rvV (QM E b) E b 4 σ 66 [(0, .ref (b + 134)), (1, .ref (b + q1)), (2, .int x2), (3, .int x3)] [.int s0, .int s1, .ref (b + q1)] (f_X9_layPage_66 k2 q1 q1n σ x2 x3 s0 s1) := by
  unfold f_X9_layPage_66
  refine V_iast C hq1.1 hq1.2 dX9_layPage_66 (fun σ1 => ?_)
  refine V_aload_n C dX9_layPage_67 rfl 1 rfl ?_
  refine V_iload_n C dX9_layPage_68 rfl 2 rfl ?_
  refine V_bipush (v := (20 : Int32)) C dX9_layPage_69 (by decide) ?_
  refine V_iadd C dX9_layPage_71 ?_
  refine V_iload_n C dX9_layPage_72 rfl 3 rfl ?_
  refine V_iadd C dX9_layPage_73 ?_
  refine V_aload_n C dX9_layPage_74 rfl 0 rfl ?_
  refine gf_RX9_36 C (ln134) ly134 rfl dX9_layPage_75 ?_
  refine V_iload_n C dX9_layPage_78 rfl 3 rfl ?_
  refine V_iald C (ln142) ly142 dX9_layPage_79 ?_
  refine V_iast C hq1.1 hq1.2 dX9_layPage_80 (fun σ2 => ?_)
  refine V_iinc (k := 3) (v := (1 : Int32)) (L' := fun v3 => [(3, .int v3), (0, .ref (b + 134)), (1, .ref (b + q1)), (2, .int x2)]) C dX9_layPage_81 rfl (by decide) (by decide) (fun _ => rfl) (fun v3 => ?_)
  refine V_goto (tgt := 2) C dX9_layPage_84 (by decide) ?_
  exact V_sub [1, 2, 3, 0] rfl (hk2 σ2 x2 v3)

set_option maxRecDepth 4000 in
theorem vj_X9_layPage_2 {E : Ev} {b : Nat} (C : CX E RX9 cX9_layPage 4 1) (D : CR E none) (q1 : Nat) (q1n : Nat) (hq1 : arrP q1 q1n)  : ∀ (n : Nat) (σ : Hp) (x2 : Int32) (x3 : Int32) , VJ rvV (QM E b) E b 4 σ 2 [(0, .ref (b + 134)), (1, .ref (b + q1)), (2, .int x2), (3, .int x3)] [] (f_X9_layPage_2 q1 q1n n σ x2 x3)
  | 0, σ, x2, x3 => V_none
  | n + 1, σ, x2, x3 => by
    show VJ rvV (QM E b) E b 4 σ 2 [(0, .ref (b + 134)), (1, .ref (b + q1)), (2, .int x2), (3, .int x3)] [] (if (5 : Int32) ≤ x3 then (
          ck (x2 + (25 : Int32)) q1n <|
          Lt (wr σ q1 (ix (x2 + (25 : Int32))) (σ 134 14)) fun σ1 =>
          ck (x2 + (26 : Int32)) q1n <|
          Lt (wr σ1 q1 (ix (x2 + (26 : Int32))) (σ1 134 15)) fun σ2 =>
          some ((), σ2))
        else (
          ck x3 5 <|
          ck (x2 + x3) q1n <|
          Lt (wr σ q1 (ix (x2 + x3)) (σ 136 (ix x3))) fun σ3 =>
          ck x3 5 <|
          ck ((x2 + (5 : Int32)) + x3) q1n <|
          Lt (wr σ3 q1 (ix ((x2 + (5 : Int32)) + x3)) (σ3 137 (ix x3))) fun σ4 =>
          ck x3 5 <|
          ck ((x2 + (10 : Int32)) + x3) q1n <|
          Lt (wr σ4 q1 (ix ((x2 + (10 : Int32)) + x3)) (σ4 138 (ix x3))) fun σ5 =>
          ck x3 5 <|
          if (σ5 139 (ix x3)) = 0 then (
            f_X9_layPage_66 (f_X9_layPage_2 q1 q1n n) q1 q1n σ5 x2 x3 (0 : Int32) ((x2 + (15 : Int32)) + x3))
          else (
            f_X9_layPage_66 (f_X9_layPage_2 q1 q1n n) q1 q1n σ5 x2 x3 (1 : Int32) ((x2 + (15 : Int32)) + x3))))
    have ih := vj_X9_layPage_2 (b := b) C D q1 q1n hq1  n
    refine V_iload_n C dX9_layPage_2 rfl 3 rfl ?_
    refine V_iconst (v := (5 : Int32)) C dX9_layPage_3 (by decide) ?_
    refine V_icmp_ge (tgt := 87) C dX9_layPage_4 (by decide) ?_ ?_
    · refine V_aload_n C dX9_layPage_87 rfl 1 rfl ?_
      refine V_iload_n C dX9_layPage_88 rfl 2 rfl ?_
      refine V_bipush (v := (25 : Int32)) C dX9_layPage_89 (by decide) ?_
      refine V_iadd C dX9_layPage_91 ?_
      refine V_aload_n C dX9_layPage_92 rfl 0 rfl ?_
      refine gf_RX9_142 C (ln134) ly134 rfl dX9_layPage_93 ?_
      refine V_iast C hq1.1 hq1.2 dX9_layPage_96 (fun σ1 => ?_)
      refine V_aload_n C dX9_layPage_97 rfl 1 rfl ?_
      refine V_iload_n C dX9_layPage_98 rfl 2 rfl ?_
      refine V_bipush (v := (26 : Int32)) C dX9_layPage_99 (by decide) ?_
      refine V_iadd C dX9_layPage_101 ?_
      refine V_aload_n C dX9_layPage_102 rfl 0 rfl ?_
      refine gf_RX9_145 C (ln134) ly134 rfl dX9_layPage_103 ?_
      refine V_iast C hq1.1 hq1.2 dX9_layPage_106 (fun σ2 => ?_)
      exact V_vret C D dX9_layPage_107
    · refine V_aload_n C dX9_layPage_7 rfl 1 rfl ?_
      refine V_iload_n C dX9_layPage_8 rfl 2 rfl ?_
      refine V_iload_n C dX9_layPage_9 rfl 3 rfl ?_
      refine V_iadd C dX9_layPage_10 ?_
      refine V_aload_n C dX9_layPage_11 rfl 0 rfl ?_
      refine gf_RX9_17 C (ln134) ly134 rfl dX9_layPage_12 ?_
      refine V_iload_n C dX9_layPage_15 rfl 3 rfl ?_
      refine V_iald C (ln136) ly136 dX9_layPage_16 ?_
      refine V_iast C hq1.1 hq1.2 dX9_layPage_17 (fun σ3 => ?_)
      refine V_aload_n C dX9_layPage_18 rfl 1 rfl ?_
      refine V_iload_n C dX9_layPage_19 rfl 2 rfl ?_
      refine V_iconst (v := (5 : Int32)) C dX9_layPage_20 (by decide) ?_
      refine V_iadd C dX9_layPage_21 ?_
      refine V_iload_n C dX9_layPage_22 rfl 3 rfl ?_
      refine V_iadd C dX9_layPage_23 ?_
      refine V_aload_n C dX9_layPage_24 rfl 0 rfl ?_
      refine gf_RX9_20 C (ln134) ly134 rfl dX9_layPage_25 ?_
      refine V_iload_n C dX9_layPage_28 rfl 3 rfl ?_
      refine V_iald C (ln137) ly137 dX9_layPage_29 ?_
      refine V_iast C hq1.1 hq1.2 dX9_layPage_30 (fun σ4 => ?_)
      refine V_aload_n C dX9_layPage_31 rfl 1 rfl ?_
      refine V_iload_n C dX9_layPage_32 rfl 2 rfl ?_
      refine V_bipush (v := (10 : Int32)) C dX9_layPage_33 (by decide) ?_
      refine V_iadd C dX9_layPage_35 ?_
      refine V_iload_n C dX9_layPage_36 rfl 3 rfl ?_
      refine V_iadd C dX9_layPage_37 ?_
      refine V_aload_n C dX9_layPage_38 rfl 0 rfl ?_
      refine gf_RX9_23 C (ln134) ly134 rfl dX9_layPage_39 ?_
      refine V_iload_n C dX9_layPage_42 rfl 3 rfl ?_
      refine V_iald C (ln138) ly138 dX9_layPage_43 ?_
      refine V_iast C hq1.1 hq1.2 dX9_layPage_44 (fun σ5 => ?_)
      refine V_aload_n C dX9_layPage_45 rfl 1 rfl ?_
      refine V_iload_n C dX9_layPage_46 rfl 2 rfl ?_
      refine V_bipush (v := (15 : Int32)) C dX9_layPage_47 (by decide) ?_
      refine V_iadd C dX9_layPage_49 ?_
      refine V_iload_n C dX9_layPage_50 rfl 3 rfl ?_
      refine V_iadd C dX9_layPage_51 ?_
      refine V_aload_n C dX9_layPage_52 rfl 0 rfl ?_
      refine gf_RX9_26 C (ln134) ly134 rfl dX9_layPage_53 ?_
      refine V_iload_n C dX9_layPage_56 rfl 3 rfl ?_
      refine V_zald C (ln139) ly139 dX9_layPage_57 ?_
      refine V_if_eq (tgt := 65) C dX9_layPage_58 (by decide) ?_ ?_
      · refine V_iconst (v := (0 : Int32)) C dX9_layPage_65 (by decide) ?_
        exact V_sub [0, 1, 2, 3] rfl (vj_X9_layPage_66 C D q1 q1n hq1 ih σ5 x2 x3 (0 : Int32) ((x2 + (15 : Int32)) + x3))
      · refine V_iconst (v := (1 : Int32)) C dX9_layPage_61 (by decide) ?_
        refine V_goto (tgt := 66) C dX9_layPage_62 (by decide) ?_
        exact V_sub [0, 1, 2, 3] rfl (vj_X9_layPage_66 C D q1 q1n hq1 ih σ5 x2 x3 (1 : Int32) ((x2 + (15 : Int32)) + x3))

set_option maxRecDepth 4000 in
theorem vj_X9_layPage_0 {E : Ev} {b : Nat} (C : CX E RX9 cX9_layPage 4 1) (D : CR E none)    (σ : Hp) (q1 : Nat) (q1n : Nat) (a2 : Int32) (hq1 : arrP q1 q1n) : VJ rvV (QM E b) E b 4 σ 0 [(0, .ref (b + 134)), (1, .ref (b + q1)), (2, .int a2)] [] (f_X9_layPage σ q1 q1n a2) := by
  unfold f_X9_layPage
  refine V_iconst (v := (0 : Int32)) C dX9_layPage_0 (by decide) ?_
  refine V_istore_n (L' := [(3, .int (0 : Int32)), (0, .ref (b + 134)), (1, .ref (b + q1)), (2, .int a2)]) C dX9_layPage_1 rfl (by decide) rfl ?_
  exact V_sub [1, 2, 3, 0] rfl (vj_X9_layPage_2 C D q1 q1n hq1 FU σ a2 (0 : Int32))

theorem ct_X9_layPage (l : Launch) (dC : Nat → ClassId) (dI : Nat → Nat → Nat) (cA : Nat → ClassId) (b : Nat) (σ : Hp) (q1 : Nat) (q1n : Nat) (a2 : Int32) (hq1 : arrP q1 q1n) : CT l dC dI cA b yX9_layPage cX9_layPage 4 none 1 [.ref (b + 134), .ref (b + q1), .int a2] σ rvV (f_X9_layPage σ q1 q1n a2) := CT_of [(0, .ref (b + 134)), (1, .ref (b + q1)), (2, .int a2)] (by decide +kernel) rfl (Nat.le_of_ble_eq_true rfl) rfl (fun E _ C D _ _ _ => vj_X9_layPage_0 C D σ q1 q1n a2 hq1)
set_option maxRecDepth 4000 in
theorem vj_X9_takePage_67 {E : Ev} {b : Nat} (C : CX E RX9 cX9_takePage 4 1) (D : CR E none) (q1 : Nat) (q1n : Nat) (hq1 : arrP q1 q1n) {k2 : Hp → Int32 → Int32 → Option (Unit × Hp)} (hk2 : ∀ (σ : Hp) (x2 : Int32) (x3 : Int32) , VJ rvV (QM E b) E b 4 σ 2 [(0, .ref (b + 134)), (1, .ref (b + q1)), (2, .int x2), (3, .int x3)] [] (k2 σ x2 x3)) (σ : Hp) (x2 : Int32) (x3 : Int32) (s0 : Int32) (s1 : Int32)  : VJ rvV (QM E b) E b 4 σ 67 [(0, .ref (b + 134)), (1, .ref (b + q1)), (2, .int x2), (3, .int x3)] [.int s0, .int s1, .ref (b + 139)] (f_X9_takePage_67 k2 q1 q1n σ x2 x3 s0 s1) := by
  unfold f_X9_takePage_67
  refine V_zast C (ln139) ly139 dX9_takePage_67 (fun σ1 => ?_)
  refine V_aload_n C dX9_takePage_68 rfl 0 rfl ?_
  refine gf_RX9_36 C (ln134) ly134 rfl dX9_takePage_69 ?_
  refine V_iload_n C dX9_takePage_72 rfl 3 rfl ?_
  refine V_aload_n C dX9_takePage_73 rfl 1 rfl ?_
  refine V_iload_n C dX9_takePage_74 rfl 2 rfl ?_
  refine V_bipush (v := (20 : Int32)) C dX9_takePage_75 (by decide) ?_
  refine V_iadd C dX9_takePage_77 ?_
  refine V_iload_n C dX9_takePage_78 rfl 3 rfl ?_
  refine V_iadd C dX9_takePage_79 ?_
  refine V_iald C hq1.1 hq1.2 dX9_takePage_80 ?_
  refine V_iast C (ln142) ly142 dX9_takePage_81 (fun σ2 => ?_)
  refine V_iinc (k := 3) (v := (1 : Int32)) (L' := fun v3 => [(3, .int v3), (0, .ref (b + 134)), (1, .ref (b + q1)), (2, .int x2)]) C dX9_takePage_82 rfl (by decide) (by decide) (fun _ => rfl) (fun v3 => ?_)
  refine V_goto (tgt := 2) C dX9_takePage_85 (by decide) ?_
  exact V_sub [1, 2, 3, 0] rfl (hk2 σ2 x2 v3)

set_option maxRecDepth 4000 in
theorem vj_X9_takePage_2 {E : Ev} {b : Nat} (C : CX E RX9 cX9_takePage 4 1) (D : CR E none) (q1 : Nat) (q1n : Nat) (hq1 : arrP q1 q1n)  : ∀ (n : Nat) (σ : Hp) (x2 : Int32) (x3 : Int32) , VJ rvV (QM E b) E b 4 σ 2 [(0, .ref (b + 134)), (1, .ref (b + q1)), (2, .int x2), (3, .int x3)] [] (f_X9_takePage_2 q1 q1n n σ x2 x3)
  | 0, σ, x2, x3 => V_none
  | n + 1, σ, x2, x3 => by
    show VJ rvV (QM E b) E b 4 σ 2 [(0, .ref (b + 134)), (1, .ref (b + q1)), (2, .int x2), (3, .int x3)] [] (if (5 : Int32) ≤ x3 then (
          ck (x2 + (25 : Int32)) q1n <|
          Lt (wr σ 134 14 (σ q1 (ix (x2 + (25 : Int32))))) fun σ1 =>
          ck (x2 + (26 : Int32)) q1n <|
          Lt (wr σ1 134 15 (σ1 q1 (ix (x2 + (26 : Int32))))) fun σ2 =>
          some ((), σ2))
        else (
          ck (x2 + x3) q1n <|
          ck x3 5 <|
          Lt (wr σ 136 (ix x3) (σ q1 (ix (x2 + x3)))) fun σ3 =>
          ck ((x2 + (5 : Int32)) + x3) q1n <|
          ck x3 5 <|
          Lt (wr σ3 137 (ix x3) (σ3 q1 (ix ((x2 + (5 : Int32)) + x3)))) fun σ4 =>
          ck ((x2 + (10 : Int32)) + x3) q1n <|
          ck x3 5 <|
          Lt (wr σ4 138 (ix x3) (σ4 q1 (ix ((x2 + (10 : Int32)) + x3)))) fun σ5 =>
          ck ((x2 + (15 : Int32)) + x3) q1n <|
          if (σ5 q1 (ix ((x2 + (15 : Int32)) + x3))) = (1 : Int32) then (
            f_X9_takePage_67 (f_X9_takePage_2 q1 q1n n) q1 q1n σ5 x2 x3 (1 : Int32) x3)
          else (
            f_X9_takePage_67 (f_X9_takePage_2 q1 q1n n) q1 q1n σ5 x2 x3 (0 : Int32) x3)))
    have ih := vj_X9_takePage_2 (b := b) C D q1 q1n hq1  n
    refine V_iload_n C dX9_takePage_2 rfl 3 rfl ?_
    refine V_iconst (v := (5 : Int32)) C dX9_takePage_3 (by decide) ?_
    refine V_icmp_ge (tgt := 88) C dX9_takePage_4 (by decide) ?_ ?_
    · refine V_aload_n C dX9_takePage_88 rfl 0 rfl ?_
      refine V_aload_n C dX9_takePage_89 rfl 1 rfl ?_
      refine V_iload_n C dX9_takePage_90 rfl 2 rfl ?_
      refine V_bipush (v := (25 : Int32)) C dX9_takePage_91 (by decide) ?_
      refine V_iadd C dX9_takePage_93 ?_
      refine V_iald C hq1.1 hq1.2 dX9_takePage_94 ?_
      refine pf_RX9_142 C (ln134) ly134 rfl dX9_takePage_95 (fun σ1 => ?_)
      refine V_aload_n C dX9_takePage_98 rfl 0 rfl ?_
      refine V_aload_n C dX9_takePage_99 rfl 1 rfl ?_
      refine V_iload_n C dX9_takePage_100 rfl 2 rfl ?_
      refine V_bipush (v := (26 : Int32)) C dX9_takePage_101 (by decide) ?_
      refine V_iadd C dX9_takePage_103 ?_
      refine V_iald C hq1.1 hq1.2 dX9_takePage_104 ?_
      refine pf_RX9_145 C (ln134) ly134 rfl dX9_takePage_105 (fun σ2 => ?_)
      exact V_vret C D dX9_takePage_108
    · refine V_aload_n C dX9_takePage_7 rfl 0 rfl ?_
      refine gf_RX9_17 C (ln134) ly134 rfl dX9_takePage_8 ?_
      refine V_iload_n C dX9_takePage_11 rfl 3 rfl ?_
      refine V_aload_n C dX9_takePage_12 rfl 1 rfl ?_
      refine V_iload_n C dX9_takePage_13 rfl 2 rfl ?_
      refine V_iload_n C dX9_takePage_14 rfl 3 rfl ?_
      refine V_iadd C dX9_takePage_15 ?_
      refine V_iald C hq1.1 hq1.2 dX9_takePage_16 ?_
      refine V_iast C (ln136) ly136 dX9_takePage_17 (fun σ3 => ?_)
      refine V_aload_n C dX9_takePage_18 rfl 0 rfl ?_
      refine gf_RX9_20 C (ln134) ly134 rfl dX9_takePage_19 ?_
      refine V_iload_n C dX9_takePage_22 rfl 3 rfl ?_
      refine V_aload_n C dX9_takePage_23 rfl 1 rfl ?_
      refine V_iload_n C dX9_takePage_24 rfl 2 rfl ?_
      refine V_iconst (v := (5 : Int32)) C dX9_takePage_25 (by decide) ?_
      refine V_iadd C dX9_takePage_26 ?_
      refine V_iload_n C dX9_takePage_27 rfl 3 rfl ?_
      refine V_iadd C dX9_takePage_28 ?_
      refine V_iald C hq1.1 hq1.2 dX9_takePage_29 ?_
      refine V_iast C (ln137) ly137 dX9_takePage_30 (fun σ4 => ?_)
      refine V_aload_n C dX9_takePage_31 rfl 0 rfl ?_
      refine gf_RX9_23 C (ln134) ly134 rfl dX9_takePage_32 ?_
      refine V_iload_n C dX9_takePage_35 rfl 3 rfl ?_
      refine V_aload_n C dX9_takePage_36 rfl 1 rfl ?_
      refine V_iload_n C dX9_takePage_37 rfl 2 rfl ?_
      refine V_bipush (v := (10 : Int32)) C dX9_takePage_38 (by decide) ?_
      refine V_iadd C dX9_takePage_40 ?_
      refine V_iload_n C dX9_takePage_41 rfl 3 rfl ?_
      refine V_iadd C dX9_takePage_42 ?_
      refine V_iald C hq1.1 hq1.2 dX9_takePage_43 ?_
      refine V_iast C (ln138) ly138 dX9_takePage_44 (fun σ5 => ?_)
      refine V_aload_n C dX9_takePage_45 rfl 0 rfl ?_
      refine gf_RX9_26 C (ln134) ly134 rfl dX9_takePage_46 ?_
      refine V_iload_n C dX9_takePage_49 rfl 3 rfl ?_
      refine V_aload_n C dX9_takePage_50 rfl 1 rfl ?_
      refine V_iload_n C dX9_takePage_51 rfl 2 rfl ?_
      refine V_bipush (v := (15 : Int32)) C dX9_takePage_52 (by decide) ?_
      refine V_iadd C dX9_takePage_54 ?_
      refine V_iload_n C dX9_takePage_55 rfl 3 rfl ?_
      refine V_iadd C dX9_takePage_56 ?_
      refine V_iald C hq1.1 hq1.2 dX9_takePage_57 ?_
      refine V_iconst (v := (1 : Int32)) C dX9_takePage_58 (by decide) ?_
      refine V_icmp_ne (tgt := 66) C dX9_takePage_59 (by decide) ?_ ?_
      · refine V_iconst (v := (0 : Int32)) C dX9_takePage_66 (by decide) ?_
        exact V_sub [0, 1, 2, 3] rfl (vj_X9_takePage_67 C D q1 q1n hq1 ih σ5 x2 x3 (0 : Int32) x3)
      · refine V_iconst (v := (1 : Int32)) C dX9_takePage_62 (by decide) ?_
        refine V_goto (tgt := 67) C dX9_takePage_63 (by decide) ?_
        exact V_sub [0, 1, 2, 3] rfl (vj_X9_takePage_67 C D q1 q1n hq1 ih σ5 x2 x3 (1 : Int32) x3)

set_option maxRecDepth 4000 in
theorem vj_X9_takePage_0 {E : Ev} {b : Nat} (C : CX E RX9 cX9_takePage 4 1) (D : CR E none)    (σ : Hp) (q1 : Nat) (q1n : Nat) (a2 : Int32) (hq1 : arrP q1 q1n) : VJ rvV (QM E b) E b 4 σ 0 [(0, .ref (b + 134)), (1, .ref (b + q1)), (2, .int a2)] [] (f_X9_takePage σ q1 q1n a2) := by
  unfold f_X9_takePage
  refine V_iconst (v := (0 : Int32)) C dX9_takePage_0 (by decide) ?_
  refine V_istore_n (L' := [(3, .int (0 : Int32)), (0, .ref (b + 134)), (1, .ref (b + q1)), (2, .int a2)]) C dX9_takePage_1 rfl (by decide) rfl ?_
  exact V_sub [1, 2, 3, 0] rfl (vj_X9_takePage_2 C D q1 q1n hq1 FU σ a2 (0 : Int32))

theorem ct_X9_takePage (l : Launch) (dC : Nat → ClassId) (dI : Nat → Nat → Nat) (cA : Nat → ClassId) (b : Nat) (σ : Hp) (q1 : Nat) (q1n : Nat) (a2 : Int32) (hq1 : arrP q1 q1n) : CT l dC dI cA b yX9_takePage cX9_takePage 4 none 1 [.ref (b + 134), .ref (b + q1), .int a2] σ rvV (f_X9_takePage σ q1 q1n a2) := CT_of [(0, .ref (b + 134)), (1, .ref (b + q1)), (2, .int a2)] (by decide +kernel) rfl (Nat.le_of_ble_eq_true rfl) rfl (fun E _ C D _ _ _ => vj_X9_takePage_0 C D σ q1 q1n a2 hq1)
set_option maxRecDepth 4000 in
theorem vj_X9_note_49 {E : Ev} {b : Nat} (C : CX E RX9 cX9_note 2 2) (D : CR E none)    (σ : Hp)   : VJ rvV (QM E b) E b 2 σ 49 [(0, .ref (b + 134))] [] (f_X9_note_49 σ ) := by
  unfold f_X9_note_49
  refine V_aload_n C dX9_note_49 rfl 0 rfl ?_
  refine V_aload_n C dX9_note_50 rfl 0 rfl ?_
  refine gf_RX9_54 C (ln134) ly134 rfl dX9_note_51 ?_
  refine V_bipush (v := (27 : Int32)) C dX9_note_54 (by decide) ?_
  refine V_aload_n C dX9_note_56 rfl 0 rfl ?_
  refine gf_RX9_148 C (ln134) ly134 rfl dX9_note_57 ?_
  refine V_imul C dX9_note_60 ?_
  refine cv_RX9_176 C (ln134) ly134 (ct_X9_layPage _ _ _ _ _ σ 148 324 ((27 : Int32) * (σ 134 25)) ⟨(ln148), ly148⟩) (by decide) rfl rfl (Nat.le_of_ble_eq_true rfl) dX9_note_61 (fun r1 σ2 => ?_)
  refine V_aload_n C dX9_note_64 rfl 0 rfl ?_
  refine V_dup C dX9_note_65 rfl ?_
  refine gf_RX9_148 C (ln134) ly134 rfl dX9_note_66 ?_
  refine V_iconst (v := (1 : Int32)) C dX9_note_69 (by decide) ?_
  refine V_iadd C dX9_note_70 ?_
  refine pf_RX9_148 C (ln134) ly134 rfl dX9_note_71 (fun σ3 => ?_)
  exact V_vret C D dX9_note_74

set_option maxRecDepth 4000 in
theorem vj_X9_note_11 {E : Ev} {b : Nat} (C : CX E RX9 cX9_note 2 2) (D : CR E none)    : ∀ (n : Nat) (σ : Hp) (x1 : Int32) , VJ rvV (QM E b) E b 2 σ 11 [(0, .ref (b + 134)), (1, .int x1)] [] (f_X9_note_11 n σ x1)
  | 0, σ, x1 => V_none
  | n + 1, σ, x1 => by
    show VJ rvV (QM E b) E b 2 σ 11 [(0, .ref (b + 134)), (1, .int x1)] [] (if (297 : Int32) ≤ x1 then (
          Lt (wr σ 134 25 ((σ 134 25) - (1 : Int32))) fun σ1 =>
          f_X9_note_49 σ1 )
        else (
          ck (x1 + (27 : Int32)) 324 <|
          ck x1 324 <|
          Lt (wr σ 148 (ix x1) (σ 148 (ix (x1 + (27 : Int32))))) fun σ2 =>
          Lt (x1 + (1 : Int32)) fun v3 =>
          f_X9_note_11 n σ2 v3))
    have ih := vj_X9_note_11 (b := b) C D   n
    refine V_iload_n C dX9_note_11 rfl 1 rfl ?_
    refine V_sipush (v := (297 : Int32)) C dX9_note_12 (by decide) ?_
    refine V_icmp_ge (tgt := 39) C dX9_note_15 (by decide) ?_ ?_
    · refine V_aload_n C dX9_note_39 rfl 0 rfl ?_
      refine V_dup C dX9_note_40 rfl ?_
      refine gf_RX9_148 C (ln134) ly134 rfl dX9_note_41 ?_
      refine V_iconst (v := (1 : Int32)) C dX9_note_44 (by decide) ?_
      refine V_isub C dX9_note_45 ?_
      refine pf_RX9_148 C (ln134) ly134 rfl dX9_note_46 (fun σ1 => ?_)
      exact V_sub [0] rfl (vj_X9_note_49 C D σ1)
    · refine V_aload_n C dX9_note_18 rfl 0 rfl ?_
      refine gf_RX9_54 C (ln134) ly134 rfl dX9_note_19 ?_
      refine V_iload_n C dX9_note_22 rfl 1 rfl ?_
      refine V_aload_n C dX9_note_23 rfl 0 rfl ?_
      refine gf_RX9_54 C (ln134) ly134 rfl dX9_note_24 ?_
      refine V_iload_n C dX9_note_27 rfl 1 rfl ?_
      refine V_bipush (v := (27 : Int32)) C dX9_note_28 (by decide) ?_
      refine V_iadd C dX9_note_30 ?_
      refine V_iald C (ln148) ly148 dX9_note_31 ?_
      refine V_iast C (ln148) ly148 dX9_note_32 (fun σ2 => ?_)
      refine V_iinc (k := 1) (v := (1 : Int32)) (L' := fun v3 => [(1, .int v3), (0, .ref (b + 134))]) C dX9_note_33 rfl (by decide) (by decide) (fun _ => rfl) (fun v3 => ?_)
      refine V_goto (tgt := 11) C dX9_note_36 (by decide) ?_
      exact V_sub [1, 0] rfl (ih σ2 v3)

set_option maxRecDepth 4000 in
theorem vj_X9_note_0 {E : Ev} {b : Nat} (C : CX E RX9 cX9_note 2 2) (D : CR E none)    (σ : Hp)   : VJ rvV (QM E b) E b 2 σ 0 [(0, .ref (b + 134))] [] (f_X9_note σ ) := by
  unfold f_X9_note
  refine V_aload_n C dX9_note_0 rfl 0 rfl ?_
  refine gf_RX9_148 C (ln134) ly134 rfl dX9_note_1 ?_
  refine V_bipush (v := (12 : Int32)) C dX9_note_4 (by decide) ?_
  refine V_icmp_ne (tgt := 49) C dX9_note_6 (by decide) ?_ ?_
  · exact V_sub [0] rfl (vj_X9_note_49 C D σ)
  · refine V_iconst (v := (0 : Int32)) C dX9_note_9 (by decide) ?_
    refine V_istore_n (L' := [(1, .int (0 : Int32)), (0, .ref (b + 134))]) C dX9_note_10 rfl (by decide) rfl ?_
    exact V_sub [1, 0] rfl (vj_X9_note_11 C D FU σ (0 : Int32))

theorem ct_X9_note (l : Launch) (dC : Nat → ClassId) (dI : Nat → Nat → Nat) (cA : Nat → ClassId) (b : Nat) (σ : Hp)   : CT l dC dI cA b yX9_note cX9_note 2 none 2 [.ref (b + 134)] σ rvV (f_X9_note σ ) := CT_of [(0, .ref (b + 134))] (by decide +kernel) rfl (Nat.le_of_ble_eq_true rfl) rfl (fun E _ C D _ _ _ => vj_X9_note_0 C D σ  )
set_option maxRecDepth 4000 in
theorem vj_X9_quarter_119 {E : Ev} {b : Nat} (C : CX E RX9 cX9_quarter 4 4) (D : CR E (some .int))   {k43 : Hp → Int32 → Int32 → Int32 → Option (Int32 × Hp)} (hk43 : ∀ (σ : Hp) (x1 : Int32) (x2 : Int32) (x3 : Int32) , VJ rvI (QM E b) E b 4 σ 43 [(0, .ref (b + 134)), (1, .int x1), (2, .int x2), (3, .int x3)] [] (k43 σ x1 x2 x3)) (σ : Hp) (x1 : Int32) (x2 : Int32) (x3 : Int32) (s0 : Int32) (s1 : Int32) (s2 : Int32)  : VJ rvI (QM E b) E b 4 σ 119 [(0, .ref (b + 134)), (1, .int x1), (2, .int x2), (3, .int x3)] [.int s0, .int s1, .int s2, .ref (b + 142)] (f_X9_quarter_119 k43 σ x1 x2 x3 s0 s1 s2) := by
  unfold f_X9_quarter_119
  refine V_iadd C dX9_quarter_119 ?_
  refine V_iast C (ln142) ly142 dX9_quarter_120 (fun σ1 => ?_)
  refine V_iinc (k := 3) (v := (1 : Int32)) (L' := fun v2 => [(3, .int v2), (0, .ref (b + 134)), (1, .int x1), (2, .int x2)]) C dX9_quarter_121 rfl (by decide) (by decide) (fun _ => rfl) (fun v2 => ?_)
  refine V_goto (tgt := 43) C dX9_quarter_124 (by decide) ?_
  exact V_sub [1, 2, 3, 0] rfl (hk43 σ1 x1 x2 v2)

set_option maxRecDepth 4000 in
theorem vj_X9_quarter_151 {E : Ev} {b : Nat} (C : CX E RX9 cX9_quarter 4 4) (D : CR E (some .int))    (σ : Hp) (x2 : Int32) (s0 : Int32) (s1 : Int32)  : VJ rvI (QM E b) E b 4 σ 151 [(2, .int x2)] [.int s0, .int s1, .ref (b + 134)] (f_X9_quarter_151 σ x2 s0 s1) := by
  unfold f_X9_quarter_151
  refine V_iadd C dX9_quarter_151 ?_
  refine pf_RX9_145 C (ln134) ly134 rfl dX9_quarter_152 (fun σ1 => ?_)
  refine V_iload_n C dX9_quarter_155 rfl 0 rfl ?_
  exact V_iret C D dX9_quarter_156

set_option maxRecDepth 4000 in
theorem vj_X9_quarter_43 {E : Ev} {b : Nat} (C : CX E RX9 cX9_quarter 4 4) (D : CR E (some .int))    : ∀ (n : Nat) (σ : Hp) (x1 : Int32) (x2 : Int32) (x3 : Int32) , VJ rvI (QM E b) E b 4 σ 43 [(0, .ref (b + 134)), (1, .int x1), (2, .int x2), (3, .int x3)] [] (f_X9_quarter_43 n σ x1 x2 x3)
  | 0, σ, x1, x2, x3 => V_none
  | n + 1, σ, x1, x2, x3 => by
    show VJ rvI (QM E b) E b 4 σ 43 [(0, .ref (b + 134)), (1, .int x1), (2, .int x2), (3, .int x3)] [] (if (σ 134 4) ≤ x3 then (
          Lt (wr σ 134 14 ((σ 134 14) + (1 : Int32))) fun σ1 =>
          if x2 = 0 then (
            f_X9_quarter_151 σ1 x2 (1 : Int32) (σ1 134 15))
          else (
            f_X9_quarter_151 σ1 x2 (0 : Int32) (σ1 134 15)))
        else (
          ck x3 5 <|
          ck x3 5 <|
          Lt (wr σ 136 (ix x3) (σ 154 (ix x3))) fun σ2 =>
          ck x3 5 <|
          ck x3 5 <|
          Lt (wr σ2 137 (ix x3) (σ2 155 (ix x3))) fun σ3 =>
          ck x3 5 <|
          ck x3 5 <|
          Lt (wr σ3 138 (ix x3) (σ3 156 (ix x3))) fun σ4 =>
          ck x3 5 <|
          ck x3 5 <|
          Lt (wr σ4 139 (ix x3) (vp_nar .boolean (σ4 157 (ix x3)))) fun σ5 =>
          ck x3 5 <|
          bd (f_X9_has σ5 x1 x3) fun r6 σ7 =>
          if r6 = 0 then (
            f_X9_quarter_119 (f_X9_quarter_43 n) σ7 x1 x2 x3 (0 : Int32) (σ5 142 (ix x3)) x3)
          else (
            f_X9_quarter_119 (f_X9_quarter_43 n) σ7 x1 x2 x3 (1 : Int32) (σ5 142 (ix x3)) x3)))
    have ih := vj_X9_quarter_43 (b := b) C D   n
    refine V_iload_n C dX9_quarter_43 rfl 3 rfl ?_
    refine V_aload_n C dX9_quarter_44 rfl 0 rfl ?_
    refine gf_RX9_90 C (ln134) ly134 rfl dX9_quarter_45 ?_
    refine V_icmp_ge (tgt := 127) C dX9_quarter_48 (by decide) ?_ ?_
    · refine V_aload_n C dX9_quarter_127 rfl 0 rfl ?_
      refine V_dup C dX9_quarter_128 rfl ?_
      refine gf_RX9_142 C (ln134) ly134 rfl dX9_quarter_129 ?_
      refine V_iconst (v := (1 : Int32)) C dX9_quarter_132 (by decide) ?_
      refine V_iadd C dX9_quarter_133 ?_
      refine pf_RX9_142 C (ln134) ly134 rfl dX9_quarter_134 (fun σ1 => ?_)
      refine V_aload_n C dX9_quarter_137 rfl 0 rfl ?_
      refine V_dup C dX9_quarter_138 rfl ?_
      refine gf_RX9_145 C (ln134) ly134 rfl dX9_quarter_139 ?_
      refine V_iload_n C dX9_quarter_142 rfl 2 rfl ?_
      refine V_if_ne (tgt := 150) C dX9_quarter_143 (by decide) ?_ ?_
      · refine V_iconst (v := (0 : Int32)) C dX9_quarter_150 (by decide) ?_
        exact V_sub [2] rfl (vj_X9_quarter_151 C D σ1 x2 (0 : Int32) (σ1 134 15))
      · refine V_iconst (v := (1 : Int32)) C dX9_quarter_146 (by decide) ?_
        refine V_goto (tgt := 151) C dX9_quarter_147 (by decide) ?_
        exact V_sub [2] rfl (vj_X9_quarter_151 C D σ1 x2 (1 : Int32) (σ1 134 15))
    · refine V_aload_n C dX9_quarter_51 rfl 0 rfl ?_
      refine gf_RX9_17 C (ln134) ly134 rfl dX9_quarter_52 ?_
      refine V_iload_n C dX9_quarter_55 rfl 3 rfl ?_
      refine V_aload_n C dX9_quarter_56 rfl 0 rfl ?_
      refine gf_RX9_72 C (ln134) ly134 rfl dX9_quarter_57 ?_
      refine V_iload_n C dX9_quarter_60 rfl 3 rfl ?_
      refine V_iald C (ln154) ly154 dX9_quarter_61 ?_
      refine V_iast C (ln136) ly136 dX9_quarter_62 (fun σ2 => ?_)
      refine V_aload_n C dX9_quarter_63 rfl 0 rfl ?_
      refine gf_RX9_20 C (ln134) ly134 rfl dX9_quarter_64 ?_
      refine V_iload_n C dX9_quarter_67 rfl 3 rfl ?_
      refine V_aload_n C dX9_quarter_68 rfl 0 rfl ?_
      refine gf_RX9_75 C (ln134) ly134 rfl dX9_quarter_69 ?_
      refine V_iload_n C dX9_quarter_72 rfl 3 rfl ?_
      refine V_iald C (ln155) ly155 dX9_quarter_73 ?_
      refine V_iast C (ln137) ly137 dX9_quarter_74 (fun σ3 => ?_)
      refine V_aload_n C dX9_quarter_75 rfl 0 rfl ?_
      refine gf_RX9_23 C (ln134) ly134 rfl dX9_quarter_76 ?_
      refine V_iload_n C dX9_quarter_79 rfl 3 rfl ?_
      refine V_aload_n C dX9_quarter_80 rfl 0 rfl ?_
      refine gf_RX9_78 C (ln134) ly134 rfl dX9_quarter_81 ?_
      refine V_iload_n C dX9_quarter_84 rfl 3 rfl ?_
      refine V_iald C (ln156) ly156 dX9_quarter_85 ?_
      refine V_iast C (ln138) ly138 dX9_quarter_86 (fun σ4 => ?_)
      refine V_aload_n C dX9_quarter_87 rfl 0 rfl ?_
      refine gf_RX9_26 C (ln134) ly134 rfl dX9_quarter_88 ?_
      refine V_iload_n C dX9_quarter_91 rfl 3 rfl ?_
      refine V_aload_n C dX9_quarter_92 rfl 0 rfl ?_
      refine gf_RX9_81 C (ln134) ly134 rfl dX9_quarter_93 ?_
      refine V_iload_n C dX9_quarter_96 rfl 3 rfl ?_
      refine V_zald C (ln157) ly157 dX9_quarter_97 ?_
      refine V_zast C (ln139) ly139 dX9_quarter_98 (fun σ5 => ?_)
      refine V_aload_n C dX9_quarter_99 rfl 0 rfl ?_
      refine gf_RX9_36 C (ln134) ly134 rfl dX9_quarter_100 ?_
      refine V_iload_n C dX9_quarter_103 rfl 3 rfl ?_
      refine V_dup2 C dX9_quarter_104 rfl rfl ?_
      refine V_iald C (ln142) ly142 dX9_quarter_105 ?_
      refine V_iload_n C dX9_quarter_106 rfl 1 rfl ?_
      refine V_iload_n C dX9_quarter_107 rfl 3 rfl ?_
      refine cs_RX9_160 C (ct_X9_has _ _ _ _ _ σ5 x1 x3) (by decide) rfl rfl (Nat.le_of_ble_eq_true rfl) dX9_quarter_108 (fun r6 σ7 => ?_)
      refine V_if_eq (tgt := 118) C dX9_quarter_111 (by decide) ?_ ?_
      · refine V_iconst (v := (0 : Int32)) C dX9_quarter_118 (by decide) ?_
        exact V_sub [0, 1, 2, 3] rfl (vj_X9_quarter_119 C D ih σ7 x1 x2 x3 (0 : Int32) (σ5 142 (ix x3)) x3)
      · refine V_iconst (v := (1 : Int32)) C dX9_quarter_114 (by decide) ?_
        refine V_goto (tgt := 119) C dX9_quarter_115 (by decide) ?_
        exact V_sub [0, 1, 2, 3] rfl (vj_X9_quarter_119 C D ih σ7 x1 x2 x3 (1 : Int32) (σ5 142 (ix x3)) x3)

set_option maxRecDepth 4000 in
theorem vj_X9_quarter_0 {E : Ev} {b : Nat} (C : CX E RX9 cX9_quarter 4 4) (D : CR E (some .int))    (σ : Hp) (a1 : Int32)  : VJ rvI (QM E b) E b 4 σ 0 [(0, .ref (b + 134)), (1, .int a1)] [] (f_X9_quarter σ a1) := by
  unfold f_X9_quarter
  refine V_aload_n C dX9_quarter_0 rfl 0 rfl ?_
  refine V_iconst (v := (0 : Int32)) C dX9_quarter_1 (by decide) ?_
  refine pf_RX9_87 C (ln134) ly134 rfl dX9_quarter_2 (fun σ1 => ?_)
  refine V_aload_n C dX9_quarter_5 rfl 0 rfl ?_
  refine V_iload_n C dX9_quarter_6 rfl 1 rfl ?_
  refine cv_RX9_167 C (ln134) ly134 (ct_X9_noSet _ _ _ _ _ σ1 a1) (by decide) rfl rfl (Nat.le_of_ble_eq_true rfl) dX9_quarter_7 (fun r2 σ3 => ?_)
  refine V_if_eq (tgt := 16) C dX9_quarter_10 (by decide) ?_ ?_
  · refine V_aload_n C dX9_quarter_16 rfl 0 rfl ?_
    refine cv_RX9_170 C (ln134) ly134 (ct_X9_begin _ _ _ _ _ σ3 ) (by decide) rfl rfl (Nat.le_of_ble_eq_true rfl) dX9_quarter_17 (fun r4 σ5 => ?_)
    refine V_aload_n C dX9_quarter_20 rfl 0 rfl ?_
    refine V_iload_n C dX9_quarter_21 rfl 1 rfl ?_
    refine cv_RX9_173 C (ln134) ly134 (ct_X9_canBe _ _ _ _ _ σ5 a1) (by decide) rfl rfl (Nat.le_of_ble_eq_true rfl) dX9_quarter_22 (fun r6 σ7 => ?_)
    refine V_if_ne (tgt := 31) C dX9_quarter_25 (by decide) ?_ ?_
    · refine V_aload_n C dX9_quarter_31 rfl 0 rfl ?_
      refine cv_RX9_180 C (ln134) ly134 (ct_X9_note _ _ _ _ _ σ7 ) (by decide) rfl rfl (Nat.le_of_ble_eq_true rfl) dX9_quarter_32 (fun r8 σ9 => ?_)
      refine V_aload_n C dX9_quarter_35 rfl 0 rfl ?_
      refine V_iload_n C dX9_quarter_36 rfl 1 rfl ?_
      refine cv_RX9_183 C (ln134) ly134 (ct_X9_go _ _ _ _ _ σ9 a1) (by decide) rfl rfl (Nat.le_of_ble_eq_true rfl) dX9_quarter_37 (fun r10 σ11 => ?_)
      refine V_istore_n (L' := [(2, .int r10), (0, .ref (b + 134)), (1, .int a1)]) C dX9_quarter_40 rfl (by decide) rfl ?_
      refine V_iconst (v := (0 : Int32)) C dX9_quarter_41 (by decide) ?_
      refine V_istore_n (L' := [(3, .int (0 : Int32)), (2, .int r10), (0, .ref (b + 134)), (1, .int a1)]) C dX9_quarter_42 rfl (by decide) rfl ?_
      exact V_sub [2, 3, 1, 0] rfl (vj_X9_quarter_43 C D FU σ11 a1 r10 (0 : Int32))
    · refine V_bipush (v := (-3 : Int32)) C dX9_quarter_28 (by decide) ?_
      exact V_iret C D dX9_quarter_30
  · refine V_bipush (v := (-2 : Int32)) C dX9_quarter_13 (by decide) ?_
    exact V_iret C D dX9_quarter_15

theorem ct_X9_quarter (l : Launch) (dC : Nat → ClassId) (dI : Nat → Nat → Nat) (cA : Nat → ClassId) (b : Nat) (σ : Hp) (a1 : Int32)  : CT l dC dI cA b yX9_quarter cX9_quarter 4 (some .int) 4 [.ref (b + 134), .int a1] σ rvI (f_X9_quarter σ a1) := CT_of [(0, .ref (b + 134)), (1, .int a1)] (by decide +kernel) rfl (Nat.le_of_ble_eq_true rfl) rfl (fun E _ C D _ _ _ => vj_X9_quarter_0 C D σ a1 )
set_option maxRecDepth 4000 in
theorem vj_X9_drum_70 {E : Ev} {b : Nat} (C : CX E RX9 cX9_drum 3 3) (D : CR E (some .int))   {k13 : Hp → Int32 → Int32 → Option (Int32 × Hp)} (hk13 : ∀ (σ : Hp) (x1 : Int32) (x2 : Int32) , VJ rvI (QM E b) E b 3 σ 13 [(0, .ref (b + 134)), (1, .int x1), (2, .int x2)] [] (k13 σ x1 x2)) (σ : Hp) (x1 : Int32) (x2 : Int32)  : VJ rvI (QM E b) E b 3 σ 70 [(0, .ref (b + 134)), (1, .int x1), (2, .int x2)] [] (f_X9_drum_70 k13 σ x1 x2) := by
  unfold f_X9_drum_70
  refine V_iinc (k := 2) (v := (1 : Int32)) (L' := fun v1 => [(2, .int v1), (0, .ref (b + 134)), (1, .int x1)]) C dX9_drum_70 rfl (by decide) (by decide) (fun _ => rfl) (fun v1 => ?_)
  refine V_goto (tgt := 13) C dX9_drum_73 (by decide) ?_
  exact V_sub [1, 2, 0] rfl (hk13 σ x1 v1)

set_option maxRecDepth 4000 in
theorem vj_X9_drum_69 {E : Ev} {b : Nat} (C : CX E RX9 cX9_drum 3 3) (D : CR E (some .int))   {k13 : Hp → Int32 → Int32 → Option (Int32 × Hp)} (hk13 : ∀ (σ : Hp) (x1 : Int32) (x2 : Int32) , VJ rvI (QM E b) E b 3 σ 13 [(0, .ref (b + 134)), (1, .int x1), (2, .int x2)] [] (k13 σ x1 x2)) (σ : Hp) (x1 : Int32) (x2 : Int32) (s0 : Int32) (s1 : Int32)  : VJ rvI (QM E b) E b 3 σ 69 [(0, .ref (b + 134)), (1, .int x1), (2, .int x2)] [.int s0, .int s1, .ref (b + 136)] (f_X9_drum_69 k13 σ x1 x2 s0 s1) := by
  unfold f_X9_drum_69
  refine V_iast C (ln136) ly136 dX9_drum_69 (fun σ1 => ?_)
  exact V_sub [0, 1, 2] rfl (vj_X9_drum_70 C D hk13 σ1 x1 x2)

set_option maxRecDepth 4000 in
theorem vj_X9_drum_13 {E : Ev} {b : Nat} (C : CX E RX9 cX9_drum 3 3) (D : CR E (some .int))    : ∀ (n : Nat) (σ : Hp) (x1 : Int32) (x2 : Int32) , VJ rvI (QM E b) E b 3 σ 13 [(0, .ref (b + 134)), (1, .int x1), (2, .int x2)] [] (f_X9_drum_13 n σ x1 x2)
  | 0, σ, x1, x2 => V_none
  | n + 1, σ, x1, x2 => by
    show VJ rvI (QM E b) E b 3 σ 13 [(0, .ref (b + 134)), (1, .int x1), (2, .int x2)] [] (if (σ 134 4) ≤ x2 then (
          some (x1, σ))
        else (
          ck x2 5 <|
          if (σ 139 (ix x2)) = 0 then (
            f_X9_drum_70 (f_X9_drum_13 n) σ x1 x2)
          else (
            Lt (x1 + (1 : Int32)) fun v1 =>
            ck x2 5 <|
            Lt (wr σ 139 (ix x2) (vp_nar .boolean (0 : Int32))) fun σ3 =>
            ck x2 5 <|
            if (σ3 136 (ix x2)) ≤ (96 : Int32) then (
              ck x2 5 <|
              f_X9_drum_69 (f_X9_drum_13 n) σ3 v1 x2 ((σ3 136 (ix x2)) + (3 : Int32)) x2)
            else (
              f_X9_drum_69 (f_X9_drum_13 n) σ3 v1 x2 (99 : Int32) x2))))
    have ih := vj_X9_drum_13 (b := b) C D   n
    refine V_iload_n C dX9_drum_13 rfl 2 rfl ?_
    refine V_aload_n C dX9_drum_14 rfl 0 rfl ?_
    refine gf_RX9_90 C (ln134) ly134 rfl dX9_drum_15 ?_
    refine V_icmp_ge (tgt := 76) C dX9_drum_18 (by decide) ?_ ?_
    · refine V_iload_n C dX9_drum_76 rfl 1 rfl ?_
      exact V_iret C D dX9_drum_77
    · refine V_aload_n C dX9_drum_21 rfl 0 rfl ?_
      refine gf_RX9_26 C (ln134) ly134 rfl dX9_drum_22 ?_
      refine V_iload_n C dX9_drum_25 rfl 2 rfl ?_
      refine V_zald C (ln139) ly139 dX9_drum_26 ?_
      refine V_if_eq (tgt := 70) C dX9_drum_27 (by decide) ?_ ?_
      · exact V_sub [0, 1, 2] rfl (vj_X9_drum_70 C D ih σ x1 x2)
      · refine V_iinc (k := 1) (v := (1 : Int32)) (L' := fun v1 => [(1, .int v1), (0, .ref (b + 134)), (2, .int x2)]) C dX9_drum_30 rfl (by decide) (by decide) (fun _ => rfl) (fun v1 => ?_)
        refine V_aload_n C dX9_drum_33 rfl 1 rfl ?_
        refine gf_RX9_26 C (ln134) ly134 rfl dX9_drum_34 ?_
        refine V_iload_n C dX9_drum_37 rfl 2 rfl ?_
        refine V_iconst (v := (0 : Int32)) C dX9_drum_38 (by decide) ?_
        refine V_zast C (ln139) ly139 dX9_drum_39 (fun σ3 => ?_)
        refine V_aload_n C dX9_drum_40 rfl 1 rfl ?_
        refine gf_RX9_17 C (ln134) ly134 rfl dX9_drum_41 ?_
        refine V_iload_n C dX9_drum_44 rfl 2 rfl ?_
        refine V_aload_n C dX9_drum_45 rfl 1 rfl ?_
        refine gf_RX9_17 C (ln134) ly134 rfl dX9_drum_46 ?_
        refine V_iload_n C dX9_drum_49 rfl 2 rfl ?_
        refine V_iald C (ln136) ly136 dX9_drum_50 ?_
        refine V_bipush (v := (96 : Int32)) C dX9_drum_51 (by decide) ?_
        refine V_icmp_le (tgt := 61) C dX9_drum_53 (by decide) ?_ ?_
        · refine V_aload_n C dX9_drum_61 rfl 1 rfl ?_
          refine gf_RX9_17 C (ln134) ly134 rfl dX9_drum_62 ?_
          refine V_iload_n C dX9_drum_65 rfl 2 rfl ?_
          refine V_iald C (ln136) ly136 dX9_drum_66 ?_
          refine V_iconst (v := (3 : Int32)) C dX9_drum_67 (by decide) ?_
          refine V_iadd C dX9_drum_68 ?_
          exact V_sub [1, 0, 2] rfl (vj_X9_drum_69 C D ih σ3 v1 x2 ((σ3 136 (ix x2)) + (3 : Int32)) x2)
        · refine V_bipush (v := (99 : Int32)) C dX9_drum_56 (by decide) ?_
          refine V_goto (tgt := 69) C dX9_drum_58 (by decide) ?_
          exact V_sub [1, 0, 2] rfl (vj_X9_drum_69 C D ih σ3 v1 x2 (99 : Int32) x2)

set_option maxRecDepth 4000 in
theorem vj_X9_drum_0 {E : Ev} {b : Nat} (C : CX E RX9 cX9_drum 3 3) (D : CR E (some .int))    (σ : Hp)   : VJ rvI (QM E b) E b 3 σ 0 [(0, .ref (b + 134))] [] (f_X9_drum σ ) := by
  unfold f_X9_drum
  refine V_aload_n C dX9_drum_0 rfl 0 rfl ?_
  refine V_iconst (v := (0 : Int32)) C dX9_drum_1 (by decide) ?_
  refine pf_RX9_87 C (ln134) ly134 rfl dX9_drum_2 (fun σ1 => ?_)
  refine V_aload_n C dX9_drum_5 rfl 0 rfl ?_
  refine cv_RX9_180 C (ln134) ly134 (ct_X9_note _ _ _ _ _ σ1 ) (by decide) rfl rfl (Nat.le_of_ble_eq_true rfl) dX9_drum_6 (fun r2 σ3 => ?_)
  refine V_iconst (v := (0 : Int32)) C dX9_drum_9 (by decide) ?_
  refine V_istore_n (L' := [(1, .int (0 : Int32)), (0, .ref (b + 134))]) C dX9_drum_10 rfl (by decide) rfl ?_
  refine V_iconst (v := (0 : Int32)) C dX9_drum_11 (by decide) ?_
  refine V_istore_n (L' := [(2, .int (0 : Int32)), (1, .int (0 : Int32)), (0, .ref (b + 134))]) C dX9_drum_12 rfl (by decide) rfl ?_
  exact V_sub [2, 1, 0] rfl (vj_X9_drum_13 C D FU σ3 (0 : Int32) (0 : Int32))

theorem ct_X9_drum (l : Launch) (dC : Nat → ClassId) (dI : Nat → Nat → Nat) (cA : Nat → ClassId) (b : Nat) (σ : Hp)   : CT l dC dI cA b yX9_drum cX9_drum 3 (some .int) 3 [.ref (b + 134)] σ rvI (f_X9_drum σ ) := CT_of [(0, .ref (b + 134))] (by decide +kernel) rfl (Nat.le_of_ble_eq_true rfl) rfl (fun E _ C D _ _ _ => vj_X9_drum_0 C D σ  )
set_option maxRecDepth 4000 in
theorem vj_X9_undo_0 {E : Ev} {b : Nat} (C : CX E RX9 cX9_undo 1 2) (D : CR E (some .int))    (σ : Hp)   : VJ rvI (QM E b) E b 1 σ 0 [(0, .ref (b + 134))] [] (f_X9_undo σ ) := by
  unfold f_X9_undo
  refine V_aload_n C dX9_undo_0 rfl 0 rfl ?_
  refine V_iconst (v := (0 : Int32)) C dX9_undo_1 (by decide) ?_
  refine pf_RX9_87 C (ln134) ly134 rfl dX9_undo_2 (fun σ1 => ?_)
  refine V_aload_n C dX9_undo_5 rfl 0 rfl ?_
  refine gf_RX9_148 C (ln134) ly134 rfl dX9_undo_6 ?_
  refine V_if_ne (tgt := 15) C dX9_undo_9 (by decide) ?_ ?_
  · refine V_aload_n C dX9_undo_15 rfl 0 rfl ?_
    refine V_dup C dX9_undo_16 rfl ?_
    refine gf_RX9_148 C (ln134) ly134 rfl dX9_undo_17 ?_
    refine V_iconst (v := (1 : Int32)) C dX9_undo_20 (by decide) ?_
    refine V_isub C dX9_undo_21 ?_
    refine pf_RX9_148 C (ln134) ly134 rfl dX9_undo_22 (fun σ2 => ?_)
    refine V_aload_n C dX9_undo_25 rfl 0 rfl ?_
    refine V_aload_n C dX9_undo_26 rfl 0 rfl ?_
    refine gf_RX9_54 C (ln134) ly134 rfl dX9_undo_27 ?_
    refine V_bipush (v := (27 : Int32)) C dX9_undo_30 (by decide) ?_
    refine V_aload_n C dX9_undo_32 rfl 0 rfl ?_
    refine gf_RX9_148 C (ln134) ly134 rfl dX9_undo_33 ?_
    refine V_imul C dX9_undo_36 ?_
    refine cv_RX9_186 C (ln134) ly134 (ct_X9_takePage _ _ _ _ _ σ2 148 324 ((27 : Int32) * (σ2 134 25)) ⟨(ln148), ly148⟩) (by decide) rfl rfl (Nat.le_of_ble_eq_true rfl) dX9_undo_37 (fun r3 σ4 => ?_)
    refine V_aload_n C dX9_undo_40 rfl 0 rfl ?_
    refine gf_RX9_148 C (ln134) ly134 rfl dX9_undo_41 ?_
    exact V_iret C D dX9_undo_44
  · refine V_bipush (v := (-3 : Int32)) C dX9_undo_12 (by decide) ?_
    exact V_iret C D dX9_undo_14

theorem ct_X9_undo (l : Launch) (dC : Nat → ClassId) (dI : Nat → Nat → Nat) (cA : Nat → ClassId) (b : Nat) (σ : Hp)   : CT l dC dI cA b yX9_undo cX9_undo 1 (some .int) 2 [.ref (b + 134)] σ rvI (f_X9_undo σ ) := CT_of [(0, .ref (b + 134))] (by decide +kernel) rfl (Nat.le_of_ble_eq_true rfl) rfl (fun E _ C D _ _ _ => vj_X9_undo_0 C D σ  )
set_option maxRecDepth 4000 in
theorem vj_X9_allTired_4 {E : Ev} {b : Nat} (C : CX E RX9 cX9_allTired 3 1) (D : CR E (some .int))    : ∀ (n : Nat) (σ : Hp) (x1 : Int32) (x2 : Int32) , VJ rvI (QM E b) E b 3 σ 4 [(0, .ref (b + 134)), (1, .int x1), (2, .int x2)] [] (f_X9_allTired_4 n σ x1 x2)
  | 0, σ, x1, x2 => V_none
  | n + 1, σ, x1, x2 => by
    show VJ rvI (QM E b) E b 3 σ 4 [(0, .ref (b + 134)), (1, .int x1), (2, .int x2)] [] (if (σ 134 4) ≤ x2 then (
          some (x1, σ))
        else (
          ck x2 5 <|
          Lt (x1 + (σ 154 (ix x2))) fun v1 =>
          Lt (x2 + (1 : Int32)) fun v2 =>
          f_X9_allTired_4 n σ v1 v2))
    have ih := vj_X9_allTired_4 (b := b) C D   n
    refine V_iload_n C dX9_allTired_4 rfl 2 rfl ?_
    refine V_aload_n C dX9_allTired_5 rfl 0 rfl ?_
    refine gf_RX9_90 C (ln134) ly134 rfl dX9_allTired_6 ?_
    refine V_icmp_ge (tgt := 27) C dX9_allTired_9 (by decide) ?_ ?_
    · refine V_iload_n C dX9_allTired_27 rfl 1 rfl ?_
      exact V_iret C D dX9_allTired_28
    · refine V_iload_n C dX9_allTired_12 rfl 1 rfl ?_
      refine V_aload_n C dX9_allTired_13 rfl 0 rfl ?_
      refine gf_RX9_72 C (ln134) ly134 rfl dX9_allTired_14 ?_
      refine V_iload_n C dX9_allTired_17 rfl 2 rfl ?_
      refine V_iald C (ln154) ly154 dX9_allTired_18 ?_
      refine V_iadd C dX9_allTired_19 ?_
      refine V_ltI (fun v1 => ?_)
      refine V_istore_n (L' := [(1, .int v1), (0, .ref (b + 134)), (2, .int x2)]) C dX9_allTired_20 rfl (by decide) rfl ?_
      refine V_iinc (k := 2) (v := (1 : Int32)) (L' := fun v2 => [(2, .int v2), (1, .int v1), (0, .ref (b + 134))]) C dX9_allTired_21 rfl (by decide) (by decide) (fun _ => rfl) (fun v2 => ?_)
      refine V_goto (tgt := 4) C dX9_allTired_24 (by decide) ?_
      exact V_sub [2, 1, 0] rfl (ih σ v1 v2)

set_option maxRecDepth 4000 in
theorem vj_X9_allTired_0 {E : Ev} {b : Nat} (C : CX E RX9 cX9_allTired 3 1) (D : CR E (some .int))    (σ : Hp)   : VJ rvI (QM E b) E b 3 σ 0 [(0, .ref (b + 134))] [] (f_X9_allTired σ ) := by
  unfold f_X9_allTired
  refine V_iconst (v := (0 : Int32)) C dX9_allTired_0 (by decide) ?_
  refine V_istore_n (L' := [(1, .int (0 : Int32)), (0, .ref (b + 134))]) C dX9_allTired_1 rfl (by decide) rfl ?_
  refine V_iconst (v := (0 : Int32)) C dX9_allTired_2 (by decide) ?_
  refine V_istore_n (L' := [(2, .int (0 : Int32)), (1, .int (0 : Int32)), (0, .ref (b + 134))]) C dX9_allTired_3 rfl (by decide) rfl ?_
  exact V_sub [2, 1, 0] rfl (vj_X9_allTired_4 C D FU σ (0 : Int32) (0 : Int32))

theorem ct_X9_allTired (l : Launch) (dC : Nat → ClassId) (dI : Nat → Nat → Nat) (cA : Nat → ClassId) (b : Nat) (σ : Hp)   : CT l dC dI cA b yX9_allTired cX9_allTired 3 (some .int) 1 [.ref (b + 134)] σ rvI (f_X9_allTired σ ) := CT_of [(0, .ref (b + 134))] (by decide +kernel) rfl (Nat.le_of_ble_eq_true rfl) rfl (fun E _ C D _ _ _ => vj_X9_allTired_0 C D σ  )
set_option maxRecDepth 4000 in
theorem vj_X9_findRota_98 {E : Ev} {b : Nat} (C : CX E RX9 cX9_findRota 9 4) (D : CR E (some .int))   {k39 : Hp → Int32 → Int32 → Int32 → Int32 → Int32 → Int32 → Int32 → Option (Int32 × Hp)} (hk39 : ∀ (σ : Hp) (x1 : Int32) (x2 : Int32) (x3 : Int32) (x4 : Int32) (x5 : Int32) (x6 : Int32) (x7 : Int32) , VJ rvI (QM E b) E b 9 σ 39 [(0, .ref (b + 134)), (1, .int x1), (2, .int x2), (3, .int x3), (4, .int x4), (5, .int x5), (6, .int x6), (7, .int x7)] [] (k39 σ x1 x2 x3 x4 x5 x6 x7)) {k15 : Hp → Int32 → Int32 → Int32 → Int32 → Option (Int32 × Hp)} (hk15 : ∀ (σ : Hp) (x1 : Int32) (x2 : Int32) (x3 : Int32) (x4 : Int32) , VJ rvI (QM E b) E b 9 σ 15 [(0, .ref (b + 134)), (1, .int x1), (2, .int x2), (3, .int x3), (4, .int x4)] [] (k15 σ x1 x2 x3 x4)) (σ : Hp) (x1 : Int32) (x2 : Int32) (x3 : Int32) (x4 : Int32) (x6 : Int32) (x7 : Int32) (s0 : Int32)  : VJ rvI (QM E b) E b 9 σ 98 [(0, .ref (b + 134)), (1, .int x1), (2, .int x2), (3, .int x3), (4, .int x4), (6, .int x6), (7, .int x7)] [.int s0] (f_X9_findRota_98 k39 k15 σ x1 x2 x3 x4 x6 x7 s0) := by
  unfold f_X9_findRota_98
  refine V_istore (L' := [(5, .int s0), (0, .ref (b + 134)), (1, .int x1), (2, .int x2), (3, .int x3), (4, .int x4), (6, .int x6), (7, .int x7)]) C dX9_findRota_98 (by decide) rfl ?_
  refine V_iinc (k := 7) (v := (1 : Int32)) (L' := fun v1 => [(7, .int v1), (5, .int s0), (0, .ref (b + 134)), (1, .int x1), (2, .int x2), (3, .int x3), (4, .int x4), (6, .int x6)]) C dX9_findRota_100 rfl (by decide) (by decide) (fun _ => rfl) (fun v1 => ?_)
  refine V_goto (tgt := 39) C dX9_findRota_103 (by decide) ?_
  exact V_sub [2, 3, 4, 5, 6, 1, 7, 0] rfl (hk39 σ x1 x2 x3 x4 s0 x6 v1)

set_option maxRecDepth 4000 in
theorem vj_X9_findRota_97 {E : Ev} {b : Nat} (C : CX E RX9 cX9_findRota 9 4) (D : CR E (some .int))   {k39 : Hp → Int32 → Int32 → Int32 → Int32 → Int32 → Int32 → Int32 → Option (Int32 × Hp)} (hk39 : ∀ (σ : Hp) (x1 : Int32) (x2 : Int32) (x3 : Int32) (x4 : Int32) (x5 : Int32) (x6 : Int32) (x7 : Int32) , VJ rvI (QM E b) E b 9 σ 39 [(0, .ref (b + 134)), (1, .int x1), (2, .int x2), (3, .int x3), (4, .int x4), (5, .int x5), (6, .int x6), (7, .int x7)] [] (k39 σ x1 x2 x3 x4 x5 x6 x7)) {k15 : Hp → Int32 → Int32 → Int32 → Int32 → Option (Int32 × Hp)} (hk15 : ∀ (σ : Hp) (x1 : Int32) (x2 : Int32) (x3 : Int32) (x4 : Int32) , VJ rvI (QM E b) E b 9 σ 15 [(0, .ref (b + 134)), (1, .int x1), (2, .int x2), (3, .int x3), (4, .int x4)] [] (k15 σ x1 x2 x3 x4)) (σ : Hp) (x1 : Int32) (x2 : Int32) (x3 : Int32) (x4 : Int32) (x6 : Int32) (x7 : Int32)  : VJ rvI (QM E b) E b 9 σ 97 [(0, .ref (b + 134)), (1, .int x1), (2, .int x2), (3, .int x3), (4, .int x4), (6, .int x6), (7, .int x7)] [] (f_X9_findRota_97 k39 k15 σ x1 x2 x3 x4 x6 x7) := by
  unfold f_X9_findRota_97
  refine V_iconst (v := (0 : Int32)) C dX9_findRota_97 (by decide) ?_
  exact V_sub [0, 1, 2, 3, 4, 5, 6] rfl (vj_X9_findRota_98 C D hk39 hk15 σ x1 x2 x3 x4 x6 x7 (0 : Int32))

set_option maxRecDepth 4000 in
theorem vj_X9_findRota_183 {E : Ev} {b : Nat} (C : CX E RX9 cX9_findRota 9 4) (D : CR E (some .int))   {k15 : Hp → Int32 → Int32 → Int32 → Int32 → Option (Int32 × Hp)} (hk15 : ∀ (σ : Hp) (x1 : Int32) (x2 : Int32) (x3 : Int32) (x4 : Int32) , VJ rvI (QM E b) E b 9 σ 15 [(0, .ref (b + 134)), (1, .int x1), (2, .int x2), (3, .int x3), (4, .int x4)] [] (k15 σ x1 x2 x3 x4)) (σ : Hp) (x1 : Int32) (x2 : Int32) (x3 : Int32) (x4 : Int32)  : VJ rvI (QM E b) E b 9 σ 183 [(0, .ref (b + 134)), (1, .int x1), (2, .int x2), (3, .int x3), (4, .int x4)] [] (f_X9_findRota_183 k15 σ x1 x2 x3 x4) := by
  unfold f_X9_findRota_183
  refine V_iinc (k := 4) (v := (1 : Int32)) (L' := fun v1 => [(4, .int v1), (0, .ref (b + 134)), (1, .int x1), (2, .int x2), (3, .int x3)]) C dX9_findRota_183 rfl (by decide) (by decide) (fun _ => rfl) (fun v1 => ?_)
  refine V_goto (tgt := 15) C dX9_findRota_186 (by decide) ?_
  exact V_sub [1, 2, 3, 4, 0] rfl (hk15 σ x1 x2 x3 v1)

set_option maxRecDepth 4000 in
theorem vj_X9_findRota_141 {E : Ev} {b : Nat} (C : CX E RX9 cX9_findRota 9 4) (D : CR E (some .int))   {k15 : Hp → Int32 → Int32 → Int32 → Int32 → Option (Int32 × Hp)} (hk15 : ∀ (σ : Hp) (x1 : Int32) (x2 : Int32) (x3 : Int32) (x4 : Int32) , VJ rvI (QM E b) E b 9 σ 15 [(0, .ref (b + 134)), (1, .int x1), (2, .int x2), (3, .int x3), (4, .int x4)] [] (k15 σ x1 x2 x3 x4)) : ∀ (n : Nat) (σ : Hp) (x1 : Int32) (x2 : Int32) (x3 : Int32) (x4 : Int32) (x6 : Int32) (x7 : Int32) , VJ rvI (QM E b) E b 9 σ 141 [(0, .ref (b + 134)), (1, .int x1), (2, .int x2), (3, .int x3), (4, .int x4), (6, .int x6), (7, .int x7)] [] (f_X9_findRota_141 k15 n σ x1 x2 x3 x4 x6 x7)
  | 0, σ, x1, x2, x3, x4, x6, x7 => V_none
  | n + 1, σ, x1, x2, x3, x4, x6, x7 => by
    show VJ rvI (QM E b) E b 9 σ 141 [(0, .ref (b + 134)), (1, .int x1), (2, .int x2), (3, .int x3), (4, .int x4), (6, .int x6), (7, .int x7)] [] (if x1 ≤ x7 then (
          f_X9_findRota_183 k15 σ x1 x2 x3 x4)
        else (
          Lt (x6 - (σ 134 4)) fun v1 =>
          ck x7 4 <|
          Lt (wr σ 158 (ix x7) ((x4 >>> (v1 &&& 31)) &&& (((1 : Int32) <<< ((σ 134 4) &&& 31)) - (1 : Int32)))) fun σ2 =>
          Lt (x7 + (1 : Int32)) fun v3 =>
          f_X9_findRota_141 k15 n σ2 x1 x2 x3 x4 v1 v3))
    have ih := vj_X9_findRota_141 (b := b) C D  hk15 n
    refine V_iload C dX9_findRota_141 6 rfl ?_
    refine V_iload_n C dX9_findRota_143 rfl 1 rfl ?_
    refine V_icmp_ge (tgt := 183) C dX9_findRota_144 (by decide) ?_ ?_
    · exact V_sub [0, 1, 2, 3, 4] rfl (vj_X9_findRota_183 C D hk15 σ x1 x2 x3 x4)
    · refine V_iload C dX9_findRota_147 5 rfl ?_
      refine V_aload_n C dX9_findRota_149 rfl 0 rfl ?_
      refine gf_RX9_90 C (ln134) ly134 rfl dX9_findRota_150 ?_
      refine V_isub C dX9_findRota_153 ?_
      refine V_ltI (fun v1 => ?_)
      refine V_istore (L' := [(6, .int v1), (0, .ref (b + 134)), (1, .int x1), (2, .int x2), (3, .int x3), (4, .int x4), (7, .int x7)]) C dX9_findRota_154 (by decide) rfl ?_
      refine V_aload_n C dX9_findRota_156 rfl 1 rfl ?_
      refine gf_RX9_84 C (ln134) ly134 rfl dX9_findRota_157 ?_
      refine V_iload C dX9_findRota_160 6 rfl ?_
      refine V_iload C dX9_findRota_162 5 rfl ?_
      refine V_iload C dX9_findRota_164 0 rfl ?_
      refine V_ishr C dX9_findRota_166 ?_
      refine V_iconst (v := (1 : Int32)) C dX9_findRota_167 (by decide) ?_
      refine V_aload_n C dX9_findRota_168 rfl 1 rfl ?_
      refine gf_RX9_90 C (ln134) ly134 rfl dX9_findRota_169 ?_
      refine V_ishl C dX9_findRota_172 ?_
      refine V_iconst (v := (1 : Int32)) C dX9_findRota_173 (by decide) ?_
      refine V_isub C dX9_findRota_174 ?_
      refine V_iand C dX9_findRota_175 ?_
      refine V_iast C (ln158) ly158 dX9_findRota_176 (fun σ2 => ?_)
      refine V_iinc (k := 6) (v := (1 : Int32)) (L' := fun v3 => [(7, .int v3), (6, .int v1), (0, .ref (b + 134)), (1, .int x1), (2, .int x2), (3, .int x3), (4, .int x4)]) C dX9_findRota_177 rfl (by decide) (by decide) (fun _ => rfl) (fun v3 => ?_)
      refine V_goto (tgt := 141) C dX9_findRota_180 (by decide) ?_
      exact V_sub [2, 3, 4, 5, 6, 1, 0] rfl (ih σ2 x1 x2 x3 x4 v1 v3)

set_option maxRecDepth 4000 in
theorem vj_X9_findRota_125 {E : Ev} {b : Nat} (C : CX E RX9 cX9_findRota 9 4) (D : CR E (some .int))   {k15 : Hp → Int32 → Int32 → Int32 → Int32 → Option (Int32 × Hp)} (hk15 : ∀ (σ : Hp) (x1 : Int32) (x2 : Int32) (x3 : Int32) (x4 : Int32) , VJ rvI (QM E b) E b 9 σ 15 [(0, .ref (b + 134)), (1, .int x1), (2, .int x2), (3, .int x3), (4, .int x4)] [] (k15 σ x1 x2 x3 x4)) (σ : Hp) (x1 : Int32) (x3 : Int32) (x4 : Int32)  : VJ rvI (QM E b) E b 9 σ 125 [(0, .ref (b + 134)), (1, .int x1), (3, .int x3), (4, .int x4)] [] (f_X9_findRota_125 k15 σ x1 x3 x4) := by
  unfold f_X9_findRota_125
  refine V_aload_n C dX9_findRota_125 rfl 0 rfl ?_
  refine cv_RX9_189 C (ln134) ly134 (ct_X9_allTired _ _ _ _ _ σ ) (by decide) rfl rfl (Nat.le_of_ble_eq_true rfl) dX9_findRota_126 (fun r1 σ2 => ?_)
  refine V_istore_n (L' := [(2, .int r1), (0, .ref (b + 134)), (1, .int x1), (3, .int x3), (4, .int x4)]) C dX9_findRota_129 rfl (by decide) rfl ?_
  refine V_aload_n C dX9_findRota_130 rfl 1 rfl ?_
  refine gf_RX9_90 C (ln134) ly134 rfl dX9_findRota_131 ?_
  refine V_iload_n C dX9_findRota_134 rfl 2 rfl ?_
  refine V_imul C dX9_findRota_135 ?_
  refine V_ltI (fun v3 => ?_)
  refine V_istore (L' := [(6, .int v3), (2, .int r1), (0, .ref (b + 134)), (1, .int x1), (3, .int x3), (4, .int x4)]) C dX9_findRota_136 (by decide) rfl ?_
  refine V_iconst (v := (0 : Int32)) C dX9_findRota_138 (by decide) ?_
  refine V_istore (L' := [(7, .int (0 : Int32)), (6, .int v3), (2, .int r1), (0, .ref (b + 134)), (1, .int x1), (3, .int x3), (4, .int x4)]) C dX9_findRota_139 (by decide) rfl ?_
  exact V_sub [3, 4, 2, 5, 6, 1, 0] rfl (vj_X9_findRota_141 C D hk15 FU σ2 x1 r1 x3 x4 v3 (0 : Int32))

set_option maxRecDepth 4000 in
theorem vj_X9_findRota_106 {E : Ev} {b : Nat} (C : CX E RX9 cX9_findRota 9 4) (D : CR E (some .int))   {k15 : Hp → Int32 → Int32 → Int32 → Int32 → Option (Int32 × Hp)} (hk15 : ∀ (σ : Hp) (x1 : Int32) (x2 : Int32) (x3 : Int32) (x4 : Int32) , VJ rvI (QM E b) E b 9 σ 15 [(0, .ref (b + 134)), (1, .int x1), (2, .int x2), (3, .int x3), (4, .int x4)] [] (k15 σ x1 x2 x3 x4)) (σ : Hp) (x1 : Int32) (x2 : Int32) (x3 : Int32) (x4 : Int32) (x5 : Int32)  : VJ rvI (QM E b) E b 9 σ 106 [(0, .ref (b + 134)), (1, .int x1), (2, .int x2), (3, .int x3), (4, .int x4), (5, .int x5)] [] (f_X9_findRota_106 k15 σ x1 x2 x3 x4 x5) := by
  unfold f_X9_findRota_106
  refine V_iload C dX9_findRota_106 5 rfl ?_
  refine V_if_eq (tgt := 183) C dX9_findRota_108 (by decide) ?_ ?_
  · exact V_sub [0, 1, 2, 3, 4] rfl (vj_X9_findRota_183 C D hk15 σ x1 x2 x3 x4)
  · refine V_iload_n C dX9_findRota_111 rfl 2 rfl ?_
    refine V_bipush (v := (-9 : Int32)) C dX9_findRota_112 (by decide) ?_
    refine V_icmp_eq (tgt := 125) C dX9_findRota_114 (by decide) ?_ ?_
    · exact V_sub [0, 1, 3, 4] rfl (vj_X9_findRota_125 C D hk15 σ x1 x3 x4)
    · refine V_aload_n C dX9_findRota_117 rfl 0 rfl ?_
      refine cv_RX9_189 C (ln134) ly134 (ct_X9_allTired _ _ _ _ _ σ ) (by decide) rfl rfl (Nat.le_of_ble_eq_true rfl) dX9_findRota_118 (fun r1 σ2 => ?_)
      refine V_iload_n C dX9_findRota_121 rfl 2 rfl ?_
      refine V_icmp_ge (tgt := 183) C dX9_findRota_122 (by decide) ?_ ?_
      · exact V_sub [0, 1, 2, 3, 4] rfl (vj_X9_findRota_183 C D hk15 σ2 x1 x2 x3 x4)
      · exact V_sub [0, 1, 3, 4] rfl (vj_X9_findRota_125 C D hk15 σ2 x1 x3 x4)

set_option maxRecDepth 4000 in
theorem vj_X9_findRota_39 {E : Ev} {b : Nat} (C : CX E RX9 cX9_findRota 9 4) (D : CR E (some .int))   {k15 : Hp → Int32 → Int32 → Int32 → Int32 → Option (Int32 × Hp)} (hk15 : ∀ (σ : Hp) (x1 : Int32) (x2 : Int32) (x3 : Int32) (x4 : Int32) , VJ rvI (QM E b) E b 9 σ 15 [(0, .ref (b + 134)), (1, .int x1), (2, .int x2), (3, .int x3), (4, .int x4)] [] (k15 σ x1 x2 x3 x4)) : ∀ (n : Nat) (σ : Hp) (x1 : Int32) (x2 : Int32) (x3 : Int32) (x4 : Int32) (x5 : Int32) (x6 : Int32) (x7 : Int32) , VJ rvI (QM E b) E b 9 σ 39 [(0, .ref (b + 134)), (1, .int x1), (2, .int x2), (3, .int x3), (4, .int x4), (5, .int x5), (6, .int x6), (7, .int x7)] [] (f_X9_findRota_39 k15 n σ x1 x2 x3 x4 x5 x6 x7)
  | 0, σ, x1, x2, x3, x4, x5, x6, x7 => V_none
  | n + 1, σ, x1, x2, x3, x4, x5, x6, x7 => by
    show VJ rvI (QM E b) E b 9 σ 39 [(0, .ref (b + 134)), (1, .int x1), (2, .int x2), (3, .int x3), (4, .int x4), (5, .int x5), (6, .int x6), (7, .int x7)] [] (if x1 ≤ x7 then (
          f_X9_findRota_106 k15 σ x1 x2 x3 x4 x5)
        else (
          if x5 = 0 then (
            f_X9_findRota_106 k15 σ x1 x2 x3 x4 x5)
          else (
            Lt (x6 - (σ 134 4)) fun v1 =>
            Lt ((x4 >>> (v1 &&& 31)) &&& (((1 : Int32) <<< ((σ 134 4) &&& 31)) - (1 : Int32))) fun v2 =>
            bd (f_X9_canBe σ v2) fun r3 σ4 =>
            if r3 = 0 then (
              f_X9_findRota_97 (f_X9_findRota_39 k15 n) k15 σ4 x1 x2 x3 x4 v1 x7)
            else (
              bd (f_X9_go σ4 v2) fun r5 σ6 =>
              if r5 = 0 then (
                f_X9_findRota_97 (f_X9_findRota_39 k15 n) k15 σ6 x1 x2 x3 x4 v1 x7)
              else (
                f_X9_findRota_98 (f_X9_findRota_39 k15 n) k15 σ6 x1 x2 x3 x4 v1 x7 (1 : Int32))))))
    have ih := vj_X9_findRota_39 (b := b) C D  hk15 n
    refine V_iload C dX9_findRota_39 7 rfl ?_
    refine V_iload_n C dX9_findRota_41 rfl 1 rfl ?_
    refine V_icmp_ge (tgt := 106) C dX9_findRota_42 (by decide) ?_ ?_
    · exact V_sub [0, 1, 2, 3, 4, 5] rfl (vj_X9_findRota_106 C D hk15 σ x1 x2 x3 x4 x5)
    · refine V_iload C dX9_findRota_45 5 rfl ?_
      refine V_if_eq (tgt := 106) C dX9_findRota_47 (by decide) ?_ ?_
      · exact V_sub [0, 1, 2, 3, 4, 5] rfl (vj_X9_findRota_106 C D hk15 σ x1 x2 x3 x4 x5)
      · refine V_iload C dX9_findRota_50 6 rfl ?_
        refine V_aload_n C dX9_findRota_52 rfl 0 rfl ?_
        refine gf_RX9_90 C (ln134) ly134 rfl dX9_findRota_53 ?_
        refine V_isub C dX9_findRota_56 ?_
        refine V_ltI (fun v1 => ?_)
        refine V_istore (L' := [(6, .int v1), (0, .ref (b + 134)), (1, .int x1), (2, .int x2), (3, .int x3), (4, .int x4), (5, .int x5), (7, .int x7)]) C dX9_findRota_57 (by decide) rfl ?_
        refine V_iload C dX9_findRota_59 5 rfl ?_
        refine V_iload C dX9_findRota_61 0 rfl ?_
        refine V_ishr C dX9_findRota_63 ?_
        refine V_iconst (v := (1 : Int32)) C dX9_findRota_64 (by decide) ?_
        refine V_aload_n C dX9_findRota_65 rfl 1 rfl ?_
        refine gf_RX9_90 C (ln134) ly134 rfl dX9_findRota_66 ?_
        refine V_ishl C dX9_findRota_69 ?_
        refine V_iconst (v := (1 : Int32)) C dX9_findRota_70 (by decide) ?_
        refine V_isub C dX9_findRota_71 ?_
        refine V_iand C dX9_findRota_72 ?_
        refine V_ltI (fun v2 => ?_)
        refine V_istore (L' := [(8, .int v2), (6, .int v1), (0, .ref (b + 134)), (1, .int x1), (2, .int x2), (3, .int x3), (4, .int x4), (5, .int x5), (7, .int x7)]) C dX9_findRota_73 (by decide) rfl ?_
        refine V_aload_n C dX9_findRota_75 rfl 2 rfl ?_
        refine V_iload C dX9_findRota_76 0 rfl ?_
        refine cv_RX9_173 C (ln134) ly134 (ct_X9_canBe _ _ _ _ _ σ v2) (by decide) rfl rfl (Nat.le_of_ble_eq_true rfl) dX9_findRota_78 (fun r3 σ4 => ?_)
        refine V_if_eq (tgt := 97) C dX9_findRota_81 (by decide) ?_ ?_
        · exact V_sub [2, 3, 4, 5, 6, 1, 8] rfl (vj_X9_findRota_97 C D ih hk15 σ4 x1 x2 x3 x4 v1 x7)
        · refine V_aload_n C dX9_findRota_84 rfl 2 rfl ?_
          refine V_iload C dX9_findRota_85 0 rfl ?_
          refine cv_RX9_183 C (ln134) ly134 (ct_X9_go _ _ _ _ _ σ4 v2) (by decide) rfl rfl (Nat.le_of_ble_eq_true rfl) dX9_findRota_87 (fun r5 σ6 => ?_)
          refine V_if_eq (tgt := 97) C dX9_findRota_90 (by decide) ?_ ?_
          · exact V_sub [2, 3, 4, 5, 6, 1, 8] rfl (vj_X9_findRota_97 C D ih hk15 σ6 x1 x2 x3 x4 v1 x7)
          · refine V_iconst (v := (1 : Int32)) C dX9_findRota_93 (by decide) ?_
            refine V_goto (tgt := 98) C dX9_findRota_94 (by decide) ?_
            exact V_sub [2, 3, 4, 5, 6, 1, 8] rfl (vj_X9_findRota_98 C D ih hk15 σ6 x1 x2 x3 x4 v1 x7 (1 : Int32))

set_option maxRecDepth 4000 in
theorem vj_X9_findRota_15 {E : Ev} {b : Nat} (C : CX E RX9 cX9_findRota 9 4) (D : CR E (some .int))    : ∀ (n : Nat) (σ : Hp) (x1 : Int32) (x2 : Int32) (x3 : Int32) (x4 : Int32) , VJ rvI (QM E b) E b 9 σ 15 [(0, .ref (b + 134)), (1, .int x1), (2, .int x2), (3, .int x3), (4, .int x4)] [] (f_X9_findRota_15 n σ x1 x2 x3 x4)
  | 0, σ, x1, x2, x3, x4 => V_none
  | n + 1, σ, x1, x2, x3, x4 => by
    show VJ rvI (QM E b) E b 9 σ 15 [(0, .ref (b + 134)), (1, .int x1), (2, .int x2), (3, .int x3), (4, .int x4)] [] (if x3 ≤ x4 then (
          some (x2, σ))
        else (
          bd (f_X9_begin σ ) fun r1 σ2 =>
          Lt ((σ2 134 4) * x1) fun v3 =>
          f_X9_findRota_39 (f_X9_findRota_15 n) FU σ2 x1 x2 x3 x4 (1 : Int32) v3 (0 : Int32)))
    have ih := vj_X9_findRota_15 (b := b) C D   n
    refine V_iload C dX9_findRota_15 4 rfl ?_
    refine V_iload_n C dX9_findRota_17 rfl 3 rfl ?_
    refine V_icmp_ge (tgt := 189) C dX9_findRota_18 (by decide) ?_ ?_
    · refine V_iload_n C dX9_findRota_189 rfl 2 rfl ?_
      exact V_iret C D dX9_findRota_190
    · refine V_aload_n C dX9_findRota_21 rfl 0 rfl ?_
      refine cv_RX9_170 C (ln134) ly134 (ct_X9_begin _ _ _ _ _ σ ) (by decide) rfl rfl (Nat.le_of_ble_eq_true rfl) dX9_findRota_22 (fun r1 σ2 => ?_)
      refine V_iconst (v := (1 : Int32)) C dX9_findRota_25 (by decide) ?_
      refine V_istore (L' := [(5, .int (1 : Int32)), (0, .ref (b + 134)), (1, .int x1), (2, .int x2), (3, .int x3), (4, .int x4)]) C dX9_findRota_26 (by decide) rfl ?_
      refine V_aload_n C dX9_findRota_28 rfl 1 rfl ?_
      refine gf_RX9_90 C (ln134) ly134 rfl dX9_findRota_29 ?_
      refine V_iload_n C dX9_findRota_32 rfl 2 rfl ?_
      refine V_imul C dX9_findRota_33 ?_
      refine V_ltI (fun v3 => ?_)
      refine V_istore (L' := [(6, .int v3), (5, .int (1 : Int32)), (0, .ref (b + 134)), (1, .int x1), (2, .int x2), (3, .int x3), (4, .int x4)]) C dX9_findRota_34 (by decide) rfl ?_
      refine V_iconst (v := (0 : Int32)) C dX9_findRota_36 (by decide) ?_
      refine V_istore (L' := [(7, .int (0 : Int32)), (6, .int v3), (5, .int (1 : Int32)), (0, .ref (b + 134)), (1, .int x1), (2, .int x2), (3, .int x3), (4, .int x4)]) C dX9_findRota_37 (by decide) rfl ?_
      exact V_sub [3, 4, 5, 6, 7, 2, 1, 0] rfl (vj_X9_findRota_39 C D ih FU σ2 x1 x2 x3 x4 (1 : Int32) v3 (0 : Int32))

set_option maxRecDepth 4000 in
theorem vj_X9_findRota_0 {E : Ev} {b : Nat} (C : CX E RX9 cX9_findRota 9 4) (D : CR E (some .int))    (σ : Hp) (a1 : Int32)  : VJ rvI (QM E b) E b 9 σ 0 [(0, .ref (b + 134)), (1, .int a1)] [] (f_X9_findRota σ a1) := by
  unfold f_X9_findRota
  refine V_bipush (v := (-9 : Int32)) C dX9_findRota_0 (by decide) ?_
  refine V_istore_n (L' := [(2, .int (-9 : Int32)), (0, .ref (b + 134)), (1, .int a1)]) C dX9_findRota_2 rfl (by decide) rfl ?_
  refine V_iconst (v := (1 : Int32)) C dX9_findRota_3 (by decide) ?_
  refine V_aload_n C dX9_findRota_4 rfl 1 rfl ?_
  refine gf_RX9_90 C (ln134) ly134 rfl dX9_findRota_5 ?_
  refine V_iload_n C dX9_findRota_8 rfl 2 rfl ?_
  refine V_imul C dX9_findRota_9 ?_
  refine V_ishl C dX9_findRota_10 ?_
  refine V_ltI (fun v1 => ?_)
  refine V_istore_n (L' := [(3, .int v1), (2, .int (-9 : Int32)), (0, .ref (b + 134)), (1, .int a1)]) C dX9_findRota_11 rfl (by decide) rfl ?_
  refine V_iconst (v := (0 : Int32)) C dX9_findRota_12 (by decide) ?_
  refine V_istore (L' := [(4, .int (0 : Int32)), (3, .int v1), (2, .int (-9 : Int32)), (0, .ref (b + 134)), (1, .int a1)]) C dX9_findRota_13 (by decide) rfl ?_
  exact V_sub [3, 4, 2, 1, 0] rfl (vj_X9_findRota_15 C D FU σ a1 (-9 : Int32) v1 (0 : Int32))

theorem ct_X9_findRota (l : Launch) (dC : Nat → ClassId) (dI : Nat → Nat → Nat) (cA : Nat → ClassId) (b : Nat) (σ : Hp) (a1 : Int32)  : CT l dC dI cA b yX9_findRota cX9_findRota 9 (some .int) 4 [.ref (b + 134), .int a1] σ rvI (f_X9_findRota σ a1) := CT_of [(0, .ref (b + 134)), (1, .int a1)] (by decide +kernel) rfl (Nat.le_of_ble_eq_true rfl) rfl (fun E _ C D _ _ _ => vj_X9_findRota_0 C D σ a1 )
set_option maxRecDepth 4000 in
theorem vj_X9_noRota_0 {E : Ev} {b : Nat} (C : CX E RX9 cX9_noRota 2 2) (D : CR E (some .int))    (σ : Hp) (a1 : Int32)  : VJ rvI (QM E b) E b 2 σ 0 [(0, .ref (b + 134)), (1, .int a1)] [] (f_X9_noRota σ a1) := by
  unfold f_X9_noRota
  refine V_iload_n C dX9_noRota_0 rfl 1 rfl ?_
  refine V_i2l C dX9_noRota_1 ?_
  refine V_lconst (v := (1 : Int64)) C dX9_noRota_2 (by decide) ?_
  refine V_ldc2 C wk_RX9_192 dX9_noRota_3 ?_
  refine cs_RX9_93 C (ct_X9_in _ _ _ _ _ σ (a1.toInt64) (1 : Int64) (4 : Int64)) (by decide) rfl rfl (Nat.le_of_ble_eq_true rfl) dX9_noRota_6 (fun r1 σ2 => ?_)
  refine V_if_ne (tgt := 17) C dX9_noRota_9 (by decide) ?_ ?_
  · refine V_aload_n C dX9_noRota_17 rfl 0 rfl ?_
    refine gf_RX9_90 C (ln134) ly134 rfl dX9_noRota_18 ?_
    refine V_iconst (v := (4 : Int32)) C dX9_noRota_21 (by decide) ?_
    refine V_icmp_le (tgt := 30) C dX9_noRota_22 (by decide) ?_ ?_
    · refine V_iconst (v := (0 : Int32)) C dX9_noRota_30 (by decide) ?_
      exact V_iret C D dX9_noRota_31
    · refine V_bipush (v := (-3 : Int32)) C dX9_noRota_25 (by decide) ?_
      refine V_goto (tgt := 31) C dX9_noRota_27 (by decide) ?_
      exact V_iret C D dX9_noRota_31
  · refine V_bipush (v := (-2 : Int32)) C dX9_noRota_12 (by decide) ?_
    refine V_goto (tgt := 31) C dX9_noRota_14 (by decide) ?_
    exact V_iret C D dX9_noRota_31

theorem ct_X9_noRota (l : Launch) (dC : Nat → ClassId) (dI : Nat → Nat → Nat) (cA : Nat → ClassId) (b : Nat) (σ : Hp) (a1 : Int32)  : CT l dC dI cA b yX9_noRota cX9_noRota 2 (some .int) 2 [.ref (b + 134), .int a1] σ rvI (f_X9_noRota σ a1) := CT_of [(0, .ref (b + 134)), (1, .int a1)] (by decide +kernel) rfl (Nat.le_of_ble_eq_true rfl) rfl (fun E _ C D _ _ _ => vj_X9_noRota_0 C D σ a1 )
set_option maxRecDepth 4000 in
theorem vj_X9_rota_0 {E : Ev} {b : Nat} (C : CX E RX9 cX9_rota 3 5) (D : CR E (some .int))    (σ : Hp) (a1 : Int32)  : VJ rvI (QM E b) E b 3 σ 0 [(0, .ref (b + 134)), (1, .int a1)] [] (f_X9_rota σ a1) := by
  unfold f_X9_rota
  refine V_aload_n C dX9_rota_0 rfl 0 rfl ?_
  refine V_iconst (v := (0 : Int32)) C dX9_rota_1 (by decide) ?_
  refine pf_RX9_87 C (ln134) ly134 rfl dX9_rota_2 (fun σ1 => ?_)
  refine V_aload_n C dX9_rota_5 rfl 0 rfl ?_
  refine V_iload_n C dX9_rota_6 rfl 1 rfl ?_
  refine cv_RX9_194 C (ln134) ly134 (ct_X9_noRota _ _ _ _ _ σ1 a1) (by decide) rfl rfl (Nat.le_of_ble_eq_true rfl) dX9_rota_7 (fun r2 σ3 => ?_)
  refine V_istore_n (L' := [(2, .int r2), (0, .ref (b + 134)), (1, .int a1)]) C dX9_rota_10 rfl (by decide) rfl ?_
  refine V_iload_n C dX9_rota_11 rfl 0 rfl ?_
  refine V_if_eq (tgt := 19) C dX9_rota_12 (by decide) ?_ ?_
  · refine V_aload_n C dX9_rota_19 rfl 1 rfl ?_
    refine V_iload_n C dX9_rota_20 rfl 2 rfl ?_
    refine cv_RX9_197 C (ln134) ly134 (ct_X9_findRota _ _ _ _ _ σ3 a1) (by decide) rfl rfl (Nat.le_of_ble_eq_true rfl) dX9_rota_21 (fun r4 σ5 => ?_)
    exact V_iret C D dX9_rota_24
  · refine V_iload_n C dX9_rota_15 rfl 0 rfl ?_
    refine V_goto (tgt := 24) C dX9_rota_16 (by decide) ?_
    exact V_iret C D dX9_rota_24

theorem ct_X9_rota (l : Launch) (dC : Nat → ClassId) (dI : Nat → Nat → Nat) (cA : Nat → ClassId) (b : Nat) (σ : Hp) (a1 : Int32)  : CT l dC dI cA b yX9_rota cX9_rota 3 (some .int) 5 [.ref (b + 134), .int a1] σ rvI (f_X9_rota σ a1) := CT_of [(0, .ref (b + 134)), (1, .int a1)] (by decide +kernel) rfl (Nat.le_of_ble_eq_true rfl) rfl (fun E _ C D _ _ _ => vj_X9_rota_0 C D σ a1 )
set_option maxRecDepth 4000 in
theorem vj_X9_rotaAt_0 {E : Ev} {b : Nat} (C : CX E RX9 cX9_rotaAt 4 5) (D : CR E (some .int))    (σ : Hp) (a1 : Int32) (a2 : Int32)  : VJ rvI (QM E b) E b 4 σ 0 [(0, .ref (b + 134)), (1, .int a1), (2, .int a2)] [] (f_X9_rotaAt σ a1 a2) := by
  unfold f_X9_rotaAt
  refine V_aload_n C dX9_rotaAt_0 rfl 0 rfl ?_
  refine V_iconst (v := (0 : Int32)) C dX9_rotaAt_1 (by decide) ?_
  refine pf_RX9_87 C (ln134) ly134 rfl dX9_rotaAt_2 (fun σ1 => ?_)
  refine V_aload_n C dX9_rotaAt_5 rfl 0 rfl ?_
  refine V_iload_n C dX9_rotaAt_6 rfl 1 rfl ?_
  refine cv_RX9_194 C (ln134) ly134 (ct_X9_noRota _ _ _ _ _ σ1 a1) (by decide) rfl rfl (Nat.le_of_ble_eq_true rfl) dX9_rotaAt_7 (fun r2 σ3 => ?_)
  refine V_istore_n (L' := [(3, .int r2), (0, .ref (b + 134)), (1, .int a1), (2, .int a2)]) C dX9_rotaAt_10 rfl (by decide) rfl ?_
  refine V_iload_n C dX9_rotaAt_11 rfl 0 rfl ?_
  refine V_if_eq (tgt := 17) C dX9_rotaAt_12 (by decide) ?_ ?_
  · refine V_aload_n C dX9_rotaAt_17 rfl 1 rfl ?_
    refine V_iload_n C dX9_rotaAt_18 rfl 2 rfl ?_
    refine cv_RX9_197 C (ln134) ly134 (ct_X9_findRota _ _ _ _ _ σ3 a1) (by decide) rfl rfl (Nat.le_of_ble_eq_true rfl) dX9_rotaAt_19 (fun r4 σ5 => ?_)
    refine V_bipush (v := (-9 : Int32)) C dX9_rotaAt_22 (by decide) ?_
    refine V_icmp_eq (tgt := 49) C dX9_rotaAt_24 (by decide) ?_ ?_
    · refine V_bipush (v := (-9 : Int32)) C dX9_rotaAt_49 (by decide) ?_
      exact V_iret C D dX9_rotaAt_51
    · refine V_iload_n C dX9_rotaAt_27 rfl 3 rfl ?_
      refine V_i2l C dX9_rotaAt_28 ?_
      refine V_lconst (v := (0 : Int64)) C dX9_rotaAt_29 (by decide) ?_
      refine V_iload_n C dX9_rotaAt_30 rfl 2 rfl ?_
      refine V_iconst (v := (1 : Int32)) C dX9_rotaAt_31 (by decide) ?_
      refine V_isub C dX9_rotaAt_32 ?_
      refine V_i2l C dX9_rotaAt_33 ?_
      refine cs_RX9_93 C (ct_X9_in _ _ _ _ _ σ5 (a2.toInt64) (0 : Int64) ((a1 - (1 : Int32)).toInt64)) (by decide) rfl rfl (Nat.le_of_ble_eq_true rfl) dX9_rotaAt_34 (fun r6 σ7 => ?_)
      refine V_if_eq (tgt := 49) C dX9_rotaAt_37 (by decide) ?_ ?_
      · refine V_bipush (v := (-9 : Int32)) C dX9_rotaAt_49 (by decide) ?_
        exact V_iret C D dX9_rotaAt_51
      · refine V_aload_n C dX9_rotaAt_40 rfl 1 rfl ?_
        refine gf_RX9_84 C (ln134) ly134 rfl dX9_rotaAt_41 ?_
        refine V_iload_n C dX9_rotaAt_44 rfl 3 rfl ?_
        refine V_iald C (ln158) ly158 dX9_rotaAt_45 ?_
        refine V_goto (tgt := 51) C dX9_rotaAt_46 (by decide) ?_
        exact V_iret C D dX9_rotaAt_51
  · refine V_iload_n C dX9_rotaAt_15 rfl 0 rfl ?_
    exact V_iret C D dX9_rotaAt_16

theorem ct_X9_rotaAt (l : Launch) (dC : Nat → ClassId) (dI : Nat → Nat → Nat) (cA : Nat → ClassId) (b : Nat) (σ : Hp) (a1 : Int32) (a2 : Int32)  : CT l dC dI cA b yX9_rotaAt cX9_rotaAt 4 (some .int) 5 [.ref (b + 134), .int a1, .int a2] σ rvI (f_X9_rotaAt σ a1 a2) := CT_of [(0, .ref (b + 134)), (1, .int a1), (2, .int a2)] (by decide +kernel) rfl (Nat.le_of_ble_eq_true rfl) rfl (fun E _ C D _ _ _ => vj_X9_rotaAt_0 C D σ a1 a2 )
set_option maxRecDepth 4000 in
theorem vj_X9_doAllNod_30 {E : Ev} {b : Nat} (C : CX E RX9 cX9_doAllNod 3 1) (D : CR E (some .boolean))   {k4 : Hp → Int32 → Int32 → Option (Int32 × Hp)} (hk4 : ∀ (σ : Hp) (x1 : Int32) (x2 : Int32) , VJ rvI (QM E b) E b 3 σ 4 [(0, .ref (b + 134)), (1, .int x1), (2, .int x2)] [] (k4 σ x1 x2)) (σ : Hp) (x2 : Int32) (s0 : Int32)  : VJ rvI (QM E b) E b 3 σ 30 [(0, .ref (b + 134)), (2, .int x2)] [.int s0] (f_X9_doAllNod_30 k4 σ x2 s0) := by
  unfold f_X9_doAllNod_30
  refine V_istore_n (L' := [(1, .int s0), (0, .ref (b + 134)), (2, .int x2)]) C dX9_doAllNod_30 rfl (by decide) rfl ?_
  refine V_iinc (k := 2) (v := (1 : Int32)) (L' := fun v1 => [(2, .int v1), (1, .int s0), (0, .ref (b + 134))]) C dX9_doAllNod_31 rfl (by decide) (by decide) (fun _ => rfl) (fun v1 => ?_)
  refine V_goto (tgt := 4) C dX9_doAllNod_34 (by decide) ?_
  exact V_sub [2, 1, 0] rfl (hk4 σ s0 v1)

set_option maxRecDepth 4000 in
theorem vj_X9_doAllNod_29 {E : Ev} {b : Nat} (C : CX E RX9 cX9_doAllNod 3 1) (D : CR E (some .boolean))   {k4 : Hp → Int32 → Int32 → Option (Int32 × Hp)} (hk4 : ∀ (σ : Hp) (x1 : Int32) (x2 : Int32) , VJ rvI (QM E b) E b 3 σ 4 [(0, .ref (b + 134)), (1, .int x1), (2, .int x2)] [] (k4 σ x1 x2)) (σ : Hp) (x2 : Int32)  : VJ rvI (QM E b) E b 3 σ 29 [(0, .ref (b + 134)), (2, .int x2)] [] (f_X9_doAllNod_29 k4 σ x2) := by
  unfold f_X9_doAllNod_29
  refine V_iconst (v := (0 : Int32)) C dX9_doAllNod_29 (by decide) ?_
  exact V_sub [0, 1] rfl (vj_X9_doAllNod_30 C D hk4 σ x2 (0 : Int32))

set_option maxRecDepth 4000 in
theorem vj_X9_doAllNod_4 {E : Ev} {b : Nat} (C : CX E RX9 cX9_doAllNod 3 1) (D : CR E (some .boolean))    : ∀ (n : Nat) (σ : Hp) (x1 : Int32) (x2 : Int32) , VJ rvI (QM E b) E b 3 σ 4 [(0, .ref (b + 134)), (1, .int x1), (2, .int x2)] [] (f_X9_doAllNod_4 n σ x1 x2)
  | 0, σ, x1, x2 => V_none
  | n + 1, σ, x1, x2 => by
    show VJ rvI (QM E b) E b 3 σ 4 [(0, .ref (b + 134)), (1, .int x1), (2, .int x2)] [] (if (σ 134 4) ≤ x2 then (
          zr x1 σ)
        else (
          if x1 = 0 then (
            f_X9_doAllNod_29 (f_X9_doAllNod_4 n) σ x2)
          else (
            ck x2 5 <|
            if (σ 157 (ix x2)) = 0 then (
              f_X9_doAllNod_29 (f_X9_doAllNod_4 n) σ x2)
            else (
              f_X9_doAllNod_30 (f_X9_doAllNod_4 n) σ x2 (1 : Int32)))))
    have ih := vj_X9_doAllNod_4 (b := b) C D   n
    refine V_iload_n C dX9_doAllNod_4 rfl 2 rfl ?_
    refine V_aload_n C dX9_doAllNod_5 rfl 0 rfl ?_
    refine gf_RX9_90 C (ln134) ly134 rfl dX9_doAllNod_6 ?_
    refine V_icmp_ge (tgt := 37) C dX9_doAllNod_9 (by decide) ?_ ?_
    · refine V_iload_n C dX9_doAllNod_37 rfl 1 rfl ?_
      exact V_zret C D dX9_doAllNod_38
    · refine V_iload_n C dX9_doAllNod_12 rfl 1 rfl ?_
      refine V_if_eq (tgt := 29) C dX9_doAllNod_13 (by decide) ?_ ?_
      · exact V_sub [0, 2] rfl (vj_X9_doAllNod_29 C D ih σ x2)
      · refine V_aload_n C dX9_doAllNod_16 rfl 0 rfl ?_
        refine gf_RX9_81 C (ln134) ly134 rfl dX9_doAllNod_17 ?_
        refine V_iload_n C dX9_doAllNod_20 rfl 2 rfl ?_
        refine V_zald C (ln157) ly157 dX9_doAllNod_21 ?_
        refine V_if_eq (tgt := 29) C dX9_doAllNod_22 (by decide) ?_ ?_
        · exact V_sub [0, 2] rfl (vj_X9_doAllNod_29 C D ih σ x2)
        · refine V_iconst (v := (1 : Int32)) C dX9_doAllNod_25 (by decide) ?_
          refine V_goto (tgt := 30) C dX9_doAllNod_26 (by decide) ?_
          exact V_sub [0, 2] rfl (vj_X9_doAllNod_30 C D ih σ x2 (1 : Int32))

set_option maxRecDepth 4000 in
theorem vj_X9_doAllNod_0 {E : Ev} {b : Nat} (C : CX E RX9 cX9_doAllNod 3 1) (D : CR E (some .boolean))    (σ : Hp)   : VJ rvI (QM E b) E b 3 σ 0 [(0, .ref (b + 134))] [] (f_X9_doAllNod σ ) := by
  unfold f_X9_doAllNod
  refine V_iconst (v := (1 : Int32)) C dX9_doAllNod_0 (by decide) ?_
  refine V_istore_n (L' := [(1, .int (1 : Int32)), (0, .ref (b + 134))]) C dX9_doAllNod_1 rfl (by decide) rfl ?_
  refine V_iconst (v := (0 : Int32)) C dX9_doAllNod_2 (by decide) ?_
  refine V_istore_n (L' := [(2, .int (0 : Int32)), (1, .int (1 : Int32)), (0, .ref (b + 134))]) C dX9_doAllNod_3 rfl (by decide) rfl ?_
  exact V_sub [2, 1, 0] rfl (vj_X9_doAllNod_4 C D FU σ (1 : Int32) (0 : Int32))

theorem ct_X9_doAllNod (l : Launch) (dC : Nat → ClassId) (dI : Nat → Nat → Nat) (cA : Nat → ClassId) (b : Nat) (σ : Hp)   : CT l dC dI cA b yX9_doAllNod cX9_doAllNod 3 (some .boolean) 1 [.ref (b + 134)] σ rvI (f_X9_doAllNod σ ) := CT_of [(0, .ref (b + 134))] (by decide +kernel) rfl (Nat.le_of_ble_eq_true rfl) rfl (fun E _ C D _ _ _ => vj_X9_doAllNod_0 C D σ  )
set_option maxRecDepth 4000 in
theorem vj_X9_allNod_11 {E : Ev} {b : Nat} (C : CX E RX9 cX9_allNod 2 4) (D : CR E (some .int))    : ∀ (n : Nat) (σ : Hp) (x1 : Int32) , VJ rvI (QM E b) E b 2 σ 11 [(0, .ref (b + 134)), (1, .int x1)] [] (f_X9_allNod_11 n σ x1)
  | 0, σ, x1 => V_none
  | n + 1, σ, x1 => by
    show VJ rvI (QM E b) E b 2 σ 11 [(0, .ref (b + 134)), (1, .int x1)] [] (if (100 : Int32) ≤ x1 then (
          some ((-9 : Int32), σ))
        else (
          bd (f_X9_doAllNod σ ) fun r1 σ2 =>
          if r1 = 0 then (
            bd (f_X9_go σ2 (0 : Int32)) fun r3 σ4 =>
            Lt (x1 + (1 : Int32)) fun v5 =>
            f_X9_allNod_11 n σ4 v5)
          else (
            some (x1, σ2))))
    have ih := vj_X9_allNod_11 (b := b) C D   n
    refine V_iload_n C dX9_allNod_11 rfl 1 rfl ?_
    refine V_bipush (v := (100 : Int32)) C dX9_allNod_12 (by decide) ?_
    refine V_icmp_ge (tgt := 38) C dX9_allNod_14 (by decide) ?_ ?_
    · refine V_bipush (v := (-9 : Int32)) C dX9_allNod_38 (by decide) ?_
      exact V_iret C D dX9_allNod_40
    · refine V_aload_n C dX9_allNod_17 rfl 0 rfl ?_
      refine cv_RX9_200 C (ln134) ly134 (ct_X9_doAllNod _ _ _ _ _ σ ) (by decide) rfl rfl (Nat.le_of_ble_eq_true rfl) dX9_allNod_18 (fun r1 σ2 => ?_)
      refine V_if_eq (tgt := 26) C dX9_allNod_21 (by decide) ?_ ?_
      · refine V_aload_n C dX9_allNod_26 rfl 0 rfl ?_
        refine V_iconst (v := (0 : Int32)) C dX9_allNod_27 (by decide) ?_
        refine cv_RX9_183 C (ln134) ly134 (ct_X9_go _ _ _ _ _ σ2 (0 : Int32)) (by decide) rfl rfl (Nat.le_of_ble_eq_true rfl) dX9_allNod_28 (fun r3 σ4 => ?_)
        refine V_pop C dX9_allNod_31 rfl ?_
        refine V_iinc (k := 1) (v := (1 : Int32)) (L' := fun v5 => [(1, .int v5), (0, .ref (b + 134))]) C dX9_allNod_32 rfl (by decide) (by decide) (fun _ => rfl) (fun v5 => ?_)
        refine V_goto (tgt := 11) C dX9_allNod_35 (by decide) ?_
        exact V_sub [1, 0] rfl (ih σ4 v5)
      · refine V_iload_n C dX9_allNod_24 rfl 1 rfl ?_
        exact V_iret C D dX9_allNod_25

set_option maxRecDepth 4000 in
theorem vj_X9_allNod_0 {E : Ev} {b : Nat} (C : CX E RX9 cX9_allNod 2 4) (D : CR E (some .int))    (σ : Hp)   : VJ rvI (QM E b) E b 2 σ 0 [(0, .ref (b + 134))] [] (f_X9_allNod σ ) := by
  unfold f_X9_allNod
  refine V_aload_n C dX9_allNod_0 rfl 0 rfl ?_
  refine V_iconst (v := (0 : Int32)) C dX9_allNod_1 (by decide) ?_
  refine pf_RX9_87 C (ln134) ly134 rfl dX9_allNod_2 (fun σ1 => ?_)
  refine V_aload_n C dX9_allNod_5 rfl 0 rfl ?_
  refine cv_RX9_170 C (ln134) ly134 (ct_X9_begin _ _ _ _ _ σ1 ) (by decide) rfl rfl (Nat.le_of_ble_eq_true rfl) dX9_allNod_6 (fun r2 σ3 => ?_)
  refine V_iconst (v := (0 : Int32)) C dX9_allNod_9 (by decide) ?_
  refine V_istore_n (L' := [(1, .int (0 : Int32)), (0, .ref (b + 134))]) C dX9_allNod_10 rfl (by decide) rfl ?_
  exact V_sub [1, 0] rfl (vj_X9_allNod_11 C D FU σ3 (0 : Int32))

theorem ct_X9_allNod (l : Launch) (dC : Nat → ClassId) (dI : Nat → Nat → Nat) (cA : Nat → ClassId) (b : Nat) (σ : Hp)   : CT l dC dI cA b yX9_allNod cX9_allNod 2 (some .int) 4 [.ref (b + 134)] σ rvI (f_X9_allNod σ ) := CT_of [(0, .ref (b + 134))] (by decide +kernel) rfl (Nat.le_of_ble_eq_true rfl) rfl (fun E _ C D _ _ _ => vj_X9_allNod_0 C D σ  )
set_option maxRecDepth 4000 in
theorem vj_X9_divisor_6 {E : Ev} {b : Nat} (C : CX E RX9 cX9_divisor 10 1) (D : CR E (some .long))    : ∀ (n : Nat) (σ : Hp) (x4 : Int64) (x6 : Int64) , VJ rvL (QM E b) E b 10 σ 6 [(4, .long x4), (6, .long x6)] [] (f_X9_divisor_6 n σ x4 x6)
  | 0, σ, x4, x6 => V_none
  | n + 1, σ, x4, x6 => by
    show VJ rvL (QM E b) E b 10 σ 6 [(4, .long x4), (6, .long x6)] [] (if (lg_cmp x6 (0 : Int64)) = 0 then (
          some (x4, σ))
        else (
          nzL x6 <|
          Lt (x4 - x4 / x6 * x6) fun v1 =>
          f_X9_divisor_6 n σ x6 v1))
    have ih := vj_X9_divisor_6 (b := b) C D   n
    refine V_lload C dX9_divisor_6 1 rfl ?_
    refine V_lconst (v := (0 : Int64)) C dX9_divisor_8 (by decide) ?_
    refine V_lcmp C dX9_divisor_9 ?_
    refine V_if_eq (tgt := 31) C dX9_divisor_10 (by decide) ?_ ?_
    · refine V_lload C dX9_divisor_31 0 rfl ?_
      exact V_lret C D dX9_divisor_33
    · refine V_lload C dX9_divisor_13 0 rfl ?_
      refine V_lload C dX9_divisor_15 1 rfl ?_
      refine V_lrem C dX9_divisor_17 ?_
      refine V_ltL (fun v1 => ?_)
      refine V_lstore (L' := [(8, .long v1), (4, .long x4), (6, .long x6)]) C dX9_divisor_18 (by decide) rfl ?_
      refine V_lload C dX9_divisor_20 2 rfl ?_
      refine V_lstore (L' := [(4, .long x6), (8, .long v1), (6, .long x6)]) C dX9_divisor_22 (by decide) rfl ?_
      refine V_lload C dX9_divisor_24 1 rfl ?_
      refine V_lstore (L' := [(6, .long v1), (4, .long x6), (8, .long v1)]) C dX9_divisor_26 (by decide) rfl ?_
      refine V_goto (tgt := 6) C dX9_divisor_28 (by decide) ?_
      exact V_sub [1, 0] rfl (ih σ x6 v1)

set_option maxRecDepth 4000 in
theorem vj_X9_divisor_0 {E : Ev} {b : Nat} (C : CX E RX9 cX9_divisor 10 1) (D : CR E (some .long))    (σ : Hp) (a0 : Int64) (a2 : Int64)  : VJ rvL (QM E b) E b 10 σ 0 [(0, .long a0), (2, .long a2)] [] (f_X9_divisor σ a0 a2) := by
  unfold f_X9_divisor
  refine V_lload_n C dX9_divisor_0 rfl 0 rfl ?_
  refine V_lstore (L' := [(4, .long a0), (0, .long a0), (2, .long a2)]) C dX9_divisor_1 (by decide) rfl ?_
  refine V_lload_n C dX9_divisor_3 rfl 2 rfl ?_
  refine V_lstore (L' := [(6, .long a2), (4, .long a0), (0, .long a0), (2, .long a2)]) C dX9_divisor_4 (by decide) rfl ?_
  exact V_sub [1, 0] rfl (vj_X9_divisor_6 C D FU σ a0 a2)

theorem ct_X9_divisor (l : Launch) (dC : Nat → ClassId) (dI : Nat → Nat → Nat) (cA : Nat → ClassId) (b : Nat) (σ : Hp) (a0 : Int64) (a2 : Int64)  : CT l dC dI cA b yX9_divisor cX9_divisor 10 (some .long) 1 [.long a0, .long a2] σ rvL (f_X9_divisor σ a0 a2) := CT_of [(0, .long a0), (2, .long a2)] (by decide +kernel) rfl (Nat.le_of_ble_eq_true rfl) rfl (fun E _ C D _ _ _ => vj_X9_divisor_0 C D σ a0 a2 )
set_option maxRecDepth 4000 in
theorem vj_X9_awakeBy_88 {E : Ev} {b : Nat} (C : CX E RX9 cX9_awakeBy 8 1) (D : CR E (some .long))   {k27 : Hp → Int32 → Int32 → Int64 → Int32 → Int32 → Option (Int64 × Hp)} (hk27 : ∀ (σ : Hp) (x2 : Int32) (x3 : Int32) (x4 : Int64) (x6 : Int32) (x7 : Int32) , VJ rvL (QM E b) E b 8 σ 27 [(0, .ref (b + 134)), (2, .int x2), (3, .int x3), (4, .long x4), (6, .int x6), (7, .int x7)] [] (k27 σ x2 x3 x4 x6 x7)) (σ : Hp) (x2 : Int32) (x3 : Int32) (x6 : Int32) (x7 : Int32) (s0 : Int64) (s1 : Int64)  : VJ rvL (QM E b) E b 8 σ 88 [(0, .ref (b + 134)), (2, .int x2), (3, .int x3), (6, .int x6), (7, .int x7)] [.long s0, .long s1] (f_X9_awakeBy_88 k27 σ x2 x3 x6 x7 s0 s1) := by
  unfold f_X9_awakeBy_88
  refine V_lmul C dX9_awakeBy_88 ?_
  refine V_ltL (fun v1 => ?_)
  refine V_lstore (L' := [(4, .long v1), (0, .ref (b + 134)), (2, .int x2), (3, .int x3), (6, .int x6), (7, .int x7)]) C dX9_awakeBy_89 (by decide) rfl ?_
  refine V_iinc (k := 5) (v := (1 : Int32)) (L' := fun v2 => [(7, .int v2), (4, .long v1), (0, .ref (b + 134)), (2, .int x2), (3, .int x3), (6, .int x6)]) C dX9_awakeBy_91 rfl (by decide) (by decide) (fun _ => rfl) (fun v2 => ?_)
  refine V_goto (tgt := 27) C dX9_awakeBy_94 (by decide) ?_
  exact V_sub [2, 3, 4, 1, 5, 0] rfl (hk27 σ x2 x3 v1 x6 v2)

set_option maxRecDepth 4000 in
theorem vj_X9_awakeBy_49 {E : Ev} {b : Nat} (C : CX E RX9 cX9_awakeBy 8 1) (D : CR E (some .long))   {k27 : Hp → Int32 → Int32 → Int64 → Int32 → Int32 → Option (Int64 × Hp)} (hk27 : ∀ (σ : Hp) (x2 : Int32) (x3 : Int32) (x4 : Int64) (x6 : Int32) (x7 : Int32) , VJ rvL (QM E b) E b 8 σ 27 [(0, .ref (b + 134)), (2, .int x2), (3, .int x3), (4, .long x4), (6, .int x6), (7, .int x7)] [] (k27 σ x2 x3 x4 x6 x7)) (σ : Hp) (x2 : Int32) (x3 : Int32) (x4 : Int64) (x7 : Int32) (s0 : Int32)  : VJ rvL (QM E b) E b 8 σ 49 [(0, .ref (b + 134)), (2, .int x2), (3, .int x3), (4, .long x4), (7, .int x7)] [.int s0] (f_X9_awakeBy_49 k27 σ x2 x3 x4 x7 s0) := by
  unfold f_X9_awakeBy_49
  refine V_istore (L' := [(6, .int s0), (0, .ref (b + 134)), (2, .int x2), (3, .int x3), (4, .long x4), (7, .int x7)]) C dX9_awakeBy_49 (by decide) rfl ?_
  refine V_lload C dX9_awakeBy_51 4 rfl ?_
  refine V_iload C dX9_awakeBy_53 0 rfl ?_
  refine V_aload_n C dX9_awakeBy_55 rfl 1 rfl ?_
  refine gf_RX9_13 C (ln134) ly134 rfl dX9_awakeBy_56 ?_
  refine V_icmp_lt (tgt := 66) C dX9_awakeBy_59 (by decide) ?_ ?_
  · refine V_iconst (v := (2 : Int32)) C dX9_awakeBy_66 (by decide) ?_
    refine V_iload C dX9_awakeBy_67 0 rfl ?_
    refine V_imul C dX9_awakeBy_69 ?_
    refine V_aload_n C dX9_awakeBy_70 rfl 1 rfl ?_
    refine gf_RX9_13 C (ln134) ly134 rfl dX9_awakeBy_71 ?_
    refine V_icmp_lt (tgt := 85) C dX9_awakeBy_74 (by decide) ?_ ?_
    · refine V_ldc2 C wk_RX9_203 dX9_awakeBy_85 ?_
      exact V_sub [1, 2, 3, 0, 5] rfl (vj_X9_awakeBy_88 C D hk27 σ x2 x3 s0 x7 (10 : Int64) x4)
    · refine V_bipush (v := (10 : Int32)) C dX9_awakeBy_77 (by decide) ?_
      refine V_iload_n C dX9_awakeBy_79 rfl 3 rfl ?_
      refine V_isub C dX9_awakeBy_80 ?_
      refine V_i2l C dX9_awakeBy_81 ?_
      refine V_goto (tgt := 88) C dX9_awakeBy_82 (by decide) ?_
      exact V_sub [1, 2, 3, 0, 5] rfl (vj_X9_awakeBy_88 C D hk27 σ x2 x3 s0 x7 (((10 : Int32) - x3).toInt64) x4)
  · refine V_lconst (v := (0 : Int64)) C dX9_awakeBy_62 (by decide) ?_
    refine V_goto (tgt := 88) C dX9_awakeBy_63 (by decide) ?_
    exact V_sub [1, 2, 3, 0, 5] rfl (vj_X9_awakeBy_88 C D hk27 σ x2 x3 s0 x7 (0 : Int64) x4)

set_option maxRecDepth 4000 in
theorem vj_X9_awakeBy_27 {E : Ev} {b : Nat} (C : CX E RX9 cX9_awakeBy 8 1) (D : CR E (some .long))    : ∀ (n : Nat) (σ : Hp) (x2 : Int32) (x3 : Int32) (x4 : Int64) (x6 : Int32) (x7 : Int32) , VJ rvL (QM E b) E b 8 σ 27 [(0, .ref (b + 134)), (2, .int x2), (3, .int x3), (4, .long x4), (6, .int x6), (7, .int x7)] [] (f_X9_awakeBy_27 n σ x2 x3 x4 x6 x7)
  | 0, σ, x2, x3, x4, x6, x7 => V_none
  | n + 1, σ, x2, x3, x4, x6, x7 => by
    show VJ rvL (QM E b) E b 8 σ 27 [(0, .ref (b + 134)), (2, .int x2), (3, .int x3), (4, .long x4), (6, .int x6), (7, .int x7)] [] (if x2 ≤ x7 then (
          some (x4, σ))
        else (
          if x6 ≤ (97 : Int32) then (
            f_X9_awakeBy_49 (f_X9_awakeBy_27 n) σ x2 x3 x4 x7 (x6 + (2 : Int32)))
          else (
            f_X9_awakeBy_49 (f_X9_awakeBy_27 n) σ x2 x3 x4 x7 (99 : Int32))))
    have ih := vj_X9_awakeBy_27 (b := b) C D   n
    refine V_iload C dX9_awakeBy_27 5 rfl ?_
    refine V_iload_n C dX9_awakeBy_29 rfl 1 rfl ?_
    refine V_icmp_ge (tgt := 97) C dX9_awakeBy_30 (by decide) ?_ ?_
    · refine V_lload C dX9_awakeBy_97 3 rfl ?_
      exact V_lret C D dX9_awakeBy_99
    · refine V_iload C dX9_awakeBy_33 4 rfl ?_
      refine V_bipush (v := (97 : Int32)) C dX9_awakeBy_35 (by decide) ?_
      refine V_icmp_le (tgt := 45) C dX9_awakeBy_37 (by decide) ?_ ?_
      · refine V_iload C dX9_awakeBy_45 4 rfl ?_
        refine V_iconst (v := (2 : Int32)) C dX9_awakeBy_47 (by decide) ?_
        refine V_iadd C dX9_awakeBy_48 ?_
        exact V_sub [0, 1, 2, 3, 5] rfl (vj_X9_awakeBy_49 C D ih σ x2 x3 x4 x7 (x6 + (2 : Int32)))
      · refine V_bipush (v := (99 : Int32)) C dX9_awakeBy_40 (by decide) ?_
        refine V_goto (tgt := 49) C dX9_awakeBy_42 (by decide) ?_
        exact V_sub [0, 1, 2, 3, 5] rfl (vj_X9_awakeBy_49 C D ih σ x2 x3 x4 x7 (99 : Int32))

set_option maxRecDepth 4000 in
theorem vj_X9_awakeBy_14 {E : Ev} {b : Nat} (C : CX E RX9 cX9_awakeBy 8 1) (D : CR E (some .long))    (σ : Hp) (x1 : Int32) (x2 : Int32) (x3 : Int32) (s0 : Int64)  : VJ rvL (QM E b) E b 8 σ 14 [(0, .ref (b + 134)), (1, .int x1), (2, .int x2), (3, .int x3)] [.long s0] (f_X9_awakeBy_14 σ x1 x2 x3 s0) := by
  unfold f_X9_awakeBy_14
  refine V_lstore (L' := [(4, .long s0), (0, .ref (b + 134)), (1, .int x1), (2, .int x2), (3, .int x3)]) C dX9_awakeBy_14 (by decide) rfl ?_
  refine V_aload_n C dX9_awakeBy_16 rfl 1 rfl ?_
  refine gf_RX9_17 C (ln134) ly134 rfl dX9_awakeBy_17 ?_
  refine V_iload_n C dX9_awakeBy_20 rfl 2 rfl ?_
  refine V_iald C (ln136) ly136 dX9_awakeBy_21 ?_
  refine V_ltI (fun v1 => ?_)
  refine V_istore (L' := [(6, .int v1), (4, .long s0), (0, .ref (b + 134)), (1, .int x1), (2, .int x2), (3, .int x3)]) C dX9_awakeBy_22 (by decide) rfl ?_
  refine V_iconst (v := (0 : Int32)) C dX9_awakeBy_24 (by decide) ?_
  refine V_istore (L' := [(7, .int (0 : Int32)), (6, .int v1), (4, .long s0), (0, .ref (b + 134)), (1, .int x1), (2, .int x2), (3, .int x3)]) C dX9_awakeBy_25 (by decide) rfl ?_
  exact V_sub [3, 5, 6, 2, 1, 0] rfl (vj_X9_awakeBy_27 C D FU σ x2 x3 s0 v1 (0 : Int32))

set_option maxRecDepth 4000 in
theorem vj_X9_awakeBy_0 {E : Ev} {b : Nat} (C : CX E RX9 cX9_awakeBy 8 1) (D : CR E (some .long))    (σ : Hp) (a1 : Int32) (a2 : Int32) (a3 : Int32)  : VJ rvL (QM E b) E b 8 σ 0 [(0, .ref (b + 134)), (1, .int a1), (2, .int a2), (3, .int a3)] [] (f_X9_awakeBy σ a1 a2 a3) := by
  unfold f_X9_awakeBy
  refine V_aload_n C dX9_awakeBy_0 rfl 0 rfl ?_
  refine gf_RX9_26 C (ln134) ly134 rfl dX9_awakeBy_1 ?_
  refine V_iload_n C dX9_awakeBy_4 rfl 1 rfl ?_
  refine V_zald C (ln139) ly139 dX9_awakeBy_5 ?_
  refine V_if_eq (tgt := 13) C dX9_awakeBy_6 (by decide) ?_ ?_
  · refine V_lconst (v := (1 : Int64)) C dX9_awakeBy_13 (by decide) ?_
    exact V_sub [0, 1, 2, 3] rfl (vj_X9_awakeBy_14 C D σ a1 a2 a3 (1 : Int64))
  · refine V_lconst (v := (0 : Int64)) C dX9_awakeBy_9 (by decide) ?_
    refine V_goto (tgt := 14) C dX9_awakeBy_10 (by decide) ?_
    exact V_sub [0, 1, 2, 3] rfl (vj_X9_awakeBy_14 C D σ a1 a2 a3 (0 : Int64))

theorem ct_X9_awakeBy (l : Launch) (dC : Nat → ClassId) (dI : Nat → Nat → Nat) (cA : Nat → ClassId) (b : Nat) (σ : Hp) (a1 : Int32) (a2 : Int32) (a3 : Int32)  : CT l dC dI cA b yX9_awakeBy cX9_awakeBy 8 (some .long) 1 [.ref (b + 134), .int a1, .int a2, .int a3] σ rvL (f_X9_awakeBy σ a1 a2 a3) := CT_of [(0, .ref (b + 134)), (1, .int a1), (2, .int a2), (3, .int a3)] (by decide +kernel) rfl (Nat.le_of_ble_eq_true rfl) rfl (fun E _ C D _ _ _ => vj_X9_awakeBy_0 C D σ a1 a2 a3 )
set_option maxRecDepth 4000 in
theorem vj_X9_chance_29 {E : Ev} {b : Nat} (C : CX E RX9 cX9_chance 12 2) (D : CR E (some .long))    (σ : Hp)   : VJ rvL (QM E b) E b 12 σ 29 [] [] (f_X9_chance_29 σ ) := by
  unfold f_X9_chance_29
  refine V_ldc2 C wk_RX9_207 dX9_chance_29 ?_
  exact V_lret C D dX9_chance_32

set_option maxRecDepth 4000 in
theorem vj_X9_chance_69 {E : Ev} {b : Nat} (C : CX E RX9 cX9_chance 12 2) (D : CR E (some .long))    : ∀ (n : Nat) (σ : Hp) (x1 : Int32) (x2 : Int32) (x3 : Int32) (x4 : Int64) (x6 : Int64) (x8 : Int64) (x10 : Int32) , VJ rvL (QM E b) E b 12 σ 69 [(0, .ref (b + 134)), (1, .int x1), (2, .int x2), (3, .int x3), (4, .long x4), (6, .long x6), (8, .long x8), (10, .int x10)] [] (f_X9_chance_69 n σ x1 x2 x3 x4 x6 x8 x10)
  | 0, σ, x1, x2, x3, x4, x6, x8, x10 => V_none
  | n + 1, σ, x1, x2, x3, x4, x6, x8, x10 => by
    show VJ rvL (QM E b) E b 12 σ 69 [(0, .ref (b + 134)), (1, .int x1), (2, .int x2), (3, .int x3), (4, .long x4), (6, .long x6), (8, .long x8), (10, .int x10)] [] (if (σ 134 4) ≤ x10 then (
          bd (f_X9_divisor σ x6 x8) fun r1 σ2 =>
          if x3 = 0 then (
            nzL r1 <|
            some ((x8 / r1), σ2))
          else (
            nzL r1 <|
            some ((x6 / r1), σ2)))
        else (
          bd (f_X9_awakeBy σ x10 x1 x2) fun r3 σ4 =>
          Lt (x6 * (x4 - r3)) fun v5 =>
          Lt (x8 * x4) fun v6 =>
          Lt (x10 + (1 : Int32)) fun v7 =>
          f_X9_chance_69 n σ4 x1 x2 x3 x4 v5 v6 v7))
    have ih := vj_X9_chance_69 (b := b) C D   n
    refine V_iload C dX9_chance_69 7 rfl ?_
    refine V_aload_n C dX9_chance_71 rfl 0 rfl ?_
    refine gf_RX9_90 C (ln134) ly134 rfl dX9_chance_72 ?_
    refine V_icmp_ge (tgt := 107) C dX9_chance_75 (by decide) ?_ ?_
    · refine V_lload C dX9_chance_107 5 rfl ?_
      refine V_lload C dX9_chance_109 6 rfl ?_
      refine cs_RX9_217 C (ct_X9_divisor _ _ _ _ _ σ x6 x8) (by decide) rfl rfl (Nat.le_of_ble_eq_true rfl) dX9_chance_111 (fun r1 σ2 => ?_)
      refine V_lstore (L' := [(10, .long r1), (0, .ref (b + 134)), (1, .int x1), (2, .int x2), (3, .int x3), (4, .long x4), (6, .long x6), (8, .long x8)]) C dX9_chance_114 (by decide) rfl ?_
      refine V_iload_n C dX9_chance_116 rfl 4 rfl ?_
      refine V_if_eq (tgt := 128) C dX9_chance_117 (by decide) ?_ ?_
      · refine V_lload C dX9_chance_128 7 rfl ?_
        refine V_lload C dX9_chance_130 0 rfl ?_
        refine V_ldiv C dX9_chance_132 ?_
        exact V_lret C D dX9_chance_133
      · refine V_lload C dX9_chance_120 6 rfl ?_
        refine V_lload C dX9_chance_122 0 rfl ?_
        refine V_ldiv C dX9_chance_124 ?_
        refine V_goto (tgt := 133) C dX9_chance_125 (by decide) ?_
        exact V_lret C D dX9_chance_133
    · refine V_lload C dX9_chance_78 5 rfl ?_
      refine V_lload C dX9_chance_80 4 rfl ?_
      refine V_aload_n C dX9_chance_82 rfl 0 rfl ?_
      refine V_iload C dX9_chance_83 7 rfl ?_
      refine V_iload_n C dX9_chance_85 rfl 1 rfl ?_
      refine V_iload_n C dX9_chance_86 rfl 2 rfl ?_
      refine cv_RX9_213 C (ln134) ly134 (ct_X9_awakeBy _ _ _ _ _ σ x10 x1 x2) (by decide) rfl rfl (Nat.le_of_ble_eq_true rfl) dX9_chance_87 (fun r3 σ4 => ?_)
      refine V_lsub C dX9_chance_90 ?_
      refine V_lmul C dX9_chance_91 ?_
      refine V_ltL (fun v5 => ?_)
      refine V_lstore (L' := [(6, .long v5), (0, .ref (b + 134)), (1, .int x1), (2, .int x2), (3, .int x3), (4, .long x4), (8, .long x8), (10, .int x10)]) C dX9_chance_92 (by decide) rfl ?_
      refine V_lload C dX9_chance_94 6 rfl ?_
      refine V_lload C dX9_chance_96 5 rfl ?_
      refine V_lmul C dX9_chance_98 ?_
      refine V_ltL (fun v6 => ?_)
      refine V_lstore (L' := [(8, .long v6), (6, .long v5), (0, .ref (b + 134)), (1, .int x1), (2, .int x2), (3, .int x3), (4, .long x4), (10, .int x10)]) C dX9_chance_99 (by decide) rfl ?_
      refine V_iinc (k := 7) (v := (1 : Int32)) (L' := fun v7 => [(10, .int v7), (8, .long v6), (6, .long v5), (0, .ref (b + 134)), (1, .int x1), (2, .int x2), (3, .int x3), (4, .long x4)]) C dX9_chance_101 rfl (by decide) (by decide) (fun _ => rfl) (fun v7 => ?_)
      refine V_goto (tgt := 69) C dX9_chance_104 (by decide) ?_
      exact V_sub [3, 4, 5, 6, 7, 2, 1, 0] rfl (ih σ4 x1 x2 x3 x4 v5 v6 v7)

set_option maxRecDepth 4000 in
theorem vj_X9_chance_58 {E : Ev} {b : Nat} (C : CX E RX9 cX9_chance 12 2) (D : CR E (some .long))    (σ : Hp) (x1 : Int32) (x2 : Int32) (x3 : Int32) (s0 : Int64)  : VJ rvL (QM E b) E b 12 σ 58 [(0, .ref (b + 134)), (1, .int x1), (2, .int x2), (3, .int x3)] [.long s0] (f_X9_chance_58 σ x1 x2 x3 s0) := by
  unfold f_X9_chance_58
  refine V_lstore (L' := [(4, .long s0), (0, .ref (b + 134)), (1, .int x1), (2, .int x2), (3, .int x3)]) C dX9_chance_58 (by decide) rfl ?_
  refine V_lconst (v := (1 : Int64)) C dX9_chance_60 (by decide) ?_
  refine V_lstore (L' := [(6, .long (1 : Int64)), (4, .long s0), (0, .ref (b + 134)), (1, .int x1), (2, .int x2), (3, .int x3)]) C dX9_chance_61 (by decide) rfl ?_
  refine V_lconst (v := (1 : Int64)) C dX9_chance_63 (by decide) ?_
  refine V_lstore (L' := [(8, .long (1 : Int64)), (6, .long (1 : Int64)), (4, .long s0), (0, .ref (b + 134)), (1, .int x1), (2, .int x2), (3, .int x3)]) C dX9_chance_64 (by decide) rfl ?_
  refine V_iconst (v := (0 : Int32)) C dX9_chance_66 (by decide) ?_
  refine V_istore (L' := [(10, .int (0 : Int32)), (8, .long (1 : Int64)), (6, .long (1 : Int64)), (4, .long s0), (0, .ref (b + 134)), (1, .int x1), (2, .int x2), (3, .int x3)]) C dX9_chance_67 (by decide) rfl ?_
  exact V_sub [4, 5, 6, 7, 3, 2, 1, 0] rfl (vj_X9_chance_69 C D FU σ x1 x2 x3 s0 (1 : Int64) (1 : Int64) (0 : Int32))

set_option maxRecDepth 4000 in
theorem vj_X9_chance_0 {E : Ev} {b : Nat} (C : CX E RX9 cX9_chance 12 2) (D : CR E (some .long))    (σ : Hp) (a1 : Int32) (a2 : Int32) (a3 : Int32)  : VJ rvL (QM E b) E b 12 σ 0 [(0, .ref (b + 134)), (1, .int a1), (2, .int a2), (3, .int a3)] [] (f_X9_chance σ a1 a2 a3) := by
  unfold f_X9_chance
  refine V_aload_n C dX9_chance_0 rfl 0 rfl ?_
  refine V_iconst (v := (0 : Int32)) C dX9_chance_1 (by decide) ?_
  refine pf_RX9_87 C (ln134) ly134 rfl dX9_chance_2 (fun σ1 => ?_)
  refine V_iload_n C dX9_chance_5 rfl 1 rfl ?_
  refine V_i2l C dX9_chance_6 ?_
  refine V_lconst (v := (1 : Int64)) C dX9_chance_7 (by decide) ?_
  refine V_ldc2 C wk_RX9_205 dX9_chance_8 ?_
  refine cs_RX9_93 C (ct_X9_in _ _ _ _ _ σ1 (a1.toInt64) (1 : Int64) (3 : Int64)) (by decide) rfl rfl (Nat.le_of_ble_eq_true rfl) dX9_chance_11 (fun r2 σ3 => ?_)
  refine V_if_eq (tgt := 29) C dX9_chance_14 (by decide) ?_ ?_
  · exact V_sub [] rfl (vj_X9_chance_29 C D σ3)
  · refine V_iload_n C dX9_chance_17 rfl 2 rfl ?_
    refine V_i2l C dX9_chance_18 ?_
    refine V_lconst (v := (0 : Int64)) C dX9_chance_19 (by decide) ?_
    refine V_ldc2 C wk_RX9_203 dX9_chance_20 ?_
    refine cs_RX9_93 C (ct_X9_in _ _ _ _ _ σ3 (a2.toInt64) (0 : Int64) (10 : Int64)) (by decide) rfl rfl (Nat.le_of_ble_eq_true rfl) dX9_chance_23 (fun r4 σ5 => ?_)
    refine V_if_ne (tgt := 33) C dX9_chance_26 (by decide) ?_ ?_
    · refine V_iload_n C dX9_chance_33 rfl 1 rfl ?_
      refine V_iconst (v := (1 : Int32)) C dX9_chance_34 (by decide) ?_
      refine V_icmp_ne (tgt := 44) C dX9_chance_35 (by decide) ?_ ?_
      · refine V_iload_n C dX9_chance_44 rfl 1 rfl ?_
        refine V_iconst (v := (2 : Int32)) C dX9_chance_45 (by decide) ?_
        refine V_icmp_ne (tgt := 55) C dX9_chance_46 (by decide) ?_ ?_
        · refine V_ldc2 C wk_RX9_211 dX9_chance_55 ?_
          exact V_sub [0, 1, 2, 3] rfl (vj_X9_chance_58 C D σ5 a1 a2 a3 (1000 : Int64))
        · refine V_ldc2 C wk_RX9_209 dX9_chance_49 ?_
          refine V_goto (tgt := 58) C dX9_chance_52 (by decide) ?_
          exact V_sub [0, 1, 2, 3] rfl (vj_X9_chance_58 C D σ5 a1 a2 a3 (100 : Int64))
      · refine V_ldc2 C wk_RX9_203 dX9_chance_38 ?_
        refine V_goto (tgt := 58) C dX9_chance_41 (by decide) ?_
        exact V_sub [0, 1, 2, 3] rfl (vj_X9_chance_58 C D σ5 a1 a2 a3 (10 : Int64))
    · exact V_sub [] rfl (vj_X9_chance_29 C D σ5)

theorem ct_X9_chance (l : Launch) (dC : Nat → ClassId) (dI : Nat → Nat → Nat) (cA : Nat → ClassId) (b : Nat) (σ : Hp) (a1 : Int32) (a2 : Int32) (a3 : Int32)  : CT l dC dI cA b yX9_chance cX9_chance 12 (some .long) 2 [.ref (b + 134), .int a1, .int a2, .int a3] σ rvL (f_X9_chance σ a1 a2 a3) := CT_of [(0, .ref (b + 134)), (1, .int a1), (2, .int a2), (3, .int a3)] (by decide +kernel) rfl (Nat.le_of_ble_eq_true rfl) rfl (fun E _ C D _ _ _ => vj_X9_chance_0 C D σ a1 a2 a3 )
