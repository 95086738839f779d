set_option maxRecDepth 4000 in
theorem vj_X8_rotaRefusal_0 {E : Ev} {b : Nat} (C : CX E RX8 cX8_rotaRefusal 2 1) (D : CR E (some .int))    (σ : Hp) (a1 : Int32)  : VJ rvI (QM E b) E b 2 σ 0 [(0, .ref (b + 0)), (1, .int a1)] [] (f_X8_rotaRefusal σ a1) := by
  unfold f_X8_rotaRefusal
  refine V_iload_n C dX8_rotaRefusal_0 rfl 1 rfl ?_
  refine V_iconst (v := (1 : Int32)) C dX8_rotaRefusal_1 (by decide) ?_
  refine V_icmp_lt (tgt := 10) C dX8_rotaRefusal_2 (by decide) ?_ ?_
  · refine V_bipush (v := (-2 : Int32)) C dX8_rotaRefusal_10 (by decide) ?_
    exact V_iret C D dX8_rotaRefusal_12
  · refine V_iload_n C dX8_rotaRefusal_5 rfl 1 rfl ?_
    refine V_iconst (v := (4 : Int32)) C dX8_rotaRefusal_6 (by decide) ?_
    refine V_icmp_le (tgt := 13) C dX8_rotaRefusal_7 (by decide) ?_ ?_
    · refine V_aload_n C dX8_rotaRefusal_13 rfl 0 rfl ?_
      refine gf_RX8_28 C (ln0) ly0 rfl dX8_rotaRefusal_14 ?_
      refine gf_RX8_114 C (ln11) ly11 rfl dX8_rotaRefusal_17 ?_
      refine V_iconst (v := (4 : Int32)) C dX8_rotaRefusal_20 (by decide) ?_
      refine V_icmp_le (tgt := 29) C dX8_rotaRefusal_21 (by decide) ?_ ?_
      · refine V_iconst (v := (0 : Int32)) C dX8_rotaRefusal_29 (by decide) ?_
        exact V_iret C D dX8_rotaRefusal_30
      · refine V_bipush (v := (-3 : Int32)) C dX8_rotaRefusal_24 (by decide) ?_
        refine V_goto (tgt := 30) C dX8_rotaRefusal_26 (by decide) ?_
        exact V_iret C D dX8_rotaRefusal_30
    · refine V_bipush (v := (-2 : Int32)) C dX8_rotaRefusal_10 (by decide) ?_
      exact V_iret C D dX8_rotaRefusal_12

theorem ct_X8_rotaRefusal (l : Launch) (dC : Nat → ClassId) (dI : Nat → Nat → Nat) (cA : Nat → ClassId) (b : Nat) (σ : Hp) (a1 : Int32)  : CT l dC dI cA b yX8_rotaRefusal cX8_rotaRefusal 2 (some .int) 1 [.ref (b + 0), .int a1] σ rvI (f_X8_rotaRefusal σ a1) := CT_of [(0, .ref (b + 0)), (1, .int a1)] (by decide +kernel) rfl (Nat.le_of_ble_eq_true rfl) rfl (fun E _ C D _ _ _ => vj_X8_rotaRefusal_0 C D σ a1 )
set_option maxRecDepth 4000 in
theorem vj_X8_rota_0 {E : Ev} {b : Nat} (C : CX E RX8 cX8_rota 3 11) (D : CR E (some .int))    (σ : Hp) (a1 : Int32)  : VJ rvI (QM E b) E b 3 σ 0 [(0, .ref (b + 0)), (1, .int a1)] [] (f_X8_rota σ a1) := by
  unfold f_X8_rota
  refine V_aload_n C dX8_rota_0 rfl 0 rfl ?_
  refine V_iload_n C dX8_rota_1 rfl 1 rfl ?_
  refine cv_RX8_179 C (ln0) ly0 (ct_X8_rotaRefusal _ _ _ _ _ σ a1) (by decide) rfl rfl (Nat.le_of_ble_eq_true rfl) dX8_rota_2 (fun r1 σ2 => ?_)
  refine V_istore_n (L' := [(2, .int r1), (0, .ref (b + 0)), (1, .int a1)]) C dX8_rota_5 rfl (by decide) rfl ?_
  refine V_iload_n C dX8_rota_6 rfl 0 rfl ?_
  refine V_if_eq (tgt := 12) C dX8_rota_7 (by decide) ?_ ?_
  · refine V_aload_n C dX8_rota_12 rfl 1 rfl ?_
    refine gf_RX8_58 C (ln0) ly0 rfl dX8_rota_13 ?_
    refine V_aload_n C dX8_rota_16 rfl 1 rfl ?_
    refine gf_RX8_37 C (ln0) ly0 rfl dX8_rota_17 ?_
    refine V_iload_n C dX8_rota_20 rfl 2 rfl ?_
    refine cv_RX8_182 C (ln86) ly86 (ct_X5_run _ _ _ _ _ σ2 13 a1 rP_13) (by decide) rfl rfl (Nat.le_of_ble_eq_true rfl) dX8_rota_21 (fun r3 σ4 => ?_)
    refine V_aload_n C dX8_rota_24 rfl 1 rfl ?_
    refine gf_RX8_58 C (ln0) ly0 rfl dX8_rota_25 ?_
    refine gf_RX8_186 C (ln86) ly86 rfl dX8_rota_28 ?_
    refine V_if_eq (tgt := 44) C dX8_rota_31 (by decide) ?_ ?_
    · refine V_bipush (v := (-9 : Int32)) C dX8_rota_44 (by decide) ?_
      exact V_iret C D dX8_rota_46
    · refine V_aload_n C dX8_rota_34 rfl 1 rfl ?_
      refine gf_RX8_58 C (ln0) ly0 rfl dX8_rota_35 ?_
      refine gf_RX8_189 C (ln86) ly86 rfl dX8_rota_38 ?_
      refine V_goto (tgt := 46) C dX8_rota_41 (by decide) ?_
      exact V_iret C D dX8_rota_46
  · refine V_iload_n C dX8_rota_10 rfl 0 rfl ?_
    exact V_iret C D dX8_rota_11

theorem ct_X8_rota (l : Launch) (dC : Nat → ClassId) (dI : Nat → Nat → Nat) (cA : Nat → ClassId) (b : Nat) (σ : Hp) (a1 : Int32)  : CT l dC dI cA b yX8_rota cX8_rota 3 (some .int) 11 [.ref (b + 0), .int a1] σ rvI (f_X8_rota σ a1) := CT_of [(0, .ref (b + 0)), (1, .int a1)] (by decide +kernel) rfl (Nat.le_of_ble_eq_true rfl) rfl (fun E _ C D _ _ _ => vj_X8_rota_0 C D σ a1 )
set_option maxRecDepth 4000 in
theorem vj_X8_rotaAt_0 {E : Ev} {b : Nat} (C : CX E RX8 cX8_rotaAt 4 11) (D : CR E (some .int))    (σ : Hp) (a1 : Int32) (a2 : Int32)  : VJ rvI (QM E b) E b 4 σ 0 [(0, .ref (b + 0)), (1, .int a1), (2, .int a2)] [] (f_X8_rotaAt σ a1 a2) := by
  unfold f_X8_rotaAt
  refine V_aload_n C dX8_rotaAt_0 rfl 0 rfl ?_
  refine V_iload_n C dX8_rotaAt_1 rfl 1 rfl ?_
  refine cv_RX8_179 C (ln0) ly0 (ct_X8_rotaRefusal _ _ _ _ _ σ a1) (by decide) rfl rfl (Nat.le_of_ble_eq_true rfl) dX8_rotaAt_2 (fun r1 σ2 => ?_)
  refine V_istore_n (L' := [(3, .int r1), (0, .ref (b + 0)), (1, .int a1), (2, .int a2)]) C dX8_rotaAt_5 rfl (by decide) rfl ?_
  refine V_iload_n C dX8_rotaAt_6 rfl 0 rfl ?_
  refine V_if_eq (tgt := 12) C dX8_rotaAt_7 (by decide) ?_ ?_
  · refine V_iload_n C dX8_rotaAt_12 rfl 3 rfl ?_
    refine V_if_lt (tgt := 21) C dX8_rotaAt_13 (by decide) ?_ ?_
    · refine V_bipush (v := (-9 : Int32)) C dX8_rotaAt_21 (by decide) ?_
      exact V_iret C D dX8_rotaAt_23
    · refine V_iload_n C dX8_rotaAt_16 rfl 3 rfl ?_
      refine V_iload_n C dX8_rotaAt_17 rfl 2 rfl ?_
      refine V_icmp_lt (tgt := 24) C dX8_rotaAt_18 (by decide) ?_ ?_
      · refine V_aload_n C dX8_rotaAt_24 rfl 1 rfl ?_
        refine gf_RX8_58 C (ln0) ly0 rfl dX8_rotaAt_25 ?_
        refine V_aload_n C dX8_rotaAt_28 rfl 1 rfl ?_
        refine gf_RX8_37 C (ln0) ly0 rfl dX8_rotaAt_29 ?_
        refine V_iload_n C dX8_rotaAt_32 rfl 2 rfl ?_
        refine cv_RX8_182 C (ln86) ly86 (ct_X5_run _ _ _ _ _ σ2 13 a1 rP_13) (by decide) rfl rfl (Nat.le_of_ble_eq_true rfl) dX8_rotaAt_33 (fun r3 σ4 => ?_)
        refine V_aload_n C dX8_rotaAt_36 rfl 1 rfl ?_
        refine gf_RX8_58 C (ln0) ly0 rfl dX8_rotaAt_37 ?_
        refine gf_RX8_186 C (ln86) ly86 rfl dX8_rotaAt_40 ?_
        refine V_if_eq (tgt := 58) C dX8_rotaAt_43 (by decide) ?_ ?_
        · refine V_bipush (v := (-9 : Int32)) C dX8_rotaAt_58 (by decide) ?_
          exact V_iret C D dX8_rotaAt_60
        · refine V_aload_n C dX8_rotaAt_46 rfl 1 rfl ?_
          refine gf_RX8_58 C (ln0) ly0 rfl dX8_rotaAt_47 ?_
          refine gf_RX8_192 C (ln86) ly86 rfl dX8_rotaAt_50 ?_
          refine V_iload_n C dX8_rotaAt_53 rfl 3 rfl ?_
          refine V_iald C (ln89) ly89 dX8_rotaAt_54 ?_
          refine V_goto (tgt := 60) C dX8_rotaAt_55 (by decide) ?_
          exact V_iret C D dX8_rotaAt_60
      · refine V_bipush (v := (-9 : Int32)) C dX8_rotaAt_21 (by decide) ?_
        exact V_iret C D dX8_rotaAt_23
  · refine V_iload_n C dX8_rotaAt_10 rfl 0 rfl ?_
    exact V_iret C D dX8_rotaAt_11

theorem ct_X8_rotaAt (l : Launch) (dC : Nat → ClassId) (dI : Nat → Nat → Nat) (cA : Nat → ClassId) (b : Nat) (σ : Hp) (a1 : Int32) (a2 : Int32)  : CT l dC dI cA b yX8_rotaAt cX8_rotaAt 4 (some .int) 11 [.ref (b + 0), .int a1, .int a2] σ rvI (f_X8_rotaAt σ a1 a2) := CT_of [(0, .ref (b + 0)), (1, .int a1), (2, .int a2)] (by decide +kernel) rfl (Nat.le_of_ble_eq_true rfl) rfl (fun E _ C D _ _ _ => vj_X8_rotaAt_0 C D σ a1 a2 )
set_option maxRecDepth 4000 in
theorem vj_X8_allNod_21 {E : Ev} {b : Nat} (C : CX E RX8 cX8_allNod 3 3) (D : CR E (some .int))    : ∀ (n : Nat) (σ : Hp) (x1 : Int32) (x2 : Int32) , VJ rvI (QM E b) E b 3 σ 21 [(0, .ref (b + 0)), (1, .int x1), (2, .int x2)] [] (f_X8_allNod_21 n σ x1 x2)
  | 0, σ, x1, x2 => V_none
  | n + 1, σ, x1, x2 => by
    show VJ rvI (QM E b) E b 3 σ 21 [(0, .ref (b + 0)), (1, .int x1), (2, .int x2)] [] (if (99 : Int32) < x2 then (
          some ((-9 : Int32), σ))
        else (
          if (σ 18 5) = x1 then (
            some (x2, σ))
          else (
            bd (f_X4_pass σ 18 (0 : Int32)) fun r1 σ2 =>
            Lt (x2 + (1 : Int32)) fun v3 =>
            f_X8_allNod_21 n σ2 x1 v3)))
    have ih := vj_X8_allNod_21 (b := b) C D   n
    refine V_iload_n C dX8_allNod_21 rfl 2 rfl ?_
    refine V_bipush (v := (99 : Int32)) C dX8_allNod_22 (by decide) ?_
    refine V_icmp_gt (tgt := 55) C dX8_allNod_24 (by decide) ?_ ?_
    · refine V_bipush (v := (-9 : Int32)) C dX8_allNod_55 (by decide) ?_
      exact V_iret C D dX8_allNod_57
    · refine V_aload_n C dX8_allNod_27 rfl 0 rfl ?_
      refine gf_RX8_41 C (ln0) ly0 rfl dX8_allNod_28 ?_
      refine gf_RX8_129 C (ln18) ly18 rfl dX8_allNod_31 ?_
      refine V_iload_n C dX8_allNod_34 rfl 1 rfl ?_
      refine V_icmp_ne (tgt := 40) C dX8_allNod_35 (by decide) ?_ ?_
      · refine V_aload_n C dX8_allNod_40 rfl 0 rfl ?_
        refine gf_RX8_41 C (ln0) ly0 rfl dX8_allNod_41 ?_
        refine V_iconst (v := (0 : Int32)) C dX8_allNod_44 (by decide) ?_
        refine cv_RX8_169 C (ln18) ly18 (ct_X4_pass _ _ _ _ _ σ 18 (0 : Int32) rP_18) (by decide) rfl rfl (Nat.le_of_ble_eq_true rfl) dX8_allNod_45 (fun r1 σ2 => ?_)
        refine V_pop C dX8_allNod_48 rfl ?_
        refine V_iinc (k := 2) (v := (1 : Int32)) (L' := fun v3 => [(2, .int v3), (0, .ref (b + 0)), (1, .int x1)]) C dX8_allNod_49 rfl (by decide) (by decide) (fun _ => rfl) (fun v3 => ?_)
        refine V_goto (tgt := 21) C dX8_allNod_52 (by decide) ?_
        exact V_sub [1, 2, 0] rfl (ih σ2 x1 v3)
      · refine V_iload_n C dX8_allNod_38 rfl 2 rfl ?_
        exact V_iret C D dX8_allNod_39

set_option maxRecDepth 4000 in
theorem vj_X8_allNod_0 {E : Ev} {b : Nat} (C : CX E RX8 cX8_allNod 3 3) (D : CR E (some .int))    (σ : Hp)   : VJ rvI (QM E b) E b 3 σ 0 [(0, .ref (b + 0))] [] (f_X8_allNod σ ) := by
  unfold f_X8_allNod
  refine V_aload_n C dX8_allNod_0 rfl 0 rfl ?_
  refine gf_RX8_28 C (ln0) ly0 rfl dX8_allNod_1 ?_
  refine cv_RX8_195 C (ln11) ly11 (ct_X2_everyone _ _ _ _ _ σ 11 cP_11) (by decide) rfl rfl (Nat.le_of_ble_eq_true rfl) dX8_allNod_4 (fun r1 σ2 => ?_)
  refine V_istore_n (L' := [(1, .int r1), (0, .ref (b + 0))]) C dX8_allNod_7 rfl (by decide) rfl ?_
  refine V_aload_n C dX8_allNod_8 rfl 1 rfl ?_
  refine gf_RX8_41 C (ln0) ly0 rfl dX8_allNod_9 ?_
  refine V_aload_n C dX8_allNod_12 rfl 1 rfl ?_
  refine gf_RX8_37 C (ln0) ly0 rfl dX8_allNod_13 ?_
  refine cv_RX8_95 C (ln18) ly18 (ct_X4_copyFrom _ _ _ _ _ σ2 18 13 rP_18 rP_13) (by decide) rfl rfl (Nat.le_of_ble_eq_true rfl) dX8_allNod_16 (fun r3 σ4 => ?_)
  refine V_iconst (v := (0 : Int32)) C dX8_allNod_19 (by decide) ?_
  refine V_istore_n (L' := [(2, .int (0 : Int32)), (1, .int r1), (0, .ref (b + 0))]) C dX8_allNod_20 rfl (by decide) rfl ?_
  exact V_sub [2, 1, 0] rfl (vj_X8_allNod_21 C D FU σ4 r1 (0 : Int32))

theorem ct_X8_allNod (l : Launch) (dC : Nat → ClassId) (dI : Nat → Nat → Nat) (cA : Nat → ClassId) (b : Nat) (σ : Hp)   : CT l dC dI cA b yX8_allNod cX8_allNod 3 (some .int) 3 [.ref (b + 0)] σ rvI (f_X8_allNod σ ) := CT_of [(0, .ref (b + 0))] (by decide +kernel) rfl (Nat.le_of_ble_eq_true rfl) rfl (fun E _ C D _ _ _ => vj_X8_allNod_0 C D σ  )
set_option maxRecDepth 4000 in
theorem vj_X8_greatestDivisor_3 {E : Ev} {b : Nat} (C : CX E RX8 cX8_greatestDivisor 7 1) (D : CR E (some .long))    : ∀ (n : Nat) (σ : Hp) (x0 : Int64) (x2 : Int64) (x4 : Int32) , VJ rvL (QM E b) E b 7 σ 3 [(0, .long x0), (2, .long x2), (4, .int x4)] [] (f_X8_greatestDivisor_3 n σ x0 x2 x4)
  | 0, σ, x0, x2, x4 => V_none
  | n + 1, σ, x0, x2, x4 => by
    show VJ rvL (QM E b) E b 7 σ 3 [(0, .long x0), (2, .long x2), (4, .int x4)] [] (if (100 : Int32) ≤ x4 then (
          some (x0, σ))
        else (
          if (lg_cmp x2 (0 : Int64)) = 0 then (
            some (x0, σ))
          else (
            nzL x2 <|
            Lt (x0 - x0 / x2 * x2) fun v1 =>
            Lt (x4 + (1 : Int32)) fun v2 =>
            f_X8_greatestDivisor_3 n σ x2 v1 v2)))
    have ih := vj_X8_greatestDivisor_3 (b := b) C D   n
    refine V_iload C dX8_greatestDivisor_3 2 rfl ?_
    refine V_bipush (v := (100 : Int32)) C dX8_greatestDivisor_5 (by decide) ?_
    refine V_icmp_ge (tgt := 32) C dX8_greatestDivisor_7 (by decide) ?_ ?_
    · refine V_lload_n C dX8_greatestDivisor_32 rfl 0 rfl ?_
      exact V_lret C D dX8_greatestDivisor_33
    · refine V_lload_n C dX8_greatestDivisor_10 rfl 1 rfl ?_
      refine V_lconst (v := (0 : Int64)) C dX8_greatestDivisor_11 (by decide) ?_
      refine V_lcmp C dX8_greatestDivisor_12 ?_
      refine V_if_eq (tgt := 32) C dX8_greatestDivisor_13 (by decide) ?_ ?_
      · refine V_lload_n C dX8_greatestDivisor_32 rfl 0 rfl ?_
        exact V_lret C D dX8_greatestDivisor_33
      · refine V_lload_n C dX8_greatestDivisor_16 rfl 0 rfl ?_
        refine V_lload_n C dX8_greatestDivisor_17 rfl 1 rfl ?_
        refine V_lrem C dX8_greatestDivisor_18 ?_
        refine V_ltL (fun v1 => ?_)
        refine V_lstore (L' := [(5, .long v1), (0, .long x0), (2, .long x2), (4, .int x4)]) C dX8_greatestDivisor_19 (by decide) rfl ?_
        refine V_lload_n C dX8_greatestDivisor_21 rfl 2 rfl ?_
        refine V_lstore_n (L' := [(0, .long x2), (5, .long v1), (2, .long x2), (4, .int x4)]) C dX8_greatestDivisor_22 rfl (by decide) rfl ?_
        refine V_lload C dX8_greatestDivisor_23 1 rfl ?_
        refine V_lstore_n (L' := [(2, .long v1), (0, .long x2), (5, .long v1), (4, .int x4)]) C dX8_greatestDivisor_25 rfl (by decide) rfl ?_
        refine V_iinc (k := 3) (v := (1 : Int32)) (L' := fun v2 => [(4, .int v2), (2, .long v1), (0, .long x2), (5, .long v1)]) C dX8_greatestDivisor_26 rfl (by decide) (by decide) (fun _ => rfl) (fun v2 => ?_)
        refine V_goto (tgt := 3) C dX8_greatestDivisor_29 (by decide) ?_
        exact V_sub [2, 1, 0] rfl (ih σ x2 v1 v2)

set_option maxRecDepth 4000 in
theorem vj_X8_greatestDivisor_0 {E : Ev} {b : Nat} (C : CX E RX8 cX8_greatestDivisor 7 1) (D : CR E (some .long))    (σ : Hp) (a0 : Int64) (a2 : Int64)  : VJ rvL (QM E b) E b 7 σ 0 [(0, .long a0), (2, .long a2)] [] (f_X8_greatestDivisor σ a0 a2) := by
  unfold f_X8_greatestDivisor
  refine V_iconst (v := (0 : Int32)) C dX8_greatestDivisor_0 (by decide) ?_
  refine V_istore (L' := [(4, .int (0 : Int32)), (0, .long a0), (2, .long a2)]) C dX8_greatestDivisor_1 (by decide) rfl ?_
  exact V_sub [1, 2, 0] rfl (vj_X8_greatestDivisor_3 C D FU σ a0 a2 (0 : Int32))

theorem ct_X8_greatestDivisor (l : Launch) (dC : Nat → ClassId) (dI : Nat → Nat → Nat) (cA : Nat → ClassId) (b : Nat) (σ : Hp) (a0 : Int64) (a2 : Int64)  : CT l dC dI cA b yX8_greatestDivisor cX8_greatestDivisor 7 (some .long) 1 [.long a0, .long a2] σ rvL (f_X8_greatestDivisor σ a0 a2) := CT_of [(0, .long a0), (2, .long a2)] (by decide +kernel) rfl (Nat.le_of_ble_eq_true rfl) rfl (fun E _ C D _ _ _ => vj_X8_greatestDivisor_0 C D σ a0 a2 )
set_option maxRecDepth 4000 in
theorem vj_X8_chance_20 {E : Ev} {b : Nat} (C : CX E RX8 cX8_chance 12 2) (D : CR E (some .long))    (σ : Hp)   : VJ rvL (QM E b) E b 12 σ 20 [] [] (f_X8_chance_20 σ ) := by
  unfold f_X8_chance_20
  refine V_ldc2 C wk_RX8_198 dX8_chance_20 ?_
  exact V_lret C D dX8_chance_23

set_option maxRecDepth 4000 in
theorem vj_X8_chance_51 {E : Ev} {b : Nat} (C : CX E RX8 cX8_chance 12 2) (D : CR E (some .long))   {k33 : Hp → Int32 → Int32 → Int32 → Int64 → Int64 → Int32 → Option (Int64 × Hp)} (hk33 : ∀ (σ : Hp) (x1 : Int32) (x2 : Int32) (x3 : Int32) (x4 : Int64) (x6 : Int64) (x8 : Int32) , VJ rvL (QM E b) E b 12 σ 33 [(0, .ref (b + 0)), (1, .int x1), (2, .int x2), (3, .int x3), (4, .long x4), (6, .long x6), (8, .int x8)] [] (k33 σ x1 x2 x3 x4 x6 x8)) : ∀ (n : Nat) (σ : Hp) (x1 : Int32) (x2 : Int32) (x3 : Int32) (x4 : Int64) (x6 : Int64) (x8 : Int32) (x9 : Int64) (x11 : Int32) , VJ rvL (QM E b) E b 12 σ 51 [(0, .ref (b + 0)), (1, .int x1), (2, .int x2), (3, .int x3), (4, .long x4), (6, .long x6), (8, .int x8), (9, .long x9), (11, .int x11)] [] (f_X8_chance_51 k33 n σ x1 x2 x3 x4 x6 x8 x9 x11)
  | 0, σ, x1, x2, x3, x4, x6, x8, x9, x11 => V_none
  | n + 1, σ, x1, x2, x3, x4, x6, x8, x9, x11 => by
    show VJ rvL (QM E b) E b 12 σ 51 [(0, .ref (b + 0)), (1, .int x1), (2, .int x2), (3, .int x3), (4, .long x4), (6, .long x6), (8, .int x8), (9, .long x9), (11, .int x11)] [] (if x1 ≤ x11 then (
          bd (f_X4_waysAwake σ 13 x8 x1 x2) fun r1 σ2 =>
          Lt (x4 * (x9 - r1)) fun v3 =>
          Lt (x6 * x9) fun v4 =>
          Lt (x8 + (1 : Int32)) fun v5 =>
          k33 σ2 x1 x2 x3 v3 v4 v5)
        else (
          Lt (x9 * (10 : Int64)) fun v7 =>
          Lt (x11 + (1 : Int32)) fun v8 =>
          f_X8_chance_51 k33 n σ x1 x2 x3 x4 x6 x8 v7 v8))
    have ih := vj_X8_chance_51 (b := b) C D  hk33 n
    refine V_iload C dX8_chance_51 8 rfl ?_
    refine V_iload_n C dX8_chance_53 rfl 1 rfl ?_
    refine V_icmp_ge (tgt := 71) C dX8_chance_54 (by decide) ?_ ?_
    · refine V_lload C dX8_chance_71 4 rfl ?_
      refine V_lload C dX8_chance_73 7 rfl ?_
      refine V_aload_n C dX8_chance_75 rfl 0 rfl ?_
      refine gf_RX8_37 C (ln0) ly0 rfl dX8_chance_76 ?_
      refine V_iload C dX8_chance_79 6 rfl ?_
      refine V_iload_n C dX8_chance_81 rfl 1 rfl ?_
      refine V_iload_n C dX8_chance_82 rfl 2 rfl ?_
      refine cv_RX8_202 C (ln13) ly13 (ct_X4_waysAwake _ _ _ _ _ σ 13 x8 x1 x2 rP_13) (by decide) rfl rfl (Nat.le_of_ble_eq_true rfl) dX8_chance_83 (fun r1 σ2 => ?_)
      refine V_lsub C dX8_chance_86 ?_
      refine V_lmul C dX8_chance_87 ?_
      refine V_ltL (fun v3 => ?_)
      refine V_lstore (L' := [(4, .long v3), (0, .ref (b + 0)), (1, .int x1), (2, .int x2), (3, .int x3), (6, .long x6), (8, .int x8), (9, .long x9), (11, .int x11)]) C dX8_chance_88 (by decide) rfl ?_
      refine V_lload C dX8_chance_90 5 rfl ?_
      refine V_lload C dX8_chance_92 7 rfl ?_
      refine V_lmul C dX8_chance_94 ?_
      refine V_ltL (fun v4 => ?_)
      refine V_lstore (L' := [(6, .long v4), (4, .long v3), (0, .ref (b + 0)), (1, .int x1), (2, .int x2), (3, .int x3), (8, .int x8), (9, .long x9), (11, .int x11)]) C dX8_chance_95 (by decide) rfl ?_
      refine V_iinc (k := 6) (v := (1 : Int32)) (L' := fun v5 => [(8, .int v5), (6, .long v4), (4, .long v3), (0, .ref (b + 0)), (1, .int x1), (2, .int x2), (3, .int x3), (9, .long x9), (11, .int x11)]) C dX8_chance_97 rfl (by decide) (by decide) (fun _ => rfl) (fun v5 => ?_)
      refine V_goto (tgt := 33) C dX8_chance_100 (by decide) ?_
      exact V_sub [3, 4, 5, 6, 2, 1, 0] rfl (hk33 σ2 x1 x2 x3 v3 v4 v5)
    · refine V_lload C dX8_chance_57 7 rfl ?_
      refine V_ldc2 C wk_RX8_200 dX8_chance_59 ?_
      refine V_lmul C dX8_chance_62 ?_
      refine V_ltL (fun v7 => ?_)
      refine V_lstore (L' := [(9, .long v7), (0, .ref (b + 0)), (1, .int x1), (2, .int x2), (3, .int x3), (4, .long x4), (6, .long x6), (8, .int x8), (11, .int x11)]) C dX8_chance_63 (by decide) rfl ?_
      refine V_iinc (k := 8) (v := (1 : Int32)) (L' := fun v8 => [(11, .int v8), (9, .long v7), (0, .ref (b + 0)), (1, .int x1), (2, .int x2), (3, .int x3), (4, .long x4), (6, .long x6), (8, .int x8)]) C dX8_chance_65 rfl (by decide) (by decide) (fun _ => rfl) (fun v8 => ?_)
      refine V_goto (tgt := 51) C dX8_chance_68 (by decide) ?_
      exact V_sub [2, 3, 4, 5, 6, 7, 8, 1, 0] rfl (ih σ x1 x2 x3 x4 x6 x8 v7 v8)

set_option maxRecDepth 4000 in
theorem vj_X8_chance_33 {E : Ev} {b : Nat} (C : CX E RX8 cX8_chance 12 2) (D : CR E (some .long))    : ∀ (n : Nat) (σ : Hp) (x1 : Int32) (x2 : Int32) (x3 : Int32) (x4 : Int64) (x6 : Int64) (x8 : Int32) , VJ rvL (QM E b) E b 12 σ 33 [(0, .ref (b + 0)), (1, .int x1), (2, .int x2), (3, .int x3), (4, .long x4), (6, .long x6), (8, .int x8)] [] (f_X8_chance_33 n σ x1 x2 x3 x4 x6 x8)
  | 0, σ, x1, x2, x3, x4, x6, x8 => V_none
  | n + 1, σ, x1, x2, x3, x4, x6, x8 => by
    show VJ rvL (QM E b) E b 12 σ 33 [(0, .ref (b + 0)), (1, .int x1), (2, .int x2), (3, .int x3), (4, .long x4), (6, .long x6), (8, .int x8)] [] (if (σ 11 1) ≤ x8 then (
          bd (f_X8_greatestDivisor σ x4 x6) fun r1 σ2 =>
          if (lg_cmp r1 (0 : Int64)) = 0 then (
            some ((0 : Int64), σ2))
          else (
            if x3 = 0 then (
              nzL r1 <|
              some ((x6 / r1), σ2))
            else (
              nzL r1 <|
              some ((x4 / r1), σ2))))
        else (
          f_X8_chance_51 (f_X8_chance_33 n) FU σ x1 x2 x3 x4 x6 x8 (1 : Int64) (0 : Int32)))
    have ih := vj_X8_chance_33 (b := b) C D   n
    refine V_iload C dX8_chance_33 6 rfl ?_
    refine V_aload_n C dX8_chance_35 rfl 0 rfl ?_
    refine gf_RX8_28 C (ln0) ly0 rfl dX8_chance_36 ?_
    refine gf_RX8_114 C (ln11) ly11 rfl dX8_chance_39 ?_
    refine V_icmp_ge (tgt := 103) C dX8_chance_42 (by decide) ?_ ?_
    · refine V_lload C dX8_chance_103 4 rfl ?_
      refine V_lload C dX8_chance_105 5 rfl ?_
      refine cs_RX8_206 C (ct_X8_greatestDivisor _ _ _ _ _ σ x4 x6) (by decide) rfl rfl (Nat.le_of_ble_eq_true rfl) dX8_chance_107 (fun r1 σ2 => ?_)
      refine V_lstore (L' := [(8, .long r1), (0, .ref (b + 0)), (1, .int x1), (2, .int x2), (3, .int x3), (4, .long x4), (6, .long x6)]) C dX8_chance_110 (by decide) rfl ?_
      refine V_lload C dX8_chance_112 0 rfl ?_
      refine V_lconst (v := (0 : Int64)) C dX8_chance_114 (by decide) ?_
      refine V_lcmp C dX8_chance_115 ?_
      refine V_if_ne (tgt := 121) C dX8_chance_116 (by decide) ?_ ?_
      · refine V_iload_n C dX8_chance_121 rfl 4 rfl ?_
        refine V_if_eq (tgt := 133) C dX8_chance_122 (by decide) ?_ ?_
        · refine V_lload C dX8_chance_133 6 rfl ?_
          refine V_lload C dX8_chance_135 0 rfl ?_
          refine V_ldiv C dX8_chance_137 ?_
          exact V_lret C D dX8_chance_138
        · refine V_lload C dX8_chance_125 5 rfl ?_
          refine V_lload C dX8_chance_127 0 rfl ?_
          refine V_ldiv C dX8_chance_129 ?_
          refine V_goto (tgt := 138) C dX8_chance_130 (by decide) ?_
          exact V_lret C D dX8_chance_138
      · refine V_lconst (v := (0 : Int64)) C dX8_chance_119 (by decide) ?_
        exact V_lret C D dX8_chance_120
    · refine V_lconst (v := (1 : Int64)) C dX8_chance_45 (by decide) ?_
      refine V_lstore (L' := [(9, .long (1 : Int64)), (0, .ref (b + 0)), (1, .int x1), (2, .int x2), (3, .int x3), (4, .long x4), (6, .long x6), (8, .int x8)]) C dX8_chance_46 (by decide) rfl ?_
      refine V_iconst (v := (0 : Int32)) C dX8_chance_48 (by decide) ?_
      refine V_istore (L' := [(11, .int (0 : Int32)), (9, .long (1 : Int64)), (0, .ref (b + 0)), (1, .int x1), (2, .int x2), (3, .int x3), (4, .long x4), (6, .long x6), (8, .int x8)]) C dX8_chance_49 (by decide) rfl ?_
      exact V_sub [2, 3, 4, 5, 6, 7, 8, 1, 0] rfl (vj_X8_chance_51 C D ih FU σ x1 x2 x3 x4 x6 x8 (1 : Int64) (0 : Int32))

set_option maxRecDepth 4000 in
theorem vj_X8_chance_0 {E : Ev} {b : Nat} (C : CX E RX8 cX8_chance 12 2) (D : CR E (some .long))    (σ : Hp) (a1 : Int32) (a2 : Int32) (a3 : Int32)  : VJ rvL (QM E b) E b 12 σ 0 [(0, .ref (b + 0)), (1, .int a1), (2, .int a2), (3, .int a3)] [] (f_X8_chance σ a1 a2 a3) := by
  unfold f_X8_chance
  refine V_iload_n C dX8_chance_0 rfl 1 rfl ?_
  refine V_iconst (v := (1 : Int32)) C dX8_chance_1 (by decide) ?_
  refine V_icmp_lt (tgt := 20) C dX8_chance_2 (by decide) ?_ ?_
  · exact V_sub [] rfl (vj_X8_chance_20 C D σ)
  · refine V_iload_n C dX8_chance_5 rfl 1 rfl ?_
    refine V_iconst (v := (3 : Int32)) C dX8_chance_6 (by decide) ?_
    refine V_icmp_gt (tgt := 20) C dX8_chance_7 (by decide) ?_ ?_
    · exact V_sub [] rfl (vj_X8_chance_20 C D σ)
    · refine V_iload_n C dX8_chance_10 rfl 2 rfl ?_
      refine V_if_lt (tgt := 20) C dX8_chance_11 (by decide) ?_ ?_
      · exact V_sub [] rfl (vj_X8_chance_20 C D σ)
      · refine V_iload_n C dX8_chance_14 rfl 2 rfl ?_
        refine V_bipush (v := (10 : Int32)) C dX8_chance_15 (by decide) ?_
        refine V_icmp_le (tgt := 24) C dX8_chance_17 (by decide) ?_ ?_
        · refine V_lconst (v := (1 : Int64)) C dX8_chance_24 (by decide) ?_
          refine V_lstore (L' := [(4, .long (1 : Int64)), (0, .ref (b + 0)), (1, .int a1), (2, .int a2), (3, .int a3)]) C dX8_chance_25 (by decide) rfl ?_
          refine V_lconst (v := (1 : Int64)) C dX8_chance_27 (by decide) ?_
          refine V_lstore (L' := [(6, .long (1 : Int64)), (4, .long (1 : Int64)), (0, .ref (b + 0)), (1, .int a1), (2, .int a2), (3, .int a3)]) C dX8_chance_28 (by decide) rfl ?_
          refine V_iconst (v := (0 : Int32)) C dX8_chance_30 (by decide) ?_
          refine V_istore (L' := [(8, .int (0 : Int32)), (6, .long (1 : Int64)), (4, .long (1 : Int64)), (0, .ref (b + 0)), (1, .int a1), (2, .int a2), (3, .int a3)]) C dX8_chance_31 (by decide) rfl ?_
          exact V_sub [3, 4, 5, 6, 2, 1, 0] rfl (vj_X8_chance_33 C D FU σ a1 a2 a3 (1 : Int64) (1 : Int64) (0 : Int32))
        · exact V_sub [] rfl (vj_X8_chance_20 C D σ)

theorem ct_X8_chance (l : Launch) (dC : Nat → ClassId) (dI : Nat → Nat → Nat) (cA : Nat → ClassId) (b : Nat) (σ : Hp) (a1 : Int32) (a2 : Int32) (a3 : Int32)  : CT l dC dI cA b yX8_chance cX8_chance 12 (some .long) 2 [.ref (b + 0), .int a1, .int a2, .int a3] σ rvL (f_X8_chance σ a1 a2 a3) := CT_of [(0, .ref (b + 0)), (1, .int a1), (2, .int a2), (3, .int a3)] (by decide +kernel) rfl (Nat.le_of_ble_eq_true rfl) rfl (fun E _ C D _ _ _ => vj_X8_chance_0 C D σ a1 a2 a3 )
set_option maxRecDepth 4000 in
theorem vj_X8_plan_0 {E : Ev} {b : Nat} (C : CX E RX8 cX8_plan 4 3) (D : CR E (some .int))    (σ : Hp) (a1 : Int32) (a2 : Int32)  : VJ rvI (QM E b) E b 4 σ 0 [(0, .ref (b + 0)), (1, .int a1), (2, .int a2)] [] (f_X8_plan σ a1 a2) := by
  unfold f_X8_plan
  refine V_iload_n C dX8_plan_0 rfl 1 rfl ?_
  refine V_if_lt (tgt := 20) C dX8_plan_1 (by decide) ?_ ?_
  · refine V_bipush (v := (-2 : Int32)) C dX8_plan_20 (by decide) ?_
    exact V_iret C D dX8_plan_22
  · refine V_iload_n C dX8_plan_4 rfl 1 rfl ?_
    refine V_iconst (v := (4 : Int32)) C dX8_plan_5 (by decide) ?_
    refine V_icmp_ge (tgt := 20) C dX8_plan_6 (by decide) ?_ ?_
    · refine V_bipush (v := (-2 : Int32)) C dX8_plan_20 (by decide) ?_
      exact V_iret C D dX8_plan_22
    · refine V_aload_n C dX8_plan_9 rfl 0 rfl ?_
      refine gf_RX8_28 C (ln0) ly0 rfl dX8_plan_10 ?_
      refine V_iload_n C dX8_plan_13 rfl 2 rfl ?_
      refine cv_RX8_160 C (ln11) ly11 (ct_X2_hasAll _ _ _ _ _ σ 11 a2 cP_11) (by decide) rfl rfl (Nat.le_of_ble_eq_true rfl) dX8_plan_14 (fun r1 σ2 => ?_)
      refine V_if_ne (tgt := 23) C dX8_plan_17 (by decide) ?_ ?_
      · refine V_aload_n C dX8_plan_23 rfl 0 rfl ?_
        refine gf_RX8_44 C (ln0) ly0 rfl dX8_plan_24 ?_
        refine V_iload_n C dX8_plan_27 rfl 1 rfl ?_
        refine V_iald C (ln23) ly23 dX8_plan_28 ?_
        refine V_ltI (fun v3 => ?_)
        refine V_istore_n (L' := [(3, .int v3), (0, .ref (b + 0)), (1, .int a1), (2, .int a2)]) C dX8_plan_29 rfl (by decide) rfl ?_
        refine V_aload_n C dX8_plan_30 rfl 1 rfl ?_
        refine gf_RX8_44 C (ln0) ly0 rfl dX8_plan_31 ?_
        refine V_iload_n C dX8_plan_34 rfl 2 rfl ?_
        refine V_iload_n C dX8_plan_35 rfl 3 rfl ?_
        refine V_iast C (ln23) ly23 dX8_plan_36 (fun σ4 => ?_)
        refine V_iload_n C dX8_plan_37 rfl 0 rfl ?_
        exact V_iret C D dX8_plan_38
      · refine V_bipush (v := (-2 : Int32)) C dX8_plan_20 (by decide) ?_
        exact V_iret C D dX8_plan_22

theorem ct_X8_plan (l : Launch) (dC : Nat → ClassId) (dI : Nat → Nat → Nat) (cA : Nat → ClassId) (b : Nat) (σ : Hp) (a1 : Int32) (a2 : Int32)  : CT l dC dI cA b yX8_plan cX8_plan 4 (some .int) 3 [.ref (b + 0), .int a1, .int a2] σ rvI (f_X8_plan σ a1 a2) := CT_of [(0, .ref (b + 0)), (1, .int a1), (2, .int a2)] (by decide +kernel) rfl (Nat.le_of_ble_eq_true rfl) rfl (fun E _ C D _ _ _ => vj_X8_plan_0 C D σ a1 a2 )
set_option maxRecDepth 4000 in
theorem vj_X8_weakest_75 {E : Ev} {b : Nat} (C : CX E RX8 cX8_weakest 6 3) (D : CR E (some .int))   {k18 : Hp → Int32 → Int32 → Int32 → Option (Int32 × Hp)} (hk18 : ∀ (σ : Hp) (x1 : Int32) (x2 : Int32) (x3 : Int32) , VJ rvI (QM E b) E b 6 σ 18 [(0, .ref (b + 0)), (1, .int x1), (2, .int x2), (3, .int x3)] [] (k18 σ x1 x2 x3)) (σ : Hp) (x1 : Int32) (x2 : Int32) (x3 : Int32)  : VJ rvI (QM E b) E b 6 σ 75 [(0, .ref (b + 0)), (1, .int x1), (2, .int x2), (3, .int x3)] [] (f_X8_weakest_75 k18 σ x1 x2 x3) := by
  unfold f_X8_weakest_75
  refine V_iinc (k := 3) (v := (1 : Int32)) (L' := fun v1 => [(3, .int v1), (0, .ref (b + 0)), (1, .int x1), (2, .int x2)]) C dX8_weakest_75 rfl (by decide) (by decide) (fun _ => rfl) (fun v1 => ?_)
  refine V_goto (tgt := 18) C dX8_weakest_78 (by decide) ?_
  exact V_sub [1, 2, 3, 0] rfl (hk18 σ x1 x2 v1)

set_option maxRecDepth 4000 in
theorem vj_X8_weakest_56 {E : Ev} {b : Nat} (C : CX E RX8 cX8_weakest 6 3) (D : CR E (some .int))   {k18 : Hp → Int32 → Int32 → Int32 → Option (Int32 × Hp)} (hk18 : ∀ (σ : Hp) (x1 : Int32) (x2 : Int32) (x3 : Int32) , VJ rvI (QM E b) E b 6 σ 18 [(0, .ref (b + 0)), (1, .int x1), (2, .int x2), (3, .int x3)] [] (k18 σ x1 x2 x3)) (σ : Hp) (x1 : Int32) (x2 : Int32) (x3 : Int32) (s0 : Int32)  : VJ rvI (QM E b) E b 6 σ 56 [(0, .ref (b + 0)), (1, .int x1), (2, .int x2), (3, .int x3)] [.int s0, .ref (b + 18)] (f_X8_weakest_56 k18 σ x1 x2 x3 s0) := by
  unfold f_X8_weakest_56
  refine cv_RX8_169 C (ln18) ly18 (ct_X4_pass _ _ _ _ _ σ 18 s0 rP_18) (by decide) rfl rfl (Nat.le_of_ble_eq_true rfl) dX8_weakest_56 (fun r1 σ2 => ?_)
  refine cs_RX8_210 C (ct_J6_bitCount_0f7a4 _ _ _ _ _ σ2 r1) (by decide) rfl rfl (Nat.le_of_ble_eq_true rfl) dX8_weakest_59 (fun r3 σ4 => ?_)
  refine V_istore (L' := [(5, .int r3), (0, .ref (b + 0)), (1, .int x1), (2, .int x2), (3, .int x3)]) C dX8_weakest_62 (by decide) rfl ?_
  refine V_iload C dX8_weakest_64 0 rfl ?_
  refine V_iload_n C dX8_weakest_66 rfl 2 rfl ?_
  refine V_icmp_ge (tgt := 75) C dX8_weakest_67 (by decide) ?_ ?_
  · exact V_sub [1, 2, 3, 4] rfl (vj_X8_weakest_75 C D hk18 σ4 x1 x2 x3)
  · refine V_iload C dX8_weakest_70 0 rfl ?_
    refine V_istore_n (L' := [(1, .int r3), (5, .int r3), (0, .ref (b + 0)), (2, .int x2), (3, .int x3)]) C dX8_weakest_72 rfl (by decide) rfl ?_
    refine V_iload_n C dX8_weakest_73 rfl 4 rfl ?_
    refine V_istore_n (L' := [(2, .int x3), (1, .int r3), (5, .int r3), (0, .ref (b + 0)), (3, .int x3)]) C dX8_weakest_74 rfl (by decide) rfl ?_
    exact V_sub [3, 1, 0, 4] rfl (vj_X8_weakest_75 C D hk18 σ4 r3 x3 x3)

set_option maxRecDepth 4000 in
theorem vj_X8_weakest_18 {E : Ev} {b : Nat} (C : CX E RX8 cX8_weakest 6 3) (D : CR E (some .int))    : ∀ (n : Nat) (σ : Hp) (x1 : Int32) (x2 : Int32) (x3 : Int32) , VJ rvI (QM E b) E b 6 σ 18 [(0, .ref (b + 0)), (1, .int x1), (2, .int x2), (3, .int x3)] [] (f_X8_weakest_18 n σ x1 x2 x3)
  | 0, σ, x1, x2, x3 => V_none
  | n + 1, σ, x1, x2, x3 => by
    show VJ rvI (QM E b) E b 6 σ 18 [(0, .ref (b + 0)), (1, .int x1), (2, .int x2), (3, .int x3)] [] (if (8 : Int32) ≤ x3 then (
          some (x2, σ))
        else (
          nzI (4 : Int32) <|
          ck (x3 - x3 / (4 : Int32) * (4 : Int32)) 4 <|
          Lt (σ 23 (ix (x3 - x3 / (4 : Int32) * (4 : Int32)))) fun v1 =>
          bd (f_X4_allows σ 18 v1) fun r2 σ3 =>
          if r2 = 0 then (
            f_X8_weakest_56 (f_X8_weakest_18 n) σ3 x1 x2 x3 (0 : Int32))
          else (
            f_X8_weakest_56 (f_X8_weakest_18 n) σ3 x1 x2 x3 v1)))
    have ih := vj_X8_weakest_18 (b := b) C D   n
    refine V_iload_n C dX8_weakest_18 rfl 3 rfl ?_
    refine V_bipush (v := (8 : Int32)) C dX8_weakest_19 (by decide) ?_
    refine V_icmp_ge (tgt := 81) C dX8_weakest_21 (by decide) ?_ ?_
    · refine V_iload_n C dX8_weakest_81 rfl 2 rfl ?_
      exact V_iret C D dX8_weakest_82
    · refine V_aload_n C dX8_weakest_24 rfl 0 rfl ?_
      refine gf_RX8_44 C (ln0) ly0 rfl dX8_weakest_25 ?_
      refine V_iload_n C dX8_weakest_28 rfl 3 rfl ?_
      refine V_iconst (v := (4 : Int32)) C dX8_weakest_29 (by decide) ?_
      refine V_irem C dX8_weakest_30 ?_
      refine V_iald C (ln23) ly23 dX8_weakest_31 ?_
      refine V_ltI (fun v1 => ?_)
      refine V_istore (L' := [(4, .int v1), (0, .ref (b + 0)), (1, .int x1), (2, .int x2), (3, .int x3)]) C dX8_weakest_32 (by decide) rfl ?_
      refine V_aload_n C dX8_weakest_34 rfl 1 rfl ?_
      refine gf_RX8_41 C (ln0) ly0 rfl dX8_weakest_35 ?_
      refine V_aload_n C dX8_weakest_38 rfl 1 rfl ?_
      refine gf_RX8_41 C (ln0) ly0 rfl dX8_weakest_39 ?_
      refine V_iload C dX8_weakest_42 0 rfl ?_
      refine cv_RX8_163 C (ln18) ly18 (ct_X4_allows _ _ _ _ _ σ 18 v1 rP_18) (by decide) rfl rfl (Nat.le_of_ble_eq_true rfl) dX8_weakest_44 (fun r2 σ3 => ?_)
      refine V_if_eq (tgt := 55) C dX8_weakest_47 (by decide) ?_ ?_
      · refine V_iconst (v := (0 : Int32)) C dX8_weakest_55 (by decide) ?_
        exact V_sub [1, 2, 3, 4] rfl (vj_X8_weakest_56 C D ih σ3 x1 x2 x3 (0 : Int32))
      · refine V_iload C dX8_weakest_50 0 rfl ?_
        refine V_goto (tgt := 56) C dX8_weakest_52 (by decide) ?_
        exact V_sub [1, 2, 3, 4] rfl (vj_X8_weakest_56 C D ih σ3 x1 x2 x3 v1)

set_option maxRecDepth 4000 in
theorem vj_X8_weakest_0 {E : Ev} {b : Nat} (C : CX E RX8 cX8_weakest 6 3) (D : CR E (some .int))    (σ : Hp)   : VJ rvI (QM E b) E b 6 σ 0 [(0, .ref (b + 0))] [] (f_X8_weakest σ ) := by
  unfold f_X8_weakest
  refine V_bipush (v := (6 : Int32)) C dX8_weakest_0 (by decide) ?_
  refine V_istore_n (L' := [(1, .int (6 : Int32)), (0, .ref (b + 0))]) C dX8_weakest_2 rfl (by decide) rfl ?_
  refine V_iconst (v := (0 : Int32)) C dX8_weakest_3 (by decide) ?_
  refine V_istore_n (L' := [(2, .int (0 : Int32)), (1, .int (6 : Int32)), (0, .ref (b + 0))]) C dX8_weakest_4 rfl (by decide) rfl ?_
  refine V_aload_n C dX8_weakest_5 rfl 2 rfl ?_
  refine gf_RX8_41 C (ln0) ly0 rfl dX8_weakest_6 ?_
  refine V_aload_n C dX8_weakest_9 rfl 2 rfl ?_
  refine gf_RX8_37 C (ln0) ly0 rfl dX8_weakest_10 ?_
  refine cv_RX8_95 C (ln18) ly18 (ct_X4_copyFrom _ _ _ _ _ σ 18 13 rP_18 rP_13) (by decide) rfl rfl (Nat.le_of_ble_eq_true rfl) dX8_weakest_13 (fun r1 σ2 => ?_)
  refine V_iconst (v := (0 : Int32)) C dX8_weakest_16 (by decide) ?_
  refine V_istore_n (L' := [(3, .int (0 : Int32)), (2, .int (0 : Int32)), (1, .int (6 : Int32)), (0, .ref (b + 0))]) C dX8_weakest_17 rfl (by decide) rfl ?_
  exact V_sub [3, 2, 1, 0] rfl (vj_X8_weakest_18 C D FU σ2 (6 : Int32) (0 : Int32) (0 : Int32))

theorem ct_X8_weakest (l : Launch) (dC : Nat → ClassId) (dI : Nat → Nat → Nat) (cA : Nat → ClassId) (b : Nat) (σ : Hp)   : CT l dC dI cA b yX8_weakest cX8_weakest 6 (some .int) 3 [.ref (b + 0)] σ rvI (f_X8_weakest σ ) := CT_of [(0, .ref (b + 0))] (by decide +kernel) rfl (Nat.le_of_ble_eq_true rfl) rfl (fun E _ C D _ _ _ => vj_X8_weakest_0 C D σ  )
set_option maxRecDepth 4000 in
theorem vj_X8_settled_105 {E : Ev} {b : Nat} (C : CX E RX8 cX8_settled 8 3) (D : CR E (some .int))   {k7 : Hp → Int32 → Int32 → Int32 → Int32 → Option (Int32 × Hp)} (hk7 : ∀ (σ : Hp) (x1 : Int32) (x2 : Int32) (x3 : Int32) (x4 : Int32) , VJ rvI (QM E b) E b 8 σ 7 [(0, .ref (b + 0)), (1, .int x1), (2, .int x2), (3, .int x3), (4, .int x4)] [] (k7 σ x1 x2 x3 x4)) (σ : Hp) (x1 : Int32) (x2 : Int32) (x3 : Int32) (x4 : Int32)  : VJ rvI (QM E b) E b 8 σ 105 [(0, .ref (b + 0)), (1, .int x1), (2, .int x2), (3, .int x3), (4, .int x4)] [] (f_X8_settled_105 k7 σ x1 x2 x3 x4) := by
  unfold f_X8_settled_105
  refine V_iinc (k := 4) (v := (1 : Int32)) (L' := fun v1 => [(4, .int v1), (0, .ref (b + 0)), (1, .int x1), (2, .int x2), (3, .int x3)]) C dX8_settled_105 rfl (by decide) (by decide) (fun _ => rfl) (fun v1 => ?_)
  refine V_goto (tgt := 7) C dX8_settled_108 (by decide) ?_
  exact V_sub [1, 2, 3, 4, 0] rfl (hk7 σ x1 x2 x3 v1)

set_option maxRecDepth 4000 in
theorem vj_X8_settled_7 {E : Ev} {b : Nat} (C : CX E RX8 cX8_settled 8 3) (D : CR E (some .int))    : ∀ (n : Nat) (σ : Hp) (x1 : Int32) (x2 : Int32) (x3 : Int32) (x4 : Int32) , VJ rvI (QM E b) E b 8 σ 7 [(0, .ref (b + 0)), (1, .int x1), (2, .int x2), (3, .int x3), (4, .int x4)] [] (f_X8_settled_7 n σ x1 x2 x3 x4)
  | 0, σ, x1, x2, x3, x4 => V_none
  | n + 1, σ, x1, x2, x3, x4 => by
    show VJ rvI (QM E b) E b 8 σ 7 [(0, .ref (b + 0)), (1, .int x1), (2, .int x2), (3, .int x3), (4, .int x4)] [] (if (σ 11 1) ≤ x4 then (
          if x1 = 0 then (
            some (x2, σ))
          else (
            some (x3, σ)))
        else (
          ck x4 5 <|
          ck x4 5 <|
          Lt (if (σ 15 (ix x4)) < (σ 16 (ix x4)) then (σ 15 (ix x4)) else (σ 16 (ix x4))) fun v1 =>
          ck x4 5 <|
          Lt ((σ 16 (ix x4)) - v1) fun v2 =>
          ck x4 5 <|
          bd (f_X4_spareOf σ 13 (σ 12 (ix x4))) fun r3 σ4 =>
          Lt (if r3 < v2 then r3 else v2) fun v5 =>
          Lt (x2 + (v1 + v5)) fun v6 =>
          if v2 ≤ v5 then (
            f_X8_settled_105 (f_X8_settled_7 n) σ4 x1 v6 x3 x4)
          else (
            Lt (x3 ||| ((1 : Int32) <<< (x4 &&& 31))) fun v7 =>
            f_X8_settled_105 (f_X8_settled_7 n) σ4 x1 v6 v7 x4)))
    have ih := vj_X8_settled_7 (b := b) C D   n
    refine V_iload C dX8_settled_7 4 rfl ?_
    refine V_aload_n C dX8_settled_9 rfl 0 rfl ?_
    refine gf_RX8_28 C (ln0) ly0 rfl dX8_settled_10 ?_
    refine gf_RX8_114 C (ln11) ly11 rfl dX8_settled_13 ?_
    refine V_icmp_ge (tgt := 111) C dX8_settled_16 (by decide) ?_ ?_
    · refine V_iload_n C dX8_settled_111 rfl 1 rfl ?_
      refine V_if_eq (tgt := 119) C dX8_settled_112 (by decide) ?_ ?_
      · refine V_iload_n C dX8_settled_119 rfl 2 rfl ?_
        exact V_iret C D dX8_settled_120
      · refine V_iload_n C dX8_settled_115 rfl 3 rfl ?_
        refine V_goto (tgt := 120) C dX8_settled_116 (by decide) ?_
        exact V_iret C D dX8_settled_120
    · refine V_aload_n C dX8_settled_19 rfl 0 rfl ?_
      refine gf_RX8_37 C (ln0) ly0 rfl dX8_settled_20 ?_
      refine gf_RX8_151 C (ln13) ly13 rfl dX8_settled_23 ?_
      refine V_iload C dX8_settled_26 4 rfl ?_
      refine V_iald C (ln16) ly16 dX8_settled_28 ?_
      refine V_aload_n C dX8_settled_29 rfl 0 rfl ?_
      refine gf_RX8_37 C (ln0) ly0 rfl dX8_settled_30 ?_
      refine gf_RX8_148 C (ln13) ly13 rfl dX8_settled_33 ?_
      refine V_iload C dX8_settled_36 4 rfl ?_
      refine V_iald C (ln15) ly15 dX8_settled_38 ?_
      refine V_mmin C (by decide) wl_RX8_215 (Nat.le_of_ble_eq_true rfl) dX8_settled_39 ?_
      refine V_ltI (fun v1 => ?_)
      refine V_istore (L' := [(5, .int v1), (0, .ref (b + 0)), (1, .int x1), (2, .int x2), (3, .int x3), (4, .int x4)]) C dX8_settled_42 (by decide) rfl ?_
      refine V_aload_n C dX8_settled_44 rfl 1 rfl ?_
      refine gf_RX8_37 C (ln0) ly0 rfl dX8_settled_45 ?_
      refine gf_RX8_151 C (ln13) ly13 rfl dX8_settled_48 ?_
      refine V_iload C dX8_settled_51 5 rfl ?_
      refine V_iald C (ln16) ly16 dX8_settled_53 ?_
      refine V_iload C dX8_settled_54 0 rfl ?_
      refine V_isub C dX8_settled_56 ?_
      refine V_ltI (fun v2 => ?_)
      refine V_istore (L' := [(6, .int v2), (5, .int v1), (0, .ref (b + 0)), (1, .int x1), (2, .int x2), (3, .int x3), (4, .int x4)]) C dX8_settled_57 (by decide) rfl ?_
      refine V_iload C dX8_settled_59 0 rfl ?_
      refine V_aload_n C dX8_settled_61 rfl 2 rfl ?_
      refine gf_RX8_37 C (ln0) ly0 rfl dX8_settled_62 ?_
      refine V_aload_n C dX8_settled_65 rfl 2 rfl ?_
      refine gf_RX8_28 C (ln0) ly0 rfl dX8_settled_66 ?_
      refine gf_RX8_154 C (ln11) ly11 rfl dX8_settled_69 ?_
      refine V_iload C dX8_settled_72 6 rfl ?_
      refine V_iald C (ln12) ly12 dX8_settled_74 ?_
      refine cv_RX8_221 C (ln13) ly13 (ct_X4_spareOf _ _ _ _ _ σ 13 (σ 12 (ix x4)) rP_13) (by decide) rfl rfl (Nat.le_of_ble_eq_true rfl) dX8_settled_75 (fun r3 σ4 => ?_)
      refine V_mmin C (by decide) wl_RX8_215 (Nat.le_of_ble_eq_true rfl) dX8_settled_78 ?_
      refine V_ltI (fun v5 => ?_)
      refine V_istore (L' := [(7, .int v5), (6, .int v2), (5, .int v1), (0, .ref (b + 0)), (1, .int x1), (2, .int x2), (3, .int x3), (4, .int x4)]) C dX8_settled_81 (by decide) rfl ?_
      refine V_iload_n C dX8_settled_83 rfl 5 rfl ?_
      refine V_iload C dX8_settled_84 2 rfl ?_
      refine V_iload C dX8_settled_86 0 rfl ?_
      refine V_iadd C dX8_settled_88 ?_
      refine V_iadd C dX8_settled_89 ?_
      refine V_ltI (fun v6 => ?_)
      refine V_istore_n (L' := [(2, .int v6), (7, .int v5), (6, .int v2), (5, .int v1), (0, .ref (b + 0)), (1, .int x1), (3, .int x3), (4, .int x4)]) C dX8_settled_90 rfl (by decide) rfl ?_
      refine V_iload C dX8_settled_91 1 rfl ?_
      refine V_iload C dX8_settled_93 2 rfl ?_
      refine V_icmp_ge (tgt := 105) C dX8_settled_95 (by decide) ?_ ?_
      · exact V_sub [4, 5, 0, 6, 7] rfl (vj_X8_settled_105 C D ih σ4 x1 v6 x3 x4)
      · refine V_iload_n C dX8_settled_98 rfl 6 rfl ?_
        refine V_iconst (v := (1 : Int32)) C dX8_settled_99 (by decide) ?_
        refine V_iload C dX8_settled_100 7 rfl ?_
        refine V_ishl C dX8_settled_102 ?_
        refine V_ior C dX8_settled_103 ?_
        refine V_ltI (fun v7 => ?_)
        refine V_istore_n (L' := [(3, .int v7), (2, .int v6), (7, .int v5), (6, .int v2), (5, .int v1), (0, .ref (b + 0)), (1, .int x1), (4, .int x4)]) C dX8_settled_104 rfl (by decide) rfl ?_
        exact V_sub [5, 6, 1, 0, 7] rfl (vj_X8_settled_105 C D ih σ4 x1 v6 v7 x4)

set_option maxRecDepth 4000 in
theorem vj_X8_settled_0 {E : Ev} {b : Nat} (C : CX E RX8 cX8_settled 8 3) (D : CR E (some .int))    (σ : Hp) (a1 : Int32)  : VJ rvI (QM E b) E b 8 σ 0 [(0, .ref (b + 0)), (1, .int a1)] [] (f_X8_settled σ a1) := by
  unfold f_X8_settled
  refine V_iconst (v := (0 : Int32)) C dX8_settled_0 (by decide) ?_
  refine V_istore_n (L' := [(2, .int (0 : Int32)), (0, .ref (b + 0)), (1, .int a1)]) C dX8_settled_1 rfl (by decide) rfl ?_
  refine V_iconst (v := (0 : Int32)) C dX8_settled_2 (by decide) ?_
  refine V_istore_n (L' := [(3, .int (0 : Int32)), (2, .int (0 : Int32)), (0, .ref (b + 0)), (1, .int a1)]) C dX8_settled_3 rfl (by decide) rfl ?_
  refine V_iconst (v := (0 : Int32)) C dX8_settled_4 (by decide) ?_
  refine V_istore (L' := [(4, .int (0 : Int32)), (3, .int (0 : Int32)), (2, .int (0 : Int32)), (0, .ref (b + 0)), (1, .int a1)]) C dX8_settled_5 (by decide) rfl ?_
  exact V_sub [3, 4, 2, 1, 0] rfl (vj_X8_settled_7 C D FU σ a1 (0 : Int32) (0 : Int32) (0 : Int32))

theorem ct_X8_settled (l : Launch) (dC : Nat → ClassId) (dI : Nat → Nat → Nat) (cA : Nat → ClassId) (b : Nat) (σ : Hp) (a1 : Int32)  : CT l dC dI cA b yX8_settled cX8_settled 8 (some .int) 3 [.ref (b + 0), .int a1] σ rvI (f_X8_settled σ a1) := CT_of [(0, .ref (b + 0)), (1, .int a1)] (by decide +kernel) rfl (Nat.le_of_ble_eq_true rfl) rfl (fun E _ C D _ _ _ => vj_X8_settled_0 C D σ a1 )
set_option maxRecDepth 4000 in
theorem vj_X8_use_0 {E : Ev} {b : Nat} (C : CX E RX8 cX8_use 4 2) (D : CR E (some .int))    (σ : Hp) (a1 : Int32) (a2 : Int32) (a3 : Int32)  : VJ rvI (QM E b) E b 4 σ 0 [(0, .ref (b + 0)), (1, .int a1), (2, .int a2), (3, .int a3)] [] (f_X8_use σ a1 a2 a3) := by
  unfold f_X8_use
  refine V_aload_n C dX8_use_0 rfl 0 rfl ?_
  refine gf_RX8_28 C (ln0) ly0 rfl dX8_use_1 ?_
  refine V_iload_n C dX8_use_4 rfl 2 rfl ?_
  refine cv_RX8_141 C (ln11) ly11 (ct_X2_has _ _ _ _ _ σ 11 a2 cP_11) (by decide) rfl rfl (Nat.le_of_ble_eq_true rfl) dX8_use_5 (fun r1 σ2 => ?_)
  refine V_if_ne (tgt := 13) C dX8_use_8 (by decide) ?_ ?_
  · refine V_iload_n C dX8_use_13 rfl 1 rfl ?_
    refine V_if_lt (tgt := 33) C dX8_use_14 (by decide) ?_ ?_
    · refine V_bipush (v := (-2 : Int32)) C dX8_use_33 (by decide) ?_
      exact V_iret C D dX8_use_35
    · refine V_iload_n C dX8_use_17 rfl 1 rfl ?_
      refine V_bipush (v := (99 : Int32)) C dX8_use_18 (by decide) ?_
      refine V_icmp_gt (tgt := 33) C dX8_use_20 (by decide) ?_ ?_
      · refine V_bipush (v := (-2 : Int32)) C dX8_use_33 (by decide) ?_
        exact V_iret C D dX8_use_35
      · refine V_iload_n C dX8_use_23 rfl 3 rfl ?_
        refine V_if_lt (tgt := 33) C dX8_use_24 (by decide) ?_ ?_
        · refine V_bipush (v := (-2 : Int32)) C dX8_use_33 (by decide) ?_
          exact V_iret C D dX8_use_35
        · refine V_iload_n C dX8_use_27 rfl 3 rfl ?_
          refine V_bipush (v := (99 : Int32)) C dX8_use_28 (by decide) ?_
          refine V_icmp_le (tgt := 36) C dX8_use_30 (by decide) ?_ ?_
          · refine V_aload_n C dX8_use_36 rfl 0 rfl ?_
            refine gf_RX8_65 C (ln0) ly0 rfl dX8_use_37 ?_
            refine gf_RX8_138 C (ln115) ly115 rfl dX8_use_40 ?_
            refine V_bipush (v := (12 : Int32)) C dX8_use_43 (by decide) ?_
            refine V_icmp_lt (tgt := 51) C dX8_use_45 (by decide) ?_ ?_
            · refine V_aload_n C dX8_use_51 rfl 0 rfl ?_
              refine gf_RX8_65 C (ln0) ly0 rfl dX8_use_52 ?_
              refine V_iload_n C dX8_use_55 rfl 1 rfl ?_
              refine V_iload_n C dX8_use_56 rfl 2 rfl ?_
              refine V_iload_n C dX8_use_57 rfl 3 rfl ?_
              refine cv_RX8_224 C (ln115) ly115 (ct_X1_add _ _ _ _ _ σ2 a1 a2 a3) (by decide) rfl rfl (Nat.le_of_ble_eq_true rfl) dX8_use_58 (fun r3 σ4 => ?_)
              refine V_aload_n C dX8_use_61 rfl 0 rfl ?_
              refine gf_RX8_65 C (ln0) ly0 rfl dX8_use_62 ?_
              refine gf_RX8_138 C (ln115) ly115 rfl dX8_use_65 ?_
              exact V_iret C D dX8_use_68
            · refine V_bipush (v := (-4 : Int32)) C dX8_use_48 (by decide) ?_
              exact V_iret C D dX8_use_50
          · refine V_bipush (v := (-2 : Int32)) C dX8_use_33 (by decide) ?_
            exact V_iret C D dX8_use_35
  · refine V_iconst (v := (-1 : Int32)) C dX8_use_11 (by decide) ?_
    exact V_iret C D dX8_use_12

theorem ct_X8_use (l : Launch) (dC : Nat → ClassId) (dI : Nat → Nat → Nat) (cA : Nat → ClassId) (b : Nat) (σ : Hp) (a1 : Int32) (a2 : Int32) (a3 : Int32)  : CT l dC dI cA b yX8_use cX8_use 4 (some .int) 2 [.ref (b + 0), .int a1, .int a2, .int a3] σ rvI (f_X8_use σ a1 a2 a3) := CT_of [(0, .ref (b + 0)), (1, .int a1), (2, .int a2), (3, .int a3)] (by decide +kernel) rfl (Nat.le_of_ble_eq_true rfl) rfl (fun E _ C D _ _ _ => vj_X8_use_0 C D σ a1 a2 a3 )
set_option maxRecDepth 4000 in
theorem vj_X8_burn_0 {E : Ev} {b : Nat} (C : CX E RX8 cX8_burn 2 1) (D : CR E (some .int))    (σ : Hp)   : VJ rvI (QM E b) E b 2 σ 0 [(0, .ref (b + 0))] [] (f_X8_burn σ ) := by
  unfold f_X8_burn
  refine V_aload_n C dX8_burn_0 rfl 0 rfl ?_
  refine gf_RX8_65 C (ln0) ly0 rfl dX8_burn_1 ?_
  refine gf_RX8_138 C (ln115) ly115 rfl dX8_burn_4 ?_
  refine V_ltI (fun v1 => ?_)
  refine V_istore_n (L' := [(1, .int v1), (0, .ref (b + 0))]) C dX8_burn_7 rfl (by decide) rfl ?_
  refine V_aload_n C dX8_burn_8 rfl 1 rfl ?_
  refine gf_RX8_65 C (ln0) ly0 rfl dX8_burn_9 ?_
  refine V_iconst (v := (0 : Int32)) C dX8_burn_12 (by decide) ?_
  refine pf_RX8_138 C (ln115) ly115 rfl dX8_burn_13 (fun σ2 => ?_)
  refine V_iload_n C dX8_burn_16 rfl 0 rfl ?_
  exact V_iret C D dX8_burn_17

theorem ct_X8_burn (l : Launch) (dC : Nat → ClassId) (dI : Nat → Nat → Nat) (cA : Nat → ClassId) (b : Nat) (σ : Hp)   : CT l dC dI cA b yX8_burn cX8_burn 2 (some .int) 1 [.ref (b + 0)] σ rvI (f_X8_burn σ ) := CT_of [(0, .ref (b + 0))] (by decide +kernel) rfl (Nat.le_of_ble_eq_true rfl) rfl (fun E _ C D _ _ _ => vj_X8_burn_0 C D σ  )
set_option maxRecDepth 4000 in
theorem vj_X8_forged_28 {E : Ev} {b : Nat} (C : CX E RX8 cX8_forged 3 3) (D : CR E (some .int))   {k4 : Hp → Int32 → Int32 → Option (Int32 × Hp)} (hk4 : ∀ (σ : Hp) (x1 : Int32) (x2 : Int32) , VJ rvI (QM E b) E b 3 σ 4 [(0, .ref (b + 0)), (1, .int x1), (2, .int x2)] [] (k4 σ x1 x2)) (σ : Hp) (x1 : Int32) (x2 : Int32)  : VJ rvI (QM E b) E b 3 σ 28 [(0, .ref (b + 0)), (1, .int x1), (2, .int x2)] [] (f_X8_forged_28 k4 σ x1 x2) := by
  unfold f_X8_forged_28
  refine V_iinc (k := 2) (v := (1 : Int32)) (L' := fun v1 => [(2, .int v1), (0, .ref (b + 0)), (1, .int x1)]) C dX8_forged_28 rfl (by decide) (by decide) (fun _ => rfl) (fun v1 => ?_)
  refine V_goto (tgt := 4) C dX8_forged_31 (by decide) ?_
  exact V_sub [1, 2, 0] rfl (hk4 σ x1 v1)

set_option maxRecDepth 4000 in
theorem vj_X8_forged_4 {E : Ev} {b : Nat} (C : CX E RX8 cX8_forged 3 3) (D : CR E (some .int))    : ∀ (n : Nat) (σ : Hp) (x1 : Int32) (x2 : Int32) , VJ rvI (QM E b) E b 3 σ 4 [(0, .ref (b + 0)), (1, .int x1), (2, .int x2)] [] (f_X8_forged_4 n σ x1 x2)
  | 0, σ, x1, x2 => V_none
  | n + 1, σ, x1, x2 => by
    show VJ rvI (QM E b) E b 3 σ 4 [(0, .ref (b + 0)), (1, .int x1), (2, .int x2)] [] (if (99 : Int32) < x2 then (
          some (x1, σ))
        else (
          bd (f_X1_isFalse σ x2 11) fun r1 σ2 =>
          if r1 = 0 then (
            f_X8_forged_28 (f_X8_forged_4 n) σ2 x1 x2)
          else (
            Lt (x1 + (1 : Int32)) fun v3 =>
            f_X8_forged_28 (f_X8_forged_4 n) σ2 v3 x2)))
    have ih := vj_X8_forged_4 (b := b) C D   n
    refine V_iload_n C dX8_forged_4 rfl 2 rfl ?_
    refine V_bipush (v := (99 : Int32)) C dX8_forged_5 (by decide) ?_
    refine V_icmp_gt (tgt := 34) C dX8_forged_7 (by decide) ?_ ?_
    · refine V_iload_n C dX8_forged_34 rfl 1 rfl ?_
      exact V_iret C D dX8_forged_35
    · refine V_aload_n C dX8_forged_10 rfl 0 rfl ?_
      refine gf_RX8_65 C (ln0) ly0 rfl dX8_forged_11 ?_
      refine V_iload_n C dX8_forged_14 rfl 2 rfl ?_
      refine V_aload_n C dX8_forged_15 rfl 0 rfl ?_
      refine gf_RX8_28 C (ln0) ly0 rfl dX8_forged_16 ?_
      refine cv_RX8_228 C (ln115) ly115 (ct_X1_isFalse _ _ _ _ _ σ x2 11 cP_11) (by decide) rfl rfl (Nat.le_of_ble_eq_true rfl) dX8_forged_19 (fun r1 σ2 => ?_)
      refine V_if_eq (tgt := 28) C dX8_forged_22 (by decide) ?_ ?_
      · exact V_sub [0, 1, 2] rfl (vj_X8_forged_28 C D ih σ2 x1 x2)
      · refine V_iinc (k := 1) (v := (1 : Int32)) (L' := fun v3 => [(1, .int v3), (0, .ref (b + 0)), (2, .int x2)]) C dX8_forged_25 rfl (by decide) (by decide) (fun _ => rfl) (fun v3 => ?_)
        exact V_sub [1, 0, 2] rfl (vj_X8_forged_28 C D ih σ2 v3 x2)

set_option maxRecDepth 4000 in
theorem vj_X8_forged_0 {E : Ev} {b : Nat} (C : CX E RX8 cX8_forged 3 3) (D : CR E (some .int))    (σ : Hp)   : VJ rvI (QM E b) E b 3 σ 0 [(0, .ref (b + 0))] [] (f_X8_forged σ ) := by
  unfold f_X8_forged
  refine V_iconst (v := (0 : Int32)) C dX8_forged_0 (by decide) ?_
  refine V_istore_n (L' := [(1, .int (0 : Int32)), (0, .ref (b + 0))]) C dX8_forged_1 rfl (by decide) rfl ?_
  refine V_iconst (v := (0 : Int32)) C dX8_forged_2 (by decide) ?_
  refine V_istore_n (L' := [(2, .int (0 : Int32)), (1, .int (0 : Int32)), (0, .ref (b + 0))]) C dX8_forged_3 rfl (by decide) rfl ?_
  exact V_sub [2, 1, 0] rfl (vj_X8_forged_4 C D FU σ (0 : Int32) (0 : Int32))

theorem ct_X8_forged (l : Launch) (dC : Nat → ClassId) (dI : Nat → Nat → Nat) (cA : Nat → ClassId) (b : Nat) (σ : Hp)   : CT l dC dI cA b yX8_forged cX8_forged 3 (some .int) 3 [.ref (b + 0)] σ rvI (f_X8_forged σ ) := CT_of [(0, .ref (b + 0))] (by decide +kernel) rfl (Nat.le_of_ble_eq_true rfl) rfl (fun E _ C D _ _ _ => vj_X8_forged_0 C D σ  )
set_option maxRecDepth 4000 in
theorem vj_X8_forgedAt_35 {E : Ev} {b : Nat} (C : CX E RX8 cX8_forgedAt 4 3) (D : CR E (some .int))   {k4 : Hp → Int32 → Int32 → Int32 → Option (Int32 × Hp)} (hk4 : ∀ (σ : Hp) (x1 : Int32) (x2 : Int32) (x3 : Int32) , VJ rvI (QM E b) E b 4 σ 4 [(0, .ref (b + 0)), (1, .int x1), (2, .int x2), (3, .int x3)] [] (k4 σ x1 x2 x3)) (σ : Hp) (x1 : Int32) (x2 : Int32) (x3 : Int32)  : VJ rvI (QM E b) E b 4 σ 35 [(0, .ref (b + 0)), (1, .int x1), (2, .int x2), (3, .int x3)] [] (f_X8_forgedAt_35 k4 σ x1 x2 x3) := by
  unfold f_X8_forgedAt_35
  refine V_iinc (k := 3) (v := (1 : Int32)) (L' := fun v1 => [(3, .int v1), (0, .ref (b + 0)), (1, .int x1), (2, .int x2)]) C dX8_forgedAt_35 rfl (by decide) (by decide) (fun _ => rfl) (fun v1 => ?_)
  refine V_goto (tgt := 4) C dX8_forgedAt_38 (by decide) ?_
  exact V_sub [1, 2, 3, 0] rfl (hk4 σ x1 x2 v1)

set_option maxRecDepth 4000 in
theorem vj_X8_forgedAt_4 {E : Ev} {b : Nat} (C : CX E RX8 cX8_forgedAt 4 3) (D : CR E (some .int))    : ∀ (n : Nat) (σ : Hp) (x1 : Int32) (x2 : Int32) (x3 : Int32) , VJ rvI (QM E b) E b 4 σ 4 [(0, .ref (b + 0)), (1, .int x1), (2, .int x2), (3, .int x3)] [] (f_X8_forgedAt_4 n σ x1 x2 x3)
  | 0, σ, x1, x2, x3 => V_none
  | n + 1, σ, x1, x2, x3 => by
    show VJ rvI (QM E b) E b 4 σ 4 [(0, .ref (b + 0)), (1, .int x1), (2, .int x2), (3, .int x3)] [] (if (99 : Int32) < x3 then (
          some ((-9 : Int32), σ))
        else (
          bd (f_X1_isFalse σ x3 11) fun r1 σ2 =>
          if r1 = 0 then (
            f_X8_forgedAt_35 (f_X8_forgedAt_4 n) σ2 x1 x2 x3)
          else (
            if x2 = x1 then (
              some (x3, σ2))
            else (
              Lt (x2 + (1 : Int32)) fun v3 =>
              f_X8_forgedAt_35 (f_X8_forgedAt_4 n) σ2 x1 v3 x3))))
    have ih := vj_X8_forgedAt_4 (b := b) C D   n
    refine V_iload_n C dX8_forgedAt_4 rfl 3 rfl ?_
    refine V_bipush (v := (99 : Int32)) C dX8_forgedAt_5 (by decide) ?_
    refine V_icmp_gt (tgt := 41) C dX8_forgedAt_7 (by decide) ?_ ?_
    · refine V_bipush (v := (-9 : Int32)) C dX8_forgedAt_41 (by decide) ?_
      exact V_iret C D dX8_forgedAt_43
    · refine V_aload_n C dX8_forgedAt_10 rfl 0 rfl ?_
      refine gf_RX8_65 C (ln0) ly0 rfl dX8_forgedAt_11 ?_
      refine V_iload_n C dX8_forgedAt_14 rfl 3 rfl ?_
      refine V_aload_n C dX8_forgedAt_15 rfl 0 rfl ?_
      refine gf_RX8_28 C (ln0) ly0 rfl dX8_forgedAt_16 ?_
      refine cv_RX8_228 C (ln115) ly115 (ct_X1_isFalse _ _ _ _ _ σ x3 11 cP_11) (by decide) rfl rfl (Nat.le_of_ble_eq_true rfl) dX8_forgedAt_19 (fun r1 σ2 => ?_)
      refine V_if_eq (tgt := 35) C dX8_forgedAt_22 (by decide) ?_ ?_
      · exact V_sub [0, 1, 2, 3] rfl (vj_X8_forgedAt_35 C D ih σ2 x1 x2 x3)
      · refine V_iload_n C dX8_forgedAt_25 rfl 2 rfl ?_
        refine V_iload_n C dX8_forgedAt_26 rfl 1 rfl ?_
        refine V_icmp_ne (tgt := 32) C dX8_forgedAt_27 (by decide) ?_ ?_
        · refine V_iinc (k := 2) (v := (1 : Int32)) (L' := fun v3 => [(2, .int v3), (0, .ref (b + 0)), (1, .int x1), (3, .int x3)]) C dX8_forgedAt_32 rfl (by decide) (by decide) (fun _ => rfl) (fun v3 => ?_)
          exact V_sub [1, 2, 0, 3] rfl (vj_X8_forgedAt_35 C D ih σ2 x1 v3 x3)
        · refine V_iload_n C dX8_forgedAt_30 rfl 3 rfl ?_
          exact V_iret C D dX8_forgedAt_31

set_option maxRecDepth 4000 in
theorem vj_X8_forgedAt_0 {E : Ev} {b : Nat} (C : CX E RX8 cX8_forgedAt 4 3) (D : CR E (some .int))    (σ : Hp) (a1 : Int32)  : VJ rvI (QM E b) E b 4 σ 0 [(0, .ref (b + 0)), (1, .int a1)] [] (f_X8_forgedAt σ a1) := by
  unfold f_X8_forgedAt
  refine V_iconst (v := (0 : Int32)) C dX8_forgedAt_0 (by decide) ?_
  refine V_istore_n (L' := [(2, .int (0 : Int32)), (0, .ref (b + 0)), (1, .int a1)]) C dX8_forgedAt_1 rfl (by decide) rfl ?_
  refine V_iconst (v := (0 : Int32)) C dX8_forgedAt_2 (by decide) ?_
  refine V_istore_n (L' := [(3, .int (0 : Int32)), (2, .int (0 : Int32)), (0, .ref (b + 0)), (1, .int a1)]) C dX8_forgedAt_3 rfl (by decide) rfl ?_
  exact V_sub [2, 3, 1, 0] rfl (vj_X8_forgedAt_4 C D FU σ a1 (0 : Int32) (0 : Int32))

theorem ct_X8_forgedAt (l : Launch) (dC : Nat → ClassId) (dI : Nat → Nat → Nat) (cA : Nat → ClassId) (b : Nat) (σ : Hp) (a1 : Int32)  : CT l dC dI cA b yX8_forgedAt cX8_forgedAt 4 (some .int) 3 [.ref (b + 0), .int a1] σ rvI (f_X8_forgedAt σ a1) := CT_of [(0, .ref (b + 0)), (1, .int a1)] (by decide +kernel) rfl (Nat.le_of_ble_eq_true rfl) rfl (fun E _ C D _ _ _ => vj_X8_forgedAt_0 C D σ a1 )
set_option maxRecDepth 4000 in
theorem vj_X8_forgers_52 {E : Ev} {b : Nat} (C : CX E RX8 cX8_forgers 3 3) (D : CR E (some .int))   {k4 : Hp → Int32 → Int32 → Option (Int32 × Hp)} (hk4 : ∀ (σ : Hp) (x1 : Int32) (x2 : Int32) , VJ rvI (QM E b) E b 3 σ 4 [(0, .ref (b + 0)), (1, .int x1), (2, .int x2)] [] (k4 σ x1 x2)) (σ : Hp) (x1 : Int32) (x2 : Int32)  : VJ rvI (QM E b) E b 3 σ 52 [(0, .ref (b + 0)), (1, .int x1), (2, .int x2)] [] (f_X8_forgers_52 k4 σ x1 x2) := by
  unfold f_X8_forgers_52
  refine V_iinc (k := 2) (v := (1 : Int32)) (L' := fun v1 => [(2, .int v1), (0, .ref (b + 0)), (1, .int x1)]) C dX8_forgers_52 rfl (by decide) (by decide) (fun _ => rfl) (fun v1 => ?_)
  refine V_goto (tgt := 4) C dX8_forgers_55 (by decide) ?_
  exact V_sub [1, 2, 0] rfl (hk4 σ x1 v1)

set_option maxRecDepth 4000 in
theorem vj_X8_forgers_4 {E : Ev} {b : Nat} (C : CX E RX8 cX8_forgers 3 3) (D : CR E (some .int))    : ∀ (n : Nat) (σ : Hp) (x1 : Int32) (x2 : Int32) , VJ rvI (QM E b) E b 3 σ 4 [(0, .ref (b + 0)), (1, .int x1), (2, .int x2)] [] (f_X8_forgers_4 n σ x1 x2)
  | 0, σ, x1, x2 => V_none
  | n + 1, σ, x1, x2 => by
    show VJ rvI (QM E b) E b 3 σ 4 [(0, .ref (b + 0)), (1, .int x1), (2, .int x2)] [] (if (σ 115 3) ≤ x2 then (
          bd (f_X2_everyone σ 11) fun r1 σ2 =>
          some ((x1 &&& r1), σ2))
        else (
          ck x2 12 <|
          bd (f_X1_isFalse σ (σ 116 (ix x2)) 11) fun r3 σ4 =>
          if r3 = 0 then (
            f_X8_forgers_52 (f_X8_forgers_4 n) σ4 x1 x2)
          else (
            ck x2 12 <|
            Lt (x1 ||| ((1 : Int32) <<< ((σ4 117 (ix x2)) &&& 31))) fun v5 =>
            f_X8_forgers_52 (f_X8_forgers_4 n) σ4 v5 x2)))
    have ih := vj_X8_forgers_4 (b := b) C D   n
    refine V_iload_n C dX8_forgers_4 rfl 2 rfl ?_
    refine V_aload_n C dX8_forgers_5 rfl 0 rfl ?_
    refine gf_RX8_65 C (ln0) ly0 rfl dX8_forgers_6 ?_
    refine gf_RX8_138 C (ln115) ly115 rfl dX8_forgers_9 ?_
    refine V_icmp_ge (tgt := 58) C dX8_forgers_12 (by decide) ?_ ?_
    · refine V_iload_n C dX8_forgers_58 rfl 1 rfl ?_
      refine V_aload_n C dX8_forgers_59 rfl 0 rfl ?_
      refine gf_RX8_28 C (ln0) ly0 rfl dX8_forgers_60 ?_
      refine cv_RX8_195 C (ln11) ly11 (ct_X2_everyone _ _ _ _ _ σ 11 cP_11) (by decide) rfl rfl (Nat.le_of_ble_eq_true rfl) dX8_forgers_63 (fun r1 σ2 => ?_)
      refine V_iand C dX8_forgers_66 ?_
      exact V_iret C D dX8_forgers_67
    · refine V_aload_n C dX8_forgers_15 rfl 0 rfl ?_
      refine gf_RX8_65 C (ln0) ly0 rfl dX8_forgers_16 ?_
      refine V_aload_n C dX8_forgers_19 rfl 0 rfl ?_
      refine gf_RX8_65 C (ln0) ly0 rfl dX8_forgers_20 ?_
      refine gf_RX8_232 C (ln115) ly115 rfl dX8_forgers_23 ?_
      refine V_iload_n C dX8_forgers_26 rfl 2 rfl ?_
      refine V_iald C (ln116) ly116 dX8_forgers_27 ?_
      refine V_aload_n C dX8_forgers_28 rfl 0 rfl ?_
      refine gf_RX8_28 C (ln0) ly0 rfl dX8_forgers_29 ?_
      refine cv_RX8_228 C (ln115) ly115 (ct_X1_isFalse _ _ _ _ _ σ (σ 116 (ix x2)) 11 cP_11) (by decide) rfl rfl (Nat.le_of_ble_eq_true rfl) dX8_forgers_32 (fun r3 σ4 => ?_)
      refine V_if_eq (tgt := 52) C dX8_forgers_35 (by decide) ?_ ?_
      · exact V_sub [0, 1, 2] rfl (vj_X8_forgers_52 C D ih σ4 x1 x2)
      · refine V_iload_n C dX8_forgers_38 rfl 1 rfl ?_
        refine V_iconst (v := (1 : Int32)) C dX8_forgers_39 (by decide) ?_
        refine V_aload_n C dX8_forgers_40 rfl 0 rfl ?_
        refine gf_RX8_65 C (ln0) ly0 rfl dX8_forgers_41 ?_
        refine gf_RX8_235 C (ln115) ly115 rfl dX8_forgers_44 ?_
        refine V_iload_n C dX8_forgers_47 rfl 2 rfl ?_
        refine V_iald C (ln117) ly117 dX8_forgers_48 ?_
        refine V_ishl C dX8_forgers_49 ?_
        refine V_ior C dX8_forgers_50 ?_
        refine V_ltI (fun v5 => ?_)
        refine V_istore_n (L' := [(1, .int v5), (0, .ref (b + 0)), (2, .int x2)]) C dX8_forgers_51 rfl (by decide) rfl ?_
        exact V_sub [1, 0, 2] rfl (vj_X8_forgers_52 C D ih σ4 v5 x2)

set_option maxRecDepth 4000 in
theorem vj_X8_forgers_0 {E : Ev} {b : Nat} (C : CX E RX8 cX8_forgers 3 3) (D : CR E (some .int))    (σ : Hp)   : VJ rvI (QM E b) E b 3 σ 0 [(0, .ref (b + 0))] [] (f_X8_forgers σ ) := by
  unfold f_X8_forgers
  refine V_iconst (v := (0 : Int32)) C dX8_forgers_0 (by decide) ?_
  refine V_istore_n (L' := [(1, .int (0 : Int32)), (0, .ref (b + 0))]) C dX8_forgers_1 rfl (by decide) rfl ?_
  refine V_iconst (v := (0 : Int32)) C dX8_forgers_2 (by decide) ?_
  refine V_istore_n (L' := [(2, .int (0 : Int32)), (1, .int (0 : Int32)), (0, .ref (b + 0))]) C dX8_forgers_3 rfl (by decide) rfl ?_
  exact V_sub [2, 1, 0] rfl (vj_X8_forgers_4 C D FU σ (0 : Int32) (0 : Int32))

theorem ct_X8_forgers (l : Launch) (dC : Nat → ClassId) (dI : Nat → Nat → Nat) (cA : Nat → ClassId) (b : Nat) (σ : Hp)   : CT l dC dI cA b yX8_forgers cX8_forgers 3 (some .int) 3 [.ref (b + 0)] σ rvI (f_X8_forgers σ ) := CT_of [(0, .ref (b + 0))] (by decide +kernel) rfl (Nat.le_of_ble_eq_true rfl) rfl (fun E _ C D _ _ _ => vj_X8_forgers_0 C D σ  )
set_option maxRecDepth 4000 in
theorem vj_X8_keep_0 {E : Ev} {b : Nat} (C : CX E RX8 cX8_keep 2 3) (D : CR E (some .int))    (σ : Hp) (a1 : Int32)  : VJ rvI (QM E b) E b 2 σ 0 [(0, .ref (b + 0)), (1, .int a1)] [] (f_X8_keep σ a1) := by
  unfold f_X8_keep
  refine V_iload_n C dX8_keep_0 rfl 1 rfl ?_
  refine V_if_lt (tgt := 9) C dX8_keep_1 (by decide) ?_ ?_
  · refine V_iconst (v := (-1 : Int32)) C dX8_keep_9 (by decide) ?_
    exact V_iret C D dX8_keep_10
  · refine V_iload_n C dX8_keep_4 rfl 1 rfl ?_
    refine V_iconst (v := (2 : Int32)) C dX8_keep_5 (by decide) ?_
    refine V_icmp_lt (tgt := 11) C dX8_keep_6 (by decide) ?_ ?_
    · refine V_aload_n C dX8_keep_11 rfl 0 rfl ?_
      refine gf_RX8_71 C (ln0) ly0 rfl dX8_keep_12 ?_
      refine V_iload_n C dX8_keep_15 rfl 1 rfl ?_
      refine V_aald (Cn := "SleepByRation$Slot") C (ln119) ly119 (fun _ => rfl) dX8_keep_16 (fun h1 => ?_)
      refine V_aload_n C dX8_keep_17 rfl 0 rfl ?_
      refine gf_RX8_37 C (ln0) ly0 rfl dX8_keep_18 ?_
      refine V_aload_n C dX8_keep_21 rfl 0 rfl ?_
      refine gf_RX8_44 C (ln0) ly0 rfl dX8_keep_22 ?_
      refine cv_RX8_238 C (slN (spA h1)) (sl0 (spA h1)) (ct_X6_store _ _ _ _ _ σ (120 + 7 * ix a1) 13 (spA h1) rP_13) (by decide) rfl rfl (Nat.le_of_ble_eq_true rfl) dX8_keep_25 (fun r2 σ3 => ?_)
      refine V_aload_n C dX8_keep_28 rfl 0 rfl ?_
      refine gf_RX8_37 C (ln0) ly0 rfl dX8_keep_29 ?_
      refine gf_RX8_123 C (ln13) ly13 rfl dX8_keep_32 ?_
      exact V_iret C D dX8_keep_35
    · refine V_iconst (v := (-1 : Int32)) C dX8_keep_9 (by decide) ?_
      exact V_iret C D dX8_keep_10

theorem ct_X8_keep (l : Launch) (dC : Nat → ClassId) (dI : Nat → Nat → Nat) (cA : Nat → ClassId) (b : Nat) (σ : Hp) (a1 : Int32)  : CT l dC dI cA b yX8_keep cX8_keep 2 (some .int) 3 [.ref (b + 0), .int a1] σ rvI (f_X8_keep σ a1) := CT_of [(0, .ref (b + 0)), (1, .int a1)] (by decide +kernel) rfl (Nat.le_of_ble_eq_true rfl) rfl (fun E _ C D _ _ _ => vj_X8_keep_0 C D σ a1 )
set_option maxRecDepth 4000 in
theorem vj_X8_again_0 {E : Ev} {b : Nat} (C : CX E RX8 cX8_again 2 3) (D : CR E (some .int))    (σ : Hp) (a1 : Int32)  : VJ rvI (QM E b) E b 2 σ 0 [(0, .ref (b + 0)), (1, .int a1)] [] (f_X8_again σ a1) := by
  unfold f_X8_again
  refine V_iload_n C dX8_again_0 rfl 1 rfl ?_
  refine V_if_lt (tgt := 9) C dX8_again_1 (by decide) ?_ ?_
  · refine V_iconst (v := (-1 : Int32)) C dX8_again_9 (by decide) ?_
    exact V_iret C D dX8_again_10
  · refine V_iload_n C dX8_again_4 rfl 1 rfl ?_
    refine V_iconst (v := (2 : Int32)) C dX8_again_5 (by decide) ?_
    refine V_icmp_lt (tgt := 11) C dX8_again_6 (by decide) ?_ ?_
    · refine V_aload_n C dX8_again_11 rfl 0 rfl ?_
      refine gf_RX8_71 C (ln0) ly0 rfl dX8_again_12 ?_
      refine V_iload_n C dX8_again_15 rfl 1 rfl ?_
      refine V_aald (Cn := "SleepByRation$Slot") C (ln119) ly119 (fun _ => rfl) dX8_again_16 (fun h1 => ?_)
      refine gf_RX8_110 C (slN (spA h1)) (sl0 (spA h1)) rfl dX8_again_17 ?_
      refine V_if_ne (tgt := 26) C dX8_again_20 (by decide) ?_ ?_
      · refine V_aload_n C dX8_again_26 rfl 0 rfl ?_
        refine gf_RX8_71 C (ln0) ly0 rfl dX8_again_27 ?_
        refine V_iload_n C dX8_again_30 rfl 1 rfl ?_
        refine V_aald (Cn := "SleepByRation$Slot") C (ln119) ly119 (fun _ => rfl) dX8_again_31 (fun h2 => ?_)
        refine V_aload_n C dX8_again_32 rfl 0 rfl ?_
        refine gf_RX8_37 C (ln0) ly0 rfl dX8_again_33 ?_
        refine V_aload_n C dX8_again_36 rfl 0 rfl ?_
        refine gf_RX8_44 C (ln0) ly0 rfl dX8_again_37 ?_
        refine cv_RX8_242 C (slN (spA h2)) (sl0 (spA h2)) (ct_X6_restore _ _ _ _ _ σ (120 + 7 * ix a1) 13 (spA h2) rP_13) (by decide) rfl rfl (Nat.le_of_ble_eq_true rfl) dX8_again_40 (fun r3 σ4 => ?_)
        refine V_aload_n C dX8_again_43 rfl 0 rfl ?_
        refine gf_RX8_51 C (ln0) ly0 rfl dX8_again_44 ?_
        refine V_iconst (v := (0 : Int32)) C dX8_again_47 (by decide) ?_
        refine pf_RX8_104 C (ln24) ly24 rfl dX8_again_48 (fun σ5 => ?_)
        refine V_aload_n C dX8_again_51 rfl 0 rfl ?_
        refine gf_RX8_37 C (ln0) ly0 rfl dX8_again_52 ?_
        refine gf_RX8_123 C (ln13) ly13 rfl dX8_again_55 ?_
        exact V_iret C D dX8_again_58
      · refine V_bipush (v := (-3 : Int32)) C dX8_again_23 (by decide) ?_
        exact V_iret C D dX8_again_25
    · refine V_iconst (v := (-1 : Int32)) C dX8_again_9 (by decide) ?_
      exact V_iret C D dX8_again_10

theorem ct_X8_again (l : Launch) (dC : Nat → ClassId) (dI : Nat → Nat → Nat) (cA : Nat → ClassId) (b : Nat) (σ : Hp) (a1 : Int32)  : CT l dC dI cA b yX8_again cX8_again 2 (some .int) 3 [.ref (b + 0), .int a1] σ rvI (f_X8_again σ a1) := CT_of [(0, .ref (b + 0)), (1, .int a1)] (by decide +kernel) rfl (Nat.le_of_ble_eq_true rfl) rfl (fun E _ C D _ _ _ => vj_X8_again_0 C D σ a1 )
set_option maxRecDepth 4000 in
theorem vj_X9_in_0 {E : Ev} {b : Nat} (C : CX E RX9 cX9_in 6 1) (D : CR E (some .boolean))    (σ : Hp) (a0 : Int64) (a2 : Int64) (a4 : Int64)  : VJ rvI (QM E b) E b 6 σ 0 [(0, .long a0), (2, .long a2), (4, .long a4)] [] (f_X9_in σ a0 a2 a4) := by
  unfold f_X9_in
  refine V_lload_n C dX9_in_0 rfl 0 rfl ?_
  refine V_lload_n C dX9_in_1 rfl 1 rfl ?_
  refine V_lcmp C dX9_in_2 ?_
  refine V_if_lt (tgt := 17) C dX9_in_3 (by decide) ?_ ?_
  · refine V_iconst (v := (0 : Int32)) C dX9_in_17 (by decide) ?_
    exact V_zret C D dX9_in_18
  · refine V_lload_n C dX9_in_6 rfl 0 rfl ?_
    refine V_lload C dX9_in_7 2 rfl ?_
    refine V_lcmp C dX9_in_9 ?_
    refine V_if_gt (tgt := 17) C dX9_in_10 (by decide) ?_ ?_
    · refine V_iconst (v := (0 : Int32)) C dX9_in_17 (by decide) ?_
      exact V_zret C D dX9_in_18
    · refine V_iconst (v := (1 : Int32)) C dX9_in_13 (by decide) ?_
      refine V_goto (tgt := 18) C dX9_in_14 (by decide) ?_
      exact V_zret C D dX9_in_18

theorem ct_X9_in (l : Launch) (dC : Nat → ClassId) (dI : Nat → Nat → Nat) (cA : Nat → ClassId) (b : Nat) (σ : Hp) (a0 : Int64) (a2 : Int64) (a4 : Int64)  : CT l dC dI cA b yX9_in cX9_in 6 (some .boolean) 1 [.long a0, .long a2, .long a4] σ rvI (f_X9_in σ a0 a2 a4) := CT_of [(0, .long a0), (2, .long a2), (4, .long a4)] (by decide +kernel) rfl (Nat.le_of_ble_eq_true rfl) rfl (fun E _ C D _ _ _ => vj_X9_in_0 C D σ a0 a2 a4 )
set_option maxRecDepth 4000 in
theorem vj_X9_has_0 {E : Ev} {b : Nat} (C : CX E RX9 cX9_has 2 1) (D : CR E (some .boolean))    (σ : Hp) (a0 : Int32) (a1 : Int32)  : VJ rvI (QM E b) E b 2 σ 0 [(0, .int a0), (1, .int a1)] [] (f_X9_has σ a0 a1) := by
  unfold f_X9_has
  refine V_iload_n C dX9_has_0 rfl 0 rfl ?_
  refine V_iload_n C dX9_has_1 rfl 1 rfl ?_
  refine V_ishr C dX9_has_2 ?_
  refine V_iconst (v := (1 : Int32)) C dX9_has_3 (by decide) ?_
  refine V_iand C dX9_has_4 ?_
  refine V_iconst (v := (1 : Int32)) C dX9_has_5 (by decide) ?_
  refine V_icmp_ne (tgt := 13) C dX9_has_6 (by decide) ?_ ?_
  · refine V_iconst (v := (0 : Int32)) C dX9_has_13 (by decide) ?_
    exact V_zret C D dX9_has_14
  · refine V_iconst (v := (1 : Int32)) C dX9_has_9 (by decide) ?_
    refine V_goto (tgt := 14) C dX9_has_10 (by decide) ?_
    exact V_zret C D dX9_has_14

theorem ct_X9_has (l : Launch) (dC : Nat → ClassId) (dI : Nat → Nat → Nat) (cA : Nat → ClassId) (b : Nat) (σ : Hp) (a0 : Int32) (a1 : Int32)  : CT l dC dI cA b yX9_has cX9_has 2 (some .boolean) 1 [.int a0, .int a1] σ rvI (f_X9_has σ a0 a1) := CT_of [(0, .int a0), (1, .int a1)] (by decide +kernel) rfl (Nat.le_of_ble_eq_true rfl) rfl (fun E _ C D _ _ _ => vj_X9_has_0 C D σ a0 a1 )
set_option maxRecDepth 4000 in
theorem vj_X9_noGuard_0 {E : Ev} {b : Nat} (C : CX E RX9 cX9_noGuard 2 2) (D : CR E (some .boolean))    (σ : Hp) (a1 : Int32)  : VJ rvI (QM E b) E b 2 σ 0 [(0, .ref (b + 134)), (1, .int a1)] [] (f_X9_noGuard σ a1) := by
  unfold f_X9_noGuard
  refine V_iload_n C dX9_noGuard_0 rfl 1 rfl ?_
  refine V_i2l C dX9_noGuard_1 ?_
  refine V_lconst (v := (0 : Int64)) C dX9_noGuard_2 (by decide) ?_
  refine V_aload_n C dX9_noGuard_3 rfl 0 rfl ?_
  refine gf_RX9_90 C (ln134) ly134 rfl dX9_noGuard_4 ?_
  refine V_iconst (v := (1 : Int32)) C dX9_noGuard_7 (by decide) ?_
  refine V_isub C dX9_noGuard_8 ?_
  refine V_i2l C dX9_noGuard_9 ?_
  refine cs_RX9_93 C (ct_X9_in _ _ _ _ _ σ (a1.toInt64) (0 : Int64) (((σ 134 4) - (1 : Int32)).toInt64)) (by decide) rfl rfl (Nat.le_of_ble_eq_true rfl) dX9_noGuard_10 (fun r1 σ2 => ?_)
  refine V_if_ne (tgt := 20) C dX9_noGuard_13 (by decide) ?_ ?_
  · refine V_iconst (v := (0 : Int32)) C dX9_noGuard_20 (by decide) ?_
    exact V_zret C D dX9_noGuard_21
  · refine V_iconst (v := (1 : Int32)) C dX9_noGuard_16 (by decide) ?_
    refine V_goto (tgt := 21) C dX9_noGuard_17 (by decide) ?_
    exact V_zret C D dX9_noGuard_21

theorem ct_X9_noGuard (l : Launch) (dC : Nat → ClassId) (dI : Nat → Nat → Nat) (cA : Nat → ClassId) (b : Nat) (σ : Hp) (a1 : Int32)  : CT l dC dI cA b yX9_noGuard cX9_noGuard 2 (some .boolean) 2 [.ref (b + 134), .int a1] σ rvI (f_X9_noGuard σ a1) := CT_of [(0, .ref (b + 134)), (1, .int a1)] (by decide +kernel) rfl (Nat.le_of_ble_eq_true rfl) rfl (fun E _ C D _ _ _ => vj_X9_noGuard_0 C D σ a1 )
set_option maxRecDepth 4000 in
theorem vj_X9_noSet_0 {E : Ev} {b : Nat} (C : CX E RX9 cX9_noSet 2 2) (D : CR E (some .boolean))    (σ : Hp) (a1 : Int32)  : VJ rvI (QM E b) E b 2 σ 0 [(0, .ref (b + 134)), (1, .int a1)] [] (f_X9_noSet σ a1) := by
  unfold f_X9_noSet
  refine V_iload_n C dX9_noSet_0 rfl 1 rfl ?_
  refine V_i2l C dX9_noSet_1 ?_
  refine V_lconst (v := (0 : Int64)) C dX9_noSet_2 (by decide) ?_
  refine V_iconst (v := (1 : Int32)) C dX9_noSet_3 (by decide) ?_
  refine V_aload_n C dX9_noSet_4 rfl 0 rfl ?_
  refine gf_RX9_90 C (ln134) ly134 rfl dX9_noSet_5 ?_
  refine V_ishl C dX9_noSet_8 ?_
  refine V_iconst (v := (1 : Int32)) C dX9_noSet_9 (by decide) ?_
  refine V_isub C dX9_noSet_10 ?_
  refine V_i2l C dX9_noSet_11 ?_
  refine cs_RX9_93 C (ct_X9_in _ _ _ _ _ σ (a1.toInt64) (0 : Int64) ((((1 : Int32) <<< ((σ 134 4) &&& 31)) - (1 : Int32)).toInt64)) (by decide) rfl rfl (Nat.le_of_ble_eq_true rfl) dX9_noSet_12 (fun r1 σ2 => ?_)
  refine V_if_ne (tgt := 22) C dX9_noSet_15 (by decide) ?_ ?_
  · refine V_iconst (v := (0 : Int32)) C dX9_noSet_22 (by decide) ?_
    exact V_zret C D dX9_noSet_23
  · refine V_iconst (v := (1 : Int32)) C dX9_noSet_18 (by decide) ?_
    refine V_goto (tgt := 23) C dX9_noSet_19 (by decide) ?_
    exact V_zret C D dX9_noSet_23

theorem ct_X9_noSet (l : Launch) (dC : Nat → ClassId) (dI : Nat → Nat → Nat) (cA : Nat → ClassId) (b : Nat) (σ : Hp) (a1 : Int32)  : CT l dC dI cA b yX9_noSet cX9_noSet 2 (some .boolean) 2 [.ref (b + 134), .int a1] σ rvI (f_X9_noSet σ a1) := CT_of [(0, .ref (b + 134)), (1, .int a1)] (by decide +kernel) rfl (Nat.le_of_ble_eq_true rfl) rfl (fun E _ C D _ _ _ => vj_X9_noSet_0 C D σ a1 )
set_option maxRecDepth 4000 in
theorem vj_X9_write_39 {E : Ev} {b : Nat} (C : CX E RX9 cX9_write 5 2) (D : CR E (some .int))    : ∀ (n : Nat) (σ : Hp) (x2 : Int64) (x4 : Int32) , VJ rvI (QM E b) E b 5 σ 39 [(0, .ref (b + 134)), (2, .long x2), (4, .int x4)] [] (f_X9_write_39 n σ x2 x4)
  | 0, σ, x2, x4 => V_none
  | n + 1, σ, x2, x4 => by
    show VJ rvI (QM E b) E b 5 σ 39 [(0, .ref (b + 134)), (2, .long x2), (4, .int x4)] [] (if x4 < 0 then (
          some ((σ 134 2), σ))
        else (
          ck (σ 134 2) 48 <|
          Lt (wr σ 135 (ix (σ 134 2)) (((x2 >>> (((8 : Int32) * x4).toInt64 &&& 63)).toInt32) &&& (255 : Int32))) fun σ1 =>
          Lt (wr σ1 134 2 ((σ1 134 2) + (1 : Int32))) fun σ2 =>
          Lt (x4 + (-1 : Int32)) fun v3 =>
          f_X9_write_39 n σ2 x2 v3))
    have ih := vj_X9_write_39 (b := b) C D   n
    refine V_iload C dX9_write_39 2 rfl ?_
    refine V_if_lt (tgt := 81) C dX9_write_41 (by decide) ?_ ?_
    · refine V_aload_n C dX9_write_81 rfl 0 rfl ?_
      refine gf_RX9_99 C (ln134) ly134 rfl dX9_write_82 ?_
      exact V_iret C D dX9_write_85
    · refine V_aload_n C dX9_write_44 rfl 0 rfl ?_
      refine gf_RX9_7 C (ln134) ly134 rfl dX9_write_45 ?_
      refine V_aload_n C dX9_write_48 rfl 0 rfl ?_
      refine gf_RX9_99 C (ln134) ly134 rfl dX9_write_49 ?_
      refine V_lload_n C dX9_write_52 rfl 1 rfl ?_
      refine V_bipush (v := (8 : Int32)) C dX9_write_53 (by decide) ?_
      refine V_iload C dX9_write_55 2 rfl ?_
      refine V_imul C dX9_write_57 ?_
      refine V_lshr C dX9_write_58 ?_
      refine V_l2i C dX9_write_59 ?_
      refine V_sipush (v := (255 : Int32)) C dX9_write_60 (by decide) ?_
      refine V_iand C dX9_write_63 ?_
      refine V_iast C (ln135) ly135 dX9_write_64 (fun σ1 => ?_)
      refine V_aload_n C dX9_write_65 rfl 0 rfl ?_
      refine V_dup C dX9_write_66 rfl ?_
      refine gf_RX9_99 C (ln134) ly134 rfl dX9_write_67 ?_
      refine V_iconst (v := (1 : Int32)) C dX9_write_70 (by decide) ?_
      refine V_iadd C dX9_write_71 ?_
      refine pf_RX9_99 C (ln134) ly134 rfl dX9_write_72 (fun σ2 => ?_)
      refine V_iinc (k := 2) (v := (-1 : Int32)) (L' := fun v3 => [(4, .int v3), (0, .ref (b + 134)), (2, .long x2)]) C dX9_write_75 rfl (by decide) (by decide) (fun _ => rfl) (fun v3 => ?_)
      refine V_goto (tgt := 39) C dX9_write_78 (by decide) ?_
      exact V_sub [1, 2, 0] rfl (ih σ2 x2 v3)

set_option maxRecDepth 4000 in
theorem vj_X9_write_0 {E : Ev} {b : Nat} (C : CX E RX9 cX9_write 5 2) (D : CR E (some .int))    (σ : Hp) (a1 : Int32) (a2 : Int64)  : VJ rvI (QM E b) E b 5 σ 0 [(0, .ref (b + 134)), (1, .int a1), (2, .long a2)] [] (f_X9_write σ a1 a2) := by
  unfold f_X9_write
  refine V_aload_n C dX9_write_0 rfl 0 rfl ?_
  refine V_iconst (v := (0 : Int32)) C dX9_write_1 (by decide) ?_
  refine pf_RX9_87 C (ln134) ly134 rfl dX9_write_2 (fun σ1 => ?_)
  refine V_iload_n C dX9_write_5 rfl 1 rfl ?_
  refine V_i2l C dX9_write_6 ?_
  refine V_lconst (v := (1 : Int64)) C dX9_write_7 (by decide) ?_
  refine V_ldc2 C wk_RX9_97 dX9_write_8 ?_
  refine cs_RX9_93 C (ct_X9_in _ _ _ _ _ σ1 (a1.toInt64) (1 : Int64) (8 : Int64)) (by decide) rfl rfl (Nat.le_of_ble_eq_true rfl) dX9_write_11 (fun r2 σ3 => ?_)
  refine V_if_ne (tgt := 20) C dX9_write_14 (by decide) ?_ ?_
  · refine V_aload_n C dX9_write_20 rfl 0 rfl ?_
    refine gf_RX9_99 C (ln134) ly134 rfl dX9_write_21 ?_
    refine V_iload_n C dX9_write_24 rfl 1 rfl ?_
    refine V_iadd C dX9_write_25 ?_
    refine V_bipush (v := (48 : Int32)) C dX9_write_26 (by decide) ?_
    refine V_icmp_le (tgt := 34) C dX9_write_28 (by decide) ?_ ?_
    · refine V_iload_n C dX9_write_34 rfl 1 rfl ?_
      refine V_iconst (v := (1 : Int32)) C dX9_write_35 (by decide) ?_
      refine V_isub C dX9_write_36 ?_
      refine V_ltI (fun v4 => ?_)
      refine V_istore (L' := [(4, .int v4), (0, .ref (b + 134)), (1, .int a1), (2, .long a2)]) C dX9_write_37 (by decide) rfl ?_
      exact V_sub [1, 3, 0] rfl (vj_X9_write_39 C D FU σ3 a2 v4)
    · refine V_bipush (v := (-4 : Int32)) C dX9_write_31 (by decide) ?_
      exact V_iret C D dX9_write_33
  · refine V_bipush (v := (-2 : Int32)) C dX9_write_17 (by decide) ?_
    exact V_iret C D dX9_write_19

theorem ct_X9_write (l : Launch) (dC : Nat → ClassId) (dI : Nat → Nat → Nat) (cA : Nat → ClassId) (b : Nat) (σ : Hp) (a1 : Int32) (a2 : Int64)  : CT l dC dI cA b yX9_write cX9_write 5 (some .int) 2 [.ref (b + 134), .int a1, .long a2] σ rvI (f_X9_write σ a1 a2) := CT_of [(0, .ref (b + 134)), (1, .int a1), (2, .long a2)] (by decide +kernel) rfl (Nat.le_of_ble_eq_true rfl) rfl (fun E _ C D _ _ _ => vj_X9_write_0 C D σ a1 a2 )
set_option maxRecDepth 4000 in
theorem vj_X9_wipe_0 {E : Ev} {b : Nat} (C : CX E RX9 cX9_wipe 2 1) (D : CR E (some .int))    (σ : Hp)   : VJ rvI (QM E b) E b 2 σ 0 [(0, .ref (b + 134))] [] (f_X9_wipe σ ) := by
  unfold f_X9_wipe
  refine V_aload_n C dX9_wipe_0 rfl 0 rfl ?_
  refine V_iconst (v := (0 : Int32)) C dX9_wipe_1 (by decide) ?_
  refine pf_RX9_87 C (ln134) ly134 rfl dX9_wipe_2 (fun σ1 => ?_)
  refine V_aload_n C dX9_wipe_5 rfl 0 rfl ?_
  refine gf_RX9_99 C (ln134) ly134 rfl dX9_wipe_6 ?_
  refine V_ltI (fun v2 => ?_)
  refine V_istore_n (L' := [(1, .int v2), (0, .ref (b + 134))]) C dX9_wipe_9 rfl (by decide) rfl ?_
  refine V_aload_n C dX9_wipe_10 rfl 1 rfl ?_
  refine V_iconst (v := (0 : Int32)) C dX9_wipe_11 (by decide) ?_
  refine pf_RX9_99 C (ln134) ly134 rfl dX9_wipe_12 (fun σ3 => ?_)
  refine V_iload_n C dX9_wipe_15 rfl 0 rfl ?_
  exact V_iret C D dX9_wipe_16

theorem ct_X9_wipe (l : Launch) (dC : Nat → ClassId) (dI : Nat → Nat → Nat) (cA : Nat → ClassId) (b : Nat) (σ : Hp)   : CT l dC dI cA b yX9_wipe cX9_wipe 2 (some .int) 1 [.ref (b + 134)] σ rvI (f_X9_wipe σ ) := CT_of [(0, .ref (b + 134))] (by decide +kernel) rfl (Nat.le_of_ble_eq_true rfl) rfl (fun E _ C D _ _ _ => vj_X9_wipe_0 C D σ  )
set_option maxRecDepth 4000 in
theorem vj_X9_figure_0 {E : Ev} {b : Nat} (C : CX E RX9 cX9_figure 3 2) (D : CR E (some .int))    (σ : Hp) (a1 : Int32) (a2 : Int32)  : VJ rvI (QM E b) E b 3 σ 0 [(0, .ref (b + 134)), (1, .int a1), (2, .int a2)] [] (f_X9_figure σ a1 a2) := by
  unfold f_X9_figure
  refine V_aload_n C dX9_figure_0 rfl 0 rfl ?_
  refine gf_RX9_102 C (ln134) ly134 rfl dX9_figure_1 ?_
  refine V_aload_n C dX9_figure_4 rfl 0 rfl ?_
  refine gf_RX9_99 C (ln134) ly134 rfl dX9_figure_5 ?_
  refine V_icmp_eq (tgt := 34) C dX9_figure_8 (by decide) ?_ ?_
  · refine V_bipush (v := (-9 : Int32)) C dX9_figure_34 (by decide) ?_
    exact V_iret C D dX9_figure_36
  · refine V_aload_n C dX9_figure_11 rfl 0 rfl ?_
    refine gf_RX9_7 C (ln134) ly134 rfl dX9_figure_12 ?_
    refine V_aload_n C dX9_figure_15 rfl 0 rfl ?_
    refine gf_RX9_102 C (ln134) ly134 rfl dX9_figure_16 ?_
    refine V_iald C (ln135) ly135 dX9_figure_19 ?_
    refine V_bipush (v := (48 : Int32)) C dX9_figure_20 (by decide) ?_
    refine V_isub C dX9_figure_22 ?_
    refine V_i2l C dX9_figure_23 ?_
    refine V_iload_n C dX9_figure_24 rfl 1 rfl ?_
    refine V_i2l C dX9_figure_25 ?_
    refine V_iload_n C dX9_figure_26 rfl 2 rfl ?_
    refine V_i2l C dX9_figure_27 ?_
    refine cs_RX9_93 C (ct_X9_in _ _ _ _ _ σ (((σ 135 (ix (σ 134 3))) - (48 : Int32)).toInt64) (a1.toInt64) (a2.toInt64)) (by decide) rfl rfl (Nat.le_of_ble_eq_true rfl) dX9_figure_28 (fun r1 σ2 => ?_)
    refine V_if_ne (tgt := 37) C dX9_figure_31 (by decide) ?_ ?_
    · refine V_aload_n C dX9_figure_37 rfl 0 rfl ?_
      refine V_dup C dX9_figure_38 rfl ?_
      refine gf_RX9_102 C (ln134) ly134 rfl dX9_figure_39 ?_
      refine V_iconst (v := (1 : Int32)) C dX9_figure_42 (by decide) ?_
      refine V_iadd C dX9_figure_43 ?_
      refine pf_RX9_102 C (ln134) ly134 rfl dX9_figure_44 (fun σ3 => ?_)
      refine V_aload_n C dX9_figure_47 rfl 0 rfl ?_
      refine gf_RX9_7 C (ln134) ly134 rfl dX9_figure_48 ?_
      refine V_aload_n C dX9_figure_51 rfl 0 rfl ?_
      refine gf_RX9_102 C (ln134) ly134 rfl dX9_figure_52 ?_
      refine V_iconst (v := (1 : Int32)) C dX9_figure_55 (by decide) ?_
      refine V_isub C dX9_figure_56 ?_
      refine V_iald C (ln135) ly135 dX9_figure_57 ?_
      refine V_bipush (v := (48 : Int32)) C dX9_figure_58 (by decide) ?_
      refine V_isub C dX9_figure_60 ?_
      exact V_iret C D dX9_figure_61
    · refine V_bipush (v := (-9 : Int32)) C dX9_figure_34 (by decide) ?_
      exact V_iret C D dX9_figure_36

theorem ct_X9_figure (l : Launch) (dC : Nat → ClassId) (dI : Nat → Nat → Nat) (cA : Nat → ClassId) (b : Nat) (σ : Hp) (a1 : Int32) (a2 : Int32)  : CT l dC dI cA b yX9_figure cX9_figure 3 (some .int) 2 [.ref (b + 134), .int a1, .int a2] σ rvI (f_X9_figure σ a1 a2) := CT_of [(0, .ref (b + 134)), (1, .int a1), (2, .int a2)] (by decide +kernel) rfl (Nat.le_of_ble_eq_true rfl) rfl (fun E _ C D _ _ _ => vj_X9_figure_0 C D σ a1 a2 )
set_option maxRecDepth 4000 in
theorem vj_X9_readGuard_64 {E : Ev} {b : Nat} (C : CX E RX9 cX9_readGuard 5 3) (D : CR E (some .boolean))    (σ : Hp) (x1 : Int32) (x2 : Int32) (x3 : Int32) (s0 : Int32)  : VJ rvI (QM E b) E b 5 σ 64 [(0, .ref (b + 134)), (1, .int x1), (2, .int x2), (3, .int x3)] [.int s0] (f_X9_readGuard_64 σ x1 x2 x3 s0) := by
  unfold f_X9_readGuard_64
  refine V_istore (L' := [(4, .int s0), (0, .ref (b + 134)), (1, .int x1), (2, .int x2), (3, .int x3)]) C dX9_readGuard_64 (by decide) rfl ?_
  refine V_iload C dX9_readGuard_66 0 rfl ?_
  refine V_bipush (v := (-9 : Int32)) C dX9_readGuard_68 (by decide) ?_
  refine V_icmp_ne (tgt := 75) C dX9_readGuard_70 (by decide) ?_ ?_
  · refine V_aload_n C dX9_readGuard_75 rfl 1 rfl ?_
    refine gf_RX9_42 C (ln134) ly134 rfl dX9_readGuard_76 ?_
    refine V_aload_n C dX9_readGuard_79 rfl 1 rfl ?_
    refine gf_RX9_109 C (ln134) ly134 rfl dX9_readGuard_80 ?_
    refine V_bipush (v := (10 : Int32)) C dX9_readGuard_83 (by decide) ?_
    refine V_iload_n C dX9_readGuard_85 rfl 2 rfl ?_
    refine V_imul C dX9_readGuard_86 ?_
    refine V_iload_n C dX9_readGuard_87 rfl 3 rfl ?_
    refine V_iadd C dX9_readGuard_88 ?_
    refine V_iast C (ln144) ly144 dX9_readGuard_89 (fun σ1 => ?_)
    refine V_aload_n C dX9_readGuard_90 rfl 1 rfl ?_
    refine gf_RX9_45 C (ln134) ly134 rfl dX9_readGuard_91 ?_
    refine V_aload_n C dX9_readGuard_94 rfl 1 rfl ?_
    refine gf_RX9_109 C (ln134) ly134 rfl dX9_readGuard_95 ?_
    refine V_iload_n C dX9_readGuard_98 rfl 4 rfl ?_
    refine V_iast C (ln145) ly145 dX9_readGuard_99 (fun σ2 => ?_)
    refine V_aload_n C dX9_readGuard_100 rfl 1 rfl ?_
    refine gf_RX9_48 C (ln134) ly134 rfl dX9_readGuard_101 ?_
    refine V_aload_n C dX9_readGuard_104 rfl 1 rfl ?_
    refine gf_RX9_109 C (ln134) ly134 rfl dX9_readGuard_105 ?_
    refine V_iload C dX9_readGuard_108 0 rfl ?_
    refine V_iast C (ln146) ly146 dX9_readGuard_110 (fun σ3 => ?_)
    refine V_aload_n C dX9_readGuard_111 rfl 1 rfl ?_
    refine gf_RX9_51 C (ln134) ly134 rfl dX9_readGuard_112 ?_
    refine V_aload_n C dX9_readGuard_115 rfl 1 rfl ?_
    refine gf_RX9_109 C (ln134) ly134 rfl dX9_readGuard_116 ?_
    refine V_bipush (v := (-9 : Int32)) C dX9_readGuard_119 (by decide) ?_
    refine V_iast C (ln147) ly147 dX9_readGuard_121 (fun σ4 => ?_)
    refine V_aload_n C dX9_readGuard_122 rfl 1 rfl ?_
    refine V_dup C dX9_readGuard_123 rfl ?_
    refine gf_RX9_109 C (ln134) ly134 rfl dX9_readGuard_124 ?_
    refine V_iconst (v := (1 : Int32)) C dX9_readGuard_127 (by decide) ?_
    refine V_iadd C dX9_readGuard_128 ?_
    refine pf_RX9_109 C (ln134) ly134 rfl dX9_readGuard_129 (fun σ5 => ?_)
    refine V_iconst (v := (1 : Int32)) C dX9_readGuard_132 (by decide) ?_
    exact V_zret C D dX9_readGuard_133
  · refine V_iconst (v := (0 : Int32)) C dX9_readGuard_73 (by decide) ?_
    exact V_zret C D dX9_readGuard_74

set_option maxRecDepth 4000 in
theorem vj_X9_readGuard_45 {E : Ev} {b : Nat} (C : CX E RX9 cX9_readGuard 5 3) (D : CR E (some .boolean))    (σ : Hp) (x1 : Int32) (x2 : Int32) (s0 : Int32)  : VJ rvI (QM E b) E b 5 σ 45 [(0, .ref (b + 134)), (1, .int x1), (2, .int x2)] [.int s0] (f_X9_readGuard_45 σ x1 x2 s0) := by
  unfold f_X9_readGuard_45
  refine V_istore_n (L' := [(3, .int s0), (0, .ref (b + 134)), (1, .int x1), (2, .int x2)]) C dX9_readGuard_45 rfl (by decide) rfl ?_
  refine V_iload_n C dX9_readGuard_46 rfl 0 rfl ?_
  refine V_bipush (v := (-9 : Int32)) C dX9_readGuard_47 (by decide) ?_
  refine V_icmp_ne (tgt := 57) C dX9_readGuard_49 (by decide) ?_ ?_
  · refine V_aload_n C dX9_readGuard_57 rfl 1 rfl ?_
    refine V_iconst (v := (0 : Int32)) C dX9_readGuard_58 (by decide) ?_
    refine V_bipush (v := (9 : Int32)) C dX9_readGuard_59 (by decide) ?_
    refine cv_RX9_105 C (ln134) ly134 (ct_X9_figure _ _ _ _ _ σ (0 : Int32) (9 : Int32)) (by decide) rfl rfl (Nat.le_of_ble_eq_true rfl) dX9_readGuard_61 (fun r1 σ2 => ?_)
    exact V_sub [1, 2, 3, 0] rfl (vj_X9_readGuard_64 C D σ2 x1 x2 s0 r1)
  · refine V_bipush (v := (-9 : Int32)) C dX9_readGuard_52 (by decide) ?_
    refine V_goto (tgt := 64) C dX9_readGuard_54 (by decide) ?_
    exact V_sub [1, 2, 3, 0] rfl (vj_X9_readGuard_64 C D σ x1 x2 s0 (-9 : Int32))

set_option maxRecDepth 4000 in
theorem vj_X9_readGuard_26 {E : Ev} {b : Nat} (C : CX E RX9 cX9_readGuard 5 3) (D : CR E (some .boolean))    (σ : Hp) (x1 : Int32) (s0 : Int32)  : VJ rvI (QM E b) E b 5 σ 26 [(0, .ref (b + 134)), (1, .int x1)] [.int s0] (f_X9_readGuard_26 σ x1 s0) := by
  unfold f_X9_readGuard_26
  refine V_istore_n (L' := [(2, .int s0), (0, .ref (b + 134)), (1, .int x1)]) C dX9_readGuard_26 rfl (by decide) rfl ?_
  refine V_iload_n C dX9_readGuard_27 rfl 0 rfl ?_
  refine V_bipush (v := (-9 : Int32)) C dX9_readGuard_28 (by decide) ?_
  refine V_icmp_ne (tgt := 38) C dX9_readGuard_30 (by decide) ?_ ?_
  · refine V_aload_n C dX9_readGuard_38 rfl 1 rfl ?_
    refine V_iconst (v := (0 : Int32)) C dX9_readGuard_39 (by decide) ?_
    refine V_bipush (v := (9 : Int32)) C dX9_readGuard_40 (by decide) ?_
    refine cv_RX9_105 C (ln134) ly134 (ct_X9_figure _ _ _ _ _ σ (0 : Int32) (9 : Int32)) (by decide) rfl rfl (Nat.le_of_ble_eq_true rfl) dX9_readGuard_42 (fun r1 σ2 => ?_)
    exact V_sub [1, 2, 0] rfl (vj_X9_readGuard_45 C D σ2 x1 s0 r1)
  · refine V_bipush (v := (-9 : Int32)) C dX9_readGuard_33 (by decide) ?_
    refine V_goto (tgt := 45) C dX9_readGuard_35 (by decide) ?_
    exact V_sub [1, 2, 0] rfl (vj_X9_readGuard_45 C D σ x1 s0 (-9 : Int32))

set_option maxRecDepth 4000 in
theorem vj_X9_readGuard_0 {E : Ev} {b : Nat} (C : CX E RX9 cX9_readGuard 5 3) (D : CR E (some .boolean))    (σ : Hp)   : VJ rvI (QM E b) E b 5 σ 0 [(0, .ref (b + 134))] [] (f_X9_readGuard σ ) := by
  unfold f_X9_readGuard
  refine V_aload_n C dX9_readGuard_0 rfl 0 rfl ?_
  refine V_iconst (v := (0 : Int32)) C dX9_readGuard_1 (by decide) ?_
  refine V_bipush (v := (9 : Int32)) C dX9_readGuard_2 (by decide) ?_
  refine cv_RX9_105 C (ln134) ly134 (ct_X9_figure _ _ _ _ _ σ (0 : Int32) (9 : Int32)) (by decide) rfl rfl (Nat.le_of_ble_eq_true rfl) dX9_readGuard_4 (fun r1 σ2 => ?_)
  refine V_istore_n (L' := [(1, .int r1), (0, .ref (b + 134))]) C dX9_readGuard_7 rfl (by decide) rfl ?_
  refine V_iload_n C dX9_readGuard_8 rfl 0 rfl ?_
  refine V_bipush (v := (-9 : Int32)) C dX9_readGuard_9 (by decide) ?_
  refine V_icmp_ne (tgt := 19) C dX9_readGuard_11 (by decide) ?_ ?_
  · refine V_aload_n C dX9_readGuard_19 rfl 1 rfl ?_
    refine V_iconst (v := (0 : Int32)) C dX9_readGuard_20 (by decide) ?_
    refine V_bipush (v := (9 : Int32)) C dX9_readGuard_21 (by decide) ?_
    refine cv_RX9_105 C (ln134) ly134 (ct_X9_figure _ _ _ _ _ σ2 (0 : Int32) (9 : Int32)) (by decide) rfl rfl (Nat.le_of_ble_eq_true rfl) dX9_readGuard_23 (fun r3 σ4 => ?_)
    exact V_sub [1, 0] rfl (vj_X9_readGuard_26 C D σ4 r1 r3)
  · refine V_bipush (v := (-9 : Int32)) C dX9_readGuard_14 (by decide) ?_
    refine V_goto (tgt := 26) C dX9_readGuard_16 (by decide) ?_
    exact V_sub [1, 0] rfl (vj_X9_readGuard_26 C D σ2 r1 (-9 : Int32))

theorem ct_X9_readGuard (l : Launch) (dC : Nat → ClassId) (dI : Nat → Nat → Nat) (cA : Nat → ClassId) (b : Nat) (σ : Hp)   : CT l dC dI cA b yX9_readGuard cX9_readGuard 5 (some .boolean) 3 [.ref (b + 134)] σ rvI (f_X9_readGuard σ ) := CT_of [(0, .ref (b + 134))] (by decide +kernel) rfl (Nat.le_of_ble_eq_true rfl) rfl (fun E _ C D _ _ _ => vj_X9_readGuard_0 C D σ  )
set_option maxRecDepth 4000 in
theorem vj_X9_single_29 {E : Ev} {b : Nat} (C : CX E RX9 cX9_single 3 1) (D : CR E (some .int))   {k4 : Hp → Int32 → Int32 → Option (Int32 × Hp)} (hk4 : ∀ (σ : Hp) (x1 : Int32) (x2 : Int32) , VJ rvI (QM E b) E b 3 σ 4 [(0, .ref (b + 134)), (1, .int x1), (2, .int x2)] [] (k4 σ x1 x2)) (σ : Hp) (x2 : Int32) (s0 : Int32) (s1 : Int32)  : VJ rvI (QM E b) E b 3 σ 29 [(0, .ref (b + 134)), (2, .int x2)] [.int s0, .int s1] (f_X9_single_29 k4 σ x2 s0 s1) := by
  unfold f_X9_single_29
  refine V_iadd C dX9_single_29 ?_
  refine V_ltI (fun v1 => ?_)
  refine V_istore_n (L' := [(1, .int v1), (0, .ref (b + 134)), (2, .int x2)]) C dX9_single_30 rfl (by decide) rfl ?_
  refine V_iinc (k := 2) (v := (1 : Int32)) (L' := fun v2 => [(2, .int v2), (1, .int v1), (0, .ref (b + 134))]) C dX9_single_31 rfl (by decide) (by decide) (fun _ => rfl) (fun v2 => ?_)
  refine V_goto (tgt := 4) C dX9_single_34 (by decide) ?_
  exact V_sub [2, 1, 0] rfl (hk4 σ v1 v2)

set_option maxRecDepth 4000 in
theorem vj_X9_single_4 {E : Ev} {b : Nat} (C : CX E RX9 cX9_single 3 1) (D : CR E (some .int))    : ∀ (n : Nat) (σ : Hp) (x1 : Int32) (x2 : Int32) , VJ rvI (QM E b) E b 3 σ 4 [(0, .ref (b + 134)), (1, .int x1), (2, .int x2)] [] (f_X9_single_4 n σ x1 x2)
  | 0, σ, x1, x2 => V_none
  | n + 1, σ, x1, x2 => by
    show VJ rvI (QM E b) E b 3 σ 4 [(0, .ref (b + 134)), (1, .int x1), (2, .int x2)] [] (if (σ 134 17) ≤ x2 then (
          some (x1, σ))
        else (
          ck x2 5 <|
          if (σ 147 (ix x2)) = (-9 : Int32) then (
            f_X9_single_29 (f_X9_single_4 n) σ x2 (1 : Int32) x1)
          else (
            f_X9_single_29 (f_X9_single_4 n) σ x2 (0 : Int32) x1)))
    have ih := vj_X9_single_4 (b := b) C D   n
    refine V_iload_n C dX9_single_4 rfl 2 rfl ?_
    refine V_aload_n C dX9_single_5 rfl 0 rfl ?_
    refine gf_RX9_109 C (ln134) ly134 rfl dX9_single_6 ?_
    refine V_icmp_ge (tgt := 37) C dX9_single_9 (by decide) ?_ ?_
    · refine V_iload_n C dX9_single_37 rfl 1 rfl ?_
      exact V_iret C D dX9_single_38
    · refine V_iload_n C dX9_single_12 rfl 1 rfl ?_
      refine V_aload_n C dX9_single_13 rfl 0 rfl ?_
      refine gf_RX9_51 C (ln134) ly134 rfl dX9_single_14 ?_
      refine V_iload_n C dX9_single_17 rfl 2 rfl ?_
      refine V_iald C (ln147) ly147 dX9_single_18 ?_
      refine V_bipush (v := (-9 : Int32)) C dX9_single_19 (by decide) ?_
      refine V_icmp_ne (tgt := 28) C dX9_single_21 (by decide) ?_ ?_
      · refine V_iconst (v := (0 : Int32)) C dX9_single_28 (by decide) ?_
        exact V_sub [0, 2] rfl (vj_X9_single_29 C D ih σ x2 (0 : Int32) x1)
      · refine V_iconst (v := (1 : Int32)) C dX9_single_24 (by decide) ?_
        refine V_goto (tgt := 29) C dX9_single_25 (by decide) ?_
        exact V_sub [0, 2] rfl (vj_X9_single_29 C D ih σ x2 (1 : Int32) x1)

set_option maxRecDepth 4000 in
theorem vj_X9_single_0 {E : Ev} {b : Nat} (C : CX E RX9 cX9_single 3 1) (D : CR E (some .int))    (σ : Hp)   : VJ rvI (QM E b) E b 3 σ 0 [(0, .ref (b + 134))] [] (f_X9_single σ ) := by
  unfold f_X9_single
  refine V_iconst (v := (0 : Int32)) C dX9_single_0 (by decide) ?_
  refine V_istore_n (L' := [(1, .int (0 : Int32)), (0, .ref (b + 134))]) C dX9_single_1 rfl (by decide) rfl ?_
  refine V_iconst (v := (0 : Int32)) C dX9_single_2 (by decide) ?_
  refine V_istore_n (L' := [(2, .int (0 : Int32)), (1, .int (0 : Int32)), (0, .ref (b + 134))]) C dX9_single_3 rfl (by decide) rfl ?_
  exact V_sub [2, 1, 0] rfl (vj_X9_single_4 C D FU σ (0 : Int32) (0 : Int32))

theorem ct_X9_single (l : Launch) (dC : Nat → ClassId) (dI : Nat → Nat → Nat) (cA : Nat → ClassId) (b : Nat) (σ : Hp)   : CT l dC dI cA b yX9_single cX9_single 3 (some .int) 1 [.ref (b + 134)] σ rvI (f_X9_single σ ) := CT_of [(0, .ref (b + 134))] (by decide +kernel) rfl (Nat.le_of_ble_eq_true rfl) rfl (fun E _ C D _ _ _ => vj_X9_single_0 C D σ  )
