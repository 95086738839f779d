def f_X4_copyFrom   (σ : Hp) (o : Nat) (q1 : Nat) : Option (Unit × Hp) :=
  Lt (va_up σ (o + 1) (va_cpy (σ (q1 + 1)) (σ (o + 1)) 0 0 5)) fun σ1 =>
  Lt (va_up σ1 (o + 2) (va_cpy (σ1 (q1 + 2)) (σ1 (o + 2)) 0 0 5)) fun σ2 =>
  Lt (va_up σ2 (o + 3) (va_cpy (σ2 (q1 + 3)) (σ2 (o + 3)) 0 0 5)) fun σ3 =>
  Lt (va_up σ3 (o + 4) (va_cpy (σ3 (q1 + 4)) (σ3 (o + 4)) 0 0 5)) fun σ4 =>
  Lt (wr σ4 o 5 (σ4 q1 5)) fun σ5 =>
  Lt (wr σ5 o 6 (σ5 q1 6)) fun σ6 =>
  Lt (wr σ6 o 7 (σ6 q1 7)) fun σ7 =>
  Lt (wr σ7 o 8 (σ7 q1 8)) fun σ8 =>
  some ((), σ8)

def f_X0_push   (σ : Hp) (q1 : Nat) : Option (Unit × Hp) :=
  ck (σ 24 1) 12 <|
  bd (f_X4_copyFrom σ (26 + 5 * ix (σ 24 1)) q1) fun r2 σ3 =>
  nzI (12 : Int32) <|
  Lt (wr σ3 24 1 (((σ3 24 1) + (1 : Int32)) - ((σ3 24 1) + (1 : Int32)) / (12 : Int32) * (12 : Int32))) fun σ4 =>
  Lt (wr σ4 24 2 (if ((σ4 24 2) + (1 : Int32)) < (12 : Int32) then ((σ4 24 2) + (1 : Int32)) else (12 : Int32))) fun σ5 =>
  some ((), σ5)

def f_X0_pop   (σ : Hp) (q1 : Nat) : Option (Unit × Hp) :=
  nzI (12 : Int32) <|
  Lt (wr σ 24 1 ((((σ 24 1) + (12 : Int32)) - (1 : Int32)) - (((σ 24 1) + (12 : Int32)) - (1 : Int32)) / (12 : Int32) * (12 : Int32))) fun σ1 =>
  Lt (wr σ1 24 2 ((σ1 24 2) - (1 : Int32))) fun σ2 =>
  Lt (σ2 q1 6) fun v3 =>
  ck (σ2 24 1) 12 <|
  bd (f_X4_copyFrom σ2 q1 (26 + 5 * ix (σ2 24 1))) fun r5 σ6 =>
  Lt (wr σ6 q1 6 v3) fun σ7 =>
  some ((), σ7)

def f_X1_add   (σ : Hp) (a1 : Int32) (a2 : Int32) (a3 : Int32) : Option (Unit × Hp) :=
  if (12 : Int32) ≤ (σ 115 3) then (
    some ((), σ))
  else (
    ck (σ 115 3) 12 <|
    Lt (wr σ 116 (ix (σ 115 3)) a1) fun σ1 =>
    ck (σ1 115 3) 12 <|
    Lt (wr σ1 117 (ix (σ1 115 3)) a2) fun σ2 =>
    ck (σ2 115 3) 12 <|
    Lt (wr σ2 118 (ix (σ2 115 3)) a3) fun σ3 =>
    Lt (wr σ3 115 3 ((σ3 115 3) + (1 : Int32))) fun σ4 =>
    some ((), σ4))

def f_X1_clash_35  (q3 : Nat) (σ : Hp)  : Option (Int32 × Hp) :=
  zr (1 : Int32) σ

def f_X1_clash   (σ : Hp) (a1 : Int32) (a2 : Int32) (q3 : Nat) : Option (Int32 × Hp) :=
  ck a1 12 <|
  ck a2 12 <|
  if (σ 118 (ix a1)) = (σ 118 (ix a2)) then (
    ck a1 12 <|
    ck (σ 117 (ix a1)) 5 <|
    ck a2 12 <|
    if (σ (q3 + 1) (ix (σ 117 (ix a1)))) = (σ 117 (ix a2)) then (
      zr (0 : Int32) σ)
    else (
      f_X1_clash_35 q3 σ ))
  else (
    f_X1_clash_35 q3 σ )

def f_X1_isFalse_53 (k13 : Hp → Int32 → Int32 → Int32 → Option (Int32 × Hp)) (k2 : Hp → Int32 → Int32 → Option (Int32 × Hp)) (q2 : Nat) (σ : Hp) (x1 : Int32) (x3 : Int32) (x4 : Int32) : Option (Int32 × Hp) :=
  Lt (x4 + (1 : Int32)) fun v1 =>
  k13 σ x1 x3 v1

def f_X1_isFalse_59 (k2 : Hp → Int32 → Int32 → Option (Int32 × Hp)) (q2 : Nat) (σ : Hp) (x1 : Int32) (x3 : Int32) : Option (Int32 × Hp) :=
  Lt (x3 + (1 : Int32)) fun v1 =>
  k2 σ x1 v1

def f_X1_isFalse_13 (k2 : Hp → Int32 → Int32 → Option (Int32 × Hp)) (q2 : Nat) : Nat → Hp → Int32 → Int32 → Int32 → Option (Int32 × Hp)
  | 0, _, _, _, _ => none
  | n + 1, σ, x1, x3, x4 =>
    if x3 ≤ x4 then (
      f_X1_isFalse_59 k2 q2 σ x1 x3)
    else (
      ck x3 12 <|
      if (σ 116 (ix x3)) = x1 then (
        ck x4 12 <|
        if (σ 116 (ix x4)) = x1 then (
          bd (f_X1_clash σ x3 x4 q2) fun r1 σ2 =>
          if r1 = 0 then (
            f_X1_isFalse_53 (f_X1_isFalse_13 k2 q2 n) k2 q2 σ2 x1 x3 x4)
          else (
            zr (1 : Int32) σ2))
        else (
          f_X1_isFalse_53 (f_X1_isFalse_13 k2 q2 n) k2 q2 σ x1 x3 x4))
      else (
        f_X1_isFalse_59 k2 q2 σ x1 x3))

def f_X1_isFalse_2  (q2 : Nat) : Nat → Hp → Int32 → Int32 → Option (Int32 × Hp)
  | 0, _, _, _ => none
  | n + 1, σ, x1, x3 =>
    if (σ 115 3) ≤ x3 then (
      zr (0 : Int32) σ)
    else (
      f_X1_isFalse_13 (f_X1_isFalse_2 q2 n) q2 FU σ x1 x3 (0 : Int32))

def f_X1_isFalse   (σ : Hp) (a1 : Int32) (q2 : Nat) : Option (Int32 × Hp) :=
  f_X1_isFalse_2 q2 FU σ a1 (0 : Int32)

def f_J7_fill_53178_5  (q0 : Nat) (q0n : Nat) : Nat → Hp → Int32 → Int32 → Int32 → Option (Unit × Hp)
  | 0, _, _, _, _ => none
  | n + 1, σ, x1, x2, x3 =>
    if x3 ≤ x2 then (
      some ((), σ))
    else (
      ck x2 q0n <|
      Lt (wr σ q0 (ix x2) x1) fun σ1 =>
      Lt (x2 + (1 : Int32)) fun v2 =>
      f_J7_fill_53178_5 q0 q0n n σ1 x1 v2 x3)

def f_J7_fill_53178   (σ : Hp) (q0 : Nat) (q0n : Nat) (a1 : Int32) : Option (Unit × Hp) :=
  Lt (nI q0n) fun v1 =>
  f_J7_fill_53178_5 q0 q0n FU σ a1 (0 : Int32) v1

def f_X2_clear   (σ : Hp) (o : Nat) : Option (Unit × Hp) :=
  bd (f_J7_fill_53178 σ (o + 1) 5 (-9 : Int32)) fun r1 σ2 =>
  Lt (wr σ2 o 1 (0 : Int32)) fun σ3 =>
  Lt (wr σ3 o 2 (0 : Int32)) fun σ4 =>
  Lt (wr σ4 o 3 (1 : Int32)) fun σ5 =>
  some ((), σ5)

def f_X2_copyFrom   (σ : Hp) (o : Nat) (q1 : Nat) : Option (Unit × Hp) :=
  Lt (va_up σ (o + 1) (va_cpy (σ (q1 + 1)) (σ (o + 1)) 0 0 5)) fun σ1 =>
  Lt (wr σ1 o 1 (σ1 q1 1)) fun σ2 =>
  Lt (wr σ2 o 2 (σ2 q1 2)) fun σ3 =>
  Lt (wr σ3 o 3 (σ3 q1 3)) fun σ4 =>
  some ((), σ4)

def f_X2_has   (σ : Hp) (o : Nat) (a1 : Int32) : Option (Int32 × Hp) :=
  if a1 < 0 then (
    zr (0 : Int32) σ)
  else (
    if (σ o 1) ≤ a1 then (
      zr (0 : Int32) σ)
    else (
      zr (1 : Int32) σ))

def f_X2_everyone   (σ : Hp) (o : Nat) : Option (Int32 × Hp) :=
  some ((((1 : Int32) <<< ((σ o 1) &&& 31)) - (1 : Int32)), σ)

def f_X2_hasAll   (σ : Hp) (o : Nat) (a1 : Int32) : Option (Int32 × Hp) :=
  bd (f_X2_everyone σ o) fun r1 σ2 =>
  if (a1 &&& (r1 ^^^ (-1 : Int32))) = 0 then (
    zr (1 : Int32) σ2)
  else (
    zr (0 : Int32) σ2)

def f_X2_twinless_26 (k4 : Hp → Int32 → Int32 → Option (Int32 × Hp)) (o : Nat) (σ : Hp) (x1 : Int32) (x2 : Int32) : Option (Int32 × Hp) :=
  Lt (x2 + (1 : Int32)) fun v1 =>
  k4 σ x1 v1

def f_X2_twinless_4  (o : Nat) : Nat → Hp → Int32 → Int32 → Option (Int32 × Hp)
  | 0, _, _, _ => none
  | n + 1, σ, x1, x2 =>
    if (σ o 1) ≤ x2 then (
      some (x1, σ))
    else (
      ck x2 5 <|
      if (σ (o + 1) (ix x2)) = (-9 : Int32) then (
        Lt (x1 + (1 : Int32)) fun v1 =>
        f_X2_twinless_26 (f_X2_twinless_4 o n) o σ v1 x2)
      else (
        f_X2_twinless_26 (f_X2_twinless_4 o n) o σ x1 x2))

def f_X2_twinless   (σ : Hp) (o : Nat) : Option (Int32 × Hp) :=
  f_X2_twinless_4 o FU σ (0 : Int32) (0 : Int32)

def f_X3_next_61   (σ : Hp)  : Option (Int32 × Hp) :=
  Lt (wr σ 3 4 (σ 3 3)) fun σ1 =>
  some ((0 : Int32), σ1)

def f_X3_next   (σ : Hp) (a1 : Int32) (a2 : Int32) : Option (Int32 × Hp) :=
  if (σ 3 4) = (-9 : Int32) then (
    if (σ 3 3) < (σ 1 1) then (
      ck (σ 3 3) 48 <|
      Lt (σ 2 (ix (σ 3 3))) fun v1 =>
      if v1 < a1 then (
        f_X3_next_61 σ )
      else (
        if v1 ≤ a2 then (
          Lt (wr σ 3 3 ((σ 3 3) + (1 : Int32))) fun σ2 =>
          some ((v1 - a1), σ2))
        else (
          f_X3_next_61 σ )))
    else (
      Lt (wr σ 3 4 (σ 1 1)) fun σ3 =>
      some ((0 : Int32), σ3)))
  else (
    some ((0 : Int32), σ))

def f_X3_readHead_70   (σ : Hp) (s0 : Int32) (s1 : Int32) : Option (Unit × Hp) :=
  Lt (wr σ 4 3 (s1 + s0)) fun σ1 =>
  some ((), σ1)

def f_X3_readHead_45   (σ : Hp) (x1 : Int32) (s0 : Int32) : Option (Unit × Hp) :=
  bd (f_X3_next σ s0 (57 : Int32)) fun r1 σ2 =>
  if x1 = 0 then (
    f_X3_readHead_70 σ2 (r1 + (1 : Int32)) ((10 : Int32) * x1))
  else (
    f_X3_readHead_70 σ2 r1 ((10 : Int32) * x1))

def f_X3_readHead   (σ : Hp)  : Option (Unit × Hp) :=
  bd (f_X3_next σ (70 : Int32) (70 : Int32)) fun r1 σ2 =>
  bd (f_X3_next σ2 (48 : Int32) (53 : Int32)) fun r3 σ4 =>
  Lt (wr σ4 4 2 r3) fun σ5 =>
  bd (f_X3_next σ5 (48 : Int32) (57 : Int32)) fun r6 σ7 =>
  if r6 = 0 then (
    f_X3_readHead_45 σ7 r6 (49 : Int32))
  else (
    f_X3_readHead_45 σ7 r6 (48 : Int32))

def f_X3_readGuard   (σ : Hp)  : Option (Unit × Hp) :=
  Lt (σ 4 1) fun v1 =>
  bd (f_X3_next σ (48 : Int32) (57 : Int32)) fun r2 σ3 =>
  bd (f_X3_next σ3 (48 : Int32) (57 : Int32)) fun r4 σ5 =>
  ck v1 5 <|
  Lt (wr σ5 7 (ix v1) (((10 : Int32) * r2) + r4)) fun σ6 =>
  bd (f_X3_next σ6 (48 : Int32) (57 : Int32)) fun r7 σ8 =>
  ck v1 5 <|
  Lt (wr σ8 8 (ix v1) r7) fun σ9 =>
  bd (f_X3_next σ9 (48 : Int32) (57 : Int32)) fun r10 σ11 =>
  ck v1 5 <|
  Lt (wr σ11 9 (ix v1) r10) fun σ12 =>
  Lt (wr σ12 4 1 (v1 + (1 : Int32))) fun σ13 =>
  some ((), σ13)

def f_X3_nextTwin_53   (σ : Hp) (x2 : Int32) (x3 : Int32) : Option (Int32 × Hp) :=
  Lt (wr σ 3 4 x2) fun σ1 =>
  some (x3, σ1)

def f_X3_nextTwin   (σ : Hp) (a1 : Int32) : Option (Int32 × Hp) :=
  Lt (σ 3 3) fun v1 =>
  bd (f_X3_next σ (48 : Int32) (57 : Int32)) fun r2 σ3 =>
  if (σ3 3 4) = (-9 : Int32) then (
    bd (f_X2_has σ3 4 r2) fun r4 σ5 =>
    if r4 = 0 then (
      f_X3_nextTwin_53 σ5 v1 r2)
    else (
      ck r2 5 <|
      if (σ5 5 (ix r2)) = (-9 : Int32) then (
        if r2 = a1 then (
          f_X3_nextTwin_53 σ5 v1 r2)
        else (
          some (r2, σ5)))
      else (
        f_X3_nextTwin_53 σ5 v1 r2)))
  else (
    some (r2, σ3))

def f_X3_readTwins   (σ : Hp)  : Option (Unit × Hp) :=
  bd (f_X3_nextTwin σ (-9 : Int32)) fun r1 σ2 =>
  bd (f_X3_nextTwin σ2 r1) fun r3 σ4 =>
  if (σ4 3 4) = (-9 : Int32) then (
    ck r1 5 <|
    Lt (wr σ4 5 (ix r1) r3) fun σ5 =>
    ck r3 5 <|
    Lt (wr σ5 5 (ix r3) r1) fun σ6 =>
    some ((), σ6))
  else (
    some ((), σ4))

def f_X3_readPart_81   (σ : Hp)  : Option (Unit × Hp) :=
  Lt (wr σ 3 4 (σ 3 3)) fun σ1 =>
  some ((), σ1)

def f_X3_readPart_47   (σ : Hp) (x1 : Int32) : Option (Unit × Hp) :=
  if x1 = (84 : Int32) then (
    bd (f_X2_twinless σ 4) fun r1 σ2 =>
    if r1 < (2 : Int32) then (
      f_X3_readPart_81 σ2 )
    else (
      Lt (wr σ2 3 3 ((σ2 3 3) + (1 : Int32))) fun σ3 =>
      bd (f_X3_readTwins σ3 ) fun r4 σ5 =>
      some ((), σ5)))
  else (
    f_X3_readPart_81 σ )

def f_X3_readPart   (σ : Hp)  : Option (Unit × Hp) :=
  ck (σ 3 3) 48 <|
  Lt (σ 2 (ix (σ 3 3))) fun v1 =>
  if v1 = (71 : Int32) then (
    if (5 : Int32) ≤ (σ 4 1) then (
      f_X3_readPart_47 σ v1)
    else (
      Lt (wr σ 3 3 ((σ 3 3) + (1 : Int32))) fun σ2 =>
      bd (f_X3_readGuard σ2 ) fun r3 σ4 =>
      some ((), σ4)))
  else (
    f_X3_readPart_47 σ v1)

def f_X3_read_63   (σ : Hp)  : Option (Int32 × Hp) :=
  some ((σ 3 4), σ)

def f_X3_read_24   : Nat → Hp → Int32 → Option (Int32 × Hp)
  | 0, _, _ => none
  | n + 1, σ, x1 =>
    if (48 : Int32) ≤ x1 then (
      f_X3_read_63 σ )
    else (
      if (σ 3 4) = (-9 : Int32) then (
        if (σ 1 1) ≤ (σ 3 3) then (
          f_X3_read_63 σ )
        else (
          bd (f_X3_readPart σ ) fun r1 σ2 =>
          Lt (x1 + (1 : Int32)) fun v3 =>
          f_X3_read_24 n σ2 v3))
      else (
        f_X3_read_63 σ ))

def f_X3_read   (σ : Hp)  : Option (Int32 × Hp) :=
  Lt (wr σ 3 3 (0 : Int32)) fun σ1 =>
  Lt (wr σ1 3 4 (-9 : Int32)) fun σ2 =>
  bd (f_X2_clear σ2 4) fun r3 σ4 =>
  bd (f_X3_readHead σ4 ) fun r5 σ6 =>
  f_X3_read_24 FU σ6 (0 : Int32)

def f_X4_tiredOfAll_4  (o : Nat) : Nat → Hp → Int32 → Int32 → Option (Int32 × Hp)
  | 0, _, _, _ => none
  | n + 1, σ, x1, x2 =>
    if (σ (chO o) 1) ≤ x2 then (
      some (x1, σ))
    else (
      ck x2 5 <|
      Lt (x1 + (σ (o + 1) (ix x2))) fun v1 =>
      Lt (x2 + (1 : Int32)) fun v2 =>
      f_X4_tiredOfAll_4 o n σ v1 v2)

def f_X4_tiredOfAll   (σ : Hp) (o : Nat) : Option (Int32 × Hp) :=
  f_X4_tiredOfAll_4 o FU σ (0 : Int32) (0 : Int32)

def f_X4_leastTiredBehind_4  (o : Nat) : Nat → Hp → Int32 → Int32 → Int32 → Option (Int32 × Hp)
  | 0, _, _, _, _ => none
  | n + 1, σ, x1, x2, x3 =>
    if (σ (chO o) 1) ≤ x3 then (
      some (x2, σ))
    else (
      ck x3 5 <|
      Lt (x2 + (if (0 : Int32) < ((σ (o + 1) (ix x3)) - ((4 : Int32) * x1)) then ((σ (o + 1) (ix x3)) - ((4 : Int32) * x1)) else (0 : Int32))) fun v1 =>
      Lt (x3 + (1 : Int32)) fun v2 =>
      f_X4_leastTiredBehind_4 o n σ x1 v1 v2)

def f_X4_leastTiredBehind   (σ : Hp) (o : Nat) (a1 : Int32) : Option (Int32 × Hp) :=
  f_X4_leastTiredBehind_4 o FU σ a1 (0 : Int32) (0 : Int32)

def f_X4_isLike_2  (o : Nat) (q1 : Nat) : Nat → Hp → Int32 → Option (Int32 × Hp)
  | 0, _, _ => none
  | n + 1, σ, x2 =>
    if (σ (chO o) 1) ≤ x2 then (
      if (σ o 5) = (σ q1 5) then (
        if (σ o 6) = (σ q1 6) then (
          zr (1 : Int32) σ)
        else (
          zr (0 : Int32) σ))
      else (
        zr (0 : Int32) σ))
    else (
      ck x2 5 <|
      ck x2 5 <|
      if (σ (o + 1) (ix x2)) = (σ (q1 + 1) (ix x2)) then (
        ck x2 5 <|
        ck x2 5 <|
        if (σ (o + 2) (ix x2)) = (σ (q1 + 2) (ix x2)) then (
          ck x2 5 <|
          ck x2 5 <|
          if (σ (o + 3) (ix x2)) = (σ (q1 + 3) (ix x2)) then (
            Lt (x2 + (1 : Int32)) fun v1 =>
            f_X4_isLike_2 o q1 n σ v1)
          else (
            zr (0 : Int32) σ))
        else (
          zr (0 : Int32) σ))
      else (
        zr (0 : Int32) σ))

def f_X4_isLike   (σ : Hp) (o : Nat) (q1 : Nat) : Option (Int32 × Hp) :=
  f_X4_isLike_2 o q1 FU σ (0 : Int32)

def f_J6_bitCount_0f7a4   (σ : Hp) (a0 : Int32) : Option (Int32 × Hp) :=
  Lt (a0 - (((a0.toUInt32 >>> ((1 : Int32).toUInt32 &&& Int32.toUInt32 31)).toInt32) &&& (1431655765 : Int32))) fun v1 =>
  Lt ((v1 &&& (858993459 : Int32)) + (((v1.toUInt32 >>> ((2 : Int32).toUInt32 &&& Int32.toUInt32 31)).toInt32) &&& (858993459 : Int32))) fun v2 =>
  Lt ((v2 + ((v2.toUInt32 >>> ((4 : Int32).toUInt32 &&& Int32.toUInt32 31)).toInt32)) &&& (252645135 : Int32)) fun v3 =>
  Lt (v3 + ((v3.toUInt32 >>> ((8 : Int32).toUInt32 &&& Int32.toUInt32 31)).toInt32)) fun v4 =>
  Lt (v4 + ((v4.toUInt32 >>> ((16 : Int32).toUInt32 &&& Int32.toUInt32 31)).toInt32)) fun v5 =>
  some ((v5 &&& (63 : Int32)), σ)

def f_X4_giversOf_90 (k14 : Hp → Int32 → Int32 → Int32 → Option (Int32 × Hp)) (o : Nat) (σ : Hp) (x2 : Int32) (x3 : Int32) (x4 : Int32) : Option (Int32 × Hp) :=
  Lt (x4 + (1 : Int32)) fun v1 =>
  k14 σ x2 x3 v1

def f_X4_giversOf_85 (k14 : Hp → Int32 → Int32 → Int32 → Option (Int32 × Hp)) (o : Nat) (σ : Hp) (x2 : Int32) (x4 : Int32) (s0 : Int32) (s1 : Int32) (s2 : Int32) : Option (Int32 × Hp) :=
  Lt (s2 &&& ((s1 <<< (s0 &&& 31)) ^^^ (-1 : Int32))) fun v1 =>
  f_X4_giversOf_90 k14 o σ x2 v1 x4

def f_X4_giversOf_14  (o : Nat) : Nat → Hp → Int32 → Int32 → Int32 → Option (Int32 × Hp)
  | 0, _, _, _, _ => none
  | n + 1, σ, x2, x3, x4 =>
    if (σ (chO o) 1) ≤ x4 then (
      some (x3, σ))
    else (
      ck x4 5 <|
      Lt (σ ((chO o) + 1) (ix x4)) fun v1 =>
      if v1 ≤ x4 then (
        f_X4_giversOf_90 (f_X4_giversOf_14 o n) o σ x2 x3 x4)
      else (
        if (((x2 >>> (x4 &&& 31)) &&& (x2 >>> (v1 &&& 31))) &&& (1 : Int32)) = 0 then (
          f_X4_giversOf_90 (f_X4_giversOf_14 o n) o σ x2 x3 x4)
        else (
          ck v1 5 <|
          ck x4 5 <|
          if (σ (o + 2) (ix v1)) ≤ (σ (o + 2) (ix x4)) then (
            f_X4_giversOf_85 (f_X4_giversOf_14 o n) o σ x2 x4 v1 (1 : Int32) x3)
          else (
            f_X4_giversOf_85 (f_X4_giversOf_14 o n) o σ x2 x4 x4 (1 : Int32) x3))))

def f_X4_giversOf   (σ : Hp) (o : Nat) (a1 : Int32) : Option (Int32 × Hp) :=
  Lt (a1 &&& ((σ o 6) ^^^ (-1 : Int32))) fun v1 =>
  f_X4_giversOf_14 o FU σ v1 v1 (0 : Int32)

def f_X4_allows_84 (k24 : Hp → Int32 → Int32 → Int32 → Option (Int32 × Hp)) (o : Nat) (σ : Hp) (x1 : Int32) (x2 : Int32) (x3 : Int32) : Option (Int32 × Hp) :=
  Lt (x3 + (1 : Int32)) fun v1 =>
  k24 σ x1 x2 v1

def f_X4_allows_59 (k24 : Hp → Int32 → Int32 → Int32 → Option (Int32 × Hp)) (o : Nat) (σ : Hp) (x1 : Int32) (x2 : Int32) (x3 : Int32) (x4 : Int32) : Option (Int32 × Hp) :=
  if ((x1 &&& (σ o 6)) &&& x4) = 0 then (
    f_X4_allows_84 k24 o σ x1 x2 x3)
  else (
    ck x3 5 <|
    if (σ (o + 3) (ix x3)) < (9 : Int32) then (
      f_X4_allows_84 k24 o σ x1 x2 x3)
    else (
      zr (0 : Int32) σ))

def f_X4_allows_24  (o : Nat) : Nat → Hp → Int32 → Int32 → Int32 → Option (Int32 × Hp)
  | 0, _, _, _, _ => none
  | n + 1, σ, x1, x2, x3 =>
    if (σ (chO o) 1) ≤ x3 then (
      zr (1 : Int32) σ)
    else (
      Lt ((1 : Int32) <<< (x3 &&& 31)) fun v1 =>
      if (x2 &&& v1) = 0 then (
        f_X4_allows_59 (f_X4_allows_24 o n) o σ x1 x2 x3 v1)
      else (
        ck x3 5 <|
        if (1 : Int32) ≤ (σ (o + 2) (ix x3)) then (
          f_X4_allows_59 (f_X4_allows_24 o n) o σ x1 x2 x3 v1)
        else (
          zr (0 : Int32) σ)))

def f_X4_allows   (σ : Hp) (o : Nat) (a1 : Int32) : Option (Int32 × Hp) :=
  bd (f_J6_bitCount_0f7a4 σ a1) fun r1 σ2 =>
  if r1 ≤ (σ2 (chO o) 2) then (
    bd (f_X4_giversOf σ2 o a1) fun r3 σ4 =>
    f_X4_allows_24 o FU σ4 a1 r3 (0 : Int32))
  else (
    zr (0 : Int32) σ2)

def f_X4_watch   (σ : Hp) (o : Nat) (a1 : Int32) : Option (Unit × Hp) :=
  Lt ((1 : Int32) <<< (a1 &&& 31)) fun v1 =>
  if ((σ o 5) &&& v1) = 0 then (
    ck a1 5 <|
    ck a1 5 <|
    Lt (wr σ (o + 1) (ix a1) (if ((σ (o + 1) (ix a1)) + (2 : Int32)) < (99 : Int32) then ((σ (o + 1) (ix a1)) + (2 : Int32)) else (99 : Int32))) fun σ2 =>
    ck a1 5 <|
    if (σ2 (o + 1) (ix a1)) < (σ2 (chO o) 3) then (
      some ((), σ2))
    else (
      Lt (wr σ2 o 5 ((σ2 o 5) ||| v1)) fun σ3 =>
      some ((), σ3)))
  else (
    ck a1 5 <|
    ck a1 5 <|
    Lt (wr σ (o + 1) (ix a1) (if (0 : Int32) < ((σ (o + 1) (ix a1)) - (1 : Int32)) then ((σ (o + 1) (ix a1)) - (1 : Int32)) else (0 : Int32))) fun σ4 =>
    ck a1 5 <|
    if ((σ4 (chO o) 3) - (4 : Int32)) < (σ4 (o + 1) (ix a1)) then (
      some ((), σ4))
    else (
      Lt (wr σ4 o 5 ((σ4 o 5) &&& (v1 ^^^ (-1 : Int32)))) fun σ5 =>
      some ((), σ5)))

def f_X4_rest_40  (o : Nat) (σ : Hp) (x1 : Int32) (x3 : Int32) : Option (Unit × Hp) :=
  ck x1 5 <|
  ck x1 5 <|
  Lt (wr σ (o + 1) (ix x1) (if (0 : Int32) < ((σ (o + 1) (ix x1)) - (4 : Int32)) then ((σ (o + 1) (ix x1)) - (4 : Int32)) else (0 : Int32))) fun σ1 =>
  Lt (wr σ1 o 5 ((σ1 o 5) &&& (x3 ^^^ (-1 : Int32)))) fun σ2 =>
  ck x1 5 <|
  ck x1 5 <|
  Lt (wr σ2 (o + 4) (ix x1) ((σ2 (o + 4) (ix x1)) + (1 : Int32))) fun σ3 =>
  some ((), σ3)

def f_X4_rest   (σ : Hp) (o : Nat) (a1 : Int32) (a2 : Int32) : Option (Unit × Hp) :=
  Lt ((1 : Int32) <<< (a1 &&& 31)) fun v1 =>
  if ((σ o 6) &&& v1) = 0 then (
    if a2 = 0 then (
      f_X4_rest_40 o σ a1 v1)
    else (
      ck a1 5 <|
      ck a1 5 <|
      Lt (wr σ (o + 2) (ix a1) ((σ (o + 2) (ix a1)) - (1 : Int32))) fun σ2 =>
      f_X4_rest_40 o σ2 a1 v1))
  else (
    ck a1 5 <|
    ck a1 5 <|
    Lt (wr σ (o + 3) (ix a1) ((σ (o + 3) (ix a1)) + (1 : Int32))) fun σ3 =>
    f_X4_rest_40 o σ3 a1 v1)

def f_X4_pass_56 (k8 : Hp → Int32 → Int32 → Int32 → Option (Int32 × Hp)) (o : Nat) (σ : Hp) (x1 : Int32) (x2 : Int32) (x3 : Int32) : Option (Int32 × Hp) :=
  Lt (x3 + (1 : Int32)) fun v1 =>
  k8 σ x1 x2 v1

def f_X4_pass_53 (k8 : Hp → Int32 → Int32 → Int32 → Option (Int32 × Hp)) (o : Nat) (σ : Hp) (x1 : Int32) (x2 : Int32) (x3 : Int32) (s0 : Int32) (s1 : Int32) : Option (Int32 × Hp) :=
  bd (f_X4_rest σ o s1 s0) fun r1 σ2 =>
  f_X4_pass_56 k8 o σ2 x1 x2 x3

def f_X4_pass_8  (o : Nat) : Nat → Hp → Int32 → Int32 → Int32 → Option (Int32 × Hp)
  | 0, _, _, _, _ => none
  | n + 1, σ, x1, x2, x3 =>
    if (σ (chO o) 1) ≤ x3 then (
      bd (f_X2_everyone σ (chO o)) fun r1 σ2 =>
      Lt ((r1 &&& (x1 ^^^ (-1 : Int32))) &&& ((σ2 o 5) ^^^ (-1 : Int32))) fun v3 =>
      Lt (wr σ2 o 7 ((σ2 o 7) + (1 : Int32))) fun σ4 =>
      if v3 = 0 then (
        Lt (wr σ4 o 8 ((σ4 o 8) + (1 : Int32))) fun σ5 =>
        some (v3, σ5))
      else (
        some (v3, σ4)))
    else (
      Lt ((1 : Int32) <<< (x3 &&& 31)) fun v6 =>
      if (x1 &&& v6) = 0 then (
        bd (f_X4_watch σ o x3) fun r7 σ8 =>
        f_X4_pass_56 (f_X4_pass_8 o n) o σ8 x1 x2 x3)
      else (
        if (x2 &&& v6) = 0 then (
          f_X4_pass_53 (f_X4_pass_8 o n) o σ x1 x2 x3 (0 : Int32) x3)
        else (
          f_X4_pass_53 (f_X4_pass_8 o n) o σ x1 x2 x3 (1 : Int32) x3)))

def f_X4_pass   (σ : Hp) (o : Nat) (a1 : Int32) : Option (Int32 × Hp) :=
  bd (f_X4_giversOf σ o a1) fun r1 σ2 =>
  f_X4_pass_8 o FU σ2 a1 r1 (0 : Int32)

def f_X4_wakeAll_43 (k2 : Hp → Int32 → Option (Int32 × Hp)) (o : Nat) (σ : Hp) (x1 : Int32) : Option (Int32 × Hp) :=
  Lt (x1 + (1 : Int32)) fun v1 =>
  k2 σ v1

def f_X4_wakeAll_2  (o : Nat) : Nat → Hp → Int32 → Option (Int32 × Hp)
  | 0, _, _ => none
  | n + 1, σ, x1 =>
    if (σ (chO o) 1) ≤ x1 then (
      bd (f_J6_bitCount_0f7a4 σ (σ o 5)) fun r1 σ2 =>
      Lt (wr σ2 o 5 (0 : Int32)) fun σ3 =>
      some (r1, σ3))
    else (
      if (((σ o 5) >>> (x1 &&& 31)) &&& (1 : Int32)) = 0 then (
        f_X4_wakeAll_43 (f_X4_wakeAll_2 o n) o σ x1)
      else (
        ck x1 5 <|
        ck x1 5 <|
        Lt (wr σ (o + 1) (ix x1) (if ((σ (o + 1) (ix x1)) + (3 : Int32)) < (99 : Int32) then ((σ (o + 1) (ix x1)) + (3 : Int32)) else (99 : Int32))) fun σ4 =>
        f_X4_wakeAll_43 (f_X4_wakeAll_2 o n) o σ4 x1))

def f_X4_wakeAll   (σ : Hp) (o : Nat) : Option (Int32 × Hp) :=
  f_X4_wakeAll_2 o FU σ (0 : Int32)

def f_X4_waysAwake_79 (k19 : Hp → Int32 → Int32 → Int32 → Int64 → Int32 → Option (Int64 × Hp)) (o : Nat) (σ : Hp) (x1 : Int32) (x2 : Int32) (x3 : Int32) (x6 : Int32) (s0 : Int64) (s1 : Int64) : Option (Int64 × Hp) :=
  Lt (s1 * s0) fun v1 =>
  Lt (x6 + (1 : Int32)) fun v2 =>
  k19 σ x1 x2 x3 v1 v2

def f_X4_waysAwake_19  (o : Nat) : Nat → Hp → Int32 → Int32 → Int32 → Int64 → Int32 → Option (Int64 × Hp)
  | 0, _, _, _, _, _, _ => none
  | n + 1, σ, x1, x2, x3, x4, x6 =>
    if x2 < x6 then (
      some (x4, σ))
    else (
      ck x1 5 <|
      Lt ((σ (o + 1) (ix x1)) + ((2 : Int32) * x6)) fun v1 =>
      if v1 < (σ (chO o) 3) then (
        if ((2 : Int32) * v1) < (σ (chO o) 3) then (
          f_X4_waysAwake_79 (f_X4_waysAwake_19 o n) o σ x1 x2 x3 x6 (10 : Int64) x4)
        else (
          f_X4_waysAwake_79 (f_X4_waysAwake_19 o n) o σ x1 x2 x3 x6 (((10 : Int32) - x3).toInt64) x4))
      else (
        some ((0 : Int64), σ)))

def f_X4_waysAwake   (σ : Hp) (o : Nat) (a1 : Int32) (a2 : Int32) (a3 : Int32) : Option (Int64 × Hp) :=
  if (((σ o 5) >>> (a1 &&& 31)) &&& (1 : Int32)) = 0 then (
    f_X4_waysAwake_19 o FU σ a1 a2 a3 (1 : Int64) (1 : Int32))
  else (
    some ((0 : Int64), σ))

def f_X4_spareOf   (σ : Hp) (o : Nat) (a1 : Int32) : Option (Int32 × Hp) :=
  bd (f_X2_has σ (chO o) a1) fun r1 σ2 =>
  if r1 = 0 then (
    some ((0 : Int32), σ2))
  else (
    ck a1 5 <|
    ck a1 5 <|
    some ((if (0 : Int32) < ((σ2 (o + 2) (ix a1)) - (σ2 (o + 3) (ix a1))) then ((σ2 (o + 2) (ix a1)) - (σ2 (o + 3) (ix a1))) else (0 : Int32)), σ2))

def f_X5_forget   (σ : Hp)  : Option (Unit × Hp) :=
  Lt (wr σ 86 4 (0 : Int32)) fun σ1 =>
  some ((), σ1)

def f_X5_seek_36 (rec : Hp → Int32 → Int32 → Option (Unit × Hp))   (σ : Hp) (x3 : Nat) : Option (Unit × Hp) :=
  Lt (wr σ 86 6 (1 : Int32)) fun σ1 =>
  bd (f_X4_tiredOfAll σ1 x3) fun r2 σ3 =>
  Lt (wr σ3 86 5 r2) fun σ4 =>
  Lt (va_up σ4 89 (va_cpy (σ4 88) (σ4 89) 0 0 4)) fun σ5 =>
  some ((), σ5)

def f_X5_seek_134 (rec : Hp → Int32 → Int32 → Option (Unit × Hp)) (k86 : Hp → Int32 → Int32 → Nat → Nat → Int32 → Int32 → Option (Unit × Hp))  (σ : Hp) (x1 : Int32) (x2 : Int32) (x3 : Nat) (x5 : Nat) (x6 : Int32) (x7 : Int32) : Option (Unit × Hp) :=
  Lt (x7 + (1 : Int32)) fun v1 =>
  k86 σ x1 x2 x3 x5 x6 v1

def f_X5_seek_86 (rec : Hp → Int32 → Int32 → Option (Unit × Hp))   : Nat → Hp → Int32 → Int32 → Nat → Nat → Int32 → Int32 → Option (Unit × Hp)
  | 0, _, _, _, _, _, _, _ => none
  | n + 1, σ, x1, x2, x3, x5, x6, x7 =>
    if x6 < x7 then (
      some ((), σ))
    else (
      bd (f_X4_allows σ x3 x7) fun r1 σ2 =>
      if r1 = 0 then (
        f_X5_seek_134 rec (f_X5_seek_86 rec n) σ2 x1 x2 x3 x5 x6 x7)
      else (
        bd (f_X4_copyFrom σ2 x5 x3) fun r3 σ4 =>
        bd (f_X4_pass σ4 x5 x7) fun r5 σ6 =>
        if r5 = 0 then (
          f_X5_seek_134 rec (f_X5_seek_86 rec n) σ6 x1 x2 x3 x5 x6 x7)
        else (
          ck x1 4 <|
          Lt (wr σ6 88 (ix x1) x7) fun σ7 =>
          bd (rec σ7 (x1 + (1 : Int32)) x2) fun r8 σ9 =>
          f_X5_seek_134 rec (f_X5_seek_86 rec n) σ9 x1 x2 x3 x5 x6 x7)))

def f_X5_seek (rec : Hp → Int32 → Int32 → Option (Unit × Hp))   (σ : Hp) (a1 : Int32) (a2 : Int32) : Option (Unit × Hp) :=
  ck a1 5 <|
  Lt (a2 - a1) fun v2 =>
  bd (f_X4_leastTiredBehind σ (90 + 5 * ix a1) v2) fun r3 σ4 =>
  if r3 < (σ4 86 5) then (
    if v2 ≤ 0 then (
      f_X5_seek_36 rec σ4 (90 + 5 * ix a1))
    else (
      if a1 < (4 : Int32) then (
        ck (a1 + (1 : Int32)) 5 <|
        bd (f_X2_everyone σ4 11) fun r6 σ7 =>
        f_X5_seek_86 rec FU σ7 a1 a2 (90 + 5 * ix a1) (90 + 5 * ix (a1 + (1 : Int32))) r6 (0 : Int32))
      else (
        f_X5_seek_36 rec σ4 (90 + 5 * ix a1))))
  else (
    some ((), σ4))

def f_X5_seek_rec : Nat → Hp → Int32 → Int32 → Option (Unit × Hp)
  | 0, _, _, _ => none
  | n + 1, σ, a1, a2 => f_X5_seek (f_X5_seek_rec n) σ a1 a2
def f_X5_run_22  (q1 : Nat) (σ : Hp) (x2 : Int32) : Option (Unit × Hp) :=
  Lt (wr σ 86 4 x2) fun σ1 =>
  Lt (wr σ1 86 6 (0 : Int32)) fun σ2 =>
  Lt (wr σ2 86 5 (496 : Int32)) fun σ3 =>
  ck (0 : Int32) 5 <|
  bd (f_X4_copyFrom σ3 (90 + 5 * ix (0 : Int32)) q1) fun r5 σ6 =>
  bd (f_X5_seek_rec 6 σ6 (0 : Int32) x2) fun r7 σ8 =>
  some ((), σ8)

def f_X5_run   (σ : Hp) (q1 : Nat) (a2 : Int32) : Option (Unit × Hp) :=
  if (σ 86 4) = a2 then (
    ck (0 : Int32) 5 <|
    bd (f_X4_isLike σ (90 + 5 * ix (0 : Int32)) q1) fun r2 σ3 =>
    if r2 = 0 then (
      f_X5_run_22 q1 σ3 a2)
    else (
      some ((), σ3)))
  else (
    f_X5_run_22 q1 σ a2)

def f_X6_store   (σ : Hp) (o : Nat) (q1 : Nat) : Option (Unit × Hp) :=
  bd (f_X4_copyFrom σ (o + 2) q1) fun r1 σ2 =>
  Lt (va_up σ2 (o + 1) (va_cpy (σ2 23) (σ2 (o + 1)) 0 0 4)) fun σ3 =>
  Lt (wr σ3 o 2 (1 : Int32)) fun σ4 =>
  some ((), σ4)

def f_X6_restore   (σ : Hp) (o : Nat) (q1 : Nat) : Option (Unit × Hp) :=
  bd (f_X4_copyFrom σ q1 (o + 2)) fun r1 σ2 =>
  Lt (va_up σ2 23 (va_cpy (σ2 (o + 1)) (σ2 23) 0 0 4)) fun σ3 =>
  some ((), σ3)

def f_X7_append_5   : Nat → Hp → Int64 → Int32 → Option (Unit × Hp)
  | 0, _, _, _ => none
  | n + 1, σ, x2, x4 =>
    if x4 < 0 then (
      some ((), σ))
    else (
      if (48 : Int32) ≤ (σ 1 1) then (
        some ((), σ))
      else (
        ck (σ 1 1) 48 <|
        Lt (wr σ 2 (ix (σ 1 1)) (vp_nar .byte (((x2 >>> (((8 : Int32) * x4).toInt64 &&& 63)).toInt32).toInt8.toInt32))) fun σ1 =>
        Lt (wr σ1 1 1 ((σ1 1 1) + (1 : Int32))) fun σ2 =>
        Lt (x4 + (-1 : Int32)) fun v3 =>
        f_X7_append_5 n σ2 x2 v3))

def f_X7_append   (σ : Hp) (a1 : Int32) (a2 : Int64) : Option (Unit × Hp) :=
  Lt (a1 - (1 : Int32)) fun v1 =>
  f_X7_append_5 FU σ a2 v1

def f_X8_write   (σ : Hp) (a1 : Int32) (a2 : Int64) : Option (Int32 × Hp) :=
  if a1 < (1 : Int32) then (
    some ((-2 : Int32), σ))
  else (
    if a1 ≤ (8 : Int32) then (
      if a1 ≤ ((48 : Int32) - (σ 1 1)) then (
        bd (f_X7_append σ a1 a2) fun r1 σ2 =>
        some ((σ2 1 1), σ2))
      else (
        some ((-4 : Int32), σ)))
    else (
      some ((-2 : Int32), σ)))

def f_X8_wipe   (σ : Hp)  : Option (Int32 × Hp) :=
  Lt (σ 1 1) fun v1 =>
  Lt (wr σ 1 1 (0 : Int32)) fun σ2 =>
  some (v1, σ2)

def f_X8_fault   (σ : Hp)  : Option (Int32 × Hp) :=
  bd (f_X3_read σ ) fun r1 σ2 =>
  some (r1, σ2)

def f_X8_fortress_68   : Nat → Hp → Int32 → Option (Int32 × Hp)
  | 0, _, _ => none
  | n + 1, σ, x1 =>
    if (2 : Int32) ≤ x1 then (
      some ((σ 11 1), σ))
    else (
      ck x1 2 <|
      Lt (wr σ (120 + 7 * ix x1) 2 (0 : Int32)) fun σ2 =>
      Lt (x1 + (1 : Int32)) fun v3 =>
      f_X8_fortress_68 n σ2 v3)

def f_X8_fortress   (σ : Hp)  : Option (Int32 × Hp) :=
  bd (f_X3_read σ ) fun r1 σ2 =>
  if r1 = (-9 : Int32) then (
    bd (f_X2_copyFrom σ2 11 4) fun r3 σ4 =>
    bd (f_X4_copyFrom σ4 13 6) fun r5 σ6 =>
    bd (f_J7_fill_53178 σ6 23 4 (0 : Int32)) fun r7 σ8 =>
    Lt (wr σ8 24 2 (0 : Int32)) fun σ9 =>
    bd (f_X5_forget σ9 ) fun r10 σ11 =>
    f_X8_fortress_68 FU σ11 (0 : Int32))
  else (
    some ((-3 : Int32), σ2))

def f_X8_about   (σ : Hp) (a1 : Int32) : Option (Int32 × Hp) :=
  swt a1 [
    (
      some ((σ 11 1), σ)),
    (
      some ((σ 11 2), σ)),
    (
      some ((σ 11 3), σ)),
    (
      some ((σ 13 7), σ)),
    (
      some ((σ 13 8), σ)),
    (
      some ((σ 13 5), σ)),
    (
      some ((σ 13 6), σ)),
    (
      bd (f_X4_tiredOfAll σ 13) fun r1 σ2 =>
      some (r1, σ2)),
    (
      some ((σ 24 2), σ)),
    (
      some ((σ 115 3), σ)),
    (
      some ((σ 1 1), σ))] (
    some ((-2 : Int32), σ))

def f_X8_guard   (σ : Hp) (a1 : Int32) (a2 : Int32) : Option (Int32 × Hp) :=
  bd (f_X2_has σ 11 a1) fun r1 σ2 =>
  if r1 = 0 then (
    some ((-1 : Int32), σ2))
  else (
    swt a2 [
      (
        ck a1 5 <|
        some ((σ2 14 (ix a1)), σ2)),
      (
        ck a1 5 <|
        some ((σ2 15 (ix a1)), σ2)),
      (
        ck a1 5 <|
        some ((σ2 16 (ix a1)), σ2)),
      (
        some ((((σ2 13 5) >>> (a1 &&& 31)) &&& (1 : Int32)), σ2)),
      (
        some ((((σ2 13 6) >>> (a1 &&& 31)) &&& (1 : Int32)), σ2)),
      (
        ck a1 5 <|
        some ((σ2 12 (ix a1)), σ2)),
      (
        ck a1 5 <|
        some ((σ2 17 (ix a1)), σ2))] (
      some ((-2 : Int32), σ2)))

def f_X8_sick_44   (σ : Hp) (x3 : Int32) (s0 : Int32) : Option (Int32 × Hp) :=
  Lt (wr σ 13 6 s0) fun σ1 =>
  if (σ1 13 6) = x3 then (
    some ((0 : Int32), σ1))
  else (
    some ((1 : Int32), σ1))

def f_X8_sick   (σ : Hp) (a1 : Int32) (a2 : Int32) : Option (Int32 × Hp) :=
  bd (f_X2_has σ 11 a1) fun r1 σ2 =>
  if r1 = 0 then (
    some ((-1 : Int32), σ2))
  else (
    Lt (σ2 13 6) fun v3 =>
    if a2 = 0 then (
      f_X8_sick_44 σ2 v3 (v3 &&& (((1 : Int32) <<< (a1 &&& 31)) ^^^ (-1 : Int32))))
    else (
      f_X8_sick_44 σ2 v3 (v3 ||| ((1 : Int32) <<< (a1 &&& 31)))))

def f_X8_hand   (σ : Hp) (a1 : Int32) (a2 : Int32) (a3 : Int32) : Option (Int32 × Hp) :=
  bd (f_X2_has σ 11 a1) fun r1 σ2 =>
  if r1 = 0 then (
    some ((-1 : Int32), σ2))
  else (
    bd (f_X2_has σ2 11 a2) fun r3 σ4 =>
    if r3 = 0 then (
      some ((-1 : Int32), σ4))
    else (
      if a1 = a2 then (
        some ((-2 : Int32), σ4))
      else (
        if a3 < (1 : Int32) then (
          some ((-2 : Int32), σ4))
        else (
          if a3 ≤ (9 : Int32) then (
            ck a1 5 <|
            if a3 ≤ (σ4 15 (ix a1)) then (
              ck a2 5 <|
              if ((σ4 15 (ix a2)) + a3) ≤ (9 : Int32) then (
                ck a1 5 <|
                ck a1 5 <|
                Lt (wr σ4 15 (ix a1) ((σ4 15 (ix a1)) - a3)) fun σ5 =>
                ck a2 5 <|
                ck a2 5 <|
                Lt (wr σ5 15 (ix a2) ((σ5 15 (ix a2)) + a3)) fun σ6 =>
                ck a2 5 <|
                some ((σ6 15 (ix a2)), σ6))
              else (
                some ((-4 : Int32), σ4)))
            else (
              some ((-3 : Int32), σ4)))
          else (
            some ((-2 : Int32), σ4))))))

def f_X8_pay   (σ : Hp) (a1 : Int32) (a2 : Int32) : Option (Int32 × Hp) :=
  bd (f_X2_has σ 11 a1) fun r1 σ2 =>
  if r1 = 0 then (
    some ((-1 : Int32), σ2))
  else (
    if a2 < (1 : Int32) then (
      some ((-2 : Int32), σ2))
    else (
      if a2 ≤ (9 : Int32) then (
        ck a1 5 <|
        if (σ2 15 (ix a1)) < a2 then (
          some ((-3 : Int32), σ2))
        else (
          ck a1 5 <|
          if a2 ≤ (σ2 16 (ix a1)) then (
            ck a1 5 <|
            ck a1 5 <|
            Lt (wr σ2 15 (ix a1) ((σ2 15 (ix a1)) - a2)) fun σ3 =>
            ck a1 5 <|
            ck a1 5 <|
            Lt (wr σ3 16 (ix a1) ((σ3 16 (ix a1)) - a2)) fun σ4 =>
            ck a1 5 <|
            some ((σ4 16 (ix a1)), σ4))
          else (
            some ((-3 : Int32), σ2))))
      else (
        some ((-2 : Int32), σ2))))

def f_X8_may   (σ : Hp) (a1 : Int32) : Option (Int32 × Hp) :=
  bd (f_X2_hasAll σ 11 a1) fun r1 σ2 =>
  if r1 = 0 then (
    some ((-2 : Int32), σ2))
  else (
    bd (f_X4_allows σ2 13 a1) fun r3 σ4 =>
    if r3 = 0 then (
      some ((0 : Int32), σ4))
    else (
      some ((1 : Int32), σ4)))

def f_X8_quarter   (σ : Hp) (a1 : Int32) : Option (Int32 × Hp) :=
  bd (f_X2_hasAll σ 11 a1) fun r1 σ2 =>
  if r1 = 0 then (
    some ((-2 : Int32), σ2))
  else (
    bd (f_X4_allows σ2 13 a1) fun r3 σ4 =>
    if r3 = 0 then (
      some ((-3 : Int32), σ4))
    else (
      bd (f_X0_push σ4 13) fun r5 σ6 =>
      bd (f_X4_pass σ6 13 a1) fun r7 σ8 =>
      some (r7, σ8)))

def f_X8_drum   (σ : Hp)  : Option (Int32 × Hp) :=
  bd (f_X0_push σ 13) fun r1 σ2 =>
  bd (f_X4_wakeAll σ2 13) fun r3 σ4 =>
  some (r3, σ4)

def f_X8_undo   (σ : Hp)  : Option (Int32 × Hp) :=
  if (σ 24 2) = 0 then (
    some ((-3 : Int32), σ))
  else (
    bd (f_X0_pop σ 13) fun r1 σ2 =>
    some ((σ2 24 2), σ2))

def f_X8_rotaRefusal   (σ : Hp) (a1 : Int32) : Option (Int32 × Hp) :=
  if a1 < (1 : Int32) then (
    some ((-2 : Int32), σ))
  else (
    if a1 ≤ (4 : Int32) then (
      if (σ 11 1) ≤ (4 : Int32) then (
        some ((0 : Int32), σ))
      else (
        some ((-3 : Int32), σ)))
    else (
      some ((-2 : Int32), σ)))

def f_X8_rota   (σ : Hp) (a1 : Int32) : Option (Int32 × Hp) :=
  bd (f_X8_rotaRefusal σ a1) fun r1 σ2 =>
  if r1 = 0 then (
    bd (f_X5_run σ2 13 a1) fun r3 σ4 =>
    if (σ4 86 6) = 0 then (
      some ((-9 : Int32), σ4))
    else (
      some ((σ4 86 5), σ4)))
  else (
    some (r1, σ2))

def f_X8_rotaAt   (σ : Hp) (a1 : Int32) (a2 : Int32) : Option (Int32 × Hp) :=
  bd (f_X8_rotaRefusal σ a1) fun r1 σ2 =>
  if r1 = 0 then (
    if a2 < 0 then (
      some ((-9 : Int32), σ2))
    else (
      if a2 < a1 then (
        bd (f_X5_run σ2 13 a1) fun r3 σ4 =>
        if (σ4 86 6) = 0 then (
          some ((-9 : Int32), σ4))
        else (
          ck a2 4 <|
          some ((σ4 89 (ix a2)), σ4)))
      else (
        some ((-9 : Int32), σ2))))
  else (
    some (r1, σ2))

def f_X8_allNod_21   : Nat → Hp → Int32 → Int32 → Option (Int32 × Hp)
  | 0, _, _, _ => none
  | n + 1, σ, x1, x2 =>
    if (99 : Int32) < x2 then (
      some ((-9 : Int32), σ))
    else (
      if (σ 18 5) = x1 then (
        some (x2, σ))
      else (
        bd (f_X4_pass σ 18 (0 : Int32)) fun r1 σ2 =>
        Lt (x2 + (1 : Int32)) fun v3 =>
        f_X8_allNod_21 n σ2 x1 v3))

def f_X8_allNod   (σ : Hp)  : Option (Int32 × Hp) :=
  bd (f_X2_everyone σ 11) fun r1 σ2 =>
  bd (f_X4_copyFrom σ2 18 13) fun r3 σ4 =>
  f_X8_allNod_21 FU σ4 r1 (0 : Int32)

def f_X8_greatestDivisor_3   : Nat → Hp → Int64 → Int64 → Int32 → Option (Int64 × Hp)
  | 0, _, _, _, _ => none
  | n + 1, σ, x0, x2, x4 =>
    if (100 : Int32) ≤ x4 then (
      some (x0, σ))
    else (
      if (lg_cmp x2 (0 : Int64)) = 0 then (
        some (x0, σ))
      else (
        nzL x2 <|
        Lt (x0 - x0 / x2 * x2) fun v1 =>
        Lt (x4 + (1 : Int32)) fun v2 =>
        f_X8_greatestDivisor_3 n σ x2 v1 v2))

def f_X8_greatestDivisor   (σ : Hp) (a0 : Int64) (a2 : Int64) : Option (Int64 × Hp) :=
  f_X8_greatestDivisor_3 FU σ a0 a2 (0 : Int32)

def f_X8_chance_20   (σ : Hp)  : Option (Int64 × Hp) :=
  some ((-2 : Int64), σ)

def f_X8_chance_51 (k33 : Hp → Int32 → Int32 → Int32 → Int64 → Int64 → Int32 → Option (Int64 × Hp))  : Nat → Hp → Int32 → Int32 → Int32 → Int64 → Int64 → Int32 → Int64 → Int32 → Option (Int64 × Hp)
  | 0, _, _, _, _, _, _, _, _, _ => none
  | n + 1, σ, x1, x2, x3, x4, x6, x8, x9, x11 =>
    if x1 ≤ x11 then (
      bd (f_X4_waysAwake σ 13 x8 x1 x2) fun r1 σ2 =>
      Lt (x4 * (x9 - r1)) fun v3 =>
      Lt (x6 * x9) fun v4 =>
      Lt (x8 + (1 : Int32)) fun v5 =>
      k33 σ2 x1 x2 x3 v3 v4 v5)
    else (
      Lt (x9 * (10 : Int64)) fun v7 =>
      Lt (x11 + (1 : Int32)) fun v8 =>
      f_X8_chance_51 k33 n σ x1 x2 x3 x4 x6 x8 v7 v8)

def f_X8_chance_33   : Nat → Hp → Int32 → Int32 → Int32 → Int64 → Int64 → Int32 → Option (Int64 × Hp)
  | 0, _, _, _, _, _, _, _ => none
  | n + 1, σ, x1, x2, x3, x4, x6, x8 =>
    if (σ 11 1) ≤ x8 then (
      bd (f_X8_greatestDivisor σ x4 x6) fun r1 σ2 =>
      if (lg_cmp r1 (0 : Int64)) = 0 then (
        some ((0 : Int64), σ2))
      else (
        if x3 = 0 then (
          nzL r1 <|
          some ((x6 / r1), σ2))
        else (
          nzL r1 <|
          some ((x4 / r1), σ2))))
    else (
      f_X8_chance_51 (f_X8_chance_33 n) FU σ x1 x2 x3 x4 x6 x8 (1 : Int64) (0 : Int32))

def f_X8_chance   (σ : Hp) (a1 : Int32) (a2 : Int32) (a3 : Int32) : Option (Int64 × Hp) :=
  if a1 < (1 : Int32) then (
    f_X8_chance_20 σ )
  else (
    if (3 : Int32) < a1 then (
      f_X8_chance_20 σ )
    else (
      if a2 < 0 then (
        f_X8_chance_20 σ )
      else (
        if a2 ≤ (10 : Int32) then (
          f_X8_chance_33 FU σ a1 a2 a3 (1 : Int64) (1 : Int64) (0 : Int32))
        else (
          f_X8_chance_20 σ ))))

def f_X8_plan   (σ : Hp) (a1 : Int32) (a2 : Int32) : Option (Int32 × Hp) :=
  if a1 < 0 then (
    some ((-2 : Int32), σ))
  else (
    if (4 : Int32) ≤ a1 then (
      some ((-2 : Int32), σ))
    else (
      bd (f_X2_hasAll σ 11 a2) fun r1 σ2 =>
      if r1 = 0 then (
        some ((-2 : Int32), σ2))
      else (
        ck a1 4 <|
        Lt (σ2 23 (ix a1)) fun v3 =>
        ck a1 4 <|
        Lt (wr σ2 23 (ix a1) a2) fun σ4 =>
        some (v3, σ4))))

def f_X8_weakest_75 (k18 : Hp → Int32 → Int32 → Int32 → Option (Int32 × Hp))  (σ : Hp) (x1 : Int32) (x2 : Int32) (x3 : Int32) : Option (Int32 × Hp) :=
  Lt (x3 + (1 : Int32)) fun v1 =>
  k18 σ x1 x2 v1

def f_X8_weakest_56 (k18 : Hp → Int32 → Int32 → Int32 → Option (Int32 × Hp))  (σ : Hp) (x1 : Int32) (x2 : Int32) (x3 : Int32) (s0 : Int32) : Option (Int32 × Hp) :=
  bd (f_X4_pass σ 18 s0) fun r1 σ2 =>
  bd (f_J6_bitCount_0f7a4 σ2 r1) fun r3 σ4 =>
  if x1 ≤ r3 then (
    f_X8_weakest_75 k18 σ4 x1 x2 x3)
  else (
    f_X8_weakest_75 k18 σ4 r3 x3 x3)

def f_X8_weakest_18   : Nat → Hp → Int32 → Int32 → Int32 → Option (Int32 × Hp)
  | 0, _, _, _, _ => none
  | n + 1, σ, x1, x2, x3 =>
    if (8 : Int32) ≤ x3 then (
      some (x2, σ))
    else (
      nzI (4 : Int32) <|
      ck (x3 - x3 / (4 : Int32) * (4 : Int32)) 4 <|
      Lt (σ 23 (ix (x3 - x3 / (4 : Int32) * (4 : Int32)))) fun v1 =>
      bd (f_X4_allows σ 18 v1) fun r2 σ3 =>
      if r2 = 0 then (
        f_X8_weakest_56 (f_X8_weakest_18 n) σ3 x1 x2 x3 (0 : Int32))
      else (
        f_X8_weakest_56 (f_X8_weakest_18 n) σ3 x1 x2 x3 v1))

def f_X8_weakest   (σ : Hp)  : Option (Int32 × Hp) :=
  bd (f_X4_copyFrom σ 18 13) fun r1 σ2 =>
  f_X8_weakest_18 FU σ2 (6 : Int32) (0 : Int32) (0 : Int32)

def f_X8_settled_105 (k7 : Hp → Int32 → Int32 → Int32 → Int32 → Option (Int32 × Hp))  (σ : Hp) (x1 : Int32) (x2 : Int32) (x3 : Int32) (x4 : Int32) : Option (Int32 × Hp) :=
  Lt (x4 + (1 : Int32)) fun v1 =>
  k7 σ x1 x2 x3 v1

def f_X8_settled_7   : Nat → Hp → Int32 → Int32 → Int32 → Int32 → Option (Int32 × Hp)
  | 0, _, _, _, _, _ => none
  | n + 1, σ, x1, x2, x3, x4 =>
    if (σ 11 1) ≤ x4 then (
      if x1 = 0 then (
        some (x2, σ))
      else (
        some (x3, σ)))
    else (
      ck x4 5 <|
      ck x4 5 <|
      Lt (if (σ 15 (ix x4)) < (σ 16 (ix x4)) then (σ 15 (ix x4)) else (σ 16 (ix x4))) fun v1 =>
      ck x4 5 <|
      Lt ((σ 16 (ix x4)) - v1) fun v2 =>
      ck x4 5 <|
      bd (f_X4_spareOf σ 13 (σ 12 (ix x4))) fun r3 σ4 =>
      Lt (if r3 < v2 then r3 else v2) fun v5 =>
      Lt (x2 + (v1 + v5)) fun v6 =>
      if v2 ≤ v5 then (
        f_X8_settled_105 (f_X8_settled_7 n) σ4 x1 v6 x3 x4)
      else (
        Lt (x3 ||| ((1 : Int32) <<< (x4 &&& 31))) fun v7 =>
        f_X8_settled_105 (f_X8_settled_7 n) σ4 x1 v6 v7 x4))

def f_X8_settled   (σ : Hp) (a1 : Int32) : Option (Int32 × Hp) :=
  f_X8_settled_7 FU σ a1 (0 : Int32) (0 : Int32) (0 : Int32)

def f_X8_use   (σ : Hp) (a1 : Int32) (a2 : Int32) (a3 : Int32) : Option (Int32 × Hp) :=
  bd (f_X2_has σ 11 a2) fun r1 σ2 =>
  if r1 = 0 then (
    some ((-1 : Int32), σ2))
  else (
    if a1 < 0 then (
      some ((-2 : Int32), σ2))
    else (
      if (99 : Int32) < a1 then (
        some ((-2 : Int32), σ2))
      else (
        if a3 < 0 then (
          some ((-2 : Int32), σ2))
        else (
          if a3 ≤ (99 : Int32) then (
            if (σ2 115 3) < (12 : Int32) then (
              bd (f_X1_add σ2 a1 a2 a3) fun r3 σ4 =>
              some ((σ4 115 3), σ4))
            else (
              some ((-4 : Int32), σ2)))
          else (
            some ((-2 : Int32), σ2))))))

def f_X8_burn   (σ : Hp)  : Option (Int32 × Hp) :=
  Lt (σ 115 3) fun v1 =>
  Lt (wr σ 115 3 (0 : Int32)) fun σ2 =>
  some (v1, σ2)

def f_X8_forged_28 (k4 : Hp → Int32 → Int32 → Option (Int32 × Hp))  (σ : Hp) (x1 : Int32) (x2 : Int32) : Option (Int32 × Hp) :=
  Lt (x2 + (1 : Int32)) fun v1 =>
  k4 σ x1 v1

def f_X8_forged_4   : Nat → Hp → Int32 → Int32 → Option (Int32 × Hp)
  | 0, _, _, _ => none
  | n + 1, σ, x1, x2 =>
    if (99 : Int32) < x2 then (
      some (x1, σ))
    else (
      bd (f_X1_isFalse σ x2 11) fun r1 σ2 =>
      if r1 = 0 then (
        f_X8_forged_28 (f_X8_forged_4 n) σ2 x1 x2)
      else (
        Lt (x1 + (1 : Int32)) fun v3 =>
        f_X8_forged_28 (f_X8_forged_4 n) σ2 v3 x2))

def f_X8_forged   (σ : Hp)  : Option (Int32 × Hp) :=
  f_X8_forged_4 FU σ (0 : Int32) (0 : Int32)

def f_X8_forgedAt_35 (k4 : Hp → Int32 → Int32 → Int32 → Option (Int32 × Hp))  (σ : Hp) (x1 : Int32) (x2 : Int32) (x3 : Int32) : Option (Int32 × Hp) :=
  Lt (x3 + (1 : Int32)) fun v1 =>
  k4 σ x1 x2 v1

def f_X8_forgedAt_4   : Nat → Hp → Int32 → Int32 → Int32 → Option (Int32 × Hp)
  | 0, _, _, _, _ => none
  | n + 1, σ, x1, x2, x3 =>
    if (99 : Int32) < x3 then (
      some ((-9 : Int32), σ))
    else (
      bd (f_X1_isFalse σ x3 11) fun r1 σ2 =>
      if r1 = 0 then (
        f_X8_forgedAt_35 (f_X8_forgedAt_4 n) σ2 x1 x2 x3)
      else (
        if x2 = x1 then (
          some (x3, σ2))
        else (
          Lt (x2 + (1 : Int32)) fun v3 =>
          f_X8_forgedAt_35 (f_X8_forgedAt_4 n) σ2 x1 v3 x3)))

def f_X8_forgedAt   (σ : Hp) (a1 : Int32) : Option (Int32 × Hp) :=
  f_X8_forgedAt_4 FU σ a1 (0 : Int32) (0 : Int32)

def f_X8_forgers_52 (k4 : Hp → Int32 → Int32 → Option (Int32 × Hp))  (σ : Hp) (x1 : Int32) (x2 : Int32) : Option (Int32 × Hp) :=
  Lt (x2 + (1 : Int32)) fun v1 =>
  k4 σ x1 v1

def f_X8_forgers_4   : Nat → Hp → Int32 → Int32 → Option (Int32 × Hp)
  | 0, _, _, _ => none
  | n + 1, σ, x1, x2 =>
    if (σ 115 3) ≤ x2 then (
      bd (f_X2_everyone σ 11) fun r1 σ2 =>
      some ((x1 &&& r1), σ2))
    else (
      ck x2 12 <|
      bd (f_X1_isFalse σ (σ 116 (ix x2)) 11) fun r3 σ4 =>
      if r3 = 0 then (
        f_X8_forgers_52 (f_X8_forgers_4 n) σ4 x1 x2)
      else (
        ck x2 12 <|
        Lt (x1 ||| ((1 : Int32) <<< ((σ4 117 (ix x2)) &&& 31))) fun v5 =>
        f_X8_forgers_52 (f_X8_forgers_4 n) σ4 v5 x2))

def f_X8_forgers   (σ : Hp)  : Option (Int32 × Hp) :=
  f_X8_forgers_4 FU σ (0 : Int32) (0 : Int32)

def f_X8_keep   (σ : Hp) (a1 : Int32) : Option (Int32 × Hp) :=
  if a1 < 0 then (
    some ((-1 : Int32), σ))
  else (
    if a1 < (2 : Int32) then (
      ck a1 2 <|
      bd (f_X6_store σ (120 + 7 * ix a1) 13) fun r2 σ3 =>
      some ((σ3 13 7), σ3))
    else (
      some ((-1 : Int32), σ)))

def f_X8_again   (σ : Hp) (a1 : Int32) : Option (Int32 × Hp) :=
  if a1 < 0 then (
    some ((-1 : Int32), σ))
  else (
    if a1 < (2 : Int32) then (
      ck a1 2 <|
      if (σ (120 + 7 * ix a1) 2) = 0 then (
        some ((-3 : Int32), σ))
      else (
        ck a1 2 <|
        bd (f_X6_restore σ (120 + 7 * ix a1) 13) fun r3 σ4 =>
        Lt (wr σ4 24 2 (0 : Int32)) fun σ5 =>
        some ((σ5 13 7), σ5)))
    else (
      some ((-1 : Int32), σ)))

def f_X9_in   (σ : Hp) (a0 : Int64) (a2 : Int64) (a4 : Int64) : Option (Int32 × Hp) :=
  if (lg_cmp a0 a2) < 0 then (
    zr (0 : Int32) σ)
  else (
    if 0 < (lg_cmp a0 a4) then (
      zr (0 : Int32) σ)
    else (
      zr (1 : Int32) σ))

def f_X9_has   (σ : Hp) (a0 : Int32) (a1 : Int32) : Option (Int32 × Hp) :=
  if ((a0 >>> (a1 &&& 31)) &&& (1 : Int32)) = (1 : Int32) then (
    zr (1 : Int32) σ)
  else (
    zr (0 : Int32) σ)

def f_X9_noGuard   (σ : Hp) (a1 : Int32) : Option (Int32 × Hp) :=
  bd (f_X9_in σ (a1.toInt64) (0 : Int64) (((σ 134 4) - (1 : Int32)).toInt64)) fun r1 σ2 =>
  if r1 = 0 then (
    zr (1 : Int32) σ2)
  else (
    zr (0 : Int32) σ2)

def f_X9_noSet   (σ : Hp) (a1 : Int32) : Option (Int32 × Hp) :=
  bd (f_X9_in σ (a1.toInt64) (0 : Int64) ((((1 : Int32) <<< ((σ 134 4) &&& 31)) - (1 : Int32)).toInt64)) fun r1 σ2 =>
  if r1 = 0 then (
    zr (1 : Int32) σ2)
  else (
    zr (0 : Int32) σ2)

def f_X9_write_39   : Nat → Hp → Int64 → Int32 → Option (Int32 × Hp)
  | 0, _, _, _ => none
  | n + 1, σ, x2, x4 =>
    if x4 < 0 then (
      some ((σ 134 2), σ))
    else (
      ck (σ 134 2) 48 <|
      Lt (wr σ 135 (ix (σ 134 2)) (((x2 >>> (((8 : Int32) * x4).toInt64 &&& 63)).toInt32) &&& (255 : Int32))) fun σ1 =>
      Lt (wr σ1 134 2 ((σ1 134 2) + (1 : Int32))) fun σ2 =>
      Lt (x4 + (-1 : Int32)) fun v3 =>
      f_X9_write_39 n σ2 x2 v3)

def f_X9_write   (σ : Hp) (a1 : Int32) (a2 : Int64) : Option (Int32 × Hp) :=
  Lt (wr σ 134 0 (0 : Int32)) fun σ1 =>
  bd (f_X9_in σ1 (a1.toInt64) (1 : Int64) (8 : Int64)) fun r2 σ3 =>
  if r2 = 0 then (
    some ((-2 : Int32), σ3))
  else (
    if ((σ3 134 2) + a1) ≤ (48 : Int32) then (
      Lt (a1 - (1 : Int32)) fun v4 =>
      f_X9_write_39 FU σ3 a2 v4)
    else (
      some ((-4 : Int32), σ3)))

def f_X9_wipe   (σ : Hp)  : Option (Int32 × Hp) :=
  Lt (wr σ 134 0 (0 : Int32)) fun σ1 =>
  Lt (σ1 134 2) fun v2 =>
  Lt (wr σ1 134 2 (0 : Int32)) fun σ3 =>
  some (v2, σ3)

def f_X9_figure   (σ : Hp) (a1 : Int32) (a2 : Int32) : Option (Int32 × Hp) :=
  if (σ 134 3) = (σ 134 2) then (
    some ((-9 : Int32), σ))
  else (
    ck (σ 134 3) 48 <|
    bd (f_X9_in σ (((σ 135 (ix (σ 134 3))) - (48 : Int32)).toInt64) (a1.toInt64) (a2.toInt64)) fun r1 σ2 =>
    if r1 = 0 then (
      some ((-9 : Int32), σ2))
    else (
      Lt (wr σ2 134 3 ((σ2 134 3) + (1 : Int32))) fun σ3 =>
      ck ((σ3 134 3) - (1 : Int32)) 48 <|
      some (((σ3 135 (ix ((σ3 134 3) - (1 : Int32)))) - (48 : Int32)), σ3)))

def f_X9_readGuard_64   (σ : Hp) (x1 : Int32) (x2 : Int32) (x3 : Int32) (s0 : Int32) : Option (Int32 × Hp) :=
  if s0 = (-9 : Int32) then (
    zr (0 : Int32) σ)
  else (
    ck (σ 134 17) 5 <|
    Lt (wr σ 144 (ix (σ 134 17)) (((10 : Int32) * x1) + x2)) fun σ1 =>
    ck (σ1 134 17) 5 <|
    Lt (wr σ1 145 (ix (σ1 134 17)) x3) fun σ2 =>
    ck (σ2 134 17) 5 <|
    Lt (wr σ2 146 (ix (σ2 134 17)) s0) fun σ3 =>
    ck (σ3 134 17) 5 <|
    Lt (wr σ3 147 (ix (σ3 134 17)) (-9 : Int32)) fun σ4 =>
    Lt (wr σ4 134 17 ((σ4 134 17) + (1 : Int32))) fun σ5 =>
    zr (1 : Int32) σ5)

def f_X9_readGuard_45   (σ : Hp) (x1 : Int32) (x2 : Int32) (s0 : Int32) : Option (Int32 × Hp) :=
  if s0 = (-9 : Int32) then (
    f_X9_readGuard_64 σ x1 x2 s0 (-9 : Int32))
  else (
    bd (f_X9_figure σ (0 : Int32) (9 : Int32)) fun r1 σ2 =>
    f_X9_readGuard_64 σ2 x1 x2 s0 r1)

def f_X9_readGuard_26   (σ : Hp) (x1 : Int32) (s0 : Int32) : Option (Int32 × Hp) :=
  if s0 = (-9 : Int32) then (
    f_X9_readGuard_45 σ x1 s0 (-9 : Int32))
  else (
    bd (f_X9_figure σ (0 : Int32) (9 : Int32)) fun r1 σ2 =>
    f_X9_readGuard_45 σ2 x1 s0 r1)

def f_X9_readGuard   (σ : Hp)  : Option (Int32 × Hp) :=
  bd (f_X9_figure σ (0 : Int32) (9 : Int32)) fun r1 σ2 =>
  if r1 = (-9 : Int32) then (
    f_X9_readGuard_26 σ2 r1 (-9 : Int32))
  else (
    bd (f_X9_figure σ2 (0 : Int32) (9 : Int32)) fun r3 σ4 =>
    f_X9_readGuard_26 σ4 r1 r3)

def f_X9_single_29 (k4 : Hp → Int32 → Int32 → Option (Int32 × Hp))  (σ : Hp) (x2 : Int32) (s0 : Int32) (s1 : Int32) : Option (Int32 × Hp) :=
  Lt (s1 + s0) fun v1 =>
  Lt (x2 + (1 : Int32)) fun v2 =>
  k4 σ v1 v2

def f_X9_single_4   : Nat → Hp → Int32 → Int32 → Option (Int32 × Hp)
  | 0, _, _, _ => none
  | n + 1, σ, x1, x2 =>
    if (σ 134 17) ≤ x2 then (
      some (x1, σ))
    else (
      ck x2 5 <|
      if (σ 147 (ix x2)) = (-9 : Int32) then (
        f_X9_single_29 (f_X9_single_4 n) σ x2 (1 : Int32) x1)
      else (
        f_X9_single_29 (f_X9_single_4 n) σ x2 (0 : Int32) x1))

def f_X9_single   (σ : Hp)  : Option (Int32 × Hp) :=
  f_X9_single_4 FU σ (0 : Int32) (0 : Int32)

def f_X9_readSingle_28   (σ : Hp) (x1 : Int32) (s0 : Int32) : Option (Int32 × Hp) :=
  bd (f_X9_in σ (s0.toInt64) (0 : Int64) (((σ 134 17) - (1 : Int32)).toInt64)) fun r1 σ2 =>
  if r1 = 0 then (
    some ((-9 : Int32), σ2))
  else (
    if s0 = x1 then (
      some ((-9 : Int32), σ2))
    else (
      ck s0 5 <|
      if (σ2 147 (ix s0)) = (-9 : Int32) then (
        Lt (wr σ2 134 3 ((σ2 134 3) + (1 : Int32))) fun σ3 =>
        some (s0, σ3))
      else (
        some ((-9 : Int32), σ2))))

def f_X9_readSingle   (σ : Hp) (a1 : Int32) : Option (Int32 × Hp) :=
  if (σ 134 2) ≤ (σ 134 3) then (
    f_X9_readSingle_28 σ a1 (-9 : Int32))
  else (
    ck (σ 134 3) 48 <|
    f_X9_readSingle_28 σ a1 ((σ 135 (ix (σ 134 3))) - (48 : Int32)))

def f_X9_readTwins_23   (σ : Hp) (x1 : Int32) (s0 : Int32) : Option (Int32 × Hp) :=
  if s0 = (-9 : Int32) then (
    zr (0 : Int32) σ)
  else (
    ck x1 5 <|
    Lt (wr σ 147 (ix x1) s0) fun σ1 =>
    ck s0 5 <|
    Lt (wr σ1 147 (ix s0) x1) fun σ2 =>
    zr (1 : Int32) σ2)

def f_X9_readTwins   (σ : Hp)  : Option (Int32 × Hp) :=
  bd (f_X9_readSingle σ (-9 : Int32)) fun r1 σ2 =>
  if r1 = (-9 : Int32) then (
    f_X9_readTwins_23 σ2 r1 (-9 : Int32))
  else (
    bd (f_X9_readSingle σ2 r1) fun r3 σ4 =>
    f_X9_readTwins_23 σ4 r1 r3)

def f_X9_readPart_39   (σ : Hp) (x1 : Int32) : Option (Int32 × Hp) :=
  if x1 = (84 : Int32) then (
    bd (f_X9_single σ ) fun r1 σ2 =>
    if r1 ≤ (1 : Int32) then (
      zr (0 : Int32) σ2)
    else (
      Lt (wr σ2 134 3 ((σ2 134 3) + (1 : Int32))) fun σ3 =>
      bd (f_X9_readTwins σ3 ) fun r4 σ5 =>
      zr r4 σ5))
  else (
    zr (0 : Int32) σ)

def f_X9_readPart   (σ : Hp)  : Option (Int32 × Hp) :=
  ck (σ 134 3) 48 <|
  Lt (σ 135 (ix (σ 134 3))) fun v1 =>
  if v1 = (71 : Int32) then (
    if (5 : Int32) ≤ (σ 134 17) then (
      f_X9_readPart_39 σ v1)
    else (
      Lt (wr σ 134 3 ((σ 134 3) + (1 : Int32))) fun σ2 =>
      bd (f_X9_readGuard σ2 ) fun r3 σ4 =>
      zr r3 σ4))
  else (
    f_X9_readPart_39 σ v1)

def f_X9_readFortress_115   : Nat → Hp → Option (Int32 × Hp)
  | 0, _ => none
  | n + 1, σ =>
    if (σ 134 2) ≤ (σ 134 3) then (
      some ((-9 : Int32), σ))
    else (
      bd (f_X9_readPart σ ) fun r1 σ2 =>
      if r1 = 0 then (
        some ((σ2 134 3), σ2))
      else (
        f_X9_readFortress_115 n σ2 ))

def f_X9_readFortress_93   (σ : Hp) (x1 : Int32) (s0 : Int32) : Option (Int32 × Hp) :=
  if s0 = (-9 : Int32) then (
    some ((σ 134 3), σ))
  else (
    Lt (wr σ 134 19 (((10 : Int32) * x1) + s0)) fun σ1 =>
    f_X9_readFortress_115 FU σ1 )

def f_X9_readFortress_88   (σ : Hp) (x1 : Int32) (s0 : Int32) : Option (Int32 × Hp) :=
  bd (f_X9_figure σ s0 (9 : Int32)) fun r1 σ2 =>
  f_X9_readFortress_93 σ2 x1 r1

def f_X9_readFortress_66   (σ : Hp) (s0 : Int32) : Option (Int32 × Hp) :=
  if s0 = (-9 : Int32) then (
    f_X9_readFortress_93 σ s0 (-9 : Int32))
  else (
    if s0 = 0 then (
      f_X9_readFortress_88 σ s0 (1 : Int32))
    else (
      f_X9_readFortress_88 σ s0 (0 : Int32)))

def f_X9_readFortress   (σ : Hp)  : Option (Int32 × Hp) :=
  Lt (wr σ 134 3 (0 : Int32)) fun σ1 =>
  Lt (wr σ1 134 17 (0 : Int32)) fun σ2 =>
  if (σ2 134 2) = 0 then (
    some ((0 : Int32), σ2))
  else (
    ck (0 : Int32) 48 <|
    if (σ2 135 (ix (0 : Int32))) = (70 : Int32) then (
      Lt (wr σ2 134 3 (1 : Int32)) fun σ3 =>
      bd (f_X9_figure σ3 (0 : Int32) (5 : Int32)) fun r4 σ5 =>
      Lt (wr σ5 134 18 r4) fun σ6 =>
      if (σ6 134 18) = (-9 : Int32) then (
        f_X9_readFortress_66 σ6 (-9 : Int32))
      else (
        bd (f_X9_figure σ6 (0 : Int32) (9 : Int32)) fun r7 σ8 =>
        f_X9_readFortress_66 σ8 r7))
    else (
      some ((0 : Int32), σ2)))

def f_X9_fault   (σ : Hp)  : Option (Int32 × Hp) :=
  Lt (wr σ 134 0 (0 : Int32)) fun σ1 =>
  bd (f_X9_readFortress σ1 ) fun r2 σ3 =>
  some (r2, σ3)

def f_X9_fortress_142 (k43 : Hp → Int32 → Option (Int32 × Hp))  (σ : Hp) (x1 : Int32) (s0 : Int32) (s1 : Int32) : Option (Int32 × Hp) :=
  ck s1 5 <|
  Lt (wr σ 141 (ix s1) s0) fun σ1 =>
  ck x1 5 <|
  Lt (wr σ1 139 (ix x1) (vp_nar .boolean (0 : Int32))) fun σ2 =>
  ck x1 5 <|
  Lt (wr σ2 140 (ix x1) (vp_nar .boolean (0 : Int32))) fun σ3 =>
  ck x1 5 <|
  Lt (wr σ3 142 (ix x1) (0 : Int32)) fun σ4 =>
  Lt (x1 + (1 : Int32)) fun v5 =>
  k43 σ4 v5

def f_X9_fortress_121 (k43 : Hp → Int32 → Option (Int32 × Hp))  (σ : Hp) (x1 : Int32) (x2 : Int32) (s0 : Int32) (s1 : Int32) : Option (Int32 × Hp) :=
  ck s1 5 <|
  Lt (wr σ 138 (ix s1) s0) fun σ1 =>
  if x2 = 0 then (
    f_X9_fortress_142 k43 σ1 x1 (-9 : Int32) x1)
  else (
    ck x1 5 <|
    f_X9_fortress_142 k43 σ1 x1 (σ1 147 (ix x1)) x1)

def f_X9_fortress_101 (k43 : Hp → Int32 → Option (Int32 × Hp))  (σ : Hp) (x1 : Int32) (x2 : Int32) (s0 : Int32) (s1 : Int32) : Option (Int32 × Hp) :=
  ck s1 5 <|
  Lt (wr σ 137 (ix s1) s0) fun σ1 =>
  if x2 = 0 then (
    f_X9_fortress_121 k43 σ1 x1 x2 (0 : Int32) x1)
  else (
    ck x1 5 <|
    f_X9_fortress_121 k43 σ1 x1 x2 (σ1 146 (ix x1)) x1)

def f_X9_fortress_81 (k43 : Hp → Int32 → Option (Int32 × Hp))  (σ : Hp) (x1 : Int32) (x2 : Int32) (s0 : Int32) (s1 : Int32) : Option (Int32 × Hp) :=
  ck s1 5 <|
  Lt (wr σ 136 (ix s1) s0) fun σ1 =>
  if x2 = 0 then (
    f_X9_fortress_101 k43 σ1 x1 x2 (0 : Int32) x1)
  else (
    ck x1 5 <|
    f_X9_fortress_101 k43 σ1 x1 x2 (σ1 145 (ix x1)) x1)

def f_X9_fortress_61 (k43 : Hp → Int32 → Option (Int32 × Hp))  (σ : Hp) (x1 : Int32) (s0 : Int32) : Option (Int32 × Hp) :=
  if s0 = 0 then (
    f_X9_fortress_81 k43 σ x1 s0 (0 : Int32) x1)
  else (
    ck x1 5 <|
    f_X9_fortress_81 k43 σ x1 s0 (σ 144 (ix x1)) x1)

def f_X9_fortress_172   : Nat → Hp → Int32 → Option (Int32 × Hp)
  | 0, _, _ => none
  | n + 1, σ, x1 =>
    if (4 : Int32) ≤ x1 then (
      Lt (wr σ 134 14 (0 : Int32)) fun σ1 =>
      Lt (wr σ1 134 15 (0 : Int32)) fun σ2 =>
      Lt (wr σ2 134 25 (0 : Int32)) fun σ3 =>
      ck (0 : Int32) 2 <|
      Lt (wr σ3 150 (ix (0 : Int32)) (vp_nar .boolean (0 : Int32))) fun σ4 =>
      ck (1 : Int32) 2 <|
      Lt (wr σ4 150 (ix (1 : Int32)) (vp_nar .boolean (0 : Int32))) fun σ5 =>
      some ((σ5 134 4), σ5))
    else (
      ck x1 4 <|
      Lt (wr σ 143 (ix x1) (0 : Int32)) fun σ6 =>
      Lt (x1 + (1 : Int32)) fun v7 =>
      f_X9_fortress_172 n σ6 v7)

def f_X9_fortress_43   : Nat → Hp → Int32 → Option (Int32 × Hp)
  | 0, _, _ => none
  | n + 1, σ, x1 =>
    if (5 : Int32) ≤ x1 then (
      f_X9_fortress_172 FU σ (0 : Int32))
    else (
      if (σ 134 4) ≤ x1 then (
        f_X9_fortress_61 (f_X9_fortress_43 n) σ x1 (0 : Int32))
      else (
        f_X9_fortress_61 (f_X9_fortress_43 n) σ x1 (1 : Int32)))

def f_X9_fortress   (σ : Hp)  : Option (Int32 × Hp) :=
  Lt (wr σ 134 0 (0 : Int32)) fun σ1 =>
  bd (f_X9_readFortress σ1 ) fun r2 σ3 =>
  if r2 = (-9 : Int32) then (
    Lt (wr σ3 134 4 (σ3 134 17)) fun σ4 =>
    Lt (wr σ4 134 5 (σ4 134 18)) fun σ5 =>
    Lt (wr σ5 134 6 (σ5 134 19)) fun σ6 =>
    f_X9_fortress_43 FU σ6 (0 : Int32))
  else (
    some ((-3 : Int32), σ3))

def f_X9_about_64 (k15 : Hp → Int32 → Int32 → Int32 → Int32 → Int32 → Option (Int32 × Hp))  (σ : Hp) (x1 : Int32) (x2 : Int32) (x4 : Int32) (x5 : Int32) (s0 : Int32) (s1 : Int32) : Option (Int32 × Hp) :=
  Lt (s1 ||| s0) fun v1 =>
  ck x5 5 <|
  Lt (x4 + (σ 136 (ix x5))) fun v2 =>
  Lt (x5 + (1 : Int32)) fun v3 =>
  k15 σ x1 x2 v1 v2 v3

def f_X9_about_43 (k15 : Hp → Int32 → Int32 → Int32 → Int32 → Int32 → Option (Int32 × Hp))  (σ : Hp) (x1 : Int32) (x3 : Int32) (x4 : Int32) (x5 : Int32) (s0 : Int32) (s1 : Int32) : Option (Int32 × Hp) :=
  Lt (s1 ||| s0) fun v1 =>
  ck x5 5 <|
  if (σ 140 (ix x5)) = 0 then (
    f_X9_about_64 k15 σ x1 v1 x4 x5 (0 : Int32) x3)
  else (
    f_X9_about_64 k15 σ x1 v1 x4 x5 ((1 : Int32) <<< (x5 &&& 31)) x3)

def f_X9_about_15   : Nat → Hp → Int32 → Int32 → Int32 → Int32 → Int32 → Option (Int32 × Hp)
  | 0, _, _, _, _, _, _ => none
  | n + 1, σ, x1, x2, x3, x4, x5 =>
    if (σ 134 4) ≤ x5 then (
      swt x1 [
        (
          some ((σ 134 4), σ)),
        (
          some ((σ 134 5), σ)),
        (
          some ((σ 134 6), σ)),
        (
          some ((σ 134 14), σ)),
        (
          some ((σ 134 15), σ)),
        (
          some (x2, σ)),
        (
          some (x3, σ)),
        (
          some (x4, σ)),
        (
          some ((σ 134 25), σ)),
        (
          some ((σ 134 28), σ)),
        (
          some ((σ 134 2), σ))] (
        some ((-2 : Int32), σ)))
    else (
      ck x5 5 <|
      if (σ 139 (ix x5)) = 0 then (
        f_X9_about_43 (f_X9_about_15 n) σ x1 x3 x4 x5 (0 : Int32) x2)
      else (
        f_X9_about_43 (f_X9_about_15 n) σ x1 x3 x4 x5 ((1 : Int32) <<< (x5 &&& 31)) x2))

def f_X9_about   (σ : Hp) (a1 : Int32) : Option (Int32 × Hp) :=
  Lt (wr σ 134 0 (0 : Int32)) fun σ1 =>
  f_X9_about_15 FU σ1 a1 (0 : Int32) (0 : Int32) (0 : Int32) (0 : Int32)

def f_X9_guard   (σ : Hp) (a1 : Int32) (a2 : Int32) : Option (Int32 × Hp) :=
  Lt (wr σ 134 0 (0 : Int32)) fun σ1 =>
  bd (f_X9_noGuard σ1 a1) fun r2 σ3 =>
  if r2 = 0 then (
    swt a2 [
      (
        ck a1 5 <|
        some ((σ3 136 (ix a1)), σ3)),
      (
        ck a1 5 <|
        some ((σ3 137 (ix a1)), σ3)),
      (
        ck a1 5 <|
        some ((σ3 138 (ix a1)), σ3)),
      (
        ck a1 5 <|
        if (σ3 139 (ix a1)) = 0 then (
          some ((0 : Int32), σ3))
        else (
          some ((1 : Int32), σ3))),
      (
        ck a1 5 <|
        if (σ3 140 (ix a1)) = 0 then (
          some ((0 : Int32), σ3))
        else (
          some ((1 : Int32), σ3))),
      (
        ck a1 5 <|
        some ((σ3 141 (ix a1)), σ3)),
      (
        ck a1 5 <|
        some ((σ3 142 (ix a1)), σ3))] (
      some ((-2 : Int32), σ3)))
  else (
    some ((-1 : Int32), σ3))

def f_X9_sick   (σ : Hp) (a1 : Int32) (a2 : Int32) : Option (Int32 × Hp) :=
  Lt (wr σ 134 0 (0 : Int32)) fun σ1 =>
  bd (f_X9_noGuard σ1 a1) fun r2 σ3 =>
  if r2 = 0 then (
    ck a1 5 <|
    Lt (σ3 140 (ix a1)) fun v4 =>
    ck a1 5 <|
    Lt (wr σ3 140 (ix a1) (vp_nar .boolean a2)) fun σ5 =>
    if v4 = a2 then (
      some ((0 : Int32), σ5))
    else (
      some ((1 : Int32), σ5)))
  else (
    some ((-1 : Int32), σ3))

def f_X9_hand   (σ : Hp) (a1 : Int32) (a2 : Int32) (a3 : Int32) : Option (Int32 × Hp) :=
  Lt (wr σ 134 0 (0 : Int32)) fun σ1 =>
  bd (f_X9_noGuard σ1 a1) fun r2 σ3 =>
  if r2 = 0 then (
    bd (f_X9_noGuard σ3 a2) fun r4 σ5 =>
    if r4 = 0 then (
      if a1 = a2 then (
        some ((-2 : Int32), σ5))
      else (
        bd (f_X9_in σ5 (a3.toInt64) (1 : Int64) (9 : Int64)) fun r6 σ7 =>
        if r6 = 0 then (
          some ((-2 : Int32), σ7))
        else (
          ck a1 5 <|
          if a3 ≤ (σ7 137 (ix a1)) then (
            ck a2 5 <|
            if ((σ7 137 (ix a2)) + a3) ≤ (9 : Int32) then (
              ck a1 5 <|
              ck a1 5 <|
              Lt (wr σ7 137 (ix a1) ((σ7 137 (ix a1)) - a3)) fun σ8 =>
              ck a2 5 <|
              ck a2 5 <|
              Lt (wr σ8 137 (ix a2) ((σ8 137 (ix a2)) + a3)) fun σ9 =>
              ck a2 5 <|
              some ((σ9 137 (ix a2)), σ9))
            else (
              some ((-4 : Int32), σ7)))
          else (
            some ((-3 : Int32), σ7)))))
    else (
      some ((-1 : Int32), σ5)))
  else (
    some ((-1 : Int32), σ3))

def f_X9_pay   (σ : Hp) (a1 : Int32) (a2 : Int32) : Option (Int32 × Hp) :=
  Lt (wr σ 134 0 (0 : Int32)) fun σ1 =>
  bd (f_X9_noGuard σ1 a1) fun r2 σ3 =>
  if r2 = 0 then (
    bd (f_X9_in σ3 (a2.toInt64) (1 : Int64) (9 : Int64)) fun r4 σ5 =>
    if r4 = 0 then (
      some ((-2 : Int32), σ5))
    else (
      ck a1 5 <|
      if (σ5 137 (ix a1)) < a2 then (
        some ((-3 : Int32), σ5))
      else (
        ck a1 5 <|
        if a2 ≤ (σ5 138 (ix a1)) then (
          ck a1 5 <|
          ck a1 5 <|
          Lt (wr σ5 137 (ix a1) ((σ5 137 (ix a1)) - a2)) fun σ6 =>
          ck a1 5 <|
          ck a1 5 <|
          Lt (wr σ6 138 (ix a1) ((σ6 138 (ix a1)) - a2)) fun σ7 =>
          ck a1 5 <|
          some ((σ7 138 (ix a1)), σ7))
        else (
          some ((-3 : Int32), σ5)))))
  else (
    some ((-1 : Int32), σ3))

def f_X9_begin_2   : Nat → Hp → Int32 → Option (Unit × Hp)
  | 0, _, _ => none
  | n + 1, σ, x1 =>
    if (σ 134 4) ≤ x1 then (
      some ((), σ))
    else (
      ck x1 5 <|
      ck x1 5 <|
      Lt (wr σ 154 (ix x1) (σ 136 (ix x1))) fun σ1 =>
      ck x1 5 <|
      ck x1 5 <|
      Lt (wr σ1 155 (ix x1) (σ1 137 (ix x1))) fun σ2 =>
      ck x1 5 <|
      ck x1 5 <|
      Lt (wr σ2 156 (ix x1) (σ2 138 (ix x1))) fun σ3 =>
      ck x1 5 <|
      ck x1 5 <|
      Lt (wr σ3 157 (ix x1) (vp_nar .boolean (σ3 139 (ix x1)))) fun σ4 =>
      Lt (x1 + (1 : Int32)) fun v5 =>
      f_X9_begin_2 n σ4 v5)

def f_X9_begin   (σ : Hp)  : Option (Unit × Hp) :=
  f_X9_begin_2 FU σ (0 : Int32)

def f_X9_giver_54   (σ : Hp) (x4 : Int32) (s0 : Int32) : Option (Int32 × Hp) :=
  ck s0 5 <|
  ck x4 5 <|
  if (σ 155 (ix s0)) ≤ (σ 155 (ix x4)) then (
    some (x4, σ))
  else (
    some (s0, σ))

def f_X9_giver_42   (σ : Hp) (x1 : Int32) (x3 : Int32) (s0 : Int32) : Option (Int32 × Hp) :=
  if x3 ≤ x1 then (
    f_X9_giver_54 σ s0 x1)
  else (
    f_X9_giver_54 σ s0 x3)

def f_X9_giver   (σ : Hp) (a1 : Int32) (a2 : Int32) : Option (Int32 × Hp) :=
  ck a1 5 <|
  Lt (σ 141 (ix a1)) fun v1 =>
  if v1 = (-9 : Int32) then (
    some (a1, σ))
  else (
    bd (f_X9_has σ a2 v1) fun r2 σ3 =>
    if r2 = 0 then (
      some (a1, σ3))
    else (
      ck v1 5 <|
      if (σ3 140 (ix v1)) = 0 then (
        if v1 ≤ a1 then (
          f_X9_giver_42 σ3 a1 v1 v1)
        else (
          f_X9_giver_42 σ3 a1 v1 a1))
      else (
        some (a1, σ3))))

def f_X9_canBe_78 (k7 : Hp → Int32 → Int32 → Int32 → Int32 → Option (Int32 × Hp))  (σ : Hp) (x1 : Int32) (x2 : Int32) (x3 : Int32) (x4 : Int32) : Option (Int32 × Hp) :=
  Lt (x4 + (1 : Int32)) fun v1 =>
  k7 σ x1 x2 x3 v1

def f_X9_canBe_77 (k7 : Hp → Int32 → Int32 → Int32 → Int32 → Option (Int32 × Hp))  (σ : Hp) (x1 : Int32) (x2 : Int32) (x4 : Int32) (s0 : Int32) : Option (Int32 × Hp) :=
  f_X9_canBe_78 k7 σ x1 x2 s0 x4

def f_X9_canBe_72 (k7 : Hp → Int32 → Int32 → Int32 → Int32 → Option (Int32 × Hp))  (σ : Hp) (x1 : Int32) (x2 : Int32) (x4 : Int32) : Option (Int32 × Hp) :=
  f_X9_canBe_77 k7 σ x1 x2 x4 (1 : Int32)

def f_X9_canBe_76 (k7 : Hp → Int32 → Int32 → Int32 → Int32 → Option (Int32 × Hp))  (σ : Hp) (x1 : Int32) (x2 : Int32) (x4 : Int32) : Option (Int32 × Hp) :=
  f_X9_canBe_77 k7 σ x1 x2 x4 (0 : Int32)

def f_X9_canBe_7   : Nat → Hp → Int32 → Int32 → Int32 → Int32 → Option (Int32 × Hp)
  | 0, _, _, _, _, _ => none
  | n + 1, σ, x1, x2, x3, x4 =>
    if (σ 134 4) ≤ x4 then (
      if x3 = 0 then (
        zr (0 : Int32) σ)
      else (
        if (σ 134 5) < x2 then (
          zr (0 : Int32) σ)
        else (
          zr (1 : Int32) σ)))
    else (
      bd (f_X9_has σ x1 x4) fun r1 σ2 =>
      if r1 = 0 then (
        f_X9_canBe_78 (f_X9_canBe_7 n) σ2 x1 x2 x3 x4)
      else (
        Lt (x2 + (1 : Int32)) fun v3 =>
        if x3 = 0 then (
          f_X9_canBe_76 (f_X9_canBe_7 n) σ2 x1 v3 x4)
        else (
          ck x4 5 <|
          if (σ2 140 (ix x4)) = 0 then (
            bd (f_X9_giver σ2 x4 x1) fun r5 σ6 =>
            ck r5 5 <|
            if (σ6 155 (ix r5)) ≤ 0 then (
              f_X9_canBe_76 (f_X9_canBe_7 n) σ6 x1 v3 x4)
            else (
              f_X9_canBe_72 (f_X9_canBe_7 n) σ6 x1 v3 x4))
          else (
            ck x4 5 <|
            if (9 : Int32) ≤ (σ2 156 (ix x4)) then (
              f_X9_canBe_76 (f_X9_canBe_7 n) σ2 x1 v3 x4)
            else (
              f_X9_canBe_72 (f_X9_canBe_7 n) σ2 x1 v3 x4)))))

def f_X9_canBe   (σ : Hp) (a1 : Int32) : Option (Int32 × Hp) :=
  f_X9_canBe_7 FU σ a1 (0 : Int32) (1 : Int32) (0 : Int32)

def f_X9_go_40 (k4 : Hp → Int32 → Int32 → Int32 → Option (Int32 × Hp))  (σ : Hp) (x1 : Int32) (x2 : Int32) (x3 : Int32) : Option (Int32 × Hp) :=
  Lt (x3 + (1 : Int32)) fun v1 =>
  k4 σ x1 x2 v1

def f_X9_go_327 (k51 : Hp → Int32 → Int32 → Int32 → Int32 → Option (Int32 × Hp))  (σ : Hp) (x1 : Int32) (x2 : Int32) (x4 : Int32) (s0 : Int32) (s1 : Int32) : Option (Int32 × Hp) :=
  Lt (s1 ||| s0) fun v1 =>
  Lt (x4 + (1 : Int32)) fun v2 =>
  k51 σ x1 x2 v1 v2

def f_X9_go_326 (k51 : Hp → Int32 → Int32 → Int32 → Int32 → Option (Int32 × Hp))  (σ : Hp) (x1 : Int32) (x2 : Int32) (x4 : Int32) (s0 : Int32) : Option (Int32 × Hp) :=
  f_X9_go_327 k51 σ x1 x2 x4 (0 : Int32) s0

def f_X9_go_299 (k51 : Hp → Int32 → Int32 → Int32 → Int32 → Option (Int32 × Hp))  (σ : Hp) (x1 : Int32) (x2 : Int32) (x3 : Int32) (x4 : Int32) : Option (Int32 × Hp) :=
  bd (f_X9_has σ x1 x4) fun r1 σ2 =>
  if r1 = 0 then (
    ck x4 5 <|
    if (σ2 157 (ix x4)) = 0 then (
      f_X9_go_327 k51 σ2 x1 x2 x4 ((1 : Int32) <<< (x4 &&& 31)) x3)
    else (
      f_X9_go_326 k51 σ2 x1 x2 x4 x3))
  else (
    f_X9_go_326 k51 σ2 x1 x2 x4 x3)

def f_X9_go_157 (k51 : Hp → Int32 → Int32 → Int32 → Int32 → Option (Int32 × Hp))  (σ : Hp) (x1 : Int32) (x2 : Int32) (x3 : Int32) (x4 : Int32) (s0 : Int32) (s1 : Int32) : Option (Int32 × Hp) :=
  ck s1 5 <|
  Lt (wr σ 154 (ix s1) s0) fun σ1 =>
  ck x4 5 <|
  Lt (wr σ1 157 (ix x4) (vp_nar .boolean (0 : Int32))) fun σ2 =>
  f_X9_go_299 k51 σ2 x1 x2 x3 x4

def f_X9_go_236 (k51 : Hp → Int32 → Int32 → Int32 → Int32 → Option (Int32 × Hp))  (σ : Hp) (x1 : Int32) (x2 : Int32) (x3 : Int32) (x4 : Int32) (s0 : Int32) (s1 : Int32) : Option (Int32 × Hp) :=
  ck s1 5 <|
  Lt (wr σ 157 (ix s1) (vp_nar .boolean s0)) fun σ1 =>
  f_X9_go_299 k51 σ1 x1 x2 x3 x4

def f_X9_go_208 (k51 : Hp → Int32 → Int32 → Int32 → Int32 → Option (Int32 × Hp))  (σ : Hp) (x1 : Int32) (x2 : Int32) (x3 : Int32) (x4 : Int32) (s0 : Int32) (s1 : Int32) : Option (Int32 × Hp) :=
  ck s1 5 <|
  Lt (wr σ 154 (ix s1) s0) fun σ1 =>
  ck x4 5 <|
  if (σ1 154 (ix x4)) ≤ ((σ1 134 6) - (4 : Int32)) then (
    f_X9_go_236 k51 σ1 x1 x2 x3 x4 (0 : Int32) x4)
  else (
    f_X9_go_236 k51 σ1 x1 x2 x3 x4 (1 : Int32) x4)

def f_X9_go_298 (k51 : Hp → Int32 → Int32 → Int32 → Int32 → Option (Int32 × Hp))  (σ : Hp) (x1 : Int32) (x2 : Int32) (x3 : Int32) (x4 : Int32) (s0 : Int32) (s1 : Int32) : Option (Int32 × Hp) :=
  ck s1 5 <|
  Lt (wr σ 157 (ix s1) (vp_nar .boolean s0)) fun σ1 =>
  f_X9_go_299 k51 σ1 x1 x2 x3 x4

def f_X9_go_272 (k51 : Hp → Int32 → Int32 → Int32 → Int32 → Option (Int32 × Hp))  (σ : Hp) (x1 : Int32) (x2 : Int32) (x3 : Int32) (x4 : Int32) (s0 : Int32) (s1 : Int32) : Option (Int32 × Hp) :=
  ck s1 5 <|
  Lt (wr σ 154 (ix s1) s0) fun σ1 =>
  ck x4 5 <|
  if (σ1 154 (ix x4)) < (σ1 134 6) then (
    f_X9_go_298 k51 σ1 x1 x2 x3 x4 (0 : Int32) x4)
  else (
    f_X9_go_298 k51 σ1 x1 x2 x3 x4 (1 : Int32) x4)

def f_X9_go_116 (k51 : Hp → Int32 → Int32 → Int32 → Int32 → Option (Int32 × Hp))  (σ : Hp) (x1 : Int32) (x2 : Int32) (x3 : Int32) (x4 : Int32) (s0 : Int32) (s1 : Int32) (s2 : Int32) : Option (Int32 × Hp) :=
  ck s2 5 <|
  Lt (wr σ 156 (ix s2) (s1 + s0)) fun σ1 =>
  bd (f_X9_has σ1 x1 x4) fun r2 σ3 =>
  if r2 = 0 then (
    ck x4 5 <|
    if (σ3 157 (ix x4)) = 0 then (
      ck x4 5 <|
      if (σ3 154 (ix x4)) ≤ (97 : Int32) then (
        ck x4 5 <|
        f_X9_go_272 k51 σ3 x1 x2 x3 x4 ((σ3 154 (ix x4)) + (2 : Int32)) x4)
      else (
        f_X9_go_272 k51 σ3 x1 x2 x3 x4 (99 : Int32) x4))
    else (
      ck x4 5 <|
      if (σ3 154 (ix x4)) ≤ 0 then (
        f_X9_go_208 k51 σ3 x1 x2 x3 x4 (0 : Int32) x4)
      else (
        ck x4 5 <|
        f_X9_go_208 k51 σ3 x1 x2 x3 x4 ((σ3 154 (ix x4)) - (1 : Int32)) x4)))
  else (
    ck x4 5 <|
    if (σ3 154 (ix x4)) ≤ (4 : Int32) then (
      f_X9_go_157 k51 σ3 x1 x2 x3 x4 (0 : Int32) x4)
    else (
      ck x4 5 <|
      f_X9_go_157 k51 σ3 x1 x2 x3 x4 ((σ3 154 (ix x4)) - (4 : Int32)) x4))

def f_X9_go_115 (k51 : Hp → Int32 → Int32 → Int32 → Int32 → Option (Int32 × Hp))  (σ : Hp) (x1 : Int32) (x2 : Int32) (x3 : Int32) (x4 : Int32) (s0 : Int32) (s1 : Int32) : Option (Int32 × Hp) :=
  f_X9_go_116 k51 σ x1 x2 x3 x4 (0 : Int32) s0 s1

def f_X9_go_82 (k51 : Hp → Int32 → Int32 → Int32 → Int32 → Option (Int32 × Hp))  (σ : Hp) (x1 : Int32) (x2 : Int32) (x3 : Int32) (x4 : Int32) (s0 : Int32) (s1 : Int32) (s2 : Int32) : Option (Int32 × Hp) :=
  ck s2 5 <|
  Lt (wr σ 155 (ix s2) (s1 - s0)) fun σ1 =>
  ck x4 5 <|
  bd (f_X9_has σ1 x1 x4) fun r2 σ3 =>
  if r2 = 0 then (
    f_X9_go_115 k51 σ3 x1 x2 x3 x4 (σ1 156 (ix x4)) x4)
  else (
    ck x4 5 <|
    if (σ3 140 (ix x4)) = 0 then (
      f_X9_go_115 k51 σ3 x1 x2 x3 x4 (σ1 156 (ix x4)) x4)
    else (
      f_X9_go_116 k51 σ3 x1 x2 x3 x4 (1 : Int32) (σ1 156 (ix x4)) x4))

def f_X9_go_51   : Nat → Hp → Int32 → Int32 → Int32 → Int32 → Option (Int32 × Hp)
  | 0, _, _, _, _, _ => none
  | n + 1, σ, x1, x2, x3, x4 =>
    if (σ 134 4) ≤ x4 then (
      some (x3, σ))
    else (
      ck x4 5 <|
      bd (f_X9_has σ x2 x4) fun r1 σ2 =>
      if r1 = 0 then (
        f_X9_go_82 (f_X9_go_51 n) σ2 x1 x2 x3 x4 (0 : Int32) (σ 155 (ix x4)) x4)
      else (
        f_X9_go_82 (f_X9_go_51 n) σ2 x1 x2 x3 x4 (1 : Int32) (σ 155 (ix x4)) x4))

def f_X9_go_4   : Nat → Hp → Int32 → Int32 → Int32 → Option (Int32 × Hp)
  | 0, _, _, _, _ => none
  | n + 1, σ, x1, x2, x3 =>
    if (σ 134 4) ≤ x3 then (
      f_X9_go_51 FU σ x1 x2 (0 : Int32) (0 : Int32))
    else (
      bd (f_X9_has σ x1 x3) fun r1 σ2 =>
      if r1 = 0 then (
        f_X9_go_40 (f_X9_go_4 n) σ2 x1 x2 x3)
      else (
        ck x3 5 <|
        if (σ2 140 (ix x3)) = 0 then (
          bd (f_X9_giver σ2 x3 x1) fun r3 σ4 =>
          Lt (x2 ||| ((1 : Int32) <<< (r3 &&& 31))) fun v5 =>
          f_X9_go_40 (f_X9_go_4 n) σ4 x1 v5 x3)
        else (
          f_X9_go_40 (f_X9_go_4 n) σ2 x1 x2 x3)))

def f_X9_go   (σ : Hp) (a1 : Int32) : Option (Int32 × Hp) :=
  f_X9_go_4 FU σ a1 (0 : Int32) (0 : Int32)

def f_X9_may   (σ : Hp) (a1 : Int32) : Option (Int32 × Hp) :=
  Lt (wr σ 134 0 (0 : Int32)) fun σ1 =>
  bd (f_X9_noSet σ1 a1) fun r2 σ3 =>
  if r2 = 0 then (
    bd (f_X9_begin σ3 ) fun r4 σ5 =>
    bd (f_X9_canBe σ5 a1) fun r6 σ7 =>
    if r6 = 0 then (
      some ((0 : Int32), σ7))
    else (
      some ((1 : Int32), σ7)))
  else (
    some ((-2 : Int32), σ3))

def f_X9_layPage_66 (k2 : Hp → Int32 → Int32 → Option (Unit × Hp)) (q1 : Nat) (q1n : Nat) (σ : Hp) (x2 : Int32) (x3 : Int32) (s0 : Int32) (s1 : Int32) : Option (Unit × Hp) :=
  ck s1 q1n <|
  Lt (wr σ q1 (ix s1) s0) fun σ1 =>
  ck x3 5 <|
  ck ((x2 + (20 : Int32)) + x3) q1n <|
  Lt (wr σ1 q1 (ix ((x2 + (20 : Int32)) + x3)) (σ1 142 (ix x3))) fun σ2 =>
  Lt (x3 + (1 : Int32)) fun v3 =>
  k2 σ2 x2 v3

def f_X9_layPage_2  (q1 : Nat) (q1n : Nat) : Nat → Hp → Int32 → Int32 → Option (Unit × Hp)
  | 0, _, _, _ => none
  | n + 1, σ, x2, x3 =>
    if (5 : Int32) ≤ x3 then (
      ck (x2 + (25 : Int32)) q1n <|
      Lt (wr σ q1 (ix (x2 + (25 : Int32))) (σ 134 14)) fun σ1 =>
      ck (x2 + (26 : Int32)) q1n <|
      Lt (wr σ1 q1 (ix (x2 + (26 : Int32))) (σ1 134 15)) fun σ2 =>
      some ((), σ2))
    else (
      ck x3 5 <|
      ck (x2 + x3) q1n <|
      Lt (wr σ q1 (ix (x2 + x3)) (σ 136 (ix x3))) fun σ3 =>
      ck x3 5 <|
      ck ((x2 + (5 : Int32)) + x3) q1n <|
      Lt (wr σ3 q1 (ix ((x2 + (5 : Int32)) + x3)) (σ3 137 (ix x3))) fun σ4 =>
      ck x3 5 <|
      ck ((x2 + (10 : Int32)) + x3) q1n <|
      Lt (wr σ4 q1 (ix ((x2 + (10 : Int32)) + x3)) (σ4 138 (ix x3))) fun σ5 =>
      ck x3 5 <|
      if (σ5 139 (ix x3)) = 0 then (
        f_X9_layPage_66 (f_X9_layPage_2 q1 q1n n) q1 q1n σ5 x2 x3 (0 : Int32) ((x2 + (15 : Int32)) + x3))
      else (
        f_X9_layPage_66 (f_X9_layPage_2 q1 q1n n) q1 q1n σ5 x2 x3 (1 : Int32) ((x2 + (15 : Int32)) + x3)))

def f_X9_layPage   (σ : Hp) (q1 : Nat) (q1n : Nat) (a2 : Int32) : Option (Unit × Hp) :=
  f_X9_layPage_2 q1 q1n FU σ a2 (0 : Int32)

def f_X9_takePage_67 (k2 : Hp → Int32 → Int32 → Option (Unit × Hp)) (q1 : Nat) (q1n : Nat) (σ : Hp) (x2 : Int32) (x3 : Int32) (s0 : Int32) (s1 : Int32) : Option (Unit × Hp) :=
  ck s1 5 <|
  Lt (wr σ 139 (ix s1) (vp_nar .boolean s0)) fun σ1 =>
  ck ((x2 + (20 : Int32)) + x3) q1n <|
  ck x3 5 <|
  Lt (wr σ1 142 (ix x3) (σ1 q1 (ix ((x2 + (20 : Int32)) + x3)))) fun σ2 =>
  Lt (x3 + (1 : Int32)) fun v3 =>
  k2 σ2 x2 v3

def f_X9_takePage_2  (q1 : Nat) (q1n : Nat) : Nat → Hp → Int32 → Int32 → Option (Unit × Hp)
  | 0, _, _, _ => none
  | n + 1, σ, x2, x3 =>
    if (5 : Int32) ≤ x3 then (
      ck (x2 + (25 : Int32)) q1n <|
      Lt (wr σ 134 14 (σ q1 (ix (x2 + (25 : Int32))))) fun σ1 =>
      ck (x2 + (26 : Int32)) q1n <|
      Lt (wr σ1 134 15 (σ1 q1 (ix (x2 + (26 : Int32))))) fun σ2 =>
      some ((), σ2))
    else (
      ck (x2 + x3) q1n <|
      ck x3 5 <|
      Lt (wr σ 136 (ix x3) (σ q1 (ix (x2 + x3)))) fun σ3 =>
      ck ((x2 + (5 : Int32)) + x3) q1n <|
      ck x3 5 <|
      Lt (wr σ3 137 (ix x3) (σ3 q1 (ix ((x2 + (5 : Int32)) + x3)))) fun σ4 =>
      ck ((x2 + (10 : Int32)) + x3) q1n <|
      ck x3 5 <|
      Lt (wr σ4 138 (ix x3) (σ4 q1 (ix ((x2 + (10 : Int32)) + x3)))) fun σ5 =>
      ck ((x2 + (15 : Int32)) + x3) q1n <|
      if (σ5 q1 (ix ((x2 + (15 : Int32)) + x3))) = (1 : Int32) then (
        f_X9_takePage_67 (f_X9_takePage_2 q1 q1n n) q1 q1n σ5 x2 x3 (1 : Int32) x3)
      else (
        f_X9_takePage_67 (f_X9_takePage_2 q1 q1n n) q1 q1n σ5 x2 x3 (0 : Int32) x3))

def f_X9_takePage   (σ : Hp) (q1 : Nat) (q1n : Nat) (a2 : Int32) : Option (Unit × Hp) :=
  f_X9_takePage_2 q1 q1n FU σ a2 (0 : Int32)

def f_X9_note_49   (σ : Hp)  : Option (Unit × Hp) :=
  bd (f_X9_layPage σ 148 324 ((27 : Int32) * (σ 134 25))) fun r1 σ2 =>
  Lt (wr σ2 134 25 ((σ2 134 25) + (1 : Int32))) fun σ3 =>
  some ((), σ3)

def f_X9_note_11   : Nat → Hp → Int32 → Option (Unit × Hp)
  | 0, _, _ => none
  | n + 1, σ, x1 =>
    if (297 : Int32) ≤ x1 then (
      Lt (wr σ 134 25 ((σ 134 25) - (1 : Int32))) fun σ1 =>
      f_X9_note_49 σ1 )
    else (
      ck (x1 + (27 : Int32)) 324 <|
      ck x1 324 <|
      Lt (wr σ 148 (ix x1) (σ 148 (ix (x1 + (27 : Int32))))) fun σ2 =>
      Lt (x1 + (1 : Int32)) fun v3 =>
      f_X9_note_11 n σ2 v3)

def f_X9_note   (σ : Hp)  : Option (Unit × Hp) :=
  if (σ 134 25) = (12 : Int32) then (
    f_X9_note_11 FU σ (0 : Int32))
  else (
    f_X9_note_49 σ )

def f_X9_quarter_119 (k43 : Hp → Int32 → Int32 → Int32 → Option (Int32 × Hp))  (σ : Hp) (x1 : Int32) (x2 : Int32) (x3 : Int32) (s0 : Int32) (s1 : Int32) (s2 : Int32) : Option (Int32 × Hp) :=
  ck s2 5 <|
  Lt (wr σ 142 (ix s2) (s1 + s0)) fun σ1 =>
  Lt (x3 + (1 : Int32)) fun v2 =>
  k43 σ1 x1 x2 v2

def f_X9_quarter_151   (σ : Hp) (x2 : Int32) (s0 : Int32) (s1 : Int32) : Option (Int32 × Hp) :=
  Lt (wr σ 134 15 (s1 + s0)) fun σ1 =>
  some (x2, σ1)

def f_X9_quarter_43   : Nat → Hp → Int32 → Int32 → Int32 → Option (Int32 × Hp)
  | 0, _, _, _, _ => none
  | n + 1, σ, x1, x2, x3 =>
    if (σ 134 4) ≤ x3 then (
      Lt (wr σ 134 14 ((σ 134 14) + (1 : Int32))) fun σ1 =>
      if x2 = 0 then (
        f_X9_quarter_151 σ1 x2 (1 : Int32) (σ1 134 15))
      else (
        f_X9_quarter_151 σ1 x2 (0 : Int32) (σ1 134 15)))
    else (
      ck x3 5 <|
      ck x3 5 <|
      Lt (wr σ 136 (ix x3) (σ 154 (ix x3))) fun σ2 =>
      ck x3 5 <|
      ck x3 5 <|
      Lt (wr σ2 137 (ix x3) (σ2 155 (ix x3))) fun σ3 =>
      ck x3 5 <|
      ck x3 5 <|
      Lt (wr σ3 138 (ix x3) (σ3 156 (ix x3))) fun σ4 =>
      ck x3 5 <|
      ck x3 5 <|
      Lt (wr σ4 139 (ix x3) (vp_nar .boolean (σ4 157 (ix x3)))) fun σ5 =>
      ck x3 5 <|
      bd (f_X9_has σ5 x1 x3) fun r6 σ7 =>
      if r6 = 0 then (
        f_X9_quarter_119 (f_X9_quarter_43 n) σ7 x1 x2 x3 (0 : Int32) (σ5 142 (ix x3)) x3)
      else (
        f_X9_quarter_119 (f_X9_quarter_43 n) σ7 x1 x2 x3 (1 : Int32) (σ5 142 (ix x3)) x3))

def f_X9_quarter   (σ : Hp) (a1 : Int32) : Option (Int32 × Hp) :=
  Lt (wr σ 134 0 (0 : Int32)) fun σ1 =>
  bd (f_X9_noSet σ1 a1) fun r2 σ3 =>
  if r2 = 0 then (
    bd (f_X9_begin σ3 ) fun r4 σ5 =>
    bd (f_X9_canBe σ5 a1) fun r6 σ7 =>
    if r6 = 0 then (
      some ((-3 : Int32), σ7))
    else (
      bd (f_X9_note σ7 ) fun r8 σ9 =>
      bd (f_X9_go σ9 a1) fun r10 σ11 =>
      f_X9_quarter_43 FU σ11 a1 r10 (0 : Int32)))
  else (
    some ((-2 : Int32), σ3))

def f_X9_drum_70 (k13 : Hp → Int32 → Int32 → Option (Int32 × Hp))  (σ : Hp) (x1 : Int32) (x2 : Int32) : Option (Int32 × Hp) :=
  Lt (x2 + (1 : Int32)) fun v1 =>
  k13 σ x1 v1

def f_X9_drum_69 (k13 : Hp → Int32 → Int32 → Option (Int32 × Hp))  (σ : Hp) (x1 : Int32) (x2 : Int32) (s0 : Int32) (s1 : Int32) : Option (Int32 × Hp) :=
  ck s1 5 <|
  Lt (wr σ 136 (ix s1) s0) fun σ1 =>
  f_X9_drum_70 k13 σ1 x1 x2

def f_X9_drum_13   : Nat → Hp → Int32 → Int32 → Option (Int32 × Hp)
  | 0, _, _, _ => none
  | n + 1, σ, x1, x2 =>
    if (σ 134 4) ≤ x2 then (
      some (x1, σ))
    else (
      ck x2 5 <|
      if (σ 139 (ix x2)) = 0 then (
        f_X9_drum_70 (f_X9_drum_13 n) σ x1 x2)
      else (
        Lt (x1 + (1 : Int32)) fun v1 =>
        ck x2 5 <|
        Lt (wr σ 139 (ix x2) (vp_nar .boolean (0 : Int32))) fun σ3 =>
        ck x2 5 <|
        if (σ3 136 (ix x2)) ≤ (96 : Int32) then (
          ck x2 5 <|
          f_X9_drum_69 (f_X9_drum_13 n) σ3 v1 x2 ((σ3 136 (ix x2)) + (3 : Int32)) x2)
        else (
          f_X9_drum_69 (f_X9_drum_13 n) σ3 v1 x2 (99 : Int32) x2)))

def f_X9_drum   (σ : Hp)  : Option (Int32 × Hp) :=
  Lt (wr σ 134 0 (0 : Int32)) fun σ1 =>
  bd (f_X9_note σ1 ) fun r2 σ3 =>
  f_X9_drum_13 FU σ3 (0 : Int32) (0 : Int32)

def f_X9_undo   (σ : Hp)  : Option (Int32 × Hp) :=
  Lt (wr σ 134 0 (0 : Int32)) fun σ1 =>
  if (σ1 134 25) = 0 then (
    some ((-3 : Int32), σ1))
  else (
    Lt (wr σ1 134 25 ((σ1 134 25) - (1 : Int32))) fun σ2 =>
    bd (f_X9_takePage σ2 148 324 ((27 : Int32) * (σ2 134 25))) fun r3 σ4 =>
    some ((σ4 134 25), σ4))

def f_X9_allTired_4   : Nat → Hp → Int32 → Int32 → Option (Int32 × Hp)
  | 0, _, _, _ => none
  | n + 1, σ, x1, x2 =>
    if (σ 134 4) ≤ x2 then (
      some (x1, σ))
    else (
      ck x2 5 <|
      Lt (x1 + (σ 154 (ix x2))) fun v1 =>
      Lt (x2 + (1 : Int32)) fun v2 =>
      f_X9_allTired_4 n σ v1 v2)

def f_X9_allTired   (σ : Hp)  : Option (Int32 × Hp) :=
  f_X9_allTired_4 FU σ (0 : Int32) (0 : Int32)

def f_X9_findRota_98 (k39 : Hp → Int32 → Int32 → Int32 → Int32 → Int32 → Int32 → Int32 → Option (Int32 × Hp)) (k15 : Hp → Int32 → Int32 → Int32 → Int32 → Option (Int32 × Hp))  (σ : Hp) (x1 : Int32) (x2 : Int32) (x3 : Int32) (x4 : Int32) (x6 : Int32) (x7 : Int32) (s0 : Int32) : Option (Int32 × Hp) :=
  Lt (x7 + (1 : Int32)) fun v1 =>
  k39 σ x1 x2 x3 x4 s0 x6 v1

def f_X9_findRota_97 (k39 : Hp → Int32 → Int32 → Int32 → Int32 → Int32 → Int32 → Int32 → Option (Int32 × Hp)) (k15 : Hp → Int32 → Int32 → Int32 → Int32 → Option (Int32 × Hp))  (σ : Hp) (x1 : Int32) (x2 : Int32) (x3 : Int32) (x4 : Int32) (x6 : Int32) (x7 : Int32) : Option (Int32 × Hp) :=
  f_X9_findRota_98 k39 k15 σ x1 x2 x3 x4 x6 x7 (0 : Int32)

def f_X9_findRota_183 (k15 : Hp → Int32 → Int32 → Int32 → Int32 → Option (Int32 × Hp))  (σ : Hp) (x1 : Int32) (x2 : Int32) (x3 : Int32) (x4 : Int32) : Option (Int32 × Hp) :=
  Lt (x4 + (1 : Int32)) fun v1 =>
  k15 σ x1 x2 x3 v1

def f_X9_findRota_141 (k15 : Hp → Int32 → Int32 → Int32 → Int32 → Option (Int32 × Hp))  : Nat → Hp → Int32 → Int32 → Int32 → Int32 → Int32 → Int32 → Option (Int32 × Hp)
  | 0, _, _, _, _, _, _, _ => none
  | n + 1, σ, x1, x2, x3, x4, x6, x7 =>
    if x1 ≤ x7 then (
      f_X9_findRota_183 k15 σ x1 x2 x3 x4)
    else (
      Lt (x6 - (σ 134 4)) fun v1 =>
      ck x7 4 <|
      Lt (wr σ 158 (ix x7) ((x4 >>> (v1 &&& 31)) &&& (((1 : Int32) <<< ((σ 134 4) &&& 31)) - (1 : Int32)))) fun σ2 =>
      Lt (x7 + (1 : Int32)) fun v3 =>
      f_X9_findRota_141 k15 n σ2 x1 x2 x3 x4 v1 v3)

def f_X9_findRota_125 (k15 : Hp → Int32 → Int32 → Int32 → Int32 → Option (Int32 × Hp))  (σ : Hp) (x1 : Int32) (x3 : Int32) (x4 : Int32) : Option (Int32 × Hp) :=
  bd (f_X9_allTired σ ) fun r1 σ2 =>
  Lt ((σ2 134 4) * x1) fun v3 =>
  f_X9_findRota_141 k15 FU σ2 x1 r1 x3 x4 v3 (0 : Int32)

def f_X9_findRota_106 (k15 : Hp → Int32 → Int32 → Int32 → Int32 → Option (Int32 × Hp))  (σ : Hp) (x1 : Int32) (x2 : Int32) (x3 : Int32) (x4 : Int32) (x5 : Int32) : Option (Int32 × Hp) :=
  if x5 = 0 then (
    f_X9_findRota_183 k15 σ x1 x2 x3 x4)
  else (
    if x2 = (-9 : Int32) then (
      f_X9_findRota_125 k15 σ x1 x3 x4)
    else (
      bd (f_X9_allTired σ ) fun r1 σ2 =>
      if x2 ≤ r1 then (
        f_X9_findRota_183 k15 σ2 x1 x2 x3 x4)
      else (
        f_X9_findRota_125 k15 σ2 x1 x3 x4)))

def f_X9_findRota_39 (k15 : Hp → Int32 → Int32 → Int32 → Int32 → Option (Int32 × Hp))  : Nat → Hp → Int32 → Int32 → Int32 → Int32 → Int32 → Int32 → Int32 → Option (Int32 × Hp)
  | 0, _, _, _, _, _, _, _, _ => none
  | n + 1, σ, x1, x2, x3, x4, x5, x6, x7 =>
    if x1 ≤ x7 then (
      f_X9_findRota_106 k15 σ x1 x2 x3 x4 x5)
    else (
      if x5 = 0 then (
        f_X9_findRota_106 k15 σ x1 x2 x3 x4 x5)
      else (
        Lt (x6 - (σ 134 4)) fun v1 =>
        Lt ((x4 >>> (v1 &&& 31)) &&& (((1 : Int32) <<< ((σ 134 4) &&& 31)) - (1 : Int32))) fun v2 =>
        bd (f_X9_canBe σ v2) fun r3 σ4 =>
        if r3 = 0 then (
          f_X9_findRota_97 (f_X9_findRota_39 k15 n) k15 σ4 x1 x2 x3 x4 v1 x7)
        else (
          bd (f_X9_go σ4 v2) fun r5 σ6 =>
          if r5 = 0 then (
            f_X9_findRota_97 (f_X9_findRota_39 k15 n) k15 σ6 x1 x2 x3 x4 v1 x7)
          else (
            f_X9_findRota_98 (f_X9_findRota_39 k15 n) k15 σ6 x1 x2 x3 x4 v1 x7 (1 : Int32)))))

def f_X9_findRota_15   : Nat → Hp → Int32 → Int32 → Int32 → Int32 → Option (Int32 × Hp)
  | 0, _, _, _, _, _ => none
  | n + 1, σ, x1, x2, x3, x4 =>
    if x3 ≤ x4 then (
      some (x2, σ))
    else (
      bd (f_X9_begin σ ) fun r1 σ2 =>
      Lt ((σ2 134 4) * x1) fun v3 =>
      f_X9_findRota_39 (f_X9_findRota_15 n) FU σ2 x1 x2 x3 x4 (1 : Int32) v3 (0 : Int32))

def f_X9_findRota   (σ : Hp) (a1 : Int32) : Option (Int32 × Hp) :=
  Lt ((1 : Int32) <<< (((σ 134 4) * a1) &&& 31)) fun v1 =>
  f_X9_findRota_15 FU σ a1 (-9 : Int32) v1 (0 : Int32)

def f_X9_noRota   (σ : Hp) (a1 : Int32) : Option (Int32 × Hp) :=
  bd (f_X9_in σ (a1.toInt64) (1 : Int64) (4 : Int64)) fun r1 σ2 =>
  if r1 = 0 then (
    some ((-2 : Int32), σ2))
  else (
    if (σ2 134 4) ≤ (4 : Int32) then (
      some ((0 : Int32), σ2))
    else (
      some ((-3 : Int32), σ2)))

def f_X9_rota   (σ : Hp) (a1 : Int32) : Option (Int32 × Hp) :=
  Lt (wr σ 134 0 (0 : Int32)) fun σ1 =>
  bd (f_X9_noRota σ1 a1) fun r2 σ3 =>
  if r2 = 0 then (
    bd (f_X9_findRota σ3 a1) fun r4 σ5 =>
    some (r4, σ5))
  else (
    some (r2, σ3))

def f_X9_rotaAt   (σ : Hp) (a1 : Int32) (a2 : Int32) : Option (Int32 × Hp) :=
  Lt (wr σ 134 0 (0 : Int32)) fun σ1 =>
  bd (f_X9_noRota σ1 a1) fun r2 σ3 =>
  if r2 = 0 then (
    bd (f_X9_findRota σ3 a1) fun r4 σ5 =>
    if r4 = (-9 : Int32) then (
      some ((-9 : Int32), σ5))
    else (
      bd (f_X9_in σ5 (a2.toInt64) (0 : Int64) ((a1 - (1 : Int32)).toInt64)) fun r6 σ7 =>
      if r6 = 0 then (
        some ((-9 : Int32), σ7))
      else (
        ck a2 4 <|
        some ((σ7 158 (ix a2)), σ7))))
  else (
    some (r2, σ3))

def f_X9_doAllNod_30 (k4 : Hp → Int32 → Int32 → Option (Int32 × Hp))  (σ : Hp) (x2 : Int32) (s0 : Int32) : Option (Int32 × Hp) :=
  Lt (x2 + (1 : Int32)) fun v1 =>
  k4 σ s0 v1

def f_X9_doAllNod_29 (k4 : Hp → Int32 → Int32 → Option (Int32 × Hp))  (σ : Hp) (x2 : Int32) : Option (Int32 × Hp) :=
  f_X9_doAllNod_30 k4 σ x2 (0 : Int32)

def f_X9_doAllNod_4   : Nat → Hp → Int32 → Int32 → Option (Int32 × Hp)
  | 0, _, _, _ => none
  | n + 1, σ, x1, x2 =>
    if (σ 134 4) ≤ x2 then (
      zr x1 σ)
    else (
      if x1 = 0 then (
        f_X9_doAllNod_29 (f_X9_doAllNod_4 n) σ x2)
      else (
        ck x2 5 <|
        if (σ 157 (ix x2)) = 0 then (
          f_X9_doAllNod_29 (f_X9_doAllNod_4 n) σ x2)
        else (
          f_X9_doAllNod_30 (f_X9_doAllNod_4 n) σ x2 (1 : Int32))))

def f_X9_doAllNod   (σ : Hp)  : Option (Int32 × Hp) :=
  f_X9_doAllNod_4 FU σ (1 : Int32) (0 : Int32)

def f_X9_allNod_11   : Nat → Hp → Int32 → Option (Int32 × Hp)
  | 0, _, _ => none
  | n + 1, σ, x1 =>
    if (100 : Int32) ≤ x1 then (
      some ((-9 : Int32), σ))
    else (
      bd (f_X9_doAllNod σ ) fun r1 σ2 =>
      if r1 = 0 then (
        bd (f_X9_go σ2 (0 : Int32)) fun r3 σ4 =>
        Lt (x1 + (1 : Int32)) fun v5 =>
        f_X9_allNod_11 n σ4 v5)
      else (
        some (x1, σ2)))

def f_X9_allNod   (σ : Hp)  : Option (Int32 × Hp) :=
  Lt (wr σ 134 0 (0 : Int32)) fun σ1 =>
  bd (f_X9_begin σ1 ) fun r2 σ3 =>
  f_X9_allNod_11 FU σ3 (0 : Int32)

def f_X9_divisor_6   : Nat → Hp → Int64 → Int64 → Option (Int64 × Hp)
  | 0, _, _, _ => none
  | n + 1, σ, x4, x6 =>
    if (lg_cmp x6 (0 : Int64)) = 0 then (
      some (x4, σ))
    else (
      nzL x6 <|
      Lt (x4 - x4 / x6 * x6) fun v1 =>
      f_X9_divisor_6 n σ x6 v1)

def f_X9_divisor   (σ : Hp) (a0 : Int64) (a2 : Int64) : Option (Int64 × Hp) :=
  f_X9_divisor_6 FU σ a0 a2

def f_X9_awakeBy_88 (k27 : Hp → Int32 → Int32 → Int64 → Int32 → Int32 → Option (Int64 × Hp))  (σ : Hp) (x2 : Int32) (x3 : Int32) (x6 : Int32) (x7 : Int32) (s0 : Int64) (s1 : Int64) : Option (Int64 × Hp) :=
  Lt (s1 * s0) fun v1 =>
  Lt (x7 + (1 : Int32)) fun v2 =>
  k27 σ x2 x3 v1 x6 v2

def f_X9_awakeBy_49 (k27 : Hp → Int32 → Int32 → Int64 → Int32 → Int32 → Option (Int64 × Hp))  (σ : Hp) (x2 : Int32) (x3 : Int32) (x4 : Int64) (x7 : Int32) (s0 : Int32) : Option (Int64 × Hp) :=
  if s0 < (σ 134 6) then (
    if ((2 : Int32) * s0) < (σ 134 6) then (
      f_X9_awakeBy_88 k27 σ x2 x3 s0 x7 (10 : Int64) x4)
    else (
      f_X9_awakeBy_88 k27 σ x2 x3 s0 x7 (((10 : Int32) - x3).toInt64) x4))
  else (
    f_X9_awakeBy_88 k27 σ x2 x3 s0 x7 (0 : Int64) x4)

def f_X9_awakeBy_27   : Nat → Hp → Int32 → Int32 → Int64 → Int32 → Int32 → Option (Int64 × Hp)
  | 0, _, _, _, _, _, _ => none
  | n + 1, σ, x2, x3, x4, x6, x7 =>
    if x2 ≤ x7 then (
      some (x4, σ))
    else (
      if x6 ≤ (97 : Int32) then (
        f_X9_awakeBy_49 (f_X9_awakeBy_27 n) σ x2 x3 x4 x7 (x6 + (2 : Int32)))
      else (
        f_X9_awakeBy_49 (f_X9_awakeBy_27 n) σ x2 x3 x4 x7 (99 : Int32)))

def f_X9_awakeBy_14   (σ : Hp) (x1 : Int32) (x2 : Int32) (x3 : Int32) (s0 : Int64) : Option (Int64 × Hp) :=
  ck x1 5 <|
  Lt (σ 136 (ix x1)) fun v1 =>
  f_X9_awakeBy_27 FU σ x2 x3 s0 v1 (0 : Int32)

def f_X9_awakeBy   (σ : Hp) (a1 : Int32) (a2 : Int32) (a3 : Int32) : Option (Int64 × Hp) :=
  ck a1 5 <|
  if (σ 139 (ix a1)) = 0 then (
    f_X9_awakeBy_14 σ a1 a2 a3 (1 : Int64))
  else (
    f_X9_awakeBy_14 σ a1 a2 a3 (0 : Int64))

def f_X9_chance_29   (σ : Hp)  : Option (Int64 × Hp) :=
  some ((-2 : Int64), σ)

def f_X9_chance_69   : Nat → Hp → Int32 → Int32 → Int32 → Int64 → Int64 → Int64 → Int32 → Option (Int64 × Hp)
  | 0, _, _, _, _, _, _, _, _ => none
  | n + 1, σ, x1, x2, x3, x4, x6, x8, x10 =>
    if (σ 134 4) ≤ x10 then (
      bd (f_X9_divisor σ x6 x8) fun r1 σ2 =>
      if x3 = 0 then (
        nzL r1 <|
        some ((x8 / r1), σ2))
      else (
        nzL r1 <|
        some ((x6 / r1), σ2)))
    else (
      bd (f_X9_awakeBy σ x10 x1 x2) fun r3 σ4 =>
      Lt (x6 * (x4 - r3)) fun v5 =>
      Lt (x8 * x4) fun v6 =>
      Lt (x10 + (1 : Int32)) fun v7 =>
      f_X9_chance_69 n σ4 x1 x2 x3 x4 v5 v6 v7)

def f_X9_chance_58   (σ : Hp) (x1 : Int32) (x2 : Int32) (x3 : Int32) (s0 : Int64) : Option (Int64 × Hp) :=
  f_X9_chance_69 FU σ x1 x2 x3 s0 (1 : Int64) (1 : Int64) (0 : Int32)

def f_X9_chance   (σ : Hp) (a1 : Int32) (a2 : Int32) (a3 : Int32) : Option (Int64 × Hp) :=
  Lt (wr σ 134 0 (0 : Int32)) fun σ1 =>
  bd (f_X9_in σ1 (a1.toInt64) (1 : Int64) (3 : Int64)) fun r2 σ3 =>
  if r2 = 0 then (
    f_X9_chance_29 σ3 )
  else (
    bd (f_X9_in σ3 (a2.toInt64) (0 : Int64) (10 : Int64)) fun r4 σ5 =>
    if r4 = 0 then (
      f_X9_chance_29 σ5 )
    else (
      if a1 = (1 : Int32) then (
        f_X9_chance_58 σ5 a1 a2 a3 (10 : Int64))
      else (
        if a1 = (2 : Int32) then (
          f_X9_chance_58 σ5 a1 a2 a3 (100 : Int64))
        else (
          f_X9_chance_58 σ5 a1 a2 a3 (1000 : Int64)))))

def f_X9_plan   (σ : Hp) (a1 : Int32) (a2 : Int32) : Option (Int32 × Hp) :=
  Lt (wr σ 134 0 (0 : Int32)) fun σ1 =>
  bd (f_X9_in σ1 (a1.toInt64) (0 : Int64) (3 : Int64)) fun r2 σ3 =>
  if r2 = 0 then (
    some ((-2 : Int32), σ3))
  else (
    bd (f_X9_noSet σ3 a2) fun r4 σ5 =>
    if r4 = 0 then (
      ck a1 4 <|
      Lt (σ5 143 (ix a1)) fun v6 =>
      ck a1 4 <|
      Lt (wr σ5 143 (ix a1) a2) fun σ7 =>
      some (v6, σ7))
    else (
      some ((-2 : Int32), σ5)))

def f_X9_weakest_87 (k61 : Hp → Int32 → Int32 → Int32 → Int32 → Int32 → Int32 → Option (Int32 × Hp)) (k16 : Hp → Int32 → Int32 → Int32 → Option (Int32 × Hp))  (σ : Hp) (x1 : Int32) (x2 : Int32) (x3 : Int32) (x4 : Int32) (x6 : Int32) (s0 : Int32) (s1 : Int32) : Option (Int32 × Hp) :=
  Lt (s1 + s0) fun v1 =>
  Lt (x6 + (1 : Int32)) fun v2 =>
  k61 σ x1 x2 x3 x4 v1 v2

def f_X9_weakest_120 (k16 : Hp → Int32 → Int32 → Int32 → Option (Int32 × Hp))  (σ : Hp) (x1 : Int32) (x3 : Int32) (s0 : Int32) : Option (Int32 × Hp) :=
  Lt (x3 + (1 : Int32)) fun v1 =>
  k16 σ x1 s0 v1

def f_X9_weakest_107 (k16 : Hp → Int32 → Int32 → Int32 → Option (Int32 × Hp))  (σ : Hp) (x2 : Int32) (x3 : Int32) (x5 : Int32) (s0 : Int32) : Option (Int32 × Hp) :=
  if x2 ≤ x5 then (
    f_X9_weakest_120 k16 σ s0 x3 x2)
  else (
    f_X9_weakest_120 k16 σ s0 x3 x5)

def f_X9_weakest_61 (k16 : Hp → Int32 → Int32 → Int32 → Option (Int32 × Hp))  : Nat → Hp → Int32 → Int32 → Int32 → Int32 → Int32 → Int32 → Option (Int32 × Hp)
  | 0, _, _, _, _, _, _, _ => none
  | n + 1, σ, x1, x2, x3, x4, x5, x6 =>
    if (σ 134 4) ≤ x6 then (
      if x2 ≤ x5 then (
        f_X9_weakest_107 k16 σ x2 x3 x5 x1)
      else (
        f_X9_weakest_107 k16 σ x2 x3 x5 x3))
    else (
      bd (f_X9_has σ x4 x6) fun r1 σ2 =>
      if r1 = 0 then (
        f_X9_weakest_87 (f_X9_weakest_61 k16 n) k16 σ2 x1 x2 x3 x4 x6 (0 : Int32) x5)
      else (
        f_X9_weakest_87 (f_X9_weakest_61 k16 n) k16 σ2 x1 x2 x3 x4 x6 (1 : Int32) x5))

def f_X9_weakest_50 (k16 : Hp → Int32 → Int32 → Int32 → Option (Int32 × Hp))  (σ : Hp) (x1 : Int32) (x2 : Int32) (x3 : Int32) (s0 : Int32) : Option (Int32 × Hp) :=
  bd (f_X9_go σ s0) fun r1 σ2 =>
  f_X9_weakest_61 k16 FU σ2 x1 x2 x3 r1 (0 : Int32) (0 : Int32)

def f_X9_weakest_16   : Nat → Hp → Int32 → Int32 → Int32 → Option (Int32 × Hp)
  | 0, _, _, _, _ => none
  | n + 1, σ, x1, x2, x3 =>
    if (8 : Int32) ≤ x3 then (
      some (x1, σ))
    else (
      nzI (4 : Int32) <|
      ck (x3 - x3 / (4 : Int32) * (4 : Int32)) 4 <|
      bd (f_X9_canBe σ (σ 143 (ix (x3 - x3 / (4 : Int32) * (4 : Int32))))) fun r1 σ2 =>
      if r1 = 0 then (
        f_X9_weakest_50 (f_X9_weakest_16 n) σ2 x1 x2 x3 (0 : Int32))
      else (
        nzI (4 : Int32) <|
        ck (x3 - x3 / (4 : Int32) * (4 : Int32)) 4 <|
        f_X9_weakest_50 (f_X9_weakest_16 n) σ2 x1 x2 x3 (σ2 143 (ix (x3 - x3 / (4 : Int32) * (4 : Int32))))))

def f_X9_weakest   (σ : Hp)  : Option (Int32 × Hp) :=
  Lt (wr σ 134 0 (0 : Int32)) fun σ1 =>
  bd (f_X9_begin σ1 ) fun r2 σ3 =>
  f_X9_weakest_16 FU σ3 (0 : Int32) (99999 : Int32) (0 : Int32)

def f_X9_settled_51 (k13 : Hp → Int32 → Int32 → Int32 → Option (Int32 × Hp))  (σ : Hp) (x1 : Int32) (x2 : Int32) (x3 : Int32) (s0 : Int32) : Option (Int32 × Hp) :=
  ck x3 5 <|
  ck x3 5 <|
  Lt (wr σ 156 (ix x3) ((σ 156 (ix x3)) - s0)) fun σ1 =>
  ck x3 5 <|
  ck x3 5 <|
  Lt (wr σ1 155 (ix x3) ((σ1 155 (ix x3)) - s0)) fun σ2 =>
  Lt (x2 + s0) fun v3 =>
  Lt (x3 + (1 : Int32)) fun v4 =>
  k13 σ2 x1 v3 v4

def f_X9_settled_209 (k91 : Hp → Int32 → Int32 → Int32 → Int32 → Option (Int32 × Hp))  (σ : Hp) (x1 : Int32) (x2 : Int32) (x4 : Int32) (s0 : Int32) (s1 : Int32) : Option (Int32 × Hp) :=
  Lt (s1 ||| s0) fun v1 =>
  Lt (x4 + (1 : Int32)) fun v2 =>
  k91 σ x1 x2 v1 v2

def f_X9_settled_190 (k91 : Hp → Int32 → Int32 → Int32 → Int32 → Option (Int32 × Hp))  (σ : Hp) (x1 : Int32) (x2 : Int32) (x3 : Int32) (x4 : Int32) : Option (Int32 × Hp) :=
  ck x4 5 <|
  if (σ 156 (ix x4)) ≤ 0 then (
    f_X9_settled_209 k91 σ x1 x2 x4 (0 : Int32) x3)
  else (
    f_X9_settled_209 k91 σ x1 x2 x4 ((1 : Int32) <<< (x4 &&& 31)) x3)

def f_X9_settled_154 (k91 : Hp → Int32 → Int32 → Int32 → Int32 → Option (Int32 × Hp))  (σ : Hp) (x1 : Int32) (x2 : Int32) (x3 : Int32) (x4 : Int32) (x5 : Int32) (s0 : Int32) : Option (Int32 × Hp) :=
  if s0 ≤ 0 then (
    f_X9_settled_190 k91 σ x1 x2 x3 x4)
  else (
    ck x4 5 <|
    ck x4 5 <|
    Lt (wr σ 156 (ix x4) ((σ 156 (ix x4)) - s0)) fun σ1 =>
    ck x5 5 <|
    ck x5 5 <|
    Lt (wr σ1 155 (ix x5) ((σ1 155 (ix x5)) - s0)) fun σ2 =>
    Lt (x2 + s0) fun v3 =>
    f_X9_settled_190 k91 σ2 x1 v3 x3 x4)

def f_X9_settled_91   : Nat → Hp → Int32 → Int32 → Int32 → Int32 → Option (Int32 × Hp)
  | 0, _, _, _, _, _ => none
  | n + 1, σ, x1, x2, x3, x4 =>
    if (σ 134 4) ≤ x4 then (
      if x1 = 0 then (
        some (x2, σ))
      else (
        some (x3, σ)))
    else (
      ck x4 5 <|
      Lt (σ 141 (ix x4)) fun v1 =>
      if v1 = (-9 : Int32) then (
        f_X9_settled_154 (f_X9_settled_91 n) σ x1 x2 x3 x4 v1 (0 : Int32))
      else (
        ck x4 5 <|
        ck v1 5 <|
        if (σ 155 (ix v1)) ≤ (σ 156 (ix x4)) then (
          ck v1 5 <|
          f_X9_settled_154 (f_X9_settled_91 n) σ x1 x2 x3 x4 v1 (σ 155 (ix v1)))
        else (
          ck x4 5 <|
          f_X9_settled_154 (f_X9_settled_91 n) σ x1 x2 x3 x4 v1 (σ 156 (ix x4)))))

def f_X9_settled_13   : Nat → Hp → Int32 → Int32 → Int32 → Option (Int32 × Hp)
  | 0, _, _, _, _ => none
  | n + 1, σ, x1, x2, x3 =>
    if (σ 134 4) ≤ x3 then (
      f_X9_settled_91 FU σ x1 x2 (0 : Int32) (0 : Int32))
    else (
      ck x3 5 <|
      ck x3 5 <|
      if (σ 155 (ix x3)) ≤ (σ 156 (ix x3)) then (
        ck x3 5 <|
        f_X9_settled_51 (f_X9_settled_13 n) σ x1 x2 x3 (σ 155 (ix x3)))
      else (
        ck x3 5 <|
        f_X9_settled_51 (f_X9_settled_13 n) σ x1 x2 x3 (σ 156 (ix x3))))

def f_X9_settled   (σ : Hp) (a1 : Int32) : Option (Int32 × Hp) :=
  Lt (wr σ 134 0 (0 : Int32)) fun σ1 =>
  bd (f_X9_begin σ1 ) fun r2 σ3 =>
  f_X9_settled_13 FU σ3 a1 (0 : Int32) (0 : Int32)

def f_X9_use   (σ : Hp) (a1 : Int32) (a2 : Int32) (a3 : Int32) : Option (Int32 × Hp) :=
  Lt (wr σ 134 0 (0 : Int32)) fun σ1 =>
  bd (f_X9_noGuard σ1 a2) fun r2 σ3 =>
  if r2 = 0 then (
    bd (f_X9_in σ3 (a1.toInt64) (0 : Int64) (99 : Int64)) fun r4 σ5 =>
    if r4 = 0 then (
      some ((-2 : Int32), σ5))
    else (
      bd (f_X9_in σ5 (a3.toInt64) (0 : Int64) (99 : Int64)) fun r6 σ7 =>
      if r6 = 0 then (
        some ((-2 : Int32), σ7))
      else (
        if (σ7 134 28) = (12 : Int32) then (
          some ((-4 : Int32), σ7))
        else (
          ck (σ7 134 28) 12 <|
          Lt (wr σ7 151 (ix (σ7 134 28)) a1) fun σ8 =>
          ck (σ8 134 28) 12 <|
          Lt (wr σ8 152 (ix (σ8 134 28)) a2) fun σ9 =>
          ck (σ9 134 28) 12 <|
          Lt (wr σ9 153 (ix (σ9 134 28)) a3) fun σ10 =>
          Lt (wr σ10 134 28 ((σ10 134 28) + (1 : Int32))) fun σ11 =>
          some ((σ11 134 28), σ11)))))
  else (
    some ((-1 : Int32), σ3))

def f_X9_burn   (σ : Hp)  : Option (Int32 × Hp) :=
  Lt (wr σ 134 0 (0 : Int32)) fun σ1 =>
  Lt (σ1 134 28) fun v2 =>
  Lt (wr σ1 134 28 (0 : Int32)) fun σ3 =>
  some (v2, σ3)

def f_X9_areTwins   (σ : Hp) (a1 : Int32) (a2 : Int32) : Option (Int32 × Hp) :=
  bd (f_X9_noGuard σ a1) fun r1 σ2 =>
  if r1 = 0 then (
    bd (f_X9_noGuard σ2 a2) fun r3 σ4 =>
    if r3 = 0 then (
      ck a1 5 <|
      if (σ4 141 (ix a1)) = a2 then (
        zr (1 : Int32) σ4)
      else (
        zr (0 : Int32) σ4))
    else (
      zr (0 : Int32) σ4))
  else (
    zr (0 : Int32) σ2)

def f_X9_isForged_99 (k15 : Hp → Int32 → Int32 → Int32 → Int32 → Option (Int32 × Hp)) (k4 : Hp → Int32 → Int32 → Int32 → Option (Int32 × Hp))  (σ : Hp) (x1 : Int32) (x3 : Int32) (x4 : Int32) (s0 : Int32) : Option (Int32 × Hp) :=
  Lt (x4 + (1 : Int32)) fun v1 =>
  k15 σ x1 s0 x3 v1

def f_X9_isForged_94 (k15 : Hp → Int32 → Int32 → Int32 → Int32 → Option (Int32 × Hp)) (k4 : Hp → Int32 → Int32 → Int32 → Option (Int32 × Hp))  (σ : Hp) (x1 : Int32) (x3 : Int32) (x4 : Int32) : Option (Int32 × Hp) :=
  f_X9_isForged_99 k15 k4 σ x1 x3 x4 (1 : Int32)

def f_X9_isForged_98 (k15 : Hp → Int32 → Int32 → Int32 → Int32 → Option (Int32 × Hp)) (k4 : Hp → Int32 → Int32 → Int32 → Option (Int32 × Hp))  (σ : Hp) (x1 : Int32) (x3 : Int32) (x4 : Int32) : Option (Int32 × Hp) :=
  f_X9_isForged_99 k15 k4 σ x1 x3 x4 (0 : Int32)

def f_X9_isForged_47 (k15 : Hp → Int32 → Int32 → Int32 → Int32 → Option (Int32 × Hp)) (k4 : Hp → Int32 → Int32 → Int32 → Option (Int32 × Hp))  (σ : Hp) (x1 : Int32) (x2 : Int32) (x3 : Int32) (x4 : Int32) (s0 : Int32) : Option (Int32 × Hp) :=
  if x2 = 0 then (
    if s0 = 0 then (
      f_X9_isForged_98 k15 k4 σ x1 x3 x4)
    else (
      ck x3 12 <|
      ck x4 12 <|
      if (σ 153 (ix x3)) = (σ 153 (ix x4)) then (
        ck x3 12 <|
        ck x4 12 <|
        bd (f_X9_areTwins σ (σ 152 (ix x3)) (σ 152 (ix x4))) fun r1 σ2 =>
        if r1 = 0 then (
          f_X9_isForged_94 k15 k4 σ2 x1 x3 x4)
        else (
          f_X9_isForged_98 k15 k4 σ2 x1 x3 x4))
      else (
        f_X9_isForged_94 k15 k4 σ x1 x3 x4)))
  else (
    f_X9_isForged_94 k15 k4 σ x1 x3 x4)

def f_X9_isForged_46 (k15 : Hp → Int32 → Int32 → Int32 → Int32 → Option (Int32 × Hp)) (k4 : Hp → Int32 → Int32 → Int32 → Option (Int32 × Hp))  (σ : Hp) (x1 : Int32) (x2 : Int32) (x3 : Int32) (x4 : Int32) : Option (Int32 × Hp) :=
  f_X9_isForged_47 k15 k4 σ x1 x2 x3 x4 (0 : Int32)

def f_X9_isForged_15 (k4 : Hp → Int32 → Int32 → Int32 → Option (Int32 × Hp))  : Nat → Hp → Int32 → Int32 → Int32 → Int32 → Option (Int32 × Hp)
  | 0, _, _, _, _, _ => none
  | n + 1, σ, x1, x2, x3, x4 =>
    if x3 ≤ x4 then (
      Lt (x3 + (1 : Int32)) fun v1 =>
      k4 σ x1 x2 v1)
    else (
      ck x3 12 <|
      if (σ 151 (ix x3)) = x1 then (
        ck x4 12 <|
        if (σ 151 (ix x4)) = x1 then (
          f_X9_isForged_47 (f_X9_isForged_15 k4 n) k4 σ x1 x2 x3 x4 (1 : Int32))
        else (
          f_X9_isForged_46 (f_X9_isForged_15 k4 n) k4 σ x1 x2 x3 x4))
      else (
        f_X9_isForged_46 (f_X9_isForged_15 k4 n) k4 σ x1 x2 x3 x4))

def f_X9_isForged_4   : Nat → Hp → Int32 → Int32 → Int32 → Option (Int32 × Hp)
  | 0, _, _, _, _ => none
  | n + 1, σ, x1, x2, x3 =>
    if (σ 134 28) ≤ x3 then (
      zr x2 σ)
    else (
      f_X9_isForged_15 (f_X9_isForged_4 n) FU σ x1 x2 x3 (0 : Int32))

def f_X9_isForged   (σ : Hp) (a1 : Int32) : Option (Int32 × Hp) :=
  f_X9_isForged_4 FU σ a1 (0 : Int32) (0 : Int32)

def f_X9_forged_29 (k9 : Hp → Int32 → Int32 → Option (Int32 × Hp))  (σ : Hp) (x2 : Int32) (s0 : Int32) (s1 : Int32) : Option (Int32 × Hp) :=
  Lt (s1 + s0) fun v1 =>
  Lt (x2 + (1 : Int32)) fun v2 =>
  k9 σ v1 v2

def f_X9_forged_9   : Nat → Hp → Int32 → Int32 → Option (Int32 × Hp)
  | 0, _, _, _ => none
  | n + 1, σ, x1, x2 =>
    if (100 : Int32) ≤ x2 then (
      some (x1, σ))
    else (
      bd (f_X9_isForged σ x2) fun r1 σ2 =>
      if r1 = 0 then (
        f_X9_forged_29 (f_X9_forged_9 n) σ2 x2 (0 : Int32) x1)
      else (
        f_X9_forged_29 (f_X9_forged_9 n) σ2 x2 (1 : Int32) x1))

def f_X9_forged   (σ : Hp)  : Option (Int32 × Hp) :=
  Lt (wr σ 134 0 (0 : Int32)) fun σ1 =>
  f_X9_forged_9 FU σ1 (0 : Int32) (0 : Int32)

def f_X9_forgedAt_36 (k9 : Hp → Int32 → Int32 → Int32 → Option (Int32 × Hp))  (σ : Hp) (x1 : Int32) (x2 : Int32) (x3 : Int32) : Option (Int32 × Hp) :=
  Lt (x3 + (1 : Int32)) fun v1 =>
  k9 σ x1 x2 v1

def f_X9_forgedAt_9   : Nat → Hp → Int32 → Int32 → Int32 → Option (Int32 × Hp)
  | 0, _, _, _, _ => none
  | n + 1, σ, x1, x2, x3 =>
    if (100 : Int32) ≤ x3 then (
      some ((-9 : Int32), σ))
    else (
      if x1 < 0 then (
        some ((-9 : Int32), σ))
      else (
        bd (f_X9_isForged σ x3) fun r1 σ2 =>
        if r1 = 0 then (
          f_X9_forgedAt_36 (f_X9_forgedAt_9 n) σ2 x1 x2 x3)
        else (
          if x2 = 0 then (
            some (x3, σ2))
          else (
            Lt (x2 + (-1 : Int32)) fun v3 =>
            f_X9_forgedAt_36 (f_X9_forgedAt_9 n) σ2 x1 v3 x3))))

def f_X9_forgedAt   (σ : Hp) (a1 : Int32) : Option (Int32 × Hp) :=
  Lt (wr σ 134 0 (0 : Int32)) fun σ1 =>
  f_X9_forgedAt_9 FU σ1 a1 a1 (0 : Int32)

def f_X9_forgers_56 (k9 : Hp → Int32 → Int32 → Option (Int32 × Hp))  (σ : Hp) (x2 : Int32) (s0 : Int32) (s1 : Int32) : Option (Int32 × Hp) :=
  Lt (s1 ||| s0) fun v1 =>
  Lt (x2 + (1 : Int32)) fun v2 =>
  k9 σ v1 v2

def f_X9_forgers_55 (k9 : Hp → Int32 → Int32 → Option (Int32 × Hp))  (σ : Hp) (x2 : Int32) (s0 : Int32) : Option (Int32 × Hp) :=
  f_X9_forgers_56 k9 σ x2 (0 : Int32) s0

def f_X9_forgers_9   : Nat → Hp → Int32 → Int32 → Option (Int32 × Hp)
  | 0, _, _, _ => none
  | n + 1, σ, x1, x2 =>
    if (σ 134 28) ≤ x2 then (
      some (x1, σ))
    else (
      ck x2 12 <|
      bd (f_X9_isForged σ (σ 151 (ix x2))) fun r1 σ2 =>
      if r1 = 0 then (
        f_X9_forgers_55 (f_X9_forgers_9 n) σ2 x2 x1)
      else (
        ck x2 12 <|
        bd (f_X9_noGuard σ2 (σ2 152 (ix x2))) fun r3 σ4 =>
        if r3 = 0 then (
          ck x2 12 <|
          f_X9_forgers_56 (f_X9_forgers_9 n) σ4 x2 ((1 : Int32) <<< ((σ4 152 (ix x2)) &&& 31)) x1)
        else (
          f_X9_forgers_55 (f_X9_forgers_9 n) σ4 x2 x1)))

def f_X9_forgers   (σ : Hp)  : Option (Int32 × Hp) :=
  Lt (wr σ 134 0 (0 : Int32)) fun σ1 =>
  f_X9_forgers_9 FU σ1 (0 : Int32) (0 : Int32)

def f_X9_keep_69 (k40 : Hp → Int32 → Int32 → Option (Int32 × Hp))  (σ : Hp) (x2 : Int32) (x3 : Int32) (s0 : Int32) (s1 : Int32) : Option (Int32 × Hp) :=
  ck s1 84 <|
  Lt (wr σ 149 (ix s1) s0) fun σ1 =>
  Lt (x3 + (1 : Int32)) fun v2 =>
  k40 σ1 x2 v2

def f_X9_keep_78   : Nat → Hp → Int32 → Int32 → Option (Int32 × Hp)
  | 0, _, _, _ => none
  | n + 1, σ, x2, x3 =>
    if (4 : Int32) ≤ x3 then (
      some ((σ 134 14), σ))
    else (
      ck x3 4 <|
      ck ((x2 + (32 : Int32)) + x3) 84 <|
      Lt (wr σ 149 (ix ((x2 + (32 : Int32)) + x3)) (σ 143 (ix x3))) fun σ1 =>
      Lt (x3 + (1 : Int32)) fun v2 =>
      f_X9_keep_78 n σ1 x2 v2)

def f_X9_keep_40   : Nat → Hp → Int32 → Int32 → Option (Int32 × Hp)
  | 0, _, _, _ => none
  | n + 1, σ, x2, x3 =>
    if (5 : Int32) ≤ x3 then (
      f_X9_keep_78 FU σ x2 (0 : Int32))
    else (
      ck x3 5 <|
      if (σ 140 (ix x3)) = 0 then (
        f_X9_keep_69 (f_X9_keep_40 n) σ x2 x3 (0 : Int32) ((x2 + (27 : Int32)) + x3))
      else (
        f_X9_keep_69 (f_X9_keep_40 n) σ x2 x3 (1 : Int32) ((x2 + (27 : Int32)) + x3)))

def f_X9_keep   (σ : Hp) (a1 : Int32) : Option (Int32 × Hp) :=
  Lt (wr σ 134 0 (0 : Int32)) fun σ1 =>
  bd (f_X9_in σ1 (a1.toInt64) (0 : Int64) (1 : Int64)) fun r2 σ3 =>
  if r2 = 0 then (
    some ((-1 : Int32), σ3))
  else (
    ck a1 2 <|
    Lt (wr σ3 150 (ix a1) (vp_nar .boolean (1 : Int32))) fun σ4 =>
    Lt ((42 : Int32) * a1) fun v5 =>
    bd (f_X9_layPage σ4 149 84 v5) fun r6 σ7 =>
    f_X9_keep_40 FU σ7 v5 (0 : Int32))

def f_X9_again_75 (k45 : Hp → Int32 → Int32 → Option (Int32 × Hp))  (σ : Hp) (x2 : Int32) (x3 : Int32) (s0 : Int32) (s1 : Int32) : Option (Int32 × Hp) :=
  ck s1 5 <|
  Lt (wr σ 140 (ix s1) (vp_nar .boolean s0)) fun σ1 =>
  Lt (x3 + (1 : Int32)) fun v2 =>
  k45 σ1 x2 v2

def f_X9_again_84   : Nat → Hp → Int32 → Int32 → Option (Int32 × Hp)
  | 0, _, _, _ => none
  | n + 1, σ, x2, x3 =>
    if (4 : Int32) ≤ x3 then (
      Lt (wr σ 134 25 (0 : Int32)) fun σ1 =>
      some ((σ1 134 14), σ1))
    else (
      ck ((x2 + (32 : Int32)) + x3) 84 <|
      ck x3 4 <|
      Lt (wr σ 143 (ix x3) (σ 149 (ix ((x2 + (32 : Int32)) + x3)))) fun σ2 =>
      Lt (x3 + (1 : Int32)) fun v3 =>
      f_X9_again_84 n σ2 x2 v3)

def f_X9_again_45   : Nat → Hp → Int32 → Int32 → Option (Int32 × Hp)
  | 0, _, _, _ => none
  | n + 1, σ, x2, x3 =>
    if (5 : Int32) ≤ x3 then (
      f_X9_again_84 FU σ x2 (0 : Int32))
    else (
      ck ((x2 + (27 : Int32)) + x3) 84 <|
      if (σ 149 (ix ((x2 + (27 : Int32)) + x3))) = (1 : Int32) then (
        f_X9_again_75 (f_X9_again_45 n) σ x2 x3 (1 : Int32) x3)
      else (
        f_X9_again_75 (f_X9_again_45 n) σ x2 x3 (0 : Int32) x3))

def f_X9_again   (σ : Hp) (a1 : Int32) : Option (Int32 × Hp) :=
  Lt (wr σ 134 0 (0 : Int32)) fun σ1 =>
  bd (f_X9_in σ1 (a1.toInt64) (0 : Int64) (1 : Int64)) fun r2 σ3 =>
  if r2 = 0 then (
    some ((-1 : Int32), σ3))
  else (
    ck a1 2 <|
    if (σ3 150 (ix a1)) = 0 then (
      some ((-3 : Int32), σ3))
    else (
      Lt ((42 : Int32) * a1) fun v4 =>
      bd (f_X9_takePage σ3 149 84 v4) fun r5 σ6 =>
      f_X9_again_45 FU σ6 v4 (0 : Int32)))

