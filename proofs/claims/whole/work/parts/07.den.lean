def D_J0_coder_7d493 (σ : St) : Option Int32 :=
  if (1 : Int32) = 0 then
    some (1 : Int32)
  else
    some (0 : Int32)
def D_J0_isLatin1_aae02 (σ : St) : Option Int32 :=
  if (1 : Int32) = 0 then
    some (0 : Int32)
  else
    if (0 : Int32) = 0 then
      some (1 : Int32)
    else
      some (0 : Int32)
def D_J0_length_8abf5 (σ : St) : Option Int32 :=
  bp (D_J0_coder_7d493 σ) (fun r1 => some ((5 : Int32) >>> (r1 &&& 31)))
def D_J1_canEncode_9a6ad (x0 : Int32) : Option Int32 :=
  if x0 < 0 then
    some (0 : Int32)
  else
    if (255 : Int32) < x0 then
      some (0 : Int32)
    else
      some (1 : Int32)
def L_J1_indexOfChar_4cfef_7 (N : Nat) (σ : St) (x3 : Int32) (x4 : Int32) : Nat → Int32 → Option Int32
  | 0, _ => none
  | n + 1, x5 =>
    if x3 ≤ x5 then
      some (-1 : Int32)
    else
      gi x5 5 (if (bt5 x5) = x4 then
          some x5
        else
          L_J1_indexOfChar_4cfef_7 N σ x3 x4 n (x5 + (1 : Int32)))
def D_J1_indexOfChar_4cfef (N : Nat) (σ : St) (x1 : Int32) (x2 : Int32) (x3 : Int32) : Option Int32 :=
  L_J1_indexOfChar_4cfef_7 N σ x3 x1.toInt8.toInt32 N x2
def D_J1_indexOf_4cfef (N : Nat) (σ : St) (x1 : Int32) (x2 : Int32) (x3 : Int32) : Option Int32 :=
  bp (D_J1_canEncode_9a6ad x1) (fun r1 => if r1 = 0 then
      some (-1 : Int32)
    else
      if (if x2 < (0 : Int32) then (0 : Int32) else x2) < (if (5 : Int32) < x3 then (5 : Int32) else x3) then
        bp (D_J1_indexOfChar_4cfef N σ x1 (if x2 < (0 : Int32) then (0 : Int32) else x2) (if (5 : Int32) < x3 then (5 : Int32) else x3)) (fun r6 => some r6)
      else
        some (-1 : Int32))
def D_J0_indexOf_7cf53 (N : Nat) (σ : St) (x1 : Int32) (x2 : Int32) : Option Int32 :=
  bp (D_J0_isLatin1_aae02 σ) (fun r1 => if r1 = 0 then
      none
    else
      bp (D_J0_length_8abf5 σ) (fun r3 => bp (D_J1_indexOf_4cfef N σ x1 x2 r3) (fun r4 => some r4)))
def D_J0_indexOf_0f7a4 (N : Nat) (σ : St) (x1 : Int32) : Option Int32 :=
  bp (D_J0_indexOf_7cf53 N σ x1 (0 : Int32)) (fun r1 => some r1)
def D_J6_bitCount_0f7a4 (x0 : Int32) : Option Int32 :=
  some ((((((((x0 - (((x0.toUInt32 >>> ((1 : Int32).toUInt32 &&& Int32.toUInt32 31)).toInt32) &&& (1431655765 : Int32))) &&& (858993459 : Int32)) + ((((x0 - (((x0.toUInt32 >>> ((1 : Int32).toUInt32 &&& Int32.toUInt32 31)).toInt32) &&& (1431655765 : Int32))).toUInt32 >>> ((2 : Int32).toUInt32 &&& Int32.toUInt32 31)).toInt32) &&& (858993459 : Int32))) + (((((x0 - (((x0.toUInt32 >>> ((1 : Int32).toUInt32 &&& Int32.toUInt32 31)).toInt32) &&& (1431655765 : Int32))) &&& (858993459 : Int32)) + ((((x0 - (((x0.toUInt32 >>> ((1 : Int32).toUInt32 &&& Int32.toUInt32 31)).toInt32) &&& (1431655765 : Int32))).toUInt32 >>> ((2 : Int32).toUInt32 &&& Int32.toUInt32 31)).toInt32) &&& (858993459 : Int32))).toUInt32 >>> ((4 : Int32).toUInt32 &&& Int32.toUInt32 31)).toInt32)) &&& (252645135 : Int32)) + (((((((x0 - (((x0.toUInt32 >>> ((1 : Int32).toUInt32 &&& Int32.toUInt32 31)).toInt32) &&& (1431655765 : Int32))) &&& (858993459 : Int32)) + ((((x0 - (((x0.toUInt32 >>> ((1 : Int32).toUInt32 &&& Int32.toUInt32 31)).toInt32) &&& (1431655765 : Int32))).toUInt32 >>> ((2 : Int32).toUInt32 &&& Int32.toUInt32 31)).toInt32) &&& (858993459 : Int32))) + (((((x0 - (((x0.toUInt32 >>> ((1 : Int32).toUInt32 &&& Int32.toUInt32 31)).toInt32) &&& (1431655765 : Int32))) &&& (858993459 : Int32)) + ((((x0 - (((x0.toUInt32 >>> ((1 : Int32).toUInt32 &&& Int32.toUInt32 31)).toInt32) &&& (1431655765 : Int32))).toUInt32 >>> ((2 : Int32).toUInt32 &&& Int32.toUInt32 31)).toInt32) &&& (858993459 : Int32))).toUInt32 >>> ((4 : Int32).toUInt32 &&& Int32.toUInt32 31)).toInt32)) &&& (252645135 : Int32)).toUInt32 >>> ((8 : Int32).toUInt32 &&& Int32.toUInt32 31)).toInt32)) + ((((((((x0 - (((x0.toUInt32 >>> ((1 : Int32).toUInt32 &&& Int32.toUInt32 31)).toInt32) &&& (1431655765 : Int32))) &&& (858993459 : Int32)) + ((((x0 - (((x0.toUInt32 >>> ((1 : Int32).toUInt32 &&& Int32.toUInt32 31)).toInt32) &&& (1431655765 : Int32))).toUInt32 >>> ((2 : Int32).toUInt32 &&& Int32.toUInt32 31)).toInt32) &&& (858993459 : Int32))) + (((((x0 - (((x0.toUInt32 >>> ((1 : Int32).toUInt32 &&& Int32.toUInt32 31)).toInt32) &&& (1431655765 : Int32))) &&& (858993459 : Int32)) + ((((x0 - (((x0.toUInt32 >>> ((1 : Int32).toUInt32 &&& Int32.toUInt32 31)).toInt32) &&& (1431655765 : Int32))).toUInt32 >>> ((2 : Int32).toUInt32 &&& Int32.toUInt32 31)).toInt32) &&& (858993459 : Int32))).toUInt32 >>> ((4 : Int32).toUInt32 &&& Int32.toUInt32 31)).toInt32)) &&& (252645135 : Int32)) + (((((((x0 - (((x0.toUInt32 >>> ((1 : Int32).toUInt32 &&& Int32.toUInt32 31)).toInt32) &&& (1431655765 : Int32))) &&& (858993459 : Int32)) + ((((x0 - (((x0.toUInt32 >>> ((1 : Int32).toUInt32 &&& Int32.toUInt32 31)).toInt32) &&& (1431655765 : Int32))).toUInt32 >>> ((2 : Int32).toUInt32 &&& Int32.toUInt32 31)).toInt32) &&& (858993459 : Int32))) + (((((x0 - (((x0.toUInt32 >>> ((1 : Int32).toUInt32 &&& Int32.toUInt32 31)).toInt32) &&& (1431655765 : Int32))) &&& (858993459 : Int32)) + ((((x0 - (((x0.toUInt32 >>> ((1 : Int32).toUInt32 &&& Int32.toUInt32 31)).toInt32) &&& (1431655765 : Int32))).toUInt32 >>> ((2 : Int32).toUInt32 &&& Int32.toUInt32 31)).toInt32) &&& (858993459 : Int32))).toUInt32 >>> ((4 : Int32).toUInt32 &&& Int32.toUInt32 31)).toInt32)) &&& (252645135 : Int32)).toUInt32 >>> ((8 : Int32).toUInt32 &&& Int32.toUInt32 31)).toInt32)).toUInt32 >>> ((16 : Int32).toUInt32 &&& Int32.toUInt32 31)).toInt32)) &&& (63 : Int32))
def D_X0_append (σ : St) (x1 : Int32) (x2 : Int32) (x3 : Int32) : Option St :=
  if (12 : Int32) ≤ (σ 10 5) then
    some σ
  else
    gi (σ 10 5) 12 (gi (σ 10 5) 12 (gi (σ 10 5) 12 (some (pt (pt (pt (pt σ 12 ((σ 10 5).toNatClampNeg) x1) 13 ((σ 10 5).toNatClampNeg) x2) 14 ((σ 10 5).toNatClampNeg) x3) 10 5 ((σ 10 5) + (1 : Int32))))))
def L_X0_shownTo_4 (N : Nat) (σ : St) (x1 : Int32) : Nat → Int32 → Int32 → Option Int32
  | 0, _, _ => none
  | n + 1, x2, x3 =>
    if (σ 10 5) ≤ x3 then
      some x2
    else
      gi x3 12 (if (σ 13 x3.toNatClampNeg) = x1 then
          L_X0_shownTo_4 N σ x1 n (x2 + (1 : Int32)) (x3 + (1 : Int32))
        else
          L_X0_shownTo_4 N σ x1 n x2 (x3 + (1 : Int32)))
def D_X0_shownTo (N : Nat) (σ : St) (x1 : Int32) : Option Int32 :=
  L_X0_shownTo_4 N σ x1 N (0 : Int32) (0 : Int32)
def D_X0_take_k (σ : St) : Option St :=
  some (pt (pt (pa (pa (pa (pa σ 16 (va_cpy (σ 11) (σ 16) 0 0 3)) 17 (va_cpy (σ 12) (σ 17) 0 0 12)) 18 (va_cpy (σ 13) (σ 18) 0 0 12)) 19 (va_cpy (σ 14) (σ 19) 0 0 12)) 15 4 (σ 10 4)) 15 5 (σ 10 5))
def D_X0_take_n (σ : St) : Option St :=
  some (pt (pt (pa (pa (pa (pa σ 11 (va_cpy (σ 16) (σ 11) 0 0 3)) 12 (va_cpy (σ 17) (σ 12) 0 0 12)) 13 (va_cpy (σ 18) (σ 13) 0 0 12)) 14 (va_cpy (σ 19) (σ 14) 0 0 12)) 10 4 (σ 15 4)) 10 5 (σ 15 5))
def D_X6_rightFromOtherEnd (σ : St) (x1 : Int32) (x2 : Int32) : Option Int32 :=
  gi x1 216 (gi x2 216 (bp (D_J6_bitCount_0f7a4 ((σ 22 x1.toNatClampNeg) &&& (σ 21 x2.toNatClampNeg))) (fun r3 => some r3)))
def D_X6_alike (σ : St) (x1 : Int32) (x2 : Int32) : Option Int32 :=
  gi x1 216 (gi x2 216 (bp (D_J6_bitCount_0f7a4 ((σ 23 x1.toNatClampNeg) &&& (σ 23 x2.toNatClampNeg))) (fun r3 => some r3)))
def D_X2_plainWord (x0 : Int32) (x1 : Int32) : Option Int32 :=
  some ((((10 : Int32) * x0) + x1) - x0)
def D_X10_word (σ : St) (x2 : Int32) (x3 : Int32) : Option Int32 :=
  bp (D_X6_rightFromOtherEnd σ x2 x3) (fun r1 => bp (D_X6_alike σ x2 x3) (fun r2 => bp (D_X2_plainWord r1 r2) (fun r3 => some r3)))
def D_X11_isJudge (σ : St) (x1 : Int32) : Option Int32 :=
  if x1 < 0 then
    some (0 : Int32)
  else
    if (σ 0 9) ≤ x1 then
      some (0 : Int32)
    else
      some (1 : Int32)
def D_X11_isKind (x0 : Int32) : Option Int32 :=
  if x0 < 0 then
    some (0 : Int32)
  else
    if (5 : Int32) ≤ x0 then
      some (0 : Int32)
    else
      some (1 : Int32)
def D_X11_judgeAt (σ : St) (x1 : Int32) : Option Nat :=
  gi x1 3 (gi (σ 11 x1.toNatClampNeg) 5 (some ((σ 11 x1.toNatClampNeg).toNatClampNeg)))
def D_X11_isOf (k0 : Nat) (x1 : Int32) : Option Int32 :=
  if x1 = (1 : Int32) then
    gk k0 (gb (inK 1 k0) (some (inK 1 k0)))
  else if x1 = (2 : Int32) then
    gk k0 (gb (inK 2 k0) (some (inK 2 k0)))
  else if x1 = (3 : Int32) then
    gk k0 (gb (inK 3 k0) (some (inK 3 k0)))
  else if x1 = (4 : Int32) then
    gk k0 (gb (inK 4 k0) (some (inK 4 k0)))
  else 
    some (1 : Int32)
def D_X11_as (σ : St) (x1 : Int32) (x2 : Int32) : Option Int32 :=
  bp (D_X11_isJudge σ x1) (fun r1 => if r1 = 0 then
      some (-101 : Int32)
    else
      bp (D_X11_isKind x2) (fun r3 => if r3 = 0 then
          some (-102 : Int32)
        else
          bp (D_X11_judgeAt σ x1) (fun r5 => bp (D_X11_isOf r5 x2) (fun r6 => if r6 = 0 then
                some (-1 : Int32)
              else
                some x1))))
def L_X5_fill_13 (N : Nat) : Nat → Int32 → St → Option St
  | 0, _, _ => none
  | n + 1, x1, σ =>
    if (σ 24 2) ≤ x1 then
      some σ
    else
      gi x1 216 (gi x1 216 (L_X5_fill_13 N n (x1 + (1 : Int32)) (pt (pt σ 25 x1.toNatClampNeg x1) 26 x1.toNatClampNeg (1 : Int32))))
def D_X5_fill (N : Nat) (σ : St) : Option St :=
  L_X5_fill_13 N N (0 : Int32) (pt σ 24 2 (σ 20 2))
def D_X6_right (σ : St) (x1 : Int32) (x2 : Int32) : Option Int32 :=
  gi x1 216 (gi x2 216 (bp (D_J6_bitCount_0f7a4 ((σ 21 x1.toNatClampNeg) &&& (σ 21 x2.toNatClampNeg))) (fun r3 => some r3)))
def D_X2_word (σ : St) (x2 : Int32) (x3 : Int32) : Option Int32 :=
  bp (D_X6_right σ x2 x3) (fun r1 => bp (D_X6_alike σ x2 x3) (fun r2 => bp (D_X2_plainWord r1 r2) (fun r3 => some r3)))
def D_X7_word (σ : St) (x2 : Int32) (x3 : Int32) : Option Int32 :=
  bp (D_X6_alike σ x2 x3) (fun r1 => some r1)
def D_X8_word (σ : St) (x2 : Int32) (x3 : Int32) : Option Int32 :=
  bp (D_X6_right σ x2 x3) (fun r1 => some r1)
def D_X1_word (σ : St) (x2 : Int32) (x3 : Int32) : Option Int32 :=
  bp (D_X6_alike σ x2 x3) (fun r1 => some (r1 &&& (1 : Int32)))
def D_wd (σ : St) (k : Nat) (x2 x3 : Int32) : Option Int32 :=
  if k = 0 then D_X2_word σ x2 x3 else if k = 1 then D_X7_word σ x2 x3 else if k = 2 then D_X8_word σ x2 x3 else if k = 3 then D_X10_word σ x2 x3 else if k = 4 then D_X1_word σ x2 x3 else none
def L_X5_keep_6 (N : Nat) (k1 : Nat) (x2 : Int32) (x3 : Int32) : Nat → Int32 → Int32 → St → Option St
  | 0, _, _, _ => none
  | n + 1, x4, x5, σ =>
    if (σ 24 2) ≤ x5 then
      some (pt σ 24 2 x4)
    else
      gi x5 216 (bp (D_wd σ k1 x2 (σ 25 x5.toNatClampNeg)) (fun r3 => if r3 = x3 then
            gi x4 216 (L_X5_keep_6 N k1 x2 x3 n (x4 + (1 : Int32)) (x5 + (1 : Int32)) (pt σ 25 x4.toNatClampNeg (σ 25 x5.toNatClampNeg)))
          else
            gi (σ 25 x5.toNatClampNeg) 216 (L_X5_keep_6 N k1 x2 x3 n x4 (x5 + (1 : Int32)) (pt σ 26 ((σ 25 x5.toNatClampNeg).toNatClampNeg) (0 : Int32)))))
def D_X5_keep (N : Nat) (σ : St) (k1 : Nat) (x2 : Int32) (x3 : Int32) : Option St :=
  L_X5_keep_6 N k1 x2 x3 N (0 : Int32) (0 : Int32) σ
def L_X11_gatherFitting_9 (N : Nat) : Nat → Int32 → St → Option (Int32 × St)
  | 0, _, _ => none
  | n + 1, x1, σ =>
    if (σ 10 5) ≤ x1 then
      some (σ 24 2, σ)
    else
      gi x1 12 (bp (D_X11_judgeAt σ (σ 13 x1.toNatClampNeg)) (fun r4 => gi x1 12 (gi x1 12 (bp (D_X5_keep N σ r4 (σ 12 x1.toNatClampNeg) (σ 14 x1.toNatClampNeg)) (fun s7 => L_X11_gatherFitting_9 N n (x1 + (1 : Int32)) s7)))))
def D_X11_gatherFitting (N : Nat) (σ : St) : Option (Int32 × St) :=
  bp (D_X5_fill N σ) (fun s1 => L_X11_gatherFitting_9 N N (0 : Int32) s1)
def L_X5_tally_26 (N : Nat) (k1 : Nat) (x2 : Int32) : Nat → Int32 → St → Option St
  | 0, _, _ => none
  | n + 1, x3, σ =>
    if (σ 24 2) ≤ x3 then
      some σ
    else
      gi x3 216 (bp (D_wd σ k1 x2 (σ 25 x3.toNatClampNeg)) (fun r4 => if r4 < 0 then
            L_X5_tally_26 N k1 x2 n (x3 + (1 : Int32)) σ
          else
            if (31 : Int32) ≤ r4 then
              L_X5_tally_26 N k1 x2 n (x3 + (1 : Int32)) σ
            else
              gi r4 31 (gi r4 31 (L_X5_tally_26 N k1 x2 n (x3 + (1 : Int32)) (pt σ 27 r4.toNatClampNeg ((σ 27 r4.toNatClampNeg) + (1 : Int32)))))))
def L_X5_tally_2 (N : Nat) (k1 : Nat) (x2 : Int32) : Nat → Int32 → St → Option St
  | 0, _, _ => none
  | n + 1, x3, σ =>
    if (31 : Int32) ≤ x3 then
      L_X5_tally_26 N k1 x2 N (0 : Int32) σ
    else
      gi x3 31 (L_X5_tally_2 N k1 x2 n (x3 + (1 : Int32)) (pt σ 27 x3.toNatClampNeg (0 : Int32)))
def D_X5_tally (N : Nat) (σ : St) (k1 : Nat) (x2 : Int32) : Option St :=
  L_X5_tally_2 N k1 x2 N (0 : Int32) σ
def L_X5_worst_22 (N : Nat) (x5 : Int32) : Nat → Int32 → Int32 → St → Option (Int32 × St)
  | 0, _, _, _ => none
  | n + 1, x3, x6, σ =>
    if x5 ≤ x6 then
      some (x3, σ)
    else
      gi x6 31 (L_X5_worst_22 N x5 n (if x3 < (σ 27 x6.toNatClampNeg) then (σ 27 x6.toNatClampNeg) else x3) (x6 + (1 : Int32)) σ)
def D_X5_worst (N : Nat) (σ : St) (k1 : Nat) (x2 : Int32) : Option (Int32 × St) :=
  bp (D_X5_tally N σ k1 x2) (fun s1 => L_X5_worst_22 N (31 : Int32) N (0 : Int32) (0 : Int32) s1)
def J_X5_bestRow_52 (N : Nat) (kc9 : Int32 → Int32 → Int32 → St → Option (Int32 × St)) (k1 : Nat) (x2 : Int32) (x3 : Int32) (x4 : Int32) (t0 : Int32) (t1 : Int32) (σ : St) : Option (Int32 × St) :=
  if x3 ≤ (t0 + t1) then
    kc9 x2 x3 (x4 + (1 : Int32)) σ
  else
    kc9 x4 (t0 + t1) (x4 + (1 : Int32)) σ
def L_X5_bestRow_9 (N : Nat) (k1 : Nat) : Nat → Int32 → Int32 → Int32 → St → Option (Int32 × St)
  | 0, _, _, _, _ => none
  | n + 1, x2, x3, x4, σ =>
    if (σ 20 2) ≤ x4 then
      some (x2, σ)
    else
      if (σ 24 2) ≤ 0 then
        some (x2, σ)
      else
        bs (D_X5_worst N σ k1 x4) (fun r3 s3 => gi x4 216 (if (s3 26 x4.toNatClampNeg) = 0 then
              J_X5_bestRow_52 N (L_X5_bestRow_9 N k1 n) k1 x2 x3 x4 ((2 : Int32) * r3) (1 : Int32) s3
            else
              J_X5_bestRow_52 N (L_X5_bestRow_9 N k1 n) k1 x2 x3 x4 ((2 : Int32) * r3) (0 : Int32) s3))
def D_X5_bestRow (N : Nat) (σ : St) (k1 : Nat) : Option (Int32 × St) :=
  L_X5_bestRow_9 N k1 N (-1 : Int32) (434 : Int32) (0 : Int32) σ
def D_X11_best (N : Nat) (σ : St) (x1 : Int32) (x2 : Int32) : Option (Int32 × St) :=
  bp (D_X11_isJudge σ x1) (fun r1 => if r1 = 0 then
      some ((-101 : Int32), σ)
    else
      if x2 < 0 then
        some ((-102 : Int32), σ)
      else
        if x2 ≤ (1 : Int32) then
          if (σ 0 12) < (24 : Int32) then
            bs (D_X11_gatherFitting N (pt σ 0 12 ((σ 0 12) + (1 : Int32)))) (fun r6 s6 => bp (D_X11_judgeAt s6 x1) (fun r7 => bs (D_X5_bestRow N s6 r7) (fun r8 s8 => if x2 = 0 then
                    some (r8, s8)
                  else
                    if r8 = (-1 : Int32) then
                      some ((0 : Int32), s8)
                    else
                      bp (D_X11_judgeAt s8 x1) (fun r11 => bs (D_X5_worst N s8 r11 r8) (fun r12 s12 => some (r12, s12))))))
          else
            some ((-103 : Int32), σ)
        else
          some ((-102 : Int32), σ))
def D_X11_blank (σ : St) : Option (Int32 × St) :=
  some (σ 1 1, pt σ 1 1 (0 : Int32))
def J_X11_commonDivisor_34 (N : Nat) (x2 : Int32)  : Option Int32 :=
  some (if x2 < (1 : Int32) then (1 : Int32) else x2)
def L_X11_commonDivisor_7 (N : Nat) : Nat → Int32 → Int32 → Int32 → Option Int32
  | 0, _, _, _ => none
  | n + 1, x2, x3, x4 =>
    if (64 : Int32) ≤ x4 then
      J_X11_commonDivisor_34 N x2
    else
      if x3 = 0 then
        J_X11_commonDivisor_34 N x2
      else
        gz x3 (L_X11_commonDivisor_7 N n x3 (x2 - x2 / x3 * x3) (x4 + (1 : Int32)))
def D_X11_commonDivisor (N : Nat) (x0 : Int32) (x1 : Int32) : Option Int32 :=
  L_X11_commonDivisor_7 N N x0 x1 (0 : Int32)
def L_X11_couldBe_2 (N : Nat) (σ : St) (x1 : Int32) (k2 : Nat) : Nat → Int32 → Option Int32
  | 0, _ => none
  | n + 1, x3 =>
    if (σ 10 5) ≤ x3 then
      some (1 : Int32)
    else
      gi x3 12 (if (σ 13 x3.toNatClampNeg) = x1 then
          gi x3 12 (bp (D_wd σ k2 (σ 12 x3.toNatClampNeg) (σ 10 4)) (fun r5 => gi x3 12 (if r5 = (σ 14 x3.toNatClampNeg) then
                  L_X11_couldBe_2 N σ x1 k2 n (x3 + (1 : Int32))
                else
                  some (0 : Int32))))
        else
          L_X11_couldBe_2 N σ x1 k2 n (x3 + (1 : Int32)))
def D_X11_couldBe (N : Nat) (σ : St) (x1 : Int32) (k2 : Nat) : Option Int32 :=
  L_X11_couldBe_2 N σ x1 k2 N (0 : Int32)
def D_X11_isGameOn (σ : St) : Option Int32 :=
  if (σ 20 2) ≤ 0 then
    some (0 : Int32)
  else
    some (1 : Int32)
def D_X11_count (σ : St) (x1 : Int32) : Option Int32 :=
  if x1 = (0 : Int32) then
    some (σ 20 0)
  else if x1 = (1 : Int32) then
    some (σ 20 1)
  else if x1 = (2 : Int32) then
    some (σ 20 2)
  else if x1 = (3 : Int32) then
    some (σ 0 9)
  else if x1 = (4 : Int32) then
    some (σ 10 5)
  else if x1 = (5 : Int32) then
    bp (D_X11_isGameOn σ) (fun r7 => if r7 = 0 then
        some (-1 : Int32)
      else
        some (σ 10 4))
  else if x1 = (6 : Int32) then
    some (σ 1 1)
  else if x1 = (7 : Int32) then
    some (σ 0 11)
  else if x1 = (8 : Int32) then
    some (σ 0 12)
  else if x1 = (9 : Int32) then
    some (σ 0 13)
  else if x1 = (10 : Int32) then
    some (σ 0 14)
  else 
    some (-102 : Int32)
def J_X6_areTwins_39 (N : Nat) (σ : St) (kc3 : Int32 → Option Int32) (k1 : Nat) (x2 : Int32) (x3 : Int32) (x4 : Int32) (t0 : Int32)  : Option Int32 :=
  bp (D_wd σ k1 t0 x2) (fun r3 => bp (D_wd σ k1 t0 x3) (fun r4 => if r3 = r4 then
        kc3 (x4 + (1 : Int32))
      else
        some (0 : Int32)))
def L_X6_areTwins_3 (N : Nat) (σ : St) (k1 : Nat) (x2 : Int32) (x3 : Int32) : Nat → Int32 → Option Int32
  | 0, _ => none
  | n + 1, x4 =>
    if (σ 20 2) ≤ x4 then
      some (1 : Int32)
    else
      if (σ 20 2) ≤ (x2 + x4) then
        J_X6_areTwins_39 N σ (L_X6_areTwins_3 N σ k1 x2 x3 n) k1 x2 x3 x4 ((x2 + x4) - (σ 20 2))
      else
        J_X6_areTwins_39 N σ (L_X6_areTwins_3 N σ k1 x2 x3 n) k1 x2 x3 x4 (x2 + x4)
def D_X6_areTwins (N : Nat) (σ : St) (k1 : Nat) (x2 : Int32) (x3 : Int32) : Option Int32 :=
  L_X6_areTwins_3 N σ k1 x2 x3 N (0 : Int32)
def L_X6_twins_14 (N : Nat) (σ : St) (kc2 : Int32 → Option Int32) (k1 : Nat) (x2 : Int32) : Nat → Int32 → Option Int32
  | 0, _ => none
  | n + 1, x3 =>
    if (σ 20 2) ≤ x3 then
      kc2 (x2 + (1 : Int32))
    else
      bp (D_X6_areTwins N σ k1 x2 x3) (fun r3 => if r3 = 0 then
          L_X6_twins_14 N σ kc2 k1 x2 n (x3 + (1 : Int32))
        else
          some ((x2 * (1000 : Int32)) + x3))
def L_X6_twins_2 (N : Nat) (σ : St) (k1 : Nat) : Nat → Int32 → Option Int32
  | 0, _ => none
  | n + 1, x2 =>
    if (σ 20 2) ≤ x2 then
      some (-1 : Int32)
    else
      L_X6_twins_14 N σ (L_X6_twins_2 N σ k1 n) k1 x2 N (x2 + (1 : Int32))
def D_X6_twins (N : Nat) (σ : St) (k1 : Nat) : Option Int32 :=
  L_X6_twins_2 N σ k1 N (0 : Int32)
def L_X11_sorts_4 (N : Nat) (σ : St) (x1 : Int32) : Nat → Int32 → Int32 → Option Int32
  | 0, _, _ => none
  | n + 1, x2, x3 =>
    if (5 : Int32) ≤ x3 then
      some x2
    else
      gi x3 5 (bp (D_X11_couldBe N σ x1 x3.toNatClampNeg) (fun r3 => if r3 = 0 then
            L_X11_sorts_4 N σ x1 n x2 (x3 + (1 : Int32))
          else
            L_X11_sorts_4 N σ x1 n (x2 ||| ((1 : Int32) <<< (x3 &&& 31))) (x3 + (1 : Int32))))
def D_X11_sorts (N : Nat) (σ : St) (x1 : Int32) : Option Int32 :=
  L_X11_sorts_4 N σ x1 N (0 : Int32) (0 : Int32)
def J_X11_worstSorts_118 (N : Nat) (kc63 : Int32 → Int32 → St → Option (Int32 × St)) (x3 : Int32) (x4 : Int32) (x5 : Int32) (σ : St) : Option (Int32 × St) :=
  kc63 (if x3 < x5 then x5 else x3) (x4 + (1 : Int32)) σ
def L_X11_worstSorts_75 (N : Nat) (kc63 : Int32 → Int32 → St → Option (Int32 × St)) (x3 : Int32) (x4 : Int32) : Nat → Int32 → Int32 → St → Option (Int32 × St)
  | 0, _, _, _ => none
  | n + 1, x5, x6, σ =>
    if (5 : Int32) ≤ x6 then
      J_X11_worstSorts_118 N kc63 x3 x4 x5 σ
    else
      gi x4 5 (if (σ 9 x4.toNatClampNeg) = (-1 : Int32) then
          J_X11_worstSorts_118 N kc63 x3 x4 x5 σ
        else
          gi x6 5 (gi x4 5 (if (σ 9 x6.toNatClampNeg) = (σ 9 x4.toNatClampNeg) then
                L_X11_worstSorts_75 N kc63 x3 x4 n (x5 + (1 : Int32)) (x6 + (1 : Int32)) σ
              else
                L_X11_worstSorts_75 N kc63 x3 x4 n x5 (x6 + (1 : Int32)) σ)))
def L_X11_worstSorts_63 (N : Nat) : Nat → Int32 → Int32 → St → Option (Int32 × St)
  | 0, _, _, _ => none
  | n + 1, x3, x4, σ =>
    if (5 : Int32) ≤ x4 then
      some (x3, σ)
    else
      L_X11_worstSorts_75 N (L_X11_worstSorts_63 N n) x3 x4 N (0 : Int32) (0 : Int32) σ
def L_X11_worstSorts_5 (N : Nat) (x1 : Int32) (x2 : Int32) (x3 : Int32) : Nat → Int32 → St → Option (Int32 × St)
  | 0, _, _ => none
  | n + 1, x4, σ =>
    if (5 : Int32) ≤ x4 then
      L_X11_worstSorts_63 N N x3 (0 : Int32) σ
    else
      if ((x1 >>> (x4 &&& 31)) &&& (1 : Int32)) = (1 : Int32) then
        gi x4 5 (bp (D_wd σ x4.toNatClampNeg x2 (σ 10 4)) (fun r13 => gi x4 5 (L_X11_worstSorts_5 N x1 x2 x3 n (x4 + (1 : Int32)) (pt σ 9 x4.toNatClampNeg r13))))
      else
        gi x4 5 (L_X11_worstSorts_5 N x1 x2 x3 n (x4 + (1 : Int32)) (pt σ 9 x4.toNatClampNeg (-1 : Int32)))
def D_X11_worstSorts (N : Nat) (σ : St) (x1 : Int32) (x2 : Int32) : Option (Int32 × St) :=
  L_X11_worstSorts_5 N x1 x2 (0 : Int32) N (0 : Int32) σ
def L_X11_testFor_8 (N : Nat) (x1 : Int32) : Nat → Int32 → Int32 → Int32 → St → Option (Int32 × St)
  | 0, _, _, _, _ => none
  | n + 1, x2, x3, x4, σ =>
    if (σ 20 2) ≤ x4 then
      some (x2, σ)
    else
      if x1 = 0 then
        some (x2, σ)
      else
        bs (D_X11_worstSorts N σ x1 x4) (fun r3 s3 => if x3 ≤ r3 then
            L_X11_testFor_8 N x1 n x2 x3 (x4 + (1 : Int32)) s3
          else
            L_X11_testFor_8 N x1 n x4 r3 (x4 + (1 : Int32)) s3)
def D_X11_testFor (N : Nat) (σ : St) (x1 : Int32) : Option (Int32 × St) :=
  L_X11_testFor_8 N x1 N (-1 : Int32) (6 : Int32) (0 : Int32) σ
def D_X11_judge (N : Nat) (σ : St) (x1 : Int32) (x2 : Int32) : Option (Int32 × St) :=
  bp (D_X11_isJudge σ x1) (fun r1 => if r1 = 0 then
      some ((-101 : Int32), σ)
    else
      if x2 = (0 : Int32) then
        gi x1 3 (some (σ 11 x1.toNatClampNeg, σ))
      else if x2 = (1 : Int32) then
        bp (D_X0_shownTo N σ x1) (fun r6 => some (r6, σ))
      else if x2 = (2 : Int32) then
        bp (D_X11_sorts N σ x1) (fun r8 => some (r8, σ))
      else if x2 = (3 : Int32) then
        bp (D_X11_sorts N σ x1) (fun r10 => bs (D_X11_testFor N σ r10) (fun r11 s11 => some (r11, s11)))
      else if x2 = (4 : Int32) then
        bp (D_X11_judgeAt σ x1) (fun r13 => bp (D_X6_twins N σ r13) (fun r14 => some (r14, σ)))
      else 
        some ((-102 : Int32), σ))
def D_X11_with (y0 : Int64) (x2 : Int32) : Option Int64 :=
  some (((31 : Int64) * y0) + x2.toInt64)
def D_X11_isRow (σ : St) (x1 : Int32) : Option Int32 :=
  if x1 < 0 then
    some (0 : Int32)
  else
    if (σ 20 2) ≤ x1 then
      some (0 : Int32)
    else
      some (1 : Int32)
def L_X5_squares_22 (N : Nat) (x5 : Int32) : Nat → Int32 → Int32 → St → Option (Int32 × St)
  | 0, _, _, _ => none
  | n + 1, x3, x6, σ =>
    if x5 ≤ x6 then
      some (x3, σ)
    else
      gi x6 31 (L_X5_squares_22 N x5 n (x3 + ((σ 27 x6.toNatClampNeg) * (σ 27 x6.toNatClampNeg))) (x6 + (1 : Int32)) σ)
def D_X5_squares (N : Nat) (σ : St) (k1 : Nat) (x2 : Int32) : Option (Int32 × St) :=
  bp (D_X5_tally N σ k1 x2) (fun s1 => L_X5_squares_22 N (31 : Int32) N (0 : Int32) (0 : Int32) s1)
def J_X11_rest_85 (N : Nat) (x5 : Int32) (t0 : Int32) (σ : St) : Option (Int32 × St) :=
  gz x5 (some (t0 / x5, σ))
def D_X11_rest (N : Nat) (σ : St) (x1 : Int32) (x2 : Int32) (x3 : Int32) : Option (Int32 × St) :=
  bp (D_X11_isRow σ x1) (fun r1 => if r1 = 0 then
      some ((-101 : Int32), σ)
    else
      bp (D_X11_isJudge σ x2) (fun r3 => if r3 = 0 then
          some ((-101 : Int32), σ)
        else
          if x3 < 0 then
            some ((-102 : Int32), σ)
          else
            if x3 ≤ (1 : Int32) then
              bs (D_X11_gatherFitting N σ) (fun r7 s7 => if r7 = 0 then
                  some (x3, s7)
                else
                  bp (D_X11_judgeAt s7 x2) (fun r9 => bs (D_X5_squares N s7 r9 x1) (fun r10 s10 => bp (D_X11_commonDivisor N r10 (s10 24 2)) (fun r11 => if x3 = 0 then
                          J_X11_rest_85 N r11 r10 s10
                        else
                          J_X11_rest_85 N r11 (s10 24 2) s10))))
            else
              some ((-102 : Int32), σ)))
def D_X11_seen (σ : St) (x1 : Int32) (x2 : Int32) : Option Int32 :=
  if x1 < 0 then
    some (-101 : Int32)
  else
    if x1 < (σ 10 5) then
      if x2 = (0 : Int32) then
        gi x1 12 (some (σ 12 x1.toNatClampNeg))
      else if x2 = (1 : Int32) then
        gi x1 12 (some (σ 13 x1.toNatClampNeg))
      else if x2 = (2 : Int32) then
        gi x1 12 (some (σ 14 x1.toNatClampNeg))
      else 
        some (-102 : Int32)
    else
      some (-101 : Int32)
def D_X11_left (N : Nat) (σ : St) : Option (Int32 × St) :=
  bp (D_X11_isGameOn σ) (fun r1 => if r1 = 0 then
      some ((-103 : Int32), σ)
    else
      bs (D_X11_gatherFitting N σ) (fun r3 s3 => some (r3, s3)))
def D_X11_fits (N : Nat) (σ : St) (x1 : Int32) : Option (Int32 × St) :=
  if 0 ≤ x1 then
    bp (D_X11_isGameOn σ) (fun r2 => if r2 = 0 then
        some ((-103 : Int32), σ)
      else
        bs (D_X11_gatherFitting N σ) (fun r4 s4 => if r4 ≤ x1 then
            some ((-1 : Int32), s4)
          else
            gi x1 216 (some (s4 25 x1.toNatClampNeg, s4))))
  else
    some ((-102 : Int32), σ)
def L_X11_digest_174 (N : Nat) : Nat → Int64 → Int32 → St → Option (Int64 × St)
  | 0, _, _, _ => none
  | n + 1, y1, x3, σ =>
    if (11 : Int32) ≤ x3 then
      some (y1, σ)
    else
      bp (D_X11_count σ x3) (fun r7 => bp (D_X11_with y1 r7) (fun r8 => L_X11_digest_174 N n r8 (x3 + (1 : Int32)) σ))
def L_X11_digest_141 (N : Nat) : Nat → Int64 → Int32 → St → Option (Int64 × St)
  | 0, _, _, _ => none
  | n + 1, y1, x3, σ =>
    if (σ 1 1) ≤ x3 then
      L_X11_digest_174 N N y1 (0 : Int32) σ
    else
      gi x3 12 (bp (D_X11_with y1 (σ 2 x3.toNatClampNeg)) (fun r10 => L_X11_digest_141 N n r10 (x3 + (1 : Int32)) σ))
def L_X11_digest_85 (N : Nat) (kc71 : Int64 → Int32 → St → Option (Int64 × St)) (x3 : Int32) : Nat → Int64 → Int32 → St → Option (Int64 × St)
  | 0, _, _, _ => none
  | n + 1, y1, x4, σ =>
    if (3 : Int32) ≤ x4 then
      kc71 y1 (x3 + (1 : Int32)) σ
    else
      bp (D_X11_seen σ x3 x4) (fun r16 => bp (D_X11_with y1 r16) (fun r17 => L_X11_digest_85 N kc71 x3 n r17 (x4 + (1 : Int32)) σ))
def L_X11_digest_71 (N : Nat) : Nat → Int64 → Int32 → St → Option (Int64 × St)
  | 0, _, _, _ => none
  | n + 1, y1, x3, σ =>
    if (σ 10 5) ≤ x3 then
      bp (D_X11_isGameOn σ) (fun r3 => if r3 = 0 then
          L_X11_digest_141 N N y1 (0 : Int32) σ
        else
          bs (D_X11_left N σ) (fun r11 s11 => bp (D_X11_with y1 r11) (fun r12 => bs (D_X11_fits N s11 (0 : Int32)) (fun r13 s13 => bp (D_X11_with r12 r13) (fun r14 => L_X11_digest_141 N N r14 (0 : Int32) s13)))))
    else
      L_X11_digest_85 N (L_X11_digest_71 N n) x3 N y1 (0 : Int32) σ
def L_X11_digest_17 (N : Nat) (kc6 : Int64 → Int32 → St → Option (Int64 × St)) (x3 : Int32) : Nat → Int64 → Int32 → St → Option (Int64 × St)
  | 0, _, _, _ => none
  | n + 1, y1, x4, σ =>
    if (4 : Int32) ≤ x4 then
      bs (D_X11_rest N σ (0 : Int32) x3 (0 : Int32)) (fun r19 s19 => bp (D_X11_with y1 r19) (fun r20 => bs (D_X11_rest N s19 (0 : Int32) x3 (1 : Int32)) (fun r21 s21 => bp (D_X11_with r20 r21) (fun r22 => kc6 r22 (x3 + (1 : Int32)) s21))))
    else
      bs (D_X11_judge N σ x3 x4) (fun r23 s23 => bp (D_X11_with y1 r23) (fun r24 => L_X11_digest_17 N kc6 x3 n r24 (x4 + (1 : Int32)) s23))
def L_X11_digest_6 (N : Nat) : Nat → Int64 → Int32 → St → Option (Int64 × St)
  | 0, _, _, _ => none
  | n + 1, y1, x3, σ =>
    if (σ 0 9) ≤ x3 then
      L_X11_digest_71 N N y1 (0 : Int32) σ
    else
      L_X11_digest_17 N (L_X11_digest_6 N n) x3 N y1 (0 : Int32) σ
def D_X11_digest (N : Nat) (σ : St) : Option (Int64 × St) :=
  L_X11_digest_6 N N (1297 : Int64) (0 : Int32) σ
def L_X3_kindsEnd_2 (N : Nat) (σ : St) (x1 : Int32) : Nat → Int32 → Option Int32
  | 0, _ => none
  | n + 1, x2 =>
    if x1 ≤ x2 then
      some (-1 : Int32)
    else
      gi x2 12 (if (σ 2 x2.toNatClampNeg) = (59 : Int32) then
          some x2
        else
          L_X3_kindsEnd_2 N σ x1 n (x2 + (1 : Int32)))
def D_X3_kindsEnd (N : Nat) (σ : St) (x1 : Int32) : Option Int32 :=
  L_X3_kindsEnd_2 N σ x1 N (3 : Int32)
def D_X3_pegs (σ : St) : Option Int32 :=
  gi (0 : Int32) 12 (some ((σ 2 ((0 : Int32).toNatClampNeg)) - (48 : Int32)))
def D_X3_colours (σ : St) : Option Int32 :=
  gi (1 : Int32) 12 (some ((σ 2 ((1 : Int32).toNatClampNeg)) - (48 : Int32)))
def D_X3_mayStand (N : Nat) (σ : St) (x1 : Int32) : Option Int32 :=
  gi x1 12 (if x1 = (0 : Int32) then
      if (σ 2 x1.toNatClampNeg) < (49 : Int32) then
        some (0 : Int32)
      else
        if (51 : Int32) < (σ 2 x1.toNatClampNeg) then
          some (0 : Int32)
        else
          some (1 : Int32)
    else if x1 = (1 : Int32) then
      if (σ 2 x1.toNatClampNeg) < (50 : Int32) then
        some (0 : Int32)
      else
        if (54 : Int32) < (σ 2 x1.toNatClampNeg) then
          some (0 : Int32)
        else
          some (1 : Int32)
    else if x1 = (2 : Int32) then
      if (σ 2 x1.toNatClampNeg) = (59 : Int32) then
        some (1 : Int32)
      else
        some (0 : Int32)
    else 
      bp (D_X3_kindsEnd N σ x1) (fun r10 => if r10 = (-1 : Int32) then
          if (σ 2 x1.toNatClampNeg) = (59 : Int32) then
            if x1 ≤ (3 : Int32) then
              some (0 : Int32)
            else
              some (1 : Int32)
          else
            if (6 : Int32) ≤ x1 then
              some (0 : Int32)
            else
              bp (D_J0_indexOf_0f7a4 N σ (((σ 2 x1.toNatClampNeg).toUInt32 % 65536).toInt32)) (fun r14 => if r14 < 0 then
                  some (0 : Int32)
                else
                  some (1 : Int32))
        else
          bp (D_X3_pegs σ) (fun r17 => if (r10 + r17) < x1 then
              some (0 : Int32)
            else
              if (σ 2 x1.toNatClampNeg) < (97 : Int32) then
                some (0 : Int32)
              else
                bp (D_X3_colours σ) (fun r20 => if ((97 : Int32) + r20) ≤ (σ 2 x1.toNatClampNeg) then
                    some (0 : Int32)
                  else
                    some (1 : Int32)))))
def L_X3_firstFault_2 (N : Nat) (σ : St) : Nat → Int32 → Option Int32
  | 0, _ => none
  | n + 1, x1 =>
    if (σ 1 1) ≤ x1 then
      some (σ 1 1)
    else
      bp (D_X3_mayStand N σ x1) (fun r2 => if r2 = 0 then
          some x1
        else
          L_X3_firstFault_2 N σ n (x1 + (1 : Int32)))
def D_X3_firstFault (N : Nat) (σ : St) : Option Int32 :=
  L_X3_firstFault_2 N σ N (0 : Int32)
def D_X11_fault (N : Nat) (σ : St) : Option Int32 :=
  bp (D_X3_firstFault N σ) (fun r1 => some r1)
def L_X11_fitting_2 (N : Nat) (σ : St) (x1 : Int32) : Nat → Int32 → Option Int32
  | 0, _ => none
  | n + 1, x2 =>
    if (σ 10 5) ≤ x2 then
      some (1 : Int32)
    else
      gi x2 12 (bp (D_X11_judgeAt σ (σ 13 x2.toNatClampNeg)) (fun r3 => gi x2 12 (bp (D_wd σ r3 (σ 12 x2.toNatClampNeg) x1) (fun r5 => gi x2 12 (if r5 = (σ 14 x2.toNatClampNeg) then
                  L_X11_fitting_2 N σ x1 n (x2 + (1 : Int32))
                else
                  some (0 : Int32))))))
def D_X11_fitting (N : Nat) (σ : St) (x1 : Int32) : Option Int32 :=
  L_X11_fitting_2 N σ x1 N (0 : Int32)
def D_X11_forget (σ : St) : Option (Int32 × St) :=
  some (σ 10 5, pt σ 10 5 (0 : Int32))
def D_X3_isGame (N : Nat) (σ : St) : Option Int32 :=
  bp (D_X3_kindsEnd N σ (σ 1 1)) (fun r1 => if r1 = (-1 : Int32) then
      some (0 : Int32)
    else
      bp (D_X3_pegs σ) (fun r3 => if (σ 1 1) = ((r1 + (1 : Int32)) + r3) then
          bp (D_X3_firstFault N σ) (fun r5 => if r5 = (σ 1 1) then
              some (1 : Int32)
            else
              some (0 : Int32))
        else
          some (0 : Int32)))
def L_X6_colour_20 (N : Nat) (σ : St) (x2 : Int32) : Nat → Int32 → Int32 → Option Int32
  | 0, _, _ => none
  | n + 1, x3, x4 =>
    if x4 ≤ x2 then
      gz (σ 20 1) (some (x3 - x3 / (σ 20 1) * (σ 20 1)))
    else
      gz (σ 20 1) (L_X6_colour_20 N σ x2 n (x3 / (σ 20 1)) (x4 + (-1 : Int32)))
def D_X6_colour (N : Nat) (σ : St) (x1 : Int32) (x2 : Int32) : Option Int32 :=
  if (1 : Int32) ≤ (σ 20 1) then
    L_X6_colour_20 N σ x2 N x1 ((σ 20 0) - (1 : Int32))
  else
    some (-1 : Int32)
def L_X6_withOneMore_8 (N : Nat) (x0 : Int32) : Nat → Int32 → Int32 → Option Int32
  | 0, _, _ => none
  | n + 1, x2, x3 =>
    if (3 : Int32) ≤ x3 then
      some (x0 ||| x2)
    else
      if (x0 &&& x2) = 0 then
        some (x0 ||| x2)
      else
        L_X6_withOneMore_8 N x0 n (x2 <<< ((1 : Int32) &&& 31)) (x3 + (1 : Int32))
def D_X6_withOneMore (N : Nat) (x0 : Int32) (x1 : Int32) : Option Int32 :=
  L_X6_withOneMore_8 N x0 N ((1 : Int32) <<< ((x1 * (3 : Int32)) &&& 31)) (0 : Int32)
def L_X6_layRow_10 (N : Nat) (x1 : Int32) : Nat → Int32 → Int32 → Int32 → Int32 → St → Option St
  | 0, _, _, _, _, _ => none
  | n + 1, x2, x3, x4, x5, σ =>
    if (σ 20 0) ≤ x5 then
      gi x1 216 (gi x1 216 (gi x1 216 (some (pt (pt (pt σ 21 x1.toNatClampNeg x2) 22 x1.toNatClampNeg x3) 23 x1.toNatClampNeg x4))))
    else
      bp (D_X6_colour N σ x1 x5) (fun r5 => bp (D_X6_withOneMore N x4 r5) (fun r6 => L_X6_layRow_10 N x1 n (x2 ||| ((1 : Int32) <<< (((x5 * (6 : Int32)) + r5) &&& 31))) (x3 ||| ((1 : Int32) <<< ((((((σ 20 0) - (1 : Int32)) - x5) * (6 : Int32)) + r5) &&& 31))) r6 (x5 + (1 : Int32)) σ))
def D_X6_layRow (N : Nat) (σ : St) (x1 : Int32) : Option St :=
  L_X6_layRow_10 N x1 N (0 : Int32) (0 : Int32) (0 : Int32) (0 : Int32) σ
def L_X6_lay_40 (N : Nat) : Nat → Int32 → St → Option St
  | 0, _, _ => none
  | n + 1, x3, σ =>
    if (σ 20 2) ≤ x3 then
      some σ
    else
      bp (D_X6_layRow N σ x3) (fun s3 => L_X6_lay_40 N n (x3 + (1 : Int32)) s3)
def L_X6_lay_17 (N : Nat) (x1 : Int32) (x2 : Int32) : Nat → Int32 → St → Option St
  | 0, _, _ => none
  | n + 1, x3, σ =>
    if x1 ≤ x3 then
      L_X6_lay_40 N N (0 : Int32) σ
    else
      L_X6_lay_17 N x1 x2 n (x3 + (1 : Int32)) (pt σ 20 2 ((σ 20 2) * x2))
def D_X6_lay (N : Nat) (σ : St) (x1 : Int32) (x2 : Int32) : Option St :=
  L_X6_lay_17 N x1 x2 N (0 : Int32) (pt (pt (pt σ 20 0 x1) 20 1 x2) 20 2 (1 : Int32))
def D_X3_judgesWritten (N : Nat) (σ : St) : Option Int32 :=
  bp (D_X3_kindsEnd N σ (σ 1 1)) (fun r1 => some (r1 - (3 : Int32)))
def D_X3_kindWritten (N : Nat) (σ : St) (x1 : Int32) : Option Int32 :=
  gi ((3 : Int32) + x1) 12 (bp (D_J0_indexOf_0f7a4 N σ (((σ 2 (((3 : Int32) + x1).toNatClampNeg)).toUInt32 % 65536).toInt32)) (fun r2 => some r2))
def L_X3_rowWritten_13 (N : Nat) (σ : St) : Nat → Int32 → Int32 → Option Int32
  | 0, _, _ => none
  | n + 1, x1, x2 =>
    if (σ 1 1) ≤ x2 then
      some x1
    else
      bp (D_X3_colours σ) (fun r3 => gi x2 12 (L_X3_rowWritten_13 N σ n (((x1 * r3) + (σ 2 x2.toNatClampNeg)) - (97 : Int32)) (x2 + (1 : Int32))))
def D_X3_rowWritten (N : Nat) (σ : St) : Option Int32 :=
  bp (D_X3_kindsEnd N σ (σ 1 1)) (fun r1 => L_X3_rowWritten_13 N σ N (0 : Int32) (r1 + (1 : Int32)))
def L_X11_game_47 (N : Nat) : Nat → Int32 → St → Option (Int32 × St)
  | 0, _, _ => none
  | n + 1, x1, σ =>
    if (σ 0 9) ≤ x1 then
      bp (D_X3_rowWritten N σ) (fun r8 => some (σ 20 2, pt (pt (pt (pt (pt σ 10 4 r8) 10 5 (0 : Int32)) 0 10 (0 : Int32)) 0 11 ((σ 0 11) + (1 : Int32))) 1 1 (0 : Int32)))
    else
      bp (D_X3_kindWritten N σ x1) (fun r9 => gi x1 3 (L_X11_game_47 N n (x1 + (1 : Int32)) (pt σ 11 x1.toNatClampNeg r9)))
def D_X11_game (N : Nat) (σ : St) : Option (Int32 × St) :=
  bp (D_X3_isGame N σ) (fun r1 => if r1 = 0 then
      some ((-103 : Int32), σ)
    else
      bp (D_X3_pegs σ) (fun r3 => bp (D_X3_colours σ) (fun r4 => bp (D_X6_lay N σ r3 r4) (fun s5 => bp (D_X3_judgesWritten N s5) (fun r6 => L_X11_game_47 N N (0 : Int32) (pt s5 0 9 r6))))))
def D_X11_hide (σ : St) (x1 : Int32) : Option (Int32 × St) :=
  bp (D_X11_isRow σ x1) (fun r1 => if r1 = 0 then
      some ((-101 : Int32), σ)
    else
      some (σ 10 4, pt σ 10 4 x1))
def J_X11_howLong_116 (N : Nat) (x4 : Int32) (σ : St) : Option (Int32 × St) :=
  if (σ 24 2) = (1 : Int32) then
    some (x4, σ)
  else
    some ((-1 : Int32), σ)
def L_X11_howLong_57 (N : Nat) (x2 : Int32) (k3 : Nat) : Nat → Int32 → St → Option (Int32 × St)
  | 0, _, _ => none
  | n + 1, x4, σ =>
    if (8 : Int32) ≤ x4 then
      J_X11_howLong_116 N x4 σ
    else
      if (σ 24 2) ≤ (1 : Int32) then
        J_X11_howLong_116 N x4 σ
      else
        bs (D_X5_bestRow N σ k3) (fun r11 s11 => bp (D_wd s11 k3 (if r11 < (0 : Int32) then (0 : Int32) else r11) x2) (fun r13 => bp (D_X5_keep N s11 k3 (if r11 < (0 : Int32) then (0 : Int32) else r11) r13) (fun s14 => L_X11_howLong_57 N x2 k3 n (x4 + (1 : Int32)) s14)))
def D_X11_howLong (N : Nat) (σ : St) (x1 : Int32) (x2 : Int32) : Option (Int32 × St) :=
  bp (D_X11_isJudge σ x1) (fun r1 => if r1 = 0 then
      some ((-101 : Int32), σ)
    else
      bp (D_X11_isRow σ x2) (fun r3 => if r3 = 0 then
          some ((-101 : Int32), σ)
        else
          if (σ 0 13) < (6 : Int32) then
            bp (D_X11_judgeAt (pt σ 0 13 ((σ 0 13) + (1 : Int32))) x1) (fun r6 => bp (D_X5_fill N (pt σ 0 13 ((σ 0 13) + (1 : Int32)))) (fun s7 => L_X11_howLong_57 N x2 r6 N (0 : Int32) s7))
          else
            some ((-103 : Int32), σ)))
def D_X11_image (σ : St) : Option (Int32 × St) :=
  bp (D_X11_isGameOn σ) (fun r1 => if r1 = 0 then
      some ((-103 : Int32), σ)
    else
      bp (D_X0_take_k σ) (fun s3 => some (s3 15 5, pt s3 0 10 (1 : Int32))))
def D_X3_append (σ : St) (x1 : Int32) : Option St :=
  if (12 : Int32) ≤ (σ 1 1) then
    some σ
  else
    gi (σ 1 1) 12 (some (pt (pt σ 2 ((σ 1 1).toNatClampNeg) x1) 1 1 ((σ 1 1) + (1 : Int32))))
def D_X11_letter (σ : St) (x1 : Int32) : Option (Int32 × St) :=
  if x1 < (1 : Int32) then
    some ((-102 : Int32), σ)
  else
    if x1 ≤ (126 : Int32) then
      if (σ 1 1) < (12 : Int32) then
        bp (D_X3_append σ x1) (fun s4 => some (s4 1 1, s4))
      else
        some ((-104 : Int32), σ)
    else
      some ((-102 : Int32), σ)
def D_X11_note (N : Nat) (σ : St) (x1 : Int32) (x2 : Int32) (x3 : Int32) : Option (Int32 × St) :=
  bp (D_X11_isRow σ x1) (fun r1 => if r1 = 0 then
      some ((-101 : Int32), σ)
    else
      bp (D_X11_isJudge σ x2) (fun r3 => if r3 = 0 then
          some ((-101 : Int32), σ)
        else
          if x3 < 0 then
            some ((-102 : Int32), σ)
          else
            if x3 ≤ (40 : Int32) then
              if (σ 10 5) < (12 : Int32) then
                bp (D_X0_append σ x1 x2 x3) (fun s8 => bs (D_X11_gatherFitting N s8) (fun r9 s9 => some (r9, s9)))
              else
                some ((-104 : Int32), σ)
            else
              some ((-102 : Int32), σ)))
def J_X4_sortsOfRows_59 (N : Nat) (σ : St) (kc4 : Int32 → Int32 → Option Int32) (k1 : Nat) (x2 : Int32) (x3 : Int32) (x4 : Int32)  : Option Int32 :=
  if x4 = 0 then
    kc4 x2 (x3 + (1 : Int32))
  else
    kc4 (x2 + (1 : Int32)) (x3 + (1 : Int32))
def L_X4_sortsOfRows_21 (N : Nat) (σ : St) (kc4 : Int32 → Int32 → Option Int32) (k1 : Nat) (x2 : Int32) (x3 : Int32) : Nat → Int32 → Int32 → Option Int32
  | 0, _, _ => none
  | n + 1, x4, x5 =>
    if x3 ≤ x5 then
      J_X4_sortsOfRows_59 N σ kc4 k1 x2 x3 x4
    else
      if x4 = 0 then
        J_X4_sortsOfRows_59 N σ kc4 k1 x2 x3 x4
      else
        bp (D_X6_areTwins N σ k1 x5 x3) (fun r5 => if r5 = 0 then
            L_X4_sortsOfRows_21 N σ kc4 k1 x2 x3 n (1 : Int32) (x5 + (1 : Int32))
          else
            L_X4_sortsOfRows_21 N σ kc4 k1 x2 x3 n (0 : Int32) (x5 + (1 : Int32)))
def L_X4_sortsOfRows_4 (N : Nat) (σ : St) (k1 : Nat) : Nat → Int32 → Int32 → Option Int32
  | 0, _, _ => none
  | n + 1, x2, x3 =>
    if (σ 20 2) ≤ x3 then
      some x2
    else
      L_X4_sortsOfRows_21 N σ (L_X4_sortsOfRows_4 N σ k1 n) k1 x2 x3 N (1 : Int32) (0 : Int32)
def D_X4_sortsOfRows (N : Nat) (σ : St) (k1 : Nat) : Option Int32 :=
  L_X4_sortsOfRows_4 N σ k1 N (0 : Int32) (0 : Int32)
def L_X4_partsBy_16 (N : Nat) (k1 : Nat) (x2 : Int32) (x3 : Int32) : Nat → Int32 → Int32 → St → Option (Int32 × St)
  | 0, _, _, _ => none
  | n + 1, x4, x5, σ =>
    if (σ 20 2) ≤ x5 then
      some (x4, σ)
    else
      bp (D_wd σ k1 x2 x5) (fun r2 => bp (D_wd σ k1 x3 x5) (fun r3 => if ((r2 * (31 : Int32)) + r3) < 0 then
            L_X4_partsBy_16 N k1 x2 x3 n x4 (x5 + (1 : Int32)) σ
          else
            if (961 : Int32) ≤ ((r2 * (31 : Int32)) + r3) then
              L_X4_partsBy_16 N k1 x2 x3 n x4 (x5 + (1 : Int32)) σ
            else
              gi ((r2 * (31 : Int32)) + r3) 961 (if (σ 29 (((r2 * (31 : Int32)) + r3).toNatClampNeg)) = (σ 28 2) then
                  L_X4_partsBy_16 N k1 x2 x3 n x4 (x5 + (1 : Int32)) σ
                else
                  gi ((r2 * (31 : Int32)) + r3) 961 (L_X4_partsBy_16 N k1 x2 x3 n (x4 + (1 : Int32)) (x5 + (1 : Int32)) (pt σ 29 (((r2 * (31 : Int32)) + r3).toNatClampNeg) (σ 28 2))))))
def D_X4_partsBy (N : Nat) (σ : St) (k1 : Nat) (x2 : Int32) (x3 : Int32) : Option (Int32 × St) :=
  L_X4_partsBy_16 N k1 x2 x3 N (0 : Int32) (0 : Int32) (pt σ 28 2 ((σ 28 2) + (1 : Int32)))
def D_X4_answer (σ : St) (x1 : Int32) (x2 : Int32) (x3 : Int32) : Option St :=
  some (pt (pt (pt σ 28 3 x1) 28 4 x2) 28 5 x3)
def L_X4_find_62 (N : Nat) (kc46 : Int32 → St → Option St) (k1 : Nat) (x2 : Int32) (x3 : Int32) : Nat → Int32 → St → Option St
  | 0, _, _ => none
  | n + 1, x4, σ =>
    if (σ 20 2) ≤ x4 then
      kc46 (x3 + (1 : Int32)) σ
    else
      bs (D_X4_partsBy N σ k1 x3 x4) (fun r6 s6 => if r6 = x2 then
          bp (D_X4_answer s6 (2 : Int32) x3 x4) (fun s8 => some s8)
        else
          L_X4_find_62 N kc46 k1 x2 x3 n (x4 + (1 : Int32)) s6)
def L_X4_find_46 (N : Nat) (k1 : Nat) (x2 : Int32) : Nat → Int32 → St → Option St
  | 0, _, _ => none
  | n + 1, x3, σ =>
    if (σ 20 2) ≤ x3 then
      bp (D_X4_answer σ (-1 : Int32) (-1 : Int32) (-1 : Int32)) (fun s4 => some s4)
    else
      L_X4_find_62 N (L_X4_find_46 N k1 x2 n) k1 x2 x3 N (x3 + (1 : Int32)) σ
def L_X4_find_8 (N : Nat) (k1 : Nat) (x2 : Int32) : Nat → Int32 → St → Option St
  | 0, _, _ => none
  | n + 1, x3, σ =>
    if (σ 20 2) ≤ x3 then
      L_X4_find_46 N k1 x2 N (0 : Int32) σ
    else
      bs (D_X4_partsBy N σ k1 x3 x3) (fun r9 s9 => if r9 = x2 then
          bp (D_X4_answer s9 (1 : Int32) x3 (-1 : Int32)) (fun s11 => some s11)
        else
          L_X4_find_8 N k1 x2 n (x3 + (1 : Int32)) s9)
def D_X4_find (N : Nat) (σ : St) (k1 : Nat) : Option St :=
  bp (D_X4_sortsOfRows N σ k1) (fun r1 => L_X4_find_8 N k1 r1 N (0 : Int32) σ)
def D_X11_parts (N : Nat) (σ : St) (x1 : Int32) (x2 : Int32) : Option (Int32 × St) :=
  bp (D_X11_isJudge σ x1) (fun r1 => if r1 = 0 then
      some ((-101 : Int32), σ)
    else
      if x2 < 0 then
        some ((-102 : Int32), σ)
      else
        if x2 ≤ (2 : Int32) then
          if (64 : Int32) < (σ 20 2) then
            some ((-103 : Int32), σ)
          else
            if (σ 0 14) < (9 : Int32) then
              bp (D_X11_judgeAt (pt σ 0 14 ((σ 0 14) + (1 : Int32))) x1) (fun r7 => bp (D_X4_find N (pt σ 0 14 ((σ 0 14) + (1 : Int32))) r7) (fun s8 => if x2 = 0 then
                    some (s8 28 3, s8)
                  else
                    if x2 = (1 : Int32) then
                      some (s8 28 4, s8)
                    else
                      some (s8 28 5, s8)))
            else
              some ((-103 : Int32), σ)
        else
          some ((-102 : Int32), σ))
def D_X11_restore (σ : St) : Option (Int32 × St) :=
  if (σ 0 10) = 0 then
    some ((-103 : Int32), σ)
  else
    bp (D_X0_take_n σ) (fun s2 => some (s2 10 5, s2))
def D_X11_row (N : Nat) (σ : St) (x1 : Int32) (x2 : Int32) : Option Int32 :=
  bp (D_X11_isRow σ x1) (fun r1 => if r1 = 0 then
      some (-101 : Int32)
    else
      if x2 < 0 then
        some (-102 : Int32)
      else
        if x2 ≤ (4 : Int32) then
          if x2 = 0 then
            bp (D_X11_fitting N σ x1) (fun r10 => if r10 = 0 then
                some (0 : Int32)
              else
                some (1 : Int32))
          else
            if x2 ≤ (3 : Int32) then
              if (σ 20 0) < x2 then
                some (-1 : Int32)
              else
                bp (D_X6_colour N σ x1 (x2 - (1 : Int32))) (fun r8 => some r8)
            else
              if x1 = (σ 10 4) then
                some (1 : Int32)
              else
                some (0 : Int32)
        else
          some (-102 : Int32))
def D_X11_show (σ : St) (x1 : Int32) (x2 : Int32) : Option (Int32 × St) :=
  bp (D_X11_isRow σ x1) (fun r1 => if r1 = 0 then
      some ((-101 : Int32), σ)
    else
      bp (D_X11_isJudge σ x2) (fun r3 => if r3 = 0 then
          some ((-101 : Int32), σ)
        else
          if (σ 10 5) < (12 : Int32) then
            bp (D_X11_judgeAt σ x2) (fun r6 => bp (D_wd σ r6 x1 (σ 10 4)) (fun r7 => bp (D_X0_append σ x1 x2 r7) (fun s8 => some (r7, s8))))
          else
            some ((-104 : Int32), σ)))
def D_X11_strike (σ : St) : Option (Int32 × St) :=
  if (σ 10 5) = 0 then
    some ((-103 : Int32), σ)
  else
    some ((σ 10 5) - (1 : Int32), pt σ 10 5 ((σ 10 5) - (1 : Int32)))
def D_X11_swap (σ : St) (x1 : Int32) (x2 : Int32) : Option (Int32 × St) :=
  bp (D_X11_isJudge σ x1) (fun r1 => if r1 = 0 then
      some ((-101 : Int32), σ)
    else
      bp (D_X11_isKind x2) (fun r3 => if r3 = 0 then
          some ((-102 : Int32), σ)
        else
          gi x1 3 (gi x1 3 (some (σ 11 x1.toNatClampNeg, pt σ 11 x1.toNatClampNeg x2)))))
def D_X11_tells (σ : St) (x1 : Int32) (x2 : Int32) (x3 : Int32) : Option Int32 :=
  bp (D_X11_isJudge σ x1) (fun r1 => if r1 = 0 then
      some (-101 : Int32)
    else
      bp (D_X11_isRow σ x2) (fun r3 => if r3 = 0 then
          some (-101 : Int32)
        else
          bp (D_X11_isRow σ x3) (fun r5 => if r5 = 0 then
              some (-101 : Int32)
            else
              bp (D_X11_judgeAt σ x1) (fun r7 => bp (D_wd σ r7 x2 x3) (fun r8 => some r8)))))
def D_X9_draw (σ : St) (x1 : Int32) : Option (Int32 × St) :=
  if x1 ≤ 0 then
    some ((0 : Int32), pt σ 30 4 (((((1103515245 : Int64) * ((σ 30 4).toInt64)) + (12345 : Int64)) &&& (2147483647 : Int64)).toInt32))
  else
    gz x1 (some (((((((1103515245 : Int64) * ((σ 30 4).toInt64)) + (12345 : Int64)) &&& (2147483647 : Int64)).toInt32) / (65536 : Int32)) - ((((((1103515245 : Int64) * ((σ 30 4).toInt64)) + (12345 : Int64)) &&& (2147483647 : Int64)).toInt32) / (65536 : Int32)) / x1 * x1, pt σ 30 4 (((((1103515245 : Int64) * ((σ 30 4).toInt64)) + (12345 : Int64)) &&& (2147483647 : Int64)).toInt32)))
def L_X5_drop_4 (N : Nat) (x1 : Int32) : Nat → Int32 → Int32 → St → Option St
  | 0, _, _, _ => none
  | n + 1, x2, x3, σ =>
    if (σ 24 2) ≤ x3 then
      gi x1 216 (some (pt (pt σ 24 2 x2) 26 x1.toNatClampNeg (0 : Int32)))
    else
      gi x3 216 (if (σ 25 x3.toNatClampNeg) = x1 then
          L_X5_drop_4 N x1 n x2 (x3 + (1 : Int32)) σ
        else
          gi x3 216 (gi x2 216 (L_X5_drop_4 N x1 n (x2 + (1 : Int32)) (x3 + (1 : Int32)) (pt σ 25 x2.toNatClampNeg (σ 25 x3.toNatClampNeg)))))
def D_X5_drop (N : Nat) (σ : St) (x1 : Int32) : Option St :=
  L_X5_drop_4 N x1 N (0 : Int32) (0 : Int32) σ
def L_X9_playOne_21 (N : Nat) (k1 : Nat) (x2 : Int32) : Nat → Int32 → St → Option (Int32 × St)
  | 0, _, _ => none
  | n + 1, x3, σ =>
    if (σ 20 2) < x3 then
      some (σ 20 2, σ)
    else
      bs (D_X9_draw σ (σ 24 2)) (fun r4 s4 => gi r4 216 (if (s4 25 r4.toNatClampNeg) = x2 then
            some (x3, s4)
          else
            bp (D_wd s4 k1 (s4 25 r4.toNatClampNeg) x2) (fun r7 => bp (D_X5_keep N s4 k1 (s4 25 r4.toNatClampNeg) r7) (fun s8 => bp (D_X5_drop N s8 (s4 25 r4.toNatClampNeg)) (fun s9 => L_X9_playOne_21 N k1 x2 n (x3 + (1 : Int32)) s9)))))
def D_X9_playOne (N : Nat) (σ : St) (k1 : Nat) : Option (Int32 × St) :=
  bs (D_X9_draw σ (σ 20 2)) (fun r1 s1 => bp (D_X5_fill N s1) (fun s2 => L_X9_playOne_21 N k1 r1 N (1 : Int32) s2))
def L_X9_play_18 (N : Nat) (k1 : Nat) (x2 : Int32) : Nat → Int32 → St → Option St
  | 0, _, _ => none
  | n + 1, x4, σ =>
    if x2 ≤ x4 then
      some σ
    else
      bs (D_X9_playOne N σ k1) (fun r2 s2 => if (3 : Int32) < r2 then
          L_X9_play_18 N k1 x2 n (x4 + (1 : Int32)) (pt s2 30 2 ((s2 30 2) + r2))
        else
          L_X9_play_18 N k1 x2 n (x4 + (1 : Int32)) (pt (pt s2 30 2 ((s2 30 2) + r2)) 30 3 ((s2 30 3) + (1 : Int32))))
def D_X9_play (N : Nat) (σ : St) (k1 : Nat) (x2 : Int32) (x3 : Int32) : Option St :=
  L_X9_play_18 N k1 x2 N (0 : Int32) (pt (pt (pt σ 30 4 x3) 30 2 (0 : Int32)) 30 3 (0 : Int32))
def D_X11_tries (N : Nat) (σ : St) (x1 : Int32) (x2 : Int32) (x3 : Int32) (x4 : Int32) : Option (Int32 × St) :=
  bp (D_X11_isJudge σ x1) (fun r1 => if r1 = 0 then
      some ((-101 : Int32), σ)
    else
      if x2 < (1 : Int32) then
        some ((-102 : Int32), σ)
      else
        if (20 : Int32) < x2 then
          some ((-102 : Int32), σ)
        else
          if x3 < 0 then
            some ((-102 : Int32), σ)
          else
            if x4 < 0 then
              some ((-102 : Int32), σ)
            else
              if x4 ≤ (2 : Int32) then
                bp (D_X11_judgeAt σ x1) (fun r8 => bp (D_X9_play N σ r8 x2 x3) (fun s9 => if x4 = 0 then
                      some (s9 30 2, s9)
                    else
                      if x4 = (1 : Int32) then
                        some (s9 30 3, s9)
                      else
                        some (s9 30 4, s9)))
              else
                some ((-102 : Int32), σ))
def L_X12_peg_7 (N : Nat) (σ : St) : Nat → Int32 → Int32 → Option Int32
  | 0, _, _ => none
  | n + 1, x3, x4 =>
    if (σ 31 3) ≤ x4 then
      gz (σ 31 4) (some (x3 - x3 / (σ 31 4) * (σ 31 4)))
    else
      gz (σ 31 4) (L_X12_peg_7 N σ n (x3 / (σ 31 4)) (x4 + (1 : Int32)))
def D_X12_peg (N : Nat) (σ : St) (x1 : Int32) (x2 : Int32) : Option Int32 :=
  L_X12_peg_7 N σ N x1 (x2 + (1 : Int32))
def J_X12_alike_51 (N : Nat) (σ : St) (kc5 : Int32 → Int32 → Option Int32) (kc23 : Int32 → Int32 → Int32 → Option Int32) (x1 : Int32) (x2 : Int32) (x3 : Int32) (x4 : Int32) (x6 : Int32) (x7 : Int32) (t0 : Int32) (t1 : Int32)  : Option Int32 :=
  bp (D_X12_peg N σ x2 x7) (fun r6 => if r6 = x4 then
      kc23 (t0 + t1) (x6 + (1 : Int32)) (x7 + (1 : Int32))
    else
      kc23 (t0 + t1) (x6 + (0 : Int32)) (x7 + (1 : Int32)))
def L_X12_alike_23 (N : Nat) (σ : St) (kc5 : Int32 → Int32 → Option Int32) (x1 : Int32) (x2 : Int32) (x3 : Int32) (x4 : Int32) : Nat → Int32 → Int32 → Int32 → Option Int32
  | 0, _, _, _ => none
  | n + 1, x5, x6, x7 =>
    if (σ 31 3) ≤ x7 then
      if x6 ≤ x5 then
        kc5 (x3 + x6) (x4 + (1 : Int32))
      else
        kc5 (x3 + x5) (x4 + (1 : Int32))
    else
      bp (D_X12_peg N σ x1 x7) (fun r4 => if r4 = x4 then
          J_X12_alike_51 N σ kc5 (L_X12_alike_23 N σ kc5 x1 x2 x3 x4 n) x1 x2 x3 x4 x6 x7 x5 (1 : Int32)
        else
          J_X12_alike_51 N σ kc5 (L_X12_alike_23 N σ kc5 x1 x2 x3 x4 n) x1 x2 x3 x4 x6 x7 x5 (0 : Int32))
def L_X12_alike_5 (N : Nat) (σ : St) (x1 : Int32) (x2 : Int32) : Nat → Int32 → Int32 → Option Int32
  | 0, _, _ => none
  | n + 1, x3, x4 =>
    if (σ 31 4) ≤ x4 then
      some x3
    else
      L_X12_alike_23 N σ (L_X12_alike_5 N σ x1 x2 n) x1 x2 x3 x4 N (0 : Int32) (0 : Int32) (0 : Int32)
def D_X12_alike (N : Nat) (σ : St) (x1 : Int32) (x2 : Int32) : Option Int32 :=
  L_X12_alike_5 N σ x1 x2 N (0 : Int32) (0 : Int32)
def L_X12_apartMany_4 (N : Nat) (σ : St) : Nat → Int32 → Int32 → Option Int32
  | 0, _, _ => none
  | n + 1, x1, x2 =>
    if (4096 : Int32) ≤ x2 then
      some x1
    else
      gi x2 4096 (L_X12_apartMany_4 N σ n (x1 + (σ 38 x2.toNatClampNeg)) (x2 + (1 : Int32)))
def D_X12_apartMany (N : Nat) (σ : St) : Option Int32 :=
  L_X12_apartMany_4 N σ N (0 : Int32) (0 : Int32)
def D_X12_in (y0 : Int64) (y2 : Int64) (y4 : Int64) : Option Int32 :=
  if (lg_cmp y0 y2) < 0 then
    some (0 : Int32)
  else
    if 0 < (lg_cmp y0 y4) then
      some (0 : Int32)
    else
      some (1 : Int32)
def D_X12_isJudge (σ : St) (x1 : Int32) : Option Int32 :=
  bp (D_X12_in x1.toInt64 (0 : Int64) (((σ 31 6) - (1 : Int32)).toInt64)) (fun r1 => gb r1 (some r1))
def J_X12_as_60 (σ : St) (x1 : Int32) (t0 : Int32)  : Option Int32 :=
  if t0 = 0 then
    some (-1 : Int32)
  else
    some x1
def J_X12_as_55 (σ : St) (x1 : Int32)  : Option Int32 :=
  J_X12_as_60 σ x1 (1 : Int32)
def J_X12_as_59 (σ : St) (x1 : Int32)  : Option Int32 :=
  J_X12_as_60 σ x1 (0 : Int32)
def D_X12_as (σ : St) (x1 : Int32) (x2 : Int32) : Option Int32 :=
  bp (D_X12_isJudge σ x1) (fun r1 => if r1 = 0 then
      some (-101 : Int32)
    else
      bp (D_X12_in x2.toInt64 (0 : Int64) (4 : Int64)) (fun r3 => if r3 = 0 then
          some (-102 : Int32)
        else
          if x2 = 0 then
            J_X12_as_55 σ x1
          else
            gi x1 3 (if x2 = (σ 33 x1.toNatClampNeg) then
                J_X12_as_55 σ x1
              else
                if x2 = (1 : Int32) then
                  gi x1 3 (if (σ 33 x1.toNatClampNeg) = (4 : Int32) then
                      J_X12_as_55 σ x1
                    else
                      J_X12_as_59 σ x1)
                else
                  J_X12_as_59 σ x1)))
def J_X12_right_37 (N : Nat) (σ : St) (kc6 : Int32 → Int32 → Option Int32) (x1 : Int32) (x2 : Int32) (x3 : Int32) (x5 : Int32) (t0 : Int32) (t2 : Int32) (t3 : Int32)  : Option Int32 :=
  bp (D_X12_peg N σ t2 t3) (fun r3 => bp (D_X12_peg N σ x2 x5) (fun r4 => if r3 = r4 then
        kc6 (t0 + (1 : Int32)) (x5 + (1 : Int32))
      else
        kc6 (t0 + (0 : Int32)) (x5 + (1 : Int32))))
def L_X12_right_6 (N : Nat) (σ : St) (x1 : Int32) (x2 : Int32) (x3 : Int32) : Nat → Int32 → Int32 → Option Int32
  | 0, _, _ => none
  | n + 1, x4, x5 =>
    if (σ 31 3) ≤ x5 then
      some x4
    else
      if x3 = 0 then
        J_X12_right_37 N σ (L_X12_right_6 N σ x1 x2 x3 n) x1 x2 x3 x5 x4 x1 x5
      else
        J_X12_right_37 N σ (L_X12_right_6 N σ x1 x2 x3 n) x1 x2 x3 x5 x4 x1 (((σ 31 3) - (1 : Int32)) - x5)
def D_X12_right (N : Nat) (σ : St) (x1 : Int32) (x2 : Int32) (x3 : Int32) : Option Int32 :=
  L_X12_right_6 N σ x1 x2 x3 N (0 : Int32) (0 : Int32)
def J_X12_tellsBy_67 (N : Nat) (σ : St) (x2 : Int32) (x3 : Int32) (x4 : Int32)  : Option Int32 :=
  bp (D_X12_alike N σ x2 x3) (fun r7 => some (((9 : Int32) * x4) + r7))
def J_X12_tellsBy_13 (N : Nat) (σ : St) (x1 : Int32) (x2 : Int32) (x3 : Int32) (t1 : Int32) (t2 : Int32) (t3 : Int32)  : Option Int32 :=
  bp (D_X12_right N σ t1 t2 t3) (fun r2 => if x1 = (1 : Int32) then
      bp (D_X12_alike N σ x2 x3) (fun r4 => some r4)
    else if x1 = (2 : Int32) then
      some r2
    else if x1 = (3 : Int32) then
      J_X12_tellsBy_67 N σ x2 x3 r2
    else if x1 = (4 : Int32) then
      bp (D_X12_alike N σ x2 x3) (fun r9 => some (r9 - r9 / (2 : Int32) * (2 : Int32)))
    else 
      J_X12_tellsBy_67 N σ x2 x3 r2)
def D_X12_tellsBy (N : Nat) (σ : St) (x1 : Int32) (x2 : Int32) (x3 : Int32) : Option Int32 :=
  if x1 = (3 : Int32) then
    J_X12_tellsBy_13 N σ x1 x2 x3 x2 x3 (1 : Int32)
  else
    J_X12_tellsBy_13 N σ x1 x2 x3 x2 x3 (0 : Int32)
def L_X12_isFit_4 (N : Nat) (σ : St) (x1 : Int32) : Nat → Int32 → Int32 → Option Int32
  | 0, _, _ => none
  | n + 1, x2, x3 =>
    if ((3 : Int32) * (σ 31 8)) ≤ x3 then
      gb x2 (some x2)
    else
      if x2 = 0 then
        L_X12_isFit_4 N σ x1 n (0 : Int32) (x3 + (3 : Int32))
      else
        gi (x3 + (1 : Int32)) 36 (gi (σ 34 ((x3 + (1 : Int32)).toNatClampNeg)) 3 (gi x3 36 (bp (D_X12_tellsBy N σ (σ 33 ((σ 34 ((x3 + (1 : Int32)).toNatClampNeg)).toNatClampNeg)) (σ 34 x3.toNatClampNeg) x1) (fun r7 => gi (x3 + (2 : Int32)) 36 (if r7 = (σ 34 ((x3 + (2 : Int32)).toNatClampNeg)) then
                    L_X12_isFit_4 N σ x1 n (1 : Int32) (x3 + (3 : Int32))
                  else
                    L_X12_isFit_4 N σ x1 n (0 : Int32) (x3 + (3 : Int32)))))))
def D_X12_isFit (N : Nat) (σ : St) (x1 : Int32) : Option Int32 :=
  L_X12_isFit_4 N σ x1 N (1 : Int32) (0 : Int32)
def L_X12_layFit_2 (N : Nat) : Nat → Int32 → St → Option St
  | 0, _, _ => none
  | n + 1, x1, σ =>
    if (σ 31 5) ≤ x1 then
      some σ
    else
      bp (D_X12_isFit N σ x1) (fun r2 => if r2 = 0 then
          gi x1 216 (L_X12_layFit_2 N n (x1 + (1 : Int32)) (pt σ 35 x1.toNatClampNeg (0 : Int32)))
        else
          gi x1 216 (L_X12_layFit_2 N n (x1 + (1 : Int32)) (pt σ 35 x1.toNatClampNeg (1 : Int32))))
def D_X12_layFit (N : Nat) (σ : St) : Option St :=
  L_X12_layFit_2 N N (0 : Int32) σ
def L_X12_fitMany_4 (N : Nat) (σ : St) : Nat → Int32 → Int32 → Option Int32
  | 0, _, _ => none
  | n + 1, x1, x2 =>
    if (σ 31 5) ≤ x2 then
      some x1
    else
      gi x2 216 (L_X12_fitMany_4 N σ n (x1 + (σ 35 x2.toNatClampNeg)) (x2 + (1 : Int32)))
def D_X12_fitMany (N : Nat) (σ : St) : Option Int32 :=
  L_X12_fitMany_4 N σ N (0 : Int32) (0 : Int32)
def L_X12_laySizes_23 (N : Nat) (x1 : Int32) (x2 : Int32) : Nat → Int32 → St → Option St
  | 0, _, _ => none
  | n + 1, x3, σ =>
    if (σ 31 5) ≤ x3 then
      some σ
    else
      gi x3 216 (if (σ 35 x3.toNatClampNeg) = (1 : Int32) then
          bp (D_X12_tellsBy N σ x1 x2 x3) (fun r5 => gi r5 41 (gi r5 41 (L_X12_laySizes_23 N x1 x2 n (x3 + (1 : Int32)) (pt σ 36 r5.toNatClampNeg ((σ 36 r5.toNatClampNeg) + (1 : Int32))))))
        else
          L_X12_laySizes_23 N x1 x2 n (x3 + (1 : Int32)) σ)
def L_X12_laySizes_2 (N : Nat) (x1 : Int32) (x2 : Int32) : Nat → Int32 → St → Option St
  | 0, _, _ => none
  | n + 1, x3, σ =>
    if (41 : Int32) ≤ x3 then
      L_X12_laySizes_23 N x1 x2 N (0 : Int32) σ
    else
      gi x3 41 (L_X12_laySizes_2 N x1 x2 n (x3 + (1 : Int32)) (pt σ 36 x3.toNatClampNeg (0 : Int32)))
def D_X12_laySizes (N : Nat) (σ : St) (x1 : Int32) (x2 : Int32) : Option St :=
  L_X12_laySizes_2 N x1 x2 N (0 : Int32) σ
def L_X12_greatest_4 (N : Nat) (σ : St) : Nat → Int32 → Int32 → Option Int32
  | 0, _, _ => none
  | n + 1, x1, x2 =>
    if (41 : Int32) ≤ x2 then
      some x1
    else
      gi x2 41 (if (σ 36 x2.toNatClampNeg) ≤ x1 then
          L_X12_greatest_4 N σ n x1 (x2 + (1 : Int32))
        else
          gi x2 41 (L_X12_greatest_4 N σ n (σ 36 x2.toNatClampNeg) (x2 + (1 : Int32))))
def D_X12_greatest (N : Nat) (σ : St) : Option Int32 :=
  L_X12_greatest_4 N σ N (0 : Int32) (0 : Int32)
def J_X12_bestBy_82 (N : Nat) (x2 : Int32) (x3 : Int32) (σ : St) : Option (Int32 × St) :=
  if x2 = (-1 : Int32) then
    some (x2, pt σ 31 14 (0 : Int32))
  else
    some (x2, pt σ 31 14 (x3 / (2 : Int32)))
def J_X12_bestBy_62 (N : Nat) (kc9 : Int32 → Int32 → Int32 → St → Option (Int32 × St)) (x1 : Int32) (x3 : Int32) (x4 : Int32) (x5 : Int32) (t0 : Int32) (σ : St) : Option (Int32 × St) :=
  if x3 ≤ x5 then
    kc9 t0 x3 (x4 + (1 : Int32)) σ
  else
    kc9 t0 x5 (x4 + (1 : Int32)) σ
def L_X12_bestBy_9 (N : Nat) (x1 : Int32) : Nat → Int32 → Int32 → Int32 → St → Option (Int32 × St)
  | 0, _, _, _, _ => none
  | n + 1, x2, x3, x4, σ =>
    if (σ 31 5) ≤ x4 then
      J_X12_bestBy_82 N x2 x3 σ
    else
      bp (D_X12_fitMany N σ) (fun r4 => if r4 ≤ 0 then
          J_X12_bestBy_82 N x2 x3 σ
        else
          bp (D_X12_laySizes N σ x1 x4) (fun s6 => bp (D_X12_greatest N s6) (fun r7 => gi x4 216 (if x3 ≤ ((((2 : Int32) * r7) + (1 : Int32)) - (s6 35 x4.toNatClampNeg)) then
                  J_X12_bestBy_62 N (L_X12_bestBy_9 N x1 n) x1 x3 x4 ((((2 : Int32) * r7) + (1 : Int32)) - (s6 35 x4.toNatClampNeg)) x2 s6
                else
                  J_X12_bestBy_62 N (L_X12_bestBy_9 N x1 n) x1 x3 x4 ((((2 : Int32) * r7) + (1 : Int32)) - (s6 35 x4.toNatClampNeg)) x4 s6))))
def D_X12_bestBy (N : Nat) (σ : St) (x1 : Int32) : Option (Int32 × St) :=
  L_X12_bestBy_9 N x1 N (-1 : Int32) (1000 : Int32) (0 : Int32) σ
def D_X12_best (N : Nat) (σ : St) (x1 : Int32) (x2 : Int32) : Option (Int32 × St) :=
  bp (D_X12_isJudge σ x1) (fun r1 => if r1 = 0 then
      some ((-101 : Int32), σ)
    else
      bp (D_X12_in x2.toInt64 (0 : Int64) (1 : Int64)) (fun r3 => if r3 = 0 then
          some ((-102 : Int32), σ)
        else
          if (σ 31 15) = (24 : Int32) then
            some ((-103 : Int32), σ)
          else
            bp (D_X12_layFit N (pt σ 31 15 ((σ 31 15) + (1 : Int32)))) (fun s6 => gi x1 3 (bs (D_X12_bestBy N s6 (s6 33 x1.toNatClampNeg)) (fun r8 s8 => if x2 = 0 then
                    some (r8, s8)
                  else
                    some (s8 31 14, s8))))))
def D_X12_blank (σ : St) : Option (Int32 × St) :=
  some (σ 31 1, pt σ 31 1 (0 : Int32))
def L_X12_copy_k1_2 (N : Nat) : Nat → Int32 → St → Option St
  | 0, _, _ => none
  | n + 1, x2, σ =>
    if (3 : Int32) ≤ x2 then
      some σ
    else
      gi x2 3 (gi x2 3 (L_X12_copy_k1_2 N n (x2 + (1 : Int32)) (pt σ 39 x2.toNatClampNeg (σ 33 x2.toNatClampNeg))))
def D_X12_copy_k1 (N : Nat) (σ : St) : Option St :=
  L_X12_copy_k1_2 N N (0 : Int32) σ
def L_X12_copy_k2_2 (N : Nat) : Nat → Int32 → St → Option St
  | 0, _, _ => none
  | n + 1, x2, σ =>
    if (3 : Int32) ≤ x2 then
      some σ
    else
      gi x2 3 (gi x2 3 (L_X12_copy_k2_2 N n (x2 + (1 : Int32)) (pt σ 33 x2.toNatClampNeg (σ 39 x2.toNatClampNeg))))
def D_X12_copy_k2 (N : Nat) (σ : St) : Option St :=
  L_X12_copy_k2_2 N N (0 : Int32) σ
def L_X12_copy_s1_2 (N : Nat) : Nat → Int32 → St → Option St
  | 0, _, _ => none
  | n + 1, x2, σ =>
    if (36 : Int32) ≤ x2 then
      some σ
    else
      gi x2 36 (gi x2 36 (L_X12_copy_s1_2 N n (x2 + (1 : Int32)) (pt σ 40 x2.toNatClampNeg (σ 34 x2.toNatClampNeg))))
def D_X12_copy_s1 (N : Nat) (σ : St) : Option St :=
  L_X12_copy_s1_2 N N (0 : Int32) σ
def L_X12_copy_s2_2 (N : Nat) : Nat → Int32 → St → Option St
  | 0, _, _ => none
  | n + 1, x2, σ =>
    if (36 : Int32) ≤ x2 then
      some σ
    else
      gi x2 36 (gi x2 36 (L_X12_copy_s2_2 N n (x2 + (1 : Int32)) (pt σ 34 x2.toNatClampNeg (σ 40 x2.toNatClampNeg))))
def D_X12_copy_s2 (N : Nat) (σ : St) : Option St :=
  L_X12_copy_s2_2 N N (0 : Int32) σ
def D_X12_countOf (σ : St) (x1 : Int32) : Option Int32 :=
  if x1 = (0 : Int32) then
    some (σ 31 3)
  else if x1 = (1 : Int32) then
    some (σ 31 4)
  else if x1 = (2 : Int32) then
    some (σ 31 5)
  else if x1 = (3 : Int32) then
    some (σ 31 6)
  else if x1 = (4 : Int32) then
    some (σ 31 8)
  else if x1 = (5 : Int32) then
    some (σ 31 7)
  else if x1 = (6 : Int32) then
    some (σ 31 1)
  else if x1 = (7 : Int32) then
    some (σ 31 9)
  else if x1 = (8 : Int32) then
    some (σ 31 15)
  else if x1 = (9 : Int32) then
    some (σ 31 16)
  else if x1 = (10 : Int32) then
    some (σ 31 17)
  else 
    some (-102 : Int32)
def D_X12_count (σ : St) (x1 : Int32) : Option Int32 :=
  bp (D_X12_countOf σ x1) (fun r1 => some r1)
def L_X12_isTwin_3 (N : Nat) (σ : St) (x1 : Int32) (x2 : Int32) (x3 : Int32) : Nat → Int32 → Option Int32
  | 0, _ => none
  | n + 1, x4 =>
    if (σ 31 5) ≤ x4 then
      some (1 : Int32)
    else
      bp (D_X12_tellsBy N σ x1 x4 x2) (fun r2 => bp (D_X12_tellsBy N σ x1 x4 x3) (fun r3 => if r2 = r3 then
            L_X12_isTwin_3 N σ x1 x2 x3 n (x4 + (1 : Int32))
          else
            some (0 : Int32)))
def D_X12_isTwin (N : Nat) (σ : St) (x1 : Int32) (x2 : Int32) (x3 : Int32) : Option Int32 :=
  L_X12_isTwin_3 N σ x1 x2 x3 N (0 : Int32)
def L_X12_twinsOf_14 (N : Nat) (σ : St) (kc2 : Int32 → Option Int32) (x1 : Int32) (x2 : Int32) : Nat → Int32 → Option Int32
  | 0, _ => none
  | n + 1, x3 =>
    if (σ 31 5) ≤ x3 then
      kc2 (x2 + (1 : Int32))
    else
      gi x1 3 (bp (D_X12_isTwin N σ (σ 33 x1.toNatClampNeg) x2 x3) (fun r4 => if r4 = 0 then
            L_X12_twinsOf_14 N σ kc2 x1 x2 n (x3 + (1 : Int32))
          else
            some (((1000 : Int32) * x2) + x3)))
def L_X12_twinsOf_2 (N : Nat) (σ : St) (x1 : Int32) : Nat → Int32 → Option Int32
  | 0, _ => none
  | n + 1, x2 =>
    if (σ 31 5) ≤ x2 then
      some (-1 : Int32)
    else
      L_X12_twinsOf_14 N σ (L_X12_twinsOf_2 N σ x1 n) x1 x2 N (x2 + (1 : Int32))
def D_X12_twinsOf (N : Nat) (σ : St) (x1 : Int32) : Option Int32 :=
  L_X12_twinsOf_2 N σ x1 N (0 : Int32)
def L_X12_sortsOf_15 (N : Nat) (σ : St) (kc4 : Int32 → Int32 → Option Int32) (x1 : Int32) (x2 : Int32) (x3 : Int32) : Nat → Int32 → Int32 → Option Int32
  | 0, _, _ => none
  | n + 1, x4, x5 =>
    if ((3 : Int32) * (σ 31 8)) ≤ x5 then
      if x4 = 0 then
        kc4 (x2 ||| (0 : Int32)) (x3 + (1 : Int32))
      else
        kc4 (x2 ||| ((1 : Int32) <<< (x3 &&& 31))) (x3 + (1 : Int32))
    else
      if x4 = 0 then
        L_X12_sortsOf_15 N σ kc4 x1 x2 x3 n (0 : Int32) (x5 + (3 : Int32))
      else
        gi (x5 + (1 : Int32)) 36 (if (σ 34 ((x5 + (1 : Int32)).toNatClampNeg)) = x1 then
            gi x5 36 (bp (D_X12_tellsBy N σ x3 (σ 34 x5.toNatClampNeg) (σ 31 7)) (fun r8 => gi (x5 + (2 : Int32)) 36 (if r8 = (σ 34 ((x5 + (2 : Int32)).toNatClampNeg)) then
                    L_X12_sortsOf_15 N σ kc4 x1 x2 x3 n (1 : Int32) (x5 + (3 : Int32))
                  else
                    L_X12_sortsOf_15 N σ kc4 x1 x2 x3 n (0 : Int32) (x5 + (3 : Int32)))))
          else
            L_X12_sortsOf_15 N σ kc4 x1 x2 x3 n (1 : Int32) (x5 + (3 : Int32)))
def L_X12_sortsOf_4 (N : Nat) (σ : St) (x1 : Int32) : Nat → Int32 → Int32 → Option Int32
  | 0, _, _ => none
  | n + 1, x2, x3 =>
    if (5 : Int32) ≤ x3 then
      some x2
    else
      L_X12_sortsOf_15 N σ (L_X12_sortsOf_4 N σ x1 n) x1 x2 x3 N (1 : Int32) (0 : Int32)
def D_X12_sortsOf (N : Nat) (σ : St) (x1 : Int32) : Option Int32 :=
  L_X12_sortsOf_4 N σ x1 N (0 : Int32) (0 : Int32)
def J_X12_testOf_145 (N : Nat) (σ : St) (kc15 : Int32 → Int32 → Int32 → Option Int32) (x2 : Int32) (x4 : Int32) (x5 : Int32) (x6 : Int32) (t0 : Int32)  : Option Int32 :=
  if x4 ≤ x6 then
    kc15 t0 x4 (x5 + (1 : Int32))
  else
    kc15 t0 x6 (x5 + (1 : Int32))
def L_X12_testOf_46 (N : Nat) (σ : St) (kc15 : Int32 → Int32 → Int32 → Option Int32) (kc34 : Int32 → Int32 → Option Int32) (x2 : Int32) (x3 : Int32) (x4 : Int32) (x5 : Int32) (x6 : Int32) (x7 : Int32) : Nat → Int32 → Int32 → Option Int32
  | 0, _, _ => none
  | n + 1, x8, x9 =>
    if (5 : Int32) ≤ x9 then
      if ((x2 >>> (x7 &&& 31)) &&& (1 : Int32)) = (1 : Int32) then
        if x8 ≤ x6 then
          kc34 x6 (x7 + (1 : Int32))
        else
          kc34 x8 (x7 + (1 : Int32))
      else
        kc34 x6 (x7 + (1 : Int32))
    else
      bp (D_X12_tellsBy N σ x9 x5 (σ 31 7)) (fun r10 => bp (D_X12_tellsBy N σ x7 x5 (σ 31 7)) (fun r11 => if r10 = r11 then
            L_X12_testOf_46 N σ kc15 kc34 x2 x3 x4 x5 x6 x7 n (x8 + ((x2 >>> (x9 &&& 31)) &&& (1 : Int32))) (x9 + (1 : Int32))
          else
            L_X12_testOf_46 N σ kc15 kc34 x2 x3 x4 x5 x6 x7 n (x8 + (0 : Int32)) (x9 + (1 : Int32))))
def L_X12_testOf_34 (N : Nat) (σ : St) (kc15 : Int32 → Int32 → Int32 → Option Int32) (x2 : Int32) (x3 : Int32) (x4 : Int32) (x5 : Int32) : Nat → Int32 → Int32 → Option Int32
  | 0, _, _ => none
  | n + 1, x6, x7 =>
    if (5 : Int32) ≤ x7 then
      if x4 ≤ x6 then
        J_X12_testOf_145 N σ kc15 x2 x4 x5 x6 x3
      else
        J_X12_testOf_145 N σ kc15 x2 x4 x5 x6 x5
    else
      L_X12_testOf_46 N σ kc15 (L_X12_testOf_34 N σ kc15 x2 x3 x4 x5 n) x2 x3 x4 x5 x6 x7 N (0 : Int32) (0 : Int32)
def L_X12_testOf_15 (N : Nat) (σ : St) (x2 : Int32) : Nat → Int32 → Int32 → Int32 → Option Int32
  | 0, _, _, _ => none
  | n + 1, x3, x4, x5 =>
    if (σ 31 5) ≤ x5 then
      some x3
    else
      if x2 = 0 then
        some x3
      else
        L_X12_testOf_34 N σ (L_X12_testOf_15 N σ x2 n) x2 x3 x4 x5 N (0 : Int32) (0 : Int32)
def D_X12_testOf (N : Nat) (σ : St) (x1 : Int32) : Option Int32 :=
  bp (D_X12_sortsOf N σ x1) (fun r1 => L_X12_testOf_15 N σ r1 N (-1 : Int32) (6 : Int32) (0 : Int32))
def L_X12_toJudge_4 (N : Nat) (σ : St) (x1 : Int32) : Nat → Int32 → Int32 → Option Int32
  | 0, _, _ => none
  | n + 1, x2, x3 =>
    if (σ 31 8) ≤ x3 then
      some x2
    else
      gi (((3 : Int32) * x3) + (1 : Int32)) 36 (if (σ 34 ((((3 : Int32) * x3) + (1 : Int32)).toNatClampNeg)) = x1 then
          L_X12_toJudge_4 N σ x1 n (x2 + (1 : Int32)) (x3 + (1 : Int32))
        else
          L_X12_toJudge_4 N σ x1 n (x2 + (0 : Int32)) (x3 + (1 : Int32)))
def D_X12_toJudge (N : Nat) (σ : St) (x1 : Int32) : Option Int32 :=
  L_X12_toJudge_4 N σ x1 N (0 : Int32) (0 : Int32)
def D_X12_tellJudge (N : Nat) (σ : St) (x1 : Int32) (x2 : Int32) : Option Int32 :=
  if x2 = (0 : Int32) then
    gi x1 3 (some (σ 33 x1.toNatClampNeg))
  else if x2 = (1 : Int32) then
    bp (D_X12_toJudge N σ x1) (fun r4 => some r4)
  else if x2 = (2 : Int32) then
    bp (D_X12_sortsOf N σ x1) (fun r6 => some r6)
  else if x2 = (3 : Int32) then
    bp (D_X12_testOf N σ x1) (fun r8 => some r8)
  else if x2 = (4 : Int32) then
    bp (D_X12_twinsOf N σ x1) (fun r10 => some r10)
  else 
    some (-102 : Int32)
def D_X12_say (σ : St) (h : Int64) (y1 : Int64) : Option (St × Int64) :=
  some (σ, ((31 : Int64) * h) + y1)
def L_X12_restOf_71 (N : Nat) (x3 : Int32) (x4 : Int32) : Nat → Int32 → Int32 → St → Option (Int32 × St)
  | 0, _, _, _ => none
  | n + 1, x5, x6, σ =>
    if x6 ≤ 0 then
      if x3 = 0 then
        gz x5 (some (x4 / x5, σ))
      else
        bp (D_X12_fitMany N σ) (fun r9 => gz x5 (some (r9 / x5, σ)))
    else
      gz x6 (L_X12_restOf_71 N x3 x4 n x6 (x5 - x5 / x6 * x6) σ)
def L_X12_restOf_21 (N : Nat) (x3 : Int32) : Nat → Int32 → Int32 → St → Option (Int32 × St)
  | 0, _, _, _ => none
  | n + 1, x4, x5, σ =>
    if (41 : Int32) ≤ x5 then
      if x4 = 0 then
        some (x3, σ)
      else
        bp (D_X12_fitMany N σ) (fun r6 => L_X12_restOf_71 N x3 x4 N r6 x4 σ)
    else
      gi x5 41 (gi x5 41 (L_X12_restOf_21 N x3 n (x4 + ((σ 36 x5.toNatClampNeg) * (σ 36 x5.toNatClampNeg))) (x5 + (1 : Int32)) σ))
def D_X12_restOf (N : Nat) (σ : St) (x1 : Int32) (x2 : Int32) (x3 : Int32) : Option (Int32 × St) :=
  bp (D_X12_layFit N σ) (fun s1 => gi x2 3 (bp (D_X12_laySizes N s1 (s1 33 x2.toNatClampNeg) x1) (fun s3 => L_X12_restOf_21 N x3 N (0 : Int32) (0 : Int32) s3)))
def D_X12_lacks (σ : St) : Option Int32 :=
  if (σ 31 5) = 0 then
    some (1 : Int32)
  else
    some (0 : Int32)
def D_X12_leftOf (N : Nat) (σ : St) : Option (Int32 × St) :=
  bp (D_X12_layFit N σ) (fun s1 => bp (D_X12_fitMany N s1) (fun r2 => some (r2, s1)))
def J_X12_fitsOf_32 (N : Nat) (kc8 : Int32 → Int32 → St → Option (Int32 × St)) (x2 : Int32) (x3 : Int32) (σ : St) : Option (Int32 × St) :=
  gi x3 216 (kc8 (x2 - (σ 35 x3.toNatClampNeg)) (x3 + (1 : Int32)) σ)
def L_X12_fitsOf_8 (N : Nat) : Nat → Int32 → Int32 → St → Option (Int32 × St)
  | 0, _, _, _ => none
  | n + 1, x2, x3, σ =>
    if (σ 31 5) ≤ x3 then
      some ((-1 : Int32), σ)
    else
      gi x3 216 (if (σ 35 x3.toNatClampNeg) = (1 : Int32) then
          if x2 = 0 then
            some (x3, σ)
          else
            J_X12_fitsOf_32 N (L_X12_fitsOf_8 N n) x2 x3 σ
        else
          J_X12_fitsOf_32 N (L_X12_fitsOf_8 N n) x2 x3 σ)
def D_X12_fitsOf (N : Nat) (σ : St) (x1 : Int32) : Option (Int32 × St) :=
  bp (D_X12_layFit N σ) (fun s1 => L_X12_fitsOf_8 N N x1 (0 : Int32) s1)
def L_X12_digest_155 (N : Nat) : Nat → Int32 → St → Int64 → Option (Int64 × (St × Int64))
  | 0, _, _, _ => none
  | n + 1, x1, σ, h =>
    if (11 : Int32) ≤ x1 then
      some (h, (σ, h))
    else
      bp (D_X12_countOf σ x1) (fun r7 => bs (D_X12_say σ h r7.toInt64) (fun s8 h8 => L_X12_digest_155 N n (x1 + (1 : Int32)) s8 h8))
def L_X12_digest_128 (N : Nat) : Nat → Int32 → St → Int64 → Option (Int64 × (St × Int64))
  | 0, _, _, _ => none
  | n + 1, x1, σ, h =>
    if (σ 31 1) ≤ x1 then
      L_X12_digest_155 N N (0 : Int32) σ h
    else
      gi x1 12 (bs (D_X12_say σ h ((σ 32 x1.toNatClampNeg).toInt64)) (fun s10 h10 => L_X12_digest_128 N n (x1 + (1 : Int32)) s10 h10))
def L_X12_digest_73 (N : Nat) : Nat → Int32 → St → Int64 → Option (Int64 × (St × Int64))
  | 0, _, _, _ => none
  | n + 1, x1, σ, h =>
    if ((3 : Int32) * (σ 31 8)) ≤ x1 then
      bp (D_X12_lacks σ) (fun r3 => if r3 = 0 then
          bs (D_X12_leftOf N σ) (fun r11 s11 => bs (D_X12_say s11 h r11.toInt64) (fun s12 h12 => bs (D_X12_fitsOf N s12 (0 : Int32)) (fun r13 s13 => bs (D_X12_say s13 h12 r13.toInt64) (fun s14 h14 => L_X12_digest_128 N N (0 : Int32) s14 h14))))
        else
          L_X12_digest_128 N N (0 : Int32) σ h)
    else
      gi x1 36 (bs (D_X12_say σ h ((σ 34 x1.toNatClampNeg).toInt64)) (fun s16 h16 => L_X12_digest_73 N n (x1 + (1 : Int32)) s16 h16))
def L_X12_digest_19 (N : Nat) (kc9 : Int32 → St → Int64 → Option (Int64 × (St × Int64))) (x1 : Int32) : Nat → Int32 → St → Int64 → Option (Int64 × (St × Int64))
  | 0, _, _, _ => none
  | n + 1, x2, σ, h =>
    if (4 : Int32) ≤ x2 then
      bs (D_X12_restOf N σ (0 : Int32) x1 (0 : Int32)) (fun r18 s18 => bs (D_X12_say s18 h r18.toInt64) (fun s19 h19 => bs (D_X12_restOf N s19 (0 : Int32) x1 (1 : Int32)) (fun r20 s20 => bs (D_X12_say s20 h19 r20.toInt64) (fun s21 h21 => kc9 (x1 + (1 : Int32)) s21 h21))))
    else
      bp (D_X12_tellJudge N σ x1 x2) (fun r22 => bs (D_X12_say σ h r22.toInt64) (fun s23 h23 => L_X12_digest_19 N kc9 x1 n (x2 + (1 : Int32)) s23 h23))
def L_X12_digest_9 (N : Nat) : Nat → Int32 → St → Int64 → Option (Int64 × (St × Int64))
  | 0, _, _, _ => none
  | n + 1, x1, σ, h =>
    if (σ 31 6) ≤ x1 then
      L_X12_digest_73 N N (0 : Int32) σ h
    else
      L_X12_digest_19 N (L_X12_digest_9 N n) x1 N (0 : Int32) σ h
def D_X12_digest (N : Nat) (σ : St) (h : Int64) : Option (Int64 × (St × Int64)) :=
  L_X12_digest_9 N N (0 : Int32) σ (1297 : Int64)
def D_X12_draw (σ : St) (x1 : Int32) : Option (Int32 × St) :=
  gz x1 (some (((((((1103515245 : Int64) * ((σ 31 20).toInt64)) + (12345 : Int64)) &&& (2147483647 : Int64)).toInt32) / (65536 : Int32)) - ((((((1103515245 : Int64) * ((σ 31 20).toInt64)) + (12345 : Int64)) &&& (2147483647 : Int64)).toInt32) / (65536 : Int32)) / x1 * x1, pt σ 31 20 (((((1103515245 : Int64) * ((σ 31 20).toInt64)) + (12345 : Int64)) &&& (2147483647 : Int64)).toInt32)))
def D_X12_kindBy (x0 : Int32) : Option Int32 :=
  if x0 = (99 : Int32) then
    some (4 : Int32)
  else if x0 = (106 : Int32) then
    some (0 : Int32)
  else if x0 = (115 : Int32) then
    some (1 : Int32)
  else if x0 = (116 : Int32) then
    some (2 : Int32)
  else if x0 = (119 : Int32) then
    some (3 : Int32)
  else 
    some (-1 : Int32)
def J_X12_isJudgeLetter_25 (x1 : Int32) (x2 : Int32) (σ : St) : Option (Int32 × St) :=
  bp (D_X12_kindBy x2) (fun r3 => if r3 = (-1 : Int32) then
      some ((0 : Int32), σ)
    else
      if (6 : Int32) ≤ x1 then
        some ((0 : Int32), σ)
      else
        some ((1 : Int32), σ))
def D_X12_isJudgeLetter (σ : St) (x1 : Int32) : Option (Int32 × St) :=
  gi x1 12 (if (σ 32 x1.toNatClampNeg) = (59 : Int32) then
      if x1 ≤ (3 : Int32) then
        J_X12_isJudgeLetter_25 x1 (σ 32 x1.toNatClampNeg) σ
      else
        some ((1 : Int32), pt σ 31 2 x1)
    else
      J_X12_isJudgeLetter_25 x1 (σ 32 x1.toNatClampNeg) σ)
def D_X12_isGood (σ : St) (x1 : Int32) : Option (Int32 × St) :=
  gi x1 12 (if x1 = (0 : Int32) then
      bp (D_X12_in ((σ 32 x1.toNatClampNeg).toInt64) (49 : Int64) (51 : Int64)) (fun r3 => gb r3 (some (r3, σ)))
    else if x1 = (1 : Int32) then
      bp (D_X12_in ((σ 32 x1.toNatClampNeg).toInt64) (50 : Int64) (54 : Int64)) (fun r6 => gb r6 (some (r6, σ)))
    else if x1 = (2 : Int32) then
      if (σ 32 x1.toNatClampNeg) = (59 : Int32) then
        some ((1 : Int32), σ)
      else
        some ((0 : Int32), σ)
    else 
      if (σ 31 2) = 0 then
        bs (D_X12_isJudgeLetter σ x1) (fun r16 s16 => gb r16 (some (r16, s16)))
      else
        gi (0 : Int32) 12 (if ((σ 32 ((0 : Int32).toNatClampNeg)) - (48 : Int32)) < (x1 - (σ 31 2)) then
            some ((0 : Int32), σ)
          else
            gi (1 : Int32) 12 (bp (D_X12_in ((σ 32 x1.toNatClampNeg).toInt64) (97 : Int64) ((((97 : Int32) + (σ 32 ((1 : Int32).toNatClampNeg))) - (49 : Int32)).toInt64)) (fun r14 => if r14 = 0 then
                  some ((0 : Int32), σ)
                else
                  some ((1 : Int32), σ)))))
def L_X12_faultOf_7 (N : Nat) : Nat → Int32 → St → Option (Int32 × St)
  | 0, _, _ => none
  | n + 1, x1, σ =>
    if (σ 31 1) ≤ x1 then
      some (x1, σ)
    else
      bs (D_X12_isGood σ x1) (fun r2 s2 => if r2 = 0 then
          some (x1, s2)
        else
          L_X12_faultOf_7 N n (x1 + (1 : Int32)) s2)
def D_X12_faultOf (N : Nat) (σ : St) : Option (Int32 × St) :=
  L_X12_faultOf_7 N N (0 : Int32) (pt σ 31 2 (0 : Int32))
def D_X12_fault (N : Nat) (σ : St) : Option (Int32 × St) :=
  bs (D_X12_faultOf N σ) (fun r1 s1 => some (r1, s1))
def D_X12_fits (N : Nat) (σ : St) (x1 : Int32) : Option (Int32 × St) :=
  if 0 ≤ x1 then
    bp (D_X12_lacks σ) (fun r2 => if r2 = 0 then
        bs (D_X12_fitsOf N σ x1) (fun r4 s4 => some (r4, s4))
      else
        some ((-103 : Int32), σ))
  else
    some ((-102 : Int32), σ)
def D_X12_forget (σ : St) : Option (Int32 × St) :=
  some (σ 31 8, pt σ 31 8 (0 : Int32))
def L_X12_game_151 (N : Nat) : Nat → Int32 → St → Option (Int32 × St)
  | 0, _, _ => none
  | n + 1, x1, σ =>
    if (σ 31 6) ≤ x1 then
      some (σ 31 5, pt (pt (pt σ 31 8 (0 : Int32)) 31 9 ((σ 31 9) + (1 : Int32))) 31 1 (0 : Int32))
    else
      gi ((3 : Int32) + x1) 12 (bp (D_X12_kindBy (σ 32 (((3 : Int32) + x1).toNatClampNeg))) (fun r11 => gi x1 3 (L_X12_game_151 N n (x1 + (1 : Int32)) (pt σ 33 x1.toNatClampNeg r11))))
def L_X12_game_92 (N : Nat) : Nat → Int32 → St → Option (Int32 × St)
  | 0, _, _ => none
  | n + 1, x1, σ =>
    if (σ 31 3) ≤ x1 then
      L_X12_game_151 N N (0 : Int32) σ
    else
      gi (((σ 31 2) + (1 : Int32)) + x1) 12 (L_X12_game_92 N n (x1 + (1 : Int32)) (pt (pt σ 31 5 ((σ 31 5) * (σ 31 4))) 31 7 ((((σ 31 7) * (σ 31 4)) + (σ 32 ((((σ 31 2) + (1 : Int32)) + x1).toNatClampNeg))) - (97 : Int32))))
def D_X12_game (N : Nat) (σ : St) : Option (Int32 × St) :=
  bs (D_X12_faultOf N σ) (fun r1 s1 => if r1 < (s1 31 1) then
      some ((-103 : Int32), s1)
    else
      if (s1 31 2) = 0 then
        some ((-103 : Int32), s1)
      else
        gi (0 : Int32) 12 (if (((s1 31 1) - (s1 31 2)) - (1 : Int32)) = ((s1 32 ((0 : Int32).toNatClampNeg)) - (48 : Int32)) then
            gi (0 : Int32) 12 (gi (1 : Int32) 12 (L_X12_game_92 N N (0 : Int32) (pt (pt (pt (pt (pt s1 31 3 ((s1 32 ((0 : Int32).toNatClampNeg)) - (48 : Int32))) 31 4 ((s1 32 ((1 : Int32).toNatClampNeg)) - (48 : Int32))) 31 6 ((s1 31 2) - (3 : Int32))) 31 5 (1 : Int32)) 31 7 (0 : Int32))))
          else
            some ((-103 : Int32), s1)))
def D_X12_isRow (σ : St) (x1 : Int32) : Option Int32 :=
  bp (D_X12_in x1.toInt64 (0 : Int64) (((σ 31 5) - (1 : Int32)).toInt64)) (fun r1 => gb r1 (some r1))
def D_X12_hide (σ : St) (x1 : Int32) : Option (Int32 × St) :=
  bp (D_X12_isRow σ x1) (fun r1 => if r1 = 0 then
      some ((-101 : Int32), σ)
    else
      some (σ 31 7, pt σ 31 7 x1))
def L_X12_longOf_51 (N : Nat) (kc25 : Int32 → St → Option (Int32 × St)) (x1 : Int32) (x2 : Int32) (x3 : Int32) (x4 : Int32) (x5 : Int32) : Nat → Int32 → St → Option (Int32 × St)
  | 0, _, _ => none
  | n + 1, x6, σ =>
    if (σ 31 5) ≤ x6 then
      bp (D_X12_fitMany N σ) (fun r6 => if r6 = (1 : Int32) then
          some (x3, σ)
        else
          kc25 (x3 + (1 : Int32)) σ)
    else
      gi x6 216 (if (σ 35 x6.toNatClampNeg) = (1 : Int32) then
          bp (D_X12_tellsBy N σ x1 x4 x6) (fun r11 => if r11 = x5 then
              gi x6 216 (L_X12_longOf_51 N kc25 x1 x2 x3 x4 x5 n (x6 + (1 : Int32)) (pt σ 35 x6.toNatClampNeg (1 : Int32)))
            else
              gi x6 216 (L_X12_longOf_51 N kc25 x1 x2 x3 x4 x5 n (x6 + (1 : Int32)) (pt σ 35 x6.toNatClampNeg (0 : Int32))))
        else
          gi x6 216 (L_X12_longOf_51 N kc25 x1 x2 x3 x4 x5 n (x6 + (1 : Int32)) (pt σ 35 x6.toNatClampNeg (0 : Int32))))
def L_X12_longOf_25 (N : Nat) (x1 : Int32) (x2 : Int32) : Nat → Int32 → St → Option (Int32 × St)
  | 0, _, _ => none
  | n + 1, x3, σ =>
    if (9 : Int32) ≤ x3 then
      some ((-1 : Int32), σ)
    else
      bs (D_X12_bestBy N σ x1) (fun r3 s3 => bp (D_X12_tellsBy N s3 x1 r3 x2) (fun r4 => L_X12_longOf_51 N (L_X12_longOf_25 N x1 x2 n) x1 x2 x3 r3 r4 N (0 : Int32) s3))
def L_X12_longOf_2 (N : Nat) (x1 : Int32) (x2 : Int32) : Nat → Int32 → St → Option (Int32 × St)
  | 0, _, _ => none
  | n + 1, x3, σ =>
    if (σ 31 5) ≤ x3 then
      L_X12_longOf_25 N x1 x2 N (1 : Int32) σ
    else
      gi x3 216 (L_X12_longOf_2 N x1 x2 n (x3 + (1 : Int32)) (pt σ 35 x3.toNatClampNeg (1 : Int32)))
def D_X12_longOf (N : Nat) (σ : St) (x1 : Int32) (x2 : Int32) : Option (Int32 × St) :=
  L_X12_longOf_2 N x1 x2 N (0 : Int32) σ
def D_X12_howLong (N : Nat) (σ : St) (x1 : Int32) (x2 : Int32) : Option (Int32 × St) :=
  bp (D_X12_isJudge σ x1) (fun r1 => if r1 = 0 then
      some ((-101 : Int32), σ)
    else
      bp (D_X12_isRow σ x2) (fun r3 => if r3 = 0 then
          some ((-101 : Int32), σ)
        else
          if (σ 31 16) = (6 : Int32) then
            some ((-103 : Int32), σ)
          else
            gi x1 3 (bs (D_X12_longOf N (pt σ 31 16 ((σ 31 16) + (1 : Int32))) (σ 33 x1.toNatClampNeg) x2) (fun r7 s7 => some (r7, s7)))))
def D_X12_image (N : Nat) (σ : St) : Option (Int32 × St) :=
  bp (D_X12_lacks σ) (fun r1 => if r1 = 0 then
      bp (D_X12_copy_k1 N σ) (fun s3 => bp (D_X12_copy_s1 N s3) (fun s4 => some (s4 31 8, pt (pt (pt s4 31 22 (s4 31 7)) 31 23 (s4 31 8)) 31 21 (s4 31 9))))
    else
      some ((-103 : Int32), σ))
def J_X12_isEnough_81 (N : Nat) (σ : St) (kc2 : Int32 → Option Int32) (kc15 : Int32 → Option Int32) (x1 : Int32) (x2 : Int32) (x3 : Int32) (x4 : Int32) (t0 : Int32)  : Option Int32 :=
  if t0 = 0 then
    kc15 (x4 + (1 : Int32))
  else
    gi (((64 : Int32) * x3) + x4) 4096 (if (σ 38 ((((64 : Int32) * x3) + x4).toNatClampNeg)) = (1 : Int32) then
        some (0 : Int32)
      else
        kc15 (x4 + (1 : Int32)))
def J_X12_isEnough_80 (N : Nat) (σ : St) (kc2 : Int32 → Option Int32) (kc15 : Int32 → Option Int32) (x1 : Int32) (x2 : Int32) (x3 : Int32) (x4 : Int32)  : Option Int32 :=
  J_X12_isEnough_81 N σ kc2 kc15 x1 x2 x3 x4 (0 : Int32)
def L_X12_isEnough_15 (N : Nat) (σ : St) (kc2 : Int32 → Option Int32) (x1 : Int32) (x2 : Int32) (x3 : Int32) : Nat → Int32 → Option Int32
  | 0, _ => none
  | n + 1, x4 =>
    if (σ 31 5) ≤ x4 then
      kc2 (x3 + (1 : Int32))
    else
      gi (((64 : Int32) * x1) + x3) 4096 (gi (((64 : Int32) * x1) + x4) 4096 (if (σ 37 ((((64 : Int32) * x1) + x3).toNatClampNeg)) = (σ 37 ((((64 : Int32) * x1) + x4).toNatClampNeg)) then
            gi (((64 : Int32) * x2) + x3) 4096 (gi (((64 : Int32) * x2) + x4) 4096 (if (σ 37 ((((64 : Int32) * x2) + x3).toNatClampNeg)) = (σ 37 ((((64 : Int32) * x2) + x4).toNatClampNeg)) then
                  J_X12_isEnough_81 N σ kc2 (L_X12_isEnough_15 N σ kc2 x1 x2 x3 n) x1 x2 x3 x4 (1 : Int32)
                else
                  J_X12_isEnough_80 N σ kc2 (L_X12_isEnough_15 N σ kc2 x1 x2 x3 n) x1 x2 x3 x4))
          else
            J_X12_isEnough_80 N σ kc2 (L_X12_isEnough_15 N σ kc2 x1 x2 x3 n) x1 x2 x3 x4))
def L_X12_isEnough_2 (N : Nat) (σ : St) (x1 : Int32) (x2 : Int32) : Nat → Int32 → Option Int32
  | 0, _ => none
  | n + 1, x3 =>
    if (σ 31 5) ≤ x3 then
      some (1 : Int32)
    else
      L_X12_isEnough_15 N σ (L_X12_isEnough_2 N σ x1 x2 n) x1 x2 x3 N (x3 + (1 : Int32))
def D_X12_isEnough (N : Nat) (σ : St) (x1 : Int32) (x2 : Int32) : Option Int32 :=
  L_X12_isEnough_2 N σ x1 x2 N (0 : Int32)
def D_X12_judge (N : Nat) (σ : St) (x1 : Int32) (x2 : Int32) : Option Int32 :=
  bp (D_X12_isJudge σ x1) (fun r1 => if r1 = 0 then
      some (-101 : Int32)
    else
      bp (D_X12_tellJudge N σ x1 x2) (fun r3 => some r3))
def D_X12_keep (σ : St) (x1 : Int32) (x2 : Int32) (x3 : Int32) : Option St :=
  gi ((3 : Int32) * (σ 31 8)) 36 (gi (((3 : Int32) * (σ 31 8)) + (1 : Int32)) 36 (gi (((3 : Int32) * (σ 31 8)) + (2 : Int32)) 36 (some (pt (pt (pt (pt σ 34 (((3 : Int32) * (σ 31 8)).toNatClampNeg) x1) 34 ((((3 : Int32) * (σ 31 8)) + (1 : Int32)).toNatClampNeg) x2) 34 ((((3 : Int32) * (σ 31 8)) + (2 : Int32)).toNatClampNeg) x3) 31 8 ((σ 31 8) + (1 : Int32))))))
def J_X12_layTable_66 (N : Nat) (kc2 : Int32 → St → Option St) (x1 : Int32) (x2 : Int32) (x3 : Int32) (x4 : Int32) (x5 : Int32) (t1 : Int32) (t2 : Int32) (σ : St) : Option St :=
  gi t1 4096 (if x5 = 0 then
      gi x2 4096 (kc2 (x2 + (1 : Int32)) (pt (pt σ 37 t1.toNatClampNeg t2) 38 x2.toNatClampNeg (0 : Int32)))
    else
      if x4 ≤ x3 then
        gi x2 4096 (kc2 (x2 + (1 : Int32)) (pt (pt σ 37 t1.toNatClampNeg t2) 38 x2.toNatClampNeg (0 : Int32)))
      else
        bp (D_X12_isTwin N (pt σ 37 t1.toNatClampNeg t2) x1 x3 x4) (fun r11 => if r11 = 0 then
            gi x2 4096 (kc2 (x2 + (1 : Int32)) (pt (pt σ 37 t1.toNatClampNeg t2) 38 x2.toNatClampNeg (1 : Int32)))
          else
            gi x2 4096 (kc2 (x2 + (1 : Int32)) (pt (pt σ 37 t1.toNatClampNeg t2) 38 x2.toNatClampNeg (0 : Int32)))))
def J_X12_layTable_42 (N : Nat) (kc2 : Int32 → St → Option St) (x1 : Int32) (x2 : Int32) (x3 : Int32) (x4 : Int32) (t0 : Int32) (σ : St) : Option St :=
  if t0 = 0 then
    J_X12_layTable_66 N kc2 x1 x2 x3 x4 t0 x2 (0 : Int32) σ
  else
    bp (D_X12_tellsBy N σ x1 x3 x4) (fun r15 => J_X12_layTable_66 N kc2 x1 x2 x3 x4 t0 x2 r15 σ)
def J_X12_layTable_41 (N : Nat) (kc2 : Int32 → St → Option St) (x1 : Int32) (x2 : Int32) (x3 : Int32) (x4 : Int32) (σ : St) : Option St :=
  J_X12_layTable_42 N kc2 x1 x2 x3 x4 (0 : Int32) σ
def L_X12_layTable_2 (N : Nat) (x1 : Int32) : Nat → Int32 → St → Option St
  | 0, _, _ => none
  | n + 1, x2, σ =>
    if (4096 : Int32) ≤ x2 then
      some σ
    else
      if (σ 31 5) ≤ (x2 / (64 : Int32)) then
        J_X12_layTable_41 N (L_X12_layTable_2 N x1 n) x1 x2 (x2 / (64 : Int32)) (x2 - x2 / (64 : Int32) * (64 : Int32)) σ
      else
        if (σ 31 5) ≤ (x2 - x2 / (64 : Int32) * (64 : Int32)) then
          J_X12_layTable_41 N (L_X12_layTable_2 N x1 n) x1 x2 (x2 / (64 : Int32)) (x2 - x2 / (64 : Int32) * (64 : Int32)) σ
        else
          J_X12_layTable_42 N (L_X12_layTable_2 N x1 n) x1 x2 (x2 / (64 : Int32)) (x2 - x2 / (64 : Int32) * (64 : Int32)) (1 : Int32) σ
def D_X12_layTable (N : Nat) (σ : St) (x1 : Int32) : Option St :=
  L_X12_layTable_2 N x1 N (0 : Int32) σ
def D_X12_left (N : Nat) (σ : St) : Option (Int32 × St) :=
  bp (D_X12_lacks σ) (fun r1 => if r1 = 0 then
      bs (D_X12_leftOf N σ) (fun r3 s3 => some (r3, s3))
    else
      some ((-103 : Int32), σ))
def D_X12_letter (σ : St) (x1 : Int32) : Option (Int32 × St) :=
  bp (D_X12_in x1.toInt64 (1 : Int64) (126 : Int64)) (fun r1 => if r1 = 0 then
      some ((-102 : Int32), σ)
    else
      if (σ 31 1) = (12 : Int32) then
        some ((-104 : Int32), σ)
      else
        gi (σ 31 1) 12 (some ((σ 31 1) + (1 : Int32), pt (pt σ 32 ((σ 31 1).toNatClampNeg) x1) 31 1 ((σ 31 1) + (1 : Int32)))))
def D_X12_note (N : Nat) (σ : St) (x1 : Int32) (x2 : Int32) (x3 : Int32) : Option (Int32 × St) :=
  bp (D_X12_isRow σ x1) (fun r1 => if r1 = 0 then
      some ((-101 : Int32), σ)
    else
      bp (D_X12_isJudge σ x2) (fun r3 => if r3 = 0 then
          some ((-101 : Int32), σ)
        else
          bp (D_X12_in x3.toInt64 (0 : Int64) (40 : Int64)) (fun r5 => if r5 = 0 then
              some ((-102 : Int32), σ)
            else
              if (σ 31 8) = (12 : Int32) then
                some ((-104 : Int32), σ)
              else
                bp (D_X12_keep σ x1 x2 x3) (fun s8 => bs (D_X12_leftOf N s8) (fun r9 s9 => some (r9, s9))))))
def L_X12_partsOf_81 (N : Nat) (kc68 : Int32 → St → Option (Int32 × St)) (x2 : Int32) (x3 : Int32) : Nat → Int32 → St → Option (Int32 × St)
  | 0, _, _ => none
  | n + 1, x4, σ =>
    if (σ 31 5) ≤ x4 then
      kc68 (x3 + (1 : Int32)) σ
    else
      bp (D_X12_isEnough N σ x3 x4) (fun r7 => if r7 = 0 then
          L_X12_partsOf_81 N kc68 x2 x3 n (x4 + (1 : Int32)) σ
        else
          if x2 = 0 then
            some ((2 : Int32), σ)
          else
            if x2 = (1 : Int32) then
              some (x3, σ)
            else
              some (x4, σ))
def L_X12_partsOf_68 (N : Nat) (x2 : Int32) : Nat → Int32 → St → Option (Int32 × St)
  | 0, _, _ => none
  | n + 1, x3, σ =>
    if (σ 31 5) ≤ x3 then
      some ((-1 : Int32), σ)
    else
      L_X12_partsOf_81 N (L_X12_partsOf_68 N x2 n) x2 x3 N (x3 + (1 : Int32)) σ
def L_X12_partsOf_24 (N : Nat) (x2 : Int32) : Nat → Int32 → St → Option (Int32 × St)
  | 0, _, _ => none
  | n + 1, x3, σ =>
    if (σ 31 5) ≤ x3 then
      L_X12_partsOf_68 N x2 N (0 : Int32) σ
    else
      bp (D_X12_isEnough N σ x3 x3) (fun r11 => if r11 = 0 then
          L_X12_partsOf_24 N x2 n (x3 + (1 : Int32)) σ
        else
          if x2 = 0 then
            some ((1 : Int32), σ)
          else
            if x2 = (1 : Int32) then
              some (x3, σ)
            else
              some ((-1 : Int32), σ))
def D_X12_partsOf (N : Nat) (σ : St) (x1 : Int32) (x2 : Int32) : Option (Int32 × St) :=
  bp (D_X12_layTable N σ x1) (fun s1 => bp (D_X12_apartMany N s1) (fun r2 => if r2 = 0 then
        if x2 = 0 then
          some ((0 : Int32), s1)
        else
          some ((-1 : Int32), s1)
      else
        L_X12_partsOf_24 N x2 N (0 : Int32) s1))
def D_X12_parts (N : Nat) (σ : St) (x1 : Int32) (x2 : Int32) : Option (Int32 × St) :=
  bp (D_X12_isJudge σ x1) (fun r1 => if r1 = 0 then
      some ((-101 : Int32), σ)
    else
      bp (D_X12_in x2.toInt64 (0 : Int64) (2 : Int64)) (fun r3 => if r3 = 0 then
          some ((-102 : Int32), σ)
        else
          if (64 : Int32) < (σ 31 5) then
            some ((-103 : Int32), σ)
          else
            if (σ 31 17) = (9 : Int32) then
              some ((-103 : Int32), σ)
            else
              gi x1 3 (bs (D_X12_partsOf N (pt σ 31 17 ((σ 31 17) + (1 : Int32))) (σ 33 x1.toNatClampNeg) x2) (fun r8 s8 => some (r8, s8)))))
def D_X12_rest (N : Nat) (σ : St) (x1 : Int32) (x2 : Int32) (x3 : Int32) : Option (Int32 × St) :=
  bp (D_X12_isRow σ x1) (fun r1 => if r1 = 0 then
      some ((-101 : Int32), σ)
    else
      bp (D_X12_isJudge σ x2) (fun r3 => if r3 = 0 then
          some ((-101 : Int32), σ)
        else
          bp (D_X12_in x3.toInt64 (0 : Int64) (1 : Int64)) (fun r5 => if r5 = 0 then
              some ((-102 : Int32), σ)
            else
              bs (D_X12_restOf N σ x1 x2 x3) (fun r7 s7 => some (r7, s7)))))
def D_X12_restore (N : Nat) (σ : St) : Option (Int32 × St) :=
  if (σ 31 21) = (σ 31 9) then
    bp (D_X12_copy_k2 N σ) (fun s2 => bp (D_X12_copy_s2 N s2) (fun s3 => some (s3 31 23, pt (pt s3 31 7 (s3 31 22)) 31 8 (s3 31 23))))
  else
    some ((-103 : Int32), σ)
def J_X12_tellRow_50 (N : Nat) (σ : St) (x1 : Int32) (x2 : Int32)  : Option Int32 :=
  if (σ 31 3) ≤ (x2 - (1 : Int32)) then
    some (-1 : Int32)
  else
    bp (D_X12_peg N σ x1 (x2 - (1 : Int32))) (fun r6 => some r6)
def D_X12_tellRow (N : Nat) (σ : St) (x1 : Int32) (x2 : Int32) : Option Int32 :=
  if x2 = (0 : Int32) then
    bp (D_X12_isFit N σ x1) (fun r2 => if r2 = 0 then
        some (0 : Int32)
      else
        some (1 : Int32))
  else if x2 = (1 : Int32) then
    J_X12_tellRow_50 N σ x1 x2
  else if x2 = (2 : Int32) then
    J_X12_tellRow_50 N σ x1 x2
  else if x2 = (3 : Int32) then
    J_X12_tellRow_50 N σ x1 x2
  else if x2 = (4 : Int32) then
    if x1 = (σ 31 7) then
      some (1 : Int32)
    else
      some (0 : Int32)
  else 
    some (-102 : Int32)
def D_X12_row (N : Nat) (σ : St) (x1 : Int32) (x2 : Int32) : Option Int32 :=
  bp (D_X12_isRow σ x1) (fun r1 => if r1 = 0 then
      some (-101 : Int32)
    else
      bp (D_X12_tellRow N σ x1 x2) (fun r3 => some r3))
def D_X12_seen (σ : St) (x1 : Int32) (x2 : Int32) : Option Int32 :=
  bp (D_X12_in x1.toInt64 (0 : Int64) (((σ 31 8) - (1 : Int32)).toInt64)) (fun r1 => if r1 = 0 then
      some (-101 : Int32)
    else
      bp (D_X12_in x2.toInt64 (0 : Int64) (2 : Int64)) (fun r3 => if r3 = 0 then
          some (-102 : Int32)
        else
          gi (((3 : Int32) * x1) + x2) 36 (some (σ 34 ((((3 : Int32) * x1) + x2).toNatClampNeg)))))
def D_X12_show (N : Nat) (σ : St) (x1 : Int32) (x2 : Int32) : Option (Int32 × St) :=
  bp (D_X12_isRow σ x1) (fun r1 => if r1 = 0 then
      some ((-101 : Int32), σ)
    else
      bp (D_X12_isJudge σ x2) (fun r3 => if r3 = 0 then
          some ((-101 : Int32), σ)
        else
          if (σ 31 8) = (12 : Int32) then
            some ((-104 : Int32), σ)
          else
            gi x2 3 (bp (D_X12_tellsBy N σ (σ 33 x2.toNatClampNeg) x1 (σ 31 7)) (fun r7 => bp (D_X12_keep σ x1 x2 r7) (fun s8 => some (r7, s8))))))
def J_X12_soManieth_17 (N : Nat) (σ : St) (kc4 : Int32 → Int32 → Option Int32) (x2 : Int32) (x3 : Int32)  : Option Int32 :=
  gi x3 216 (kc4 (x2 - (σ 35 x3.toNatClampNeg)) (x3 + (1 : Int32)))
def L_X12_soManieth_4 (N : Nat) (σ : St) : Nat → Int32 → Int32 → Option Int32
  | 0, _, _ => none
  | n + 1, x2, x3 =>
    gi x3 216 (if (σ 35 x3.toNatClampNeg) = 0 then
        J_X12_soManieth_17 N σ (L_X12_soManieth_4 N σ n) x2 x3
      else
        if x2 ≤ 0 then
          some x3
        else
          J_X12_soManieth_17 N σ (L_X12_soManieth_4 N σ n) x2 x3)
def D_X12_soManieth (N : Nat) (σ : St) (x1 : Int32) : Option Int32 :=
  L_X12_soManieth_4 N σ N x1 (0 : Int32)
def D_X12_strike (σ : St) : Option (Int32 × St) :=
  if (σ 31 8) = 0 then
    some ((-103 : Int32), σ)
  else
    some ((σ 31 8) - (1 : Int32), pt σ 31 8 ((σ 31 8) - (1 : Int32)))
def D_X12_swap (σ : St) (x1 : Int32) (x2 : Int32) : Option (Int32 × St) :=
  bp (D_X12_isJudge σ x1) (fun r1 => if r1 = 0 then
      some ((-101 : Int32), σ)
    else
      bp (D_X12_in x2.toInt64 (0 : Int64) (4 : Int64)) (fun r3 => if r3 = 0 then
          some ((-102 : Int32), σ)
        else
          gi x1 3 (gi x1 3 (some (σ 33 x1.toNatClampNeg, pt σ 33 x1.toNatClampNeg x2)))))
def D_X12_tells (N : Nat) (σ : St) (x1 : Int32) (x2 : Int32) (x3 : Int32) : Option Int32 :=
  bp (D_X12_isJudge σ x1) (fun r1 => if r1 = 0 then
      some (-101 : Int32)
    else
      bp (D_X12_isRow σ x2) (fun r3 => if r3 = 0 then
          some (-101 : Int32)
        else
          bp (D_X12_isRow σ x3) (fun r5 => if r5 = 0 then
              some (-101 : Int32)
            else
              gi x1 3 (bp (D_X12_tellsBy N σ (σ 33 x1.toNatClampNeg) x2 x3) (fun r8 => some r8)))))
def L_X12_tryOne_73 (N : Nat) (kc37 : Int32 → Int32 → St → Option (Int32 × St)) (x1 : Int32) (x2 : Int32) (x3 : Int32) (x4 : Int32) (x5 : Int32) : Nat → Int32 → St → Option (Int32 × St)
  | 0, _, _ => none
  | n + 1, x6, σ =>
    if (σ 31 5) ≤ x6 then
      kc37 x3 x4 σ
    else
      gi x6 216 (if (σ 35 x6.toNatClampNeg) = (1 : Int32) then
          if x6 = x4 then
            gi x6 216 (L_X12_tryOne_73 N kc37 x1 x2 x3 x4 x5 n (x6 + (1 : Int32)) (pt σ 35 x6.toNatClampNeg (0 : Int32)))
          else
            bp (D_X12_tellsBy N σ x1 x4 x6) (fun r14 => if r14 = x5 then
                gi x6 216 (L_X12_tryOne_73 N kc37 x1 x2 x3 x4 x5 n (x6 + (1 : Int32)) (pt σ 35 x6.toNatClampNeg (1 : Int32)))
              else
                gi x6 216 (L_X12_tryOne_73 N kc37 x1 x2 x3 x4 x5 n (x6 + (1 : Int32)) (pt σ 35 x6.toNatClampNeg (0 : Int32))))
        else
          gi x6 216 (L_X12_tryOne_73 N kc37 x1 x2 x3 x4 x5 n (x6 + (1 : Int32)) (pt σ 35 x6.toNatClampNeg (0 : Int32))))
def L_X12_tryOne_37 (N : Nat) (x1 : Int32) (x2 : Int32) : Nat → Int32 → Int32 → St → Option (Int32 × St)
  | 0, _, _, _ => none
  | n + 1, x3, x4, σ =>
    if x4 = x2 then
      some (x3, σ)
    else
      bp (D_X12_fitMany N σ) (fun r4 => bs (D_X12_draw σ r4) (fun r5 s5 => bp (D_X12_soManieth N s5 r5) (fun r6 => bp (D_X12_tellsBy N s5 x1 r6 x2) (fun r7 => L_X12_tryOne_73 N (L_X12_tryOne_37 N x1 x2 n) x1 x2 (x3 + (1 : Int32)) r6 r7 N (0 : Int32) s5))))
def L_X12_tryOne_11 (N : Nat) (x1 : Int32) (x2 : Int32) : Nat → Int32 → St → Option (Int32 × St)
  | 0, _, _ => none
  | n + 1, x3, σ =>
    if (σ 31 5) ≤ x3 then
      L_X12_tryOne_37 N x1 x2 N (0 : Int32) (-1 : Int32) σ
    else
      gi x3 216 (L_X12_tryOne_11 N x1 x2 n (x3 + (1 : Int32)) (pt σ 35 x3.toNatClampNeg (1 : Int32)))
def D_X12_tryOne (N : Nat) (σ : St) (x1 : Int32) : Option (Int32 × St) :=
  bs (D_X12_draw σ (σ 31 5)) (fun r1 s1 => L_X12_tryOne_11 N x1 r1 N (0 : Int32) s1)
def L_X12_tries_57 (N : Nat) (x1 : Int32) (x2 : Int32) (x4 : Int32) : Nat → Int32 → Int32 → Int32 → St → Option (Int32 × St)
  | 0, _, _, _, _ => none
  | n + 1, x5, x6, x7, σ =>
    if x2 ≤ x7 then
      if x4 = 0 then
        some (x5, σ)
      else
        if x4 = (1 : Int32) then
          some (x6, σ)
        else
          some (σ 31 20, σ)
    else
      gi x1 3 (bs (D_X12_tryOne N σ (σ 33 x1.toNatClampNeg)) (fun r12 s12 => if (4 : Int32) ≤ r12 then
            L_X12_tries_57 N x1 x2 x4 n (x5 + r12) (x6 + (0 : Int32)) (x7 + (1 : Int32)) s12
          else
            L_X12_tries_57 N x1 x2 x4 n (x5 + r12) (x6 + (1 : Int32)) (x7 + (1 : Int32)) s12))
def D_X12_tries (N : Nat) (σ : St) (x1 : Int32) (x2 : Int32) (x3 : Int32) (x4 : Int32) : Option (Int32 × St) :=
  bp (D_X12_isJudge σ x1) (fun r1 => if r1 = 0 then
      some ((-101 : Int32), σ)
    else
      bp (D_X12_in x2.toInt64 (1 : Int64) (20 : Int64)) (fun r3 => if r3 = 0 then
          some ((-102 : Int32), σ)
        else
          if x3 < 0 then
            some ((-102 : Int32), σ)
          else
            bp (D_X12_in x4.toInt64 (0 : Int64) (2 : Int64)) (fun r6 => if r6 = 0 then
                some ((-102 : Int32), σ)
              else
                L_X12_tries_57 N x1 x2 x4 N (0 : Int32) (0 : Int32) (0 : Int32) (pt σ 31 20 x3))))
