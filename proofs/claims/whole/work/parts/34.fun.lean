-- L2: the functions (printed by wip/gen/emit32.py)
noncomputable def wAr_fill_5 (l0 : Int) (l1 : Int) (l3 : Int) : Nat → Mem → Int → Option (Mem)
  | 0, _, _ => none
  | n + 1, μ, l2 =>
    if l3 ≤ l2 then
      some μ
    else
      (wI μ l0 l2 l1).bind fun m1 =>
      wAr_fill_5 l0 l1 l3 n m1 (jadd l2 1)
noncomputable def wAr_fill (μ : Mem) (a0 : Int) (a1 : Int) : Option (Mem) :=
  (aln μ a0).bind fun x1 =>
  wAr_fill_5 a0 a1 x1 big μ 0
noncomputable def wSh_fillRows_8 (l1 : Int) (l2 : Int) (l3 : Int) : Nat → Mem → Int → Option (Mem)
  | 0, _, _ => none
  | n + 1, μ, l4 =>
    if l3 ≤ l4 then
      some μ
    else
      (rdA μ l2 l4).bind fun x1 =>
      (wAr_fill μ x1 l1).bind fun m3 =>
      wSh_fillRows_8 l1 l2 l3 n m3 (jadd l4 1)
noncomputable def wSh_fillRows (μ : Mem) (a0 : Int) (a1 : Int) : Option (Mem) :=
  (aln μ a0).bind fun x1 =>
  wSh_fillRows_8 a1 a0 x1 big μ 0
noncomputable def wRow_init (μ : Mem) (a0 : Int) : Option (Mem) :=
  if a0 = 0 then none else
  (nwA μ 100 40).bind fun m2 =>
  (pf m2 5 0 1 a0 (μ 0 0 + 1)).bind fun m4 =>
  (pf m4 5 1 0 a0 0).bind fun m6 =>
  some m6
noncomputable def wCue_init (μ : Mem) (a0 : Int) : Option (Mem) :=
  if a0 = 0 then none else
  (pf μ 1 0 0 a0 0).bind fun m2 =>
  (nwA m2 100 6).bind fun m4 =>
  (pf m4 1 1 1 a0 (m2 0 0 + 1)).bind fun m6 =>
  (nwA m6 100 360).bind fun m8 =>
  (pf m8 1 2 1 a0 (m6 0 0 + 1)).bind fun m10 =>
  some m10
noncomputable def wSh_init_241 (l0 : Int) : Nat → Mem → Int → Option (Mem)
  | 0, _, _ => none
  | n + 1, μ, l1 =>
    if 30 ≤ l1 then
      some μ
    else
      (gf μ 7 7 l0).bind fun x1 =>
      (nw μ 1 3).bind fun m3 =>
      (some (μ 0 0 + 1)).bind fun x5 =>
      if x5 ≠ 0 ∧ kd x5 = 1 then
        (wCue_init m3 x5).bind fun m8 =>
        (wA m8 x1 l1 x5).bind fun m10 =>
        wSh_init_241 l0 n m10 (jadd l1 1)
      else none
noncomputable def wSh_init_211 (l0 : Int) : Nat → Mem → Int → Option (Mem)
  | 0, _, _ => none
  | n + 1, μ, l1 =>
    (gf μ 7 6 l0).bind fun x1 =>
    (aln μ x1).bind fun x3 =>
    if x3 ≤ l1 then
      wSh_init_241 l0 big μ 0
    else
      (gf μ 7 6 l0).bind fun x5 =>
      (nw μ 5 2).bind fun m7 =>
      (some (μ 0 0 + 1)).bind fun x9 =>
      if x9 ≠ 0 ∧ kd x9 = 5 then
        (wRow_init m7 x9).bind fun m12 =>
        (wA m12 x5 l1 x9).bind fun m14 =>
        wSh_init_211 l0 n m14 (jadd l1 1)
      else none
noncomputable def wSh_init_181 (l0 : Int) : Nat → Mem → Int → Option (Mem)
  | 0, _, _ => none
  | n + 1, μ, l1 =>
    (gf μ 7 1 l0).bind fun x1 =>
    (aln μ x1).bind fun x3 =>
    if x3 ≤ l1 then
      wSh_init_211 l0 big μ 0
    else
      (gf μ 7 1 l0).bind fun x5 =>
      (nw μ 5 2).bind fun m7 =>
      (some (μ 0 0 + 1)).bind fun x9 =>
      if x9 ≠ 0 ∧ kd x9 = 5 then
        (wRow_init m7 x9).bind fun m12 =>
        (wA m12 x5 l1 x9).bind fun m14 =>
        wSh_init_181 l0 n m14 (jadd l1 1)
      else none
noncomputable def wSh_init (μ : Mem) (a0 : Int) : Option (Mem) :=
  if a0 = 0 then none else
  (nw2 μ 41 6).bind fun m2 =>
  (pf m2 7 0 1 a0 (μ 0 0 + 1)).bind fun m4 =>
  (nwA m4 125 13).bind fun m6 =>
  (pf m6 7 1 1 a0 (m4 0 0 + 1)).bind fun m8 =>
  (nw2 m8 13 9).bind fun m10 =>
  (pf m10 7 2 1 a0 (m8 0 0 + 1)).bind fun m12 =>
  (nw2 m12 9 41).bind fun m14 =>
  (pf m14 7 3 1 a0 (m12 0 0 + 1)).bind fun m16 =>
  (nwA m16 100 9).bind fun m18 =>
  (pf m18 7 4 1 a0 (m16 0 0 + 1)).bind fun m20 =>
  (nw2 m20 5 5).bind fun m22 =>
  (pf m22 7 5 1 a0 (m20 0 0 + 1)).bind fun m24 =>
  (nwA m24 125 5).bind fun m26 =>
  (pf m26 7 6 1 a0 (m24 0 0 + 1)).bind fun m28 =>
  (nwA m28 121 30).bind fun m30 =>
  (pf m30 7 7 1 a0 (m28 0 0 + 1)).bind fun m32 =>
  (pf m32 7 8 0 a0 0).bind fun m34 =>
  (nwA m34 100 360).bind fun m36 =>
  (pf m36 7 9 1 a0 (m34 0 0 + 1)).bind fun m38 =>
  (pf m38 7 10 0 a0 (-1)).bind fun m40 =>
  (nwA m40 100 201).bind fun m42 =>
  (pf m42 7 11 1 a0 (m40 0 0 + 1)).bind fun m44 =>
  (nw2 m44 11 2).bind fun m46 =>
  (pf m46 7 12 1 a0 (m44 0 0 + 1)).bind fun m48 =>
  (gf m48 7 0 a0).bind fun x50 =>
  (wSh_fillRows m48 x50 (-1)).bind fun m52 =>
  (gf m52 7 2 a0).bind fun x54 =>
  (wSh_fillRows m52 x54 (-1)).bind fun m56 =>
  (gf m56 7 3 a0).bind fun x58 =>
  (wSh_fillRows m56 x58 (-1)).bind fun m60 =>
  (gf m60 7 5 a0).bind fun x62 =>
  (wSh_fillRows m60 x62 (-1)).bind fun m64 =>
  (gf m64 7 12 a0).bind fun x66 =>
  (wSh_fillRows m64 x66 (-1)).bind fun m68 =>
  (gf m68 7 9 a0).bind fun x70 =>
  (wAr_fill m68 x70 (-1)).bind fun m72 =>
  (gf m72 7 11 a0).bind fun x74 =>
  (wAr_fill m72 x74 (-1)).bind fun m76 =>
  wSh_init_181 a0 big m76 0
noncomputable def wPl_init_72 (l0 : Int) : Nat → Mem → Int → Option (Mem)
  | 0, _, _ => none
  | n + 1, μ, l2 =>
    if 360 ≤ l2 then
      some μ
    else
      (gf μ 3 6 l0).bind fun x1 =>
      (aI μ (-1) 9 (jrem l2 9)).bind fun x3 =>
      (wI μ x1 l2 x3).bind fun m5 =>
      (gf m5 3 7 l0).bind fun x7 =>
      (gf m5 3 6 l0).bind fun x9 =>
      (rdI m5 x9 l2).bind fun x11 =>
      (wI m5 x7 l2 x11).bind fun m13 =>
      wPl_init_72 l0 n m13 (jadd l2 1)
noncomputable def wPl_init (μ : Mem) (a0 : Int) (a1 : Int) : Option (Mem) :=
  if a0 = 0 then none else
  (pf μ 3 1 0 a0 0).bind fun m2 =>
  (pf m2 3 2 0 a0 0).bind fun m4 =>
  (pf m4 3 3 0 a0 0).bind fun m6 =>
  (pf m6 3 4 0 a0 0).bind fun m8 =>
  (pf m8 3 5 2 a0 0).bind fun m10 =>
  (nwA m10 100 360).bind fun m12 =>
  (pf m12 3 6 1 a0 (m10 0 0 + 1)).bind fun m14 =>
  (nwA m14 100 360).bind fun m16 =>
  (pf m16 3 7 1 a0 (m14 0 0 + 1)).bind fun m18 =>
  (nwA m18 100 360).bind fun m20 =>
  (pf m20 3 8 1 a0 (m18 0 0 + 1)).bind fun m22 =>
  (nwA m22 100 360).bind fun m24 =>
  (pf m24 3 9 1 a0 (m22 0 0 + 1)).bind fun m26 =>
  (pf m26 3 0 1 a0 a1).bind fun m28 =>
  wPl_init_72 a0 big m28 0
noncomputable def wSg_init (μ : Mem) (a0 : Int) (a1 : Int) (a2 : Int) : Option (Mem) :=
  if a0 = 0 then none else
  (nwA μ 100 9).bind fun m2 =>
  (pf m2 8 2 1 a0 (μ 0 0 + 1)).bind fun m4 =>
  (nwA m4 102 9).bind fun m6 =>
  (pf m6 8 3 1 a0 (m4 0 0 + 1)).bind fun m8 =>
  (pf m8 8 4 0 a0 1000).bind fun m10 =>
  (pf m10 8 5 2 a0 0).bind fun m12 =>
  (nwA m12 102 5).bind fun m14 =>
  (pf m14 8 6 1 a0 (m12 0 0 + 1)).bind fun m16 =>
  (nwA m16 100 41).bind fun m18 =>
  (pf m18 8 7 1 a0 (m16 0 0 + 1)).bind fun m20 =>
  (pf m20 8 0 1 a0 a1).bind fun m22 =>
  (pf m22 8 1 1 a0 a2).bind fun m24 =>
  some m24
noncomputable def wJ_init_345 (μ : Mem) (a0 : Int) (a1 : Int) : Option (Mem) :=
  if a0 = 0 then none else
  if (1 : Int) = 0 then
    none
  else
    (nwA μ 101 a1).bind fun m2 =>
    (pf m2 13 0 1 a0 (μ 0 0 + 1)).bind fun m4 =>
    (pf m4 13 1 3 a0 0).bind fun m6 =>
    some m6
noncomputable def wJ_init_344 (μ : Mem) (a0 : Int) : Option (Mem) :=
  if a0 ≠ 0 ∧ kd a0 = 13 then
    (wJ_init_345 μ a0 16).bind fun m2 =>
    some m2
  else none
noncomputable def wJ_coder (μ : Mem) (a0 : Int) : Option (Int) :=
  if (1 : Int) = 0 then
    if -128 ≤ (1 : Int) ∧ (1 : Int) ≤ 127 then some 1 else none
  else
    (gf μ 14 1 a0).bind fun x2 =>
    if -128 ≤ (x2 : Int) ∧ (x2 : Int) ≤ 127 then some x2 else none
noncomputable def wJ_length_348 (μ : Mem) (a0 : Int) : Option (Int) :=
  (gf μ 14 0 a0).bind fun x1 =>
  (aln μ x1).bind fun x3 =>
  if a0 ≠ 0 ∧ kd a0 = 14 then
    (wJ_coder μ a0).bind fun x6 =>
    some (jshr x3 x6)
  else none
noncomputable def wJ_newLength_21 (μ : Mem) (l0 : Int) (l1 : Int) : Option (Int) :=
  none
noncomputable def wJ_newLength (μ : Mem) (a0 : Int) (a1 : Int) (a2 : Int) : Option (Int) :=
  (some (jadd a0 (mxI a1 a2))).bind fun x1 =>
  if x1 ≤ 0 then
    wJ_newLength_21 μ a0 a1
  else
    if 2147483639 < x1 then
      wJ_newLength_21 μ a0 a1
    else
      some x1
noncomputable def wJ_newCapacity (μ : Mem) (a0 : Int) (a1 : Int) : Option (Int) :=
  (gf μ 13 0 a0).bind fun x1 =>
  (aln μ x1).bind fun x3 =>
  (gf μ 13 1 a0).bind fun x5 =>
  (some (jshl a1 x5)).bind fun x7 =>
  (some (jsub x7 x3)).bind fun x9 =>
  (gf μ 13 1 a0).bind fun x11 =>
  (wJ_newLength μ x3 x9 (jadd x3 (jshl 2 x11))).bind fun x13 =>
  if x13 ≠ 2147483647 then
    (gf μ 13 1 a0).bind fun x15 =>
    some (jshr x13 x15)
  else
    none
noncomputable def wAr_copyOf (μ : Mem) (a0 : Int) (a1 : Int) : Option (Int × Mem) :=
  (aln μ a0).bind fun x1 =>
  if a1 ≠ x1 then
    (nwA μ 101 a1).bind fun m3 =>
    (some (μ 0 0 + 1)).bind fun x5 =>
    (aln m3 a0).bind fun x7 =>
    (cpA m3 a0 0 x5 0 (mnI x7 a1)).bind fun m9 =>
    some (x5, m9)
  else
    none
noncomputable def wJ_ensureCapacityInternal (μ : Mem) (a0 : Int) (a1 : Int) : Option (Mem) :=
  (gf μ 13 0 a0).bind fun x1 =>
  (aln μ x1).bind fun x3 =>
  (gf μ 13 1 a0).bind fun x5 =>
  (some (jshr x3 x5)).bind fun x7 =>
  if (jsub a1 x7) ≤ 0 then
    some μ
  else
    (gf μ 13 0 a0).bind fun x9 =>
    if a0 ≠ 0 ∧ kd a0 = 13 then
      (wJ_newCapacity μ a0 a1).bind fun x12 =>
      (gf μ 13 1 a0).bind fun x14 =>
      (wAr_copyOf μ x9 (jshl x12 x14)).bind fun p16 =>
      (pf p16.2 13 0 1 a0 p16.1).bind fun m18 =>
      some m18
    else none
noncomputable def wJ_inflateIfNeededFor (μ : Mem) (a0 : Int) (a1 : Int) : Option (Unit) :=
  if (1 : Int) = 0 then
    some ()
  else
    (gf μ 13 1 a0).bind fun x1 =>
    if a1 ≠ 0 ∧ kd a1 = 14 then
      (wJ_coder μ a1).bind fun x4 =>
      if x1 = x4 then
        some ()
      else
        none
    else none
noncomputable def wJ_getBytes (μ : Mem) (a0 : Int) (a1 : Int) (a2 : Int) (a3 : Int) : Option (Mem) :=
  if a0 ≠ 0 ∧ kd a0 = 14 then
    (wJ_coder μ a0).bind fun x2 =>
    if x2 ≠ a3 then
      (gf μ 14 0 a0).bind fun x4 =>
      (gf μ 14 0 a0).bind fun x6 =>
      (aln μ x6).bind fun x8 =>
      none
    else
      (gf μ 14 0 a0).bind fun x10 =>
      (gf μ 14 0 a0).bind fun x12 =>
      (aln μ x12).bind fun x14 =>
      (cpA μ x10 0 a1 (jshl a2 a3) x14).bind fun m16 =>
      some m16
  else none
noncomputable def wJ_putStringAt (μ : Mem) (a0 : Int) (a1 : Int) (a2 : Int) : Option (Mem) :=
  if a0 ≠ 0 ∧ kd a0 = 13 then
    (wJ_inflateIfNeededFor μ a0 a2).bind fun _ =>
    (gf μ 13 0 a0).bind fun x3 =>
    (gf μ 13 1 a0).bind fun x5 =>
    if a2 ≠ 0 ∧ kd a2 = 14 then
      (wJ_getBytes μ a2 x3 a1 x5).bind fun m8 =>
      some m8
    else none
  else none
noncomputable def wJ_append_347 (μ : Mem) (a0 : Int) (a1 : Int) : Option (Int × Mem) :=
  if a1 ≠ 0 then
    if a1 ≠ 0 ∧ kd a1 = 14 then
      (wJ_length_348 μ a1).bind fun x2 =>
      (gf μ 13 3 a0).bind fun x4 =>
      if a0 ≠ 0 ∧ kd a0 = 13 then
        (wJ_ensureCapacityInternal μ a0 (jadd x4 x2)).bind fun m7 =>
        (gf m7 13 3 a0).bind fun x9 =>
        if a0 ≠ 0 ∧ kd a0 = 13 then
          (wJ_putStringAt m7 a0 x9 a1).bind fun m12 =>
          (gf m12 13 3 a0).bind fun x14 =>
          (pf m12 13 3 0 a0 (jadd x14 x2)).bind fun m16 =>
          some (a0, m16)
        else none
      else none
    else none
  else
    none
noncomputable def wJ_append_346 (μ : Mem) (a0 : Int) (a1 : Int) : Option (Int × Mem) :=
  if a0 ≠ 0 ∧ kd a0 = 13 then
    (wJ_append_347 μ a0 a1).bind fun p2 =>
    some (a0, p2.2)
  else none
noncomputable def wJ_length_362 (μ : Mem) (a0 : Int) : Option (Int) :=
  (gf μ 13 3 a0).bind fun x1 =>
  some x1
noncomputable def wJ_length_356 (μ : Mem) (a0 : Int) : Option (Int) :=
  if a0 ≠ 0 ∧ kd a0 = 13 then
    (wJ_length_362 μ a0).bind fun x2 =>
    some x2
  else none
noncomputable def wJ_getValue (μ : Mem) (a0 : Int) : Option (Int) :=
  (gf μ 13 0 a0).bind fun x1 =>
  some x1
noncomputable def wJ_isLatin1_363 (μ : Mem) (a0 : Int) : Option (Int) :=
  if (1 : Int) = 0 then
    some 0
  else
    (gf μ 13 1 a0).bind fun x1 =>
    if x1 ≠ 0 then
      some 0
    else
      some 1
noncomputable def wAr_checkLength (μ : Mem) (a0 : Int) (a1 : Int) : Option (Unit) :=
  if a0 ≤ a1 then
    some ()
  else
    none
noncomputable def wAr_copyOfRangeByte (μ : Mem) (a0 : Int) (a1 : Int) (a2 : Int) : Option (Int × Mem) :=
  (wAr_checkLength μ a1 a2).bind fun _ =>
  (some (jsub a2 a1)).bind fun x2 =>
  (nwA μ 101 x2).bind fun m4 =>
  (some (μ 0 0 + 1)).bind fun x6 =>
  (aln m4 a0).bind fun x8 =>
  (cpA m4 a0 a1 x6 0 (mnI (jsub x8 a1) x2)).bind fun m10 =>
  some (x6, m10)
noncomputable def wAr_copyOfRange_10 (μ : Mem) (l0 : Int) (l1 : Int) (l2 : Int) : Option (Int × Mem) :=
  (wAr_copyOfRangeByte μ l0 l1 l2).bind fun p1 =>
  some (p1.1, p1.2)
noncomputable def wAr_copyOfRange (μ : Mem) (a0 : Int) (a1 : Int) (a2 : Int) : Option (Int × Mem) :=
  if a1 ≠ 0 then
    wAr_copyOfRange_10 μ a0 a1 a2
  else
    (aln μ a0).bind fun x1 =>
    if a2 = x1 then
      none
    else
      wAr_copyOfRange_10 μ a0 a1 a2
noncomputable def wJ_init_360_79 (μ : Mem) (l0 : Int) (l3 : Int) (l4 : Int) : Option (Mem) :=
  (pf μ 14 1 3 l0 1).bind fun m1 =>
  (wAr_copyOfRange m1 l3 0 (jshl l4 1)).bind fun p3 =>
  (pf p3.2 14 0 1 l0 p3.1).bind fun m5 =>
  some m5
noncomputable def wJ_init_360 (μ : Mem) (a0 : Int) (a1 : Int) (a2 : Int) : Option (Mem) :=
  if a0 = 0 then none else
  if a1 ≠ 0 ∧ kd a1 = 13 then
    (wJ_getValue μ a1).bind fun x3 =>
    if a1 ≠ 0 ∧ kd a1 = 13 then
      (wJ_length_356 μ a1).bind fun x6 =>
      if a1 ≠ 0 ∧ kd a1 = 13 then
        (wJ_isLatin1_363 μ a1).bind fun x9 =>
        if x9 = 0 then
          if (1 : Int) = 0 then
            wJ_init_360_79 μ a0 x3 x6
          else
            (gf μ 13 2 a1).bind fun x11 =>
            if x11 = 0 then
              wJ_init_360_79 μ a0 x3 x6
            else
              none
        else
          (pf μ 14 1 3 a0 0).bind fun m15 =>
          (wAr_copyOfRange m15 x3 0 x6).bind fun p17 =>
          (pf p17.2 14 0 1 a0 p17.1).bind fun m19 =>
          some m19
      else none
    else none
  else none
noncomputable def wJ_init_359 (μ : Mem) (a0 : Int) (a1 : Int) : Option (Mem) :=
  if a0 ≠ 0 ∧ kd a0 = 14 then
    (wJ_init_360 μ a0 a1 0).bind fun m2 =>
    some m2
  else none
noncomputable def wJ_toString (μ : Mem) (a0 : Int) : Option (Int × Mem) :=
  (nw μ 14 4).bind fun m1 =>
  (some (μ 0 0 + 1)).bind fun x3 =>
  if x3 ≠ 0 ∧ kd x3 = 14 then
    (wJ_init_359 m1 x3 a0).bind fun m6 =>
    some (x3, m6)
  else none
noncomputable def wJ_isLatin1_367 (μ : Mem) (a0 : Int) : Option (Int) :=
  if (1 : Int) = 0 then
    some 0
  else
    (gf μ 14 1 a0).bind fun x1 =>
    if x1 ≠ 0 then
      some 0
    else
      some 1
noncomputable def wJ_inflate_3 (l0 : Int) (l2 : Int) (l4 : Int) : Nat → Mem → Int → Int → Int → Option (Mem)
  | 0, _, _, _, _ => none
  | n + 1, μ, l1, l3, l5 =>
    if l4 ≤ l5 then
      some μ
    else
      (rdB μ l0 l1).bind fun x1 =>
      (wC μ l2 l3 (jc (jand x1 255))).bind fun m3 =>
      wJ_inflate_3 l0 l2 l4 n m3 (jadd l1 1) (jadd l3 1) (jadd l5 1)
noncomputable def wJ_inflate (μ : Mem) (a0 : Int) (a1 : Int) (a2 : Int) (a3 : Int) (a4 : Int) : Option (Mem) :=
  wJ_inflate_3 a0 a2 a4 big μ a1 a3 0
noncomputable def wJ_toChars (μ : Mem) (a0 : Int) : Option (Int × Mem) :=
  (aln μ a0).bind fun x1 =>
  (nwA μ 103 x1).bind fun m3 =>
  (some (μ 0 0 + 1)).bind fun x5 =>
  (aln m3 a0).bind fun x7 =>
  (wJ_inflate m3 a0 0 x5 0 x7).bind fun m9 =>
  some (x5, m9)
noncomputable def wJ_toCharArray (μ : Mem) (a0 : Int) : Option (Int × Mem) :=
  if a0 ≠ 0 ∧ kd a0 = 14 then
    (wJ_isLatin1_367 μ a0).bind fun x2 =>
    if x2 = 0 then
      (gf μ 14 0 a0).bind fun x4 =>
      none
    else
      (gf μ 14 0 a0).bind fun x6 =>
      (wJ_toChars μ x6).bind fun p8 =>
      some (p8.1, p8.2)
  else none
noncomputable def wWd_init_63 (l0 : Int) : Nat → Mem → Int → Int → Option (Mem)
  | 0, _, _, _ => none
  | n + 1, μ, l2, l3 =>
    (gf μ 10 0 l0).bind fun x1 =>
    (aln μ x1).bind fun x3 =>
    if x3 ≤ l3 then
      some μ
    else
      (gf μ 10 0 l0).bind fun x5 =>
      (rdC μ x5 l3).bind fun x7 =>
      if x7 ≠ 32 then
        wWd_init_63 l0 n μ l2 (jadd l3 1)
      else
        if 70 ≤ l2 then
          wWd_init_63 l0 n μ l2 (jadd l3 1)
        else
          (gf μ 10 1 l0).bind fun x9 =>
          (wI μ x9 (jadd l2 1) (jadd l3 1)).bind fun m11 =>
          wWd_init_63 l0 n m11 (jadd l2 1) (jadd l3 1)
noncomputable def wWd_init (μ : Mem) (a0 : Int) : Option (Mem) :=
  if a0 = 0 then none else
  (nwA μ 100 71).bind fun m2 =>
  (pf m2 10 1 1 a0 (μ 0 0 + 1)).bind fun m4 =>
  (nw m4 13 4).bind fun m6 =>
  (some (m4 0 0 + 1)).bind fun x8 =>
  if x8 ≠ 0 ∧ kd x8 = 13 then
    (wJ_init_344 m6 x8).bind fun m11 =>
    if x8 ≠ 0 ∧ kd x8 = 13 then
      (wJ_append_346 m11 x8 (-10)).bind fun p14 =>
      if x8 ≠ 0 ∧ kd x8 = 13 then
        (wJ_append_346 p14.2 x8 (-11)).bind fun p17 =>
        if x8 ≠ 0 ∧ kd x8 = 13 then
          (wJ_append_346 p17.2 x8 (-12)).bind fun p20 =>
          if x8 ≠ 0 ∧ kd x8 = 13 then
            (wJ_append_346 p20.2 x8 (-13)).bind fun p23 =>
            if x8 ≠ 0 ∧ kd x8 = 13 then
              (wJ_toString p23.2 x8).bind fun p26 =>
              if p26.1 ≠ 0 ∧ kd p26.1 = 14 then
                (wJ_toCharArray p26.2 p26.1).bind fun p29 =>
                (pf p29.2 10 0 1 a0 p29.1).bind fun m31 =>
                wWd_init_63 a0 big m31 0 0
              else none
            else none
          else none
        else none
      else none
    else none
  else none
noncomputable def wSt_init (μ : Mem) (a0 : Int) : Option (Mem) :=
  if a0 = 0 then none else
  (pf μ 9 0 0 a0 (-1)).bind fun m2 =>
  (pf m2 9 1 0 a0 (-1)).bind fun m4 =>
  (nwA m4 100 12).bind fun m6 =>
  (pf m6 9 2 1 a0 (m4 0 0 + 1)).bind fun m8 =>
  (nwA m8 100 240).bind fun m10 =>
  (pf m10 9 3 1 a0 (m8 0 0 + 1)).bind fun m12 =>
  (nwA m12 100 240).bind fun m14 =>
  (pf m14 9 4 1 a0 (m12 0 0 + 1)).bind fun m16 =>
  (nwA m16 100 240).bind fun m18 =>
  (pf m18 9 5 1 a0 (m16 0 0 + 1)).bind fun m20 =>
  (pf m20 9 6 0 a0 0).bind fun m22 =>
  (nwA m22 100 480).bind fun m24 =>
  (pf m24 9 7 1 a0 (m22 0 0 + 1)).bind fun m26 =>
  (pf m26 9 8 0 a0 0).bind fun m28 =>
  (nwA m28 100 480).bind fun m30 =>
  (pf m30 9 9 1 a0 (m28 0 0 + 1)).bind fun m32 =>
  (pf m32 9 10 0 a0 0).bind fun m34 =>
  (nw m34 5 2).bind fun m36 =>
  (some (m34 0 0 + 1)).bind fun x38 =>
  if x38 ≠ 0 ∧ kd x38 = 5 then
    (wRow_init m36 x38).bind fun m41 =>
    (pf m41 9 11 1 a0 x38).bind fun m43 =>
    some m43
  else none
noncomputable def wRd_init (μ : Mem) (a0 : Int) (a1 : Int) (a2 : Int) : Option (Mem) :=
  if a0 = 0 then none else
  (nwA μ 101 0).bind fun m2 =>
  (pf m2 4 2 1 a0 (μ 0 0 + 1)).bind fun m4 =>
  (pf m4 4 3 0 a0 0).bind fun m6 =>
  (pf m6 4 4 0 a0 0).bind fun m8 =>
  (nwA m8 100 121).bind fun m10 =>
  (pf m10 4 5 1 a0 (m8 0 0 + 1)).bind fun m12 =>
  (nwA m12 100 121).bind fun m14 =>
  (pf m14 4 6 1 a0 (m12 0 0 + 1)).bind fun m16 =>
  (nwA m16 100 121).bind fun m18 =>
  (pf m18 4 7 1 a0 (m16 0 0 + 1)).bind fun m20 =>
  (pf m20 4 8 0 a0 0).bind fun m22 =>
  (pf m22 4 9 0 a0 0).bind fun m24 =>
  (pf m24 4 0 1 a0 a1).bind fun m26 =>
  (pf m26 4 1 1 a0 a2).bind fun m28 =>
  some m28
noncomputable def wCh_init (μ : Mem) (a0 : Int) (a1 : Int) (a2 : Int) : Option (Mem) :=
  if a0 = 0 then none else
  (pf μ 0 2 0 a0 (-1)).bind fun m2 =>
  (pf m2 0 0 1 a0 a1).bind fun m4 =>
  (pf m4 0 1 1 a0 a2).bind fun m6 =>
  some m6
noncomputable def wEd_init (μ : Mem) (a0 : Int) (a1 : Int) (a2 : Int) (a3 : Int) : Option (Mem) :=
  if a0 = 0 then none else
  (pf μ 2 0 1 a0 a1).bind fun m2 =>
  (pf m2 2 1 1 a0 a2).bind fun m4 =>
  (pf m4 2 2 1 a0 a3).bind fun m6 =>
  some m6
noncomputable def wSv_init (μ : Mem) (a0 : Int) (a1 : Int) (a2 : Int) : Option (Mem) :=
  if a0 = 0 then none else
  (nwA μ 101 6000).bind fun m2 =>
  (pf m2 6 2 1 a0 (μ 0 0 + 1)).bind fun m4 =>
  (pf m4 6 3 0 a0 0).bind fun m6 =>
  (pf m6 6 4 2 a0 0).bind fun m8 =>
  (pf m8 6 5 2 a0 0).bind fun m10 =>
  (pf m10 6 0 1 a0 a1).bind fun m12 =>
  (pf m12 6 1 1 a0 a2).bind fun m14 =>
  some m14
noncomputable def wD_init (μ : Mem) (a0 : Int) : Option (Mem) :=
  if a0 = 0 then none else
  (nwA μ 101 6000).bind fun m2 =>
  (pf m2 11 0 1 a0 (μ 0 0 + 1)).bind fun m4 =>
  (pf m4 11 1 0 a0 0).bind fun m6 =>
  (pf m6 11 2 0 a0 0).bind fun m8 =>
  (pf m8 11 3 0 a0 (-1)).bind fun m10 =>
  (nw m10 7 13).bind fun m12 =>
  (some (m10 0 0 + 1)).bind fun x14 =>
  if x14 ≠ 0 ∧ kd x14 = 7 then
    (wSh_init m12 x14).bind fun m17 =>
    (pf m17 11 4 1 a0 x14).bind fun m19 =>
    (nwA m19 127 8).bind fun m21 =>
    (pf m21 11 5 1 a0 (m19 0 0 + 1)).bind fun m23 =>
    (pf m23 11 6 0 a0 0).bind fun m25 =>
    (nw m25 3 10).bind fun m27 =>
    (some (m25 0 0 + 1)).bind fun x29 =>
    (gf m27 11 4 a0).bind fun x31 =>
    if x29 ≠ 0 ∧ kd x29 = 3 then
      (wPl_init m27 x29 x31).bind fun m34 =>
      (pf m34 11 7 1 a0 x29).bind fun m36 =>
      (nw m36 8 8).bind fun m38 =>
      (some (m36 0 0 + 1)).bind fun x40 =>
      (gf m38 11 4 a0).bind fun x42 =>
      (gf m38 11 7 a0).bind fun x44 =>
      if x40 ≠ 0 ∧ kd x40 = 8 then
        (wSg_init m38 x40 x42 x44).bind fun m47 =>
        (pf m47 11 8 1 a0 x40).bind fun m49 =>
        (nw m49 10 2).bind fun m51 =>
        (some (m49 0 0 + 1)).bind fun x53 =>
        if x53 ≠ 0 ∧ kd x53 = 10 then
          (wWd_init m51 x53).bind fun m56 =>
          (pf m56 11 9 1 a0 x53).bind fun m58 =>
          (nw m58 9 12).bind fun m60 =>
          (some (m58 0 0 + 1)).bind fun x62 =>
          if x62 ≠ 0 ∧ kd x62 = 9 then
            (wSt_init m60 x62).bind fun m65 =>
            (pf m65 11 10 1 a0 x62).bind fun m67 =>
            (nw m67 4 10).bind fun m69 =>
            (some (m67 0 0 + 1)).bind fun x71 =>
            (gf m69 11 9 a0).bind fun x73 =>
            (gf m69 11 10 a0).bind fun x75 =>
            if x71 ≠ 0 ∧ kd x71 = 4 then
              (wRd_init m69 x71 x73 x75).bind fun m78 =>
              (pf m78 11 11 1 a0 x71).bind fun m80 =>
              (nw m80 0 3).bind fun m82 =>
              (some (m80 0 0 + 1)).bind fun x84 =>
              (gf m82 11 4 a0).bind fun x86 =>
              (gf m82 11 7 a0).bind fun x88 =>
              if x84 ≠ 0 ∧ kd x84 = 0 then
                (wCh_init m82 x84 x86 x88).bind fun m91 =>
                (pf m91 11 12 1 a0 x84).bind fun m93 =>
                (nw m93 2 3).bind fun m95 =>
                (some (m93 0 0 + 1)).bind fun x97 =>
                (gf m95 11 4 a0).bind fun x99 =>
                (gf m95 11 7 a0).bind fun x101 =>
                (gf m95 11 8 a0).bind fun x103 =>
                if x97 ≠ 0 ∧ kd x97 = 2 then
                  (wEd_init m95 x97 x99 x101 x103).bind fun m106 =>
                  (pf m106 11 13 1 a0 x97).bind fun m108 =>
                  (nw m108 6 6).bind fun m110 =>
                  (some (m108 0 0 + 1)).bind fun x112 =>
                  (gf m110 11 4 a0).bind fun x114 =>
                  (gf m110 11 9 a0).bind fun x116 =>
                  if x112 ≠ 0 ∧ kd x112 = 6 then
                    (wSv_init m110 x112 x114 x116).bind fun m119 =>
                    (pf m119 11 14 1 a0 x112).bind fun m121 =>
                    some m121
                  else none
                else none
              else none
            else none
          else none
        else none
      else none
    else none
  else none
noncomputable def wM_init_991 (l0 : Int) : Nat → Mem → Int → Option (Mem)
  | 0, _, _ => none
  | n + 1, μ, l1 =>
    if 360 ≤ l1 then
      some μ
    else
      (gf μ 12 23 l0).bind fun x1 =>
      (gf μ 12 1 l0).bind fun x3 =>
      (rdI μ x3 (jrem l1 9)).bind fun x5 =>
      (wI μ x1 l1 x5).bind fun m7 =>
      (gf m7 12 24 l0).bind fun x9 =>
      (gf m7 12 23 l0).bind fun x11 =>
      (rdI m7 x11 l1).bind fun x13 =>
      (wI m7 x9 l1 x13).bind fun m15 =>
      wM_init_991 l0 n m15 (jadd l1 1)
noncomputable def wM_init_969 (l0 : Int) : Nat → Mem → Int → Option (Mem)
  | 0, _, _ => none
  | n + 1, μ, l1 =>
    if 12943 ≤ l1 then
      wM_init_991 l0 big μ 0
    else
      (gf μ 12 4 l0).bind fun x1 =>
      (wI μ x1 l1 (-1)).bind fun m3 =>
      wM_init_969 l0 n m3 (jadd l1 1)
noncomputable def wM_init_940 (l0 : Int) : Nat → Mem → Int → Option (Mem)
  | 0, _, _ => none
  | n + 1, μ, l1 =>
    if 4 ≤ l1 then
      wM_init_969 l0 big μ 1562
    else
      (gf μ 12 4 l0).bind fun x1 =>
      (wI μ x1 (jadd 1168 (jmul 46 l1)) (-1)).bind fun m3 =>
      wM_init_940 l0 n m3 (jadd l1 1)
noncomputable def wM_init_918 (l0 : Int) : Nat → Mem → Int → Option (Mem)
  | 0, _, _ => none
  | n + 1, μ, l1 =>
    if 1160 ≤ l1 then
      wM_init_940 l0 big μ 0
    else
      (gf μ 12 4 l0).bind fun x1 =>
      (wI μ x1 l1 (-1)).bind fun m3 =>
      wM_init_918 l0 n m3 (jadd l1 1)
noncomputable def wM_init_892 (l0 : Int) : Nat → Mem → Int → Option (Mem)
  | 0, _, _ => none
  | n + 1, μ, l1 =>
    if 40 ≤ l1 then
      wM_init_918 l0 big μ 732
    else
      (gf μ 12 4 l0).bind fun x1 =>
      (wI μ x1 (jmul 6 l1) (-1)).bind fun m3 =>
      wM_init_892 l0 n m3 (jadd l1 1)
noncomputable def wM_init (μ : Mem) (a0 : Int) : Option (Mem) :=
  if a0 = 0 then none else
  (nwA μ 104 70).bind fun m2 =>
  (some (μ 0 0 + 1)).bind fun x4 =>
  (wJ m2 x4 0 1065).bind fun m6 =>
  (wJ m6 x4 1 4085899).bind fun m8 =>
  (wJ m8 x4 2 399999).bind fun m10 =>
  (wJ m10 x4 3 8537408).bind fun m12 =>
  (wJ m12 x4 4 47).bind fun m14 =>
  (wJ m14 x4 5 6564179).bind fun m16 =>
  (wJ m16 x4 6 2021387).bind fun m18 =>
  (wJ m18 x4 7 137017514).bind fun m20 =>
  (wJ m20 x4 8 390787).bind fun m22 =>
  (wJ m22 x4 9 8345252375).bind fun m24 =>
  (wJ m24 x4 10 6219567563).bind fun m26 =>
  (wJ m26 x4 11 286880).bind fun m28 =>
  (wJ m28 x4 12 14420).bind fun m30 =>
  (wJ m30 x4 13 459818).bind fun m32 =>
  (wJ m32 x4 14 22726).bind fun m34 =>
  (wJ m34 x4 15 5061310453).bind fun m36 =>
  (wJ m36 x4 16 454037).bind fun m38 =>
  (wJ m38 x4 17 381245).bind fun m40 =>
  (wJ m40 x4 18 355568).bind fun m42 =>
  (wJ m42 x4 19 281490259).bind fun m44 =>
  (wJ m44 x4 20 419).bind fun m46 =>
  (wJ m46 x4 21 2759).bind fun m48 =>
  (wJ m48 x4 22 261008005).bind fun m50 =>
  (wJ m50 x4 23 305800).bind fun m52 =>
  (wJ m52 x4 24 309910109).bind fun m54 =>
  (wJ m54 x4 25 60293219).bind fun m56 =>
  (wJ m56 x4 26 70441).bind fun m58 =>
  (wJ m58 x4 27 555).bind fun m60 =>
  (wJ m60 x4 28 1310105).bind fun m62 =>
  (wJ m62 x4 29 8338025072).bind fun m64 =>
  (wJ m64 x4 30 1306021).bind fun m66 =>
  (wJ m66 x4 31 243356).bind fun m68 =>
  (wJ m68 x4 32 1834209).bind fun m70 =>
  (wJ m70 x4 33 10376624).bind fun m72 =>
  (wJ m72 x4 34 316154).bind fun m74 =>
  (wJ m74 x4 35 309083375).bind fun m76 =>
  (wJ m76 x4 36 3094274).bind fun m78 =>
  (wJ m78 x4 37 13901).bind fun m80 =>
  (wJ m80 x4 38 318611).bind fun m82 =>
  (wJ m82 x4 39 388708).bind fun m84 =>
  (wJ m84 x4 40 583).bind fun m86 =>
  (wJ m86 x4 41 90302).bind fun m88 =>
  (wJ m88 x4 42 267413).bind fun m90 =>
  (wJ m90 x4 43 2232979).bind fun m92 =>
  (wJ m92 x4 44 94310429).bind fun m94 =>
  (wJ m94 x4 45 243146).bind fun m96 =>
  (wJ m96 x4 46 388609).bind fun m98 =>
  (wJ m98 x4 47 6683990).bind fun m100 =>
  (wJ m100 x4 48 133743).bind fun m102 =>
  (wJ m102 x4 49 131638).bind fun m104 =>
  (wJ m104 x4 50 168755).bind fun m106 =>
  (wJ m106 x4 51 7051790291).bind fun m108 =>
  (wJ m108 x4 52 237292).bind fun m110 =>
  (wJ m110 x4 53 125042).bind fun m112 =>
  (wJ m112 x4 54 453937).bind fun m114 =>
  (wJ m114 x4 55 9673153).bind fun m116 =>
  (wJ m116 x4 56 400619).bind fun m118 =>
  (wJ m118 x4 57 146957).bind fun m120 =>
  (wJ m120 x4 58 161140).bind fun m122 =>
  (wJ m122 x4 59 386066).bind fun m124 =>
  (wJ m124 x4 60 266497038).bind fun m126 =>
  (wJ m126 x4 61 3172).bind fun m128 =>
  (wJ m128 x4 62 13261).bind fun m130 =>
  (wJ m130 x4 63 4078175).bind fun m132 =>
  (wJ m132 x4 64 48686).bind fun m134 =>
  (wJ m134 x4 65 11705).bind fun m136 =>
  (wJ m136 x4 66 400565).bind fun m138 =>
  (wJ m138 x4 67 12384399).bind fun m140 =>
  (wJ m140 x4 68 190531).bind fun m142 =>
  (wJ m142 x4 69 365565).bind fun m144 =>
  (pf m144 12 0 1 a0 x4).bind fun m146 =>
  (nwA m146 100 9).bind fun m148 =>
  (some (m146 0 0 + 1)).bind fun x150 =>
  (wI m148 x150 0 0).bind fun m152 =>
  (wI m152 x150 1 1000).bind fun m154 =>
  (wI m154 x150 2 1000).bind fun m156 =>
  (wI m156 x150 3 1000).bind fun m158 =>
  (wI m158 x150 4 500).bind fun m160 =>
  (wI m160 x150 5 500).bind fun m162 =>
  (wI m162 x150 6 0).bind fun m164 =>
  (wI m164 x150 7 1000).bind fun m166 =>
  (wI m166 x150 8 0).bind fun m168 =>
  (pf m168 12 1 1 a0 x150).bind fun m170 =>
  (nwA m170 100 22).bind fun m172 =>
  (some (m170 0 0 + 1)).bind fun x174 =>
  (wI m172 x174 0 0).bind fun m176 =>
  (wI m176 x174 1 16).bind fun m178 =>
  (wI m178 x174 2 0).bind fun m180 =>
  (wI m180 x174 3 0).bind fun m182 =>
  (wI m182 x174 4 0).bind fun m184 =>
  (wI m184 x174 5 1).bind fun m186 =>
  (wI m186 x174 6 2).bind fun m188 =>
  (wI m188 x174 7 3).bind fun m190 =>
  (wI m190 x174 8 1).bind fun m192 =>
  (wI m192 x174 9 2).bind fun m194 =>
  (wI m194 x174 10 3).bind fun m196 =>
  (wI m196 x174 11 16).bind fun m198 =>
  (wI m198 x174 12 20).bind fun m200 =>
  (wI m200 x174 13 21).bind fun m202 =>
  (wI m202 x174 14 6).bind fun m204 =>
  (wI m204 x174 15 16).bind fun m206 =>
  (wI m206 x174 16 20).bind fun m208 =>
  (wI m208 x174 17 21).bind fun m210 =>
  (wI m210 x174 18 6).bind fun m212 =>
  (wI m212 x174 19 7).bind fun m214 =>
  (wI m214 x174 20 0).bind fun m216 =>
  (wI m216 x174 21 8).bind fun m218 =>
  (pf m218 12 2 1 a0 x174).bind fun m220 =>
  (nwA m220 100 10).bind fun m222 =>
  (some (m220 0 0 + 1)).bind fun x224 =>
  (wI m222 x224 0 0).bind fun m226 =>
  (wI m226 x224 1 1).bind fun m228 =>
  (wI m228 x224 2 2).bind fun m230 =>
  (wI m230 x224 3 3).bind fun m232 =>
  (wI m232 x224 4 4).bind fun m234 =>
  (wI m234 x224 5 8).bind fun m236 =>
  (wI m236 x224 6 11).bind fun m238 =>
  (wI m238 x224 7 15).bind fun m240 =>
  (wI m240 x224 8 20).bind fun m242 =>
  (wI m242 x224 9 22).bind fun m244 =>
  (pf m244 12 3 1 a0 x224).bind fun m246 =>
  (nwA m246 100 12943).bind fun m248 =>
  (pf m248 12 4 1 a0 (m246 0 0 + 1)).bind fun m250 =>
  (nwA m250 100 12943).bind fun m252 =>
  (pf m252 12 5 1 a0 (m250 0 0 + 1)).bind fun m254 =>
  (nwA m254 100 103544).bind fun m256 =>
  (pf m256 12 6 1 a0 (m254 0 0 + 1)).bind fun m258 =>
  (nwA m258 100 6000).bind fun m260 =>
  (pf m260 12 9 1 a0 (m258 0 0 + 1)).bind fun m262 =>
  (pf m262 12 12 0 a0 (-1)).bind fun m264 =>
  (nwA m264 100 122).bind fun m266 =>
  (pf m266 12 13 1 a0 (m264 0 0 + 1)).bind fun m268 =>
  (nwA m268 100 122).bind fun m270 =>
  (pf m270 12 14 1 a0 (m268 0 0 + 1)).bind fun m272 =>
  (nwA m272 100 122).bind fun m274 =>
  (pf m274 12 15 1 a0 (m272 0 0 + 1)).bind fun m276 =>
  (nwA m276 100 40).bind fun m278 =>
  (pf m278 12 20 1 a0 (m276 0 0 + 1)).bind fun m280 =>
  (nwA m280 100 360).bind fun m282 =>
  (pf m282 12 23 1 a0 (m280 0 0 + 1)).bind fun m284 =>
  (nwA m284 100 360).bind fun m286 =>
  (pf m286 12 24 1 a0 (m284 0 0 + 1)).bind fun m288 =>
  (nwA m288 100 360).bind fun m290 =>
  (pf m290 12 25 1 a0 (m288 0 0 + 1)).bind fun m292 =>
  (nwA m292 100 360).bind fun m294 =>
  (pf m294 12 26 1 a0 (m292 0 0 + 1)).bind fun m296 =>
  (nwA m296 100 8).bind fun m298 =>
  (pf m298 12 32 1 a0 (m296 0 0 + 1)).bind fun m300 =>
  (nwA m300 102 8).bind fun m302 =>
  (pf m302 12 33 1 a0 (m300 0 0 + 1)).bind fun m304 =>
  (pf m304 12 34 0 a0 1000).bind fun m306 =>
  (nwA m306 102 4).bind fun m308 =>
  (pf m308 12 36 1 a0 (m306 0 0 + 1)).bind fun m310 =>
  (nwA m310 100 40).bind fun m312 =>
  (pf m312 12 37 1 a0 (m310 0 0 + 1)).bind fun m314 =>
  (nwA m314 100 6000).bind fun m316 =>
  (pf m316 12 38 1 a0 (m314 0 0 + 1)).bind fun m318 =>
  wM_init_892 a0 big m318 0
noncomputable def D_putNumber_3 (l1 : Int) : Nat → Mem → Int → Option (Mem)
  | 0, _, _ => none
  | n + 1, μ, l2 =>
    if l2 < 0 then
      some μ
    else
      (sI μ 2 6000 (μ 1 1) (jb (jb (jushr l1 l2)))).bind fun m1 =>
      (some (wr m1 1 1 (jadd (m1 1 1) 1))).bind fun m4 =>
      D_putNumber_3 l1 n m4 (jadd l2 (-8))
noncomputable def D_putNumber (μ : Mem) (a1 : Int) : Option (Mem) :=
  D_putNumber_3 a1 big μ 24
noncomputable def D_feed (μ : Mem) (a1 : Int) (a2 : Int) (a3 : Int) (a4 : Int) (a5 : Int) : Option (Int × Mem) :=
  if (jadd (μ 1 1) 20) ≤ 6000 then
    (D_putNumber μ a1).bind fun m1 =>
    (D_putNumber m1 a2).bind fun m4 =>
    (D_putNumber m4 a3).bind fun m7 =>
    (D_putNumber m7 a4).bind fun m10 =>
    (D_putNumber m10 a5).bind fun m13 =>
    some ((m13 1 1), m13)
  else
    some ((-1), μ)
noncomputable def D_end (μ : Mem) (a1 : Int) : Option (Int × Mem) :=
  if a1 < 0 then
    some ((-1), μ)
  else
    if a1 ≤ (μ 1 1) then
      (some (wr μ 1 1 a1)).bind fun m1 =>
      some (a1, m1)
    else
      some ((-1), μ)
noncomputable def Rd_open (μ : Mem) (a2 : Int) : Option (Mem) :=
  (some (wr μ 250 2 2)).bind fun m1 =>
  (some (wr m1 250 3 a2)).bind fun m4 =>
  (some (wr m4 250 4 0)).bind fun m7 =>
  some m7
noncomputable def Rd_skipBlanks_39 (K0 : Mem → Option (Mem)) (μ : Mem) : Option (Mem) :=
  (some (wr μ 250 4 (jadd (μ 250 4) 1))).bind fun m1 =>
  K0 m1
noncomputable def Rd_skipBlanks_0  : Nat → Mem → Option (Mem)
  | 0, _ => none
  | n + 1, μ =>
    if (μ 250 3) ≤ (μ 250 4) then
      some μ
    else
      (rdB μ (μ 250 2) (μ 250 4)).bind fun x1 =>
      if x1 = 32 then
        Rd_skipBlanks_39 (Rd_skipBlanks_0 n) μ
      else
        (rdB μ (μ 250 2) (μ 250 4)).bind fun x3 =>
        if x3 ≠ 10 then
          some μ
        else
          Rd_skipBlanks_39 (Rd_skipBlanks_0 n) μ
noncomputable def Rd_skipBlanks (μ : Mem)  : Option (Mem) := Rd_skipBlanks_0 big μ
noncomputable def Rd_addToken (μ : Mem) (a1 : Int) (a2 : Int) (a3 : Int) : Option (Int × Mem) :=
  (sI μ 252 121 (μ 250 8) a1).bind fun m1 =>
  (sI m1 253 121 (m1 250 8) a2).bind fun m4 =>
  (sI m4 254 121 (m4 250 8) (m4 250 4)).bind fun m7 =>
  (some (wr m7 250 8 (jadd (m7 250 8) 1))).bind fun m10 =>
  (some (wr m10 250 4 (jadd (m10 250 4) a3))).bind fun m13 =>
  some (a1, m13)
noncomputable def Rd_runLength_5 (μ : Mem) (l1 : Int) (l2 : Int) : Nat → Int → Option (Int)
  | 0, _ => none
  | n + 1, l3 =>
    if (μ 250 3) ≤ l3 then
      some (jsub l3 (μ 250 4))
    else
      (rdB μ (μ 250 2) l3).bind fun x1 =>
      if x1 < l1 then
        some (jsub l3 (μ 250 4))
      else
        (rdB μ (μ 250 2) l3).bind fun x3 =>
        if l2 < x3 then
          some (jsub l3 (μ 250 4))
        else
          Rd_runLength_5 μ l1 l2 n (jadd l3 1)
noncomputable def Rd_runLength (μ : Mem) (a1 : Int) (a2 : Int) : Option (Int) :=
  (some (μ 250 4)).bind fun x1 =>
  Rd_runLength_5 μ a1 a2 big x1
noncomputable def Wd_lengthOf (μ : Mem) (a1 : Int) : Option (Int) :=
  (aI μ 232 71 (jadd a1 1)).bind fun x1 =>
  (aI μ 232 71 a1).bind fun x3 =>
  some (jsub (jsub x1 x3) 1)
noncomputable def Wd_letterOf (μ : Mem) (a1 : Int) (a2 : Int) : Option (Int) :=
  (aI μ 232 71 a1).bind fun x1 =>
  (aI μ 240 380 (jadd x1 a2)).bind fun x3 =>
  some x3
noncomputable def Wd_isAt_10 (μ : Mem) (l1 : Int) (l2 : Int) (l3 : Int) (l4 : Int) : Nat → Int → Option (Int)
  | 0, _ => none
  | n + 1, l5 =>
    if l4 ≤ l5 then
      some 1
    else
      (rdB μ l2 (jadd l3 l5)).bind fun x1 =>
      (Wd_letterOf μ l1 l5).bind fun x3 =>
      if x1 = x3 then
        Wd_isAt_10 μ l1 l2 l3 l4 n (jadd l5 1)
      else
        some 0
noncomputable def Wd_isAt (μ : Mem) (a1 : Int) (a2 : Int) (a3 : Int) : Option (Int) :=
  (Wd_lengthOf μ a1).bind fun x1 =>
  Wd_isAt_10 μ a1 a2 a3 x1 big 0
noncomputable def Wd_find_3 (μ : Mem) (l1 : Int) (l2 : Int) (l3 : Int) : Nat → Int → Option (Int)
  | 0, _ => none
  | n + 1, l4 =>
    if 70 ≤ l4 then
      some 76
    else
      (Wd_lengthOf μ l4).bind fun x1 =>
      if x1 ≠ l3 then
        Wd_find_3 μ l1 l2 l3 n (jadd l4 1)
      else
        (Wd_isAt μ l4 l1 l2).bind fun x3 =>
        if x3 = 0 then
          Wd_find_3 μ l1 l2 l3 n (jadd l4 1)
        else
          some l4
noncomputable def Wd_find (μ : Mem) (a1 : Int) (a2 : Int) (a3 : Int) : Option (Int) :=
  Wd_find_3 μ a1 a2 a3 big 0
noncomputable def Rd_numberAt_4 (μ : Mem) (l1 : Int) : Nat → Int → Int → Option (Int)
  | 0, _, _ => none
  | n + 1, l2, l3 =>
    if l1 ≤ l3 then
      some l2
    else
      (rdB μ (μ 250 2) (jadd (μ 250 4) l3)).bind fun x1 =>
      (some (jsub (jadd (jmul l2 10) x1) 48)).bind fun x3 =>
      Rd_numberAt_4 μ l1 n x3 (jadd l3 1)
noncomputable def Rd_numberAt (μ : Mem) (a1 : Int) : Option (Int) :=
  Rd_numberAt_4 μ a1 big 0 0
noncomputable def Rd_codeOfSign (μ : Mem) (a0 : Int) : Option (Int) :=
  if a0 = 43 then
    some 71
  else
  if a0 = 45 then
    some 72
  else
  if a0 = 59 then
    some 70
  else
  if a0 = 61 then
    some 73
  else
  if a0 = 64 then
    some 74
  else
  some 76
noncomputable def Rd_scanToken_78 (μ : Mem) (l2 : Int) (s0 : Int) : Option (Int × Mem) :=
  (Rd_addToken μ s0 0 l2).bind fun p1 =>
  some (p1.1, p1.2)
noncomputable def Rd_scanToken_135 (μ : Mem) (l1 : Int) : Option (Int × Mem) :=
  (Rd_codeOfSign μ l1).bind fun x1 =>
  (Rd_addToken μ x1 0 1).bind fun p3 =>
  some (p3.1, p3.2)
noncomputable def Rd_scanToken_87 (μ : Mem) (l1 : Int) : Option (Int × Mem) :=
  if l1 < 48 then
    Rd_scanToken_135 μ l1
  else
    if 57 < l1 then
      Rd_scanToken_135 μ l1
    else
      (Rd_runLength μ 48 57).bind fun x1 =>
      if x1 ≤ 4 then
        (Rd_numberAt μ x1).bind fun x3 =>
        (Rd_addToken μ 75 x3 x1).bind fun p5 =>
        some (p5.1, p5.2)
      else
        (Rd_addToken μ 76 0 x1).bind fun p8 =>
        some (p8.1, p8.2)
noncomputable def Rd_scanToken (μ : Mem) : Option (Int × Mem) :=
  if (μ 250 4) < (μ 250 3) then
    (rdB μ (μ 250 2) (μ 250 4)).bind fun x1 =>
    if x1 < 97 then
      Rd_scanToken_87 μ x1
    else
      if 122 < x1 then
        Rd_scanToken_87 μ x1
      else
        (Rd_runLength μ 97 122).bind fun x3 =>
        if x3 ≤ 9 then
          (Wd_find μ (μ 250 2) (μ 250 4) x3).bind fun x5 =>
          Rd_scanToken_78 μ x3 x5
        else
          Rd_scanToken_78 μ x3 76
  else
    (Rd_addToken μ 77 0 0).bind fun p10 =>
    some (p10.1, p10.2)
noncomputable def Rd_scan_63 (μ : Mem) (l1 : Int) : Option (Mem) :=
  if l1 = 0 then
    some μ
  else
    (Rd_skipBlanks μ).bind fun m1 =>
    (Rd_addToken m1 76 0 0).bind fun p4 =>
    some p4.2
noncomputable def Rd_scan_14  : Nat → Mem → Int → Int → Option (Mem)
  | 0, _, _, _ => none
  | n + 1, μ, l1, l2 =>
    if 120 ≤ l2 then
      Rd_scan_63 μ l1
    else
      if l1 = 0 then
        Rd_scan_63 μ l1
      else
        (Rd_skipBlanks μ).bind fun m1 =>
        (Rd_scanToken m1).bind fun p4 =>
        (some p4.1).bind fun x7 =>
        if x7 = 70 then
          Rd_scan_14 n p4.2 0 (jadd l2 1)
        else
          if x7 = 76 then
            Rd_scan_14 n p4.2 0 (jadd l2 1)
          else
            if x7 = 77 then
              Rd_scan_14 n p4.2 0 (jadd l2 1)
            else
              Rd_scan_14 n p4.2 1 (jadd l2 1)
noncomputable def Rd_scan (μ : Mem) : Option (Mem) :=
  (some (wr μ 250 8 0)).bind fun m1 =>
  (some (wr m1 250 9 0)).bind fun m4 =>
  Rd_scan_14 big m4 1 0
noncomputable def Rd_isOver (μ : Mem) : Option (Int) :=
  if (μ 252 0) ≠ 77 then
    some 0
  else
    some 1
noncomputable def Row_clear (μ : Mem) : Option (Mem) :=
  (some (wr μ 248 1 0)).bind fun m1 =>
  some m1
noncomputable def Ar_fill_5 (l0 : Int) (l1 : Int) (l3 : Int) : Nat → Mem → Int → Option (Mem)
  | 0, _, _ => none
  | n + 1, μ, l2 =>
    if l3 ≤ l2 then
      some μ
    else
      (wD μ l0 l2 l1).bind fun m1 =>
      Ar_fill_5 l0 l1 l3 n m1 (jadd l2 1)
noncomputable def Ar_fill (μ : Mem) (a0 : Int) (a1 : Int) : Option (Mem) :=
  (aln μ a0).bind fun x1 =>
  Ar_fill_5 a0 a1 x1 big μ 0
noncomputable def St_begin (μ : Mem) : Option (Mem) :=
  (some (wr μ 241 0 (-1))).bind fun m1 =>
  (some (wr m1 241 1 (-1))).bind fun m4 =>
  (Ar_fill m4 242 (-2)).bind fun m7 =>
  (some (wr m7 241 6 0)).bind fun m10 =>
  (some (wr m10 241 8 0)).bind fun m13 =>
  (some (wr m13 241 10 0)).bind fun m16 =>
  (Row_clear m16).bind fun m19 =>
  some m19
noncomputable def Rd_codeAhead (μ : Mem) (a1 : Int) : Option (Int) :=
  if (μ 250 8) ≤ (jadd (μ 250 9) a1) then
    some 76
  else
    (aI μ 252 121 (jadd (μ 250 9) a1)).bind fun x1 =>
    some x1
noncomputable def Rd_place (μ : Mem) : Option (Int) :=
  if (μ 250 8) ≤ (μ 250 9) then
    some (μ 250 3)
  else
    (aI μ 254 121 (μ 250 9)).bind fun x1 =>
    some x1
noncomputable def Rd_pass (μ : Mem) (a1 : Int) : Option (Int × Mem) :=
  (Rd_codeAhead μ 0).bind fun x1 =>
  if x1 = a1 then
    (some (wr μ 250 9 (jadd (μ 250 9) 1))).bind fun m3 =>
    some (1, m3)
  else
    some (0, μ)
noncomputable def St_addTerm (μ : Mem) (a1 : Int) (a2 : Int) (a3 : Int) (a4 : Int) : Option (Mem) :=
  if 120 ≤ (μ 241 8) then
    some μ
  else
    (some (jmul (μ 241 8) 4)).bind fun x1 =>
    (sI μ 246 480 x1 a1).bind fun m3 =>
    (sI m3 246 480 (jadd x1 1) a2).bind fun m6 =>
    (sI m6 246 480 (jadd x1 2) a3).bind fun m9 =>
    (sI m9 246 480 (jadd x1 3) a4).bind fun m12 =>
    (some (wr m12 241 8 (jadd (m12 241 8) 1))).bind fun m15 =>
    some m15
noncomputable def St_addItem (μ : Mem) (a1 : Int) (a2 : Int) (a3 : Int) : Option (Mem) :=
  if 240 ≤ (μ 241 6) then
    some μ
  else
    (sI μ 243 240 (μ 241 6) a1).bind fun m1 =>
    (sI m1 244 240 (m1 241 6) a2).bind fun m4 =>
    (sI m4 245 240 (m4 241 6) a3).bind fun m7 =>
    (some (wr m7 241 6 (jadd (m7 241 6) 1))).bind fun m10 =>
    some m10
noncomputable def Rd_passNumber (μ : Mem) (a1 : Int) : Option (Int × Mem) :=
  (Rd_codeAhead μ 0).bind fun x1 =>
  if x1 = 75 then
    (aI μ 253 121 (μ 250 9)).bind fun x3 =>
    (aI μ 254 121 (μ 250 9)).bind fun x5 =>
    (St_addItem μ a1 x3 x5).bind fun m7 =>
    (some (wr m7 250 9 (jadd (m7 250 9) 1))).bind fun m10 =>
    some (1, m10)
  else
    some (0, μ)
noncomputable def Rd_latestNumber (μ : Mem) : Option (Int) :=
  if (μ 250 9) ≤ 0 then
    some 0
  else
    (aI μ 253 121 (jsub (μ 250 9) 1)).bind fun x1 =>
    some x1
noncomputable def Rd_readTerm_79 (μ : Mem) (l1 : Int) (l2 : Int) (s1 : Int) : Option (Int × Mem) :=
  (Rd_passNumber μ s1).bind fun p1 =>
  if p1.1 ≠ 0 then
    (Rd_latestNumber p1.2).bind fun x4 =>
    if l2 ≠ 0 then
      (some (wr p1.2 250 9 (jadd (p1.2 250 9) 1))).bind fun m6 =>
      (Rd_passNumber m6 1).bind fun p9 =>
      (some p9.1).bind fun x12 =>
      (Rd_latestNumber p9.2).bind fun x14 =>
      (St_addTerm p9.2 l1 3 x4 x14).bind fun m16 =>
      if x12 = 0 ∨ x12 = 1 then some (x12, m16) else none
    else
      (St_addTerm p1.2 l1 2 x4 x4).bind fun m20 =>
      some (1, m20)
  else
    some (0, p1.2)
noncomputable def Rd_readTerm_68 (μ : Mem) (l1 : Int) (s0 : Int) : Option (Int × Mem) :=
  if s0 = 0 then
    Rd_readTerm_79 μ l1 s0 2
  else
    Rd_readTerm_79 μ l1 s0 1
noncomputable def Rd_readTerm (μ : Mem) (a1 : Int) : Option (Int × Mem) :=
  (Rd_pass μ 64).bind fun p1 =>
  if p1.1 = 0 then
    (Rd_pass p1.2 35).bind fun p4 =>
    if p4.1 = 0 then
      (Rd_codeAhead p4.2 1).bind fun x7 =>
      if x7 ≠ 65 then
        Rd_readTerm_68 p4.2 a1 0
      else
        Rd_readTerm_68 p4.2 a1 1
    else
      (Rd_passNumber p4.2 5).bind fun p10 =>
      (some p10.1).bind fun x13 =>
      (Rd_latestNumber p10.2).bind fun x15 =>
      (St_addTerm p10.2 a1 1 x15 0).bind fun m17 =>
      if x13 = 0 ∨ x13 = 1 then some (x13, m17) else none
  else
    (St_addTerm p1.2 a1 0 0 0).bind fun m22 =>
    some (1, m22)
noncomputable def Rd_readSet_57 (K10 : Mem → Int → Int → Option (Int × Mem)) (μ : Mem) (l1 : Int) (l2 : Int) (l3 : Int) : Option (Int × Mem) :=
  (some (wr μ 250 9 (jadd (μ 250 9) 1))).bind fun m1 =>
  K10 m1 l2 (jadd l3 1)
noncomputable def Rd_readSet_10 (l1 : Int) : Nat → Mem → Int → Int → Option (Int × Mem)
  | 0, _, _, _ => none
  | n + 1, μ, l2, l3 =>
    if 120 ≤ l3 then
      some (0, μ)
    else
      (Rd_readTerm μ l2).bind fun p1 =>
      if p1.1 ≠ 0 then
        (Rd_codeAhead p1.2 0).bind fun x4 =>
        if x4 = 71 then
          Rd_readSet_57 (Rd_readSet_10 l1 n) p1.2 l1 x4 l3
        else
          if x4 = 72 then
            Rd_readSet_57 (Rd_readSet_10 l1 n) p1.2 l1 x4 l3
          else
            (St_addItem p1.2 20 0 l1).bind fun m6 =>
            some (1, m6)
      else
        some (0, p1.2)
noncomputable def Rd_readSet (μ : Mem) : Option (Int × Mem) :=
  (Rd_place μ).bind fun x1 =>
  Rd_readSet_10 x1 big μ 71 0
noncomputable def St_addWhat (μ : Mem) (a1 : Int) (a2 : Int) (a3 : Int) (a4 : Int) : Option (Mem) :=
  if 120 ≤ (μ 241 10) then
    some μ
  else
    (some (jmul (μ 241 10) 4)).bind fun x1 =>
    (sI μ 247 480 x1 a1).bind fun m3 =>
    (sI m3 247 480 (jadd x1 1) a2).bind fun m6 =>
    (sI m6 247 480 (jadd x1 2) a3).bind fun m9 =>
    (sI m9 247 480 (jadd x1 3) a4).bind fun m12 =>
    (some (wr m12 241 10 (jadd (m12 241 10) 1))).bind fun m15 =>
    some m15
noncomputable def Rd_readParameterWhat_119 (μ : Mem) (l3 : Int) (s1 : Int) (s2 : Int) (s3 : Int) : Option (Int × Mem) :=
  (St_addWhat μ s1 s2 s3 0).bind fun m1 =>
  if l3 = 0 ∨ l3 = 1 then some (l3, m1) else none
noncomputable def Rd_readParameterWhat_78 (μ : Mem) (l1 : Int) (l2 : Int) : Option (Int × Mem) :=
  (some (wr μ 250 9 (jadd (μ 250 9) 1))).bind fun m1 =>
  (Rd_passNumber m1 13).bind fun p4 =>
  (some p4.1).bind fun x7 =>
  if l2 ≠ 71 then
    (Rd_latestNumber p4.2).bind fun x9 =>
    Rd_readParameterWhat_119 p4.2 x7 2 l1 (jneg x9)
  else
    (Rd_latestNumber p4.2).bind fun x11 =>
    Rd_readParameterWhat_119 p4.2 x7 2 l1 x11
noncomputable def Rd_readParameterWhat (μ : Mem) (a1 : Int) : Option (Int × Mem) :=
  (Rd_pass μ 66).bind fun p1 =>
  if p1.1 = 0 then
    (Rd_pass p1.2 67).bind fun p4 =>
    if p4.1 = 0 then
      (Rd_codeAhead p4.2 0).bind fun x7 =>
      if x7 = 71 then
        Rd_readParameterWhat_78 p4.2 a1 x7
      else
        if x7 ≠ 72 then
          (Rd_passNumber p4.2 13).bind fun p9 =>
          if p9.1 ≠ 0 then
            (Rd_latestNumber p9.2).bind fun x12 =>
            (Rd_pass p9.2 65).bind fun p14 =>
            if p14.1 ≠ 0 then
              (Rd_passNumber p14.2 13).bind fun p17 =>
              (some p17.1).bind fun x20 =>
              (Rd_latestNumber p17.2).bind fun x22 =>
              (St_addWhat p17.2 1 a1 x12 x22).bind fun m24 =>
              if x20 = 0 ∨ x20 = 1 then some (x20, m24) else none
            else
              (St_addWhat p14.2 0 a1 x12 0).bind fun m28 =>
              some (1, m28)
          else
            some (0, p9.2)
        else
          Rd_readParameterWhat_78 p4.2 a1 x7
    else
      (Rd_passNumber p4.2 6).bind fun p35 =>
      (some p35.1).bind fun x38 =>
      (Rd_latestNumber p35.2).bind fun x40 =>
      (St_addWhat p35.2 0 a1 (jadd 2000 x40) 0).bind fun m42 =>
      if x38 = 0 ∨ x38 = 1 then some (x38, m42) else none
  else
    (St_addWhat p1.2 0 a1 1000 0).bind fun m47 =>
    some (1, m47)
noncomputable def Rd_readWhats_59 (K2 : Mem → Int → Option (Int × Mem)) (μ : Mem) (l1 : Int) : Option (Int × Mem) :=
  (Rd_pass μ 36).bind fun p1 =>
  if p1.1 = 0 then
    (Rd_pass p1.2 68).bind fun p4 =>
    if p4.1 = 0 then
      (Rd_pass p4.2 69).bind fun p7 =>
      if p7.1 = 0 then
        if l1 ≤ 0 then
          some (0, p7.2)
        else
          some (1, p7.2)
      else
        (St_addWhat p7.2 5 0 0 0).bind fun m11 =>
        K2 m11 (jadd l1 1)
    else
      (St_addWhat p4.2 4 0 0 0).bind fun m15 =>
      K2 m15 (jadd l1 1)
  else
    (Rd_passNumber p1.2 6).bind fun p19 =>
    if p19.1 ≠ 0 then
      (Rd_latestNumber p19.2).bind fun x22 =>
      (St_addWhat p19.2 3 0 x22 0).bind fun m24 =>
      K2 m24 (jadd l1 1)
    else
      some (0, p19.2)
noncomputable def Rd_readWhats_28 (K2 : Mem → Int → Option (Int × Mem)) (μ : Mem) (l1 : Int) (s0 : Int) : Option (Int × Mem) :=
  if s0 < 0 then
    Rd_readWhats_59 K2 μ l1
  else
    if 9 ≤ s0 then
      Rd_readWhats_59 K2 μ l1
    else
      (some (wr μ 250 9 (jadd (μ 250 9) 1))).bind fun m1 =>
      (Rd_readParameterWhat m1 s0).bind fun p4 =>
      if p4.1 ≠ 0 then
        K2 p4.2 (jadd l1 1)
      else
        some (0, p4.2)
noncomputable def Rd_readWhats_2  : Nat → Mem → Int → Option (Int × Mem)
  | 0, _, _ => none
  | n + 1, μ, l1 =>
    if 120 ≤ l1 then
      some (0, μ)
    else
      (Rd_codeAhead μ 0).bind fun x1 =>
      if x1 ≠ 74 then
        Rd_readWhats_28 (Rd_readWhats_2 n) μ l1 (jsub x1 9)
      else
        Rd_readWhats_28 (Rd_readWhats_2 n) μ l1 0
noncomputable def Rd_readWhats (μ : Mem) : Option (Int × Mem) :=
  Rd_readWhats_2 big μ 0
noncomputable def Rd_tellNumber (μ : Mem) (a1 : Int) (a2 : Int) : Option (Int × Mem) :=
  (Rd_passNumber μ a2).bind fun p1 =>
  if p1.1 ≠ 0 then
    (Rd_latestNumber p1.2).bind fun x4 =>
    (sI p1.2 242 12 a1 x4).bind fun m6 =>
    some (1, m6)
  else
    some (0, p1.2)
noncomputable def Rd_tellWord (μ : Mem) (a1 : Int) (a2 : Int) (a3 : Int) : Option (Int × Mem) :=
  (Rd_codeAhead μ 0).bind fun x1 =>
  (some (jsub x1 a2)).bind fun x3 =>
  if x3 < 0 then
    some (0, μ)
  else
    if x3 < a3 then
      (sI μ 242 12 a1 x3).bind fun m5 =>
      (some (wr m5 250 9 (jadd (m5 250 9) 1))).bind fun m8 =>
      some (1, m8)
    else
      some (0, μ)
noncomputable def St_isTold (μ : Mem) (a1 : Int) : Option (Int) :=
  (aI μ 242 12 a1).bind fun x1 =>
  if x1 = (-2) then
    some 0
  else
    some 1
noncomputable def Rd_readPatch_148 (K56 : Mem → Int → Option (Int × Mem)) (μ : Mem) (l2 : Int) (s1 : Int) (s2 : Int) : Option (Int × Mem) :=
  (Rd_tellNumber μ s1 s2).bind fun p1 =>
  if p1.1 ≠ 0 then
    K56 p1.2 (jadd l2 1)
  else
    some (0, p1.2)
noncomputable def Rd_readPatch_56  : Nat → Mem → Int → Option (Int × Mem)
  | 0, _, _ => none
  | n + 1, μ, l2 =>
    if 120 ≤ l2 then
      some (1, μ)
    else
      (Rd_codeAhead μ 0).bind fun x1 =>
      if x1 < 29 then
        some (1, μ)
      else
        if x1 ≤ 32 then
          (some (jsub x1 29)).bind fun x3 =>
          (St_isTold μ x3).bind fun x5 =>
          if x5 = 0 then
            (some (wr μ 250 9 (jadd (μ 250 9) 1))).bind fun m7 =>
            if x1 < 31 then
              if x1 ≠ 29 then
                Rd_readPatch_148 (Rd_readPatch_56 n) m7 l2 x3 14
              else
                Rd_readPatch_148 (Rd_readPatch_56 n) m7 l2 x3 13
            else
              (sI m7 242 12 x3 1).bind fun m11 =>
              Rd_readPatch_56 n m11 (jadd l2 1)
          else
            some (0, μ)
        else
          some (1, μ)
noncomputable def Rd_readPatch_47 (μ : Mem) (s0 : Int) : Option (Int × Mem) :=
  if s0 ≠ 0 then
    Rd_readPatch_56 big μ 0
  else
    some (0, μ)
noncomputable def Rd_readPatch (μ : Mem) : Option (Int × Mem) :=
  (Rd_tellNumber μ 9 3).bind fun p1 =>
  if p1.1 = 0 then
    Rd_readPatch_47 p1.2 0
  else
    (Rd_tellWord p1.2 11 0 9).bind fun p4 =>
    if p4.1 = 0 then
      Rd_readPatch_47 p4.2 0
    else
      (Rd_pass p4.2 53).bind fun p7 =>
      if p7.1 = 0 then
        Rd_readPatch_47 p7.2 0
      else
        (Rd_tellNumber p7.2 10 11).bind fun p10 =>
        if p10.1 = 0 then
          Rd_readPatch_47 p10.2 0
        else
          Rd_readPatch_47 p10.2 1
noncomputable def Rd_passOption (μ : Mem) (a1 : Int) : Option (Int × Mem) :=
  (Rd_pass μ a1).bind fun p1 =>
  if p1.1 ≠ 0 then
    (some (wr p1.2 241 1 a1)).bind fun m4 =>
    some (1, m4)
  else
    some (0, p1.2)
noncomputable def Rd_readPalette_38 (μ : Mem) (l1 : Int) : Option (Int × Mem) :=
  if l1 ≤ 0 then
    some (0, μ)
  else
    some (1, μ)
noncomputable def Rd_readPalette_13  : Nat → Mem → Int → Option (Int × Mem)
  | 0, _, _ => none
  | n + 1, μ, l1 =>
    if 120 ≤ l1 then
      some (1, μ)
    else
      (Rd_codeAhead μ 0).bind fun x1 =>
      (some (jsub x1 9)).bind fun x3 =>
      if x3 < 0 then
        Rd_readPalette_38 μ l1
      else
        if x3 < 9 then
          (St_isTold μ x3).bind fun x5 =>
          if x5 = 0 then
            (some (wr μ 250 9 (jadd (μ 250 9) 1))).bind fun m7 =>
            (Rd_tellNumber m7 x3 13).bind fun p10 =>
            if p10.1 ≠ 0 then
              Rd_readPalette_13 n p10.2 (jadd l1 1)
            else
              some (0, p10.2)
          else
            some (0, μ)
        else
          Rd_readPalette_38 μ l1
noncomputable def Rd_readPalette (μ : Mem) : Option (Int × Mem) :=
  (Rd_passOption μ 54).bind fun p1 =>
  if p1.1 = 0 then
    Rd_readPalette_13 big p1.2 0
  else
    some (1, p1.2)
noncomputable def Rd_readSub (μ : Mem) : Option (Int × Mem) :=
  (Rd_passOption μ 55).bind fun p1 =>
  if p1.1 = 0 then
    (Rd_passOption p1.2 54).bind fun p4 =>
    if p4.1 ≠ 0 then
      some (1, p4.2)
    else
      (Rd_passOption p4.2 56).bind fun p7 =>
      if p7.1 ≠ 0 then
        some (1, p7.2)
      else
        (Rd_passOption p7.2 57).bind fun p10 =>
        if p10.1 = 0 then
          some (0, p10.2)
        else
          some (1, p10.2)
  else
    (Rd_readSet p1.2).bind fun p16 =>
    if p16.1 = 0 then
      some (0, p16.2)
    else
      (Rd_pass p16.2 74).bind fun p19 =>
      if p19.1 = 0 then
        some (0, p19.2)
      else
        (Rd_tellNumber p19.2 10 13).bind fun p22 =>
        if p22.1 = 0 then
          some (0, p22.2)
        else
          some (1, p22.2)
noncomputable def Rd_readWave (μ : Mem) : Option (Int × Mem) :=
  (Rd_passOption μ 54).bind fun p1 =>
  if p1.1 = 0 then
    (Rd_tellWord p1.2 0 18 3).bind fun p4 =>
    if p4.1 = 0 then
      some (0, p4.2)
    else
      (Rd_tellWord p4.2 1 9 9).bind fun p7 =>
      if p7.1 = 0 then
        some (0, p7.2)
      else
        (Rd_pass p7.2 58).bind fun p10 =>
        if p10.1 = 0 then
          some (0, p10.2)
        else
          (Rd_tellNumber p10.2 2 13).bind fun p13 =>
          if p13.1 = 0 then
            some (0, p13.2)
          else
            (Rd_pass p13.2 59).bind fun p16 =>
            if p16.1 = 0 then
              some (0, p16.2)
            else
              (Rd_tellNumber p16.2 3 13).bind fun p19 =>
              if p19.1 = 0 then
                some (0, p19.2)
              else
                (Rd_pass p19.2 60).bind fun p22 =>
                if p22.1 = 0 then
                  some (0, p22.2)
                else
                  (Rd_tellNumber p22.2 4 13).bind fun p25 =>
                  if p25.1 = 0 then
                    some (0, p25.2)
                  else
                    (Rd_pass p25.2 61).bind fun p28 =>
                    if p28.1 = 0 then
                      some (0, p28.2)
                    else
                      (Rd_readSet p28.2).bind fun p31 =>
                      if p31.1 = 0 then
                        some (0, p31.2)
                      else
                        some (1, p31.2)
  else
    some (1, p1.2)
noncomputable def Rd_readTimes_105 (K2 : Mem → Int → Option (Int × Mem)) (μ : Mem) (l1 : Int) (s1 : Int) (s2 : Int) : Option (Int × Mem) :=
  (Rd_tellNumber μ s1 s2).bind fun p1 =>
  if p1.1 ≠ 0 then
    K2 p1.2 (jadd l1 1)
  else
    some (0, p1.2)
noncomputable def Rd_readTimes_47 (K2 : Mem → Int → Option (Int × Mem)) (μ : Mem) (l1 : Int) (l2 : Int) (s0 : Int) : Option (Int × Mem) :=
  (St_isTold μ s0).bind fun x1 =>
  if x1 = 0 then
    (some (wr μ 250 9 (jadd (μ 250 9) 1))).bind fun m3 =>
    if l2 < 27 then
      if l2 ≠ 26 then
        Rd_readTimes_105 K2 m3 l1 s0 15
      else
        Rd_readTimes_105 K2 m3 l1 s0 16
    else
      (sI m3 242 12 s0 (-1)).bind fun m7 =>
      K2 m7 (jadd l1 1)
  else
    some (0, μ)
noncomputable def Rd_readTimes_2  : Nat → Mem → Int → Option (Int × Mem)
  | 0, _, _ => none
  | n + 1, μ, l1 =>
    if 120 ≤ l1 then
      some (1, μ)
    else
      (Rd_codeAhead μ 0).bind fun x1 =>
      if x1 < 21 then
        some (1, μ)
      else
        if x1 ≤ 28 then
          if 27 ≤ x1 then
            Rd_readTimes_47 (Rd_readTimes_2 n) μ l1 x1 (jadd (jsub x1 27) 4)
          else
            Rd_readTimes_47 (Rd_readTimes_2 n) μ l1 x1 (jsub x1 21)
        else
          some (1, μ)
noncomputable def Rd_readTimes (μ : Mem) : Option (Int × Mem) :=
  Rd_readTimes_2 big μ 0
noncomputable def Rd_readThing (μ : Mem) (a1 : Int) : Option (Int × Mem) :=
  if a1 = 33 then
    (Rd_readPatch μ).bind fun p1 =>
    if p1.1 = 0 ∨ p1.1 = 1 then some (p1.1, p1.2) else none
  else
  if a1 = 34 then
    (Rd_readSet μ).bind fun p6 =>
    if p6.1 = 0 ∨ p6.1 = 1 then some (p6.1, p6.2) else none
  else
  if a1 = 35 then
    (Rd_tellNumber μ 9 4).bind fun p11 =>
    if p11.1 = 0 then
      some (0, p11.2)
    else
      (Rd_pass p11.2 73).bind fun p14 =>
      if p14.1 = 0 then
        some (0, p14.2)
      else
        (Rd_readSet p14.2).bind fun p17 =>
        if p17.1 = 0 then
          some (0, p17.2)
        else
          some (1, p17.2)
  else
  if a1 = 36 then
    (Rd_tellNumber μ 9 6).bind fun p24 =>
    if p24.1 = 0 then
      some (0, p24.2)
    else
      (Rd_pass p24.2 73).bind fun p27 =>
      if p27.1 = 0 then
        some (0, p27.2)
      else
        (Rd_readPalette p27.2).bind fun p30 =>
        if p30.1 = 0 then
          some (0, p30.2)
        else
          some (1, p30.2)
  else
  if a1 = 37 then
    (Rd_tellNumber μ 9 7).bind fun p37 =>
    if p37.1 = 0 then
      some (0, p37.2)
    else
      (Rd_readSub p37.2).bind fun p40 =>
      if p40.1 = 0 then
        some (0, p40.2)
      else
        some (1, p40.2)
  else
  if a1 = 38 then
    (Rd_tellNumber μ 9 8).bind fun p46 =>
    if p46.1 = 0 then
      some (0, p46.2)
    else
      (Rd_pass p46.2 73).bind fun p49 =>
      if p49.1 = 0 then
        some (0, p49.2)
      else
        (Rd_readWave p49.2).bind fun p52 =>
        if p52.1 = 0 then
          some (0, p52.2)
        else
          some (1, p52.2)
  else
  if a1 = 39 then
    (Rd_tellNumber μ 9 17).bind fun p59 =>
    if p59.1 = 0 then
      some (0, p59.2)
    else
      (Rd_readTimes p59.2).bind fun p62 =>
      if p62.1 = 0 then
        some (0, p62.2)
      else
        some (1, p62.2)
  else
  some (0, μ)
noncomputable def Rd_readRecord (μ : Mem) : Option (Int × Mem) :=
  (Rd_tellNumber μ 9 17).bind fun p1 =>
  if p1.1 ≠ 0 then
    (Rd_passOption p1.2 62).bind fun p4 =>
    (Rd_readTimes p4.2).bind fun p7 =>
    if p7.1 = 0 ∨ p7.1 = 1 then some (p7.1, p7.2) else none
  else
    some (0, p1.2)
noncomputable def Rd_readEvent (μ : Mem) : Option (Int × Mem) :=
  (Rd_passOption μ 54).bind fun p1 =>
  if p1.1 = 0 then
    (Rd_tellNumber p1.2 10 0).bind fun p4 =>
    if p4.1 = 0 then
      some (0, p4.2)
    else
      (Rd_pass p4.2 39).bind fun p7 =>
      if p7.1 = 0 then
        some (0, p7.2)
      else
        (Rd_tellNumber p7.2 11 16).bind fun p10 =>
        if p10.1 = 0 then
          some (0, p10.2)
        else
          some (1, p10.2)
  else
    some (1, p1.2)
noncomputable def Rd_readDeed_138 (μ : Mem) : Option (Int × Mem) :=
  (Rd_tellNumber μ 9 19).bind fun p1 =>
  if p1.1 = 0 ∨ p1.1 = 1 then some (p1.1, p1.2) else none
noncomputable def Rd_readDeed_52 (μ : Mem) (l1 : Int) (l2 : Int) : Option (Int × Mem) :=
  if l1 = 40 then
    (Rd_readRecord μ).bind fun p1 =>
    if p1.1 = 0 ∨ p1.1 = 1 then some (p1.1, p1.2) else none
  else
  if l1 = 41 then
    (St_addItem μ 22 0 l2).bind fun m6 =>
    some (1, m6)
  else
  if l1 = 42 then
    Rd_readDeed_138 μ
  else
  if l1 = 43 then
    (Rd_tellNumber μ 9 19).bind fun p11 =>
    if p11.1 = 0 then
      some (0, p11.2)
    else
      (Rd_pass p11.2 63).bind fun p14 =>
      if p14.1 = 0 then
        some (0, p14.2)
      else
        (Rd_tellNumber p14.2 10 18).bind fun p17 =>
        if p17.1 = 0 then
          some (0, p17.2)
        else
          some (1, p17.2)
  else
  if l1 = 44 then
    Rd_readDeed_138 μ
  else
  if l1 = 45 then
    Rd_readDeed_138 μ
  else
  if l1 = 46 then
    Rd_readDeed_138 μ
  else
  if l1 = 47 then
    some (1, μ)
  else
  if l1 = 48 then
    some (1, μ)
  else
  if l1 = 49 then
    (Rd_tellNumber μ 9 15).bind fun p29 =>
    if p29.1 = 0 ∨ p29.1 = 1 then some (p29.1, p29.2) else none
  else
  if l1 = 50 then
    (Rd_tellNumber μ 9 10).bind fun p34 =>
    if p34.1 = 0 then
      some (0, p34.2)
    else
      (Rd_pass p34.2 74).bind fun p37 =>
      if p37.1 = 0 then
        some (0, p37.2)
      else
        (Rd_tellNumber p37.2 10 12).bind fun p40 =>
        if p40.1 = 0 then
          some (0, p40.2)
        else
          some (1, p40.2)
  else
  if l1 = 51 then
    (Rd_passOption μ 64).bind fun p47 =>
    if p47.1 ≠ 0 then
      some (1, p47.2)
    else
      (Rd_tellNumber p47.2 9 10).bind fun p50 =>
      if p50.1 = 0 then
        some (0, p50.2)
      else
        some (1, p50.2)
  else
  if l1 = 52 then
    (Rd_tellNumber μ 9 9).bind fun p56 =>
    if p56.1 = 0 then
      some (0, p56.2)
    else
      (Rd_pass p56.2 73).bind fun p59 =>
      if p59.1 = 0 then
        some (0, p59.2)
      else
        (Rd_readEvent p59.2).bind fun p62 =>
        if p62.1 = 0 then
          some (0, p62.2)
        else
          some (1, p62.2)
  else
  some (0, μ)
noncomputable def Rd_readDeed_41 (μ : Mem) (l1 : Int) (l2 : Int) : Option (Int × Mem) :=
  (St_addItem μ 21 0 l2).bind fun m1 =>
  Rd_readDeed_52 m1 l1 l2
noncomputable def Rd_readDeed_22 (μ : Mem) (l1 : Int) (s0 : Int) : Option (Int × Mem) :=
  if l1 = 40 then
    Rd_readDeed_41 μ l1 s0
  else
    if l1 = 41 then
      Rd_readDeed_41 μ l1 s0
    else
      if l1 ≠ 49 then
        Rd_readDeed_52 μ l1 s0
      else
        Rd_readDeed_41 μ l1 s0
noncomputable def Rd_readDeed (μ : Mem) (a1 : Int) : Option (Int × Mem) :=
  if (μ 250 9) ≤ 0 then
    Rd_readDeed_22 μ a1 0
  else
    (aI μ 254 121 (jsub (μ 250 9) 1)).bind fun x1 =>
    Rd_readDeed_22 μ a1 x1
noncomputable def Rd_readStatement_67 (μ : Mem) : Option (Int × Mem) :=
  (some (wr μ 241 0 78)).bind fun m1 =>
  (Rd_readSet m1).bind fun p4 =>
  if p4.1 = 0 then
    some (0, p4.2)
  else
    (Rd_readWhats p4.2).bind fun p7 =>
    if p7.1 = 0 then
      some (0, p7.2)
    else
      (Rd_pass p7.2 70).bind fun p10 =>
      if p10.1 = 0 then
        some (0, p10.2)
      else
        some (1, p10.2)
noncomputable def Rd_readStatement_156 (μ : Mem) (s0 : Int) : Option (Int × Mem) :=
  if s0 = 0 then
    some (0, μ)
  else
    (Rd_pass μ 70).bind fun p1 =>
    if p1.1 = 0 then
      some (0, p1.2)
    else
      some (1, p1.2)
noncomputable def Rd_readStatement_105 (μ : Mem) (l1 : Int) : Option (Int × Mem) :=
  if l1 < 33 then
    some (0, μ)
  else
    if l1 ≤ 52 then
      (some (wr μ 241 0 l1)).bind fun m1 =>
      (some (wr m1 250 9 (jadd (m1 250 9) 1))).bind fun m4 =>
      if 39 < l1 then
        (Rd_readDeed m4 l1).bind fun p7 =>
        Rd_readStatement_156 p7.2 p7.1
      else
        (Rd_readThing m4 l1).bind fun p10 =>
        Rd_readStatement_156 p10.2 p10.1
    else
      some (0, μ)
noncomputable def Rd_readStatement_44 (μ : Mem) (l1 : Int) (s0 : Int) : Option (Int × Mem) :=
  if l1 = 75 then
    Rd_readStatement_67 μ
  else
    if l1 = 64 then
      Rd_readStatement_67 μ
    else
      if l1 ≠ 35 then
        Rd_readStatement_105 μ l1
      else
        if s0 ≠ 0 then
          Rd_readStatement_105 μ l1
        else
          Rd_readStatement_67 μ
noncomputable def Rd_readStatement (μ : Mem) : Option (Int × Mem) :=
  (St_begin μ).bind fun m1 =>
  (Rd_codeAhead m1 0).bind fun x4 =>
  if x4 ≠ 35 then
    Rd_readStatement_44 m1 x4 0
  else
    (Rd_codeAhead m1 1).bind fun x6 =>
    if x6 ≠ 75 then
      Rd_readStatement_44 m1 x4 0
    else
      (Rd_codeAhead m1 2).bind fun x8 =>
      if x8 ≠ 73 then
        Rd_readStatement_44 m1 x4 0
      else
        Rd_readStatement_44 m1 x4 1
noncomputable def Sh_isPatched (μ : Mem) (a1 : Int) : Option (Int) :=
  (ar 5 41 1 a1).bind fun o1 =>
  (rdI μ o1 0).bind fun x3 =>
  if x3 = (-1) then
    some 0
  else
    some 1
noncomputable def Sh_ownerOf_2 (μ : Mem) (l1 : Int) : Nat → Int → Option (Int)
  | 0, _ => none
  | n + 1, l2 =>
    if 40 < l2 then
      some 0
    else
      (Sh_isPatched μ l2).bind fun x1 =>
      if x1 = 0 then
        Sh_ownerOf_2 μ l1 n (jadd l2 1)
      else
        (ar 5 41 1 l2).bind fun o3 =>
        (rdI μ o3 1).bind fun x5 =>
        (some (jsub l1 x5)).bind fun x7 =>
        if x7 < 0 then
          Sh_ownerOf_2 μ l1 n (jadd l2 1)
        else
          (ar 5 41 1 l2).bind fun o9 =>
          (rdI μ o9 0).bind fun x11 =>
          (aI μ (-3) 9 x11).bind fun x13 =>
          if x13 ≤ x7 then
            Sh_ownerOf_2 μ l1 n (jadd l2 1)
          else
            some l2
noncomputable def Sh_ownerOf (μ : Mem) (a1 : Int) : Option (Int) :=
  Sh_ownerOf_2 μ a1 big 1
noncomputable def Ch_areSlotsFree_29 (μ : Mem) (l1 : Int) (l2 : Int) : Nat → Int → Option (Int)
  | 0, _ => none
  | n + 1, l3 =>
    (aI μ (-3) 9 l2).bind fun x1 =>
    if x1 ≤ l3 then
      some 1
    else
      (Sh_ownerOf μ (jadd l1 l3)).bind fun x3 =>
      if x3 = 0 then
        Ch_areSlotsFree_29 μ l1 l2 n (jadd l3 1)
      else
        some 0
noncomputable def Ch_areSlotsFree (μ : Mem) (a1 : Int) (a2 : Int) : Option (Int) :=
  if a2 < 0 then
    some 0
  else
    if 9 ≤ a2 then
      some 0
    else
      (aI μ (-3) 9 a2).bind fun x1 =>
      if (jsub (jadd a1 x1) 1) ≤ 200 then
        Ch_areSlotsFree_29 μ a1 a2 big 0
      else
        some 0
noncomputable def Sh_countNotAbove_2 (μ : Mem) (l1 : Int) : Nat → Int → Option (Int)
  | 0, _ => none
  | n + 1, l2 =>
    if (μ 3 8) ≤ l2 then
      some l2
    else
      (aI μ 79 30 l2).bind fun x1 =>
      (gf μ 1 0 x1).bind fun x3 =>
      if l1 < x3 then
        some l2
      else
        Sh_countNotAbove_2 μ l1 n (jadd l2 1)
noncomputable def Sh_countNotAbove (μ : Mem) (a1 : Int) : Option (Int) :=
  Sh_countNotAbove_2 μ a1 big 0
noncomputable def Sh_indexOf (μ : Mem) (a1 : Int) : Option (Int) :=
  (Sh_countNotAbove μ a1).bind fun x1 =>
  (some (jsub x1 1)).bind fun x3 =>
  if x3 < 0 then
    some (-1)
  else
    (aI μ 79 30 x3).bind fun x5 =>
    (gf μ 1 0 x5).bind fun x7 =>
    if x7 ≠ a1 then
      some (-1)
    else
      some x3
noncomputable def Ch_faultOfNewCue (μ : Mem) : Option (Int) :=
  if 30 ≤ (μ 3 8) then
    some 5
  else
    some 0
noncomputable def Row_placeOf_2 (μ : Mem) (l0 : Int) (l1 : Int) : Nat → Int → Option (Int)
  | 0, _ => none
  | n + 1, l2 =>
    (gf μ 5 1 l0).bind fun x1 =>
    if x1 ≤ l2 then
      some (-1)
    else
      (gO μ 5 1 l0).bind fun x3 =>
      (rdI μ x3 l2).bind fun x5 =>
      if x5 ≠ l1 then
        Row_placeOf_2 μ l0 l1 n (jadd l2 1)
      else
        some l2
noncomputable def Row_placeOf (μ : Mem) (a0 : Int) (a1 : Int) : Option (Int) :=
  Row_placeOf_2 μ a0 a1 big 0
noncomputable def Row_add (μ : Mem) (a1 : Int) : Option (Mem) :=
  if 40 ≤ (μ 248 1) then
    some μ
  else
    (Row_placeOf μ 248 a1).bind fun x1 =>
    if 0 ≤ x1 then
      some μ
    else
      (sI μ 249 40 (μ 248 1) a1).bind fun m3 =>
      (some (wr m3 248 1 (jadd (m3 248 1) 1))).bind fun m6 =>
      some m6
noncomputable def Row_remove_23 (l0 : Int) : Nat → Mem → Int → Option (Mem)
  | 0, _, _ => none
  | n + 1, μ, l3 =>
    (gf μ 5 1 l0).bind fun x1 =>
    if x1 ≤ l3 then
      some μ
    else
      (gO μ 5 1 l0).bind fun x3 =>
      (gO μ 5 1 l0).bind fun x5 =>
      (rdI μ x5 (jadd l3 1)).bind fun x7 =>
      (wD μ x3 l3 x7).bind fun m9 =>
      Row_remove_23 l0 n m9 (jadd l3 1)
noncomputable def Row_remove (μ : Mem) (a0 : Int) (a1 : Int) : Option (Mem) :=
  if a0 ≠ 0 ∧ kd a0 = 5 then
    (Row_placeOf μ a0 a1).bind fun x2 =>
    if 0 ≤ x2 then
      (gf μ 5 1 a0).bind fun x4 =>
      (pf μ 5 1 0 a0 (jsub x4 1)).bind fun m6 =>
      Row_remove_23 a0 big m6 x2
    else
      some μ
  else none
noncomputable def Ch_gatherUnit (μ : Mem) (a1 : Int) (a2 : Int) : Option (Mem) :=
  if a1 = 0 then
    (Row_remove μ 248 a2).bind fun m1 =>
    some m1
  else
    (Row_add μ a2).bind fun m4 =>
    some m4
noncomputable def Ch_gatherThru_25 (l2 : Int) (l3 : Int) (l5 : Int) (l6 : Int) : Nat → Mem → Int → Option (Mem)
  | 0, _, _ => none
  | n + 1, μ, l7 =>
    if l6 < l7 then
      some μ
    else
      (some (jadd l3 (jmul l7 l5))).bind fun x1 =>
      (Sh_isPatched μ x1).bind fun x3 =>
      if x3 = 0 then
        Ch_gatherThru_25 l2 l3 l5 l6 n μ (jadd l7 1)
      else
        (Ch_gatherUnit μ l2 x1).bind fun m5 =>
        Ch_gatherThru_25 l2 l3 l5 l6 n m5 (jadd l7 1)
noncomputable def Ch_gatherThru_11 (μ : Mem) (l2 : Int) (l3 : Int) (l4 : Int) (s0 : Int) : Option (Mem) :=
  (some (abI (jsub l4 l3))).bind fun x1 =>
  Ch_gatherThru_25 l2 l3 s0 x1 big μ 0
noncomputable def Ch_gatherThru (μ : Mem) (a2 : Int) (a3 : Int) (a4 : Int) : Option (Mem) :=
  if a3 ≤ a4 then
    Ch_gatherThru_11 μ a2 a3 a4 1
  else
    Ch_gatherThru_11 μ a2 a3 a4 (-1)
noncomputable def Ch_gather_116 (K17 : Mem → Int → Option (Mem)) (l4 : Int) (l6 : Int) (l8 : Int) : Nat → Mem → Int → Option (Mem)
  | 0, _, _ => none
  | n + 1, μ, l9 =>
    (gf μ 5 1 l8).bind fun x1 =>
    if x1 ≤ l9 then
      K17 μ (jadd l4 1)
    else
      (gO μ 5 1 l8).bind fun x3 =>
      (rdI μ x3 l9).bind fun x5 =>
      (Ch_gatherUnit μ l6 x5).bind fun m7 =>
      Ch_gather_116 K17 l4 l6 l8 n m7 (jadd l9 1)
noncomputable def Ch_gather_46 (K17 : Mem → Int → Option (Mem)) (μ : Mem) (l4 : Int) (l5 : Int) (s0 : Int) : Option (Mem) :=
  (aI μ 246 480 (jadd l5 2)).bind fun x1 =>
  (aI μ 246 480 (jadd l5 1)).bind fun x3 =>
  if x3 = 0 then
    (Ch_gatherThru μ s0 1 40).bind fun m5 =>
    K17 m5 (jadd l4 1)
  else
  if x3 = 1 then
    (ar 94 13 2 x1).bind fun o9 =>
    Ch_gather_116 K17 l4 s0 o9 big μ 0
  else
  if x3 = 2 then
    (Ch_gatherUnit μ s0 x1).bind fun m12 =>
    K17 m12 (jadd l4 1)
  else
  (aI μ 246 480 (jadd l5 3)).bind fun x16 =>
  (Ch_gatherThru μ s0 x1 x16).bind fun m18 =>
  K17 m18 (jadd l4 1)
noncomputable def Ch_gather_17  : Nat → Mem → Int → Option (Mem)
  | 0, _, _ => none
  | n + 1, μ, l4 =>
    if (μ 241 8) ≤ l4 then
      some μ
    else
      (some (jmul l4 4)).bind fun x1 =>
      (aI μ 246 480 x1).bind fun x3 =>
      if x3 ≠ 71 then
        Ch_gather_46 (Ch_gather_17 n) μ l4 x1 0
      else
        Ch_gather_46 (Ch_gather_17 n) μ l4 x1 1
noncomputable def Ch_gather (μ : Mem) : Option (Mem) :=
  (Row_clear μ).bind fun m1 =>
  Ch_gather_17 big m1 0
noncomputable def D_countValues_10 (μ : Mem) (l2 : Int) (l3 : Int) : Nat → Int → Int → Option (Int)
  | 0, _, _ => none
  | n + 1, l1, l4 =>
    if l3 ≤ l4 then
      some l1
    else
      (rdI μ l2 l4).bind fun x1 =>
      if x1 = (-1) then
        D_countValues_10 μ l2 l3 n l1 (jadd l4 1)
      else
        D_countValues_10 μ l2 l3 n (jadd l1 1) (jadd l4 1)
noncomputable def D_countValues (μ : Mem) (a0 : Int) : Option (Int) :=
  (aln μ a0).bind fun x1 =>
  D_countValues_10 μ a0 x1 big 0 0
noncomputable def Ch_faultOf (μ : Mem) (a2 : Int) (a3 : Int) : Option (Int × Mem) :=
  if a2 < 0 then
    some (3, μ)
  else
    if 23 ≤ a2 then
      some (3, μ)
    else
      (aI μ (-5) 23 a2).bind fun x1 =>
      if a3 < x1 then
        some (3, μ)
      else
        (aI μ (-6) 23 a2).bind fun x3 =>
        if a3 ≤ x3 then
          if a2 = 2 then
            (Sh_isPatched μ a3).bind fun x5 =>
            if x5 = 0 then
              some (2, μ)
            else
              some (0, μ)
          else
          if a2 = 3 then
            (Sh_isPatched μ a3).bind fun x9 =>
            if x9 = 0 then
              some (0, μ)
            else
              some (7, μ)
          else
          if a2 = 4 then
            some (0, μ)
          else
          if a2 = 5 then
            (ar 94 13 2 a3).bind fun o14 =>
            (gf μ 5 1 o14).bind fun x16 =>
            if x16 ≤ 0 then
              some (2, μ)
            else
              some (0, μ)
          else
          if a2 = 6 then
            some (0, μ)
          else
          if a2 = 7 then
            some (0, μ)
          else
          if a2 = 8 then
            some (0, μ)
          else
          if a2 = 9 then
            some (0, μ)
          else
          if a2 = 10 then
            some (0, μ)
          else
          if a2 = 11 then
            (Ch_areSlotsFree μ a3 (μ 242 11)).bind fun x25 =>
            if x25 = 0 then
              some (4, μ)
            else
              some (0, μ)
          else
          if a2 = 12 then
            some (0, μ)
          else
          if a2 = 13 then
            some (0, μ)
          else
          if a2 = 14 then
            some (0, μ)
          else
          if a2 = 15 then
            some (0, μ)
          else
          if a2 = 16 then
            some (0, μ)
          else
          if a2 = 17 then
            (Sh_indexOf μ a3).bind fun x34 =>
            if x34 < 0 then
              (Ch_faultOfNewCue μ).bind fun x36 =>
              some (x36, μ)
            else
              some (0, μ)
          else
          if a2 = 18 then
            (Sh_indexOf μ a3).bind fun x40 =>
            if x40 < 0 then
              (Ch_faultOfNewCue μ).bind fun x42 =>
              some (x42, μ)
            else
              some (7, μ)
          else
          if a2 = 19 then
            (Sh_indexOf μ a3).bind fun x46 =>
            if x46 < 0 then
              some (2, μ)
            else
              some (0, μ)
          else
          if a2 = 20 then
            (Ch_gather μ).bind fun m50 =>
            if (m50 248 1) ≤ 0 then
              some (6, m50)
            else
              some (0, m50)
          else
          if a2 = 21 then
            (D_countValues μ 80).bind fun x55 =>
            if x55 ≤ 0 then
              some (6, μ)
            else
              some (0, μ)
          else
          if a2 = 22 then
            (Sh_countNotAbove μ (μ 221 3)).bind fun x59 =>
            if x59 ≤ 0 then
              some (7, μ)
            else
              some (0, μ)
          else
          some (0, μ)
        else
          some (3, μ)
noncomputable def Ch_firstFault_2  : Nat → Mem → Int → Option (Int × Mem)
  | 0, _, _ => none
  | n + 1, μ, l2 =>
    if (μ 241 6) ≤ l2 then
      some (0, μ)
    else
      (aI μ 243 240 l2).bind fun x1 =>
      (aI μ 244 240 l2).bind fun x3 =>
      (Ch_faultOf μ x1 x3).bind fun p5 =>
      (some p5.1).bind fun x8 =>
      if x8 = 0 then
        Ch_firstFault_2 n p5.2 (jadd l2 1)
      else
        (aI p5.2 245 240 l2).bind fun x10 =>
        (some (wr p5.2 255 2 x10)).bind fun m12 =>
        some (x8, m12)
noncomputable def Ch_firstFault (μ : Mem) : Option (Int × Mem) :=
  Ch_firstFault_2 big μ 0
noncomputable def Sh_copyRows_2 (l0 : Int) (l1 : Int) : Nat → Mem → Int → Option (Mem)
  | 0, _, _ => none
  | n + 1, μ, l2 =>
    (aln μ l0).bind fun x1 =>
    if x1 ≤ l2 then
      some μ
    else
      (aln μ l1).bind fun x3 =>
      if x3 ≤ l2 then
        some μ
      else
        (r2 μ l0 l2).bind fun o5 =>
        (r2 μ l1 l2).bind fun o7 =>
        (r2 μ l0 l2).bind fun o9 =>
        (aln μ o9).bind fun x11 =>
        (r2 μ l1 l2).bind fun o13 =>
        (aln μ o13).bind fun x15 =>
        (cD μ o5 0 o7 0 (mnI x11 x15)).bind fun m17 =>
        Sh_copyRows_2 l0 l1 n m17 (jadd l2 1)
noncomputable def Sh_copyRows (μ : Mem) (a0 : Int) (a1 : Int) : Option (Mem) :=
  Sh_copyRows_2 a0 a1 big μ 0
noncomputable def Row_copyFrom (μ : Mem) (a0 : Int) (a1 : Int) : Option (Mem) :=
  (gO μ 5 1 a1).bind fun x1 =>
  (gO μ 5 1 a0).bind fun x3 =>
  (gf μ 5 1 a1).bind fun x5 =>
  (cD μ x1 0 x3 0 x5).bind fun m7 =>
  (gf m7 5 1 a1).bind fun x10 =>
  (pf m7 5 1 0 a0 x10).bind fun m12 =>
  some m12
noncomputable def Cue_copyFrom (μ : Mem) (a0 : Int) (a1 : Int) : Option (Mem) :=
  (gf μ 1 0 a1).bind fun x1 =>
  (pf μ 1 0 0 a0 x1).bind fun m3 =>
  (gO m3 1 1 a1).bind fun x6 =>
  (gO m3 1 1 a0).bind fun x8 =>
  (cD m3 x6 0 x8 0 6).bind fun m10 =>
  (gO m10 1 2 a1).bind fun x13 =>
  (gO m10 1 2 a0).bind fun x15 =>
  (cD m10 x13 0 x15 0 360).bind fun m17 =>
  some m17
noncomputable def Sh_copyFrom_173 (l0 : Int) (l1 : Int) : Nat → Mem → Int → Option (Mem)
  | 0, _, _ => none
  | n + 1, μ, l2 =>
    (gf μ 7 8 l1).bind fun x1 =>
    if x1 ≤ l2 then
      (gf μ 7 8 l1).bind fun x3 =>
      (pf μ 7 8 0 l0 x3).bind fun m5 =>
      (gf m5 7 10 l1).bind fun x8 =>
      (pf m5 7 10 0 l0 x8).bind fun m10 =>
      some m10
    else
      (gO μ 7 76 l0).bind fun x13 =>
      (rdA μ x13 l2).bind fun x15 =>
      (gO μ 7 76 l1).bind fun x17 =>
      (rdA μ x17 l2).bind fun x19 =>
      if x15 ≠ 0 ∧ kd x15 = 1 then
        (Cue_copyFrom μ x15 x19).bind fun m22 =>
        Sh_copyFrom_173 l0 l1 n m22 (jadd l2 1)
      else none
noncomputable def Sh_copyFrom_141 (l0 : Int) (l1 : Int) : Nat → Mem → Int → Option (Mem)
  | 0, _, _ => none
  | n + 1, μ, l2 =>
    (gO μ 7 75 l0).bind fun x1 =>
    (aln μ x1).bind fun x3 =>
    if x3 ≤ l2 then
      Sh_copyFrom_173 l0 l1 big μ 0
    else
      (gO μ 7 75 l0).bind fun x5 =>
      (rR μ x5 l2).bind fun o7 =>
      (gO μ 7 75 l1).bind fun x9 =>
      (rR μ x9 l2).bind fun o11 =>
      if o7 ≠ 0 ∧ kd o7 = 5 then
        (Row_copyFrom μ o7 o11).bind fun m14 =>
        Sh_copyFrom_141 l0 l1 n m14 (jadd l2 1)
      else none
noncomputable def Sh_copyFrom_109 (l0 : Int) (l1 : Int) : Nat → Mem → Int → Option (Mem)
  | 0, _, _ => none
  | n + 1, μ, l2 =>
    (gO μ 7 43 l0).bind fun x1 =>
    (aln μ x1).bind fun x3 =>
    if x3 ≤ l2 then
      Sh_copyFrom_141 l0 l1 big μ 0
    else
      (gO μ 7 43 l0).bind fun x5 =>
      (rR μ x5 l2).bind fun o7 =>
      (gO μ 7 43 l1).bind fun x9 =>
      (rR μ x9 l2).bind fun o11 =>
      if o7 ≠ 0 ∧ kd o7 = 5 then
        (Row_copyFrom μ o7 o11).bind fun m14 =>
        Sh_copyFrom_109 l0 l1 n m14 (jadd l2 1)
      else none
noncomputable def Sh_copyFrom (μ : Mem) (a0 : Int) (a1 : Int) : Option (Mem) :=
  (gO μ 7 1 a1).bind fun x1 =>
  (gO μ 7 1 a0).bind fun x3 =>
  (Sh_copyRows μ x1 x3).bind fun m5 =>
  (gO m5 7 44 a1).bind fun x8 =>
  (gO m5 7 44 a0).bind fun x10 =>
  (Sh_copyRows m5 x8 x10).bind fun m12 =>
  (gO m12 7 58 a1).bind fun x15 =>
  (gO m12 7 58 a0).bind fun x17 =>
  (Sh_copyRows m12 x15 x17).bind fun m19 =>
  (gO m19 7 69 a1).bind fun x22 =>
  (gO m19 7 69 a0).bind fun x24 =>
  (Sh_copyRows m19 x22 x24).bind fun m26 =>
  (gO m26 7 79 a1).bind fun x29 =>
  (gO m26 7 79 a0).bind fun x31 =>
  (Sh_copyRows m26 x29 x31).bind fun m33 =>
  (gO m33 7 68 a1).bind fun x36 =>
  (gO m33 7 68 a0).bind fun x38 =>
  (gO m33 7 68 a0).bind fun x40 =>
  (aln m33 x40).bind fun x42 =>
  (cD m33 x36 0 x38 0 x42).bind fun m44 =>
  (gO m44 7 77 a1).bind fun x47 =>
  (gO m44 7 77 a0).bind fun x49 =>
  (cD m44 x47 0 x49 0 360).bind fun m51 =>
  (gO m51 7 78 a1).bind fun x54 =>
  (gO m51 7 78 a0).bind fun x56 =>
  (gO m51 7 78 a0).bind fun x58 =>
  (aln m51 x58).bind fun x60 =>
  (cD m51 x54 0 x56 0 x60).bind fun m62 =>
  Sh_copyFrom_109 a0 a1 big m62 0
noncomputable def D_remember_92 (μ : Mem) : Option (Mem) :=
  (aI μ 220 8 (μ 1 6)).bind fun x1 =>
  if x1 ≠ 0 ∧ kd x1 = 7 then
    (Sh_copyFrom μ x1 3).bind fun m4 =>
    (some (wr m4 1 6 (jadd (m4 1 6) 1))).bind fun m7 =>
    some m7
  else none
noncomputable def D_remember_64 (μ : Mem) : Option (Mem) :=
  (aI μ 220 8 (μ 1 6)).bind fun x1 =>
  if x1 ≠ 0 then
    D_remember_92 μ
  else
    (nw μ 7 13).bind fun m3 =>
    (some (μ 0 0 + 1)).bind fun x5 =>
    if x5 ≠ 0 ∧ kd x5 = 7 then
      (wSh_init m3 x5).bind fun m8 =>
      (gFX m8).bind fun _ =>
      (wA m8 220 (μ 1 6) x5).bind fun m13 =>
      D_remember_92 m13
    else none
noncomputable def D_remember_18 (l1 : Int) : Nat → Mem → Int → Option (Mem)
  | 0, _, _ => none
  | n + 1, μ, l2 =>
    if 8 ≤ l2 then
      (some (wr μ 1 6 (jsub (μ 1 6) 1))).bind fun m1 =>
      (wA m1 220 (m1 1 6) l1).bind fun m4 =>
      D_remember_64 m4
    else
      (aI μ 220 8 l2).bind fun x7 =>
      (wA μ 220 (jsub l2 1) x7).bind fun m9 =>
      D_remember_18 l1 n m9 (jadd l2 1)
noncomputable def D_remember (μ : Mem) : Option (Mem) :=
  if (μ 1 6) ≠ 8 then
    D_remember_64 μ
  else
    (some (μ 220 0)).bind fun x1 =>
    D_remember_18 x1 big μ 1
noncomputable def Sh_has (μ : Mem) (a1 : Int) (a2 : Int) : Option (Int) :=
  (ar 5 41 1 a1).bind fun o1 =>
  (rdI μ o1 0).bind fun x3 =>
  if x3 < 0 then
    some 0
  else
    if 9 ≤ x3 then
      some 0
    else
      (aI μ (-2) 9 x3).bind fun x5 =>
      if (jand (jshr x5 a2) 1) ≠ 1 then
        some 0
      else
        some 1
noncomputable def D_cellOf (μ : Mem) (a0 : Int) (a1 : Int) : Option (Int) :=
  some (jadd (jmul (jsub a0 1) 9) a1)
noncomputable def Sh_originIndex_4 (μ : Mem) (l2 : Int) : Nat → Int → Option (Int)
  | 0, _ => none
  | n + 1, l3 =>
    if l3 < 0 then
      some (-1)
    else
      (aI μ 79 30 l3).bind fun x1 =>
      (gO μ 1 2 x1).bind fun x3 =>
      (rdI μ x3 l2).bind fun x5 =>
      if x5 = (-1) then
        Sh_originIndex_4 μ l2 n (jadd l3 (-1))
      else
        some l3
noncomputable def Sh_originIndex (μ : Mem) (a1 : Int) (a2 : Int) : Option (Int) :=
  (some (jsub a1 1)).bind fun x1 =>
  Sh_originIndex_4 μ a2 big x1
noncomputable def Sh_trackedValue (μ : Mem) (a1 : Int) (a2 : Int) : Option (Int) :=
  (Sh_originIndex μ a1 a2).bind fun x1 =>
  if 0 ≤ x1 then
    (aI μ 79 30 x1).bind fun x3 =>
    (gO μ 1 2 x3).bind fun x5 =>
    (rdI μ x5 a2).bind fun x7 =>
    some x7
  else
    some (-1)
noncomputable def Sh_levelFor_29 (μ : Mem) (l2 : Int) (l3 : Int) : Option (Int) :=
  if l3 ≠ (-1) then
    some l3
  else
    (aI μ (-1) 9 l2).bind fun x1 =>
    some x1
noncomputable def Sh_levelFor (μ : Mem) (a1 : Int) (a2 : Int) : Option (Int) :=
  if a1 ≤ 2000 then
    Sh_levelFor_29 μ a2 a1
  else
    if 2012 < a1 then
      Sh_levelFor_29 μ a2 a1
    else
      (ar 48 13 1 (jsub a1 2000)).bind fun o1 =>
      (rdI μ o1 a2).bind fun x3 =>
      Sh_levelFor_29 μ a2 x3
noncomputable def Sh_trackedLevel (μ : Mem) (a1 : Int) (a2 : Int) (a3 : Int) : Option (Int) :=
  (Sh_has μ a2 a3).bind fun x1 =>
  if x1 ≠ 0 then
    (D_cellOf μ a2 a3).bind fun x3 =>
    (Sh_trackedValue μ a1 x3).bind fun x5 =>
    (Sh_levelFor μ x5 a3).bind fun x7 =>
    some x7
  else
    (aI μ (-1) 9 a3).bind fun x9 =>
    some x9
noncomputable def Pl_cueLevel (μ : Mem) (a1 : Int) : Option (Int) :=
  (aI μ 224 360 a1).bind fun x1 =>
  (some (jsub (μ 221 2) x1)).bind fun x3 =>
  if 0 ≤ x3 then
    (aI μ 225 360 a1).bind fun x5 =>
    if x3 < x5 then
      (aI μ 223 360 a1).bind fun x7 =>
      (aI μ 222 360 a1).bind fun x9 =>
      (aI μ 223 360 a1).bind fun x11 =>
      (aI μ 225 360 a1).bind fun x13 =>
      if x13 = 0 then none else
      some (jadd x7 (jdiv (jmul (jsub x9 x11) x3) x13))
    else
      (aI μ 222 360 a1).bind fun x16 =>
      some x16
  else
    (aI μ 223 360 a1).bind fun x19 =>
    some x19
noncomputable def Ed_levelToChange (μ : Mem) (a1 : Int) (a2 : Int) (a3 : Int) : Option (Int) :=
  if a3 < 0 then
    (D_cellOf μ a1 a2).bind fun x1 =>
    (aI μ 80 360 x1).bind fun x3 =>
    if x3 ≠ (-1) then
      (Sh_levelFor μ x3 a2).bind fun x5 =>
      some x5
    else
      (Pl_cueLevel μ x1).bind fun x7 =>
      some x7
  else
    (Sh_trackedLevel μ (jadd a3 1) a1 a2).bind fun x10 =>
    some x10
noncomputable def Ed_setOne (μ : Mem) (a2 : Int) (a3 : Int) (a4 : Int) (a5 : Int) : Option (Mem) :=
  (aI μ 249 40 a3).bind fun x1 =>
  (aI μ 247 480 (jadd a2 1)).bind fun x3 =>
  (Sh_has μ x1 x3).bind fun x5 =>
  if x5 ≠ 0 then
    (aI μ 247 480 (jadd a2 2)).bind fun x7 =>
    (D_cellOf μ x1 x3).bind fun x9 =>
    (aI μ 247 480 a2).bind fun x11 =>
    if x11 = 0 then
      (wD μ a4 x9 x7).bind fun m13 =>
      some m13
    else
    if x11 = 1 then
      (some (jsub (μ 248 1) 1)).bind fun x17 =>
      if 1 ≤ x17 then
        (aI μ 247 480 (jadd a2 3)).bind fun x19 =>
        if x17 = 0 then none else
        (wD μ a4 x9 (jadd x7 (jdiv (jmul (jsub x19 x7) a3) x17))).bind fun m22 =>
        some m22
      else
        (wD μ a4 x9 x7).bind fun m25 =>
        some m25
    else
    (Ed_levelToChange μ x1 x3 a5).bind fun x30 =>
    (wD μ a4 x9 (mxI 0 (mnI 1000 (jadd x30 x7)))).bind fun m32 =>
    some m32
  else
    some μ
noncomputable def Ed_setAll_21 (l3 : Int) (l4 : Int) (l5 : Int) (l6 : Int) : Nat → Mem → Int → Option (Mem)
  | 0, _, _ => none
  | n + 1, μ, l7 =>
    if 9 ≤ l7 then
      some μ
    else
      (Sh_has μ l3 l7).bind fun x1 =>
      if x1 = 0 then
        Ed_setAll_21 l3 l4 l5 l6 n μ (jadd l7 1)
      else
        (D_cellOf μ l3 l7).bind fun x3 =>
        if l5 ≠ 4 then
          if l5 ≠ 5 then
            (ar 48 13 1 l6).bind fun o5 =>
            (rdI μ o5 l7).bind fun x7 =>
            if x7 = (-1) then
              Ed_setAll_21 l3 l4 l5 l6 n μ (jadd l7 1)
            else
              (wD μ l4 x3 (jadd 2000 l6)).bind fun m9 =>
              Ed_setAll_21 l3 l4 l5 l6 n m9 (jadd l7 1)
          else
            (wD μ l4 x3 (-1)).bind fun m13 =>
            Ed_setAll_21 l3 l4 l5 l6 n m13 (jadd l7 1)
        else
          (aI μ (-1) 9 l7).bind fun x17 =>
          (wD μ l4 x3 x17).bind fun m19 =>
          Ed_setAll_21 l3 l4 l5 l6 n m19 (jadd l7 1)
noncomputable def Ed_setAll (μ : Mem) (a2 : Int) (a3 : Int) (a4 : Int) : Option (Mem) :=
  (aI μ 247 480 a2).bind fun x1 =>
  (aI μ 247 480 (jadd a2 2)).bind fun x3 =>
  Ed_setAll_21 a3 a4 x1 x3 big μ 0
noncomputable def Ed_setValues_84 (K66 : Mem → Int → Option (Mem)) (l2 : Int) (l3 : Int) (l5 : Int) (l6 : Int) : Nat → Mem → Int → Option (Mem)
  | 0, _, _ => none
  | n + 1, μ, l7 =>
    if (μ 248 1) ≤ l7 then
      K66 μ (jadd l5 1)
    else
      (aI μ 247 480 l6).bind fun x1 =>
      if 2 < x1 then
        (aI μ 249 40 l7).bind fun x3 =>
        (Ed_setAll μ l6 x3 l3).bind fun m5 =>
        Ed_setValues_84 K66 l2 l3 l5 l6 n m5 (jadd l7 1)
      else
        (Ed_setOne μ l6 l7 l3 l2).bind fun m8 =>
        Ed_setValues_84 K66 l2 l3 l5 l6 n m8 (jadd l7 1)
noncomputable def Ed_setValues_66 (l2 : Int) (l3 : Int) : Nat → Mem → Int → Option (Mem)
  | 0, _, _ => none
  | n + 1, μ, l5 =>
    if (μ 241 10) ≤ l5 then
      some μ
    else
      (some (jmul l5 4)).bind fun x1 =>
      Ed_setValues_84 (Ed_setValues_66 l2 l3 n) l2 l3 l5 x1 big μ 0
noncomputable def Ed_setValues_56 (μ : Mem) (l2 : Int) (s0 : Int) : Option (Mem) :=
  Ed_setValues_66 l2 s0 big μ 0
noncomputable def Ed_setValues_29 (μ : Mem) (s0 : Int) : Option (Mem) :=
  if 0 ≤ s0 then
    (aI μ 79 30 s0).bind fun x1 =>
    (gO μ 1 2 x1).bind fun x3 =>
    Ed_setValues_56 μ s0 x3
  else
    Ed_setValues_56 μ s0 80
noncomputable def Ed_setValues (μ : Mem) : Option (Mem) :=
  if (μ 3 10) ≠ (-1) then
    (Sh_indexOf μ (μ 3 10)).bind fun x1 =>
    Ed_setValues_29 μ x1
  else
    Ed_setValues_29 μ (-1)
noncomputable def St_toldOr (μ : Mem) (a1 : Int) (a2 : Int) : Option (Int) :=
  (St_isTold μ a1).bind fun x1 =>
  if x1 = 0 then
    some a2
  else
    (aI μ 242 12 a1).bind fun x3 =>
    some x3
noncomputable def Ed_patchUnit (μ : Mem) (a2 : Int) : Option (Mem) :=
  (ar 5 41 1 a2).bind fun o1 =>
  (wD μ o1 0 (μ 242 11)).bind fun m3 =>
  (wD m3 o1 1 (m3 242 10)).bind fun m6 =>
  (St_toldOr m6 0 1000).bind fun x9 =>
  (wD m6 o1 2 x9).bind fun m11 =>
  (St_toldOr m11 1 0).bind fun x14 =>
  (wD m11 o1 3 x14).bind fun m16 =>
  (St_toldOr m16 2 0).bind fun x19 =>
  (wD m16 o1 4 x19).bind fun m21 =>
  (St_toldOr m21 3 0).bind fun x24 =>
  (wD m21 o1 5 x24).bind fun m26 =>
  (sI m26 230 41 a2 0).bind fun m29 =>
  some m29
noncomputable def Ed_unpatchUnit_147 (K122 : Mem → Int → Option (Mem)) (l1 : Int) (l2 : Int) (l3 : Int) : Nat → Mem → Int → Option (Mem)
  | 0, _, _ => none
  | n + 1, μ, l4 =>
    if (μ 3 8) ≤ l4 then
      K122 μ (jadd l2 1)
    else
      (aI μ 79 30 l4).bind fun x1 =>
      (gO μ 1 2 x1).bind fun x3 =>
      (wD μ x3 l3 (-1)).bind fun m5 =>
      Ed_unpatchUnit_147 K122 l1 l2 l3 n m5 (jadd l4 1)
noncomputable def Ed_unpatchUnit_122 (l1 : Int) : Nat → Mem → Int → Option (Mem)
  | 0, _, _ => none
  | n + 1, μ, l2 =>
    if 9 ≤ l2 then
      some μ
    else
      (D_cellOf μ l1 l2).bind fun x1 =>
      (sI μ 80 360 x1 (-1)).bind fun m3 =>
      Ed_unpatchUnit_147 (Ed_unpatchUnit_122 l1 n) l1 l2 x1 big m3 0
noncomputable def Ed_unpatchUnit_68 (l1 : Int) : Nat → Mem → Int → Option (Mem)
  | 0, _, _ => none
  | n + 1, μ, l2 =>
    if 4 < l2 then
      Ed_unpatchUnit_122 l1 big μ 0
    else
      (ar 120 5 2 l2).bind fun o1 =>
      if o1 ≠ 0 ∧ kd o1 = 5 then
        (Row_remove μ o1 l1).bind fun m4 =>
        (ar 120 5 2 l2).bind fun o7 =>
        (gf m4 5 1 o7).bind fun x9 =>
        if x9 ≠ 0 then
          Ed_unpatchUnit_68 l1 n m4 (jadd l2 1)
        else
          (ar 73 5 1 l2).bind fun o11 =>
          (Ar_fill m4 o11 (-1)).bind fun m13 =>
          Ed_unpatchUnit_68 l1 n m13 (jadd l2 1)
      else none
noncomputable def Ed_unpatchUnit_42 (l1 : Int) : Nat → Mem → Int → Option (Mem)
  | 0, _, _ => none
  | n + 1, μ, l2 =>
    if 8 < l2 then
      Ed_unpatchUnit_68 l1 big μ 1
    else
      (ar 62 9 1 l2).bind fun o1 =>
      (wD μ o1 l1 (-1)).bind fun m3 =>
      Ed_unpatchUnit_42 l1 n m3 (jadd l2 1)
noncomputable def Ed_unpatchUnit_15 (l1 : Int) : Nat → Mem → Int → Option (Mem)
  | 0, _, _ => none
  | n + 1, μ, l2 =>
    if 12 < l2 then
      Ed_unpatchUnit_42 l1 big μ 1
    else
      (ar 94 13 2 l2).bind fun o1 =>
      if o1 ≠ 0 ∧ kd o1 = 5 then
        (Row_remove μ o1 l1).bind fun m4 =>
        Ed_unpatchUnit_15 l1 n m4 (jadd l2 1)
      else none
noncomputable def Ed_unpatchUnit (μ : Mem) (a1 : Int) : Option (Mem) :=
  (ar 5 41 1 a1).bind fun o1 =>
  (Ar_fill μ o1 (-1)).bind fun m3 =>
  Ed_unpatchUnit_15 a1 big m3 1
noncomputable def Ed_makePalette_2 (l2 : Int) : Nat → Mem → Int → Option (Mem)
  | 0, _, _ => none
  | n + 1, μ, l3 =>
    if 9 ≤ l3 then
      some μ
    else
      (St_toldOr μ l3 (-1)).bind fun x1 =>
      (wD μ l2 l3 x1).bind fun m3 =>
      Ed_makePalette_2 l2 n m3 (jadd l3 1)
noncomputable def Ed_makePalette (μ : Mem) (a2 : Int) : Option (Mem) :=
  Ed_makePalette_2 a2 big μ 0
noncomputable def Ed_makeSub_50 (l2 : Int) : Nat → Mem → Int → Option (Mem)
  | 0, _, _ => none
  | n + 1, μ, l3 =>
    if (μ 248 1) ≤ l3 then
      some μ
    else
      (ar 62 9 1 l2).bind fun o1 =>
      (aI μ 249 40 l3).bind fun x3 =>
      (wD μ o1 x3 (μ 242 10)).bind fun m5 =>
      Ed_makeSub_50 l2 n m5 (jadd l3 1)
noncomputable def Ed_makeSub (μ : Mem) (a2 : Int) : Option (Mem) :=
  (some (μ 241 1)).bind fun x1 =>
  if x1 = 54 then
    (ar 62 9 1 a2).bind fun o3 =>
    (Ar_fill μ o3 (-1)).bind fun m5 =>
    some m5
  else
  if x1 = 55 then
    Ed_makeSub_50 a2 big μ 0
  else
  if (μ 241 1) ≠ 57 then
    (sI μ 71 9 a2 0).bind fun m10 =>
    some m10
  else
    (sI μ 71 9 a2 1).bind fun m13 =>
    some m13
noncomputable def Ed_makeWave_2 (l2 : Int) : Nat → Mem → Int → Option (Mem)
  | 0, _, _ => none
  | n + 1, μ, l3 =>
    if 5 ≤ l3 then
      (ar 120 5 2 l2).bind fun o1 =>
      if o1 ≠ 0 ∧ kd o1 = 5 then
        (Row_copyFrom μ o1 248).bind fun m4 =>
        some m4
      else none
    else
      (ar 73 5 1 l2).bind fun o7 =>
      (St_toldOr μ l3 (-1)).bind fun x9 =>
      (wD μ o7 l3 x9).bind fun m11 =>
      Ed_makeWave_2 l2 n m11 (jadd l3 1)
noncomputable def Ed_makeWave (μ : Mem) (a2 : Int) : Option (Mem) :=
  Ed_makeWave_2 a2 big μ 0
noncomputable def Ed_unparkSlots (μ : Mem) (a2 : Int) : Option (Mem) :=
  if (μ 241 1) ≠ 64 then
    (sI μ 81 201 a2 (-1)).bind fun m1 =>
    some m1
  else
    (Ar_fill μ 81 (-1)).bind fun m4 =>
    some m4
noncomputable def Ed_makeEvent (μ : Mem) (a2 : Int) : Option (Mem) :=
  (St_toldOr μ 10 (-1)).bind fun x1 =>
  (wD μ a2 0 x1).bind fun m3 =>
  (St_toldOr m3 11 (-1)).bind fun x6 =>
  (wD m3 a2 1 x6).bind fun m8 =>
  some m8
noncomputable def Cue_begin (μ : Mem) (a0 : Int) (a1 : Int) : Option (Mem) :=
  (pf μ 1 0 0 a0 a1).bind fun m1 =>
  (gO m1 1 1 a0).bind fun x4 =>
  (Ar_fill m1 x4 0).bind fun m6 =>
  (gO m6 1 1 a0).bind fun x9 =>
  (wD m6 x9 4 (-1)).bind fun m11 =>
  (gO m11 1 1 a0).bind fun x14 =>
  (wD m11 x14 5 (-1)).bind fun m16 =>
  (gO m16 1 2 a0).bind fun x19 =>
  (Ar_fill m16 x19 (-1)).bind fun m21 =>
  some m21
noncomputable def Sh_bringCue_56 (l1 : Int) (l2 : Int) (l3 : Int) : Nat → Mem → Int → Option (Int × Mem)
  | 0, _, _ => none
  | n + 1, μ, l4 =>
    if l4 ≤ l2 then
      (wA μ 79 l2 l3).bind fun m1 =>
      (some (wr m1 3 8 (jadd (m1 3 8) 1))).bind fun m4 =>
      if l3 ≠ 0 ∧ kd l3 = 1 then
        (Cue_begin m4 l3 l1).bind fun m8 =>
        some (l2, m8)
      else none
    else
      (aI μ 79 30 (jsub l4 1)).bind fun x11 =>
      (wA μ 79 l4 x11).bind fun m13 =>
      Sh_bringCue_56 l1 l2 l3 n m13 (jadd l4 (-1))
noncomputable def Sh_bringCue_29 (μ : Mem) (l1 : Int) (l2 : Int) : Option (Int × Mem) :=
  if (μ 3 8) < 30 then
    (aI μ 79 30 (μ 3 8)).bind fun x1 =>
    (some (μ 3 8)).bind fun x3 =>
    Sh_bringCue_56 l1 l2 x1 big μ x3
  else
    some ((-1), μ)
noncomputable def Sh_bringCue (μ : Mem) (a1 : Int) : Option (Int × Mem) :=
  (Sh_countNotAbove μ a1).bind fun x1 =>
  if x1 ≤ 0 then
    Sh_bringCue_29 μ a1 x1
  else
    (aI μ 79 30 (jsub x1 1)).bind fun x3 =>
    (gf μ 1 0 x3).bind fun x5 =>
    if x5 ≠ a1 then
      Sh_bringCue_29 μ a1 x1
    else
      some ((jsub x1 1), μ)
noncomputable def Ed_bringCue_30 (l3 : Int) (l4 : Int) : Nat → Mem → Int → Option (Int × Mem)
  | 0, _, _ => none
  | n + 1, μ, l5 =>
    if 6 ≤ l5 then
      some (l3, μ)
    else
      (rdI μ l4 l5).bind fun x1 =>
      (St_toldOr μ l5 x1).bind fun x3 =>
      (wD μ l4 l5 x3).bind fun m5 =>
      Ed_bringCue_30 l3 l4 n m5 (jadd l5 1)
noncomputable def Ed_bringCue (μ : Mem) (a2 : Int) : Option (Int × Mem) :=
  (Sh_bringCue μ a2).bind fun p1 =>
  (some p1.1).bind fun x4 =>
  if x4 < 0 then
    some (x4, p1.2)
  else
    (aI p1.2 79 30 x4).bind fun x6 =>
    (gO p1.2 1 1 x6).bind fun x8 =>
    Ed_bringCue_30 x4 x8 big p1.2 0
noncomputable def Ed_keepTracked (μ : Mem) (a1 : Int) (a2 : Int) : Option (Mem) :=
  (aI μ 79 30 a1).bind fun x1 =>
  (gO μ 1 2 x1).bind fun x3 =>
  (rdI μ x3 a2).bind fun x5 =>
  if x5 ≠ (-1) then
    some μ
  else
    (Sh_trackedValue μ a1 a2).bind fun x7 =>
    if x7 ≠ (-1) then
      (wD μ x3 a2 x7).bind fun m9 =>
      some m9
    else
      (aI μ (-1) 9 (jrem a2 9)).bind fun x12 =>
      (wD μ x3 a2 x12).bind fun m14 =>
      some m14
noncomputable def Ed_recordCue_80 (K44 : Mem → Int → Option (Mem)) (μ : Mem) (l3 : Int) (l4 : Int) (l5 : Int) : Option (Mem) :=
  (aI μ 79 30 l3).bind fun x1 =>
  (gO μ 1 2 x1).bind fun x3 =>
  (aI μ 80 360 l5).bind fun x5 =>
  (wD μ x3 l5 x5).bind fun m7 =>
  K44 m7 (jadd l5 1)
noncomputable def Ed_recordCue_44 (l3 : Int) (l4 : Int) : Nat → Mem → Int → Option (Mem)
  | 0, _, _ => none
  | n + 1, μ, l5 =>
    if 360 ≤ l5 then
      some μ
    else
      (aI μ 80 360 l5).bind fun x1 =>
      if x1 = (-1) then
        Ed_recordCue_44 l3 l4 n μ (jadd l5 1)
      else
        if l4 = 0 then
          Ed_recordCue_80 (Ed_recordCue_44 l3 l4 n) μ l3 l4 l5
        else
          (Ed_keepTracked μ (jadd l3 1) l5).bind fun m3 =>
          Ed_recordCue_80 (Ed_recordCue_44 l3 l4 n) m3 l3 l4 l5
noncomputable def Ed_recordCue (μ : Mem) (a2 : Int) : Option (Mem) :=
  (Ed_bringCue μ a2).bind fun p1 =>
  (some p1.1).bind fun x4 =>
  if 0 ≤ x4 then
    if (p1.2 241 1) ≠ 62 then
      Ed_recordCue_44 x4 0 big p1.2 0
    else
      if (p1.2 3 8) ≤ (jadd x4 1) then
        Ed_recordCue_44 x4 0 big p1.2 0
      else
        Ed_recordCue_44 x4 1 big p1.2 0
  else
    some p1.2
noncomputable def Ed_updateCues_69 (K17 : Mem → Int → Option (Mem)) (μ : Mem) (l1 : Int) (l2 : Int) (s1 : Int) : Option (Mem) :=
  (aI μ 79 30 s1).bind fun x1 =>
  (gO μ 1 2 x1).bind fun x3 =>
  (aI μ 80 360 l2).bind fun x5 =>
  (wD μ x3 l2 x5).bind fun m7 =>
  K17 m7 (jadd l2 1)
noncomputable def Ed_updateCues_17 (l1 : Int) : Nat → Mem → Int → Option (Mem)
  | 0, _, _ => none
  | n + 1, μ, l2 =>
    if 360 ≤ l2 then
      (Ar_fill μ 80 (-1)).bind fun m1 =>
      some m1
    else
      (aI μ 80 360 l2).bind fun x4 =>
      if x4 = (-1) then
        Ed_updateCues_17 l1 n μ (jadd l2 1)
      else
        if l1 ≤ 0 then
          Ed_updateCues_17 l1 n μ (jadd l2 1)
        else
          (Sh_originIndex μ l1 l2).bind fun x6 =>
          if 0 ≤ x6 then
            Ed_updateCues_69 (Ed_updateCues_17 l1 n) μ l1 l2 x6
          else
            Ed_updateCues_69 (Ed_updateCues_17 l1 n) μ l1 l2 (jsub l1 1)
noncomputable def Ed_updateCues (μ : Mem) : Option (Mem) :=
  (Sh_countNotAbove μ (μ 221 3)).bind fun x1 =>
  Ed_updateCues_17 x1 big μ 0
noncomputable def Sh_removeCue_11 (l2 : Int) : Nat → Mem → Int → Option (Mem)
  | 0, _, _ => none
  | n + 1, μ, l3 =>
    if (μ 3 8) ≤ l3 then
      (some (wr μ 3 8 (jsub (μ 3 8) 1))).bind fun m1 =>
      (wA m1 79 (m1 3 8) l2).bind fun m4 =>
      some m4
    else
      (aI μ 79 30 l3).bind fun x7 =>
      (wA μ 79 (jsub l3 1) x7).bind fun m9 =>
      Sh_removeCue_11 l2 n m9 (jadd l3 1)
noncomputable def Sh_removeCue (μ : Mem) (a1 : Int) : Option (Mem) :=
  (aI μ 79 30 a1).bind fun x1 =>
  (some (jadd a1 1)).bind fun x3 =>
  Sh_removeCue_11 x1 big μ x3
noncomputable def Ed_deleteCue_21 (μ : Mem) (l1 : Int) : Option (Mem) :=
  if (μ 3 10) ≠ l1 then
    some μ
  else
    (some (wr μ 3 10 (-1))).bind fun m1 =>
    some m1
noncomputable def Ed_deleteCue (μ : Mem) (a1 : Int) : Option (Mem) :=
  (Sh_indexOf μ a1).bind fun x1 =>
  if x1 < 0 then
    Ed_deleteCue_21 μ a1
  else
    (Sh_removeCue μ x1).bind fun m3 =>
    Ed_deleteCue_21 m3 a1
noncomputable def Ed_copyCue (μ : Mem) (a1 : Int) (a2 : Int) : Option (Mem) :=
  (Sh_bringCue μ a2).bind fun p1 =>
  (some p1.1).bind fun x4 =>
  (Sh_indexOf p1.2 a1).bind fun x6 =>
  if x6 < 0 then
    some p1.2
  else
    if x4 < 0 then
      some p1.2
    else
      (aI p1.2 79 30 x4).bind fun x8 =>
      (aI p1.2 79 30 x6).bind fun x10 =>
      if x8 ≠ 0 ∧ kd x8 = 1 then
        (Cue_copyFrom p1.2 x8 x10).bind fun m13 =>
        (aI m13 79 30 x4).bind fun x16 =>
        (pf m13 1 0 0 x16 a2).bind fun m18 =>
        some m18
      else none
noncomputable def Ed_blockCue_20 (l1 : Int) (l2 : Int) : Nat → Mem → Int → Option (Mem)
  | 0, _, _ => none
  | n + 1, μ, l3 =>
    if 360 ≤ l3 then
      some μ
    else
      (rdI μ l2 l3).bind fun x1 =>
      if x1 ≠ (-1) then
        Ed_blockCue_20 l1 l2 n μ (jadd l3 1)
      else
        (Sh_trackedValue μ l1 l3).bind fun x3 =>
        (wD μ l2 l3 x3).bind fun m5 =>
        Ed_blockCue_20 l1 l2 n m5 (jadd l3 1)
noncomputable def Ed_blockCue (μ : Mem) (a1 : Int) : Option (Mem) :=
  if 0 ≤ a1 then
    (aI μ 79 30 a1).bind fun x1 =>
    (gO μ 1 2 x1).bind fun x3 =>
    Ed_blockCue_20 a1 x3 big μ 0
  else
    some μ
noncomputable def Ed_unblockCue_21 (l1 : Int) (l2 : Int) : Nat → Mem → Int → Option (Mem)
  | 0, _, _ => none
  | n + 1, μ, l3 =>
    if 360 ≤ l3 then
      some μ
    else
      (rdI μ l2 l3).bind fun x1 =>
      (Sh_trackedValue μ l1 l3).bind fun x3 =>
      if x1 ≠ x3 then
        Ed_unblockCue_21 l1 l2 n μ (jadd l3 1)
      else
        (wD μ l2 l3 (-1)).bind fun m5 =>
        Ed_unblockCue_21 l1 l2 n m5 (jadd l3 1)
noncomputable def Ed_unblockCue (μ : Mem) (a1 : Int) : Option (Mem) :=
  if 1 ≤ a1 then
    (aI μ 79 30 a1).bind fun x1 =>
    (gO μ 1 2 x1).bind fun x3 =>
    Ed_unblockCue_21 a1 x3 big μ 0
  else
    some μ
noncomputable def Pl_fadeFrom (μ : Mem) (a1 : Int) (a2 : Int) (a3 : Int) : Option (Mem) :=
  (sI μ 223 360 a1 a2).bind fun m1 =>
  (sI m1 224 360 a1 (m1 221 2)).bind fun m4 =>
  (sI m4 225 360 a1 a3).bind fun m7 =>
  some m7
noncomputable def Ed_sneakAway_2 (l1 : Int) : Nat → Mem → Int → Option (Mem)
  | 0, _, _ => none
  | n + 1, μ, l2 =>
    if 360 ≤ l2 then
      (Ar_fill μ 80 (-1)).bind fun m1 =>
      some m1
    else
      (aI μ 80 360 l2).bind fun x4 =>
      if x4 = (-1) then
        Ed_sneakAway_2 l1 n μ (jadd l2 1)
      else
        (Sh_levelFor μ x4 (jrem l2 9)).bind fun x6 =>
        (Pl_fadeFrom μ l2 x6 l1).bind fun m8 =>
        Ed_sneakAway_2 l1 n m8 (jadd l2 1)
noncomputable def Ed_sneakAway (μ : Mem) (a1 : Int) : Option (Mem) :=
  Ed_sneakAway_2 a1 big μ 0
noncomputable def Ed_performOnCues (μ : Mem) (a2 : Int) : Option (Mem) :=
  (some (μ 241 0)).bind fun x1 =>
  if x1 = 39 then
    (Ed_bringCue μ a2).bind fun p3 =>
    some p3.2
  else
  if x1 = 40 then
    (Ed_recordCue μ a2).bind fun m7 =>
    some m7
  else
  if x1 = 41 then
    (Ed_updateCues μ).bind fun m11 =>
    some m11
  else
  if x1 = 42 then
    (Ed_deleteCue μ a2).bind fun m15 =>
    some m15
  else
  if x1 = 43 then
    (Ed_copyCue μ a2 (μ 242 10)).bind fun m19 =>
    some m19
  else
  if x1 = 44 then
    (Sh_indexOf μ a2).bind fun x23 =>
    (Ed_blockCue μ x23).bind fun m25 =>
    some m25
  else
  if x1 = 45 then
    (Sh_indexOf μ a2).bind fun x29 =>
    (Ed_unblockCue μ x29).bind fun m31 =>
    some m31
  else
  if x1 = 46 then
    (some (wr μ 3 10 a2)).bind fun m35 =>
    some m35
  else
  if x1 = 47 then
    (some (wr μ 3 10 (-1))).bind fun m39 =>
    some m39
  else
  if x1 = 48 then
    (Ar_fill μ 80 (-1)).bind fun m43 =>
    some m43
  else
  if x1 = 49 then
    (Ed_sneakAway μ a2).bind fun m47 =>
    some m47
  else
  some μ
noncomputable def Ed_perform_123  : Nat → Mem → Int → Option (Mem)
  | 0, _, _ => none
  | n + 1, μ, l3 =>
    if (μ 248 1) ≤ l3 then
      some μ
    else
      (aI μ 249 40 l3).bind fun x1 =>
      (Ed_unpatchUnit μ x1).bind fun m3 =>
      Ed_perform_123 n m3 (jadd l3 1)
noncomputable def Ed_perform (μ : Mem) : Option (Mem) :=
  (some (μ 242 9)).bind fun x1 =>
  (some (μ 241 0)).bind fun x3 =>
  if x3 = 33 then
    (Ed_patchUnit μ x1).bind fun m5 =>
    some m5
  else
  if x3 = 34 then
    Ed_perform_123 big μ 0
  else
  if x3 = 35 then
    (ar 94 13 2 x1).bind fun o10 =>
    if o10 ≠ 0 ∧ kd o10 = 5 then
      (Row_copyFrom μ o10 248).bind fun m13 =>
      some m13
    else none
  else
  if x3 = 36 then
    (ar 48 13 1 x1).bind fun o17 =>
    (Ed_makePalette μ o17).bind fun m19 =>
    some m19
  else
  if x3 = 37 then
    (Ed_makeSub μ x1).bind fun m23 =>
    some m23
  else
  if x3 = 38 then
    (Ed_makeWave μ x1).bind fun m27 =>
    some m27
  else
  if x3 = 50 then
    (sI μ 81 201 x1 (μ 242 10)).bind fun m31 =>
    some m31
  else
  if x3 = 51 then
    (Ed_unparkSlots μ x1).bind fun m35 =>
    some m35
  else
  if x3 = 52 then
    (ar 83 11 1 x1).bind fun o39 =>
    (Ed_makeEvent μ o39).bind fun m41 =>
    some m41
  else
  if x3 = 78 then
    (Ed_setValues μ).bind fun m45 =>
    some m45
  else
  (Ed_performOnCues μ x1).bind fun m49 =>
  some m49
noncomputable def Pl_settle_22 (K14 : Mem → Int → Option (Mem)) (l1 : Int) (l2 : Int) : Nat → Mem → Int → Option (Mem)
  | 0, _, _ => none
  | n + 1, μ, l3 =>
    if 9 ≤ l3 then
      K14 μ (jadd l2 1)
    else
      (D_cellOf μ l2 l3).bind fun x1 =>
      (Sh_trackedLevel μ l1 l2 l3).bind fun x3 =>
      (aI μ 222 360 x1).bind fun x5 =>
      if x3 = x5 then
        Pl_settle_22 K14 l1 l2 n μ (jadd l3 1)
      else
        (sI μ 222 360 x1 x3).bind fun m7 =>
        (Pl_fadeFrom m7 x1 x3 0).bind fun m10 =>
        Pl_settle_22 K14 l1 l2 n m10 (jadd l3 1)
noncomputable def Pl_settle_14 (l1 : Int) : Nat → Mem → Int → Option (Mem)
  | 0, _, _ => none
  | n + 1, μ, l2 =>
    if 40 < l2 then
      some μ
    else
      Pl_settle_22 (Pl_settle_14 l1 n) l1 l2 big μ 0
noncomputable def Pl_settle (μ : Mem) : Option (Mem) :=
  (Sh_countNotAbove μ (μ 221 3)).bind fun x1 =>
  Pl_settle_14 x1 big μ 1
noncomputable def D_enter_132 (K29 : Mem → Int → Int → Option (Int × Mem)) (μ : Mem) (l1 : Int) (l2 : Int) : Option (Int × Mem) :=
  (Ed_perform μ).bind fun m1 =>
  K29 m1 (jadd l1 1) (jadd l2 1)
noncomputable def D_enter_152 (μ : Mem) (l1 : Int) : Option (Int × Mem) :=
  (some (wr μ 1 1 0)).bind fun m1 =>
  (Pl_settle m1).bind fun m4 =>
  some (l1, m4)
noncomputable def D_enter_82 (K29 : Mem → Int → Int → Option (Int × Mem)) (μ : Mem) (l1 : Int) (l2 : Int) (s1 : Int) : Option (Int × Mem) :=
  (some (wr μ 1 2 s1)).bind fun m1 =>
  if (m1 1 2) = 0 then
    if l1 ≠ 0 then
      D_enter_132 K29 m1 l1 l2
    else
      (D_remember m1).bind fun m4 =>
      D_enter_132 K29 m4 l1 l2
  else
    if (m1 1 2) ≠ 1 then
      (some (wr m1 1 3 (m1 255 2))).bind fun m8 =>
      D_enter_152 m8 l1
    else
      (Rd_place m1).bind fun x11 =>
      (some (wr m1 1 3 x11)).bind fun m13 =>
      D_enter_152 m13 l1
noncomputable def D_enter_29  : Nat → Mem → Int → Int → Option (Int × Mem)
  | 0, _, _, _ => none
  | n + 1, μ, l1, l2 =>
    if 6000 ≤ l2 then
      D_enter_152 μ l1
    else
      (Rd_scan μ).bind fun m1 =>
      (Rd_isOver m1).bind fun x4 =>
      if x4 = 0 then
        (Rd_readStatement m1).bind fun p6 =>
        if p6.1 = 0 then
          D_enter_82 (D_enter_29 n) p6.2 l1 l2 1
        else
          (Ch_firstFault p6.2).bind fun p9 =>
          D_enter_82 (D_enter_29 n) p9.2 l1 l2 p9.1
      else
        D_enter_152 m1 l1
noncomputable def D_enter (μ : Mem) : Option (Int × Mem) :=
  (some (wr μ 1 2 0)).bind fun m1 =>
  (some (wr m1 1 3 (-1))).bind fun m4 =>
  (Rd_open m4 (m4 1 1)).bind fun m7 =>
  D_enter_29 big m7 0 0
noncomputable def D_fault (μ : Mem) (a1 : Int) : Option (Int) :=
  if a1 ≠ 0 then
    if a1 ≠ 1 then
      some (-1)
    else
      some (μ 1 3)
  else
    some (μ 1 2)
noncomputable def D_undo (μ : Mem) : Option (Int × Mem) :=
  if (μ 1 6) = 0 then
    some ((-1), μ)
  else
    (aI μ 220 8 (jsub (μ 1 6) 1)).bind fun x1 =>
    if x1 ≠ 0 then
      (some (wr μ 1 6 (jsub (μ 1 6) 1))).bind fun m3 =>
      (aI m3 220 8 (m3 1 6)).bind fun x6 =>
      (Sh_copyFrom m3 3 x6).bind fun m8 =>
      (Pl_settle m8).bind fun m11 =>
      some (1, m11)
    else
      some ((-1), μ)
noncomputable def Sv_putByte (μ : Mem) (a1 : Int) : Option (Mem) :=
  if (μ 257 3) < 6000 then
    (sI μ 258 6000 (μ 257 3) (jb (jb a1))).bind fun m1 =>
    (some (wr m1 257 3 (jadd (m1 257 3) 1))).bind fun m4 =>
    some m4
  else
    (some (wr μ 257 4 1)).bind fun m7 =>
    some m7
noncomputable def Sv_putBlankIfNeeded (μ : Mem) : Option (Mem) :=
  if (μ 257 5) = 0 then
    (some (wr μ 257 5 1)).bind fun m1 =>
    some m1
  else
    (Sv_putByte μ 32).bind fun m4 =>
    (some (wr m4 257 5 1)).bind fun m7 =>
    some m7
noncomputable def Sv_putWord_15 (l1 : Int) (l2 : Int) : Nat → Mem → Int → Option (Mem)
  | 0, _, _ => none
  | n + 1, μ, l3 =>
    if l2 ≤ l3 then
      some μ
    else
      (Wd_letterOf μ l1 l3).bind fun x1 =>
      (Sv_putByte μ x1).bind fun m3 =>
      Sv_putWord_15 l1 l2 n m3 (jadd l3 1)
noncomputable def Sv_putWord (μ : Mem) (a1 : Int) : Option (Mem) :=
  (Sv_putBlankIfNeeded μ).bind fun m1 =>
  (Wd_lengthOf m1 a1).bind fun x4 =>
  Sv_putWord_15 a1 x4 big m1 0
noncomputable def Sv_putNumber_36 (K10 : Mem → Int → Int → Option (Mem)) (μ : Mem) (l1 : Int) (l3 : Int) (l4 : Int) : Option (Mem) :=
  (Sv_putByte μ (jadd 48 l4)).bind fun m1 =>
  (some (jdiv l3 10)).bind fun x4 =>
  K10 m1 1 x4
noncomputable def Sv_putNumber_10 (l1 : Int) : Nat → Mem → Int → Int → Option (Mem)
  | 0, _, _, _ => none
  | n + 1, μ, l2, l3 =>
    if l3 ≤ 0 then
      some μ
    else
      if l3 = 0 then none else
      (some (jrem (jdiv l1 l3) 10)).bind fun x2 =>
      if l2 ≠ 0 then
        Sv_putNumber_36 (Sv_putNumber_10 l1 n) μ l1 l3 x2
      else
        if 0 < x2 then
          Sv_putNumber_36 (Sv_putNumber_10 l1 n) μ l1 l3 x2
        else
          if l3 ≠ 1 then
            (some (jdiv l3 10)).bind fun x4 =>
            Sv_putNumber_10 l1 n μ l2 x4
          else
            Sv_putNumber_36 (Sv_putNumber_10 l1 n) μ l1 l3 x2
noncomputable def Sv_putNumber (μ : Mem) (a1 : Int) : Option (Mem) :=
  (Sv_putBlankIfNeeded μ).bind fun m1 =>
  Sv_putNumber_10 a1 big m1 0 1000
noncomputable def Sv_writeHead (μ : Mem) (a1 : Int) (a2 : Int) : Option (Mem) :=
  (Sv_putWord μ a1).bind fun m1 =>
  (Sv_putNumber m1 a2).bind fun m4 =>
  some m4
noncomputable def Sv_putPair (μ : Mem) (a1 : Int) (a2 : Int) : Option (Mem) :=
  (Sv_putWord μ a1).bind fun m1 =>
  (Sv_putNumber m1 a2).bind fun m4 =>
  some m4
noncomputable def Sv_putSign (μ : Mem) (a1 : Int) : Option (Mem) :=
  (Sv_putByte μ a1).bind fun m1 =>
  (some (wr m1 257 5 0)).bind fun m4 =>
  some m4
noncomputable def Sv_close (μ : Mem) : Option (Mem) :=
  (Sv_putSign μ 59).bind fun m1 =>
  (Sv_putByte m1 10).bind fun m4 =>
  some m4
noncomputable def Sv_writePatch_82 (μ : Mem) : Option (Mem) :=
  (Sv_close μ).bind fun m1 =>
  some m1
noncomputable def Sv_writePatch_69 (μ : Mem) (l2 : Int) : Option (Mem) :=
  (rdI μ l2 5).bind fun x1 =>
  if x1 ≠ 1 then
    Sv_writePatch_82 μ
  else
    (Sv_putWord μ 32).bind fun m3 =>
    Sv_writePatch_82 m3
noncomputable def Sv_writePatch_56 (μ : Mem) (l2 : Int) : Option (Mem) :=
  (rdI μ l2 4).bind fun x1 =>
  if x1 ≠ 1 then
    Sv_writePatch_69 μ l2
  else
    (Sv_putWord μ 31).bind fun m3 =>
    Sv_writePatch_69 m3 l2
noncomputable def Sv_writePatch_41 (μ : Mem) (l2 : Int) : Option (Mem) :=
  (rdI μ l2 3).bind fun x1 =>
  if x1 = 0 then
    Sv_writePatch_56 μ l2
  else
    (rdI μ l2 3).bind fun x3 =>
    (Sv_putPair μ 30 x3).bind fun m5 =>
    Sv_writePatch_56 m5 l2
noncomputable def Sv_writePatch (μ : Mem) (a1 : Int) (a2 : Int) : Option (Mem) :=
  (Sv_writeHead μ 33 a1).bind fun m1 =>
  (rdI m1 a2 0).bind fun x4 =>
  (Sv_putWord m1 x4).bind fun m6 =>
  (rdI m6 a2 1).bind fun x9 =>
  (Sv_putPair m6 53 x9).bind fun m11 =>
  (rdI m11 a2 2).bind fun x14 =>
  if x14 = 1000 then
    Sv_writePatch_41 m11 a2
  else
    (rdI m11 a2 2).bind fun x16 =>
    (Sv_putPair m11 29 x16).bind fun m18 =>
    Sv_writePatch_41 m18 a2
noncomputable def Sv_putUnits_20 (K2 : Mem → Int → Option (Mem)) (μ : Mem) (l1 : Int) (l2 : Int) : Option (Mem) :=
  (gO μ 5 1 l1).bind fun x1 =>
  (rdI μ x1 l2).bind fun x3 =>
  (Sv_putNumber μ x3).bind fun m5 =>
  K2 m5 (jadd l2 1)
noncomputable def Sv_putUnits_2 (l1 : Int) : Nat → Mem → Int → Option (Mem)
  | 0, _, _ => none
  | n + 1, μ, l2 =>
    (gf μ 5 1 l1).bind fun x1 =>
    if x1 ≤ l2 then
      some μ
    else
      if l2 ≤ 0 then
        Sv_putUnits_20 (Sv_putUnits_2 l1 n) μ l1 l2
      else
        (Sv_putSign μ 43).bind fun m3 =>
        Sv_putUnits_20 (Sv_putUnits_2 l1 n) m3 l1 l2
noncomputable def Sv_putUnits (μ : Mem) (a1 : Int) : Option (Mem) :=
  Sv_putUnits_2 a1 big μ 0
noncomputable def Sv_writePalette_15 (l1 : Int) : Nat → Mem → Int → Option (Mem)
  | 0, _, _ => none
  | n + 1, μ, l2 =>
    if 9 ≤ l2 then
      (Sv_close μ).bind fun m1 =>
      some m1
    else
      (ar 48 13 1 l1).bind fun o4 =>
      (rdI μ o4 l2).bind fun x6 =>
      if x6 = (-1) then
        Sv_writePalette_15 l1 n μ (jadd l2 1)
      else
        (ar 48 13 1 l1).bind fun o8 =>
        (rdI μ o8 l2).bind fun x10 =>
        (Sv_putPair μ (jadd 9 l2) x10).bind fun m12 =>
        Sv_writePalette_15 l1 n m12 (jadd l2 1)
noncomputable def Sv_writePalette (μ : Mem) (a1 : Int) : Option (Mem) :=
  (Sv_writeHead μ 36 a1).bind fun m1 =>
  (Sv_putSign m1 61).bind fun m4 =>
  Sv_writePalette_15 a1 big m4 0
noncomputable def Sv_writeSub_32 (l1 : Int) : Nat → Mem → Int → Option (Mem)
  | 0, _, _ => none
  | n + 1, μ, l2 =>
    if 40 < l2 then
      some μ
    else
      (ar 62 9 1 l1).bind fun o1 =>
      (rdI μ o1 l2).bind fun x3 =>
      if x3 = (-1) then
        Sv_writeSub_32 l1 n μ (jadd l2 1)
      else
        (Sv_writeHead μ 37 l1).bind fun m5 =>
        (Sv_putPair m5 55 l2).bind fun m8 =>
        (Sv_putSign m8 64).bind fun m11 =>
        (ar 62 9 1 l1).bind fun o14 =>
        (rdI m11 o14 l2).bind fun x16 =>
        (Sv_putNumber m11 x16).bind fun m18 =>
        (Sv_close m18).bind fun m21 =>
        Sv_writeSub_32 l1 n m21 (jadd l2 1)
noncomputable def Sv_writeSub (μ : Mem) (a1 : Int) : Option (Mem) :=
  (aI μ 71 9 a1).bind fun x1 =>
  if x1 ≠ 1 then
    Sv_writeSub_32 a1 big μ 1
  else
    (Sv_writeHead μ 37 a1).bind fun m3 =>
    (Sv_putWord m3 57).bind fun m6 =>
    (Sv_close m6).bind fun m9 =>
    Sv_writeSub_32 a1 big m9 1
noncomputable def Sv_writeWave (μ : Mem) (a1 : Int) (a2 : Int) : Option (Mem) :=
  (Sv_writeHead μ 38 a1).bind fun m1 =>
  (Sv_putSign m1 61).bind fun m4 =>
  (rdI m4 a2 0).bind fun x7 =>
  (Sv_putWord m4 (jadd 18 x7)).bind fun m9 =>
  (rdI m9 a2 1).bind fun x12 =>
  (Sv_putWord m9 (jadd 9 x12)).bind fun m14 =>
  (rdI m14 a2 2).bind fun x17 =>
  (Sv_putPair m14 58 x17).bind fun m19 =>
  (rdI m19 a2 3).bind fun x22 =>
  (Sv_putPair m19 59 x22).bind fun m24 =>
  (rdI m24 a2 4).bind fun x27 =>
  (Sv_putPair m24 60 x27).bind fun m29 =>
  (Sv_putWord m29 61).bind fun m32 =>
  (ar 120 5 2 a1).bind fun o35 =>
  (Sv_putUnits m32 o35).bind fun m37 =>
  (Sv_close m37).bind fun m40 =>
  some m40
noncomputable def Sv_writeChanges_39 (K5 : Mem → Int → Int → Option (Mem)) (μ : Mem) (l1 : Int) (l2 : Int) (l3 : Int) (l4 : Int) (l5 : Int) : Option (Mem) :=
  (Sv_putWord μ (jadd 9 l4)).bind fun m1 =>
  if l5 < 2000 then
    (Sv_putNumber m1 l5).bind fun m4 =>
    K5 m4 l3 (jadd l4 1)
  else
    (Sv_putPair m1 67 (jsub l5 2000)).bind fun m7 =>
    K5 m7 l3 (jadd l4 1)
noncomputable def Sv_writeChanges_5 (l1 : Int) (l2 : Int) : Nat → Mem → Int → Int → Option (Mem)
  | 0, _, _, _ => none
  | n + 1, μ, l3, l4 =>
    if 9 ≤ l4 then
      if l3 = 0 then
        some μ
      else
        (Sv_close μ).bind fun m1 =>
        some m1
    else
      (D_cellOf μ l1 l4).bind fun x5 =>
      (rdI μ l2 x5).bind fun x7 =>
      if x7 = (-1) then
        Sv_writeChanges_5 l1 l2 n μ l3 (jadd l4 1)
      else
        if l3 ≠ 0 then
          Sv_writeChanges_39 (Sv_writeChanges_5 l1 l2 n) μ l1 l2 l3 l4 x7
        else
          (Sv_putNumber μ l1).bind fun m9 =>
          Sv_writeChanges_39 (Sv_writeChanges_5 l1 l2 n) m9 l1 l2 1 l4 x7
noncomputable def Sv_writeChanges (μ : Mem) (a1 : Int) (a2 : Int) : Option (Mem) :=
  Sv_writeChanges_5 a1 a2 big μ 0 0
noncomputable def Sv_writeCue_34 (K12 : Mem → Int → Option (Mem)) (μ : Mem) (l1 : Int) (l2 : Int) (s0 : Int) (s1 : Int) : Option (Mem) :=
  if s0 = s1 then
    K12 μ (jadd l2 1)
  else
    (gO μ 1 1 l1).bind fun x1 =>
    (rdI μ x1 l2).bind fun x3 =>
    (Sv_putPair μ (jadd 21 l2) x3).bind fun m5 =>
    K12 m5 (jadd l2 1)
noncomputable def Sv_writeCue_88 (l1 : Int) : Nat → Mem → Int → Option (Mem)
  | 0, _, _ => none
  | n + 1, μ, l2 =>
    if 40 < l2 then
      (Sv_putWord μ 47).bind fun m1 =>
      (Sv_close m1).bind fun m4 =>
      some m4
    else
      (gO μ 1 2 l1).bind fun x7 =>
      (Sv_writeChanges μ l2 x7).bind fun m9 =>
      Sv_writeCue_88 l1 n m9 (jadd l2 1)
noncomputable def Sv_writeCue_12 (l1 : Int) : Nat → Mem → Int → Option (Mem)
  | 0, _, _ => none
  | n + 1, μ, l2 =>
    if 6 ≤ l2 then
      (Sv_close μ).bind fun m1 =>
      (gO m1 1 2 l1).bind fun x4 =>
      (D_countValues m1 x4).bind fun x6 =>
      if x6 ≠ 0 then
        (gf m1 1 0 l1).bind fun x8 =>
        (Sv_writeHead m1 46 x8).bind fun m10 =>
        (Sv_close m10).bind fun m13 =>
        Sv_writeCue_88 l1 big m13 1
      else
        some m1
    else
      (gO μ 1 1 l1).bind fun x17 =>
      (rdI μ x17 l2).bind fun x19 =>
      if 4 ≤ l2 then
        Sv_writeCue_34 (Sv_writeCue_12 l1 n) μ l1 l2 x19 (-1)
      else
        Sv_writeCue_34 (Sv_writeCue_12 l1 n) μ l1 l2 x19 0
noncomputable def Sv_writeCue (μ : Mem) (a1 : Int) : Option (Mem) :=
  (gf μ 1 0 a1).bind fun x1 =>
  (Sv_writeHead μ 39 x1).bind fun m3 =>
  Sv_writeCue_12 a1 big m3 0
noncomputable def Sv_writeParksAndEvents_60  : Nat → Mem → Int → Option (Mem)
  | 0, _, _ => none
  | n + 1, μ, l1 =>
    if 10 < l1 then
      some μ
    else
      (ar 83 11 1 l1).bind fun o1 =>
      (rdI μ o1 0).bind fun x3 =>
      if x3 = (-1) then
        Sv_writeParksAndEvents_60 n μ (jadd l1 1)
      else
        (Sv_writeHead μ 52 l1).bind fun m5 =>
        (Sv_putSign m5 61).bind fun m8 =>
        (ar 83 11 1 l1).bind fun o11 =>
        (rdI m8 o11 0).bind fun x13 =>
        (Sv_putNumber m8 x13).bind fun m15 =>
        (ar 83 11 1 l1).bind fun o18 =>
        (rdI m15 o18 1).bind fun x20 =>
        (Sv_putPair m15 39 x20).bind fun m22 =>
        (Sv_close m22).bind fun m25 =>
        Sv_writeParksAndEvents_60 n m25 (jadd l1 1)
noncomputable def Sv_writeParksAndEvents_2  : Nat → Mem → Int → Option (Mem)
  | 0, _, _ => none
  | n + 1, μ, l1 =>
    if 200 < l1 then
      Sv_writeParksAndEvents_60 big μ 1
    else
      (aI μ 81 201 l1).bind fun x1 =>
      if x1 = (-1) then
        Sv_writeParksAndEvents_2 n μ (jadd l1 1)
      else
        (Sv_writeHead μ 50 l1).bind fun m3 =>
        (Sv_putSign m3 64).bind fun m6 =>
        (aI m6 81 201 l1).bind fun x9 =>
        (Sv_putNumber m6 x9).bind fun m11 =>
        (Sv_close m11).bind fun m14 =>
        Sv_writeParksAndEvents_2 n m14 (jadd l1 1)
noncomputable def Sv_writeParksAndEvents (μ : Mem) : Option (Mem) :=
  Sv_writeParksAndEvents_2 big μ 1
noncomputable def Sv_write_210  : Nat → Mem → Int → Option (Mem)
  | 0, _, _ => none
  | n + 1, μ, l1 =>
    if (μ 3 8) ≤ l1 then
      (Sv_writeParksAndEvents μ).bind fun m1 =>
      some m1
    else
      (aI μ 79 30 l1).bind fun x4 =>
      (Sv_writeCue μ x4).bind fun m6 =>
      Sv_write_210 n m6 (jadd l1 1)
noncomputable def Sv_write_168  : Nat → Mem → Int → Option (Mem)
  | 0, _, _ => none
  | n + 1, μ, l1 =>
    if 4 < l1 then
      Sv_write_210 big μ 0
    else
      (ar 73 5 1 l1).bind fun o1 =>
      (rdI μ o1 0).bind fun x3 =>
      if x3 = (-1) then
        Sv_write_168 n μ (jadd l1 1)
      else
        (ar 73 5 1 l1).bind fun o5 =>
        (Sv_writeWave μ l1 o5).bind fun m7 =>
        Sv_write_168 n m7 (jadd l1 1)
noncomputable def Sv_write_149  : Nat → Mem → Int → Option (Mem)
  | 0, _, _ => none
  | n + 1, μ, l1 =>
    if 8 < l1 then
      Sv_write_168 big μ 1
    else
      (Sv_writeSub μ l1).bind fun m1 =>
      Sv_write_149 n m1 (jadd l1 1)
noncomputable def Sv_write_115  : Nat → Mem → Int → Option (Mem)
  | 0, _, _ => none
  | n + 1, μ, l1 =>
    if 12 < l1 then
      Sv_write_149 big μ 1
    else
      (ar 48 13 1 l1).bind fun o1 =>
      (D_countValues μ o1).bind fun x3 =>
      if x3 ≤ 0 then
        Sv_write_115 n μ (jadd l1 1)
      else
        (Sv_writePalette μ l1).bind fun m5 =>
        Sv_write_115 n m5 (jadd l1 1)
noncomputable def Sv_write_56  : Nat → Mem → Int → Option (Mem)
  | 0, _, _ => none
  | n + 1, μ, l1 =>
    if 12 < l1 then
      Sv_write_115 big μ 1
    else
      (ar 94 13 2 l1).bind fun o1 =>
      (gf μ 5 1 o1).bind fun x3 =>
      if x3 ≤ 0 then
        Sv_write_56 n μ (jadd l1 1)
      else
        (Sv_writeHead μ 35 l1).bind fun m5 =>
        (Sv_putSign m5 61).bind fun m8 =>
        (ar 94 13 2 l1).bind fun o11 =>
        (Sv_putUnits m8 o11).bind fun m13 =>
        (Sv_close m13).bind fun m16 =>
        Sv_write_56 n m16 (jadd l1 1)
noncomputable def Sv_write_17  : Nat → Mem → Int → Option (Mem)
  | 0, _, _ => none
  | n + 1, μ, l1 =>
    if 40 < l1 then
      Sv_write_56 big μ 1
    else
      (Sh_isPatched μ l1).bind fun x1 =>
      if x1 = 0 then
        Sv_write_17 n μ (jadd l1 1)
      else
        (ar 5 41 1 l1).bind fun o3 =>
        (Sv_writePatch μ l1 o3).bind fun m5 =>
        Sv_write_17 n m5 (jadd l1 1)
noncomputable def Sv_write (μ : Mem) : Option (Mem) :=
  (some (wr μ 257 3 0)).bind fun m1 =>
  (some (wr m1 257 4 0)).bind fun m4 =>
  (some (wr m4 257 5 0)).bind fun m7 =>
  Sv_write_17 big m7 1
noncomputable def D_save (μ : Mem) : Option (Int × Mem) :=
  (Sv_write μ).bind fun m1 =>
  if (m1 257 4) = 0 then
    (cD m1 258 0 2 0 (m1 257 3)).bind fun m4 =>
    (some (wr m4 1 1 (m4 257 3))).bind fun m7 =>
    some ((m7 1 1), m7)
  else
    some ((-1), m1)
noncomputable def D_tape (μ : Mem) (a1 : Int) : Option (Int) :=
  if a1 < 0 then
    some (-1)
  else
    if (μ 1 1) ≤ a1 then
      some (-1)
    else
      (aI μ 2 6000 a1).bind fun x1 =>
      some (jand x1 255)
noncomputable def Pl_nextIndex_55 (μ : Mem) : Option (Int) :=
  (Sh_countNotAbove μ (μ 221 3)).bind fun x1 =>
  if (μ 3 8) ≤ x1 then
    some (-1)
  else
    some x1
noncomputable def Pl_nextIndex_48 (μ : Mem) (s0 : Int) : Option (Int) :=
  if s0 < 0 then
    Pl_nextIndex_55 μ
  else
    some s0
noncomputable def Pl_nextIndex (μ : Mem) : Option (Int) :=
  (Sh_indexOf μ (μ 221 3)).bind fun x1 =>
  if x1 < 0 then
    Pl_nextIndex_55 μ
  else
    (aI μ 79 30 x1).bind fun x3 =>
    (gO μ 1 1 x3).bind fun x5 =>
    (rdI μ x5 5).bind fun x7 =>
    if x7 ≠ (-1) then
      (Sh_indexOf μ x7).bind fun x9 =>
      Pl_nextIndex_48 μ x9
    else
      Pl_nextIndex_48 μ (-1)
noncomputable def Pl_fadeTo_37 (μ : Mem) (l1 : Int) (l3 : Int) (s0 : Int) : Option (Mem) :=
  (gO μ 1 1 l3).bind fun x1 =>
  (rdI μ x1 3).bind fun x3 =>
  (sI μ 224 360 l1 (jadd (μ 221 2) x3)).bind fun m5 =>
  (gO m5 1 1 l3).bind fun x8 =>
  if (jrem l1 9) ≠ 0 then
    (rdI m5 x8 2).bind fun x10 =>
    (sI m5 225 360 l1 x10).bind fun m12 =>
    some m12
  else
    (rdI m5 x8 s0).bind fun x15 =>
    (sI m5 225 360 l1 x15).bind fun m17 =>
    some m17
noncomputable def Pl_fadeTo (μ : Mem) (a1 : Int) (a2 : Int) (a3 : Int) : Option (Mem) :=
  (Pl_cueLevel μ a1).bind fun x1 =>
  (sI μ 222 360 a1 a2).bind fun m3 =>
  (Pl_fadeFrom m3 a1 x1 0).bind fun m6 =>
  if a3 = 0 then
    some m6
  else
    if a2 ≤ x1 then
      Pl_fadeTo_37 m6 a1 a3 1
    else
      Pl_fadeTo_37 m6 a1 a3 0
noncomputable def Pl_take_150 (K29 : Mem → Int → Option (Mem)) (K73 : Mem → Int → Option (Mem)) (μ : Mem) (l1 : Int) (l2 : Int) (l3 : Int) (l4 : Int) (l5 : Int) (l6 : Int) (l7 : Int) (s1 : Int) (s2 : Int) (s3 : Int) : Option (Mem) :=
  (Pl_fadeTo μ s1 s2 s3).bind fun m1 =>
  K73 m1 (jadd l7 1)
noncomputable def Pl_take_115 (K29 : Mem → Int → Option (Mem)) (K73 : Mem → Int → Option (Mem)) (μ : Mem) (l1 : Int) (l2 : Int) (l3 : Int) (l4 : Int) (l5 : Int) (l6 : Int) (l7 : Int) (l8 : Int) (s0 : Int) : Option (Mem) :=
  (aI μ 222 360 (jadd l5 l7)).bind fun x1 =>
  if l8 = x1 then
    K73 μ (jadd l7 1)
  else
    if s0 = 0 then
      Pl_take_150 K29 K73 μ l1 l2 l3 l4 l5 l6 l7 (jadd l5 l7) l8 l3
    else
      Pl_take_150 K29 K73 μ l1 l2 l3 l4 l5 l6 l7 (jadd l5 l7) l8 0
noncomputable def Pl_take_73 (K29 : Mem → Int → Option (Mem)) (l1 : Int) (l2 : Int) (l3 : Int) (l4 : Int) (l5 : Int) (l6 : Int) : Nat → Mem → Int → Option (Mem)
  | 0, _, _ => none
  | n + 1, μ, l7 =>
    if 9 ≤ l7 then
      K29 μ (jadd l4 1)
    else
      (Sh_trackedLevel μ (jadd l1 1) l4 l7).bind fun x1 =>
      if l2 ≠ 0 then
        Pl_take_115 K29 (Pl_take_73 K29 l1 l2 l3 l4 l5 l6 n) μ l1 l2 l3 l4 l5 l6 l7 x1 1
      else
        if l6 = 0 then
          Pl_take_115 K29 (Pl_take_73 K29 l1 l2 l3 l4 l5 l6 n) μ l1 l2 l3 l4 l5 l6 l7 x1 0
        else
          if l7 = 0 then
            Pl_take_115 K29 (Pl_take_73 K29 l1 l2 l3 l4 l5 l6 n) μ l1 l2 l3 l4 l5 l6 l7 x1 0
          else
            Pl_take_115 K29 (Pl_take_73 K29 l1 l2 l3 l4 l5 l6 n) μ l1 l2 l3 l4 l5 l6 l7 x1 1
noncomputable def Pl_take_29 (l1 : Int) (l2 : Int) (l3 : Int) : Nat → Mem → Int → Option (Mem)
  | 0, _, _ => none
  | n + 1, μ, l4 =>
    if 40 < l4 then
      some μ
    else
      (D_cellOf μ l4 0).bind fun x1 =>
      (aI μ 222 360 x1).bind fun x3 =>
      if x3 ≠ 0 then
        Pl_take_73 (Pl_take_29 l1 l2 l3 n) l1 l2 l3 l4 x1 0 big μ 0
      else
        (Pl_cueLevel μ x1).bind fun x5 =>
        if x5 ≠ 0 then
          Pl_take_73 (Pl_take_29 l1 l2 l3 n) l1 l2 l3 l4 x1 0 big μ 0
        else
          Pl_take_73 (Pl_take_29 l1 l2 l3 n) l1 l2 l3 l4 x1 1 big μ 0
noncomputable def Pl_take (μ : Mem) (a1 : Int) (a2 : Int) : Option (Mem) :=
  (aI μ 79 30 a1).bind fun x1 =>
  (gf μ 1 0 x1).bind fun x3 =>
  (some (wr μ 221 3 x3)).bind fun m5 =>
  (some (wr m5 221 4 (m5 221 2))).bind fun m8 =>
  Pl_take_29 a1 a2 x1 big m8 1
noncomputable def Pl_followCurrent_2  : Nat → Mem → Int → Option (Mem)
  | 0, _, _ => none
  | n + 1, μ, l1 =>
    if 30 ≤ l1 then
      some μ
    else
      (Sh_indexOf μ (μ 221 3)).bind fun x1 =>
      if 0 ≤ x1 then
        (aI μ 79 30 x1).bind fun x3 =>
        (gO μ 1 1 x3).bind fun x5 =>
        (rdI μ x5 4).bind fun x7 =>
        (Pl_nextIndex μ).bind fun x9 =>
        if x7 = (-1) then
          some μ
        else
          if (μ 221 2) ≠ (jadd (μ 221 4) x7) then
            some μ
          else
            if 0 ≤ x9 then
              (Pl_take μ x9 0).bind fun m11 =>
              Pl_followCurrent_2 n m11 (jadd l1 1)
            else
              some μ
      else
        some μ
noncomputable def Pl_followCurrent (μ : Mem) : Option (Mem) :=
  Pl_followCurrent_2 big μ 0
noncomputable def Pl_takeAndFollow (μ : Mem) (a1 : Int) (a2 : Int) : Option (Int × Mem) :=
  if a1 < 0 then
    some (0, μ)
  else
    if a1 < (μ 3 8) then
      (Pl_take μ a1 a2).bind fun m1 =>
      (Pl_followCurrent m1).bind fun m4 =>
      some (1, m4)
    else
      some (0, μ)
noncomputable def D_go (μ : Mem) : Option (Int × Mem) :=
  (Pl_nextIndex μ).bind fun x1 =>
  (Pl_takeAndFollow μ x1 0).bind fun p3 =>
  if p3.1 = 0 then
    some ((-1), p3.2)
  else
    some ((p3.2 221 3), p3.2)
noncomputable def D_back (μ : Mem) : Option (Int × Mem) :=
  (Sh_countNotAbove μ (jsub (μ 221 3) 1)).bind fun x1 =>
  (some (jsub x1 1)).bind fun x3 =>
  (Pl_takeAndFollow μ x3 1).bind fun p5 =>
  if p5.1 = 0 then
    some ((-1), p5.2)
  else
    some ((p5.2 221 3), p5.2)
noncomputable def D_jump (μ : Mem) (a1 : Int) : Option (Int × Mem) :=
  (Sh_indexOf μ a1).bind fun x1 =>
  (Pl_takeAndFollow μ x1 0).bind fun p3 =>
  if p3.1 = 0 then
    some ((-2), p3.2)
  else
    some ((p3.2 221 3), p3.2)
noncomputable def D_hold (μ : Mem) (a1 : Int) : Option (Int × Mem) :=
  (some (μ 221 5)).bind fun x1 =>
  (pz μ 221 5 a1).bind fun m3 =>
  if x1 = 0 ∨ x1 = 1 then some (x1, m3) else none
noncomputable def Pl_tick_12  : Nat → Mem → Int → Option (Mem)
  | 0, _, _ => none
  | n + 1, μ, l1 =>
    if 10 < l1 then
      if (μ 221 5) ≠ 0 then
        some μ
      else
        (some (wr μ 221 2 (jadd (μ 221 2) 1))).bind fun m1 =>
        (Pl_followCurrent m1).bind fun m4 =>
        some m4
    else
      (ar 83 11 1 l1).bind fun o8 =>
      (rdI μ o8 0).bind fun x10 =>
      if x10 ≠ (μ 221 1) then
        Pl_tick_12 n μ (jadd l1 1)
      else
        (ar 83 11 1 l1).bind fun o12 =>
        (rdI μ o12 1).bind fun x14 =>
        (Sh_indexOf μ x14).bind fun x16 =>
        (Pl_takeAndFollow μ x16 0).bind fun p18 =>
        Pl_tick_12 n p18.2 (jadd l1 1)
noncomputable def Pl_tick (μ : Mem) : Option (Mem) :=
  (some (wr μ 221 1 (jadd (μ 221 1) 1))).bind fun m1 =>
  Pl_tick_12 big m1 1
noncomputable def Sg_faderOf (μ : Mem) (a1 : Int) : Option (Int) :=
  (aI μ 228 9 a1).bind fun x1 =>
  if x1 = 0 then
    (aI μ 227 9 a1).bind fun x3 =>
    some x3
  else
    some 1000
noncomputable def Sg_greatestOfSubs_4 (μ : Mem) (l1 : Int) : Nat → Int → Int → Option (Int)
  | 0, _, _ => none
  | n + 1, l2, l3 =>
    if 8 < l3 then
      some l2
    else
      (aI μ 71 9 l3).bind fun x1 =>
      if x1 ≠ 0 then
        Sg_greatestOfSubs_4 μ l1 n l2 (jadd l3 1)
      else
        (ar 62 9 1 l3).bind fun o3 =>
        (rdI μ o3 l1).bind fun x5 =>
        if x5 = (-1) then
          Sg_greatestOfSubs_4 μ l1 n l2 (jadd l3 1)
        else
          (ar 62 9 1 l3).bind fun o7 =>
          (rdI μ o7 l1).bind fun x9 =>
          (Sg_faderOf μ l3).bind fun x11 =>
          (some (mxI l2 (jdiv (jmul x9 x11) 1000))).bind fun x13 =>
          Sg_greatestOfSubs_4 μ l1 n x13 (jadd l3 1)
noncomputable def Sg_greatestOfSubs (μ : Mem) (a1 : Int) : Option (Int) :=
  Sg_greatestOfSubs_4 μ a1 big 0 1
noncomputable def Sg_addedBy (μ : Mem) (a1 : Int) (a2 : Int) : Option (Int) :=
  (ar 120 5 2 a1).bind fun o1 =>
  if o1 ≠ 0 ∧ kd o1 = 5 then
    (Row_placeOf μ o1 a2).bind fun x4 =>
    if x4 < 0 then
      some 0
    else
      (gf μ 5 1 o1).bind fun x6 =>
      if x6 ≠ 0 then
        (ar 73 5 1 a1).bind fun o8 =>
        (rdI μ o8 3).bind fun x10 =>
        (rdI μ o8 4).bind fun x12 =>
        (gf μ 5 1 o1).bind fun x14 =>
        if x14 = 0 then none else
        (some (qadd (qmul (μ 221 1) x10) (jdiv (jmul x4 x12) x14))).bind fun x17 =>
        (some (q2i (qrem x17 1000))).bind fun x19 =>
        (rdI μ o8 0).bind fun x21 =>
        if x21 ≠ 0 then
          (rdI μ o8 0).bind fun x23 =>
          if x23 ≠ 1 then
            if x19 < 500 then
              some 0
            else
              (rdI μ o8 2).bind fun x25 =>
              some x25
          else
            (rdI μ o8 2).bind fun x28 =>
            if 500 ≤ x19 then
              some (jdiv (jmul x28 (jsub 2000 (jmul 2 x19))) 1000)
            else
              some (jdiv (jmul x28 (jmul 2 x19)) 1000)
        else
          (rdI μ o8 2).bind fun x32 =>
          some (jdiv (jmul x32 x19) 1000)
      else
        some 0
  else none
noncomputable def Sg_levelOf_71 (μ : Mem) (l1 : Int) (l2 : Int) : Nat → Int → Int → Option (Int)
  | 0, _, _ => none
  | n + 1, l5, l6 =>
    if 4 < l6 then
      some l5
    else
      (aI μ 229 5 l6).bind fun x1 =>
      if x1 = 0 then
        Sg_levelOf_71 μ l1 l2 n l5 (jadd l6 1)
      else
        (ar 73 5 1 l6).bind fun o3 =>
        (rdI μ o3 0).bind fun x5 =>
        if x5 = (-1) then
          Sg_levelOf_71 μ l1 l2 n l5 (jadd l6 1)
        else
          (ar 73 5 1 l6).bind fun o7 =>
          (rdI μ o7 1).bind fun x9 =>
          if x9 ≠ l2 then
            Sg_levelOf_71 μ l1 l2 n l5 (jadd l6 1)
          else
            (Sg_addedBy μ l6 l1).bind fun x11 =>
            (some (mnI 1000 (jadd l5 x11))).bind fun x13 =>
            Sg_levelOf_71 μ l1 l2 n x13 (jadd l6 1)
noncomputable def Sg_levelOf_44 (μ : Mem) (l1 : Int) (l2 : Int) (l4 : Int) (s0 : Int) : Option (Int) :=
  if l2 ≠ 0 then
    Sg_levelOf_71 μ l1 l2 big s0 1
  else
    if l4 ≠ (-1) then
      Sg_levelOf_71 μ l1 l2 big s0 1
    else
      (Sg_greatestOfSubs μ l1).bind fun x1 =>
      (some (mxI s0 x1)).bind fun x3 =>
      Sg_levelOf_71 μ l1 l2 big x3 1
noncomputable def Sg_levelOf (μ : Mem) (a1 : Int) (a2 : Int) : Option (Int) :=
  (D_cellOf μ a1 a2).bind fun x1 =>
  (aI μ 80 360 x1).bind fun x3 =>
  if x3 ≠ (-1) then
    (Sh_levelFor μ x3 a2).bind fun x5 =>
    Sg_levelOf_44 μ a1 a2 x3 x5
  else
    (Pl_cueLevel μ x1).bind fun x7 =>
    Sg_levelOf_44 μ a1 a2 x3 x7
noncomputable def Sg_moveRollers_2  : Nat → Mem → Int → Option (Mem)
  | 0, _, _ => none
  | n + 1, μ, l1 =>
    if 40 < l1 then
      some μ
    else
      (ar 5 41 1 l1).bind fun o1 =>
      (rdI μ o1 0).bind fun x3 =>
      if x3 ≠ 8 then
        Sg_moveRollers_2 n μ (jadd l1 1)
      else
        (Sg_levelOf μ l1 8).bind fun x5 =>
        (aI μ 230 41 l1).bind fun x7 =>
        (some (jsub x5 x7)).bind fun x9 =>
        (aI μ 230 41 l1).bind fun x11 =>
        (sI μ 230 41 l1 (jadd x11 (mxI (-40) (mnI 40 x9)))).bind fun m13 =>
        Sg_moveRollers_2 n m13 (jadd l1 1)
noncomputable def Sg_moveRollers (μ : Mem) : Option (Mem) :=
  Sg_moveRollers_2 big μ 1
noncomputable def D_advance_16 (l1 : Int) : Nat → Mem → Int → Option (Int × Mem)
  | 0, _, _ => none
  | n + 1, μ, l2 =>
    if l1 ≤ l2 then
      some ((μ 221 1), μ)
    else
      (Pl_tick μ).bind fun m1 =>
      (Sg_moveRollers m1).bind fun m4 =>
      D_advance_16 l1 n m4 (jadd l2 1)
noncomputable def D_advance (μ : Mem) (a1 : Int) : Option (Int × Mem) :=
  if a1 < 0 then
    some ((-4), μ)
  else
    if a1 ≤ 600 then
      D_advance_16 a1 big μ 0
    else
      some ((-4), μ)
noncomputable def D_isIn (μ : Mem) (a0 : Int) (a1 : Int) : Option (Int) :=
  if a0 < 1 then
    some 0
  else
    if a1 < a0 then
      some 0
    else
      some 1
noncomputable def D_isLevel (μ : Mem) (a0 : Int) : Option (Int) :=
  if a0 < 0 then
    some 0
  else
    if 1000 < a0 then
      some 0
    else
      some 1
noncomputable def D_fader (μ : Mem) (a1 : Int) (a2 : Int) : Option (Int × Mem) :=
  (D_isIn μ a1 8).bind fun x1 =>
  if x1 ≠ 0 then
    (D_isLevel μ a2).bind fun x3 =>
    if x3 ≠ 0 then
      (aI μ 227 9 a1).bind fun x5 =>
      (sI μ 227 9 a1 a2).bind fun m7 =>
      some (x5, m7)
    else
      some ((-4), μ)
  else
    some ((-2), μ)
noncomputable def D_bump_29 (μ : Mem) (l1 : Int) (l2 : Int) (s0 : Int) : Option (Int × Mem) :=
  (sI μ 228 9 l1 (jz l2)).bind fun m1 =>
  some (s0, m1)
noncomputable def D_bump (μ : Mem) (a1 : Int) (a2 : Int) : Option (Int × Mem) :=
  (D_isIn μ a1 8).bind fun x1 =>
  if x1 ≠ 0 then
    (aI μ 228 9 a1).bind fun x3 =>
    if x3 = 0 then
      D_bump_29 μ a1 a2 0
    else
      D_bump_29 μ a1 a2 1
  else
    some ((-2), μ)
noncomputable def D_grand (μ : Mem) (a1 : Int) : Option (Int × Mem) :=
  (D_isLevel μ a1).bind fun x1 =>
  if x1 ≠ 0 then
    (some (μ 226 4)).bind fun x3 =>
    (some (wr μ 226 4 a1)).bind fun m5 =>
    some (x3, m5)
  else
    some ((-4), μ)
noncomputable def D_black (μ : Mem) (a1 : Int) : Option (Int × Mem) :=
  (some (μ 226 5)).bind fun x1 =>
  (pz μ 226 5 a1).bind fun m3 =>
  if x1 = 0 ∨ x1 = 1 then some (x1, m3) else none
noncomputable def D_run_28 (μ : Mem) (l1 : Int) (l2 : Int) (s0 : Int) : Option (Int × Mem) :=
  (sI μ 229 5 l1 (jz l2)).bind fun m1 =>
  some (s0, m1)
noncomputable def D_run (μ : Mem) (a1 : Int) (a2 : Int) : Option (Int × Mem) :=
  (D_isIn μ a1 4).bind fun x1 =>
  if x1 ≠ 0 then
    (aI μ 229 5 a1).bind fun x3 =>
    if x3 = 0 then
      D_run_28 μ a1 a2 0
    else
      D_run_28 μ a1 a2 1
  else
    some ((-2), μ)
noncomputable def Sg_curved (μ : Mem) (a0 : Int) (a1 : Int) : Option (Int) :=
  if a1 = 1 then
    some (jdiv (jmul a0 a0) 1000)
  else
  if a1 = 2 then
    some (jdiv (jmul a0 (jsub 2000 a0)) 1000)
  else
  if a1 = 3 then
    if a0 ≤ 0 then
      some 0
    else
      some 1000
  else
  some a0
noncomputable def Sg_shownOf_79 (μ : Mem) (l1 : Int) (l2 : Int) : Option (Int) :=
  (ar 5 41 1 l1).bind fun o1 =>
  (rdI μ o1 2).bind fun x3 =>
  (ar 5 41 1 l1).bind fun o5 =>
  (rdI μ o5 3).bind fun x7 =>
  (Sg_curved μ (mnI l2 x3) x7).bind fun x9 =>
  (ar 5 41 1 l1).bind fun o11 =>
  (rdI μ o11 0).bind fun x13 =>
  if x13 = 2 then
    if (μ 226 5) = 0 then
      some (mxI x9 30)
    else
      some x9
  else
  if x13 = 3 then
    if x9 < 500 then
      some 0
    else
      some 1000
  else
  some x9
noncomputable def Sg_shownOf_18 (μ : Mem) (l1 : Int) : Nat → Int → Int → Option (Int)
  | 0, _, _ => none
  | n + 1, l2, l3 =>
    if 8 < l3 then
      if (μ 226 5) = 0 then
        Sg_shownOf_79 μ l1 l2
      else
        Sg_shownOf_79 μ l1 0
    else
      (aI μ 71 9 l3).bind fun x2 =>
      if x2 ≠ 1 then
        Sg_shownOf_18 μ l1 n l2 (jadd l3 1)
      else
        (ar 62 9 1 l3).bind fun o4 =>
        (rdI μ o4 l1).bind fun x6 =>
        if x6 = (-1) then
          Sg_shownOf_18 μ l1 n l2 (jadd l3 1)
        else
          (Sg_faderOf μ l3).bind fun x8 =>
          (some (jdiv (jmul l2 x8) 1000)).bind fun x10 =>
          Sg_shownOf_18 μ l1 n x10 (jadd l3 1)
noncomputable def Sg_shownOf (μ : Mem) (a1 : Int) : Option (Int) :=
  (Sg_levelOf μ a1 0).bind fun x1 =>
  (some (jdiv (jmul x1 (μ 226 4)) 1000)).bind fun x3 =>
  Sg_shownOf_18 μ a1 big x3 1
noncomputable def Sg_levelInSlot_80 (μ : Mem) (l3 : Int) (s1 : Int) (s2 : Int) : Option (Int) :=
  (Sg_levelOf μ s1 s2).bind fun x1 =>
  (rdI μ l3 4).bind fun x3 =>
  if x3 ≠ 1 then
    some x1
  else
    some (jsub 1000 x1)
noncomputable def Sg_levelInSlot_118 (μ : Mem) (s1 : Int) (s2 : Int) : Option (Int) :=
  (Sg_levelOf μ s1 s2).bind fun x1 =>
  some x1
noncomputable def Sg_levelInSlot_179 (μ : Mem) (l1 : Int) (l4 : Int) (s0 : Int) : Option (Int) :=
  if s0 = 0 then
    some l4
  else
    (Sg_shownOf μ l1).bind fun x1 =>
    some (jdiv (jmul l4 x1) 1000)
noncomputable def Sg_levelInSlot_149 (μ : Mem) (l1 : Int) (l2 : Int) (l3 : Int) : Option (Int) :=
  (Sg_levelOf μ l1 l2).bind fun x1 =>
  (rdI μ l3 0).bind fun x3 =>
  if x3 ≠ 5 then
    Sg_levelInSlot_179 μ l1 x1 0
  else
    if l2 < 1 then
      Sg_levelInSlot_179 μ l1 x1 0
    else
      if 3 < l2 then
        Sg_levelInSlot_179 μ l1 x1 0
      else
        Sg_levelInSlot_179 μ l1 x1 1
noncomputable def Sg_levelInSlot (μ : Mem) (a1 : Int) (a2 : Int) : Option (Int) :=
  (ar 5 41 1 a1).bind fun o1 =>
  if a2 = 0 then
    (Sg_shownOf μ a1).bind fun x3 =>
    some x3
  else
  if a2 = 1 then
    Sg_levelInSlot_149 μ a1 a2 o1
  else
  if a2 = 2 then
    Sg_levelInSlot_149 μ a1 a2 o1
  else
  if a2 = 3 then
    Sg_levelInSlot_149 μ a1 a2 o1
  else
  if a2 = 4 then
    (rdI μ o1 5).bind fun x9 =>
    if x9 ≠ 1 then
      Sg_levelInSlot_80 μ o1 a1 4
    else
      Sg_levelInSlot_80 μ o1 a1 5
  else
  if a2 = 5 then
    (rdI μ o1 5).bind fun x13 =>
    if x13 ≠ 1 then
      Sg_levelInSlot_118 μ a1 5
    else
      Sg_levelInSlot_118 μ a1 4
  else
  if a2 = 6 then
    Sg_levelInSlot_149 μ a1 a2 o1
  else
  if a2 = 7 then
    (Sg_shownOf μ a1).bind fun x18 =>
    if x18 ≠ 0 then
      (Sg_levelOf μ a1 7).bind fun x20 =>
      some x20
    else
      some 0
  else
  if a2 = 8 then
    (aI μ 230 41 a1).bind fun x24 =>
    some x24
  else
  Sg_levelInSlot_149 μ a1 a2 o1
noncomputable def Sg_byteOf (μ : Mem) (a1 : Int) : Option (Int) :=
  (aI μ 81 201 a1).bind fun x1 =>
  if x1 = (-1) then
    (Sh_ownerOf μ a1).bind fun x3 =>
    if x3 ≠ 0 then
      (ar 5 41 1 x3).bind fun o5 =>
      (rdI μ o5 1).bind fun x7 =>
      (some (jsub a1 x7)).bind fun x9 =>
      (ar 5 41 1 x3).bind fun o11 =>
      (rdI μ o11 0).bind fun x13 =>
      (aI μ (-4) 72 (jadd (jmul x13 8) x9)).bind fun x15 =>
      (Sg_levelInSlot μ x3 (jdiv x15 10)).bind fun x17 =>
      (some (jrem x15 10)).bind fun x19 =>
      if x19 ≠ 0 then
        (some (jdiv (jadd (jmul x17 65535) 500) 1000)).bind fun x21 =>
        if x19 ≠ 1 then
          some (jrem x21 256)
        else
          some (jdiv x21 256)
      else
        some (jdiv (jadd (jmul x17 255) 500) 1000)
    else
      some 0
  else
    (aI μ 81 201 a1).bind fun x26 =>
    some x26
noncomputable def D_slot (μ : Mem) (a1 : Int) : Option (Int) :=
  (D_isIn μ a1 200).bind fun x1 =>
  if x1 = 0 then
    some (-2)
  else
    (Sg_byteOf μ a1).bind fun x3 =>
    some x3
noncomputable def D_isCell (μ : Mem) (a0 : Int) (a1 : Int) : Option (Int) :=
  (D_isIn μ a0 40).bind fun x1 =>
  if x1 = 0 then
    some 0
  else
    if a1 < 0 then
      some 0
    else
      if 9 ≤ a1 then
        some 0
      else
        some 1
noncomputable def D_level (μ : Mem) (a1 : Int) (a2 : Int) : Option (Int) :=
  (D_isCell μ a1 a2).bind fun x1 =>
  if x1 = 0 then
    some (-2)
  else
    (Sh_has μ a1 a2).bind fun x3 =>
    if x3 ≠ 0 then
      (Sg_levelOf μ a1 a2).bind fun x5 =>
      some x5
    else
      some (-2)
noncomputable def D_shown (μ : Mem) (a1 : Int) : Option (Int) :=
  (D_isIn μ a1 40).bind fun x1 =>
  if x1 = 0 then
    some (-2)
  else
    (Sh_isPatched μ a1).bind fun x3 =>
    if x3 = 0 then
      some (-2)
    else
      (Sg_shownOf μ a1).bind fun x5 =>
      some x5
noncomputable def D_tracked (μ : Mem) (a1 : Int) (a2 : Int) (a3 : Int) : Option (Int) :=
  if a1 < 0 then
    some (-2)
  else
    if 999 < a1 then
      some (-2)
    else
      (D_isCell μ a2 a3).bind fun x1 =>
      if x1 ≠ 0 then
        (Sh_countNotAbove μ a1).bind fun x3 =>
        (Sh_trackedLevel μ x3 a2 a3).bind fun x5 =>
        some x5
      else
        some (-2)
noncomputable def D_origin (μ : Mem) (a1 : Int) (a2 : Int) (a3 : Int) : Option (Int) :=
  if a1 < 0 then
    some (-2)
  else
    if 999 < a1 then
      some (-2)
    else
      (D_isCell μ a2 a3).bind fun x1 =>
      if x1 ≠ 0 then
        (Sh_countNotAbove μ a1).bind fun x3 =>
        (D_cellOf μ a2 a3).bind fun x5 =>
        (Sh_originIndex μ x3 x5).bind fun x7 =>
        if 0 ≤ x7 then
          (aI μ 79 30 x7).bind fun x9 =>
          (gf μ 1 0 x9).bind fun x11 =>
          some x11
        else
          some 0
      else
        some (-2)
noncomputable def D_change (μ : Mem) (a1 : Int) (a2 : Int) (a3 : Int) : Option (Int) :=
  (Sh_indexOf μ a1).bind fun x1 =>
  if x1 < 0 then
    some (-2)
  else
    (D_isCell μ a2 a3).bind fun x3 =>
    if x3 ≠ 0 then
      (aI μ 79 30 x1).bind fun x5 =>
      (gO μ 1 2 x5).bind fun x7 =>
      (D_cellOf μ a2 a3).bind fun x9 =>
      (rdI μ x7 x9).bind fun x11 =>
      some x11
    else
      some (-2)
noncomputable def D_held (μ : Mem) (a1 : Int) (a2 : Int) : Option (Int) :=
  (D_isCell μ a1 a2).bind fun x1 =>
  if x1 = 0 then
    some (-2)
  else
    (D_cellOf μ a1 a2).bind fun x3 =>
    (aI μ 80 360 x3).bind fun x5 =>
    some x5
noncomputable def D_cue (μ : Mem) (a1 : Int) (a2 : Int) : Option (Int) :=
  if a1 < 0 then
    some (-1)
  else
    if a1 < (μ 3 8) then
      (aI μ 79 30 a1).bind fun x1 =>
      if a2 = 0 then
        (gf μ 1 0 x1).bind fun x3 =>
        some x3
      else
      if a2 = 1 then
        (gO μ 1 1 x1).bind fun x6 =>
        (rdI μ x6 (jsub a2 1)).bind fun x8 =>
        some x8
      else
      if a2 = 2 then
        (gO μ 1 1 x1).bind fun x11 =>
        (rdI μ x11 (jsub a2 1)).bind fun x13 =>
        some x13
      else
      if a2 = 3 then
        (gO μ 1 1 x1).bind fun x16 =>
        (rdI μ x16 (jsub a2 1)).bind fun x18 =>
        some x18
      else
      if a2 = 4 then
        (gO μ 1 1 x1).bind fun x21 =>
        (rdI μ x21 (jsub a2 1)).bind fun x23 =>
        some x23
      else
      if a2 = 5 then
        (gO μ 1 1 x1).bind fun x26 =>
        (rdI μ x26 (jsub a2 1)).bind fun x28 =>
        some x28
      else
      if a2 = 6 then
        (gO μ 1 2 x1).bind fun x31 =>
        (D_countValues μ x31).bind fun x33 =>
        some x33
      else
      if a2 = 7 then
        (gO μ 1 1 x1).bind fun x36 =>
        (rdI μ x36 5).bind fun x38 =>
        some x38
      else
      some (-1)
    else
      some (-1)
noncomputable def D_unit (μ : Mem) (a1 : Int) (a2 : Int) : Option (Int) :=
  (D_isIn μ a1 40).bind fun x1 =>
  if x1 = 0 then
    some (-1)
  else
    (Sh_isPatched μ a1).bind fun x3 =>
    if x3 = 0 then
      some (-1)
    else
      if a2 < 0 then
        some (-1)
      else
        if a2 ≤ 6 then
          if a2 ≠ 6 then
            (ar 5 41 1 a1).bind fun o5 =>
            (rdI μ o5 a2).bind fun x7 =>
            some x7
          else
            (aI μ 230 41 a1).bind fun x9 =>
            some x9
        else
          some (-1)
noncomputable def Row_unitAt (μ : Mem) (a0 : Int) (a1 : Int) : Option (Int) :=
  if a1 < 0 then
    some (-1)
  else
    (gf μ 5 1 a0).bind fun x1 =>
    if x1 ≤ a1 then
      some (-1)
    else
      (gO μ 5 1 a0).bind fun x3 =>
      (rdI μ x3 a1).bind fun x5 =>
      some x5
noncomputable def D_group (μ : Mem) (a1 : Int) (a2 : Int) : Option (Int) :=
  (D_isIn μ a1 12).bind fun x1 =>
  if x1 = 0 then
    some (-1)
  else
    (ar 94 13 2 a1).bind fun o3 =>
    if o3 ≠ 0 ∧ kd o3 = 5 then
      (Row_unitAt μ o3 a2).bind fun x6 =>
      some x6
    else none
noncomputable def D_palette_24 (μ : Mem) (l1 : Int) (l2 : Int) (s0 : Int) : Option (Int) :=
  if s0 = 0 then
    some (-1)
  else
    (ar 48 13 1 l1).bind fun o1 =>
    (rdI μ o1 l2).bind fun x3 =>
    some x3
noncomputable def D_palette (μ : Mem) (a1 : Int) (a2 : Int) : Option (Int) :=
  (D_isIn μ a1 12).bind fun x1 =>
  if x1 = 0 then
    D_palette_24 μ a1 a2 0
  else
    if a2 < 0 then
      D_palette_24 μ a1 a2 0
    else
      if 9 ≤ a2 then
        D_palette_24 μ a1 a2 0
      else
        D_palette_24 μ a1 a2 1
noncomputable def D_sub (μ : Mem) (a1 : Int) (a2 : Int) : Option (Int) :=
  (D_isIn μ a1 8).bind fun x1 =>
  if x1 = 0 then
    some (-1)
  else
    (D_isIn μ a2 40).bind fun x3 =>
    if x3 = 0 then
      some (-1)
    else
      (ar 62 9 1 a1).bind fun o5 =>
      (rdI μ o5 a2).bind fun x7 =>
      some x7
noncomputable def D_masters (μ : Mem) (a1 : Int) : Option (Int) :=
  (D_isIn μ a1 8).bind fun x1 =>
  if x1 = 0 then
    some (-2)
  else
    (aI μ 71 9 a1).bind fun x3 =>
    some x3
noncomputable def D_park (μ : Mem) (a1 : Int) : Option (Int) :=
  (D_isIn μ a1 200).bind fun x1 =>
  if x1 = 0 then
    some (-1)
  else
    (aI μ 81 201 a1).bind fun x3 =>
    some x3
noncomputable def D_event (μ : Mem) (a1 : Int) (a2 : Int) : Option (Int) :=
  (D_isIn μ a1 10).bind fun x1 =>
  if x1 = 0 then
    some (-1)
  else
    if a2 < 0 then
      some (-1)
    else
      if 2 ≤ a2 then
        some (-1)
      else
        (ar 83 11 1 a1).bind fun o3 =>
        (rdI μ o3 a2).bind fun x5 =>
        some x5
noncomputable def D_wave (μ : Mem) (a1 : Int) (a2 : Int) : Option (Int) :=
  (D_isIn μ a1 4).bind fun x1 =>
  if x1 = 0 then
    some (-1)
  else
    if 0 ≤ a2 then
      if 5 ≤ a2 then
        (ar 120 5 2 a1).bind fun o3 =>
        if o3 ≠ 0 ∧ kd o3 = 5 then
          (Row_unitAt μ o3 (jsub a2 5)).bind fun x6 =>
          some x6
        else none
      else
        (ar 73 5 1 a1).bind fun o8 =>
        (rdI μ o8 a2).bind fun x10 =>
        some x10
    else
      some (-1)
noncomputable def Sh_countPatched_4 (μ : Mem) : Nat → Int → Int → Option (Int)
  | 0, _, _ => none
  | n + 1, l1, l2 =>
    if 40 < l2 then
      some l1
    else
      (Sh_isPatched μ l2).bind fun x1 =>
      if x1 = 0 then
        Sh_countPatched_4 μ n l1 (jadd l2 1)
      else
        Sh_countPatched_4 μ n (jadd l1 1) (jadd l2 1)
noncomputable def Sh_countPatched (μ : Mem) : Option (Int) :=
  Sh_countPatched_4 μ big 0 1
noncomputable def Pl_countFading_4 (μ : Mem) : Nat → Int → Int → Option (Int)
  | 0, _, _ => none
  | n + 1, l1, l2 =>
    if 360 ≤ l2 then
      some l1
    else
      (Pl_cueLevel μ l2).bind fun x1 =>
      (aI μ 222 360 l2).bind fun x3 =>
      if x1 = x3 then
        Pl_countFading_4 μ n l1 (jadd l2 1)
      else
        Pl_countFading_4 μ n (jadd l1 1) (jadd l2 1)
noncomputable def Pl_countFading (μ : Mem) : Option (Int) :=
  Pl_countFading_4 μ big 0 0
noncomputable def D_state (μ : Mem) (a1 : Int) : Option (Int) :=
  if a1 = 0 then
    some (μ 221 1)
  else
  if a1 = 1 then
    some (μ 221 2)
  else
  if a1 = 2 then
    some (μ 221 3)
  else
  if a1 = 3 then
    some (μ 3 8)
  else
  if a1 = 4 then
    (Sh_countPatched μ).bind fun x5 =>
    some x5
  else
  if a1 = 5 then
    some (μ 1 6)
  else
  if a1 = 6 then
    some (μ 3 10)
  else
  if a1 = 7 then
    (D_countValues μ 80).bind fun x10 =>
    some x10
  else
  if a1 = 8 then
    (Pl_countFading μ).bind fun x13 =>
    some x13
  else
  if a1 = 9 then
    some (μ 1 1)
  else
  some (-1)
noncomputable def M_fourBytes_3 (l1 : Int) : Nat → Mem → Int → Option (Mem)
  | 0, _, _ => none
  | n + 1, μ, l2 =>
    if l2 < 0 then
      some μ
    else
      (sI μ 267 6000 (μ 259 10) (jand (jshr l1 l2) 255)).bind fun m1 =>
      (some (wr m1 259 10 (jadd (m1 259 10) 1))).bind fun m4 =>
      M_fourBytes_3 l1 n m4 (jadd l2 (-8))
noncomputable def M_fourBytes (μ : Mem) (a1 : Int) : Option (Mem) :=
  M_fourBytes_3 a1 big μ 24
noncomputable def M_feed (μ : Mem) (a1 : Int) (a2 : Int) (a3 : Int) (a4 : Int) (a5 : Int) : Option (Int × Mem) :=
  if (jadd (μ 259 10) 20) ≤ 6000 then
    (M_fourBytes μ a1).bind fun m1 =>
    (M_fourBytes m1 a2).bind fun m4 =>
    (M_fourBytes m4 a3).bind fun m7 =>
    (M_fourBytes m7 a4).bind fun m10 =>
    (M_fourBytes m10 a5).bind fun m13 =>
    some ((m13 259 10), m13)
  else
    some ((-1), μ)
noncomputable def M_in (μ : Mem) (a0 : Int) (a1 : Int) (a2 : Int) : Option (Int) :=
  if a0 < a1 then
    some 0
  else
    if a2 < a0 then
      some 0
    else
      some 1
noncomputable def M_end (μ : Mem) (a1 : Int) : Option (Int × Mem) :=
  (M_in μ a1 0 (μ 259 10)).bind fun x1 =>
  if x1 ≠ 0 then
    (some (wr μ 259 10 a1)).bind fun m3 =>
    some (a1, m3)
  else
    some ((-1), μ)
noncomputable def M_tape (μ : Mem) (a1 : Int) : Option (Int) :=
  (M_in μ a1 0 (jsub (μ 259 10) 1)).bind fun x1 =>
  if x1 = 0 then
    some (-1)
  else
    (aI μ 267 6000 a1).bind fun x3 =>
    some x3
noncomputable def M_fault (μ : Mem) (a1 : Int) : Option (Int) :=
  if a1 ≠ 0 then
    if a1 ≠ 1 then
      some (-1)
    else
      some (μ 259 12)
  else
    some (μ 259 11)
noncomputable def M_byteAt (μ : Mem) (a1 : Int) : Option (Int) :=
  if (μ 259 10) ≤ a1 then
    some 0
  else
    (aI μ 267 6000 a1).bind fun x1 =>
    some x1
noncomputable def M_isLetter (μ : Mem) (a0 : Int) : Option (Int) :=
  (M_in μ a0 97 122).bind fun x1 =>
  if x1 = 0 ∨ x1 = 1 then some x1 else none
noncomputable def M_readWord_46 (K4 : Mem → Int → Int → Option (Mem)) (μ : Mem) (l3 : Int) (s0 : Int) : Option (Mem) :=
  (some (wr μ 259 18 (jadd (μ 259 18) 1))).bind fun m1 =>
  K4 m1 s0 (jadd l3 1)
noncomputable def M_readWord_69 (μ : Mem) (l1 : Int) (l3 : Int) : Nat → Int → Int → Option (Mem)
  | 0, _, _ => none
  | n + 1, l4, l5 =>
    if 69 < l5 then
      if l4 < 0 then
        (sI μ 268 122 (μ 259 16) 4).bind fun m1 =>
        (sI m1 269 122 (m1 259 16) l4).bind fun m4 =>
        some m4
      else
        (sI μ 268 122 (μ 259 16) 1).bind fun m7 =>
        (sI m7 269 122 (m7 259 16) l4).bind fun m10 =>
        some m10
    else
      if 9 < l3 then
        M_readWord_69 μ l1 l3 n l4 (jadd l5 1)
      else
        (aI μ 260 70 l5).bind fun x14 =>
        if (qcmp x14 l1) ≠ 0 then
          M_readWord_69 μ l1 l3 n l4 (jadd l5 1)
        else
          M_readWord_69 μ l1 l3 n l5 (jadd l5 1)
noncomputable def M_readWord_4  : Nat → Mem → Int → Int → Option (Mem)
  | 0, _, _, _ => none
  | n + 1, μ, l1, l3 =>
    (M_byteAt μ (μ 259 18)).bind fun x1 =>
    (M_isLetter μ x1).bind fun x3 =>
    if x3 = 0 then
      M_readWord_69 μ l1 l3 big (-1) 0
    else
      if 9 ≤ l3 then
        M_readWord_46 (M_readWord_4 n) μ l3 l1
      else
        (M_byteAt μ (μ 259 18)).bind fun x5 =>
        M_readWord_46 (M_readWord_4 n) μ l3 (qadd (qmul 27 l1) (jsub x5 96))
noncomputable def M_readWord (μ : Mem) : Option (Mem) :=
  M_readWord_4 big μ 0 0
noncomputable def M_isDigit (μ : Mem) (a0 : Int) : Option (Int) :=
  (M_in μ a0 48 57).bind fun x1 =>
  if x1 = 0 ∨ x1 = 1 then some x1 else none
noncomputable def M_readNumber_43 (K4 : Mem → Int → Int → Option (Mem)) (μ : Mem) (l2 : Int) (s0 : Int) : Option (Mem) :=
  (some (wr μ 259 18 (jadd (μ 259 18) 1))).bind fun m1 =>
  K4 m1 s0 (jadd l2 1)
noncomputable def M_readNumber_4  : Nat → Mem → Int → Int → Option (Mem)
  | 0, _, _, _ => none
  | n + 1, μ, l1, l2 =>
    (M_byteAt μ (μ 259 18)).bind fun x1 =>
    (M_isDigit μ x1).bind fun x3 =>
    if x3 = 0 then
      if 4 < l2 then
        (sI μ 268 122 (μ 259 16) 4).bind fun m5 =>
        (sI m5 269 122 (m5 259 16) l1).bind fun m8 =>
        some m8
      else
        (sI μ 268 122 (μ 259 16) 2).bind fun m11 =>
        (sI m11 269 122 (m11 259 16) l1).bind fun m14 =>
        some m14
    else
      if 4 ≤ l2 then
        M_readNumber_43 (M_readNumber_4 n) μ l2 l1
      else
        (M_byteAt μ (μ 259 18)).bind fun x18 =>
        M_readNumber_43 (M_readNumber_4 n) μ l2 (jsub (jadd (jmul 10 l1) x18) 48)
noncomputable def M_readNumber (μ : Mem) : Option (Mem) :=
  M_readNumber_4 big μ 0 0
noncomputable def M_read_26 (K0 : Mem → Option (Mem)) (μ : Mem) : Option (Mem) :=
  (some (wr μ 259 18 (jadd (μ 259 18) 1))).bind fun m1 =>
  K0 m1
noncomputable def M_read_166 (μ : Mem) (s1 : Int) (s2 : Int) : Option (Mem) :=
  (sI μ 268 122 s1 s2).bind fun m1 =>
  (some (wr m1 259 18 (jadd (m1 259 18) 1))).bind fun m4 =>
  (some (wr m4 259 16 (jadd (m4 259 16) 1))).bind fun m7 =>
  some m7
noncomputable def M_read_0  : Nat → Mem → Option (Mem)
  | 0, _ => none
  | n + 1, μ =>
    (M_byteAt μ (μ 259 18)).bind fun x1 =>
    if x1 = 10 then
      M_read_26 (M_read_0 n) μ
    else
      (M_byteAt μ (μ 259 18)).bind fun x3 =>
      if x3 ≠ 32 then
        (M_byteAt μ (μ 259 18)).bind fun x5 =>
        (sI μ 270 122 (μ 259 16) (μ 259 18)).bind fun m7 =>
        (sI m7 269 122 (m7 259 16) x5).bind fun m10 =>
        if (m10 259 18) < (m10 259 10) then
          (M_isLetter m10 x5).bind fun x13 =>
          if x13 = 0 then
            (M_isDigit m10 x5).bind fun x15 =>
            if x15 = 0 then
              if x5 = 59 then
                M_read_166 m10 (m10 259 16) 3
              else
                if x5 = 43 then
                  M_read_166 m10 (m10 259 16) 3
                else
                  if x5 = 45 then
                    M_read_166 m10 (m10 259 16) 3
                  else
                    if x5 = 61 then
                      M_read_166 m10 (m10 259 16) 3
                    else
                      if x5 ≠ 64 then
                        M_read_166 m10 (m10 259 16) 4
                      else
                        M_read_166 m10 (m10 259 16) 3
            else
              (M_readNumber m10).bind fun m22 =>
              (some (wr m22 259 16 (jadd (m22 259 16) 1))).bind fun m25 =>
              some m25
          else
            (M_readWord m10).bind fun m29 =>
            (some (wr m29 259 16 (jadd (m29 259 16) 1))).bind fun m32 =>
            some m32
        else
          (sI m10 268 122 (m10 259 16) 0).bind fun m36 =>
          (some (wr m36 259 16 (jadd (m36 259 16) 1))).bind fun m39 =>
          some m39
      else
        M_read_26 (M_read_0 n) μ
noncomputable def M_read (μ : Mem)  : Option (Mem) := M_read_0 big μ
noncomputable def M_fail (μ : Mem) : Option (Mem) :=
  if (μ 259 19) ≠ 0 then
    (some (wr μ 259 19 1)).bind fun m1 =>
    some m1
  else
    (some (wr μ 259 11 1)).bind fun m4 =>
    (aI m4 270 122 (m4 259 17)).bind fun x7 =>
    (some (wr m4 259 12 x7)).bind fun m9 =>
    (some (wr m9 259 19 1)).bind fun m12 =>
    some m12
noncomputable def M_next (μ : Mem) : Option (Mem) :=
  (some (wr μ 259 17 (jadd (μ 259 17) 1))).bind fun m1 =>
  (M_read m1).bind fun m4 =>
  if (m4 259 17) ≠ 120 then
    some m4
  else
    (M_fail m4).bind fun m7 =>
    some m7
noncomputable def M_isNumber (μ : Mem) : Option (Int) :=
  if (μ 259 19) ≠ 0 then
    some 0
  else
    (aI μ 268 122 (μ 259 17)).bind fun x1 =>
    if x1 ≠ 2 then
      some 0
    else
      some 1
noncomputable def M_need (μ : Mem) (a1 : Int) : Option (Mem) :=
  if a1 = 0 then
    (M_fail μ).bind fun m1 =>
    some m1
  else
    (M_next μ).bind fun m4 =>
    some m4
noncomputable def M_number (μ : Mem) : Option (Mem) :=
  (M_isNumber μ).bind fun x1 =>
  (M_need μ x1).bind fun m3 =>
  some m3
noncomputable def M_isWordIn (μ : Mem) (a1 : Int) (a2 : Int) : Option (Int) :=
  if (μ 259 19) ≠ 0 then
    some 0
  else
    (aI μ 268 122 (μ 259 17)).bind fun x1 =>
    if x1 ≠ 1 then
      some 0
    else
      (aI μ 269 122 (μ 259 17)).bind fun x3 =>
      (M_in μ x3 a1 a2).bind fun x5 =>
      if x5 = 0 then
        some 0
      else
        some 1
noncomputable def M_isWord (μ : Mem) (a1 : Int) : Option (Int) :=
  if (μ 259 19) ≠ 0 then
    some 0
  else
    (aI μ 268 122 (μ 259 17)).bind fun x1 =>
    if x1 ≠ 1 then
      some 0
    else
      (aI μ 269 122 (μ 259 17)).bind fun x3 =>
      if x3 ≠ a1 then
        some 0
      else
        some 1
noncomputable def M_word (μ : Mem) (a1 : Int) : Option (Mem) :=
  (M_isWord μ a1).bind fun x1 =>
  (M_need μ x1).bind fun m3 =>
  some m3
noncomputable def M_options_70 (K3 : Mem → Int → Option (Mem)) (μ : Mem) (l1 : Int) (l2 : Int) (l3 : Int) (l4 : Int) (l5 : Int) (s0 : Int) (s1 : Int) : Option (Mem) :=
  (some (jshl s0 s1)).bind fun x1 =>
  if (jand l4 x1) = 0 then
    (some (jor l4 x1)).bind fun x3 =>
    (M_next μ).bind fun m5 =>
    if l3 ≤ l5 then
      K3 m5 x3
    else
      (M_number m5).bind fun m8 =>
      K3 m8 x3
  else
    (M_fail μ).bind fun m12 =>
    K3 m12 l4
noncomputable def M_options_3 (l1 : Int) (l2 : Int) (l3 : Int) : Nat → Mem → Int → Option (Mem)
  | 0, _, _ => none
  | n + 1, μ, l4 =>
    (M_isWordIn μ l1 l2).bind fun x1 =>
    if x1 = 0 then
      some μ
    else
      (aI μ 269 122 (μ 259 17)).bind fun x3 =>
      (some (jsub x3 l1)).bind fun x5 =>
      (aI μ 269 122 (μ 259 17)).bind fun x7 =>
      if x7 ≠ 46 then
        (aI μ 269 122 (μ 259 17)).bind fun x9 =>
        if x9 ≠ 47 then
          M_options_70 (M_options_3 l1 l2 l3 n) μ l1 l2 l3 l4 x5 1 x5
        else
          M_options_70 (M_options_3 l1 l2 l3 n) μ l1 l2 l3 l4 x5 1 (jsub 45 l1)
      else
        M_options_70 (M_options_3 l1 l2 l3 n) μ l1 l2 l3 l4 x5 1 (jsub 44 l1)
noncomputable def M_options (μ : Mem) (a1 : Int) (a2 : Int) (a3 : Int) : Option (Mem) :=
  M_options_3 a1 a2 a3 big μ 0
noncomputable def M_term (μ : Mem) : Option (Mem) :=
  (M_isWord μ 0).bind fun x1 =>
  if x1 = 0 then
    (M_isWord μ 1).bind fun x3 =>
    if x3 = 0 then
      (M_number μ).bind fun m5 =>
      (M_isWord m5 2).bind fun x8 =>
      if x8 = 0 then
        some m5
      else
        (M_next m5).bind fun m10 =>
        (M_number m10).bind fun m13 =>
        some m13
    else
      (M_next μ).bind fun m17 =>
      (M_number m17).bind fun m20 =>
      some m20
  else
    (M_next μ).bind fun m24 =>
    some m24
noncomputable def M_isSign (μ : Mem) (a1 : Int) : Option (Int) :=
  if (μ 259 19) ≠ 0 then
    some 0
  else
    (aI μ 268 122 (μ 259 17)).bind fun x1 =>
    if x1 ≠ 3 then
      some 0
    else
      (aI μ 269 122 (μ 259 17)).bind fun x3 =>
      if x3 ≠ a1 then
        some 0
      else
        some 1
noncomputable def M_moreTerms_18 (K0 : Mem → Option (Mem)) (μ : Mem) : Option (Mem) :=
  (M_next μ).bind fun m1 =>
  (M_term m1).bind fun m4 =>
  K0 m4
noncomputable def M_moreTerms_0  : Nat → Mem → Option (Mem)
  | 0, _ => none
  | n + 1, μ =>
    (M_isSign μ 43).bind fun x1 =>
    if x1 ≠ 0 then
      M_moreTerms_18 (M_moreTerms_0 n) μ
    else
      (M_isSign μ 45).bind fun x3 =>
      if x3 = 0 then
        some μ
      else
        M_moreTerms_18 (M_moreTerms_0 n) μ
noncomputable def M_moreTerms (μ : Mem)  : Option (Mem) := M_moreTerms_0 big μ
noncomputable def M_set (μ : Mem) : Option (Mem) :=
  (M_term μ).bind fun m1 =>
  (M_moreTerms m1).bind fun m4 =>
  some m4
noncomputable def M_isWhat (μ : Mem) : Option (Int) :=
  (M_isSign μ 64).bind fun x1 =>
  if x1 ≠ 0 then
    some 1
  else
    (M_isWordIn μ 61 69).bind fun x3 =>
    if x3 ≠ 0 then
      some 1
    else
      (M_isWord μ 10).bind fun x5 =>
      if x5 ≠ 0 then
        some 1
      else
        (M_isWord μ 50).bind fun x7 =>
        if x7 ≠ 0 then
          some 1
        else
          (M_isWord μ 51).bind fun x9 =>
          if x9 = 0 then
            some 0
          else
            some 1
noncomputable def M_amount_43 (μ : Mem) : Option (Mem) :=
  (M_next μ).bind fun m1 =>
  (M_number m1).bind fun m4 =>
  some m4
noncomputable def M_amount (μ : Mem) : Option (Mem) :=
  (M_isWord μ 48).bind fun x1 =>
  if x1 = 0 then
    (M_isWord μ 49).bind fun x3 =>
    if x3 ≠ 0 then
      M_amount_43 μ
    else
      (M_isSign μ 43).bind fun x5 =>
      if x5 ≠ 0 then
        M_amount_43 μ
      else
        (M_isSign μ 45).bind fun x7 =>
        if x7 = 0 then
          (M_number μ).bind fun m9 =>
          (M_isWord m9 2).bind fun x12 =>
          if x12 = 0 then
            some m9
          else
            (M_next m9).bind fun m14 =>
            (M_number m14).bind fun m17 =>
            some m17
        else
          M_amount_43 μ
  else
    (M_next μ).bind fun m24 =>
    some m24
noncomputable def M_whats_63 (K11 : Mem → Option (Mem)) (μ : Mem) (l2 : Int) : Option (Mem) :=
  if l2 = 0 then
    K11 μ
  else
    (M_number μ).bind fun m1 =>
    K11 m1
noncomputable def M_whats_43 (K11 : Mem → Option (Mem)) (μ : Mem) (s0 : Int) : Option (Mem) :=
  (M_isWord μ 10).bind fun x1 =>
  (M_next μ).bind fun m3 =>
  if s0 = 0 then
    M_whats_63 K11 m3 x1
  else
    (M_amount m3).bind fun m6 =>
    M_whats_63 K11 m6 x1
noncomputable def M_whats_11  : Nat → Mem → Option (Mem)
  | 0, _ => none
  | n + 1, μ =>
    (M_isWhat μ).bind fun x1 =>
    if x1 = 0 then
      some μ
    else
      (M_isSign μ 64).bind fun x3 =>
      if x3 ≠ 0 then
        M_whats_43 (M_whats_11 n) μ 1
      else
        (M_isWordIn μ 61 69).bind fun x5 =>
        if x5 = 0 then
          M_whats_43 (M_whats_11 n) μ 0
        else
          M_whats_43 (M_whats_11 n) μ 1
noncomputable def M_whats (μ : Mem) : Option (Mem) :=
  (M_isWhat μ).bind fun x1 =>
  if x1 ≠ 0 then
    M_whats_11 big μ
  else
    (M_fail μ).bind fun m3 =>
    M_whats_11 big m3
noncomputable def M_groupOrSet (μ : Mem) : Option (Mem) :=
  (M_next μ).bind fun m1 =>
  (M_number m1).bind fun m4 =>
  (M_isSign m4 61).bind fun x7 =>
  if x7 = 0 then
    (M_moreTerms m4).bind fun m9 =>
    (M_whats m9).bind fun m12 =>
    some m12
  else
    (M_next m4).bind fun m15 =>
    (M_set m15).bind fun m18 =>
    some m18
noncomputable def M_sign (μ : Mem) (a1 : Int) : Option (Mem) :=
  (M_isSign μ a1).bind fun x1 =>
  (M_need μ x1).bind fun m3 =>
  some m3
noncomputable def M_levels_31 (μ : Mem) : Option (Mem) :=
  (M_options μ 61 69 9).bind fun m1 =>
  some m1
noncomputable def M_levels (μ : Mem) : Option (Mem) :=
  (M_isWord μ 11).bind fun x1 =>
  if x1 = 0 then
    (M_isWordIn μ 61 69).bind fun x3 =>
    if x3 ≠ 0 then
      M_levels_31 μ
    else
      (M_fail μ).bind fun m5 =>
      M_levels_31 m5
  else
    (M_next μ).bind fun m9 =>
    some m9
noncomputable def M_subs_20 (μ : Mem) : Option (Mem) :=
  (M_next μ).bind fun m1 =>
  some m1
noncomputable def M_subs (μ : Mem) : Option (Mem) :=
  (M_isWord μ 11).bind fun x1 =>
  if x1 ≠ 0 then
    M_subs_20 μ
  else
    (M_isWordIn μ 14 15).bind fun x3 =>
    if x3 = 0 then
      (M_word μ 13).bind fun m5 =>
      (M_set m5).bind fun m8 =>
      (M_sign m8 64).bind fun m11 =>
      (M_number m11).bind fun m14 =>
      some m14
    else
      M_subs_20 μ
noncomputable def M_parameter (μ : Mem) : Option (Mem) :=
  (M_isWordIn μ 61 69).bind fun x1 =>
  (M_need μ x1).bind fun m3 =>
  some m3
noncomputable def M_waves (μ : Mem) : Option (Mem) :=
  (M_isWord μ 11).bind fun x1 =>
  if x1 = 0 then
    (M_isWordIn μ 37 39).bind fun x3 =>
    (M_need μ x3).bind fun m5 =>
    (M_parameter m5).bind fun m8 =>
    (M_word m8 17).bind fun m11 =>
    (M_number m11).bind fun m14 =>
    (M_word m14 18).bind fun m17 =>
    (M_number m17).bind fun m20 =>
    (M_word m20 19).bind fun m23 =>
    (M_number m23).bind fun m26 =>
    (M_word m26 20).bind fun m29 =>
    (M_set m29).bind fun m32 =>
    some m32
  else
    (M_next μ).bind fun m35 =>
    some m35
noncomputable def M_times (μ : Mem) : Option (Mem) :=
  (M_options μ 40 47 6).bind fun m1 =>
  some m1
noncomputable def M_otherStatement_74 (μ : Mem) (s1 : Int) : Option (Mem) :=
  (M_need μ s1).bind fun m1 =>
  some m1
noncomputable def M_otherStatement (μ : Mem) (a1 : Int) : Option (Mem) :=
  if a1 = 34 then
    (M_next μ).bind fun m1 =>
    (M_number m1).bind fun m4 =>
    (M_sign m4 64).bind fun m7 =>
    (M_number m7).bind fun m10 =>
    some m10
  else
  if a1 = 35 then
    (M_next μ).bind fun m14 =>
    (M_isWord m14 0).bind fun x17 =>
    if x17 ≠ 0 then
      M_otherStatement_74 m14 1
    else
      (M_isNumber m14).bind fun x19 =>
      if x19 = 0 then
        M_otherStatement_74 m14 0
      else
        M_otherStatement_74 m14 1
  else
  if a1 = 36 then
    (M_next μ).bind fun m24 =>
    (M_number m24).bind fun m27 =>
    (M_sign m27 61).bind fun m30 =>
    (M_isWord m30 11).bind fun x33 =>
    if x33 = 0 then
      (M_number m30).bind fun m35 =>
      (M_word m35 21).bind fun m38 =>
      (M_number m38).bind fun m41 =>
      some m41
    else
      (M_next m30).bind fun m44 =>
      some m44
  else
  (M_set μ).bind fun m49 =>
  (M_whats m49).bind fun m52 =>
  some m52
noncomputable def M_cueStatement_95 (μ : Mem) : Option (Mem) :=
  (M_times μ).bind fun m1 =>
  some m1
noncomputable def M_cueStatement_68 (μ : Mem) (l1 : Int) : Option (Mem) :=
  (M_next μ).bind fun m1 =>
  (M_number m1).bind fun m4 =>
  if l1 ≠ 22 then
    M_cueStatement_95 m4
  else
    (M_isWord m4 23).bind fun x7 =>
    if x7 = 0 then
      M_cueStatement_95 m4
    else
      (M_next m4).bind fun m9 =>
      M_cueStatement_95 m9
noncomputable def M_cueStatement_102 (μ : Mem) : Option (Mem) :=
  (M_next μ).bind fun m1 =>
  some m1
noncomputable def M_cueStatement_109 (μ : Mem) : Option (Mem) :=
  (M_next μ).bind fun m1 =>
  (M_number m1).bind fun m4 =>
  some m4
noncomputable def M_cueStatement_141 (μ : Mem) (l1 : Int) : Option (Mem) :=
  (M_otherStatement μ l1).bind fun m1 =>
  some m1
noncomputable def M_cueStatement (μ : Mem) (a1 : Int) : Option (Mem) :=
  if a1 = 21 then
    M_cueStatement_68 μ a1
  else
  if a1 = 22 then
    M_cueStatement_68 μ a1
  else
  if a1 = 23 then
    M_cueStatement_141 μ a1
  else
  if a1 = 24 then
    M_cueStatement_102 μ
  else
  if a1 = 25 then
    M_cueStatement_109 μ
  else
  if a1 = 26 then
    (M_next μ).bind fun m6 =>
    (M_number m6).bind fun m9 =>
    (M_word m9 27).bind fun m12 =>
    (M_number m12).bind fun m15 =>
    some m15
  else
  if a1 = 27 then
    M_cueStatement_141 μ a1
  else
  if a1 = 28 then
    M_cueStatement_109 μ
  else
  if a1 = 29 then
    M_cueStatement_109 μ
  else
  if a1 = 30 then
    M_cueStatement_109 μ
  else
  if a1 = 31 then
    M_cueStatement_102 μ
  else
  if a1 = 32 then
    M_cueStatement_102 μ
  else
  if a1 = 33 then
    M_cueStatement_109 μ
  else
  M_cueStatement_141 μ a1
noncomputable def M_statement_220 (μ : Mem) : Option (Mem) :=
  (M_isSign μ 59).bind fun x1 =>
  if x1 ≠ 0 then
    some μ
  else
    (M_fail μ).bind fun m3 =>
    some m3
noncomputable def M_statement_215 (μ : Mem) (l1 : Int) : Option (Mem) :=
  (M_cueStatement μ l1).bind fun m1 =>
  M_statement_220 m1
noncomputable def M_statement_20 (μ : Mem) (s0 : Int) : Option (Mem) :=
  if s0 = 1 then
    (M_groupOrSet μ).bind fun m1 =>
    M_statement_220 m1
  else
  if s0 = 2 then
    M_statement_215 μ s0
  else
  if s0 = 3 then
    (M_next μ).bind fun m6 =>
    (M_number m6).bind fun m9 =>
    (M_isWordIn m9 52 60).bind fun x12 =>
    (M_need m9 x12).bind fun m14 =>
    (M_word m14 4).bind fun m17 =>
    (M_number m17).bind fun m20 =>
    (M_options m20 5 8 2).bind fun m23 =>
    M_statement_220 m23
  else
  if s0 = 4 then
    M_statement_215 μ s0
  else
  if s0 = 5 then
    M_statement_215 μ s0
  else
  if s0 = 6 then
    M_statement_215 μ s0
  else
  if s0 = 7 then
    M_statement_215 μ s0
  else
  if s0 = 8 then
    M_statement_215 μ s0
  else
  if s0 = 9 then
    (M_next μ).bind fun m32 =>
    (M_set m32).bind fun m35 =>
    M_statement_220 m35
  else
  if s0 = 10 then
    (M_next μ).bind fun m39 =>
    (M_number m39).bind fun m42 =>
    (M_sign m42 61).bind fun m45 =>
    (M_levels m45).bind fun m48 =>
    M_statement_220 m48
  else
  if s0 = 11 then
    M_statement_215 μ s0
  else
  if s0 = 12 then
    (M_next μ).bind fun m53 =>
    (M_number m53).bind fun m56 =>
    (M_subs m56).bind fun m59 =>
    M_statement_220 m59
  else
  if s0 = 13 then
    M_statement_215 μ s0
  else
  if s0 = 14 then
    M_statement_215 μ s0
  else
  if s0 = 15 then
    M_statement_215 μ s0
  else
  if s0 = 16 then
    (M_next μ).bind fun m66 =>
    (M_number m66).bind fun m69 =>
    (M_sign m69 61).bind fun m72 =>
    (M_waves m72).bind fun m75 =>
    M_statement_220 m75
  else
  M_statement_215 μ s0
noncomputable def M_statement (μ : Mem) : Option (Mem) :=
  if (μ 268 0) ≠ 1 then
    M_statement_20 μ (-1)
  else
    M_statement_20 μ (μ 269 0)
noncomputable def M_refuse (μ : Mem) (a1 : Int) (a2 : Int) (a3 : Int) : Option (Mem) :=
  if a1 = 0 then
    some μ
  else
    if (μ 259 11) ≤ 0 then
      (some (wr μ 259 11 a2)).bind fun m1 =>
      (aI m1 270 122 a3).bind fun x4 =>
      (some (wr m1 259 12 x4)).bind fun m6 =>
      some m6
    else
      some μ
noncomputable def M_bounds_20 (μ : Mem) (l1 : Int) (s1 : Int) : Option (Mem) :=
  (M_refuse μ s1 3 l1).bind fun m1 =>
  some m1
noncomputable def M_bounds (μ : Mem) (a1 : Int) (a2 : Int) (a3 : Int) : Option (Mem) :=
  (aI μ 269 122 a1).bind fun x1 =>
  (M_in μ x1 a2 a3).bind fun x3 =>
  if x3 ≠ 0 then
    M_bounds_20 μ a1 0
  else
    M_bounds_20 μ a1 1
noncomputable def M_isPatched (μ : Mem) (a1 : Int) : Option (Int) :=
  (aI μ 264 12943 (jmul 6 a1)).bind fun x1 =>
  if x1 < 0 then
    some 0
  else
    some 1
noncomputable def M_width_9 (μ : Mem) (l1 : Int) : Nat → Int → Int → Option (Int)
  | 0, _, _ => none
  | n + 1, l2, l3 =>
    (aI μ 263 10 (jadd l1 1)).bind fun x1 =>
    if x1 ≤ l3 then
      some l2
    else
      (aI μ 262 22 l3).bind fun x3 =>
      if x3 < 16 then
        (some (jadd l2 1)).bind fun x5 =>
        M_width_9 μ l1 n x5 (jadd l3 1)
      else
        (some (jadd l2 2)).bind fun x7 =>
        M_width_9 μ l1 n x7 (jadd l3 1)
noncomputable def M_width (μ : Mem) (a1 : Int) : Option (Int) :=
  (aI μ 263 10 a1).bind fun x1 =>
  M_width_9 μ a1 big 0 x1
noncomputable def M_isSignAt (μ : Mem) (a1 : Int) (a2 : Int) : Option (Int) :=
  (aI μ 268 122 a1).bind fun x1 =>
  if x1 ≠ 3 then
    some 0
  else
    (aI μ 269 122 a1).bind fun x3 =>
    if x3 ≠ a2 then
      some 0
    else
      some 1
noncomputable def M_isWordAt (μ : Mem) (a1 : Int) (a2 : Int) : Option (Int) :=
  (aI μ 268 122 a1).bind fun x1 =>
  if x1 ≠ 1 then
    some 0
  else
    (aI μ 269 122 a1).bind fun x3 =>
    if x3 ≠ a2 then
      some 0
    else
      some 1
noncomputable def M_checkPatch_222 (K189 : Mem → Int → Option (Mem)) (μ : Mem) (l4 : Int) : Option (Mem) :=
  (M_isWordAt μ l4 6).bind fun x1 =>
  if x1 = 0 then
    K189 μ (jadd l4 1)
  else
    (M_bounds μ (jadd l4 1) 0 3).bind fun m3 =>
    K189 m3 (jadd l4 1)
noncomputable def M_checkPatch_189  : Nat → Mem → Int → Option (Mem)
  | 0, _, _ => none
  | n + 1, μ, l4 =>
    (M_isSignAt μ l4 59).bind fun x1 =>
    if x1 ≠ 0 then
      some μ
    else
      (M_isWordAt μ l4 5).bind fun x3 =>
      if x3 = 0 then
        M_checkPatch_222 (M_checkPatch_189 n) μ l4
      else
        (M_bounds μ (jadd l4 1) 0 1000).bind fun m5 =>
        M_checkPatch_222 (M_checkPatch_189 n) m5 l4
noncomputable def M_checkPatch_181 (μ : Mem) (s1 : Int) : Option (Mem) :=
  (M_refuse μ s1 4 4).bind fun m1 =>
  M_checkPatch_189 big m1 5
noncomputable def M_checkPatch_92 (μ : Mem) (l1 : Int) (l2 : Int) : Nat → Int → Int → Option (Mem)
  | 0, _, _ => none
  | n + 1, l3, l4 =>
    if 40 ≤ l4 then
      if l3 ≠ 0 then
        M_checkPatch_181 μ 0
      else
        M_checkPatch_181 μ 1
    else
      if l3 = 0 then
        M_checkPatch_92 μ l1 l2 n 0 (jadd l4 1)
      else
        (M_isPatched μ l4).bind fun x2 =>
        if x2 = 0 then
          M_checkPatch_92 μ l1 l2 n 1 (jadd l4 1)
        else
          (aI μ 264 12943 (jadd (jmul 6 l4) 1)).bind fun x4 =>
          if l2 < x4 then
            M_checkPatch_92 μ l1 l2 n 1 (jadd l4 1)
          else
            (aI μ 264 12943 (jadd (jmul 6 l4) 1)).bind fun x6 =>
            (aI μ 264 12943 (jmul 6 l4)).bind fun x8 =>
            (M_width μ x8).bind fun x10 =>
            if l1 < (jadd x6 x10) then
              M_checkPatch_92 μ l1 l2 n 0 (jadd l4 1)
            else
              M_checkPatch_92 μ l1 l2 n 1 (jadd l4 1)
noncomputable def M_checkPatch_36 (μ : Mem) (s1 : Int) : Option (Mem) :=
  (M_refuse μ s1 7 1).bind fun m1 =>
  (M_bounds m1 4 1 200).bind fun m4 =>
  (some (m4 269 4)).bind fun x7 =>
  (M_width m4 (jsub (m4 269 2) 52)).bind fun x9 =>
  (some (jsub (jadd x7 x9) 1)).bind fun x11 =>
  if 200 < x11 then
    M_checkPatch_92 m4 x7 x11 big 0 0
  else
    M_checkPatch_92 m4 x7 x11 big 1 0
noncomputable def M_checkPatch (μ : Mem) : Option (Mem) :=
  (M_bounds μ 1 1 40).bind fun m1 =>
  if (m1 259 11) ≠ 0 then
    M_checkPatch_36 m1 0
  else
    (M_isPatched m1 (jsub (m1 269 1) 1)).bind fun x4 =>
    if x4 = 0 then
      M_checkPatch_36 m1 0
    else
      M_checkPatch_36 m1 1
noncomputable def M_put_80  : Nat → Mem → Int → Option (Mem)
  | 0, _, _ => none
  | n + 1, μ, l4 =>
    if (μ 259 21) ≤ (jadd l4 1) then
      (some (wr μ 259 21 (jsub (μ 259 21) 1))).bind fun m1 =>
      some m1
    else
      (aI μ 271 40 (jadd l4 1)).bind fun x4 =>
      (sI μ 271 40 l4 x4).bind fun m6 =>
      M_put_80 n m6 (jadd l4 1)
noncomputable def M_put_69 (μ : Mem) (l2 : Int) (l3 : Int) : Option (Mem) :=
  if l2 ≠ 0 then
    some μ
  else
    if l3 < 0 then
      some μ
    else
      M_put_80 big μ l3
noncomputable def M_put_5 (μ : Mem) (l1 : Int) (l2 : Int) : Nat → Int → Int → Option (Mem)
  | 0, _, _ => none
  | n + 1, l3, l4 =>
    if (μ 259 21) ≤ l4 then
      if l2 = 0 then
        M_put_69 μ l2 l3
      else
        if 0 ≤ l3 then
          M_put_69 μ l2 l3
        else
          (sI μ 271 40 (μ 259 21) l1).bind fun m1 =>
          (some (wr m1 259 21 (jadd (m1 259 21) 1))).bind fun m4 =>
          some m4
    else
      (aI μ 271 40 l4).bind fun x9 =>
      if x9 ≠ l1 then
        M_put_5 μ l1 l2 n l3 (jadd l4 1)
      else
        M_put_5 μ l1 l2 n l4 (jadd l4 1)
noncomputable def M_put (μ : Mem) (a1 : Int) (a2 : Int) : Option (Mem) :=
  M_put_5 μ a1 a2 big (-1) 0
noncomputable def M_groupAt_55 (l2 : Int) (l3 : Int) : Nat → Mem → Int → Option (Mem)
  | 0, _, _ => none
  | n + 1, μ, l4 =>
    (aI μ 264 12943 l3).bind fun x1 =>
    if x1 < l4 then
      some μ
    else
      (aI μ 264 12943 (jadd l3 l4)).bind fun x3 =>
      (M_put μ x3 l2).bind fun m5 =>
      M_groupAt_55 l2 l3 n m5 (jadd l4 1)
noncomputable def M_groupAt_47 (μ : Mem) (l1 : Int) (l2 : Int) (l3 : Int) (s1 : Int) : Option (Mem) :=
  (M_refuse μ s1 2 l1).bind fun m1 =>
  M_groupAt_55 l2 l3 big m1 1
noncomputable def M_groupAt (μ : Mem) (a1 : Int) (a2 : Int) : Option (Mem) :=
  (M_bounds μ a1 1 12).bind fun m1 =>
  if (m1 259 11) ≤ 0 then
    (aI m1 269 122 a1).bind fun x4 =>
    (some (jadd 240 (jmul 41 (jsub x4 1)))).bind fun x6 =>
    (aI m1 264 12943 x6).bind fun x8 =>
    if x8 ≠ 0 then
      M_groupAt_47 m1 a1 a2 x6 0
    else
      M_groupAt_47 m1 a1 a2 x6 1
  else
    some m1
noncomputable def M_through_15 (l2 : Int) (l3 : Int) (l4 : Int) : Nat → Mem → Int → Option (Mem)
  | 0, _, _ => none
  | n + 1, μ, l5 =>
    if l5 = (jadd l2 l4) then
      some μ
    else
      (M_isPatched μ l5).bind fun x1 =>
      if x1 = 0 then
        (some (jadd l5 l4)).bind fun x3 =>
        M_through_15 l2 l3 l4 n μ x3
      else
        (M_put μ l5 l3).bind fun m5 =>
        (some (jadd l5 l4)).bind fun x8 =>
        M_through_15 l2 l3 l4 n m5 x8
noncomputable def M_through (μ : Mem) (a1 : Int) (a2 : Int) (a3 : Int) : Option (Mem) :=
  if a2 < a1 then
    M_through_15 a2 a3 (-1) big μ a1
  else
    M_through_15 a2 a3 1 big μ a1
noncomputable def M_termAt_11 (l1 : Int) (l2 : Int) : Nat → Mem → Int → Option (Int × Mem)
  | 0, _, _ => none
  | n + 1, μ, l3 =>
    if 40 ≤ l3 then
      some ((jadd l1 1), μ)
    else
      (M_isPatched μ l3).bind fun x1 =>
      if x1 = 0 then
        M_termAt_11 l1 l2 n μ (jadd l3 1)
      else
        (M_put μ l3 l2).bind fun m3 =>
        M_termAt_11 l1 l2 n m3 (jadd l3 1)
noncomputable def M_termAt_109 (μ : Mem) (l1 : Int) (l2 : Int) (s1 : Int) : Option (Int × Mem) :=
  (M_refuse μ s1 2 l1).bind fun m1 =>
  if (m1 259 11) ≠ 0 then
    some ((jadd l1 1), m1)
  else
    (aI m1 269 122 l1).bind fun x4 =>
    (M_put m1 (jsub x4 1) l2).bind fun m6 =>
    some ((jadd l1 1), m6)
noncomputable def M_termAt (μ : Mem) (a1 : Int) (a2 : Int) : Option (Int × Mem) :=
  (M_isWordAt μ a1 0).bind fun x1 =>
  if x1 = 0 then
    (M_isWordAt μ a1 1).bind fun x3 =>
    if x3 = 0 then
      (M_bounds μ a1 1 40).bind fun m5 =>
      (M_isWordAt m5 (jadd a1 1) 2).bind fun x8 =>
      if x8 ≠ 0 then
        (M_bounds m5 (jadd a1 2) 1 40).bind fun m10 =>
        if (m10 259 11) ≠ 0 then
          some ((jadd a1 3), m10)
        else
          (aI m10 269 122 a1).bind fun x13 =>
          (aI m10 269 122 (jadd a1 2)).bind fun x15 =>
          (M_through m10 (jsub x13 1) (jsub x15 1) a2).bind fun m17 =>
          some ((jadd a1 3), m17)
      else
        if (m5 259 11) ≠ 0 then
          M_termAt_109 m5 a1 a2 0
        else
          (aI m5 269 122 a1).bind fun x21 =>
          (M_isPatched m5 (jsub x21 1)).bind fun x23 =>
          if x23 ≠ 0 then
            M_termAt_109 m5 a1 a2 0
          else
            M_termAt_109 m5 a1 a2 1
    else
      (M_groupAt μ (jadd a1 1) a2).bind fun m28 =>
      some ((jadd a1 2), m28)
  else
    M_termAt_11 a1 a2 big μ 0
noncomputable def M_gather_32 (K12 : Mem → Int → Option (Mem)) (μ : Mem) (l1 : Int) (l2 : Int) : Option (Mem) :=
  (M_isSignAt μ l2 43).bind fun x1 =>
  (M_termAt μ (jadd l2 1) x1).bind fun p3 =>
  (some p3.1).bind fun x6 =>
  K12 p3.2 x6
noncomputable def M_gather_63 (μ : Mem) (l1 : Int) (l2 : Int) (s1 : Int) : Option (Mem) :=
  (M_refuse μ s1 6 l1).bind fun m1 =>
  (some (wr m1 259 22 l2)).bind fun m4 =>
  some m4
noncomputable def M_gather_12 (l1 : Int) : Nat → Mem → Int → Option (Mem)
  | 0, _, _ => none
  | n + 1, μ, l2 =>
    (M_isSignAt μ l2 43).bind fun x1 =>
    if x1 ≠ 0 then
      M_gather_32 (M_gather_12 l1 n) μ l1 l2
    else
      (M_isSignAt μ l2 45).bind fun x3 =>
      if x3 = 0 then
        if (μ 259 21) ≠ 0 then
          M_gather_63 μ l1 l2 0
        else
          M_gather_63 μ l1 l2 1
      else
        M_gather_32 (M_gather_12 l1 n) μ l1 l2
noncomputable def M_gather (μ : Mem) (a1 : Int) : Option (Mem) :=
  (some (wr μ 259 21 0)).bind fun m1 =>
  (M_termAt m1 a1 1).bind fun p4 =>
  (some p4.1).bind fun x7 =>
  M_gather_12 a1 big p4.2 x7
noncomputable def M_checkSet_40 (K10 : Mem → Int → Option (Mem)) (μ : Mem) (l1 : Int) : Option (Mem) :=
  (M_bounds μ (jadd l1 1) 1 12).bind fun m1 =>
  K10 m1 (jadd (jadd l1 1) 1)
noncomputable def M_checkSet_10  : Nat → Mem → Int → Option (Mem)
  | 0, _, _ => none
  | n + 1, μ, l1 =>
    (M_isSignAt μ l1 59).bind fun x1 =>
    if x1 ≠ 0 then
      some μ
    else
      (M_isWordAt μ l1 49).bind fun x3 =>
      if x3 ≠ 0 then
        M_checkSet_40 (M_checkSet_10 n) μ l1
      else
        (M_isWordAt μ l1 10).bind fun x5 =>
        if x5 = 0 then
          (aI μ 268 122 l1).bind fun x7 =>
          if x7 ≠ 2 then
            M_checkSet_10 n μ (jadd l1 1)
          else
            (M_bounds μ l1 0 1000).bind fun m9 =>
            M_checkSet_10 n m9 (jadd l1 1)
        else
          M_checkSet_40 (M_checkSet_10 n) μ l1
noncomputable def M_checkSet (μ : Mem) : Option (Mem) :=
  (M_gather μ 0).bind fun m1 =>
  (some (m1 259 22)).bind fun x4 =>
  M_checkSet_10 big m1 x4
noncomputable def M_isParameterAt (μ : Mem) (a1 : Int) : Option (Int) :=
  (M_isSignAt μ a1 64).bind fun x1 =>
  if x1 ≠ 0 then
    some 1
  else
    (aI μ 268 122 a1).bind fun x3 =>
    if x3 ≠ 1 then
      some 0
    else
      (aI μ 269 122 a1).bind fun x5 =>
      (M_in μ x5 61 69).bind fun x7 =>
      if x7 = 0 then
        some 0
      else
        some 1
noncomputable def M_cueNumber (μ : Mem) (a1 : Int) : Option (Int) :=
  (aI μ 264 12943 (jadd 1352 (jmul 7 a1))).bind fun x1 =>
  some x1
noncomputable def M_cueRow_4 (μ : Mem) (l1 : Int) : Nat → Int → Int → Option (Int)
  | 0, _, _ => none
  | n + 1, l2, l3 =>
    if 30 ≤ l3 then
      some l2
    else
      if l1 ≤ 0 then
        M_cueRow_4 μ l1 n l2 (jadd l3 1)
      else
        (M_cueNumber μ l3).bind fun x1 =>
        if x1 ≠ l1 then
          M_cueRow_4 μ l1 n l2 (jadd l3 1)
        else
          M_cueRow_4 μ l1 n l3 (jadd l3 1)
noncomputable def M_cueRow (μ : Mem) (a1 : Int) : Option (Int) :=
  M_cueRow_4 μ a1 big (-1) 0
noncomputable def M_cues_4 (μ : Mem) : Nat → Int → Int → Option (Int)
  | 0, _, _ => none
  | n + 1, l1, l2 =>
    if 30 ≤ l2 then
      some l1
    else
      (M_cueNumber μ l2).bind fun x1 =>
      if x1 ≤ 0 then
        (some (jadd l1 0)).bind fun x3 =>
        M_cues_4 μ n x3 (jadd l2 1)
      else
        (some (jadd l1 1)).bind fun x5 =>
        M_cues_4 μ n x5 (jadd l2 1)
noncomputable def M_cues (μ : Mem) : Option (Int) :=
  M_cues_4 μ big 0 0
noncomputable def M_checkNumber_37 (μ : Mem) (l1 : Int) (s1 : Int) : Option (Mem) :=
  (M_refuse μ s1 5 l1).bind fun m1 =>
  some m1
noncomputable def M_checkNumber (μ : Mem) (a1 : Int) : Option (Mem) :=
  (M_bounds μ a1 1 999).bind fun m1 =>
  (aI m1 269 122 a1).bind fun x4 =>
  (M_cueRow m1 x4).bind fun x6 =>
  if 0 ≤ x6 then
    M_checkNumber_37 m1 a1 0
  else
    (M_cues m1).bind fun x8 =>
    if x8 ≠ 30 then
      M_checkNumber_37 m1 a1 0
    else
      M_checkNumber_37 m1 a1 1
noncomputable def M_checkTimes_56 (K2 : Mem → Int → Option (Mem)) (μ : Mem) (l2 : Int) (s1 : Int) (s2 : Int) (s3 : Int) : Option (Mem) :=
  (M_bounds μ s1 s2 s3).bind fun m1 =>
  K2 m1 (jadd l2 1)
noncomputable def M_checkTimes_43 (K2 : Mem → Int → Option (Mem)) (μ : Mem) (l2 : Int) (l3 : Int) (s1 : Int) (s2 : Int) : Option (Mem) :=
  if l3 = 0 then
    M_checkTimes_56 K2 μ l2 s1 s2 600
  else
    M_checkTimes_56 K2 μ l2 s1 s2 999
noncomputable def M_checkTimes_2  : Nat → Mem → Int → Option (Mem)
  | 0, _, _ => none
  | n + 1, μ, l2 =>
    (M_isSignAt μ l2 59).bind fun x1 =>
    if x1 ≠ 0 then
      some μ
    else
      (M_isWordAt μ (jsub l2 1) 45).bind fun x3 =>
      (aI μ 268 122 l2).bind fun x5 =>
      if x5 ≠ 2 then
        M_checkTimes_2 n μ (jadd l2 1)
      else
        if x3 = 0 then
          M_checkTimes_43 (M_checkTimes_2 n) μ l2 x3 l2 0
        else
          M_checkTimes_43 (M_checkTimes_2 n) μ l2 x3 l2 1
noncomputable def M_checkTimes (μ : Mem) (a1 : Int) : Option (Mem) :=
  M_checkTimes_2 big μ a1
noncomputable def M_hasHeld_4 (μ : Mem) : Nat → Int → Int → Option (Int)
  | 0, _, _ => none
  | n + 1, l1, l2 =>
    if 360 ≤ l2 then
      if l1 = 0 ∨ l1 = 1 then some l1 else none
    else
      if l1 ≠ 0 then
        M_hasHeld_4 μ n 1 (jadd l2 1)
      else
        (aI μ 264 12943 (jadd 12362 l2)).bind fun x2 =>
        if x2 < 0 then
          M_hasHeld_4 μ n 0 (jadd l2 1)
        else
          M_hasHeld_4 μ n 1 (jadd l2 1)
noncomputable def M_hasHeld (μ : Mem) : Option (Int) :=
  M_hasHeld_4 μ big 0 0
noncomputable def M_numberUpTo_4 (μ : Mem) (l1 : Int) : Nat → Int → Int → Option (Int)
  | 0, _, _ => none
  | n + 1, l2, l3 =>
    if 30 ≤ l3 then
      some l2
    else
      (M_cueNumber μ l3).bind fun x1 =>
      if l1 < x1 then
        M_numberUpTo_4 μ l1 n l2 (jadd l3 1)
      else
        if x1 ≤ l2 then
          M_numberUpTo_4 μ l1 n l2 (jadd l3 1)
        else
          M_numberUpTo_4 μ l1 n x1 (jadd l3 1)
noncomputable def M_numberUpTo (μ : Mem) (a1 : Int) : Option (Int) :=
  M_numberUpTo_4 μ a1 big 0 0
noncomputable def M_checkOther_45 (μ : Mem) (s1 : Int) : Option (Mem) :=
  (M_refuse μ s1 6 0).bind fun m1 =>
  (M_bounds m1 1 0 600).bind fun m4 =>
  some m4
noncomputable def M_checkOther (μ : Mem) (a1 : Int) : Option (Mem) :=
  if a1 = 33 then
    (M_hasHeld μ).bind fun x1 =>
    if x1 ≠ 0 then
      M_checkOther_45 μ 0
    else
      M_checkOther_45 μ 1
  else
  if a1 = 34 then
    (M_bounds μ 1 1 200).bind fun m5 =>
    (M_bounds m5 3 0 255).bind fun m8 =>
    some m8
  else
  if a1 = 35 then
    if (μ 268 1) ≠ 2 then
      some μ
    else
      (M_bounds μ 1 1 200).bind fun m12 =>
      some m12
  else
  if a1 = 36 then
    (M_bounds μ 1 1 10).bind fun m17 =>
    (M_isWordAt m17 3 11).bind fun x20 =>
    if x20 ≠ 0 then
      some m17
    else
      (M_bounds m17 5 1 999).bind fun m22 =>
      some m22
  else
  (M_checkSet μ).bind fun m27 =>
  some m27
noncomputable def M_checkCue_90 (μ : Mem) (s1 : Int) : Option (Mem) :=
  (M_refuse μ s1 6 0).bind fun m1 =>
  (M_checkNumber m1 1).bind fun m4 =>
  (M_checkTimes m4 2).bind fun m7 =>
  some m7
noncomputable def M_checkCue_152 (μ : Mem) (s1 : Int) : Option (Mem) :=
  (M_refuse μ s1 7 0).bind fun m1 =>
  some m1
noncomputable def M_checkCue_122 (μ : Mem) (s1 : Int) : Option (Mem) :=
  (M_refuse μ s1 6 0).bind fun m1 =>
  if (m1 259 29) = 0 then
    M_checkCue_152 m1 1
  else
    (M_numberUpTo m1 (m1 259 29)).bind fun x4 =>
    if x4 ≠ 0 then
      M_checkCue_152 m1 0
    else
      M_checkCue_152 m1 1
noncomputable def M_checkCue_180 (μ : Mem) (s1 : Int) : Option (Mem) :=
  (M_refuse μ s1 2 1).bind fun m1 =>
  some m1
noncomputable def M_checkCue_161 (μ : Mem) : Option (Mem) :=
  (M_cueRow μ (μ 269 1)).bind fun x1 =>
  if 0 ≤ x1 then
    M_checkCue_180 μ 0
  else
    M_checkCue_180 μ 1
noncomputable def M_checkCue_261 (μ : Mem) (s1 : Int) : Option (Mem) :=
  (M_refuse μ s1 5 3).bind fun m1 =>
  some m1
noncomputable def M_checkCue_240 (μ : Mem) (s1 : Int) : Option (Mem) :=
  (M_refuse μ s1 7 3).bind fun m1 =>
  (M_cues m1).bind fun x4 =>
  if x4 ≠ 30 then
    M_checkCue_261 m1 0
  else
    M_checkCue_261 m1 1
noncomputable def M_checkCue_207 (μ : Mem) (s1 : Int) : Option (Mem) :=
  (M_refuse μ s1 2 1).bind fun m1 =>
  (M_bounds m1 3 1 999).bind fun m4 =>
  (M_cueRow m4 (m4 269 3)).bind fun x7 =>
  if x7 < 0 then
    M_checkCue_240 m4 0
  else
    M_checkCue_240 m4 1
noncomputable def M_checkCue_272 (μ : Mem) (l1 : Int) : Option (Mem) :=
  (M_checkOther μ l1).bind fun m1 =>
  some m1
noncomputable def M_checkCue (μ : Mem) (a1 : Int) : Option (Mem) :=
  if a1 = 21 then
    (M_checkNumber μ 1).bind fun m1 =>
    (M_checkTimes m1 2).bind fun m4 =>
    some m4
  else
  if a1 = 22 then
    (M_hasHeld μ).bind fun x8 =>
    if x8 ≠ 0 then
      M_checkCue_90 μ 0
    else
      M_checkCue_90 μ 1
  else
  if a1 = 23 then
    M_checkCue_272 μ a1
  else
  if a1 = 24 then
    (M_hasHeld μ).bind fun x13 =>
    if x13 ≠ 0 then
      M_checkCue_122 μ 0
    else
      M_checkCue_122 μ 1
  else
  if a1 = 25 then
    M_checkCue_161 μ
  else
  if a1 = 26 then
    (M_cueRow μ (μ 269 1)).bind fun x18 =>
    if 0 ≤ x18 then
      M_checkCue_207 μ 0
    else
      M_checkCue_207 μ 1
  else
  if a1 = 27 then
    M_checkCue_272 μ a1
  else
  if a1 = 28 then
    M_checkCue_161 μ
  else
  if a1 = 29 then
    M_checkCue_161 μ
  else
  if a1 = 30 then
    M_checkCue_161 μ
  else
  if a1 = 31 then
    some μ
  else
  if a1 = 32 then
    some μ
  else
  M_checkCue_272 μ a1
noncomputable def M_check_158  : Nat → Mem → Int → Option (Mem)
  | 0, _, _ => none
  | n + 1, μ, l2 =>
    (M_isParameterAt μ l2).bind fun x1 =>
    if x1 = 0 then
      some μ
    else
      (M_bounds μ (jadd l2 1) 0 1000).bind fun m3 =>
      M_check_158 n m3 (jadd l2 2)
noncomputable def M_check_267 (μ : Mem) : Option (Mem) :=
  (M_isWordAt μ 3 11).bind fun x1 =>
  if x1 ≠ 0 then
    some μ
  else
    (M_gather μ 12).bind fun m3 =>
    some m3
noncomputable def M_check_236  : Nat → Mem → Int → Option (Mem)
  | 0, _, _ => none
  | n + 1, μ, l2 =>
    if 10 < l2 then
      M_check_267 μ
    else
      (M_isWordAt μ 3 11).bind fun x1 =>
      if x1 ≠ 0 then
        M_check_267 μ
      else
        (M_bounds μ l2 0 1000).bind fun m3 =>
        M_check_236 n m3 (jadd l2 2)
noncomputable def M_check_286 (μ : Mem) (l1 : Int) : Option (Mem) :=
  (M_checkCue μ l1).bind fun m1 =>
  some m1
noncomputable def M_check_20 (μ : Mem) (s0 : Int) : Option (Mem) :=
  if s0 = 1 then
    (M_isSignAt μ 2 61).bind fun x1 =>
    if x1 = 0 then
      (M_checkSet μ).bind fun m3 =>
      some m3
    else
      (M_bounds μ 1 1 12).bind fun m6 =>
      (M_gather m6 3).bind fun m9 =>
      some m9
  else
  if s0 = 2 then
    M_check_286 μ s0
  else
  if s0 = 3 then
    (M_checkPatch μ).bind fun m15 =>
    some m15
  else
  if s0 = 4 then
    M_check_286 μ s0
  else
  if s0 = 5 then
    M_check_286 μ s0
  else
  if s0 = 6 then
    M_check_286 μ s0
  else
  if s0 = 7 then
    M_check_286 μ s0
  else
  if s0 = 8 then
    M_check_286 μ s0
  else
  if s0 = 9 then
    (M_gather μ 1).bind fun m24 =>
    some m24
  else
  if s0 = 10 then
    (M_bounds μ 1 1 12).bind fun m28 =>
    M_check_158 big m28 3
  else
  if s0 = 11 then
    M_check_286 μ s0
  else
  if s0 = 12 then
    (M_bounds μ 1 1 8).bind fun m33 =>
    (M_isWordAt m33 2 13).bind fun x36 =>
    if x36 = 0 then
      some m33
    else
      (M_gather m33 3).bind fun m38 =>
      (M_bounds m38 (jadd (m38 259 22) 1) 0 1000).bind fun m41 =>
      some m41
  else
  if s0 = 13 then
    M_check_286 μ s0
  else
  if s0 = 14 then
    M_check_286 μ s0
  else
  if s0 = 15 then
    M_check_286 μ s0
  else
  if s0 = 16 then
    (M_bounds μ 1 1 4).bind fun m49 =>
    M_check_236 big m49 6
  else
  M_check_286 μ s0
noncomputable def M_check (μ : Mem) : Option (Mem) :=
  if (μ 268 0) ≠ 1 then
    M_check_20 μ (-1)
  else
    M_check_20 μ (μ 269 0)
noncomputable def M_patch_161 (K81 : Mem → Int → Option (Mem)) (μ : Mem) (l1 : Int) (l2 : Int) : Option (Mem) :=
  (M_isWordAt μ l2 8).bind fun x1 =>
  if x1 = 0 then
    K81 μ (jadd l2 1)
  else
    (sI μ 264 12943 (jadd l1 5) 1).bind fun m3 =>
    K81 m3 (jadd l2 1)
noncomputable def M_patch_142 (K81 : Mem → Int → Option (Mem)) (μ : Mem) (l1 : Int) (l2 : Int) : Option (Mem) :=
  (M_isWordAt μ l2 7).bind fun x1 =>
  if x1 = 0 then
    M_patch_161 K81 μ l1 l2
  else
    (sI μ 264 12943 (jadd l1 4) 1).bind fun m3 =>
    M_patch_161 K81 m3 l1 l2
noncomputable def M_patch_116 (K81 : Mem → Int → Option (Mem)) (μ : Mem) (l1 : Int) (l2 : Int) : Option (Mem) :=
  (M_isWordAt μ l2 6).bind fun x1 =>
  if x1 = 0 then
    M_patch_142 K81 μ l1 l2
  else
    (aI μ 269 122 (jadd l2 1)).bind fun x3 =>
    (sI μ 264 12943 (jadd l1 3) x3).bind fun m5 =>
    M_patch_142 K81 m5 l1 l2
noncomputable def M_patch_81 (l1 : Int) : Nat → Mem → Int → Option (Mem)
  | 0, _, _ => none
  | n + 1, μ, l2 =>
    (M_isSignAt μ l2 59).bind fun x1 =>
    if x1 ≠ 0 then
      (sI μ 279 40 (jsub (μ 269 1) 1) 0).bind fun m3 =>
      some m3
    else
      (M_isWordAt μ l2 5).bind fun x6 =>
      if x6 = 0 then
        M_patch_116 (M_patch_81 l1 n) μ l1 l2
      else
        (aI μ 269 122 (jadd l2 1)).bind fun x8 =>
        (sI μ 264 12943 (jadd l1 2) x8).bind fun m10 =>
        M_patch_116 (M_patch_81 l1 n) m10 l1 l2
noncomputable def M_patch (μ : Mem) : Option (Mem) :=
  (some (jmul 6 (jsub (μ 269 1) 1))).bind fun x1 =>
  (sI μ 264 12943 x1 (jsub (μ 269 2) 52)).bind fun m3 =>
  (sI m3 264 12943 (jadd x1 1) (m3 269 4)).bind fun m6 =>
  (sI m6 264 12943 (jadd x1 2) 1000).bind fun m9 =>
  (sI m9 264 12943 (jadd x1 3) 0).bind fun m12 =>
  (sI m12 264 12943 (jadd x1 4) 0).bind fun m15 =>
  (sI m15 264 12943 (jadd x1 5) 0).bind fun m18 =>
  M_patch_81 x1 big m18 5
noncomputable def M_takeAway_13 (l1 : Int) (l2 : Int) (l4 : Int) : Nat → Mem → Int → Int → Option (Mem)
  | 0, _, _, _ => none
  | n + 1, μ, l3, l5 =>
    if l4 < l5 then
      (sI μ 264 12943 l1 l3).bind fun m1 =>
      some m1
    else
      (aI μ 264 12943 (jadd l1 l5)).bind fun x4 =>
      if x4 ≠ l2 then
        (sI μ 264 12943 (jadd l1 (jadd l3 1)) x4).bind fun m6 =>
        M_takeAway_13 l1 l2 l4 n m6 (jadd l3 1) (jadd l5 1)
      else
        M_takeAway_13 l1 l2 l4 n μ l3 (jadd l5 1)
noncomputable def M_takeAway (μ : Mem) (a1 : Int) (a2 : Int) : Option (Mem) :=
  (aI μ 264 12943 a1).bind fun x1 =>
  M_takeAway_13 a1 a2 x1 big μ 0 1
noncomputable def M_unpatch_100 (K69 : Mem → Int → Option (Mem)) (μ : Mem) (l1 : Int) (l2 : Int) (l3 : Int) : Option (Mem) :=
  (aI μ 264 12943 l3).bind fun x1 =>
  if x1 < 0 then
    K69 μ (jadd l2 1)
  else
    (aI μ 264 12943 (jadd l3 5)).bind fun x3 =>
    if x3 ≠ 0 then
      K69 μ (jadd l2 1)
    else
      (sI μ 264 12943 l3 (-1)).bind fun m5 =>
      K69 m5 (jadd l2 1)
noncomputable def M_unpatch_143 (K135 : Mem → Int → Option (Mem)) (l1 : Int) (l2 : Int) : Nat → Mem → Int → Option (Mem)
  | 0, _, _ => none
  | n + 1, μ, l3 =>
    if 30 ≤ l3 then
      (sI μ 264 12943 (jadd (jadd 12362 (jmul 9 l1)) l2) (-1)).bind fun m1 =>
      K135 m1 (jadd l2 1)
    else
      (sI μ 264 12943 (jadd (jadd (jadd 1562 (jmul 360 l3)) (jmul 9 l1)) l2) (-1)).bind fun m4 =>
      M_unpatch_143 K135 l1 l2 n m4 (jadd l3 1)
noncomputable def M_unpatch_135 (l1 : Int) : Nat → Mem → Int → Option (Mem)
  | 0, _, _ => none
  | n + 1, μ, l2 =>
    if 9 ≤ l2 then
      some μ
    else
      M_unpatch_143 (M_unpatch_135 l1 n) l1 l2 big μ 0
noncomputable def M_unpatch_69 (l1 : Int) : Nat → Mem → Int → Option (Mem)
  | 0, _, _ => none
  | n + 1, μ, l2 =>
    if 4 ≤ l2 then
      M_unpatch_135 l1 big μ 0
    else
      (some (jadd 1168 (jmul 46 l2))).bind fun x1 =>
      (aI μ 264 12943 x1).bind fun x3 =>
      if x3 < 0 then
        M_unpatch_100 (M_unpatch_69 l1 n) μ l1 l2 x1
      else
        (M_takeAway μ (jadd x1 5) l1).bind fun m5 =>
        M_unpatch_100 (M_unpatch_69 l1 n) m5 l1 l2 x1
noncomputable def M_unpatch_39 (l1 : Int) : Nat → Mem → Int → Option (Mem)
  | 0, _, _ => none
  | n + 1, μ, l2 =>
    if 8 ≤ l2 then
      M_unpatch_69 l1 big μ 0
    else
      (sI μ 264 12943 (jadd (jadd 840 (jmul 40 l2)) l1) (-1)).bind fun m1 =>
      M_unpatch_39 l1 n m1 (jadd l2 1)
noncomputable def M_unpatch_12 (l1 : Int) : Nat → Mem → Int → Option (Mem)
  | 0, _, _ => none
  | n + 1, μ, l2 =>
    if 12 ≤ l2 then
      M_unpatch_39 l1 big μ 0
    else
      (M_takeAway μ (jadd 240 (jmul 41 l2)) l1).bind fun m1 =>
      M_unpatch_12 l1 n m1 (jadd l2 1)
noncomputable def M_unpatch (μ : Mem) (a1 : Int) : Option (Mem) :=
  (sI μ 264 12943 (jmul 6 a1) (-1)).bind fun m1 =>
  M_unpatch_12 a1 big m1 0
noncomputable def M_makeGroup_12 (l1 : Int) : Nat → Mem → Int → Option (Mem)
  | 0, _, _ => none
  | n + 1, μ, l2 =>
    if (μ 259 21) ≤ l2 then
      some μ
    else
      (aI μ 271 40 l2).bind fun x1 =>
      (sI μ 264 12943 (jadd (jadd l1 1) l2) x1).bind fun m3 =>
      M_makeGroup_12 l1 n m3 (jadd l2 1)
noncomputable def M_makeGroup (μ : Mem) (a1 : Int) : Option (Mem) :=
  (sI μ 264 12943 a1 (μ 259 21)).bind fun m1 =>
  M_makeGroup_12 a1 big m1 0
noncomputable def M_parameterAt (μ : Mem) (a1 : Int) : Option (Int) :=
  (aI μ 268 122 a1).bind fun x1 =>
  if x1 ≠ 1 then
    some 0
  else
    (aI μ 269 122 a1).bind fun x3 =>
    some (jsub x3 61)
noncomputable def M_mix (μ : Mem) (a0 : Int) (a1 : Int) (a2 : Int) (a3 : Int) : Option (Int) :=
  if a3 = 0 then none else
  some (jadd a0 (jdiv (jmul (jsub a1 a0) a2) a3))
noncomputable def M_originOf_5 (μ : Mem) (l1 : Int) (l2 : Int) : Nat → Int → Int → Option (Int)
  | 0, _, _ => none
  | n + 1, l3, l4 =>
    if 30 ≤ l4 then
      some l3
    else
      (M_cueNumber μ l4).bind fun x1 =>
      if l1 < x1 then
        M_originOf_5 μ l1 l2 n l3 (jadd l4 1)
      else
        if x1 ≤ l3 then
          M_originOf_5 μ l1 l2 n l3 (jadd l4 1)
        else
          (aI μ 264 12943 (jadd (jadd 1562 (jmul 360 l4)) l2)).bind fun x3 =>
          if x3 < 0 then
            M_originOf_5 μ l1 l2 n l3 (jadd l4 1)
          else
            M_originOf_5 μ l1 l2 n x1 (jadd l4 1)
noncomputable def M_originOf (μ : Mem) (a1 : Int) (a2 : Int) : Option (Int) :=
  M_originOf_5 μ a1 a2 big 0 0
noncomputable def M_trackedValue (μ : Mem) (a1 : Int) (a2 : Int) : Option (Int) :=
  (M_originOf μ a1 a2).bind fun x1 =>
  if x1 ≠ 0 then
    (M_cueRow μ x1).bind fun x3 =>
    (aI μ 264 12943 (jadd (jadd 1562 (jmul 360 x3)) a2)).bind fun x5 =>
    some x5
  else
    some (-1)
noncomputable def M_levelOf (μ : Mem) (a1 : Int) (a2 : Int) : Option (Int) :=
  if 2000 ≤ a1 then
    (aI μ 264 12943 (jadd (jadd 732 (jmul 9 (jsub (jsub a1 2000) 1))) a2)).bind fun x1 =>
    if 0 ≤ x1 then
      some x1
    else
      (aI μ 261 9 a2).bind fun x3 =>
      some x3
  else
    if 0 ≤ a1 then
      some a1
    else
      (aI μ 261 9 a2).bind fun x6 =>
      some x6
noncomputable def M_trackedLevel (μ : Mem) (a1 : Int) (a2 : Int) : Option (Int) :=
  (M_trackedValue μ a1 a2).bind fun x1 =>
  (M_levelOf μ x1 (jrem a2 9)).bind fun x3 =>
  some x3
noncomputable def M_cueLevel (μ : Mem) (a1 : Int) : Option (Int) :=
  (aI μ 274 360 a1).bind fun x1 =>
  (some (jsub (μ 259 28) x1)).bind fun x3 =>
  if 0 ≤ x3 then
    (aI μ 275 360 a1).bind fun x5 =>
    if x3 < x5 then
      (aI μ 273 360 a1).bind fun x7 =>
      (aI μ 272 360 a1).bind fun x9 =>
      (aI μ 275 360 a1).bind fun x11 =>
      (M_mix μ x7 x9 x3 x11).bind fun x13 =>
      some x13
    else
      (aI μ 272 360 a1).bind fun x15 =>
      some x15
  else
    (aI μ 273 360 a1).bind fun x18 =>
    some x18
noncomputable def M_present (μ : Mem) (a1 : Int) (a2 : Int) : Option (Int) :=
  (some (jadd (jmul 9 a1) a2)).bind fun x1 =>
  if (μ 264 12722) < 0 then
    (aI μ 264 12943 (jadd 12362 x1)).bind fun x3 =>
    if x3 < 0 then
      (M_cueLevel μ x1).bind fun x5 =>
      some x5
    else
      (aI μ 264 12943 (jadd 12362 x1)).bind fun x7 =>
      (M_levelOf μ x7 a2).bind fun x9 =>
      some x9
  else
    (M_trackedLevel μ (μ 264 12722) x1).bind fun x12 =>
    some x12
noncomputable def M_has_41 (μ : Mem) (l2 : Int) (l3 : Int) : Nat → Int → Int → Option (Int)
  | 0, _, _ => none
  | n + 1, l4, l5 =>
    if l3 < 0 then
      if l4 = 0 ∨ l4 = 1 then some l4 else none
    else
      (aI μ 263 10 (jadd l3 1)).bind fun x2 =>
      if x2 ≤ l5 then
        if l4 = 0 ∨ l4 = 1 then some l4 else none
      else
        if l4 ≠ 0 then
          M_has_41 μ l2 l3 n 1 (jadd l5 1)
        else
          (aI μ 262 22 l5).bind fun x5 =>
          if (jand x5 15) ≠ l2 then
            M_has_41 μ l2 l3 n 0 (jadd l5 1)
          else
            M_has_41 μ l2 l3 n 1 (jadd l5 1)
noncomputable def M_has_23 (μ : Mem) (l2 : Int) (l3 : Int) (s0 : Int) : Option (Int) :=
  if 0 ≤ l3 then
    (aI μ 263 10 l3).bind fun x1 =>
    M_has_41 μ l2 l3 big s0 x1
  else
    M_has_41 μ l2 l3 big s0 0
noncomputable def M_has (μ : Mem) (a1 : Int) (a2 : Int) : Option (Int) :=
  (aI μ 264 12943 (jmul 6 a1)).bind fun x1 =>
  if a2 ≠ 0 then
    M_has_23 μ a2 x1 0
  else
    if x1 < 0 then
      M_has_23 μ a2 x1 0
    else
      M_has_23 μ a2 x1 1
noncomputable def M_give_45 (μ : Mem) (l3 : Int) (l4 : Int) (s0 : Int) : Option (Mem) :=
  if 0 ≤ s0 then
    (sI μ 264 12943 (jadd (jadd 1562 (jmul 360 s0)) l4) l3).bind fun m1 =>
    some m1
  else
    (sI μ 264 12943 (jadd 12362 l4) l3).bind fun m4 =>
    some m4
noncomputable def M_give (μ : Mem) (a1 : Int) (a2 : Int) (a3 : Int) : Option (Mem) :=
  (M_has μ a1 a2).bind fun x1 =>
  if x1 ≠ 0 then
    (some (jadd (jmul 9 a1) a2)).bind fun x3 =>
    if 0 ≤ (μ 264 12722) then
      (M_cueRow μ (μ 264 12722)).bind fun x5 =>
      M_give_45 μ a3 x3 x5
    else
      M_give_45 μ a3 x3 (-1)
  else
    some μ
noncomputable def M_parameterValues_222 (K105 : Mem → Int → Option (Int × Mem)) (μ : Mem) (l1 : Int) (l2 : Int) (l4 : Int) (l5 : Int) (l6 : Int) (l7 : Int) (l8 : Int) (l9 : Int) (l10 : Int) : Option (Int × Mem) :=
  (aI μ 271 40 l9).bind fun x1 =>
  (M_give μ x1 l2 l10).bind fun m3 =>
  K105 m3 (jadd l9 1)
noncomputable def M_parameterValues_196 (K105 : Mem → Int → Option (Int × Mem)) (μ : Mem) (l1 : Int) (l2 : Int) (l4 : Int) (l5 : Int) (l6 : Int) (l7 : Int) (l8 : Int) (l9 : Int) (l10 : Int) : Option (Int × Mem) :=
  if l6 = 0 then
    M_parameterValues_222 K105 μ l1 l2 l4 l5 l6 l7 l8 l9 l10
  else
    (aI μ 271 40 l9).bind fun x1 =>
    (M_present μ x1 l2).bind fun x3 =>
    (some (mxI 0 (jsub x3 l7))).bind fun x5 =>
    M_parameterValues_222 K105 μ l1 l2 l4 l5 l6 l7 l8 l9 x5
noncomputable def M_parameterValues_168 (K105 : Mem → Int → Option (Int × Mem)) (μ : Mem) (l1 : Int) (l2 : Int) (l4 : Int) (l5 : Int) (l6 : Int) (l7 : Int) (l8 : Int) (l9 : Int) (l10 : Int) : Option (Int × Mem) :=
  if l5 = 0 then
    M_parameterValues_196 K105 μ l1 l2 l4 l5 l6 l7 l8 l9 l10
  else
    (aI μ 271 40 l9).bind fun x1 =>
    (M_present μ x1 l2).bind fun x3 =>
    (some (mnI 1000 (jadd x3 l7))).bind fun x5 =>
    M_parameterValues_196 K105 μ l1 l2 l4 l5 l6 l7 l8 l9 x5
noncomputable def M_parameterValues_130 (K105 : Mem → Int → Option (Int × Mem)) (μ : Mem) (l1 : Int) (l2 : Int) (l4 : Int) (l5 : Int) (l6 : Int) (l7 : Int) (l8 : Int) (l9 : Int) (s0 : Int) : Option (Int × Mem) :=
  if l8 = 0 then
    M_parameterValues_168 K105 μ l1 l2 l4 l5 l6 l7 l8 l9 s0
  else
    if (μ 259 21) ≤ 1 then
      M_parameterValues_168 K105 μ l1 l2 l4 l5 l6 l7 l8 l9 s0
    else
      (aI μ 269 122 (jadd l1 2)).bind fun x1 =>
      (M_mix μ l7 x1 l9 (jsub (μ 259 21) 1)).bind fun x3 =>
      M_parameterValues_168 K105 μ l1 l2 l4 l5 l6 l7 l8 l9 x3
noncomputable def M_parameterValues_105 (l1 : Int) (l2 : Int) (l4 : Int) (l5 : Int) (l6 : Int) (l7 : Int) (l8 : Int) : Nat → Mem → Int → Option (Int × Mem)
  | 0, _, _ => none
  | n + 1, μ, l9 =>
    if (μ 259 21) ≤ l9 then
      if l8 = 0 then
        if l4 ≠ 0 then
          some ((jadd l1 2), μ)
        else
          if l5 ≠ 0 then
            some ((jadd l1 2), μ)
          else
            if l6 = 0 then
              some ((jadd l1 1), μ)
            else
              some ((jadd l1 2), μ)
      else
        some ((jadd l1 3), μ)
    else
      if l4 = 0 then
        M_parameterValues_130 (M_parameterValues_105 l1 l2 l4 l5 l6 l7 l8 n) μ l1 l2 l4 l5 l6 l7 l8 l9 l7
      else
        M_parameterValues_130 (M_parameterValues_105 l1 l2 l4 l5 l6 l7 l8 n) μ l1 l2 l4 l5 l6 l7 l8 l9 (jadd 2000 l7)
noncomputable def M_parameterValues_72 (μ : Mem) (l1 : Int) (l2 : Int) (l4 : Int) (l5 : Int) (l6 : Int) (s0 : Int) : Option (Int × Mem) :=
  (aI μ 268 122 l1).bind fun x1 =>
  if x1 ≠ 2 then
    M_parameterValues_105 l1 l2 l4 l5 l6 s0 0 big μ 0
  else
    (M_isWordAt μ (jadd l1 1) 2).bind fun x3 =>
    if x3 = 0 then
      M_parameterValues_105 l1 l2 l4 l5 l6 s0 0 big μ 0
    else
      M_parameterValues_105 l1 l2 l4 l5 l6 s0 1 big μ 0
noncomputable def M_parameterValues (μ : Mem) (a1 : Int) (a2 : Int) : Option (Int × Mem) :=
  (M_isWordAt μ a1 48).bind fun x1 =>
  (M_isWordAt μ a1 49).bind fun x3 =>
  (M_isSignAt μ a1 43).bind fun x5 =>
  (M_isSignAt μ a1 45).bind fun x7 =>
  if x1 = 0 then
    (aI μ 268 122 a1).bind fun x9 =>
    if x9 ≠ 2 then
      (aI μ 269 122 (jadd a1 1)).bind fun x11 =>
      M_parameterValues_72 μ a1 a2 x3 x5 x7 x11
    else
      (aI μ 269 122 a1).bind fun x13 =>
      M_parameterValues_72 μ a1 a2 x3 x5 x7 x13
  else
    M_parameterValues_72 μ a1 a2 x3 x5 x7 1000
noncomputable def M_paletteValues_2 (l1 : Int) : Nat → Mem → Int → Option (Mem)
  | 0, _, _ => none
  | n + 1, μ, l2 =>
    if (jmul (μ 259 21) 9) ≤ l2 then
      some μ
    else
      (some (jrem l2 9)).bind fun x1 =>
      (aI μ 264 12943 (jadd (jadd 732 (jmul 9 (jsub l1 1))) x1)).bind fun x3 =>
      if x3 < 0 then
        M_paletteValues_2 l1 n μ (jadd l2 1)
      else
        (aI μ 271 40 (jdiv l2 9)).bind fun x5 =>
        (M_give μ x5 x1 (jadd 2000 l1)).bind fun m7 =>
        M_paletteValues_2 l1 n m7 (jadd l2 1)
noncomputable def M_paletteValues (μ : Mem) (a1 : Int) : Option (Mem) :=
  M_paletteValues_2 a1 big μ 0
noncomputable def M_values_117 (K5 : Mem → Int → Option (Mem)) (K69 : Mem → Int → Option (Mem)) (μ : Mem) (l1 : Int) (l2 : Int) (s1 : Int) (s2 : Int) (s3 : Int) : Option (Mem) :=
  (M_give μ s1 s2 s3).bind fun m1 =>
  K69 m1 (jadd l2 1)
noncomputable def M_values_69 (K5 : Mem → Int → Option (Mem)) (l1 : Int) : Nat → Mem → Int → Option (Mem)
  | 0, _, _ => none
  | n + 1, μ, l2 =>
    if (jmul (μ 259 21) 9) ≤ l2 then
      K5 μ (jadd l1 1)
    else
      (aI μ 271 40 (jdiv l2 9)).bind fun x1 =>
      (M_isWordAt μ l1 50).bind fun x3 =>
      if x3 = 0 then
        M_values_117 K5 (M_values_69 K5 l1 n) μ l1 l2 x1 (jrem l2 9) (-1)
      else
        (aI μ 261 9 (jrem l2 9)).bind fun x5 =>
        M_values_117 K5 (M_values_69 K5 l1 n) μ l1 l2 x1 (jrem l2 9) x5
noncomputable def M_values_5  : Nat → Mem → Int → Option (Mem)
  | 0, _, _ => none
  | n + 1, μ, l1 =>
    (M_isSignAt μ l1 59).bind fun x1 =>
    if x1 ≠ 0 then
      some μ
    else
      (M_isParameterAt μ l1).bind fun x3 =>
      if x3 = 0 then
        (M_isWordAt μ l1 10).bind fun x5 =>
        if x5 = 0 then
          M_values_69 (M_values_5 n) l1 big μ 0
        else
          (aI μ 269 122 (jadd l1 1)).bind fun x7 =>
          (M_paletteValues μ x7).bind fun m9 =>
          M_values_5 n m9 (jadd l1 2)
      else
        (M_parameterAt μ l1).bind fun x13 =>
        (M_parameterValues μ (jadd l1 1) x13).bind fun p15 =>
        (some p15.1).bind fun x18 =>
        M_values_5 n p15.2 x18
noncomputable def M_values (μ : Mem) : Option (Mem) :=
  (some (μ 259 22)).bind fun x1 =>
  M_values_5 big μ x1
noncomputable def M_makePalette_25 (l1 : Int) : Nat → Mem → Int → Option (Mem)
  | 0, _, _ => none
  | n + 1, μ, l2 =>
    (M_isParameterAt μ l2).bind fun x1 =>
    if x1 = 0 then
      some μ
    else
      (M_parameterAt μ l2).bind fun x3 =>
      (aI μ 269 122 (jadd l2 1)).bind fun x5 =>
      (sI μ 264 12943 (jadd l1 x3) x5).bind fun m7 =>
      M_makePalette_25 l1 n m7 (jadd l2 2)
noncomputable def M_makePalette_2 (l1 : Int) : Nat → Mem → Int → Option (Mem)
  | 0, _, _ => none
  | n + 1, μ, l2 =>
    if 9 ≤ l2 then
      M_makePalette_25 l1 big μ 3
    else
      (sI μ 264 12943 (jadd l1 l2) (-1)).bind fun m1 =>
      M_makePalette_2 l1 n m1 (jadd l2 1)
noncomputable def M_makePalette (μ : Mem) (a1 : Int) : Option (Mem) :=
  M_makePalette_2 a1 big μ 0
noncomputable def M_makeSub_86 (l2 : Int) : Nat → Mem → Int → Option (Mem)
  | 0, _, _ => none
  | n + 1, μ, l3 =>
    if (μ 259 21) ≤ l3 then
      some μ
    else
      (M_isWordAt μ 2 13).bind fun x1 =>
      if x1 = 0 then
        some μ
      else
        (aI μ 271 40 l3).bind fun x3 =>
        (aI μ 269 122 (jadd (μ 259 22) 1)).bind fun x5 =>
        (sI μ 264 12943 (jadd l2 x3) x5).bind fun m7 =>
        M_makeSub_86 l2 n m7 (jadd l3 1)
noncomputable def M_makeSub_53 (l2 : Int) : Nat → Mem → Int → Option (Mem)
  | 0, _, _ => none
  | n + 1, μ, l3 =>
    if 40 ≤ l3 then
      M_makeSub_86 l2 big μ 0
    else
      (M_isWordAt μ 2 11).bind fun x1 =>
      if x1 = 0 then
        M_makeSub_86 l2 big μ 0
      else
        (sI μ 264 12943 (jadd l2 l3) (-1)).bind fun m3 =>
        M_makeSub_53 l2 n m3 (jadd l3 1)
noncomputable def M_makeSub_30 (μ : Mem) (l1 : Int) (l2 : Int) : Option (Mem) :=
  (M_isWordAt μ 2 15).bind fun x1 =>
  if x1 = 0 then
    M_makeSub_53 l2 big μ 0
  else
    (sI μ 264 12943 (jadd 1160 l1) 1).bind fun m3 =>
    M_makeSub_53 l2 big m3 0
noncomputable def M_makeSub (μ : Mem) (a1 : Int) : Option (Mem) :=
  (some (jadd 840 (jmul 40 a1))).bind fun x1 =>
  (M_isWordAt μ 2 14).bind fun x3 =>
  if x3 = 0 then
    M_makeSub_30 μ a1 x1
  else
    (sI μ 264 12943 (jadd 1160 a1) 0).bind fun m5 =>
    M_makeSub_30 m5 a1 x1
noncomputable def M_makeWave (μ : Mem) (a1 : Int) : Option (Mem) :=
  (sI μ 264 12943 a1 (-1)).bind fun m1 =>
  (M_isWordAt m1 3 11).bind fun x4 =>
  if x4 = 0 then
    (sI m1 264 12943 a1 (jsub (m1 269 3) 37)).bind fun m6 =>
    (sI m6 264 12943 (jadd a1 1) (jsub (m6 269 4) 61)).bind fun m9 =>
    (sI m9 264 12943 (jadd a1 2) (m9 269 6)).bind fun m12 =>
    (sI m12 264 12943 (jadd a1 3) (m12 269 8)).bind fun m15 =>
    (sI m15 264 12943 (jadd a1 4) (m15 269 10)).bind fun m18 =>
    (M_makeGroup m18 (jadd a1 5)).bind fun m21 =>
    some m21
  else
    some m1
noncomputable def M_makeCue_106 (l2 : Int) : Nat → Mem → Int → Option (Int × Mem)
  | 0, _, _ => none
  | n + 1, μ, l3 =>
    if 360 ≤ l3 then
      some (l2, μ)
    else
      (sI μ 264 12943 (jadd (jadd 1562 (jmul 360 l2)) l3) (-1)).bind fun m1 =>
      M_makeCue_106 l2 n m1 (jadd l3 1)
noncomputable def M_makeCue_30 (l1 : Int) (l2 : Int) : Nat → Mem → Int → Option (Int × Mem)
  | 0, _, _ => none
  | n + 1, μ, l3 =>
    if 5 ≤ l3 then
      (sI μ 264 12943 (jadd 1352 (jmul 7 l2)) l1).bind fun m1 =>
      (sI m1 264 12943 (jadd (jadd 1352 (jmul 7 l2)) 5) (-1)).bind fun m4 =>
      (sI m4 264 12943 (jadd (jadd 1352 (jmul 7 l2)) 6) (-1)).bind fun m7 =>
      M_makeCue_106 l2 big m7 0
    else
      (sI μ 264 12943 (jadd (jadd 1352 (jmul 7 l2)) l3) 0).bind fun m10 =>
      M_makeCue_30 l1 l2 n m10 (jadd l3 1)
noncomputable def M_makeCue_14 (μ : Mem) (l1 : Int) : Nat → Int → Option (Int × Mem)
  | 0, _ => none
  | n + 1, l2 =>
    (M_cueNumber μ l2).bind fun x1 =>
    if x1 ≤ 0 then
      M_makeCue_30 l1 l2 big μ 0
    else
      M_makeCue_14 μ l1 n (jadd l2 1)
noncomputable def M_makeCue (μ : Mem) (a1 : Int) : Option (Int × Mem) :=
  (M_cueRow μ a1).bind fun x1 =>
  if x1 < 0 then
    M_makeCue_14 μ a1 big 0
  else
    some (x1, μ)
noncomputable def M_setTimes_2 (l1 : Int) : Nat → Mem → Int → Option (Mem)
  | 0, _, _ => none
  | n + 1, μ, l3 =>
    (M_isSignAt μ l3 59).bind fun x1 =>
    if x1 ≠ 0 then
      some μ
    else
      (M_isWordAt μ l3 46).bind fun x3 =>
      if x3 = 0 then
        (M_isWordAt μ l3 47).bind fun x5 =>
        if x5 = 0 then
          (aI μ 268 122 l3).bind fun x7 =>
          if x7 ≠ 1 then
            M_setTimes_2 l1 n μ (jadd l3 1)
          else
            (aI μ 269 122 l3).bind fun x9 =>
            if x9 = 23 then
              M_setTimes_2 l1 n μ (jadd l3 1)
            else
              (aI μ 269 122 l3).bind fun x11 =>
              (aI μ 269 122 (jadd l3 1)).bind fun x13 =>
              (sI μ 264 12943 (jsub (jadd (jadd (jadd 1352 (jmul 7 l1)) 1) x11) 40) x13).bind fun m15 =>
              M_setTimes_2 l1 n m15 (jadd l3 1)
        else
          (sI μ 264 12943 (jadd (jadd 1352 (jmul 7 l1)) 6) (-1)).bind fun m20 =>
          M_setTimes_2 l1 n m20 (jadd l3 1)
      else
        (sI μ 264 12943 (jadd (jadd 1352 (jmul 7 l1)) 5) (-1)).bind fun m24 =>
        M_setTimes_2 l1 n m24 (jadd l3 1)
noncomputable def M_setTimes (μ : Mem) (a1 : Int) (a2 : Int) : Option (Mem) :=
  M_setTimes_2 a1 big μ a2
noncomputable def M_numberAbove_4 (μ : Mem) (l1 : Int) : Nat → Int → Int → Option (Int)
  | 0, _, _ => none
  | n + 1, l2, l3 =>
    if 30 ≤ l3 then
      some l2
    else
      (M_cueNumber μ l3).bind fun x1 =>
      if x1 ≤ l1 then
        M_numberAbove_4 μ l1 n l2 (jadd l3 1)
      else
        if l2 = 0 then
          M_numberAbove_4 μ l1 n x1 (jadd l3 1)
        else
          if l2 ≤ x1 then
            M_numberAbove_4 μ l1 n l2 (jadd l3 1)
          else
            M_numberAbove_4 μ l1 n x1 (jadd l3 1)
noncomputable def M_numberAbove (μ : Mem) (a1 : Int) : Option (Int) :=
  M_numberAbove_4 μ a1 big 0 0
noncomputable def M_record_135 (l3 : Int) : Nat → Mem → Int → Option (Mem)
  | 0, _, _ => none
  | n + 1, μ, l4 =>
    if 360 ≤ l4 then
      some μ
    else
      (aI μ 264 12943 (jadd 12362 l4)).bind fun x1 =>
      if x1 < 0 then
        M_record_135 l3 n μ (jadd l4 1)
      else
        (aI μ 264 12943 (jadd 12362 l4)).bind fun x3 =>
        (sI μ 264 12943 (jadd (jadd 1562 (jmul 360 l3)) l4) x3).bind fun m5 =>
        M_record_135 l3 n m5 (jadd l4 1)
noncomputable def M_record_120 (μ : Mem) (l1 : Int) : Option (Mem) :=
  (M_makeCue μ l1).bind fun p1 =>
  (some p1.1).bind fun x4 =>
  (M_setTimes p1.2 x4 2).bind fun m6 =>
  M_record_135 x4 big m6 0
noncomputable def M_record_26 (l1 : Int) (l2 : Int) : Nat → Mem → Int → Option (Mem)
  | 0, _, _ => none
  | n + 1, μ, l3 =>
    if 360 ≤ l3 then
      M_record_120 μ l1
    else
      if l2 < 0 then
        M_record_120 μ l1
      else
        (some (jadd (jadd 1562 (jmul 360 l2)) l3)).bind fun x1 =>
        (aI μ 264 12943 (jadd 12362 l3)).bind fun x3 =>
        if x3 < 0 then
          M_record_26 l1 l2 n μ (jadd l3 1)
        else
          (aI μ 264 12943 x1).bind fun x5 =>
          if x5 < 0 then
            (M_cueNumber μ l2).bind fun x7 =>
            (M_trackedValue μ x7 l3).bind fun x9 =>
            if 0 ≤ x9 then
              (sI μ 264 12943 x1 x9).bind fun m11 =>
              M_record_26 l1 l2 n m11 (jadd l3 1)
            else
              (aI μ 261 9 (jrem l3 9)).bind fun x14 =>
              (sI μ 264 12943 x1 x14).bind fun m16 =>
              M_record_26 l1 l2 n m16 (jadd l3 1)
          else
            M_record_26 l1 l2 n μ (jadd l3 1)
noncomputable def M_record (μ : Mem) (a1 : Int) : Option (Mem) :=
  (M_isWordAt μ 2 23).bind fun x1 =>
  if x1 = 0 then
    M_record_26 a1 (-1) big μ 0
  else
    (M_numberAbove μ a1).bind fun x3 =>
    (M_cueRow μ x3).bind fun x5 =>
    M_record_26 a1 x5 big μ 0
noncomputable def M_clear_2  : Nat → Mem → Int → Option (Mem)
  | 0, _, _ => none
  | n + 1, μ, l1 =>
    if 360 ≤ l1 then
      some μ
    else
      (sI μ 264 12943 (jadd 12362 l1) (-1)).bind fun m1 =>
      M_clear_2 n m1 (jadd l1 1)
noncomputable def M_clear (μ : Mem) : Option (Mem) :=
  M_clear_2 big μ 0
noncomputable def M_update_64 (K11 : Mem → Int → Option (Mem)) (μ : Mem) (l1 : Int) (l2 : Int) (s1 : Int) (s2 : Int) (s4 : Int) : Option (Mem) :=
  (M_cueRow μ s4).bind fun x1 =>
  (aI μ 264 12943 (jadd 12362 l2)).bind fun x3 =>
  (sI μ 264 12943 (jadd (jadd s1 (jmul s2 x1)) l2) x3).bind fun m5 =>
  K11 m5 (jadd l2 1)
noncomputable def M_update_11 (l1 : Int) : Nat → Mem → Int → Option (Mem)
  | 0, _, _ => none
  | n + 1, μ, l2 =>
    if 360 ≤ l2 then
      (M_clear μ).bind fun m1 =>
      some m1
    else
      (aI μ 264 12943 (jadd 12362 l2)).bind fun x4 =>
      if 0 ≤ x4 then
        (M_originOf μ (μ 259 29) l2).bind fun x6 =>
        if x6 ≠ 0 then
          M_update_64 (M_update_11 l1 n) μ l1 l2 1562 360 x6
        else
          M_update_64 (M_update_11 l1 n) μ l1 l2 1562 360 l1
      else
        M_update_11 l1 n μ (jadd l2 1)
noncomputable def M_update (μ : Mem) : Option (Mem) :=
  (M_numberUpTo μ (μ 259 29)).bind fun x1 =>
  M_update_11 x1 big μ 0
noncomputable def M_deleteCue (μ : Mem) (a1 : Int) : Option (Mem) :=
  (M_cueRow μ a1).bind fun x1 =>
  (sI μ 264 12943 (jadd 1352 (jmul 7 x1)) 0).bind fun m3 =>
  if (m3 264 12722) ≠ a1 then
    some m3
  else
    (sI m3 264 12943 12722 (-1)).bind fun m6 =>
    some m6
noncomputable def M_copyCue_46 (l1 : Int) (l2 : Int) : Nat → Mem → Int → Option (Mem)
  | 0, _, _ => none
  | n + 1, μ, l3 =>
    if 360 ≤ l3 then
      some μ
    else
      (aI μ 264 12943 (jadd (jadd 1562 (jmul 360 l1)) l3)).bind fun x1 =>
      (sI μ 264 12943 (jadd (jadd 1562 (jmul 360 l2)) l3) x1).bind fun m3 =>
      M_copyCue_46 l1 l2 n m3 (jadd l3 1)
noncomputable def M_copyCue_2 (l1 : Int) (l2 : Int) : Nat → Mem → Int → Option (Mem)
  | 0, _, _ => none
  | n + 1, μ, l3 =>
    if 7 ≤ l3 then
      M_copyCue_46 l1 l2 big μ 0
    else
      (aI μ 264 12943 (jadd (jadd 1352 (jmul 7 l1)) l3)).bind fun x1 =>
      (sI μ 264 12943 (jadd (jadd 1352 (jmul 7 l2)) l3) x1).bind fun m3 =>
      M_copyCue_2 l1 l2 n m3 (jadd l3 1)
noncomputable def M_copyCue (μ : Mem) (a1 : Int) (a2 : Int) : Option (Mem) :=
  M_copyCue_2 a1 a2 big μ 1
noncomputable def M_block_8 (l1 : Int) (l2 : Int) : Nat → Mem → Int → Option (Mem)
  | 0, _, _ => none
  | n + 1, μ, l3 =>
    if 360 ≤ l3 then
      some μ
    else
      (aI μ 264 12943 (jadd (jadd 1562 (jmul 360 l2)) l3)).bind fun x1 =>
      if 0 ≤ x1 then
        M_block_8 l1 l2 n μ (jadd l3 1)
      else
        (M_trackedValue μ l1 l3).bind fun x3 =>
        (sI μ 264 12943 (jadd (jadd 1562 (jmul 360 l2)) l3) x3).bind fun m5 =>
        M_block_8 l1 l2 n m5 (jadd l3 1)
noncomputable def M_block (μ : Mem) (a1 : Int) : Option (Mem) :=
  (M_cueRow μ a1).bind fun x1 =>
  M_block_8 a1 x1 big μ 0
noncomputable def M_unblock_17 (l2 : Int) (l3 : Int) : Nat → Mem → Int → Option (Mem)
  | 0, _, _ => none
  | n + 1, μ, l4 =>
    if 360 ≤ l4 then
      some μ
    else
      if l2 ≤ 0 then
        some μ
      else
        (aI μ 264 12943 (jadd l3 l4)).bind fun x1 =>
        if x1 < 0 then
          M_unblock_17 l2 l3 n μ (jadd l4 1)
        else
          (aI μ 264 12943 (jadd l3 l4)).bind fun x3 =>
          (M_trackedValue μ l2 l4).bind fun x5 =>
          if x3 ≠ x5 then
            M_unblock_17 l2 l3 n μ (jadd l4 1)
          else
            (sI μ 264 12943 (jadd l3 l4) (-1)).bind fun m7 =>
            M_unblock_17 l2 l3 n m7 (jadd l4 1)
noncomputable def M_unblock (μ : Mem) (a1 : Int) (a2 : Int) : Option (Mem) :=
  (M_cueRow μ a1).bind fun x1 =>
  (some (jadd 1562 (jmul 360 x1))).bind fun x3 =>
  M_unblock_17 a2 x3 big μ 0
noncomputable def M_sneak_2 (l1 : Int) : Nat → Mem → Int → Option (Mem)
  | 0, _, _ => none
  | n + 1, μ, l2 =>
    if 360 ≤ l2 then
      (M_clear μ).bind fun m1 =>
      some m1
    else
      (aI μ 264 12943 (jadd 12362 l2)).bind fun x4 =>
      if 0 ≤ x4 then
        (aI μ 264 12943 (jadd 12362 l2)).bind fun x6 =>
        (M_levelOf μ x6 (jrem l2 9)).bind fun x8 =>
        (sI μ 273 360 l2 x8).bind fun m10 =>
        (sI m10 274 360 l2 (m10 259 28)).bind fun m13 =>
        (sI m13 275 360 l2 l1).bind fun m16 =>
        M_sneak_2 l1 n m16 (jadd l2 1)
      else
        M_sneak_2 l1 n μ (jadd l2 1)
noncomputable def M_sneak (μ : Mem) (a1 : Int) : Option (Mem) :=
  M_sneak_2 a1 big μ 0
noncomputable def M_actOther_86 (K63 : Mem → Int → Option (Mem)) (μ : Mem) (l2 : Int) (l3 : Int) : Option (Mem) :=
  (sI μ 264 12943 (jadd 12723 l3) (-1)).bind fun m1 =>
  K63 m1 (jadd l3 1)
noncomputable def M_actOther_63 (l2 : Int) : Nat → Mem → Int → Option (Mem)
  | 0, _, _ => none
  | n + 1, μ, l3 =>
    if 200 ≤ l3 then
      some μ
    else
      (M_isWordAt μ 1 0).bind fun x1 =>
      if x1 ≠ 0 then
        M_actOther_86 (M_actOther_63 l2 n) μ l2 l3
      else
        if l3 ≠ (jsub l2 1) then
          M_actOther_63 l2 n μ (jadd l3 1)
        else
          M_actOther_86 (M_actOther_63 l2 n) μ l2 l3
noncomputable def M_actOther_139 (μ : Mem) (l2 : Int) (s1 : Int) (s2 : Int) : Option (Mem) :=
  (sI μ 264 12943 s1 s2).bind fun m1 =>
  (M_isWordAt m1 3 11).bind fun x4 =>
  if x4 = 0 then
    (sI m1 264 12943 (jadd (jadd 12923 (jmul 2 (jsub l2 1))) 1) (m1 269 5)).bind fun m6 =>
    some m6
  else
    (sI m1 264 12943 (jadd (jadd 12923 (jmul 2 (jsub l2 1))) 1) (-1)).bind fun m9 =>
    some m9
noncomputable def M_actOther (μ : Mem) (a1 : Int) (a2 : Int) : Option (Mem) :=
  if a1 = 33 then
    (M_sneak μ a2).bind fun m1 =>
    some m1
  else
  if a1 = 34 then
    (sI μ 264 12943 (jsub (jadd 12723 a2) 1) (μ 269 3)).bind fun m5 =>
    some m5
  else
  if a1 = 35 then
    M_actOther_63 a2 big μ 0
  else
  if a1 = 36 then
    (M_isWordAt μ 3 11).bind fun x10 =>
    if x10 = 0 then
      M_actOther_139 μ a2 (jadd 12923 (jmul 2 (jsub a2 1))) (μ 269 3)
    else
      M_actOther_139 μ a2 (jadd 12923 (jmul 2 (jsub a2 1))) (-1)
  else
  (M_values μ).bind fun m14 =>
  some m14
noncomputable def M_actCue_184 (μ : Mem) (l1 : Int) (l2 : Int) : Option (Mem) :=
  (M_actOther μ l1 l2).bind fun m1 =>
  some m1
noncomputable def M_actCue (μ : Mem) (a1 : Int) : Option (Mem) :=
  (some (μ 269 1)).bind fun x1 =>
  if a1 = 21 then
    (M_makeCue μ x1).bind fun p3 =>
    (M_setTimes p3.2 p3.1 2).bind fun m6 =>
    some m6
  else
  if a1 = 22 then
    (M_record μ x1).bind fun m10 =>
    some m10
  else
  if a1 = 23 then
    M_actCue_184 μ a1 x1
  else
  if a1 = 24 then
    (M_update μ).bind fun m15 =>
    some m15
  else
  if a1 = 25 then
    (M_deleteCue μ x1).bind fun m19 =>
    some m19
  else
  if a1 = 26 then
    (M_cueRow μ x1).bind fun x23 =>
    (M_makeCue μ (μ 269 3)).bind fun p25 =>
    (M_copyCue p25.2 x23 p25.1).bind fun m28 =>
    some m28
  else
  if a1 = 27 then
    M_actCue_184 μ a1 x1
  else
  if a1 = 28 then
    (M_block μ x1).bind fun m33 =>
    some m33
  else
  if a1 = 29 then
    (M_numberUpTo μ (jsub x1 1)).bind fun x37 =>
    (M_unblock μ x1 x37).bind fun m39 =>
    some m39
  else
  if a1 = 30 then
    (sI μ 264 12943 12722 x1).bind fun m43 =>
    some m43
  else
  if a1 = 31 then
    (sI μ 264 12943 12722 (-1)).bind fun m47 =>
    some m47
  else
  if a1 = 32 then
    (M_clear μ).bind fun m51 =>
    some m51
  else
  M_actCue_184 μ a1 x1
noncomputable def M_act_109  : Nat → Mem → Int → Option (Mem)
  | 0, _, _ => none
  | n + 1, μ, l2 =>
    if (μ 259 21) ≤ l2 then
      some μ
    else
      (aI μ 271 40 l2).bind fun x1 =>
      (M_unpatch μ x1).bind fun m3 =>
      M_act_109 n m3 (jadd l2 1)
noncomputable def M_act_234 (μ : Mem) (l1 : Int) : Option (Mem) :=
  (M_actCue μ l1).bind fun m1 =>
  some m1
noncomputable def M_act_20 (μ : Mem) (s0 : Int) : Option (Mem) :=
  if s0 = 1 then
    (M_isSignAt μ 2 61).bind fun x1 =>
    if x1 = 0 then
      (M_values μ).bind fun m3 =>
      some m3
    else
      (M_makeGroup μ (jadd 240 (jmul 41 (jsub (μ 269 1) 1)))).bind fun m6 =>
      some m6
  else
  if s0 = 2 then
    M_act_234 μ s0
  else
  if s0 = 3 then
    (M_patch μ).bind fun m12 =>
    some m12
  else
  if s0 = 4 then
    M_act_234 μ s0
  else
  if s0 = 5 then
    M_act_234 μ s0
  else
  if s0 = 6 then
    M_act_234 μ s0
  else
  if s0 = 7 then
    M_act_234 μ s0
  else
  if s0 = 8 then
    M_act_234 μ s0
  else
  if s0 = 9 then
    M_act_109 big μ 0
  else
  if s0 = 10 then
    (M_makePalette μ (jadd 732 (jmul 9 (jsub (μ 269 1) 1)))).bind fun m22 =>
    some m22
  else
  if s0 = 11 then
    M_act_234 μ s0
  else
  if s0 = 12 then
    (M_makeSub μ (jsub (μ 269 1) 1)).bind fun m27 =>
    some m27
  else
  if s0 = 13 then
    M_act_234 μ s0
  else
  if s0 = 14 then
    M_act_234 μ s0
  else
  if s0 = 15 then
    M_act_234 μ s0
  else
  if s0 = 16 then
    (M_makeWave μ (jadd 1168 (jmul 46 (jsub (μ 269 1) 1)))).bind fun m34 =>
    some m34
  else
  M_act_234 μ s0
noncomputable def M_act (μ : Mem) : Option (Mem) :=
  if (μ 268 0) ≠ 1 then
    M_act_20 μ (-1)
  else
    M_act_20 μ (μ 269 0)
noncomputable def M_keepAhead_39  : Nat → Mem → Int → Option (Mem)
  | 0, _, _ => none
  | n + 1, μ, l1 =>
    if 12943 ≤ l1 then
      some μ
    else
      (aI μ 265 12943 l1).bind fun x1 =>
      (sI μ 266 103544 (jadd (jmul 12943 (μ 259 8)) l1) x1).bind fun m3 =>
      M_keepAhead_39 n m3 (jadd l1 1)
noncomputable def M_keepAhead (μ : Mem) : Option (Mem) :=
  (some (wr μ 259 8 (jrem (jadd (μ 259 8) 1) 8))).bind fun m1 =>
  if 8 ≤ (m1 259 7) then
    (some (wr m1 259 7 8)).bind fun m4 =>
    M_keepAhead_39 big m4 0
  else
    (some (wr m1 259 7 (jadd (m1 259 7) 1))).bind fun m7 =>
    M_keepAhead_39 big m7 0
noncomputable def M_settle_2  : Nat → Mem → Int → Option (Mem)
  | 0, _, _ => none
  | n + 1, μ, l1 =>
    if 360 ≤ l1 then
      some μ
    else
      (M_trackedLevel μ (μ 259 29) l1).bind fun x1 =>
      (aI μ 272 360 l1).bind fun x3 =>
      if x1 ≠ x3 then
        (sI μ 272 360 l1 x1).bind fun m5 =>
        (sI m5 275 360 l1 0).bind fun m8 =>
        (sI m8 274 360 l1 (m8 259 28)).bind fun m11 =>
        M_settle_2 n m11 (jadd l1 1)
      else
        M_settle_2 n μ (jadd l1 1)
noncomputable def M_settle (μ : Mem) : Option (Mem) :=
  M_settle_2 big μ 0
noncomputable def M_enter_124 (K46 : Mem → Int → Int → Option (Int × Mem)) (μ : Mem) (l1 : Int) (l2 : Int) : Option (Int × Mem) :=
  if l2 = 0 then
    (some (jadd l1 0)).bind fun x1 =>
    K46 μ x1 l2
  else
    (some (jadd l1 1)).bind fun x3 =>
    K46 μ x3 l2
noncomputable def M_enter_115 (K46 : Mem → Int → Int → Option (Int × Mem)) (μ : Mem) (l1 : Int) (s0 : Int) : Option (Int × Mem) :=
  if s0 = 0 then
    M_enter_124 K46 μ l1 s0
  else
    (M_act μ).bind fun m1 =>
    M_enter_124 K46 m1 l1 s0
noncomputable def M_enter_103 (K46 : Mem → Int → Int → Option (Int × Mem)) (μ : Mem) (l1 : Int) : Option (Int × Mem) :=
  if (μ 259 11) ≠ 0 then
    M_enter_115 K46 μ l1 0
  else
    M_enter_115 K46 μ l1 1
noncomputable def M_enter_83 (K46 : Mem → Int → Int → Option (Int × Mem)) (μ : Mem) (l1 : Int) (s0 : Int) : Option (Int × Mem) :=
  if s0 = 0 then
    K46 μ l1 s0
  else
    (M_statement μ).bind fun m1 =>
    if (m1 259 19) ≠ 0 then
      M_enter_103 K46 m1 l1
    else
      (M_check m1).bind fun m4 =>
      M_enter_103 K46 m4 l1
noncomputable def M_enter_152 (μ : Mem) (l1 : Int) : Option (Int × Mem) :=
  (M_settle μ).bind fun m1 =>
  some (l1, m1)
noncomputable def M_enter_46  : Nat → Mem → Int → Int → Option (Int × Mem)
  | 0, _, _, _ => none
  | n + 1, μ, l1, l2 =>
    if l2 = 0 then
      (some (wr μ 259 10 0)).bind fun m1 =>
      if l1 ≤ 0 then
        M_enter_152 m1 l1
      else
        (M_keepAhead m1).bind fun m4 =>
        M_enter_152 m4 l1
    else
      (some (wr μ 259 16 0)).bind fun m8 =>
      (some (wr m8 259 17 0)).bind fun m11 =>
      (some (wr m11 259 19 0)).bind fun m14 =>
      (M_read m14).bind fun m17 =>
      if (m17 268 0) = 0 then
        M_enter_83 (M_enter_46 n) m17 l1 0
      else
        M_enter_83 (M_enter_46 n) m17 l1 1
noncomputable def M_enter_2  : Nat → Mem → Int → Option (Int × Mem)
  | 0, _, _ => none
  | n + 1, μ, l1 =>
    if 12943 ≤ l1 then
      (some (wr μ 259 11 0)).bind fun m1 =>
      (some (wr m1 259 12 (-1))).bind fun m4 =>
      (some (wr m4 259 18 0)).bind fun m7 =>
      M_enter_46 big m7 0 1
    else
      (aI μ 264 12943 l1).bind fun x10 =>
      (sI μ 265 12943 l1 x10).bind fun m12 =>
      M_enter_2 n m12 (jadd l1 1)
noncomputable def M_enter (μ : Mem) : Option (Int × Mem) :=
  M_enter_2 big μ 0
noncomputable def M_undo_11  : Nat → Mem → Int → Option (Int × Mem)
  | 0, _, _ => none
  | n + 1, μ, l1 =>
    if 12943 ≤ l1 then
      (some (wr μ 259 8 (jrem (jsub (jadd (μ 259 8) 8) 1) 8))).bind fun m1 =>
      (some (wr m1 259 7 (jsub (m1 259 7) 1))).bind fun m4 =>
      (M_settle m4).bind fun m7 =>
      some (1, m7)
    else
      (aI μ 266 103544 (jadd (jmul 12943 (μ 259 8)) l1)).bind fun x10 =>
      (sI μ 264 12943 l1 x10).bind fun m12 =>
      M_undo_11 n m12 (jadd l1 1)
noncomputable def M_undo (μ : Mem) : Option (Int × Mem) :=
  if (μ 259 7) ≠ 0 then
    M_undo_11 big μ 0
  else
    some ((-1), μ)
noncomputable def M_nextTo_47 (μ : Mem) (l1 : Int) : Option (Int) :=
  (M_numberAbove μ l1).bind fun x1 =>
  some x1
noncomputable def M_nextTo_30 (μ : Mem) (l1 : Int) (s0 : Int) : Option (Int) :=
  if s0 ≤ 0 then
    M_nextTo_47 μ l1
  else
    (M_cueRow μ s0).bind fun x1 =>
    if x1 < 0 then
      M_nextTo_47 μ l1
    else
      some s0
noncomputable def M_nextTo (μ : Mem) (a1 : Int) : Option (Int) :=
  (M_cueRow μ a1).bind fun x1 =>
  if 0 ≤ x1 then
    (aI μ 264 12943 (jadd (jadd 1352 (jmul 7 x1)) 6)).bind fun x3 =>
    M_nextTo_30 μ a1 x3
  else
    M_nextTo_30 μ a1 (-1)
noncomputable def M_take_229 (K32 : Mem → Int → Int → Option (Mem)) (μ : Mem) (l1 : Int) (l2 : Int) (l3 : Int) (l4 : Int) (l5 : Int) (l9 : Int) (l10 : Int) (s1 : Int) (s2 : Int) (s3 : Int) : Option (Mem) :=
  (sI μ 274 360 s1 (jadd s2 s3)).bind fun m1 =>
  if l9 = 0 then
    (sI m1 275 360 l5 l10).bind fun m4 =>
    K32 m4 l4 (jadd l5 1)
  else
    (sI m1 275 360 l5 0).bind fun m7 =>
    K32 m7 l4 (jadd l5 1)
noncomputable def M_take_182 (K32 : Mem → Int → Int → Option (Mem)) (μ : Mem) (l1 : Int) (l2 : Int) (l3 : Int) (l4 : Int) (l5 : Int) (l6 : Int) (l8 : Int) (l9 : Int) (s0 : Int) : Option (Mem) :=
  (sI μ 273 360 l5 l6).bind fun m1 =>
  (sI m1 272 360 l5 l8).bind fun m4 =>
  if l9 = 0 then
    (aI m4 264 12943 (jadd l3 4)).bind fun x7 =>
    M_take_229 K32 m4 l1 l2 l3 l4 l5 l9 s0 l5 (m4 259 28) x7
  else
    M_take_229 K32 m4 l1 l2 l3 l4 l5 l9 s0 l5 (m4 259 28) 0
noncomputable def M_take_138 (K32 : Mem → Int → Int → Option (Mem)) (μ : Mem) (l1 : Int) (l2 : Int) (l3 : Int) (l4 : Int) (l5 : Int) (l6 : Int) (l7 : Int) (l8 : Int) (s0 : Int) : Option (Mem) :=
  if l7 ≠ 0 then
    if l8 ≤ l6 then
      (aI μ 264 12943 (jadd l3 2)).bind fun x1 =>
      M_take_182 K32 μ l1 l2 l3 l4 l5 l6 l8 s0 x1
    else
      (aI μ 264 12943 (jadd l3 1)).bind fun x3 =>
      M_take_182 K32 μ l1 l2 l3 l4 l5 l6 l8 s0 x3
  else
    (aI μ 264 12943 (jadd l3 3)).bind fun x6 =>
    M_take_182 K32 μ l1 l2 l3 l4 l5 l6 l8 s0 x6
noncomputable def M_take_93 (K32 : Mem → Int → Int → Option (Mem)) (μ : Mem) (l1 : Int) (l2 : Int) (l3 : Int) (l5 : Int) (l6 : Int) (l7 : Int) (s0 : Int) : Option (Mem) :=
  (M_trackedLevel μ l1 l5).bind fun x1 =>
  (aI μ 272 360 l5).bind fun x3 =>
  if x1 ≠ x3 then
    if l2 ≠ 0 then
      M_take_138 K32 μ l1 l2 l3 s0 l5 l6 l7 x1 1
    else
      if s0 = 0 then
        M_take_138 K32 μ l1 l2 l3 s0 l5 l6 l7 x1 0
      else
        if l7 ≠ 0 then
          M_take_138 K32 μ l1 l2 l3 s0 l5 l6 l7 x1 0
        else
          M_take_138 K32 μ l1 l2 l3 s0 l5 l6 l7 x1 1
  else
    K32 μ s0 (jadd l5 1)
noncomputable def M_take_61 (K32 : Mem → Int → Int → Option (Mem)) (μ : Mem) (l1 : Int) (l2 : Int) (l3 : Int) (l4 : Int) (l5 : Int) (l6 : Int) (s0 : Int) : Option (Mem) :=
  if s0 = 0 then
    M_take_93 K32 μ l1 l2 l3 l5 l6 s0 l4
  else
    if l6 ≠ 0 then
      M_take_93 K32 μ l1 l2 l3 l5 l6 s0 0
    else
      (aI μ 272 360 l5).bind fun x1 =>
      if x1 ≠ 0 then
        M_take_93 K32 μ l1 l2 l3 l5 l6 s0 0
      else
        M_take_93 K32 μ l1 l2 l3 l5 l6 s0 1
noncomputable def M_take_32 (l1 : Int) (l2 : Int) (l3 : Int) : Nat → Mem → Int → Int → Option (Mem)
  | 0, _, _, _ => none
  | n + 1, μ, l4, l5 =>
    if 360 ≤ l5 then
      some μ
    else
      (M_cueLevel μ l5).bind fun x1 =>
      if (jrem l5 9) ≠ 0 then
        M_take_61 (M_take_32 l1 l2 l3 n) μ l1 l2 l3 l4 l5 x1 0
      else
        M_take_61 (M_take_32 l1 l2 l3 n) μ l1 l2 l3 l4 l5 x1 1
noncomputable def M_take (μ : Mem) (a1 : Int) (a2 : Int) : Option (Mem) :=
  (some (wr μ 259 29 a1)).bind fun m1 =>
  (some (wr m1 259 30 (m1 259 28))).bind fun m4 =>
  (M_cueRow m4 a1).bind fun x7 =>
  (some (jadd 1352 (jmul 7 x7))).bind fun x9 =>
  M_take_32 a1 a2 x9 big m4 0 0
noncomputable def M_follow_99 (K21 : Mem → Int → Int → Int → Option (Mem)) (μ : Mem) (l2 : Int) (l3 : Int) : Option (Mem) :=
  (M_cueRow μ (μ 259 29)).bind fun x1 =>
  K21 μ x1 l2 (jadd l3 1)
noncomputable def M_follow_87 (K21 : Mem → Int → Int → Int → Option (Mem)) (μ : Mem) (l3 : Int) (l5 : Int) (s0 : Int) : Option (Mem) :=
  if s0 = 0 then
    M_follow_99 K21 μ s0 l3
  else
    (M_take μ l5 0).bind fun m1 =>
    M_follow_99 K21 m1 s0 l3
noncomputable def M_follow_21  : Nat → Mem → Int → Int → Int → Option (Mem)
  | 0, _, _, _, _ => none
  | n + 1, μ, l1, l2, l3 =>
    if 30 ≤ l3 then
      some μ
    else
      if l2 = 0 then
        some μ
      else
        (aI μ 264 12943 (jadd (jadd 1352 (jmul 7 l1)) 5)).bind fun x1 =>
        (M_nextTo μ (μ 259 29)).bind fun x3 =>
        if x1 < 0 then
          M_follow_87 (M_follow_21 n) μ l3 x3 0
        else
          if (μ 259 28) ≠ (jadd (μ 259 30) x1) then
            M_follow_87 (M_follow_21 n) μ l3 x3 0
          else
            if x3 ≤ 0 then
              M_follow_87 (M_follow_21 n) μ l3 x3 0
            else
              M_follow_87 (M_follow_21 n) μ l3 x3 1
noncomputable def M_follow (μ : Mem) : Option (Mem) :=
  (M_cueRow μ (μ 259 29)).bind fun x1 =>
  if x1 < 0 then
    M_follow_21 big μ x1 0 0
  else
    M_follow_21 big μ x1 1 0
noncomputable def M_taken (μ : Mem) (a1 : Int) (a2 : Int) : Option (Int × Mem) :=
  if a1 ≠ 0 then
    (M_take μ a1 a2).bind fun m1 =>
    (M_follow m1).bind fun m4 =>
    some ((m4 259 29), m4)
  else
    some ((-1), μ)
noncomputable def M_go (μ : Mem) : Option (Int × Mem) :=
  (M_nextTo μ (μ 259 29)).bind fun x1 =>
  (M_taken μ x1 0).bind fun p3 =>
  some (p3.1, p3.2)
noncomputable def M_back (μ : Mem) : Option (Int × Mem) :=
  (M_numberUpTo μ (jsub (μ 259 29) 1)).bind fun x1 =>
  (M_taken μ x1 1).bind fun p3 =>
  some (p3.1, p3.2)
noncomputable def M_jump (μ : Mem) (a1 : Int) : Option (Int × Mem) :=
  (M_cueRow μ a1).bind fun x1 =>
  if 0 ≤ x1 then
    (M_taken μ a1 0).bind fun p3 =>
    some (p3.1, p3.2)
  else
    some ((-2), μ)
noncomputable def M_hold (μ : Mem) (a1 : Int) : Option (Int × Mem) :=
  (some (μ 259 31)).bind fun x1 =>
  (pz μ 259 31 a1).bind fun m3 =>
  if x1 = 0 ∨ x1 = 1 then some (x1, m3) else none
noncomputable def M_added_137 (μ : Mem) (l1 : Int) (l7 : Int) (s0 : Int) : Option (Int) :=
  (aI μ 264 12943 l1).bind fun x1 =>
  if x1 ≠ 2 then
    (aI μ 264 12943 (jadd l1 2)).bind fun x3 =>
    some (jdiv (jmul x3 s0) 1000)
  else
    if l7 < 500 then
      some 0
    else
      (aI μ 264 12943 (jadd l1 2)).bind fun x5 =>
      some x5
noncomputable def M_added_15 (μ : Mem) (l1 : Int) (l2 : Int) (l3 : Int) : Nat → Int → Int → Option (Int)
  | 0, _, _ => none
  | n + 1, l4, l5 =>
    if l3 ≤ l5 then
      if 0 ≤ l4 then
        (aI μ 264 12943 (jadd l1 3)).bind fun x1 =>
        (aI μ 264 12943 (jadd l1 4)).bind fun x3 =>
        if l3 = 0 then none else
        (some (qadd (qmul (μ 259 27) x1) (jdiv (jmul l4 x3) l3))).bind fun x6 =>
        (some (q2i (qrem x6 1000))).bind fun x8 =>
        (aI μ 264 12943 l1).bind fun x10 =>
        if x10 ≠ 0 then
          if 500 ≤ x8 then
            M_added_137 μ l1 x8 (jsub 2000 (jmul 2 x8))
          else
            M_added_137 μ l1 x8 (jmul 2 x8)
        else
          M_added_137 μ l1 x8 x8
      else
        some 0
    else
      (aI μ 264 12943 (jadd (jadd l1 6) l5)).bind fun x15 =>
      if x15 ≠ l2 then
        M_added_15 μ l1 l2 l3 n l4 (jadd l5 1)
      else
        M_added_15 μ l1 l2 l3 n l5 (jadd l5 1)
noncomputable def M_added (μ : Mem) (a1 : Int) (a2 : Int) : Option (Int) :=
  (aI μ 264 12943 (jadd a1 5)).bind fun x1 =>
  M_added_15 μ a1 a2 x1 big (-1) 0
noncomputable def M_levelAt_101 (K44 : Int → Int → Option (Int)) (μ : Mem) (l1 : Int) (l2 : Int) (l4 : Int) (l5 : Int) (l6 : Int) (l7 : Int) (s0 : Int) : Option (Int) :=
  if l7 < 0 then
    K44 l5 (jadd l6 1)
  else
    (aI μ 264 12943 (jadd 1160 l6)).bind fun x1 =>
    if x1 ≠ 0 then
      K44 l5 (jadd l6 1)
    else
      (some (mxI l5 (jdiv (jmul l7 s0) 1000))).bind fun x3 =>
      K44 x3 (jadd l6 1)
noncomputable def M_levelAt_152 (μ : Mem) (l1 : Int) (l2 : Int) : Nat → Int → Int → Option (Int)
  | 0, _, _ => none
  | n + 1, l5, l6 =>
    if 4 ≤ l6 then
      some l5
    else
      (some (jadd 1168 (jmul 46 l6))).bind fun x1 =>
      (aI μ 278 4 l6).bind fun x3 =>
      if x3 = 0 then
        M_levelAt_152 μ l1 l2 n l5 (jadd l6 1)
      else
        (aI μ 264 12943 x1).bind fun x5 =>
        if x5 < 0 then
          M_levelAt_152 μ l1 l2 n l5 (jadd l6 1)
        else
          (aI μ 264 12943 (jadd x1 1)).bind fun x7 =>
          if x7 ≠ l2 then
            M_levelAt_152 μ l1 l2 n l5 (jadd l6 1)
          else
            (M_added μ x1 l1).bind fun x9 =>
            (some (mnI 1000 (jadd l5 x9))).bind fun x11 =>
            M_levelAt_152 μ l1 l2 n x11 (jadd l6 1)
noncomputable def M_levelAt_44 (μ : Mem) (l1 : Int) (l2 : Int) (l4 : Int) : Nat → Int → Int → Option (Int)
  | 0, _, _ => none
  | n + 1, l5, l6 =>
    if 8 ≤ l6 then
      M_levelAt_152 μ l1 l2 big l5 0
    else
      if l2 ≠ 0 then
        M_levelAt_152 μ l1 l2 big l5 0
      else
        if 0 ≤ l4 then
          M_levelAt_152 μ l1 l2 big l5 0
        else
          (aI μ 264 12943 (jadd (jadd 840 (jmul 40 l6)) l1)).bind fun x1 =>
          (aI μ 277 8 l6).bind fun x3 =>
          if x3 = 0 then
            (aI μ 276 8 l6).bind fun x5 =>
            M_levelAt_101 (M_levelAt_44 μ l1 l2 l4 n) μ l1 l2 l4 l5 l6 x1 x5
          else
            M_levelAt_101 (M_levelAt_44 μ l1 l2 l4 n) μ l1 l2 l4 l5 l6 x1 1000
noncomputable def M_levelAt (μ : Mem) (a1 : Int) (a2 : Int) : Option (Int) :=
  (some (jadd (jmul 9 a1) a2)).bind fun x1 =>
  (aI μ 264 12943 (jadd 12362 x1)).bind fun x3 =>
  if x3 < 0 then
    (M_cueLevel μ x1).bind fun x5 =>
    M_levelAt_44 μ a1 a2 x3 big x5 0
  else
    (M_levelOf μ x3 a2).bind fun x7 =>
    M_levelAt_44 μ a1 a2 x3 big x7 0
noncomputable def M_roll (μ : Mem) (a1 : Int) : Option (Mem) :=
  (M_levelAt μ a1 8).bind fun x1 =>
  (aI μ 279 40 a1).bind fun x3 =>
  (some (jsub x1 x3)).bind fun x5 =>
  (aI μ 279 40 a1).bind fun x7 =>
  if x5 ≤ 40 then
    if (-40) ≤ x5 then
      (sI μ 279 40 a1 (jadd x7 x5)).bind fun m9 =>
      some m9
    else
      (sI μ 279 40 a1 (jadd x7 (-40))).bind fun m12 =>
      some m12
  else
    (sI μ 279 40 a1 (jadd x7 40)).bind fun m16 =>
    some m16
noncomputable def M_advance_113 (K16 : Mem → Int → Option (Int × Mem)) (l1 : Int) (l2 : Int) : Nat → Mem → Int → Option (Int × Mem)
  | 0, _, _ => none
  | n + 1, μ, l3 =>
    if 40 ≤ l3 then
      K16 μ (jadd l2 1)
    else
      (aI μ 264 12943 (jmul 6 l3)).bind fun x1 =>
      if x1 ≠ 8 then
        M_advance_113 K16 l1 l2 n μ (jadd l3 1)
      else
        (M_roll μ l3).bind fun m3 =>
        M_advance_113 K16 l1 l2 n m3 (jadd l3 1)
noncomputable def M_advance_35 (K16 : Mem → Int → Option (Int × Mem)) (l1 : Int) (l2 : Int) : Nat → Mem → Int → Option (Int × Mem)
  | 0, _, _ => none
  | n + 1, μ, l3 =>
    if 12943 ≤ l3 then
      if (μ 259 31) ≠ 0 then
        M_advance_113 K16 l1 l2 big μ 0
      else
        (some (wr μ 259 28 (jadd (μ 259 28) 1))).bind fun m1 =>
        (M_follow m1).bind fun m4 =>
        M_advance_113 K16 l1 l2 big m4 0
    else
      (aI μ 264 12943 l3).bind fun x8 =>
      if x8 ≠ (μ 259 27) then
        M_advance_35 K16 l1 l2 n μ (jadd l3 2)
      else
        (aI μ 264 12943 (jadd l3 1)).bind fun x10 =>
        (M_cueRow μ x10).bind fun x12 =>
        if x12 < 0 then
          M_advance_35 K16 l1 l2 n μ (jadd l3 2)
        else
          (aI μ 264 12943 (jadd l3 1)).bind fun x14 =>
          (M_taken μ x14 0).bind fun p16 =>
          M_advance_35 K16 l1 l2 n p16.2 (jadd l3 2)
noncomputable def M_advance_16 (l1 : Int) : Nat → Mem → Int → Option (Int × Mem)
  | 0, _, _ => none
  | n + 1, μ, l2 =>
    if l1 ≤ l2 then
      some ((μ 259 27), μ)
    else
      (some (wr μ 259 27 (jadd (μ 259 27) 1))).bind fun m1 =>
      M_advance_35 (M_advance_16 l1 n) l1 l2 big m1 12923
noncomputable def M_advance (μ : Mem) (a1 : Int) : Option (Int × Mem) :=
  (M_in μ a1 0 600).bind fun x1 =>
  if x1 ≠ 0 then
    M_advance_16 a1 big μ 0
  else
    some ((-4), μ)
noncomputable def M_fader (μ : Mem) (a1 : Int) (a2 : Int) : Option (Int × Mem) :=
  (M_in μ a1 1 8).bind fun x1 =>
  if x1 ≠ 0 then
    (M_in μ a2 0 1000).bind fun x3 =>
    if x3 ≠ 0 then
      (aI μ 276 8 (jsub a1 1)).bind fun x5 =>
      (sI μ 276 8 (jsub a1 1) a2).bind fun m7 =>
      some (x5, m7)
    else
      some ((-4), μ)
  else
    some ((-2), μ)
noncomputable def M_bump (μ : Mem) (a1 : Int) (a2 : Int) : Option (Int × Mem) :=
  (M_in μ a1 1 8).bind fun x1 =>
  if x1 ≠ 0 then
    (aI μ 277 8 (jsub a1 1)).bind fun x3 =>
    (sI μ 277 8 (jsub a1 1) (jz a2)).bind fun m5 =>
    if x3 = 0 then
      some (0, m5)
    else
      some (1, m5)
  else
    some ((-2), μ)
noncomputable def M_grand (μ : Mem) (a1 : Int) : Option (Int × Mem) :=
  (M_in μ a1 0 1000).bind fun x1 =>
  if x1 ≠ 0 then
    (some (μ 259 34)).bind fun x3 =>
    (some (wr μ 259 34 a1)).bind fun m5 =>
    some (x3, m5)
  else
    some ((-4), μ)
noncomputable def M_black (μ : Mem) (a1 : Int) : Option (Int × Mem) :=
  (some (μ 259 35)).bind fun x1 =>
  (pz μ 259 35 a1).bind fun m3 =>
  if x1 = 0 ∨ x1 = 1 then some (x1, m3) else none
noncomputable def M_run (μ : Mem) (a1 : Int) (a2 : Int) : Option (Int × Mem) :=
  (M_in μ a1 1 4).bind fun x1 =>
  if x1 ≠ 0 then
    (aI μ 278 4 (jsub a1 1)).bind fun x3 =>
    (sI μ 278 4 (jsub a1 1) (jz a2)).bind fun m5 =>
    if x3 = 0 then
      some (0, m5)
    else
      some (1, m5)
  else
    some ((-2), μ)
noncomputable def M_isUnit (μ : Mem) (a1 : Int) : Option (Int) :=
  (M_in μ a1 1 40).bind fun x1 =>
  if x1 = 0 then
    some 0
  else
    (M_isPatched μ (jsub a1 1)).bind fun x3 =>
    if x3 = 0 then
      some 0
    else
      some 1
noncomputable def M_level (μ : Mem) (a1 : Int) (a2 : Int) : Option (Int) :=
  (M_isUnit μ a1).bind fun x1 =>
  if x1 = 0 then
    some (-2)
  else
    (M_in μ a2 0 8).bind fun x3 =>
    if x3 = 0 then
      some (-2)
    else
      (M_has μ (jsub a1 1) a2).bind fun x5 =>
      if x5 = 0 then
        some (-2)
      else
        (M_levelAt μ (jsub a1 1) a2).bind fun x7 =>
        some x7
noncomputable def M_shownAt_182 (μ : Mem) (l1 : Int) (s0 : Int) : Option (Int) :=
  (aI μ 264 12943 (jmul 6 l1)).bind fun x1 =>
  (some (jadd x1 52)).bind fun x3 =>
  if x3 ≠ 54 then
    if x3 ≠ 55 then
      some s0
    else
      if s0 < 500 then
        some 0
      else
        some 1000
  else
    if (μ 259 35) = 0 then
      some (mxI 30 s0)
    else
      some s0
noncomputable def M_shownAt_116 (μ : Mem) (l1 : Int) (s0 : Int) : Option (Int) :=
  (aI μ 264 12943 (jadd (jmul 6 l1) 3)).bind fun x1 =>
  if x1 ≠ 0 then
    if x1 ≠ 1 then
      if x1 ≠ 2 then
        if s0 ≤ 0 then
          M_shownAt_182 μ l1 0
        else
          M_shownAt_182 μ l1 1000
      else
        M_shownAt_182 μ l1 (jdiv (jmul s0 (jsub 2000 s0)) 1000)
    else
      M_shownAt_182 μ l1 (jdiv (jmul s0 s0) 1000)
  else
    M_shownAt_182 μ l1 s0
noncomputable def M_shownAt_18 (μ : Mem) (l1 : Int) : Nat → Int → Int → Option (Int)
  | 0, _, _ => none
  | n + 1, l2, l3 =>
    if 8 ≤ l3 then
      if (μ 259 35) = 0 then
        (aI μ 264 12943 (jadd (jmul 6 l1) 2)).bind fun x1 =>
        M_shownAt_116 μ l1 (mnI l2 x1)
      else
        M_shownAt_116 μ l1 0
    else
      (aI μ 264 12943 (jadd 1160 l3)).bind fun x4 =>
      if x4 ≠ 1 then
        M_shownAt_18 μ l1 n l2 (jadd l3 1)
      else
        (aI μ 264 12943 (jadd (jadd 840 (jmul 40 l3)) l1)).bind fun x6 =>
        if x6 < 0 then
          M_shownAt_18 μ l1 n l2 (jadd l3 1)
        else
          (aI μ 277 8 l3).bind fun x8 =>
          if x8 = 0 then
            (aI μ 276 8 l3).bind fun x10 =>
            (some (jdiv (jmul l2 x10) 1000)).bind fun x12 =>
            M_shownAt_18 μ l1 n x12 (jadd l3 1)
          else
            (some (jdiv (jmul l2 1000) 1000)).bind fun x14 =>
            M_shownAt_18 μ l1 n x14 (jadd l3 1)
noncomputable def M_shownAt (μ : Mem) (a1 : Int) : Option (Int) :=
  (M_levelAt μ a1 0).bind fun x1 =>
  (some (jdiv (jmul x1 (μ 259 34)) 1000)).bind fun x3 =>
  M_shownAt_18 μ a1 big x3 0
noncomputable def M_shown (μ : Mem) (a1 : Int) : Option (Int) :=
  (M_isUnit μ a1).bind fun x1 =>
  if x1 = 0 then
    some (-2)
  else
    (M_shownAt μ (jsub a1 1)).bind fun x3 =>
    some x3
noncomputable def M_output_102 (μ : Mem) (l1 : Int) (l2 : Int) (l3 : Int) (l5 : Int) : Option (Int) :=
  if l2 ≠ 8 then
    if l2 ≠ 7 then
      if l3 ≠ 57 then
        some l5
      else
        (M_in μ l2 1 3).bind fun x1 =>
        if x1 = 0 then
          some l5
        else
          (M_shownAt μ l1).bind fun x3 =>
          some (jdiv (jmul l5 x3) 1000)
    else
      (M_shownAt μ l1).bind fun x7 =>
      if x7 ≠ 0 then
        some l5
      else
        some 0
  else
    (aI μ 279 40 l1).bind fun x11 =>
    some x11
noncomputable def M_output_60 (μ : Mem) (l1 : Int) (l2 : Int) (l3 : Int) (s1 : Int) (s2 : Int) : Option (Int) :=
  (M_levelAt μ s1 s2).bind fun x1 =>
  if l2 ≠ 0 then
    if l2 ≠ 4 then
      M_output_102 μ l1 l2 l3 x1
    else
      (aI μ 264 12943 (jadd (jmul 6 l1) 4)).bind fun x3 =>
      if x3 ≠ 1 then
        M_output_102 μ l1 l2 l3 x1
      else
        some (jsub 1000 x1)
  else
    (M_shownAt μ l1).bind fun x7 =>
    some x7
noncomputable def M_output_43 (μ : Mem) (l1 : Int) (l2 : Int) (l3 : Int) (s0 : Int) : Option (Int) :=
  if s0 = 0 then
    M_output_60 μ l1 l2 l3 l1 l2
  else
    M_output_60 μ l1 l2 l3 l1 (jsub 9 l2)
noncomputable def M_output (μ : Mem) (a1 : Int) (a2 : Int) : Option (Int) :=
  (aI μ 264 12943 (jmul 6 a1)).bind fun x1 =>
  (some (jadd x1 52)).bind fun x3 =>
  (aI μ 264 12943 (jadd (jmul 6 a1) 5)).bind fun x5 =>
  if x5 ≠ 1 then
    M_output_43 μ a1 a2 x3 0
  else
    if a2 = 4 then
      M_output_43 μ a1 a2 x3 1
    else
      if a2 ≠ 5 then
        M_output_43 μ a1 a2 x3 0
      else
        M_output_43 μ a1 a2 x3 1
noncomputable def M_byteOf_36 (K18 : Int → Int → Option (Int)) (μ : Mem) (l1 : Int) (l3 : Int) (l4 : Int) (s0 : Int) (s1 : Int) : Option (Int) :=
  if s0 < s1 then
    (aI μ 262 22 l4).bind fun x1 =>
    (M_output μ l1 (jand x1 15)).bind fun x3 =>
    (aI μ 262 22 l4).bind fun x5 =>
    if 16 ≤ x5 then
      (some (jdiv (jadd (jmul x3 65535) 500) 1000)).bind fun x7 =>
      if l3 ≠ 0 then
        some (jrem x7 256)
      else
        some (jdiv x7 256)
    else
      some (jdiv (jadd (jmul x3 255) 500) 1000)
  else
    (aI μ 262 22 l4).bind fun x11 =>
    if x11 < 16 then
      (some (jsub l3 1)).bind fun x13 =>
      K18 x13 (jadd l4 1)
    else
      (some (jsub l3 2)).bind fun x15 =>
      K18 x15 (jadd l4 1)
noncomputable def M_byteOf_18 (μ : Mem) (l1 : Int) : Nat → Int → Int → Option (Int)
  | 0, _, _ => none
  | n + 1, l3, l4 =>
    (aI μ 262 22 l4).bind fun x1 =>
    if x1 < 16 then
      M_byteOf_36 (M_byteOf_18 μ l1 n) μ l1 l3 l4 l3 1
    else
      M_byteOf_36 (M_byteOf_18 μ l1 n) μ l1 l3 l4 l3 2
noncomputable def M_byteOf (μ : Mem) (a1 : Int) (a2 : Int) : Option (Int) :=
  (aI μ 264 12943 (jmul 6 a1)).bind fun x1 =>
  (aI μ 263 10 x1).bind fun x3 =>
  M_byteOf_18 μ a1 big a2 x3
noncomputable def M_slot_46 (μ : Mem) (l1 : Int) : Nat → Int → Int → Option (Int)
  | 0, _, _ => none
  | n + 1, l2, l3 =>
    if 40 ≤ l3 then
      some l2
    else
      (M_isPatched μ l3).bind fun x1 =>
      if x1 = 0 then
        M_slot_46 μ l1 n l2 (jadd l3 1)
      else
        (aI μ 264 12943 (jadd (jmul 6 l3) 1)).bind fun x3 =>
        (aI μ 264 12943 (jmul 6 l3)).bind fun x5 =>
        (M_width μ x5).bind fun x7 =>
        (M_in μ (jsub l1 x3) 0 (jsub x7 1)).bind fun x9 =>
        if x9 = 0 then
          M_slot_46 μ l1 n l2 (jadd l3 1)
        else
          (aI μ 264 12943 (jadd (jmul 6 l3) 1)).bind fun x11 =>
          (M_byteOf μ l3 (jsub l1 x11)).bind fun x13 =>
          M_slot_46 μ l1 n x13 (jadd l3 1)
noncomputable def M_slot (μ : Mem) (a1 : Int) : Option (Int) :=
  (M_in μ a1 1 200).bind fun x1 =>
  if x1 ≠ 0 then
    (aI μ 264 12943 (jsub (jadd 12723 a1) 1)).bind fun x3 =>
    if x3 < 0 then
      M_slot_46 μ a1 big 0 0
    else
      (aI μ 264 12943 (jsub (jadd 12723 a1) 1)).bind fun x5 =>
      some x5
  else
    some (-2)
noncomputable def M_isField (μ : Mem) (a0 : Int) (a1 : Int) : Option (Int) :=
  (M_in μ a0 1 40).bind fun x1 =>
  if x1 = 0 then
    some 0
  else
    (M_in μ a1 0 8).bind fun x3 =>
    if x3 = 0 then
      some 0
    else
      some 1
noncomputable def M_field (μ : Mem) (a0 : Int) (a1 : Int) : Option (Int) :=
  some (jadd (jmul 9 (jsub a0 1)) a1)
noncomputable def M_tracked (μ : Mem) (a1 : Int) (a2 : Int) (a3 : Int) : Option (Int) :=
  (M_in μ a1 0 999).bind fun x1 =>
  if x1 = 0 then
    some (-2)
  else
    (M_isField μ a2 a3).bind fun x3 =>
    if x3 = 0 then
      some (-2)
    else
      (M_field μ a2 a3).bind fun x5 =>
      (M_trackedLevel μ a1 x5).bind fun x7 =>
      some x7
noncomputable def M_origin (μ : Mem) (a1 : Int) (a2 : Int) (a3 : Int) : Option (Int) :=
  (M_in μ a1 0 999).bind fun x1 =>
  if x1 = 0 then
    some (-2)
  else
    (M_isField μ a2 a3).bind fun x3 =>
    if x3 = 0 then
      some (-2)
    else
      (M_field μ a2 a3).bind fun x5 =>
      (M_originOf μ a1 x5).bind fun x7 =>
      some x7
noncomputable def M_change (μ : Mem) (a1 : Int) (a2 : Int) (a3 : Int) : Option (Int) :=
  (M_cueRow μ a1).bind fun x1 =>
  if x1 < 0 then
    some (-2)
  else
    (M_isField μ a2 a3).bind fun x3 =>
    if x3 = 0 then
      some (-2)
    else
      (M_field μ a2 a3).bind fun x5 =>
      (aI μ 264 12943 (jadd (jadd 1562 (jmul 360 x1)) x5)).bind fun x7 =>
      some x7
noncomputable def M_held (μ : Mem) (a1 : Int) (a2 : Int) : Option (Int) :=
  (M_isField μ a1 a2).bind fun x1 =>
  if x1 = 0 then
    some (-2)
  else
    (M_field μ a1 a2).bind fun x3 =>
    (aI μ 264 12943 (jadd 12362 x3)).bind fun x5 =>
    some x5
noncomputable def M_valuesFrom_4 (μ : Mem) (l1 : Int) : Nat → Int → Int → Option (Int)
  | 0, _, _ => none
  | n + 1, l2, l3 =>
    if 360 ≤ l3 then
      some l2
    else
      (aI μ 264 12943 (jadd l1 l3)).bind fun x1 =>
      if x1 < 0 then
        (some (jadd l2 0)).bind fun x3 =>
        M_valuesFrom_4 μ l1 n x3 (jadd l3 1)
      else
        (some (jadd l2 1)).bind fun x5 =>
        M_valuesFrom_4 μ l1 n x5 (jadd l3 1)
noncomputable def M_valuesFrom (μ : Mem) (a1 : Int) : Option (Int) :=
  M_valuesFrom_4 μ a1 big 0 0
noncomputable def M_cue_35 (μ : Mem) (l1 : Int) (l2 : Int) : Nat → Int → Int → Option (Int)
  | 0, _, _ => none
  | n + 1, l3, l4 =>
    if l1 ≤ l4 then
      (M_cueRow μ l3).bind fun x1 =>
      if l2 ≠ 6 then
        if 6 ≤ l2 then
          (aI μ 264 12943 (jadd (jadd 1352 (jmul 7 x1)) 6)).bind fun x3 =>
          some x3
        else
          (aI μ 264 12943 (jadd (jadd 1352 (jmul 7 x1)) l2)).bind fun x5 =>
          some x5
      else
        (M_valuesFrom μ (jadd 1562 (jmul 360 x1))).bind fun x8 =>
        some x8
    else
      (M_numberAbove μ l3).bind fun x11 =>
      M_cue_35 μ l1 l2 n x11 (jadd l4 1)
noncomputable def M_cue (μ : Mem) (a1 : Int) (a2 : Int) : Option (Int) :=
  (M_cues μ).bind fun x1 =>
  (M_in μ a1 0 (jsub x1 1)).bind fun x3 =>
  if x3 = 0 then
    some (-1)
  else
    (M_in μ a2 0 7).bind fun x5 =>
    if x5 ≠ 0 then
      (M_numberAbove μ 0).bind fun x7 =>
      M_cue_35 μ a1 a2 big x7 0
    else
      some (-1)
noncomputable def M_unit (μ : Mem) (a1 : Int) (a2 : Int) : Option (Int) :=
  (M_isUnit μ a1).bind fun x1 =>
  if x1 = 0 then
    some (-1)
  else
    (M_in μ a2 0 6).bind fun x3 =>
    if x3 ≠ 0 then
      if 6 ≤ a2 then
        (aI μ 279 40 (jsub a1 1)).bind fun x5 =>
        some x5
      else
        (aI μ 264 12943 (jadd (jmul 6 (jsub a1 1)) a2)).bind fun x7 =>
        some x7
    else
      some (-1)
noncomputable def M_group (μ : Mem) (a1 : Int) (a2 : Int) : Option (Int) :=
  (M_in μ a1 1 12).bind fun x1 =>
  if x1 ≠ 0 then
    (some (jadd 240 (jmul 41 (jsub a1 1)))).bind fun x3 =>
    (aI μ 264 12943 x3).bind fun x5 =>
    (M_in μ a2 0 (jsub x5 1)).bind fun x7 =>
    if x7 = 0 then
      some (-1)
    else
      (aI μ 264 12943 (jadd (jadd x3 1) a2)).bind fun x9 =>
      some (jadd x9 1)
  else
    some (-1)
noncomputable def M_palette (μ : Mem) (a1 : Int) (a2 : Int) : Option (Int) :=
  (M_in μ a1 1 12).bind fun x1 =>
  if x1 = 0 then
    some (-1)
  else
    (M_in μ a2 0 8).bind fun x3 =>
    if x3 = 0 then
      some (-1)
    else
      (aI μ 264 12943 (jadd (jadd 732 (jmul 9 (jsub a1 1))) a2)).bind fun x5 =>
      some x5
noncomputable def M_sub (μ : Mem) (a1 : Int) (a2 : Int) : Option (Int) :=
  (M_in μ a1 1 8).bind fun x1 =>
  if x1 = 0 then
    some (-1)
  else
    (M_in μ a2 1 40).bind fun x3 =>
    if x3 = 0 then
      some (-1)
    else
      (aI μ 264 12943 (jsub (jadd (jadd 840 (jmul 40 (jsub a1 1))) a2) 1)).bind fun x5 =>
      some x5
noncomputable def M_masters (μ : Mem) (a1 : Int) : Option (Int) :=
  (M_in μ a1 1 8).bind fun x1 =>
  if x1 = 0 then
    some (-2)
  else
    (aI μ 264 12943 (jsub (jadd 1160 a1) 1)).bind fun x3 =>
    some x3
noncomputable def M_park (μ : Mem) (a1 : Int) : Option (Int) :=
  (M_in μ a1 1 200).bind fun x1 =>
  if x1 = 0 then
    some (-1)
  else
    (aI μ 264 12943 (jsub (jadd 12723 a1) 1)).bind fun x3 =>
    some x3
noncomputable def M_event (μ : Mem) (a1 : Int) (a2 : Int) : Option (Int) :=
  (M_in μ a1 1 10).bind fun x1 =>
  if x1 = 0 then
    some (-1)
  else
    (M_in μ a2 0 1).bind fun x3 =>
    if x3 = 0 then
      some (-1)
    else
      (aI μ 264 12943 (jadd (jadd 12923 (jmul 2 (jsub a1 1))) a2)).bind fun x5 =>
      some x5
noncomputable def M_wave (μ : Mem) (a1 : Int) (a2 : Int) : Option (Int) :=
  (M_in μ a1 1 4).bind fun x1 =>
  if x1 = 0 then
    some (-1)
  else
    if 0 ≤ a2 then
      (some (jadd 1168 (jmul 46 (jsub a1 1)))).bind fun x3 =>
      (aI μ 264 12943 x3).bind fun x5 =>
      if 0 ≤ x5 then
        if 5 ≤ a2 then
          (aI μ 264 12943 (jadd x3 5)).bind fun x7 =>
          if x7 ≤ (jsub a2 5) then
            some (-1)
          else
            (aI μ 264 12943 (jadd (jadd x3 1) a2)).bind fun x9 =>
            some (jadd x9 1)
        else
          (aI μ 264 12943 (jadd x3 a2)).bind fun x12 =>
          some x12
      else
        some (-1)
    else
      some (-1)
noncomputable def M_state_78 (μ : Mem) : Nat → Int → Int → Option (Int)
  | 0, _, _ => none
  | n + 1, l2, l3 =>
    if 40 ≤ l3 then
      some l2
    else
      (M_isPatched μ l3).bind fun x1 =>
      if x1 = 0 then
        (some (jadd l2 0)).bind fun x3 =>
        M_state_78 μ n x3 (jadd l3 1)
      else
        (some (jadd l2 1)).bind fun x5 =>
        M_state_78 μ n x5 (jadd l3 1)
noncomputable def M_state_132 (μ : Mem) : Nat → Int → Int → Option (Int)
  | 0, _, _ => none
  | n + 1, l2, l3 =>
    if 360 ≤ l3 then
      some l2
    else
      (M_cueLevel μ l3).bind fun x1 =>
      (aI μ 272 360 l3).bind fun x3 =>
      if x1 = x3 then
        (some (jadd l2 0)).bind fun x5 =>
        M_state_132 μ n x5 (jadd l3 1)
      else
        (some (jadd l2 1)).bind fun x7 =>
        M_state_132 μ n x7 (jadd l3 1)
noncomputable def M_state (μ : Mem) (a1 : Int) : Option (Int) :=
  if a1 = 0 then
    some (μ 259 27)
  else
  if a1 = 1 then
    some (μ 259 28)
  else
  if a1 = 2 then
    some (μ 259 29)
  else
  if a1 = 3 then
    (M_cues μ).bind fun x4 =>
    some x4
  else
  if a1 = 4 then
    M_state_78 μ big 0 0
  else
  if a1 = 5 then
    some (μ 259 7)
  else
  if a1 = 6 then
    some (μ 264 12722)
  else
  if a1 = 7 then
    (M_valuesFrom μ 12362).bind fun x10 =>
    some x10
  else
  if a1 = 8 then
    M_state_132 μ big 0 0
  else
  if a1 = 9 then
    some (μ 259 10)
  else
  some (-1)
noncomputable def M_write (μ : Mem) (a1 : Int) : Option (Mem) :=
  if 6000 ≤ (μ 259 39) then
    (some (wr μ 259 39 (jadd (μ 259 39) 1))).bind fun m1 =>
    some m1
  else
    (sI μ 280 6000 (μ 259 39) a1).bind fun m4 =>
    (some (wr m4 259 39 (jadd (m4 259 39) 1))).bind fun m7 =>
    some m7
noncomputable def M_solid (μ : Mem) : Option (Mem) :=
  if (μ 259 40) = 0 then
    (some (wr μ 259 40 1)).bind fun m1 =>
    some m1
  else
    (M_write μ 32).bind fun m4 =>
    (some (wr m4 259 40 1)).bind fun m7 =>
    some m7
noncomputable def M_writeWord_33 (l1 : Int) : Nat → Mem → Int → Option (Mem)
  | 0, _, _ => none
  | n + 1, μ, l4 =>
    if (qcmp l4 0) ≤ 0 then
      some μ
    else
      (aI μ 260 70 l1).bind fun x1 =>
      if l4 = 0 then none else
      (M_write μ (jadd 96 (q2i (qrem (qdiv x1 l4) 27)))).bind fun m4 =>
      (some (qdiv l4 27)).bind fun x7 =>
      M_writeWord_33 l1 n m4 x7
noncomputable def M_writeWord_6 (μ : Mem) (l1 : Int) : Nat → Int → Option (Mem)
  | 0, _ => none
  | n + 1, l2 =>
    (aI μ 260 70 l1).bind fun x1 =>
    if 0 < (qcmp (qmul l2 27) x1) then
      M_writeWord_33 l1 big μ l2
    else
      (some (qmul l2 27)).bind fun x3 =>
      M_writeWord_6 μ l1 n x3
noncomputable def M_writeWord (μ : Mem) (a1 : Int) : Option (Mem) :=
  (M_solid μ).bind fun m1 =>
  M_writeWord_6 m1 a1 big 1
noncomputable def M_writeNumber_24 (l1 : Int) : Nat → Mem → Int → Option (Mem)
  | 0, _, _ => none
  | n + 1, μ, l3 =>
    if l3 ≤ 0 then
      some μ
    else
      if l3 = 0 then none else
      (M_write μ (jadd 48 (jrem (jdiv l1 l3) 10))).bind fun m2 =>
      (some (jdiv l3 10)).bind fun x5 =>
      M_writeNumber_24 l1 n m2 x5
noncomputable def M_writeNumber_6 (μ : Mem) (l1 : Int) : Nat → Int → Option (Mem)
  | 0, _ => none
  | n + 1, l2 =>
    if l1 < (jmul l2 10) then
      M_writeNumber_24 l1 big μ l2
    else
      (some (jmul l2 10)).bind fun x1 =>
      M_writeNumber_6 μ l1 n x1
noncomputable def M_writeNumber (μ : Mem) (a1 : Int) : Option (Mem) :=
  (M_solid μ).bind fun m1 =>
  M_writeNumber_6 m1 a1 big 1
noncomputable def M_pair (μ : Mem) (a1 : Int) (a2 : Int) : Option (Mem) :=
  (M_writeWord μ a1).bind fun m1 =>
  (M_writeNumber m1 a2).bind fun m4 =>
  some m4
noncomputable def M_writeSign (μ : Mem) (a1 : Int) : Option (Mem) :=
  (M_write μ a1).bind fun m1 =>
  (some (wr m1 259 40 0)).bind fun m4 =>
  some m4
noncomputable def M_ends (μ : Mem) : Option (Mem) :=
  (M_writeSign μ 59).bind fun m1 =>
  (M_write m1 10).bind fun m4 =>
  some m4
noncomputable def M_savePatch_127 (μ : Mem) : Option (Mem) :=
  (M_ends μ).bind fun m1 =>
  some m1
noncomputable def M_savePatch_109 (μ : Mem) (l2 : Int) : Option (Mem) :=
  (aI μ 264 12943 (jadd l2 5)).bind fun x1 =>
  if x1 ≠ 1 then
    M_savePatch_127 μ
  else
    (M_writeWord μ 8).bind fun m3 =>
    M_savePatch_127 m3
noncomputable def M_savePatch_91 (μ : Mem) (l2 : Int) : Option (Mem) :=
  (aI μ 264 12943 (jadd l2 4)).bind fun x1 =>
  if x1 ≠ 1 then
    M_savePatch_109 μ l2
  else
    (M_writeWord μ 7).bind fun m3 =>
    M_savePatch_109 m3 l2
noncomputable def M_savePatch_66 (μ : Mem) (l2 : Int) : Option (Mem) :=
  (aI μ 264 12943 (jadd l2 3)).bind fun x1 =>
  if x1 = 0 then
    M_savePatch_91 μ l2
  else
    (aI μ 264 12943 (jadd l2 3)).bind fun x3 =>
    (M_pair μ 6 x3).bind fun m5 =>
    M_savePatch_91 m5 l2
noncomputable def M_savePatch (μ : Mem) (a1 : Int) : Option (Mem) :=
  (some (jmul 6 a1)).bind fun x1 =>
  (M_pair μ 3 (jadd a1 1)).bind fun m3 =>
  (aI m3 264 12943 x1).bind fun x6 =>
  (M_writeWord m3 (jadd 52 x6)).bind fun m8 =>
  (aI m8 264 12943 (jadd x1 1)).bind fun x11 =>
  (M_pair m8 4 x11).bind fun m13 =>
  (aI m13 264 12943 (jadd x1 2)).bind fun x16 =>
  if x16 = 1000 then
    M_savePatch_66 m13 x1
  else
    (aI m13 264 12943 (jadd x1 2)).bind fun x18 =>
    (M_pair m13 5 x18).bind fun m20 =>
    M_savePatch_66 m20 x1
noncomputable def M_units_23 (K2 : Mem → Int → Option (Mem)) (μ : Mem) (l1 : Int) (l2 : Int) : Option (Mem) :=
  (aI μ 264 12943 (jadd l1 l2)).bind fun x1 =>
  (M_writeNumber μ (jadd x1 1)).bind fun m3 =>
  K2 m3 (jadd l2 1)
noncomputable def M_units_2 (l1 : Int) : Nat → Mem → Int → Option (Mem)
  | 0, _, _ => none
  | n + 1, μ, l2 =>
    (aI μ 264 12943 l1).bind fun x1 =>
    if x1 < l2 then
      some μ
    else
      if l2 ≤ 1 then
        M_units_23 (M_units_2 l1 n) μ l1 l2
      else
        (M_writeSign μ 43).bind fun m3 =>
        M_units_23 (M_units_2 l1 n) m3 l1 l2
noncomputable def M_units (μ : Mem) (a1 : Int) : Option (Mem) :=
  M_units_2 a1 big μ 1
noncomputable def M_levelsIn_4 (μ : Mem) (l1 : Int) : Nat → Int → Int → Option (Int)
  | 0, _, _ => none
  | n + 1, l2, l3 =>
    if 9 ≤ l3 then
      some l2
    else
      (aI μ 264 12943 (jadd l1 l3)).bind fun x1 =>
      if x1 < 0 then
        (some (jadd l2 0)).bind fun x3 =>
        M_levelsIn_4 μ l1 n x3 (jadd l3 1)
      else
        (some (jadd l2 1)).bind fun x5 =>
        M_levelsIn_4 μ l1 n x5 (jadd l3 1)
noncomputable def M_levelsIn (μ : Mem) (a1 : Int) : Option (Int) :=
  M_levelsIn_4 μ a1 big 0 0
noncomputable def M_savePalette_35 (l2 : Int) : Nat → Mem → Int → Option (Mem)
  | 0, _, _ => none
  | n + 1, μ, l3 =>
    if 9 ≤ l3 then
      (M_ends μ).bind fun m1 =>
      some m1
    else
      (aI μ 264 12943 (jadd l2 l3)).bind fun x4 =>
      if x4 < 0 then
        M_savePalette_35 l2 n μ (jadd l3 1)
      else
        (aI μ 264 12943 (jadd l2 l3)).bind fun x6 =>
        (M_pair μ (jadd 61 l3) x6).bind fun m8 =>
        M_savePalette_35 l2 n m8 (jadd l3 1)
noncomputable def M_savePalette (μ : Mem) (a1 : Int) : Option (Mem) :=
  (some (jadd 732 (jmul 9 a1))).bind fun x1 =>
  (M_levelsIn μ x1).bind fun x3 =>
  if x3 ≠ 0 then
    (M_pair μ 10 (jadd a1 1)).bind fun m5 =>
    (M_writeSign m5 61).bind fun m8 =>
    M_savePalette_35 x1 big m8 0
  else
    some μ
noncomputable def M_saveSubs_35 (l1 : Int) : Nat → Mem → Int → Option (Mem)
  | 0, _, _ => none
  | n + 1, μ, l2 =>
    if 40 ≤ l2 then
      some μ
    else
      (aI μ 264 12943 (jadd (jadd 840 (jmul 40 l1)) l2)).bind fun x1 =>
      if 0 ≤ x1 then
        (M_pair μ 12 (jadd l1 1)).bind fun m3 =>
        (M_pair m3 13 (jadd l2 1)).bind fun m6 =>
        (M_writeSign m6 64).bind fun m9 =>
        (M_writeNumber m9 x1).bind fun m12 =>
        (M_ends m12).bind fun m15 =>
        M_saveSubs_35 l1 n m15 (jadd l2 1)
      else
        M_saveSubs_35 l1 n μ (jadd l2 1)
noncomputable def M_saveSubs (μ : Mem) (a1 : Int) : Option (Mem) :=
  (aI μ 264 12943 (jadd 1160 a1)).bind fun x1 =>
  if x1 ≠ 1 then
    M_saveSubs_35 a1 big μ 0
  else
    (M_pair μ 12 (jadd a1 1)).bind fun m3 =>
    (M_writeWord m3 15).bind fun m6 =>
    (M_ends m6).bind fun m9 =>
    M_saveSubs_35 a1 big m9 0
noncomputable def M_saveWave (μ : Mem) (a1 : Int) : Option (Mem) :=
  (some (jadd 1168 (jmul 46 a1))).bind fun x1 =>
  (M_pair μ 16 (jadd a1 1)).bind fun m3 =>
  (M_writeSign m3 61).bind fun m6 =>
  (aI m6 264 12943 x1).bind fun x9 =>
  (M_writeWord m6 (jadd 37 x9)).bind fun m11 =>
  (aI m11 264 12943 (jadd x1 1)).bind fun x14 =>
  (M_writeWord m11 (jadd 61 x14)).bind fun m16 =>
  (aI m16 264 12943 (jadd x1 2)).bind fun x19 =>
  (M_pair m16 17 x19).bind fun m21 =>
  (aI m21 264 12943 (jadd x1 3)).bind fun x24 =>
  (M_pair m21 18 x24).bind fun m26 =>
  (aI m26 264 12943 (jadd x1 4)).bind fun x29 =>
  (M_pair m26 19 x29).bind fun m31 =>
  (M_writeWord m31 20).bind fun m34 =>
  (M_units m34 (jadd x1 5)).bind fun m37 =>
  (M_ends m37).bind fun m40 =>
  some m40
noncomputable def M_saveChanges_9 (l2 : Int) : Nat → Mem → Int → Option (Mem)
  | 0, _, _ => none
  | n + 1, μ, l3 =>
    if 9 ≤ l3 then
      (M_ends μ).bind fun m1 =>
      some m1
    else
      (aI μ 264 12943 (jadd l2 l3)).bind fun x4 =>
      if 0 ≤ x4 then
        (M_writeWord μ (jadd 61 l3)).bind fun m6 =>
        if x4 < 2000 then
          (M_writeNumber m6 x4).bind fun m9 =>
          M_saveChanges_9 l2 n m9 (jadd l3 1)
        else
          (M_pair m6 49 (jsub x4 2000)).bind fun m12 =>
          M_saveChanges_9 l2 n m12 (jadd l3 1)
      else
        M_saveChanges_9 l2 n μ (jadd l3 1)
noncomputable def M_saveChanges (μ : Mem) (a1 : Int) (a2 : Int) : Option (Mem) :=
  (M_writeNumber μ (jadd a1 1)).bind fun m1 =>
  M_saveChanges_9 a2 big m1 0
noncomputable def M_saveCue_177 (l3 : Int) : Nat → Mem → Int → Option (Mem)
  | 0, _, _ => none
  | n + 1, μ, l4 =>
    if 40 ≤ l4 then
      (M_writeWord μ 31).bind fun m1 =>
      (M_ends m1).bind fun m4 =>
      some m4
    else
      (M_levelsIn μ (jadd l3 (jmul 9 l4))).bind fun x7 =>
      if x7 ≤ 0 then
        M_saveCue_177 l3 n μ (jadd l4 1)
      else
        (M_saveChanges μ l4 (jadd l3 (jmul 9 l4))).bind fun m9 =>
        M_saveCue_177 l3 n m9 (jadd l4 1)
noncomputable def M_saveCue_140 (μ : Mem) (l1 : Int) (l2 : Int) : Option (Mem) :=
  (M_ends μ).bind fun m1 =>
  (some (jadd 1562 (jmul 360 l2))).bind fun x4 =>
  (M_valuesFrom m1 x4).bind fun x6 =>
  if x6 ≠ 0 then
    (M_pair m1 30 l1).bind fun m8 =>
    (M_ends m8).bind fun m11 =>
    M_saveCue_177 x4 big m11 0
  else
    some m1
noncomputable def M_saveCue_99 (μ : Mem) (l1 : Int) (l2 : Int) : Option (Mem) :=
  (aI μ 264 12943 (jadd (jadd 1352 (jmul 7 l2)) 6)).bind fun x1 =>
  if x1 < 0 then
    M_saveCue_140 μ l1 l2
  else
    (aI μ 264 12943 (jadd (jadd 1352 (jmul 7 l2)) 6)).bind fun x3 =>
    (M_pair μ 45 x3).bind fun m5 =>
    M_saveCue_140 m5 l1 l2
noncomputable def M_saveCue_15 (l1 : Int) (l2 : Int) : Nat → Mem → Int → Option (Mem)
  | 0, _, _ => none
  | n + 1, μ, l3 =>
    if 4 ≤ l3 then
      (aI μ 264 12943 (jadd (jadd 1352 (jmul 7 l2)) 5)).bind fun x1 =>
      if x1 < 0 then
        M_saveCue_99 μ l1 l2
      else
        (aI μ 264 12943 (jadd (jadd 1352 (jmul 7 l2)) 5)).bind fun x3 =>
        (M_pair μ 44 x3).bind fun m5 =>
        M_saveCue_99 m5 l1 l2
    else
      (aI μ 264 12943 (jadd (jadd (jadd 1352 (jmul 7 l2)) 1) l3)).bind fun x9 =>
      if x9 ≤ 0 then
        M_saveCue_15 l1 l2 n μ (jadd l3 1)
      else
        (M_pair μ (jadd 40 l3) x9).bind fun m11 =>
        M_saveCue_15 l1 l2 n m11 (jadd l3 1)
noncomputable def M_saveCue (μ : Mem) (a1 : Int) : Option (Mem) :=
  (M_cueRow μ a1).bind fun x1 =>
  (M_pair μ 21 a1).bind fun m3 =>
  M_saveCue_15 a1 x1 big m3 0
noncomputable def M_savePark (μ : Mem) (a1 : Int) : Option (Mem) :=
  (aI μ 264 12943 (jadd 12723 a1)).bind fun x1 =>
  if 0 ≤ x1 then
    (M_pair μ 34 (jadd a1 1)).bind fun m3 =>
    (M_writeSign m3 64).bind fun m6 =>
    (aI m6 264 12943 (jadd 12723 a1)).bind fun x9 =>
    (M_writeNumber m6 x9).bind fun m11 =>
    (M_ends m11).bind fun m14 =>
    some m14
  else
    some μ
noncomputable def M_saveEvent (μ : Mem) (a1 : Int) : Option (Mem) :=
  (aI μ 264 12943 (jadd 12923 (jmul 2 a1))).bind fun x1 =>
  if 0 ≤ x1 then
    (M_pair μ 36 (jadd a1 1)).bind fun m3 =>
    (M_writeSign m3 61).bind fun m6 =>
    (aI m6 264 12943 (jadd 12923 (jmul 2 a1))).bind fun x9 =>
    (M_writeNumber m6 x9).bind fun m11 =>
    (aI m11 264 12943 (jadd (jadd 12923 (jmul 2 a1)) 1)).bind fun x14 =>
    (M_pair m11 21 x14).bind fun m16 =>
    (M_ends m16).bind fun m19 =>
    some m19
  else
    some μ
noncomputable def M_save_254  : Nat → Mem → Int → Option (Int × Mem)
  | 0, _, _ => none
  | n + 1, μ, l1 =>
    if (μ 259 39) ≤ l1 then
      some ((μ 259 10), μ)
    else
      (aI μ 280 6000 l1).bind fun x1 =>
      (sI μ 267 6000 l1 x1).bind fun m3 =>
      M_save_254 n m3 (jadd l1 1)
noncomputable def M_save_215  : Nat → Mem → Int → Option (Int × Mem)
  | 0, _, _ => none
  | n + 1, μ, l1 =>
    if 10 ≤ l1 then
      if (μ 259 39) ≤ 6000 then
        (some (wr μ 259 10 (μ 259 39))).bind fun m1 =>
        M_save_254 big m1 0
      else
        some ((-1), μ)
    else
      (M_saveEvent μ l1).bind fun m5 =>
      M_save_215 n m5 (jadd l1 1)
noncomputable def M_save_195  : Nat → Mem → Int → Option (Int × Mem)
  | 0, _, _ => none
  | n + 1, μ, l1 =>
    if 200 ≤ l1 then
      M_save_215 big μ 0
    else
      (M_savePark μ l1).bind fun m1 =>
      M_save_195 n m1 (jadd l1 1)
noncomputable def M_save_175  : Nat → Mem → Int → Option (Int × Mem)
  | 0, _, _ => none
  | n + 1, μ, l1 =>
    if l1 ≤ 0 then
      M_save_195 big μ 0
    else
      (M_saveCue μ l1).bind fun m1 =>
      (M_numberAbove m1 l1).bind fun x4 =>
      M_save_175 n m1 x4
noncomputable def M_save_137  : Nat → Mem → Int → Option (Int × Mem)
  | 0, _, _ => none
  | n + 1, μ, l1 =>
    if 4 ≤ l1 then
      (M_numberAbove μ 0).bind fun x1 =>
      M_save_175 big μ x1
    else
      (aI μ 264 12943 (jadd 1168 (jmul 46 l1))).bind fun x3 =>
      if x3 < 0 then
        M_save_137 n μ (jadd l1 1)
      else
        (M_saveWave μ l1).bind fun m5 =>
        M_save_137 n m5 (jadd l1 1)
noncomputable def M_save_118  : Nat → Mem → Int → Option (Int × Mem)
  | 0, _, _ => none
  | n + 1, μ, l1 =>
    if 8 ≤ l1 then
      M_save_137 big μ 0
    else
      (M_saveSubs μ l1).bind fun m1 =>
      M_save_118 n m1 (jadd l1 1)
noncomputable def M_save_99  : Nat → Mem → Int → Option (Int × Mem)
  | 0, _, _ => none
  | n + 1, μ, l1 =>
    if 12 ≤ l1 then
      M_save_118 big μ 0
    else
      (M_savePalette μ l1).bind fun m1 =>
      M_save_99 n m1 (jadd l1 1)
noncomputable def M_save_39  : Nat → Mem → Int → Option (Int × Mem)
  | 0, _, _ => none
  | n + 1, μ, l1 =>
    if 12 ≤ l1 then
      M_save_99 big μ 0
    else
      (aI μ 264 12943 (jadd 240 (jmul 41 l1))).bind fun x1 =>
      if x1 ≤ 0 then
        M_save_39 n μ (jadd l1 1)
      else
        (M_pair μ 1 (jadd l1 1)).bind fun m3 =>
        (M_writeSign m3 61).bind fun m6 =>
        (M_units m6 (jadd 240 (jmul 41 l1))).bind fun m9 =>
        (M_ends m9).bind fun m12 =>
        M_save_39 n m12 (jadd l1 1)
noncomputable def M_save_12  : Nat → Mem → Int → Option (Int × Mem)
  | 0, _, _ => none
  | n + 1, μ, l1 =>
    if 40 ≤ l1 then
      M_save_39 big μ 0
    else
      (M_isPatched μ l1).bind fun x1 =>
      if x1 = 0 then
        M_save_12 n μ (jadd l1 1)
      else
        (M_savePatch μ l1).bind fun m3 =>
        M_save_12 n m3 (jadd l1 1)
noncomputable def M_save (μ : Mem) : Option (Int × Mem) :=
  (some (wr μ 259 39 0)).bind fun m1 =>
  (some (wr m1 259 40 0)).bind fun m4 =>
  M_save_12 big m4 0
noncomputable def L_law_435 (K18 : Mem → Int → Option (Int × Mem)) (μ : Mem) (l3 : Int) (s0 : Int) (s2 : Int) : Option (Int × Mem) :=
  (M_hold μ s2).bind fun p1 =>
  if s0 = p1.1 then
    K18 p1.2 (jadd l3 6)
  else
    some (0, p1.2)
noncomputable def L_law_418 (K18 : Mem → Int → Option (Int × Mem)) (μ : Mem) (l3 : Int) (s1 : Int) : Option (Int × Mem) :=
  (D_hold μ s1).bind fun p1 =>
  (rdI p1.2 (-7) (jadd l3 1)).bind fun x4 =>
  if x4 = 0 then
    L_law_435 K18 p1.2 l3 p1.1 0
  else
    L_law_435 K18 p1.2 l3 p1.1 1
noncomputable def L_law_540 (K18 : Mem → Int → Option (Int × Mem)) (μ : Mem) (l3 : Int) (s0 : Int) (s2 : Int) (s3 : Int) : Option (Int × Mem) :=
  (M_bump μ s2 s3).bind fun p1 =>
  if s0 = p1.1 then
    K18 p1.2 (jadd l3 6)
  else
    some (0, p1.2)
noncomputable def L_law_518 (K18 : Mem → Int → Option (Int × Mem)) (μ : Mem) (l3 : Int) (s1 : Int) (s2 : Int) : Option (Int × Mem) :=
  (D_bump μ s1 s2).bind fun p1 =>
  (rdI p1.2 (-7) (jadd l3 1)).bind fun x4 =>
  (rdI p1.2 (-7) (jadd l3 2)).bind fun x6 =>
  if x6 = 0 then
    L_law_540 K18 p1.2 l3 p1.1 x4 0
  else
    L_law_540 K18 p1.2 l3 p1.1 x4 1
noncomputable def L_law_602 (K18 : Mem → Int → Option (Int × Mem)) (μ : Mem) (l3 : Int) (s0 : Int) (s2 : Int) : Option (Int × Mem) :=
  (M_black μ s2).bind fun p1 =>
  if s0 = p1.1 then
    K18 p1.2 (jadd l3 6)
  else
    some (0, p1.2)
noncomputable def L_law_585 (K18 : Mem → Int → Option (Int × Mem)) (μ : Mem) (l3 : Int) (s1 : Int) : Option (Int × Mem) :=
  (D_black μ s1).bind fun p1 =>
  (rdI p1.2 (-7) (jadd l3 1)).bind fun x4 =>
  if x4 = 0 then
    L_law_602 K18 p1.2 l3 p1.1 0
  else
    L_law_602 K18 p1.2 l3 p1.1 1
noncomputable def L_law_651 (K18 : Mem → Int → Option (Int × Mem)) (μ : Mem) (l3 : Int) (s0 : Int) (s2 : Int) (s3 : Int) : Option (Int × Mem) :=
  (M_run μ s2 s3).bind fun p1 =>
  if s0 = p1.1 then
    K18 p1.2 (jadd l3 6)
  else
    some (0, p1.2)
noncomputable def L_law_629 (K18 : Mem → Int → Option (Int × Mem)) (μ : Mem) (l3 : Int) (s1 : Int) (s2 : Int) : Option (Int × Mem) :=
  (D_run μ s1 s2).bind fun p1 =>
  (rdI p1.2 (-7) (jadd l3 1)).bind fun x4 =>
  (rdI p1.2 (-7) (jadd l3 2)).bind fun x6 =>
  if x6 = 0 then
    L_law_651 K18 p1.2 l3 p1.1 x4 0
  else
    L_law_651 K18 p1.2 l3 p1.1 x4 1
noncomputable def L_law_18  : Nat → Mem → Int → Option (Int × Mem)
  | 0, _, _ => none
  | n + 1, μ, l3 =>
    if (jsub (μ 0 1) 6) < l3 then
      some (1, μ)
    else
      (rdI μ (-7) l3).bind fun x1 =>
      (some (jand x1 63)).bind fun x3 =>
      if x3 = 0 then
        (rdI μ (-7) (jadd l3 1)).bind fun x5 =>
        (rdI μ (-7) (jadd l3 2)).bind fun x7 =>
        (rdI μ (-7) (jadd l3 3)).bind fun x9 =>
        (rdI μ (-7) (jadd l3 4)).bind fun x11 =>
        (rdI μ (-7) (jadd l3 5)).bind fun x13 =>
        (D_feed μ x5 x7 x9 x11 x13).bind fun p15 =>
        (rdI p15.2 (-7) (jadd l3 1)).bind fun x18 =>
        (rdI p15.2 (-7) (jadd l3 2)).bind fun x20 =>
        (rdI p15.2 (-7) (jadd l3 3)).bind fun x22 =>
        (rdI p15.2 (-7) (jadd l3 4)).bind fun x24 =>
        (rdI p15.2 (-7) (jadd l3 5)).bind fun x26 =>
        (M_feed p15.2 x18 x20 x22 x24 x26).bind fun p28 =>
        if p15.1 = p28.1 then
          L_law_18 n p28.2 (jadd l3 6)
        else
          some (0, p28.2)
      else
      if x3 = 1 then
        (rdI μ (-7) (jadd l3 1)).bind fun x33 =>
        (D_end μ x33).bind fun p35 =>
        (rdI p35.2 (-7) (jadd l3 1)).bind fun x38 =>
        (M_end p35.2 x38).bind fun p40 =>
        if p35.1 = p40.1 then
          L_law_18 n p40.2 (jadd l3 6)
        else
          some (0, p40.2)
      else
      if x3 = 2 then
        (D_enter μ).bind fun p45 =>
        (M_enter p45.2).bind fun p48 =>
        if p45.1 = p48.1 then
          L_law_18 n p48.2 (jadd l3 6)
        else
          some (0, p48.2)
      else
      if x3 = 3 then
        (rdI μ (-7) (jadd l3 1)).bind fun x53 =>
        (D_fault μ x53).bind fun x55 =>
        (rdI μ (-7) (jadd l3 1)).bind fun x57 =>
        (M_fault μ x57).bind fun x59 =>
        if x55 = x59 then
          L_law_18 n μ (jadd l3 6)
        else
          some (0, μ)
      else
      if x3 = 4 then
        (D_undo μ).bind fun p63 =>
        (M_undo p63.2).bind fun p66 =>
        if p63.1 = p66.1 then
          L_law_18 n p66.2 (jadd l3 6)
        else
          some (0, p66.2)
      else
      if x3 = 5 then
        (D_save μ).bind fun p71 =>
        (M_save p71.2).bind fun p74 =>
        if p71.1 = p74.1 then
          L_law_18 n p74.2 (jadd l3 6)
        else
          some (0, p74.2)
      else
      if x3 = 6 then
        (rdI μ (-7) (jadd l3 1)).bind fun x79 =>
        (D_tape μ x79).bind fun x81 =>
        (rdI μ (-7) (jadd l3 1)).bind fun x83 =>
        (M_tape μ x83).bind fun x85 =>
        if x81 = x85 then
          L_law_18 n μ (jadd l3 6)
        else
          some (0, μ)
      else
      if x3 = 7 then
        (D_go μ).bind fun p89 =>
        (M_go p89.2).bind fun p92 =>
        if p89.1 = p92.1 then
          L_law_18 n p92.2 (jadd l3 6)
        else
          some (0, p92.2)
      else
      if x3 = 8 then
        (D_back μ).bind fun p97 =>
        (M_back p97.2).bind fun p100 =>
        if p97.1 = p100.1 then
          L_law_18 n p100.2 (jadd l3 6)
        else
          some (0, p100.2)
      else
      if x3 = 9 then
        (rdI μ (-7) (jadd l3 1)).bind fun x105 =>
        (D_jump μ x105).bind fun p107 =>
        (rdI p107.2 (-7) (jadd l3 1)).bind fun x110 =>
        (M_jump p107.2 x110).bind fun p112 =>
        if p107.1 = p112.1 then
          L_law_18 n p112.2 (jadd l3 6)
        else
          some (0, p112.2)
      else
      if x3 = 10 then
        (rdI μ (-7) (jadd l3 1)).bind fun x117 =>
        if x117 = 0 then
          L_law_418 (L_law_18 n) μ l3 0
        else
          L_law_418 (L_law_18 n) μ l3 1
      else
      if x3 = 11 then
        (rdI μ (-7) (jadd l3 1)).bind fun x121 =>
        (D_advance μ x121).bind fun p123 =>
        (rdI p123.2 (-7) (jadd l3 1)).bind fun x126 =>
        (M_advance p123.2 x126).bind fun p128 =>
        if p123.1 = p128.1 then
          L_law_18 n p128.2 (jadd l3 6)
        else
          some (0, p128.2)
      else
      if x3 = 12 then
        (rdI μ (-7) (jadd l3 1)).bind fun x133 =>
        (rdI μ (-7) (jadd l3 2)).bind fun x135 =>
        (D_fader μ x133 x135).bind fun p137 =>
        (rdI p137.2 (-7) (jadd l3 1)).bind fun x140 =>
        (rdI p137.2 (-7) (jadd l3 2)).bind fun x142 =>
        (M_fader p137.2 x140 x142).bind fun p144 =>
        if p137.1 = p144.1 then
          L_law_18 n p144.2 (jadd l3 6)
        else
          some (0, p144.2)
      else
      if x3 = 13 then
        (rdI μ (-7) (jadd l3 1)).bind fun x149 =>
        (rdI μ (-7) (jadd l3 2)).bind fun x151 =>
        if x151 = 0 then
          L_law_518 (L_law_18 n) μ l3 x149 0
        else
          L_law_518 (L_law_18 n) μ l3 x149 1
      else
      if x3 = 14 then
        (rdI μ (-7) (jadd l3 1)).bind fun x155 =>
        (D_grand μ x155).bind fun p157 =>
        (rdI p157.2 (-7) (jadd l3 1)).bind fun x160 =>
        (M_grand p157.2 x160).bind fun p162 =>
        if p157.1 = p162.1 then
          L_law_18 n p162.2 (jadd l3 6)
        else
          some (0, p162.2)
      else
      if x3 = 15 then
        (rdI μ (-7) (jadd l3 1)).bind fun x167 =>
        if x167 = 0 then
          L_law_585 (L_law_18 n) μ l3 0
        else
          L_law_585 (L_law_18 n) μ l3 1
      else
      if x3 = 16 then
        (rdI μ (-7) (jadd l3 1)).bind fun x171 =>
        (rdI μ (-7) (jadd l3 2)).bind fun x173 =>
        if x173 = 0 then
          L_law_629 (L_law_18 n) μ l3 x171 0
        else
          L_law_629 (L_law_18 n) μ l3 x171 1
      else
      if x3 = 17 then
        (rdI μ (-7) (jadd l3 1)).bind fun x177 =>
        (D_slot μ x177).bind fun x179 =>
        (rdI μ (-7) (jadd l3 1)).bind fun x181 =>
        (M_slot μ x181).bind fun x183 =>
        if x179 = x183 then
          L_law_18 n μ (jadd l3 6)
        else
          some (0, μ)
      else
      if x3 = 18 then
        (rdI μ (-7) (jadd l3 1)).bind fun x187 =>
        (rdI μ (-7) (jadd l3 2)).bind fun x189 =>
        (D_level μ x187 x189).bind fun x191 =>
        (rdI μ (-7) (jadd l3 1)).bind fun x193 =>
        (rdI μ (-7) (jadd l3 2)).bind fun x195 =>
        (M_level μ x193 x195).bind fun x197 =>
        if x191 = x197 then
          L_law_18 n μ (jadd l3 6)
        else
          some (0, μ)
      else
      if x3 = 19 then
        (rdI μ (-7) (jadd l3 1)).bind fun x201 =>
        (D_shown μ x201).bind fun x203 =>
        (rdI μ (-7) (jadd l3 1)).bind fun x205 =>
        (M_shown μ x205).bind fun x207 =>
        if x203 = x207 then
          L_law_18 n μ (jadd l3 6)
        else
          some (0, μ)
      else
      if x3 = 20 then
        (rdI μ (-7) (jadd l3 1)).bind fun x211 =>
        (rdI μ (-7) (jadd l3 2)).bind fun x213 =>
        (rdI μ (-7) (jadd l3 3)).bind fun x215 =>
        (D_tracked μ x211 x213 x215).bind fun x217 =>
        (rdI μ (-7) (jadd l3 1)).bind fun x219 =>
        (rdI μ (-7) (jadd l3 2)).bind fun x221 =>
        (rdI μ (-7) (jadd l3 3)).bind fun x223 =>
        (M_tracked μ x219 x221 x223).bind fun x225 =>
        if x217 = x225 then
          L_law_18 n μ (jadd l3 6)
        else
          some (0, μ)
      else
      if x3 = 21 then
        (rdI μ (-7) (jadd l3 1)).bind fun x229 =>
        (rdI μ (-7) (jadd l3 2)).bind fun x231 =>
        (rdI μ (-7) (jadd l3 3)).bind fun x233 =>
        (D_origin μ x229 x231 x233).bind fun x235 =>
        (rdI μ (-7) (jadd l3 1)).bind fun x237 =>
        (rdI μ (-7) (jadd l3 2)).bind fun x239 =>
        (rdI μ (-7) (jadd l3 3)).bind fun x241 =>
        (M_origin μ x237 x239 x241).bind fun x243 =>
        if x235 = x243 then
          L_law_18 n μ (jadd l3 6)
        else
          some (0, μ)
      else
      if x3 = 22 then
        (rdI μ (-7) (jadd l3 1)).bind fun x247 =>
        (rdI μ (-7) (jadd l3 2)).bind fun x249 =>
        (rdI μ (-7) (jadd l3 3)).bind fun x251 =>
        (D_change μ x247 x249 x251).bind fun x253 =>
        (rdI μ (-7) (jadd l3 1)).bind fun x255 =>
        (rdI μ (-7) (jadd l3 2)).bind fun x257 =>
        (rdI μ (-7) (jadd l3 3)).bind fun x259 =>
        (M_change μ x255 x257 x259).bind fun x261 =>
        if x253 = x261 then
          L_law_18 n μ (jadd l3 6)
        else
          some (0, μ)
      else
      if x3 = 23 then
        (rdI μ (-7) (jadd l3 1)).bind fun x265 =>
        (rdI μ (-7) (jadd l3 2)).bind fun x267 =>
        (D_held μ x265 x267).bind fun x269 =>
        (rdI μ (-7) (jadd l3 1)).bind fun x271 =>
        (rdI μ (-7) (jadd l3 2)).bind fun x273 =>
        (M_held μ x271 x273).bind fun x275 =>
        if x269 = x275 then
          L_law_18 n μ (jadd l3 6)
        else
          some (0, μ)
      else
      if x3 = 24 then
        (rdI μ (-7) (jadd l3 1)).bind fun x279 =>
        (rdI μ (-7) (jadd l3 2)).bind fun x281 =>
        (D_cue μ x279 x281).bind fun x283 =>
        (rdI μ (-7) (jadd l3 1)).bind fun x285 =>
        (rdI μ (-7) (jadd l3 2)).bind fun x287 =>
        (M_cue μ x285 x287).bind fun x289 =>
        if x283 = x289 then
          L_law_18 n μ (jadd l3 6)
        else
          some (0, μ)
      else
      if x3 = 25 then
        (rdI μ (-7) (jadd l3 1)).bind fun x293 =>
        (rdI μ (-7) (jadd l3 2)).bind fun x295 =>
        (D_unit μ x293 x295).bind fun x297 =>
        (rdI μ (-7) (jadd l3 1)).bind fun x299 =>
        (rdI μ (-7) (jadd l3 2)).bind fun x301 =>
        (M_unit μ x299 x301).bind fun x303 =>
        if x297 = x303 then
          L_law_18 n μ (jadd l3 6)
        else
          some (0, μ)
      else
      if x3 = 26 then
        (rdI μ (-7) (jadd l3 1)).bind fun x307 =>
        (rdI μ (-7) (jadd l3 2)).bind fun x309 =>
        (D_group μ x307 x309).bind fun x311 =>
        (rdI μ (-7) (jadd l3 1)).bind fun x313 =>
        (rdI μ (-7) (jadd l3 2)).bind fun x315 =>
        (M_group μ x313 x315).bind fun x317 =>
        if x311 = x317 then
          L_law_18 n μ (jadd l3 6)
        else
          some (0, μ)
      else
      if x3 = 27 then
        (rdI μ (-7) (jadd l3 1)).bind fun x321 =>
        (rdI μ (-7) (jadd l3 2)).bind fun x323 =>
        (D_palette μ x321 x323).bind fun x325 =>
        (rdI μ (-7) (jadd l3 1)).bind fun x327 =>
        (rdI μ (-7) (jadd l3 2)).bind fun x329 =>
        (M_palette μ x327 x329).bind fun x331 =>
        if x325 = x331 then
          L_law_18 n μ (jadd l3 6)
        else
          some (0, μ)
      else
      if x3 = 28 then
        (rdI μ (-7) (jadd l3 1)).bind fun x335 =>
        (rdI μ (-7) (jadd l3 2)).bind fun x337 =>
        (D_sub μ x335 x337).bind fun x339 =>
        (rdI μ (-7) (jadd l3 1)).bind fun x341 =>
        (rdI μ (-7) (jadd l3 2)).bind fun x343 =>
        (M_sub μ x341 x343).bind fun x345 =>
        if x339 = x345 then
          L_law_18 n μ (jadd l3 6)
        else
          some (0, μ)
      else
      if x3 = 29 then
        (rdI μ (-7) (jadd l3 1)).bind fun x349 =>
        (D_masters μ x349).bind fun x351 =>
        (rdI μ (-7) (jadd l3 1)).bind fun x353 =>
        (M_masters μ x353).bind fun x355 =>
        if x351 = x355 then
          L_law_18 n μ (jadd l3 6)
        else
          some (0, μ)
      else
      if x3 = 30 then
        (rdI μ (-7) (jadd l3 1)).bind fun x359 =>
        (D_park μ x359).bind fun x361 =>
        (rdI μ (-7) (jadd l3 1)).bind fun x363 =>
        (M_park μ x363).bind fun x365 =>
        if x361 = x365 then
          L_law_18 n μ (jadd l3 6)
        else
          some (0, μ)
      else
      if x3 = 31 then
        (rdI μ (-7) (jadd l3 1)).bind fun x369 =>
        (rdI μ (-7) (jadd l3 2)).bind fun x371 =>
        (D_event μ x369 x371).bind fun x373 =>
        (rdI μ (-7) (jadd l3 1)).bind fun x375 =>
        (rdI μ (-7) (jadd l3 2)).bind fun x377 =>
        (M_event μ x375 x377).bind fun x379 =>
        if x373 = x379 then
          L_law_18 n μ (jadd l3 6)
        else
          some (0, μ)
      else
      if x3 = 32 then
        (rdI μ (-7) (jadd l3 1)).bind fun x383 =>
        (rdI μ (-7) (jadd l3 2)).bind fun x385 =>
        (D_wave μ x383 x385).bind fun x387 =>
        (rdI μ (-7) (jadd l3 1)).bind fun x389 =>
        (rdI μ (-7) (jadd l3 2)).bind fun x391 =>
        (M_wave μ x389 x391).bind fun x393 =>
        if x387 = x393 then
          L_law_18 n μ (jadd l3 6)
        else
          some (0, μ)
      else
      if x3 = 33 then
        (rdI μ (-7) (jadd l3 1)).bind fun x397 =>
        (D_state μ x397).bind fun x399 =>
        (rdI μ (-7) (jadd l3 1)).bind fun x401 =>
        (M_state μ x401).bind fun x403 =>
        if x399 = x403 then
          L_law_18 n μ (jadd l3 6)
        else
          some (0, μ)
      else
      L_law_18 n μ (jadd l3 6)
