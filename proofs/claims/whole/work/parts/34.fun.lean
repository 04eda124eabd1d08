-- L2: the functions (printed by wip/gen/emit32.py)
noncomputable def Rd_codeOfSign (μ : Mem) (a0 : Int) : Option (Int) :=
  if a0 = 43 then
    some 71
  else
  if a0 = 45 then
    some 72
  else
  if a0 = 59 then
    some 70
  else
  if a0 = 61 then
    some 73
  else
  if a0 = 64 then
    some 74
  else
  some 76
noncomputable def Row_placeOf_2 (μ : Mem) (l0 : Int) (l1 : Int) : Nat → Int → Option (Int)
  | 0, _ => none
  | n + 1, l2 =>
    (gf μ 5 1 l0).bind fun x1 =>
    if x1 ≤ l2 then
      some (-1)
    else
      (gO μ 5 1 l0).bind fun x3 =>
      (rdI μ x3 l2).bind fun x5 =>
      if x5 ≠ l1 then
        Row_placeOf_2 μ l0 l1 n (jadd l2 1)
      else
        some l2
noncomputable def Row_placeOf (μ : Mem) (a0 : Int) (a1 : Int) : Option (Int) :=
  Row_placeOf_2 μ a0 a1 big 0
noncomputable def Row_remove_23 (l0 : Int) : Nat → Mem → Int → Option (Mem)
  | 0, _, _ => none
  | n + 1, μ, l3 =>
    (gf μ 5 1 l0).bind fun x1 =>
    if x1 ≤ l3 then
      some μ
    else
      (gO μ 5 1 l0).bind fun x3 =>
      (gO μ 5 1 l0).bind fun x5 =>
      (rdI μ x5 (jadd l3 1)).bind fun x7 =>
      (wI μ x3 l3 x7).bind fun m9 =>
      Row_remove_23 l0 n m9 (jadd l3 1)
noncomputable def Row_remove (μ : Mem) (a0 : Int) (a1 : Int) : Option (Mem) :=
  if a0 ≠ 0 ∧ kd a0 = 5 then
    (Row_placeOf μ a0 a1).bind fun x2 =>
    if 0 ≤ x2 then
      (gf μ 5 1 a0).bind fun x4 =>
      (pf μ 5 1 0 a0 (jsub x4 1)).bind fun m6 =>
      Row_remove_23 a0 big m6 x2
    else
      some μ
  else none
noncomputable def M_in (μ : Mem) (a0 : Int) (a1 : Int) (a2 : Int) : Option (Int) :=
  if a0 < a1 then
    some 0
  else
    if a2 < a0 then
      some 0
    else
      some 1
noncomputable def M_byteAt (μ : Mem) (a1 : Int) : Option (Int) :=
  if (μ 259 10) ≤ a1 then
    some 0
  else
    (aI μ 267 6000 a1).bind fun x1 =>
    some x1
noncomputable def M_isLetter (μ : Mem) (a0 : Int) : Option (Int) :=
  (M_in μ a0 97 122).bind fun x1 =>
  if x1 = 0 ∨ x1 = 1 then some x1 else none
noncomputable def M_readWord_46 (K4 : Mem → Int → Int → Option (Mem)) (μ : Mem) (l3 : Int) (s0 : Int) : Option (Mem) :=
  (some (wr μ 259 18 (jadd (μ 259 18) 1))).bind fun m1 =>
  K4 m1 s0 (jadd l3 1)
noncomputable def M_readWord_69 (μ : Mem) (l1 : Int) (l3 : Int) : Nat → Int → Int → Option (Mem)
  | 0, _, _ => none
  | n + 1, l4, l5 =>
    if 69 < l5 then
      if l4 < 0 then
        (sI μ 268 122 (μ 259 16) 4).bind fun m1 =>
        (sI m1 269 122 (m1 259 16) l4).bind fun m4 =>
        some m4
      else
        (sI μ 268 122 (μ 259 16) 1).bind fun m7 =>
        (sI m7 269 122 (m7 259 16) l4).bind fun m10 =>
        some m10
    else
      if 9 < l3 then
        M_readWord_69 μ l1 l3 n l4 (jadd l5 1)
      else
        (aI μ 260 70 l5).bind fun x14 =>
        if (qcmp x14 l1) ≠ 0 then
          M_readWord_69 μ l1 l3 n l4 (jadd l5 1)
        else
          M_readWord_69 μ l1 l3 n l5 (jadd l5 1)
noncomputable def M_readWord_4  : Nat → Mem → Int → Int → Option (Mem)
  | 0, _, _, _ => none
  | n + 1, μ, l1, l3 =>
    (M_byteAt μ (μ 259 18)).bind fun x1 =>
    (M_isLetter μ x1).bind fun x3 =>
    if x3 = 0 then
      M_readWord_69 μ l1 l3 big (-1) 0
    else
      if 9 ≤ l3 then
        M_readWord_46 (M_readWord_4 n) μ l3 l1
      else
        (M_byteAt μ (μ 259 18)).bind fun x5 =>
        M_readWord_46 (M_readWord_4 n) μ l3 (qadd (qmul 27 l1) (jsub x5 96))
noncomputable def M_readWord (μ : Mem) : Option (Mem) :=
  M_readWord_4 big μ 0 0
noncomputable def M_isDigit (μ : Mem) (a0 : Int) : Option (Int) :=
  (M_in μ a0 48 57).bind fun x1 =>
  if x1 = 0 ∨ x1 = 1 then some x1 else none
noncomputable def M_readNumber_43 (K4 : Mem → Int → Int → Option (Mem)) (μ : Mem) (l2 : Int) (s0 : Int) : Option (Mem) :=
  (some (wr μ 259 18 (jadd (μ 259 18) 1))).bind fun m1 =>
  K4 m1 s0 (jadd l2 1)
noncomputable def M_readNumber_4  : Nat → Mem → Int → Int → Option (Mem)
  | 0, _, _, _ => none
  | n + 1, μ, l1, l2 =>
    (M_byteAt μ (μ 259 18)).bind fun x1 =>
    (M_isDigit μ x1).bind fun x3 =>
    if x3 = 0 then
      if 4 < l2 then
        (sI μ 268 122 (μ 259 16) 4).bind fun m5 =>
        (sI m5 269 122 (m5 259 16) l1).bind fun m8 =>
        some m8
      else
        (sI μ 268 122 (μ 259 16) 2).bind fun m11 =>
        (sI m11 269 122 (m11 259 16) l1).bind fun m14 =>
        some m14
    else
      if 4 ≤ l2 then
        M_readNumber_43 (M_readNumber_4 n) μ l2 l1
      else
        (M_byteAt μ (μ 259 18)).bind fun x18 =>
        M_readNumber_43 (M_readNumber_4 n) μ l2 (jsub (jadd (jmul 10 l1) x18) 48)
noncomputable def M_readNumber (μ : Mem) : Option (Mem) :=
  M_readNumber_4 big μ 0 0
noncomputable def M_read_26 (K0 : Mem → Option (Mem)) (μ : Mem) : Option (Mem) :=
  (some (wr μ 259 18 (jadd (μ 259 18) 1))).bind fun m1 =>
  K0 m1
noncomputable def M_read_166 (μ : Mem) (s1 : Int) (s2 : Int) : Option (Mem) :=
  (sI μ 268 122 s1 s2).bind fun m1 =>
  (some (wr m1 259 18 (jadd (m1 259 18) 1))).bind fun m4 =>
  (some (wr m4 259 16 (jadd (m4 259 16) 1))).bind fun m7 =>
  some m7
noncomputable def M_read_0  : Nat → Mem → Option (Mem)
  | 0, _ => none
  | n + 1, μ =>
    (M_byteAt μ (μ 259 18)).bind fun x1 =>
    if x1 = 10 then
      M_read_26 (M_read_0 n) μ
    else
      (M_byteAt μ (μ 259 18)).bind fun x3 =>
      if x3 ≠ 32 then
        (M_byteAt μ (μ 259 18)).bind fun x5 =>
        (sI μ 270 122 (μ 259 16) (μ 259 18)).bind fun m7 =>
        (sI m7 269 122 (m7 259 16) x5).bind fun m10 =>
        if (m10 259 18) < (m10 259 10) then
          (M_isLetter m10 x5).bind fun x13 =>
          if x13 = 0 then
            (M_isDigit m10 x5).bind fun x15 =>
            if x15 = 0 then
              if x5 = 59 then
                M_read_166 m10 (m10 259 16) 3
              else
                if x5 = 43 then
                  M_read_166 m10 (m10 259 16) 3
                else
                  if x5 = 45 then
                    M_read_166 m10 (m10 259 16) 3
                  else
                    if x5 = 61 then
                      M_read_166 m10 (m10 259 16) 3
                    else
                      if x5 ≠ 64 then
                        M_read_166 m10 (m10 259 16) 4
                      else
                        M_read_166 m10 (m10 259 16) 3
            else
              (M_readNumber m10).bind fun m22 =>
              (some (wr m22 259 16 (jadd (m22 259 16) 1))).bind fun m25 =>
              some m25
          else
            (M_readWord m10).bind fun m29 =>
            (some (wr m29 259 16 (jadd (m29 259 16) 1))).bind fun m32 =>
            some m32
        else
          (sI m10 268 122 (m10 259 16) 0).bind fun m36 =>
          (some (wr m36 259 16 (jadd (m36 259 16) 1))).bind fun m39 =>
          some m39
      else
        M_read_26 (M_read_0 n) μ
noncomputable def M_read (μ : Mem)  : Option (Mem) := M_read_0 big μ
noncomputable def M_isSignAt (μ : Mem) (a1 : Int) (a2 : Int) : Option (Int) :=
  (aI μ 268 122 a1).bind fun x1 =>
  if x1 ≠ 3 then
    some 0
  else
    (aI μ 269 122 a1).bind fun x3 =>
    if x3 ≠ a2 then
      some 0
    else
      some 1
noncomputable def M_isWordAt (μ : Mem) (a1 : Int) (a2 : Int) : Option (Int) :=
  (aI μ 268 122 a1).bind fun x1 =>
  if x1 ≠ 1 then
    some 0
  else
    (aI μ 269 122 a1).bind fun x3 =>
    if x3 ≠ a2 then
      some 0
    else
      some 1
noncomputable def M_cueNumber (μ : Mem) (a1 : Int) : Option (Int) :=
  (aI μ 264 12943 (jadd 1352 (jmul 7 a1))).bind fun x1 =>
  some x1
noncomputable def M_cueRow_4 (μ : Mem) (l1 : Int) : Nat → Int → Int → Option (Int)
  | 0, _, _ => none
  | n + 1, l2, l3 =>
    if 30 ≤ l3 then
      some l2
    else
      if l1 ≤ 0 then
        M_cueRow_4 μ l1 n l2 (jadd l3 1)
      else
        (M_cueNumber μ l3).bind fun x1 =>
        if x1 ≠ l1 then
          M_cueRow_4 μ l1 n l2 (jadd l3 1)
        else
          M_cueRow_4 μ l1 n l3 (jadd l3 1)
noncomputable def M_cueRow (μ : Mem) (a1 : Int) : Option (Int) :=
  M_cueRow_4 μ a1 big (-1) 0
noncomputable def M_patch_161 (K81 : Mem → Int → Option (Mem)) (μ : Mem) (l1 : Int) (l2 : Int) : Option (Mem) :=
  (M_isWordAt μ l2 8).bind fun x1 =>
  if x1 = 0 then
    K81 μ (jadd l2 1)
  else
    (sI μ 264 12943 (jadd l1 5) 1).bind fun m3 =>
    K81 m3 (jadd l2 1)
noncomputable def M_patch_142 (K81 : Mem → Int → Option (Mem)) (μ : Mem) (l1 : Int) (l2 : Int) : Option (Mem) :=
  (M_isWordAt μ l2 7).bind fun x1 =>
  if x1 = 0 then
    M_patch_161 K81 μ l1 l2
  else
    (sI μ 264 12943 (jadd l1 4) 1).bind fun m3 =>
    M_patch_161 K81 m3 l1 l2
noncomputable def M_patch_116 (K81 : Mem → Int → Option (Mem)) (μ : Mem) (l1 : Int) (l2 : Int) : Option (Mem) :=
  (M_isWordAt μ l2 6).bind fun x1 =>
  if x1 = 0 then
    M_patch_142 K81 μ l1 l2
  else
    (aI μ 269 122 (jadd l2 1)).bind fun x3 =>
    (sI μ 264 12943 (jadd l1 3) x3).bind fun m5 =>
    M_patch_142 K81 m5 l1 l2
noncomputable def M_patch_81 (l1 : Int) : Nat → Mem → Int → Option (Mem)
  | 0, _, _ => none
  | n + 1, μ, l2 =>
    (M_isSignAt μ l2 59).bind fun x1 =>
    if x1 ≠ 0 then
      (sI μ 279 40 (jsub (μ 269 1) 1) 0).bind fun m3 =>
      some m3
    else
      (M_isWordAt μ l2 5).bind fun x6 =>
      if x6 = 0 then
        M_patch_116 (M_patch_81 l1 n) μ l1 l2
      else
        (aI μ 269 122 (jadd l2 1)).bind fun x8 =>
        (sI μ 264 12943 (jadd l1 2) x8).bind fun m10 =>
        M_patch_116 (M_patch_81 l1 n) m10 l1 l2
noncomputable def M_patch (μ : Mem) : Option (Mem) :=
  (some (jmul 6 (jsub (μ 269 1) 1))).bind fun x1 =>
  (sI μ 264 12943 x1 (jsub (μ 269 2) 52)).bind fun m3 =>
  (sI m3 264 12943 (jadd x1 1) (m3 269 4)).bind fun m6 =>
  (sI m6 264 12943 (jadd x1 2) 1000).bind fun m9 =>
  (sI m9 264 12943 (jadd x1 3) 0).bind fun m12 =>
  (sI m12 264 12943 (jadd x1 4) 0).bind fun m15 =>
  (sI m15 264 12943 (jadd x1 5) 0).bind fun m18 =>
  M_patch_81 x1 big m18 5
