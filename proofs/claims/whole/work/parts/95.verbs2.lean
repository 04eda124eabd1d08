-- L3: enter: the other verbs
theorem v38 {X : Tx} {c0 m0 c m : Mem} {td : Int → Int} (hX : XO X m0) (hc : CXO X c0) (h : CS X c0 c 1 [] [] [] td (-1) 38) (hm : MST X m0 m 1) : REL X c0 m0 (Rd_readThing c 38) (bo38 m) (QR q38 X c0 td 38) := by
  unfold bo38
  rw [show Rd_readThing c 38 = (Rd_tellNumber c 9 8).bind fun p24 => if p24.1 = 0 then some (0, p24.2) else (Rd_pass p24.2 73).bind fun p27 => if p27.1 = 0 then some (0, p27.2) else (Rd_readWave p27.2).bind fun p30 => if p30.1 = 0 then some (0, p30.2) else some (1, p30.2) from rfl]
  refine relSeq (relNum (r := 8) (j := 9) hX hc h hm (by simp) (by decide) (by decide)) (fun c1 m1 e1 h1 hm1 => ?_) (fun m hb => by simp only [bd_sign hb, bd_waves hb, Option.bind_some])
  obtain ⟨rfl, t1, h1⟩ := h1
  refine relSeq (relSign (ch := 61) (sc := 73) hX hc h1 hm1 (by decide)) (fun c2 m2 e2 h2 hm2 => ?_) (fun m hb => by simp only [bd_waves hb])
  obtain ⟨rfl, t2, h2⟩ := h2
  refine relEnd ?_
  show REL X c0 m0 (Rd_readWave c2) (M_waves m2) _
  unfold Rd_readWave M_waves M_parameter
  by_cases z : TT X (1 + 1 + 1) = 54
  · obtain ⟨c3, m3, g1, g2, g3, h3, hm3⟩ := optY (w := 11) hX hc h2 hm2 (by decide) (by decide) (by decide) z
    rw [g1, g2, Option.bind_some, Option.bind_some, if_neg (show ¬ (1 : Int) = 0 by decide), if_neg (show ¬ (1 : Int) = 0 by decide), g3, Option.bind_some]
    exact relOk ⟨_, _, _, _, _, ⟨t1, t2, rfl, Or.inl ⟨z, rfl, rfl, rfl, rfl, rfl⟩⟩, h3⟩ hm3
  · obtain ⟨g1, g2⟩ := optN (w := 11) hX hc h2.1 hm2 (by decide) (by decide) (show tbl piT 11 = 54 by decide) z
    rw [g1, g2, Option.bind_some, Option.bind_some, if_pos (show (0 : Int) = 0 from rfl), if_pos (show (0 : Int) = 0 from rfl)]
    have eA : ((M_isWordIn m2 37 39).bind fun x3 => (M_need m2 x3).bind fun m5 => ((M_isWordIn m5 61 69).bind fun x1 => (M_need m5 x1).bind fun m3 => some m3).bind fun m8 => (M_word m8 17).bind fun m11 => (M_number m11).bind fun m14 => (M_word m14 18).bind fun m17 => (M_number m17).bind fun m20 => (M_word m20 19).bind fun m23 => (M_number m23).bind fun m26 => (M_word m26 20).bind fun m29 => (M_set m29).bind fun m32 => some m32) = ((M_isWordIn m2 37 39).bind fun x => M_need m2 x).bind fun m5 => ((M_isWordIn m5 61 69).bind fun x => M_need m5 x).bind fun m8 => (M_word m8 17).bind fun m11 => (M_number m11).bind fun m14 => (M_word m14 18).bind fun m17 => (M_number m17).bind fun m20 => (M_word m20 19).bind fun m23 => (M_number m23).bind fun m26 => (M_word m26 20).bind fun m29 => (M_set m29).bind fun m32 => some m32 := by
      simp only [Option.bind_assoc, Option.bind_some]
    rw [eA]
    refine relSeq (relRange (j := 0) (lo := 18) (n := 3) hX hc h2 hm2 (by decide) (by decide) (by decide) (by decide) (by decide) (by decide +kernel)) (fun c3 m3 e3 h3 hm3 => ?_) (fun m hb => by simp only [bd_isWordIn hb, bd_need hb, bd_word hb, bd_number hb, bd_set hb, Option.bind_some])
    obtain ⟨rfl, t3, h3⟩ := h3
    refine relSeq (relRange (j := 1) (lo := 9) (n := 9) hX hc h3 hm3 (by decide) (by decide) (by decide) (by decide) (by decide) (by decide +kernel)) (fun c4 m4 e4 h4 hm4 => ?_) (fun m hb => by simp only [bd_word hb, bd_number hb, bd_set hb, Option.bind_some])
    obtain ⟨rfl, t4, h4⟩ := h4
    refine relSeq (relWord (w := 17) (x := 58) hX hc h4 hm4 (by decide) (by decide) (by decide)) (fun c5 m5 e5 h5 hm5 => ?_) (fun m hb => by simp only [bd_word hb, bd_number hb, bd_set hb, Option.bind_some])
    obtain ⟨rfl, t5, h5⟩ := h5
    refine relSeq (relNum (r := 13) (j := 2) hX hc h5 hm5 (by simp) (by decide) (by decide)) (fun c6 m6 e6 h6 hm6 => ?_) (fun m hb => by simp only [bd_word hb, bd_number hb, bd_set hb, Option.bind_some])
    obtain ⟨rfl, t6, h6⟩ := h6
    refine relSeq (relWord (w := 18) (x := 59) hX hc h6 hm6 (by decide) (by decide) (by decide)) (fun c7 m7 e7 h7 hm7 => ?_) (fun m hb => by simp only [bd_word hb, bd_number hb, bd_set hb, Option.bind_some])
    obtain ⟨rfl, t7, h7⟩ := h7
    refine relSeq (relNum (r := 13) (j := 3) hX hc h7 hm7 (by simp) (by decide) (by decide)) (fun c8 m8 e8 h8 hm8 => ?_) (fun m hb => by simp only [bd_word hb, bd_number hb, bd_set hb, Option.bind_some])
    obtain ⟨rfl, t8, h8⟩ := h8
    refine relSeq (relWord (w := 19) (x := 60) hX hc h8 hm8 (by decide) (by decide) (by decide)) (fun c9 m9 e9 h9 hm9 => ?_) (fun m hb => by simp only [bd_word hb, bd_number hb, bd_set hb, Option.bind_some])
    obtain ⟨rfl, t9, h9⟩ := h9
    refine relSeq (relNum (r := 13) (j := 4) hX hc h9 hm9 (by simp) (by decide) (by decide)) (fun c10 m10 e10 h10 hm10 => ?_) (fun m hb => by simp only [bd_word hb, bd_set hb, Option.bind_some])
    obtain ⟨rfl, t10, h10⟩ := h10
    refine relSeq (relWord (w := 20) (x := 61) hX hc h10 hm10 (by decide) (by decide) (by decide)) (fun c11 m11 e11 h11 hm11 => ?_) (fun m hb => by simp only [bd_set hb, Option.bind_some])
    obtain ⟨rfl, t11, h11⟩ := h11
    refine relEnd (relM (relQ (set_rel hX hc h11 hm11 (by simp)) (fun c12 e12 hq => ?_)))
    obtain ⟨its, tms, hq, h12⟩ := hq
    exact ⟨_, _, _, _, _, ⟨t1, t2, rfl, Or.inr ⟨t3, t4, t5, t6, t7, t8, t9, t10, t11, rfl, its, rfl, hq, rfl⟩⟩, h12⟩
theorem v39 {X : Tx} {c0 m0 c m : Mem} {td : Int → Int} (hX : XO X m0) (hc : CXO X c0) (h : CS X c0 c 1 [] [] [] td (-1) 39) (hm : MST X m0 m 1) (ht : ∀ j, 0 ≤ j → j < 9 → td j = -2) : REL X c0 m0 (Rd_readThing c 39) (bo39 m) (QR q39 X c0 td 39) := by
  unfold bo39
  rw [show Rd_readThing c 39 = (Rd_tellNumber c 9 17).bind fun p24 => if p24.1 = 0 then some (0, p24.2) else (Rd_readTimes p24.2).bind fun p30 => if p30.1 = 0 then some (0, p30.2) else some (1, p30.2) from rfl]
  refine relSeq (relNum (r := 17) (j := 9) hX hc h hm (by simp) (by decide) (by decide)) (fun c1 m1 e1 h1 hm1 => ?_) (fun m hb => by simp only [bd_times hb])
  obtain ⟨rfl, t1, h1⟩ := h1
  refine relEnd (relQ (optT_rel hX hc h1 hm1 (by decide) (by simp) (st_ne ht (by decide))) (fun c5 e5 hq => ?_))
  obtain ⟨its, L, td', hq, h5⟩ := hq
  exact ⟨_, _, _, _, _, ⟨t1, rfl, rfl, rfl, its, L, rfl, hq⟩, h5⟩
theorem cPrev {X : Tx} {c0 c : Mem} {vb : Int} (hX1 : 1 ≤ X.2.2.2) (hc : CXO X c0) (h : CSF X c0 c 1) : Rd_readDeed c vb = Rd_readDeed_22 c vb (Px X 0) := by
  have ht := h.tok hc 0 (by decide) (by omega)
  unfold Rd_readDeed
  rw [h.1, if_neg (by decide), jsub_e (by decide) (by decide), aI_ok (by decide) (by decide), Option.bind_some, show (1 : Int) - 1 = 0 by decide, ht.2.1]
theorem v40 {X : Tx} {c0 m0 c m : Mem} {td : Int → Int} (hX : XO X m0) (hc : CXO X c0) (h : CS X c0 c 1 [] [] [] td (-1) 40) (hm : MST X m0 m 1) (ht : ∀ j, 0 ≤ j → j < 9 → td j = -2) : REL X c0 m0 (Rd_readDeed c 40) (bo40 m) (QR q40 X c0 td 40) := by
  rw [cPrev hX.2.2.2.2.1 hc h.1]
  obtain ⟨c', ei, hi⟩ := cItem (r := 21) (v := 0) (p := Px X 0) h (by simp)
  rw [show Rd_readDeed_22 c 40 (Px X 0) = (St_addItem c 21 0 (Px X 0)).bind fun m1 => Rd_readDeed_52 m1 40 (Px X 0) from rfl, ei, Option.bind_some]
  rw [show Rd_readDeed_52 c' 40 (Px X 0) = (Rd_readRecord c').bind fun p1 => if p1.1 = 0 ∨ p1.1 = 1 then some (p1.1, p1.2) else none from rfl]
  refine relEnd2 ?_
  unfold Rd_readRecord bo40
  refine relSeqN (relNum (r := 17) (j := 9) hX hc hi hm (by simp) (by decide) (by decide)) (fun c1 m1 e1 h1 hm1 => ?_) (fun m hb => by rw [bd_isWord hb, Option.bind_some, if_pos rfl, bd_times hb])
  obtain ⟨rfl, t1, h1⟩ := h1
  by_cases z : TT X (1 + 1) = 62
  · obtain ⟨c2, m2, g1, g2, g3, h2, hm2⟩ := optY (w := 23) hX hc h1 hm1 (by decide) (by decide) (by decide) z
    rw [g2, Option.bind_some, if_neg (show ¬ (1 : Int) = 0 by decide), g3, Option.bind_some]
    show REL X c0 m0 ((Rd_passOption c1 62).bind fun p4 => (Rd_readTimes p4.2).bind fun p7 => if p7.1 = 0 ∨ p7.1 = 1 then some (p7.1, p7.2) else none) _ _
    rw [g1, Option.bind_some]
    refine relEnd2 (relQ (optT_rel hX hc h2 hm2 (by decide) (by simp) (st_ne ht (by decide))) (fun c5 e5 hq => ?_))
    obtain ⟨its, L, td', hq, h5⟩ := hq
    exact ⟨_, _, _, _, _, ⟨t1, rfl, rfl, its, L, 3, Or.inl ⟨z, rfl, rfl⟩, rfl, hq⟩, h5⟩
  · obtain ⟨g1, g2⟩ := optN (w := 23) hX hc h1.1 hm1 (by decide) (by decide) (show tbl piT 23 = 62 by decide) z
    rw [g2, Option.bind_some, if_pos (show (0 : Int) = 0 from rfl)]
    show REL X c0 m0 ((Rd_passOption c1 62).bind fun p4 => (Rd_readTimes p4.2).bind fun p7 => if p7.1 = 0 ∨ p7.1 = 1 then some (p7.1, p7.2) else none) _ _
    rw [g1, Option.bind_some]
    refine relEnd2 (relQ (optT_rel hX hc h1 hm1 (by decide) (by simp) (st_ne ht (by decide))) (fun c5 e5 hq => ?_))
    obtain ⟨its, L, td', hq, h5⟩ := hq
    exact ⟨_, _, _, _, _, ⟨t1, rfl, rfl, its, L, 2, Or.inr ⟨z, rfl, rfl⟩, rfl, hq⟩, h5⟩
theorem v41 {X : Tx} {c0 m0 c m : Mem} {td : Int → Int} (hX : XO X m0) (hc : CXO X c0) (h : CS X c0 c 1 [] [] [] td (-1) 41) (hm : MST X m0 m 1) : REL X c0 m0 (Rd_readDeed c 41) (some m) (QR q41 X c0 td 41) := by
  rw [cPrev hX.2.2.2.2.1 hc h.1]
  obtain ⟨c', ei, hi⟩ := cItem (r := 21) (v := 0) (p := Px X 0) h (by simp)
  obtain ⟨c2, ei2, hi2⟩ := cItem (r := 22) (v := 0) (p := Px X 0) hi (by simp)
  rw [show Rd_readDeed_22 c 41 (Px X 0) = (St_addItem c 21 0 (Px X 0)).bind fun m1 => Rd_readDeed_52 m1 41 (Px X 0) from rfl, ei, Option.bind_some, show Rd_readDeed_52 c' 41 (Px X 0) = (St_addItem c' 22 0 (Px X 0)).bind fun m6 => some (1, m6) from rfl, ei2, Option.bind_some]
  exact relOk ⟨_, _, _, _, _, ⟨rfl, rfl, rfl, rfl, rfl, rfl⟩, hi2⟩ hm
theorem v42 {X : Tx} {c0 m0 c m : Mem} {td : Int → Int} {vb : Int} (hX : XO X m0) (hc : CXO X c0) (h : CS X c0 c 1 [] [] [] td (-1) vb) (hm : MST X m0 m 1) (hv : vb = 42 ∨ vb = 44 ∨ vb = 45 ∨ vb = 46) : REL X c0 m0 (Rd_readDeed c vb) (M_number m) (QR q42 X c0 td vb) := by
  rw [cPrev hX.2.2.2.2.1 hc h.1]
  have e : Rd_readDeed_22 c vb (Px X 0) = (Rd_tellNumber c 9 19).bind fun p1 => if p1.1 = 0 ∨ p1.1 = 1 then some (p1.1, p1.2) else none := by
    rcases hv with rfl | rfl | rfl | rfl <;> rfl
  rw [e]
  refine relEnd2 (relQ (relNum (r := 19) (j := 9) hX hc h hm (by simp) (by decide) (by decide)) (fun c1 e1 h1 => ?_))
  obtain ⟨rfl, t1, h1⟩ := h1
  exact ⟨_, _, _, _, _, ⟨t1, rfl, rfl, rfl, rfl, rfl, rfl⟩, h1⟩
theorem v43 {X : Tx} {c0 m0 c m : Mem} {td : Int → Int} (hX : XO X m0) (hc : CXO X c0) (h : CS X c0 c 1 [] [] [] td (-1) 43) (hm : MST X m0 m 1) : REL X c0 m0 (Rd_readDeed c 43) (bo43 m) (QR q43 X c0 td 43) := by
  unfold bo43
  rw [cPrev hX.2.2.2.2.1 hc h.1, show Rd_readDeed_22 c 43 (Px X 0) = (Rd_tellNumber c 9 19).bind fun p11 => if p11.1 = 0 then some (0, p11.2) else (Rd_pass p11.2 63).bind fun p14 => if p14.1 = 0 then some (0, p14.2) else (Rd_tellNumber p14.2 10 18).bind fun p17 => if p17.1 = 0 then some (0, p17.2) else some (1, p17.2) from rfl]
  refine relSeq (relNum (r := 19) (j := 9) hX hc h hm (by simp) (by decide) (by decide)) (fun c1 m1 e1 h1 hm1 => ?_) (fun m hb => by simp only [bd_word hb, bd_number hb, Option.bind_some])
  obtain ⟨rfl, t1, h1⟩ := h1
  refine relSeq (relWord (w := 27) (x := 63) hX hc h1 hm1 (by decide) (by decide) (by decide)) (fun c2 m2 e2 h2 hm2 => ?_) (fun m hb => by simp only [bd_number hb])
  obtain ⟨rfl, t2, h2⟩ := h2
  refine relEnd (relQ (relNum (r := 18) (j := 10) hX hc h2 hm2 (by simp) (by decide) (by decide)) (fun c3 e3 h3 => ?_))
  obtain ⟨rfl, t3, h3⟩ := h3
  exact ⟨_, _, _, _, _, ⟨t1, t2, t3, rfl, rfl, rfl, rfl, rfl, rfl⟩, h3⟩
theorem v47 {X : Tx} {c0 m0 c m : Mem} {td : Int → Int} {vb : Int} (hX : XO X m0) (hc : CXO X c0) (h : CS X c0 c 1 [] [] [] td (-1) vb) (hm : MST X m0 m 1) (hv : vb = 47 ∨ vb = 48) : REL X c0 m0 (Rd_readDeed c vb) (some m) (QR q47 X c0 td vb) := by
  rw [cPrev hX.2.2.2.2.1 hc h.1]
  have e : Rd_readDeed_22 c vb (Px X 0) = some (1, c) := by
    rcases hv with rfl | rfl <;> rfl
  rw [e]
  exact relOk ⟨_, _, _, _, _, ⟨rfl, rfl, rfl, rfl, rfl, rfl⟩, h⟩ hm
theorem v49 {X : Tx} {c0 m0 c m : Mem} {td : Int → Int} (hX : XO X m0) (hc : CXO X c0) (h : CS X c0 c 1 [] [] [] td (-1) 49) (hm : MST X m0 m 1) : REL X c0 m0 (Rd_readDeed c 49) (M_number m) (QR q49 X c0 td 49) := by
  rw [cPrev hX.2.2.2.2.1 hc h.1]
  obtain ⟨c', ei, hi⟩ := cItem (r := 21) (v := 0) (p := Px X 0) h (by simp)
  rw [show Rd_readDeed_22 c 49 (Px X 0) = (St_addItem c 21 0 (Px X 0)).bind fun m1 => Rd_readDeed_52 m1 49 (Px X 0) from rfl, ei, Option.bind_some, show Rd_readDeed_52 c' 49 (Px X 0) = (Rd_tellNumber c' 9 15).bind fun p29 => if p29.1 = 0 ∨ p29.1 = 1 then some (p29.1, p29.2) else none from rfl]
  refine relEnd2 (relQ (relNum (r := 15) (j := 9) hX hc hi hm (by simp) (by decide) (by decide)) (fun c1 e1 h1 => ?_))
  obtain ⟨rfl, t1, h1⟩ := h1
  exact ⟨_, _, _, _, _, ⟨t1, rfl, rfl, rfl, rfl, rfl, rfl⟩, h1⟩
theorem v50 {X : Tx} {c0 m0 c m : Mem} {td : Int → Int} (hX : XO X m0) (hc : CXO X c0) (h : CS X c0 c 1 [] [] [] td (-1) 50) (hm : MST X m0 m 1) : REL X c0 m0 (Rd_readDeed c 50) (bo50 m) (QR q50 X c0 td 50) := by
  unfold bo50
  rw [cPrev hX.2.2.2.2.1 hc h.1, show Rd_readDeed_22 c 50 (Px X 0) = (Rd_tellNumber c 9 10).bind fun p11 => if p11.1 = 0 then some (0, p11.2) else (Rd_pass p11.2 74).bind fun p14 => if p14.1 = 0 then some (0, p14.2) else (Rd_tellNumber p14.2 10 12).bind fun p17 => if p17.1 = 0 then some (0, p17.2) else some (1, p17.2) from rfl]
  refine relSeq (relNum (r := 10) (j := 9) hX hc h hm (by simp) (by decide) (by decide)) (fun c1 m1 e1 h1 hm1 => ?_) (fun m hb => by simp only [bd_sign hb, bd_number hb, Option.bind_some])
  obtain ⟨rfl, t1, h1⟩ := h1
  refine relSeq (relSign (ch := 64) (sc := 74) hX hc h1 hm1 (by decide)) (fun c2 m2 e2 h2 hm2 => ?_) (fun m hb => by simp only [bd_number hb])
  obtain ⟨rfl, t2, h2⟩ := h2
  refine relEnd (relQ (relNum (r := 12) (j := 10) hX hc h2 hm2 (by simp) (by decide) (by decide)) (fun c3 e3 h3 => ?_))
  obtain ⟨rfl, t3, h3⟩ := h3
  exact ⟨_, _, _, _, _, ⟨t1, t2, t3, rfl, rfl, rfl, rfl, rfl, rfl⟩, h3⟩
theorem v51 {X : Tx} {c0 m0 c m : Mem} {td : Int → Int} (hX : XO X m0) (hc : CXO X c0) (h : CS X c0 c 1 [] [] [] td (-1) 51) (hm : MST X m0 m 1) : REL X c0 m0 (Rd_readDeed c 51) (bo51 m) (QR q51 X c0 td 51) := by
  unfold bo51
  have a1 := h.1.2.2.1
  rw [cPrev hX.2.2.2.2.1 hc h.1, show Rd_readDeed_22 c 51 (Px X 0) = (Rd_passOption c 64).bind fun p47 => if p47.1 ≠ 0 then some (1, p47.2) else (Rd_tellNumber p47.2 9 10).bind fun p50 => if p50.1 = 0 then some (0, p50.2) else some (1, p50.2) from rfl]
  by_cases z : TT X 1 = 64
  · obtain ⟨c2, m2, g1, g2, g3, h2, hm2⟩ := optY (w := 0) hX hc h hm (by decide) (by decide) (by decide) z
    unfold M_need
    rw [g1, g2, Option.bind_some, Option.bind_some, if_pos (show (1 : Int) ≠ 0 by decide), if_pos (show (1 : Int) ≠ 0 by decide), if_neg (show ¬ (1 : Int) = 0 by decide), g3, Option.bind_some]
    exact relOk ⟨_, _, _, _, _, ⟨rfl, rfl, rfl, Or.inl ⟨z, rfl, rfl, rfl⟩⟩, h2⟩ hm2
  · obtain ⟨g1, g2⟩ := optN (w := 0) hX hc h.1 hm (by decide) (by decide) (show tbl piT 0 = 64 by decide) z
    rw [g1, g2, Option.bind_some, Option.bind_some, if_neg (show ¬ (0 : Int) ≠ 0 by decide), if_neg (show ¬ (0 : Int) ≠ 0 by decide)]
    have eM : ((M_isNumber m).bind fun x19 => if x19 = 0 then M_need m 0 else M_need m 1) = M_number m := by
      unfold M_number
      rw [isNm hX hm a1, Option.bind_some, Option.bind_some]
      by_cases y : TT X 1 = 75
      · rw [if_pos y, if_neg (show ¬ (1 : Int) = 0 by decide)]
        cases M_need m 1 <;> rfl
      · rw [if_neg y, if_pos (show (0 : Int) = 0 from rfl)]
        cases M_need m 0 <;> rfl
    rw [eM]
    refine relEnd (relQ (relNum (r := 10) (j := 9) hX hc h hm (by simp) (by decide) (by decide)) (fun c3 e3 h3 => ?_))
    obtain ⟨rfl, t3, h3⟩ := h3
    exact ⟨_, _, _, _, _, ⟨rfl, rfl, rfl, Or.inr ⟨t3, rfl, rfl, rfl⟩⟩, h3⟩
theorem v52 {X : Tx} {c0 m0 c m : Mem} {td : Int → Int} (hX : XO X m0) (hc : CXO X c0) (h : CS X c0 c 1 [] [] [] td (-1) 52) (hm : MST X m0 m 1) : REL X c0 m0 (Rd_readDeed c 52) (bo52 m) (QR q52 X c0 td 52) := by
  unfold bo52
  rw [cPrev hX.2.2.2.2.1 hc h.1, show Rd_readDeed_22 c 52 (Px X 0) = (Rd_tellNumber c 9 9).bind fun p56 => if p56.1 = 0 then some (0, p56.2) else (Rd_pass p56.2 73).bind fun p59 => if p59.1 = 0 then some (0, p59.2) else (Rd_readEvent p59.2).bind fun p62 => if p62.1 = 0 then some (0, p62.2) else some (1, p62.2) from rfl]
  refine relSeq (relNum (r := 9) (j := 9) hX hc h hm (by simp) (by decide) (by decide)) (fun c1 m1 e1 h1 hm1 => ?_) (fun m hb => by
    rw [bd_sign hb, Option.bind_some, bd_isWord hb, Option.bind_some, if_pos rfl, bd_number hb, Option.bind_some, bd_word hb, Option.bind_some, bd_number hb])
  obtain ⟨rfl, t1, h1⟩ := h1
  refine relSeq (relSign (ch := 61) (sc := 73) hX hc h1 hm1 (by decide)) (fun c2 m2 e2 h2 hm2 => ?_) (fun m hb => by
    rw [bd_isWord hb, Option.bind_some, if_pos rfl, bd_number hb, Option.bind_some, bd_word hb, Option.bind_some, bd_number hb])
  obtain ⟨rfl, t2, h2⟩ := h2
  refine relEnd ?_
  show REL X c0 m0 (Rd_readEvent c2) _ _
  unfold Rd_readEvent
  by_cases z : TT X (1 + 1 + 1) = 54
  · obtain ⟨c3, m3, g1, g2, g3, h3, hm3⟩ := optY (w := 11) hX hc h2 hm2 (by decide) (by decide) (by decide) z
    rw [g1, g2, Option.bind_some, Option.bind_some, if_neg (show ¬ (1 : Int) = 0 by decide), if_neg (show ¬ (1 : Int) = 0 by decide), g3]
    exact relOk ⟨_, _, _, _, _, ⟨t1, t2, rfl, rfl, Or.inl ⟨z, rfl, rfl, rfl, rfl⟩⟩, h3⟩ hm3
  · obtain ⟨g1, g2⟩ := optN (w := 11) hX hc h2.1 hm2 (by decide) (by decide) (show tbl piT 11 = 54 by decide) z
    rw [g1, g2, Option.bind_some, Option.bind_some, if_pos (show (0 : Int) = 0 from rfl), if_pos (show (0 : Int) = 0 from rfl)]
    refine relSeq (relNum (r := 0) (j := 10) hX hc h2 hm2 (by simp) (by decide) (by decide)) (fun c3 m3 e3 h3 hm3 => ?_) (fun m hb => by simp only [bd_word hb, bd_number hb, Option.bind_some])
    obtain ⟨rfl, t3, h3⟩ := h3
    refine relSeq (relWord (w := 21) (x := 39) hX hc h3 hm3 (by decide) (by decide) (by decide)) (fun c4 m4 e4 h4 hm4 => ?_) (fun m hb => by simp only [bd_number hb])
    obtain ⟨rfl, t4, h4⟩ := h4
    refine relEnd (relQ (relNum (r := 16) (j := 11) hX hc h4 hm4 (by simp) (by decide) (by decide)) (fun c5 e5 h5 => ?_))
    obtain ⟨rfl, t5, h5⟩ := h5
    exact ⟨_, _, _, _, _, ⟨t1, t2, rfl, rfl, Or.inr ⟨t3, t4, t5, rfl, rfl, rfl, rfl⟩⟩, h5⟩
theorem v78 {X : Tx} {c0 m0 c m : Mem} {td : Int → Int} {vb : Int} (hX : XO X m0) (hc : CXO X c0) (h : CS X c0 c 0 [] [] [] td (-1) vb) (hm : MST X m0 m 0) : REL X c0 m0 ((Rd_readSet c).bind fun p4 => if p4.1 = 0 then some (0, p4.2) else Rd_readWhats p4.2) ((M_set m).bind fun m49 => M_whats m49) (QR q78 X c0 td vb) := by
  refine relSeq (set_rel hX hc h hm (by simp)) (fun c1 m1 e1 hq hm1 => ?_) (fun m hb => by simp only [bd_whats hb])
  obtain ⟨its, tms, hs, h1⟩ := hq
  have sl := SETP_l hs
  refine relQ (whats_r hX hc h1 hm1 (by omega) (by simp; omega)) (fun c2 e2 hq => ?_)
  obtain ⟨its2, whs, hw, hz, h2⟩ := hq
  exact ⟨_, _, _, _, _, ⟨rfl, rfl, its, its2, e1, rfl, hs, hw, hz⟩, h2⟩
