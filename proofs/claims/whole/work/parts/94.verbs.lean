-- L3: enter: each verb read by both
abbrev QV := Tx → (Int → Int) → Int → List It3 → List Q4 → List Q4 → (Int → Int) → Int → Prop
def QR (q : QV) (X : Tx) (c0 : Mem) (td : Int → Int) (vb : Int) (c' : Mem) (e : Int) : Prop := ∃ I TL WL td' op, q X td e I TL WL td' op ∧ CS X c0 c' e I TL WL td' op vb
def q33 : QV := fun X td A I TL WL td' op => TT X 1 = 75 ∧ (0 ≤ TT X 2 ∧ TT X 2 < 9) ∧ TT X 3 = 53 ∧ TT X 4 = 75 ∧ TL = [] ∧ WL = [] ∧ op = -1 ∧ ∃ its L, I = [(3, Vx X 1, Px X 1), (11, Vx X 4, Px X 4)] ++ its ∧ OPL X 29 32 2 slP rlP 1 L 5 A its (st1 (st1 (st1 td 9 (Vx X 1)) 11 (TT X 2)) 10 (Vx X 4)) td'
def q34 : QV := fun X td A I TL WL td' op => WL = [] ∧ op = -1 ∧ td' = td ∧ ∃ its, I = its ++ [(20, 0, Px X 1)] ∧ SETP X TL 1 A its
def q35 : QV := fun X td A I TL WL td' op => TT X 1 = 75 ∧ TT X 2 = 73 ∧ WL = [] ∧ op = -1 ∧ td' = st1 td 9 (Vx X 1) ∧ ∃ its, I = [(4, Vx X 1, Px X 1)] ++ its ++ [(20, 0, Px X 3)] ∧ SETP X TL 3 A its
def q36 : QV := fun X td A I TL WL td' op => TT X 1 = 75 ∧ TT X 2 = 73 ∧ TL = [] ∧ WL = [] ∧ ((TT X 3 = 54 ∧ A = 4 ∧ op = 54 ∧ I = [(6, Vx X 1, Px X 1)] ∧ td' = st1 td 9 (Vx X 1)) ∨ (op = -1 ∧ ∃ its L, I = [(6, Vx X 1, Px X 1)] ++ its ∧ OPL X 9 17 9 slL rlL 1 L 3 A its (st1 td 9 (Vx X 1)) td'))
def q37 : QV := fun X td A I TL WL td' op => TT X 1 = 75 ∧ WL = [] ∧ ((TT X 2 = 55 ∧ op = 55 ∧ ∃ its e, I = [(7, Vx X 1, Px X 1)] ++ its ++ [(20, 0, Px X 3)] ++ [(13, Vx X (e + 1), Px X (e + 1))] ∧ SETP X TL 3 e its ∧ TT X e = 74 ∧ TT X (e + 1) = 75 ∧ A = e + 2 ∧ td' = st1 (st1 td 9 (Vx X 1)) 10 (Vx X (e + 1))) ∨ ((TT X 2 = 54 ∨ TT X 2 = 56 ∨ TT X 2 = 57) ∧ op = TT X 2 ∧ TL = [] ∧ A = 3 ∧ I = [(7, Vx X 1, Px X 1)] ∧ td' = st1 td 9 (Vx X 1)))
def q38 : QV := fun X td A I TL WL td' op => TT X 1 = 75 ∧ TT X 2 = 73 ∧ WL = [] ∧ ((TT X 3 = 54 ∧ A = 4 ∧ op = 54 ∧ TL = [] ∧ I = [(8, Vx X 1, Px X 1)] ∧ td' = st1 td 9 (Vx X 1)) ∨ ((18 ≤ TT X 3 ∧ TT X 3 < 21) ∧ (9 ≤ TT X 4 ∧ TT X 4 < 18) ∧ TT X 5 = 58 ∧ TT X 6 = 75 ∧ TT X 7 = 59 ∧ TT X 8 = 75 ∧ TT X 9 = 60 ∧ TT X 10 = 75 ∧ TT X 11 = 61 ∧ op = -1 ∧ ∃ its, I = [(8, Vx X 1, Px X 1), (13, Vx X 6, Px X 6), (13, Vx X 8, Px X 8), (13, Vx X 10, Px X 10)] ++ its ++ [(20, 0, Px X 12)] ∧ SETP X TL 12 A its ∧ td' = st1 (st1 (st1 (st1 (st1 (st1 td 9 (Vx X 1)) 0 (TT X 3 - 18)) 1 (TT X 4 - 9)) 2 (Vx X 6)) 3 (Vx X 8)) 4 (Vx X 10)))
def q39 : QV := fun X td A I TL WL td' op => TT X 1 = 75 ∧ TL = [] ∧ WL = [] ∧ op = -1 ∧ ∃ its L, I = [(17, Vx X 1, Px X 1)] ++ its ∧ OPL X 21 28 6 slT rlT (-1) L 2 A its (st1 td 9 (Vx X 1)) td'
def q40 : QV := fun X td A I TL WL td' op => TT X 1 = 75 ∧ TL = [] ∧ WL = [] ∧ ∃ its L b, ((TT X 2 = 62 ∧ op = 62 ∧ b = 3) ∨ (¬ TT X 2 = 62 ∧ op = -1 ∧ b = 2)) ∧ I = [(21, 0, Px X 0), (17, Vx X 1, Px X 1)] ++ its ∧ OPL X 21 28 6 slT rlT (-1) L b A its (st1 td 9 (Vx X 1)) td'
def q41 : QV := fun X td A I TL WL td' op => A = 1 ∧ I = [(21, 0, Px X 0), (22, 0, Px X 0)] ∧ TL = [] ∧ WL = [] ∧ td' = td ∧ op = -1
def q42 : QV := fun X td A I TL WL td' op => TT X 1 = 75 ∧ A = 2 ∧ I = [(19, Vx X 1, Px X 1)] ∧ TL = [] ∧ WL = [] ∧ td' = st1 td 9 (Vx X 1) ∧ op = -1
def q43 : QV := fun X td A I TL WL td' op => TT X 1 = 75 ∧ TT X 2 = 63 ∧ TT X 3 = 75 ∧ A = 4 ∧ I = [(19, Vx X 1, Px X 1), (18, Vx X 3, Px X 3)] ∧ TL = [] ∧ WL = [] ∧ td' = st1 (st1 td 9 (Vx X 1)) 10 (Vx X 3) ∧ op = -1
def q47 : QV := fun X td A I TL WL td' op => A = 1 ∧ I = [] ∧ TL = [] ∧ WL = [] ∧ td' = td ∧ op = -1
def q49 : QV := fun X td A I TL WL td' op => TT X 1 = 75 ∧ A = 2 ∧ I = [(21, 0, Px X 0), (15, Vx X 1, Px X 1)] ∧ TL = [] ∧ WL = [] ∧ td' = st1 td 9 (Vx X 1) ∧ op = -1
def q50 : QV := fun X td A I TL WL td' op => TT X 1 = 75 ∧ TT X 2 = 74 ∧ TT X 3 = 75 ∧ A = 4 ∧ I = [(10, Vx X 1, Px X 1), (12, Vx X 3, Px X 3)] ∧ TL = [] ∧ WL = [] ∧ td' = st1 (st1 td 9 (Vx X 1)) 10 (Vx X 3) ∧ op = -1
def q51 : QV := fun X td A I TL WL td' op => A = 2 ∧ TL = [] ∧ WL = [] ∧ ((TT X 1 = 64 ∧ I = [] ∧ td' = td ∧ op = 64) ∨ (TT X 1 = 75 ∧ I = [(10, Vx X 1, Px X 1)] ∧ td' = st1 td 9 (Vx X 1) ∧ op = -1))
def q52 : QV := fun X td A I TL WL td' op => TT X 1 = 75 ∧ TT X 2 = 73 ∧ TL = [] ∧ WL = [] ∧ ((TT X 3 = 54 ∧ A = 4 ∧ op = 54 ∧ I = [(9, Vx X 1, Px X 1)] ∧ td' = st1 td 9 (Vx X 1)) ∨ (TT X 3 = 75 ∧ TT X 4 = 39 ∧ TT X 5 = 75 ∧ A = 6 ∧ op = -1 ∧ I = [(9, Vx X 1, Px X 1), (0, Vx X 3, Px X 3), (16, Vx X 5, Px X 5)] ∧ td' = st1 (st1 (st1 td 9 (Vx X 1)) 10 (Vx X 3)) 11 (Vx X 5)))
def q78 : QV := fun X td A I TL WL td' op => op = -1 ∧ td' = td ∧ ∃ its its2 e, I = its ++ [(20, 0, Px X 0)] ++ its2 ∧ SETP X TL 0 e its ∧ WHS X WL e A its2 ∧ isWt (TT X e)
-- the model's bodies, behind the verb
noncomputable def bo33 (m : Mem) : Option Mem := (M_number m).bind fun m9 => (((M_isWordIn m9 52 60).bind fun x => M_need m9 x)).bind fun m14 => (M_word m14 4).bind fun m17 => (M_number m17).bind fun m20 => M_options m20 5 8 2
noncomputable def bo35 (m : Mem) : Option Mem := (M_number m).bind fun m4 => (M_sign m4 61).bind fun m15 => M_set m15
noncomputable def bo36 (m : Mem) : Option Mem := (M_number m).bind fun m42 => (M_sign m42 61).bind fun m45 => M_levels m45
noncomputable def bo37 (m : Mem) : Option Mem := (M_number m).bind fun m56 => M_subs m56
noncomputable def bo38 (m : Mem) : Option Mem := (M_number m).bind fun m69 => (M_sign m69 61).bind fun m72 => M_waves m72
noncomputable def bo39 (m : Mem) : Option Mem := (M_number m).bind fun m4 => M_times m4
noncomputable def bo40 (m : Mem) : Option Mem := (M_number m).bind fun m4 => (M_isWord m4 23).bind fun x7 => if x7 = 0 then M_times m4 else (M_next m4).bind fun m9 => M_times m9
noncomputable def bo43 (m : Mem) : Option Mem := (M_number m).bind fun m9 => (M_word m9 27).bind fun m12 => M_number m12
noncomputable def bo50 (m : Mem) : Option Mem := (M_number m).bind fun m4 => (M_sign m4 64).bind fun m7 => M_number m7
noncomputable def bo51 (m : Mem) : Option Mem := (M_isWord m 0).bind fun x17 => if x17 ≠ 0 then M_need m 1 else (M_isNumber m).bind fun x19 => if x19 = 0 then M_need m 0 else M_need m 1
noncomputable def bo52 (m : Mem) : Option Mem := (M_number m).bind fun m27 => (M_sign m27 61).bind fun m30 => (M_isWord m30 11).bind fun x33 => if x33 = 0 then (M_number m30).bind fun m35 => (M_word m35 21).bind fun m38 => M_number m38 else M_next m30
theorem r47_0 {c : Mem} : Rd_readPatch_47 c 0 = some (0, c) := by unfold Rd_readPatch_47; rw [if_neg (by decide)]
theorem r47_1 {c : Mem} : Rd_readPatch_47 c 1 = Rd_readPatch_56 big c 0 := by unfold Rd_readPatch_47; rw [if_pos (by decide)]
theorem st_ne {td : Int → Int} {k v : Int} (h : ∀ j, 0 ≤ j → j < 9 → td j = -2) (hk : 9 ≤ k) : ∀ j, 0 ≤ j → j < 9 → st1 td k v j = -2 := fun j a b => by rw [st1_ne (by omega)]; exact h j a b
theorem v33 {X : Tx} {c0 m0 c m : Mem} {td : Int → Int} {vb : Int} (hX : XO X m0) (hc : CXO X c0) (h : CS X c0 c 1 [] [] [] td (-1) vb) (hm : MST X m0 m 1) (ht : ∀ j, 0 ≤ j → j < 9 → td j = -2) : REL X c0 m0 (Rd_readPatch c) (bo33 m) (QR q33 X c0 td vb) := by
  unfold Rd_readPatch bo33
  simp only [r47_0, r47_1]
  refine relSeq (relNum (r := 3) (j := 9) hX hc h hm (by simp) (by decide) (by decide)) (fun c1 m1 e1 h1 hm1 => ?_) (fun m hb => by simp only [bd_isWordIn hb, bd_need hb, bd_word hb, bd_number hb, bd_options hb, Option.bind_some])
  obtain ⟨rfl, t1, h1⟩ := h1
  refine relSeq (relRange (j := 11) (lo := 0) (n := 9) hX hc h1 hm1 (by decide) (by decide) (by decide) (by decide) (by decide) (by decide +kernel)) (fun c2 m2 e2 h2 hm2 => ?_) (fun m hb => by simp only [bd_word hb, bd_number hb, bd_options hb, Option.bind_some])
  obtain ⟨rfl, t2, h2⟩ := h2
  refine relSeq (relWord (w := 4) (x := 53) hX hc h2 hm2 (by decide) (by decide) (by decide)) (fun c3 m3 e3 h3 hm3 => ?_) (fun m hb => by simp only [bd_number hb, bd_options hb, Option.bind_some])
  obtain ⟨rfl, t3, h3⟩ := h3
  refine relSeq (relNum (r := 11) (j := 10) hX hc h3 hm3 (by simp) (by decide) (by decide)) (fun c4 m4 e4 h4 hm4 => ?_) (fun m hb => by simp only [bd_options hb])
  obtain ⟨rfl, t4, h4⟩ := h4
  refine relQ (optP_rel hX hc h4 hm4 (by decide) (by simp) (st_ne (st_ne (st_ne ht (by decide)) (by decide)) (by decide))) (fun c5 e5 hq => ?_)
  obtain ⟨its, L, td', hq, h5⟩ := hq
  exact ⟨_, _, _, _, _, ⟨t1, ⟨t2.1, show TT X (1 + 1) < 9 by have := t2.2; omega⟩, t3, t4, rfl, rfl, rfl, its, L, rfl, by rw [show TT X (1 + 1) - 0 = TT X 2 by rw [Int.sub_zero]; rfl] at hq; exact hq⟩, h5⟩
theorem v35 {X : Tx} {c0 m0 c m : Mem} {td : Int → Int} (hX : XO X m0) (hc : CXO X c0) (h : CS X c0 c 1 [] [] [] td (-1) 35) (hm : MST X m0 m 1) : REL X c0 m0 (Rd_readThing c 35) (bo35 m) (QR q35 X c0 td 35) := by
  unfold bo35
  rw [show Rd_readThing c 35 = (Rd_tellNumber c 9 4).bind fun p11 => if p11.1 = 0 then some (0, p11.2) else (Rd_pass p11.2 73).bind fun p14 => if p14.1 = 0 then some (0, p14.2) else (Rd_readSet p14.2).bind fun p17 => if p17.1 = 0 then some (0, p17.2) else some (1, p17.2) from rfl]
  refine relSeq (relNum (r := 4) (j := 9) hX hc h hm (by simp) (by decide) (by decide)) (fun c1 m1 e1 h1 hm1 => ?_) (fun m hb => by simp only [bd_sign hb, bd_set hb, Option.bind_some])
  obtain ⟨rfl, t1, h1⟩ := h1
  refine relSeq (relSign (ch := 61) (sc := 73) hX hc h1 hm1 (by decide)) (fun c2 m2 e2 h2 hm2 => ?_) (fun m hb => by simp only [bd_set hb])
  obtain ⟨rfl, t2, h2⟩ := h2
  refine relEnd (relQ (set_rel hX hc h2 hm2 (by simp)) (fun c3 e3 hq => ?_))
  obtain ⟨its, tms, hq, h3⟩ := hq
  exact ⟨_, _, _, _, _, ⟨t1, t2, rfl, rfl, rfl, its, rfl, hq⟩, h3⟩
theorem v34 {X : Tx} {c0 m0 c m : Mem} {td : Int → Int} (hX : XO X m0) (hc : CXO X c0) (h : CS X c0 c 1 [] [] [] td (-1) 34) (hm : MST X m0 m 1) : REL X c0 m0 (Rd_readThing c 34) (M_set m) (QR q34 X c0 td 34) := by
  rw [show Rd_readThing c 34 = (Rd_readSet c).bind fun p6 => if p6.1 = 0 ∨ p6.1 = 1 then some (p6.1, p6.2) else none from rfl]
  refine relEnd2 (relQ (set_rel hX hc h hm (by simp)) (fun c3 e3 hq => ?_))
  obtain ⟨its, tms, hq, h3⟩ := hq
  exact ⟨_, _, _, _, _, ⟨rfl, rfl, rfl, its, rfl, hq⟩, h3⟩
theorem v36 {X : Tx} {c0 m0 c m : Mem} {td : Int → Int} (hX : XO X m0) (hc : CXO X c0) (h : CS X c0 c 1 [] [] [] td (-1) 36) (hm : MST X m0 m 1) (ht : ∀ j, 0 ≤ j → j < 9 → td j = -2) : REL X c0 m0 (Rd_readThing c 36) (bo36 m) (QR q36 X c0 td 36) := by
  unfold bo36
  rw [show Rd_readThing c 36 = (Rd_tellNumber c 9 6).bind fun p24 => if p24.1 = 0 then some (0, p24.2) else (Rd_pass p24.2 73).bind fun p27 => if p27.1 = 0 then some (0, p27.2) else (Rd_readPalette p27.2).bind fun p30 => if p30.1 = 0 then some (0, p30.2) else some (1, p30.2) from rfl]
  refine relSeq (relNum (r := 6) (j := 9) hX hc h hm (by simp) (by decide) (by decide)) (fun c1 m1 e1 h1 hm1 => ?_) (fun m hb => by simp only [bd_sign hb, bd_levels hb, Option.bind_some])
  obtain ⟨rfl, t1, h1⟩ := h1
  refine relSeq (relSign (ch := 61) (sc := 73) hX hc h1 hm1 (by decide)) (fun c2 m2 e2 h2 hm2 => ?_) (fun m hb => by simp only [bd_levels hb])
  obtain ⟨rfl, t2, h2⟩ := h2
  refine relEnd ?_
  show REL X c0 m0 (Rd_readPalette c2) (M_levels m2) _
  unfold Rd_readPalette M_levels M_levels_31
  by_cases z : TT X (1 + 1 + 1) = 54
  · obtain ⟨c3, m3, g1, g2, g3, h3, hm3⟩ := optY (w := 11) hX hc h2 hm2 (by decide) (by decide) (by decide) z
    rw [g1, g2, Option.bind_some, Option.bind_some, if_neg (show ¬ (1 : Int) = 0 by decide), if_neg (show ¬ (1 : Int) = 0 by decide), g3, Option.bind_some]
    exact relOk ⟨_, _, _, _, _, ⟨t1, t2, rfl, rfl, Or.inl ⟨z, rfl, rfl, rfl, rfl⟩⟩, h3⟩ hm3
  · obtain ⟨g1, g2⟩ := optN (w := 11) hX hc h2.1 hm2 (by decide) (by decide) (show tbl piT 11 = 54 by decide) z
    rw [g1, g2, Option.bind_some, Option.bind_some, if_pos (show (0 : Int) = 0 from rfl), if_pos (show (0 : Int) = 0 from rfl), isWi hX hm2 h2.1.2.2.1 (by decide) r61, Option.bind_some]
    by_cases z2 : 9 ≤ TT X (1 + 1 + 1) ∧ TT X (1 + 1 + 1) ≤ 17
    · rw [if_pos z2, if_pos (by decide)]
      refine relM (relQ (optL_rel hX hc h2 hm2 (by decide) (by simp) (st_ne ht (by decide)) z2) (fun c5 e5 hq => ?_))
      obtain ⟨its, L, td', hq, h5⟩ := hq
      exact ⟨_, _, _, _, _, ⟨t1, t2, rfl, rfl, Or.inr ⟨rfl, its, L, rfl, hq⟩⟩, h5⟩
    · obtain ⟨m3, g3, hm3⟩ := mfail hm2
      rw [if_neg z2, if_neg (by decide), g3, Option.bind_some, bd_options hm3.1, Option.bind_some]
      refine Or.inr ⟨c2, m3, 1 + 1 + 1, ?_, rfl, h2.1, hm3⟩
      obtain ⟨N, hN⟩ : ∃ N, big = N + 1 := big_s
      have tr := TT_r hX (a := 1 + 1 + 1) (by decide)
      show Rd_readPalette_13 big c2 0 = _
      rw [hN, Rd_readPalette_13, if_neg (by decide), cA0 h2.1 hc, Option.bind_some, Option.bind_some, jsub_e (by omega) (by omega)]
      unfold Rd_readPalette_38
      rw [if_pos (show (0 : Int) ≤ 0 by decide)]
      by_cases y : TT X (1 + 1 + 1) - 9 < 0
      · rw [if_pos y]
      · rw [if_neg y, if_neg (by omega)]
theorem r14 : ∀ w ∈ List.range 70, ((14 : Int) ≤ (w : Int) ∧ (w : Int) ≤ 15) ↔ ((56 : Int) ≤ tbl piT (w : Int) ∧ tbl piT (w : Int) ≤ 57) := by decide +kernel
theorem v37 {X : Tx} {c0 m0 c m : Mem} {td : Int → Int} (hX : XO X m0) (hc : CXO X c0) (h : CS X c0 c 1 [] [] [] td (-1) 37) (hm : MST X m0 m 1) : REL X c0 m0 (Rd_readThing c 37) (bo37 m) (QR q37 X c0 td 37) := by
  unfold bo37
  rw [show Rd_readThing c 37 = (Rd_tellNumber c 9 7).bind fun p37 => if p37.1 = 0 then some (0, p37.2) else (Rd_readSub p37.2).bind fun p40 => if p40.1 = 0 then some (0, p40.2) else some (1, p40.2) from rfl]
  refine relSeq (relNum (r := 7) (j := 9) hX hc h hm (by simp) (by decide) (by decide)) (fun c1 m1 e1 h1 hm1 => ?_) (fun m hb => by simp only [bd_subs hb])
  obtain ⟨rfl, t1, h1⟩ := h1
  refine relEnd ?_
  show REL X c0 m0 (Rd_readSub c1) (M_subs m1) _
  have a1 := h1.1.2.2.1
  unfold Rd_readSub M_subs M_subs_20
  have p11' : tbl piT 11 = 54 := by decide
  have p13' : tbl piT 13 = 55 := by decide
  rw [isW hX hm1 a1 (by decide) (by decide), p11', isWi hX hm1 a1 (by decide) r14, Option.bind_some]
  by_cases z : TT X (1 + 1) = 55
  · obtain ⟨c2, g1, h2⟩ := oY hX hc h1 z (by unfold stp3; omega)
    rw [g1, Option.bind_some, if_neg (show ¬ (1 : Int) = 0 by decide), if_neg (show ¬ TT X (1 + 1) = 54 by omega), if_neg (by decide), if_neg (show ¬ (56 ≤ TT X (1 + 1) ∧ TT X (1 + 1) ≤ 57) by omega), Option.bind_some, if_pos rfl]
    obtain ⟨m2, g2, hm2⟩ := mWordY hX hm1 a1 (by decide) (by decide) p13' z
    rw [g2, Option.bind_some]
    refine relSeq (set_rel hX hc h2 hm2 (by simp)) (fun c3 m3 e3 hq hm3 => ?_) (fun m hb => by simp only [bd_sign hb, bd_number hb, Option.bind_some])
    obtain ⟨its, tms, hs, h3⟩ := hq
    have sl := SETP_l hs
    have e1 := h3.1.2.2.1
    have hb := hc.2.2
    refine relSeq (relSign (ch := 64) (sc := 74) hX hc h3 hm3 (by decide)) (fun c4 m4 e4 hq hm4 => ?_) (fun m hb => by simp only [bd_number hb, Option.bind_some])
    obtain ⟨rfl, t4, h4⟩ := hq
    refine relEnd (relM (relQ (relNum (r := 13) (j := 10) hX hc h4 hm4 (by simp; omega) (by decide) (by decide)) (fun c5 e5 hq => ?_)))
    obtain ⟨rfl, t5, h5⟩ := hq
    exact ⟨_, _, _, _, _, ⟨t1, rfl, Or.inl ⟨z, rfl, its, e3, rfl, hs, t4, t5, by omega, rfl⟩⟩, h5⟩
  · rw [oN hc h1.1 z, Option.bind_some, if_pos (show (0 : Int) = 0 from rfl)]
    by_cases y1 : TT X (1 + 1) = 54
    · obtain ⟨c2, g1, h2⟩ := oY hX hc h1 y1 (by unfold stp3; omega)
      obtain ⟨m2, g2, hm2, _⟩ := mnext hX hm1 a1 (by rw [y1]; unfold stp3; omega)
      rw [g1, Option.bind_some, if_pos (show (1 : Int) ≠ 0 by decide), if_pos y1, if_pos (show (1 : Int) ≠ 0 by decide), g2, Option.bind_some]
      exact relOk ⟨_, _, _, _, _, ⟨t1, rfl, Or.inr ⟨Or.inl y1, y1.symm, rfl, rfl, rfl, rfl⟩⟩, h2⟩ hm2
    · rw [oN hc h1.1 y1, Option.bind_some, if_neg (show ¬ (0 : Int) ≠ 0 by decide), if_neg y1, if_neg (show ¬ (0 : Int) ≠ 0 by decide), Option.bind_some]
      by_cases y2 : TT X (1 + 1) = 56
      · obtain ⟨c2, g1, h2⟩ := oY hX hc h1 y2 (by unfold stp3; omega)
        obtain ⟨m2, g2, hm2, _⟩ := mnext hX hm1 a1 (by rw [y2]; unfold stp3; omega)
        rw [g1, Option.bind_some, if_pos (show (1 : Int) ≠ 0 by decide), if_pos (show 56 ≤ TT X (1 + 1) ∧ TT X (1 + 1) ≤ 57 by omega), if_neg (show ¬ (1 : Int) = 0 by decide), g2, Option.bind_some]
        exact relOk ⟨_, _, _, _, _, ⟨t1, rfl, Or.inr ⟨Or.inr (Or.inl y2), y2.symm, rfl, rfl, rfl, rfl⟩⟩, h2⟩ hm2
      · rw [oN hc h1.1 y2, Option.bind_some, if_neg (show ¬ (0 : Int) ≠ 0 by decide)]
        by_cases y3 : TT X (1 + 1) = 57
        · obtain ⟨c2, g1, h2⟩ := oY hX hc h1 y3 (by unfold stp3; omega)
          obtain ⟨m2, g2, hm2, _⟩ := mnext hX hm1 a1 (by rw [y3]; unfold stp3; omega)
          rw [g1, Option.bind_some, if_neg (show ¬ (1 : Int) = 0 by decide), if_pos (show 56 ≤ TT X (1 + 1) ∧ TT X (1 + 1) ≤ 57 by omega), if_neg (show ¬ (1 : Int) = 0 by decide), g2, Option.bind_some]
          exact relOk ⟨_, _, _, _, _, ⟨t1, rfl, Or.inr ⟨Or.inr (Or.inr y3), y3.symm, rfl, rfl, rfl, rfl⟩⟩, h2⟩ hm2
        · obtain ⟨m2, g2, hm2⟩ := mWordN hX hm1 a1 (by decide) (by decide) p13' z
          rw [oN hc h1.1 y3, Option.bind_some, if_pos (show (0 : Int) = 0 from rfl), if_neg (show ¬ (56 ≤ TT X (1 + 1) ∧ TT X (1 + 1) ≤ 57) by omega), if_pos (show (0 : Int) = 0 from rfl), g2, Option.bind_some, bd_set hm2.1, Option.bind_some, bd_sign hm2.1, Option.bind_some, bd_number hm2.1, Option.bind_some]
          exact Or.inr ⟨c1, m2, 1 + 1, rfl, rfl, h1.1, hm2⟩
