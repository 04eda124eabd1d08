-- L3: enter: a statement read by both
theorem stV {X : Tx} {m0 m : Mem} {w x : Int} (hX : XO X m0) (h : MS X m0 m 0) (w0 : 0 ≤ w) (w1 : w < 70) (hw : tbl piT w = x) (hx : TT X 0 = x) : M_statement m = M_statement_20 m w := by
  obtain ⟨d1, d2, _⟩ := wd_x w0 w1
  have c1 := hX.2.2.2.2.1
  have hc := TT_c hX (a := 0) (by decide) (by omega) (by decide)
  obtain ⟨k1, k2, _⟩ := h.2.2.2.2.2.2.1 0 (by decide) (by decide)
  have hk : Kx X 0 = 1 := by omega
  have hv : Vx X 0 = w := pi_ij (by omega) (by omega) w0 w1 (by omega)
  unfold M_statement
  rw [k1, if_neg (fun a => a hk), k2 (Or.inl hk), hv]
theorem stNw {X : Tx} {m0 m : Mem} (hX : XO X m0) (h : MS X m0 m 0) (hx : 70 ≤ TT X 0) : M_statement m = M_statement_20 m (-1) := by
  have c1 := hX.2.2.2.2.1
  have hc := TT_c hX (a := 0) (by decide) (by omega) (by decide)
  obtain ⟨k1, k2, _⟩ := h.2.2.2.2.2.2.1 0 (by decide) (by decide)
  unfold M_statement
  rw [k1, if_pos (show Kx X 0 ≠ 1 by omega)]
theorem r67 {c : Mem} : Rd_readStatement_67 c = ((Rd_readSet (wr c 241 0 78)).bind fun p4 => if p4.1 = 0 then some (0, p4.2) else Rd_readWhats p4.2).bind fun p => Rd_readStatement_156 p.2 p.1 := by
  unfold Rd_readStatement_67
  rw [Option.bind_some]
  cases Rd_readSet (wr c 241 0 78) with
  | none => rfl
  | some p4 =>
    rw [Option.bind_some, Option.bind_some]
    by_cases z : p4.1 = 0
    · rw [if_pos z, if_pos z, Option.bind_some]
      unfold Rd_readStatement_156
      rw [if_pos (show (0 : Int) = 0 from rfl)]
    · rw [if_neg z, if_neg z]
      rfl
theorem gs_set {X : Tx} {m0 m : Mem} (hX : XO X m0) (h : MST X m0 m 0) (hx : TT X 0 = 35) (hn : ¬ (TT X 1 = 75 ∧ TT X 2 = 73)) : M_groupOrSet m = (M_set m).bind fun m49 => M_whats m49 := by
  have c1 := hX.2.2.2.2.1
  obtain ⟨m1, e1, hm1, b1⟩ := mnext hX h (by omega) (by rw [hx]; unfold stp3; omega)
  have e0 : M_isWord m 0 = some 0 := by rw [isW hX h (by omega) (by decide) (by decide), p0, if_neg (by omega)]
  have e3 : M_isWord m 1 = some 1 := by rw [isW hX h (by omega) (by decide) (by decide), p1, if_pos hx]
  obtain ⟨m2, e4, e5⟩ : ∃ m2, M_number m1 = some m2 ∧ M_isSign m2 61 = some 0 := by
    by_cases z : TT X (0 + 1) = 75
    · obtain ⟨m2, e4, hm2⟩ := mNumY hX hm1 b1 z
      obtain ⟨b2, _⟩ := hX.go (a := 0 + 1) (by decide) b1 (by rw [z]; unfold stp3; omega)
      refine ⟨m2, e4, ?_⟩
      rw [isSg hX hm2 b2 (sc := 73) (by omega), if_neg (show ¬ TT X (0 + 1 + 1) = 73 from fun y => hn ⟨z, y⟩)]
    · obtain ⟨m2, e4, hm2⟩ := mNumN hX hm1 b1 z
      exact ⟨m2, e4, bd_isSign hm2.1⟩
  have eT : M_term m = some m2 := by
    unfold M_term
    rw [e0, Option.bind_some, if_pos (show (0 : Int) = 0 from rfl), e3, Option.bind_some, if_neg (show ¬ (1 : Int) = 0 by decide), e1, Option.bind_some, e4, Option.bind_some]
  unfold M_groupOrSet M_set
  rw [e1, Option.bind_some, e4, Option.bind_some, e5, Option.bind_some, if_pos (show (0 : Int) = 0 from rfl), eT, Option.bind_some, bsm]
  simp only [bsm]
theorem gs_made {X : Tx} {m0 m : Mem} (hX : XO X m0) (h : MST X m0 m 0) (hx : TT X 0 = 35) (h1 : TT X 1 = 75) (h2 : TT X 2 = 73) : M_groupOrSet m = (M_next m).bind bo35 := by
  have c1 := hX.2.2.2.2.1
  obtain ⟨m1, e1, hm1, b1⟩ := mnext hX h (by omega) (by rw [hx]; unfold stp3; omega)
  obtain ⟨m2, e4, hm2⟩ := mNumY hX hm1 b1 h1
  obtain ⟨b2, _⟩ := hX.go (a := 0 + 1) (by decide) b1 (by rw [show TT X (0 + 1) = 75 from h1]; unfold stp3; omega)
  have e5 : M_isSign m2 61 = some 1 := by rw [isSg hX hm2 b2 (sc := 73) (by omega), if_pos (show TT X (0 + 1 + 1) = 73 from h2)]
  unfold M_groupOrSet bo35 M_sign M_need
  rw [e1, Option.bind_some, Option.bind_some, e4, Option.bind_some, Option.bind_some, e5, Option.bind_some, Option.bind_some, if_neg (show ¬ (1 : Int) = 0 by decide), if_neg (show ¬ (1 : Int) = 0 by decide)]
  simp only [bsm]
theorem nw_d : ∀ w ∈ List.range 70, ¬ (33 ≤ tbl piT (w : Int) ∧ tbl piT (w : Int) ≤ 52) → (¬ (w : Int) = 1 ∧ ¬ (w : Int) = 3 ∧ ¬ (w : Int) = 9 ∧ ¬ (w : Int) = 10 ∧ ¬ (w : Int) = 12 ∧ ¬ (w : Int) = 16 ∧ ¬ (w : Int) = 21 ∧ ¬ (w : Int) = 22 ∧ ¬ (w : Int) = 24 ∧ ¬ (w : Int) = 25 ∧ ¬ (w : Int) = 26 ∧ ¬ (28 ≤ (w : Int) ∧ (w : Int) ≤ 36)) := by decide +kernel
theorem stO {X : Tx} {m0 m : Mem} (hX : XO X m0) (h : MS X m0 m 0) (hx : ¬ (33 ≤ TT X 0 ∧ TT X 0 ≤ 52)) : M_statement m = ((M_set m).bind fun m49 => M_whats m49).bind M_statement_220 := by
  have c1 := hX.2.2.2.2.1
  have hc := TT_c hX (a := 0) (by decide) (by omega) (by decide)
  by_cases z : 70 ≤ TT X 0
  · rw [stNw hX h z]
    exact msO (by decide)
  · obtain ⟨v, hv⟩ : ∃ v : Nat, Vx X 0 = (v : Int) := ⟨(Vx X 0).toNat, by omega⟩
    have e : TT X 0 = tbl piT (v : Int) := by rw [← hv]; omega
    rw [stV hX h (w := (v : Int)) (by omega) (by omega) rfl e]
    exact msO (nw_d v (List.mem_range.mpr (by omega)) (by rw [← e]; exact hx))
theorem stmt_rel {X : Tx} {m0 c m : Mem} (hX : XO X m0) (e8 : c 250 8 = X.2.2.2) (e9 : c 250 9 = 0) (ek : ∀ i, 0 ≤ i → i < X.2.2.2 → c 252 i = TT X i ∧ c 254 i = Px X i ∧ (TT X i = 75 → c 253 i = Vx X i)) (hS : MS X m0 m 0) : ∃ c0, BEG c c0 ∧ CXO X c0 ∧ STR X c0 m0 (Rd_readStatement c) (M_statement m) := by
  obtain ⟨c0, eB, hB⟩ := begin_e (c := c)
  have cn := hX.2.2.2.2.1
  have hc : CXO X c0 := by
    refine ⟨by rw [hB.1]; exact e8, fun i i0 i1 => ?_, hX.2.2.2.2.2.1⟩
    rw [hB.2.1 252 (by decide) (by decide) (by decide), hB.2.1 253 (by decide) (by decide) (by decide), hB.2.1 254 (by decide) (by decide) (by decide)]
    exact ek i i0 i1
  have h0 : CS X c0 c0 0 [] [] [] (c0 242) (-1) (-1) := by
    refine ⟨⟨by rw [hB.1]; exact e9, by decide, by omega, fun _ _ => rfl, fun _ _ _ => rfl⟩, ⟨hB.2.2.2.2.1, fun k x hx => by simp at hx⟩, ⟨hB.2.2.2.2.2.1, fun k x hx => by simp at hx⟩, ⟨hB.2.2.2.2.2.2.1, fun k x hx => by simp at hx⟩, rfl, hB.2.2.2.1, hB.2.2.1⟩
  have ht : ∀ j, 0 ≤ j → j < 9 → c0 242 j = -2 := fun j a b => hB.2.2.2.2.2.2.2.1 j a (by omega)
  have hm : MST X m0 m 0 := Or.inr ⟨by decide, hS⟩
  refine ⟨c0, hB, hc, ?_⟩
  -- the class's ways
  have d67 : (TT X 0 = 75 ∨ TT X 0 = 64 ∨ (TT X 0 = 35 ∧ ¬ (TT X 1 = 75 ∧ TT X 2 = 73))) → STR X c0 m0 (Rd_readStatement_67 c0) (((M_set m).bind fun m49 => M_whats m49).bind M_statement_220) := by
    intro hz
    rw [r67]
    refine semi hX hc (v78 hX hc (cVerb (v := 78) h0) hm) (fun A I TL WL td' op hq => ?_)
    have hz2 : TT X 0 = 75 ∨ TT X 0 = 64 ∨ (TT X 0 = 35 ∧ ¬ TT X 2 = 73) := by
      rcases hz with hz | hz | ⟨hz, hz2⟩
      · exact Or.inl hz
      · exact Or.inr (Or.inl hz)
      · refine Or.inr (Or.inr ⟨hz, fun y => hz2 ⟨?_, y⟩⟩)
        obtain ⟨_, _, its, its2, e, _, hs, _⟩ := hq
        obtain ⟨tm, tms, e1, its1, its2, _, hr, _⟩ := hs
        rcases hr with ⟨q, _⟩ | ⟨q, q2, _⟩ | ⟨q, _⟩ | ⟨q, _⟩
        · omega
        · exact q2
        · omega
        · omega
    exact Or.inr (Or.inr (Or.inr (Or.inr (Or.inr (Or.inr (Or.inr (Or.inr (Or.inr (Or.inr (Or.inr (Or.inr (Or.inr (Or.inr (Or.inr (Or.inr (⟨rfl, hz2, hq⟩))))))))))))))))
  have cA := cA0 h0.1 hc
  have cB := cAh h0.1 hc (d := 1) (by decide) (by decide)
  have cC := cAh h0.1 hc (d := 2) (by decide) (by decide)
  rw [show (0 : Int) + 1 = 1 by decide] at cB
  rw [show (0 : Int) + 2 = 2 by decide] at cC
  unfold Rd_readStatement
  rw [eB, Option.bind_some, cA, Option.bind_some, cB, cC]
  have stepV : 33 ≤ TT X 0 → TT X 0 ≤ 52 → ∃ c1 m1, c1 = wr (wr c0 241 0 (TT X 0)) 250 9 1 ∧ CS X c0 c1 1 [] [] [] (c0 242) (-1) (TT X 0) ∧ M_next m = some m1 ∧ MST X m0 m1 1 ∧ Rd_readStatement_105 c0 (TT X 0) = if 39 < TT X 0 then (Rd_readDeed c1 (TT X 0)).bind fun p7 => Rd_readStatement_156 p7.2 p7.1 else (Rd_readThing c1 (TT X 0)).bind fun p10 => Rd_readStatement_156 p10.2 p10.1 := by
    intro z1 z2
    obtain ⟨m1, e1, hm1, b1⟩ := mnext hX hm (by omega) (by unfold stp3; omega)
    refine ⟨_, m1, rfl, CS_at (cVerb h0) (b := 1) (by decide) (by omega), e1, hm1, ?_⟩
    unfold Rd_readStatement_105
    rw [if_neg (by omega), if_pos z2, Option.bind_some, Option.bind_some, wr_o (show ¬ (250 : Int) = 241 by decide), h0.1.1, jadd_e (by decide) (by decide)]
    rfl
  by_cases z35 : TT X 0 = 35
  · have eM : M_statement m = (M_groupOrSet m).bind M_statement_220 := by
      rw [stV hX hS (w := 1) (by decide) (by decide) (by decide) z35]
      rfl
    rw [if_neg (show ¬ TT X 0 ≠ 35 from fun y => y z35), eM, Option.bind_some]
    have not_made : ¬ (TT X 1 = 75 ∧ TT X 2 = 73) → STR X c0 m0 (Rd_readStatement_44 c0 (TT X 0) 0) ((M_groupOrSet m).bind M_statement_220) := by
      intro hn
      rw [gs_set hX hm z35 hn]
      have e44 : Rd_readStatement_44 c0 (TT X 0) 0 = Rd_readStatement_67 c0 := by
        unfold Rd_readStatement_44
        rw [if_neg (show ¬ TT X 0 = 75 by omega), if_neg (show ¬ TT X 0 = 64 by omega), if_neg (show ¬ TT X 0 ≠ 35 from fun y => y z35), if_neg (show ¬ (0 : Int) ≠ 0 by decide)]
      rw [e44]
      exact d67 (Or.inr (Or.inr ⟨z35, hn⟩))
    by_cases y1 : TT X 1 = 75
    · rw [if_neg (show ¬ TT X 1 ≠ 75 from fun y => y y1), Option.bind_some]
      by_cases y2 : TT X 2 = 73
      · rw [if_neg (show ¬ TT X 2 ≠ 73 from fun y => y y2), gs_made hX hm z35 y1 y2]
        obtain ⟨c1, m1, ec, h1, e1, hm1, e105⟩ := stepV (by omega) (by omega)
        have e44 : Rd_readStatement_44 c0 (TT X 0) 1 = Rd_readStatement_105 c0 (TT X 0) := by
          unfold Rd_readStatement_44
          rw [if_neg (show ¬ TT X 0 = 75 by omega), if_neg (show ¬ TT X 0 = 64 by omega), if_neg (show ¬ TT X 0 ≠ 35 from fun y => y z35), if_pos (show (1 : Int) ≠ 0 by decide)]
        rw [e44, e105, if_neg (by omega), e1, Option.bind_some]
        rw [z35] at h1 ⊢
        exact semi hX hc (v35 hX hc h1 hm1) (fun A I TL WL td' op hq => Or.inr (Or.inr (Or.inl (⟨rfl, z35, hq⟩))))
      · rw [if_pos (show TT X 2 ≠ 73 from y2)]
        exact not_made (fun y => y2 y.2)
    · rw [if_pos (show TT X 1 ≠ 75 from y1)]
      exact not_made (fun y => y1 y.1)
  · rw [if_pos (show TT X 0 ≠ 35 from z35)]
    unfold Rd_readStatement_44
    by_cases z75 : TT X 0 = 75
    · rw [if_pos z75, stO hX hS (by omega)]
      exact d67 (Or.inl z75)
    · rw [if_neg z75]
      by_cases z64 : TT X 0 = 64
      · rw [if_pos z64, stO hX hS (by omega)]
        exact d67 (Or.inr (Or.inl z64))
      · rw [if_neg z64, if_pos (show TT X 0 ≠ 35 from z35)]
        by_cases zv : 33 ≤ TT X 0 ∧ TT X 0 ≤ 52
        · obtain ⟨c1, m1, ec, h1, e1, hm1, e105⟩ := stepV zv.1 zv.2
          rw [e105]
          have hz : TT X 0 = 33 ∨ TT X 0 = 34 ∨ TT X 0 = 36 ∨ TT X 0 = 37 ∨ TT X 0 = 38 ∨ TT X 0 = 39 ∨ TT X 0 = 40 ∨ TT X 0 = 41 ∨ TT X 0 = 42 ∨ TT X 0 = 44 ∨ TT X 0 = 45 ∨ TT X 0 = 46 ∨ TT X 0 = 43 ∨ TT X 0 = 47 ∨ TT X 0 = 48 ∨ TT X 0 = 49 ∨ TT X 0 = 50 ∨ TT X 0 = 51 ∨ TT X 0 = 52 := by omega
          rcases hz with z | z | z | z | z | z | z | z | z | z | z | z | z | z | z | z | z | z | z
          · rw [stV hX hS (w := 3) (by decide) (by decide) (by decide) z, ms3, e1, Option.bind_some, if_neg (show ¬ (39 < TT X 0) by omega)]
            rw [z] at h1 ⊢
            exact semi hX hc (relEnd2 (v33 hX hc h1 hm1 ht)) (fun A I TL WL td' op hq => Or.inl (⟨rfl, z, hq⟩))
          · rw [stV hX hS (w := 9) (by decide) (by decide) (by decide) z, ms9, e1, Option.bind_some, if_neg (show ¬ (39 < TT X 0) by omega)]
            rw [z] at h1 ⊢
            exact semi hX hc (v34 hX hc h1 hm1) (fun A I TL WL td' op hq => Or.inr (Or.inl (⟨rfl, z, hq⟩)))
          · rw [stV hX hS (w := 10) (by decide) (by decide) (by decide) z, ms10, e1, Option.bind_some, if_neg (show ¬ (39 < TT X 0) by omega)]
            rw [z] at h1 ⊢
            exact semi hX hc (v36 hX hc h1 hm1 ht) (fun A I TL WL td' op hq => Or.inr (Or.inr (Or.inr (Or.inl (⟨rfl, z, hq⟩)))))
          · rw [stV hX hS (w := 12) (by decide) (by decide) (by decide) z, ms12, e1, Option.bind_some, if_neg (show ¬ (39 < TT X 0) by omega)]
            rw [z] at h1 ⊢
            exact semi hX hc (v37 hX hc h1 hm1) (fun A I TL WL td' op hq => Or.inr (Or.inr (Or.inr (Or.inr (Or.inl (⟨rfl, z, hq⟩))))))
          · rw [stV hX hS (w := 16) (by decide) (by decide) (by decide) z, ms16, e1, Option.bind_some, if_neg (show ¬ (39 < TT X 0) by omega)]
            rw [z] at h1 ⊢
            exact semi hX hc (v38 hX hc h1 hm1) (fun A I TL WL td' op hq => Or.inr (Or.inr (Or.inr (Or.inr (Or.inr (Or.inl (⟨rfl, z, hq⟩)))))))
          · rw [stV hX hS (w := 21) (by decide) (by decide) (by decide) z, ms21, e1, Option.bind_some, if_neg (show ¬ (39 < TT X 0) by omega)]
            rw [z] at h1 ⊢
            exact semi hX hc (v39 hX hc h1 hm1 ht) (fun A I TL WL td' op hq => Or.inr (Or.inr (Or.inr (Or.inr (Or.inr (Or.inr (Or.inl (⟨rfl, z, hq⟩))))))))
          · rw [stV hX hS (w := 22) (by decide) (by decide) (by decide) z, ms22, e1, Option.bind_some, if_pos (show 39 < TT X 0 by omega)]
            rw [z] at h1 ⊢
            exact semi hX hc (v40 hX hc h1 hm1 ht) (fun A I TL WL td' op hq => Or.inr (Or.inr (Or.inr (Or.inr (Or.inr (Or.inr (Or.inr (Or.inl (⟨rfl, z, hq⟩)))))))))
          · rw [stV hX hS (w := 24) (by decide) (by decide) (by decide) z, (ms24 (by decide)), e1, Option.bind_some, if_pos (show 39 < TT X 0 by omega)]
            rw [z] at h1 ⊢
            exact semi hX hc (v41 hX hc h1 hm1) (fun A I TL WL td' op hq => Or.inr (Or.inr (Or.inr (Or.inr (Or.inr (Or.inr (Or.inr (Or.inr (Or.inl (⟨rfl, z, hq⟩))))))))))
          · rw [stV hX hS (w := 25) (by decide) (by decide) (by decide) z, (ms25 (by decide)), e1, Option.bind_some, if_pos (show 39 < TT X 0 by omega)]
            rw [z] at h1 ⊢
            exact semi hX hc (v42 hX hc h1 hm1 (by decide)) (fun A I TL WL td' op hq => Or.inr (Or.inr (Or.inr (Or.inr (Or.inr (Or.inr (Or.inr (Or.inr (Or.inr (Or.inl (⟨by decide, z, hq⟩)))))))))))
          · rw [stV hX hS (w := 28) (by decide) (by decide) (by decide) z, (ms25 (by decide)), e1, Option.bind_some, if_pos (show 39 < TT X 0 by omega)]
            rw [z] at h1 ⊢
            exact semi hX hc (v42 hX hc h1 hm1 (by decide)) (fun A I TL WL td' op hq => Or.inr (Or.inr (Or.inr (Or.inr (Or.inr (Or.inr (Or.inr (Or.inr (Or.inr (Or.inl (⟨by decide, z, hq⟩)))))))))))
          · rw [stV hX hS (w := 29) (by decide) (by decide) (by decide) z, (ms25 (by decide)), e1, Option.bind_some, if_pos (show 39 < TT X 0 by omega)]
            rw [z] at h1 ⊢
            exact semi hX hc (v42 hX hc h1 hm1 (by decide)) (fun A I TL WL td' op hq => Or.inr (Or.inr (Or.inr (Or.inr (Or.inr (Or.inr (Or.inr (Or.inr (Or.inr (Or.inl (⟨by decide, z, hq⟩)))))))))))
          · rw [stV hX hS (w := 30) (by decide) (by decide) (by decide) z, (ms25 (by decide)), e1, Option.bind_some, if_pos (show 39 < TT X 0 by omega)]
            rw [z] at h1 ⊢
            exact semi hX hc (v42 hX hc h1 hm1 (by decide)) (fun A I TL WL td' op hq => Or.inr (Or.inr (Or.inr (Or.inr (Or.inr (Or.inr (Or.inr (Or.inr (Or.inr (Or.inl (⟨by decide, z, hq⟩)))))))))))
          · rw [stV hX hS (w := 26) (by decide) (by decide) (by decide) z, ms26, e1, Option.bind_some, if_pos (show 39 < TT X 0 by omega)]
            rw [z] at h1 ⊢
            exact semi hX hc (v43 hX hc h1 hm1) (fun A I TL WL td' op hq => Or.inr (Or.inr (Or.inr (Or.inr (Or.inr (Or.inr (Or.inr (Or.inr (Or.inr (Or.inr (Or.inl (⟨rfl, z, hq⟩))))))))))))
          · rw [stV hX hS (w := 31) (by decide) (by decide) (by decide) z, (ms24 (by decide)), e1, Option.bind_some, if_pos (show 39 < TT X 0 by omega)]
            rw [z] at h1 ⊢
            exact semi hX hc (v47 hX hc h1 hm1 (by decide)) (fun A I TL WL td' op hq => Or.inr (Or.inr (Or.inr (Or.inr (Or.inr (Or.inr (Or.inr (Or.inr (Or.inr (Or.inr (Or.inr (Or.inl (⟨by decide, z, hq⟩)))))))))))))
          · rw [stV hX hS (w := 32) (by decide) (by decide) (by decide) z, (ms24 (by decide)), e1, Option.bind_some, if_pos (show 39 < TT X 0 by omega)]
            rw [z] at h1 ⊢
            exact semi hX hc (v47 hX hc h1 hm1 (by decide)) (fun A I TL WL td' op hq => Or.inr (Or.inr (Or.inr (Or.inr (Or.inr (Or.inr (Or.inr (Or.inr (Or.inr (Or.inr (Or.inr (Or.inl (⟨by decide, z, hq⟩)))))))))))))
          · rw [stV hX hS (w := 33) (by decide) (by decide) (by decide) z, (ms25 (by decide)), e1, Option.bind_some, if_pos (show 39 < TT X 0 by omega)]
            rw [z] at h1 ⊢
            exact semi hX hc (v49 hX hc h1 hm1) (fun A I TL WL td' op hq => Or.inr (Or.inr (Or.inr (Or.inr (Or.inr (Or.inr (Or.inr (Or.inr (Or.inr (Or.inr (Or.inr (Or.inr (Or.inl (⟨rfl, z, hq⟩))))))))))))))
          · rw [stV hX hS (w := 34) (by decide) (by decide) (by decide) z, ms34, e1, Option.bind_some, if_pos (show 39 < TT X 0 by omega)]
            rw [z] at h1 ⊢
            exact semi hX hc (v50 hX hc h1 hm1) (fun A I TL WL td' op hq => Or.inr (Or.inr (Or.inr (Or.inr (Or.inr (Or.inr (Or.inr (Or.inr (Or.inr (Or.inr (Or.inr (Or.inr (Or.inr (Or.inl (⟨rfl, z, hq⟩)))))))))))))))
          · rw [stV hX hS (w := 35) (by decide) (by decide) (by decide) z, ms35, e1, Option.bind_some, if_pos (show 39 < TT X 0 by omega)]
            rw [z] at h1 ⊢
            exact semi hX hc (v51 hX hc h1 hm1) (fun A I TL WL td' op hq => Or.inr (Or.inr (Or.inr (Or.inr (Or.inr (Or.inr (Or.inr (Or.inr (Or.inr (Or.inr (Or.inr (Or.inr (Or.inr (Or.inr (Or.inl (⟨rfl, z, hq⟩))))))))))))))))
          · rw [stV hX hS (w := 36) (by decide) (by decide) (by decide) z, ms36, e1, Option.bind_some, if_pos (show 39 < TT X 0 by omega)]
            rw [z] at h1 ⊢
            exact semi hX hc (v52 hX hc h1 hm1) (fun A I TL WL td' op hq => Or.inr (Or.inr (Or.inr (Or.inr (Or.inr (Or.inr (Or.inr (Or.inr (Or.inr (Or.inr (Or.inr (Or.inr (Or.inr (Or.inr (Or.inr (Or.inl (⟨rfl, z, hq⟩)))))))))))))))))
        · -- nothing begins so
          have e105 : Rd_readStatement_105 c0 (TT X 0) = some (0, c0) := by
            unfold Rd_readStatement_105
            by_cases y : TT X 0 < 33
            · rw [if_pos y]
            · rw [if_neg y, if_neg (by omega)]
          obtain ⟨m1, e1, hm1⟩ := mNumN hX hm (by omega) z75
          have eT : M_term m = some m1 := by
            unfold M_term
            rw [isW hX hm (by omega) (by decide) (by decide), p0, if_neg z64, Option.bind_some, if_pos rfl, isW hX hm (by omega) (by decide) (by decide), p1, if_neg z35, Option.bind_some, if_pos rfl, e1, Option.bind_some, bd_isWord hm1.1, Option.bind_some, if_pos rfl]
          have eS : M_set m = some m1 := by
            unfold M_set
            rw [eT, Option.bind_some, bd_more hm1.1, Option.bind_some]
          rw [e105, stO hX hS zv, eS, Option.bind_some, bd_whats hm1.1, Option.bind_some, bd_220 hm1.1]
          exact Or.inr ⟨c0, m1, 0, rfl, rfl, h0.1, hm1⟩
