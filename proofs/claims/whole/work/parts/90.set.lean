-- L3: enter: sets read by both
def TRM (X : Tx) (k sg e : Int) (its : List It3) (tm : Q4) : Prop := (TT X k = 64 ∧ e = k + 1 ∧ its = [] ∧ tm = (sg, 0, 0, 0)) ∨ (TT X k = 35 ∧ TT X (k + 1) = 75 ∧ e = k + 2 ∧ its = [(5, Vx X (k + 1), Px X (k + 1))] ∧ tm = (sg, 1, Vx X (k + 1), 0)) ∨ (TT X k = 75 ∧ ¬ TT X (k + 1) = 65 ∧ e = k + 1 ∧ its = [(2, Vx X k, Px X k)] ∧ tm = (sg, 2, Vx X k, Vx X k)) ∨ (TT X k = 75 ∧ TT X (k + 1) = 65 ∧ TT X (k + 2) = 75 ∧ e = k + 3 ∧ its = [(1, Vx X k, Px X k), (1, Vx X (k + 2), Px X (k + 2))] ∧ tm = (sg, 3, Vx X k, Vx X (k + 2)))
def MORE (X : Tx) : List Q4 → Int → Int → List It3 → Prop
  | [], k, e, its => e = k ∧ its = [] ∧ ¬ TT X k = 71 ∧ ¬ TT X k = 72
  | tm :: tms, k, e, its => ∃ e1 its1 its2, (TT X k = 71 ∨ TT X k = 72) ∧ TRM X (k + 1) (TT X k) e1 its1 tm ∧ its = its1 ++ its2 ∧ MORE X tms e1 e its2
def SETP (X : Tx) (L : List Q4) (k e : Int) (its : List It3) : Prop := ∃ tm tms e1 its1 its2, L = tm :: tms ∧ TRM X k 71 e1 its1 tm ∧ its = its1 ++ its2 ∧ MORE X tms e1 e its2
theorem TRM_l {X : Tx} {k sg e : Int} {its : List It3} {tm : Q4} (h : TRM X k sg e its tm) : k + 1 ≤ e ∧ its.length ≤ e - k ∧ e ≤ k + 3 := by
  rcases h with ⟨_, h1, h2, _⟩ | ⟨_, _, h1, h2, _⟩ | ⟨_, _, h1, h2, _⟩ | ⟨_, _, _, h1, h2, _⟩ <;> subst h1 <;> subst h2 <;> simp <;> omega
theorem MORE_l {X : Tx} : ∀ (L : List Q4) (k e : Int) (its : List It3), MORE X L k e its → k ≤ e ∧ its.length + L.length ≤ e - k
  | [], k, e, its, h => by
    obtain ⟨h1, h2, _⟩ := h
    subst h1; subst h2; simp
  | tm :: tms, k, e, its, h => by
    obtain ⟨e1, its1, its2, _, h2, h3, h4⟩ := h
    have a := TRM_l h2
    have b := MORE_l tms e1 e its2 h4
    subst h3
    simp only [List.length_append, List.length_cons]
    omega
theorem SETP_l {X : Tx} {L : List Q4} {k e : Int} {its : List It3} (h : SETP X L k e its) : k + 1 ≤ e ∧ its.length ≤ e - k ∧ L.length ≤ e - k := by
  obtain ⟨tm, tms, e1, its1, its2, h1, h2, h3, h4⟩ := h
  have a := TRM_l h2
  have b := MORE_l tms e1 e its2 h4
  subst h1; subst h3
  simp only [List.length_append, List.length_cons]
  omega
/-- both go on, or both stop at the same place -/
def REL (X : Tx) (c0 m0 : Mem) (D : Option (Int × Mem)) (M : Option Mem) (Q : Mem → Int → Prop) : Prop := (∃ c' m' e, D = some (1, c') ∧ M = some m' ∧ Q c' e ∧ MST X m0 m' e) ∨ (∃ c' m' f, D = some (0, c') ∧ M = some m' ∧ CSF X c0 c' f ∧ MB m0 m' (Px X f))
theorem p0 : tbl piT 0 = 64 := by decide
theorem p1 : tbl piT 1 = 35 := by decide
theorem p2 : tbl piT 2 = 65 := by decide
theorem term_rel {X : Tx} {c0 m0 c m : Mem} {a sg : Int} {I : List It3} {TL WL : List Q4} {td : Int → Int} {op vb : Int} (hX : XO X m0) (hc : CXO X c0) (h : CS X c0 c a I TL WL td op vb) (hm : MST X m0 m a) (hI : I.length < 238) (hT : TL.length < 120) : REL X c0 m0 (Rd_readTerm c sg) (M_term m) (fun c' e => ∃ its tm, TRM X a sg e its tm ∧ CS X c0 c' e (I ++ its) (TL ++ [tm]) WL td op vb) := by
  have a0 := h.1.2.1
  have a1 := h.1.2.2.1
  have hb := hc.2.2
  unfold Rd_readTerm M_term
  rw [isW hX hm a1 (by decide) (by decide), p0, isW hX hm a1 (by decide) (by decide), p1]
  by_cases z0 : TT X a = 64
  · rw [if_pos z0, Option.bind_some, if_neg (show ¬ (1 : Int) = 0 by decide)]
    obtain ⟨e1, h1⟩ := pY hX hc h z0 (by unfold stp3; omega)
    obtain ⟨m', e2, hm', _⟩ := mnext hX hm a1 (by rw [z0]; unfold stp3; omega)
    obtain ⟨c', e3, h3⟩ := cTerm (x1 := sg) (x2 := 0) (x3 := 0) (x4 := 0) h1 hT
    rw [e1, e2, Option.bind_some, Option.bind_some]
    simp only []
    rw [if_neg (show ¬ (1 : Int) = 0 by decide), e3, Option.bind_some]
    exact Or.inl ⟨c', m', a + 1, rfl, rfl, ⟨[], _, Or.inl ⟨z0, rfl, rfl, rfl⟩, by rw [List.append_nil]; exact h3⟩, hm'⟩
  · rw [if_neg z0, pN hc h.1 z0, Option.bind_some, Option.bind_some, if_pos rfl]
    simp only []
    rw [if_pos trivial]
    by_cases z1 : TT X a = 35
    · rw [if_pos z1, Option.bind_some, if_neg (show ¬ (1 : Int) = 0 by decide)]
      obtain ⟨e1, h1⟩ := pY hX hc h z1 (by unfold stp3; omega)
      obtain ⟨m1, e2, hm1, b1⟩ := mnext hX hm a1 (by rw [z1]; unfold stp3; omega)
      rw [e1, e2, Option.bind_some, Option.bind_some]
      simp only []
      rw [if_neg (show ¬ (1 : Int) = 0 by decide)]
      by_cases z2 : TT X (a + 1) = 75
      · obtain ⟨c2, e3, h3, l3⟩ := nY (r := 5) hX hc h1 z2 (by omega)
        obtain ⟨m2, e4, hm2⟩ := mNumY hX hm1 b1 z2
        obtain ⟨c', e5, h5⟩ := cTerm (x1 := sg) (x2 := 1) (x3 := Vx X (a + 1)) (x4 := 0) h3 hT
        rw [e3, e4, Option.bind_some, Option.bind_some]
        simp only [Option.bind_some]
        rw [l3, Option.bind_some, e5, Option.bind_some, if_pos (Or.inr trivial)]
        rw [show a + 1 + 1 = a + 2 by omega] at h5 hm2
        exact Or.inl ⟨c', m2, a + 2, rfl, rfl, ⟨_, _, Or.inr (Or.inl ⟨z1, z2, rfl, rfl, rfl⟩), h5⟩, hm2⟩
      · obtain ⟨m2, e4, hm2⟩ := mNumN hX hm1 b1 z2
        obtain ⟨v, e5, _⟩ := cLt h1.1 hc
        obtain ⟨c', e6, h6⟩ := cTerm (x1 := sg) (x2 := 1) (x3 := v) (x4 := 0) h1 hT
        rw [nN hc h1.1 z2, e4, Option.bind_some, Option.bind_some]
        simp only [Option.bind_some]
        rw [e5, Option.bind_some, e6, Option.bind_some, if_pos (Or.inl trivial)]
        exact Or.inr ⟨c', m2, a + 1, rfl, rfl, h6.1, hm2⟩
    · rw [if_neg z1, pN hc h.1 z1, Option.bind_some, Option.bind_some, if_pos rfl]
      simp only []
      rw [if_pos trivial, cAh h.1 hc (by decide) (by decide), Option.bind_some]
      by_cases z3 : TT X a = 75
      · obtain ⟨m1, e2, hm1⟩ := mNumY hX hm a1 z3
        obtain ⟨b1, _⟩ := hX.go a0 a1 (by rw [z3]; unfold stp3; omega)
        rw [e2, Option.bind_some, isW hX hm1 b1 (by decide) (by decide), p2, Option.bind_some]
        by_cases z4 : TT X (a + 1) = 65
        · rw [if_pos z4, if_neg (fun x => x z4), if_neg (show ¬ (1 : Int) = 0 by decide)]
          unfold Rd_readTerm_68 Rd_readTerm_79
          rw [if_neg (by decide)]
          obtain ⟨c1, e3, h3, l3⟩ := nY (r := 1) hX hc h z3 (by omega)
          obtain ⟨b2, _⟩ := hX.go (a := a + 1) (by omega) b1 (by rw [z4]; unfold stp3; omega)
          obtain ⟨m2, e4, hm2, _⟩ := mnext hX hm1 b1 (by rw [z4]; unfold stp3; omega)
          have h4 := CS_at h3 (b := a + 1 + 1) (by omega) b2
          rw [e3, e4, Option.bind_some, Option.bind_some]
          simp only []
          rw [if_pos (by decide), l3, Option.bind_some, if_pos (by decide), Option.bind_some, h3.1.1, jadd_e (by omega) (by omega)]
          by_cases z5 : TT X (a + 1 + 1) = 75
          · obtain ⟨c2, e5, h5, l5⟩ := nY (r := 1) hX hc h4 z5 (by simp; omega)
            obtain ⟨m3, e6, hm3⟩ := mNumY hX hm2 b2 z5
            obtain ⟨c', e7, h7⟩ := cTerm (x1 := sg) (x2 := 3) (x3 := Vx X a) (x4 := Vx X (a + 1 + 1)) h5 hT
            rw [e5, e6, Option.bind_some, Option.bind_some]
            simp only [Option.bind_some]
            rw [l5, Option.bind_some, e7, Option.bind_some, if_pos (Or.inr trivial)]
            rw [show a + 1 + 1 + 1 = a + 3 by omega] at h7 hm3
            rw [show a + 1 + 1 = a + 2 by omega] at h7 z5
            refine Or.inl ⟨c', m3, a + 3, rfl, rfl, ⟨_, _, Or.inr (Or.inr (Or.inr ⟨z3, z4, z5, rfl, rfl, rfl⟩)), ?_⟩, hm3⟩
            rw [List.append_assoc] at h7
            exact h7
          · obtain ⟨m3, e6, hm3⟩ := mNumN hX hm2 b2 z5
            obtain ⟨v, e5, _⟩ := cLt h4.1 hc
            obtain ⟨c', e7, h7⟩ := cTerm (x1 := sg) (x2 := 3) (x3 := Vx X a) (x4 := v) h4 hT
            rw [nN hc h4.1 z5, e6, Option.bind_some, Option.bind_some]
            simp only [Option.bind_some]
            rw [e5, Option.bind_some, e7, Option.bind_some, if_pos (Or.inl trivial)]
            exact Or.inr ⟨c', m3, a + 1 + 1, rfl, rfl, h7.1, hm3⟩
        · rw [if_neg z4, if_pos z4, if_pos rfl]
          unfold Rd_readTerm_68 Rd_readTerm_79
          rw [if_pos rfl]
          obtain ⟨c1, e3, h3, l3⟩ := nY (r := 2) hX hc h z3 (by omega)
          obtain ⟨c', e4, h4⟩ := cTerm (x1 := sg) (x2 := 2) (x3 := Vx X a) (x4 := Vx X a) h3 hT
          rw [e3, Option.bind_some]
          simp only []
          rw [if_pos (by decide), l3, Option.bind_some, if_neg (by decide), e4, Option.bind_some]
          exact Or.inl ⟨c', m1, a + 1, rfl, rfl, ⟨_, _, Or.inr (Or.inr (Or.inl ⟨z3, z4, rfl, rfl, rfl⟩)), h4⟩, hm1⟩
      · obtain ⟨m1, e2, hm1⟩ := mNumN hX hm a1 z3
        rw [e2, Option.bind_some, bd_isWord hm1.1, Option.bind_some, if_pos rfl]
        have hf : ∀ s s0 r, Rd_readTerm_79 c s s0 r = some (0, c) := by
          intro s s0 r
          unfold Rd_readTerm_79
          rw [nN hc h.1 z3, Option.bind_some, if_neg (show ¬ (0 : Int) ≠ 0 by decide)]
        refine Or.inr ⟨c, m1, a, ?_, rfl, h.1, hm1⟩
        unfold Rd_readTerm_68
        split
        · rw [if_pos rfl]; exact hf _ _ _
        · rw [if_neg (by decide)]; exact hf _ _ _
/-- what the class does behind a term -/
noncomputable def aft (l1 : Int) (N : Nat) (c : Mem) (i : Int) : Option (Int × Mem) := (Rd_codeAhead c 0).bind fun x4 => if x4 = 71 then Rd_readSet_57 (Rd_readSet_10 l1 N) c l1 x4 i else if x4 = 72 then Rd_readSet_57 (Rd_readSet_10 l1 N) c l1 x4 i else (St_addItem c 20 0 l1).bind fun m6 => some (1, m6)
theorem readSet_10 {l1 : Int} {N : Nat} {c : Mem} {sg i : Int} (hi : i < 120) : Rd_readSet_10 l1 (N + 1) c sg i = (Rd_readTerm c sg).bind fun p1 => if p1.1 ≠ 0 then aft l1 N p1.2 i else some (0, p1.2) := by
  rw [Rd_readSet_10, if_neg (by omega)]
  rfl
theorem more_rel {X : Tx} {c0 m0 : Mem} {l1 : Int} (hX : XO X m0) (hc : CXO X c0) {WL : List Q4} {td : Int → Int} {op vb : Int} : ∀ (d N1 N2 : Nat) (c m : Mem) (a i : Int) (I : List It3) (TL : List Q4), CS X c0 c a I TL WL td op vb → MST X m0 m a → X.2.2.2 - a ≤ d → d < N1 → d < N2 → 0 ≤ i → 2 * i + 1 ≤ a → I.length ≤ a + 3 → TL.length ≤ a → REL X c0 m0 (aft l1 N1 c i) (M_moreTerms_0 N2 m) (fun c' e => ∃ its tms, MORE X tms a e its ∧ CS X c0 c' e (I ++ its ++ [(20, 0, l1)]) (TL ++ tms) WL td op vb) := by
  intro d
  induction d with
  | zero =>
    intro N1 N2 c m a i I TL h hm h1
    have := h.1.2.2.1
    omega
  | succ d ih =>
    intro N1 N2 c m a i I TL h hm h1 h2 h3 i0 i1 hI hT
    obtain ⟨N1, rfl⟩ : ∃ j, N1 = j + 1 := ⟨N1 - 1, by omega⟩
    obtain ⟨N2, rfl⟩ : ∃ j, N2 = j + 1 := ⟨N2 - 1, by omega⟩
    have a0 := h.1.2.1
    have a1 := h.1.2.2.1
    have hb := hc.2.2
    unfold aft
    rw [cA0 h.1 hc, Option.bind_some, M_moreTerms_0, isSg hX hm a1 (sc := 71) (by omega), Option.bind_some, isSg hX hm a1 (sc := 72) (by omega)]
    have go : (TT X a = 71 ∨ TT X a = 72) → REL X c0 m0 (Rd_readSet_57 (Rd_readSet_10 l1 (N1 + 1)) c l1 (TT X a) i) (M_moreTerms_18 (M_moreTerms_0 N2) m) (fun c' e => ∃ its tms, MORE X tms a e its ∧ CS X c0 c' e (I ++ its ++ [(20, 0, l1)]) (TL ++ tms) WL td op vb) := by
      intro hs
      unfold Rd_readSet_57 M_moreTerms_18
      obtain ⟨b1, _⟩ := hX.go a0 a1 (by unfold stp3; omega)
      obtain ⟨m1, e2, hm1, _⟩ := mnext hX hm a1 (by unfold stp3; omega)
      have hC := CS_at h (b := a + 1) (by omega) b1
      rw [Option.bind_some, h.1.1, jadd_e (by omega) (by omega), jadd_e (by omega) (by omega), e2, Option.bind_some, readSet_10 (by omega)]
      rcases term_rel (sg := TT X a) hX hc hC hm1 (by omega) (by omega) with ⟨c', m', e, e3, e4, ⟨its, tm, hq, hC2⟩, hm2⟩ | ⟨c', m', f, e3, e4, hF, hB⟩
      · have tl := TRM_l hq
        have hl1 : ((I ++ its).length : Int) ≤ e + 3 := by rw [List.length_append]; omega
        have hl2 : ((TL ++ [tm]).length : Int) ≤ e := by rw [List.length_append]; simp; omega
        rcases ih N1 N2 c' m' e (i + 1) (I ++ its) (TL ++ [tm]) hC2 hm2 (by omega) (by omega) (by omega) (by omega) (by omega) hl1 hl2 with ⟨c2, m2, e5, e6, e7, ⟨its2, tms, hq2, hC3⟩, hm3⟩ | ⟨c2, m2, f, e6, e7, hF, hB⟩
        · rw [e3, e4, Option.bind_some, Option.bind_some]
          simp only []
          rw [if_pos (by decide), e6, e7]
          refine Or.inl ⟨c2, m2, e5, rfl, rfl, ⟨its ++ its2, tm :: tms, ⟨e, its, its2, hs, hq, rfl, hq2⟩, ?_⟩, hm3⟩
          rw [← List.append_assoc, show TL ++ tm :: tms = TL ++ [tm] ++ tms by simp]
          exact hC3
        · rw [e3, e4, Option.bind_some, Option.bind_some]
          simp only []
          rw [if_pos (by decide), e6, e7]
          exact Or.inr ⟨c2, m2, f, rfl, rfl, hF, hB⟩
      · rw [e3, e4, Option.bind_some, Option.bind_some]
        simp only []
        rw [if_neg (by decide), bd_more0 hB.1 (by omega)]
        exact Or.inr ⟨c', m', f, rfl, rfl, hF, hB⟩
    by_cases z1 : TT X a = 71
    · rw [if_pos z1, if_pos z1, if_pos (show (1 : Int) ≠ 0 by decide)]
      exact go (Or.inl z1)
    · rw [if_neg z1, if_neg z1, if_neg (show ¬ (0 : Int) ≠ 0 by decide)]
      by_cases z2 : TT X a = 72
      · rw [if_pos z2, if_pos z2, Option.bind_some, if_neg (show ¬ (1 : Int) = 0 by decide)]
        exact go (Or.inr z2)
      · rw [if_neg z2, if_neg z2, Option.bind_some, if_pos rfl]
        obtain ⟨c', e1, h4⟩ := cItem (r := 20) (v := 0) (p := l1) h (by omega)
        rw [e1, Option.bind_some]
        refine Or.inl ⟨c', m, a, rfl, rfl, ⟨[], [], ⟨rfl, rfl, z1, z2⟩, ?_⟩, hm⟩
        rw [List.append_nil, List.append_nil]
        exact h4
theorem set_rel {X : Tx} {c0 m0 c m : Mem} {a : Int} {I : List It3} {WL : List Q4} {td : Int → Int} {op vb : Int} (hX : XO X m0) (hc : CXO X c0) (h : CS X c0 c a I [] WL td op vb) (hm : MST X m0 m a) (hI : I.length ≤ a + 2) : REL X c0 m0 (Rd_readSet c) (M_set m) (fun c' e => ∃ its tms, SETP X tms a e its ∧ CS X c0 c' e (I ++ its ++ [(20, 0, Px X a)]) tms WL td op vb) := by
  have a0 := h.1.2.1
  have a1 := h.1.2.2.1
  have hb := hc.2.2
  unfold Rd_readSet M_set
  obtain ⟨N, hN⟩ : ∃ N, big = N + 1 := big_s
  have hN2 := big_ge
  rw [cPl h.1 hc, Option.bind_some, hN, readSet_10 (by decide)]
  by_cases ea : a = 120
  · -- nothing can be read there
    subst ea
    rcases term_rel (sg := 71) hX hc h hm (by omega) (by simp) with ⟨c', m', e, e3, e4, ⟨its, tm, hq, hC2⟩, hm2⟩ | ⟨c', m', f, e3, e4, hF, hB⟩
    · exfalso
      have t := TT_120 (X := X)
      rcases hq with ⟨q, _⟩ | ⟨q, _⟩ | ⟨q, _⟩ | ⟨q, _⟩ <;> omega
    · rw [e3, e4, Option.bind_some, Option.bind_some]
      simp only []
      rw [if_neg (by decide), bd_more hB.1, Option.bind_some]
      exact Or.inr ⟨c', m', f, rfl, rfl, hF, hB⟩
  · rcases term_rel (sg := 71) hX hc h hm (by omega) (by simp) with ⟨c', m', e, e3, e4, ⟨its, tm, hq, hC2⟩, hm2⟩ | ⟨c', m', f, e3, e4, hF, hB⟩
    · have tl := TRM_l hq
      have hl1 : ((I ++ its).length : Int) ≤ e + 3 := by rw [List.length_append]; omega
      have hl2 : (([] ++ [tm] : List Q4).length : Int) ≤ e := by simp; omega
      rw [e3, e4, Option.bind_some, Option.bind_some]
      simp only []
      rw [if_pos (by decide)]
      have hm3 : M_moreTerms m' = M_moreTerms_0 big m' := rfl
      rw [hm3]
      rcases more_rel (l1 := Px X a) hX hc 121 N big c' m' e 0 (I ++ its) ([] ++ [tm]) hC2 hm2 (by omega) (by omega) (by omega) (by omega) (by omega) hl1 hl2 with ⟨c2, m2, e5, e6, e7, ⟨its2, tms, hq2, hC3⟩, hm3⟩ | ⟨c2, m2, f, e6, e7, hF, hB⟩
      · rw [e6, e7, Option.bind_some]
        refine Or.inl ⟨c2, m2, e5, rfl, rfl, ⟨its ++ its2, tm :: tms, ⟨tm, tms, e, its, its2, rfl, hq, rfl, hq2⟩, ?_⟩, hm3⟩
        rw [← List.append_assoc]
        exact hC3
      · rw [e6, e7, Option.bind_some]
        exact Or.inr ⟨c2, m2, f, rfl, rfl, hF, hB⟩
    · rw [e3, e4, Option.bind_some, Option.bind_some]
      simp only []
      rw [if_neg (by decide), bd_more hB.1, Option.bind_some]
      exact Or.inr ⟨c', m', f, rfl, rfl, hF, hB⟩
