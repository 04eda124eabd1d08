-- L3: enter: what a set gets, read by both
def AMT (X : Tx) (k p e : Int) (its : List It3) (wh : Q4) : Prop := (TT X k = 66 ∧ e = k + 1 ∧ its = [] ∧ wh = (0, p, 1000, 0)) ∨ (TT X k = 67 ∧ TT X (k + 1) = 75 ∧ e = k + 2 ∧ its = [(6, Vx X (k + 1), Px X (k + 1))] ∧ wh = (0, p, 2000 + Vx X (k + 1), 0)) ∨ (TT X k = 71 ∧ TT X (k + 1) = 75 ∧ e = k + 2 ∧ its = [(13, Vx X (k + 1), Px X (k + 1))] ∧ wh = (2, p, Vx X (k + 1), 0)) ∨ (TT X k = 72 ∧ TT X (k + 1) = 75 ∧ e = k + 2 ∧ its = [(13, Vx X (k + 1), Px X (k + 1))] ∧ wh = (2, p, - Vx X (k + 1), 0)) ∨ (TT X k = 75 ∧ ¬ TT X (k + 1) = 65 ∧ e = k + 1 ∧ its = [(13, Vx X k, Px X k)] ∧ wh = (0, p, Vx X k, 0)) ∨ (TT X k = 75 ∧ TT X (k + 1) = 65 ∧ TT X (k + 2) = 75 ∧ e = k + 3 ∧ its = [(13, Vx X k, Px X k), (13, Vx X (k + 2), Px X (k + 2))] ∧ wh = (1, p, Vx X k, Vx X (k + 2)))
theorem AMT_l {X : Tx} {k p e : Int} {its : List It3} {wh : Q4} (h : AMT X k p e its wh) : k + 1 ≤ e ∧ its.length ≤ e - k ∧ e ≤ k + 3 := by
  rcases h with ⟨_, h1, h2, _⟩ | ⟨_, _, h1, h2, _⟩ | ⟨_, _, h1, h2, _⟩ | ⟨_, _, h1, h2, _⟩ | ⟨_, _, h1, h2, _⟩ | ⟨_, _, _, h1, h2, _⟩ <;> subst h1 <;> subst h2 <;> simp <;> omega
theorem p48 : tbl piT 48 = 66 := by decide
theorem p49 : tbl piT 49 = 67 := by decide
theorem p10 : tbl piT 10 = 36 := by decide
theorem p50 : tbl piT 50 = 68 := by decide
theorem p51 : tbl piT 51 = 69 := by decide
theorem Vx_r {X : Tx} {m0 : Mem} (hX : XO X m0) {a : Int} (a0 : 0 ≤ a) (a1 : a < X.2.2.2) (h : TT X a = 75) : 0 ≤ Vx X a ∧ Vx X a ≤ 9999 := by
  obtain ⟨_, b⟩ := hX.go a0 a1 (by rw [h]; unfold stp3; omega)
  have := TT_c hX a0 a1 b
  omega
theorem amount_rel {X : Tx} {c0 m0 c m : Mem} {a p : Int} {I : List It3} {TL WL : List Q4} {td : Int → Int} {op vb : Int} (hX : XO X m0) (hc : CXO X c0) (h : CS X c0 c a I TL WL td op vb) (hm : MST X m0 m a) (hI : I.length < 238) (hW : WL.length < 120) : REL X c0 m0 (Rd_readParameterWhat c p) (M_amount m) (fun c' e => ∃ its wh, AMT X a p e its wh ∧ CS X c0 c' e (I ++ its) TL (WL ++ [wh]) td op vb) := by
  have a0 := h.1.2.1
  have a1 := h.1.2.2.1
  have hb := hc.2.2
  unfold Rd_readParameterWhat M_amount
  rw [isW hX hm a1 (by decide) (by decide), p48, isW hX hm a1 (by decide) (by decide), p49, isSg hX hm a1 (sc := 71) (by omega), isSg hX hm a1 (sc := 72) (by omega)]
  by_cases z0 : TT X a = 66
  · rw [if_pos z0, Option.bind_some, if_neg (show ¬ (1 : Int) = 0 by decide)]
    obtain ⟨e1, h1⟩ := pY hX hc h z0 (by unfold stp3; omega)
    obtain ⟨m', e2, hm', _⟩ := mnext hX hm a1 (by rw [z0]; unfold stp3; omega)
    obtain ⟨c', e3, h3⟩ := cWhat (x1 := 0) (x2 := p) (x3 := 1000) (x4 := 0) h1 hW
    rw [e1, e2, Option.bind_some, Option.bind_some]
    simp only []
    rw [if_neg (show ¬ (1 : Int) = 0 by decide), e3, Option.bind_some]
    exact Or.inl ⟨c', m', a + 1, rfl, rfl, ⟨[], _, Or.inl ⟨z0, rfl, rfl, rfl⟩, by rw [List.append_nil]; exact h3⟩, hm'⟩
  · rw [if_neg z0, pN hc h.1 z0, Option.bind_some, Option.bind_some, if_pos rfl]
    simp only []
    rw [if_pos trivial]
    by_cases z1 : TT X a = 67
    · rw [if_pos z1, Option.bind_some, if_pos (show (1 : Int) ≠ 0 by decide)]
      unfold M_amount_43
      obtain ⟨e1, h1⟩ := pY hX hc h z1 (by unfold stp3; omega)
      obtain ⟨m1, e2, hm1, b1⟩ := mnext hX hm a1 (by rw [z1]; unfold stp3; omega)
      rw [e1, e2, Option.bind_some, Option.bind_some]
      simp only []
      rw [if_neg (show ¬ (1 : Int) = 0 by decide)]
      by_cases z2 : TT X (a + 1) = 75
      · have hv := Vx_r hX (by omega) b1 z2
        obtain ⟨c2, e3, h3, l3⟩ := nY (r := 6) hX hc h1 z2 (by omega)
        obtain ⟨m2, e4, hm2⟩ := mNumY hX hm1 b1 z2
        obtain ⟨c', e5, h5⟩ := cWhat (x1 := 0) (x2 := p) (x3 := 2000 + Vx X (a + 1)) (x4 := 0) h3 hW
        rw [e3, e4, Option.bind_some, Option.bind_some]
        simp only [Option.bind_some]
        rw [l3, Option.bind_some, jadd_e (by omega) (by omega), e5, Option.bind_some, if_pos (Or.inr trivial)]
        rw [show a + 1 + 1 = a + 2 by omega] at h5 hm2
        exact Or.inl ⟨c', m2, a + 2, rfl, rfl, ⟨_, _, Or.inr (Or.inl ⟨z1, z2, rfl, rfl, rfl⟩), h5⟩, hm2⟩
      · obtain ⟨m2, e4, hm2⟩ := mNumN hX hm1 b1 z2
        obtain ⟨v, e5, _⟩ := cLt h1.1 hc
        obtain ⟨c', e6, h6⟩ := cWhat (x1 := 0) (x2 := p) (x3 := jadd 2000 v) (x4 := 0) h1 hW
        rw [nN hc h1.1 z2, e4, Option.bind_some, Option.bind_some]
        simp only [Option.bind_some]
        rw [e5, Option.bind_some, e6, Option.bind_some, if_pos (Or.inl trivial)]
        exact Or.inr ⟨c', m2, a + 1, rfl, rfl, h6.1, hm2⟩
    · rw [if_neg z1, pN hc h.1 z1, Option.bind_some, Option.bind_some, if_neg (show ¬ (0 : Int) ≠ 0 by decide)]
      simp only []
      rw [if_pos trivial, cA0 h.1 hc, Option.bind_some]
      have go : (TT X a = 71 ∨ TT X a = 72) → REL X c0 m0 (Rd_readParameterWhat_78 c p (TT X a)) (M_amount_43 m) (fun c' e => ∃ its wh, AMT X a p e its wh ∧ CS X c0 c' e (I ++ its) TL (WL ++ [wh]) td op vb) := by
        intro hs
        unfold Rd_readParameterWhat_78 M_amount_43 Rd_readParameterWhat_119
        obtain ⟨b1, _⟩ := hX.go a0 a1 (by unfold stp3; omega)
        obtain ⟨m1, e2, hm1, _⟩ := mnext hX hm a1 (by unfold stp3; omega)
        have h1 := CS_at h (b := a + 1) (by omega) b1
        rw [Option.bind_some, h.1.1, jadd_e (by omega) (by omega), e2, Option.bind_some]
        by_cases z2 : TT X (a + 1) = 75
        · have hv := Vx_r hX (by omega) b1 z2
          obtain ⟨c2, e3, h3, l3⟩ := nY (r := 13) hX hc h1 z2 (by omega)
          obtain ⟨m2, e4, hm2⟩ := mNumY hX hm1 b1 z2
          rw [e3, e4, Option.bind_some, Option.bind_some]
          simp only [Option.bind_some]
          rw [show a + 1 + 1 = a + 2 by omega] at h3 hm2
          by_cases z5 : TT X a = 71
          · obtain ⟨c', e5, h5⟩ := cWhat (x1 := 2) (x2 := p) (x3 := Vx X (a + 1)) (x4 := 0) h3 hW
            rw [if_neg (fun x => x z5), l3, Option.bind_some, e5, Option.bind_some, if_pos (Or.inr trivial)]
            exact Or.inl ⟨c', m2, a + 2, rfl, rfl, ⟨_, _, Or.inr (Or.inr (Or.inl ⟨z5, z2, rfl, rfl, rfl⟩)), h5⟩, hm2⟩
          · have z6 : TT X a = 72 := by omega
            obtain ⟨c', e5, h5⟩ := cWhat (x1 := 2) (x2 := p) (x3 := - Vx X (a + 1)) (x4 := 0) h3 hW
            rw [if_pos z5, l3, Option.bind_some, jneg_e (by omega) (by omega), e5, Option.bind_some, if_pos (Or.inr trivial)]
            exact Or.inl ⟨c', m2, a + 2, rfl, rfl, ⟨_, _, Or.inr (Or.inr (Or.inr (Or.inl ⟨z6, z2, rfl, rfl, rfl⟩))), h5⟩, hm2⟩
        · obtain ⟨m2, e4, hm2⟩ := mNumN hX hm1 b1 z2
          obtain ⟨v, e5, _⟩ := cLt h1.1 hc
          rw [nN hc h1.1 z2, e4, Option.bind_some, Option.bind_some]
          simp only [Option.bind_some]
          by_cases z5 : TT X a = 71
          · obtain ⟨c', e6, h6⟩ := cWhat (x1 := 2) (x2 := p) (x3 := v) (x4 := 0) h1 hW
            rw [if_neg (fun x => x z5), e5, Option.bind_some, e6, Option.bind_some, if_pos (Or.inl trivial)]
            exact Or.inr ⟨c', m2, a + 1, rfl, rfl, h6.1, hm2⟩
          · obtain ⟨c', e6, h6⟩ := cWhat (x1 := 2) (x2 := p) (x3 := jneg v) (x4 := 0) h1 hW
            rw [if_pos z5, e5, Option.bind_some, e6, Option.bind_some, if_pos (Or.inl trivial)]
            exact Or.inr ⟨c', m2, a + 1, rfl, rfl, h6.1, hm2⟩
      by_cases z3 : TT X a = 71
      · rw [if_pos z3, if_pos z3, Option.bind_some, if_pos (by decide)]
        exact go (Or.inl z3)
      · rw [if_neg z3, if_neg z3, Option.bind_some, if_neg (show ¬ (0 : Int) ≠ 0 by decide)]
        by_cases z4 : TT X a = 72
        · rw [if_pos z4, if_neg (show ¬ TT X a ≠ 72 from fun x => x z4), Option.bind_some, if_neg (show ¬ (1 : Int) = 0 by decide)]
          exact go (Or.inr z4)
        · rw [if_neg z4, if_pos (show TT X a ≠ 72 from z4), Option.bind_some, if_pos rfl]
          by_cases z5 : TT X a = 75
          · obtain ⟨c1, e3, h3, l3⟩ := nY (r := 13) hX hc h z5 (by omega)
            obtain ⟨m1, e2, hm1⟩ := mNumY hX hm a1 z5
            obtain ⟨b1, _⟩ := hX.go a0 a1 (by rw [z5]; unfold stp3; omega)
            rw [e3, e2, Option.bind_some, Option.bind_some, isW hX hm1 b1 (by decide) (by decide), p2, Option.bind_some]
            simp only []
            rw [if_pos (by decide), l3, Option.bind_some]
            by_cases z6 : TT X (a + 1) = 65
            · obtain ⟨e4, h4⟩ := pY hX hc h3 z6 (by unfold stp3; omega)
              obtain ⟨m2, e5, hm2, b2⟩ := mnext hX hm1 b1 (by rw [z6]; unfold stp3; omega)
              rw [e4, Option.bind_some, if_pos z6, if_neg (show ¬ (1 : Int) = 0 by decide), e5, Option.bind_some]
              simp only []
              rw [if_pos (by decide)]
              by_cases z7 : TT X (a + 1 + 1) = 75
              · obtain ⟨c2, e6, h6, l6⟩ := nY (r := 13) hX hc h4 z7 (by simp; omega)
                obtain ⟨m3, e7, hm3⟩ := mNumY hX hm2 b2 z7
                obtain ⟨c', e8, h8⟩ := cWhat (x1 := 1) (x2 := p) (x3 := Vx X a) (x4 := Vx X (a + 1 + 1)) h6 hW
                rw [e6, e7, Option.bind_some, Option.bind_some]
                simp only [Option.bind_some]
                rw [l6, Option.bind_some, e8, Option.bind_some, if_pos (Or.inr trivial)]
                rw [show a + 1 + 1 + 1 = a + 3 by omega] at h8 hm3
                rw [show a + 1 + 1 = a + 2 by omega] at h8 z7
                refine Or.inl ⟨c', m3, a + 3, rfl, rfl, ⟨_, _, Or.inr (Or.inr (Or.inr (Or.inr (Or.inr ⟨z5, z6, z7, rfl, rfl, rfl⟩)))), ?_⟩, hm3⟩
                rw [List.append_assoc] at h8
                exact h8
              · obtain ⟨m3, e7, hm3⟩ := mNumN hX hm2 b2 z7
                obtain ⟨v, e5, _⟩ := cLt h4.1 hc
                obtain ⟨c', e8, h8⟩ := cWhat (x1 := 1) (x2 := p) (x3 := Vx X a) (x4 := v) h4 hW
                rw [nN hc h4.1 z7, e7, Option.bind_some, Option.bind_some]
                simp only [Option.bind_some]
                rw [e5, Option.bind_some, e8, Option.bind_some, if_pos (Or.inl trivial)]
                exact Or.inr ⟨c', m3, a + 1 + 1, rfl, rfl, h8.1, hm3⟩
            · obtain ⟨c', e4, h4⟩ := cWhat (x1 := 0) (x2 := p) (x3 := Vx X a) (x4 := 0) h3 hW
              rw [pN hc h3.1 z6, Option.bind_some, if_neg z6, if_pos rfl]
              simp only []
              rw [if_neg (by decide), e4, Option.bind_some]
              exact Or.inl ⟨c', m1, a + 1, rfl, rfl, ⟨_, _, Or.inr (Or.inr (Or.inr (Or.inr (Or.inl ⟨z5, z6, rfl, rfl, rfl⟩)))), h4⟩, hm1⟩
          · obtain ⟨m1, e2, hm1⟩ := mNumN hX hm a1 z5
            rw [nN hc h.1 z5, e2, Option.bind_some, Option.bind_some, bd_isWord hm1.1, Option.bind_some, if_pos rfl]
            simp only []
            rw [if_neg (by decide)]
            exact Or.inr ⟨c, m1, a, rfl, rfl, h.1, hm1⟩
def parK (X : Tx) (k p : Int) : Prop := (TT X k = 74 ∧ p = 0) ∨ (9 ≤ TT X k ∧ TT X k ≤ 17 ∧ p = TT X k - 9)
def WTP (X : Tx) (k e : Int) (its : List It3) (wh : Q4) : Prop := (∃ p, parK X k p ∧ AMT X (k + 1) p e its wh) ∨ (TT X k = 36 ∧ TT X (k + 1) = 75 ∧ e = k + 2 ∧ its = [(6, Vx X (k + 1), Px X (k + 1))] ∧ wh = (3, 0, Vx X (k + 1), 0)) ∨ (TT X k = 68 ∧ e = k + 1 ∧ its = [] ∧ wh = (4, 0, 0, 0)) ∨ (TT X k = 69 ∧ e = k + 1 ∧ its = [] ∧ wh = (5, 0, 0, 0))
def isWt (x : Int) : Prop := x = 74 ∨ (9 ≤ x ∧ x ≤ 17) ∨ x = 36 ∨ x = 68 ∨ x = 69
def WHS (X : Tx) : List Q4 → Int → Int → List It3 → Prop
  | [], k, e, its => e = k ∧ its = [] ∧ ¬ isWt (TT X k)
  | wh :: whs, k, e, its => ∃ e1 its1 its2, WTP X k e1 its1 wh ∧ its = its1 ++ its2 ∧ WHS X whs e1 e its2
theorem WTP_l {X : Tx} {k e : Int} {its : List It3} {wh : Q4} (h : WTP X k e its wh) : k + 1 ≤ e ∧ its.length ≤ e - k := by
  rcases h with ⟨p, _, h⟩ | ⟨_, _, h1, h2, _⟩ | ⟨_, h1, h2, _⟩ | ⟨_, h1, h2, _⟩
  · have := AMT_l h; omega
  · subst h1; subst h2; simp; omega
  · subst h1; subst h2; simp; omega
  · subst h1; subst h2; simp; omega
theorem r61 : ∀ w ∈ List.range 70, ((61 : Int) ≤ (w : Int) ∧ (w : Int) ≤ 69) ↔ ((9 : Int) ≤ tbl piT (w : Int) ∧ tbl piT (w : Int) ≤ 17) := by decide +kernel
theorem isWhat_e {X : Tx} {m0 m : Mem} {a : Int} (hX : XO X m0) (h : MST X m0 m a) (a1 : a < X.2.2.2) : (isWt (TT X a) → M_isWhat m = some 1) ∧ (¬ isWt (TT X a) → M_isWhat m = some 0) := by
  unfold M_isWhat isWt
  rw [isSg hX h a1 (sc := 74) (by omega), isWi hX h a1 (by decide) r61, isW hX h a1 (by decide) (by decide), p10, isW hX h a1 (by decide) (by decide), p50, isW hX h a1 (by decide) (by decide), p51]
  simp only [Option.bind_some]
  constructor
  · intro hx
    repeat' split
    all_goals first | rfl | (exfalso; omega)
  · intro hx
    rw [if_neg (show ¬ TT X a = 74 from fun x => hx (Or.inl x)), if_neg (by decide), if_neg (show ¬ (9 ≤ TT X a ∧ TT X a ≤ 17) from fun x => hx (Or.inr (Or.inl x))), if_neg (by decide), if_neg (show ¬ TT X a = 36 from fun x => hx (Or.inr (Or.inr (Or.inl x)))), if_neg (by decide), if_neg (show ¬ TT X a = 68 from fun x => hx (Or.inr (Or.inr (Or.inr (Or.inl x))))), if_neg (by decide), if_neg (show ¬ TT X a = 69 from fun x => hx (Or.inr (Or.inr (Or.inr (Or.inr x))))), if_pos rfl]
theorem TT_r {X : Tx} {m0 : Mem} (hX : XO X m0) {a : Int} (a0 : 0 ≤ a) : 0 ≤ TT X a ∧ TT X a ≤ 77 := by
  by_cases z : a < X.2.2.2 ∧ a < 120
  · have := TT_c hX a0 z.1 z.2
    omega
  · unfold TT; rw [if_neg (fun x => z ⟨x.2.1, x.2.2⟩)]; decide
theorem whats_rel {X : Tx} {c0 m0 : Mem} (hX : XO X m0) (hc : CXO X c0) {TL : List Q4} {td : Int → Int} {op vb : Int} : ∀ (d N1 N2 : Nat) (c m : Mem) (a i : Int) (I : List It3) (WL : List Q4), CS X c0 c a I TL WL td op vb → MST X m0 m a → X.2.2.2 - a ≤ d → d < N1 → d < N2 → 0 ≤ i → i + 1 ≤ a → (i = 0 → isWt (TT X a)) → I.length ≤ a + 3 → WL.length + 1 ≤ a → REL X c0 m0 (Rd_readWhats_2 N1 c i) (M_whats_11 N2 m) (fun c' e => ∃ its whs, WHS X whs a e its ∧ CS X c0 c' e (I ++ its) TL (WL ++ whs) td op vb) := by
  intro d
  induction d with
  | zero =>
    intro N1 N2 c m a i I WL h hm h1
    have := h.1.2.2.1
    omega
  | succ d ih =>
    intro N1 N2 c m a i I WL h hm h1 h2 h3 i0 i1 hi hI hW
    obtain ⟨N1, rfl⟩ : ∃ j, N1 = j + 1 := ⟨N1 - 1, by omega⟩
    obtain ⟨N2, rfl⟩ : ∃ j, N2 = j + 1 := ⟨N2 - 1, by omega⟩
    have a0 := h.1.2.1
    have a1 := h.1.2.2.1
    have hb := hc.2.2
    have tr := TT_r hX a0
    -- one what is read
    have step : ∀ (c1 m1 : Mem) (e : Int) (its : List It3) (wh : Q4), WTP X a e its wh → CS X c0 c1 e (I ++ its) TL (WL ++ [wh]) td op vb → MST X m0 m1 e → REL X c0 m0 (Rd_readWhats_2 N1 c1 (jadd i 1)) (M_whats_11 N2 m1) (fun c' e => ∃ its whs, WHS X whs a e its ∧ CS X c0 c' e (I ++ its) TL (WL ++ whs) td op vb) := by
      intro c1 m1 e its wh hw hC hM
      have wl := WTP_l hw
      rw [jadd_e (by omega) (by omega)]
      rcases ih N1 N2 c1 m1 e (i + 1) (I ++ its) (WL ++ [wh]) hC hM (by omega) (by omega) (by omega) (by omega) (by omega) (by omega) (by rw [List.length_append]; omega) (by rw [List.length_append]; simp; omega) with ⟨c2, m2, e5, e6, e7, ⟨its2, whs, hq2, hC3⟩, hm3⟩ | ⟨c2, m2, f, e6, e7, hF, hB⟩
      · refine Or.inl ⟨c2, m2, e5, e6, e7, ⟨its ++ its2, wh :: whs, ⟨e, its, its2, hw, rfl, hq2⟩, ?_⟩, hm3⟩
        rw [← List.append_assoc, show WL ++ wh :: whs = WL ++ [wh] ++ whs by simp]
        exact hC3
      · exact Or.inr ⟨c2, m2, f, e6, e7, hF, hB⟩
    rw [Rd_readWhats_2, if_neg (by omega), cA0 h.1 hc, Option.bind_some, M_whats_11]
    have par : ∀ p, parK X a p → REL X c0 m0 ((some (wr c 250 9 (jadd (c 250 9) 1))).bind fun m1 => (Rd_readParameterWhat m1 p).bind fun p4 => if p4.1 ≠ 0 then Rd_readWhats_2 N1 p4.2 (jadd i 1) else some (0, p4.2)) (M_whats_43 (M_whats_11 N2) m 1) (fun c' e => ∃ its whs, WHS X whs a e its ∧ CS X c0 c' e (I ++ its) TL (WL ++ whs) td op vb) := by
      intro p hp
      have ns : ¬ stp3 (TT X a) := by unfold stp3; unfold parK at hp; omega
      have n36 : ¬ TT X a = 36 := by unfold parK at hp; omega
      obtain ⟨b1, _⟩ := hX.go a0 a1 ns
      obtain ⟨m1, e2, hm1, _⟩ := mnext hX hm a1 ns
      have h4 := CS_at h (b := a + 1) (by omega) b1
      unfold M_whats_43 M_whats_63
      rw [Option.bind_some, h.1.1, jadd_e (x := a) (by omega) (by omega), isW hX hm a1 (by decide) (by decide), p10, if_neg n36, Option.bind_some, e2, Option.bind_some, if_neg (by decide)]
      rcases amount_rel (p := p) hX hc h4 hm1 (by omega) (by omega) with ⟨c', m', e, e3, e4, ⟨its, wh, hq, hC2⟩, hm2⟩ | ⟨c', m', f, e3, e4, hF, hB⟩
      · rw [e3, e4, Option.bind_some, Option.bind_some]
        simp only []
        rw [if_pos (by decide), if_pos trivial]
        exact step c' m' e its wh (Or.inl ⟨p, hp, hq⟩) hC2 hm2
      · rw [e3, e4, Option.bind_some, Option.bind_some]
        simp only []
        rw [if_neg (by decide), if_pos trivial, bd_whats11 hB.1 (by omega)]
        exact Or.inr ⟨c', m', f, rfl, rfl, hF, hB⟩
    have iw := isWhat_e hX hm a1
    by_cases z0 : TT X a = 74
    · rw [if_neg (fun x => x z0), iw.1 (Or.inl z0), Option.bind_some, if_neg (show ¬ (1 : Int) = 0 by decide), isSg hX hm a1 (sc := 74) (by omega), if_pos z0, Option.bind_some, if_pos (show (1 : Int) ≠ 0 by decide)]
      unfold Rd_readWhats_28
      rw [if_neg (by decide), if_neg (by decide)]
      exact par 0 (Or.inl ⟨z0, rfl⟩)
    · rw [if_pos z0, jsub_e (by omega) (by omega)]
      unfold Rd_readWhats_28
      by_cases z1 : 9 ≤ TT X a ∧ TT X a ≤ 17
      · have eM : ((M_isWhat m).bind fun x1 => if x1 = 0 then some m else (M_isSign m 64).bind fun x3 => if x3 ≠ 0 then M_whats_43 (M_whats_11 N2) m 1 else (M_isWordIn m 61 69).bind fun x5 => if x5 = 0 then M_whats_43 (M_whats_11 N2) m 0 else M_whats_43 (M_whats_11 N2) m 1) = M_whats_43 (M_whats_11 N2) m 1 := by
          rw [iw.1 (Or.inr (Or.inl z1)), Option.bind_some, if_neg (show ¬ (1 : Int) = 0 by decide), isSg hX hm a1 (sc := 74) (by omega), if_neg z0, Option.bind_some, if_neg (show ¬ (0 : Int) ≠ 0 by decide), isWi hX hm a1 (by decide) r61, if_pos z1, Option.bind_some, if_neg (show ¬ (1 : Int) = 0 by decide)]
        rw [eM, if_neg (show ¬ TT X a - 9 < 0 by omega), if_neg (show ¬ 9 ≤ TT X a - 9 by omega)]
        exact par (TT X a - 9) (Or.inr ⟨z1.1, z1.2, rfl⟩)
      · have e59 : (if TT X a - 9 < 0 then Rd_readWhats_59 (Rd_readWhats_2 N1) c i else if 9 ≤ TT X a - 9 then Rd_readWhats_59 (Rd_readWhats_2 N1) c i else (some (wr c 250 9 (jadd (c 250 9) 1))).bind fun m1 => (Rd_readParameterWhat m1 (TT X a - 9)).bind fun p4 => if p4.1 ≠ 0 then Rd_readWhats_2 N1 p4.2 (jadd i 1) else some (0, p4.2)) = Rd_readWhats_59 (Rd_readWhats_2 N1) c i := by
          by_cases y : TT X a - 9 < 0
          · rw [if_pos y]
          · rw [if_neg y, if_pos (by omega)]
        rw [e59]
        unfold Rd_readWhats_59
        have mid : isWt (TT X a) → ((M_isWhat m).bind fun x1 => if x1 = 0 then some m else (M_isSign m 64).bind fun x3 => if x3 ≠ 0 then M_whats_43 (M_whats_11 N2) m 1 else (M_isWordIn m 61 69).bind fun x5 => if x5 = 0 then M_whats_43 (M_whats_11 N2) m 0 else M_whats_43 (M_whats_11 N2) m 1) = M_whats_43 (M_whats_11 N2) m 0 := by
          intro hx
          rw [iw.1 hx, Option.bind_some, if_neg (show ¬ (1 : Int) = 0 by decide), isSg hX hm a1 (sc := 74) (by omega), if_neg z0, Option.bind_some, if_neg (show ¬ (0 : Int) ≠ 0 by decide), isWi hX hm a1 (by decide) r61, if_neg z1, Option.bind_some, if_pos rfl]
        by_cases z2 : TT X a = 36
        · rw [mid (Or.inr (Or.inr (Or.inl z2)))]
          obtain ⟨e1, h4⟩ := pY hX hc h z2 (by unfold stp3; omega)
          obtain ⟨m1, e2, hm1, b1⟩ := mnext hX hm a1 (by rw [z2]; unfold stp3; omega)
          unfold M_whats_43 M_whats_63
          rw [e1, Option.bind_some, isW hX hm a1 (by decide) (by decide), p10, if_pos z2, Option.bind_some, e2, Option.bind_some, if_pos rfl, if_neg (show ¬ (1 : Int) = 0 by decide)]
          simp only []
          rw [if_neg (show ¬ (1 : Int) = 0 by decide)]
          by_cases z3 : TT X (a + 1) = 75
          · obtain ⟨c2, e3, h5, l5⟩ := nY (r := 6) hX hc h4 z3 (by omega)
            obtain ⟨m2, e4, hm2⟩ := mNumY hX hm1 b1 z3
            obtain ⟨c', e5, h6⟩ := cWhat (x1 := 3) (x2 := 0) (x3 := Vx X (a + 1)) (x4 := 0) h5 (by omega)
            rw [e3, e4, Option.bind_some, Option.bind_some]
            simp only []
            rw [if_pos (by decide), l5, Option.bind_some, e5, Option.bind_some]
            rw [show a + 1 + 1 = a + 2 by omega] at h6 hm2
            exact step c' m2 (a + 2) _ _ (Or.inr (Or.inl ⟨z2, z3, rfl, rfl, rfl⟩)) h6 hm2
          · obtain ⟨m2, e4, hm2⟩ := mNumN hX hm1 b1 z3
            rw [nN hc h4.1 z3, e4, Option.bind_some, Option.bind_some]
            simp only []
            rw [if_neg (by decide), bd_whats11 hm2.1 (by omega)]
            exact Or.inr ⟨_, m2, a + 1, rfl, rfl, h4.1, hm2⟩
        · rw [pN hc h.1 z2, Option.bind_some]
          simp only []
          rw [if_pos trivial]
          by_cases z3 : TT X a = 68
          · rw [mid (Or.inr (Or.inr (Or.inr (Or.inl z3))))]
            obtain ⟨e1, h4⟩ := pY hX hc h z3 (by unfold stp3; omega)
            obtain ⟨m1, e2, hm1, b1⟩ := mnext hX hm a1 (by rw [z3]; unfold stp3; omega)
            obtain ⟨c', e5, h6⟩ := cWhat (x1 := 4) (x2 := 0) (x3 := 0) (x4 := 0) h4 (by omega)
            unfold M_whats_43 M_whats_63
            rw [e1, Option.bind_some, isW hX hm a1 (by decide) (by decide), p10, if_neg z2, Option.bind_some, e2, Option.bind_some, if_pos rfl, if_pos rfl]
            simp only []
            rw [if_neg (show ¬ (1 : Int) = 0 by decide), e5, Option.bind_some]
            exact step c' m1 (a + 1) [] _ (Or.inr (Or.inr (Or.inl ⟨z3, rfl, rfl, rfl⟩))) (by rw [List.append_nil]; exact h6) hm1
          · rw [pN hc h.1 z3, Option.bind_some]
            simp only []
            rw [if_pos trivial]
            by_cases z4 : TT X a = 69
            · rw [mid (Or.inr (Or.inr (Or.inr (Or.inr z4))))]
              obtain ⟨e1, h4⟩ := pY hX hc h z4 (by unfold stp3; omega)
              obtain ⟨m1, e2, hm1, b1⟩ := mnext hX hm a1 (by rw [z4]; unfold stp3; omega)
              obtain ⟨c', e5, h6⟩ := cWhat (x1 := 5) (x2 := 0) (x3 := 0) (x4 := 0) h4 (by omega)
              unfold M_whats_43 M_whats_63
              rw [e1, Option.bind_some, isW hX hm a1 (by decide) (by decide), p10, if_neg z2, Option.bind_some, e2, Option.bind_some, if_pos rfl, if_pos rfl]
              simp only []
              rw [if_neg (show ¬ (1 : Int) = 0 by decide), e5, Option.bind_some]
              exact step c' m1 (a + 1) [] _ (Or.inr (Or.inr (Or.inr ⟨z4, rfl, rfl, rfl⟩))) (by rw [List.append_nil]; exact h6) hm1
            · have nw : ¬ isWt (TT X a) := by unfold isWt; omega
              rw [pN hc h.1 z4, Option.bind_some, iw.2 nw, Option.bind_some, if_pos rfl]
              simp only []
              rw [if_pos trivial, if_neg (show ¬ i ≤ 0 from fun x => nw (hi (by omega)))]
              exact Or.inl ⟨c, m, a, rfl, rfl, ⟨[], [], ⟨rfl, rfl, nw⟩, by rw [List.append_nil, List.append_nil]; exact h⟩, hm⟩
theorem whats_r {X : Tx} {c0 m0 c m : Mem} (hX : XO X m0) (hc : CXO X c0) {TL : List Q4} {td : Int → Int} {op vb a : Int} {I : List It3} (h : CS X c0 c a I TL [] td op vb) (hm : MST X m0 m a) (a2 : 1 ≤ a) (hI : I.length ≤ a + 3) : REL X c0 m0 (Rd_readWhats c) (M_whats m) (fun c' e => ∃ its whs, WHS X whs a e its ∧ isWt (TT X a) ∧ CS X c0 c' e (I ++ its) TL whs td op vb) := by
  have a0 := h.1.2.1
  have a1 := h.1.2.2.1
  have hb := hc.2.2
  have hN := big_ge
  have iw := isWhat_e hX hm a1
  unfold Rd_readWhats M_whats
  by_cases z : isWt (TT X a)
  · rw [iw.1 z, Option.bind_some, if_pos (by decide)]
    rcases whats_rel hX hc 121 big big c m a 0 I [] h hm (by omega) (by omega) (by omega) (by omega) (by omega) (fun _ => z) hI (by simp; omega) with ⟨c2, m2, e5, e6, e7, ⟨its2, whs, hq2, hC3⟩, hm3⟩ | x
    · exact Or.inl ⟨c2, m2, e5, e6, e7, ⟨its2, whs, hq2, z, hC3⟩, hm3⟩
    · exact Or.inr x
  · obtain ⟨m1, e1, hm1⟩ := mfail hm
    rw [iw.2 z, Option.bind_some, if_neg (by decide), e1, Option.bind_some, bd_whats11 hm1.1 big_0]
    obtain ⟨N, hN⟩ : ∃ N, big = N + 1 := big_s
    have tr := TT_r hX a0
    refine Or.inr ⟨c, m1, a, ?_, rfl, h.1, hm1⟩
    unfold isWt at z
    rw [hN, Rd_readWhats_2, if_neg (by decide), cA0 h.1 hc, Option.bind_some, if_pos (fun x => z (Or.inl x)), jsub_e (by omega) (by omega)]
    have e59 : Rd_readWhats_59 (Rd_readWhats_2 N) c 0 = some (0, c) := by
      unfold Rd_readWhats_59
      rw [pN hc h.1 (fun x => z (Or.inr (Or.inr (Or.inl x)))), Option.bind_some]
      simp only []
      rw [if_pos trivial, pN hc h.1 (fun x => z (Or.inr (Or.inr (Or.inr (Or.inl x))))), Option.bind_some]
      simp only []
      rw [if_pos trivial, pN hc h.1 (fun x => z (Or.inr (Or.inr (Or.inr (Or.inr x))))), Option.bind_some]
      simp only []
      rw [if_pos trivial, if_pos (by decide)]
    unfold Rd_readWhats_28
    by_cases y : TT X a - 9 < 0
    · rw [if_pos y, e59]
    · rw [if_neg y, if_pos (by omega), e59]
