-- L3: enter: the class's steps over tokens
abbrev It3 := Int × Int × Int
abbrev Q4 := Int × Int × Int × Int
def CXO (X : Tx) (c0 : Mem) : Prop := c0 250 8 = X.2.2.2 ∧ (∀ i, 0 ≤ i → i < X.2.2.2 → c0 252 i = TT X i ∧ c0 254 i = Px X i ∧ (TT X i = 75 → c0 253 i = Vx X i)) ∧ X.2.2.2 ≤ 121
def CSF (X : Tx) (c0 c : Mem) (a : Int) : Prop := c 250 9 = a ∧ 0 ≤ a ∧ a < X.2.2.2 ∧ (∀ f, ¬ f = 9 → c 250 f = c0 250 f) ∧ (∀ o, ¬ (241 ≤ o ∧ o ≤ 247) → ¬ o = 250 → c o = c0 o)
def ITM (c : Mem) (I : List It3) : Prop := c 241 6 = I.length ∧ ∀ (k : Nat) (x : It3), I[k]? = some x → c 243 k = x.1 ∧ c 244 k = x.2.1 ∧ c 245 k = x.2.2
def QUD (c : Mem) (f o : Int) (L : List Q4) : Prop := c 241 f = L.length ∧ ∀ (k : Nat) (x : Q4), L[k]? = some x → c o (4 * k) = x.1 ∧ c o (4 * k + 1) = x.2.1 ∧ c o (4 * k + 2) = x.2.2.1 ∧ c o (4 * k + 3) = x.2.2.2
def CS (X : Tx) (c0 c : Mem) (a : Int) (I : List It3) (TL WL : List Q4) (td : Int → Int) (op vb : Int) : Prop := CSF X c0 c a ∧ ITM c I ∧ QUD c 8 246 TL ∧ QUD c 10 247 WL ∧ c 242 = td ∧ c 241 1 = op ∧ c 241 0 = vb
theorem app1 {α : Type} {L : List α} {x y : α} {k : Nat} (h : (L ++ [x])[k]? = some y) : (k < L.length ∧ L[k]? = some y) ∨ (k = L.length ∧ y = x) := by
  by_cases e : k < L.length
  · rw [List.getElem?_append_left e] at h; exact Or.inl ⟨e, h⟩
  · rw [List.getElem?_append_right (by omega)] at h
    obtain ⟨j, hj⟩ : ∃ j, k - L.length = j := ⟨_, rfl⟩
    rw [hj] at h
    cases j with
    | zero =>
      refine Or.inr ⟨by omega, ?_⟩
      have h2 : some x = some y := h
      cases h2; rfl
    | succ j => exact absurd h (by simp)
theorem CSF.tok {X : Tx} {c0 c : Mem} {a : Int} (h : CSF X c0 c a) (hc : CXO X c0) : ∀ i, 0 ≤ i → i < X.2.2.2 → c 252 i = TT X i ∧ c 254 i = Px X i ∧ (TT X i = 75 → c 253 i = Vx X i) := by
  intro i i0 i1
  obtain ⟨_, _, _, _, ho⟩ := h
  rw [ho 252 (by decide) (by decide), ho 253 (by decide) (by decide), ho 254 (by decide) (by decide)]
  exact hc.2.1 i i0 i1
theorem CSF.cnt {X : Tx} {c0 c : Mem} {a : Int} (h : CSF X c0 c a) (hc : CXO X c0) : c 250 8 = X.2.2.2 := by
  obtain ⟨_, _, _, hf, _⟩ := h
  rw [hf 8 (by decide)]; exact hc.1
theorem cAh {X : Tx} {c0 c : Mem} {a d : Int} (h : CSF X c0 c a) (hc : CXO X c0) (d0 : 0 ≤ d) (d1 : d ≤ 3) : Rd_codeAhead c d = some (TT X (a + d)) := by
  have ht := h.tok hc
  have hn := h.cnt hc
  obtain ⟨e9, a0, a1, _⟩ := h
  have hb := hc.2.2
  unfold Rd_codeAhead
  rw [hn, e9, jadd_e (by omega) (by omega)]
  by_cases z : X.2.2.2 ≤ a + d
  · rw [if_pos z]
    unfold TT
    rw [if_neg (fun x => by omega)]
  · rw [if_neg z, aI_ok (by omega) (by omega), Option.bind_some, (ht (a + d) (by omega) (by omega)).1]
theorem cA0 {X : Tx} {c0 c : Mem} {a : Int} (h : CSF X c0 c a) (hc : CXO X c0) : Rd_codeAhead c 0 = some (TT X a) := by
  have := cAh h hc (d := 0) (by decide) (by decide)
  rwa [Int.add_zero] at this
theorem cPl {X : Tx} {c0 c : Mem} {a : Int} (h : CSF X c0 c a) (hc : CXO X c0) : Rd_place c = some (Px X a) := by
  have ht := h.tok hc
  have hn := h.cnt hc
  obtain ⟨e9, a0, a1, _⟩ := h
  have hb := hc.2.2
  unfold Rd_place
  rw [hn, e9, if_neg (by omega), aI_ok a0 (by omega), Option.bind_some, (ht a a0 a1).2.1]
theorem cLt {X : Tx} {c0 c : Mem} {a : Int} (h : CSF X c0 c a) (hc : CXO X c0) : ∃ v, Rd_latestNumber c = some v ∧ (0 < a → TT X (a - 1) = 75 → v = Vx X (a - 1)) := by
  have ht := h.tok hc
  obtain ⟨e9, a0, a1, _⟩ := h
  have hb := hc.2.2
  unfold Rd_latestNumber
  rw [e9]
  by_cases z : a ≤ 0
  · rw [if_pos z]; exact ⟨0, rfl, fun x => by omega⟩
  · rw [if_neg z, jsub_e (by omega) (by omega), aI_ok (by omega) (by omega), Option.bind_some]
    exact ⟨_, rfl, fun _ y => (ht (a - 1) (by omega) (by omega)).2.2 y⟩
theorem CSF_at {X : Tx} {c0 c : Mem} {a b : Int} (h : CSF X c0 c a) (b0 : 0 ≤ b) (b1 : b < X.2.2.2) : CSF X c0 (wr c 250 9 b) b := by
  obtain ⟨e9, a0, a1, hf, ho⟩ := h
  refine ⟨wr_eq, b0, b1, fun f x => ?_, fun o x y => ?_⟩
  · rw [wr_f x, hf f x]
  · rw [wr_o y, ho o x y]
theorem CS_at {X : Tx} {c0 c : Mem} {a b : Int} {I : List It3} {TL WL : List Q4} {td : Int → Int} {op vb : Int} (h : CS X c0 c a I TL WL td op vb) (b0 : 0 ≤ b) (b1 : b < X.2.2.2) : CS X c0 (wr c 250 9 b) b I TL WL td op vb := by
  obtain ⟨hF, hI, hT, hW, h1, h2, h3⟩ := h
  refine ⟨CSF_at hF b0 b1, ?_, ?_, ?_, by rw [wr_o (by decide)]; exact h1, by rw [wr_o (by decide)]; exact h2, by rw [wr_o (by decide)]; exact h3⟩
  · unfold ITM; rw [wr_o (by decide), wr_o (by decide), wr_o (by decide), wr_o (by decide)]; exact hI
  · unfold QUD; rw [wr_o (by decide), wr_o (by decide)]; exact hT
  · unfold QUD; rw [wr_o (by decide), wr_o (by decide)]; exact hW
theorem CSF_o {X : Tx} {c0 c : Mem} {a o i v : Int} (h : CSF X c0 c a) (h1 : 241 ≤ o) (h2 : o ≤ 247) : CSF X c0 (wr c o i v) a := by
  obtain ⟨e9, a0, a1, hf, ho⟩ := h
  refine ⟨by rw [wr_o (by omega)]; exact e9, a0, a1, fun f x => by rw [wr_o (by omega)]; exact hf f x, fun p x y => by rw [wr_o (by omega)]; exact ho p x y⟩
theorem cItem {X : Tx} {c0 c : Mem} {a : Int} {I : List It3} {TL WL : List Q4} {td : Int → Int} {op vb r v p : Int} (h : CS X c0 c a I TL WL td op vb) (hl : I.length < 240) : ∃ c', St_addItem c r v p = some c' ∧ CS X c0 c' a (I ++ [(r, v, p)]) TL WL td op vb := by
  obtain ⟨hF, hI, hT, hW, h1, h2, h3⟩ := h
  have e6 := hI.1
  unfold St_addItem
  rw [if_neg (by rw [e6]; omega), e6, sI_ok (by omega) (by omega), Option.bind_some, wr_o (show ¬ (241 : Int) = 243 by decide), e6, sI_ok (by omega) (by omega), Option.bind_some, wr_o (show ¬ (241 : Int) = 244 by decide), wr_o (show ¬ (241 : Int) = 243 by decide), e6, sI_ok (by omega) (by omega)]
  simp only [Option.bind_some]
  rw [wr_o (show ¬ (241 : Int) = 245 by decide), wr_o (show ¬ (241 : Int) = 244 by decide), wr_o (show ¬ (241 : Int) = 243 by decide), e6, jadd_e (by omega) (by omega)]
  refine ⟨_, rfl, CSF_o (CSF_o (CSF_o (CSF_o hF (by decide) (by decide)) (by decide) (by decide)) (by decide) (by decide)) (by decide) (by decide), ⟨?_, ?_⟩, ?_, ?_, ?_, ?_, ?_⟩
  · rw [wr_eq, List.length_append]; simp
  · intro k x hx
    rcases app1 hx with ⟨k1, k2⟩ | ⟨k1, k2⟩
    · obtain ⟨i1, i2, i3⟩ := hI.2 k x k2
      refine ⟨?_, ?_, ?_⟩
      · rw [wr_o (by decide), wr_o (by decide), wr_o (by decide), wr_f (by omega)]; exact i1
      · rw [wr_o (by decide), wr_o (by decide), wr_f (by omega), wr_o (by decide)]; exact i2
      · rw [wr_o (by decide), wr_f (by omega), wr_o (by decide), wr_o (by decide)]; exact i3
    · subst k1; subst k2
      refine ⟨?_, ?_, ?_⟩
      · rw [wr_o (by decide), wr_o (by decide), wr_o (by decide), wr_eq]
      · rw [wr_o (by decide), wr_o (by decide), wr_eq]
      · rw [wr_o (by decide), wr_eq]
  · unfold QUD; rw [wr_f (by decide), wr_o (by decide), wr_o (by decide), wr_o (by decide), wr_o (by decide), wr_o (by decide), wr_o (by decide), wr_o (by decide)]; exact hT
  · unfold QUD; rw [wr_f (by decide), wr_o (by decide), wr_o (by decide), wr_o (by decide), wr_o (by decide), wr_o (by decide), wr_o (by decide), wr_o (by decide)]; exact hW
  · rw [wr_o (by decide), wr_o (by decide), wr_o (by decide), wr_o (by decide)]; exact h1
  · rw [wr_f (by decide), wr_o (by decide), wr_o (by decide), wr_o (by decide)]; exact h2
  · rw [wr_f (by decide), wr_o (by decide), wr_o (by decide), wr_o (by decide)]; exact h3
theorem quad {c : Mem} {f o : Int} {L : List Q4} {x1 x2 x3 x4 : Int} (ho : ¬ o = 241) (h : QUD c f o L) : QUD (wr (wr (wr (wr (wr c o (4 * L.length) x1) o (4 * L.length + 1) x2) o (4 * L.length + 2) x3) o (4 * L.length + 3) x4) 241 f (L.length + 1)) f o (L ++ [(x1, x2, x3, x4)]) := by
  refine ⟨by rw [wr_eq, List.length_append]; simp, fun k x hx => ?_⟩
  rw [wr_o ho]
  rcases app1 hx with ⟨k1, k2⟩ | ⟨k1, k2⟩
  · refine ⟨?_, ?_, ?_, ?_⟩
    all_goals rw [wr_f (by omega), wr_f (by omega), wr_f (by omega), wr_f (by omega)]
    · exact (h.2 k x k2).1
    · exact (h.2 k x k2).2.1
    · exact (h.2 k x k2).2.2.1
    · exact (h.2 k x k2).2.2.2
  · subst k1; subst k2
    refine ⟨?_, ?_, ?_, wr_eq⟩
    · rw [wr_f (by omega), wr_f (by omega), wr_f (by omega), wr_eq]
    · rw [wr_f (by omega), wr_f (by omega), wr_eq]
    · rw [wr_f (by omega), wr_eq]
theorem cTerm {X : Tx} {c0 c : Mem} {a : Int} {I : List It3} {TL WL : List Q4} {td : Int → Int} {op vb x1 x2 x3 x4 : Int} (h : CS X c0 c a I TL WL td op vb) (hl : TL.length < 120) : ∃ c', St_addTerm c x1 x2 x3 x4 = some c' ∧ CS X c0 c' a I (TL ++ [(x1, x2, x3, x4)]) WL td op vb := by
  obtain ⟨hF, hI, hT, hW, h1, h2, h3⟩ := h
  have e8 := hT.1
  unfold St_addTerm
  rw [if_neg (by rw [e8]; omega), e8, Option.bind_some, jmul_e (by omega) (by omega), jadd_e (by omega) (by omega), jadd_e (by omega) (by omega), jadd_e (by omega) (by omega), sI_ok (by omega) (by omega), Option.bind_some, sI_ok (by omega) (by omega), Option.bind_some, sI_ok (by omega) (by omega), Option.bind_some, sI_ok (by omega) (by omega)]
  simp only [Option.bind_some]
  rw [wr_o (show ¬ (241 : Int) = 246 by decide), wr_o (show ¬ (241 : Int) = 246 by decide), wr_o (show ¬ (241 : Int) = 246 by decide), wr_o (show ¬ (241 : Int) = 246 by decide), e8, jadd_e (by omega) (by omega), show (TL.length : Int) * 4 = 4 * TL.length by omega]
  refine ⟨_, rfl, CSF_o (CSF_o (CSF_o (CSF_o (CSF_o hF (by decide) (by decide)) (by decide) (by decide)) (by decide) (by decide)) (by decide) (by decide)) (by decide) (by decide), ?_, quad (by decide) hT, ?_, ?_, ?_, ?_⟩
  · unfold ITM; rw [wr_f (by decide)]; simp only [wr_o (show ¬ (241 : Int) = 246 by decide), wr_o (show ¬ (243 : Int) = 246 by decide), wr_o (show ¬ (244 : Int) = 246 by decide), wr_o (show ¬ (245 : Int) = 246 by decide), wr_o (show ¬ (243 : Int) = 241 by decide), wr_o (show ¬ (244 : Int) = 241 by decide), wr_o (show ¬ (245 : Int) = 241 by decide)]; exact hI
  · unfold QUD; rw [wr_f (by decide)]; simp only [wr_o (show ¬ (241 : Int) = 246 by decide), wr_o (show ¬ (247 : Int) = 246 by decide), wr_o (show ¬ (247 : Int) = 241 by decide)]; exact hW
  · rw [wr_o (by decide), wr_o (by decide), wr_o (by decide), wr_o (by decide), wr_o (by decide)]; exact h1
  · rw [wr_f (by decide), wr_o (by decide), wr_o (by decide), wr_o (by decide), wr_o (by decide)]; exact h2
  · rw [wr_f (by decide), wr_o (by decide), wr_o (by decide), wr_o (by decide), wr_o (by decide)]; exact h3
theorem cWhat {X : Tx} {c0 c : Mem} {a : Int} {I : List It3} {TL WL : List Q4} {td : Int → Int} {op vb x1 x2 x3 x4 : Int} (h : CS X c0 c a I TL WL td op vb) (hl : WL.length < 120) : ∃ c', St_addWhat c x1 x2 x3 x4 = some c' ∧ CS X c0 c' a I TL (WL ++ [(x1, x2, x3, x4)]) td op vb := by
  obtain ⟨hF, hI, hT, hW, h1, h2, h3⟩ := h
  have e8 := hW.1
  unfold St_addWhat
  rw [if_neg (by rw [e8]; omega), e8, Option.bind_some, jmul_e (by omega) (by omega), jadd_e (by omega) (by omega), jadd_e (by omega) (by omega), jadd_e (by omega) (by omega), sI_ok (by omega) (by omega), Option.bind_some, sI_ok (by omega) (by omega), Option.bind_some, sI_ok (by omega) (by omega), Option.bind_some, sI_ok (by omega) (by omega)]
  simp only [Option.bind_some]
  rw [wr_o (show ¬ (241 : Int) = 247 by decide), wr_o (show ¬ (241 : Int) = 247 by decide), wr_o (show ¬ (241 : Int) = 247 by decide), wr_o (show ¬ (241 : Int) = 247 by decide), e8, jadd_e (by omega) (by omega), show (WL.length : Int) * 4 = 4 * WL.length by omega]
  refine ⟨_, rfl, CSF_o (CSF_o (CSF_o (CSF_o (CSF_o hF (by decide) (by decide)) (by decide) (by decide)) (by decide) (by decide)) (by decide) (by decide)) (by decide) (by decide), ?_, ?_, quad (by decide) hW, ?_, ?_, ?_⟩
  · unfold ITM; rw [wr_f (by decide)]; simp only [wr_o (show ¬ (241 : Int) = 247 by decide), wr_o (show ¬ (243 : Int) = 247 by decide), wr_o (show ¬ (244 : Int) = 247 by decide), wr_o (show ¬ (245 : Int) = 247 by decide), wr_o (show ¬ (243 : Int) = 241 by decide), wr_o (show ¬ (244 : Int) = 241 by decide), wr_o (show ¬ (245 : Int) = 241 by decide)]; exact hI
  · unfold QUD; rw [wr_f (by decide)]; simp only [wr_o (show ¬ (241 : Int) = 247 by decide), wr_o (show ¬ (246 : Int) = 247 by decide), wr_o (show ¬ (246 : Int) = 241 by decide)]; exact hT
  · rw [wr_o (by decide), wr_o (by decide), wr_o (by decide), wr_o (by decide), wr_o (by decide)]; exact h1
  · rw [wr_f (by decide), wr_o (by decide), wr_o (by decide), wr_o (by decide), wr_o (by decide)]; exact h2
  · rw [wr_f (by decide), wr_o (by decide), wr_o (by decide), wr_o (by decide), wr_o (by decide)]; exact h3
theorem cTold {X : Tx} {c0 c : Mem} {a : Int} {I : List It3} {TL WL : List Q4} {td : Int → Int} {op vb j v : Int} (h : CS X c0 c a I TL WL td op vb) (j0 : 0 ≤ j) (j1 : j < 12) : sI c 242 12 j v = some (wr c 242 j v) ∧ CS X c0 (wr c 242 j v) a I TL WL (st1 td j v) op vb := by
  obtain ⟨hF, hI, hT, hW, h1, h2, h3⟩ := h
  refine ⟨sI_ok j0 j1, CSF_o hF (by decide) (by decide), ?_, ?_, ?_, ?_, by rw [wr_o (by decide)]; exact h2, by rw [wr_o (by decide)]; exact h3⟩
  · unfold ITM; rw [wr_o (by decide), wr_o (by decide), wr_o (by decide), wr_o (by decide)]; exact hI
  · unfold QUD; rw [wr_o (by decide), wr_o (by decide)]; exact hT
  · unfold QUD; rw [wr_o (by decide), wr_o (by decide)]; exact hW
  · rw [wr_st1, up_eq, h1]
theorem cOpt {X : Tx} {c0 c : Mem} {a : Int} {I : List It3} {TL WL : List Q4} {td : Int → Int} {op vb v : Int} (h : CS X c0 c a I TL WL td op vb) : CS X c0 (wr c 241 1 v) a I TL WL td v vb := by
  obtain ⟨hF, hI, hT, hW, h1, h2, h3⟩ := h
  refine ⟨CSF_o hF (by decide) (by decide), ?_, ?_, ?_, by rw [wr_o (by decide)]; exact h1, wr_eq, by rw [wr_f (by decide)]; exact h3⟩
  · unfold ITM; rw [wr_f (by decide), wr_o (by decide), wr_o (by decide), wr_o (by decide)]; exact hI
  · unfold QUD; rw [wr_f (by decide), wr_o (by decide)]; exact hT
  · unfold QUD; rw [wr_f (by decide), wr_o (by decide)]; exact hW
theorem cVerb {X : Tx} {c0 c : Mem} {a : Int} {I : List It3} {TL WL : List Q4} {td : Int → Int} {op vb v : Int} (h : CS X c0 c a I TL WL td op vb) : CS X c0 (wr c 241 0 v) a I TL WL td op v := by
  obtain ⟨hF, hI, hT, hW, h1, h2, h3⟩ := h
  refine ⟨CSF_o hF (by decide) (by decide), ?_, ?_, ?_, by rw [wr_o (by decide)]; exact h1, by rw [wr_f (by decide)]; exact h2, wr_eq⟩
  · unfold ITM; rw [wr_f (by decide), wr_o (by decide), wr_o (by decide), wr_o (by decide)]; exact hI
  · unfold QUD; rw [wr_f (by decide), wr_o (by decide)]; exact hT
  · unfold QUD; rw [wr_f (by decide), wr_o (by decide)]; exact hW
-- steps of both
theorem pY {X : Tx} {c0 m0 c : Mem} {a x : Int} {I : List It3} {TL WL : List Q4} {td : Int → Int} {op vb : Int} (hX : XO X m0) (hc : CXO X c0) (h : CS X c0 c a I TL WL td op vb) (hx : TT X a = x) (hs : ¬ stp3 x) : Rd_pass c x = some (1, wr c 250 9 (a + 1)) ∧ CS X c0 (wr c 250 9 (a + 1)) (a + 1) I TL WL td op vb := by
  obtain ⟨g1, g2⟩ := hX.go h.1.2.1 h.1.2.2.1 (by rw [hx]; exact hs)
  have a0 := h.1.2.1
  refine ⟨?_, CS_at h (by omega) g1⟩
  unfold Rd_pass
  rw [cA0 h.1 hc, Option.bind_some, if_pos hx, Option.bind_some, h.1.1, jadd_e (by omega) (by omega)]
theorem pN {X : Tx} {c0 c : Mem} {a x : Int} (hc : CXO X c0) (h : CSF X c0 c a) (hx : ¬ TT X a = x) : Rd_pass c x = some (0, c) := by
  unfold Rd_pass
  rw [cA0 h hc, Option.bind_some, if_neg hx]
theorem nY {X : Tx} {c0 m0 c : Mem} {a r : Int} {I : List It3} {TL WL : List Q4} {td : Int → Int} {op vb : Int} (hX : XO X m0) (hc : CXO X c0) (h : CS X c0 c a I TL WL td op vb) (hx : TT X a = 75) (hl : I.length < 240) : ∃ c', Rd_passNumber c r = some (1, c') ∧ CS X c0 c' (a + 1) (I ++ [(r, Vx X a, Px X a)]) TL WL td op vb ∧ Rd_latestNumber c' = some (Vx X a) := by
  obtain ⟨g1, g2⟩ := hX.go h.1.2.1 h.1.2.2.1 (by rw [hx]; unfold stp3; omega)
  have a0 := h.1.2.1
  obtain ⟨t1, t2, t3⟩ := h.1.tok hc a a0 h.1.2.2.1
  have hb := hc.2.2
  obtain ⟨c', e, h'⟩ := cItem (r := r) (v := Vx X a) (p := Px X a) h hl
  refine ⟨wr c' 250 9 (a + 1), ?_, CS_at h' (by omega) g1, ?_⟩
  · unfold Rd_passNumber
    rw [cA0 h.1 hc, Option.bind_some, if_pos hx, h.1.1, aI_ok a0 (by omega), Option.bind_some, aI_ok a0 (by omega), Option.bind_some, t2, t3 hx, e, Option.bind_some, Option.bind_some, h'.1.1, jadd_e (by omega) (by omega)]
  · obtain ⟨v, e1, e2⟩ := cLt (CS_at h' (b := a + 1) (by omega) g1).1 hc
    rw [e1, e2 (by omega) (by rw [show a + 1 - 1 = a by omega]; exact hx), show a + 1 - 1 = a by omega]
theorem nN {X : Tx} {c0 c : Mem} {a r : Int} (hc : CXO X c0) (h : CSF X c0 c a) (hx : ¬ TT X a = 75) : Rd_passNumber c r = some (0, c) := by
  unfold Rd_passNumber
  rw [cA0 h hc, Option.bind_some, if_neg hx]
theorem tY {X : Tx} {c0 m0 c : Mem} {a r j : Int} {I : List It3} {TL WL : List Q4} {td : Int → Int} {op vb : Int} (hX : XO X m0) (hc : CXO X c0) (h : CS X c0 c a I TL WL td op vb) (hx : TT X a = 75) (hl : I.length < 240) (j0 : 0 ≤ j) (j1 : j < 12) : ∃ c', Rd_tellNumber c j r = some (1, c') ∧ CS X c0 c' (a + 1) (I ++ [(r, Vx X a, Px X a)]) TL WL (st1 td j (Vx X a)) op vb := by
  obtain ⟨c1, e1, h1, l1⟩ := nY (r := r) hX hc h hx hl
  obtain ⟨e2, h2⟩ := cTold (j := j) (v := Vx X a) h1 j0 j1
  refine ⟨_, ?_, h2⟩
  unfold Rd_tellNumber
  rw [e1, Option.bind_some]
  simp only []
  rw [if_pos (by decide), l1, Option.bind_some, e2, Option.bind_some]
theorem tN {X : Tx} {c0 c : Mem} {a r j : Int} (hc : CXO X c0) (h : CSF X c0 c a) (hx : ¬ TT X a = 75) : Rd_tellNumber c j r = some (0, c) := by
  unfold Rd_tellNumber
  rw [nN hc h hx, Option.bind_some]
  simp only []
  rw [if_neg (by decide)]
theorem wY {X : Tx} {c0 m0 c : Mem} {a j lo n : Int} {I : List It3} {TL WL : List Q4} {td : Int → Int} {op vb : Int} (hX : XO X m0) (hc : CXO X c0) (h : CS X c0 c a I TL WL td op vb) (hx : lo ≤ TT X a ∧ TT X a < lo + n) (lo0 : 0 ≤ lo) (hn : lo + n ≤ 70) (j0 : 0 ≤ j) (j1 : j < 12) : ∃ c', Rd_tellWord c j lo n = some (1, c') ∧ CS X c0 c' (a + 1) I TL WL (st1 td j (TT X a - lo)) op vb := by
  obtain ⟨g1, g2⟩ := hX.go h.1.2.1 h.1.2.2.1 (by unfold stp3; omega)
  have a0 := h.1.2.1
  obtain ⟨e2, h2⟩ := cTold (j := j) (v := TT X a - lo) h j0 j1
  refine ⟨_, ?_, CS_at h2 (b := a + 1) (by omega) g1⟩
  unfold Rd_tellWord
  rw [cA0 h.1 hc, Option.bind_some, Option.bind_some, jsub_e (by omega) (by omega), if_neg (by omega), if_pos (by omega), e2, Option.bind_some, Option.bind_some, h2.1.1, jadd_e (by omega) (by omega)]
theorem wN {X : Tx} {c0 m0 c : Mem} {a j lo n : Int} (hX : XO X m0) (hc : CXO X c0) (h : CSF X c0 c a) (hx : ¬ (lo ≤ TT X a ∧ TT X a < lo + n)) (lo0 : 0 ≤ lo) (hn : lo + n ≤ 70) (n0 : 0 ≤ n) : Rd_tellWord c j lo n = some (0, c) := by
  have tr : 0 ≤ TT X a ∧ TT X a ≤ 77 := by
    by_cases z : a < 120
    · have := TT_c hX h.2.1 h.2.2.1 z
      omega
    · unfold TT; rw [if_neg (fun x => by omega)]; decide
  unfold Rd_tellWord
  rw [cA0 h hc, Option.bind_some, Option.bind_some, jsub_e (by omega) (by omega)]
  by_cases z : TT X a - lo < 0
  · rw [if_pos z]
  · rw [if_neg z, if_neg (by omega)]
theorem oY {X : Tx} {c0 m0 c : Mem} {a x : Int} {I : List It3} {TL WL : List Q4} {td : Int → Int} {op vb : Int} (hX : XO X m0) (hc : CXO X c0) (h : CS X c0 c a I TL WL td op vb) (hx : TT X a = x) (hs : ¬ stp3 x) : ∃ c', Rd_passOption c x = some (1, c') ∧ CS X c0 c' (a + 1) I TL WL td x vb := by
  obtain ⟨e1, h1⟩ := pY hX hc h hx hs
  refine ⟨_, ?_, cOpt h1⟩
  unfold Rd_passOption
  rw [e1, Option.bind_some]
  simp only []
  rw [if_pos (by decide), Option.bind_some]
theorem oN {X : Tx} {c0 c : Mem} {a x : Int} (hc : CXO X c0) (h : CSF X c0 c a) (hx : ¬ TT X a = x) : Rd_passOption c x = some (0, c) := by
  unfold Rd_passOption
  rw [pN hc h hx, Option.bind_some]
  simp only []
  rw [if_neg (by decide)]
theorem mNumY {X : Tx} {m0 m : Mem} {a : Int} (hX : XO X m0) (h : MST X m0 m a) (a1 : a < X.2.2.2) (hx : TT X a = 75) : ∃ m', M_number m = some m' ∧ MST X m0 m' (a + 1) := by
  obtain ⟨m', e, h', _⟩ := mnext hX h a1 (by rw [hx]; unfold stp3; omega)
  refine ⟨m', ?_, h'⟩
  unfold M_number M_need
  rw [isNm hX h a1, if_pos hx, Option.bind_some, if_neg (by decide), e, Option.bind_some, Option.bind_some]
theorem mNumN {X : Tx} {m0 m : Mem} {a : Int} (hX : XO X m0) (h : MST X m0 m a) (a1 : a < X.2.2.2) (hx : ¬ TT X a = 75) : ∃ m', M_number m = some m' ∧ MB m0 m' (Px X a) := by
  obtain ⟨m', e, h'⟩ := mfail h
  refine ⟨m', ?_, h'⟩
  unfold M_number M_need
  rw [isNm hX h a1, if_neg hx, Option.bind_some, if_pos rfl, e, Option.bind_some, Option.bind_some]
theorem mWordY {X : Tx} {m0 m : Mem} {a w x : Int} (hX : XO X m0) (h : MST X m0 m a) (a1 : a < X.2.2.2) (w0 : 0 ≤ w) (w1 : w < 70) (hw : tbl piT w = x) (hx : TT X a = x) : ∃ m', M_word m w = some m' ∧ MST X m0 m' (a + 1) := by
  obtain ⟨d1, d2, _⟩ := wd_x w0 w1
  obtain ⟨m', e, h', _⟩ := mnext hX h a1 (by unfold stp3; omega)
  refine ⟨m', ?_, h'⟩
  unfold M_word M_need
  rw [isW hX h a1 w0 w1, hw, if_pos hx, Option.bind_some, if_neg (by decide), e, Option.bind_some, Option.bind_some]
theorem mWordN {X : Tx} {m0 m : Mem} {a w x : Int} (hX : XO X m0) (h : MST X m0 m a) (a1 : a < X.2.2.2) (w0 : 0 ≤ w) (w1 : w < 70) (hw : tbl piT w = x) (hx : ¬ TT X a = x) : ∃ m', M_word m w = some m' ∧ MB m0 m' (Px X a) := by
  obtain ⟨m', e, h'⟩ := mfail h
  refine ⟨m', ?_, h'⟩
  unfold M_word M_need
  rw [isW hX h a1 w0 w1, hw, if_neg hx, Option.bind_some, if_pos rfl, e, Option.bind_some, Option.bind_some]
theorem mSignY {X : Tx} {m0 m : Mem} {a ch sc : Int} (hX : XO X m0) (h : MST X m0 m a) (a1 : a < X.2.2.2) (hs : ch = 43 ∧ sc = 71 ∨ ch = 45 ∧ sc = 72 ∨ ch = 61 ∧ sc = 73 ∨ ch = 64 ∧ sc = 74) (hx : TT X a = sc) : ∃ m', M_sign m ch = some m' ∧ MST X m0 m' (a + 1) := by
  obtain ⟨m', e, h', _⟩ := mnext hX h a1 (by unfold stp3; omega)
  refine ⟨m', ?_, h'⟩
  unfold M_sign M_need
  rw [isSg hX h a1 (sc := sc) (by omega), if_pos hx, Option.bind_some, if_neg (by decide), e, Option.bind_some, Option.bind_some]
theorem mSignN {X : Tx} {m0 m : Mem} {a ch sc : Int} (hX : XO X m0) (h : MST X m0 m a) (a1 : a < X.2.2.2) (hs : ch = 43 ∧ sc = 71 ∨ ch = 45 ∧ sc = 72 ∨ ch = 61 ∧ sc = 73 ∨ ch = 64 ∧ sc = 74) (hx : ¬ TT X a = sc) : ∃ m', M_sign m ch = some m' ∧ MB m0 m' (Px X a) := by
  obtain ⟨m', e, h'⟩ := mfail h
  refine ⟨m', ?_, h'⟩
  unfold M_sign M_need
  rw [isSg hX h a1 (sc := sc) (by omega), if_neg hx, Option.bind_some, if_pos rfl, e, Option.bind_some, Option.bind_some]
