-- L3: enter: reading in sequence
theorem relSeq {X : Tx} {c0 m0 : Mem} {D : Option (Int × Mem)} {M : Option Mem} {Q1 Q : Mem → Int → Prop} {kD : Int × Mem → Option (Int × Mem)} {kM : Mem → Option Mem} (h : REL X c0 m0 D M Q1) (h2 : ∀ c m e, Q1 c e → MST X m0 m e → REL X c0 m0 (kD (1, c)) (kM m) Q) (hb : ∀ m, m 259 19 = 1 → kM m = some m) : REL X c0 m0 (D.bind fun p => if p.1 = 0 then some (0, p.2) else kD p) (M.bind kM) Q := by
  rcases h with ⟨c', m', e, e1, e2, hq, hm⟩ | ⟨c', m', f, e1, e2, hF, hB⟩
  · rw [e1, e2, Option.bind_some, Option.bind_some, if_neg (show ¬ (1 : Int) = 0 by decide)]
    exact h2 c' m' e hq hm
  · rw [e1, e2, Option.bind_some, Option.bind_some, if_pos (show (0 : Int) = 0 from rfl), hb m' hB.1]
    exact Or.inr ⟨c', m', f, rfl, rfl, hF, hB⟩
theorem relSeqN {X : Tx} {c0 m0 : Mem} {D : Option (Int × Mem)} {M : Option Mem} {Q1 Q : Mem → Int → Prop} {kD : Int × Mem → Option (Int × Mem)} {kM : Mem → Option Mem} (h : REL X c0 m0 D M Q1) (h2 : ∀ c m e, Q1 c e → MST X m0 m e → REL X c0 m0 (kD (1, c)) (kM m) Q) (hb : ∀ m, m 259 19 = 1 → kM m = some m) : REL X c0 m0 (D.bind fun p => if p.1 ≠ 0 then kD p else some (0, p.2)) (M.bind kM) Q := by
  rcases h with ⟨c', m', e, e1, e2, hq, hm⟩ | ⟨c', m', f, e1, e2, hF, hB⟩
  · rw [e1, e2, Option.bind_some, Option.bind_some, if_pos (show (1 : Int) ≠ 0 by decide)]
    exact h2 c' m' e hq hm
  · rw [e1, e2, Option.bind_some, Option.bind_some, if_neg (show ¬ (0 : Int) ≠ 0 by decide), hb m' hB.1]
    exact Or.inr ⟨c', m', f, rfl, rfl, hF, hB⟩
theorem relEnd {X : Tx} {c0 m0 : Mem} {D : Option (Int × Mem)} {M : Option Mem} {Q : Mem → Int → Prop} (h : REL X c0 m0 D M Q) : REL X c0 m0 (D.bind fun p => if p.1 = 0 then some (0, p.2) else some (1, p.2)) M Q := by
  rcases h with ⟨c', m', e, e1, e2, hq, hm⟩ | ⟨c', m', f, e1, e2, hF, hB⟩
  · rw [e1, Option.bind_some, if_neg (show ¬ (1 : Int) = 0 by decide)]
    exact Or.inl ⟨c', m', e, rfl, e2, hq, hm⟩
  · rw [e1, Option.bind_some, if_pos (show (0 : Int) = 0 from rfl)]
    exact Or.inr ⟨c', m', f, rfl, e2, hF, hB⟩
theorem relEnd2 {X : Tx} {c0 m0 : Mem} {D : Option (Int × Mem)} {M : Option Mem} {Q : Mem → Int → Prop} (h : REL X c0 m0 D M Q) : REL X c0 m0 (D.bind fun p => if p.1 = 0 ∨ p.1 = 1 then some (p.1, p.2) else none) M Q := by
  rcases h with ⟨c', m', e, e1, e2, hq, hm⟩ | ⟨c', m', f, e1, e2, hF, hB⟩
  · rw [e1, Option.bind_some, if_pos (show (1 : Int) = 0 ∨ (1 : Int) = 1 from Or.inr rfl)]
    exact Or.inl ⟨c', m', e, rfl, e2, hq, hm⟩
  · rw [e1, Option.bind_some, if_pos (show (0 : Int) = 0 ∨ (0 : Int) = 1 from Or.inl rfl)]
    exact Or.inr ⟨c', m', f, rfl, e2, hF, hB⟩
theorem relM {X : Tx} {c0 m0 : Mem} {D : Option (Int × Mem)} {M : Option Mem} {Q : Mem → Int → Prop} (h : REL X c0 m0 D M Q) : REL X c0 m0 D (M.bind fun m => some m) Q := by
  have e : (M.bind fun m => some m) = M := by cases M <;> rfl
  rw [e]; exact h
theorem relQ {X : Tx} {c0 m0 : Mem} {D : Option (Int × Mem)} {M : Option Mem} {Q1 Q : Mem → Int → Prop} (h : REL X c0 m0 D M Q1) (hq : ∀ c e, Q1 c e → Q c e) : REL X c0 m0 D M Q := by
  rcases h with ⟨c', m', e, e1, e2, h1, hm⟩ | h
  · exact Or.inl ⟨c', m', e, e1, e2, hq _ _ h1, hm⟩
  · exact Or.inr h
theorem relOk {X : Tx} {c0 m0 c m : Mem} {a : Int} {Q : Mem → Int → Prop} (hq : Q c a) (hm : MST X m0 m a) : REL X c0 m0 (some (1, c)) (some m) Q := Or.inl ⟨c, m, a, rfl, rfl, hq, hm⟩
theorem relNum {X : Tx} {c0 m0 c m : Mem} {a j r : Int} {I : List It3} {TL WL : List Q4} {td : Int → Int} {op vb : Int} (hX : XO X m0) (hc : CXO X c0) (h : CS X c0 c a I TL WL td op vb) (hm : MST X m0 m a) (hl : I.length < 240) (j0 : 0 ≤ j) (j1 : j < 12) : REL X c0 m0 (Rd_tellNumber c j r) (M_number m) (fun c' e => e = a + 1 ∧ TT X a = 75 ∧ CS X c0 c' e (I ++ [(r, Vx X a, Px X a)]) TL WL (st1 td j (Vx X a)) op vb) := by
  by_cases z : TT X a = 75
  · obtain ⟨c', e1, h1⟩ := tY (r := r) (j := j) hX hc h z hl j0 j1
    obtain ⟨m', e2, hm'⟩ := mNumY hX hm h.1.2.2.1 z
    exact Or.inl ⟨c', m', a + 1, e1, e2, ⟨rfl, z, h1⟩, hm'⟩
  · obtain ⟨m', e2, hm'⟩ := mNumN hX hm h.1.2.2.1 z
    exact Or.inr ⟨c, m', a, tN hc h.1 z, e2, h.1, hm'⟩
theorem relWord {X : Tx} {c0 m0 c m : Mem} {a w x : Int} {I : List It3} {TL WL : List Q4} {td : Int → Int} {op vb : Int} (hX : XO X m0) (hc : CXO X c0) (h : CS X c0 c a I TL WL td op vb) (hm : MST X m0 m a) (w0 : 0 ≤ w) (w1 : w < 70) (hw : tbl piT w = x) : REL X c0 m0 (Rd_pass c x) (M_word m w) (fun c' e => e = a + 1 ∧ TT X a = x ∧ CS X c0 c' e I TL WL td op vb) := by
  obtain ⟨d1, d2, _⟩ := wd_x w0 w1
  by_cases z : TT X a = x
  · obtain ⟨e1, h1⟩ := pY hX hc h z (by unfold stp3; omega)
    obtain ⟨m', e2, hm'⟩ := mWordY hX hm h.1.2.2.1 w0 w1 hw z
    exact Or.inl ⟨_, m', a + 1, e1, e2, ⟨rfl, z, h1⟩, hm'⟩
  · obtain ⟨m', e2, hm'⟩ := mWordN hX hm h.1.2.2.1 w0 w1 hw z
    exact Or.inr ⟨c, m', a, pN hc h.1 z, e2, h.1, hm'⟩
theorem relSign {X : Tx} {c0 m0 c m : Mem} {a ch sc : Int} {I : List It3} {TL WL : List Q4} {td : Int → Int} {op vb : Int} (hX : XO X m0) (hc : CXO X c0) (h : CS X c0 c a I TL WL td op vb) (hm : MST X m0 m a) (hs : ch = 43 ∧ sc = 71 ∨ ch = 45 ∧ sc = 72 ∨ ch = 61 ∧ sc = 73 ∨ ch = 64 ∧ sc = 74) : REL X c0 m0 (Rd_pass c sc) (M_sign m ch) (fun c' e => e = a + 1 ∧ TT X a = sc ∧ CS X c0 c' e I TL WL td op vb) := by
  by_cases z : TT X a = sc
  · obtain ⟨e1, h1⟩ := pY hX hc h z (by unfold stp3; omega)
    obtain ⟨m', e2, hm'⟩ := mSignY hX hm h.1.2.2.1 hs z
    exact Or.inl ⟨_, m', a + 1, e1, e2, ⟨rfl, z, h1⟩, hm'⟩
  · obtain ⟨m', e2, hm'⟩ := mSignN hX hm h.1.2.2.1 hs z
    exact Or.inr ⟨c, m', a, pN hc h.1 z, e2, h.1, hm'⟩
/-- a word of a range, told by the class, needed by the model -/
theorem relRange {X : Tx} {c0 m0 c m : Mem} {a j lo n mlo mhi : Int} {I : List It3} {TL WL : List Q4} {td : Int → Int} {op vb : Int} (hX : XO X m0) (hc : CXO X c0) (h : CS X c0 c a I TL WL td op vb) (hm : MST X m0 m a) (lo0 : 0 ≤ lo) (hn : lo + n ≤ 70) (n0 : 0 ≤ n) (j0 : 0 ≤ j) (j1 : j < 12) (hr : ∀ w ∈ List.range 70, (mlo ≤ (w : Int) ∧ (w : Int) ≤ mhi) ↔ (lo ≤ tbl piT (w : Int) ∧ tbl piT (w : Int) ≤ lo + n - 1)) : REL X c0 m0 (Rd_tellWord c j lo n) ((M_isWordIn m mlo mhi).bind fun x => M_need m x) (fun c' e => e = a + 1 ∧ (lo ≤ TT X a ∧ TT X a < lo + n) ∧ CS X c0 c' e I TL WL (st1 td j (TT X a - lo)) op vb) := by
  have a1 := h.1.2.2.1
  rw [isWi hX hm a1 (by omega) hr, Option.bind_some]
  unfold M_need
  by_cases z : lo ≤ TT X a ∧ TT X a < lo + n
  · obtain ⟨c', e1, h1⟩ := wY (j := j) hX hc h z lo0 hn j0 j1
    obtain ⟨m', e2, hm', _⟩ := mnext hX hm a1 (by unfold stp3; omega)
    rw [if_pos (show lo ≤ TT X a ∧ TT X a ≤ lo + n - 1 by omega), if_neg (by decide), e2, Option.bind_some]
    exact Or.inl ⟨c', m', a + 1, e1, rfl, ⟨rfl, z, h1⟩, hm'⟩
  · obtain ⟨m', e2, hm'⟩ := mfail hm
    rw [if_neg (show ¬ (lo ≤ TT X a ∧ TT X a ≤ lo + n - 1) by omega), if_pos rfl, e2, Option.bind_some]
    exact Or.inr ⟨c, m', a, wN hX hc h.1 z lo0 hn n0, rfl, h.1, hm'⟩
/-- an option's word: the class passes it where the model goes on -/
theorem optY {X : Tx} {c0 m0 c m : Mem} {a w x : Int} {I : List It3} {TL WL : List Q4} {td : Int → Int} {op vb : Int} (hX : XO X m0) (hc : CXO X c0) (h : CS X c0 c a I TL WL td op vb) (hm : MST X m0 m a) (w0 : 0 ≤ w) (w1 : w < 70) (hw : tbl piT w = x) (z : TT X a = x) : ∃ c' m', Rd_passOption c x = some (1, c') ∧ M_isWord m w = some 1 ∧ M_next m = some m' ∧ CS X c0 c' (a + 1) I TL WL td x vb ∧ MST X m0 m' (a + 1) := by
  obtain ⟨d1, d2, _⟩ := wd_x w0 w1
  obtain ⟨c', e1, h1⟩ := oY hX hc h z (by unfold stp3; omega)
  obtain ⟨m', e2, hm', _⟩ := mnext hX hm h.1.2.2.1 (by unfold stp3; omega)
  refine ⟨c', m', e1, ?_, e2, h1, hm'⟩
  rw [isW hX hm h.1.2.2.1 w0 w1, hw, if_pos z]
theorem optN {X : Tx} {c0 m0 c m : Mem} {a w x : Int} (hX : XO X m0) (hc : CXO X c0) (h : CSF X c0 c a) (hm : MST X m0 m a) (w0 : 0 ≤ w) (w1 : w < 70) (hw : tbl piT w = x) (z : ¬ TT X a = x) : Rd_passOption c x = some (0, c) ∧ M_isWord m w = some 0 := by
  refine ⟨oN hc h z, ?_⟩
  rw [isW hX hm h.2.2.1 w0 w1, hw, if_neg z]
