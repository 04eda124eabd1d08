-- L3: taking and following
theorem take_op {B : Int} {c m : Mem} (h : INV B c m) {ix at_ : Int} (i0 : 0 ≤ ix) (i1 : ix < c 3 8) : ∃ c' m', Pl_take c ix at_ = some c' ∧ M_take m (c (c 79 ix) 0) at_ = some m' ∧ INV B c' m' ∧ m' 264 = m 264 ∧ m' 259 29 = c (c 79 ix) 0 := by
  obtain ⟨k1, k2, k3, k4, k5, k6, k7, k8⟩ := h.p.K
  obtain ⟨q1, q2, q3, q4, q5, q6, q7, q8⟩ := h.p.C
  have hT : TK c (m 264) ix := ⟨h.s, h.w, h.kc, h.o, i0, i1⟩
  obtain ⟨r0, r1, r2, r3, _⟩ := S3.row h.s h.w.n i0 i1
  have hnr := (h.w.c _ r0 r1).2.1
  rw [r3] at hnr
  have hd := Pl_take_e (at_ := at_) hT
  have hM := M_take_e (at_ := at_) h.km h.w (jadd_e (by omega) (by omega) |>.trans (Int.add_zero _)) r0
  have hp1 : PR B (wr (wr c 221 3 (c (c 79 ix) 0)) 221 4 (c 221 2)) (wr (wr m 259 29 (c (c 79 ix) 0)) 259 30 (m 259 28)) := by
    refine ⟨?_, ?_, ?_, ?_, ?_⟩
    · intro i a b; rw [wr_o (by decide), wr_o (by decide), wr_o (by decide), wr_o (by decide)]; exact h.p.G i a b
    · intro i a b
      have e1 : wr (wr c 221 3 (c (c 79 ix) 0)) 221 4 (c 221 2) 223 = c 223 := by rw [wr_o (by decide), wr_o (by decide)]
      have e2 : ∀ o, ¬ o = 259 → wr (wr m 259 29 (c (c 79 ix) 0)) 259 30 (m 259 28) o = m o := fun o x => by rw [wr_o x, wr_o x]
      rw [e1, e2 273 (by decide), e2 274 (by decide), e2 275 (by decide), wr_f (by decide), wr_f (by decide)]; exact h.p.F i a b
    · intro i a b
      have e1 : ∀ o, ¬ o = 221 → wr (wr c 221 3 (c (c 79 ix) 0)) 221 4 (c 221 2) o = c o := fun o x => by rw [wr_o x, wr_o x]
      have e2 : ∀ o, ¬ o = 259 → wr (wr m 259 29 (c (c 79 ix) 0)) 259 30 (m 259 28) o = m o := fun o x => by rw [wr_o x, wr_o x]
      rw [e1 224 (by decide), e1 225 (by decide), e2 274 (by decide), e2 275 (by decide)]; exact h.p.T i a b
    · unfold PR_K
      rw [wr_f (by decide), wr_f (by decide), wr_f (by decide), wr_f (by decide), wr_f (by decide), wr_f (by decide), wr_f (by decide), wr_f (by decide)]; exact h.p.K
    · unfold PR_C
      have x1 : wr (wr c 221 3 (c (c 79 ix) 0)) 221 4 (c 221 2) 221 3 = c (c 79 ix) 0 := by rw [wr_f (by decide), wr_eq]
      have x2 : wr (wr m 259 29 (c (c 79 ix) 0)) 259 30 (m 259 28) 259 29 = c (c 79 ix) 0 := by rw [wr_f (by decide), wr_eq]
      have x3 : wr (wr c 221 3 (c (c 79 ix) 0)) 221 4 (c 221 2) 221 5 = c 221 5 := by rw [wr_f (by decide), wr_f (by decide)]
      have x4 : wr (wr m 259 29 (c (c 79 ix) 0)) 259 30 (m 259 28) 259 31 = m 259 31 := by rw [wr_f (by decide), wr_f (by decide)]
      rw [x1, x2, x3, x4, wr_eq, wr_eq]
      exact ⟨rfl, by omega, by omega, by omega, by omega, by omega, q7, q8⟩
  have hc2 : ∀ o, ¬ o = 221 → wr (wr c 221 3 (c (c 79 ix) 0)) 221 4 (c 221 2) o = c o := fun o x => by rw [wr_o x, wr_o x]
  have hm2 : (wr (wr m 259 29 (c (c 79 ix) 0)) 259 30 (m 259 28)) 259 28 = m 259 28 := by rw [wr_f (by decide), wr_f (by decide)]
  have hc3 : (wr (wr c 221 3 (c (c 79 ix) 0)) 221 4 (c 221 2)) 221 2 = c 221 2 := by rw [wr_f (by decide), wr_f (by decide)]
  have hcc : ∀ o, 130 ≤ o → o < 220 → (wr (wr c 221 3 (c (c 79 ix) 0)) 221 4 (c 221 2)) o = c o := fun o a b => hc2 o (by omega)
  have hn30 := S3.n h.s
  obtain ⟨z0, z1, _⟩ := cq_k h.s i0 (by omega)
  have pk := tk_PR (n := c (c 79 ix) 0) (at_ := at_) h.w hp1 r0 r1 (by omega) 360 (by omega)
  rw [hm2] at pk
  have hmo : ∀ o, ¬ o = 259 → ¬ (272 ≤ o ∧ o ≤ 275) → ∀ k : Nat, (itr (tkS 272 273 274 275 (m 259 28) (m 264) (c (c 79 ix) 0) at_ (rowOf (m 264) (c (c 79 ix) 0))) (wr (wr m 259 29 (c (c 79 ix) 0)) 259 30 (m 259 28), 0) k).1 o = m o := by
    intro o ho1 ho2 k
    induction k with
    | zero => show wr (wr m 259 29 (c (c 79 ix) 0)) 259 30 (m 259 28) o = m o; rw [wr_o ho1, wr_o ho1]
    | succ k ih => rw [← ih]; exact tkm_o (by omega) (by omega) (by omega) (by omega)
  refine ⟨_, _, hd, hM, ?_, hmo 264 (by decide) (by decide) 360, by rw [pk.2.2.2, wr_f (by decide), wr_eq]⟩
  refine INVp h (un_Pl_take hd UN.refl) (um_M_take hM UM.refl) ?_ ?_ ?_ ?_
  · intro o ho
    rw [SC_o 360 o (by omega), hc2 o (by omega)]
  · intro o ho1 ho2
    exact hmo o ho1 ho2 360
  · intro f hf
    rw [pk.2.2.2, wr_f (by omega), wr_f (by omega)]
  · have e : SC (wr (wr c 221 3 (c (c 79 ix) 0)) 221 4 (c 221 2)) (m 264) ix at_ 360 = itr (tkS 222 223 224 225 ((wr (wr c 221 3 (c (c 79 ix) 0)) 221 4 (c 221 2)) 221 2) (m 264) (c (c 79 ix) 0) at_ (rowOf (m 264) (c (c 79 ix) 0))) (wr (wr c 221 3 (c (c 79 ix) 0)) 221 4 (c 221 2), 0) 360 := by
      unfold SC
      rw [hc2 79 (by decide), hcc _ z0 z1]
    rw [e]
    exact pk.1
/-- the next cue, in the class and in the model -/
def NX (c : Mem) (ix n : Int) : Prop := (ix = -1 ∧ n = 0) ∨ (0 ≤ ix ∧ ix < c 3 8 ∧ n = c (c 79 ix) 0)
theorem NX_above {B : Int} {c m : Mem} (h : INV B c m) : ∃ ix, Pl_nextIndex_55 c = some ix ∧ NX c ix (above (m 264) (m 259 29)) := by
  obtain ⟨q1, q2, _⟩ := h.p.C
  obtain ⟨e, k0, k1, _, _⟩ := cna_s h.s (m 259 29)
  unfold Pl_nextIndex_55
  rw [q1, e, Option.bind_some, above_c h.s h.w.n _ q2]
  by_cases z : cna c (m 259 29) < c 3 8
  · rw [if_neg (show ¬ c 3 8 ≤ cna c (m 259 29) by omega), if_pos z]
    exact ⟨_, rfl, Or.inr ⟨k0, z, rfl⟩⟩
  · rw [if_pos (show c 3 8 ≤ cna c (m 259 29) by omega), if_neg z]
    exact ⟨_, rfl, Or.inl ⟨rfl, rfl⟩⟩
theorem next_op {B : Int} {c m : Mem} (h : INV B c m) : ∃ ix n, Pl_nextIndex c = some ix ∧ M_nextTo m (m 259 29) = some n ∧ NX c ix n := by
  obtain ⟨q1, q2, _⟩ := h.p.C
  obtain ⟨ia, ea, na⟩ := NX_above h
  have hN := S3.n h.s
  unfold Pl_nextIndex M_nextTo Pl_nextIndex_48 M_nextTo_30
  have e47 : M_nextTo_47 m (m 259 29) = some (above (m 264) (m 259 29)) := by unfold M_nextTo_47; rw [M_numberAbove_e]; rfl
  rw [ea, q1, cix_e h.s, M_cueRow_e, Option.bind_some, Option.bind_some, e47]
  by_cases z : cix c (m 259 29) < 0
  · have zr : rowOf (m 264) (m 259 29) < 0 := by
      by_cases z2 : 0 < m 259 29
      · exact (cix_row h.s h.w.n _ z2).mp z
      · rcases rowOf_s (m 264) (m 259 29) with ⟨r, _⟩ | ⟨_, _, r, _⟩ <;> omega
    rw [if_pos z, if_neg (show ¬ 0 ≤ rowOf (m 264) (m 259 29) by omega), if_pos (by decide)]
    exact ⟨_, _, rfl, rfl, na⟩
  · rcases cix_s h.s (m 259 29) with ⟨e, _⟩ | ⟨e0, e1, e2, _⟩
    · omega
    · obtain ⟨r0, r1, r2, r3, r4, r5⟩ := S3.row h.s h.w.n e0 e1
      rw [e2] at r0 r1 r2 r3 r4 r5
      have rl := ((h.w.c _ r0 r1).2.2 (by omega)).2.2.2.1
      rw [if_neg z, if_pos r0, aI_ok e0 (by omega), Option.bind_some, cq_g1 h.s h.o e0 (by omega), Option.bind_some, cq_r1 h.s e0 (by omega) (by omega) (by omega), Option.bind_some, r4 5 (by omega) (by omega), jmul_e (by omega) (by omega), jadd_e (x := 1352) (by omega) (by omega), jadd_e (x := 1352 + 7 * rowOf (m 264) (m 259 29)) (by omega) (by omega), aI_ok (by omega) (by omega), Option.bind_some, show 1353 + 7 * rowOf (m 264) (m 259 29) + 5 = 1358 + 7 * rowOf (m 264) (m 259 29) by omega, show 1352 + 7 * rowOf (m 264) (m 259 29) + 6 = 1358 + 7 * rowOf (m 264) (m 259 29) by omega]
      generalize m 264 (1358 + 7 * rowOf (m 264) (m 259 29)) = lk at *
      rcases rl with rl | rl
      · rw [if_neg (show ¬ lk ≠ -1 from fun x => x rl), if_pos (by decide), if_pos (show lk ≤ 0 by omega)]
        exact ⟨_, _, rfl, rfl, na⟩
      · rw [if_pos (show lk ≠ -1 by omega), if_neg (show ¬ lk ≤ 0 by omega), cix_e h.s, Option.bind_some, M_cueRow_e, Option.bind_some]
        have hx := cix_row h.s h.w.n lk (by omega)
        by_cases z4 : cix c lk < 0
        · rw [if_pos z4, if_pos (hx.mp z4)]
          exact ⟨_, _, rfl, rfl, na⟩
        · rw [if_neg z4, if_neg (fun x => z4 (hx.mpr x))]
          rcases cix_s h.s lk with ⟨e, _⟩ | ⟨f0, f1, f2, _⟩
          · omega
          · exact ⟨_, _, rfl, rfl, Or.inr ⟨f0, f1, f2.symm⟩⟩
theorem follow_x {B : Int} : ∀ (N1 : Nat) (N2 : Nat) (c m : Mem) (k : Int), INV B c m → 0 ≤ k → k ≤ 30 → 30 - k < N1 → 30 - k + 1 < N2 → ∃ c' m', Pl_followCurrent_2 N1 c k = some c' ∧ M_follow_21 N2 m (rowOf (m 264) (m 259 29)) (if rowOf (m 264) (m 259 29) < 0 then 0 else 1) k = some m' ∧ INV B c' m' := by
  intro N1
  induction N1 with
  | zero => intro N2 c m k _ _ _ h3; omega
  | succ N1 ih =>
    intro N2 c m k h k0 k1 k2 k3
    obtain ⟨N2, rfl⟩ : ∃ j, N2 = j + 1 + 1 := ⟨N2 - 2, by omega⟩
    rw [Pl_followCurrent_2, M_follow_21]
    by_cases z : 30 ≤ k
    · rw [if_pos z, if_pos z]
      exact ⟨c, m, rfl, rfl, h⟩
    · obtain ⟨q1, q2, q3, q4, q5, q6, _⟩ := h.p.C
      obtain ⟨x1, x2, _, _, _, x3, x4, x5⟩ := h.p.K
      obtain ⟨ix, n, en, em, hx⟩ := next_op h
      have hN := S3.n h.s
      rw [if_neg z, if_neg z, q1, cix_e h.s, Option.bind_some]
      by_cases zc : cix c (m 259 29) < 0
      · have zr : rowOf (m 264) (m 259 29) < 0 := by
          by_cases z2 : 0 < m 259 29
          · exact (cix_row h.s h.w.n _ z2).mp zc
          · rcases rowOf_s (m 264) (m 259 29) with ⟨r, _⟩ | ⟨_, _, r, _⟩ <;> omega
        rw [if_neg (show ¬ 0 ≤ cix c (m 259 29) by omega), if_pos zr, if_pos rfl]
        exact ⟨c, m, rfl, rfl, h⟩
      · rcases cix_s h.s (m 259 29) with ⟨e, _⟩ | ⟨e0, e1, e2, _⟩
        · omega
        · obtain ⟨r0, r1, r2, r3, r4, r5⟩ := S3.row h.s h.w.n e0 e1
          rw [e2] at r0 r1 r2 r3 r4 r5
          have rf := ((h.w.c _ r0 r1).2.2 (by omega)).2
          have stop : M_follow_99 (M_follow_21 (N2 + 1)) m 0 k = some m := by
            unfold M_follow_99
            rw [M_cueRow_e, Option.bind_some, M_follow_21]
            repeat' split
            all_goals first | rfl | (exfalso; omega) | simp_all
          rw [if_pos e0, if_neg (show ¬ rowOf (m 264) (m 259 29) < 0 by omega), if_neg (show ¬ (1 : Int) = 0 by decide), aI_ok e0 (by omega), Option.bind_some, cq_g1 h.s h.o e0 (by omega), Option.bind_some, cq_r1 h.s e0 (by omega) (by omega) (by omega), Option.bind_some, r4 4 (by omega) (by omega), en, Option.bind_some, jmul_e (by omega) (by omega), jadd_e (x := 1352) (by omega) (by omega), jadd_e (x := 1352 + 7 * rowOf (m 264) (m 259 29)) (by omega) (by omega), aI_ok (by omega) (by omega), Option.bind_some, em, Option.bind_some, show 1353 + 7 * rowOf (m 264) (m 259 29) + 4 = 1357 + 7 * rowOf (m 264) (m 259 29) by omega, show 1352 + 7 * rowOf (m 264) (m 259 29) + 5 = 1357 + 7 * rowOf (m 264) (m 259 29) by omega, x3, q4]
          generalize m 264 (1357 + 7 * rowOf (m 264) (m 259 29)) = fl at *
          unfold M_follow_87
          by_cases z3 : fl < 0
          · rw [if_pos (show fl = -1 by omega), if_pos z3, if_pos rfl, stop]
            exact ⟨c, m, rfl, rfl, h⟩
          · rw [if_neg (show ¬ fl = -1 by omega), if_neg z3]
            by_cases z4 : m 259 28 = jadd (m 259 30) fl
            · rw [if_neg (show ¬ m 259 28 ≠ jadd (m 259 30) fl from fun x => x z4), if_neg (show ¬ m 259 28 ≠ jadd (m 259 30) fl from fun x => x z4)]
              rcases hx with ⟨y1, y2⟩ | ⟨y1, y2, y3⟩
              · rw [if_neg (show ¬ 0 ≤ ix by omega), if_pos (show n ≤ 0 by omega), if_pos rfl, stop]
                exact ⟨c, m, rfl, rfl, h⟩
              · obtain ⟨_, _, np, _⟩ := S3.row h.s h.w.n y1 y2
                obtain ⟨c1, m1, t1, t2, t3, t4, t5⟩ := take_op (at_ := 0) h y1 y2
                rw [if_pos y1, if_neg (show ¬ n ≤ 0 by omega), if_neg (show ¬ (1 : Int) = 0 by decide), t1, Option.bind_some, y3, t2, Option.bind_some, jadd_e (by omega) (by omega)]
                unfold M_follow_99
                rw [M_cueRow_e, Option.bind_some, jadd_e (by omega) (by omega)]
                obtain ⟨c2, m2, u1, u2, u3⟩ := ih (N2 + 1) c1 m1 (k + 1) t3 (by omega) (by omega) (by omega) (by omega)
                have hr : ¬ rowOf (m1 264) (m1 259 29) < 0 := by
                  rw [t4, t5]
                  obtain ⟨y4, _⟩ := S3.row h.s h.w.n y1 y2
                  omega
                rw [if_neg hr] at u2
                exact ⟨c2, m2, u1, u2, u3⟩
            · rw [if_pos z4, if_pos z4, if_pos rfl, stop]
              exact ⟨c, m, rfl, rfl, h⟩
theorem follow_op {B : Int} {c m : Mem} (h : INV B c m) : ∃ c' m', Pl_followCurrent c = some c' ∧ M_follow m = some m' ∧ INV B c' m' := by
  obtain ⟨c', m', e1, e2, e3⟩ := follow_x big big c m 0 h (by omega) (by omega) (by have := big_ge; omega) (by have := big_ge; omega)
  refine ⟨c', m', e1, ?_, e3⟩
  unfold M_follow
  rw [M_cueRow_e, Option.bind_some]
  by_cases z : rowOf (m 264) (m 259 29) < 0
  · rw [if_pos z] at e2 ⊢; exact e2
  · rw [if_neg z] at e2 ⊢; exact e2
theorem taf_op {B : Int} {c m : Mem} (h : INV B c m) {ix at_ : Int} (i0 : 0 ≤ ix) (i1 : ix < c 3 8) : ∃ c' m', Pl_takeAndFollow c ix at_ = some (1, c') ∧ M_taken m (c (c 79 ix) 0) at_ = some (m' 259 29, m') ∧ INV B c' m' := by
  obtain ⟨c1, m1, t1, t2, t3, _⟩ := take_op (at_ := at_) h i0 i1
  obtain ⟨c2, m2, u1, u2, u3⟩ := follow_op t3
  obtain ⟨_, _, np, _⟩ := S3.row h.s h.w.n i0 i1
  refine ⟨c2, m2, ?_, ?_, u3⟩
  · unfold Pl_takeAndFollow
    rw [if_neg (show ¬ ix < 0 by omega), if_pos i1, t1, Option.bind_some, u1, Option.bind_some]
  · unfold M_taken
    rw [if_pos (show c (c 79 ix) 0 ≠ 0 by omega), t2, Option.bind_some, u2, Option.bind_some]
theorem op_go {B : Int} {c m : Mem} (h : INV B c m) : OP B B c m (D_go c) (M_go m) := by
  obtain ⟨ix, n, e1, e2, hx⟩ := next_op h
  unfold D_go M_go
  rw [e1, Option.bind_some, e2, Option.bind_some]
  rcases hx with ⟨y1, y2⟩ | ⟨y1, y2, y3⟩
  · refine ⟨-1, c, m, ?_, ?_, h⟩
    · unfold Pl_takeAndFollow
      rw [if_pos (show ix < 0 by omega)]; rfl
    · unfold M_taken
      rw [if_neg (show ¬ n ≠ 0 from fun x => x y2)]; rfl
  · obtain ⟨c', m', t1, t2, t3⟩ := taf_op (at_ := 0) h y1 y2
    rw [t1, Option.bind_some, y3, t2, Option.bind_some]
    exact ⟨c' 221 3, c', m', rfl, by rw [(t3.p.C).1], t3⟩
theorem op_back {B : Int} {c m : Mem} (h : INV B c m) : OP B B c m (D_back c) (M_back m) := by
  obtain ⟨q1, q2, q3, _⟩ := h.p.C
  unfold D_back M_back
  rw [q1, show jsub (m 259 29) 1 = m 259 29 - 1 from jsub_e (by omega) (by omega), cna_e h.s, Option.bind_some, M_numberUpTo_e, Option.bind_some, upTo_c h.s h.w.n]
  obtain ⟨_, k0, k1, _, _⟩ := cna_s h.s (m 259 29 - 1)
  have hN := S3.n h.s
  rw [jsub_e (by omega) (by omega), Option.bind_some]
  by_cases z : cna c (m 259 29 - 1) = 0
  · rw [if_pos z]
    refine ⟨-1, c, m, ?_, ?_, h⟩
    · unfold Pl_takeAndFollow
      rw [if_pos (show cna c (m 259 29 - 1) - 1 < 0 by omega)]; rfl
    · unfold M_taken
      rw [if_neg (by decide)]; rfl
  · rw [if_neg z]
    obtain ⟨c', m', t1, t2, t3⟩ := taf_op (at_ := 1) h (ix := cna c (m 259 29 - 1) - 1) (by omega) (by omega)
    rw [t1, Option.bind_some, t2, Option.bind_some]
    exact ⟨c' 221 3, c', m', rfl, by rw [(t3.p.C).1], t3⟩
theorem jump_cix {B : Int} {c m : Mem} (h : INV B c m) (n : Int) : (cix c n = -1 ∧ rowOf (m 264) n < 0) ∨ (0 ≤ cix c n ∧ cix c n < c 3 8 ∧ c (c 79 (cix c n)) 0 = n ∧ 0 ≤ rowOf (m 264) n) := by
  rcases cix_s h.s n with ⟨e, _⟩ | ⟨e0, e1, e2, _⟩
  · refine Or.inl ⟨e, ?_⟩
    by_cases z : 0 < n
    · exact (cix_row h.s h.w.n n z).mp (by omega)
    · rcases rowOf_s (m 264) n with ⟨r, _⟩ | ⟨_, _, r, _⟩ <;> omega
  · obtain ⟨r0, _⟩ := S3.row h.s h.w.n e0 e1
    rw [e2] at r0
    exact Or.inr ⟨e0, e1, e2, r0⟩
theorem op_jump {B : Int} {c m : Mem} (h : INV B c m) (n : Int) : OP B B c m (D_jump c n) (M_jump m n) := by
  unfold D_jump M_jump
  rw [cix_e h.s, Option.bind_some, M_cueRow_e, Option.bind_some]
  rcases jump_cix h n with ⟨y1, y2⟩ | ⟨y0, y1, y2, y3⟩
  · refine ⟨-2, c, m, ?_, ?_, h⟩
    · unfold Pl_takeAndFollow
      rw [if_pos (show cix c n < 0 by omega)]; rfl
    · rw [if_neg (show ¬ 0 ≤ rowOf (m 264) n by omega)]
  · obtain ⟨c', m', t1, t2, t3⟩ := taf_op (at_ := 0) h y0 y1
    rw [y2] at t2
    rw [if_pos y3, t1, Option.bind_some, t2, Option.bind_some]
    exact ⟨c' 221 3, c', m', rfl, by rw [(t3.p.C).1], t3⟩
