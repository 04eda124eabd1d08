-- L3: a show is copied: cues, and all
theorem cue_cp {μ : Mem} {p q : Int} (kp : kd p = 1) (kq : kd q = 1) (k1 : kd (p + 1) = 100) (k2 : kd (q + 1) = 100) (k3 : kd (p + 2) = 100) (k4 : kd (q + 2) = 100) (l1 : ln (p + 1) = 6) (l2 : ln (q + 1) = 6) (l3 : ln (p + 2) = 360) (l4 : ln (q + 2) = 360) (u1 : uB (p + 1) = false) (u2 : uB (p + 2) = false) (p0 : 0 < p) (q0 : 0 < q) (hp : p ≤ μ 0 0) (hq : q ≤ μ 0 0) (hpq : p + 2 < q ∨ q + 2 < p) : ∃ μ', Cue_copyFrom μ p q = some μ' ∧ μ' p 0 = μ q 0 ∧ (∀ j, 0 ≤ j → j < 6 → μ' (p + 1) j = μ (q + 1) j) ∧ (∀ j, 0 ≤ j → j < 360 → μ' (p + 2) j = μ (q + 2) j) ∧ (∀ o, ¬ o = p → ¬ o = p + 1 → ¬ o = p + 2 → μ' o = μ o) := by
  refine ⟨acp (acp (wr μ p 0 (μ q 0)) (q + 1) 0 (p + 1) 0 6) (q + 2) 0 (p + 2) 0 360, ?_, ?_, ?_, ?_, ?_⟩
  · unfold Cue_copyFrom
    have w00 : wr μ p 0 (μ q 0) 0 0 = μ 0 0 := by rw [wr_o (by omega)]
    have a00 : acp (wr μ p 0 (μ q 0)) (q + 1) 0 (p + 1) 0 6 0 0 = μ 0 0 := by rw [acp_o (by omega), w00]
    have g : ∀ (m : Mem) (d x : Int), kd x = 1 → 0 < x → x ≤ m 0 0 → gO m 1 d x = some (x + d) := fun m d x a b e => if_pos ⟨a, b, e⟩
    have e3 : pf μ 1 0 0 p (μ q 0) = some (wr μ p 0 (μ q 0)) := pf_0 kp p0 rfl
    rw [gf_c kq, Option.bind_some, e3, Option.bind_some, g _ 1 q kq q0 (by omega), Option.bind_some, g _ 1 p kp p0 (by omega), Option.bind_some, cD_ok k2 k1 (by omega) u1 (by omega) (by omega) (by omega) (by omega), Option.bind_some, g _ 2 q kq q0 (by omega), Option.bind_some, g _ 2 p kp p0 (by omega), Option.bind_some, cD_ok k4 k3 (by omega) u2 (by omega) (by omega) (by omega) (by omega), Option.bind_some]
  · rw [acp_o (by omega), acp_o (by omega), wr_eq]
  · intro j j0 j1
    rw [acp_o (by omega), acp_d j0 j1, wr_o (by omega)]
  · intro j j0 j1
    rw [acp_d j0 j1, acp_o (by omega), wr_o (by omega)]
  · intro o o1 o2 o3
    rw [acp_o o3, acp_o o2, wr_o o1]
theorem cues_cp {μ0 : Mem} {a b : Int} (ha : SHB a) (hb : SHB b) (hab : a ≠ b) (hA : a + 217 ≤ μ0 0 0 + 1) (hBb : b + 217 ≤ μ0 0 0 + 1) (pa : ∀ i, 0 ≤ i → i < 30 → ∃ t, 0 ≤ t ∧ t < 30 ∧ μ0 (a + 76) i = a + 127 + 3 * t) (pi : ∀ i j, 0 ≤ i → i < j → j < 30 → μ0 (a + 76) i ≠ μ0 (a + 76) j) (qb : ∀ i, 0 ≤ i → i < 30 → ∃ t, 0 ≤ t ∧ t < 30 ∧ μ0 (b + 76) i = b + 127 + 3 * t) (n0 : 0 ≤ μ0 b 8) (n1 : μ0 b 8 ≤ 30) : ∃ μ', Sh_copyFrom_173 a b big μ0 0 = some μ' ∧ μ' a 8 = μ0 b 8 ∧ μ' a 10 = μ0 b 10 ∧ (∀ i, 0 ≤ i → i < μ0 b 8 → μ' (μ0 (a + 76) i) 0 = μ0 (μ0 (b + 76) i) 0 ∧ (∀ j, 0 ≤ j → j < 6 → μ' (μ0 (a + 76) i + 1) j = μ0 (μ0 (b + 76) i + 1) j) ∧ (∀ j, 0 ≤ j → j < 360 → μ' (μ0 (a + 76) i + 2) j = μ0 (μ0 (b + 76) i + 2) j)) ∧ (∀ o, ¬ o = a → ¬ (a + 127 ≤ o ∧ o < a + 217) → μ' o = μ0 o) := by
  have sa := SHB_r ha
  have sb := SHB_r hb
  have dj := SHB_ne ha hb hab
  obtain ⟨ka, la⟩ := kdb (r := 76) (K := 121) (n := 30) ha (by omega) (by omega) rfl
  obtain ⟨kb, lb⟩ := kdb (r := 76) (K := 121) (n := 30) hb (by omega) (by omega) rfl
  have k7 := kdb (r := 0) (K := 7) (n := 13) ha (by omega) (by omega) rfl
  rw [Int.add_zero] at k7
  have key : ∀ (N : Nat) (i : Int) (μ : Mem), 0 ≤ i → i ≤ μ0 b 8 → μ0 b 8 - i < N → (∀ k, 0 ≤ k → k < i → μ (μ0 (a + 76) k) 0 = μ0 (μ0 (b + 76) k) 0 ∧ (∀ j, 0 ≤ j → j < 6 → μ (μ0 (a + 76) k + 1) j = μ0 (μ0 (b + 76) k + 1) j) ∧ (∀ j, 0 ≤ j → j < 360 → μ (μ0 (a + 76) k + 2) j = μ0 (μ0 (b + 76) k + 2) j)) → (∀ o, ¬ (a + 127 ≤ o ∧ o < a + 217) → μ o = μ0 o) → ∃ μ', Sh_copyFrom_173 a b N μ i = some μ' ∧ μ' a 8 = μ0 b 8 ∧ μ' a 10 = μ0 b 10 ∧ (∀ i, 0 ≤ i → i < μ0 b 8 → μ' (μ0 (a + 76) i) 0 = μ0 (μ0 (b + 76) i) 0 ∧ (∀ j, 0 ≤ j → j < 6 → μ' (μ0 (a + 76) i + 1) j = μ0 (μ0 (b + 76) i + 1) j) ∧ (∀ j, 0 ≤ j → j < 360 → μ' (μ0 (a + 76) i + 2) j = μ0 (μ0 (b + 76) i + 2) j)) ∧ (∀ o, ¬ o = a → ¬ (a + 127 ≤ o ∧ o < a + 217) → μ' o = μ0 o) := by
    intro N
    induction N with
    | zero => intro i μ _ _ h3; omega
    | succ N ih =>
      intro i μ i0 i1 i2 h1 h2
      have hO : μ 0 0 = μ0 0 0 := by rw [h2 0 (by omega)]
      have eb : μ b = μ0 b := h2 b (by omega)
      rw [Sh_copyFrom_173, gf7 hb, Option.bind_some, eb]
      by_cases z : μ0 b 8 ≤ i
      · have e : i = μ0 b 8 := by omega
        have p1 : pf μ 7 8 0 a (μ0 b 8) = some (wr μ a 8 (μ0 b 8)) := pf_0 k7.1 (by omega) rfl
        have p2 : pf (wr μ a 8 (μ0 b 8)) 7 10 0 a (μ0 b 10) = some (wr (wr μ a 8 (μ0 b 8)) a 10 (μ0 b 10)) := pf_0 k7.1 (by omega) rfl
        rw [if_pos z, Option.bind_some, p1, Option.bind_some, gf7 hb, Option.bind_some, wr_o (show ¬ b = a by omega), eb, p2, Option.bind_some]
        refine ⟨_, rfl, by rw [wr_f (by decide), wr_eq], wr_eq, ?_, ?_⟩
        · intro k k0 k1
          obtain ⟨t, t0, t1, t2⟩ := pa k k0 (by omega)
          have w : ∀ o, ¬ o = a → wr (wr μ a 8 (μ0 b 8)) a 10 (μ0 b 10) o = μ o := fun o x => by rw [wr_o x, wr_o x]
          rw [w _ (by omega), w _ (by omega), w _ (by omega)]
          exact h1 k k0 (by omega)
        · intro o o1 o2
          rw [wr_o o1, wr_o o1]
          exact h2 o o2
      · obtain ⟨t, t0, t1, t2⟩ := pa i i0 (by omega)
        obtain ⟨s, s0, s1, s2⟩ := qb i i0 (by omega)
        have ra : rdA μ (a + 76) i = some (μ0 (a + 76) i) := by
          rw [← h2 (a + 76) (by omega)]
          exact if_pos ⟨Or.inr (Or.inl ka), by omega, i0, by omega⟩
        have rb : rdA μ (b + 76) i = some (μ0 (b + 76) i) := by
          rw [← h2 (b + 76) (by omega)]
          exact if_pos ⟨Or.inr (Or.inl kb), by omega, i0, by omega⟩
        obtain ⟨kp, _⟩ := kdb (r := 127 + 3 * t) (K := 1) (n := 3) ha (by omega) (by omega) (shK_127 (by omega) (by omega))
        obtain ⟨kq, _⟩ := kdb (r := 127 + 3 * s) (K := 1) (n := 3) hb (by omega) (by omega) (shK_127 (by omega) (by omega))
        obtain ⟨k1, l1⟩ := kdb (r := 128 + 3 * t) (K := 100) (n := 6) ha (by omega) (by omega) (shK_128 (by omega) (by omega))
        obtain ⟨k2, l2⟩ := kdb (r := 128 + 3 * s) (K := 100) (n := 6) hb (by omega) (by omega) (shK_128 (by omega) (by omega))
        obtain ⟨k3, l3⟩ := kdb (r := 129 + 3 * t) (K := 100) (n := 360) ha (by omega) (by omega) (shK_129 (by omega) (by omega))
        obtain ⟨k4, l4⟩ := kdb (r := 129 + 3 * s) (K := 100) (n := 360) hb (by omega) (by omega) (shK_129 (by omega) (by omega))
        have u1 := uB_s (r := 128 + 3 * t) ha (by omega) (by omega)
        have u2 := uB_s (r := 129 + 3 * t) ha (by omega) (by omega)
        rw [show a + (127 + 3 * t) = μ0 (a + 76) i by omega] at kp
        rw [show b + (127 + 3 * s) = μ0 (b + 76) i by omega] at kq
        rw [show a + (128 + 3 * t) = μ0 (a + 76) i + 1 by omega] at k1 l1 u1
        rw [show b + (128 + 3 * s) = μ0 (b + 76) i + 1 by omega] at k2 l2
        rw [show a + (129 + 3 * t) = μ0 (a + 76) i + 2 by omega] at k3 l3 u2
        rw [show b + (129 + 3 * s) = μ0 (b + 76) i + 2 by omega] at k4 l4
        obtain ⟨μ1, e1, e2, e3, e4, e5⟩ := cue_cp (μ := μ) kp kq k1 k2 k3 k4 l1 l2 l3 l4 u1 u2 (by omega) (by omega) (by omega) (by omega) (by omega)
        have q1 : μ (μ0 (b + 76) i) = μ0 (μ0 (b + 76) i) := h2 _ (by omega)
        have q2 : μ (μ0 (b + 76) i + 1) = μ0 (μ0 (b + 76) i + 1) := h2 _ (by omega)
        have q3 : μ (μ0 (b + 76) i + 2) = μ0 (μ0 (b + 76) i + 2) := h2 _ (by omega)
        rw [q1] at e2
        rw [q2] at e3
        rw [q3] at e4
        rw [if_neg z, gO7 ha (by omega), Option.bind_some, ra, Option.bind_some, gO7 hb (by omega), Option.bind_some, rb, Option.bind_some, if_pos (show μ0 (a + 76) i ≠ 0 ∧ kd (μ0 (a + 76) i) = 1 from ⟨by omega, kp⟩), e1, Option.bind_some, jadd_e (by omega) (by omega)]
        refine ih (i + 1) μ1 (by omega) (by omega) (by omega) ?_ ?_
        · intro k k0 kk
          by_cases e : k = i
          · subst e
            exact ⟨e2, e3, e4⟩
          · obtain ⟨t', t0', t1', t2'⟩ := pa k k0 (by omega)
            have hne := pi k i k0 (by omega) (by omega)
            have w : ∀ x, 0 ≤ x → x ≤ 2 → μ1 (μ0 (a + 76) k + x) = μ (μ0 (a + 76) k + x) := fun x x0 x1 => e5 _ (by omega) (by omega) (by omega)
            have w0 := w 0 (by omega) (by omega)
            rw [Int.add_zero] at w0
            rw [w0, w 1 (by omega) (by omega), w 2 (by omega) (by omega)]
            exact h1 k k0 (by omega)
        · intro o ho
          rw [e5 o (by omega) (by omega) (by omega)]
          exact h2 o ho
  exact key big 0 μ0 (by omega) n0 (by have := big_ge; omega) (fun k a b => by omega) (fun o _ => rfl)
theorem copy_op {μ : Mem} {a b : Int} {g : Int → Int} (ha : SHB a) (hb : SHB b) (hab : a ≠ b) (hA : a + 217 ≤ μ 0 0 + 1) (hBb : b + 217 ≤ μ 0 0 + 1) (pa : ∀ i, 0 ≤ i → i < 30 → ∃ t, 0 ≤ t ∧ t < 30 ∧ μ (a + 76) i = a + 127 + 3 * t) (pi : ∀ i j, 0 ≤ i → i < j → j < 30 → μ (a + 76) i ≠ μ (a + 76) j) (hS : SR μ b g) (hw : WF g) : ∃ μ', Sh_copyFrom μ a b = some μ' ∧ SR μ' a g ∧ (∀ o, ¬ (a ≤ o ∧ o < a + 217) → μ' o = μ o) := by
  have sa := SHB_r ha
  have sb := SHB_r hb
  have dj := SHB_ne ha hb hab
  obtain ⟨m1, c1, d1, f1⟩ := rows_cp (x := 1) (R := 41) (n := 6) ha hb hab hA hBb (by omega) (by omega) (by omega) (by omega) (by omega) rfl (fun r x y => shK_2 (by omega) (by omega))
  have z1 : m1 0 0 = μ 0 0 := by rw [f1 0 (by omega)]
  obtain ⟨m2, c2, d2, f2⟩ := rows_cp (μ0 := m1) (x := 44) (R := 13) (n := 9) ha hb hab (by omega) (by omega) (by omega) (by omega) (by omega) (by omega) (by omega) rfl (fun r x y => shK_45 (by omega) (by omega))
  have z2 : m2 0 0 = m1 0 0 := by rw [f2 0 (by omega)]
  obtain ⟨m3, c3, d3, f3⟩ := rows_cp (μ0 := m2) (x := 58) (R := 9) (n := 41) ha hb hab (by omega) (by omega) (by omega) (by omega) (by omega) (by omega) (by omega) rfl (fun r x y => shK_59 (by omega) (by omega))
  have z3 : m3 0 0 = m2 0 0 := by rw [f3 0 (by omega)]
  obtain ⟨m4, c4, d4, f4⟩ := rows_cp (μ0 := m3) (x := 69) (R := 5) (n := 5) ha hb hab (by omega) (by omega) (by omega) (by omega) (by omega) (by omega) (by omega) rfl (fun r x y => shK_70 (by omega) (by omega))
  have z4 : m4 0 0 = m3 0 0 := by rw [f4 0 (by omega)]
  obtain ⟨m5, c5, d5, f5⟩ := rows_cp (μ0 := m4) (x := 79) (R := 11) (n := 2) ha hb hab (by omega) (by omega) (by omega) (by omega) (by omega) (by omega) (by omega) rfl (fun r x y => shK_80 (by omega) (by omega))
  have z5 : m5 0 0 = m4 0 0 := by rw [f5 0 (by omega)]
  obtain ⟨k68, l68⟩ := kdb (r := 68) (K := 100) (n := 9) ha (by omega) (by omega) rfl
  obtain ⟨k68', l68'⟩ := kdb (r := 68) (K := 100) (n := 9) hb (by omega) (by omega) rfl
  obtain ⟨k77, l77⟩ := kdb (r := 77) (K := 100) (n := 360) ha (by omega) (by omega) rfl
  obtain ⟨k77', l77'⟩ := kdb (r := 77) (K := 100) (n := 360) hb (by omega) (by omega) rfl
  obtain ⟨k78, l78⟩ := kdb (r := 78) (K := 100) (n := 201) ha (by omega) (by omega) rfl
  obtain ⟨k78', l78'⟩ := kdb (r := 78) (K := 100) (n := 201) hb (by omega) (by omega) rfl
  have c6 : cD m5 (b + 68) 0 (a + 68) 0 9 = some (acp m5 (b + 68) 0 (a + 68) 0 9) := cD_ok k68' k68 (by omega) (uB_s ha (by omega) (by omega)) (by omega) (by omega) (by omega) (by omega)
  have d6 : ∀ j, 0 ≤ j → j < 9 → acp m5 (b + 68) 0 (a + 68) 0 9 (a + 68) j = m5 (b + 68) j := fun j x y => acp_d x y
  have f6 : ∀ o, ¬ o = a + 68 → acp m5 (b + 68) 0 (a + 68) 0 9 o = m5 o := fun o x => acp_o x
  generalize acp m5 (b + 68) 0 (a + 68) 0 9 = m6 at *
  have z6 : m6 0 0 = m5 0 0 := by rw [f6 0 (by omega)]
  have c7 : cD m6 (b + 77) 0 (a + 77) 0 360 = some (acp m6 (b + 77) 0 (a + 77) 0 360) := cD_ok k77' k77 (by omega) (uB_s ha (by omega) (by omega)) (by omega) (by omega) (by omega) (by omega)
  have d7 : ∀ j, 0 ≤ j → j < 360 → acp m6 (b + 77) 0 (a + 77) 0 360 (a + 77) j = m6 (b + 77) j := fun j x y => acp_d x y
  have f7 : ∀ o, ¬ o = a + 77 → acp m6 (b + 77) 0 (a + 77) 0 360 o = m6 o := fun o x => acp_o x
  generalize acp m6 (b + 77) 0 (a + 77) 0 360 = m7 at *
  have z7 : m7 0 0 = m6 0 0 := by rw [f7 0 (by omega)]
  have c8 : cD m7 (b + 78) 0 (a + 78) 0 201 = some (acp m7 (b + 78) 0 (a + 78) 0 201) := cD_ok k78' k78 (by omega) (uB_s ha (by omega) (by omega)) (by omega) (by omega) (by omega) (by omega)
  have d8 : ∀ j, 0 ≤ j → j < 201 → acp m7 (b + 78) 0 (a + 78) 0 201 (a + 78) j = m7 (b + 78) j := fun j x y => acp_d x y
  have f8 : ∀ o, ¬ o = a + 78 → acp m7 (b + 78) 0 (a + 78) 0 201 o = m7 o := fun o x => acp_o x
  generalize acp m7 (b + 78) 0 (a + 78) 0 201 = m8 at *
  have z8 : m8 0 0 = m7 0 0 := by rw [f8 0 (by omega)]
  -- everything outside the show a is as it was
  have g8 : ∀ o, ¬ (a + 2 ≤ o ∧ o < a + 91) → m8 o = μ o := by
    intro o ho
    rw [f8 o (by omega), f7 o (by omega), f6 o (by omega), f5 o (by omega), f4 o (by omega), f3 o (by omega), f2 o (by omega), f1 o (by omega)]
  obtain ⟨m9, c9, d9, f9⟩ := grp_cp (μ0 := m8) ha hb hab (by omega) (by omega) (by
    intro i i0 i1
    rw [g8 _ (by omega)]
    by_cases e : i = 0
    · subst e
      have hz := hS.z
      rw [show b + 91 + 2 * 0 = b + 91 by omega, hz.1]; omega
    · obtain ⟨s1, _⟩ := hS.g (i - 1) (by omega) (by omega)
      obtain ⟨w1, w2, _⟩ := hw.g (i - 1) (by omega) (by omega)
      rw [show b + 91 + 2 * i = b + 93 + 2 * (i - 1) by omega, s1]; omega)
  have z9 : m9 0 0 = m8 0 0 := by rw [f9 0 (by omega)]
  obtain ⟨ma, ca, da, fa⟩ := wav_cp (μ0 := m9) ha hb hab (by omega) (by omega) (by
    intro i i0 i1
    rw [f9 _ (by omega), g8 _ (by omega)]
    by_cases e : i = 0
    · subst e
      have hz := hS.z
      rw [show b + 117 + 2 * 0 = b + 117 by omega, hz.2]; omega
    · obtain ⟨_, s1, s2⟩ := hS.w (i - 1) (by omega) (by omega)
      obtain ⟨_, _, w2⟩ := hw.w (i - 1) (by omega) (by omega)
      rw [show b + 117 + 2 * i = b + 119 + 2 * (i - 1) by omega]
      by_cases e2 : 0 ≤ g (1168 + 46 * (i - 1))
      · obtain ⟨_, _, _, _, _, _, _, _, _, w3, w4, _⟩ := w2 e2
        rw [(s1 e2).2.1]; omega
      · rw [(s2 (by omega)).2]; omega)
  have za : ma 0 0 = m9 0 0 := by rw [fa 0 (by omega)]
  have ga : ∀ o, ¬ (a + 2 ≤ o ∧ o < a + 127) ∨ o = a + 76 → ma o = μ o := by
    intro o ho
    rw [fa o (by omega), f9 o (by omega)]
    by_cases e : o = a + 76
    · subst e
      rw [f8 _ (by omega), f7 _ (by omega), f6 _ (by omega), f5 _ (by omega), f4 _ (by omega), f3 _ (by omega), f2 _ (by omega), f1 _ (by omega)]
    · exact g8 o (by omega)
  have hn : 0 ≤ μ b 8 ∧ μ b 8 ≤ 30 := hS.n
  have eab : ma b = μ b := ga b (by omega)
  have ea76 : ma (a + 76) = μ (a + 76) := ga (a + 76) (Or.inr rfl)
  have eb76 : ma (b + 76) = μ (b + 76) := ga (b + 76) (by omega)
  obtain ⟨mb, cb, db, eb, hb1, fb⟩ := cues_cp (μ0 := ma) ha hb hab (by omega) (by omega) (by rw [ea76]; exact pa) (by rw [ea76]; exact pi) (by rw [eb76]; exact hS.q) (by rw [eab]; omega) (by rw [eab]; omega)
  rw [ea76, eb76, eab] at hb1
  rw [eab] at db eb
  replace hb1 : ∀ i, 0 ≤ i → i < μ b 8 → mb (μ (a + 76) i) 0 = μ (μ (b + 76) i) 0 ∧ (∀ j, 0 ≤ j → j < 6 → mb (μ (a + 76) i + 1) j = μ (μ (b + 76) i + 1) j) ∧ (∀ j, 0 ≤ j → j < 360 → mb (μ (a + 76) i + 2) j = μ (μ (b + 76) i + 2) j) := by
    intro i i0 i1
    obtain ⟨t, t0, t1, t2⟩ := hS.q i i0 (by omega)
    have q0 : ma (μ (b + 76) i) = μ (μ (b + 76) i) := ga _ (by omega)
    have q1 : ma (μ (b + 76) i + 1) = μ (μ (b + 76) i + 1) := ga _ (by omega)
    have q2 : ma (μ (b + 76) i + 2) = μ (μ (b + 76) i + 2) := ga _ (by omega)
    have := hb1 i i0 i1
    rw [q0, q1, q2] at this
    exact this
  refine ⟨mb, ?_, ?_, ?_⟩
  · unfold Sh_copyFrom
    rw [gO7 hb (by omega), Option.bind_some, gO7 ha (by omega), Option.bind_some, c1, Option.bind_some, gO7 hb (by omega), Option.bind_some, gO7 ha (by omega), Option.bind_some, c2, Option.bind_some, gO7 hb (by omega), Option.bind_some, gO7 ha (by omega), Option.bind_some, c3, Option.bind_some, gO7 hb (by omega), Option.bind_some, gO7 ha (by omega), Option.bind_some, c4, Option.bind_some, gO7 hb (by omega), Option.bind_some, gO7 ha (by omega), Option.bind_some, c5, Option.bind_some, gO7 hb (by omega), Option.bind_some, gO7 ha (by omega), Option.bind_some, Option.bind_some, aln_ok k68 l68 (by omega), Option.bind_some, c6, Option.bind_some, gO7 hb (by omega), Option.bind_some, gO7 ha (by omega), Option.bind_some, c7, Option.bind_some, gO7 hb (by omega), Option.bind_some, gO7 ha (by omega), Option.bind_some, Option.bind_some, aln_ok k78 l78 (by omega), Option.bind_some, c8, Option.bind_some, c9, ca, cb]
  · have h8 : ∀ o, ¬ o = a → ¬ (a + 91 ≤ o ∧ o < a + 217) → mb o = m8 o := by
      intro o o1 o2
      rw [fb o o1 (by omega), fa o (by omega), f9 o (by omega)]
    have P1 : ∀ r j, 1 < r → r < 43 → 0 ≤ j → j < 6 → mb (a + r) j = μ (b + r) j := by
      intro r j r0 r1 j0 j1
      rw [h8 _ (by omega) (by omega), f8 _ (by omega), f7 _ (by omega), f6 _ (by omega), f5 _ (by omega), f4 _ (by omega), f3 _ (by omega), f2 _ (by omega)]
      exact d1 r j r0 (by omega) j0 j1
    have P2 : ∀ r j, 44 < r → r < 58 → 0 ≤ j → j < 9 → mb (a + r) j = μ (b + r) j := by
      intro r j r0 r1 j0 j1
      rw [h8 _ (by omega) (by omega), f8 _ (by omega), f7 _ (by omega), f6 _ (by omega), f5 _ (by omega), f4 _ (by omega), f3 _ (by omega), ← f1 (b + r) (by omega)]
      exact d2 r j r0 (by omega) j0 j1
    have P3 : ∀ r j, 58 < r → r < 68 → 0 ≤ j → j < 41 → mb (a + r) j = μ (b + r) j := by
      intro r j r0 r1 j0 j1
      rw [h8 _ (by omega) (by omega), f8 _ (by omega), f7 _ (by omega), f6 _ (by omega), f5 _ (by omega), f4 _ (by omega), ← f1 (b + r) (by omega), ← f2 (b + r) (by omega)]
      exact d3 r j r0 (by omega) j0 j1
    have P4 : ∀ r j, 69 < r → r < 75 → 0 ≤ j → j < 5 → mb (a + r) j = μ (b + r) j := by
      intro r j r0 r1 j0 j1
      rw [h8 _ (by omega) (by omega), f8 _ (by omega), f7 _ (by omega), f6 _ (by omega), f5 _ (by omega), ← f1 (b + r) (by omega), ← f2 (b + r) (by omega), ← f3 (b + r) (by omega)]
      exact d4 r j r0 (by omega) j0 j1
    have P5 : ∀ r j, 79 < r → r < 91 → 0 ≤ j → j < 2 → mb (a + r) j = μ (b + r) j := by
      intro r j r0 r1 j0 j1
      rw [h8 _ (by omega) (by omega), f8 _ (by omega), f7 _ (by omega), f6 _ (by omega), ← f1 (b + r) (by omega), ← f2 (b + r) (by omega), ← f3 (b + r) (by omega), ← f4 (b + r) (by omega)]
      exact d5 r j r0 (by omega) j0 j1
    have P6 : ∀ j, 0 ≤ j → j < 9 → mb (a + 68) j = μ (b + 68) j := by
      intro j j0 j1
      rw [h8 _ (by omega) (by omega), f8 _ (by omega), f7 _ (by omega), d6 j j0 j1, f5 _ (by omega), f4 _ (by omega), f3 _ (by omega), f2 _ (by omega), f1 _ (by omega)]
    have P7 : ∀ j, 0 ≤ j → j < 360 → mb (a + 77) j = μ (b + 77) j := by
      intro j j0 j1
      rw [h8 _ (by omega) (by omega), f8 _ (by omega), d7 j j0 j1, f6 _ (by omega), f5 _ (by omega), f4 _ (by omega), f3 _ (by omega), f2 _ (by omega), f1 _ (by omega)]
    have P8 : ∀ j, 0 ≤ j → j < 201 → mb (a + 78) j = μ (b + 78) j := by
      intro j j0 j1
      rw [h8 _ (by omega) (by omega), d8 j j0 j1, f7 _ (by omega), f6 _ (by omega), f5 _ (by omega), f4 _ (by omega), f3 _ (by omega), f2 _ (by omega), f1 _ (by omega)]
    have P9 : ∀ i, 0 ≤ i → i < 13 → mb (a + 91 + 2 * i) 1 = μ (b + 91 + 2 * i) 1 ∧ ∀ j, 0 ≤ j → j < μ (b + 91 + 2 * i) 1 → mb (a + 92 + 2 * i) j = μ (b + 92 + 2 * i) j := by
      intro i i0 i1
      have e1 := g8 (b + 91 + 2 * i) (by omega)
      have e2 := g8 (b + 92 + 2 * i) (by omega)
      have := d9 i i0 i1
      rw [e1, e2] at this
      rw [fb _ (by omega) (by omega), fb _ (by omega) (by omega), fa _ (by omega), fa _ (by omega)]
      exact this
    have PA : ∀ i, 0 ≤ i → i < 5 → mb (a + 117 + 2 * i) 1 = μ (b + 117 + 2 * i) 1 ∧ ∀ j, 0 ≤ j → j < μ (b + 117 + 2 * i) 1 → mb (a + 118 + 2 * i) j = μ (b + 118 + 2 * i) j := by
      intro i i0 i1
      have e1 : m9 (b + 117 + 2 * i) = μ (b + 117 + 2 * i) := by rw [f9 _ (by omega), g8 _ (by omega)]
      have e2 : m9 (b + 118 + 2 * i) = μ (b + 118 + 2 * i) := by rw [f9 _ (by omega), g8 _ (by omega)]
      have := da i i0 i1
      rw [e1, e2] at this
      rw [fb _ (by omega) (by omega), fb _ (by omega) (by omega)]
      exact this
    have P76 : mb (a + 76) = μ (a + 76) := by rw [fb _ (by omega) (by omega), ea76]
    refine ⟨?_, ?_, ?_, ?_, ?_, ?_, ?_, ?_, ?_, ?_, ?_, ?_, ?_, ?_, ?_, ?_, ?_⟩
    · intro u u0 u1
      obtain ⟨x, y⟩ := hS.u u u0 u1
      rw [show a + 3 + u = a + (3 + u) by omega, P1 (3 + u) 0 (by omega) (by omega) (by omega) (by omega), show b + (3 + u) = b + 3 + u by omega]
      refine ⟨x, fun z j j0 j1 => ?_⟩
      rw [P1 (3 + u) j (by omega) (by omega) (by omega) (by omega), show b + (3 + u) = b + 3 + u by omega]
      exact y z j j0 j1
    · intro k k0 k1
      obtain ⟨x, y⟩ := hS.g k k0 k1
      obtain ⟨p, q⟩ := P9 (k + 1) (by omega) (by omega)
      rw [show a + 91 + 2 * (k + 1) = a + 93 + 2 * k by omega, show b + 91 + 2 * (k + 1) = b + 93 + 2 * k by omega, x] at p
      rw [show b + 91 + 2 * (k + 1) = b + 93 + 2 * k by omega, show a + 92 + 2 * (k + 1) = a + 94 + 2 * k by omega, show b + 92 + 2 * (k + 1) = b + 94 + 2 * k by omega, x] at q
      exact ⟨p, fun i i0 i1 => (q i i0 i1).trans (y i i0 i1)⟩
    · intro k q k0 k1 q0 q1
      rw [show a + 46 + k = a + (46 + k) by omega, P2 (46 + k) q (by omega) (by omega) q0 q1, show b + (46 + k) = b + 46 + k by omega]
      exact hS.p k q k0 k1 q0 q1
    · intro x u x0 x1 u0 u1
      rw [show a + 60 + x = a + (60 + x) by omega, P3 (60 + x) (u + 1) (by omega) (by omega) (by omega) (by omega), show b + (60 + x) = b + 60 + x by omega]
      exact hS.s x u x0 x1 u0 u1
    · intro x x0 x1
      rw [P6 (x + 1) (by omega) (by omega)]
      exact hS.m x x0 x1
    · intro w w0 w1
      obtain ⟨x, y, z⟩ := hS.w w w0 w1
      obtain ⟨p, q⟩ := PA (w + 1) (by omega) (by omega)
      rw [show a + 117 + 2 * (w + 1) = a + 119 + 2 * w by omega, show b + 117 + 2 * (w + 1) = b + 119 + 2 * w by omega] at p
      rw [show b + 117 + 2 * (w + 1) = b + 119 + 2 * w by omega, show a + 118 + 2 * (w + 1) = a + 120 + 2 * w by omega, show b + 118 + 2 * (w + 1) = b + 120 + 2 * w by omega] at q
      have pj : ∀ j, 0 ≤ j → j < 5 → mb (a + 71 + w) j = μ (b + 71 + w) j := fun j j0 j1 => by
        rw [show a + 71 + w = a + (71 + w) by omega, P4 (71 + w) j (by omega) (by omega) j0 j1, show b + (71 + w) = b + 71 + w by omega]
      refine ⟨by rw [pj 0 (by omega) (by omega)]; exact x, fun hz => ?_, fun hz => ?_⟩
      · obtain ⟨y1, y2, y3⟩ := y hz
        refine ⟨fun j j0 j1 => by rw [pj j (by omega) (by omega)]; exact y1 j j0 j1, by rw [p]; exact y2, fun i i0 i1 => ?_⟩
        rw [y2] at q
        exact (q i i0 i1).trans (y3 i i0 i1)
      · obtain ⟨y1, y2⟩ := z hz
        exact ⟨fun j j0 j1 => by rw [pj j (by omega) (by omega)]; exact y1 j j0 j1, by rw [p]; exact y2⟩
    · intro i i0 i1; rw [P76]; exact pa i i0 i1
    · intro i j i0 ij j1; rw [P76]; exact pi i j i0 ij j1
    · unfold SR_n; rw [db]; exact hn
    · intro i j i0 ij j1
      rw [db] at j1
      unfold cnu
      rw [P76, (hb1 i i0 (by omega)).1, (hb1 j (by omega) j1).1]
      exact hS.o i j i0 ij j1
    · intro i i0 i1
      rw [db] at i1
      obtain ⟨r, r0, r1, r2, r3, r4, r5⟩ := hS.c i i0 i1
      obtain ⟨x, y, z⟩ := hb1 i i0 i1
      unfold cnu cq at *
      rw [P76]
      exact ⟨r, r0, r1, r2, x.trans r3, fun j j0 j1 => (y j j0 j1).trans (r4 j j0 j1), fun f f0 f1 => (z f f0 f1).trans (r5 f f0 f1)⟩
    · intro r r0 r1 r2
      obtain ⟨i, i0, i1, i2⟩ := hS.r r r0 r1 r2
      refine ⟨i, i0, by rw [db]; exact i1, ?_⟩
      unfold cnu at *
      rw [P76, (hb1 i i0 i1).1]
      exact i2
    · intro i i0 i1; rw [P7 i i0 i1]; exact hS.h i i0 i1
    · unfold SR_b; rw [eb]; exact hS.b
    · intro k k0 k1; rw [P8 (k + 1) (by omega) (by omega)]; exact hS.k k k0 k1
    · intro x j x0 x1 j0 j1
      rw [show a + 81 + x = a + (81 + x) by omega, P5 (81 + x) j (by omega) (by omega) j0 j1, show b + (81 + x) = b + 81 + x by omega]
      exact hS.e x j x0 x1 j0 j1
    · have x := (P9 0 (by omega) (by omega)).1
      have y := (PA 0 (by omega) (by omega)).1
      have hz := hS.z
      rw [show a + 91 + 2 * 0 = a + 91 by omega, show b + 91 + 2 * 0 = b + 91 by omega, hz.1] at x
      rw [show a + 117 + 2 * 0 = a + 117 by omega, show b + 117 + 2 * 0 = b + 117 by omega, hz.2] at y
      exact ⟨x, y⟩
  · intro o ho
    rw [fb o (by omega) (by omega)]
    exact ga o (by omega)
