-- L3: enter: unpatch
theorem in147 {c0 : Mem} {g0 : Int → Int} (hs : SR c0 3 g0) {K : Mem → Int → Option Mem} {l1 p f : Int} (f0 : 0 ≤ f) (f1 : f < 360) (p0 : 0 ≤ p) (p1 : p < 9) {c : Mem} (hO : 280 ≤ c 0 0) (e79 : c 79 = c0 79) (e3 : c 3 8 = c0 3 8) : ∃ c', Ed_unpatchUnit_147 K l1 p f big c 0 = K c' (p + 1) ∧ (∀ o, (∀ i, 0 ≤ i → i < c0 3 8 → ¬ o = c0 79 i + 2) → c' o = c o) ∧ (∀ i, 0 ≤ i → i < c0 3 8 → c' (c0 79 i + 2) = st1 (c (c0 79 i + 2)) f (-1)) := by
  have n0 := (S3.n hs).1
  have n30 := (S3.n hs).2
  have lp : ∀ (d N : Nat) (i : Int) (μ : Mem), d < N → i + d = c0 3 8 → 0 ≤ i → (∀ o, (∀ j, 0 ≤ j → j < i → ¬ o = c0 79 j + 2) → μ o = c o) → (∀ j, 0 ≤ j → j < i → μ (c0 79 j + 2) = st1 (c (c0 79 j + 2)) f (-1)) → ∃ c', Ed_unpatchUnit_147 K l1 p f N μ i = K c' (p + 1) ∧ (∀ o, (∀ i, 0 ≤ i → i < c0 3 8 → ¬ o = c0 79 i + 2) → c' o = c o) ∧ (∀ i, 0 ≤ i → i < c0 3 8 → c' (c0 79 i + 2) = st1 (c (c0 79 i + 2)) f (-1)) := by
    intro d
    induction d with
    | zero =>
      intro N i μ hN e i0 h1 h2
      obtain ⟨N, rfl⟩ : ∃ k, N = k + 1 := ⟨N - 1, by omega⟩
      have m3 : μ 3 = c 3 := h1 3 (fun j j0 j1 => by have := cq_k hs j0 (by omega); omega)
      obtain rfl : i = c0 3 8 := by omega
      exact ⟨μ, by rw [Ed_unpatchUnit_147, m3, e3, if_pos (Int.le_refl _), jadd_e (by omega) (by omega)], h1, h2⟩
    | succ d ih =>
      intro N i μ hN e i0 h1 h2
      obtain ⟨N, rfl⟩ : ∃ k, N = k + 1 := ⟨N - 1, by omega⟩
      have q := cq_k hs i0 (by omega)
      have m3 : μ 3 = c 3 := h1 3 (fun j j0 j1 => by have := cq_k hs j0 (by omega); omega)
      have m79 : μ 79 = c0 79 := by rw [h1 79 (fun j j0 j1 => by have := cq_k hs j0 (by omega); omega), e79]
      have m0 : μ 0 = c 0 := h1 0 (fun j j0 j1 => by have := cq_k hs j0 (by omega); omega)
      have mx : μ (c0 79 i + 2) = c (c0 79 i + 2) := h1 _ (fun j j0 j1 => by have := cq_d hs j0 (show j < 30 by omega) i0 (by omega) (by omega); omega)
      rw [Ed_unpatchUnit_147, m3, e3, if_neg (by omega), aI_ok i0 (by omega), Option.bind_some, m79, cq_g2 hs (by rw [m0]; exact hO) i0 (by omega), Option.bind_some, wCh q.1 q.2.1 q.2.2 f0 f1, Option.bind_some, jadd_e (by omega) (by omega)]
      refine ih N (i + 1) _ (by omega) (by omega) (by omega) (fun o ho => ?_) (fun j j0 j1 => ?_)
      · rw [up_ne (ho i i0 (by omega)), h1 o (fun j j0 j1 => ho j j0 (by omega))]
      · by_cases z : j = i
        · rw [z, up_eq, mx]
        · have := cq_d hs j0 (show j < 30 by omega) i0 (by omega) z
          rw [up_ne (by omega), h2 j j0 (by omega)]
  exact lp (c0 3 8).toNat big 0 c (by have := big_ge; omega) (by omega) (by omega) (fun _ _ => rfl) (fun j a b => by omega)
theorem in143 {K : Mem → Int → Option Mem} {u p : Int} (u0 : 0 ≤ u) (u1 : u < 40) (p0 : 0 ≤ p) (p1 : p < 9) {m : Mem} : ∃ h, M_unpatch_143 K u p big m 0 = K (up m 264 h) (p + 1) ∧ (∀ j, ¬ j = 12362 + 9 * u + p → (∀ r, 0 ≤ r → r < 30 → ¬ j = 1562 + 360 * r + 9 * u + p) → h j = m 264 j) ∧ h (12362 + 9 * u + p) = -1 ∧ (∀ r, 0 ≤ r → r < 30 → h (1562 + 360 * r + 9 * u + p) = -1) := by
  have lp : ∀ (d N : Nat) (i : Int) (g : Int → Int), d < N → i + d = 30 → 0 ≤ i → (∀ j, (∀ r, 0 ≤ r → r < i → ¬ j = 1562 + 360 * r + 9 * u + p) → g j = m 264 j) → (∀ r, 0 ≤ r → r < i → g (1562 + 360 * r + 9 * u + p) = -1) → ∃ h, M_unpatch_143 K u p N (up m 264 g) i = K (up m 264 h) (p + 1) ∧ (∀ j, ¬ j = 12362 + 9 * u + p → (∀ r, 0 ≤ r → r < 30 → ¬ j = 1562 + 360 * r + 9 * u + p) → h j = m 264 j) ∧ h (12362 + 9 * u + p) = -1 ∧ (∀ r, 0 ≤ r → r < 30 → h (1562 + 360 * r + 9 * u + p) = -1) := by
    intro d
    induction d with
    | zero =>
      intro N i g hN e i0 h1 h2
      obtain ⟨N, rfl⟩ : ∃ k, N = k + 1 := ⟨N - 1, by omega⟩
      obtain rfl : i = 30 := by omega
      rw [M_unpatch_143, if_pos (by decide), jmul_e (by omega) (by omega), jadd_e (x := 12362) (by omega) (by omega), jadd_e (x := 12362 + 9 * u) (by omega) (by omega), sI_up (by omega) (by omega), Option.bind_some, up_eq, up_up, jadd_e (by omega) (by omega)]
      refine ⟨_, rfl, fun j a b => by rw [st1_ne a]; exact h1 j b, st1_eq, fun r r0 r1 => by rw [st1_ne (by omega)]; exact h2 r r0 r1⟩
    | succ d ih =>
      intro N i g hN e i0 h1 h2
      obtain ⟨N, rfl⟩ : ∃ k, N = k + 1 := ⟨N - 1, by omega⟩
      rw [M_unpatch_143, if_neg (by omega), jmul_e (x := 360) (by omega) (by omega), jmul_e (x := 9) (by omega) (by omega), jadd_e (x := 1562) (by omega) (by omega), jadd_e (x := 1562 + 360 * i) (by omega) (by omega), jadd_e (x := 1562 + 360 * i + 9 * u) (by omega) (by omega), sI_up (by omega) (by omega), Option.bind_some, up_eq, up_up, jadd_e (by omega) (by omega)]
      refine ih N (i + 1) _ (by omega) (by omega) (by omega) (fun j hj => ?_) (fun r r0 r1 => ?_)
      · rw [st1_ne (hj i i0 (by omega)), h1 j (fun r r0 r1 => hj r r0 (by omega))]
      · by_cases z : r = i
        · rw [z, st1_eq]
        · rw [st1_ne (by omega)]; exact h2 r r0 (by omega)
  have := lp 30 big 0 (m 264) b30 (by omega) (by omega) (fun _ _ => rfl) (fun r a b => by omega)
  rwa [up_id] at this
theorem unP {c0 c m : Mem} {g0 : Int → Int} {u : Int} (hs : SR c0 3 g0) (u0 : 0 ≤ u) (u1 : u < 40) (hO : 280 ≤ c 0 0) (e79 : c 79 = c0 79) (e3 : c 3 8 = c0 3 8) (e80 : c 80 = c0 80) (eq_ : ∀ o, 130 ≤ o → o < 220 → c o = c0 o) : ∃ c' h, Ed_unpatchUnit_122 (u + 1) big c 0 = some c' ∧ M_unpatch_135 u big m 0 = some (up m 264 h) ∧ (∀ o, ¬ o = 80 → (∀ i, 0 ≤ i → i < c0 3 8 → ¬ o = c0 79 i + 2) → c' o = c o) ∧ (∀ f, 0 ≤ f → f < 360 → c' 80 f = if 9 * u ≤ f ∧ f < 9 * u + 9 then -1 else c0 80 f) ∧ (∀ i, 0 ≤ i → i < c0 3 8 → ∀ f, 0 ≤ f → f < 360 → c' (c0 79 i + 2) f = if 9 * u ≤ f ∧ f < 9 * u + 9 then -1 else c0 (c0 79 i + 2) f) ∧ (∀ j, ¬ (1562 ≤ j ∧ j < 12722) → h j = m 264 j) ∧ (∀ f, 0 ≤ f → f < 360 → h (12362 + f) = if 9 * u ≤ f ∧ f < 9 * u + 9 then -1 else m 264 (12362 + f)) ∧ (∀ r f, 0 ≤ r → r < 30 → 0 ≤ f → f < 360 → h (1562 + 360 * r + f) = if 9 * u ≤ f ∧ f < 9 * u + 9 then -1 else m 264 (1562 + 360 * r + f)) := by
  have n0 := (S3.n hs).1
  have n30 := (S3.n hs).2
  have st := loop2 (fun N μ i => Ed_unpatchUnit_122 (u + 1) N μ i) (fun N μ i => M_unpatch_135 u N μ i) (fun p c' m' => m' = up m 264 (m' 264) ∧ (∀ o, ¬ o = 80 → (∀ i, 0 ≤ i → i < c0 3 8 → ¬ o = c0 79 i + 2) → c' o = c o) ∧ (∀ f, 0 ≤ f → f < 360 → c' 80 f = if 9 * u ≤ f ∧ f < 9 * u + p then -1 else c0 80 f) ∧ (∀ i, 0 ≤ i → i < c0 3 8 → ∀ f, 0 ≤ f → f < 360 → c' (c0 79 i + 2) f = if 9 * u ≤ f ∧ f < 9 * u + p then -1 else c0 (c0 79 i + 2) f) ∧ (∀ j, ¬ (1562 ≤ j ∧ j < 12722) → m' 264 j = m 264 j) ∧ (∀ f, 0 ≤ f → f < 360 → m' 264 (12362 + f) = if 9 * u ≤ f ∧ f < 9 * u + p then -1 else m 264 (12362 + f)) ∧ (∀ r f, 0 ≤ r → r < 30 → 0 ≤ f → f < 360 → m' 264 (1562 + 360 * r + f) = if 9 * u ≤ f ∧ f < 9 * u + p then -1 else m 264 (1562 + 360 * r + f))) 0 0 0 9 (by
    intro a b p c1 m1 p0 p1 ⟨x1, x2, x3, x4, x5, x6, x7⟩
    have qn : ∀ o, (o < 132 ∨ 222 ≤ o) → ∀ i, 0 ≤ i → i < c0 3 8 → ¬ o = c0 79 i + 2 := fun o ho i i0 i1 => by have := cq_k hs i0 (by omega); omega
    obtain ⟨c', d1, d2, d3⟩ := in147 hs (K := Ed_unpatchUnit_122 (u + 1) a) (l1 := u + 1) (p := p) (f := 9 * u + p) (by omega) (by omega) p0 p1 (c := up c1 80 (st1 (c1 80) (9 * u + p) (-1))) (by rw [up_ne (by decide), x2 0 (by decide) (qn 0 (by omega))]; exact hO) (by rw [up_ne (by decide), x2 79 (by decide) (qn 79 (by omega)), e79]) (by rw [up_ne (by decide), x2 3 (by decide) (qn 3 (by omega)), e3])
    obtain ⟨h, g1, g2, g3, g4⟩ := in143 (K := M_unpatch_135 u b) u0 u1 p0 p1 (m := m1)
    refine ⟨c', up m1 264 h, ?_, ?_, ?_, fun o o1 o2 => ?_, fun f f0 f1 => ?_, fun i i0 i1 f f0 f1 => ?_, fun j hj => ?_, fun f f0 f1 => ?_, fun r f r0 r1 f0 f1 => ?_⟩
    · show Ed_unpatchUnit_122 (u + 1) (a + 1) c1 (0 + p) = Ed_unpatchUnit_122 (u + 1) a c' (0 + p + 1)
      rw [show (0 : Int) + p = p by omega, Ed_unpatchUnit_122, if_neg (by omega), D_cellOf_e (by omega) (by omega) p0 p1, Option.bind_some, show 9 * (u + 1 - 1) + p = 9 * u + p by omega, sI_up (by omega) (by omega), Option.bind_some, d1]
    · show M_unpatch_135 u (b + 1) m1 (0 + p) = M_unpatch_135 u b _ (0 + p + 1)
      rw [show (0 : Int) + p = p by omega, M_unpatch_135, if_neg (by omega), g1]
    · rw [up_eq]
      conv => lhs; rw [x1]
      rw [up_up]
    · rw [d2 o o2, up_ne o1, x2 o o1 o2]
    · rw [d2 80 (qn 80 (by omega)), up_eq]
      unfold st1
      by_cases z : f = 9 * u + p
      · rw [if_pos z, if_pos (by omega)]
      · rw [if_neg z, x3 f f0 f1]
        by_cases y : 9 * u ≤ f ∧ f < 9 * u + p
        · rw [if_pos y, if_pos (by omega)]
        · rw [if_neg y, if_neg (by omega)]
    · have q := cq_k hs i0 (by omega)
      rw [d3 i i0 i1, up_ne (by omega)]
      unfold st1
      by_cases z : f = 9 * u + p
      · rw [if_pos z, if_pos (by omega)]
      · rw [if_neg z, x4 i i0 i1 f f0 f1]
        by_cases y : 9 * u ≤ f ∧ f < 9 * u + p
        · rw [if_pos y, if_pos (by omega)]
        · rw [if_neg y, if_neg (by omega)]
    · rw [up_eq, g2 j (by omega) (fun r r0 r1 => by omega), x5 j hj]
    · rw [up_eq]
      by_cases z : f = 9 * u + p
      · rw [z, show 12362 + (9 * u + p) = 12362 + 9 * u + p by omega, g3, if_pos (by omega)]
      · rw [g2 _ (by omega) (fun r r0 r1 => by omega), x6 f f0 f1]
        by_cases y : 9 * u ≤ f ∧ f < 9 * u + p
        · rw [if_pos y, if_pos (by omega)]
        · rw [if_neg y, if_neg (by omega)]
    · rw [up_eq]
      by_cases z : f = 9 * u + p
      · rw [z, show 1562 + 360 * r + (9 * u + p) = 1562 + 360 * r + 9 * u + p by omega, g4 r r0 r1, if_pos (by omega)]
      · rw [g2 _ (by omega) (fun s s0 s1 => by omega), x7 r f r0 r1 f0 f1]
        by_cases y : 9 * u ≤ f ∧ f < 9 * u + p
        · rw [if_pos y, if_pos (by omega)]
        · rw [if_neg y, if_neg (by omega)]) 9 big big 0 c m (by omega) (by omega) (by have := big_ge; omega) (by have := big_ge; omega) ⟨up_id.symm, fun _ _ _ => rfl, fun f _ _ => by rw [if_neg (by omega), e80], fun i i0 i1 f _ _ => by have q := cq_k hs i0 (by omega); rw [if_neg (by omega), eq_ _ (by omega) (by omega)], fun _ _ => rfl, fun f _ _ => by rw [if_neg (by omega)], fun r f _ _ _ _ => by rw [if_neg (by omega)]⟩
  obtain ⟨c', m', a, b, f1, f2, x1, x2, x3, x4, x5, x6, x7⟩ := st
  have f1' : Ed_unpatchUnit_122 (u + 1) big c 0 = Ed_unpatchUnit_122 (u + 1) (a + 1) c' (0 + 9) := f1
  have f2' : M_unpatch_135 u big m 0 = M_unpatch_135 u (b + 1) m' (0 + 9) := f2
  refine ⟨c', m' 264, ?_, ?_, x2, x3, x4, x5, x6, x7⟩
  · rw [f1', Ed_unpatchUnit_122, if_pos (by decide)]
  · rw [f2', M_unpatch_135, if_pos (by decide), ← x1]
theorem unp {c m : Mem} {u : Int} (hs : SR c 3 (m 264)) (hw : WF (m 264)) (hO : 280 ≤ c 0 0) (u0 : 0 ≤ u) (u1 : u < 40) : ∃ c' h, Ed_unpatchUnit c (u + 1) = some c' ∧ M_unpatch m u = some (up m 264 h) ∧ SR c' 3 h ∧ WF h ∧ (∀ o, ¬ (3 ≤ o ∧ o < 220) → c' o = c o) := by
  have n30 := (S3.n hs).2
  have k6 : shK (5 + 1 * (u + 1) - 3) = (100, 6) := shK_2 (by omega) (by omega)
  generalize hc1 : up c (5 + 1 * (u + 1)) (fil (c (5 + 1 * (u + 1))) 6 (-1)) = c1
  have a1 : ∀ o, ¬ o = 6 + u → c1 o = c o := fun o x => by rw [← hc1, up_ne (by omega)]
  have a2 : c1 (6 + u) 0 = -1 := by
    rw [← hc1, show 6 + u = 5 + 1 * (u + 1) by omega, up_eq]
    unfold fil
    rw [if_pos (by decide)]
  generalize hg1 : st1 (m 264) (6 * u) (-1) = g1
  have b1 : ∀ i, ¬ i = 6 * u → g1 i = m 264 i := fun i x => by rw [← hg1, st1_ne x]
  have b2 : g1 (6 * u) = -1 := by rw [← hg1, st1_eq]
  obtain ⟨c2, g2, d1, d2, ⟨d3, d4⟩, d5, d6⟩ := unG (c := c1) (m := up m 264 g1) (u := u) (by rw [a1 0 (by omega)]; exact hO) u0 u1 (by
    rw [up_eq]
    exact ⟨SRc_g hs hw.g (fun x p q => a1 x (by omega)) (fun i p q => b1 i (by omega)), WFc_g hw.g (fun i p q => b1 i (by omega))⟩)
  rw [up_up] at d2
  rw [up_eq] at d6
  obtain ⟨c3, g3, f1, f2, f3, f4, f5, f6⟩ := unS (c := c2) (m := up m 264 g2) (u := u) u0 u1 (by
    rw [up_eq]
    exact SRc_s hs (fun x p q => by rw [d5 x (by omega), a1 x (by omega)]) (fun i p q => by rw [d6 i (by omega), b1 i (by omega)])) (by
    rw [up_eq]
    exact WFc_s hw.s (fun i p q => by rw [d6 i (by omega), b1 i (by omega)]))
  rw [up_up] at f2
  rw [up_eq] at f6
  obtain ⟨c4, g4, h1, h2, ⟨h3, h4⟩, h5, h6⟩ := unW (c := c3) (m := up m 264 g3) (u := u) (by rw [f5 0 (by omega), d5 0 (by omega), a1 0 (by omega)]; exact hO) u0 u1 (by
    rw [up_eq]
    exact ⟨SRc_w hs hw.w (fun x p q => by rw [f5 x (by omega), d5 x (by omega), a1 x (by omega)]) (fun x p q => by rw [f5 x (by omega), d5 x (by omega), a1 x (by omega)]) (fun i p q => by rw [f6 i (by omega), d6 i (by omega), b1 i (by omega)]), WFc_w hw.w (fun i p q => by rw [f6 i (by omega), d6 i (by omega), b1 i (by omega)])⟩)
  rw [up_up] at h2
  rw [up_eq] at h6
  have c4o : ∀ o, ¬ o = 6 + u → ¬ (96 ≤ o ∧ o < 120) → ¬ (63 ≤ o ∧ o < 71) → ¬ (74 ≤ o ∧ o < 78) → ¬ (122 ≤ o ∧ o < 130) → c4 o = c o := fun o p q r s t => by rw [h5 o s t, f5 o r, d5 o q, a1 o p]
  have g4o : ∀ i, ¬ i = 6 * u → ¬ (240 ≤ i ∧ i < 732) → ¬ (840 ≤ i ∧ i < 1160) → ¬ (1168 ≤ i ∧ i < 1352) → g4 i = m 264 i := fun i p q r s => by rw [h6 i s, f6 i r, d6 i q, b1 i p]
  obtain ⟨c5, g5, k1, k2, k3, k4, k5, k7, k8, k9⟩ := unP (c0 := c) (c := c4) (m := up m 264 g4) (u := u) hs u0 u1 (by rw [c4o 0 (by omega) (by omega) (by omega) (by omega) (by omega)]; exact hO) (c4o 79 (by omega) (by omega) (by omega) (by omega) (by omega)) (by rw [c4o 3 (by omega) (by omega) (by omega) (by omega) (by omega)]) (c4o 80 (by omega) (by omega) (by omega) (by omega) (by omega)) (fun o p q => c4o o (by omega) (by omega) (by omega) (by omega) (by omega))
  rw [up_up] at k2
  rw [up_eq] at k7 k8 k9
  have qn : ∀ o, (o < 132 ∨ 220 ≤ o) → ∀ i, 0 ≤ i → i < c 3 8 → ¬ o = c 79 i + 2 := fun o ho i i0 i1 => by have := cq_k hs i0 (by omega); omega
  have c5o : ∀ o, ¬ o = 80 → (o < 130 ∨ 220 ≤ o) → c5 o = c4 o := fun o p q => k3 o p (qn o (by omega))
  have e1 : Ed_unpatchUnit c (u + 1) = some c5 := by
    unfold Ed_unpatchUnit
    rw [ar_ok (by omega) (by omega), Option.bind_some, fill3 (by omega) (by omega) k6 (by decide) (by decide), Option.bind_some, hc1, d1, f1, h1, k1]
  have e2 : M_unpatch m u = some (up m 264 g5) := by
    unfold M_unpatch
    rw [jmul_e (by omega) (by omega), sI_up (by omega) (by omega), Option.bind_some, hg1, d2, f2, h2, k2]
  refine ⟨c5, g5, e1, e2, ?_, ?_, fun o ho => ?_⟩
  · refine SR_mk (fun v v0 v1 => ?_) (fun k k0 k1' => ?_) (SRc_p hs (fun x p q => by rw [c5o x (by omega) (by omega), c4o x (by omega) (by omega) (by omega) (by omega) (by omega)]) (fun i p q => by rw [k7 i (by omega), g4o i (by omega) (by omega) (by omega) (by omega)])) (fun s v s0 s1 v0 v1 => ?_) (SRc_m hs (by rw [c5o 71 (by omega) (by omega), c4o 71 (by omega) (by omega) (by omega) (by omega) (by omega)]) (fun i p q => by rw [k7 i (by omega), g4o i (by omega) (by omega) (by omega) (by omega)])) (fun w w0 w1 => ?_) ?_ (fun i i0 i1 => ?_) ?_ (SRc_k hs (by rw [c5o 81 (by omega) (by omega), c4o 81 (by omega) (by omega) (by omega) (by omega) (by omega)]) (fun i p q => by rw [k7 i (by omega), g4o i (by omega) (by omega) (by omega) (by omega)])) (SRc_e hs (fun x p q => by rw [c5o x (by omega) (by omega), c4o x (by omega) (by omega) (by omega) (by omega) (by omega)]) (fun i p q => by rw [k7 i (by omega), g4o i (by omega) (by omega) (by omega) (by omega)])) (by rw [c5o 94 (by omega) (by omega), c5o 120 (by omega) (by omega), c4o 94 (by omega) (by omega) (by omega) (by omega) (by omega), c4o 120 (by omega) (by omega) (by omega) (by omega) (by omega)]; exact S3.z hs)
    · by_cases z : v = u
      · rw [z, c5o _ (by omega) (by omega), h5 _ (by omega) (by omega), f5 _ (by omega), d5 _ (by omega), a2, k7 _ (by omega), h6 _ (by omega), f6 _ (by omega), d6 _ (by omega), b2]
        exact ⟨rfl, fun x => absurd x (by decide)⟩
      · obtain ⟨p, q⟩ := S3.u hs v v0 v1
        rw [c5o _ (by omega) (by omega), c4o _ (by omega) (by omega) (by omega) (by omega) (by omega), k7 _ (by omega), g4o _ (by omega) (by omega) (by omega) (by omega)]
        exact ⟨p, fun x j j0 j1 => by rw [k7 _ (by omega), g4o _ (by omega) (by omega) (by omega) (by omega)]; exact q x j j0 j1⟩
    · have w := d3 k k0 k1'
      have w2 := (d4 k k0 k1').2.1
      have w2' : g2 (240 + 41 * k) ≤ 40 := w2
      rw [c5o _ (by omega) (by omega), c5o (97 + 2 * k) (by omega) (by omega), h5 _ (by omega) (by omega), h5 (97 + 2 * k) (by omega) (by omega), f5 _ (by omega), f5 (97 + 2 * k) (by omega), k7 _ (by omega), h6 _ (by omega), f6 _ (by omega)]
      exact ⟨w.1, fun i i0 i1 => by rw [k7 _ (by omega), h6 _ (by omega), f6 _ (by omega)]; exact w.2 i i0 i1⟩
    · rw [c5o _ (by omega) (by omega), h5 _ (by omega) (by omega), k7 _ (by omega), h6 _ (by omega)]
      exact f3 s v s0 s1 v0 v1
    · obtain ⟨p, q, r⟩ := h3 w w0 w1
      have ww := (h4 w w0 w1).2.2
      rw [c5o _ (by omega) (by omega), c5o (122 + 2 * w) (by omega) (by omega), c5o (123 + 2 * w) (by omega) (by omega), k7 _ (by omega), k7 (1173 + 46 * w) (by omega)]
      refine ⟨p, fun hp => ?_, r⟩
      obtain ⟨q1, q2, q3⟩ := q hp
      have r2 := (ww hp).2.2.2.2.2.2.2.2.2.2.1
      exact ⟨fun j j0 j1 => by rw [k7 _ (by omega)]; exact q1 j j0 j1, q2, fun i i0 i1 => by rw [k7 _ (by omega)]; exact q3 i i0 i1⟩
    · obtain ⟨p1, p2, p3, p4, p5, p6⟩ := S3.cur hs
      have o79 : c5 79 = c 79 := by rw [c5o 79 (by omega) (by omega), c4o 79 (by omega) (by omega) (by omega) (by omega) (by omega)]
      have o38 : c5 3 8 = c 3 8 := by rw [c5o 3 (by omega) (by omega), c4o 3 (by omega) (by omega) (by omega) (by omega) (by omega)]
      have oc : ∀ i, 0 ≤ i → i < 30 → ∀ x, 0 ≤ x → x ≤ 1 → c5 (c 79 i + x) = c (c 79 i + x) := by
        intro i i0 i1 x x0 x1
        have q := cq_k hs i0 i1
        rw [k3 _ (by omega) (fun j j0 j1 => by have := cq_k hs j0 (show j < 30 by omega); omega), c4o _ (by omega) (by omega) (by omega) (by omega) (by omega)]
      have oc0 : ∀ i, 0 ≤ i → i < 30 → c5 (c 79 i) = c (c 79 i) := by
        intro i i0 i1
        have := oc i i0 i1 0 (by omega) (by omega)
        rwa [Int.add_zero] at this
      have cnn : ∀ r, 0 ≤ r → r < 30 → cn g5 r = cn (m 264) r := fun r r0 r1 => by
        unfold cn
        rw [k7 _ (by omega), g4o _ (by omega) (by omega) (by omega) (by omega)]
      refine ⟨by rw [o79]; exact p1, by rw [o79]; exact p2, by rw [o38]; exact p3, fun i j i0 ij j1 => ?_, fun i i0 i1 => ?_, fun r r0 r1 r2 => ?_⟩
      · rw [o38] at j1
        rw [o79, oc0 i i0 (by omega), oc0 j (by omega) (by omega)]
        exact p4 i j i0 ij j1
      · rw [o38] at i1
        obtain ⟨r, r0, r1, r2, r3, r4, r5⟩ := p5 i i0 i1
        rw [o79, oc0 i i0 (by omega), oc i i0 (by omega) 1 (by omega) (by omega)]
        refine ⟨r, r0, r1, by rw [cnn r r0 r1]; exact r2, by rw [cnn r r0 r1]; exact r3, fun j j0 j1 => ?_, fun f f0 f1 => ?_⟩
        · rw [k7 _ (by omega), g4o _ (by omega) (by omega) (by omega) (by omega)]; exact r4 j j0 j1
        · rw [k5 i i0 i1 f f0 f1, k9 r f r0 r1 f0 f1, g4o _ (by omega) (by omega) (by omega) (by omega), r5 f f0 f1]
      · rw [cnn r r0 r1] at r2 ⊢
        obtain ⟨i, i0, i1, i2⟩ := p6 r r0 r1 r2
        refine ⟨i, i0, by rw [o38]; exact i1, ?_⟩
        rw [o79, oc0 i i0 (by omega)]
        exact i2
    · rw [k4 i i0 i1, k8 i i0 i1, g4o _ (by omega) (by omega) (by omega) (by omega), S3.h hs i i0 i1]
    · rw [c5o 3 (by omega) (by omega), c4o 3 (by omega) (by omega) (by omega) (by omega) (by omega), k7 _ (by omega), g4o _ (by omega) (by omega) (by omega) (by omega)]
      exact S3.b hs
  · have ko : ∀ i, ¬ i = 6 * u → ¬ (240 ≤ i ∧ i < 732) → ¬ (840 ≤ i ∧ i < 1160) → ¬ (1168 ≤ i ∧ i < 1352) → ¬ (1562 ≤ i ∧ i < 12722) → g5 i = m 264 i := fun i p q r s t => by rw [k7 i t, g4o i p q r s]
    have ku : g5 (6 * u) = -1 := by rw [k7 _ (by omega), h6 _ (by omega), f6 _ (by omega), d6 _ (by omega), b2]
    have cnn : ∀ r, 0 ≤ r → r < 30 → cn g5 r = cn (m 264) r := fun r r0 r1 => ko _ (by omega) (by omega) (by omega) (by omega) (by omega)
    refine ⟨fun v v0 v1 => ?_, fun v w v0 v1 w0 w1 vw p1 p2 => ?_, WFc_g d4 (fun i p q => by rw [k7 i (by omega), h6 i (by omega), f6 i (by omega)]), WFc_p hw.p (fun i p q => ko i (by omega) (by omega) (by omega) (by omega) (by omega)), WFc_s f4 (fun i p q => by rw [k7 i (by omega), h6 i (by omega)]), WFc_m hw.m (fun i p q => ko i (by omega) (by omega) (by omega) (by omega) (by omega)), WFc_w h4 (fun i p q => k7 i (by omega)), fun r r0 r1 => ?_, WFc_n hw.n cnn, fun i i0 i1 => ?_, WFc_b hw.b (ko _ (by omega) (by omega) (by omega) (by omega) (by omega)) cnn, WFc_k hw.k (fun i p q => ko i (by omega) (by omega) (by omega) (by omega) (by omega)), WFc_x hw.x (fun i p => ko i (by omega) (by omega) (by omega) (by omega) (by omega)), WFc_e hw.e (fun i p q => ko i (by omega) (by omega) (by omega) (by omega) (by omega))⟩
    · by_cases z : v = u
      · rw [z, ku]
        exact ⟨by decide, by decide, fun x => absurd x (by decide)⟩
      · rw [ko (6 * v) (by omega) (by omega) (by omega) (by omega) (by omega), ko (6 * v + 1) (by omega) (by omega) (by omega) (by omega) (by omega), ko (6 * v + 2) (by omega) (by omega) (by omega) (by omega) (by omega), ko (6 * v + 3) (by omega) (by omega) (by omega) (by omega) (by omega), ko (6 * v + 4) (by omega) (by omega) (by omega) (by omega) (by omega), ko (6 * v + 5) (by omega) (by omega) (by omega) (by omega) (by omega)]
        exact hw.u v v0 v1
    · have vu : ¬ v = u := fun x => by rw [x, ku] at p1; omega
      have wu : ¬ w = u := fun x => by rw [x, ku] at p2; omega
      rw [ko (6 * v) (by omega) (by omega) (by omega) (by omega) (by omega)] at p1
      rw [ko (6 * w) (by omega) (by omega) (by omega) (by omega) (by omega)] at p2
      rw [ko (6 * v) (by omega) (by omega) (by omega) (by omega) (by omega), ko (6 * v + 1) (by omega) (by omega) (by omega) (by omega) (by omega), ko (6 * w) (by omega) (by omega) (by omega) (by omega) (by omega), ko (6 * w + 1) (by omega) (by omega) (by omega) (by omega) (by omega)]
      exact hw.d v w v0 v1 w0 w1 vw p1 p2
    · have hh := hw.c r r0 r1
      rw [cnn r r0 r1]
      refine ⟨hh.1, hh.2.1, fun hp => ?_⟩
      obtain ⟨a, b, d, e, kk⟩ := hh.2.2 hp
      rw [ko (1357 + 7 * r) (by omega) (by omega) (by omega) (by omega) (by omega), ko (1358 + 7 * r) (by omega) (by omega) (by omega) (by omega) (by omega)]
      refine ⟨fun j j0 j1 => by rw [ko _ (by omega) (by omega) (by omega) (by omega) (by omega)]; exact a j j0 j1, b, d, e, fun i i0 i1 => ?_⟩
      rw [k9 r i r0 r1 i0 i1]
      by_cases z : 9 * u ≤ i ∧ i < 9 * u + 9
      · rw [if_pos z]
        exact ⟨Or.inl rfl, fun x => absurd x (by decide)⟩
      · rw [if_neg z, g4o _ (by omega) (by omega) (by omega) (by omega), ko (6 * (i / 9)) (by omega) (by omega) (by omega) (by omega) (by omega)]
        exact kk i i0 i1
    · rw [k8 i i0 i1]
      by_cases z : 9 * u ≤ i ∧ i < 9 * u + 9
      · rw [if_pos z]
        exact ⟨Or.inl rfl, fun x => absurd x (by decide)⟩
      · rw [if_neg z, g4o _ (by omega) (by omega) (by omega) (by omega), ko (6 * (i / 9)) (by omega) (by omega) (by omega) (by omega) (by omega)]
        exact hw.h i i0 i1
  · rw [c5o o (by omega) (by omega), c4o o (by omega) (by omega) (by omega) (by omega) (by omega)]
theorem ac34 {B : Int} {X : Tx} {A e : Int} {m0 c m : Mem} {TL : List Q4} {r : RW} (E : AE B X A m0 c m) (ht : TT X 0 = 34) (hv : c 241 0 = 34) (hC : CR c 248 r) (hR : ROK r) (q1 : m 259 21 = r.1) (q2 : m 271 = r.2) : ACT B c m (Ed_perform c) (M_act m) := by
  obtain ⟨hX, hT, hA, a0, hs, hw, hp, hg, kc, km, hO⟩ := E
  obtain ⟨r0, r1, r2, _⟩ := hR
  have e1 : Ed_perform c = Ed_perform_123 big c 0 := by
    unfold Ed_perform
    rw [Option.bind_some, Option.bind_some, hv]
    rfl
  have e2 : M_act m = M_act_109 big m 0 := by
    rw [(ckV hX hT a0 (w := 9) (by decide) (by decide) (by decide) (by decide) ht).2]
    rfl
  have st := loop2 (fun N μ i => Ed_perform_123 N μ i) (fun N μ i => M_act_109 N μ i) (fun _ c' m' => m' = up m 264 (m' 264) ∧ SR c' 3 (m' 264) ∧ WF (m' 264) ∧ (∀ o, ¬ (3 ≤ o ∧ o < 220) → c' o = c o)) 0 0 0 r.1 (by
    intro a b i c1 m1 i0 i1 ⟨x1, x2, x3, x4⟩
    have u := r2 i i0 i1
    obtain ⟨c', h, d1, d2, d3, d4, d5⟩ := unp x2 x3 (by rw [x4 0 (by omega)]; exact hO) u.1 u.2
    have e49 : c1 249 i = r.2 i + 1 := by rw [x4 249 (by omega)]; exact hC.2 i i0 i1
    refine ⟨c', up m1 264 h, ?_, ?_, ?_, by rw [up_eq]; exact d3, by rw [up_eq]; exact d4, fun o ho => by rw [d5 o ho, x4 o ho]⟩
    · show Ed_perform_123 (a + 1) c1 (0 + i) = Ed_perform_123 a c' (0 + i + 1)
      rw [show (0 : Int) + i = i by omega, Ed_perform_123, x4 248 (by omega), hC.1, if_neg (by omega), aI_ok i0 (by omega), Option.bind_some, e49, d1, Option.bind_some, jadd_e (by omega) (by omega)]
    · show M_act_109 (b + 1) m1 (0 + i) = M_act_109 b _ (0 + i + 1)
      have m21 : m1 259 21 = r.1 := by rw [x1, up_ne (by decide)]; exact q1
      have m71 : m1 271 i = r.2 i := by rw [x1, up_ne (by decide), q2]
      rw [show (0 : Int) + i = i by omega, M_act_109, m21, if_neg (by omega), aI_ok i0 (by omega), Option.bind_some, m71, d2, Option.bind_some, jadd_e (by omega) (by omega)]
    · rw [up_eq]
      conv => lhs; rw [x1]
      rw [up_up]) r.1.toNat big big 0 c m (by omega) (by omega) (by have := big_ge; omega) (by have := big_ge; omega) ⟨up_id.symm, hs, hw, fun _ _ => rfl⟩
  obtain ⟨c', m', a, b, f1, f2, x1, x2, x3, x4⟩ := st
  have f1' : Ed_perform_123 big c 0 = Ed_perform_123 (a + 1) c' (0 + r.1) := f1
  have f2' : M_act_109 big m 0 = M_act_109 (b + 1) m' (0 + r.1) := f2
  refine ACT_s (h := m' 264) hp hg (c' := c') ?_ ?_ x4 x2 x3
  · rw [e1, f1', Ed_perform_123, x4 248 (by omega), hC.1, if_pos (by omega)]
  · have m21 : m' 259 21 = r.1 := by rw [x1, up_ne (by decide)]; exact q1
    rw [e2, f2', M_act_109, m21, if_pos (by omega), ← x1]
