-- L3: a new desk and a new model are one
theorem g0_m {j : Int} (h : (0 ≤ j ∧ j < 240 ∧ j % 6 = 0) ∨ (732 ≤ j ∧ j < 1160) ∨ (1168 ≤ j ∧ j < 1352 ∧ (j - 1168) % 46 = 0) ∨ (1562 ≤ j ∧ j < 12943)) : g0 j = -1 := by
  unfold g0 gI
  exact if_pos (by omega)
theorem g0_0 {j : Int} (h : ¬ ((0 ≤ j ∧ j < 240 ∧ j % 6 = 0) ∨ (732 ≤ j ∧ j < 1160) ∨ (1168 ≤ j ∧ j < 1352 ∧ (j - 1168) % 46 = 0) ∨ (1562 ≤ j ∧ j < 12943))) : g0 j = 0 := by
  unfold g0 gI
  exact if_neg (by omega)
theorem ShN_m {b r j : Int} (h : (2 ≤ r ∧ r < 43 ∧ 0 ≤ j ∧ j < 6) ∨ (45 ≤ r ∧ r < 58 ∧ 0 ≤ j ∧ j < 9) ∨ (59 ≤ r ∧ r < 68 ∧ 0 ≤ j ∧ j < 41) ∨ (70 ≤ r ∧ r < 75 ∧ 0 ≤ j ∧ j < 5) ∨ (80 ≤ r ∧ r < 91 ∧ 0 ≤ j ∧ j < 2) ∨ (r = 77 ∧ 0 ≤ j ∧ j < 360) ∨ (r = 78 ∧ 0 ≤ j ∧ j < 201)) : ShN b r j = -1 := by
  rw [ShN_L (by omega) (by omega) (by omega) (by omega) (by omega)]
  unfold ShL
  rw [if_pos h]
theorem ShN_68 {b j : Int} : ShN b 68 j = 0 := by
  rw [ShN_L (by decide) (by decide) (by decide) (by decide) (by decide)]
  unfold ShL ShP ShO
  rw [if_neg (by omega), if_neg (by omega), if_neg (by omega), if_neg (by omega), if_neg (by omega), if_neg (by omega), if_neg (by omega)]
theorem ShN_r1 {b r : Int} (h0 : 91 ≤ r) (h1 : r < 127) (h2 : (r - 91) % 2 = 0) : ShN b r 1 = 0 := by
  unfold ShN ShC
  rw [if_neg (show ¬ (127 ≤ r ∧ r < 127 + 3 * 30) by omega), if_neg (show ¬ (r = 76 ∧ (0 : Int) ≤ 1 ∧ (1 : Int) < 30) by omega)]
  by_cases z : 117 ≤ r
  · unfold ShR
    rw [if_pos (show 117 ≤ r ∧ r < 117 + 2 * 5 by omega), if_neg (by omega)]
  · generalize hP : ShL b = P
    unfold ShR
    rw [if_neg (show ¬ (117 ≤ r ∧ r < 117 + 2 * 5) by omega), if_neg (show ¬ (r = 75 ∧ (0 : Int) ≤ 1 ∧ (1 : Int) < 5) by omega), if_pos (show 91 ≤ r ∧ r < 91 + 2 * 13 by omega), if_neg (by omega)]
theorem SR0 {c : Mem} (hS : ∀ r, 0 ≤ r → r < 217 → ∀ j, c (3 + r) j = ShN 3 r j) : SR c 3 g0 := by
  have h8 : c 3 8 = 0 := by
    have h := hS 0 (by decide) (by decide) 8
    rw [ShN_0 (by decide) (by decide)] at h
    exact h
  have h10 : c 3 10 = -1 := by
    have h := hS 0 (by decide) (by decide) 10
    rw [ShN_0 (by decide) (by decide)] at h
    exact h
  have e : ∀ x r j : Int, x = 3 + r → 0 ≤ r → r < 217 → c x j = ShN 3 r j := fun x r j hx r0 r1 => by rw [hx, hS r r0 r1]
  have gu : ∀ u : Int, 0 ≤ u → u < 40 → g0 (6 * u) = -1 := fun u a b => g0_m (by omega)
  have gc : ∀ r : Int, 0 ≤ r → r < 30 → cn g0 r = 0 := fun r a b => by unfold cn; exact g0_0 (by omega)
  have q76 : ∀ i : Int, 0 ≤ i → i < 30 → c (3 + 76) i = 3 + 127 + 3 * i := fun i a b => by rw [hS 76 (by decide) (by decide), ShN_76 a b]
  refine ⟨fun u u0 u1 => ⟨?_, fun h => ?_⟩, fun k k0 k1 => ⟨?_, fun i i0 i1 => ?_⟩, fun k p k0 k1 p0 p1 => ?_, fun s u s0 s1 u0 u1 => ?_, fun s s0 s1 => ?_, fun w w0 w1 => ⟨?_, fun h => ?_, fun _ => ⟨fun j j0 j1 => ?_, ?_⟩⟩, fun i i0 i1 => ⟨i, i0, i1, q76 i i0 i1⟩, fun i j i0 ij j1 => ?_, ⟨by omega, by omega⟩, fun i j i0 ij j1 => ?_, fun i i0 i1 => ?_, fun r r0 r1 h => ?_, fun i i0 i1 => ?_, ?_, fun k k0 k1 => ?_, fun e' j e0 e1 j0 j1 => ?_, ?_, ?_⟩
  · rw [e _ (3 + u) _ (by omega) (by omega) (by omega), gu u u0 u1, ShN_m (by omega)]
  · rw [gu u u0 u1] at h
    exact absurd h (by decide)
  · rw [e _ (93 + 2 * k) _ (by omega) (by omega) (by omega), ShN_r1 (by omega) (by omega) (by omega), g0_0 (by omega)]
  · rw [g0_0 (by omega)] at i1
    exact absurd i1 (by omega)
  · rw [e _ (46 + k) _ (by omega) (by omega) (by omega), ShN_m (by omega), g0_m (by omega)]
  · rw [e _ (60 + s) _ (by omega) (by omega) (by omega), ShN_m (by omega), g0_m (by omega)]
  · rw [e _ 68 _ (by omega) (by omega) (by omega), ShN_68, g0_0 (by omega)]
  · rw [e _ (71 + w) _ (by omega) (by omega) (by omega), ShN_m (by omega), g0_m (by omega)]
  · rw [g0_m (by omega)] at h
    exact absurd h (by decide)
  · rw [e _ (71 + w) _ (by omega) (by omega) (by omega), ShN_m (by omega)]
  · rw [e _ (119 + 2 * w) _ (by omega) (by omega) (by omega), ShN_r1 (by omega) (by omega) (by omega)]
  · rw [q76 i i0 (by omega), q76 j (by omega) j1]
    omega
  · rw [h8] at j1
    exact absurd j1 (by omega)
  · rw [h8] at i1
    exact absurd i1 (by omega)
  · rw [gc r r0 r1] at h
    exact absurd h (by decide)
  · rw [e _ 77 _ (by omega) (by omega) (by omega), ShN_m (by omega), g0_m (by omega)]
  · show c 3 10 = g0 12722
    rw [h10, g0_m (by omega)]
  · rw [e _ 78 _ (by omega) (by omega) (by omega), ShN_m (by omega), g0_m (by omega)]
  · rw [e _ (81 + e') _ (by omega) (by omega) (by omega), ShN_m (by omega), g0_m (by omega)]
  · rw [e _ 91 _ (by omega) (by omega) (by omega), ShN_r1 (by omega) (by omega) (by omega)]
  · rw [e _ 117 _ (by omega) (by omega) (by omega), ShN_r1 (by omega) (by omega) (by omega)]
theorem WF0 : WF g0 := by
  have gu : ∀ u : Int, 0 ≤ u → u < 40 → g0 (6 * u) = -1 := fun u a b => g0_m (by omega)
  have gw : ∀ w : Int, 0 ≤ w → w < 4 → g0 (1168 + 46 * w) = -1 := fun u a b => g0_m (by omega)
  have gc : ∀ r : Int, 0 ≤ r → r < 30 → cn g0 r = 0 := fun r a b => by unfold cn; exact g0_0 (by omega)
  refine ⟨fun u u0 u1 => ?_, fun u v u0 u1 v0 v1 _ h => ?_, fun k k0 k1 => ?_, fun k p k0 k1 p0 p1 => ?_, fun s u s0 s1 u0 u1 => ?_, fun s s0 s1 => ?_, fun w w0 w1 => ?_, fun r r0 r1 => ?_, fun r q r0 r1 q0 q1 e h => ?_, fun i i0 i1 => ?_, Or.inl (g0_m (by omega)), fun k k0 k1 => ?_, fun i h => g0_0 (by omega), fun e e0 e1 => Or.inl ⟨g0_m (by omega), g0_m (by omega)⟩⟩
  · rw [gu u u0 u1]
    exact ⟨by decide, by decide, fun h => absurd h (by decide)⟩
  · rw [gu u u0 u1] at h
    exact absurd h (by decide)
  · rw [g0_0 (show ¬ ((0 ≤ 240 + 41 * k ∧ 240 + 41 * k < 240 ∧ (240 + 41 * k) % 6 = 0) ∨ (732 ≤ 240 + 41 * k ∧ 240 + 41 * k < 1160) ∨ (1168 ≤ 240 + 41 * k ∧ 240 + 41 * k < 1352 ∧ (240 + 41 * k - 1168) % 46 = 0) ∨ (1562 ≤ 240 + 41 * k ∧ 240 + 41 * k < 12943)) by omega)]
    exact ⟨by decide, by decide, fun i i0 i1 => absurd i1 (by omega), fun i j i0 ij j1 => absurd j1 (by omega)⟩
  · rw [g0_m (by omega)]
    exact ⟨by decide, by decide⟩
  · rw [g0_m (by omega)]
    exact ⟨by decide, by decide⟩
  · exact Or.inl (g0_0 (by omega))
  · rw [gw w w0 w1]
    exact ⟨by decide, by decide, fun h => absurd h (by decide)⟩
  · rw [gc r r0 r1]
    exact ⟨by decide, by decide, fun h => absurd h (by decide)⟩
  · rw [gc r r0 r1] at h
    exact absurd h (by decide)
  · rw [g0_m (show (0 ≤ 12362 + i ∧ 12362 + i < 240 ∧ (12362 + i) % 6 = 0) ∨ (732 ≤ 12362 + i ∧ 12362 + i < 1160) ∨ (1168 ≤ 12362 + i ∧ 12362 + i < 1352 ∧ (12362 + i - 1168) % 46 = 0) ∨ (1562 ≤ 12362 + i ∧ 12362 + i < 12943) by omega)]
    exact ⟨Or.inl rfl, fun h => absurd h (by decide)⟩
  · rw [g0_m (by omega)]
    exact ⟨by decide, by decide⟩
/-- the memory before all: tables, texts, no object yet -/
def PRE (c : Mem) : Prop := TXT c ∧ c 0 0 = 0 ∧ KON_home c ∧ KON_has c ∧ KON_sok c ∧ KON_lay c ∧ KON_lea c ∧ KON_gre c ∧ (∀ o j, 0 < o → c o j = 0)
theorem kd_out5 : ∀ n : Nat, n < 281 → ¬ (3 ≤ n ∧ n < 220) → (kd (n : Int) = 5 → n = 248) ∧ ¬ kd (n : Int) = 1 ∧ ¬ kd (n : Int) = 7 ∧ ¬ kd (n : Int) = 110 ∧ ¬ kd (n : Int) = 125 := by decide +kernel
theorem FX0 {μ : Mem} (h1 : ∀ p ∈ fxT, μ p.1 p.2.1 = p.2.2) (h0 : μ 0 0 = 280) (h248 : μ 248 0 = 249) (hS : ∀ r, 0 ≤ r → r < 217 → ∀ j, μ (3 + r) j = ShN 3 r j) : FX μ := by
  refine ⟨h1, by omega, fun o o0 o1 => ?_⟩
  by_cases z : 3 ≤ o ∧ o < 220
  · obtain ⟨r, rfl⟩ : ∃ r, o = 3 + r := ⟨o - 3, by omega⟩
    have hb : SHB 3 := Or.inl rfl
    have ek : kd (3 + r) = (shK r).1 := by unfold kd; rw [ob_b hb (by omega) (by omega)]
    have el : ln (3 + r) = (shK r).2 := by unfold ln; rw [ob_b hb (by omega) (by omega)]
    have ei : ∀ j, μ (3 + r) j = ShN 3 r j := fun j => hS r (by omega) (by omega) j
    rw [ek, el]
    refine ⟨fun e => ?_, fun e => ⟨?_, ?_⟩, fun e q hq => ?_, fun e i i0 i1 => ?_, fun e i i0 i1 => ?_⟩
    · have hh := shK_i5 (by omega) (by omega) e
      rw [ei, ShN_5 hh.1 hh.2.1 hh.2.2]
    · have hh := shK_i1 (by omega) (by omega) e
      rw [ei, ShN_1 hh.1 (by omega) hh.2 (Or.inl rfl)]
    · have hh := shK_i1 (by omega) (by omega) e
      rw [ei, ShN_1 hh.1 (by omega) hh.2 (Or.inr rfl)]
    · have hh := shK_i7 (by omega) (by omega) e
      rw [ei, hh, shT_N q hq]
      omega
    · have hh := shK_i110 (by omega) (by omega) e
      rw [ei, ShN_O (by omega)]
      unfold ShO
      rcases hh with ⟨x, y⟩ | ⟨x, y⟩ | ⟨x, y⟩ | ⟨x, y⟩ | ⟨x, y⟩
      all_goals rw [y] at i1
      all_goals repeat' split
      all_goals omega
    · have hh := shK_i125 (by omega) (by omega) e
      rcases hh with ⟨x, y⟩ | ⟨x, y⟩
      · rw [y] at i1
        rw [ei, x, ShN_43 i0 i1, show (shK 43).2 = 13 by decide +kernel, if_pos rfl]
        omega
      · rw [y] at i1
        rw [ei, x, ShN_75 i0 i1, show (shK 75).2 = 5 by decide +kernel, if_neg (by decide)]
        omega
  · obtain ⟨n, rfl⟩ : ∃ n : Nat, o = (n : Int) := ⟨o.toNat, by omega⟩
    obtain ⟨k1, k2, k3, k4, k5⟩ := kd_out5 n (by omega) (by omega)
    refine ⟨fun e => ?_, fun e => absurd e k2, fun e => absurd e k3, fun e => absurd e k4, fun e => absurd e k5⟩
    have := k1 e
    subst this
    exact h248
theorem hm_r : ∀ n : Nat, n < 9 → 0 ≤ tbl hmT (n : Int) ∧ tbl hmT (n : Int) ≤ 1000 := by decide +kernel
theorem start {c : Mem} (h : PRE c) : ∃ d μ, wD_init (al 1 c) 1 = some d ∧ d 0 0 = 258 ∧ wM_init (al 259 d) 259 = some μ ∧ INV 0 μ μ ∧ FX μ ∧ μ 0 1 = c 0 1 ∧ (∀ o, o < 0 → μ o = c o) := by
  obtain ⟨hT, h0, t1, t2, t3, t4, t5, t6, hz⟩ := h
  have cn0 : ∀ o, o < 0 → al 1 c o = c o := fun o x => al_o (by omega) (by omega)
  obtain ⟨d, e1, e2, e3, e4, e5, ⟨f0, f1, f2, f3, f4, f5, f6, f7, f8, f9, f10, f11, f12, f13, f14⟩, fS, f220, ⟨p1, p2, p3, p4, p5, p6, p7, p8, p9, p10, p11, p12, p13, p14⟩, ⟨q1, q2, q3, q4, q5, q6, q7, q8, q9, q10, q11, q12⟩, ⟨w1, w2, w3, w4⟩, ⟨s1, s2, s3, s4, s5, s6, s7, s8⟩, ⟨r1, r2, r3, r4, r5⟩, ⟨x1, x2⟩, ⟨y1, y2, y3⟩, ⟨z1, z2, z3⟩⟩ := mk_D (c := al 1 c) (TXT_c hT cn0) al_0
  rw [al_1 (by decide)] at e3
  obtain ⟨m, em⟩ : ∃ m, m = al 259 d := ⟨_, rfl⟩
  have m0 : m 0 0 = 259 := by rw [em]; exact al_0
  have m1 : m 0 1 = c 0 1 := by rw [em, al_1 (by decide), e3]
  have mo : ∀ o, ¬ o = 0 → ¬ o = 259 → m o = d o := fun o x y => by rw [em, al_o x y]
  have mz : ∀ j, m 259 j = 0 := fun j => by rw [em, al_k (by decide)]
  obtain ⟨μ, eμ⟩ : ∃ μ, μ = mM m := ⟨_, rfl⟩
  have u0 : μ 0 0 = 280 := by rw [eμ]; exact mM_0
  have u1 : μ 0 1 = c 0 1 := by rw [eμ, mM_1, m1]
  have uo : ∀ o, ¬ o = 0 → ¬ (259 ≤ o ∧ o ≤ 280) → μ o = d o := fun o x y => by rw [eμ, mM_o x y, mo o x (by omega)]
  have un : ∀ o, o < 0 → μ o = c o := fun o x => by rw [uo o (by omega) (by omega), e4 o x, cn0 o x]
  have ut : ∀ o, 260 ≤ o → o ≤ 263 → μ o = mT m o := fun o x y => by rw [eμ, mM_t x y]
  have u259 : μ 259 = mL (mT m) 259 := by rw [eμ, mM_259]
  have u264 : μ 264 = g0 := by rw [eμ, mM_264]
  have uz : ∀ o j, 265 ≤ o → o ≤ 280 → ¬ o = 272 → ¬ o = 273 → μ o j = 0 := fun o j a b x y => by rw [eμ, mM_z a b x y]
  have ug : ∀ o j, (o = 272 ∨ o = 273) → 0 ≤ j → j < 360 → μ o j = tbl hmT (j % 9) := fun o j a x y => by rw [eμ, mM_g a x y]
  have hS : ∀ r, 0 ≤ r → r < 217 → ∀ j, μ (3 + r) j = ShN 3 r j := fun r x y j => by rw [uo (3 + r) (by omega) (by omega), fS (3 + r) (by omega) (by omega), shM_i (by decide) (by omega) (by omega)]
  have hr : ∀ i : Int, 0 ≤ i → 0 ≤ tbl hmT (i % 9) ∧ tbl hmT (i % 9) ≤ 1000 := by
    intro i i0
    obtain ⟨n, hn⟩ : ∃ n : Nat, i % 9 = (n : Int) := ⟨(i % 9).toNat, by omega⟩
    rw [hn]
    exact hm_r n (by omega)
  have g1 : ∀ i, 0 ≤ i → i < 360 → μ 222 i = tbl hmT (i % 9) := fun i a b => by rw [uo 222 (by decide) (by decide), p1 i a b, cn0 (-1) (by decide), t1 _ (by omega) (by omega)]
  have g2 : ∀ i, 0 ≤ i → i < 360 → μ 223 i = tbl hmT (i % 9) := fun i a b => by rw [uo 223 (by decide) (by decide), p2 i a b, cn0 (-1) (by decide), t1 _ (by omega) (by omega)]
  have kon : KON μ := by
    refine ⟨fun i a b => ?_, fun i a b => ?_, fun i a b => ?_, fun i a b => ?_, fun i a b => ?_, fun i a b => ?_, fun i a b => ?_, fun i a b => ?_, fun i a b => ?_, fun i a b => ?_, fun i a b => ?_, fun i a b => ?_⟩
    · rw [ut 261 (by decide) (by decide), mT_261, hmC_i a b]
    · rw [ut 262 (by decide) (by decide), mT_262, soC_i a b]
    · rw [ut 263 (by decide) (by decide), mT_263, sfC_i a b]
    · rw [ut 260 (by decide) (by decide), mT_260, wdC_i a b]
    · rw [un (-1) (by decide), t1 i a b]
    · rw [un (-2) (by decide), t2 i a b]
    · rw [un (-3) (by decide), t3 i a b]
    · rw [un (-4) (by decide), t4 i a b]
    · rw [un (-5) (by decide), t5 i a b]
    · rw [un (-6) (by decide), t6 i a b]
    · rw [uo 232 (by decide) (by decide), w3 i a b]
    · rw [uo 240 (by decide) (by decide), w4 i a b]
  have fx : FX μ := by
    refine FX0 ?_ u0 (by rw [uo 248 (by decide) (by decide), s8]) hS
    have h259 : ∀ p ∈ fxT, p.1 = 259 → mL (mT m) 259 p.2.1 = p.2.2 := by
      intro p hp e
      unfold fxT at hp
      simp only [List.mem_cons, List.not_mem_nil, or_false] at hp
      repeat' (first | (rcases hp with rfl | hp) | (subst hp))
      all_goals first | exact absurd e (by decide) | rfl
    intro p hp
    by_cases z : p.1 = 259
    · rw [z, u259]
      exact h259 p hp z
    · have hh : ∀ p ∈ fxT, 0 < p.1 ∧ (p.1 = 259 ∨ p.1 < 259) := by decide +kernel
      rw [uo p.1 (by have := hh p hp; omega) (by have := hh p hp; omega)]
      unfold fxT at hp
      simp only [List.mem_cons, List.not_mem_nil, or_false] at hp
      repeat' (first | (rcases hp with rfl | hp) | (subst hp))
      all_goals first | exact absurd rfl z | assumption
  refine ⟨d, μ, e1, e2, by rw [← em, mk_M m0, eμ], ?_, fx, u1, un⟩
  have U : ∀ f, μ 259 f = mL (mT m) 259 f := fun f => by rw [u259]
  have v7 : μ 259 7 = 0 := by rw [U, mF_7 mz]
  have v8 : μ 259 8 = 0 := by rw [U, mF_8 mz]
  have v10 : μ 259 10 = 0 := by rw [U, mF_10 mz]
  have v11 : μ 259 11 = 0 := by rw [U, mF_11 mz]
  have v12 : μ 259 12 = -1 := by rw [U, mF_12]
  have v27 : μ 259 27 = 0 := by rw [U, mF_27 mz]
  have v28 : μ 259 28 = 0 := by rw [U, mF_28 mz]
  have v29 : μ 259 29 = 0 := by rw [U, mF_29 mz]
  have v30 : μ 259 30 = 0 := by rw [U, mF_30 mz]
  have v31 : μ 259 31 = 0 := by rw [U, mF_31 mz]
  have v34 : μ 259 34 = 1000 := by rw [U, mF_34]
  have v35 : μ 259 35 = 0 := by rw [U, mF_35 mz]
  have k1 : μ 1 = d 1 := uo 1 (by decide) (by decide)
  have k220 : μ 220 = d 220 := uo 220 (by decide) (by decide)
  have k221 : μ 221 = d 221 := uo 221 (by decide) (by decide)
  have k226 : μ 226 = d 226 := uo 226 (by decide) (by decide)
  have zr : ∀ o, 227 ≤ o → o ≤ 230 → ∀ j, μ o j = 0 := by
    intro o a b j
    rw [uo o (by omega) (by omega)]
    have : o = 227 ∨ o = 228 ∨ o = 229 ∨ o = 230 := by omega
    rcases this with rfl | rfl | rfl | rfl
    · exact q1 j
    · exact q2 j
    · exact q3 j
    · exact q4 j
  refine ⟨kon, kon, ?_, ?_, ?_, ?_, ?_, ?_, ?_⟩
  · show 280 ≤ μ 0 0
    omega
  · show SR μ 3 (μ 264)
    rw [u264]
    exact SR0 hS
  · show WF (μ 264)
    rw [u264]
    exact WF0
  · refine ⟨fun i a b => ?_, fun i a b => ?_, fun i a b => ?_, ?_, ?_⟩
    · have := hr i a
      rw [g1 i a b, ug 272 i (Or.inl rfl) a b]
      exact ⟨rfl, this⟩
    · have := hr i a
      rw [g2 i a b, ug 273 i (Or.inr rfl) a b]
      exact ⟨Or.inl rfl, this.1, this.2, this.1, this.2⟩
    · rw [uo 224 (by decide) (by decide), uo 225 (by decide) (by decide), p3, p4, uz 274 i (by decide) (by decide) (by decide) (by decide), uz 275 i (by decide) (by decide) (by decide) (by decide)]
      decide
    · unfold PR_K
      rw [k221, p6, p7, v27, v28]
      decide
    · unfold PR_C
      rw [k221, p8, p9, p10, v29, v30, v31]
      decide
  · refine ⟨fun s a b => ?_, fun s a b => ?_, ?_, ?_, fun s a b => ?_, fun s a b => ?_⟩
    · rw [zr 227 (by decide) (by decide), uz 276 s (by decide) (by decide) (by decide) (by decide)]
      decide
    · rw [zr 228 (by decide) (by decide), uz 277 s (by decide) (by decide) (by decide) (by decide)]
      decide
    · unfold GR_g
      rw [k226, q9, v34]
      decide
    · unfold GR_k
      rw [k226, q10, v35]
      decide
    · rw [zr 229 (by decide) (by decide), uz 278 s (by decide) (by decide) (by decide) (by decide)]
      decide
    · rw [zr 230 (by decide) (by decide), uz 279 s (by decide) (by decide) (by decide) (by decide)]
  · refine ⟨?_, fun i a b => ?_, ?_⟩
    · unfold TR_n
      rw [k1, f1, v10]
      decide
    · rw [v10] at b
      exact absurd b (by omega)
    · unfold TR_f
      rw [k1, f2, f3, v11, v12]
      exact ⟨rfl, rfl⟩
  · refine ⟨?_, ⟨0, by decide, by decide, by omega, by omega, fun i a b => absurd b (by omega), fun i j a b x => absurd x (by omega), fun i a b => by rw [k220, f220]⟩, fun k a b => ?_, fun i a b j x y hj => ?_⟩
    · unfold HR_n
      rw [k1, f6, v7, v8]
      decide
    · rw [v7] at b
      exact absurd b (by omega)
    · rw [k220, f220] at hj
      omega
