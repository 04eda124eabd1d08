-- L3: enter: a show's parts hang on their own places
theorem RowOK_c {f f' : Int → Int} {n : Int} (h : RowOK f n) (e : ∀ i, 0 ≤ i → i < n → f' i = f i) : RowOK f' n := by
  obtain ⟨h1, h2, h3, h4⟩ := h
  refine ⟨h1, h2, fun i i0 i1 => by rw [e i i0 i1]; exact h3 i i0 i1, fun i j i0 ij j1 => ?_⟩
  rw [e i i0 (by omega), e j (by omega) j1]
  exact h4 i j i0 ij j1
theorem WFc_u {g h : Int → Int} (hw : WF_u g) (e : ∀ i, 0 ≤ i → i < 240 → h i = g i) : WF_u h := by
  intro u u0 u1
  rw [e (6 * u) (by omega) (by omega), e (6 * u + 1) (by omega) (by omega), e (6 * u + 2) (by omega) (by omega), e (6 * u + 3) (by omega) (by omega), e (6 * u + 4) (by omega) (by omega), e (6 * u + 5) (by omega) (by omega)]
  exact hw u u0 u1
theorem WFc_d {g h : Int → Int} (hw : WF_d g) (e : ∀ i, 0 ≤ i → i < 240 → h i = g i) : WF_d h := by
  intro u v u0 u1 v0 v1 hn
  rw [e (6 * u) (by omega) (by omega), e (6 * u + 1) (by omega) (by omega), e (6 * v) (by omega) (by omega), e (6 * v + 1) (by omega) (by omega)]
  exact hw u v u0 u1 v0 v1 hn
theorem WFc_g {g h : Int → Int} (hw : WF_g g) (e : ∀ i, 240 ≤ i → i < 732 → h i = g i) : WF_g h := by
  intro k k0 k1
  have r := hw k k0 k1
  have r2 := r.2.1
  rw [e (240 + 41 * k) (by omega) (by omega)]
  exact RowOK_c r (fun i a b => e (241 + 41 * k + i) (by omega) (by omega))
theorem WFc_p {g h : Int → Int} (hw : WF_p g) (e : ∀ i, 732 ≤ i → i < 840 → h i = g i) : WF_p h := by
  intro k p k0 k1 p0 p1
  rw [e (732 + 9 * k + p) (by omega) (by omega)]
  exact hw k p k0 k1 p0 p1
theorem WFc_s {g h : Int → Int} (hw : WF_s g) (e : ∀ i, 840 ≤ i → i < 1160 → h i = g i) : WF_s h := by
  intro s u s0 s1 u0 u1
  rw [e (840 + 40 * s + u) (by omega) (by omega)]
  exact hw s u s0 s1 u0 u1
theorem WFc_m {g h : Int → Int} (hw : WF_m g) (e : ∀ i, 1160 ≤ i → i < 1168 → h i = g i) : WF_m h := by
  intro s s0 s1
  rw [e (1160 + s) (by omega) (by omega)]
  exact hw s s0 s1
theorem WFc_w {g h : Int → Int} (hw : WF_w g) (e : ∀ i, 1168 ≤ i → i < 1352 → h i = g i) : WF_w h := by
  intro w w0 w1
  obtain ⟨a, b, d⟩ := hw w w0 w1
  rw [e (1168 + 46 * w) (by omega) (by omega), e (1169 + 46 * w) (by omega) (by omega), e (1170 + 46 * w) (by omega) (by omega), e (1171 + 46 * w) (by omega) (by omega), e (1172 + 46 * w) (by omega) (by omega), e (1173 + 46 * w) (by omega) (by omega)]
  refine ⟨a, b, fun hp => ?_⟩
  obtain ⟨d1, d2, d3, d4, d5, d6, d7, d8, d9, d10⟩ := d hp
  have r2 := d10.2.1
  exact ⟨d1, d2, d3, d4, d5, d6, d7, d8, d9, RowOK_c d10 (fun i a b => e (1174 + 46 * w + i) (by omega) (by omega))⟩
theorem WFc_c {g h : Int → Int} (hw : WF_c g) (e1 : ∀ i, 0 ≤ i → i < 240 → h i = g i) (e2 : ∀ i, 1352 ≤ i → i < 12362 → h i = g i) : WF_c h := by
  intro r r0 r1
  have hh := hw r r0 r1
  unfold cn at hh ⊢
  rw [e2 (1352 + 7 * r) (by omega) (by omega), e2 (1357 + 7 * r) (by omega) (by omega), e2 (1358 + 7 * r) (by omega) (by omega)]
  refine ⟨hh.1, hh.2.1, fun hp => ?_⟩
  obtain ⟨a, b, d, f, k⟩ := hh.2.2 hp
  refine ⟨fun j j0 j1 => ?_, b, d, f, fun i i0 i1 => ?_⟩
  · rw [e2 (1352 + 7 * r + j) (by omega) (by omega)]; exact a j j0 j1
  · rw [e2 (1562 + 360 * r + i) (by omega) (by omega), e1 (6 * (i / 9)) (by omega) (by omega)]; exact k i i0 i1
theorem WFc_n {g h : Int → Int} (hw : WF_n g) (e : ∀ r, 0 ≤ r → r < 30 → cn h r = cn g r) : WF_n h := by
  intro r q r0 r1 q0 q1
  rw [e r r0 r1, e q q0 q1]
  exact hw r q r0 r1 q0 q1
theorem WFc_h {g h : Int → Int} (hw : WF_h g) (e1 : ∀ i, 0 ≤ i → i < 240 → h i = g i) (e2 : ∀ i, 12362 ≤ i → i < 12722 → h i = g i) : WF_h h := by
  intro i i0 i1
  rw [e2 (12362 + i) (by omega) (by omega), e1 (6 * (i / 9)) (by omega) (by omega)]
  exact hw i i0 i1
theorem WFc_b {g h : Int → Int} (hw : WF_b g) (e1 : h 12722 = g 12722) (e2 : ∀ r, 0 ≤ r → r < 30 → cn h r = cn g r) : WF_b h := by
  unfold WF_b at hw ⊢
  rw [e1]
  rcases hw with a | ⟨a, b, r, r0, r1, r2⟩
  · exact Or.inl a
  · exact Or.inr ⟨a, b, r, r0, r1, by rw [e2 r r0 r1]; exact r2⟩
theorem WFc_k {g h : Int → Int} (hw : WF_k g) (e : ∀ i, 12723 ≤ i → i < 12923 → h i = g i) : WF_k h := by
  intro k k0 k1
  rw [e (12723 + k) (by omega) (by omega)]
  exact hw k k0 k1
theorem WFc_x {g h : Int → Int} (hw : WF_x g) (e : ∀ i, ¬ (0 ≤ i ∧ i < 12943) → h i = g i) : WF_x h := by
  intro i hi
  rw [e i hi]
  exact hw i hi
theorem WFc_e {g h : Int → Int} (hw : WF_e g) (e : ∀ i, 12923 ≤ i → i < 12943 → h i = g i) : WF_e h := by
  intro x x0 x1
  rw [e (12923 + 2 * x) (by omega) (by omega), e (12924 + 2 * x) (by omega) (by omega)]
  exact hw x x0 x1
theorem SRc_u {c d : Mem} {g h : Int → Int} (hs : SR c 3 g) (o : ∀ x, 6 ≤ x → x < 46 → d x = c x) (e : ∀ i, 0 ≤ i → i < 240 → h i = g i) : ∀ u, 0 ≤ u → u < 40 → d (6 + u) 0 = h (6 * u) ∧ (0 ≤ h (6 * u) → ∀ j, 1 ≤ j → j ≤ 5 → d (6 + u) j = h (6 * u + j)) := by
  intro u u0 u1
  obtain ⟨a, b⟩ := S3.u hs u u0 u1
  rw [o (6 + u) (by omega) (by omega), e (6 * u) (by omega) (by omega)]
  exact ⟨a, fun x j j0 j1 => by rw [e (6 * u + j) (by omega) (by omega)]; exact b x j j0 j1⟩
theorem SRc_g {c d : Mem} {g h : Int → Int} (hs : SR c 3 g) (hw : WF_g g) (o : ∀ x, 96 ≤ x → x < 120 → d x = c x) (e : ∀ i, 240 ≤ i → i < 732 → h i = g i) : ∀ k, 0 ≤ k → k < 12 → d (96 + 2 * k) 1 = h (240 + 41 * k) ∧ (∀ i, 0 ≤ i → i < h (240 + 41 * k) → d (97 + 2 * k) i = h (241 + 41 * k + i) + 1) := by
  intro k k0 k1
  obtain ⟨a, b⟩ := S3.g hs k k0 k1
  have r2 := (hw k k0 k1).2.1
  rw [o (96 + 2 * k) (by omega) (by omega), o (97 + 2 * k) (by omega) (by omega), e (240 + 41 * k) (by omega) (by omega)]
  exact ⟨a, fun i i0 i1 => by rw [e (241 + 41 * k + i) (by omega) (by omega)]; exact b i i0 i1⟩
theorem SRc_p {c d : Mem} {g h : Int → Int} (hs : SR c 3 g) (o : ∀ x, 49 ≤ x → x < 61 → d x = c x) (e : ∀ i, 732 ≤ i → i < 840 → h i = g i) : ∀ k p, 0 ≤ k → k < 12 → 0 ≤ p → p < 9 → d (49 + k) p = h (732 + 9 * k + p) := by
  intro k p k0 k1 p0 p1
  rw [o (49 + k) (by omega) (by omega), e (732 + 9 * k + p) (by omega) (by omega)]
  exact S3.p hs k p k0 k1 p0 p1
theorem SRc_s {c d : Mem} {g h : Int → Int} (hs : SR c 3 g) (o : ∀ x, 63 ≤ x → x < 71 → d x = c x) (e : ∀ i, 840 ≤ i → i < 1160 → h i = g i) : ∀ s u, 0 ≤ s → s < 8 → 0 ≤ u → u < 40 → d (63 + s) (u + 1) = h (840 + 40 * s + u) := by
  intro s u s0 s1 u0 u1
  rw [o (63 + s) (by omega) (by omega), e (840 + 40 * s + u) (by omega) (by omega)]
  exact S3.s hs s u s0 s1 u0 u1
theorem SRc_m {c d : Mem} {g h : Int → Int} (hs : SR c 3 g) (o : d 71 = c 71) (e : ∀ i, 1160 ≤ i → i < 1168 → h i = g i) : ∀ s, 0 ≤ s → s < 8 → d 71 (s + 1) = h (1160 + s) := by
  intro s s0 s1
  rw [o, e (1160 + s) (by omega) (by omega)]
  exact S3.m hs s s0 s1
theorem SRc_w {c d : Mem} {g h : Int → Int} (hs : SR c 3 g) (hw : WF_w g) (o1 : ∀ x, 74 ≤ x → x < 78 → d x = c x) (o2 : ∀ x, 122 ≤ x → x < 130 → d x = c x) (e : ∀ i, 1168 ≤ i → i < 1352 → h i = g i) : ∀ w, 0 ≤ w → w < 4 → d (74 + w) 0 = h (1168 + 46 * w) ∧ (0 ≤ h (1168 + 46 * w) → (∀ j, 1 ≤ j → j ≤ 4 → d (74 + w) j = h (1168 + 46 * w + j)) ∧ d (122 + 2 * w) 1 = h (1173 + 46 * w) ∧ (∀ i, 0 ≤ i → i < h (1173 + 46 * w) → d (123 + 2 * w) i = h (1174 + 46 * w + i) + 1)) ∧ (h (1168 + 46 * w) < 0 → (∀ j, 1 ≤ j → j ≤ 4 → d (74 + w) j = -1) ∧ d (122 + 2 * w) 1 = 0) := by
  intro w w0 w1
  obtain ⟨a, b, f⟩ := S3.w hs w w0 w1
  have hh := (hw w w0 w1).2.2
  rw [o1 (74 + w) (by omega) (by omega), o2 (122 + 2 * w) (by omega) (by omega), o2 (123 + 2 * w) (by omega) (by omega), e (1168 + 46 * w) (by omega) (by omega), e (1173 + 46 * w) (by omega) (by omega)]
  refine ⟨a, fun hp => ?_, f⟩
  obtain ⟨b1, b2, b3⟩ := b hp
  have r2 := (hh hp).2.2.2.2.2.2.2.2.2.2.1
  exact ⟨fun j j0 j1 => by rw [e (1168 + 46 * w + j) (by omega) (by omega)]; exact b1 j j0 j1, b2, fun i i0 i1 => by rw [e (1174 + 46 * w + i) (by omega) (by omega)]; exact b3 i i0 i1⟩
/-- the cues' parts of a show -/
def CUR (c : Mem) (g : Int → Int) : Prop := (∀ i, 0 ≤ i → i < 30 → ∃ t, 0 ≤ t ∧ t < 30 ∧ c 79 i = 130 + 3 * t) ∧ (∀ i j, 0 ≤ i → i < j → j < 30 → c 79 i ≠ c 79 j) ∧ (0 ≤ c 3 8 ∧ c 3 8 ≤ 30) ∧ (∀ i j, 0 ≤ i → i < j → j < c 3 8 → c (c 79 i) 0 < c (c 79 j) 0) ∧ (∀ i, 0 ≤ i → i < c 3 8 → ∃ r, 0 ≤ r ∧ r < 30 ∧ 0 < cn g r ∧ c (c 79 i) 0 = cn g r ∧ (∀ j, 0 ≤ j → j < 6 → c (c 79 i + 1) j = g (1353 + 7 * r + j)) ∧ (∀ f, 0 ≤ f → f < 360 → c (c 79 i + 2) f = g (1562 + 360 * r + f))) ∧ (∀ r, 0 ≤ r → r < 30 → 0 < cn g r → ∃ i, 0 ≤ i ∧ i < c 3 8 ∧ c (c 79 i) 0 = cn g r)
theorem S3.cur {c : Mem} {g : Int → Int} (hs : SR c 3 g) : CUR c g := ⟨S3.q hs, S3.i hs, S3.n hs, S3.o hs, S3.c hs, S3.r hs⟩
theorem CUR_c {c d : Mem} {g h : Int → Int} (hs : CUR c g) (o1 : d 79 = c 79) (o2 : ∀ x, 130 ≤ x → x < 220 → d x = c x) (o3 : d 3 8 = c 3 8) (e : ∀ i, 1352 ≤ i → i < 12362 → h i = g i) : CUR d h := by
  obtain ⟨h1, h2, h3, h4, h5, h6⟩ := hs
  have k : ∀ i, 0 ≤ i → i < 30 → ∀ x, 0 ≤ x → x ≤ 2 → d (c 79 i + x) = c (c 79 i + x) := by
    intro i i0 i1 x x0 x1
    obtain ⟨t, t0, t1, t2⟩ := h1 i i0 i1
    exact o2 _ (by omega) (by omega)
  have k0 : ∀ i, 0 ≤ i → i < 30 → d (c 79 i) = c (c 79 i) := by
    intro i i0 i1
    have := k i i0 i1 0 (by omega) (by omega)
    rwa [Int.add_zero] at this
  have en : ∀ r, 0 ≤ r → r < 30 → cn h r = cn g r := fun r r0 r1 => e _ (by omega) (by omega)
  refine ⟨by rw [o1]; exact h1, by rw [o1]; exact h2, by rw [o3]; exact h3, ?_, ?_, ?_⟩
  · intro i j i0 ij j1
    rw [o3] at j1
    rw [o1, k0 i i0 (by omega), k0 j (by omega) (by omega)]
    exact h4 i j i0 ij j1
  · intro i i0 i1
    rw [o3] at i1
    obtain ⟨r, r0, r1, r2, r3, r4, r5⟩ := h5 i i0 i1
    rw [o1, k0 i i0 (by omega), k i i0 (by omega) 1 (by omega) (by omega), k i i0 (by omega) 2 (by omega) (by omega)]
    refine ⟨r, r0, r1, by rw [en r r0 r1]; exact r2, by rw [en r r0 r1]; exact r3, fun j j0 j1 => ?_, fun f f0 f1 => ?_⟩
    · rw [e (1353 + 7 * r + j) (by omega) (by omega)]; exact r4 j j0 j1
    · rw [e (1562 + 360 * r + f) (by omega) (by omega)]; exact r5 f f0 f1
  · intro r r0 r1 r2
    rw [en r r0 r1] at r2 ⊢
    obtain ⟨i, i0, i1, i2⟩ := h6 r r0 r1 r2
    refine ⟨i, i0, by rw [o3]; exact i1, ?_⟩
    rw [o1, k0 i i0 (by omega)]
    exact i2
theorem SRc_h {c d : Mem} {g h : Int → Int} (hs : SR c 3 g) (o : d 80 = c 80) (e : ∀ i, 12362 ≤ i → i < 12722 → h i = g i) : ∀ i, 0 ≤ i → i < 360 → d 80 i = h (12362 + i) := by
  intro i i0 i1
  rw [o, e (12362 + i) (by omega) (by omega)]
  exact S3.h hs i i0 i1
theorem SRc_k {c d : Mem} {g h : Int → Int} (hs : SR c 3 g) (o : d 81 = c 81) (e : ∀ i, 12723 ≤ i → i < 12923 → h i = g i) : ∀ k, 0 ≤ k → k < 200 → d 81 (k + 1) = h (12723 + k) := by
  intro k k0 k1
  rw [o, e (12723 + k) (by omega) (by omega)]
  exact S3.k hs k k0 k1
theorem SRc_e {c d : Mem} {g h : Int → Int} (hs : SR c 3 g) (o : ∀ x, 84 ≤ x → x < 94 → d x = c x) (e : ∀ i, 12923 ≤ i → i < 12943 → h i = g i) : ∀ x j, 0 ≤ x → x < 10 → 0 ≤ j → j < 2 → d (84 + x) j = h (12923 + 2 * x + j) := by
  intro x j x0 x1 j0 j1
  rw [o (84 + x) (by omega) (by omega), e (12923 + 2 * x + j) (by omega) (by omega)]
  exact S3.e hs x j x0 x1 j0 j1
theorem SR_mk {c : Mem} {g : Int → Int} (h1 : ∀ u, 0 ≤ u → u < 40 → c (6 + u) 0 = g (6 * u) ∧ (0 ≤ g (6 * u) → ∀ j, 1 ≤ j → j ≤ 5 → c (6 + u) j = g (6 * u + j))) (h2 : ∀ k, 0 ≤ k → k < 12 → c (96 + 2 * k) 1 = g (240 + 41 * k) ∧ (∀ i, 0 ≤ i → i < g (240 + 41 * k) → c (97 + 2 * k) i = g (241 + 41 * k + i) + 1)) (h3 : ∀ k p, 0 ≤ k → k < 12 → 0 ≤ p → p < 9 → c (49 + k) p = g (732 + 9 * k + p)) (h4 : ∀ s u, 0 ≤ s → s < 8 → 0 ≤ u → u < 40 → c (63 + s) (u + 1) = g (840 + 40 * s + u)) (h5 : ∀ s, 0 ≤ s → s < 8 → c 71 (s + 1) = g (1160 + s)) (h6 : ∀ w, 0 ≤ w → w < 4 → c (74 + w) 0 = g (1168 + 46 * w) ∧ (0 ≤ g (1168 + 46 * w) → (∀ j, 1 ≤ j → j ≤ 4 → c (74 + w) j = g (1168 + 46 * w + j)) ∧ c (122 + 2 * w) 1 = g (1173 + 46 * w) ∧ (∀ i, 0 ≤ i → i < g (1173 + 46 * w) → c (123 + 2 * w) i = g (1174 + 46 * w + i) + 1)) ∧ (g (1168 + 46 * w) < 0 → (∀ j, 1 ≤ j → j ≤ 4 → c (74 + w) j = -1) ∧ c (122 + 2 * w) 1 = 0)) (h7 : CUR c g) (h8 : ∀ i, 0 ≤ i → i < 360 → c 80 i = g (12362 + i)) (h9 : c 3 10 = g 12722) (h10 : ∀ k, 0 ≤ k → k < 200 → c 81 (k + 1) = g (12723 + k)) (h11 : ∀ e j, 0 ≤ e → e < 10 → 0 ≤ j → j < 2 → c (84 + e) j = g (12923 + 2 * e + j)) (h12 : c 94 1 = 0 ∧ c 120 1 = 0) : SR c 3 g :=
  ⟨h1, h2, h3, h4, h5, h6, h7.1, h7.2.1, h7.2.2.1, h7.2.2.2.1, h7.2.2.2.2.1, h7.2.2.2.2.2, h8, h9, h10, h11, h12⟩
/-- two loops side by side -/
theorem loop2 {α β : Type} (F : Nat → Mem → Int → Option α) (G : Nat → Mem → Int → Option β) (R : Int → Mem → Mem → Prop) (s t lo hi : Int) (step : ∀ n k i c m, lo ≤ i → i < hi → R i c m → ∃ c' m', F (n + 1) c (s + i) = F n c' (s + i + 1) ∧ G (k + 1) m (t + i) = G k m' (t + i + 1) ∧ R (i + 1) c' m') : ∀ (d N K : Nat) (i : Int) (c m : Mem), i + d = hi → lo ≤ i → d < N → d < K → R i c m → ∃ c' m' n k, F N c (s + i) = F (n + 1) c' (s + hi) ∧ G K m (t + i) = G (k + 1) m' (t + hi) ∧ R hi c' m' := by
  intro d
  induction d with
  | zero =>
    intro N K i c m e _ hN hK hR
    obtain ⟨n, rfl⟩ : ∃ n, N = n + 1 := ⟨N - 1, by omega⟩
    obtain ⟨k, rfl⟩ : ∃ k, K = k + 1 := ⟨K - 1, by omega⟩
    obtain rfl : i = hi := by omega
    exact ⟨c, m, n, k, rfl, rfl, hR⟩
  | succ d ih =>
    intro N K i c m e hl hN hK hR
    obtain ⟨n, rfl⟩ : ∃ n, N = n + 1 := ⟨N - 1, by omega⟩
    obtain ⟨k, rfl⟩ : ∃ k, K = k + 1 := ⟨K - 1, by omega⟩
    obtain ⟨c1, m1, e1, e2, hR1⟩ := step n k i c m hl (by omega) hR
    obtain ⟨c', m', n', k', f1, f2, f3⟩ := ih n k (i + 1) c1 m1 (by omega) (by omega) (by omega) (by omega) hR1
    refine ⟨c', m', n', k', ?_, ?_, f3⟩
    · rw [e1, ← f1, show s + i + 1 = s + (i + 1) by omega]
    · rw [e2, ← f2, show t + i + 1 = t + (i + 1) by omega]
/-- a statement was done: what both have then -/
def ACT (B : Int) (c m : Mem) (D M : Option Mem) : Prop := ∃ c' m', D = some c' ∧ M = some m' ∧ SR c' 3 (m' 264) ∧ WF (m' 264) ∧ PR B c' m' ∧ GR c' m' ∧ (∀ o, ¬ (3 ≤ o ∧ o < 220) → ¬ (223 ≤ o ∧ o ≤ 225) → ¬ o = 230 → c' o = c o) ∧ (∀ o, ¬ o = 264 → ¬ (273 ≤ o ∧ o ≤ 275) → ¬ o = 279 → m' o = m o)
/-- only the show changes -/
theorem ACT_s {B : Int} {c m c' : Mem} {h : Int → Int} {D M : Option Mem} (hp : PR B c m) (hg : GR c m) (e1 : D = some c') (e2 : M = some (up m 264 h)) (ho : ∀ o, ¬ (3 ≤ o ∧ o < 220) → c' o = c o) (hs : SR c' 3 h) (hw : WF h) : ACT B c m D M := by
  refine ⟨c', _, e1, e2, by rw [up_eq]; exact hs, by rw [up_eq]; exact hw, ?_, ?_, fun o a _ _ => ho o a, fun o a _ _ => up_ne a⟩
  · exact PR_congr hp (fun o a b => ho o (by omega)) (fun o a b => up_ne (by omega)) (fun f _ _ => by rw [up_ne (by decide)])
  · exact GR_congr hg (fun o a b => ho o (by omega)) (fun o a b => up_ne (by omega)) (fun f _ _ => by rw [up_ne (by decide)])
theorem SR_reg {c d : Mem} {g h : Int → Int} (hs : SR c 3 g) (hw : WF g) {p1 olo ohi lo hi : Int} (eo : ∀ o, ¬ o = p1 → ¬ (olo ≤ o ∧ o < ohi) → d o = c o) (eg : ∀ i, ¬ (lo ≤ i ∧ i < hi) → h i = g i)
    (h1 : ((p1 < 6 ∨ 46 ≤ p1) ∧ (ohi ≤ 6 ∨ 46 ≤ olo) ∧ (hi ≤ 0 ∨ 240 ≤ lo)) ∨ (∀ u, 0 ≤ u → u < 40 → d (6 + u) 0 = h (6 * u) ∧ (0 ≤ h (6 * u) → ∀ j, 1 ≤ j → j ≤ 5 → d (6 + u) j = h (6 * u + j))) := by left; omega)
    (h2 : ((p1 < 96 ∨ 120 ≤ p1) ∧ (ohi ≤ 96 ∨ 120 ≤ olo) ∧ (hi ≤ 240 ∨ 732 ≤ lo)) ∨ (∀ k, 0 ≤ k → k < 12 → d (96 + 2 * k) 1 = h (240 + 41 * k) ∧ (∀ i, 0 ≤ i → i < h (240 + 41 * k) → d (97 + 2 * k) i = h (241 + 41 * k + i) + 1)) := by left; omega)
    (h3 : ((p1 < 49 ∨ 61 ≤ p1) ∧ (ohi ≤ 49 ∨ 61 ≤ olo) ∧ (hi ≤ 732 ∨ 840 ≤ lo)) ∨ (∀ k p, 0 ≤ k → k < 12 → 0 ≤ p → p < 9 → d (49 + k) p = h (732 + 9 * k + p)) := by left; omega)
    (h4 : ((p1 < 63 ∨ 71 ≤ p1) ∧ (ohi ≤ 63 ∨ 71 ≤ olo) ∧ (hi ≤ 840 ∨ 1160 ≤ lo)) ∨ (∀ s u, 0 ≤ s → s < 8 → 0 ≤ u → u < 40 → d (63 + s) (u + 1) = h (840 + 40 * s + u)) := by left; omega)
    (h5 : ((p1 < 71 ∨ 72 ≤ p1) ∧ (ohi ≤ 71 ∨ 72 ≤ olo) ∧ (hi ≤ 1160 ∨ 1168 ≤ lo)) ∨ (∀ s, 0 ≤ s → s < 8 → d 71 (s + 1) = h (1160 + s)) := by left; omega)
    (h6 : ((p1 < 74 ∨ 78 ≤ p1) ∧ (p1 < 122 ∨ 130 ≤ p1) ∧ (ohi ≤ 74 ∨ 78 ≤ olo) ∧ (ohi ≤ 122 ∨ 130 ≤ olo) ∧ (hi ≤ 1168 ∨ 1352 ≤ lo)) ∨ (∀ w, 0 ≤ w → w < 4 → d (74 + w) 0 = h (1168 + 46 * w) ∧ (0 ≤ h (1168 + 46 * w) → (∀ j, 1 ≤ j → j ≤ 4 → d (74 + w) j = h (1168 + 46 * w + j)) ∧ d (122 + 2 * w) 1 = h (1173 + 46 * w) ∧ (∀ i, 0 ≤ i → i < h (1173 + 46 * w) → d (123 + 2 * w) i = h (1174 + 46 * w + i) + 1)) ∧ (h (1168 + 46 * w) < 0 → (∀ j, 1 ≤ j → j ≤ 4 → d (74 + w) j = -1) ∧ d (122 + 2 * w) 1 = 0)) := by left; omega)
    (h7 : ((¬ p1 = 3 ∧ ¬ p1 = 79 ∧ (p1 < 130 ∨ 220 ≤ p1)) ∧ (ohi ≤ 3 ∨ 4 ≤ olo) ∧ (ohi ≤ 79 ∨ 80 ≤ olo) ∧ (ohi ≤ 130 ∨ 220 ≤ olo) ∧ (hi ≤ 1352 ∨ 12362 ≤ lo)) ∨ CUR d h := by left; omega)
    (h8 : (¬ p1 = 80 ∧ (ohi ≤ 80 ∨ 81 ≤ olo) ∧ (hi ≤ 12362 ∨ 12722 ≤ lo)) ∨ (∀ i, 0 ≤ i → i < 360 → d 80 i = h (12362 + i)) := by left; omega)
    (h9 : (¬ p1 = 3 ∧ (ohi ≤ 3 ∨ 4 ≤ olo) ∧ (hi ≤ 12722 ∨ 12723 ≤ lo)) ∨ d 3 10 = h 12722 := by left; omega)
    (h10 : (¬ p1 = 81 ∧ (ohi ≤ 81 ∨ 82 ≤ olo) ∧ (hi ≤ 12723 ∨ 12923 ≤ lo)) ∨ (∀ k, 0 ≤ k → k < 200 → d 81 (k + 1) = h (12723 + k)) := by left; omega)
    (h11 : ((p1 < 84 ∨ 94 ≤ p1) ∧ (ohi ≤ 84 ∨ 94 ≤ olo) ∧ (hi ≤ 12923 ∨ 12943 ≤ lo)) ∨ (∀ e j, 0 ≤ e → e < 10 → 0 ≤ j → j < 2 → d (84 + e) j = h (12923 + 2 * e + j)) := by left; omega)
    (h12 : (¬ p1 = 94 ∧ ¬ p1 = 120 ∧ (ohi ≤ 94 ∨ 95 ≤ olo) ∧ (ohi ≤ 120 ∨ 121 ≤ olo)) ∨ (d 94 1 = 0 ∧ d 120 1 = 0) := by left; omega) : SR d 3 h := by
  refine SR_mk ?_ ?_ ?_ ?_ ?_ ?_ ?_ ?_ ?_ ?_ ?_ ?_
  · rcases h1 with k | k
    · exact SRc_u hs (fun x a b => eo x (by omega) (by omega)) (fun i a b => eg i (by omega))
    · exact k
  · rcases h2 with k | k
    · exact SRc_g hs hw.g (fun x a b => eo x (by omega) (by omega)) (fun i a b => eg i (by omega))
    · exact k
  · rcases h3 with k | k
    · exact SRc_p hs (fun x a b => eo x (by omega) (by omega)) (fun i a b => eg i (by omega))
    · exact k
  · rcases h4 with k | k
    · exact SRc_s hs (fun x a b => eo x (by omega) (by omega)) (fun i a b => eg i (by omega))
    · exact k
  · rcases h5 with k | k
    · exact SRc_m hs (eo 71 (by omega) (by omega)) (fun i a b => eg i (by omega))
    · exact k
  · rcases h6 with k | k
    · exact SRc_w hs hw.w (fun x a b => eo x (by omega) (by omega)) (fun x a b => eo x (by omega) (by omega)) (fun i a b => eg i (by omega))
    · exact k
  · rcases h7 with k | k
    · exact CUR_c (S3.cur hs) (eo 79 (by omega) (by omega)) (fun x a b => eo x (by omega) (by omega)) (by rw [eo 3 (by omega) (by omega)]) (fun i a b => eg i (by omega))
    · exact k
  · rcases h8 with k | k
    · exact SRc_h hs (eo 80 (by omega) (by omega)) (fun i a b => eg i (by omega))
    · exact k
  · rcases h9 with k | k
    · rw [eo 3 (by omega) (by omega), eg 12722 (by omega)]; exact S3.b hs
    · exact k
  · rcases h10 with k | k
    · exact SRc_k hs (eo 81 (by omega) (by omega)) (fun i a b => eg i (by omega))
    · exact k
  · rcases h11 with k | k
    · exact SRc_e hs (fun x a b => eo x (by omega) (by omega)) (fun i a b => eg i (by omega))
    · exact k
  · rcases h12 with k | k
    · rw [eo 94 (by omega) (by omega), eo 120 (by omega) (by omega)]; exact S3.z hs
    · exact k
theorem WF_reg {g h : Int → Int} (hw : WF g) {lo hi : Int} (eg : ∀ i, ¬ (lo ≤ i ∧ i < hi) → h i = g i)
    (h1 : (hi ≤ 0 ∨ 240 ≤ lo) ∨ (WF_u h ∧ WF_d h) := by left; omega)
    (h2 : (hi ≤ 240 ∨ 732 ≤ lo) ∨ WF_g h := by left; omega)
    (h3 : (hi ≤ 732 ∨ 840 ≤ lo) ∨ WF_p h := by left; omega)
    (h4 : (hi ≤ 840 ∨ 1160 ≤ lo) ∨ WF_s h := by left; omega)
    (h5 : (hi ≤ 1160 ∨ 1168 ≤ lo) ∨ WF_m h := by left; omega)
    (h6 : (hi ≤ 1168 ∨ 1352 ≤ lo) ∨ WF_w h := by left; omega)
    (h7 : (240 ≤ lo ∧ (hi ≤ 1352 ∨ 12362 ≤ lo)) ∨ WF_c h := by left; omega)
    (h8 : (hi ≤ 1352 ∨ 1562 ≤ lo) ∨ WF_n h := by left; omega)
    (h9 : (240 ≤ lo ∧ (hi ≤ 12362 ∨ 12722 ≤ lo)) ∨ WF_h h := by left; omega)
    (h10 : ((hi ≤ 1352 ∨ 1562 ≤ lo) ∧ (hi ≤ 12722 ∨ 12723 ≤ lo)) ∨ WF_b h := by left; omega)
    (h11 : (hi ≤ 12723 ∨ 12923 ≤ lo) ∨ WF_k h := by left; omega)
    (h12 : 0 ≤ lo ∧ hi ≤ 12943 := by omega)
    (h13 : (hi ≤ 12923 ∨ 12943 ≤ lo) ∨ WF_e h := by left; omega) : WF h := by
  have U : WF_u h ∧ WF_d h := by
    rcases h1 with k | k
    · exact ⟨WFc_u hw.u (fun i a b => eg i (by omega)), WFc_d hw.d (fun i a b => eg i (by omega))⟩
    · exact k
  refine ⟨U.1, U.2, ?_, ?_, ?_, ?_, ?_, ?_, ?_, ?_, ?_, ?_, WFc_x hw.x (fun i a => eg i (by omega)), ?_⟩
  · rcases h2 with k | k
    · exact WFc_g hw.g (fun i a b => eg i (by omega))
    · exact k
  · rcases h3 with k | k
    · exact WFc_p hw.p (fun i a b => eg i (by omega))
    · exact k
  · rcases h4 with k | k
    · exact WFc_s hw.s (fun i a b => eg i (by omega))
    · exact k
  · rcases h5 with k | k
    · exact WFc_m hw.m (fun i a b => eg i (by omega))
    · exact k
  · rcases h6 with k | k
    · exact WFc_w hw.w (fun i a b => eg i (by omega))
    · exact k
  · rcases h7 with k | k
    · exact WFc_c hw.c (fun i a b => eg i (by omega)) (fun i a b => eg i (by omega))
    · exact k
  · rcases h8 with k | k
    · exact WFc_n hw.n (fun r a b => eg _ (by omega))
    · exact k
  · rcases h9 with k | k
    · exact WFc_h hw.h (fun i a b => eg i (by omega)) (fun i a b => eg i (by omega))
    · exact k
  · rcases h10 with k | k
    · exact WFc_b hw.b (eg _ (by omega)) (fun r a b => eg _ (by omega))
    · exact k
  · rcases h11 with k | k
    · exact WFc_k hw.k (fun i a b => eg i (by omega))
    · exact k
  · rcases h13 with k | k
    · exact WFc_e hw.e (fun i a b => eg i (by omega))
    · exact k
/-- what both have, when a statement has been found without a fault -/
def AE (B : Int) (X : Tx) (A : Int) (m0 c m : Mem) : Prop := XO X m0 ∧ MTK X A m ∧ TT X A = 70 ∧ 0 ≤ A ∧ SR c 3 (m 264) ∧ WF (m 264) ∧ PR B c m ∧ GR c m ∧ KON c ∧ KON m ∧ 280 ≤ c 0 0
theorem FLT_b {g : Int → Int} {cur kn r v : Int} (h : FLT g cur kn r v = 0) : tbl leaT r ≤ v ∧ v ≤ tbl greT r := by
  by_cases z : v < tbl leaT r ∨ tbl greT r < v
  · rw [FLT_o z] at h; omega
  · omega
