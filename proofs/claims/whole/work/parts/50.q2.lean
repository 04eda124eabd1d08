-- L3: questions, part 2
theorem D_palette_eq {μ : Mem} {k p : Int} : D_palette μ k p = if (1 ≤ k ∧ k ≤ 12) ∧ 0 ≤ p ∧ p ≤ 8 then (ar 48 13 1 k).bind fun o1 => (rdI μ o1 p).bind fun x3 => some x3 else some (-1) := by
  unfold D_palette D_palette_24
  simp only [D_isIn_e, Option.bind_some, bz]
  by_cases z : 1 ≤ k ∧ k ≤ 12
  · by_cases z2 : 0 ≤ p ∧ p ≤ 8
    · rw [if_pos z, if_neg (show ¬ p < 0 by omega), if_neg (show ¬ 9 ≤ p by omega), if_neg (by decide), if_pos ⟨z, z2⟩]
    · have z3 : ¬ ((1 ≤ k ∧ k ≤ 12) ∧ 0 ≤ p ∧ p ≤ 8) := fun e => z2 e.2
      simp only [if_pos z, if_neg z3, if_true]
      by_cases z4 : p < 0
      · rw [if_pos z4]
      · rw [if_neg z4, if_pos (show 9 ≤ p by omega)]
  · have z3 : ¬ ((1 ≤ k ∧ k ≤ 12) ∧ 0 ≤ p ∧ p ≤ 8) := fun e => z e.1
    simp only [if_neg z, if_neg z3, if_true]
theorem q_palette {B : Int} {μ : Mem} (h : INV B μ μ) (k p : Int) : SAME (D_palette μ k p) (M_palette μ k p) := by
  rw [D_palette_eq]
  unfold M_palette
  simp only [M_in_e, Option.bind_some, bz]
  by_cases z : (1 ≤ k ∧ k ≤ 12) ∧ 0 ≤ p ∧ p ≤ 8
  · simp only [if_pos z, if_pos z.1, if_pos z.2]
    obtain ⟨z1, z2⟩ := z
    simp (disch := omega) only [ar_ok, aI_ok, jadd_e, jmul_e, jsub_e, Option.bind_some, rd_pal]
    rw [show (48 + 1 * k : Int) = 49 + (k - 1) by omega, S3.p h.s (k - 1) p (by omega) (by omega) (by omega) (by omega)]
    exact ⟨_, rfl, rfl⟩
  · rw [if_neg z]
    refine ⟨-1, rfl, ?_⟩
    repeat' split
    all_goals first | (exfalso; omega) | rfl
theorem q_sub {B : Int} {μ : Mem} (h : INV B μ μ) (s u : Int) : SAME (D_sub μ s u) (M_sub μ s u) := by
  unfold D_sub M_sub
  simp only [D_isIn_e, M_in_e, Option.bind_some, bz]
  by_cases z1 : 1 ≤ s ∧ s ≤ 8
  · by_cases z2 : 1 ≤ u ∧ u ≤ 40
    · simp only [if_pos z1, if_pos z2]
      simp (disch := omega) only [ar_ok, aI_ok, jadd_e, jmul_e, jsub_e, Option.bind_some, rd_sub]
      have e := S3.s h.s (s - 1) (u - 1) (by omega) (by omega) (by omega) (by omega)
      rw [show u - 1 + 1 = u by omega] at e
      rw [show (62 + 1 * s : Int) = 63 + (s - 1) by omega, e, show 840 + 40 * (s - 1) + u - 1 = 840 + 40 * (s - 1) + (u - 1) by omega]
      exact ⟨_, rfl, rfl⟩
    · simp only [if_pos z1, if_neg z2]
      exact ⟨_, rfl, rfl⟩
  · simp only [if_neg z1]
    exact ⟨_, rfl, rfl⟩
theorem q_masters {B : Int} {μ : Mem} (h : INV B μ μ) (s : Int) : SAME (D_masters μ s) (M_masters μ s) := by
  unfold D_masters M_masters
  simp only [D_isIn_e, M_in_e, Option.bind_some, bz]
  by_cases z1 : 1 ≤ s ∧ s ≤ 8
  · simp only [if_pos z1]
    simp (disch := omega) only [aI_ok, jadd_e, jsub_e, Option.bind_some]
    have e := S3.m h.s (s - 1) (by omega) (by omega)
    rw [show s - 1 + 1 = s by omega] at e
    rw [e, show 1160 + s - 1 = 1160 + (s - 1) by omega]
    exact ⟨_, rfl, rfl⟩
  · simp only [if_neg z1]
    exact ⟨_, rfl, rfl⟩
theorem q_park {B : Int} {μ : Mem} (h : INV B μ μ) (k : Int) : SAME (D_park μ k) (M_park μ k) := by
  unfold D_park M_park
  simp only [D_isIn_e, M_in_e, Option.bind_some, bz]
  by_cases z1 : 1 ≤ k ∧ k ≤ 200
  · simp only [if_pos z1]
    simp (disch := omega) only [aI_ok, jadd_e, jsub_e, Option.bind_some]
    have e := S3.k h.s (k - 1) (by omega) (by omega)
    rw [show k - 1 + 1 = k by omega] at e
    rw [e, show 12723 + k - 1 = 12723 + (k - 1) by omega]
    exact ⟨_, rfl, rfl⟩
  · simp only [if_neg z1]
    exact ⟨_, rfl, rfl⟩
theorem q_event {B : Int} {μ : Mem} (h : INV B μ μ) (n w : Int) : SAME (D_event μ n w) (M_event μ n w) := by
  unfold D_event M_event
  simp only [D_isIn_e, M_in_e, Option.bind_some, bz]
  by_cases z1 : 1 ≤ n ∧ n ≤ 10
  · by_cases z2 : 0 ≤ w ∧ w ≤ 1
    · simp only [if_pos z1, if_pos z2]
      rw [if_neg (show ¬ w < 0 by omega), if_neg (show ¬ 2 ≤ w by omega)]
      simp (disch := omega) only [ar_ok, aI_ok, jadd_e, jmul_e, jsub_e, Option.bind_some, rd_evt]
      rw [show (83 + 1 * n : Int) = 84 + (n - 1) by omega, S3.e h.s (n - 1) w (by omega) (by omega) (by omega) (by omega)]
      exact ⟨_, rfl, rfl⟩
    · simp only [if_pos z1, if_neg z2]
      refine ⟨-1, ?_, rfl⟩
      by_cases z4 : w < 0
      · rw [if_pos z4]
      · rw [if_neg z4, if_pos (by omega)]
  · simp only [if_neg z1]
    exact ⟨_, rfl, rfl⟩
theorem q_wave {B : Int} {μ : Mem} (h : INV B μ μ) (w i : Int) (hi : i < 2147483648) : SAME (D_wave μ w i) (M_wave μ w i) := by
  unfold D_wave M_wave
  simp only [D_isIn_e, M_in_e, Option.bind_some, bz]
  by_cases z1 : 1 ≤ w ∧ w ≤ 4
  · simp only [if_pos z1]
    by_cases z2 : 0 ≤ i
    · simp only [if_pos z2]
      obtain ⟨s1, s2, s3⟩ := S3.w h.s (w - 1) (by omega) (by omega)
      obtain ⟨w1, w2, w3⟩ := h.w.w (w - 1) (by omega) (by omega)
      simp (disch := omega) only [ar_ok, aI_ok, jadd_e, jmul_e, jsub_e, Option.bind_some]
      have hr : (122 + 2 * (w - 1) : Int) ≠ 0 ∧ kd (122 + 2 * (w - 1)) = 5 := ⟨by omega, kd_row (by omega) (by omega) (by omega)⟩
      rw [show (73 + 1 * w : Int) = 74 + (w - 1) by omega, show (120 + 2 * w : Int) = 122 + 2 * (w - 1) by omega, if_pos hr]
      by_cases z3 : 0 ≤ μ 264 (1168 + 46 * (w - 1))
      · rw [if_pos z3]
        obtain ⟨t1, t2, t3⟩ := s2 z3
        obtain ⟨_, _, _, _, _, _, _, _, v1, v2⟩ := w3 z3
        obtain ⟨_, v3, v4, _⟩ := v2
        by_cases z4 : 5 ≤ i
        · simp only [if_pos z4]
          rw [Row_unitAt_e h.o (by omega) (by omega) (by omega) t2 v3, show 1168 + 46 * (w - 1) + 5 = 1173 + 46 * (w - 1) by omega]
          simp only [Option.bind_some]
          by_cases z5 : μ 264 (1173 + 46 * (w - 1)) ≤ i - 5
          · rw [if_pos z5, if_neg (show ¬ (0 ≤ i - 5 ∧ i - 5 < μ 264 (1173 + 46 * (w - 1))) by omega)]; exact ⟨_, rfl, rfl⟩
          · have v5 := v4 (i - 5) (by omega) (by omega)
            simp only at v5
            have e5 : 1168 + 46 * (w - 1) + 1 + i = 1174 + 46 * (w - 1) + (i - 5) := by omega
            rw [if_neg z5, if_pos (show 0 ≤ i - 5 ∧ i - 5 < μ 264 (1173 + 46 * (w - 1)) by omega), jadd_e (by omega) (by omega), e5, aI_ok (by omega) (by omega), Option.bind_some, jadd_e (by omega) (by omega)]
            rw [show (122 + 2 * (w - 1) + 1 : Int) = 123 + 2 * (w - 1) by omega, t3 (i - 5) (by omega) (by omega)]
            exact ⟨_, rfl, rfl⟩
        · simp only [if_neg z4]
          simp (disch := omega) only [aI_ok, jadd_e, Option.bind_some, rd_wav]
          by_cases z6 : i = 0
          · subst z6; rw [s1, Int.add_zero]; exact ⟨_, rfl, rfl⟩
          · rw [t1 i (by omega) (by omega)]; exact ⟨_, rfl, rfl⟩
      · rw [if_neg z3]
        obtain ⟨t1, t2⟩ := s3 (by omega)
        refine ⟨-1, ?_, rfl⟩
        by_cases z4 : 5 ≤ i
        · rw [if_pos z4, Row_unitAt_e h.o (by omega) (by omega) (by omega) t2 (by omega), if_neg (show ¬ (0 ≤ i - 5 ∧ i - 5 < 0) by omega)]; rfl
        · rw [if_neg z4]
          simp (disch := omega) only [Option.bind_some, rd_wav]
          by_cases z6 : i = 0
          · subst z6; rw [s1]; congr 1; omega
          · rw [t1 i (by omega) (by omega)]
    · simp only [if_neg z2]
      exact ⟨_, rfl, rfl⟩
  · simp only [if_neg z1]
    exact ⟨_, rfl, rfl⟩
