-- L3: how many
def cntF (p : Int → Bool) (k : Nat) : Int := itr (fun r s => if p r = true then s + 1 else s) 0 k
theorem cnt_rm {p : Int → Bool} {a : Int} (ha : p a = true) (a0 : 0 ≤ a) : ∀ k : Nat, cntF p k = cntF (fun r => p r && !(r == a)) k + (if a < k then 1 else 0) := by
  intro k
  induction k with
  | zero => rw [if_neg (by omega)]; rfl
  | succ k ih =>
    show (if p k = true then cntF p k + 1 else cntF p k) = (if (p k && !((k : Int) == a)) = true then cntF (fun r => p r && !(r == a)) k + 1 else cntF (fun r => p r && !(r == a)) k) + _
    rw [ih]
    by_cases e : (k : Int) = a
    · subst e
      rw [if_pos ha, if_neg (show ¬ (k : Int) < k by omega), if_pos (show (k : Int) < ((k + 1 : Nat) : Int) by omega)]
      simp
    · have e2 : ((k : Int) == a) = false := by simpa using e
      rw [e2]
      simp only [Bool.not_false, Bool.and_true]
      by_cases e3 : a < k
      · rw [if_pos e3, if_pos (show a < ((k + 1 : Nat) : Int) by omega)]
        split <;> omega
      · rw [if_neg e3, if_neg (show ¬ a < ((k + 1 : Nat) : Int) by omega)]
        split <;> omega
theorem cnt_zero {p : Int → Bool} : ∀ k : Nat, (∀ r : Int, 0 ≤ r → r < k → p r = false) → cntF p k = 0 := by
  intro k
  induction k with
  | zero => intro _; rfl
  | succ k ih =>
    intro h
    show (if p k = true then cntF p k + 1 else cntF p k) = 0
    rw [h k (by omega) (by omega), ih (fun r a b => h r a (by omega))]
    rfl
theorem cnt_bij (k : Nat) (f : Int → Int) : ∀ (N : Nat) (p : Int → Bool), (∀ i : Int, 0 ≤ i → i < N → 0 ≤ f i ∧ f i < k ∧ p (f i) = true) → (∀ i j : Int, 0 ≤ i → i < j → j < N → f i ≠ f j) → (∀ r : Int, 0 ≤ r → r < k → p r = true → ∃ i : Int, 0 ≤ i ∧ i < N ∧ f i = r) → cntF p k = N := by
  intro N
  induction N with
  | zero =>
    intro p _ _ h3
    refine cnt_zero k (fun r a b => ?_)
    by_cases e : p r = true
    · obtain ⟨i, i0, i1, _⟩ := h3 r a b e
      omega
    · simpa using e
  | succ N ih =>
    intro p h1 h2 h3
    obtain ⟨a0, a1, a2⟩ := h1 N (by omega) (by omega)
    rw [cnt_rm a2 a0, if_pos a1, ih]
    · omega
    · intro i i0 i1
      obtain ⟨b0, b1, b2⟩ := h1 i i0 (by omega)
      have := h2 i N i0 (by omega) (by omega)
      exact ⟨b0, b1, by simp [b2, this]⟩
    · intro i j i0 ij j1
      exact h2 i j i0 ij (by omega)
    · intro r r0 r1 r2
      have r3 : p r = true ∧ r ≠ f N := by simpa using r2
      obtain ⟨i, i0, i1, i2⟩ := h3 r r0 r1 r3.1
      refine ⟨i, i0, ?_, i2⟩
      by_cases e : i = N
      · subst e; exact absurd i2.symm r3.2
      · omega
theorem cuesN_c {c : Mem} {g : Int → Int} (h : SR c 3 g) (hn : WF_n g) : cuesN g = c 3 8 := by
  have hN := S3.n h
  have e : cuesN g = cntF (fun r => decide (0 < cn g r)) 30 := by
    unfold cuesN cntF
    simp only [decide_eq_true_eq]
  obtain ⟨N, e2⟩ : ∃ N : Nat, c 3 8 = (N : Int) := ⟨(c 3 8).toNat, by omega⟩
  rw [e, e2]
  refine cnt_bij 30 (fun i => rowOf g (c (c 79 i) 0)) N _ ?_ ?_ ?_
  · intro i i0 i1
    obtain ⟨q0, q1, q2, q3, _⟩ := S3.row h hn (i := i) i0 (by omega)
    exact ⟨q0, q1, by simp only [decide_eq_true_eq]; omega⟩
  · intro i j i0 ij j1
    obtain ⟨_, _, _, q3, _⟩ := S3.row h hn (i := i) i0 (by omega)
    obtain ⟨_, _, _, q4, _⟩ := S3.row h hn (i := j) (by omega) (by omega)
    have := S3.o h i j i0 ij (by omega)
    intro e
    rw [e] at q3
    omega
  · intro r r0 r1 r2
    have r3 : 0 < cn g r := by simpa using r2
    obtain ⟨i, i0, i1, i2⟩ := S3.r h r r0 (by omega) r3
    refine ⟨i, i0, by omega, ?_⟩
    show rowOf g (c (c 79 i) 0) = r
    rw [i2]
    exact rowOf_at hn r0 (by omega) r3
def vcn (f : Int → Int) : Int := itr (fun i s => if f i < 0 then s else s + 1) 0 360
theorem M_valuesFrom_e {μ : Mem} {a : Int} (a0 : 0 ≤ a) (a1 : a + 360 ≤ 12943) : M_valuesFrom μ a = some (vcn (fun i => μ 264 (a + i))) := by
  refine loopY (fun k s i => M_valuesFrom_4 μ a k s i) (fun i s => if μ 264 (a + i) < 0 then s else s + 1) 0 360 360 rfl (fun i s => 0 ≤ s ∧ s ≤ i) (by omega) ?_ ?_ (fun k _ => by rw [M_valuesFrom_4]; rfl) big b360
  · intro i s h0 h1 h2
    split <;> omega
  intro k i s h0 h1 h2
  rw [M_valuesFrom_4, if_neg (show ¬ 360 ≤ i by omega)]
  simp (disch := omega) only [Option.bind_some, jadd_e, Int.add_zero, aI_ok]
  repeat' split
  all_goals first | (exfalso; omega) | rfl
theorem D_countValues_e {c : Mem} {a : Int} {f : Int → Int} (hk : kd a = 100) (hl : ln a = 360) (hf : ∀ i, 0 ≤ i → i < 360 → c a i = f i ∧ VAL (f i)) : D_countValues c a = some (vcn f) := by
  unfold D_countValues
  have e : aln c a = some 360 := by unfold aln; rw [hk, hl]; rfl
  rw [e, Option.bind_some]
  refine loopY (fun k s i => D_countValues_10 c a 360 k s i) (fun i s => if f i < 0 then s else s + 1) 0 360 360 rfl (fun i s => 0 ≤ s ∧ s ≤ i) (by omega) ?_ ?_ (fun k _ => by rw [D_countValues_10]; rfl) big b360
  · intro i s h0 h1 h2
    split <;> omega
  intro k i s h0 h1 h2
  obtain ⟨e1, e2⟩ := hf i h0 h1
  rw [D_countValues_10, if_neg (show ¬ 360 ≤ i by omega), rdI_ok hk h0 (by omega), e1]
  simp (disch := omega) only [Option.bind_some, jadd_e]
  unfold VAL at e2
  repeat' split
  all_goals first | (exfalso; omega) | rfl
theorem q_state {B : Int} {μ : Mem} (h : INV B μ μ) (w : Int) : SAME (D_state μ w) (M_state μ w) := by
  obtain ⟨_, _, k1, _, _, k2, _, _⟩ := h.p.K
  obtain ⟨c1, _⟩ := h.p.C
  obtain ⟨n1, _⟩ := h.h.n
  obtain ⟨t1, _⟩ := h.t.n
  have pat : ∃ v, Sh_countPatched μ = some v ∧ M_state_78 μ big 0 0 = some v := by
    refine ⟨itr (fun i s => if μ 264 (6 * i) < 0 then s else s + 1) 0 40, ?_, ?_⟩
    · refine loopY (fun k s i => Sh_countPatched_4 μ k s (i + 1)) (fun i s => if μ 264 (6 * i) < 0 then s else s + 1) 0 40 40 rfl (fun i s => 0 ≤ s ∧ s ≤ i) (by omega) ?_ ?_ (fun k _ => by show Sh_countPatched_4 μ (k + 1) _ (40 + 1) = _; rw [Sh_countPatched_4]; rfl) big b40
      · intro i s h0 h1 h2
        split <;> omega
      intro k i s h0 h1 h2
      rw [Sh_countPatched_4, if_neg (show ¬ 40 < i + 1 by omega), Sh_isPatched_e h.s h.w (by omega) (by omega), show 6 * (i + 1 - 1) = 6 * i by omega]
      simp (disch := omega) only [Option.bind_some, jadd_e, nz]
      repeat' split
      all_goals first | (exfalso; omega) | rfl
    · refine loopY (fun k s i => M_state_78 μ k s i) (fun i s => if μ 264 (6 * i) < 0 then s else s + 1) 0 40 40 rfl (fun i s => 0 ≤ s ∧ s ≤ i) (by omega) ?_ ?_ (fun k _ => by rw [M_state_78]; rfl) big b40
      · intro i s h0 h1 h2
        split <;> omega
      intro k i s h0 h1 h2
      rw [M_state_78, if_neg (show ¬ 40 ≤ i by omega), M_isPatched_e (by omega) (by omega)]
      simp (disch := omega) only [Option.bind_some, jadd_e, nz, Int.add_zero]
      repeat' split
      all_goals first | (exfalso; omega) | rfl
  have fad : ∃ v, Pl_countFading μ = some v ∧ M_state_132 μ big 0 0 = some v := by
    refine ⟨itr (fun i s => if clv (μ 272) (μ 273) (μ 274) (μ 275) (μ 259 28) i = μ 272 i then s else s + 1) 0 360, ?_, ?_⟩
    · refine loopY (fun k s i => Pl_countFading_4 μ k s i) (fun i s => if clv (μ 272) (μ 273) (μ 274) (μ 275) (μ 259 28) i = μ 272 i then s else s + 1) 0 360 360 rfl (fun i s => 0 ≤ s ∧ s ≤ i) (by omega) ?_ ?_ (fun k _ => by rw [Pl_countFading_4]; rfl) big b360
      · intro i s h0 h1 h2
        split <;> omega
      intro k i s h0 h1 h2
      rw [Pl_countFading_4, if_neg (show ¬ 360 ≤ i by omega), Pl_cueLevel_m h.p h0 h1]
      simp (disch := omega) only [Option.bind_some, jadd_e, aI_ok]
      rw [(h.p.G i h0 h1).1]
      repeat' split
      all_goals first | (exfalso; omega) | rfl
    · refine loopY (fun k s i => M_state_132 μ k s i) (fun i s => if clv (μ 272) (μ 273) (μ 274) (μ 275) (μ 259 28) i = μ 272 i then s else s + 1) 0 360 360 rfl (fun i s => 0 ≤ s ∧ s ≤ i) (by omega) ?_ ?_ (fun k _ => by rw [M_state_132]; rfl) big b360
      · intro i s h0 h1 h2
        split <;> omega
      intro k i s h0 h1 h2
      rw [M_state_132, if_neg (show ¬ 360 ≤ i by omega), M_cueLevel_e h0 h1]
      simp (disch := omega) only [Option.bind_some, jadd_e, aI_ok, Int.add_zero]
      repeat' split
      all_goals first | (exfalso; omega) | rfl
  obtain ⟨v1, p1, p2⟩ := pat
  obtain ⟨v2, f1, f2⟩ := fad
  have hv : D_countValues μ 80 = some (vcn (fun i => μ 264 (12362 + i))) := D_countValues_e (by decide +kernel) (by decide +kernel) (fun i a b => ⟨S3.h h.s i a b, (h.w.h i a b).1⟩)
  unfold D_state M_state
  rw [p1, p2, f1, f2, hv, M_valuesFrom_e (by omega) (by omega), M_cues_e, cuesN_c h.s h.w.n, k1, k2, c1, n1, t1, S3.b h.s]
  simp only [Option.bind_some]
  repeat' split
  all_goals exact ⟨_, rfl, rfl⟩
theorem q_cue {B : Int} {μ : Mem} (h : INV B μ μ) (i w : Int) : SAME (D_cue μ i w) (M_cue μ i w) := by
  have hN := S3.n h.s
  unfold D_cue M_cue
  rw [M_cues_e, cuesN_c h.s h.w.n, Option.bind_some, show jsub (μ 3 8) 1 = μ 3 8 - 1 from jsub_e (by omega) (by omega)]
  simp only [M_in_e, Option.bind_some, bz, bn, M_numberAbove_e]
  by_cases z : 0 ≤ i ∧ i ≤ μ 3 8 - 1
  · rw [if_pos z, if_neg (show ¬ i < 0 by omega), if_pos (show i < μ 3 8 by omega), aI_ok (by omega) (by omega)]
    simp only [Option.bind_some]
    -- the model's number after i steps
    have num : ∀ (N : Nat) (k : Int), 0 ≤ k → k ≤ i → i - k < N → M_cue_35 μ i w N (μ (μ 79 k) 0) k = M_cue_35 μ i w (N - (i - k).toNat) (μ (μ 79 i) 0) i := by
      intro N
      induction N with
      | zero => intro k _ _ h3; omega
      | succ N ih =>
        intro k k0 k1 k2
        by_cases e : k = i
        · subst e
          rw [show N + 1 - (k - k).toNat = N + 1 by omega]
        · rw [M_cue_35, if_neg (show ¬ i ≤ k by omega), M_numberAbove_e, Option.bind_some, jadd_e (by omega) (by omega)]
          obtain ⟨q0, q1, q2, _⟩ := S3.row h.s h.w.n (i := k) k0 (by omega)
          have ck : cna μ (μ (μ 79 k) 0) = k + 1 := by
            obtain ⟨_, a0, a1, a2, a3⟩ := cna_s h.s (μ (μ 79 k) 0)
            by_cases e5 : cna μ (μ (μ 79 k) 0) ≤ k
            · have := a3 k e5 (by omega); omega
            · by_cases e6 : k + 1 < cna μ (μ (μ 79 k) 0)
              · have := a2 (k + 1) (by omega) e6
                have := S3.o h.s k (k + 1) k0 (by omega) (by omega)
                omega
              · omega
          rw [above_c h.s h.w.n _ (by omega), ck, if_pos (show k + 1 < μ 3 8 by omega), ih (k + 1) (by omega) (by omega) (by omega)]
          congr 1
          omega
    have first : above (μ 264) 0 = μ (μ 79 0) 0 := by
      have c0 : cna μ 0 = 0 := by
        obtain ⟨_, a0, a1, a2, a3⟩ := cna_s h.s 0
        by_cases e5 : cna μ 0 = 0
        · exact e5
        · have := a2 0 (by omega) (by omega)
          obtain ⟨_, _, q2, _⟩ := S3.row h.s h.w.n (i := 0) (by omega) (by omega)
          omega
      rw [above_c h.s h.w.n 0 (by omega), c0, if_pos (show 0 < μ 3 8 by omega)]
    rw [first]
    obtain ⟨q0, q1, q2, q3, q4, q5⟩ := S3.row h.s h.w.n (i := i) z.1 (by omega)
    by_cases z2 : 0 ≤ w ∧ w ≤ 7
    · rw [if_pos z2, num big 0 (by omega) z.1 (by have := big_ge; omega)]
      obtain ⟨j, hj⟩ : ∃ j, big - (i - 0).toNat = j + 1 := ⟨big - (i - 0).toNat - 1, by have := big_ge; omega⟩
      rw [hj, M_cue_35, if_pos (Int.le_refl i), M_cueRow_e, Option.bind_some]
      have cv : D_countValues μ (μ 79 i + 2) = some (vcn (fun f => μ 264 (1562 + 360 * rowOf (μ 264) (μ (μ 79 i) 0) + f))) := by
        obtain ⟨a, b, d⟩ := cq_k h.s z.1 (by omega)
        have eo : ob (μ 79 i + 2) = (100, 360) := by rw [ob_3 (by omega) (by omega), shK_129 (by omega) (by omega)]
        exact D_countValues_e (by unfold kd; rw [eo]) (by unfold ln; rw [eo]) (fun f f0 f1 => ⟨q5 f f0 f1, (((h.w.c _ q0 q1).2.2 (by omega)).2.2.2.2 f f0 f1).1⟩)
      have r7 : jadd 1352 (jmul 7 (rowOf (μ 264) (μ (μ 79 i) 0))) = 1352 + 7 * rowOf (μ 264) (μ (μ 79 i) 0) := by rw [jmul_e (by omega) (by omega), jadd_e (by omega) (by omega)]
      have r36 : jadd 1562 (jmul 360 (rowOf (μ 264) (μ (μ 79 i) 0))) = 1562 + 360 * rowOf (μ 264) (μ (μ 79 i) 0) := by rw [jmul_e (by omega) (by omega), jadd_e (by omega) (by omega)]
      rw [r7, r36, M_valuesFrom_e (by omega) (by omega), cq_gf h.s z.1 (by omega), cq_g1 h.s h.o z.1 (by omega), cq_g2 h.s h.o z.1 (by omega)]
      simp only [Option.bind_some]
      rw [cv]
      have tm : ∀ j, 0 ≤ j → j < 6 → rdI μ (μ 79 i + 1) j = some (μ 264 (1353 + 7 * rowOf (μ 264) (μ (μ 79 i) 0) + j)) := fun j a b => by rw [cq_r1 h.s z.1 (by omega) a b, q4 j a b]
      have hc : w = 0 ∨ w = 1 ∨ w = 2 ∨ w = 3 ∨ w = 4 ∨ w = 5 ∨ w = 6 ∨ w = 7 := by omega
      have mo : ∀ j, 0 ≤ j → j < 7 → aI μ 264 12943 (jadd (1352 + 7 * rowOf (μ 264) (μ (μ 79 i) 0)) j) = some (μ 264 (1352 + 7 * rowOf (μ 264) (μ (μ 79 i) 0) + j)) := fun j a b => by rw [jadd_e (by omega) (by omega), aI_ok (by omega) (by omega)]
      unfold cn at q3
      rcases hc with e | e | e | e | e | e | e | e <;> subst e
      · rw [mo 0 (by omega) (by omega), Int.add_zero, q3]; exact ⟨_, rfl, rfl⟩
      · rw [mo 1 (by omega) (by omega), show jsub 1 1 = 0 by decide +kernel, tm 0 (by omega) (by omega)]; exact SAME.mk rfl rfl (by congr 1; omega)
      · rw [mo 2 (by omega) (by omega), show jsub 2 1 = 1 by decide +kernel, tm 1 (by omega) (by omega)]; exact SAME.mk rfl rfl (by congr 1; omega)
      · rw [mo 3 (by omega) (by omega), show jsub 3 1 = 2 by decide +kernel, tm 2 (by omega) (by omega)]; exact SAME.mk rfl rfl (by congr 1; omega)
      · rw [mo 4 (by omega) (by omega), show jsub 4 1 = 3 by decide +kernel, tm 3 (by omega) (by omega)]; exact SAME.mk rfl rfl (by congr 1; omega)
      · rw [mo 5 (by omega) (by omega), show jsub 5 1 = 4 by decide +kernel, tm 4 (by omega) (by omega)]; exact SAME.mk rfl rfl (by congr 1; omega)
      · exact ⟨_, rfl, rfl⟩
      · rw [mo 6 (by omega) (by omega), tm 5 (by omega) (by omega)]; exact SAME.mk rfl rfl (by congr 1; omega)
    · rw [if_neg z2]
      refine ⟨-1, ?_, rfl⟩
      repeat' split
      all_goals first | (exfalso; omega) | rfl
  · rw [if_neg z]
    refine ⟨-1, ?_, rfl⟩
    repeat' split
    all_goals first | (exfalso; omega) | rfl
