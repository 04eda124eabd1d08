-- L3: levels of a unit
theorem mxI_assoc {a b x : Int} : mxI (mxI a b) x = mxI a (mxI b x) := by
  unfold mxI
  repeat' split
  all_goals omega
theorem b8 : 8 < big := Nat.lt_of_lt_of_le (by decide) big_ge
theorem b4 : 4 < big := Nat.lt_of_lt_of_le (by decide) big_ge
theorem M_lvw {μ : Mem} (hw : WF (μ 264)) {u p l : Int} : M_levelAt_152 μ u p big l 0 = some (itr (wvs μ u p) l 4) := by
  refine loopZ (fun k s i => M_levelAt_152 μ u p k s i) (wvs μ u p) l 4 4 rfl ?_ (fun k => by rw [M_levelAt_152]; rfl) big b4
  intro k i s h0 h1
  rw [M_levelAt_152, if_neg (show ¬ 4 ≤ i by omega)]
  simp (disch := omega) only [jadd_e, jmul_e, aI_ok, Option.bind_some]
  rw [show 1168 + 46 * i + 1 = 1169 + 46 * i by omega]
  unfold wvs
  by_cases e : μ 278 i = 0
  · rw [if_pos e, if_neg (show ¬ (μ 278 i ≠ 0 ∧ _) from fun x => x.1 e)]
  · rw [if_neg e]
    by_cases e2 : μ 264 (1168 + 46 * i) < 0
    · rw [if_pos e2, if_neg (show ¬ (μ 278 i ≠ 0 ∧ 0 ≤ μ 264 (1168 + 46 * i) ∧ _) from fun x => by have := x.2.1; omega)]
    · rw [if_neg e2]
      by_cases e3 : μ 264 (1169 + 46 * i) = p
      · rw [if_neg (fun x => x e3), M_added_e hw h0 (by omega) (by omega), Option.bind_some, if_pos ⟨e, by omega, e3⟩]
      · rw [if_pos e3, if_neg (show ¬ (μ 278 i ≠ 0 ∧ 0 ≤ μ 264 (1168 + 46 * i) ∧ μ 264 (1169 + 46 * i) = p) from fun x => e3 x.2.2)]
theorem M_lvs {μ : Mem} (hw : WF (μ 264)) {u hl l : Int} (u0 : 0 ≤ u) (u1 : u < 40) (hh : hl < 0) : M_levelAt_44 μ u 0 hl big l 0 = some (itr (wvs μ u 0) (itr (sbs μ u) l 8) 4) := by
  refine loopZ (fun k s i => M_levelAt_44 μ u 0 hl k s i) (sbs μ u) l 8 8 rfl ?_ (fun k => by rw [M_levelAt_44, if_pos (by decide)]; exact M_lvw hw) big b8
  intro k i s h0 h1
  rw [M_levelAt_44, if_neg (show ¬ 8 ≤ i by omega), if_neg (by decide), if_neg (show ¬ 0 ≤ hl by omega)]
  unfold M_levelAt_101 sbs sbv
  simp (disch := omega) only [jadd_e, jmul_e, aI_ok, Option.bind_some]
  by_cases e1 : μ 264 (840 + 40 * i + u) < 0
  · simp only [if_pos e1]
    rw [if_neg (show ¬ (0 ≤ μ 264 (840 + 40 * i + u) ∧ _) from fun x => by have := x.1; omega)]
    by_cases e2 : μ 277 i = 0
    · rw [if_pos e2]
    · rw [if_neg e2]
  · simp only [if_neg e1]
    by_cases e3 : μ 264 (1160 + i) = 0
    · rw [if_pos (show 0 ≤ μ 264 (840 + 40 * i + u) ∧ μ 264 (1160 + i) = 0 from ⟨by omega, e3⟩)]
      simp only [e3, ne_eq, not_true, if_false]
      by_cases e2 : μ 277 i = 0
      · simp only [if_pos e2]
      · simp only [if_neg e2]
    · rw [if_neg (show ¬ (0 ≤ μ 264 (840 + 40 * i + u) ∧ μ 264 (1160 + i) = 0) from fun x => e3 x.2)]
      simp only [ne_eq, e3, not_false_iff, if_true]
      by_cases e2 : μ 277 i = 0
      · rw [if_pos e2]
      · rw [if_neg e2]
theorem M_levelAt_e {μ : Mem} (hk : KON μ) (hw : WF (μ 264)) {u p : Int} (u0 : 0 ≤ u) (u1 : u < 40) (p0 : 0 ≤ p) (p1 : p < 9) : M_levelAt μ u p = some (lvA μ u p) := by
  unfold M_levelAt lvA lv1
  simp (disch := omega) only [jadd_e, jmul_e, aI_ok, Option.bind_some]
  obtain ⟨j, hj⟩ := big_s
  by_cases e : μ 264 (12362 + (9 * u + p)) < 0
  · have el : lv0 μ u p = clv (μ 272) (μ 273) (μ 274) (μ 275) (μ 259 28) (9 * u + p) := if_pos e
    rw [if_pos e, M_cueLevel_e (by omega) (by omega), Option.bind_some, el]
    by_cases e2 : p = 0
    · subst e2
      rw [M_lvs hw u0 u1 e, if_pos ⟨rfl, e⟩]
    · rw [if_neg (fun x => e2 x.1), hj, M_levelAt_44, if_neg (by decide), if_pos e2]
      exact M_lvw hw
  · have el : lv0 μ u p = lev (μ 264) (μ 264 (12362 + (9 * u + p))) p := if_neg e
    rw [if_neg e, M_levelOf_e hk (hw.h _ (by omega) (by omega)).1 p0 p1, Option.bind_some, el, if_neg (fun x => e x.2), hj, M_levelAt_44, if_neg (by decide)]
    by_cases e2 : p = 0
    · rw [if_neg (fun x => x e2), if_pos (by omega)]
      exact M_lvw hw
    · rw [if_pos e2]
      exact M_lvw hw
theorem Sg_faderOf_e {B : Int} {c m : Mem} (h : INV B c m) {s : Int} (s0 : 0 ≤ s) (s1 : s < 8) : Sg_faderOf c (s + 1) = some (if m 277 s = 0 then m 276 s else 1000) := by
  unfold Sg_faderOf
  obtain ⟨f1, _⟩ := h.g.f s s0 s1
  obtain ⟨f2, _⟩ := h.g.b s s0 s1
  simp (disch := omega) only [aI_ok, Option.bind_some]
  rw [f1, f2]
  split <;> rfl
theorem Sg_lvw {B : Int} {c m : Mem} (h : INV B c m) {u p l : Int} : Sg_levelOf_71 c (u + 1) p big l 1 = some (itr (wvs m u p) l 4) := by
  refine loopZ (fun k s i => Sg_levelOf_71 c (u + 1) p k s (i + 1)) (wvs m u p) l 4 4 rfl ?_ (fun k => by show Sg_levelOf_71 c (u + 1) p (k + 1) _ (4 + 1) = _; rw [Sg_levelOf_71]; rfl) big b4
  intro k i s h0 h1
  obtain ⟨r1, r2⟩ := h.g.r i h0 (by omega)
  obtain ⟨s1, s2, s3⟩ := S3.w h.s i h0 (by omega)
  obtain ⟨w1, w2, _⟩ := h.w.w i h0 (by omega)
  rw [Sg_levelOf_71, if_neg (show ¬ 4 < i + 1 by omega)]
  simp (disch := omega) only [jadd_e, aI_ok, ar_ok, Option.bind_some, rd_wav]
  rw [show (73 + 1 * (i + 1) : Int) = 74 + i by omega, r1, s1]
  unfold wvs
  by_cases e : m 278 i = 0
  · rw [if_pos e, if_neg (show ¬ (m 278 i ≠ 0 ∧ _) from fun x => x.1 e)]
  · rw [if_neg e]
    by_cases e2 : m 264 (1168 + 46 * i) < 0
    · rw [if_pos (show m 264 (1168 + 46 * i) = -1 by omega), if_neg (show ¬ (m 278 i ≠ 0 ∧ 0 ≤ m 264 (1168 + 46 * i) ∧ _) from fun x => by have := x.2.1; omega)]
    · rw [if_neg (show ¬ m 264 (1168 + 46 * i) = -1 by omega), (s2 (by omega)).1 1 (by omega) (by omega), show 1168 + 46 * i + 1 = 1169 + 46 * i by omega]
      by_cases e3 : m 264 (1169 + 46 * i) = p
      · rw [if_neg (fun x => x e3), Sg_addedBy_e h h0 (by omega) (by omega), Option.bind_some, if_pos ⟨e, by omega, e3⟩]
      · rw [if_pos e3, if_neg (show ¬ (m 278 i ≠ 0 ∧ 0 ≤ m 264 (1168 + 46 * i) ∧ m 264 (1169 + 46 * i) = p) from fun x => e3 x.2.2)]
theorem Sg_lvs {B : Int} {c m : Mem} (h : INV B c m) {u : Int} (u0 : 0 ≤ u) (u1 : u < 40) : Sg_greatestOfSubs c (u + 1) = some (itr (sbs m u) 0 8) := by
  refine loopZ (fun k s i => Sg_greatestOfSubs_4 c (u + 1) k s (i + 1)) (sbs m u) 0 8 8 rfl ?_ (fun k => by show Sg_greatestOfSubs_4 c (u + 1) (k + 1) _ (8 + 1) = _; rw [Sg_greatestOfSubs_4]; rfl) big b8
  intro k i s h0 h1
  have s1 := S3.m h.s i h0 h1
  have s2 := S3.s h.s i u h0 h1 u0 u1
  obtain ⟨w1, w2⟩ := h.w.s i u h0 h1 u0 u1
  rw [Sg_greatestOfSubs_4, if_neg (show ¬ 8 < i + 1 by omega)]
  simp (disch := omega) only [jadd_e, aI_ok, ar_ok, Option.bind_some, rd_sub, Sg_faderOf_e h]
  rw [show (62 + 1 * (i + 1) : Int) = 63 + i by omega, s1, s2]
  unfold sbs sbv
  by_cases e3 : m 264 (1160 + i) = 0
  · rw [if_neg (fun x => x e3)]
    by_cases e1 : m 264 (840 + 40 * i + u) < 0
    · rw [if_pos (show m 264 (840 + 40 * i + u) = -1 by omega), if_neg (show ¬ (0 ≤ m 264 (840 + 40 * i + u) ∧ _) from fun x => by have := x.1; omega)]
    · rw [if_neg (show ¬ m 264 (840 + 40 * i + u) = -1 by omega), if_pos (show 0 ≤ m 264 (840 + 40 * i + u) ∧ m 264 (1160 + i) = 0 from ⟨by omega, e3⟩)]
  · rw [if_pos e3, if_neg (show ¬ (0 ≤ m 264 (840 + 40 * i + u) ∧ m 264 (1160 + i) = 0) from fun x => e3 x.2)]
theorem sbs_mx {m : Mem} {u l : Int} (l0 : 0 ≤ l) : ∀ k : Nat, itr (sbs m u) l k = mxI l (itr (sbs m u) 0 k) := by
  intro k
  induction k with
  | zero => show l = mxI l 0; unfold mxI; split <;> omega
  | succ k ih =>
    show sbs m u k (itr (sbs m u) l k) = mxI l (sbs m u k (itr (sbs m u) 0 k))
    rw [ih]
    unfold sbs
    split
    · exact mxI_assoc
    · rfl
theorem Sg_levelOf_e {B : Int} {c m : Mem} (h : INV B c m) {u p : Int} (u0 : 0 ≤ u) (u1 : u < 40) (p0 : 0 ≤ p) (p1 : p < 9) : Sg_levelOf c (u + 1) p = some (lvA m u p) := by
  unfold Sg_levelOf lvA lv1 Sg_levelOf_44
  rw [D_cellOf_e (by omega) (by omega) p0 p1, show 9 * (u + 1 - 1) + p = 9 * u + p by omega]
  simp (disch := omega) only [aI_ok, Option.bind_some]
  rw [S3.h h.s _ (by omega) (by omega)]
  obtain ⟨v, _⟩ := h.w.h (9 * u + p) (by omega) (by omega)
  have cr := clv_r h.p (i := 9 * u + p) (by omega) (by omega)
  by_cases e : m 264 (12362 + (9 * u + p)) < 0
  · have e' : m 264 (12362 + (9 * u + p)) = -1 := by rcases v with v | v | v <;> omega
    have el : lv0 m u p = clv (m 272) (m 273) (m 274) (m 275) (m 259 28) (9 * u + p) := if_pos e
    rw [if_neg (fun x => x e'), Pl_cueLevel_m h.p (by omega) (by omega), Option.bind_some, el]
    by_cases e2 : p = 0
    · subst e2
      rw [if_neg (by decide), if_neg (fun x => x e'), Sg_lvs h u0 u1, Option.bind_some, if_pos (show (0 : Int) = 0 ∧ m 264 (12362 + (9 * u + 0)) < 0 from ⟨rfl, e⟩), sbs_mx cr.1]
      exact Sg_lvw h
    · rw [if_pos e2, if_neg (fun x => e2 x.1)]
      exact Sg_lvw h
  · have el : lv0 m u p = lev (m 264) (m 264 (12362 + (9 * u + p))) p := if_neg e
    rw [if_pos (show m 264 (12362 + (9 * u + p)) ≠ -1 by omega), Sh_levelFor_e h.s h.w h.kc v p0 p1, Option.bind_some, el, if_neg (show ¬ (p = 0 ∧ m 264 (12362 + (9 * u + p)) < 0) from fun x => e x.2)]
    by_cases e2 : p = 0
    · rw [if_neg (show ¬ p ≠ 0 from fun x => x e2), if_pos (show m 264 (12362 + (9 * u + p)) ≠ -1 by omega)]
      exact Sg_lvw h
    · rw [if_pos e2]
      exact Sg_lvw h
theorem q_level {B : Int} {μ : Mem} (h : INV B μ μ) (u p : Int) : SAME (D_level μ u p) (M_level μ u p) := by
  unfold D_level M_level
  simp only [D_isCell_e, M_in_e, M_isUnit_e, Option.bind_some, bz]
  by_cases z : 1 ≤ u ∧ u ≤ 40 ∧ 0 ≤ p ∧ p ≤ 8
  · simp only [if_pos z]
    rw [Sh_has_e h.s h.w h.kc z.1 z.2.1]
    simp only [Option.bind_some, bn]
    by_cases z2 : 0 ≤ μ 264 (6 * (u - 1))
    · have z3 : 1 ≤ u ∧ u ≤ 40 ∧ 0 ≤ μ 264 (6 * (u - 1)) := ⟨z.1, z.2.1, z2⟩
      have z4 : 0 ≤ p ∧ p ≤ 8 := z.2.2
      rw [if_pos z3, if_pos z4, jsub_e (by omega) (by omega), M_has_e h.km h.w.u (by omega) (by omega) (by omega) (by omega)]
      simp only [Option.bind_some, bz]
      by_cases z5 : 0 ≤ μ 264 (6 * (u - 1)) ∧ jand (jshr (tbl hasT (μ 264 (6 * (u - 1)))) p) 1 = 1
      · simp only [if_pos z5]
        have e := Sg_levelOf_e h (u := u - 1) (p := p) (by omega) (by omega) (by omega) (by omega)
        rw [show u - 1 + 1 = u by omega] at e
        rw [e, M_levelAt_e h.km h.w (by omega) (by omega) (by omega) (by omega)]
        exact ⟨_, rfl, rfl⟩
      · simp only [if_neg z5]
        exact ⟨_, rfl, rfl⟩
    · rw [if_neg (show ¬ (0 ≤ μ 264 (6 * (u - 1)) ∧ _) from fun x => z2 x.1), if_neg (show ¬ (1 ≤ u ∧ u ≤ 40 ∧ 0 ≤ μ 264 (6 * (u - 1))) from fun x => z2 x.2.2)]
      exact ⟨_, rfl, rfl⟩
  · simp only [if_neg z]
    refine ⟨-2, rfl, ?_⟩
    by_cases z6 : 1 ≤ u ∧ u ≤ 40 ∧ 0 ≤ μ 264 (6 * (u - 1))
    · rw [if_pos z6, if_neg (show ¬ (0 ≤ p ∧ p ≤ 8) by omega)]
    · rw [if_neg z6]
