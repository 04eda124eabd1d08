-- L3: what is shown, and the slots
def mst (m : Mem) (u s d : Int) : Int := if m 264 (1160 + s) = 1 ∧ 0 ≤ m 264 (840 + 40 * s + u) then jdiv (jmul d (if m 277 s = 0 then m 276 s else 1000)) 1000 else d
def crv (d k : Int) : Int := if k = 1 then jdiv (jmul d d) 1000 else if k = 2 then jdiv (jmul d (jsub 2000 d)) 1000 else if k = 3 then (if d ≤ 0 then 0 else 1000) else d
def shF (m : Mem) (u d : Int) : Int := if m 264 (6 * u) = 2 then (if m 259 35 = 0 then mxI d 30 else d) else if m 264 (6 * u) = 3 then (if d < 500 then 0 else 1000) else d
def shw (m : Mem) (u : Int) : Int := shF m u (crv (if m 259 35 = 0 then mnI (itr (mst m u) (jdiv (jmul (lvA m u 0) (m 259 34)) 1000) 8) (m 264 (6 * u + 2)) else 0) (m 264 (6 * u + 3)))
theorem mx30 {x : Int} : mxI 30 x = mxI x 30 := by unfold mxI; repeat' split; all_goals omega
theorem M_sh182 {μ : Mem} (hw : WF (μ 264)) {u s : Int} (u0 : 0 ≤ u) (u1 : u < 40) : M_shownAt_182 μ u s = some (shF μ u s) := by
  obtain ⟨k0, k1, _⟩ := hw.u u u0 u1
  unfold M_shownAt_182 shF
  rw [jmul_e (by omega) (by omega), aI_ok (by omega) (by omega), Option.bind_some, jadd_e (by omega) (by omega), Option.bind_some, mx30]
  repeat' split
  all_goals first | (exfalso; omega) | rfl
theorem M_sh116 {μ : Mem} (hw : WF (μ 264)) {u s : Int} (u0 : 0 ≤ u) (u1 : u < 40) (hp : 0 ≤ μ 264 (6 * u)) : M_shownAt_116 μ u s = some (shF μ u (crv s (μ 264 (6 * u + 3)))) := by
  obtain ⟨_, k1, kp⟩ := hw.u u u0 u1
  obtain ⟨_, _, l0, l1, c0, c1, _, _⟩ := kp hp
  unfold M_shownAt_116 crv
  rw [jmul_e (by omega) (by omega), jadd_e (by omega) (by omega), aI_ok (by omega) (by omega), Option.bind_some]
  simp only [M_sh182 hw u0 u1]
  generalize μ 264 (6 * u + 3) = q at *
  repeat' split
  all_goals first | (exfalso; omega) | rfl
theorem M_shownAt_e {μ : Mem} (hk : KON μ) (hw : WF (μ 264)) {u : Int} (u0 : 0 ≤ u) (u1 : u < 40) (hp : 0 ≤ μ 264 (6 * u)) : M_shownAt μ u = some (shw μ u) := by
  obtain ⟨_, k1, kp⟩ := hw.u u u0 u1
  obtain ⟨_, _, l0, l1, c0, c1, _, _⟩ := kp hp
  unfold M_shownAt
  rw [M_levelAt_e hk hw u0 u1 (by omega) (by omega), Option.bind_some, Option.bind_some]
  refine loopZ (fun k s i => M_shownAt_18 μ u k s i) (mst μ u) (jdiv (jmul (lvA μ u 0) (μ 259 34)) 1000) 8 8 rfl ?_ ?_ big b8
  · intro k i s h0 h1
    rw [M_shownAt_18, if_neg (show ¬ 8 ≤ i by omega)]
    simp (disch := omega) only [jadd_e, jmul_e, aI_ok, Option.bind_some]
    unfold mst
    by_cases e1 : μ 264 (1160 + i) = 1
    · rw [if_neg (show ¬ μ 264 (1160 + i) ≠ 1 from fun x => x e1)]
      by_cases e2 : μ 264 (840 + 40 * i + u) < 0
      · rw [if_pos e2, if_neg (show ¬ (μ 264 (1160 + i) = 1 ∧ 0 ≤ μ 264 (840 + 40 * i + u)) by omega)]
      · rw [if_neg e2, if_pos (show μ 264 (1160 + i) = 1 ∧ 0 ≤ μ 264 (840 + 40 * i + u) by omega)]
        by_cases e3 : μ 277 i = 0
        · simp only [if_pos e3]
        · simp only [if_neg e3]
    · rw [if_pos e1, if_neg (show ¬ (μ 264 (1160 + i) = 1 ∧ _) from fun x => e1 x.1)]
  · intro k
    show M_shownAt_18 μ u (k + 1) _ 8 = _
    rw [M_shownAt_18, if_pos (by decide)]
    rw [jmul_e (by omega) (by omega), jadd_e (by omega) (by omega), aI_ok (by omega) (by omega), Option.bind_some, M_sh116 hw u0 u1 hp, M_sh116 hw u0 u1 hp]
    unfold shw
    show _ = some (shF μ u (crv (if μ 259 35 = 0 then mnI (itr (mst μ u) (jdiv (jmul (lvA μ u 0) (μ 259 34)) 1000) 8) (μ 264 (6 * u + 2)) else 0) (μ 264 (6 * u + 3))))
    by_cases e : μ 259 35 = 0
    · simp only [if_pos e]
    · simp only [if_neg e]
theorem Sg_curved_e {c : Mem} {d k : Int} : Sg_curved c d k = some (crv d k) := by
  unfold Sg_curved crv
  repeat' split
  all_goals rfl
theorem Sg_sh79 {B : Int} {c m : Mem} (h : INV B c m) {u d : Int} (u0 : 0 ≤ u) (u1 : u < 40) (hp : 0 ≤ m 264 (6 * u)) : Sg_shownOf_79 c (u + 1) d = some (shF m u (crv (mnI d (m 264 (6 * u + 2))) (m 264 (6 * u + 3)))) := by
  obtain ⟨s1, s2⟩ := S3.u h.s u u0 u1
  unfold Sg_shownOf_79 shF
  simp (disch := omega) only [ar_ok, Option.bind_some, rd_pat, Sg_curved_e]
  rw [show (5 + 1 * (u + 1) : Int) = 6 + u by omega, s1, s2 hp 2 (by omega) (by omega), s2 hp 3 (by omega) (by omega), (h.g.k).1]
  generalize crv (mnI d (m 264 (6 * u + 2))) (m 264 (6 * u + 3)) = q
  repeat' split
  all_goals first | (exfalso; omega) | rfl
theorem Sg_shownOf_e {B : Int} {c m : Mem} (h : INV B c m) {u : Int} (u0 : 0 ≤ u) (u1 : u < 40) (hp : 0 ≤ m 264 (6 * u)) : Sg_shownOf c (u + 1) = some (shw m u) := by
  obtain ⟨_, k1, kp⟩ := h.w.u u u0 u1
  obtain ⟨_, _, l0, l1, c0, c1, _, _⟩ := kp hp
  unfold Sg_shownOf
  rw [Sg_levelOf_e h u0 u1 (by omega) (by omega), Option.bind_some, Option.bind_some, (h.g.g).1]
  refine loopZ (fun k s i => Sg_shownOf_18 c (u + 1) k s (i + 1)) (mst m u) (jdiv (jmul (lvA m u 0) (m 259 34)) 1000) 8 8 rfl ?_ ?_ big b8
  · intro k i s h0 h1
    have s1 := S3.m h.s i h0 h1
    have s2 := S3.s h.s i u h0 h1 u0 u1
    obtain ⟨w1, w2⟩ := h.w.s i u h0 h1 u0 u1
    rw [Sg_shownOf_18, if_neg (show ¬ 8 < i + 1 by omega)]
    simp (disch := omega) only [jadd_e, aI_ok, ar_ok, Option.bind_some, rd_sub, Sg_faderOf_e h]
    rw [show (62 + 1 * (i + 1) : Int) = 63 + i by omega, s1, s2]
    unfold mst
    by_cases e1 : m 264 (1160 + i) = 1
    · rw [if_neg (show ¬ m 264 (1160 + i) ≠ 1 from fun x => x e1)]
      by_cases e2 : m 264 (840 + 40 * i + u) < 0
      · rw [if_pos (show m 264 (840 + 40 * i + u) = -1 by omega), if_neg (show ¬ (m 264 (1160 + i) = 1 ∧ 0 ≤ m 264 (840 + 40 * i + u)) by omega)]
      · rw [if_neg (show ¬ m 264 (840 + 40 * i + u) = -1 by omega), if_pos (show m 264 (1160 + i) = 1 ∧ 0 ≤ m 264 (840 + 40 * i + u) by omega)]
    · rw [if_pos e1, if_neg (show ¬ (m 264 (1160 + i) = 1 ∧ _) from fun x => e1 x.1)]
  · intro k
    show Sg_shownOf_18 c (u + 1) (k + 1) _ (8 + 1) = _
    rw [Sg_shownOf_18, if_pos (by decide), Sg_sh79 h u0 u1 hp, Sg_sh79 h u0 u1 hp, (h.g.k).1]
    unfold shw
    by_cases e : m 259 35 = 0
    · simp only [if_pos e]
    · simp only [if_neg e]
      rw [show mnI 0 (m 264 (6 * u + 2)) = 0 from if_neg (by omega)]
theorem q_shown {B : Int} {μ : Mem} (h : INV B μ μ) (u : Int) : SAME (D_shown μ u) (M_shown μ u) := by
  unfold D_shown M_shown
  simp only [D_isIn_e, M_isUnit_e, Option.bind_some, bz]
  by_cases z : 1 ≤ u ∧ u ≤ 40
  · simp only [if_pos z]
    rw [Sh_isPatched_e h.s h.w z.1 z.2]
    simp only [Option.bind_some, nz]
    by_cases z2 : μ 264 (6 * (u - 1)) < 0
    · have z2' : ¬ (1 ≤ u ∧ u ≤ 40 ∧ 0 ≤ μ 264 (6 * (u - 1))) := by omega
      rw [if_pos z2, if_neg z2']; exact ⟨_, rfl, rfl⟩
    · have z2' : 1 ≤ u ∧ u ≤ 40 ∧ 0 ≤ μ 264 (6 * (u - 1)) := by omega
      rw [if_neg z2, if_pos z2', jsub_e (by omega) (by omega)]
      have e := Sg_shownOf_e h (u := u - 1) (by omega) (by omega) (by omega)
      rw [show u - 1 + 1 = u by omega] at e
      rw [e, M_shownAt_e h.km h.w (by omega) (by omega) (by omega)]
      exact ⟨_, rfl, rfl⟩
  · rw [if_neg z, if_neg (show ¬ (1 ≤ u ∧ u ≤ 40 ∧ 0 ≤ μ 264 (6 * (u - 1))) by omega)]; exact ⟨_, rfl, rfl⟩
