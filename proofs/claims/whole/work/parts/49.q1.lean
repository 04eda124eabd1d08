-- L3: questions, part 1: what both answer alike
def SAME (a b : Option Int) : Prop := ∃ v, a = some v ∧ b = some v
theorem SAME.mk {a b : Option Int} {v w : Int} (h1 : a = some v) (h2 : b = some w) (e : v = w) : SAME a b := ⟨v, h1, by rw [h2, e]⟩
theorem bz {α : Type} {p : Prop} {d : Decidable p} {a b : α} : (if (if p then (1 : Int) else 0) = 0 then a else b) = if p then b else a := by
  by_cases h : p
  · simp only [if_pos h]; rfl
  · simp only [if_neg h]; rfl
theorem bn {α : Type} {p : Prop} {d : Decidable p} {a b : α} : (if (if p then (1 : Int) else 0) ≠ 0 then a else b) = if p then a else b := by
  by_cases h : p
  · simp only [if_pos h]; rfl
  · simp only [if_neg h]; rfl
theorem nz {α : Type} {p : Prop} {d : Decidable p} {a b : α} : (if (if p then (0 : Int) else 1) = 0 then a else b) = if p then a else b := by
  by_cases h : p
  · simp only [if_pos h]; rfl
  · simp only [if_neg h]; rfl
theorem nn {α : Type} {p : Prop} {d : Decidable p} {a b : α} : (if (if p then (0 : Int) else 1) ≠ 0 then a else b) = if p then b else a := by
  by_cases h : p
  · simp only [if_pos h]; rfl
  · simp only [if_neg h]; rfl
theorem D_isIn_e {μ : Mem} {a n : Int} : D_isIn μ a n = some (if 1 ≤ a ∧ a ≤ n then 1 else 0) := by
  unfold D_isIn
  repeat' split
  all_goals first | (exfalso; omega) | rfl
theorem D_isLevel_e {μ : Mem} {a : Int} : D_isLevel μ a = some (if 0 ≤ a ∧ a ≤ 1000 then 1 else 0) := by
  unfold D_isLevel
  repeat' split
  all_goals first | (exfalso; omega) | rfl
theorem D_isCell_e {μ : Mem} {u p : Int} : D_isCell μ u p = some (if 1 ≤ u ∧ u ≤ 40 ∧ 0 ≤ p ∧ p ≤ 8 then 1 else 0) := by
  unfold D_isCell
  simp only [D_isIn_e, Option.bind_some, bz]
  repeat' split
  all_goals first | (exfalso; omega) | rfl
theorem q_fault {B : Int} {μ : Mem} (h : INV B μ μ) (w : Int) : SAME (D_fault μ w) (M_fault μ w) := by
  obtain ⟨e1, e2⟩ := h.t.f
  unfold D_fault M_fault
  rw [e1, e2]
  repeat' split
  all_goals exact ⟨_, rfl, rfl⟩
theorem jb_255 {x : Int} (h0 : 0 ≤ x) (h1 : x ≤ 255) : jand (jb x) 255 = x := by
  obtain ⟨x', rfl⟩ : ∃ x' : Nat, x = (x' : Int) := ⟨x.toNat, by omega⟩
  have : ∀ q ∈ List.range 256, jand (jb (q : Int)) 255 = (q : Int) := by decide +kernel
  exact this x' (List.mem_range.mpr (by omega))
theorem q_tape {B : Int} {μ : Mem} (h : INV B μ μ) (i : Int) : SAME (D_tape μ i) (M_tape μ i) := by
  obtain ⟨e1, e2, e3⟩ := h.t.n
  unfold D_tape M_tape
  simp (disch := omega) only [M_in_e, Option.bind_some, bz, jsub_e]
  rw [e1]
  by_cases z : 0 ≤ i ∧ i ≤ μ 259 10 - 1
  · rw [if_pos z, if_neg (by omega), if_neg (by omega)]
    obtain ⟨t1, t2, t3⟩ := h.t.t i z.1 (by omega)
    simp (disch := omega) only [aI_ok, Option.bind_some]
    rw [t1, jb_255 t2 t3]
    exact ⟨_, rfl, rfl⟩
  · rw [if_neg z]
    refine ⟨-1, ?_, rfl⟩
    repeat' split
    all_goals first | (exfalso; omega) | rfl
theorem q_tracked {B : Int} {μ : Mem} (h : INV B μ μ) (n u p : Int) : SAME (D_tracked μ n u p) (M_tracked μ n u p) := by
  unfold D_tracked M_tracked
  simp only [D_isCell_e, M_in_e, M_isField_e, Option.bind_some, bz, bn, cna_e h.s]
  by_cases z : 0 ≤ n ∧ n ≤ 999
  · by_cases z2 : 1 ≤ u ∧ u ≤ 40 ∧ 0 ≤ p ∧ p ≤ 8
    · simp only [if_pos z, if_pos z2]
      rw [if_neg (by omega), if_neg (by omega), Sh_trackedLevel_e h.s h.w h.kc h.o n (by omega) (by omega) (by omega) (by omega), M_field_e z2]
      simp only [Option.bind_some]
      rw [M_trackedLevel_e h.km h.w.c (by omega) (by omega)]
      exact ⟨_, rfl, rfl⟩
    · simp only [if_neg z2]
      refine ⟨-2, ?_, ?_⟩ <;> repeat' split
      all_goals rfl
  · simp only [if_neg z]
    refine ⟨-2, ?_, rfl⟩
    repeat' split
    all_goals first | (exfalso; omega) | rfl
theorem D_org {B : Int} {μ : Mem} (h : INV B μ μ) (n f : Int) (f0 : 0 ≤ f) (f1 : f < 360) : ((Sh_originIndex μ (cna μ n) f).bind fun x7 => if 0 ≤ x7 then (aI μ 79 30 x7).bind fun x9 => (gf μ 1 0 x9).bind fun x11 => some x11 else some 0) = some (orig (μ 264) n f) := by
  have hn := S3.n h.s
  obtain ⟨_, k0, k1, _, _⟩ := cna_s h.s n
  obtain ⟨e1, o0, o1, _⟩ := oix_s h.s h.o f0 f1 k0 (by omega)
  rw [e1, (trk_c h.s h.w h.o n f0 f1).1, Option.bind_some]
  by_cases z3 : oix μ (cna μ n) f < 0
  · rw [if_pos z3, if_neg (by omega)]
  · rw [if_neg z3, if_pos (show 0 ≤ oix μ (cna μ n) f by omega), aI_ok (by omega) (by omega), Option.bind_some, cq_gf h.s (by omega) (by omega), Option.bind_some]
theorem D_origin_e {B : Int} {μ : Mem} (h : INV B μ μ) {n u p : Int} (z : 0 ≤ n ∧ n ≤ 999) (z2 : 1 ≤ u ∧ u ≤ 40 ∧ 0 ≤ p ∧ p ≤ 8) : D_origin μ n u p = some (orig (μ 264) n (9 * (u - 1) + p)) := by
  unfold D_origin
  rw [if_neg (show ¬ n < 0 by omega), if_neg (show ¬ 999 < n by omega), D_isCell_e, if_pos z2, Option.bind_some, if_pos (by decide), cna_e h.s, Option.bind_some, D_cellOf_e (by omega) (by omega) (by omega) (by omega), Option.bind_some]
  exact D_org h n _ (by omega) (by omega)
theorem M_origin_e {B : Int} {μ : Mem} (h : INV B μ μ) {n u p : Int} (z : 0 ≤ n ∧ n ≤ 999) (z2 : 1 ≤ u ∧ u ≤ 40 ∧ 0 ≤ p ∧ p ≤ 8) : M_origin μ n u p = some (orig (μ 264) n (9 * (u - 1) + p)) := by
  unfold M_origin
  rw [M_in_e, if_pos z, Option.bind_some, if_neg (by decide), M_isField_e, if_pos z2, Option.bind_some, if_neg (by decide), M_field_e z2, Option.bind_some, M_originOf_e (by omega) (by omega), Option.bind_some]
theorem q_origin {B : Int} {μ : Mem} (h : INV B μ μ) (n u p : Int) : SAME (D_origin μ n u p) (M_origin μ n u p) := by
  by_cases z : 0 ≤ n ∧ n ≤ 999
  · by_cases z2 : 1 ≤ u ∧ u ≤ 40 ∧ 0 ≤ p ∧ p ≤ 8
    · exact ⟨_, D_origin_e h z z2, M_origin_e h z z2⟩
    · refine ⟨-2, ?_, ?_⟩
      · unfold D_origin
        rw [if_neg (show ¬ n < 0 by omega), if_neg (show ¬ 999 < n by omega), D_isCell_e, if_neg z2, Option.bind_some, if_neg (by decide)]
      · unfold M_origin
        rw [M_in_e, if_pos z, Option.bind_some, if_neg (by decide), M_isField_e, if_neg z2, Option.bind_some, if_pos rfl]
  · refine ⟨-2, ?_, ?_⟩
    · unfold D_origin
      by_cases z4 : n < 0
      · rw [if_pos z4]
      · rw [if_neg z4, if_pos (by omega)]
    · unfold M_origin
      rw [M_in_e, if_neg z, Option.bind_some, if_pos rfl]
theorem q_change {B : Int} {μ : Mem} (h : INV B μ μ) (n u p : Int) : SAME (D_change μ n u p) (M_change μ n u p) := by
  unfold D_change M_change
  rw [cix_e h.s, M_cueRow_e]
  simp only [D_isCell_e, M_isField_e, Option.bind_some, bz, bn]
  have hn := S3.n h.s
  rcases cix_s h.s n with ⟨e, _⟩ | ⟨e0, e1, e2, _⟩
  · have : rowOf (μ 264) n < 0 := by
      by_cases z : 0 < n
      · exact (cix_row h.s h.w.n n z).mp (by omega)
      · rcases rowOf_s (μ 264) n with ⟨r, _⟩ | ⟨_, _, r, _⟩ <;> omega
    rw [if_pos (show cix μ n < 0 by omega), if_pos this]
    exact ⟨_, rfl, rfl⟩
  · obtain ⟨q0, q1, q2, q3, q4, q5⟩ := S3.row h.s h.w.n e0 e1
    rw [e2] at q0 q1 q2 q3 q4 q5
    rw [if_neg (show ¬ cix μ n < 0 by omega), if_neg (show ¬ rowOf (μ 264) n < 0 by omega)]
    by_cases z2 : 1 ≤ u ∧ u ≤ 40 ∧ 0 ≤ p ∧ p ≤ 8
    · simp only [if_pos z2]
      rw [M_field_e z2, D_cellOf_e (by omega) (by omega) (by omega) (by omega)]
      simp (disch := omega) only [aI_ok, Option.bind_some, cq_g2 h.s h.o, cq_r2 h.s, jadd_e, jmul_e]
      rw [q5 _ (by omega) (by omega)]
      exact ⟨_, rfl, rfl⟩
    · simp only [if_neg z2]
      exact ⟨_, rfl, rfl⟩
theorem q_held {B : Int} {μ : Mem} (h : INV B μ μ) (u p : Int) : SAME (D_held μ u p) (M_held μ u p) := by
  unfold D_held M_held
  simp only [D_isCell_e, M_isField_e, Option.bind_some, bz, bn]
  by_cases z2 : 1 ≤ u ∧ u ≤ 40 ∧ 0 ≤ p ∧ p ≤ 8
  · simp only [if_pos z2]
    rw [M_field_e z2, D_cellOf_e (by omega) (by omega) (by omega) (by omega)]
    simp (disch := omega) only [aI_ok, Option.bind_some, jadd_e]
    rw [S3.h h.s _ (by omega) (by omega)]
    exact ⟨_, rfl, rfl⟩
  · simp only [if_neg z2]
    exact ⟨_, rfl, rfl⟩
theorem q_unit {B : Int} {μ : Mem} (h : INV B μ μ) (u w : Int) : SAME (D_unit μ u w) (M_unit μ u w) := by
  unfold D_unit M_unit
  simp only [D_isIn_e, M_in_e, M_isUnit_e, Option.bind_some, bz, bn]
  by_cases z : 1 ≤ u ∧ u ≤ 40
  · simp only [if_pos z]
    rw [Sh_isPatched_e h.s h.w z.1 z.2]
    simp only [Option.bind_some, nz]
    by_cases z2 : μ 264 (6 * (u - 1)) < 0
    · have z2' : ¬ (1 ≤ u ∧ u ≤ 40 ∧ 0 ≤ μ 264 (6 * (u - 1))) := by omega
      rw [if_pos z2, if_neg z2']; exact ⟨_, rfl, rfl⟩
    · have z2' : 1 ≤ u ∧ u ≤ 40 ∧ 0 ≤ μ 264 (6 * (u - 1)) := by omega
      rw [if_neg z2, if_pos z2']
      by_cases z3 : 0 ≤ w ∧ w ≤ 6
      · rw [if_pos z3, if_neg (show ¬ w < 0 by omega), if_pos (show w ≤ 6 by omega)]
        by_cases z4 : w = 6
        · subst z4
          rw [if_neg (by simp), if_pos (show (6 : Int) ≤ 6 by omega)]
          simp (disch := omega) only [aI_ok, Option.bind_some, jsub_e]
          have p1 := h.g.p (u - 1) (by omega) (by omega)
          rw [show u - 1 + 1 = u by omega] at p1
          exact ⟨_, rfl, congrArg some p1.symm⟩
        · rw [if_pos z4, if_neg (show ¬ 6 ≤ w by omega)]
          simp (disch := omega) only [aI_ok, Option.bind_some, jsub_e, jadd_e, jmul_e, ar_ok, rd_pat]
          obtain ⟨s1, s2⟩ := S3.u h.s (u - 1) (by omega) (by omega)
          rw [show (5 + 1 * u : Int) = 6 + (u - 1) by omega]
          by_cases z5 : w = 0
          · subst z5; rw [s1]; exact ⟨_, rfl, by rw [Int.add_zero]⟩
          · rw [s2 (by omega) w (by omega) (by omega)]; exact ⟨_, rfl, rfl⟩
      · rw [if_neg z3]
        refine ⟨-1, ?_, rfl⟩
        repeat' split
        all_goals first | (exfalso; omega) | rfl
  · rw [if_neg z, if_neg (by omega)]; exact ⟨_, rfl, rfl⟩
theorem Row_unitAt_e {μ : Mem} {o i n : Int} (hO : 280 ≤ μ 0 0) (h0 : 94 ≤ o) (h1 : o < 130) (h2 : (o - 94) % 2 = 0) (hn : μ o 1 = n) (n1 : n ≤ 40) : Row_unitAt μ o i = some (if 0 ≤ i ∧ i < n then μ (o + 1) i else -1) := by
  unfold Row_unitAt
  rw [gf_c (kd_row h0 h1 h2), hn]
  simp only [Option.bind_some]
  by_cases z : 0 ≤ i ∧ i < n
  · rw [if_pos z, if_neg (by omega), if_neg (by omega)]
    rw [show gO μ 5 1 o = some (o + 1) from if_pos ⟨kd_row h0 h1 h2, by omega, by omega⟩]
    simp (disch := omega) only [Option.bind_some, rd_row]
  · rw [if_neg z]
    repeat' split
    all_goals first | (exfalso; omega) | rfl
theorem q_group {B : Int} {μ : Mem} (h : INV B μ μ) (k i : Int) : SAME (D_group μ k i) (M_group μ k i) := by
  unfold D_group M_group
  simp only [D_isIn_e, M_in_e, Option.bind_some, bz, bn]
  by_cases z : 1 ≤ k ∧ k ≤ 12
  · simp only [if_pos z]
    obtain ⟨s1, s2⟩ := S3.g h.s (k - 1) (by omega) (by omega)
    obtain ⟨w1, w2, w3, w4⟩ := h.w.g (k - 1) (by omega) (by omega)
    simp (disch := omega) only [aI_ok, Option.bind_some, jsub_e, jadd_e, jmul_e, ar_ok]
    rw [show (94 + 2 * k : Int) = 96 + 2 * (k - 1) by omega, if_pos ⟨by omega, kd_row (by omega) (by omega) (by omega)⟩, Row_unitAt_e h.o (by omega) (by omega) (by omega) s1 w2]
    simp only [Option.bind_some]
    by_cases z2 : 0 ≤ i ∧ i < μ 264 (240 + 41 * (k - 1))
    · rw [if_pos z2, if_pos (by omega)]
      have w5 := w3 i z2.1 z2.2
      simp only at w5
      rw [show 240 + 41 * (k - 1) + 1 + i = 241 + 41 * (k - 1) + i by omega]
      simp (disch := omega) only [aI_ok, jadd_e, Option.bind_some]
      rw [show (96 + 2 * (k - 1) + 1 : Int) = 97 + 2 * (k - 1) by omega, s2 i z2.1 z2.2]
      exact ⟨_, rfl, rfl⟩
    · rw [if_neg z2, if_neg (by omega)]; exact ⟨_, rfl, rfl⟩
  · simp only [if_neg z]; exact ⟨_, rfl, rfl⟩
