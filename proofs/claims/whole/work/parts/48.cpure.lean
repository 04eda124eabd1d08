-- L3: what the class's pure methods answer
theorem Sh_isPatched_e {c : Mem} {g : Int → Int} (h : SR c 3 g) (hw : WF g) {u : Int} (u0 : 1 ≤ u) (u1 : u ≤ 40) : Sh_isPatched c u = some (if g (6 * (u - 1)) < 0 then 0 else 1) := by
  unfold Sh_isPatched
  obtain ⟨e, _⟩ := S3.u h (u - 1) (by omega) (by omega)
  obtain ⟨w1, _⟩ := hw.u (u - 1) (by omega) (by omega)
  simp (disch := omega) only [ar_ok, Option.bind_some, rd_pat]
  rw [show (5 + 1 * u : Int) = 6 + (u - 1) by omega, e]
  repeat' split
  all_goals first | rfl | (exfalso; omega)
theorem Sh_has_e {c : Mem} {g : Int → Int} (h : SR c 3 g) (hw : WF g) (hk : KON c) {u p : Int} (u0 : 1 ≤ u) (u1 : u ≤ 40) : Sh_has c u p = some (if 0 ≤ g (6 * (u - 1)) ∧ jand (jshr (tbl hasT (g (6 * (u - 1)))) p) 1 = 1 then 1 else 0) := by
  unfold Sh_has
  obtain ⟨e, _⟩ := S3.u h (u - 1) (by omega) (by omega)
  obtain ⟨w1, w2, _⟩ := hw.u (u - 1) (by omega) (by omega)
  simp (disch := omega) only [ar_ok, Option.bind_some, rd_pat]
  rw [show (5 + 1 * u : Int) = 6 + (u - 1) by omega, e]
  by_cases z : g (6 * (u - 1)) < 0
  · rw [if_pos z, if_neg (by omega)]
  · rw [if_neg z, if_neg (by omega), aI_ok (by omega) (by omega), Option.bind_some, hk.has _ (by omega) (by omega)]
    by_cases z2 : jand (jshr (tbl hasT (g (6 * (u - 1)))) p) 1 = 1
    · rw [if_neg (by simpa using z2), if_pos ⟨by omega, z2⟩]
    · rw [if_pos z2, if_neg (fun a => z2 a.2)]
theorem Sh_levelFor_e {c : Mem} {g : Int → Int} (h : SR c 3 g) (hw : WF g) (hk : KON c) {v p : Int} (hv : VAL v) (p0 : 0 ≤ p) (p1 : p < 9) : Sh_levelFor c v p = some (lev g v p) := by
  unfold Sh_levelFor Sh_levelFor_29 lev hm
  simp (disch := omega) only [aI_ok, Option.bind_some, hk.home p p0 p1]
  rcases hv with e | e | e
  · rw [if_pos (by omega), if_neg (by omega), if_pos (by omega), if_pos (by omega)]
  · rw [if_pos (by omega), if_pos (by omega), if_pos (by omega), if_neg (by omega)]
  · rw [if_neg (by omega), if_neg (by omega)]
    obtain ⟨w1, w2⟩ := hw.p (v - 2001) p (by omega) (by omega) p0 p1
    have e2 := S3.p h (v - 2001) p (by omega) (by omega) p0 p1
    simp (disch := omega) only [ar_ok, jsub_e, Option.bind_some, rd_pal]
    rw [show (48 + 1 * (v - 2000) : Int) = 49 + (v - 2001) by omega, e2]
    repeat' split
    all_goals first | rfl | (exfalso; omega)
theorem D_cellOf_e {c : Mem} {u p : Int} (u0 : 1 ≤ u) (u1 : u ≤ 40) (p0 : 0 ≤ p) (p1 : p < 9) : D_cellOf c u p = some (9 * (u - 1) + p) := by
  unfold D_cellOf
  simp (disch := omega) only [jadd_e, jmul_e, jsub_e]
  rw [Int.mul_comm]
theorem lev_home {g : Int → Int} {p : Int} : lev g (-1) p = hm p := rfl
theorem Sh_trackedLevel_e {c : Mem} {g : Int → Int} (h : SR c 3 g) (hw : WF g) (hk : KON c) (hO : 280 ≤ c 0 0) (n : Int) {u p : Int} (u0 : 1 ≤ u) (u1 : u ≤ 40) (p0 : 0 ≤ p) (p1 : p < 9) : Sh_trackedLevel c (cna c n) u p = some (tlv g n (9 * (u - 1) + p)) := by
  unfold Sh_trackedLevel
  rw [Sh_has_e h hw hk u0 u1, Option.bind_some, D_cellOf_e u0 u1 p0 p1, Option.bind_some]
  have em : (9 * (u - 1) + p) % 9 = p := by omega
  have ed : (9 * (u - 1) + p) / 9 = u - 1 := by omega
  have tv := trk_val (n := n) hw.c (i := 9 * (u - 1) + p) (by omega) (by omega)
  unfold tlv
  rw [em]
  by_cases z : 0 ≤ g (6 * (u - 1)) ∧ jand (jshr (tbl hasT (g (6 * (u - 1)))) p) 1 = 1
  · rw [if_pos z, if_pos (by decide), (trk_c h hw hO n (by omega) (by omega)).2, Option.bind_some, Sh_levelFor_e h hw hk tv p0 p1]
    rfl
  · rw [if_neg z, if_neg (by decide), aI_ok p0 p1, Option.bind_some, hk.home p p0 p1]
    have : trk g n (9 * (u - 1) + p) = -1 := by
      unfold trk
      split
      · rfl
      · rename_i z2
        obtain ⟨q0, q1, q2, q3⟩ := orig_r z2
        obtain ⟨v1, v2⟩ := ((hw.c _ q0 q1).2.2 (by omega)).2.2.2.2 (9 * (u - 1) + p) (by omega) (by omega)
        rw [em, ed] at v2
        rcases v1 with v | v | v
        · exact v
        · exact absurd (v2 (by omega)) z
        · exact absurd (v2 (by omega)) z
    rw [this]
    rfl
theorem clv_eq {B : Int} {c m : Mem} (h : PR B c m) {i : Int} (i0 : 0 ≤ i) (i1 : i < 360) : clv (c 222) (c 223) (c 224) (c 225) (c 221 2) i = clv (m 272) (m 273) (m 274) (m 275) (m 259 28) i := by
  obtain ⟨k1, k2, _, _, _, k3, k4, k5⟩ := h.K
  obtain ⟨g1, _⟩ := h.G i i0 i1
  obtain ⟨f1, f2, f3, _⟩ := h.F i i0 i1
  obtain ⟨t1, t2, t3, t4, t5, t6⟩ := h.T i i0 i1
  unfold clv
  rw [g1, t1, t4, k3]
  rcases f1 with f1 | ⟨f1, f4⟩
  · rw [f1]
  · have e : jsub (m 259 28) (m 274 i) = m 259 28 - m 274 i := jsub_e (by omega) (by omega)
    rw [e, f1, if_neg (by omega), if_pos (by omega), if_neg (by omega), if_pos (by omega)]
theorem Pl_cueLevel_e {c : Mem} {i : Int} (i0 : 0 ≤ i) (i1 : i < 360) : Pl_cueLevel c i = some (clv (c 222) (c 223) (c 224) (c 225) (c 221 2) i) := by
  unfold Pl_cueLevel clv mixJ
  simp (disch := omega) only [aI_ok, Option.bind_some]
  repeat' split
  all_goals first | rfl | (exfalso; omega)
theorem Pl_cueLevel_m {B : Int} {c m : Mem} (h : PR B c m) {i : Int} (i0 : 0 ≤ i) (i1 : i < 360) : Pl_cueLevel c i = some (clv (m 272) (m 273) (m 274) (m 275) (m 259 28) i) := by
  rw [Pl_cueLevel_e i0 i1, clv_eq h i0 i1]
theorem mixJ_r {a b p q : Int} (a0 : 0 ≤ a) (a1 : a ≤ 1000) (b0 : 0 ≤ b) (b1 : b ≤ 1000) (p0 : 0 ≤ p) (p1 : p ≤ q) (q0 : 0 < q) (q1 : q ≤ 600) : 0 ≤ mixJ a b p q ∧ mixJ a b p q ≤ 1000 := by
  have hp : 0 ≤ p ∧ p ≤ 600 := ⟨p0, by omega⟩
  have e1 : jsub b a = b - a := jsub_e (by omega) (by omega)
  have n1 : (b - a) * p ≤ 1000 * p := Int.mul_le_mul_of_nonneg_right (by omega) p0
  have n2 : -1000 * p ≤ (b - a) * p := Int.mul_le_mul_of_nonneg_right (by omega) p0
  have e2 : jmul (b - a) p = (b - a) * p := jmul_e (by omega) (by omega)
  have e3 : jdiv ((b - a) * p) q = ((b - a) * p).tdiv q := jdiv_t ⟨by omega, by omega⟩ ⟨by omega, by omega⟩ (by omega)
  unfold mixJ
  rw [e1, e2, e3]
  by_cases z : a ≤ b
  · have m0 : 0 ≤ (b - a) * p := Int.mul_nonneg (by omega) p0
    have m1 : (b - a) * p ≤ (b - a) * q := Int.mul_le_mul_of_nonneg_left p1 (by omega)
    have d1 : ((b - a) * p).tdiv q = (b - a) * p / q := Int.tdiv_eq_ediv_of_nonneg m0
    have d2 : (b - a) * p / q ≤ b - a := by
      apply Int.ediv_le_of_le_mul q0
      exact m1
    have d3 : 0 ≤ (b - a) * p / q := Int.ediv_nonneg m0 (by omega)
    rw [d1, jadd_e (by omega) (by omega)]
    omega
  · have m0 : 0 ≤ (a - b) * p := Int.mul_nonneg (by omega) p0
    have m1 : (a - b) * p ≤ (a - b) * q := Int.mul_le_mul_of_nonneg_left p1 (by omega)
    have ne : (b - a) * p = -((a - b) * p) := by rw [← Int.neg_mul]; congr 1; omega
    have d1 : ((a - b) * p).tdiv q = (a - b) * p / q := Int.tdiv_eq_ediv_of_nonneg m0
    have d2 : (a - b) * p / q ≤ a - b := by
      apply Int.ediv_le_of_le_mul q0
      exact m1
    have d3 : 0 ≤ (a - b) * p / q := Int.ediv_nonneg m0 (by omega)
    rw [ne, Int.neg_tdiv, d1, jadd_e (by omega) (by omega)]
    omega
theorem clv_r {B : Int} {c m : Mem} (h : PR B c m) {i : Int} (i0 : 0 ≤ i) (i1 : i < 360) : 0 ≤ clv (m 272) (m 273) (m 274) (m 275) (m 259 28) i ∧ clv (m 272) (m 273) (m 274) (m 275) (m 259 28) i ≤ 1000 := by
  obtain ⟨k1, k2, _, _, _, k3, k4, k5⟩ := h.K
  obtain ⟨g1, g2, g3⟩ := h.G i i0 i1
  obtain ⟨f1, f2, f3, _⟩ := h.F i i0 i1
  obtain ⟨t1, t2, t3, t4, t5, t6⟩ := h.T i i0 i1
  unfold clv
  repeat' split
  · omega
  · omega
  · exact mixJ_r f2 f3 g2 g3 (by omega) (by omega) (by omega) (by omega)
theorem lev_r {g : Int → Int} (hw : WF g) {v p : Int} (hv : VAL v) (p0 : 0 ≤ p) (p1 : p < 9) : 0 ≤ lev g v p ∧ lev g v p ≤ 1000 := by
  have hh : 0 ≤ hm p ∧ hm p ≤ 1000 := by
    unfold hm
    obtain ⟨p', rfl⟩ : ∃ p' : Nat, p = (p' : Int) := ⟨p.toNat, by omega⟩
    have : ∀ q ∈ List.range 9, 0 ≤ tbl hmT (q : Int) ∧ tbl hmT (q : Int) ≤ 1000 := by decide +kernel
    exact this p' (List.mem_range.mpr (by omega))
  unfold lev
  rcases hv with e | e | e
  · rw [if_pos (by omega), if_pos (by omega)]; exact hh
  · rw [if_pos (by omega), if_neg (by omega)]; exact e
  · rw [if_neg (by omega)]
    obtain ⟨w1, w2⟩ := hw.p (v - 2001) p (by omega) (by omega) p0 p1
    split
    · exact hh
    · omega
