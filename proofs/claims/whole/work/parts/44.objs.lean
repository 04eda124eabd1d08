-- L3: kinds and lengths of the show's objects
theorem ob_3 {x : Int} (h0 : 3 ≤ x) (h1 : x < 220) : ob x = shK (x - 3) := by
  unfold ob
  rw [if_neg (by omega), if_neg (by omega), if_neg (by omega), if_pos (by omega)]
theorem ob_c {x : Int} (h0 : 281 ≤ x) (h1 : x < 2017) : ob x = shK ((x - 281) % 217) := by
  unfold ob
  rw [if_neg (by omega), if_neg (by omega), if_neg (by omega), if_neg (by omega), if_neg (by omega), if_pos (by omega)]
def SHB (b : Int) : Prop := b = 3 ∨ ∃ j, 0 ≤ j ∧ j < 8 ∧ b = 281 + 217 * j
theorem ob_b {b r : Int} (hb : SHB b) (h0 : 0 ≤ r) (h1 : r < 217) : ob (b + r) = shK r := by
  rcases hb with rfl | ⟨j, j0, j1, rfl⟩
  · rw [ob_3 (by omega) (by omega)]; congr 1; omega
  · rw [ob_c (by omega) (by omega)]; congr 1; omega
theorem shK_2 {r : Int} (h0 : 2 ≤ r) (h1 : r < 43) : shK r = (100, 6) := by unfold shK; rw [if_neg (by omega), if_neg (by omega), if_pos (by omega)]
theorem shK_45 {r : Int} (h0 : 45 ≤ r) (h1 : r < 58) : shK r = (100, 9) := by
  unfold shK
  iterate 5 rw [if_neg (by omega)]
  rw [if_pos (by omega)]
theorem shK_59 {r : Int} (h0 : 59 ≤ r) (h1 : r < 68) : shK r = (100, 41) := by
  unfold shK
  iterate 7 rw [if_neg (by omega)]
  rw [if_pos (by omega)]
theorem shK_70 {r : Int} (h0 : 70 ≤ r) (h1 : r < 75) : shK r = (100, 5) := by
  unfold shK
  iterate 10 rw [if_neg (by omega)]
  rw [if_pos (by omega)]
theorem shK_80 {r : Int} (h0 : 80 ≤ r) (h1 : r < 91) : shK r = (100, 2) := by
  unfold shK
  iterate 16 rw [if_neg (by omega)]
  rw [if_pos (by omega)]
theorem shK_91 {r : Int} (h0 : 91 ≤ r) (h1 : r < 127) (h2 : (r - 91) % 2 = 0) : shK r = (5, 2) := by
  unfold shK
  iterate 17 rw [if_neg (by omega)]
  rw [if_pos (by omega), if_pos h2]
theorem shK_92 {r : Int} (h0 : 91 ≤ r) (h1 : r < 127) (h2 : (r - 91) % 2 = 1) : shK r = (100, 40) := by
  unfold shK
  iterate 17 rw [if_neg (by omega)]
  rw [if_pos (by omega), if_neg (by omega)]
theorem shK_127 {r : Int} (h0 : 127 ≤ r) (h2 : (r - 127) % 3 = 0) : shK r = (1, 3) := by
  unfold shK
  iterate 18 rw [if_neg (by omega)]
  rw [if_pos h2]
theorem shK_128 {r : Int} (h0 : 127 ≤ r) (h2 : (r - 127) % 3 = 1) : shK r = (100, 6) := by
  unfold shK
  iterate 19 rw [if_neg (by omega)]
  rw [if_pos h2]
theorem shK_129 {r : Int} (h0 : 127 ≤ r) (h2 : (r - 127) % 3 = 2) : shK r = (100, 360) := by
  unfold shK
  iterate 20 rw [if_neg (by omega)]
theorem rdS {μ : Mem} {x j n : Int} {r : Int} (e : ob x = shK r) (h : shK r = (100, n)) (j0 : 0 ≤ j) (j1 : j < n) : rdI μ x j = some (μ x j) := by
  have e2 : ob x = (100, n) := e.trans h
  exact rdI_ok (by unfold kd; rw [e2]) j0 (by unfold ln; rw [e2]; exact j1)
theorem wS {μ : Mem} {x j n v : Int} {r : Int} (e : ob x = shK r) (h : shK r = (100, n)) (x0 : 0 < x) (j0 : 0 ≤ j) (j1 : j < n) : wI μ x j v = some (up μ x (st1 (μ x) j v)) := by
  have e2 : ob x = (100, n) := e.trans h
  rw [wI_ok (by unfold kd; rw [e2]) x0 j0 (by unfold ln; rw [e2]; exact j1), wr_st1]
theorem rd_pat {μ : Mem} {x j : Int} (h0 : 5 ≤ x) (h1 : x < 46) (j0 : 0 ≤ j) (j1 : j < 6) : rdI μ x j = some (μ x j) := rdS (ob_3 (by omega) (by omega)) (shK_2 (by omega) (by omega)) j0 j1
theorem rd_pal {μ : Mem} {x j : Int} (h0 : 48 ≤ x) (h1 : x < 61) (j0 : 0 ≤ j) (j1 : j < 9) : rdI μ x j = some (μ x j) := rdS (ob_3 (by omega) (by omega)) (shK_45 (by omega) (by omega)) j0 j1
theorem rd_sub {μ : Mem} {x j : Int} (h0 : 62 ≤ x) (h1 : x < 71) (j0 : 0 ≤ j) (j1 : j < 41) : rdI μ x j = some (μ x j) := rdS (ob_3 (by omega) (by omega)) (shK_59 (by omega) (by omega)) j0 j1
theorem rd_wav {μ : Mem} {x j : Int} (h0 : 73 ≤ x) (h1 : x < 78) (j0 : 0 ≤ j) (j1 : j < 5) : rdI μ x j = some (μ x j) := rdS (ob_3 (by omega) (by omega)) (shK_70 (by omega) (by omega)) j0 j1
theorem rd_evt {μ : Mem} {x j : Int} (h0 : 83 ≤ x) (h1 : x < 94) (j0 : 0 ≤ j) (j1 : j < 2) : rdI μ x j = some (μ x j) := rdS (ob_3 (by omega) (by omega)) (shK_80 (by omega) (by omega)) j0 j1
theorem rd_row {μ : Mem} {x j : Int} (h0 : 95 ≤ x) (h1 : x < 130) (h2 : (x - 94) % 2 = 1) (j0 : 0 ≤ j) (j1 : j < 40) : rdI μ x j = some (μ x j) := rdS (ob_3 (by omega) (by omega)) (shK_92 (by omega) (by omega) (by omega)) j0 j1
theorem rd_tim {μ : Mem} {x j : Int} (h0 : 130 ≤ x) (h1 : x < 220) (h2 : (x - 130) % 3 = 1) (j0 : 0 ≤ j) (j1 : j < 6) : rdI μ x j = some (μ x j) := rdS (ob_3 (by omega) (by omega)) (shK_128 (by omega) (by omega)) j0 j1
theorem rd_chg {μ : Mem} {x j : Int} (h0 : 130 ≤ x) (h1 : x < 220) (h2 : (x - 130) % 3 = 2) (j0 : 0 ≤ j) (j1 : j < 360) : rdI μ x j = some (μ x j) := rdS (ob_3 (by omega) (by omega)) (shK_129 (by omega) (by omega)) j0 j1
theorem kd_row {x : Int} (h0 : 94 ≤ x) (h1 : x < 130) (h2 : (x - 94) % 2 = 0) : kd x = 5 := by unfold kd; rw [ob_3 (by omega) (by omega), shK_91 (by omega) (by omega) (by omega)]
theorem kd_cue {x : Int} (h0 : 130 ≤ x) (h1 : x < 220) (h2 : (x - 130) % 3 = 0) : kd x = 1 := by unfold kd; rw [ob_3 (by omega) (by omega), shK_127 (by omega) (by omega)]
