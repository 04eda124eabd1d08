-- L3: what a text's first statement leaves for undo: a new show keeps FX
theorem shK_a5 : ∀ n : Nat, n < 217 → (shK (n : Int)).1 = 5 → 91 ≤ (n : Int) ∧ (n : Int) < 127 ∧ ((n : Int) - 91) % 2 = 0 := by decide +kernel
theorem shK_a1 : ∀ n : Nat, n < 217 → (shK (n : Int)).1 = 1 → 127 ≤ (n : Int) ∧ ((n : Int) - 127) % 3 = 0 := by decide +kernel
theorem shK_a7 : ∀ n : Nat, n < 217 → (shK (n : Int)).1 = 7 → (n : Int) = 0 := by decide +kernel
theorem shK_a110 : ∀ n : Nat, n < 217 → (shK (n : Int)).1 = 110 → ((n : Int) = 1 ∧ (shK (n : Int)).2 = 41) ∨ ((n : Int) = 44 ∧ (shK (n : Int)).2 = 13) ∨ ((n : Int) = 58 ∧ (shK (n : Int)).2 = 9) ∨ ((n : Int) = 69 ∧ (shK (n : Int)).2 = 5) ∨ ((n : Int) = 79 ∧ (shK (n : Int)).2 = 11) := by decide +kernel
theorem shK_a125 : ∀ n : Nat, n < 217 → (shK (n : Int)).1 = 125 → ((n : Int) = 43 ∧ (shK (n : Int)).2 = 13) ∨ ((n : Int) = 75 ∧ (shK (n : Int)).2 = 5) := by decide +kernel
theorem shK_i5 {r : Int} (r0 : 0 ≤ r) (r1 : r < 217) (h : (shK r).1 = 5) : 91 ≤ r ∧ r < 127 ∧ (r - 91) % 2 = 0 := by
  obtain ⟨n, rfl⟩ : ∃ n : Nat, r = (n : Int) := ⟨r.toNat, by omega⟩
  exact shK_a5 n (by omega) h
theorem shK_i1 {r : Int} (r0 : 0 ≤ r) (r1 : r < 217) (h : (shK r).1 = 1) : 127 ≤ r ∧ (r - 127) % 3 = 0 := by
  obtain ⟨n, rfl⟩ : ∃ n : Nat, r = (n : Int) := ⟨r.toNat, by omega⟩
  exact shK_a1 n (by omega) h
theorem shK_i7 {r : Int} (r0 : 0 ≤ r) (r1 : r < 217) (h : (shK r).1 = 7) : r = 0 := by
  obtain ⟨n, rfl⟩ : ∃ n : Nat, r = (n : Int) := ⟨r.toNat, by omega⟩
  exact shK_a7 n (by omega) h
theorem shK_i110 {r : Int} (r0 : 0 ≤ r) (r1 : r < 217) (h : (shK r).1 = 110) : (r = 1 ∧ (shK r).2 = 41) ∨ (r = 44 ∧ (shK r).2 = 13) ∨ (r = 58 ∧ (shK r).2 = 9) ∨ (r = 69 ∧ (shK r).2 = 5) ∨ (r = 79 ∧ (shK r).2 = 11) := by
  obtain ⟨n, rfl⟩ : ∃ n : Nat, r = (n : Int) := ⟨r.toNat, by omega⟩
  exact shK_a110 n (by omega) h
theorem shK_i125 {r : Int} (r0 : 0 ≤ r) (r1 : r < 217) (h : (shK r).1 = 125) : (r = 43 ∧ (shK r).2 = 13) ∨ (r = 75 ∧ (shK r).2 = 5) := by
  obtain ⟨n, rfl⟩ : ∃ n : Nat, r = (n : Int) := ⟨r.toNat, by omega⟩
  exact shK_a125 n (by omega) h
theorem ShN_5 {b r : Int} (h0 : 91 ≤ r) (h1 : r < 127) (h2 : (r - 91) % 2 = 0) : ShN b r 0 = b + r + 1 := by
  unfold ShN ShC
  rw [if_neg (show ¬ (127 ≤ r ∧ r < 127 + 3 * 30) by omega), if_neg (show ¬ (r = 76 ∧ (0 : Int) ≤ 0 ∧ (0 : Int) < 30) by omega)]
  by_cases z : 117 ≤ r
  · unfold ShR
    rw [if_pos (show 117 ≤ r ∧ r < 117 + 2 * 5 by omega), if_pos (by omega)]
  · generalize hP : ShL b = P
    unfold ShR
    rw [if_neg (show ¬ (117 ≤ r ∧ r < 117 + 2 * 5) by omega), if_neg (show ¬ (r = 75 ∧ (0 : Int) ≤ 0 ∧ (0 : Int) < 5) by omega), if_pos (show 91 ≤ r ∧ r < 91 + 2 * 13 by omega), if_pos (by omega)]
theorem ShN_1 {b r j : Int} (h0 : 127 ≤ r) (h1 : r < 217) (h2 : (r - 127) % 3 = 0) (hj : j = 1 ∨ j = 2) : ShN b r j = b + r + j := by
  unfold ShN ShC
  rw [if_pos (by omega), if_pos ⟨h2, hj⟩]
theorem ShN_76 {b j : Int} (h0 : 0 ≤ j) (h1 : j < 30) : ShN b 76 j = b + 127 + 3 * j := by
  unfold ShN ShC
  rw [if_neg (by omega), if_pos (by omega)]
/-- the rest is as it was made at first -/
theorem ShN_L {b r j : Int} (h0 : 0 ≤ r) (h1 : r < 91) (h2 : ¬ r = 76) (h3 : ¬ r = 75) (h4 : ¬ r = 43) : ShN b r j = ShL b r j := by
  unfold ShN ShC
  rw [if_neg (by omega), if_neg (by omega)]
  unfold ShR
  rw [if_neg (by omega), if_neg (by omega), if_neg (by omega), if_neg (by omega)]
theorem ShN_43 {b j : Int} (h0 : 0 ≤ j) (h1 : j < 13) : ShN b 43 j = b + 91 + 2 * j := by
  unfold ShN ShC
  rw [if_neg (by omega), if_neg (by omega)]
  unfold ShR
  rw [if_neg (show ¬ (117 ≤ (43 : Int) ∧ (43 : Int) < 117 + 2 * 5) by omega), if_neg (show ¬ ((43 : Int) = 75 ∧ 0 ≤ j ∧ j < 5) by omega), if_neg (show ¬ (91 ≤ (43 : Int) ∧ (43 : Int) < 91 + 2 * 13) by omega), if_pos (by omega)]
theorem ShN_75 {b j : Int} (h0 : 0 ≤ j) (h1 : j < 5) : ShN b 75 j = b + 117 + 2 * j := by
  unfold ShN ShC
  rw [if_neg (by omega), if_neg (by omega)]
  generalize ShR b 91 43 13 (ShL b) = P
  unfold ShR
  rw [if_neg (show ¬ (117 ≤ (75 : Int) ∧ (75 : Int) < 117 + 2 * 5) by omega), if_pos (by omega)]
theorem ShN_0 {b j : Int} (h0 : 0 ≤ j) (h1 : j < 13) : ShN b 0 j = ShF b j := by
  rw [ShN_L (by omega) (by omega) (by omega) (by omega) (by omega)]
  unfold ShL
  rw [if_neg (by omega)]
  unfold ShP
  rw [if_pos rfl, if_pos ⟨h0, h1⟩]
theorem ShN_O {b r j : Int} (h : r = 1 ∨ r = 44 ∨ r = 58 ∨ r = 69 ∨ r = 79) : ShN b r j = ShO b r j := by
  rw [ShN_L (by omega) (by omega) (by omega) (by omega) (by omega)]
  unfold ShL
  rw [if_neg (by omega)]
  unfold ShP
  rw [if_neg (by omega)]
theorem fxT_r : ∀ p ∈ fxT, 0 < p.1 ∧ p.1 < 281 := by decide +kernel
theorem shT_N {b : Int} : ∀ q ∈ shT, ShN b 0 q.1 = b + q.2 := by
  intro q hq
  have h : ∀ q ∈ shT, 0 ≤ q.1 ∧ q.1 < 13 := by decide +kernel
  rw [ShN_0 (h q hq).1 (h q hq).2]
  unfold shT at hq
  simp only [List.mem_cons, List.not_mem_nil, or_false] at hq
  rcases hq with rfl | rfl | rfl | rfl | rfl | rfl | rfl | rfl | rfl | rfl | rfl
  all_goals rfl
theorem FXn {c : Mem} {b : Int} (hF : FX c) (hb : SHB b) (h3 : 281 ≤ b) (h0 : c 0 0 + 1 = b) : FX (shM c b 216 (ShN b)) := by
  refine ⟨fun p hp => ?_, by rw [shM_0]; omega, fun o o0 o1 => ?_⟩
  · have hh := fxT_r p hp
    rw [shM_o (by omega) (by omega)]
    exact hF.1 p hp
  · rw [shM_0] at o1
    by_cases z : o < b
    · rw [shM_o (by omega) (by omega)]
      exact hF.2.2 o o0 (by omega)
    · obtain ⟨r, rfl⟩ : ∃ r, o = b + r := ⟨o - b, by omega⟩
      have ek : kd (b + r) = (shK r).1 := by unfold kd; rw [ob_b hb (by omega) (by omega)]
      have el : ln (b + r) = (shK r).2 := by unfold ln; rw [ob_b hb (by omega) (by omega)]
      have ei : ∀ j, shM c b 216 (ShN b) (b + r) j = ShN b r j := fun j => shM_i (by omega) (by omega) (by omega)
      rw [ek, el]
      refine ⟨fun e => ?_, fun e => ⟨?_, ?_⟩, fun e q hq => ?_, fun e i i0 i1 => ?_, fun e i i0 i1 => ?_⟩
      · have hh := shK_i5 (by omega) (by omega) e
        rw [ei, ShN_5 hh.1 hh.2.1 hh.2.2]
      · have hh := shK_i1 (by omega) (by omega) e
        rw [ei, ShN_1 hh.1 (by omega) hh.2 (Or.inl rfl)]
      · have hh := shK_i1 (by omega) (by omega) e
        rw [ei, ShN_1 hh.1 (by omega) hh.2 (Or.inr rfl)]
      · have hh := shK_i7 (by omega) (by omega) e
        rw [ei, hh, shT_N q hq]
        omega
      · have hh := shK_i110 (by omega) (by omega) e
        rw [ei, ShN_O (by omega)]
        unfold ShO
        rcases hh with ⟨x, y⟩ | ⟨x, y⟩ | ⟨x, y⟩ | ⟨x, y⟩ | ⟨x, y⟩
        all_goals rw [y] at i1
        all_goals repeat' split
        all_goals omega
      · have hh := shK_i125 (by omega) (by omega) e
        rcases hh with ⟨x, y⟩ | ⟨x, y⟩
        · rw [y] at i1
          rw [ei, x, ShN_43 i0 i1, show (shK 43).2 = 13 by decide +kernel, if_pos rfl]
          omega
        · rw [y] at i1
          rw [ei, x, ShN_75 i0 i1, show (shK 75).2 = 5 by decide +kernel, if_neg (by decide)]
          omega
