-- L3: numbers and words are written by both
theorem num_T {v : Int} (v0 : 0 ≤ v) (v1 : v ≤ 9999) {c0 m0 : Mem} : ∀ (k : Nat) (u : Int), (k = 0 ∧ u = 0 ∨ k = 1 ∧ u = 1 ∨ k = 2 ∧ u = 10 ∨ k = 3 ∧ u = 100 ∨ k = 4 ∧ u = 1000) → ∀ (n1 n2 : Nat) (N b : Int) (c m : Mem), k < n1 → k < n2 → N + k ≤ 1000000000 → WV N c0 m0 c m → (b ≠ 0 ∨ 0 < v / u % 10 ∨ u = 1 ∨ u = 0) → EM (N + k) c0 m0 (Sv_putNumber_10 v n1 c b u) (M_writeNumber_24 v n2 m u) := by
  intro k
  induction k with
  | zero =>
    intro u hu n1 n2 N b c m h1 h2 hN h hb
    obtain ⟨n1, rfl⟩ : ∃ j, n1 = j + 1 := ⟨n1 - 1, by omega⟩
    obtain ⟨n2, rfl⟩ : ∃ j, n2 = j + 1 := ⟨n2 - 1, by omega⟩
    have e : u = 0 := by omega
    subst e
    rw [Sv_putNumber_10, M_writeNumber_24, if_pos (by decide), if_pos (by decide)]
    refine ⟨c, m, rfl, rfl, ?_⟩
    rw [show N + ((0 : Nat) : Int) = N by omega]
    exact h
  | succ k ih =>
    intro u hu n1 n2 N b c m h1 h2 hN h hb
    obtain ⟨n1, rfl⟩ : ∃ j, n1 = j + 1 := ⟨n1 - 1, by omega⟩
    obtain ⟨n2, rfl⟩ : ∃ j, n2 = j + 1 := ⟨n2 - 1, by omega⟩
    have up : 0 < u ∧ u ≤ 1000 := by omega
    have q0 : 0 ≤ v / u := Int.ediv_nonneg v0 (by omega)
    have q1 : v / u ≤ v := Int.ediv_le_self u v0
    obtain ⟨c1, m1, e1, e2, e3⟩ := byteE h (by omega) (b := 48 + v / u % 10) (by omega) (by omega)
    have hu' : (k = 0 ∧ u / 10 = 0 ∨ k = 1 ∧ u / 10 = 1 ∨ k = 2 ∧ u / 10 = 10 ∨ k = 3 ∧ u / 10 = 100 ∨ k = 4 ∧ u / 10 = 1000) := by omega
    have r := ih (u / 10) hu' n1 n2 (N + 1) 1 c1 m1 (by omega) (by omega) (by omega) e3 (Or.inl (by decide))
    rw [show N + 1 + (k : Int) = N + ((k + 1 : Nat) : Int) by omega] at r
    rw [Sv_putNumber_10, M_writeNumber_24, if_neg (show ¬ u ≤ 0 by omega), if_neg (show ¬ u ≤ 0 by omega), if_neg (show ¬ u = 0 by omega), if_neg (show ¬ u = 0 by omega), jdiv_e v0 (by omega) (by omega) (by omega), jrem_e q0 (by omega) (by omega) (by omega), jdiv_e (x := u) (by omega) (by omega) (by omega) (by omega), jadd_e (by omega) (by omega), e2]
    unfold Sv_putNumber_36
    simp only [Option.bind_some]
    rw [jadd_e (by omega) (by omega), e1]
    simp only [Option.bind_some, jdiv_e (x := u) (y := 10) (by omega) (by omega) (by omega) (by omega)]
    by_cases z : b = 0
    · rw [if_neg (fun x => x z)]
      by_cases z2 : 0 < v / u % 10
      · rw [if_pos z2]; exact r
      · rw [if_neg z2, if_neg (show ¬ u ≠ 1 by omega)]; exact r
    · rw [if_pos z]; exact r
theorem num_skip {v u : Int} (v0 : 0 ≤ v) (v1 : v < u) (u1 : u ≤ 1000) (u2 : 1 < u) {c : Mem} {n : Nat} : Sv_putNumber_10 v (n + 1) c 0 u = Sv_putNumber_10 v n c 0 (u / 10) := by
  have q : v / u = 0 := Int.ediv_eq_zero_of_lt v0 v1
  rw [Sv_putNumber_10, if_neg (show ¬ u ≤ 0 by omega), if_neg (show ¬ u = 0 by omega), jdiv_e v0 (by omega) (by omega) (by omega), q, show jrem 0 10 = 0 by decide +kernel, Option.bind_some, if_neg (by decide), if_neg (by decide), if_pos (show u ≠ 1 by omega), jdiv_e (x := u) (by omega) (by omega) (by omega) (by omega), Option.bind_some]
theorem num_up {v u : Int} (v1 : u * 10 ≤ v) (u0 : 0 < u) (u1 : u ≤ 1000) {m : Mem} {n : Nat} : M_writeNumber_6 m v (n + 1) u = M_writeNumber_6 m v n (u * 10) := by
  rw [M_writeNumber_6, jmul_e (by omega) (by omega), if_neg (by omega), Option.bind_some]
theorem num_go {v u : Int} (v1 : v < u * 10) (u0 : 0 < u) (u1 : u ≤ 1000) {m : Mem} {n : Nat} : M_writeNumber_6 m v (n + 1) u = M_writeNumber_24 v big m u := by
  rw [M_writeNumber_6, jmul_e (by omega) (by omega), if_pos v1]
theorem number_op {N : Int} {c0 m0 c m : Mem} {v : Int} (h : WV N c0 m0 c m) (hN : N + 5 ≤ 1000000000) (v0 : 0 ≤ v) (v1 : v ≤ 9999) : EM (N + 5) c0 m0 (Sv_putNumber c v) (M_writeNumber m v) := by
  obtain ⟨c1, m1, e1, e2, e3⟩ := blank_op h (by omega)
  unfold Sv_putNumber M_writeNumber
  rw [e1, e2, Option.bind_some, Option.bind_some]
  obtain ⟨j, hj⟩ : ∃ j, big = j + 1 + 1 + 1 + 1 + 1 + 1 := ⟨big - 6, by have := big_ge; omega⟩
  have wk : ∀ k : Nat, k ≤ 4 → ∀ D M, EM (N + 1 + k) c0 m0 D M → EM (N + 5) c0 m0 D M := by
    intro k hk D M r
    obtain ⟨a, b, x, y, z⟩ := r
    refine ⟨a, b, x, y, z.t, z.s, ?_, z.a, z.z, z.b, z.c, z.m, z.f⟩
    have := z.n
    omega
  by_cases z1 : v < 10
  · refine wk 1 (by omega) _ _ ?_
    have r := num_T v0 v1 (c0 := c0) (m0 := m0) 1 1 (by omega) (j + 1 + 1 + 1) big (N + 1) 0 c1 m1 (by omega) (by omega) (by omega) e3 (by omega)
    rw [hj, num_skip v0 (by omega) (by omega) (by omega), num_skip (u := 1000 / 10) v0 (by omega) (by omega) (by omega), num_skip (u := 1000 / 10 / 10) v0 (by omega) (by omega) (by omega), num_go (by omega) (by omega) (by omega)]
    exact r
  · by_cases z2 : v < 100
    · refine wk 2 (by omega) _ _ ?_
      have r := num_T v0 v1 (c0 := c0) (m0 := m0) 2 10 (by omega) (j + 1 + 1 + 1 + 1) big (N + 1) 0 c1 m1 (by omega) (by omega) (by omega) e3 (by omega)
      rw [hj, num_skip v0 (by omega) (by omega) (by omega), num_skip (u := 1000 / 10) v0 (by omega) (by omega) (by omega), num_up (by omega) (by omega) (by omega), num_go (by omega) (by omega) (by omega)]
      exact r
    · by_cases z3 : v < 1000
      · refine wk 3 (by omega) _ _ ?_
        have r := num_T v0 v1 (c0 := c0) (m0 := m0) 3 100 (by omega) (j + 1 + 1 + 1 + 1 + 1) big (N + 1) 0 c1 m1 (by omega) (by omega) (by omega) e3 (by omega)
        rw [hj, num_skip v0 (by omega) (by omega) (by omega), num_up (by omega) (by omega) (by omega), num_up (by omega) (by omega) (by omega), num_go (by omega) (by omega) (by omega)]
        exact r
      · refine wk 4 (by omega) _ _ ?_
        have r := num_T v0 v1 (c0 := c0) (m0 := m0) 4 1000 (by omega) big big (N + 1) 0 c1 m1 (by omega) (by omega) (by omega) e3 (by omega)
        rw [hj] at r
        rw [hj, num_up (by omega) (by omega) (by omega), num_up (by omega) (by omega) (by omega), num_up (by omega) (by omega) (by omega), num_go (by omega) (by omega) (by omega), hj]
        exact r
