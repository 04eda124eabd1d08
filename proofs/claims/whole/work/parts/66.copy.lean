-- L3: a show is copied
theorem kdb {b r : Int} {K : Nat} {n : Int} (hb : SHB b) (r0 : 0 ≤ r) (r1 : r < 217) (h : shK r = (K, n)) : kd (b + r) = K ∧ ln (b + r) = n := by
  unfold kd ln
  rw [ob_b hb r0 r1, h]
  exact ⟨rfl, rfl⟩
theorem SHB_r {b : Int} (hb : SHB b) : 3 ≤ b ∧ (b = 3 ∨ 281 ≤ b) := by
  rcases hb with rfl | ⟨j, j0, j1, rfl⟩ <;> omega
theorem SHB_ne {a b : Int} (ha : SHB a) (hb : SHB b) (h : a ≠ b) : a + 217 ≤ b ∨ b + 217 ≤ a := by
  rcases ha with rfl | ⟨j, j0, j1, rfl⟩ <;> rcases hb with rfl | ⟨k, k0, k1, rfl⟩ <;> omega
theorem uB_s {a r : Int} (ha : SHB a) (r0 : 0 ≤ r) (r1 : r < 217) : uB (a + r) = false := by
  have := SHB_r ha
  unfold uB
  simp
  omega
theorem gO7 {μ : Mem} {a d : Int} (ha : SHB a) (hO : a ≤ μ 0 0) : gO μ 7 d a = some (a + d) := by
  have h := kdb (r := 0) (K := 7) (n := 13) ha (by omega) (by omega) rfl
  rw [Int.add_zero] at h
  have := SHB_r ha
  exact if_pos ⟨h.1, by omega, hO⟩
theorem gf7 {μ : Mem} {a f : Int} (ha : SHB a) : gf μ 7 f a = some (μ a f) := by
  have h := kdb (r := 0) (K := 7) (n := 13) ha (by omega) (by omega) rfl
  rw [Int.add_zero] at h
  exact gf_c h.1
theorem cD_ok {μ : Mem} {s d n : Int} (h1 : kd s = 100) (h2 : kd d = 100) (h3 : 0 < d) (h4 : uB d = false) (h5 : 0 ≤ n) (h6 : n ≤ ln s) (h7 : n ≤ ln d) (h8 : 0 < s) : cD μ s 0 d 0 n = some (acp μ s 0 d 0 n) := by
  unfold cD
  rw [if_pos h4]
  exact if_pos ⟨Or.inl h1, by rw [h1, h2], h3, by omega, by omega, h5, by omega, by omega, Or.inl h8⟩
theorem acp_d {μ : Mem} {s d n j : Int} (h0 : 0 ≤ j) (h1 : j < n) : acp μ s 0 d 0 n d j = μ s j := by
  unfold acp
  rw [if_pos ⟨rfl, h0, by omega⟩]
  congr 1
  omega
theorem acp_o {μ : Mem} {s d n o : Int} (h : ¬ o = d) : acp μ s 0 d 0 n o = μ o := funext fun _ => if_neg (fun e => h e.1)
theorem aln_ok {μ : Mem} {o n : Int} {K : Nat} (h1 : kd o = K) (h2 : ln o = n) (h3 : K = 100 ∨ K = 110 ∨ K = 125) : aln μ o = some n := by
  unfold aln
  rw [h1, h2]
  rcases h3 with rfl | rfl | rfl <;> rfl
/-- rows x.. of the show b to the same of the show a -/
theorem rows_cp {μ0 : Mem} {a b x R n : Int} (ha : SHB a) (hb : SHB b) (hab : a ≠ b) (hA : a + 217 ≤ μ0 0 0 + 1) (hBb : b + 217 ≤ μ0 0 0 + 1) (x0 : 0 ≤ x) (R0 : 0 ≤ R) (R1 : R ≤ 41) (x1 : x + 1 + R ≤ 217) (n0 : 0 ≤ n) (hx : shK x = (110, R)) (hr : ∀ r, x < r → r < x + 1 + R → shK r = (100, n)) : ∃ μ', Sh_copyRows μ0 (b + x) (a + x) = some μ' ∧ (∀ r j, x < r → r < x + 1 + R → 0 ≤ j → j < n → μ' (a + r) j = μ0 (b + r) j) ∧ (∀ o, ¬ (a + x < o ∧ o < a + x + 1 + R) → μ' o = μ0 o) := by
  have sa := SHB_r ha
  have sb := SHB_r hb
  have dj := SHB_ne ha hb hab
  obtain ⟨ka, la⟩ := kdb ha x0 (by omega) hx
  obtain ⟨kb, lb⟩ := kdb hb x0 (by omega) hx
  have key : ∀ (N : Nat) (i : Int) (μ : Mem), 0 ≤ i → i ≤ R → R - i < N → μ 0 0 = μ0 0 0 → (∀ r j, x < r → r < x + 1 + i → 0 ≤ j → j < n → μ (a + r) j = μ0 (b + r) j) → (∀ o, ¬ (a + x < o ∧ o < a + x + 1 + i) → μ o = μ0 o) → ∃ μ', Sh_copyRows_2 (b + x) (a + x) N μ i = some μ' ∧ (∀ r j, x < r → r < x + 1 + R → 0 ≤ j → j < n → μ' (a + r) j = μ0 (b + r) j) ∧ (∀ o, ¬ (a + x < o ∧ o < a + x + 1 + R) → μ' o = μ0 o) := by
    intro N
    induction N with
    | zero => intro i μ _ _ h3; omega
    | succ N ih =>
      intro i μ i0 i1 i2 hO h1 h2
      rw [Sh_copyRows_2, aln_ok kb lb (by omega), Option.bind_some]
      by_cases z : R ≤ i
      · rw [if_pos z]
        have e : i = R := by omega
        subst e
        exact ⟨μ, rfl, h1, h2⟩
      · have r2a : r2 μ (a + x) i = some (a + x + 1 + i) := if_pos ⟨ka, by omega, by omega, i0, by omega⟩
        have r2b : r2 μ (b + x) i = some (b + x + 1 + i) := if_pos ⟨kb, by omega, by omega, i0, by omega⟩
        obtain ⟨k1, l1⟩ := kdb (r := x + 1 + i) ha (by omega) (by omega) (hr (x + 1 + i) (by omega) (by omega))
        obtain ⟨k2, l2⟩ := kdb (r := x + 1 + i) hb (by omega) (by omega) (hr (x + 1 + i) (by omega) (by omega))
        rw [show a + (x + 1 + i) = a + x + 1 + i by omega] at k1 l1
        rw [show b + (x + 1 + i) = b + x + 1 + i by omega] at k2 l2
        have ub := uB_s (r := x + 1 + i) ha (by omega) (by omega)
        rw [show a + (x + 1 + i) = a + x + 1 + i by omega] at ub
        rw [if_neg z, aln_ok ka la (by omega), Option.bind_some, if_neg z, r2b, r2a, Option.bind_some, Option.bind_some, Option.bind_some, aln_ok k2 l2 (by omega), Option.bind_some, Option.bind_some, aln_ok k1 l1 (by omega), Option.bind_some, show mnI n n = n from if_neg (by omega), cD_ok k2 k1 (by omega) ub n0 (by omega) (by omega) (by omega), Option.bind_some, jadd_e (by omega) (by omega)]
        refine ih (i + 1) _ (by omega) (by omega) (by omega) (by rw [acp_o (by omega)]; exact hO) ?_ ?_
        · intro r j r0 r1 j0 j1
          by_cases e : r = x + 1 + i
          · subst e
            rw [show a + (x + 1 + i) = a + x + 1 + i by omega, acp_d j0 j1, h2 _ (by omega), show b + (x + 1 + i) = b + x + 1 + i by omega]
          · rw [acp_o (by omega)]
            exact h1 r j r0 (by omega) j0 j1
        · intro o ho
          rw [acp_o (by omega)]
          exact h2 o (by omega)
  exact key big 0 μ0 (by omega) R0 (by have := big_ge; omega) rfl (fun r j _ _ _ _ => by omega) (fun o _ => rfl)
/-- a row of units -/
theorem row_cp {μ : Mem} {p q : Int} (kp : kd p = 5) (kq : kd q = 5) (k1 : kd (p + 1) = 100) (k2 : kd (q + 1) = 100) (l1 : ln (p + 1) = 40) (l2 : ln (q + 1) = 40) (up1 : uB (p + 1) = false) (p0 : 0 < p) (q0 : 0 < q) (hp : p ≤ μ 0 0) (hq : q ≤ μ 0 0) (hpq : p ≠ q) (hpq1 : p ≠ q + 1) (n0 : 0 ≤ μ q 1) (n1 : μ q 1 ≤ 40) : ∃ μ', Row_copyFrom μ p q = some μ' ∧ μ' p 1 = μ q 1 ∧ (∀ j, 0 ≤ j → j < μ q 1 → μ' (p + 1) j = μ (q + 1) j) ∧ (∀ o, ¬ o = p → ¬ o = p + 1 → μ' o = μ o) ∧ μ' p 0 = μ p 0 := by
  refine ⟨wr (acp μ (q + 1) 0 (p + 1) 0 (μ q 1)) p 1 (μ q 1), ?_, wr_eq, ?_, ?_, ?_⟩
  · unfold Row_copyFrom
    have e1 : gO μ 5 1 q = some (q + 1) := if_pos ⟨kq, q0, hq⟩
    have e2 : gO μ 5 1 p = some (p + 1) := if_pos ⟨kp, p0, hp⟩
    rw [e1, Option.bind_some, e2, Option.bind_some, gf_c kq, Option.bind_some, cD_ok k2 k1 (by omega) up1 n0 (by omega) (by omega) (by omega), Option.bind_some, gf_c kq, Option.bind_some]
    by_cases e : q = p + 1
    · exfalso
      rw [e, k1] at kq
      exact absurd kq (by decide)
    · rw [acp_o e]
      have e3 : pf (acp μ (q + 1) 0 (p + 1) 0 (μ q 1)) 5 1 0 p (μ q 1) = some (wr (acp μ (q + 1) 0 (p + 1) 0 (μ q 1)) p 1 (μ q 1)) := pf_0 kp p0 rfl
      rw [e3]
      rfl
  · intro j j0 j1
    rw [wr_o (by omega), acp_d j0 j1]
  · intro o o1 o2
    rw [wr_o o1, acp_o o2]
  · rw [wr_f (by decide), acp_o (by omega)]
