-- L3: a show is copied: rows of units, cues
theorem grp_cp {μ0 : Mem} {a b : Int} (ha : SHB a) (hb : SHB b) (hab : a ≠ b) (hA : a + 217 ≤ μ0 0 0 + 1) (hBb : b + 217 ≤ μ0 0 0 + 1) (hc : ∀ i, 0 ≤ i → i < 13 → 0 ≤ μ0 (b + 91 + 2 * i) 1 ∧ μ0 (b + 91 + 2 * i) 1 ≤ 40) : ∃ μ', Sh_copyFrom_109 a b big μ0 0 = Sh_copyFrom_141 a b big μ' 0 ∧ (∀ i, 0 ≤ i → i < 13 → μ' (a + 91 + 2 * i) 1 = μ0 (b + 91 + 2 * i) 1 ∧ ∀ j, 0 ≤ j → j < μ0 (b + 91 + 2 * i) 1 → μ' (a + 92 + 2 * i) j = μ0 (b + 92 + 2 * i) j) ∧ (∀ o, ¬ (a + 91 ≤ o ∧ o < a + 91 + 2 * 13) → μ' o = μ0 o) := by
  have sa := SHB_r ha
  have sb := SHB_r hb
  have dj := SHB_ne ha hb hab
  obtain ⟨ka, la⟩ := kdb (r := 43) (K := 125) (n := 13) ha (by omega) (by omega) rfl
  obtain ⟨kb, lb⟩ := kdb (r := 43) (K := 125) (n := 13) hb (by omega) (by omega) rfl
  have key : ∀ (N : Nat) (i : Int) (μ : Mem), 0 ≤ i → i ≤ 13 → 13 - i < N → (∀ k, 0 ≤ k → k < i → μ (a + 91 + 2 * k) 1 = μ0 (b + 91 + 2 * k) 1 ∧ ∀ j, 0 ≤ j → j < μ0 (b + 91 + 2 * k) 1 → μ (a + 92 + 2 * k) j = μ0 (b + 92 + 2 * k) j) → (∀ o, ¬ (a + 91 ≤ o ∧ o < a + 91 + 2 * i) → μ o = μ0 o) → ∃ μ', Sh_copyFrom_109 a b N μ i = Sh_copyFrom_141 a b big μ' 0 ∧ (∀ k, 0 ≤ k → k < 13 → μ' (a + 91 + 2 * k) 1 = μ0 (b + 91 + 2 * k) 1 ∧ ∀ j, 0 ≤ j → j < μ0 (b + 91 + 2 * k) 1 → μ' (a + 92 + 2 * k) j = μ0 (b + 92 + 2 * k) j) ∧ (∀ o, ¬ (a + 91 ≤ o ∧ o < a + 91 + 2 * 13) → μ' o = μ0 o) := by
    intro N
    induction N with
    | zero => intro i μ _ _ h3; omega
    | succ N ih =>
      intro i μ i0 i1 i2 h1 h2
      have hO : μ 0 0 = μ0 0 0 := by rw [h2 0 (by omega)]
      rw [Sh_copyFrom_109, gO7 ha (by omega), Option.bind_some, aln_ok ka la (by omega), Option.bind_some]
      by_cases z : 13 ≤ i
      · rw [if_pos z]
        have e : i = 13 := by omega
        subst e
        exact ⟨μ, rfl, h1, h2⟩
      · have ra : rR μ (a + 43) i = some (a + 91 + 2 * i) := by
          unfold rR
          rw [if_pos ⟨ka, by omega, by omega, i0, by omega⟩, la]
          simp
          omega
        have rb : rR μ (b + 43) i = some (b + 91 + 2 * i) := by
          unfold rR
          rw [if_pos ⟨kb, by omega, by omega, i0, by omega⟩, lb]
          simp
          omega
        obtain ⟨kp, _⟩ := kdb (r := 91 + 2 * i) (K := 5) (n := 2) ha (by omega) (by omega) (shK_91 (by omega) (by omega) (by omega))
        obtain ⟨kq, _⟩ := kdb (r := 91 + 2 * i) (K := 5) (n := 2) hb (by omega) (by omega) (shK_91 (by omega) (by omega) (by omega))
        obtain ⟨k1, l1⟩ := kdb (r := 92 + 2 * i) (K := 100) (n := 40) ha (by omega) (by omega) (shK_92 (by omega) (by omega) (by omega))
        obtain ⟨k2, l2⟩ := kdb (r := 92 + 2 * i) (K := 100) (n := 40) hb (by omega) (by omega) (shK_92 (by omega) (by omega) (by omega))
        have ub := uB_s (r := 92 + 2 * i) ha (by omega) (by omega)
        rw [show a + (91 + 2 * i) = a + 91 + 2 * i by omega] at kp
        rw [show b + (91 + 2 * i) = b + 91 + 2 * i by omega] at kq
        rw [show a + (92 + 2 * i) = a + 91 + 2 * i + 1 by omega] at k1 l1 ub
        rw [show b + (92 + 2 * i) = b + 91 + 2 * i + 1 by omega] at k2 l2
        have eq : μ (b + 91 + 2 * i) = μ0 (b + 91 + 2 * i) := h2 _ (by omega)
        have eq1 : μ (b + 91 + 2 * i + 1) = μ0 (b + 91 + 2 * i + 1) := h2 _ (by omega)
        obtain ⟨c0, c1⟩ := hc i i0 (by omega)
        obtain ⟨μ1, e1, e2, e3, e4, _⟩ := row_cp (μ := μ) (p := a + 91 + 2 * i) (q := b + 91 + 2 * i) kp kq k1 k2 l1 l2 ub (by omega) (by omega) (by omega) (by omega) (by omega) (by omega) (by rw [eq]; exact c0) (by rw [eq]; exact c1)
        rw [eq, eq1] at *
        rw [if_neg z, Option.bind_some, ra, Option.bind_some, gO7 hb (by omega), Option.bind_some, rb, Option.bind_some, if_pos (show a + 91 + 2 * i ≠ 0 ∧ kd (a + 91 + 2 * i) = 5 from ⟨by omega, kp⟩), e1, Option.bind_some, jadd_e (by omega) (by omega)]
        refine ih (i + 1) μ1 (by omega) (by omega) (by omega) ?_ ?_
        · intro k k0 kk
          by_cases e : k = i
          · subst e
            refine ⟨e2, fun j j0 j1 => ?_⟩
            rw [show a + 92 + 2 * k = a + 91 + 2 * k + 1 by omega, show b + 92 + 2 * k = b + 91 + 2 * k + 1 by omega]
            exact e3 j j0 j1
          · rw [e4 (a + 91 + 2 * k) (by omega) (by omega), e4 (a + 92 + 2 * k) (by omega) (by omega)]
            exact h1 k k0 (by omega)
        · intro o ho
          rw [e4 o (by omega) (by omega)]
          exact h2 o (by omega)
  exact key big 0 μ0 (by omega) (by omega) (by have := big_ge; omega) (fun k a b => by omega) (fun o _ => rfl)

theorem wav_cp {μ0 : Mem} {a b : Int} (ha : SHB a) (hb : SHB b) (hab : a ≠ b) (hA : a + 217 ≤ μ0 0 0 + 1) (hBb : b + 217 ≤ μ0 0 0 + 1) (hc : ∀ i, 0 ≤ i → i < 5 → 0 ≤ μ0 (b + 117 + 2 * i) 1 ∧ μ0 (b + 117 + 2 * i) 1 ≤ 40) : ∃ μ', Sh_copyFrom_141 a b big μ0 0 = Sh_copyFrom_173 a b big μ' 0 ∧ (∀ i, 0 ≤ i → i < 5 → μ' (a + 117 + 2 * i) 1 = μ0 (b + 117 + 2 * i) 1 ∧ ∀ j, 0 ≤ j → j < μ0 (b + 117 + 2 * i) 1 → μ' (a + 118 + 2 * i) j = μ0 (b + 118 + 2 * i) j) ∧ (∀ o, ¬ (a + 117 ≤ o ∧ o < a + 117 + 2 * 5) → μ' o = μ0 o) := by
  have sa := SHB_r ha
  have sb := SHB_r hb
  have dj := SHB_ne ha hb hab
  obtain ⟨ka, la⟩ := kdb (r := 75) (K := 125) (n := 5) ha (by omega) (by omega) rfl
  obtain ⟨kb, lb⟩ := kdb (r := 75) (K := 125) (n := 5) hb (by omega) (by omega) rfl
  have key : ∀ (N : Nat) (i : Int) (μ : Mem), 0 ≤ i → i ≤ 5 → 5 - i < N → (∀ k, 0 ≤ k → k < i → μ (a + 117 + 2 * k) 1 = μ0 (b + 117 + 2 * k) 1 ∧ ∀ j, 0 ≤ j → j < μ0 (b + 117 + 2 * k) 1 → μ (a + 118 + 2 * k) j = μ0 (b + 118 + 2 * k) j) → (∀ o, ¬ (a + 117 ≤ o ∧ o < a + 117 + 2 * i) → μ o = μ0 o) → ∃ μ', Sh_copyFrom_141 a b N μ i = Sh_copyFrom_173 a b big μ' 0 ∧ (∀ k, 0 ≤ k → k < 5 → μ' (a + 117 + 2 * k) 1 = μ0 (b + 117 + 2 * k) 1 ∧ ∀ j, 0 ≤ j → j < μ0 (b + 117 + 2 * k) 1 → μ' (a + 118 + 2 * k) j = μ0 (b + 118 + 2 * k) j) ∧ (∀ o, ¬ (a + 117 ≤ o ∧ o < a + 117 + 2 * 5) → μ' o = μ0 o) := by
    intro N
    induction N with
    | zero => intro i μ _ _ h3; omega
    | succ N ih =>
      intro i μ i0 i1 i2 h1 h2
      have hO : μ 0 0 = μ0 0 0 := by rw [h2 0 (by omega)]
      rw [Sh_copyFrom_141, gO7 ha (by omega), Option.bind_some, aln_ok ka la (by omega), Option.bind_some]
      by_cases z : 5 ≤ i
      · rw [if_pos z]
        have e : i = 5 := by omega
        subst e
        exact ⟨μ, rfl, h1, h2⟩
      · have ra : rR μ (a + 75) i = some (a + 117 + 2 * i) := by
          unfold rR
          rw [if_pos ⟨ka, by omega, by omega, i0, by omega⟩, la]
          simp
          omega
        have rb : rR μ (b + 75) i = some (b + 117 + 2 * i) := by
          unfold rR
          rw [if_pos ⟨kb, by omega, by omega, i0, by omega⟩, lb]
          simp
          omega
        obtain ⟨kp, _⟩ := kdb (r := 117 + 2 * i) (K := 5) (n := 2) ha (by omega) (by omega) (shK_91 (by omega) (by omega) (by omega))
        obtain ⟨kq, _⟩ := kdb (r := 117 + 2 * i) (K := 5) (n := 2) hb (by omega) (by omega) (shK_91 (by omega) (by omega) (by omega))
        obtain ⟨k1, l1⟩ := kdb (r := 118 + 2 * i) (K := 100) (n := 40) ha (by omega) (by omega) (shK_92 (by omega) (by omega) (by omega))
        obtain ⟨k2, l2⟩ := kdb (r := 118 + 2 * i) (K := 100) (n := 40) hb (by omega) (by omega) (shK_92 (by omega) (by omega) (by omega))
        have ub := uB_s (r := 118 + 2 * i) ha (by omega) (by omega)
        rw [show a + (117 + 2 * i) = a + 117 + 2 * i by omega] at kp
        rw [show b + (117 + 2 * i) = b + 117 + 2 * i by omega] at kq
        rw [show a + (118 + 2 * i) = a + 117 + 2 * i + 1 by omega] at k1 l1 ub
        rw [show b + (118 + 2 * i) = b + 117 + 2 * i + 1 by omega] at k2 l2
        have eq : μ (b + 117 + 2 * i) = μ0 (b + 117 + 2 * i) := h2 _ (by omega)
        have eq1 : μ (b + 117 + 2 * i + 1) = μ0 (b + 117 + 2 * i + 1) := h2 _ (by omega)
        obtain ⟨c0, c1⟩ := hc i i0 (by omega)
        obtain ⟨μ1, e1, e2, e3, e4, _⟩ := row_cp (μ := μ) (p := a + 117 + 2 * i) (q := b + 117 + 2 * i) kp kq k1 k2 l1 l2 ub (by omega) (by omega) (by omega) (by omega) (by omega) (by omega) (by rw [eq]; exact c0) (by rw [eq]; exact c1)
        rw [eq, eq1] at *
        rw [if_neg z, Option.bind_some, ra, Option.bind_some, gO7 hb (by omega), Option.bind_some, rb, Option.bind_some, if_pos (show a + 117 + 2 * i ≠ 0 ∧ kd (a + 117 + 2 * i) = 5 from ⟨by omega, kp⟩), e1, Option.bind_some, jadd_e (by omega) (by omega)]
        refine ih (i + 1) μ1 (by omega) (by omega) (by omega) ?_ ?_
        · intro k k0 kk
          by_cases e : k = i
          · subst e
            refine ⟨e2, fun j j0 j1 => ?_⟩
            rw [show a + 118 + 2 * k = a + 117 + 2 * k + 1 by omega, show b + 118 + 2 * k = b + 117 + 2 * k + 1 by omega]
            exact e3 j j0 j1
          · rw [e4 (a + 117 + 2 * k) (by omega) (by omega), e4 (a + 118 + 2 * k) (by omega) (by omega)]
            exact h1 k k0 (by omega)
        · intro o ho
          rw [e4 o (by omega) (by omega)]
          exact h2 o (by omega)
  exact key big 0 μ0 (by omega) (by omega) (by have := big_ge; omega) (fun k a b => by omega) (fun o _ => rfl)
