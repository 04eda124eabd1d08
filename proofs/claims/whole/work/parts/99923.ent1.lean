-- L3: enter: the loop of both
def kL (m : Mem) : Int := (m 259 8 + 1) % 8
def kA (m : Mem) : Mem := up (wr (wr m 259 8 (kL m)) 259 7 (if 8 ≤ m 259 7 then 8 else m 259 7 + 1)) 266 (fun j => if 12943 * kL m ≤ j ∧ j < 12943 * kL m + 12943 then m 265 (j - 12943 * kL m) else m 266 j)
theorem keepA {m : Mem} (a0 : 0 ≤ m 259 8) (a1 : m 259 8 < 8) (b0 : 0 ≤ m 259 7) (b1 : m 259 7 ≤ 8) : M_keepAhead m = some (kA m) := by
  have l0 : 0 ≤ kL m ∧ kL m < 8 := by unfold kL; omega
  have lp : ∀ (μ : Mem), μ 259 8 = kL m → M_keepAhead_39 big μ 0 = some (up μ 266 (fun j => if 12943 * kL m ≤ j ∧ j < 12943 * kL m + 12943 then μ 265 (j - 12943 * kL m) else μ 266 j)) := by
    intro μ h8
    have h := asg (fun N μ i => M_keepAhead_39 N μ i) 266 (12943 * kL m) 0 12943 (fun i => μ 265 i) μ (by
      intro N ν i i0 i1 h1 _ _
      show M_keepAhead_39 (N + 1) ν i = M_keepAhead_39 N _ (i + 1)
      rw [M_keepAhead_39, if_neg (by omega), aI_ok i0 i1, Option.bind_some, h1 265 (by decide), h1 259 (by decide), h8, jmul_e (by omega) (by omega), jadd_e (x := 12943 * kL m) (by omega) (by omega), sI_up (by omega) (by omega), Option.bind_some, jadd_e (by omega) (by omega)]) 12943 (by omega) big (by have := big_ge; omega)
    have h' : M_keepAhead_39 big μ 0 = _ := h
    rw [h']
    obtain ⟨N, hN⟩ : ∃ N, big - 12943 = N + 1 := ⟨big - 12943 - 1, by have := big_ge; omega⟩
    rw [hN]
    show M_keepAhead_39 (N + 1) _ _ = _
    rw [M_keepAhead_39, if_pos (by omega)]
    refine congrArg (fun q => some (up μ 266 q)) (funext fun j => ?_)
    by_cases z : 12943 * kL m ≤ j ∧ j < 12943 * kL m + 12943
    · rw [if_pos z, if_pos (by omega)]
    · rw [if_neg z, if_neg (by omega)]
  have ej : jrem (jadd (m 259 8) 1) 8 = kL m := by
    rw [jadd_e (by omega) (by omega), jrem_e (by omega) (by omega) (by decide) (by decide)]; rfl
  have o5 : ∀ v, wr (wr m 259 8 (kL m)) 259 7 v 265 = m 265 := fun v => by rw [wr_o (by decide), wr_o (by decide)]
  have o6 : ∀ v, wr (wr m 259 8 (kL m)) 259 7 v 266 = m 266 := fun v => by rw [wr_o (by decide), wr_o (by decide)]
  unfold M_keepAhead kA
  rw [ej, Option.bind_some, wr_f (show ¬ (7 : Int) = 8 by decide)]
  by_cases z : 8 ≤ m 259 7
  · rw [if_pos z, if_pos z, Option.bind_some, lp _ (by rw [wr_f (by decide), wr_eq]), o5, o6]
  · rw [if_neg z, if_neg z, Option.bind_some, jadd_e (by omega) (by omega), lp _ (by rw [wr_f (by decide), wr_eq]), o5, o6]
theorem kA_p {m : Mem} : kA m 259 8 = kL m ∧ kA m 259 7 = (if 8 ≤ m 259 7 then 8 else m 259 7 + 1) ∧ (∀ f, ¬ f = 7 → ¬ f = 8 → kA m 259 f = m 259 f) ∧ (∀ o, ¬ o = 259 → ¬ o = 266 → kA m o = m o) ∧ kA m 266 = (fun j => if 12943 * kL m ≤ j ∧ j < 12943 * kL m + 12943 then m 265 (j - 12943 * kL m) else m 266 j) := by
  unfold kA
  refine ⟨?_, ?_, fun f a b => ?_, fun o a b => ?_, up_eq⟩
  · rw [up_ne (by decide), wr_f (by decide), wr_eq]
  · rw [up_ne (by decide), wr_eq]
  · rw [up_ne (by decide), wr_f a, wr_f b]
  · rw [up_ne b, wr_o a, wr_o a]
theorem HR_k {c m c' m' : Mem} (h : HR c (kA m)) (e1 : c' 1 6 = c 1 6) (e2 : c' 0 0 = c 0 0) (e3 : c' 220 = c 220) (e4 : ∀ o, 281 ≤ o → c' o = c o) (e5 : m' 259 7 = m 259 7) (e6 : m' 259 8 = m 259 8) (e7 : m' 266 = m 266) (e8 : m' 265 = m 265) : HR c' (kA m') := by
  obtain ⟨p1, p2, _, _, p5⟩ := kA_p (m := m)
  obtain ⟨q1, q2, _, _, q5⟩ := kA_p (m := m')
  have el : kL m' = kL m := by unfold kL; rw [e6]
  refine HR_congr h e1 e2 e3 e4 ?_ ?_ ?_
  · rw [q2, p2, e5]
  · rw [q1, p1, el]
  · rw [q5, p5, el, e7, e8]
/-- what a text's first statement leaves for undo -/
def REMP : Prop := ∀ (c m : Mem), HR c m → SR c 3 (m 264) → WF (m 264) → FX c → 280 ≤ c 0 0 → (∀ i, 0 ≤ i → i < 12943 → m 265 i = m 264 i) → ∃ c', D_remember c = some c' ∧ HR c' (kA m) ∧ (∀ o, ¬ o = 0 → ¬ o = 1 → ¬ o = 220 → o < 281 → c' o = c o) ∧ (∀ f, ¬ f = 6 → c' 1 f = c 1 f) ∧ 280 ≤ c' 0 0 ∧ c' 0 1 = c 0 1
def HRd (dn : Int) (c m : Mem) : Prop := (dn = 0 ∧ HR c m) ∨ (0 < dn ∧ HR c (kA m) ∧ 0 ≤ m 259 8 ∧ m 259 8 < 8 ∧ 0 ≤ m 259 7 ∧ m 259 7 ≤ 8)
theorem HRd_c {dn : Int} {c m c' m' : Mem} (h : HRd dn c m) (e1 : c' 1 6 = c 1 6) (e2 : c' 0 0 = c 0 0) (e3 : c' 220 = c 220) (e4 : ∀ o, 281 ≤ o → c' o = c o) (e5 : m' 259 7 = m 259 7) (e6 : m' 259 8 = m 259 8) (e7 : m' 266 = m 266) (e8 : m' 265 = m 265) : HRd dn c' m' := by
  rcases h with ⟨a, b⟩ | ⟨a, b, d⟩
  · exact Or.inl ⟨a, HR_congr b e1 e2 e3 e4 e5 e6 e7⟩
  · exact Or.inr ⟨a, HR_k b e1 e2 e3 e4 e5 e6 e7 e8, by rw [e5, e6]; exact d⟩
/-- what stands when a text has ended -/
def EXS (B dn : Int) (c m : Mem) : Prop := SR c 3 (m 264) ∧ WF (m 264) ∧ PR B c m ∧ GR c m ∧ KON c ∧ KON m ∧ 280 ≤ c 0 0 ∧ c 1 2 = m 259 11 ∧ c 1 3 = m 259 12 ∧ HRd dn c m
theorem ex_op {B dn : Int} {c m : Mem} (d0 : 0 ≤ dn) (h : EXS B dn c m) : ∃ c' m', D_enter_152 c dn = some (dn, c') ∧ (∀ N, M_enter_46 (N + 1) m dn 0 = some (dn, m')) ∧ INV B c' m' := by
  obtain ⟨h1, h2, h3, h4, h5, h6, h7, h8, h9, h10⟩ := h
  have key : ∃ m2, (∀ N, M_enter_46 (N + 1) m dn 0 = M_enter_152 m2 dn) ∧ (∀ o, ¬ o = 259 → ¬ o = 266 → m2 o = m o) ∧ (∀ f, ¬ f = 7 → ¬ f = 8 → ¬ f = 10 → m2 259 f = m 259 f) ∧ m2 259 10 = 0 ∧ HR (wr c 1 1 0) m2 := by
    have mo : ∀ o, ¬ o = 259 → wr m 259 10 0 o = m o := fun o a => wr_o a
    have mf : ∀ f, ¬ f = 10 → wr m 259 10 0 259 f = m 259 f := fun f a => wr_f a
    rcases h10 with ⟨a, b⟩ | ⟨a, b, b0, b1, b2, b3⟩
    · refine ⟨wr m 259 10 0, fun N => ?_, fun o x _ => mo o x, fun f _ _ x => mf f x, wr_eq, ?_⟩
      · rw [M_enter_46, if_pos rfl, Option.bind_some, if_pos (by omega)]
      · exact HR_congr b (wr_f (by decide)) (by rw [wr_o (by decide)]) (wr_o (by decide)) (fun o x => wr_o (by omega)) (mf 7 (by decide)) (mf 8 (by decide)) (mo 266 (by decide))
    · obtain ⟨_, _, p3, p4, _⟩ := kA_p (m := wr m 259 10 0)
      refine ⟨kA (wr m 259 10 0), fun N => ?_, fun o x y => by rw [p4 o x y, mo o x], fun f x y z => by rw [p3 f x y, mf f z], by rw [p3 10 (by decide) (by decide), wr_eq], ?_⟩
      · rw [M_enter_46, if_pos rfl, Option.bind_some, if_neg (by omega), keepA (by rw [mf 8 (by decide)]; exact b0) (by rw [mf 8 (by decide)]; exact b1) (by rw [mf 7 (by decide)]; exact b2) (by rw [mf 7 (by decide)]; exact b3), Option.bind_some]
      · exact HR_k b (wr_f (by decide)) (by rw [wr_o (by decide)]) (wr_o (by decide)) (fun o x => wr_o (by omega)) (mf 7 (by decide)) (mf 8 (by decide)) (mo 266 (by decide)) (mo 265 (by decide))
  obtain ⟨m2, k1, k2, k3, k4, k5⟩ := key
  have e4 : m2 264 = m 264 := k2 264 (by decide) (by decide)
  have hI : INV B (wr c 1 1 0) m2 := by
    refine ⟨KON_o h5 (fun o a => wr_o (by omega)), KON_o h6 (fun o a => k2 o (by omega) (by omega)), ?_, ?_, ?_, ?_, ?_, ⟨?_, ?_, ?_⟩, k5⟩
    · show 280 ≤ wr c 1 1 0 0 0
      rw [wr_o (by decide)]; exact h7
    · show SR (wr c 1 1 0) 3 (m2 264)
      rw [e4]; exact SR_congr h1 (fun o a b => wr_o (by omega))
    · show WF (m2 264)
      rw [e4]; exact h2
    · exact PR_congr h3 (fun o a b => wr_o (by omega)) (fun o a b => k2 o (by omega) (by omega)) (fun f a b => k3 f (by omega) (by omega) (by omega))
    · exact GR_congr h4 (fun o a b => wr_o (by omega)) (fun o a b => k2 o (by omega) (by omega)) (fun f a b => k3 f (by omega) (by omega) (by omega))
    · unfold TR_n
      rw [wr_eq, k4]
      decide
    · intro i i0 i1
      rw [k4] at i1
      omega
    · unfold TR_f
      rw [wr_f (by decide), wr_f (by decide), k3 11 (by decide) (by decide) (by decide), k3 12 (by decide) (by decide) (by decide)]
      exact ⟨h8, h9⟩
  obtain ⟨c', m', d1, d2, d3⟩ := settle_op hI
  refine ⟨c', m', ?_, fun N => ?_, d3⟩
  · unfold D_enter_152
    rw [Option.bind_some, d1, Option.bind_some]
  · rw [k1 N]
    unfold M_enter_152
    rw [d2, Option.bind_some]
theorem un152 {μ0 μ : Mem} {l1 : Int} {r : Int × Mem} (h : D_enter_152 μ l1 = some r) (hF : UN μ0 μ) : UN μ0 r.2 := by
  unfold D_enter_152 at h
  obtain ⟨m1, h2, h⟩ := bindS h
  have hF3 := UNP hF uo_1 h2
  obtain ⟨m4, h5, h⟩ := bindS h
  have hF6 := un_Pl_settle h5 hF3
  replace h := Option.some.inj h
  subst h
  exact hF6
theorem un_o {μ0 μ ν : Mem} (h : UN μ0 μ) (e : ∀ o, ¬ o = 0 → ¬ o = 1 → ¬ o = 220 → o < 281 → ν o = μ o) (e1 : ν 0 1 = μ 0 1) : UN μ0 ν := by
  refine ⟨fun o ho => ?_, by rw [e1]; exact h.2⟩
  have hx := ho
  unfold uB at hx
  simp only [Bool.or_eq_true, Bool.and_eq_true, decide_eq_true_eq] at hx
  rw [e o (by omega) (by omega) (by omega) (by omega)]
  exact h.1 o ho
theorem rplace {c : Mem} {v : Int} : Rd_place (wr c 1 2 v) = Rd_place c := by
  unfold Rd_place aI
  rw [wr_o (show ¬ (250 : Int) = 1 by decide), wr_o (show ¬ (254 : Int) = 1 by decide)]
/-- a statement's end lies behind its beginning -/
theorem Px_m {X : Tx} (n1 : X.2.1 ≤ 6000) (s0 : 0 ≤ X.2.2.1) (s1 : X.2.2.1 ≤ X.2.1) : ∀ k : Nat, X.2.2.1 ≤ Px X k ∧ X.2.2.1 ≤ Ex X k := by
  intro k
  induction k with
  | zero =>
    have e := Px_S (X := X) (i := ((0 : Nat) : Int)) (by omega)
    have e2 : Sx X ((0 : Nat) : Int) = X.2.2.1 := if_pos rfl
    rw [e2] at e
    have a := (skq_r (t := X.1) (n := X.2.1) 6000 X.2.2.1 s1).1
    have p := Px_x n1 s0 s1 (i := ((0 : Nat) : Int)) (by omega)
    have b := tE_r (t := X.1) (n := X.2.1) (q := Px X ((0 : Nat) : Int)) p.2.1 p.1 n1
    have ee : Ex X ((0 : Nat) : Int) = tE X.1 X.2.1 (Px X ((0 : Nat) : Int)) := rfl
    rw [ee]
    omega
  | succ k ih =>
    have e := Px_S (X := X) (i := ((k + 1 : Nat) : Int)) (by omega)
    have e2 : Sx X ((k + 1 : Nat) : Int) = Ex X k := by
      unfold Sx
      rw [if_neg (by omega), show ((k + 1 : Nat) : Int) - 1 = k by omega]
    rw [e2] at e
    have pk := Px_x n1 s0 s1 (i := (k : Int)) (by omega)
    have a := (skq_r (t := X.1) (n := X.2.1) 6000 (Ex X k) pk.2.2.2.2.2).1
    have p := Px_x n1 s0 s1 (i := ((k + 1 : Nat) : Int)) (by omega)
    have b := tE_r (t := X.1) (n := X.2.1) (q := Px X ((k + 1 : Nat) : Int)) p.2.1 p.1 n1
    have ee : Ex X ((k + 1 : Nat) : Int) = tE X.1 X.2.1 (Px X ((k + 1 : Nat) : Int)) := rfl
    rw [ee]
    omega
theorem Ex_m {X : Tx} (n1 : X.2.1 ≤ 6000) (s0 : 0 ≤ X.2.2.1) (s1 : X.2.2.1 ≤ X.2.1) {A : Int} (A0 : 0 ≤ A) (h : Px X A < X.2.1) : X.2.2.1 < Ex X A := by
  obtain ⟨k, rfl⟩ : ∃ k : Nat, A = (k : Int) := ⟨A.toNat, by omega⟩
  have a := (Px_m n1 s0 s1 k).1
  have p := Px_x n1 s0 s1 (i := (k : Int)) (by omega)
  have b := (tE_r (t := X.1) (n := X.2.1) (q := Px X (k : Int)) p.2.1 p.1 n1).2.2 h
  have ee : Ex X (k : Int) = tE X.1 X.2.1 (Px X (k : Int)) := rfl
  rw [ee]
  omega
