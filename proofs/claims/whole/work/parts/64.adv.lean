-- L3: the clock goes on
theorem INV_mono {B B' : Int} {c m : Mem} (h : INV B c m) (h1 : B ≤ B') (h2 : B' ≤ 1000000) : INV B' c m := by
  refine ⟨h.kc, h.km, h.o, h.s, h.w, ⟨h.p.G, h.p.F, ?_, ?_, ?_⟩, h.g, h.t, h.h⟩
  · intro i a b
    have := h.p.T i a b
    omega
  · have := h.p.K
    unfold PR_K; omega
  · have := h.p.C
    unfold PR_C; omega
theorem clock_op {B : Int} {c m : Mem} (h : INV B c m) (hB : B + 1 ≤ 1000000) : INV (B + 1) (wr c 221 1 (jadd (c 221 1) 1)) (wr m 259 27 (jadd (m 259 27) 1)) := by
  obtain ⟨k1, k2, k3, k4, k5, k6, k7, k8⟩ := h.p.K
  have h' := INV_mono h (by omega : B ≤ B + 1) hB
  refine INVp h' (UNw UN.refl (by decide)) (UMw UM.refl (by decide)) (fun o a => wr_o (by omega)) (fun o a b => wr_o a) (fun f hf => wr_f (by omega)) ?_
  refine ⟨?_, ?_, ?_, ?_, ?_⟩
  · intro i a b; rw [wr_o (by decide), wr_o (by decide)]; exact h'.p.G i a b
  · intro i a b; rw [wr_o (by decide), wr_o (by decide), wr_o (by decide), wr_o (by decide), wr_f (by decide)]; exact h'.p.F i a b
  · intro i a b; rw [wr_o (by decide), wr_o (by decide), wr_o (by decide), wr_o (by decide)]; exact h'.p.T i a b
  · unfold PR_K; rw [wr_eq, wr_eq, wr_f (by decide), wr_f (by decide), k3, jadd_e (by omega) (by omega)]; omega
  · unfold PR_C; rw [wr_f (by decide), wr_f (by decide), wr_f (by decide), wr_f (by decide), wr_f (by decide), wr_f (by decide)]; exact h'.p.C
theorem fclock_op {B : Int} {c m : Mem} (h : INV B c m) (hB : B + 1 ≤ 1000000) : INV (B + 1) (wr c 221 2 (jadd (c 221 2) 1)) (wr m 259 28 (jadd (m 259 28) 1)) := by
  obtain ⟨k1, k2, k3, k4, k5, k6, k7, k8⟩ := h.p.K
  have h' := INV_mono h (by omega : B ≤ B + 1) hB
  refine INVp h' (UNw UN.refl (by decide)) (UMw UM.refl (by decide)) (fun o a => wr_o (by omega)) (fun o a b => wr_o a) (fun f hf => wr_f (by omega)) ?_
  refine ⟨?_, ?_, ?_, ?_, ?_⟩
  · intro i a b; rw [wr_o (by decide), wr_o (by decide)]; exact h'.p.G i a b
  · intro i a b
    rw [wr_o (by decide), wr_o (by decide), wr_o (by decide), wr_o (by decide), wr_eq, jadd_e (by omega) (by omega)]
    obtain ⟨f1, f2⟩ := h'.p.F i a b
    refine ⟨?_, f2⟩
    rcases f1 with f1 | ⟨f1, f3⟩
    · exact Or.inl f1
    · exact Or.inr ⟨f1, by omega⟩
  · intro i a b; rw [wr_o (by decide), wr_o (by decide), wr_o (by decide), wr_o (by decide)]; exact h'.p.T i a b
  · unfold PR_K; rw [wr_eq, wr_eq, wr_f (by decide), wr_f (by decide), k6, jadd_e (by omega) (by omega)]; omega
  · unfold PR_C; rw [wr_f (by decide), wr_f (by decide), wr_f (by decide), wr_f (by decide), wr_f (by decide), wr_f (by decide)]; exact h'.p.C
theorem clamp {x : Int} : mxI (-40) (mnI 40 x) = if x ≤ 40 then (if -40 ≤ x then x else -40) else 40 := by
  unfold mxI mnI
  repeat' split
  all_goals omega
theorem roll_op {B : Int} {K : Mem → Int → Option (Int × Mem)} {l1 l2 : Int} : ∀ (N1 N2 : Nat) (c m : Mem) (u : Int), INV B c m → 0 ≤ u → u ≤ 40 → 40 - u < N1 → 40 - u < N2 → ∃ c' m', Sg_moveRollers_2 N1 c (u + 1) = some c' ∧ M_advance_113 K l1 l2 N2 m u = K m' (jadd l2 1) ∧ INV B c' m' := by
  intro N1
  induction N1 with
  | zero => intro N2 c m u _ _ _ h3; omega
  | succ N1 ih =>
    intro N2 c m u h u0 u1 u2 u3
    obtain ⟨N2, rfl⟩ : ∃ j, N2 = j + 1 := ⟨N2 - 1, by omega⟩
    rw [Sg_moveRollers_2, M_advance_113]
    by_cases z : 40 ≤ u
    · rw [if_pos (show 40 < u + 1 by omega), if_pos z]
      exact ⟨c, m, rfl, rfl, h⟩
    · obtain ⟨s1, _⟩ := S3.u h.s u u0 (by omega)
      rw [if_neg (show ¬ 40 < u + 1 by omega), if_neg z, ar_ok (by omega) (by omega), Option.bind_some, rd_pat (by omega) (by omega) (by omega) (by omega), Option.bind_some, show (5 + 1 * (u + 1) : Int) = 6 + u by omega, s1, jmul_e (by omega) (by omega), show aI m 264 12943 (6 * u) = some (m 264 (6 * u)) from aI_ok (by omega) (by omega), Option.bind_some, show jadd (u + 1) 1 = u + 1 + 1 from jadd_e (by omega) (by omega), show jadd u 1 = u + 1 from jadd_e (by omega) (by omega)]
      by_cases z2 : m 264 (6 * u) = 8
      · rw [if_neg (fun x => x z2), if_neg (fun x => x z2), Sg_levelOf_e h u0 (by omega) (by omega) (by omega), Option.bind_some, aI_ok (by omega) (by omega), Option.bind_some, Option.bind_some, Option.bind_some, sI_ok (by omega) (by omega), Option.bind_some, h.g.p u u0 (by omega), clamp]
        have hM : M_roll m u = some (wr m 279 u (jadd (m 279 u) (if jsub (lvA m u 8) (m 279 u) ≤ 40 then (if -40 ≤ jsub (lvA m u 8) (m 279 u) then jsub (lvA m u 8) (m 279 u) else -40) else 40))) := by
          unfold M_roll
          rw [M_levelAt_e h.km h.w u0 (by omega) (by omega) (by omega), Option.bind_some, aI_ok (by omega) (by omega), Option.bind_some, Option.bind_some, Option.bind_some, sI_ok (by omega) (by omega), sI_ok (by omega) (by omega), sI_ok (by omega) (by omega)]
          simp only [Option.bind_some]
          repeat' split
          all_goals rfl
        rw [hM, Option.bind_some]
        generalize jadd (m 279 u) (if jsub (lvA m u 8) (m 279 u) ≤ 40 then (if -40 ≤ jsub (lvA m u 8) (m 279 u) then jsub (lvA m u 8) (m 279 u) else -40) else 40) = v
        have h2 : INV B (wr c 230 (u + 1) v) (wr m 279 u v) := by
          refine INVg h (UNw UN.refl (by decide)) (UMw UM.refl (by decide)) (fun o a b d => wr_o (by omega)) (by rw [wr_o (by decide)]) (fun o a b d => wr_o (by omega)) (fun f _ => by rw [wr_o (by decide)]) ?_ ?_
          · refine ⟨?_, ?_, ?_, ?_, ?_, ?_⟩
            · intro q q0 q1; rw [wr_o (by decide), wr_o (by decide)]; exact h.g.f q q0 q1
            · intro q q0 q1; rw [wr_o (by decide), wr_o (by decide)]; exact h.g.b q q0 q1
            · unfold GR_g; rw [wr_o (by decide), wr_o (by decide)]; exact h.g.g
            · unfold GR_k; rw [wr_o (by decide), wr_o (by decide)]; exact h.g.k
            · intro q q0 q1; rw [wr_o (by decide), wr_o (by decide)]; exact h.g.r q q0 q1
            · intro q q0 q1
              have a := h.g.p q q0 q1
              by_cases e2 : q = u
              · subst e2; rw [wr_eq, wr_eq]
              · rw [wr_f (by omega), wr_f (by omega)]; exact a
          · exact TR_congr h.t (fun f _ _ => by rw [wr_o (by decide)]) (wr_o (by decide)) (fun f _ _ => by rw [wr_o (by decide)]) (wr_o (by decide))
        exact ih N2 _ _ (u + 1) h2 (by omega) (by omega) (by omega) (by omega)
      · rw [if_pos z2, if_pos z2]
        exact ih N2 c m (u + 1) h (by omega) (by omega) (by omega) (by omega)
theorem ev_op {B : Int} (hB : B + 1 ≤ 1000000) {K : Mem → Int → Option (Int × Mem)} {l1 l2 : Int} : ∀ (N1 N2 : Nat) (c m : Mem) (e : Int), INV B c m → 0 ≤ e → e ≤ 10 → 10 - e < N1 → 10 - e < N2 → ∃ c' m', Pl_tick_12 N1 c (e + 1) = some c' ∧ M_advance_35 K l1 l2 N2 m (12923 + 2 * e) = M_advance_113 K l1 l2 big m' 0 ∧ INV (B + 1) c' m' := by
  intro N1
  induction N1 with
  | zero => intro N2 c m e _ _ _ h3; omega
  | succ N1 ih =>
    intro N2 c m e h e0 e1 e2 e3
    obtain ⟨N2, rfl⟩ : ∃ j, N2 = j + 1 := ⟨N2 - 1, by omega⟩
    rw [Pl_tick_12, M_advance_35]
    by_cases z : 10 ≤ e
    · rw [if_pos (show 10 < e + 1 by omega), if_pos (show 12943 ≤ 12923 + 2 * e by omega)]
      obtain ⟨_, _, _, _, _, _, q7, q8⟩ := h.p.C
      rw [q7]
      by_cases z2 : m 259 31 = 0
      · rw [if_neg (fun x => x z2), if_neg (fun x => x z2), Option.bind_some, Option.bind_some]
        obtain ⟨c', m', f1, f2, f3⟩ := follow_op (fclock_op h hB)
        rw [f1, Option.bind_some, f2, Option.bind_some]
        exact ⟨c', m', rfl, rfl, f3⟩
      · rw [if_pos z2, if_pos z2]
        exact ⟨c, m, rfl, rfl, INV_mono h (by omega) hB⟩
    · obtain ⟨_, _, k3, _⟩ := h.p.K
      have s0 := S3.e h.s e 0 e0 (by omega) (by omega) (by omega)
      have s1 := S3.e h.s e 1 e0 (by omega) (by omega) (by omega)
      rw [Int.add_zero] at s0
      rw [if_neg (show ¬ 10 < e + 1 by omega), if_neg (show ¬ 12943 ≤ 12923 + 2 * e by omega), ar_ok (by omega) (by omega), Option.bind_some, rd_evt (by omega) (by omega) (by omega) (by omega), Option.bind_some, Option.bind_some, rd_evt (by omega) (by omega) (by omega) (by omega), Option.bind_some, show (83 + 1 * (e + 1) : Int) = 84 + e by omega, s0, s1, k3, aI_ok (by omega) (by omega), Option.bind_some, jadd_e (x := 12923 + 2 * e) (by omega) (by omega), jadd_e (x := 12923 + 2 * e) (by omega) (by omega), aI_ok (by omega) (by omega), Option.bind_some, M_cueRow_e, Option.bind_some, Option.bind_some, jadd_e (by omega) (by omega), show 12923 + 2 * e + 2 = 12923 + 2 * (e + 1) by omega, cix_e h.s, Option.bind_some]
      by_cases z2 : m 264 (12923 + 2 * e) = m 259 27
      · rw [if_neg (fun x => x z2), if_neg (fun x => x z2)]
        rcases jump_cix h (m 264 (12923 + 2 * e + 1)) with ⟨y1, y2⟩ | ⟨y0, y1, y2, y3⟩
        · rw [if_pos y2]
          have : Pl_takeAndFollow c (cix c (m 264 (12923 + 2 * e + 1))) 0 = some (0, c) := by
            unfold Pl_takeAndFollow
            rw [if_pos (by omega)]
          rw [this, Option.bind_some]
          exact ih N2 c m (e + 1) h (by omega) (by omega) (by omega) (by omega)
        · rw [if_neg (show ¬ rowOf (m 264) (m 264 (12923 + 2 * e + 1)) < 0 by omega)]
          obtain ⟨c', m', t1, t2, t3⟩ := taf_op (at_ := 0) h y0 y1
          rw [y2] at t2
          rw [t1, Option.bind_some, t2, Option.bind_some]
          exact ih N2 c' m' (e + 1) t3 (by omega) (by omega) (by omega) (by omega)
      · rw [if_pos z2, if_pos z2]
        exact ih N2 c m (e + 1) h (by omega) (by omega) (by omega) (by omega)
theorem adv_x {n : Int} : ∀ (N1 N2 : Nat) (B : Int) (c m : Mem) (k : Int), INV B c m → 0 ≤ k → k ≤ n → n ≤ 600 → B + 2 * (n - k) ≤ 1000000 → n - k < N1 → n - k < N2 → ∃ v c' m', D_advance_16 n N1 c k = some (v, c') ∧ M_advance_16 n N2 m k = some (v, m') ∧ INV (B + 2 * (n - k)) c' m' := by
  intro N1
  induction N1 with
  | zero => intro N2 B c m k _ _ _ _ _ h3; omega
  | succ N1 ih =>
    intro N2 B c m k h k0 k1 n1 hB k2 k3
    obtain ⟨N2, rfl⟩ : ∃ j, N2 = j + 1 := ⟨N2 - 1, by omega⟩
    rw [D_advance_16, M_advance_16]
    by_cases z : n ≤ k
    · rw [if_pos z, if_pos z, (h.p.K).2.2.1]
      exact ⟨_, c, m, rfl, rfl, INV_mono h (by omega) hB⟩
    · have h1 := clock_op h (by omega)
      obtain ⟨c1, m1, a1, a2, a3⟩ := ev_op (by omega) (K := M_advance_16 n N2) (l1 := n) (l2 := k) big big _ _ 0 h1 (by omega) (by omega) (by have := big_ge; omega) (by have := big_ge; omega)
      obtain ⟨c2, m2, b1, b2, b3⟩ := roll_op (K := M_advance_16 n N2) (l1 := n) (l2 := k) big big c1 m1 0 a3 (by omega) (by omega) (by have := big_ge; omega) (by have := big_ge; omega)
      have e1 : Pl_tick c = some c1 := by
        unfold Pl_tick
        rw [Option.bind_some]
        exact a1
      have e2 : Sg_moveRollers c1 = some c2 := b1
      rw [if_neg z, if_neg z, e1, Option.bind_some, e2, Option.bind_some, Option.bind_some]
      rw [show (12923 + 2 * 0 : Int) = 12923 by omega] at a2
      rw [a2, b2, jadd_e (by omega) (by omega)]
      obtain ⟨v, c', m', d1, d2, d3⟩ := ih N2 (B + 1 + 1) c2 m2 (k + 1) b3 (by omega) (by omega) n1 (by omega) (by omega) (by omega)
      rw [show B + 1 + 1 + 2 * (n - (k + 1)) = B + 2 * (n - k) by omega] at d3
      exact ⟨v, c', m', d1, d2, d3⟩
theorem op_advance {B : Int} {c m : Mem} (h : INV B c m) (n : Int) (hB : B + 1200 ≤ 1000000) : OP B (B + 1200) c m (D_advance c n) (M_advance m n) := by
  unfold D_advance M_advance
  simp only [M_in_e, Option.bind_some, bn]
  by_cases z : 0 ≤ n ∧ n ≤ 600
  · obtain ⟨v, c', m', d1, d2, d3⟩ := adv_x (n := n) big big B c m 0 h (by omega) z.1 z.2 (by omega) (by have := big_ge; omega) (by have := big_ge; omega)
    rw [if_pos z, if_neg (show ¬ n < 0 by omega), if_pos (show n ≤ 600 by omega)]
    exact ⟨v, c', m', d1, d2, INV_mono d3 (by omega) hB⟩
  · rw [if_neg z]
    refine ⟨-4, c, m, ?_, rfl, INV_mono h (by omega) hB⟩
    repeat' split
    all_goals first | (exfalso; omega) | rfl
