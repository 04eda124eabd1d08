-- L3: the owner of a slot
def inS (m : Mem) (k u : Int) : Prop := 0 ≤ m 264 (6 * u) ∧ 0 ≤ k - m 264 (6 * u + 1) ∧ k - m 264 (6 * u + 1) < wdK (m 264 (6 * u))
theorem inS_one {m : Mem} (hw : WF (m 264)) {k u v : Int} (u0 : 0 ≤ u) (u1 : u < 40) (v0 : 0 ≤ v) (v1 : v < 40) (h1 : inS m k u) (h2 : inS m k v) : u = v := by
  by_cases e : u = v
  · exact e
  · obtain ⟨a1, a2, a3⟩ := h1
    obtain ⟨b1, b2, b3⟩ := h2
    have := hw.d u v u0 u1 v0 v1 e a1 b1
    omega
theorem own_x {B : Int} {c m : Mem} (h : INV B c m) {k : Int} (k0 : 1 ≤ k) (k1 : k ≤ 200) : ∀ (N : Nat) (u : Int), 0 ≤ u → u ≤ 40 → 40 - u < N → (∀ q, 0 ≤ q → q < u → ¬ inS m k q) → ∃ v, Sh_ownerOf_2 c k N (u + 1) = some v ∧ ((v = 0 ∧ ∀ q, 0 ≤ q → q < 40 → ¬ inS m k q) ∨ (1 ≤ v ∧ v ≤ 40 ∧ inS m k (v - 1))) := by
  intro N
  induction N with
  | zero => intro u _ _ h3; omega
  | succ N ih =>
    intro u u0 u1 u2 hu
    rw [Sh_ownerOf_2]
    by_cases e : 40 < u + 1
    · rw [if_pos e]
      exact ⟨0, rfl, Or.inl ⟨rfl, fun q a b => hu q a (by omega)⟩⟩
    · rw [if_neg e, Sh_isPatched_e h.s h.w (by omega) (by omega), show 6 * (u + 1 - 1) = 6 * u by omega]
      simp only [Option.bind_some, nz]
      have go : ¬ inS m k u → ∃ v, Sh_ownerOf_2 c k N (jadd (u + 1) 1) = some v ∧ ((v = 0 ∧ ∀ q, 0 ≤ q → q < 40 → ¬ inS m k q) ∨ (1 ≤ v ∧ v ≤ 40 ∧ inS m k (v - 1))) := by
        intro hn
        rw [jadd_e (by omega) (by omega)]
        refine ih (u + 1) (by omega) (by omega) (by omega) (fun q a b => ?_)
        by_cases e3 : q = u
        · rw [e3]; exact hn
        · exact hu q a (by omega)
      by_cases e2 : m 264 (6 * u) < 0
      · rw [if_pos e2]
        exact go (fun x => by have := x.1; omega)
      · obtain ⟨s1, s2⟩ := S3.u h.s u u0 (by omega)
        obtain ⟨w1, w2, w3⟩ := h.w.u u u0 (by omega)
        obtain ⟨x1, x2, _⟩ := w3 (by omega)
        have wr := wdK_r (k := m 264 (6 * u)) (by omega) (by omega)
        rw [if_neg e2]
        simp (disch := omega) only [ar_ok, rd_pat, Option.bind_some]
        rw [show (5 + 1 * (u + 1) : Int) = 6 + u by omega, s1, s2 (by omega) 1 (by omega) (by omega), jsub_e (by omega) (by omega), aI_ok (by omega) (by omega), Option.bind_some, h.kc.sok _ (by omega) (by omega)]
        by_cases e3 : k - m 264 (6 * u + 1) < 0
        · rw [if_pos e3]
          exact go (fun x => by have := x.2.1; omega)
        · rw [if_neg e3]
          by_cases e4 : tbl sokT (m 264 (6 * u)) ≤ k - m 264 (6 * u + 1)
          · rw [if_pos e4]
            exact go (fun x => by have := x.2.2; unfold wdK at this; omega)
          · rw [if_neg e4]
            refine ⟨u + 1, rfl, Or.inr ⟨by omega, by omega, ?_⟩⟩
            rw [show u + 1 - 1 = u by omega]
            exact ⟨by omega, by omega, by unfold wdK; omega⟩
def btA (m : Mem) (k u : Int) : Int := fin1 (outA m u (jdiv (tbl layT (8 * m 264 (6 * u) + (k - m 264 (6 * u + 1)))) 10)) (jrem (tbl layT (8 * m 264 (6 * u) + (k - m 264 (6 * u + 1)))) 10)
theorem M_slot_x {μ : Mem} (hk : KON μ) (hw : WF (μ 264)) {k : Int} (k0 : 1 ≤ k) (k1 : k ≤ 200) : ∀ (N : Nat) (u s : Int), 0 ≤ u → u ≤ 40 → 40 - u < N → ((s = 0 ∧ ∀ q, 0 ≤ q → q < u → ¬ inS μ k q) ∨ (∃ q, 0 ≤ q ∧ q < u ∧ inS μ k q ∧ s = btA μ k q)) → ∃ v, M_slot_46 μ k N s u = some v ∧ ((v = 0 ∧ ∀ q, 0 ≤ q → q < 40 → ¬ inS μ k q) ∨ (∃ q, 0 ≤ q ∧ q < 40 ∧ inS μ k q ∧ v = btA μ k q)) := by
  intro N
  induction N with
  | zero => intro u s _ _ h3; omega
  | succ N ih =>
    intro u s u0 u1 u2 hu
    rw [M_slot_46]
    by_cases e : 40 ≤ u
    · rw [if_pos e]
      rw [show u = 40 by omega] at hu
      exact ⟨s, rfl, hu⟩
    · rw [if_neg e, M_isPatched_e u0 (by omega)]
      simp only [Option.bind_some, nz]
      have go : ¬ inS μ k u → ∃ v, M_slot_46 μ k N s (jadd u 1) = some v ∧ ((v = 0 ∧ ∀ q, 0 ≤ q → q < 40 → ¬ inS μ k q) ∨ (∃ q, 0 ≤ q ∧ q < 40 ∧ inS μ k q ∧ v = btA μ k q)) := by
        intro hn
        rw [jadd_e (by omega) (by omega)]
        refine ih (u + 1) s (by omega) (by omega) (by omega) ?_
        rcases hu with ⟨a, b⟩ | ⟨q, a, b, d⟩
        · refine Or.inl ⟨a, fun q x y => ?_⟩
          by_cases e3 : q = u
          · rw [e3]; exact hn
          · exact b q x (by omega)
        · exact Or.inr ⟨q, a, by omega, d⟩
      by_cases e2 : μ 264 (6 * u) < 0
      · rw [if_pos e2]
        exact go (fun x => by have := x.1; omega)
      · obtain ⟨w1, w2, w3⟩ := hw.u u u0 (by omega)
        obtain ⟨x1, x2, _⟩ := w3 (by omega)
        have wr := wdK_r (k := μ 264 (6 * u)) (by omega) (by omega)
        rw [if_neg e2, jmul_e (by omega) (by omega), jadd_e (by omega) (by omega)]
        simp (disch := omega) only [aI_ok, Option.bind_some, M_width_e hk, M_in_e, bz]
        rw [jsub_e (by omega) (by omega), jsub_e (by omega) (by omega)]
        by_cases e3 : 0 ≤ k - μ 264 (6 * u + 1) ∧ k - μ 264 (6 * u + 1) ≤ wdK (μ 264 (6 * u)) - 1
        · rw [if_pos e3]
          have hi : inS μ k u := ⟨by omega, by omega, by omega⟩
          obtain ⟨y1, y2⟩ := M_byteOf_e hk hw u0 (by omega) hi.1 hi.2.1 hi.2.2
          rw [y2, M_output_e hk hw u0 (by omega) hi.1 y1.1 y1.2, Option.bind_some, Option.bind_some, jadd_e (by omega) (by omega)]
          exact ih (u + 1) _ (by omega) (by omega) (by omega) (Or.inr ⟨u, u0, by omega, hi, rfl⟩)
        · rw [if_neg e3]
          exact go (fun x => by have := x.2.1; have := x.2.2; omega)
theorem q_slot {B : Int} {μ : Mem} (h : INV B μ μ) (k : Int) : SAME (D_slot μ k) (M_slot μ k) := by
  unfold D_slot M_slot Sg_byteOf
  simp only [D_isIn_e, M_in_e, Option.bind_some, bz, bn]
  by_cases z : 1 ≤ k ∧ k ≤ 200
  · simp only [if_pos z]
    have s1 := S3.k h.s (k - 1) (by omega) (by omega)
    rw [show k - 1 + 1 = k by omega] at s1
    obtain ⟨w1, w2⟩ := h.w.k (k - 1) (by omega) (by omega)
    rw [aI_ok (by omega) (by omega), Option.bind_some, s1, jadd_e (by omega) (by omega), jsub_e (by omega) (by omega), show 12723 + k - 1 = 12723 + (k - 1) by omega, aI_ok (by omega) (by omega)]
    simp only [Option.bind_some]
    by_cases z2 : μ 264 (12723 + (k - 1)) < 0
    · rw [if_pos (show μ 264 (12723 + (k - 1)) = -1 by omega), if_pos z2]
      obtain ⟨v, e1, e2⟩ := own_x h z.1 z.2 big 0 (by omega) (by omega) (by have := big_ge; omega) (fun q a b => by omega)
      obtain ⟨y, e3, e4⟩ := M_slot_x h.km h.w z.1 z.2 big 0 0 (by omega) (by omega) (by have := big_ge; omega) (Or.inl ⟨rfl, fun q a b => by omega⟩)
      have e1' : Sh_ownerOf μ k = some v := e1
      rw [e1', e3]
      simp only [Option.bind_some]
      rcases e2 with ⟨rfl, e2⟩ | ⟨a, b, e2⟩
      · rw [if_neg (by decide)]
        rcases e4 with ⟨rfl, _⟩ | ⟨q, q0, q1, q2, _⟩
        · exact ⟨0, rfl, rfl⟩
        · exact absurd q2 (e2 q q0 q1)
      · rcases e4 with ⟨_, e5⟩ | ⟨q, q0, q1, q2, rfl⟩
        · exact absurd e2 (e5 (v - 1) (by omega) (by omega))
        · have eq : v - 1 = q := inS_one h.w (by omega) (by omega) q0 q1 e2 q2
          have ev : v = q + 1 := by omega
          subst ev
          obtain ⟨p1, p2, p3⟩ := q2
          obtain ⟨s2, s3⟩ := S3.u h.s q q0 q1
          obtain ⟨x1, x2, x3⟩ := h.w.u q q0 q1
          obtain ⟨x4, x5, _⟩ := x3 p1
          have wr := wdK_r p1 (by omega)
          obtain ⟨y1, _⟩ := M_byteOf_e h.km h.w q0 q1 p1 p2 p3
          rw [if_pos (show q + 1 ≠ 0 by omega)]
          simp (disch := omega) only [ar_ok, rd_pat, Option.bind_some]
          rw [show (5 + 1 * (q + 1) : Int) = 6 + q by omega, s3 p1 1 (by omega) (by omega), s2, jsub_e (by omega) (by omega), jmul_e (by omega) (by omega), jadd_e (by omega) (by omega), aI_ok (by omega) (by omega), h.kc.lay _ (by omega) (by omega), show μ 264 (6 * q) * 8 + (k - μ 264 (6 * q + 1)) = 8 * μ 264 (6 * q) + (k - μ 264 (6 * q + 1)) by omega]
          simp only [Option.bind_some]
          rw [Sg_levelInSlot_e h q0 q1 p1 y1.1 y1.2]
          simp only [Option.bind_some]
          refine ⟨btA μ k q, ?_, rfl⟩
          unfold btA fin1
          generalize jrem (tbl layT (8 * μ 264 (6 * q) + (k - μ 264 (6 * q + 1)))) 10 = pt
          repeat' split
          all_goals first | (exfalso; omega) | rfl
    · rw [if_neg (show ¬ μ 264 (12723 + (k - 1)) = -1 by omega), if_neg z2]
      exact ⟨_, rfl, rfl⟩
  · simp only [if_neg z]
    exact ⟨_, rfl, rfl⟩
