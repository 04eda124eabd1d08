-- L3: a cue written
/-- what is written of a cue: q its object, a its changes' place in the model -/
theorem chg_1 {B : Int} {c0 m0 : Mem} (hI : INV B c0 m0) {x a u : Int} (x0 : 130 ≤ x) (x1 : x < 220) (x2 : (x - 130) % 3 = 2) (a0 : 0 ≤ a) (a1 : a + 9 ≤ 12943) (u0 : 0 ≤ u) (u1 : u < 40) (hv : ∀ p, 0 ≤ p → p < 9 → c0 x (9 * u + p) = m0 264 (a + p) ∧ VAL (m0 264 (a + p))) : ∀ (d n1 n2 : Nat) (p N : Int) (c m : Mem), 0 ≤ p → p + d = 9 → d < n1 → d < n2 → WV N c0 m0 c m → N + 30 * d + 2 ≤ 1000000000 → EM (N + 30 * d + 2) c0 m0 (Sv_writeChanges_5 (u + 1) x n1 c 1 p) (M_saveChanges_9 a n2 m p) := by
  intro d n1 n2 p N c m p0 e h1 h2 h hN
  have key := EMloop (F := fun k c i => Sv_writeChanges_5 (u + 1) x k c 1 i) (G := fun k m i => M_saveChanges_9 a k m i) (c0 := c0) (m0 := m0) 9 30 2 (by omega) (by omega) (by
    intro k1 k2 p N c m p0 p1 h hN
    obtain ⟨v1, v2⟩ := hv p p0 p1
    show ∃ c' m', Sv_writeChanges_5 (u + 1) x (k1 + 1) c 1 p = Sv_writeChanges_5 (u + 1) x k1 c' 1 (p + 1) ∧ M_saveChanges_9 a (k2 + 1) m p = M_saveChanges_9 a k2 m' (p + 1) ∧ _
    rw [Sv_writeChanges_5, M_saveChanges_9, if_neg (show ¬ 9 ≤ p by omega), if_neg (show ¬ 9 ≤ p by omega), D_cellOf_e (by omega) (by omega) p0 p1, Option.bind_some, show 9 * (u + 1 - 1) + p = 9 * u + p by omega, rd_chg x0 x1 x2 (by omega) (by omega), Option.bind_some, h.c x (by omega) (by omega), v1, jadd_e (x := a) (by omega) (by omega), aI_ok (by omega) (by omega), Option.bind_some, h.m 264 (by omega) (by omega), jadd_e (x := p) (by omega) (by omega)]
    unfold Sv_writeChanges_39
    rw [jadd_e (x := 9) (by omega) (by omega), jadd_e (x := p) (by omega) (by omega), jadd_e (x := 61) (by omega) (by omega)]
    generalize m0 264 (a + p) = v at *
    unfold VAL at v2
    by_cases z : 0 ≤ v
    · rw [if_neg (show ¬ v = -1 by omega), if_pos z, if_pos (by decide)]
      obtain ⟨c1, m1, e1, e2, e3⟩ := wordE h hI.kc hI.km (by omega) (w := 61 + p) (by omega) (by omega) (piX (n := 9) pi_par p0 p1)
      rw [e1, e2, Option.bind_some, Option.bind_some]
      by_cases z2 : v < 2000
      · rw [if_pos z2, if_pos z2]
        obtain ⟨c2, m2, y, y', w⟩ := EMst (F := fun m4 => Sv_writeChanges_5 (u + 1) x k1 m4 1 (p + 1)) (G := fun m9 => M_saveChanges_9 a k2 m9 (p + 1)) (number_op (v := v) e3 (by omega) z (by omega))
        exact ⟨c2, m2, y, y', WVw w (by omega) hN⟩
      · rw [if_neg z2, if_neg z2, jsub_e (by omega) (by omega)]
        obtain ⟨c2, m2, y, y', w⟩ := EMst (F := fun m7 => Sv_writeChanges_5 (u + 1) x k1 m7 1 (p + 1)) (G := fun m12 => M_saveChanges_9 a k2 m12 (p + 1)) (pairE (v := v - 2000) e3 hI.kc hI.km (by omega) (w := 49) (wc := 67) (by omega) (by omega) (by decide) (by omega) (by omega))
        exact ⟨c2, m2, y, y', WVw w (by omega) hN⟩
    · rw [if_pos (show v = -1 by omega), if_neg z]
      exact ⟨c, m, rfl, rfl, WVw h (by omega) hN⟩) (by
    intro k1 k2 N c m h hN
    show EM (N + 2) c0 m0 (Sv_writeChanges_5 (u + 1) x (k1 + 1) c 1 9) (M_saveChanges_9 a (k2 + 1) m 9)
    rw [Sv_writeChanges_5, M_saveChanges_9, if_pos (show (9 : Int) ≤ 9 by decide), if_pos (show (9 : Int) ≤ 9 by decide), if_neg (show ¬ (1 : Int) = 0 by decide)]
    exact EMb (close_op h hN) (fun c m h => EMs h)) d n1 n2 p N c m p0 e h1 h2 h hN
  exact key
/-- before the first change of a unit nothing is written -/
theorem chg_0 {B : Int} {c0 m0 : Mem} (hI : INV B c0 m0) {x a u : Int} (x0 : 130 ≤ x) (x1 : x < 220) (x2 : (x - 130) % 3 = 2) (a0 : 0 ≤ a) (a1 : a + 9 ≤ 12943) (u0 : 0 ≤ u) (u1 : u < 40) (hv : ∀ p, 0 ≤ p → p < 9 → c0 x (9 * u + p) = m0 264 (a + p) ∧ VAL (m0 264 (a + p))) : ∀ (d n1 n2 : Nat) (p N : Int) (c m : Mem), 0 ≤ p → p + d = 9 → d < n1 → d < n2 → WV N c0 m0 c m → N + 300 ≤ 1000000000 → ((∀ q, p ≤ q → q < 9 → m0 264 (a + q) < 0) → Sv_writeChanges_5 (u + 1) x n1 c 0 p = some c) ∧ ((∃ q, p ≤ q ∧ q < 9 ∧ 0 ≤ m0 264 (a + q)) → EM (N + 300) c0 m0 (Sv_writeChanges_5 (u + 1) x n1 c 0 p) ((M_writeNumber m (u + 1)).bind fun m1 => M_saveChanges_9 a n2 m1 p)) := by
  intro d
  induction d with
  | zero =>
    intro n1 n2 p N c m p0 e h1 h2 h hN
    obtain ⟨n1, rfl⟩ : ∃ j, n1 = j + 1 := ⟨n1 - 1, by omega⟩
    refine ⟨fun _ => ?_, fun ⟨q, q0, q1, _⟩ => by omega⟩
    rw [Sv_writeChanges_5, if_pos (show 9 ≤ p by omega), if_pos rfl]
  | succ d ih =>
    intro n1 n2 p N c m p0 e h1 h2 h hN
    obtain ⟨n1, rfl⟩ : ∃ j, n1 = j + 1 := ⟨n1 - 1, by omega⟩
    obtain ⟨n2, rfl⟩ : ∃ j, n2 = j + 1 := ⟨n2 - 1, by omega⟩
    obtain ⟨v1, v2⟩ := hv p p0 (by omega)
    have hc : Sv_writeChanges_5 (u + 1) x (n1 + 1) c 0 p = if m0 264 (a + p) = -1 then Sv_writeChanges_5 (u + 1) x n1 c 0 (p + 1) else (Sv_putNumber c (u + 1)).bind fun m9 => Sv_writeChanges_39 (Sv_writeChanges_5 (u + 1) x n1) m9 (u + 1) x 1 p (m0 264 (a + p)) := by
      rw [Sv_writeChanges_5, if_neg (show ¬ 9 ≤ p by omega), D_cellOf_e (by omega) (by omega) p0 (by omega), Option.bind_some, show 9 * (u + 1 - 1) + p = 9 * u + p by omega, rd_chg x0 x1 x2 (by omega) (by omega), Option.bind_some, h.c x (by omega) (by omega), v1, jadd_e (x := p) (by omega) (by omega), if_neg (show ¬ (0 : Int) ≠ 0 by decide)]
    rw [hc]
    by_cases z : 0 ≤ m0 264 (a + p)
    · refine ⟨fun hq => by have := hq p (by omega) (by omega); omega, fun _ => ?_⟩
      rw [if_neg (show ¬ m0 264 (a + p) = -1 by omega)]
      refine EMb (number_op (v := u + 1) h (by omega) (by omega) (by omega)) (fun c m h => ?_)
      have r := chg_1 hI x0 x1 x2 a0 a1 u0 u1 hv (d + 1) (n1 + 1) (n2 + 1) p (N + 5) c m p0 e (by omega) (by omega) h (by omega)
      have hc1 : Sv_writeChanges_5 (u + 1) x (n1 + 1) c 1 p = Sv_writeChanges_39 (Sv_writeChanges_5 (u + 1) x n1) c (u + 1) x 1 p (m0 264 (a + p)) := by
        rw [Sv_writeChanges_5, if_neg (show ¬ 9 ≤ p by omega), D_cellOf_e (by omega) (by omega) p0 (by omega), Option.bind_some, show 9 * (u + 1 - 1) + p = 9 * u + p by omega, rd_chg x0 x1 x2 (by omega) (by omega), Option.bind_some, h.c x (by omega) (by omega), v1, if_neg (show ¬ m0 264 (a + p) = -1 by omega), if_pos (show (1 : Int) ≠ 0 by decide)]
      rw [← hc1]
      exact EMw r (by omega) hN
    · have ev : m0 264 (a + p) = -1 := by unfold VAL at v2; omega
      rw [if_pos ev]
      obtain ⟨i1, i2⟩ := ih n1 n2 (p + 1) N c m (by omega) (by omega) (by omega) (by omega) h hN
      refine ⟨fun hq => i1 (fun q q0 q1 => hq q (by omega) q1), fun ⟨q, q0, q1, q2⟩ => ?_⟩
      have hq : q ≠ p := fun e => by subst e; omega
      obtain ⟨c', m', y1, y2, y3⟩ := i2 ⟨q, by omega, q1, q2⟩
      refine ⟨c', m', y1, ?_, y3⟩
      obtain ⟨mm, k1, k2⟩ := bindS y2
      rw [k1, Option.bind_some, ← k2, M_saveChanges_9, if_neg (show ¬ 9 ≤ p by omega)]
      have hu := um_M_writeNumber k1 UM.refl
      obtain ⟨_, mw, t1, t2, t3⟩ := number_op (v := u + 1) h (by omega) (by omega) (by omega)
      have em : mm = mw := by rw [t2] at k1; exact (Option.some.inj k1).symm
      rw [jadd_e (x := a) (by omega) (by omega), aI_ok (by omega) (by omega), Option.bind_some, em, t3.m 264 (by omega) (by omega), if_neg z, jadd_e (by omega) (by omega)]
theorem vc9_z {f : Int → Int} : vc9 f ≤ 0 ↔ ∀ q, 0 ≤ q → q < 9 → f q < 0 := by
  have h := itr_inv (σ := Int) (fun i s => if f i < 0 then s else s + 1) 0 (fun i s => 0 ≤ s ∧ (s ≤ 0 ↔ ∀ q, 0 ≤ q → q < i → f q < 0)) ⟨by omega, ⟨fun _ q a b => by omega, fun _ => by omega⟩⟩ (by
    intro k s ⟨s0, hs⟩
    split
    · rename_i z
      refine ⟨s0, ⟨fun a q q0 q1 => ?_, fun a => hs.mpr (fun q q0 q1 => a q q0 (by omega))⟩⟩
      by_cases e : q = k
      · subst e; exact z
      · exact hs.mp a q q0 (by omega)
    · rename_i z
      refine ⟨by omega, ⟨fun a => by omega, fun a => absurd (a k (by omega) (by omega)) z⟩⟩) 9
  exact h.2
/-- the changes of a unit, if there are any -/
theorem chg_op {B N : Int} {c0 m0 c m : Mem} (hI : INV B c0 m0) {x a u : Int} (x0 : 130 ≤ x) (x1 : x < 220) (x2 : (x - 130) % 3 = 2) (a0 : 0 ≤ a) (a1 : a + 9 ≤ 12943) (u0 : 0 ≤ u) (u1 : u < 40) (hv : ∀ p, 0 ≤ p → p < 9 → c0 x (9 * u + p) = m0 264 (a + p) ∧ VAL (m0 264 (a + p))) (h : WV N c0 m0 c m) (hN : N + 300 ≤ 1000000000) : ∃ c' m', Sv_writeChanges c (u + 1) x = some c' ∧ ((M_levelsIn m a).bind fun x7 => if x7 ≤ 0 then some m else M_saveChanges m u a) = some m' ∧ WV (N + 300) c0 m0 c' m' := by
  obtain ⟨r1, r2⟩ := chg_0 hI x0 x1 x2 a0 a1 u0 u1 hv 9 big big 0 N c m (by omega) (by omega) (by have := big_ge; omega) (by have := big_ge; omega) h hN
  have em : m 264 = m0 264 := h.m 264 (by omega) (by omega)
  rw [M_levelsIn_e a0 a1, Option.bind_some, em]
  unfold Sv_writeChanges M_saveChanges
  rw [jadd_e (by omega) (by omega)]
  by_cases z : vc9 (fun i => m0 264 (a + i)) ≤ 0
  · rw [if_pos z, r1 (fun q q0 q1 => vc9_z.mp z q q0 q1)]
    exact ⟨c, m, rfl, rfl, WVw h (by omega) hN⟩
  · rw [if_neg z]
    have hq : ∃ q, 0 ≤ q ∧ q < 9 ∧ 0 ≤ m0 264 (a + q) := by
      by_cases hq : ∃ q, 0 ≤ q ∧ q < 9 ∧ 0 ≤ m0 264 (a + q)
      · exact hq
      · exfalso
        refine z (vc9_z.mpr (fun q q0 q1 => ?_))
        by_cases z2 : m0 264 (a + q) < 0
        · exact z2
        · exact absurd ⟨q, q0, q1, by omega⟩ hq
    obtain ⟨c', m', y1, y2, y3⟩ := r2 hq
    exact ⟨c', m', y1, y2, y3⟩
