-- L3: enter: unpatch: rows
theorem takeA {m : Mem} {f u : Int} {r : RW} (f0 : 0 ≤ f) (f1 : f ≤ 12000) (h : ROK r) (e1 : m 264 f = r.1) (e2 : ∀ i, 0 ≤ i → i < r.1 → m 264 (f + 1 + i) = r.2 i) : ∃ g, M_takeAway m f u = some (up m 264 g) ∧ g f = (putP r u 0).1 ∧ (∀ i, 0 ≤ i → i < (putP r u 0).1 → g (f + 1 + i) = (putP r u 0).2 i) ∧ (∀ i, ¬ (f ≤ i ∧ i < f + 1 + r.1) → g i = m 264 i) := by
  have hs := fndP_s h u
  obtain ⟨r0, r1, r2, r3⟩ := h
  have ep : putP r u 0 = if 0 ≤ fndP r u then delP r (fndP r u) else r := by
    unfold putP
    rw [if_neg (fun x => x rfl)]
  generalize hp : fndP r u = p at *
  -- how many stand behind k of them
  have lp : ∀ (d N : Nat) (k n : Int) (g : Int → Int), d < N → k + d = r.1 + 1 → 1 ≤ k → n = (if 0 ≤ p ∧ p < k - 1 then k - 2 else k - 1) → (∀ i, 0 ≤ i → i < n → g (f + 1 + i) = (putP r u 0).2 i) → (∀ i, k - 1 ≤ i → i < r.1 → g (f + 1 + i) = r.2 i) → (∀ i, ¬ (f ≤ i ∧ i < f + 1 + r.1) → g i = m 264 i) → ∃ g', M_takeAway_13 f u r.1 N (up m 264 g) n k = some (up m 264 g') ∧ g' f = (putP r u 0).1 ∧ (∀ i, 0 ≤ i → i < (putP r u 0).1 → g' (f + 1 + i) = (putP r u 0).2 i) ∧ (∀ i, ¬ (f ≤ i ∧ i < f + 1 + r.1) → g' i = m 264 i) := by
    intro d
    induction d with
    | zero =>
      intro N k n g hN hk k1 hn g1 g2 g3
      obtain ⟨N, rfl⟩ : ∃ j, N = j + 1 := ⟨N - 1, by omega⟩
      have en : n = (putP r u 0).1 := by
        rw [ep, hn]
        by_cases z : 0 ≤ p
        · rw [if_pos z]
          show _ = r.1 - 1
          rw [if_pos (by omega)]; omega
        · rw [if_neg z, if_neg (by omega)]; omega
      rw [M_takeAway_13, if_pos (by omega), sI_up (by omega) (by omega), Option.bind_some, up_eq, up_up]
      refine ⟨_, rfl, by rw [st1_eq, en], fun i i0 i1 => ?_, fun i hi => ?_⟩
      · rw [st1_ne (by omega)]; exact g1 i i0 (by omega)
      · rw [st1_ne (by omega)]; exact g3 i hi
    | succ d ih =>
      intro N k n g hN hk k1 hn g1 g2 g3
      obtain ⟨N, rfl⟩ : ∃ j, N = j + 1 := ⟨N - 1, by omega⟩
      have v := g2 (k - 1) (Int.le_refl _) (by omega)
      rw [show f + 1 + (k - 1) = f + k by omega] at v
      have nr : 0 ≤ n ∧ n ≤ k - 1 := by rw [hn]; split <;> omega
      rw [M_takeAway_13, if_neg (by omega), jadd_e (x := f) (y := k) (by omega) (by omega), aI_ok (by omega) (by omega), Option.bind_some, up_eq, v]
      by_cases z : r.2 (k - 1) = u
      · have pk : p = k - 1 := by
          rcases hs with ⟨_, x⟩ | ⟨_, _, _, x⟩
          · exact absurd z (x _ (by omega) (by omega))
          · exact (x _ (by omega) (by omega) z).symm
        rw [if_neg (fun x => x z), jadd_e (by omega) (by omega)]
        refine ih N (k + 1) n g (by omega) (by omega) (by omega) ?_ g1 (fun i i0 i1 => g2 i (by omega) i1) g3
        rw [hn, if_neg (by omega), if_pos (by omega)]; omega
      · have pk : ¬ p = k - 1 := by
          intro x
          rcases hs with ⟨y, _⟩ | ⟨_, _, y, _⟩
          · omega
          · rw [x] at y; exact z y
        rw [if_pos z, jadd_e (x := n) (by omega) (by omega), jadd_e (x := f) (by omega) (by omega), sI_up (by omega) (by omega), Option.bind_some, up_eq, up_up, jadd_e (x := k) (by omega) (by omega)]
        have nn : n + 1 = (if 0 ≤ p ∧ p < k + 1 - 1 then k + 1 - 2 else k + 1 - 1) := by
          rw [hn]
          by_cases y : 0 ≤ p ∧ p < k - 1
          · rw [if_pos y, if_pos (by omega)]; omega
          · rw [if_neg y, if_neg (by omega)]; omega
        have nv : r.2 (k - 1) = (putP r u 0).2 n := by
          rw [ep]
          by_cases y : 0 ≤ p ∧ p < k - 1
          · rw [if_pos y.1]
            rw [if_pos y] at hn
            show _ = (if p ≤ n ∧ n < r.1 - 1 then r.2 (n + 1) else r.2 n)
            rw [if_pos (by omega), show n + 1 = k - 1 by omega]
          · rw [if_neg y] at hn
            by_cases w : 0 ≤ p
            · rw [if_pos w]
              show _ = (if p ≤ n ∧ n < r.1 - 1 then r.2 (n + 1) else r.2 n)
              rw [if_neg (by omega), hn]
            · rw [if_neg w, hn]
        refine ih N (k + 1) (n + 1) _ (by omega) (by omega) (by omega) nn (fun i i0 i1 => ?_) (fun i i0 i1 => ?_) (fun i hi => ?_)
        · by_cases y : i = n
          · rw [y, show f + 1 + n = f + (n + 1) by omega, st1_eq, nv]
          · rw [st1_ne (by omega)]; exact g1 i i0 (by omega)
        · rw [st1_ne (by omega)]; exact g2 i (by omega) i1
        · rw [st1_ne (by omega)]; exact g3 i hi
  unfold M_takeAway
  rw [aI_ok (by omega) (by omega), Option.bind_some, e1]
  have := lp r.1.toNat big 1 0 (m 264) (by have := big_ge; omega) (by omega) (by omega) (by split <;> omega) (fun i a b => by omega) (fun i a b => e2 i (by omega) b) (fun _ _ => rfl)
  rwa [up_id] at this
theorem putP_n {r : RW} {u : Int} (h : ROK r) : (putP r u 0).1 ≤ r.1 ∧ 0 ≤ (putP r u 0).1 := by
  have hs := fndP_s h u
  have r0 := h.1
  unfold putP
  rw [if_neg (fun x => x rfl)]
  by_cases z : 0 ≤ fndP r u
  · rw [if_pos z]
    show r.1 - 1 ≤ r.1 ∧ 0 ≤ r.1 - 1
    rcases hs with ⟨a, _⟩ | ⟨a, b, _⟩ <;> omega
  · rw [if_neg z]; omega
theorem roW {o : Int} (h0 : 94 ≤ o) (h1 : o < 130) (h2 : (o - 94) % 2 = 0) : RO o := by
  have k := kd3 (x := o + 1) (n := 40) (by omega) (by omega) (shK_92 (by omega) (by omega) (by omega))
  exact ⟨kd_row h0 h1 h2, k.1, k.2, by omega, uB3 (by omega) (by omega), uB3 (by omega) (by omega)⟩
/-- the groups' part of a show -/
def GPR (c : Mem) (g : Int → Int) : Prop := (∀ k, 0 ≤ k → k < 12 → c (96 + 2 * k) 1 = g (240 + 41 * k) ∧ (∀ i, 0 ≤ i → i < g (240 + 41 * k) → c (97 + 2 * k) i = g (241 + 41 * k + i) + 1)) ∧ WF_g g
theorem unG {c m : Mem} {u : Int} (hO : 280 ≤ c 0 0) (u0 : 0 ≤ u) (u1 : u < 40) (hG : GPR c (m 264)) : ∃ c' h, Ed_unpatchUnit_15 (u + 1) big c 1 = Ed_unpatchUnit_42 (u + 1) big c' 1 ∧ M_unpatch_12 u big m 0 = M_unpatch_39 u big (up m 264 h) 0 ∧ GPR c' h ∧ (∀ o, ¬ (96 ≤ o ∧ o < 120) → c' o = c o) ∧ (∀ i, ¬ (240 ≤ i ∧ i < 732) → h i = m 264 i) := by
  have st := loop2 (fun N μ i => Ed_unpatchUnit_15 (u + 1) N μ i) (fun N μ i => M_unpatch_12 u N μ i) (fun _ c' m' => m' = up m 264 (m' 264) ∧ GPR c' (m' 264) ∧ (∀ o, ¬ (96 ≤ o ∧ o < 120) → c' o = c o) ∧ (∀ i, ¬ (240 ≤ i ∧ i < 732) → m' 264 i = m 264 i)) 1 0 0 12 (by
    intro a b k c1 m1 k0 k1 ⟨x1, ⟨x2, x3⟩, x4, x5⟩
    have hR := x3 k k0 k1
    have cr := x2 k k0 k1
    have ok := roW (o := 96 + 2 * k) (by omega) (by omega) (by omega)
    obtain ⟨c', d1, d2, d3, d4⟩ := remove_e (c := c1) (o := 96 + 2 * k) (r := (m1 264 (240 + 41 * k), fun i => m1 264 (241 + 41 * k + i))) (u := u) ok (by rw [x4 0 (by omega)]; omega) hR ⟨cr.1, fun i i0 i1 => by rw [show 96 + 2 * k + 1 = 97 + 2 * k by omega]; exact cr.2 i i0 i1⟩
    obtain ⟨g, t1, t2, t3, t4⟩ := takeA (m := m1) (f := 240 + 41 * k) (u := u) (r := (m1 264 (240 + 41 * k), fun i => m1 264 (241 + 41 * k + i))) (by omega) (by omega) hR rfl (fun i _ _ => by rw [show 240 + 41 * k + 1 + i = 241 + 41 * k + i by omega])
    have pk := putP_k (r := (m1 264 (240 + 41 * k), fun i => m1 264 (241 + 41 * k + i))) (more := 0) hR u0 u1
    have r1 : m1 264 (240 + 41 * k) ≤ 40 := hR.2.1
    have t4' : ∀ i, ¬ (240 + 41 * k ≤ i ∧ i < 240 + 41 * k + 1 + m1 264 (240 + 41 * k)) → g i = m1 264 i := t4
    generalize hpp : putP (m1 264 (240 + 41 * k), fun i => m1 264 (241 + 41 * k + i)) u 0 = pp at *
    refine ⟨c', up m1 264 g, ?_, ?_, ?_, ⟨fun q q0 q1 => ?_, fun q q0 q1 => ?_⟩, fun o ho => ?_, fun i hi => ?_⟩
    · show Ed_unpatchUnit_15 (u + 1) (a + 1) c1 (1 + k) = Ed_unpatchUnit_15 (u + 1) a c' (1 + k + 1)
      rw [Ed_unpatchUnit_15, if_neg (by omega), ar_ok (by omega) (by omega), Option.bind_some, show 94 + 2 * (1 + k) = 96 + 2 * k by omega, if_pos ⟨by omega, ok.1⟩, d1, Option.bind_some, jadd_e (by omega) (by omega)]
    · show M_unpatch_12 u (b + 1) m1 (0 + k) = M_unpatch_12 u b (up m1 264 g) (0 + k + 1)
      rw [show (0 : Int) + k = k by omega, M_unpatch_12, if_neg (by omega), jmul_e (by omega) (by omega), jadd_e (by omega) (by omega), t1, Option.bind_some, jadd_e (by omega) (by omega)]
    · rw [up_eq]
      conv => lhs; rw [x1]
      rw [up_up]
    · rw [up_eq]
      by_cases z : q = k
      · rw [z, t2]
        refine ⟨d2.1, fun i i0 i1 => ?_⟩
        have := d2.2 i i0 i1
        rw [show 96 + 2 * k + 1 = 97 + 2 * k by omega] at this
        rw [this, ← t3 i i0 i1, show 240 + 41 * k + 1 + i = 241 + 41 * k + i by omega]
      · have w := x2 q q0 q1
        have w2 := (x3 q q0 q1).2.1
        have w2' : m1 264 (240 + 41 * q) ≤ 40 := w2
        rw [d3 _ (by omega) (by omega), d3 _ (by omega) (by omega), t4' _ (by omega)]
        exact ⟨w.1, fun i i0 i1 => by rw [t4' _ (by omega)]; exact w.2 i i0 i1⟩
    · rw [up_eq]
      by_cases z : q = k
      · rw [z, t2]
        exact RowOK_c pk (fun i i0 i1 => by
          show g (241 + 41 * k + i) = pp.2 i
          rw [← t3 i i0 i1, show 240 + 41 * k + 1 + i = 241 + 41 * k + i by omega])
      · have w := x3 q q0 q1
        have w2 : m1 264 (240 + 41 * q) ≤ 40 := w.2.1
        rw [t4' _ (by omega)]
        exact RowOK_c w (fun i i0 i1 => t4' _ (by omega))
    · rw [d3 o (by omega) (by omega), x4 o ho]
    · rw [up_eq, t4' i (by omega), x5 i hi]) 12 big big 0 c m (by omega) (by omega) (by have := big_ge; omega) (by have := big_ge; omega) ⟨up_id.symm, hG, fun _ _ => rfl, fun _ _ => rfl⟩
  obtain ⟨c', m', a, b, f1, f2, x1, x2, x3, x4⟩ := st
  have f1' : Ed_unpatchUnit_15 (u + 1) big c 1 = Ed_unpatchUnit_15 (u + 1) (a + 1) c' (1 + 12) := f1
  have f2' : M_unpatch_12 u big m 0 = M_unpatch_12 u (b + 1) m' (0 + 12) := f2
  refine ⟨c', m' 264, ?_, ?_, x2, x3, x4⟩
  · rw [f1', Ed_unpatchUnit_15, if_pos (by decide)]
  · rw [f2', M_unpatch_12, if_pos (by decide), ← x1]
/-- the subs' part -/
theorem unS {c m : Mem} {u : Int} (u0 : 0 ≤ u) (u1 : u < 40) (hS : ∀ s v, 0 ≤ s → s < 8 → 0 ≤ v → v < 40 → c (63 + s) (v + 1) = m 264 (840 + 40 * s + v)) (hw : WF_s (m 264)) : ∃ c' h, Ed_unpatchUnit_42 (u + 1) big c 1 = Ed_unpatchUnit_68 (u + 1) big c' 1 ∧ M_unpatch_39 u big m 0 = M_unpatch_69 u big (up m 264 h) 0 ∧ (∀ s v, 0 ≤ s → s < 8 → 0 ≤ v → v < 40 → c' (63 + s) (v + 1) = h (840 + 40 * s + v)) ∧ WF_s h ∧ (∀ o, ¬ (63 ≤ o ∧ o < 71) → c' o = c o) ∧ (∀ i, ¬ (840 ≤ i ∧ i < 1160) → h i = m 264 i) := by
  have st := loop2 (fun N μ i => Ed_unpatchUnit_42 (u + 1) N μ i) (fun N μ i => M_unpatch_39 u N μ i) (fun _ c' m' => m' = up m 264 (m' 264) ∧ (∀ s v, 0 ≤ s → s < 8 → 0 ≤ v → v < 40 → c' (63 + s) (v + 1) = m' 264 (840 + 40 * s + v)) ∧ WF_s (m' 264) ∧ (∀ o, ¬ (63 ≤ o ∧ o < 71) → c' o = c o) ∧ (∀ i, ¬ (840 ≤ i ∧ i < 1160) → m' 264 i = m 264 i)) 1 0 0 8 (by
    intro a b k c1 m1 k0 k1 ⟨x1, x2, x3, x4, x5⟩
    refine ⟨up c1 (63 + k) (st1 (c1 (63 + k)) (u + 1) (-1)), up m1 264 (st1 (m1 264) (840 + 40 * k + u) (-1)), ?_, ?_, ?_, fun s v s0 s1 v0 v1 => ?_, fun s v s0 s1 v0 v1 => ?_, fun o ho => ?_, fun i hi => ?_⟩
    · show Ed_unpatchUnit_42 (u + 1) (a + 1) c1 (1 + k) = Ed_unpatchUnit_42 (u + 1) a _ (1 + k + 1)
      rw [Ed_unpatchUnit_42, if_neg (by omega), ar_ok (by omega) (by omega), Option.bind_some, show 62 + 1 * (1 + k) = 63 + k by omega, wD3 (by omega) (by omega) (shK_59 (by omega) (by omega)) (by omega) (by omega), Option.bind_some, jadd_e (by omega) (by omega)]
    · show M_unpatch_39 u (b + 1) m1 (0 + k) = M_unpatch_39 u b _ (0 + k + 1)
      rw [show (0 : Int) + k = k by omega, M_unpatch_39, if_neg (by omega), jmul_e (by omega) (by omega), jadd_e (x := 840) (by omega) (by omega), jadd_e (x := 840 + 40 * k) (by omega) (by omega), sI_up (by omega) (by omega), Option.bind_some, jadd_e (by omega) (by omega)]
    · rw [up_eq]
      conv => lhs; rw [x1]
      rw [up_eq, up_up]
    · rw [up_eq]
      by_cases z : s = k
      · rw [z, up_eq]
        unfold st1
        by_cases y : v = u
        · rw [if_pos (by omega), if_pos (by omega)]
        · rw [if_neg (by omega), if_neg (by omega)]; exact x2 k v k0 (by omega) v0 v1
      · rw [up_ne (by omega), st1_ne (by omega)]; exact x2 s v s0 s1 v0 v1
    · rw [up_eq]
      unfold st1
      by_cases z : 840 + 40 * s + v = 840 + 40 * k + u
      · rw [if_pos z]; decide
      · rw [if_neg z]; exact x3 s v s0 s1 v0 v1
    · rw [up_ne (by omega), x4 o ho]
    · rw [up_eq, st1_ne (by omega), x5 i hi]) 8 big big 0 c m (by omega) (by omega) (by have := big_ge; omega) (by have := big_ge; omega) ⟨up_id.symm, hS, hw, fun _ _ => rfl, fun _ _ => rfl⟩
  obtain ⟨c', m', a, b, f1, f2, x1, x2, x3, x4, x5⟩ := st
  have f1' : Ed_unpatchUnit_42 (u + 1) big c 1 = Ed_unpatchUnit_42 (u + 1) (a + 1) c' (1 + 8) := f1
  have f2' : M_unpatch_39 u big m 0 = M_unpatch_39 u (b + 1) m' (0 + 8) := f2
  refine ⟨c', m' 264, ?_, ?_, x2, x3, x4, x5⟩
  · rw [f1', Ed_unpatchUnit_42, if_pos (by decide)]
  · rw [f2', M_unpatch_39, if_pos (by decide), ← x1]
