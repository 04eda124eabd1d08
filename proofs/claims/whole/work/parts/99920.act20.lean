-- L3: enter: unpatch: waves
def WVR (c : Mem) (g : Int → Int) : Prop := (∀ w, 0 ≤ w → w < 4 → c (74 + w) 0 = g (1168 + 46 * w) ∧ (0 ≤ g (1168 + 46 * w) → (∀ j, 1 ≤ j → j ≤ 4 → c (74 + w) j = g (1168 + 46 * w + j)) ∧ c (122 + 2 * w) 1 = g (1173 + 46 * w) ∧ (∀ i, 0 ≤ i → i < g (1173 + 46 * w) → c (123 + 2 * w) i = g (1174 + 46 * w + i) + 1)) ∧ (g (1168 + 46 * w) < 0 → (∀ j, 1 ≤ j → j ≤ 4 → c (74 + w) j = -1) ∧ c (122 + 2 * w) 1 = 0)) ∧ WF_w g
theorem putP_0 {f : Int → Int} {u : Int} : putP (0, f) u 0 = (0, f) := by
  have e : fndP (0, f) u = -1 := rfl
  unfold putP
  rw [if_neg (fun x => x rfl), e, if_neg (by decide)]
theorem unW {c m : Mem} {u : Int} (hO : 280 ≤ c 0 0) (u0 : 0 ≤ u) (u1 : u < 40) (hW : WVR c (m 264)) : ∃ c' h, Ed_unpatchUnit_68 (u + 1) big c 1 = Ed_unpatchUnit_122 (u + 1) big c' 0 ∧ M_unpatch_69 u big m 0 = M_unpatch_135 u big (up m 264 h) 0 ∧ WVR c' h ∧ (∀ o, ¬ (74 ≤ o ∧ o < 78) → ¬ (122 ≤ o ∧ o < 130) → c' o = c o) ∧ (∀ i, ¬ (1168 ≤ i ∧ i < 1352) → h i = m 264 i) := by
  have st := loop2 (fun N μ i => Ed_unpatchUnit_68 (u + 1) N μ i) (fun N μ i => M_unpatch_69 u N μ i) (fun _ c' m' => m' = up m 264 (m' 264) ∧ WVR c' (m' 264) ∧ (∀ o, ¬ (74 ≤ o ∧ o < 78) → ¬ (122 ≤ o ∧ o < 130) → c' o = c o) ∧ (∀ i, ¬ (1168 ≤ i ∧ i < 1352) → m' 264 i = m 264 i)) 1 0 0 4 (by
    intro a b w c1 m1 w0 w1 ⟨x1, ⟨x2, x3⟩, x4, x5⟩
    have ok := roW (o := 122 + 2 * w) (by omega) (by omega) (by omega)
    have hO1 : 280 ≤ c1 0 0 := by rw [x4 0 (by omega) (by omega)]; exact hO
    obtain ⟨y1, y2, y3⟩ := x2 w w0 w1
    obtain ⟨z1, z2, z3⟩ := x3 w w0 w1
    have kk : shK (74 + w - 3) = (100, 5) := shK_70 (by omega) (by omega)
    -- how the rest of the waves goes over
    have oth : ∀ (c' : Mem) (h : Int → Int), (∀ o, ¬ o = 74 + w → ¬ (122 + 2 * w ≤ o ∧ o < 124 + 2 * w) → c' o = c1 o) → (∀ i, ¬ (1168 + 46 * w ≤ i ∧ i < 1168 + 46 * w + 46) → h i = m1 264 i) → (c' (74 + w) 0 = h (1168 + 46 * w) ∧ (0 ≤ h (1168 + 46 * w) → (∀ j, 1 ≤ j → j ≤ 4 → c' (74 + w) j = h (1168 + 46 * w + j)) ∧ c' (122 + 2 * w) 1 = h (1173 + 46 * w) ∧ (∀ i, 0 ≤ i → i < h (1173 + 46 * w) → c' (123 + 2 * w) i = h (1174 + 46 * w + i) + 1)) ∧ (h (1168 + 46 * w) < 0 → (∀ j, 1 ≤ j → j ≤ 4 → c' (74 + w) j = -1) ∧ c' (122 + 2 * w) 1 = 0)) → (-1 ≤ h (1168 + 46 * w) ∧ h (1168 + 46 * w) ≤ 2 ∧ (0 ≤ h (1168 + 46 * w) → 0 ≤ h (1169 + 46 * w) ∧ h (1169 + 46 * w) ≤ 8 ∧ 0 ≤ h (1170 + 46 * w) ∧ h (1170 + 46 * w) ≤ 1000 ∧ 0 ≤ h (1171 + 46 * w) ∧ h (1171 + 46 * w) ≤ 1000 ∧ 0 ≤ h (1172 + 46 * w) ∧ h (1172 + 46 * w) ≤ 1000 ∧ 1 ≤ h (1173 + 46 * w) ∧ RowOK (fun i => h (1174 + 46 * w + i)) (h (1173 + 46 * w)))) → WVR c' h := by
      intro c' h o1 e1 n1 n2
      constructor
      · intro q q0 q1
        by_cases z : q = w
        · rw [z]; exact n1
        · obtain ⟨a, b, d⟩ := x2 q q0 q1
          have ww := (x3 q q0 q1).2.2
          rw [o1 _ (by omega) (by omega), o1 (122 + 2 * q) (by omega) (by omega), o1 (123 + 2 * q) (by omega) (by omega), e1 _ (by omega), e1 (1173 + 46 * q) (by omega)]
          refine ⟨a, fun hp => ?_, d⟩
          obtain ⟨b1, b2, b3⟩ := b hp
          have r2 := (ww hp).2.2.2.2.2.2.2.2.2.2.1
          exact ⟨fun j j0 j1 => by rw [e1 _ (by omega)]; exact b1 j j0 j1, b2, fun i i0 i1 => by rw [e1 _ (by omega)]; exact b3 i i0 i1⟩
      · intro q q0 q1
        by_cases z : q = w
        · rw [z]; exact n2
        · obtain ⟨a, b, d⟩ := x3 q q0 q1
          rw [e1 (1168 + 46 * q) (by omega), e1 (1169 + 46 * q) (by omega), e1 (1170 + 46 * q) (by omega), e1 (1171 + 46 * q) (by omega), e1 (1172 + 46 * q) (by omega), e1 (1173 + 46 * q) (by omega)]
          refine ⟨a, b, fun hp => ?_⟩
          obtain ⟨d1, d2, d3, d4, d5, d6, d7, d8, d9, d10⟩ := d hp
          have r2 := d10.2.1
          exact ⟨d1, d2, d3, d4, d5, d6, d7, d8, d9, RowOK_c d10 (fun i a b => e1 (1174 + 46 * q + i) (by omega))⟩
    have ec : ∀ c2, Row_remove c1 (122 + 2 * w) (u + 1) = some c2 → Ed_unpatchUnit_68 (u + 1) (a + 1) c1 (1 + w) = if c2 (122 + 2 * w) 1 ≠ 0 then Ed_unpatchUnit_68 (u + 1) a c2 (1 + w + 1) else Ed_unpatchUnit_68 (u + 1) a (up c2 (74 + w) (fil (c2 (74 + w)) 5 (-1))) (1 + w + 1) := by
      intro c2 d1
      rw [Ed_unpatchUnit_68, if_neg (by omega), ar_ok (by omega) (by omega), Option.bind_some, show 120 + 2 * (1 + w) = 122 + 2 * w by omega, if_pos ⟨by omega, ok.1⟩, d1, Option.bind_some, Option.bind_some]
      unfold gf
      rw [ok.1, if_pos rfl, Option.bind_some, ar_ok (by omega) (by omega), Option.bind_some, show 73 + 1 * (1 + w) = 74 + w by omega, fill3 (by omega) (by omega) kk (by decide) (by decide), Option.bind_some, jadd_e (by omega) (by omega)]
    have em : M_unpatch_69 u (b + 1) m1 (0 + w) = if m1 264 (1168 + 46 * w) < 0 then M_unpatch_100 (M_unpatch_69 u b) m1 u w (1168 + 46 * w) else (M_takeAway m1 (1168 + 46 * w + 5) u).bind fun m5 => M_unpatch_100 (M_unpatch_69 u b) m5 u w (1168 + 46 * w) := by
      rw [show (0 : Int) + w = w by omega, M_unpatch_69, if_neg (by omega), jmul_e (by omega) (by omega), jadd_e (x := 1168) (by omega) (by omega), Option.bind_some, aI_ok (by omega) (by omega), Option.bind_some, jadd_e (by omega) (by omega)]
    have e100 : ∀ (μ : Mem), M_unpatch_100 (M_unpatch_69 u b) μ u w (1168 + 46 * w) = if μ 264 (1168 + 46 * w) < 0 then M_unpatch_69 u b μ (w + 1) else if μ 264 (1168 + 46 * w + 5) ≠ 0 then M_unpatch_69 u b μ (w + 1) else M_unpatch_69 u b (up μ 264 (st1 (μ 264) (1168 + 46 * w) (-1))) (w + 1) := by
      intro μ
      unfold M_unpatch_100
      rw [aI_ok (by omega) (by omega), Option.bind_some, jadd_e (x := w) (by omega) (by omega), jadd_e (x := 1168 + 46 * w) (by omega) (by omega), aI_ok (by omega) (by omega), Option.bind_some, sI_up (by omega) (by omega), Option.bind_some]
    by_cases z : m1 264 (1168 + 46 * w) < 0
    · -- there is no such wave
      obtain ⟨n1, n2⟩ := y3 z
      obtain ⟨c2, d1, d2, d3, d4⟩ := remove_e (c := c1) (o := 122 + 2 * w) (r := (0, fun _ => 0)) (u := u) ok (by omega) (by unfold ROK RowOK; exact ⟨Int.le_refl _, by decide, fun i i0 i1 => by have i1' : i < 0 := i1; omega, fun i j i0 ij j1 => by have j1' : j < 0 := j1; omega⟩) ⟨n2, fun i i0 i1 => by have i1' : i < 0 := i1; omega⟩
      rw [putP_0] at d2
      have d21 : c2 (122 + 2 * w) 1 = 0 := d2.1
      refine ⟨up c2 (74 + w) (fil (c2 (74 + w)) 5 (-1)), m1, ?_, ?_, x1, ?_, fun o o1 o2 => ?_, x5⟩
      · show Ed_unpatchUnit_68 (u + 1) (a + 1) c1 (1 + w) = _
        rw [ec c2 d1, if_neg (fun x => x d21)]
      · show M_unpatch_69 u (b + 1) m1 (0 + w) = M_unpatch_69 u b m1 (0 + w + 1)
        rw [em, if_pos z, e100, if_pos z, show (0 : Int) + w + 1 = w + 1 by omega]
      · refine oth _ _ (fun o o1 o2 => by rw [up_ne o1, d3 o (by omega) (by omega)]) (fun _ _ => rfl) ⟨?_, fun x => by omega, fun _ => ⟨fun j j0 j1 => ?_, ?_⟩⟩ ⟨z1, z2, fun x => by omega⟩
        · rw [up_eq]
          show fil _ 5 (-1) 0 = _
          unfold fil
          rw [if_pos (by decide)]; omega
        · rw [up_eq]
          unfold fil
          rw [if_pos (by omega)]
        · rw [up_ne (by omega)]; exact d21
      · rw [up_ne (by omega), d3 o (by omega) (by omega), x4 o o1 o2]
    · obtain ⟨b1, b2, b3⟩ := y2 (by omega)
      obtain ⟨v1, v2, v3, v4, v5, v6, v7, v8, v9, v10⟩ := z3 (by omega)
      have r40 : m1 264 (1173 + 46 * w) ≤ 40 := v10.2.1
      obtain ⟨c2, d1, d2, d3, d4⟩ := remove_e (c := c1) (o := 122 + 2 * w) (r := (m1 264 (1173 + 46 * w), fun i => m1 264 (1174 + 46 * w + i))) (u := u) ok (by omega) v10 ⟨b2, fun i i0 i1 => by rw [show 122 + 2 * w + 1 = 123 + 2 * w by omega]; exact b3 i i0 i1⟩
      obtain ⟨g, t1, t2, t3, t4⟩ := takeA (m := m1) (f := 1168 + 46 * w + 5) (u := u) (r := (m1 264 (1173 + 46 * w), fun i => m1 264 (1174 + 46 * w + i))) (by omega) (by omega) v10 (by rw [show 1168 + 46 * w + 5 = 1173 + 46 * w by omega]) (fun i _ _ => by rw [show 1168 + 46 * w + 5 + 1 + i = 1174 + 46 * w + i by omega])
      have pk := putP_k (r := (m1 264 (1173 + 46 * w), fun i => m1 264 (1174 + 46 * w + i))) (more := 0) v10 u0 u1
      have t4' : ∀ i, ¬ (1173 + 46 * w ≤ i ∧ i < 1174 + 46 * w + m1 264 (1173 + 46 * w)) → g i = m1 264 i := fun i hi => t4 i (show ¬ (1168 + 46 * w + 5 ≤ i ∧ i < 1168 + 46 * w + 5 + 1 + m1 264 (1173 + 46 * w)) by omega)
      rw [show 1168 + 46 * w + 5 = 1173 + 46 * w by omega] at t2
      have t3' : ∀ i, 0 ≤ i → i < (putP (m1 264 (1173 + 46 * w), fun i => m1 264 (1174 + 46 * w + i)) u 0).1 → g (1174 + 46 * w + i) = (putP (m1 264 (1173 + 46 * w), fun i => m1 264 (1174 + 46 * w + i)) u 0).2 i := fun i i0 i1 => by
        rw [← t3 i i0 i1, show 1168 + 46 * w + 5 + 1 + i = 1174 + 46 * w + i by omega]
      generalize hpp : putP (m1 264 (1173 + 46 * w), fun i => m1 264 (1174 + 46 * w + i)) u 0 = pp at *
      have d21 : c2 (122 + 2 * w) 1 = pp.1 := d2.1
      have g0 : g (1168 + 46 * w) = m1 264 (1168 + 46 * w) := t4' _ (by omega)
      have p0 := pk.1
      have emm : M_unpatch_69 u (b + 1) m1 (0 + w) = if pp.1 ≠ 0 then M_unpatch_69 u b (up m1 264 g) (w + 1) else M_unpatch_69 u b (up m1 264 (st1 g (1168 + 46 * w) (-1))) (w + 1) := by
        rw [em, if_neg z, t1, Option.bind_some, e100, up_eq, g0, if_neg z, show 1168 + 46 * w + 5 = 1173 + 46 * w by omega, t2, up_up]
      by_cases y : pp.1 = 0
      · refine ⟨up c2 (74 + w) (fil (c2 (74 + w)) 5 (-1)), up m1 264 (st1 g (1168 + 46 * w) (-1)), ?_, ?_, ?_, ?_, fun o o1 o2 => ?_, fun i hi => ?_⟩
        · show Ed_unpatchUnit_68 (u + 1) (a + 1) c1 (1 + w) = _
          rw [ec c2 d1, if_neg (fun x => x (by rw [d21, y]))]
        · show M_unpatch_69 u (b + 1) m1 (0 + w) = M_unpatch_69 u b _ (0 + w + 1)
          rw [emm, if_neg (fun x => x y), show (0 : Int) + w + 1 = w + 1 by omega]
        · rw [up_eq]
          conv => lhs; rw [x1]
          rw [up_up]
        · rw [up_eq]
          refine oth _ _ (fun o o1 o2 => by rw [up_ne o1, d3 o (by omega) (by omega)]) (fun i hi => by rw [st1_ne (by omega), t4' i (by omega)]) ?_ ?_
          · rw [st1_eq]
            refine ⟨?_, fun x => absurd x (by decide), fun _ => ⟨fun j j0 j1 => ?_, ?_⟩⟩
            · rw [up_eq]
              unfold fil
              rw [if_pos (by decide)]
            · rw [up_eq]
              unfold fil
              rw [if_pos (by omega)]
            · rw [up_ne (by omega), d21, y]
          · rw [st1_eq]
            exact ⟨by decide, by decide, fun x => absurd x (by decide)⟩
        · rw [up_ne (by omega), d3 o (by omega) (by omega), x4 o o1 o2]
        · rw [up_eq, st1_ne (by omega), t4' i (by omega), x5 i hi]
      · refine ⟨c2, up m1 264 g, ?_, ?_, ?_, ?_, fun o o1 o2 => ?_, fun i hi => ?_⟩
        · show Ed_unpatchUnit_68 (u + 1) (a + 1) c1 (1 + w) = _
          rw [ec c2 d1, if_pos (by rw [d21]; exact y)]
        · show M_unpatch_69 u (b + 1) m1 (0 + w) = M_unpatch_69 u b _ (0 + w + 1)
          rw [emm, if_pos y, show (0 : Int) + w + 1 = w + 1 by omega]
        · rw [up_eq]
          conv => lhs; rw [x1]
          rw [up_up]
        · rw [up_eq]
          refine oth _ _ (fun o o1 o2 => d3 o (by omega) (by omega)) (fun i hi => t4' i (by omega)) ?_ ?_
          · rw [g0, t2]
            refine ⟨by rw [d3 _ (by omega) (by omega)]; exact y1, fun _ => ⟨fun j j0 j1 => ?_, d21, fun i i0 i1 => ?_⟩, fun x => absurd x z⟩
            · rw [d3 _ (by omega) (by omega), t4' _ (by omega)]; exact b1 j j0 j1
            · have := d2.2 i i0 i1
              rw [show 122 + 2 * w + 1 = 123 + 2 * w by omega] at this
              rw [this, t3' i i0 i1]
          · rw [g0, t2, t4' (1169 + 46 * w) (by omega), t4' (1170 + 46 * w) (by omega), t4' (1171 + 46 * w) (by omega), t4' (1172 + 46 * w) (by omega)]
            refine ⟨z1, z2, fun _ => ⟨v1, v2, v3, v4, v5, v6, v7, v8, by omega, RowOK_c pk (fun i i0 i1 => t3' i i0 i1)⟩⟩
        · rw [d3 o (by omega) (by omega), x4 o o1 o2]
        · rw [up_eq, t4' i (by omega), x5 i hi]) 4 big big 0 c m (by omega) (by omega) (by have := big_ge; omega) (by have := big_ge; omega) ⟨up_id.symm, hW, fun _ _ _ => rfl, fun _ _ => rfl⟩
  obtain ⟨c', m', a, b, f1, f2, x1, x2, x3, x4⟩ := st
  have f1' : Ed_unpatchUnit_68 (u + 1) big c 1 = Ed_unpatchUnit_68 (u + 1) (a + 1) c' (1 + 4) := f1
  have f2' : M_unpatch_69 u big m 0 = M_unpatch_69 u (b + 1) m' (0 + 4) := f2
  refine ⟨c', m' 264, ?_, ?_, x2, x3, x4⟩
  · rw [f1', Ed_unpatchUnit_68, if_pos (by decide)]
  · rw [f2', M_unpatch_69, if_pos (by decide), ← x1]
