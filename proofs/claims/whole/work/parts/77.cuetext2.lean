-- L3: a cue written, 2
theorem cue_tail {B N : Int} {c0 m0 c m : Mem} (hI : INV B c0 m0) {ix : Int} (i0 : 0 ≤ ix) (i1 : ix < c0 3 8) (h : WV N c0 m0 c m) (hN : N + 13000 ≤ 1000000000) {k : Nat} : EM (N + 13000) c0 m0 (Sv_writeCue_12 (c0 79 ix) (k + 1) c 6) (M_saveCue_140 m (c0 (c0 79 ix) 0) (rowOf (m0 264) (c0 (c0 79 ix) 0))) := by
  have hn30 := S3.n hI.s
  obtain ⟨q0, q1, q2⟩ := cq_k hI.s i0 (by omega)
  obtain ⟨r0, r1, r2, r3, r4, r5⟩ := S3.row hI.s hI.w.n i0 i1
  have wc := hI.w.c _ r0 r1
  have wv := (wc.2.2 (by omega)).2.2.2.2
  have nr : c0 (c0 79 ix) 0 ≤ 999 := by have := wc.2.1; omega
  generalize rowOf (m0 264) (c0 (c0 79 ix) 0) = r at *
  have kc := kd_cue q0 q1 q2
  have g2 : ∀ (N : Int) (c m : Mem), WV N c0 m0 c m → gO c 1 2 (c0 79 ix) = some (c0 79 ix + 2) := fun N c m h => if_pos ⟨kc, by omega, by rw [h.c 0 (by omega) (by omega)]; have := hI.o; omega⟩
  unfold M_saveCue_140
  rw [Sv_writeCue_12, if_pos (by decide)]
  refine EMb (close_op h (by omega)) (fun c m h => ?_)
  have ek : kd (c0 79 ix + 2) = 100 ∧ ln (c0 79 ix + 2) = 360 := by
    unfold kd ln
    rw [ob_3 (by omega) (by omega), shK_129 (by omega) (by omega)]
    exact ⟨rfl, rfl⟩
  have e1 : D_countValues c (c0 79 ix + 2) = some (vcn (fun f => m0 264 (1562 + 360 * r + f))) := D_countValues_e ek.1 ek.2 (fun f f0 f1 => ⟨by rw [h.c _ (by omega) (by omega)]; exact r5 f f0 f1, (wv f f0 f1).1⟩)
  have e2 : M_valuesFrom m (1562 + 360 * r) = some (vcn (fun f => m0 264 (1562 + 360 * r + f))) := by rw [M_valuesFrom_e (by omega) (by omega), h.m 264 (by omega) (by omega)]
  rw [g2 _ c m h, Option.bind_some, e1, Option.bind_some, jmul_e (by omega) (by omega), jadd_e (x := 1562) (by omega) (by omega), Option.bind_some, e2, Option.bind_some]
  by_cases z : vcn (fun f => m0 264 (1562 + 360 * r + f)) = 0
  · rw [if_neg (fun x => x z), if_neg (fun x => x z)]
    exact EMw (EMs h) (by omega) hN
  · rw [if_pos z, if_pos z, gf_c kc, Option.bind_some, h.c _ (by omega) (by omega)]
    refine EMb (headE h hI.kc hI.km (by omega) (w := 30) (by omega) (by omega) (by decide) (by omega) (by omega)) (fun c m h => ?_)
    refine EMb (close_op h (by omega)) (fun c m h => ?_)
    have key := EMloop (F := fun k c i => Sv_writeCue_88 (c0 79 ix) k c (i + 1)) (G := fun k m i => M_saveCue_177 (1562 + 360 * r) k m i) (c0 := c0) (m0 := m0) 40 300 12 (by omega) (by omega) (by
      intro k1 k2 u N c m u0 u1 h hN
      obtain ⟨c', m', y1, y2, y3⟩ := chg_op hI (x := c0 79 ix + 2) (a := 1562 + 360 * r + 9 * u) (u := u) (by omega) (by omega) (by omega) (by omega) (by omega) u0 u1 (fun p p0 p1 => ⟨by rw [r5 (9 * u + p) (by omega) (by omega)]; congr 1; omega, by have := (wv (9 * u + p) (by omega) (by omega)).1; rw [show 1562 + 360 * r + 9 * u + p = 1562 + 360 * r + (9 * u + p) by omega]; exact this⟩) h hN
      refine ⟨c', m', ?_, ?_, y3⟩
      · show Sv_writeCue_88 (c0 79 ix) (k1 + 1) c (u + 1) = Sv_writeCue_88 (c0 79 ix) k1 c' (u + 1 + 1)
        rw [Sv_writeCue_88, if_neg (show ¬ 40 < u + 1 by omega), g2 N c m h, Option.bind_some, y1, Option.bind_some, jadd_e (by omega) (by omega)]
      · show M_saveCue_177 (1562 + 360 * r) (k2 + 1) m u = M_saveCue_177 (1562 + 360 * r) k2 m' (u + 1)
        obtain ⟨n7, p1, p2⟩ := bindS y2
        rw [M_saveCue_177, if_neg (show ¬ 40 ≤ u by omega), jmul_e (by omega) (by omega), jadd_e (x := 1562 + 360 * r) (by omega) (by omega), p1, Option.bind_some, jadd_e (x := u) (by omega) (by omega)]
        by_cases z7 : n7 ≤ 0
        · rw [if_pos z7] at p2 ⊢
          rw [Option.some.inj p2]
        · rw [if_neg z7] at p2 ⊢
          rw [p2, Option.bind_some]) (by
      intro k1 k2 N c m h hN
      show EM (N + 12) c0 m0 (Sv_writeCue_88 (c0 79 ix) (k1 + 1) c (40 + 1)) (M_saveCue_177 (1562 + 360 * r) (k2 + 1) m 40)
      rw [Sv_writeCue_88, M_saveCue_177, if_pos (show (40 : Int) < 40 + 1 by decide), if_pos (show (40 : Int) ≤ 40 by decide)]
      refine EMb (wordE h hI.kc hI.km (by omega) (w := 31) (by omega) (by omega) (by decide)) (fun c m h => ?_)
      exact EMw (EMb (close_op h (by omega)) (fun c m h => EMs h)) (by omega) hN) 40 big big 0 _ c m (by omega) (by omega) (by have := big_ge; omega) (by have := big_ge; omega) h (by omega)
    exact EMw key (by omega) hN
theorem cue_op {B N : Int} {c0 m0 c m : Mem} (hI : INV B c0 m0) {ix : Int} (i0 : 0 ≤ ix) (i1 : ix < c0 3 8) (h : WV N c0 m0 c m) (hN : N + 13200 ≤ 1000000000) : EM (N + 13200) c0 m0 (Sv_writeCue c (c0 79 ix)) (M_saveCue m (c0 (c0 79 ix) 0)) := by
  have hn30 := S3.n hI.s
  obtain ⟨q0, q1, q2⟩ := cq_k hI.s i0 (by omega)
  obtain ⟨r0, r1, r2, r3, r4, r5⟩ := S3.row hI.s hI.w.n i0 i1
  have wc := hI.w.c _ r0 r1
  obtain ⟨t1, t2, t3, t4, _⟩ := wc.2.2 (by omega)
  have nr : c0 (c0 79 ix) 0 ≤ 999 := by have := wc.2.1; omega
  have kc := kd_cue q0 q1 q2
  have tail := fun (k : Nat) (N : Int) (c m : Mem) (h : WV N c0 m0 c m) (hN : N + 13000 ≤ 1000000000) => cue_tail (k := k) hI i0 i1 h hN
  generalize hr : rowOf (m0 264) (c0 (c0 79 ix) 0) = r at *
  have g1 : ∀ (N : Int) (c m : Mem), WV N c0 m0 c m → gO c 1 1 (c0 79 ix) = some (c0 79 ix + 1) := fun N c m h => if_pos ⟨kc, by omega, by rw [h.c 0 (by omega) (by omega)]; have := hI.o; omega⟩
  have rt : ∀ (N j : Int) (c m : Mem), WV N c0 m0 c m → 0 ≤ j → j < 6 → rdI c (c0 79 ix + 1) j = some (m0 264 (1353 + 7 * r + j)) := fun N j c m h j0 j1 => by
    rw [rd_tim (by omega) (by omega) (by omega) j0 j1, h.c _ (by omega) (by omega), r4 j j0 j1]
  -- a step of the class
  have st : ∀ (n : Nat) (N j : Int) (c m : Mem), WV N c0 m0 c m → 0 ≤ j → j < 6 → Sv_writeCue_12 (c0 79 ix) (n + 1) c j = if m0 264 (1353 + 7 * r + j) = (if 4 ≤ j then -1 else 0) then Sv_writeCue_12 (c0 79 ix) n c (j + 1) else (Sv_putPair c (21 + j) (m0 264 (1353 + 7 * r + j))).bind fun m5 => Sv_writeCue_12 (c0 79 ix) n m5 (j + 1) := by
    intro n N j c m h j0 j1
    rw [Sv_writeCue_12, if_neg (show ¬ 6 ≤ j by omega), g1 N c m h, Option.bind_some, rt N j c m h j0 j1, Option.bind_some]
    unfold Sv_writeCue_34
    rw [g1 N c m h, Option.bind_some, rt N j c m h j0 j1, Option.bind_some, jadd_e (x := j) (by omega) (by omega), jadd_e (x := 21) (by omega) (by omega)]
    by_cases z : 4 ≤ j
    · simp only [if_pos z]
    · simp only [if_neg z]
  have am : ∀ (N j : Int) (m c : Mem), WV N c0 m0 c m → 0 ≤ j → j < 7 → aI m 264 12943 (jadd (jadd 1352 (jmul 7 r)) j) = some (m0 264 (1352 + 7 * r + j)) := fun N j m c h j0 j1 => by
    rw [jmul_e (by omega) (by omega), jadd_e (x := 1352) (by omega) (by omega), jadd_e (by omega) (by omega), aI_ok (by omega) (by omega), h.m 264 (by omega) (by omega)]
  have l5 : ∀ (n : Nat) (N : Int) (c m : Mem), WV N c0 m0 c m → N + 13020 ≤ 1000000000 → EM (N + 13020) c0 m0 (Sv_writeCue_12 (c0 79 ix) (n + 1 + 1) c 5) (M_saveCue_99 m (c0 (c0 79 ix) 0) r) := by
    intro n N c m h hN
    unfold M_saveCue_99
    rw [st (n + 1) N 5 c m h (by omega) (by omega), am N 6 m c h (by omega) (by omega), Option.bind_some, Option.bind_some, if_pos (show (4 : Int) ≤ 5 by decide), show 1353 + 7 * r + 5 = 1358 + 7 * r by omega, show 1352 + 7 * r + 6 = 1358 + 7 * r by omega]
    by_cases z : m0 264 (1358 + 7 * r) < 0
    · rw [if_pos (show m0 264 (1358 + 7 * r) = -1 by omega), if_pos z]
      exact EMw (tail n N c m h (by omega)) (by omega) hN
    · rw [if_neg (show ¬ m0 264 (1358 + 7 * r) = -1 by omega), if_neg z]
      refine EMb (pairE h hI.kc hI.km (by omega) (w := 45) (by omega) (by omega) (by decide) (by omega) (by omega)) (fun c m h => ?_)
      exact EMw (tail n _ c m h (by omega)) (by omega) hN
  have key := EMloop (F := fun k c i => Sv_writeCue_12 (c0 79 ix) (k + 2) c i) (G := fun k m i => M_saveCue_15 (c0 (c0 79 ix) 0) r k m i) (c0 := c0) (m0 := m0) 4 15 13040 (by omega) (by omega) (by
    intro k1 k2 j N c m j0 j1 h hN
    have e : m0 264 (1353 + 7 * r + j) = m0 264 (1352 + 7 * r + (1 + j)) := by congr 1; omega
    obtain ⟨v0, v1⟩ := t1 (1 + j) (by omega) (by omega)
    rw [← e] at v0 v1
    show ∃ c' m', Sv_writeCue_12 (c0 79 ix) (k1 + 2 + 1) c j = Sv_writeCue_12 (c0 79 ix) (k1 + 2) c' (j + 1) ∧ M_saveCue_15 (c0 (c0 79 ix) 0) r (k2 + 1) m j = M_saveCue_15 (c0 (c0 79 ix) 0) r k2 m' (j + 1) ∧ _
    rw [st (k1 + 2) N j c m h j0 (by omega), M_saveCue_15, if_neg (show ¬ 4 ≤ j by omega), if_neg (show ¬ 4 ≤ j by omega)]
    have a1 : aI m 264 12943 (jadd (jadd (jadd 1352 (jmul 7 r)) 1) j) = some (m0 264 (1353 + 7 * r + j)) := by
      rw [jmul_e (by omega) (by omega), jadd_e (x := 1352) (by omega) (by omega), jadd_e (x := 1352 + 7 * r) (by omega) (by omega), jadd_e (by omega) (by omega), aI_ok (by omega) (by omega), h.m 264 (by omega) (by omega), e]
      congr 2; omega
    rw [a1, Option.bind_some, jadd_e (x := j) (by omega) (by omega), jadd_e (x := 40) (by omega) (by omega)]
    by_cases z : m0 264 (1353 + 7 * r + j) = 0
    · rw [if_pos z, if_pos (show m0 264 (1353 + 7 * r + j) ≤ 0 by omega)]
      exact ⟨c, m, rfl, rfl, WVw h (by omega) hN⟩
    · rw [if_neg z, if_neg (show ¬ m0 264 (1353 + 7 * r + j) ≤ 0 by omega)]
      exact EMst (pairE h hI.kc hI.km hN (by omega) (by omega) (piX (n := 6) pi_up j0 (by omega)) v0 (by omega))) (by
    intro k1 k2 N c m h hN
    show EM (N + 13040) c0 m0 (Sv_writeCue_12 (c0 79 ix) (k1 + 1 + 1 + 1) c 4) (M_saveCue_15 (c0 (c0 79 ix) 0) r (k2 + 1) m 4)
    rw [st (k1 + 1 + 1) N 4 c m h (by omega) (by omega), M_saveCue_15, if_pos (show (4 : Int) ≤ 4 by decide), if_pos (show (4 : Int) ≤ 4 by decide), am N 5 m c h (by omega) (by omega), Option.bind_some, Option.bind_some, show 1353 + 7 * r + 4 = 1357 + 7 * r by omega, show 1352 + 7 * r + 5 = 1357 + 7 * r by omega]
    by_cases z : m0 264 (1357 + 7 * r) < 0
    · rw [if_pos (show m0 264 (1357 + 7 * r) = -1 by omega), if_pos z]
      exact EMw (l5 k1 N c m h (by omega)) (by omega) hN
    · rw [if_neg (show ¬ m0 264 (1357 + 7 * r) = -1 by omega), if_neg z]
      refine EMb (pairE h hI.kc hI.km (by omega) (w := 44) (by omega) (by omega) (by decide) (by omega) (by omega)) (fun c m h => ?_)
      exact EMw (l5 k1 _ c m h (by omega)) (by omega) hN)
  unfold Sv_writeCue M_saveCue
  rw [gf_c kc, Option.bind_some, h.c _ (by omega) (by omega), M_cueRow_e, Option.bind_some, h.m 264 (by omega) (by omega), hr]
  refine EMb (headE h hI.kc hI.km (by omega) (w := 21) (by omega) (by omega) (by decide) (by omega) (by omega)) (fun c m h => ?_)
  have fin := key 4 (big - 2) big 0 (N + 15) c m (by omega) (by omega) (by have := big_ge; omega) (by have := big_ge; omega) h (by omega)
  rw [show big - 2 + 2 = big by have := big_ge; omega] at fin
  exact EMw fin (by omega) hN
