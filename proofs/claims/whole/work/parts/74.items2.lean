-- L3: loops of the text
theorem EMloop {F G : Nat → Mem → Int → Option Mem} {c0 m0 : Mem} (R k kf : Int) (k0 : 0 ≤ k) (f0 : 0 ≤ kf)
    (step : ∀ (n1 n2 : Nat) (i N : Int) (c m : Mem), 0 ≤ i → i < R → WV N c0 m0 c m → N + k ≤ 1000000000 → ∃ c' m', F (n1 + 1) c i = F n1 c' (i + 1) ∧ G (n2 + 1) m i = G n2 m' (i + 1) ∧ WV (N + k) c0 m0 c' m')
    (fin : ∀ (n1 n2 : Nat) (N : Int) (c m : Mem), WV N c0 m0 c m → N + kf ≤ 1000000000 → EM (N + kf) c0 m0 (F (n1 + 1) c R) (G (n2 + 1) m R)) :
    ∀ (d : Nat) (n1 n2 : Nat) (i N : Int) (c m : Mem), 0 ≤ i → i + d = R → d < n1 → d < n2 → WV N c0 m0 c m → N + k * d + kf ≤ 1000000000 → EM (N + k * d + kf) c0 m0 (F n1 c i) (G n2 m i) := by
  intro d
  induction d with
  | zero =>
    intro n1 n2 i N c m i0 e h1 h2 h hN
    obtain ⟨n1, rfl⟩ : ∃ j, n1 = j + 1 := ⟨n1 - 1, by omega⟩
    obtain ⟨n2, rfl⟩ : ∃ j, n2 = j + 1 := ⟨n2 - 1, by omega⟩
    have e2 : i = R := by omega
    subst e2
    have z : k * ((0 : Nat) : Int) = 0 := by simp
    rw [z, Int.add_zero] at hN ⊢
    exact fin n1 n2 N c m h hN
  | succ d ih =>
    intro n1 n2 i N c m i0 e h1 h2 h hN
    obtain ⟨n1, rfl⟩ : ∃ j, n1 = j + 1 := ⟨n1 - 1, by omega⟩
    obtain ⟨n2, rfl⟩ : ∃ j, n2 = j + 1 := ⟨n2 - 1, by omega⟩
    have z : k * ((d + 1 : Nat) : Int) = k * (d : Int) + k := by
      rw [show ((d + 1 : Nat) : Int) = (d : Int) + 1 by omega, Int.mul_add, Int.mul_one]
    have kd0 : 0 ≤ k * (d : Int) := Int.mul_nonneg k0 (by omega)
    rw [z] at hN ⊢
    obtain ⟨c', m', a, b, w⟩ := step n1 n2 i N c m i0 (by omega) h (by omega)
    rw [a, b]
    have r := ih n1 n2 (i + 1) (N + k) c' m' (by omega) (by omega) (by omega) (by omega) w (by omega)
    rw [show N + k + k * (d : Int) + kf = N + (k * (d : Int) + k) + kf by omega] at r
    exact r
/-- a step whose work is a bind -/
theorem EMst {N : Int} {c0 m0 : Mem} {D M : Option Mem} {F G : Mem → Option Mem} (h : EM N c0 m0 D M) : ∃ c' m', D.bind F = F c' ∧ M.bind G = G m' ∧ WV N c0 m0 c' m' := by
  obtain ⟨c, m, e1, e2, e3⟩ := h
  exact ⟨c, m, by rw [e1]; rfl, by rw [e2]; rfl, e3⟩
theorem units_op {N : Int} {c0 m0 c m : Mem} {r a n : Int} {f : Int → Int} (h : WV N c0 m0 c m) (hN : N + 300 ≤ 1000000000) (hO : 280 ≤ c0 0 0) (h0 : 94 ≤ r) (h1 : r < 130) (h2 : (r - 94) % 2 = 0) (a0 : 0 ≤ a) (a1 : a + 41 ≤ 12943) (hn : c0 r 1 = n) (hm : m0 264 a = n) (hr : RowOK f n) (hc : ∀ i, 0 ≤ i → i < n → c0 (r + 1) i = f i + 1) (hg : ∀ i, 0 ≤ i → i < n → m0 264 (a + 1 + i) = f i) : EM (N + 300) c0 m0 (Sv_putUnits c r) (M_units m a) := by
  obtain ⟨n0, n1, nr, _⟩ := hr
  have key := EMloop (F := fun k c i => Sv_putUnits_2 r k c i) (G := fun k m i => M_units_2 a k m (i + 1)) (c0 := c0) (m0 := m0) n 7 0 (by omega) (by omega) (by
    intro k1 k2 i N c m i0 i1 h hN
    obtain ⟨v0, v1⟩ := nr i i0 i1
    have er : c r = c0 r := h.c r (by omega) (by omega)
    have er1 : c (r + 1) = c0 (r + 1) := h.c (r + 1) (by omega) (by omega)
    have e00 : c 0 0 = c0 0 0 := by rw [h.c 0 (by omega) (by omega)]
    have em : m 264 = m0 264 := h.m 264 (by omega) (by omega)
    have u20 : ∀ (N : Int) (c m : Mem), WV N c0 m0 c m → N + 5 ≤ 1000000000 → ∃ c' m', Sv_putUnits_20 (Sv_putUnits_2 r k1) c r i = Sv_putUnits_2 r k1 c' (i + 1) ∧ M_units_23 (M_units_2 a k2) m a (i + 1) = M_units_2 a k2 m' (i + 1 + 1) ∧ WV (N + 5) c0 m0 c' m' := by
      intro N c m h hN
      have er1 : c (r + 1) = c0 (r + 1) := h.c (r + 1) (by omega) (by omega)
      have e00 : c 0 0 = c0 0 0 := by rw [h.c 0 (by omega) (by omega)]
      have em : m 264 = m0 264 := h.m 264 (by omega) (by omega)
      unfold Sv_putUnits_20 M_units_23
      rw [show gO c 5 1 r = some (r + 1) from if_pos ⟨kd_row h0 h1 h2, by omega, by omega⟩, Option.bind_some, rd_row (by omega) (by omega) (by omega) i0 (by omega), Option.bind_some, er1, hc i i0 i1, jadd_e (x := a) (by omega) (by omega), aI_ok (by omega) (by omega), Option.bind_some, em, show a + (i + 1) = a + 1 + i by omega, hg i i0 i1, jadd_e (x := f i) (by omega) (by omega), jadd_e (x := i) (by omega) (by omega), jadd_e (x := i + 1) (by omega) (by omega)]
      exact EMst (number_op h hN (by omega) (by omega))
    show ∃ c' m', Sv_putUnits_2 r (k1 + 1) c i = Sv_putUnits_2 r k1 c' (i + 1) ∧ M_units_2 a (k2 + 1) m (i + 1) = M_units_2 a k2 m' (i + 1 + 1) ∧ _
    rw [Sv_putUnits_2, M_units_2, gf_c (kd_row h0 h1 h2), Option.bind_some, er, hn, if_neg (show ¬ n ≤ i by omega), aI_ok a0 (by omega), Option.bind_some, em, hm, if_neg (show ¬ n < i + 1 by omega)]
    by_cases z : i ≤ 0
    · rw [if_pos z, if_pos (show i + 1 ≤ 1 by omega)]
      obtain ⟨c', m', x, y, w⟩ := u20 N c m h (by omega)
      exact ⟨c', m', x, y, WVw w (by omega) hN⟩
    · rw [if_neg z, if_neg (show ¬ i + 1 ≤ 1 by omega)]
      obtain ⟨c1, m1, e1, e2, e3⟩ := sign_op h (by omega) (b := 43) (by omega) (by omega)
      rw [e1, e2, Option.bind_some, Option.bind_some]
      obtain ⟨c', m', x, y, w⟩ := u20 (N + 1) c1 m1 e3 (by omega)
      exact ⟨c', m', x, y, WVw w (by omega) hN⟩) (by
    intro k1 k2 N c m h hN
    have er : c r = c0 r := h.c r (by omega) (by omega)
    have em : m 264 = m0 264 := h.m 264 (by omega) (by omega)
    show EM (N + 0) c0 m0 (Sv_putUnits_2 r (k1 + 1) c n) (M_units_2 a (k2 + 1) m (n + 1))
    rw [Sv_putUnits_2, M_units_2, gf_c (kd_row h0 h1 h2), Option.bind_some, er, hn, if_pos (Int.le_refl n), aI_ok a0 (by omega), Option.bind_some, em, hm, if_pos (show n < n + 1 by omega), Int.add_zero]
    exact EMs h) n.toNat big big 0 N c m (by omega) (by omega) (by have := big_ge; omega) (by have := big_ge; omega) h (by omega)
  exact EMw key (by omega) hN
theorem sub_op {B N : Int} {c0 m0 c m : Mem} (hI : INV B c0 m0) (h : WV N c0 m0 c m) (hN : N + 2500 ≤ 1000000000) {s : Int} (s0 : 0 ≤ s) (s1 : s < 8) : EM (N + 2500) c0 m0 (Sv_writeSub c (s + 1)) (M_saveSubs m s) := by
  have loop : ∀ (N : Int) (c m : Mem), WV N c0 m0 c m → N + 2400 ≤ 1000000000 → EM (N + 2400) c0 m0 (Sv_writeSub_32 (s + 1) big c 1) (M_saveSubs_35 s big m 0) := by
    intro N c m h hN
    have key := EMloop (F := fun k c i => Sv_writeSub_32 (s + 1) k c (i + 1)) (G := fun k m i => M_saveSubs_35 s k m i) (c0 := c0) (m0 := m0) 40 60 0 (by omega) (by omega) (by
      intro k1 k2 u N c m u0 u1 h hN
      have sv := S3.s hI.s s u s0 s1 u0 u1
      obtain ⟨w1, w2⟩ := hI.w.s s u s0 s1 u0 u1
      have rc : ∀ (N : Int) (c m : Mem), WV N c0 m0 c m → rdI c (62 + 1 * (s + 1)) (u + 1) = some (m0 264 (840 + 40 * s + u)) ∧ aI m 264 12943 (jadd (jadd 840 (jmul 40 s)) u) = some (m0 264 (840 + 40 * s + u)) := by
        intro N c m h
        refine ⟨?_, ?_⟩
        · rw [rd_sub (by omega) (by omega) (by omega) (by omega), show (62 + 1 * (s + 1) : Int) = 63 + s by omega, h.c (63 + s) (by omega) (by omega), sv]
        · rw [jmul_e (by omega) (by omega), jadd_e (x := 840) (by omega) (by omega), jadd_e (by omega) (by omega), aI_ok (by omega) (by omega), h.m 264 (by omega) (by omega)]
      obtain ⟨a1, a2⟩ := rc N c m h
      show ∃ c' m', Sv_writeSub_32 (s + 1) (k1 + 1) c (u + 1) = Sv_writeSub_32 (s + 1) k1 c' (u + 1 + 1) ∧ M_saveSubs_35 s (k2 + 1) m u = M_saveSubs_35 s k2 m' (u + 1) ∧ _
      rw [Sv_writeSub_32, M_saveSubs_35, if_neg (show ¬ 40 < u + 1 by omega), if_neg (show ¬ 40 ≤ u by omega), ar_ok (by omega) (by omega), Option.bind_some, a1, Option.bind_some, a2, Option.bind_some, jadd_e (x := u + 1) (by omega) (by omega), jadd_e (x := u) (by omega) (by omega), jadd_e (x := s) (by omega) (by omega)]
      by_cases z : 0 ≤ m0 264 (840 + 40 * s + u)
      · rw [if_neg (show ¬ m0 264 (840 + 40 * s + u) = -1 by omega), if_pos z]
        obtain ⟨c1, m1, e1, e2, e3⟩ := headE h hI.kc hI.km (by omega) (w := 12) (wc := 37) (v := s + 1) (by omega) (by omega) (by decide) (by omega) (by omega)
        obtain ⟨c2, m2, f1, f2, f3⟩ := pairE e3 hI.kc hI.km (by omega) (w := 13) (wc := 55) (v := u + 1) (by omega) (by omega) (by decide) (by omega) (by omega)
        obtain ⟨c3, m3, g1, g2, g3⟩ := sign_op f3 (by omega) (b := 64) (by omega) (by omega)
        obtain ⟨b1, _⟩ := rc _ c3 m3 g3
        obtain ⟨c4, m4, p1, p2, p3⟩ := number_op (v := m0 264 (840 + 40 * s + u)) g3 (by omega) z (by omega)
        obtain ⟨c5, m5, q1, q2, q3⟩ := close_op p3 (by omega)
        rw [e1, e2, Option.bind_some, Option.bind_some, f1, f2, Option.bind_some, Option.bind_some, g1, g2, Option.bind_some, Option.bind_some, Option.bind_some, b1, Option.bind_some, p1, p2, Option.bind_some, Option.bind_some, q1, q2, Option.bind_some, Option.bind_some]
        exact ⟨c5, m5, rfl, rfl, WVw q3 (by omega) hN⟩
      · rw [if_pos (show m0 264 (840 + 40 * s + u) = -1 by omega), if_neg z]
        exact ⟨c, m, rfl, rfl, WVw h (by omega) hN⟩) (by
      intro k1 k2 N c m h hN
      show EM (N + 0) c0 m0 (Sv_writeSub_32 (s + 1) (k1 + 1) c (40 + 1)) (M_saveSubs_35 s (k2 + 1) m 40)
      rw [Sv_writeSub_32, M_saveSubs_35, if_pos (by decide), if_pos (by decide), Int.add_zero]
      exact EMs h) 40 big big 0 N c m (by omega) (by omega) (by have := big_ge; omega) (by have := big_ge; omega) h (by omega)
    exact EMw key (by omega) hN
  have ms := S3.m hI.s s s0 s1
  unfold Sv_writeSub M_saveSubs
  rw [aI_ok (by omega) (by omega), Option.bind_some, h.c 71 (by omega) (by omega), ms, jadd_e (by omega) (by omega), aI_ok (by omega) (by omega), Option.bind_some, h.m 264 (by omega) (by omega)]
  by_cases z : m0 264 (1160 + s) = 1
  · rw [if_neg (fun x => x z), if_neg (fun x => x z), jadd_e (x := s) (by omega) (by omega)]
    refine EMb (headE h hI.kc hI.km (by omega) (w := 12) (by omega) (by omega) (by decide) (by omega) (by omega)) (fun c m h => ?_)
    refine EMb (wordE h hI.kc hI.km (by omega) (w := 15) (by omega) (by omega) (by decide)) (fun c m h => ?_)
    refine EMb (close_op h (by omega)) (fun c m h => ?_)
    exact EMw (loop _ c m h (by omega)) (by omega) hN
  · rw [if_pos z, if_pos z]
    exact EMw (loop N c m h (by omega)) (by omega) hN
