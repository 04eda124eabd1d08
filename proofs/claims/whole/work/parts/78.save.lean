-- L3: the whole text
theorem ELoop {α β : Type} {F : Nat → Mem → Int → α} {G : Nat → Mem → Int → β} {c0 m0 : Mem} (R k : Int) (k0 : 0 ≤ k)
    (step : ∀ (n1 n2 : Nat) (i N : Int) (c m : Mem), 0 ≤ i → i < R → WV N c0 m0 c m → N + k ≤ 1000000000 → ∃ c' m', F (n1 + 1) c i = F n1 c' (i + 1) ∧ G (n2 + 1) m i = G n2 m' (i + 1) ∧ WV (N + k) c0 m0 c' m') :
    ∀ (d : Nat) (n1 n2 : Nat) (i N : Int) (c m : Mem), 0 ≤ i → i + d = R → d < n1 → d < n2 → WV N c0 m0 c m → N + k * d ≤ 1000000000 → ∃ c' m' j1 j2, F n1 c i = F (j1 + 1) c' R ∧ G n2 m i = G (j2 + 1) m' R ∧ WV (N + k * d) c0 m0 c' m' := by
  intro d
  induction d with
  | zero =>
    intro n1 n2 i N c m i0 e h1 h2 h hN
    have e2 : i = R := by omega
    subst e2
    have z : k * ((0 : Nat) : Int) = 0 := by simp
    rw [z, Int.add_zero]
    exact ⟨c, m, n1 - 1, n2 - 1, by rw [show n1 - 1 + 1 = n1 by omega], by rw [show n2 - 1 + 1 = n2 by omega], h⟩
  | succ d ih =>
    intro n1 n2 i N c m i0 e h1 h2 h hN
    obtain ⟨n1, rfl⟩ : ∃ j, n1 = j + 1 := ⟨n1 - 1, by omega⟩
    obtain ⟨n2, rfl⟩ : ∃ j, n2 = j + 1 := ⟨n2 - 1, by omega⟩
    have z : k * ((d + 1 : Nat) : Int) = k * (d : Int) + k := by
      rw [show ((d + 1 : Nat) : Int) = (d : Int) + 1 by omega, Int.mul_add, Int.mul_one]
    have kd0 : 0 ≤ k * (d : Int) := Int.mul_nonneg k0 (by omega)
    rw [z] at hN ⊢
    obtain ⟨c', m', a, b, w⟩ := step n1 n2 i N c m i0 (by omega) h (by omega)
    obtain ⟨c2, m2, j1, j2, x, y, w2⟩ := ih n1 n2 (i + 1) (N + k) c' m' (by omega) (by omega) (by omega) (by omega) w (by omega)
    rw [show N + k + k * (d : Int) = N + (k * (d : Int) + k) by omega] at w2
    exact ⟨c2, m2, j1, j2, a.trans x, b.trans y, w2⟩
theorem sv_units {B N : Int} {c0 m0 c m : Mem} (hI : INV B c0 m0) (h : WV N c0 m0 c m) (hN : N + 4000 ≤ 1000000000) : ∃ c' m', Sv_write_17 big c 1 = Sv_write_56 big c' 1 ∧ M_save_12 big m 0 = M_save_39 big m' 0 ∧ WV (N + 4000) c0 m0 c' m' := by
  obtain ⟨c', m', j1, j2, x, y, w⟩ := ELoop (F := fun k c i => Sv_write_17 k c (i + 1)) (G := fun k m i => M_save_12 k m i) (c0 := c0) (m0 := m0) 40 100 (by omega) (by
    intro k1 k2 u N c m u0 u1 h hN
    have hS : SR c 3 (m0 264) := SR_congr hI.s (fun o a b => h.c o (by omega) (by omega))
    show ∃ c' m', Sv_write_17 (k1 + 1) c (u + 1) = Sv_write_17 k1 c' (u + 1 + 1) ∧ M_save_12 (k2 + 1) m u = M_save_12 k2 m' (u + 1) ∧ _
    rw [Sv_write_17, M_save_12, if_neg (show ¬ 40 < u + 1 by omega), if_neg (show ¬ 40 ≤ u by omega), Sh_isPatched_e hS hI.w (by omega) (by omega), Option.bind_some, show 6 * (u + 1 - 1) = 6 * u by omega, M_isPatched_e u0 u1, Option.bind_some, h.m 264 (by omega) (by omega), nz, nz, ar_ok (by omega) (by omega), Option.bind_some, show (5 + 1 * (u + 1) : Int) = 6 + u by omega, jadd_e (x := u + 1) (by omega) (by omega), jadd_e (x := u) (by omega) (by omega)]
    by_cases z : m0 264 (6 * u) < 0
    · rw [if_pos z, if_pos z]
      exact ⟨c, m, rfl, rfl, WVw h (by omega) hN⟩
    · rw [if_neg z, if_neg z]
      obtain ⟨c1, m1, e1, e2, e3⟩ := patch_op hI h hN u0 u1 (by omega)
      exact ⟨c1, m1, by rw [e1]; rfl, by rw [e2]; rfl, e3⟩) 40 big big 0 N c m (by omega) (by omega) (by have := big_ge; omega) (by have := big_ge; omega) h (by omega)
  refine ⟨c', m', ?_, ?_, WVw w (by omega) hN⟩
  · have x' : Sv_write_17 big c 1 = Sv_write_17 (j1 + 1) c' (40 + 1) := x
    rw [x', Sv_write_17, if_pos (by decide)]
  · rw [show M_save_12 big m 0 = M_save_12 (j2 + 1) m' 40 from y, M_save_12, if_pos (by decide)]
theorem sv_groups {B N : Int} {c0 m0 c m : Mem} (hI : INV B c0 m0) (h : WV N c0 m0 c m) (hN : N + 4200 ≤ 1000000000) : ∃ c' m', Sv_write_56 big c 1 = Sv_write_115 big c' 1 ∧ M_save_39 big m 0 = M_save_99 big m' 0 ∧ WV (N + 4200) c0 m0 c' m' := by
  obtain ⟨c', m', j1, j2, x, y, w⟩ := ELoop (F := fun k c i => Sv_write_56 k c (i + 1)) (G := fun k m i => M_save_39 k m i) (c0 := c0) (m0 := m0) 12 350 (by omega) (by
    intro k1 k2 u N c m u0 u1 h hN
    obtain ⟨s1, s2⟩ := S3.g hI.s u u0 u1
    have hr := hI.w.g u u0 u1
    have kr := kd_row (x := 96 + 2 * u) (by omega) (by omega) (by omega)
    show ∃ c' m', Sv_write_56 (k1 + 1) c (u + 1) = Sv_write_56 k1 c' (u + 1 + 1) ∧ M_save_39 (k2 + 1) m u = M_save_39 k2 m' (u + 1) ∧ _
    rw [Sv_write_56, M_save_39, if_neg (show ¬ 12 < u + 1 by omega), if_neg (show ¬ 12 ≤ u by omega), ar_ok (by omega) (by omega), Option.bind_some, show (94 + 2 * (u + 1) : Int) = 96 + 2 * u by omega, gf_c kr, Option.bind_some, h.c (96 + 2 * u) (by omega) (by omega), s1, jmul_e (by omega) (by omega), jadd_e (x := 240) (by omega) (by omega), aI_ok (by omega) (by omega), Option.bind_some, h.m 264 (by omega) (by omega), jadd_e (x := u + 1) (by omega) (by omega), jadd_e (x := u) (by omega) (by omega)]
    by_cases z : m0 264 (240 + 41 * u) ≤ 0
    · rw [if_pos z, if_pos z]
      exact ⟨c, m, rfl, rfl, WVw h (by omega) hN⟩
    · rw [if_neg z, if_neg z]
      obtain ⟨c1, m1, e1, e2, e3⟩ := headE h hI.kc hI.km (by omega) (w := 1) (wc := 35) (v := u + 1) (by omega) (by omega) (by decide) (by omega) (by omega)
      obtain ⟨c2, m2, f1, f2, f3⟩ := sign_op e3 (by omega) (b := 61) (by omega) (by omega)
      obtain ⟨c3, m3, g1, g2, g3⟩ := units_op f3 (by omega) hI.o (r := 96 + 2 * u) (a := 240 + 41 * u) (by omega) (by omega) (by omega) (by omega) (by omega) s1 rfl hr (fun i a b => by rw [show (96 + 2 * u + 1 : Int) = 97 + 2 * u by omega]; exact s2 i a b) (fun i a b => by rw [show 240 + 41 * u + 1 + i = 241 + 41 * u + i by omega])
      obtain ⟨c4, m4, p1, p2, p3⟩ := close_op g3 (by omega)
      rw [e1, e2, Option.bind_some, Option.bind_some, f1, f2, Option.bind_some, Option.bind_some, Option.bind_some, g1, g2, Option.bind_some, Option.bind_some, p1, p2, Option.bind_some, Option.bind_some]
      exact ⟨c4, m4, rfl, rfl, WVw p3 (by omega) hN⟩) 12 big big 0 N c m (by omega) (by omega) (by have := big_ge; omega) (by have := big_ge; omega) h (by omega)
  refine ⟨c', m', ?_, ?_, WVw w (by omega) hN⟩
  · have x' : Sv_write_56 big c 1 = Sv_write_56 (j1 + 1) c' (12 + 1) := x
    rw [x', Sv_write_56, if_pos (by decide)]
  · rw [show M_save_39 big m 0 = M_save_39 (j2 + 1) m' 12 from y, M_save_39, if_pos (by decide)]
theorem sv_pals {B N : Int} {c0 m0 c m : Mem} (hI : INV B c0 m0) (h : WV N c0 m0 c m) (hN : N + 3600 ≤ 1000000000) : ∃ c' m', Sv_write_115 big c 1 = Sv_write_149 big c' 1 ∧ M_save_99 big m 0 = M_save_118 big m' 0 ∧ WV (N + 3600) c0 m0 c' m' := by
  obtain ⟨c', m', j1, j2, x, y, w⟩ := ELoop (F := fun k c i => Sv_write_115 k c (i + 1)) (G := fun k m i => M_save_99 k m i) (c0 := c0) (m0 := m0) 12 300 (by omega) (by
    intro k1 k2 u N c m u0 u1 h hN
    show ∃ c' m', Sv_write_115 (k1 + 1) c (u + 1) = Sv_write_115 k1 c' (u + 1 + 1) ∧ M_save_99 (k2 + 1) m u = M_save_99 k2 m' (u + 1) ∧ _
    rw [Sv_write_115, M_save_99, if_neg (show ¬ 12 < u + 1 by omega), if_neg (show ¬ 12 ≤ u by omega), ar_ok (by omega) (by omega), Option.bind_some, show (48 + 1 * (u + 1) : Int) = 49 + u by omega, jadd_e (x := u + 1) (by omega) (by omega), jadd_e (x := u) (by omega) (by omega)]
    obtain ⟨c1, m1, e1, e2, e3⟩ := pal_op hI h hN u0 u1 (F := fun c => Sv_write_115 k1 c (u + 1 + 1)) rfl
    exact ⟨c1, m1, e1, by rw [e2]; rfl, e3⟩) 12 big big 0 N c m (by omega) (by omega) (by have := big_ge; omega) (by have := big_ge; omega) h (by omega)
  refine ⟨c', m', ?_, ?_, WVw w (by omega) hN⟩
  · have x' : Sv_write_115 big c 1 = Sv_write_115 (j1 + 1) c' (12 + 1) := x
    rw [x', Sv_write_115, if_pos (by decide)]
  · rw [show M_save_99 big m 0 = M_save_99 (j2 + 1) m' 12 from y, M_save_99, if_pos (by decide)]
theorem sv_subs {B N : Int} {c0 m0 c m : Mem} (hI : INV B c0 m0) (h : WV N c0 m0 c m) (hN : N + 20000 ≤ 1000000000) : ∃ c' m', Sv_write_149 big c 1 = Sv_write_168 big c' 1 ∧ M_save_118 big m 0 = M_save_137 big m' 0 ∧ WV (N + 20000) c0 m0 c' m' := by
  obtain ⟨c', m', j1, j2, x, y, w⟩ := ELoop (F := fun k c i => Sv_write_149 k c (i + 1)) (G := fun k m i => M_save_118 k m i) (c0 := c0) (m0 := m0) 8 2500 (by omega) (by
    intro k1 k2 u N c m u0 u1 h hN
    show ∃ c' m', Sv_write_149 (k1 + 1) c (u + 1) = Sv_write_149 k1 c' (u + 1 + 1) ∧ M_save_118 (k2 + 1) m u = M_save_118 k2 m' (u + 1) ∧ _
    rw [Sv_write_149, M_save_118, if_neg (show ¬ 8 < u + 1 by omega), if_neg (show ¬ 8 ≤ u by omega), jadd_e (x := u + 1) (by omega) (by omega), jadd_e (x := u) (by omega) (by omega)]
    obtain ⟨c1, m1, e1, e2, e3⟩ := sub_op hI h hN u0 u1
    exact ⟨c1, m1, by rw [e1]; rfl, by rw [e2]; rfl, e3⟩) 8 big big 0 N c m (by omega) (by omega) (by have := big_ge; omega) (by have := big_ge; omega) h (by omega)
  refine ⟨c', m', ?_, ?_, WVw w (by omega) hN⟩
  · have x' : Sv_write_149 big c 1 = Sv_write_149 (j1 + 1) c' (8 + 1) := x
    rw [x', Sv_write_149, if_pos (by decide)]
  · rw [show M_save_118 big m 0 = M_save_118 (j2 + 1) m' 8 from y, M_save_118, if_pos (by decide)]
theorem sv_waves {B N : Int} {c0 m0 c m : Mem} (hI : INV B c0 m0) (h : WV N c0 m0 c m) (hN : N + 2000 ≤ 1000000000) : ∃ c' m', Sv_write_168 big c 1 = Sv_write_210 big c' 0 ∧ M_save_137 big m 0 = M_save_175 big m' (above (m0 264) 0) ∧ WV (N + 2000) c0 m0 c' m' := by
  obtain ⟨c', m', j1, j2, x, y, w⟩ := ELoop (F := fun k c i => Sv_write_168 k c (i + 1)) (G := fun k m i => M_save_137 k m i) (c0 := c0) (m0 := m0) 4 500 (by omega) (by
    intro k1 k2 u N c m u0 u1 h hN
    obtain ⟨s1, _⟩ := S3.w hI.s u u0 u1
    obtain ⟨w1, w2, _⟩ := hI.w.w u u0 u1
    show ∃ c' m', Sv_write_168 (k1 + 1) c (u + 1) = Sv_write_168 k1 c' (u + 1 + 1) ∧ M_save_137 (k2 + 1) m u = M_save_137 k2 m' (u + 1) ∧ _
    rw [Sv_write_168, M_save_137, if_neg (show ¬ 4 < u + 1 by omega), if_neg (show ¬ 4 ≤ u by omega), ar_ok (by omega) (by omega), Option.bind_some, Option.bind_some, show (73 + 1 * (u + 1) : Int) = 74 + u by omega, rd_wav (by omega) (by omega) (by omega) (by omega), Option.bind_some, h.c (74 + u) (by omega) (by omega), s1, jmul_e (by omega) (by omega), jadd_e (x := 1168) (by omega) (by omega), aI_ok (by omega) (by omega), Option.bind_some, h.m 264 (by omega) (by omega), jadd_e (x := u + 1) (by omega) (by omega), jadd_e (x := u) (by omega) (by omega)]
    by_cases z : m0 264 (1168 + 46 * u) < 0
    · rw [if_pos (show m0 264 (1168 + 46 * u) = -1 by omega), if_pos z]
      exact ⟨c, m, rfl, rfl, WVw h (by omega) hN⟩
    · rw [if_neg (show ¬ m0 264 (1168 + 46 * u) = -1 by omega), if_neg z]
      obtain ⟨c1, m1, e1, e2, e3⟩ := wave_op hI h hN u0 u1 (by omega)
      exact ⟨c1, m1, by rw [e1]; rfl, by rw [e2]; rfl, e3⟩) 4 big big 0 N c m (by omega) (by omega) (by have := big_ge; omega) (by have := big_ge; omega) h (by omega)
  refine ⟨c', m', ?_, ?_, WVw w (by omega) hN⟩
  · have x' : Sv_write_168 big c 1 = Sv_write_168 (j1 + 1) c' (4 + 1) := x
    rw [x', Sv_write_168, if_pos (by decide)]
  · rw [show M_save_137 big m 0 = M_save_137 (j2 + 1) m' 4 from y, M_save_137, if_pos (by decide), M_numberAbove_e, Option.bind_some, w.m 264 (by omega) (by omega)]
theorem sv_cues {B : Int} {c0 m0 : Mem} (hI : INV B c0 m0) : ∀ (d n1 n2 : Nat) (i N : Int) (c m : Mem), 0 ≤ i → i + d = c0 3 8 → d < n1 → d < n2 → WV N c0 m0 c m → N + 13200 * d ≤ 1000000000 → ∃ c' m', Sv_write_210 n1 c i = (Sv_writeParksAndEvents c').bind (fun m1 => some m1) ∧ M_save_175 n2 m (if i < c0 3 8 then c0 (c0 79 i) 0 else 0) = M_save_195 big m' 0 ∧ WV (N + 13200 * d) c0 m0 c' m' := by
  have hn30 := S3.n hI.s
  intro d
  induction d with
  | zero =>
    intro n1 n2 i N c m i0 e h1 h2 h hN
    obtain ⟨n1, rfl⟩ : ∃ j, n1 = j + 1 := ⟨n1 - 1, by omega⟩
    obtain ⟨n2, rfl⟩ : ∃ j, n2 = j + 1 := ⟨n2 - 1, by omega⟩
    rw [if_neg (show ¬ i < c0 3 8 by omega), Sv_write_210, M_save_175, h.c 3 (by omega) (by omega), if_pos (show c0 3 8 ≤ i by omega), if_pos (show (0 : Int) ≤ 0 by decide)]
    exact ⟨c, m, rfl, rfl, WVw h (by omega) (by omega)⟩
  | succ d ih =>
    intro n1 n2 i N c m i0 e h1 h2 h hN
    obtain ⟨n1, rfl⟩ : ∃ j, n1 = j + 1 := ⟨n1 - 1, by omega⟩
    obtain ⟨n2, rfl⟩ : ∃ j, n2 = j + 1 := ⟨n2 - 1, by omega⟩
    have i1 : i < c0 3 8 := by omega
    obtain ⟨_, _, np, _⟩ := S3.row hI.s hI.w.n i0 i1
    obtain ⟨c1, m1, e1, e2, e3⟩ := cue_op hI i0 i1 h (by omega)
    rw [if_pos i1, Sv_write_210, M_save_175, h.c 3 (by omega) (by omega), if_neg (show ¬ c0 3 8 ≤ i by omega), if_neg (show ¬ c0 (c0 79 i) 0 ≤ 0 by omega), aI_ok i0 (by omega), Option.bind_some, h.c 79 (by omega) (by omega), e1, e2, Option.bind_some, Option.bind_some, M_numberAbove_e, Option.bind_some, e3.m 264 (by omega) (by omega), above_c hI.s hI.w.n _ (by omega), cna_at hI.s i0 i1, jadd_e (by omega) (by omega)]
    obtain ⟨c2, m2, x, y, w⟩ := ih n1 n2 (i + 1) (N + 13200) c1 m1 (by omega) (by omega) (by omega) (by omega) e3 (by omega)
    exact ⟨c2, m2, x, y, WVw w (by omega) (by omega)⟩
theorem sv_parks {B N : Int} {c0 m0 c m : Mem} (hI : INV B c0 m0) (h : WV N c0 m0 c m) (hN : N + 6450 ≤ 1000000000) : ∃ c' m', Sv_writeParksAndEvents c = some c' ∧ M_save_195 big m 0 = (if m' 259 39 ≤ 6000 then (some (wr m' 259 10 (m' 259 39))).bind fun m1 => M_save_254 big m1 0 else some ((-1), m')) ∧ WV (N + 6450) c0 m0 c' m' := by
  obtain ⟨c1, m1, j1, j2, x, y, w⟩ := ELoop (F := fun k c i => Sv_writeParksAndEvents_2 k c (i + 1)) (G := fun k m i => M_save_195 k m i) (c0 := c0) (m0 := m0) 200 30 (by omega) (by
    intro k1 k2 u N c m u0 u1 h hN
    show ∃ c' m', Sv_writeParksAndEvents_2 (k1 + 1) c (u + 1) = Sv_writeParksAndEvents_2 k1 c' (u + 1 + 1) ∧ M_save_195 (k2 + 1) m u = M_save_195 k2 m' (u + 1) ∧ _
    obtain ⟨c1, m1, e1, e2, e3⟩ := park_op hI h hN u0 u1 (F := fun c => Sv_writeParksAndEvents_2 k1 c (u + 1 + 1))
    rw [Sv_writeParksAndEvents_2, M_save_195, if_neg (show ¬ 200 < u + 1 by omega), if_neg (show ¬ 200 ≤ u by omega), jadd_e (x := u + 1) (by omega) (by omega), jadd_e (x := u) (by omega) (by omega), e2]
    exact ⟨c1, m1, e1, rfl, e3⟩) 200 big big 0 N c m (by omega) (by omega) (by have := big_ge; omega) (by have := big_ge; omega) h (by omega)
  have x' : Sv_writeParksAndEvents c = Sv_writeParksAndEvents_2 (j1 + 1) c1 (200 + 1) := x
  have y' : M_save_195 big m 0 = M_save_195 (j2 + 1) m1 200 := y
  rw [Sv_writeParksAndEvents_2, if_pos (by decide)] at x'
  rw [M_save_195, if_pos (by decide)] at y'
  obtain ⟨c2, m2, j3, j4, p, q, w2⟩ := ELoop (F := fun k c i => Sv_writeParksAndEvents_60 k c (i + 1)) (G := fun k m i => M_save_215 k m i) (c0 := c0) (m0 := m0) 10 45 (by omega) (by
    intro k1 k2 u N c m u0 u1 h hN
    show ∃ c' m', Sv_writeParksAndEvents_60 (k1 + 1) c (u + 1) = Sv_writeParksAndEvents_60 k1 c' (u + 1 + 1) ∧ M_save_215 (k2 + 1) m u = M_save_215 k2 m' (u + 1) ∧ _
    obtain ⟨c1, m1, e1, e2, e3⟩ := event_op hI h hN u0 u1 (F := fun c => Sv_writeParksAndEvents_60 k1 c (u + 1 + 1))
    rw [Sv_writeParksAndEvents_60, M_save_215, if_neg (show ¬ 10 < u + 1 by omega), if_neg (show ¬ 10 ≤ u by omega), jadd_e (x := u + 1) (by omega) (by omega), jadd_e (x := u) (by omega) (by omega), e2]
    exact ⟨c1, m1, e1, rfl, e3⟩) 10 big big 0 (N + 30 * ((200 : Nat) : Int)) c1 m1 (by omega) (by omega) (by have := big_ge; omega) (by have := big_ge; omega) w (by omega)
  have p' : Sv_writeParksAndEvents_60 big c1 1 = Sv_writeParksAndEvents_60 (j3 + 1) c2 (10 + 1) := p
  have q' : M_save_215 big m1 0 = M_save_215 (j4 + 1) m2 10 := q
  rw [Sv_writeParksAndEvents_60, if_pos (by decide)] at p'
  rw [M_save_215, if_pos (by decide)] at q'
  exact ⟨c2, m2, x'.trans p', y'.trans q', WVw w2 (by omega) hN⟩
