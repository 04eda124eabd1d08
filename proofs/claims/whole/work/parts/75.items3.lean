-- L3: palettes, waves, parks, events written
def vc9 (f : Int → Int) : Int := itr (fun i s => if f i < 0 then s else s + 1) 0 9
theorem b9 : 9 < big := Nat.lt_of_lt_of_le (by decide) big_ge
theorem vc9_r (f : Int → Int) : 0 ≤ vc9 f := by
  have h := itr_inv (σ := Int) (fun i s => if f i < 0 then s else s + 1) 0 (fun i s => 0 ≤ s) (by omega) (by intro k s hs; split <;> omega) 9
  exact h
theorem M_levelsIn_e {μ : Mem} {a : Int} (a0 : 0 ≤ a) (a1 : a + 9 ≤ 12943) : M_levelsIn μ a = some (vc9 (fun i => μ 264 (a + i))) := by
  refine loopY (fun k s i => M_levelsIn_4 μ a k s i) (fun i s => if μ 264 (a + i) < 0 then s else s + 1) 0 9 9 rfl (fun i s => 0 ≤ s ∧ s ≤ i) (by omega) ?_ ?_ (fun k _ => by rw [M_levelsIn_4]; rfl) big b9
  · intro i s h0 h1 h2
    split <;> omega
  intro k i s h0 h1 h2
  rw [M_levelsIn_4, if_neg (show ¬ 9 ≤ i by omega)]
  simp (disch := omega) only [Option.bind_some, jadd_e, Int.add_zero, aI_ok]
  repeat' split
  all_goals first | (exfalso; omega) | rfl
theorem D_cv9 {c : Mem} {a : Int} {f : Int → Int} (hk : kd a = 100) (hl : ln a = 9) (hf : ∀ i, 0 ≤ i → i < 9 → c a i = f i ∧ -1 ≤ f i) : D_countValues c a = some (vc9 f) := by
  unfold D_countValues
  have e : aln c a = some 9 := by unfold aln; rw [hk, hl]; rfl
  rw [e, Option.bind_some]
  refine loopY (fun k s i => D_countValues_10 c a 9 k s i) (fun i s => if f i < 0 then s else s + 1) 0 9 9 rfl (fun i s => 0 ≤ s ∧ s ≤ i) (by omega) ?_ ?_ (fun k _ => by rw [D_countValues_10]; rfl) big b9
  · intro i s h0 h1 h2
    split <;> omega
  intro k i s h0 h1 h2
  obtain ⟨e1, e2⟩ := hf i h0 h1
  rw [D_countValues_10, if_neg (show ¬ 9 ≤ i by omega), rdI_ok hk h0 (by omega), e1]
  simp (disch := omega) only [Option.bind_some, jadd_e]
  repeat' split
  all_goals first | (exfalso; omega) | rfl
/-- a palette, if it has a level -/
theorem pal_op {B N : Int} {c0 m0 c m : Mem} (hI : INV B c0 m0) (h : WV N c0 m0 c m) (hN : N + 300 ≤ 1000000000) {k : Int} (k0 : 0 ≤ k) (k1 : k < 12) {F : Mem → Option Mem} {FF : Option Mem} (hF : FF = (D_countValues c (49 + k)).bind fun x3 => if x3 ≤ 0 then F c else (Sv_writePalette c (k + 1)).bind F) : ∃ c' m', FF = F c' ∧ M_savePalette m k = some m' ∧ WV (N + 300) c0 m0 c' m' := by
  have pk : kd (49 + k) = 100 ∧ ln (49 + k) = 9 := by
    unfold kd ln
    rw [ob_3 (by omega) (by omega), shK_45 (by omega) (by omega)]
    exact ⟨rfl, rfl⟩
  have sp := fun p a b => S3.p hI.s k p k0 k1 a b
  have wp := fun p a b => hI.w.p k p k0 k1 a b
  have ec : c (49 + k) = c0 (49 + k) := h.c _ (by omega) (by omega)
  have em : m 264 = m0 264 := h.m 264 (by omega) (by omega)
  have e1 := D_cv9 (c := c) (a := 49 + k) (f := fun p => m0 264 (732 + 9 * k + p)) pk.1 pk.2 (fun i a b => ⟨by rw [ec]; exact sp i a b, (wp i a b).1⟩)
  have e2 : M_levelsIn m (732 + 9 * k) = some (vc9 (fun p => m0 264 (732 + 9 * k + p))) := by rw [M_levelsIn_e (by omega) (by omega), em]
  have e3 := vc9_r (fun p => m0 264 (732 + 9 * k + p))
  unfold M_savePalette
  rw [hF, e1, Option.bind_some, jmul_e (by omega) (by omega), jadd_e (x := 732) (by omega) (by omega), Option.bind_some, e2, Option.bind_some]
  generalize vc9 (fun p => m0 264 (732 + 9 * k + p)) = n at *
  by_cases z : n ≤ 0
  · rw [if_pos z, if_neg (show ¬ n ≠ 0 by omega)]
    exact ⟨c, m, rfl, rfl, WVw h (by omega) hN⟩
  · rw [if_neg z, if_pos (show n ≠ 0 by omega), jadd_e (x := k) (by omega) (by omega)]
    have r : EM (N + 300) c0 m0 (Sv_writePalette c (k + 1)) ((M_pair m 10 (k + 1)).bind fun m5 => (M_writeSign m5 61).bind fun m8 => M_savePalette_35 (732 + 9 * k) big m8 0) := by
      unfold Sv_writePalette
      refine EMb (headE h hI.kc hI.km (by omega) (w := 10) (by omega) (by omega) (by decide) (by omega) (by omega)) (fun c m h => ?_)
      refine EMb (sign_op h (by omega) (by omega) (by omega)) (fun c m h => ?_)
      have key := EMloop (F := fun j c i => Sv_writePalette_15 (k + 1) j c i) (G := fun j m i => M_savePalette_35 (732 + 9 * k) j m i) (c0 := c0) (m0 := m0) 9 15 2 (by omega) (by omega) (by
        intro j1 j2 p N c m p0 p1 h hN
        have a1 : rdI c (48 + 1 * (k + 1)) p = some (m0 264 (732 + 9 * k + p)) := by
          rw [rd_pal (by omega) (by omega) (by omega) (by omega), show (48 + 1 * (k + 1) : Int) = 49 + k by omega, h.c (49 + k) (by omega) (by omega), sp p p0 p1]
        obtain ⟨w1, w2⟩ := wp p p0 p1
        show ∃ c' m', Sv_writePalette_15 (k + 1) (j1 + 1) c p = Sv_writePalette_15 (k + 1) j1 c' (p + 1) ∧ M_savePalette_35 (732 + 9 * k) (j2 + 1) m p = M_savePalette_35 (732 + 9 * k) j2 m' (p + 1) ∧ _
        rw [Sv_writePalette_15, M_savePalette_35, if_neg (show ¬ 9 ≤ p by omega), if_neg (show ¬ 9 ≤ p by omega), ar_ok (by omega) (by omega), Option.bind_some, Option.bind_some, a1, Option.bind_some, Option.bind_some, jadd_e (x := 732 + 9 * k) (by omega) (by omega), aI_ok (by omega) (by omega), Option.bind_some, Option.bind_some, h.m 264 (by omega) (by omega), jadd_e (x := p) (by omega) (by omega), jadd_e (x := 9) (by omega) (by omega), jadd_e (x := 61) (by omega) (by omega)]
        by_cases z : m0 264 (732 + 9 * k + p) < 0
        · rw [if_pos (show m0 264 (732 + 9 * k + p) = -1 by omega), if_pos z]
          exact ⟨c, m, rfl, rfl, WVw h (by omega) hN⟩
        · rw [if_neg (show ¬ m0 264 (732 + 9 * k + p) = -1 by omega), if_neg z]
          exact EMst (pairE h hI.kc hI.km hN (by omega) (by omega) (piX (n := 9) pi_par p0 p1) (by omega) (by omega))) (by
        intro j1 j2 N c m h hN
        show EM (N + 2) c0 m0 (Sv_writePalette_15 (k + 1) (j1 + 1) c 9) (M_savePalette_35 (732 + 9 * k) (j2 + 1) m 9)
        rw [Sv_writePalette_15, M_savePalette_35, if_pos (by decide), if_pos (by decide)]
        exact EMb (close_op h hN) (fun c m h => EMs h)) 9 big big 0 (N + 15 + 1) c m (by omega) (by omega) (by have := big_ge; omega) (by have := big_ge; omega) h (by omega)
      exact EMw key (by omega) hN
    obtain ⟨c', m', x, y, w⟩ := r
    exact ⟨c', m', by rw [x]; rfl, y, w⟩
theorem wave_op {B N : Int} {c0 m0 c m : Mem} (hI : INV B c0 m0) (h : WV N c0 m0 c m) (hN : N + 500 ≤ 1000000000) {w : Int} (w0 : 0 ≤ w) (w1 : w < 4) (hs : 0 ≤ m0 264 (1168 + 46 * w)) : EM (N + 500) c0 m0 (Sv_writeWave c (w + 1) (74 + w)) (M_saveWave m w) := by
  obtain ⟨s1, s2, _⟩ := S3.w hI.s w w0 w1
  obtain ⟨t1, t2, t3⟩ := s2 hs
  obtain ⟨_, y1, y2⟩ := hI.w.w w w0 w1
  obtain ⟨z1, z2, z3, z4, z5, z6, z7, z8, z9, zr⟩ := y2 hs
  have rc : ∀ (c m : Mem) (N j : Int), WV N c0 m0 c m → 1 ≤ j → j ≤ 4 → rdI c (74 + w) j = some (m0 264 (1168 + 46 * w + j)) ∧ aI m 264 12943 (jadd (1168 + 46 * w) j) = some (m0 264 (1168 + 46 * w + j)) := by
    intro c m N j h j0 j1
    refine ⟨?_, ?_⟩
    · rw [rd_wav (by omega) (by omega) (by omega) (by omega), h.c (74 + w) (by omega) (by omega), t1 j j0 j1]
    · rw [jadd_e (by omega) (by omega), aI_ok (by omega) (by omega), h.m 264 (by omega) (by omega)]
  unfold Sv_writeWave M_saveWave
  rw [jmul_e (by omega) (by omega), jadd_e (x := 1168) (by omega) (by omega), Option.bind_some, jadd_e (x := w) (by omega) (by omega)]
  refine EMb (headE h hI.kc hI.km (by omega) (w := 16) (by omega) (by omega) (by decide) (by omega) (by omega)) (fun c m h => ?_)
  refine EMb (sign_op h (by omega) (by omega) (by omega)) (fun c m h => ?_)
  have a1 : rdI c (74 + w) 0 = some (m0 264 (1168 + 46 * w)) := by rw [rd_wav (by omega) (by omega) (by omega) (by omega), h.c (74 + w) (by omega) (by omega), s1]
  have a2 : aI m 264 12943 (1168 + 46 * w) = some (m0 264 (1168 + 46 * w)) := by rw [aI_ok (by omega) (by omega), h.m 264 (by omega) (by omega)]
  rw [a1, a2, Option.bind_some, Option.bind_some, jadd_e (x := 18) (by omega) (by omega), jadd_e (x := 37) (by omega) (by omega)]
  refine EMb (wordE h hI.kc hI.km (by omega) (by omega) (by omega) (piX (n := 3) pi_shape hs (by omega))) (fun c m h => ?_)
  obtain ⟨a1, a2⟩ := rc c m _ 1 h (by omega) (by omega)
  rw [show 1168 + 46 * w + 1 = 1169 + 46 * w by omega] at a1 a2
  rw [a1, a2, Option.bind_some, Option.bind_some, jadd_e (x := 9) (by omega) (by omega), jadd_e (x := 61) (by omega) (by omega)]
  refine EMb (wordE h hI.kc hI.km (by omega) (by omega) (by omega) (piX (n := 9) pi_par z1 (by omega))) (fun c m h => ?_)
  obtain ⟨a1, a2⟩ := rc c m _ 2 h (by omega) (by omega)
  rw [show 1168 + 46 * w + 2 = 1170 + 46 * w by omega] at a1 a2
  rw [a1, a2, Option.bind_some, Option.bind_some]
  refine EMb (pairE h hI.kc hI.km (by omega) (w := 17) (by omega) (by omega) (by decide) z3 (by omega)) (fun c m h => ?_)
  obtain ⟨a1, a2⟩ := rc c m _ 3 h (by omega) (by omega)
  rw [show 1168 + 46 * w + 3 = 1171 + 46 * w by omega] at a1 a2
  rw [a1, a2, Option.bind_some, Option.bind_some]
  refine EMb (pairE h hI.kc hI.km (by omega) (w := 18) (by omega) (by omega) (by decide) z5 (by omega)) (fun c m h => ?_)
  obtain ⟨a1, a2⟩ := rc c m _ 4 h (by omega) (by omega)
  rw [show 1168 + 46 * w + 4 = 1172 + 46 * w by omega] at a1 a2
  rw [a1, a2, Option.bind_some, Option.bind_some]
  refine EMb (pairE h hI.kc hI.km (by omega) (w := 19) (by omega) (by omega) (by decide) z7 (by omega)) (fun c m h => ?_)
  refine EMb (wordE h hI.kc hI.km (by omega) (w := 20) (by omega) (by omega) (by decide)) (fun c m h => ?_)
  rw [ar_ok (by omega) (by omega), Option.bind_some, show (120 + 2 * (w + 1) : Int) = 122 + 2 * w by omega, show jadd (1168 + 46 * w) 5 = 1173 + 46 * w from by rw [jadd_e (by omega) (by omega)]; omega]
  refine EMb (units_op h (by omega) hI.o (by omega) (by omega) (by omega) (by omega) (by omega) t2 rfl zr (fun i a b => by rw [show (122 + 2 * w + 1 : Int) = 123 + 2 * w by omega]; exact t3 i a b) (fun i a b => by rw [show 1173 + 46 * w + 1 + i = 1174 + 46 * w + i by omega])) (fun c m h => ?_)
  exact EMw (EMb (close_op h (by omega)) (fun c m h => EMs h)) (by omega) hN
theorem park_op {B N : Int} {c0 m0 c m : Mem} (hI : INV B c0 m0) (h : WV N c0 m0 c m) (hN : N + 30 ≤ 1000000000) {k : Int} (k0 : 0 ≤ k) (k1 : k < 200) {F : Mem → Option Mem} : ∃ c' m', ((aI c 81 201 (k + 1)).bind fun x1 => if x1 = (-1) then F c else (Sv_writeHead c 50 (k + 1)).bind fun m3 => (Sv_putSign m3 64).bind fun m6 => (aI m6 81 201 (k + 1)).bind fun x9 => (Sv_putNumber m6 x9).bind fun m11 => (Sv_close m11).bind F) = F c' ∧ M_savePark m k = some m' ∧ WV (N + 30) c0 m0 c' m' := by
  have sk := S3.k hI.s k k0 k1
  obtain ⟨w1, w2⟩ := hI.w.k k k0 k1
  unfold M_savePark
  rw [aI_ok (by omega) (by omega), Option.bind_some, h.c 81 (by omega) (by omega), sk, jadd_e (x := 12723) (by omega) (by omega), aI_ok (by omega) (by omega), Option.bind_some, h.m 264 (by omega) (by omega), jadd_e (x := k) (by omega) (by omega)]
  by_cases z : 0 ≤ m0 264 (12723 + k)
  · rw [if_neg (show ¬ m0 264 (12723 + k) = -1 by omega), if_pos z]
    obtain ⟨c1, m1, e1, e2, e3⟩ := headE h hI.kc hI.km (by omega) (w := 34) (wc := 50) (v := k + 1) (by omega) (by omega) (by decide) (by omega) (by omega)
    obtain ⟨c2, m2, f1, f2, f3⟩ := sign_op e3 (by omega) (b := 64) (by omega) (by omega)
    obtain ⟨c3, m3, g1, g2, g3⟩ := number_op (v := m0 264 (12723 + k)) f3 (by omega) z (by omega)
    obtain ⟨c4, m4, p1, p2, p3⟩ := close_op g3 (by omega)
    rw [e1, e2, Option.bind_some, Option.bind_some, f1, f2, Option.bind_some, Option.bind_some, aI_ok (by omega) (by omega), Option.bind_some, aI_ok (by omega) (by omega), Option.bind_some, f3.c 81 (by omega) (by omega), f3.m 264 (by omega) (by omega), sk, g1, g2, Option.bind_some, Option.bind_some, p1, p2, Option.bind_some, Option.bind_some]
    exact ⟨c4, m4, rfl, rfl, WVw p3 (by omega) hN⟩
  · rw [if_pos (show m0 264 (12723 + k) = -1 by omega), if_neg z]
    exact ⟨c, m, rfl, rfl, WVw h (by omega) hN⟩
theorem event_op {B N : Int} {c0 m0 c m : Mem} (hI : INV B c0 m0) (h : WV N c0 m0 c m) (hN : N + 45 ≤ 1000000000) {e : Int} (e0 : 0 ≤ e) (e1 : e < 10) {F : Mem → Option Mem} : ∃ c' m', ((ar 83 11 1 (e + 1)).bind fun o1 => (rdI c o1 0).bind fun x3 => if x3 = (-1) then F c else (Sv_writeHead c 52 (e + 1)).bind fun m5 => (Sv_putSign m5 61).bind fun m8 => (ar 83 11 1 (e + 1)).bind fun o11 => (rdI m8 o11 0).bind fun x13 => (Sv_putNumber m8 x13).bind fun m15 => (ar 83 11 1 (e + 1)).bind fun o18 => (rdI m15 o18 1).bind fun x20 => (Sv_putPair m15 39 x20).bind fun m22 => (Sv_close m22).bind F) = F c' ∧ M_saveEvent m e = some m' ∧ WV (N + 45) c0 m0 c' m' := by
  have se := fun j a b => S3.e hI.s e j e0 e1 a b
  have s0 := se 0 (by omega) (by omega)
  have s1 := se 1 (by omega) (by omega)
  rw [Int.add_zero] at s0
  have we := hI.w.e e e0 e1
  have r0 : ∀ (c m : Mem) (N j : Int), WV N c0 m0 c m → 0 ≤ j → j < 2 → rdI c (84 + e) j = some (c0 (84 + e) j) := fun c m N j h j0 j1 => by rw [rd_evt (by omega) (by omega) (by omega) (by omega), h.c (84 + e) (by omega) (by omega)]
  unfold M_saveEvent
  rw [ar_ok (by omega) (by omega), Option.bind_some, show (83 + 1 * (e + 1) : Int) = 84 + e by omega, r0 c m N 0 h (by omega) (by omega), Option.bind_some, s0, jmul_e (by omega) (by omega), jadd_e (x := 12923) (by omega) (by omega), aI_ok (by omega) (by omega), Option.bind_some, h.m 264 (by omega) (by omega), jadd_e (x := e) (by omega) (by omega)]
  by_cases z : 0 ≤ m0 264 (12923 + 2 * e)
  · rw [if_neg (show ¬ m0 264 (12923 + 2 * e) = -1 by omega), if_pos z]
    obtain ⟨c1, m1, e1, e2, e3⟩ := headE h hI.kc hI.km (by omega) (w := 36) (wc := 52) (v := e + 1) (by omega) (by omega) (by decide) (by omega) (by omega)
    obtain ⟨c2, m2, f1, f2, f3⟩ := sign_op e3 (by omega) (b := 61) (by omega) (by omega)
    obtain ⟨c3, m3, g1, g2, g3⟩ := number_op (v := m0 264 (12923 + 2 * e)) f3 (by omega) z (by omega)
    obtain ⟨c4, m4, p1, p2, p3⟩ := pairE g3 hI.kc hI.km (by omega) (w := 21) (wc := 39) (v := m0 264 (12923 + 2 * e + 1)) (by omega) (by omega) (by decide) (by rw [show 12923 + 2 * e + 1 = 12924 + 2 * e by omega]; omega) (by rw [show 12923 + 2 * e + 1 = 12924 + 2 * e by omega]; omega)
    obtain ⟨c5, m5, q1, q2, q3⟩ := close_op p3 (by omega)
    rw [e1, e2, Option.bind_some, Option.bind_some, f1, f2, Option.bind_some, Option.bind_some, Option.bind_some, r0 c2 m2 _ 0 f3 (by omega) (by omega), Option.bind_some, s0, aI_ok (by omega) (by omega), Option.bind_some, f3.m 264 (by omega) (by omega), g1, g2, Option.bind_some, Option.bind_some, Option.bind_some, r0 c3 m3 _ 1 g3 (by omega) (by omega), Option.bind_some, s1, jadd_e (x := 12923 + 2 * e) (by omega) (by omega), aI_ok (by omega) (by omega), Option.bind_some, g3.m 264 (by omega) (by omega), p1, p2, Option.bind_some, Option.bind_some, q1, q2, Option.bind_some, Option.bind_some]
    exact ⟨c5, m5, rfl, rfl, WVw q3 (by omega) hN⟩
  · rw [if_pos (show m0 264 (12923 + 2 * e) = -1 by omega), if_neg z]
    exact ⟨c, m, rfl, rfl, WVw h (by omega) hN⟩
