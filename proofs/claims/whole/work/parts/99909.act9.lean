-- L3: enter: values set, unit by unit
def SEN (c0 m0 : Mem) (r : RW) (i : Int) (w : Q4) : Prop := CR c0 248 r ∧ ROK r ∧ m0 259 21 = r.1 ∧ m0 271 = r.2 ∧ 0 ≤ i ∧ i < 120 ∧ c0 247 (4 * i) = w.1 ∧ c0 247 (4 * i + 1) = w.2.1 ∧ c0 247 (4 * i + 2) = w.2.2.1 ∧ c0 247 (4 * i + 3) = w.2.2.2
noncomputable def oneB (c : Mem) (tg kb u q n t p a b : Int) : Option Mem := (D_cellOf c u p).bind fun x9 => if t = 0 then wD c tg x9 a else if t = 1 then (if 1 ≤ n - 1 then wD c tg x9 (jadd a (jdiv (jmul (jsub b a) q) (n - 1))) else wD c tg x9 a) else (Ed_levelToChange c u p kb).bind fun x30 => wD c tg x9 (mxI 0 (mnI 1000 (jadd x30 a)))
noncomputable def oneA (c : Mem) (tg kb u q n t p a b : Int) : Option Mem := (Sh_has c u p).bind fun x5 => if x5 ≠ 0 then oneB c tg kb u q n t p a b else some c
theorem one_e {c : Mem} {i q tg kb u n t p a b : Int} (q0 : 0 ≤ q) (q1 : q < 40) (i0 : 0 ≤ i) (i1 : i < 120) (n0 : 0 ≤ n) (n1 : n ≤ 40) (e1 : c 249 q = u) (e2 : c 248 1 = n) (w1 : c 247 (4 * i) = t) (w2 : c 247 (4 * i + 1) = p) (w3 : c 247 (4 * i + 2) = a) (w4 : c 247 (4 * i + 3) = b) : Ed_setOne c (4 * i) q tg kb = oneA c tg kb u q n t p a b := by
  unfold Ed_setOne oneA
  rw [aI_ok q0 q1, Option.bind_some, e1, jadd_e (y := 1) (by omega) (by omega), aI_ok (i := 4 * i + 1) (by omega) (by omega), Option.bind_some, w2]
  refine congrArg (Option.bind (Sh_has c u p)) (funext fun x5 => ?_)
  by_cases z : x5 ≠ 0
  · rw [if_pos z, if_pos z, jadd_e (y := 2) (by omega) (by omega), aI_ok (i := 4 * i + 2) (by omega) (by omega), Option.bind_some, w3]
    unfold oneB
    refine congrArg (Option.bind (D_cellOf c u p)) (funext fun x9 => ?_)
    rw [aI_ok (i := 4 * i) (by omega) (by omega), Option.bind_some, w1]
    by_cases t0 : t = 0
    · rw [if_pos t0, if_pos t0, bsm]
    · rw [if_neg t0, if_neg t0]
      by_cases t1 : t = 1
      · rw [if_pos t1, if_pos t1, Option.bind_some, e2, jsub_e (by omega) (by omega)]
        by_cases y : 1 ≤ n - 1
        · rw [if_pos y, if_pos y, jadd_e (x := 4 * i) (by omega) (by omega), aI_ok (i := 4 * i + 3) (by omega) (by omega), Option.bind_some, w4, if_neg (by omega), bsm]
        · rw [if_neg y, if_neg y, bsm]
      · rw [if_neg t1, if_neg t1]
        refine congrArg (Option.bind (Ed_levelToChange c u p kb)) (funext fun x30 => ?_)
        rw [bsm]
  · rw [if_neg z, if_neg z]
theorem one_h {c0 m0 c m : Mem} {r : RW} {i q tg kb : Int} {w : Q4} (hS : SEN c0 m0 r i w) (hV : VSR c0 m0 c m) (kc : KON c0) (q0 : 0 ≤ q) (q1 : q < r.1) : (hasP (m0 264 (6 * r.2 q)) w.2.1 → Ed_setOne c (4 * i) q tg kb = oneB c tg kb (r.2 q + 1) q r.1 w.1 w.2.1 w.2.2.1 w.2.2.2) ∧ (¬ hasP (m0 264 (6 * r.2 q)) w.2.1 → Ed_setOne c (4 * i) q tg kb = some c) := by
  obtain ⟨s1, s2, s3, s4, i0, i1, w1, w2, w3, w4⟩ := hS
  obtain ⟨r0, r1, r2, _⟩ := s2
  have u := r2 q q0 q1
  have hc := hasC (p := w.2.1) hV kc u.1 u.2
  obtain ⟨l1, l2, l3, l4, l5, l6⟩ := hV
  have c247 : c 247 = c0 247 := l4 247 (by omega) (by omega)
  have c248 : c 248 = c0 248 := l4 248 (by omega) (by omega)
  have c249 : c 249 = c0 249 := l4 249 (by omega) (by omega)
  have e49 : c0 249 q = r.2 q + 1 := s1.2 q q0 q1
  have e : Ed_setOne c (4 * i) q tg kb = oneA c tg kb (r.2 q + 1) q r.1 w.1 w.2.1 w.2.2.1 w.2.2.2 := one_e q0 (by omega) i0 i1 r0 r1 (by rw [c249, e49]) (by rw [c248, s1.1]) (by rw [c247, w1]) (by rw [c247, w2]) (by rw [c247, w3]) (by rw [c247, w4])
  refine ⟨fun x => ?_, fun x => ?_⟩
  · rw [e]
    unfold oneA
    rw [hc.1 x, Option.bind_some, if_pos (by decide)]
  · rw [e]
    unfold oneA
    rw [hc.2 x, Option.bind_some, if_neg (fun y => y rfl)]
/-- one what over all units, by its values -/
theorem what1 {c0 m0 : Mem} {r : RW} {i tg kb E : Int} {w : Q4} {K : Mem → Int → Option Mem} {G : Nat → Mem → Int → Option (Int × Mem)} (hS : SEN c0 m0 r i w) (hT : TG c0 m0 kb tg) (kc : KON c0) (km : KON m0) (p0 : 0 ≤ w.2.1) (p1 : w.2.1 < 9) (w2 : w.1 ≤ 2) (hst : ∀ c m q, 0 ≤ q → q < r.1 → VSR c0 m0 c m → ∃ v, VAL v ∧ (hasP (m0 264 (6 * r.2 q)) w.2.1 → Ed_setOne c (4 * i) q tg kb = wD c tg (9 * r.2 q + w.2.1) v) ∧ (∀ k, G (k + 1) m q = (M_give m (r.2 q) w.2.1 v).bind fun m3 => G k m3 (q + 1))) (hex : ∀ k c m, VSR c0 m0 c m → G (k + 1) m r.1 = some (E, m)) {c m : Mem} (hV : VSR c0 m0 c m) : ∃ c' m', Ed_setValues_84 K kb tg i (4 * i) big c 0 = K c' (i + 1) ∧ G big m 0 = some (E, m') ∧ VSR c0 m0 c' m' := by
  have hS' := hS
  obtain ⟨s1, s2, s3, s4, i0, i1, w1, _⟩ := hS
  obtain ⟨r0, r1, r2, _⟩ := s2
  have st := loop2 (fun N μ q => Ed_setValues_84 K kb tg i (4 * i) N μ q) G (fun _ c' m' => VSR c0 m0 c' m') 0 0 0 r.1 (by
    intro a b q c1 m1 q0 q1 hV1
    have oh := one_h (tg := tg) (kb := kb) hS' hV1 kc q0 q1
    obtain ⟨v, hv, h1, h2⟩ := hst c1 m1 q q0 q1 hV1
    have u := r2 q q0 q1
    have c247 : c1 247 = c0 247 := hV1.2.2.2.1 247 (by omega) (by omega)
    have c248 : c1 248 = c0 248 := hV1.2.2.2.1 248 (by omega) (by omega)
    have ec : Ed_setValues_84 K kb tg i (4 * i) (a + 1) c1 q = (Ed_setOne c1 (4 * i) q tg kb).bind fun m8 => Ed_setValues_84 K kb tg i (4 * i) a m8 (q + 1) := by
      rw [Ed_setValues_84, c248, s1.1, if_neg (by omega), aI_ok (by omega) (by omega), Option.bind_some, c247, w1, if_neg (by omega), jadd_e (by omega) (by omega)]
    show ∃ c' m', Ed_setValues_84 K kb tg i (4 * i) (a + 1) c1 (0 + q) = Ed_setValues_84 K kb tg i (4 * i) a c' (0 + q + 1) ∧ G (b + 1) m1 (0 + q) = G b m' (0 + q + 1) ∧ VSR c0 m0 c' m'
    rw [show (0 : Int) + q = q by omega, ec, h2 b]
    by_cases z : hasP (m0 264 (6 * r.2 q)) w.2.1
    · obtain ⟨c', m', g1, g2, g3⟩ := gvY hV1 hT km u.1 u.2 p0 p1 z hv
      rw [h1 z, g1, g2, Option.bind_some, Option.bind_some]
      exact ⟨_, _, rfl, rfl, g3⟩
    · rw [oh.2 z, gvN hV1 km u.1 u.2 p0 p1 z, Option.bind_some, Option.bind_some]
      exact ⟨_, _, rfl, rfl, hV1⟩) r.1.toNat big big 0 c m (by omega) (by omega) (by have := big_ge; omega) (by have := big_ge; omega) hV
  obtain ⟨c', m', a, b, f1, f2, f3⟩ := st
  have f1' : Ed_setValues_84 K kb tg i (4 * i) big c 0 = Ed_setValues_84 K kb tg i (4 * i) (a + 1) c' (0 + r.1) := f1
  have f2' : G big m 0 = G (b + 1) m' (0 + r.1) := f2
  refine ⟨c', m', ?_, ?_, f3⟩
  · have c248 : c' 248 = c0 248 := f3.2.2.2.1 248 (by omega) (by omega)
    rw [f1', Ed_setValues_84, c248, s1.1, if_pos (by omega), jadd_e (by omega) (by omega)]
  · rw [f2', show (0 : Int) + r.1 = r.1 by omega, hex b c' m' f3]
theorem loop9 {α β : Type} (F : Nat → Mem → Int → Option α) (G : Nat → Mem → Int → Option β) (R : Mem → Mem → Prop) (n : Int) (step : ∀ N M c m k, 0 ≤ k → k < n → R c m → ∃ c' m', F (N + 1) c k = F N c' (k + 1) ∧ G (M + 9) m (9 * k) = G M m' (9 * k + 9) ∧ R c' m') : ∀ (d N M : Nat) (k : Int) (c m : Mem), k + d = n → 0 ≤ k → d < N → 9 * d < M → R c m → ∃ c' m' N' M', F N c k = F (N' + 1) c' n ∧ G M m (9 * k) = G (M' + 1) m' (9 * n) ∧ R c' m' := by
  intro d
  induction d with
  | zero =>
    intro N M k c m e _ hN hM hR
    obtain ⟨a, rfl⟩ : ∃ a, N = a + 1 := ⟨N - 1, by omega⟩
    obtain ⟨b, rfl⟩ : ∃ b, M = b + 1 := ⟨M - 1, by omega⟩
    obtain rfl : k = n := by omega
    exact ⟨c, m, a, b, rfl, rfl, hR⟩
  | succ d ih =>
    intro N M k c m e k0 hN hM hR
    obtain ⟨a, rfl⟩ : ∃ a, N = a + 1 := ⟨N - 1, by omega⟩
    obtain ⟨b, rfl⟩ : ∃ b, M = b + 9 := ⟨M - 9, by omega⟩
    obtain ⟨c1, m1, e1, e2, hR1⟩ := step a b c m k k0 (by omega) hR
    obtain ⟨c', m', N', M', f1, f2, f3⟩ := ih a b (k + 1) c1 m1 (by omega) (by omega) (by omega) (by omega) hR1
    refine ⟨c', m', N', M', by rw [e1, f1], ?_, f3⟩
    rw [e2, show 9 * k + 9 = 9 * (k + 1) by omega, f2]
/-- one what over all units and parameters -/
theorem what9 {c0 m0 : Mem} {r : RW} {i tg kb : Int} {w : Q4} {K : Mem → Int → Option Mem} {G : Nat → Mem → Int → Option Mem} {H : Mem → Option Mem} (hS : SEN c0 m0 r i w) (hT : TG c0 m0 kb tg) (kc : KON c0) (km : KON m0) (w2 : 2 < w.1) (hst : ∀ c m k p, 0 ≤ k → k < r.1 → 0 ≤ p → p < 9 → VSR c0 m0 c m → (∃ v, VAL v ∧ (∀ n, hasP (m0 264 (6 * r.2 k)) p → Ed_setAll_21 (r.2 k + 1) tg w.1 w.2.2.1 (n + 1) c p = (wD c tg (9 * r.2 k + p) v).bind fun m1 => Ed_setAll_21 (r.2 k + 1) tg w.1 w.2.2.1 n m1 (p + 1)) ∧ (∀ n, G (n + 1) m (9 * k + p) = (M_give m (r.2 k) p v).bind fun m3 => G n m3 (9 * k + p + 1))) ∨ ((∀ n, hasP (m0 264 (6 * r.2 k)) p → Ed_setAll_21 (r.2 k + 1) tg w.1 w.2.2.1 (n + 1) c p = Ed_setAll_21 (r.2 k + 1) tg w.1 w.2.2.1 n c (p + 1)) ∧ (∀ n, G (n + 1) m (9 * k + p) = G n m (9 * k + p + 1)))) (hex : ∀ n c m, VSR c0 m0 c m → G (n + 1) m (9 * r.1) = H m) {c m : Mem} (hV : VSR c0 m0 c m) : ∃ c' m', Ed_setValues_84 K kb tg i (4 * i) big c 0 = K c' (i + 1) ∧ G big m 0 = H m' ∧ VSR c0 m0 c' m' := by
  obtain ⟨s1, s2, s3, s4, i0, i1, w1, _, w3, _⟩ := hS
  obtain ⟨r0, r1, r2, _⟩ := s2
  have st := loop9 (fun N μ q => Ed_setValues_84 K kb tg i (4 * i) N μ q) G (fun c' m' => VSR c0 m0 c' m') r.1 (by
    intro N M c1 m1 k k0 k1 hV1
    have u := r2 k k0 k1
    have inn := loop3 (fun N μ q => Ed_setAll_21 (r.2 k + 1) tg w.1 w.2.2.1 N μ q) G (fun _ c' m' => VSR c0 m0 c' m') 0 (9 * k) 0 9 (by
      intro p c2 m2 p0 p1 hV2
      have hc := hasC (p := p) hV2 kc u.1 u.2
      have skip : ¬ hasP (m0 264 (6 * r.2 k)) p → ∀ n, Ed_setAll_21 (r.2 k + 1) tg w.1 w.2.2.1 (n + 1) c2 p = Ed_setAll_21 (r.2 k + 1) tg w.1 w.2.2.1 n c2 (p + 1) := by
        intro z n
        rw [Ed_setAll_21, if_neg (by omega), hc.2 z, Option.bind_some, if_pos rfl, jadd_e (by omega) (by omega)]
      show ∃ c' m', (∀ n, Ed_setAll_21 (r.2 k + 1) tg w.1 w.2.2.1 (n + 1) c2 (0 + p) = Ed_setAll_21 (r.2 k + 1) tg w.1 w.2.2.1 n c' (0 + p + 1)) ∧ (∀ n, G (n + 1) m2 (9 * k + p) = G n m' (9 * k + p + 1)) ∧ VSR c0 m0 c' m'
      rw [show (0 : Int) + p = p by omega]
      rcases hst c2 m2 k p k0 k1 p0 p1 hV2 with ⟨v, hv, h1, h2⟩ | ⟨h1, h2⟩
      · by_cases z : hasP (m0 264 (6 * r.2 k)) p
        · obtain ⟨c', m', g1, g2, g3⟩ := gvY hV2 hT km u.1 u.2 p0 p1 z hv
          exact ⟨c', m', fun n => by rw [h1 n z, g1, Option.bind_some], fun n => by rw [h2 n, g2, Option.bind_some], g3⟩
        · exact ⟨c2, m2, skip z, fun n => by rw [h2 n, gvN hV2 km u.1 u.2 p0 p1 z, Option.bind_some], hV2⟩
      · by_cases z : hasP (m0 264 (6 * r.2 k)) p
        · exact ⟨c2, m2, fun n => h1 n z, h2, hV2⟩
        · exact ⟨c2, m2, skip z, h2, hV2⟩) 9 0 c1 m1 (by omega) (by omega) hV1
    obtain ⟨c', m', f1, f2, f3⟩ := inn
    have c247 : c1 247 = c0 247 := hV1.2.2.2.1 247 (by omega) (by omega)
    have c248 : c1 248 = c0 248 := hV1.2.2.2.1 248 (by omega) (by omega)
    have c249 : c1 249 = c0 249 := hV1.2.2.2.1 249 (by omega) (by omega)
    have al : Ed_setAll c1 (4 * i) (r.2 k + 1) tg = some c' := by
      unfold Ed_setAll
      rw [aI_ok (by omega) (by omega), Option.bind_some, jadd_e (by omega) (by omega), aI_ok (by omega) (by omega), Option.bind_some, c247, w1, w3]
      have hb := big_ge
      obtain ⟨nn, hnn⟩ : ∃ nn, big = (nn + 1) + 9 := ⟨big - 10, by omega⟩
      have ff : Ed_setAll_21 (r.2 k + 1) tg w.1 w.2.2.1 (nn + 1 + 9) c1 0 = Ed_setAll_21 (r.2 k + 1) tg w.1 w.2.2.1 (nn + 1) c' (0 + 9) := f1 (nn + 1)
      rw [hnn, ff, Ed_setAll_21, if_pos (by decide)]
    refine ⟨c', m', ?_, ?_, f3⟩
    · show Ed_setValues_84 K kb tg i (4 * i) (N + 1) c1 k = Ed_setValues_84 K kb tg i (4 * i) N c' (k + 1)
      rw [Ed_setValues_84, c248, s1.1, if_neg (by omega), aI_ok (by omega) (by omega), Option.bind_some, c247, w1, if_pos w2, aI_ok k0 (by omega), Option.bind_some, c249]
      have e49 : c0 249 k = r.2 k + 1 := s1.2 k k0 k1
      rw [e49, al, Option.bind_some, jadd_e (by omega) (by omega)]
    · have := f2 M
      rw [show 9 * k + 0 = 9 * k by omega] at this
      exact this) r.1.toNat big big 0 c m (by omega) (by omega) (by have := big_ge; omega) (by have := big_ge; omega) hV
  obtain ⟨c', m', a, b, f1, f2, f3⟩ := st
  have f1' : Ed_setValues_84 K kb tg i (4 * i) big c 0 = Ed_setValues_84 K kb tg i (4 * i) (a + 1) c' r.1 := f1
  have f2' : G big m (9 * 0) = G (b + 1) m' (9 * r.1) := f2
  refine ⟨c', m', ?_, ?_, f3⟩
  · have c248 : c' 248 = c0 248 := f3.2.2.2.1 248 (by omega) (by omega)
    rw [f1', Ed_setValues_84, c248, s1.1, if_pos (by omega), jadd_e (by omega) (by omega)]
  · rw [show (0 : Int) = 9 * 0 by omega, f2', hex b c' m' f3]
