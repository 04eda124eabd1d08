-- L3: enter: a cue comes in both; its times
theorem sg_r {pl cnt i : Int} (h0 : 0 ≤ pl) (h1 : pl ≤ cnt) (h2 : cnt < 30) (i0 : 0 ≤ i) (i1 : i < 30) : 0 ≤ sg pl cnt i ∧ sg pl cnt i < 30 ∧ (¬ i = pl → ¬ sg pl cnt i = cnt) ∧ (i < pl → sg pl cnt i = i) ∧ (pl < i → i ≤ cnt → sg pl cnt i = i - 1) ∧ (cnt < i → sg pl cnt i = i) := by
  unfold sg
  by_cases z : i = pl
  · rw [if_pos z]; omega
  · rw [if_neg z]
    by_cases y : pl < i ∧ i ≤ cnt
    · rw [if_pos y]; omega
    · rw [if_neg y]; omega
theorem sg_i {pl cnt i j : Int} (h0 : 0 ≤ pl) (h1 : pl ≤ cnt) (h : ¬ i = j) : ¬ sg pl cnt i = sg pl cnt j := by
  unfold sg
  repeat' split
  all_goals omega
theorem bring {c m : Mem} {n : Int} (hs : SR c 3 (m 264)) (hw : WF (m 264)) (hO : 280 ≤ c 0 0) (n0 : 1 ≤ n) (n1 : n ≤ 999) (hb : ¬ rowOf (m 264) n < 0 ∨ cuesN (m 264) < 30) : ∃ k c' h, Sh_bringCue c n = some (k, c') ∧ M_makeCue m n = some (rowOf h n, up m 264 h) ∧ SR c' 3 h ∧ WF h ∧ 0 ≤ k ∧ k < c' 3 8 ∧ c' (c' 79 k) 0 = n ∧ (∀ o, ¬ o = 3 → ¬ o = 79 → ¬ (130 ≤ o ∧ o < 220) → c' o = c o) ∧ (∀ i, ¬ (1352 ≤ i ∧ i < 12362) → h i = m 264 i) ∧ ((h = m 264 ∧ ¬ rowOf (m 264) n < 0) ∨ (rowOf (m 264) n < 0 ∧ ∃ r, 0 ≤ r ∧ r < 30 ∧ cn (m 264) r ≤ 0 ∧ h = newR (m 264) n r)) := by
  by_cases z : rowOf (m 264) n < 0
  · have hc := cuesN_c hs hw.n
    have hlt : cuesN (m 264) < 30 := by rcases hb with a | a <;> omega
    have nn : ∀ q, 0 ≤ q → q < 30 → cn (m 264) q ≠ n := by
      rcases rowOf_s (m 264) n with ⟨_, a⟩ | ⟨a, _⟩
      · exact a (by omega)
      · omega
    have hn : ∀ i, 0 ≤ i → i < c 3 8 → c (c 79 i) 0 ≠ n := by
      intro i i0 i1
      obtain ⟨r, r0, r1, _, r3, _⟩ := S3.c hs i i0 i1
      rw [r3]; exact nn r r0 r1
    obtain ⟨c', b1, b2, b3, b4, b5, b6, b7, b8⟩ := bring_c hs hO hn (by omega)
    obtain ⟨r, r0, r1, r2, em⟩ := mk14 (n := n) hlt
    obtain ⟨p1, p2, p3, p4, p5⟩ := newR_p (g := m 264) (n := n) r0 r1
    have W := newR_w hw r0 r1 r2 n0 n1 z
    obtain ⟨_, a1, a2, a3, a4⟩ := cna_s hs n
    have n00 := (S3.n hs).1
    have q := cq_k hs n00 (by omega)
    have hrow : rowOf (newR (m 264) n r) n = r := by
      have := rowOf_at W.n r0 r1 (by rw [p1]; omega)
      rwa [p1] at this
    generalize hcnt : c 3 8 = cnt at *
    generalize hpl : cna c n = pl at *
    have fr : ∀ o, ¬ o = 3 → ¬ o = 79 → ¬ (130 ≤ o ∧ o < 220) → c' o = c o := fun o x y w => b8 o x y (by omega)
    have obj : ∀ i, 0 ≤ i → i < 30 → ¬ i = cnt → ∀ x, 0 ≤ x → x ≤ 2 → c' (c 79 i + x) = c (c 79 i + x) := by
      intro i i0 i1 ic x x0 x1
      have d := cq_d hs i0 i1 n00 (by omega) ic
      have e := cq_k hs i0 i1
      exact b8 _ (by omega) (by omega) (by omega)
    have obj0 : ∀ i, 0 ≤ i → i < 30 → ¬ i = cnt → c' (c 79 i) = c (c 79 i) := by
      intro i i0 i1 ic
      have := obj i i0 i1 ic 0 (by omega) (by omega)
      rwa [Int.add_zero] at this
    have cur : CUR c' (newR (m 264) n r) := by
      have s79 : ∀ i, 0 ≤ i → i < 30 → c' 79 i = c 79 (sg pl cnt i) := b2
      have sgp : sg pl cnt pl = cnt := by unfold sg; rw [if_pos rfl]
      refine ⟨fun i i0 i1 => ?_, fun i j i0 ij j1 => ?_, by rw [b3]; omega, fun i j i0 ij j1 => ?_, fun i i0 i1 => ?_, fun s s0 s1 s2 => ?_⟩
      · have e := sg_r a1 a2 (by omega) i0 i1
        rw [s79 i i0 i1]
        exact S3.q hs _ e.1 e.2.1
      · have e := sg_r a1 a2 (by omega) i0 (show i < 30 by omega)
        have e' := sg_r a1 a2 (by omega) (show 0 ≤ j by omega) j1
        have d := sg_i (i := i) (j := j) a1 a2 (by omega)
        rw [s79 i i0 (by omega), s79 j (by omega) j1]
        by_cases y : sg pl cnt i < sg pl cnt j
        · exact S3.i hs _ _ e.1 y e'.2.1
        · exact fun x => S3.i hs _ _ e'.1 (by omega) e.2.1 x.symm
      · rw [b3] at j1
        have e := sg_r a1 a2 (by omega) i0 (show i < 30 by omega)
        have e' := sg_r a1 a2 (by omega) (show 0 ≤ j by omega) (show j < 30 by omega)
        rw [s79 i i0 (by omega), s79 j (by omega) (by omega)]
        have so := S3.o hs
        rw [hcnt] at so
        by_cases zi : i = pl
        · rw [zi, sgp, b5, obj0 _ e'.1 e'.2.1 (e'.2.2.1 (by omega)), e'.2.2.2.2.1 (by omega) (by omega)]
          exact a4 (j - 1) (by omega) (by omega)
        · rw [obj0 _ e.1 e.2.1 (e.2.2.1 zi)]
          by_cases zj : j = pl
          · rw [zj, sgp, b5, e.2.2.2.1 (by omega)]
            have x := a3 i i0 (by omega)
            have y := hn i i0 (by omega)
            omega
          · rw [obj0 _ e'.1 e'.2.1 (e'.2.2.1 zj)]
            by_cases y : j < pl
            · rw [e.2.2.2.1 (by omega), e'.2.2.2.1 y]
              exact so i j i0 ij (by omega)
            · rw [e'.2.2.2.2.1 (by omega) (by omega)]
              by_cases w : i < pl
              · rw [e.2.2.2.1 w]
                exact so i (j - 1) i0 (by omega) (by omega)
              · rw [e.2.2.2.2.1 (by omega) (by omega)]
                exact so (i - 1) (j - 1) (by omega) (by omega) (by omega)
      · rw [b3] at i1
        have e := sg_r a1 a2 (by omega) i0 (show i < 30 by omega)
        rw [s79 i i0 (by omega)]
        by_cases zi : i = pl
        · rw [zi, sgp]
          exact ⟨r, r0, r1, by rw [p1]; omega, by rw [p1]; exact b5, fun j j0 j1 => by rw [b6 j j0 j1, p2 j j0 j1], fun f f0 f1 => by rw [b7 f f0 f1, p3 f f0 f1]⟩
        · have lt : sg pl cnt i < cnt := by
            by_cases y : i < pl
            · rw [e.2.2.2.1 y]; omega
            · rw [e.2.2.2.2.1 (by omega) (by omega)]; omega
          obtain ⟨s, s0, s1, s2, s3, s4, s5⟩ := S3.c hs (sg pl cnt i) e.1 (by omega)
          have sr : ¬ s = r := by intro x; subst x; omega
          obtain ⟨y1, y2, y3⟩ := p4 s s0 s1 sr
          rw [obj0 _ e.1 e.2.1 (e.2.2.1 zi), obj _ e.1 e.2.1 (e.2.2.1 zi) 1 (by omega) (by omega), obj _ e.1 e.2.1 (e.2.2.1 zi) 2 (by omega) (by omega)]
          exact ⟨s, s0, s1, by rw [y1]; exact s2, by rw [y1]; exact s3, fun j j0 j1 => by rw [y2 j j0 j1]; exact s4 j j0 j1, fun f f0 f1 => by rw [y3 f f0 f1]; exact s5 f f0 f1⟩
      · by_cases sr : s = r
        · subst sr
          refine ⟨pl, a1, by rw [b3]; omega, ?_⟩
          rw [s79 pl a1 (by omega), sgp, p1]; exact b5
        · rw [(p4 s s0 s1 sr).1] at s2 ⊢
          obtain ⟨i, i0, i1, i2⟩ := S3.r hs s s0 s1 s2
          by_cases y : i < pl
          · have e := sg_r a1 a2 (by omega) i0 (show i < 30 by omega)
            refine ⟨i, i0, by rw [b3]; omega, ?_⟩
            rw [s79 i i0 (by omega), e.2.2.2.1 y, obj0 i i0 (by omega) (by omega)]
            exact i2
          · have e := sg_r a1 a2 (by omega) (show 0 ≤ i + 1 by omega) (show i + 1 < 30 by omega)
            refine ⟨i + 1, by omega, by rw [b3]; omega, ?_⟩
            rw [s79 (i + 1) (by omega) (by omega), e.2.2.2.2.1 (by omega) (by omega), show i + 1 - 1 = i by omega, obj0 i i0 (by omega) (by omega)]
            exact i2
    refine ⟨pl, c', newR (m 264) n r, b1, ?_, ?_, W, a1, by rw [b3]; omega, ?_, fr, p5, Or.inr ⟨z, r, r0, r1, r2, rfl⟩⟩
    · unfold M_makeCue
      rw [M_cueRow_e, Option.bind_some, if_pos z, em, mk30 r0 r1, hrow]
    · exact SR_mk (SRc_u hs (fun x a b => fr x (by omega) (by omega) (by omega)) (fun i a b => p5 i (by omega))) (SRc_g hs hw.g (fun x a b => fr x (by omega) (by omega) (by omega)) (fun i a b => p5 i (by omega))) (SRc_p hs (fun x a b => fr x (by omega) (by omega) (by omega)) (fun i a b => p5 i (by omega))) (SRc_s hs (fun x a b => fr x (by omega) (by omega) (by omega)) (fun i a b => p5 i (by omega))) (SRc_m hs (fr 71 (by omega) (by omega) (by omega)) (fun i a b => p5 i (by omega))) (SRc_w hs hw.w (fun x a b => fr x (by omega) (by omega) (by omega)) (fun x a b => fr x (by omega) (by omega) (by omega)) (fun i a b => p5 i (by omega))) cur (SRc_h hs (fr 80 (by omega) (by omega) (by omega)) (fun i a b => p5 i (by omega))) (by rw [b4 10 (by decide), p5 12722 (by omega)]; exact S3.b hs) (SRc_k hs (fr 81 (by omega) (by omega) (by omega)) (fun i a b => p5 i (by omega))) (SRc_e hs (fun x a b => fr x (by omega) (by omega) (by omega)) (fun i a b => p5 i (by omega))) (by rw [fr 94 (by omega) (by omega) (by omega), fr 120 (by omega) (by omega) (by omega)]; exact S3.z hs)
    · rw [b2 pl a1 (by omega), show sg pl cnt pl = cnt by unfold sg; rw [if_pos rfl]]
      exact b5
  · obtain ⟨k0, k1, k2, k3, k4⟩ := cix_f hs hw z
    have n30 := (S3.n hs).2
    refine ⟨cix c n, c, m 264, ?_, ?_, hs, hw, k0, k1, k2, fun _ _ _ _ => rfl, fun _ _ => rfl, Or.inl ⟨rfl, z⟩⟩
    · unfold Sh_bringCue
      rw [cna_e hs, Option.bind_some, k3, if_neg (by omega), jsub_e (by omega) (by omega), show cix c n + 1 - 1 = cix c n by omega, aI_ok k0 (by omega), Option.bind_some, cq_gf hs k0 (by omega), Option.bind_some, if_neg (fun x => x k2)]
    · unfold M_makeCue
      rw [M_cueRow_e, Option.bind_some, if_neg z, up_id]
theorem timC {c : Mem} {k x : Int} (x0 : 130 ≤ x) (x1 : x < 220) (x2 : (x - 130) % 3 = 0) : Ed_bringCue_30 k (x + 1) big c 0 = some (k, up c (x + 1) (fun j => if 0 ≤ j ∧ j < 6 then (if c 242 j = -2 then c (x + 1) j else c 242 j) else c (x + 1) j)) := by
  have h := asg (fun N μ i => Ed_bringCue_30 k (x + 1) N μ i) (x + 1) 0 0 6 (fun i => if c 242 i = -2 then c (x + 1) i else c 242 i) c (by
    intro N μ i i0 i1 h1 h2 _
    show Ed_bringCue_30 k (x + 1) (N + 1) μ i = Ed_bringCue_30 k (x + 1) N _ (i + 1)
    rw [Ed_bringCue_30, if_neg (by omega), rd_tim (by omega) (by omega) (by omega) i0 i1, Option.bind_some, told_e i0 (by omega), Option.bind_some, h1 242 (by omega), h2 i (by omega), wD3 (by omega) (by omega) (shK_128 (by omega) (by omega)) i0 i1, Option.bind_some, jadd_e (by omega) (by omega), show (0 : Int) + i = i by omega]) 6 (by omega) big (by have := big_ge; omega)
  have h' : Ed_bringCue_30 k (x + 1) big c 0 = _ := h
  rw [h']
  obtain ⟨N, hN⟩ : ∃ N, big - 6 = N + 1 := ⟨big - 6 - 1, by have := big_ge; omega⟩
  rw [hN]
  show Ed_bringCue_30 k (x + 1) (N + 1) _ _ = _
  rw [Ed_bringCue_30, if_pos (by omega)]
  refine congrArg (fun q => some (k, up c (x + 1) q)) (funext fun j => ?_)
  by_cases z : 0 ≤ j ∧ j < 6
  · rw [if_pos z, if_pos (by omega), show j - 0 = j by omega]
  · rw [if_neg z, if_neg (by omega)]
theorem pt46 : tbl piT 46 = 27 := by decide
theorem pt47 : tbl piT 47 = 28 := by decide
theorem rtim : ∀ v ∈ List.range 70, 21 ≤ tbl piT (v : Int) → tbl piT (v : Int) ≤ 26 → (v : Int) - 40 = tbl piT (v : Int) - 21 := by decide +kernel
theorem rtim2 : ∀ v ∈ List.range 70, (v : Int) = 23 → tbl piT (v : Int) = 62 := by decide +kernel
theorem stT_s {X : Tx} {m0 μ : Mem} {A k r : Int} {N : Nat} (hX : XO X m0) (hT : MTK X A μ) (k0 : 0 ≤ k) (k1 : k + 1 ≤ A) (r0 : 0 ≤ r) (r1 : r < 30) : (TT X k = 27 → M_setTimes_2 r (N + 1) μ k = M_setTimes_2 r N (up μ 264 (st1 (μ 264) (1357 + 7 * r) (-1))) (k + 1)) ∧ (TT X k = 28 → M_setTimes_2 r (N + 1) μ k = M_setTimes_2 r N (up μ 264 (st1 (μ 264) (1358 + 7 * r) (-1))) (k + 1)) ∧ (21 ≤ TT X k → TT X k ≤ 26 → M_setTimes_2 r (N + 1) μ k = M_setTimes_2 r N (up μ 264 (st1 (μ 264) (1353 + 7 * r + (TT X k - 21)) (μ 269 (k + 1)))) (k + 1)) ∧ (TT X k = 75 ∨ TT X k = 62 → M_setTimes_2 r (N + 1) μ k = M_setTimes_2 r N μ (k + 1)) := by
  have hb := hT.2.1
  have e : ¬ TT X k = 70 → M_setTimes_2 r (N + 1) μ k = (if TT X k = 27 then M_setTimes_2 r N (up μ 264 (st1 (μ 264) (1357 + 7 * r) (-1))) (k + 1) else if TT X k = 28 then M_setTimes_2 r N (up μ 264 (st1 (μ 264) (1358 + 7 * r) (-1))) (k + 1) else if μ 268 k ≠ 1 then M_setTimes_2 r N μ (k + 1) else if μ 269 k = 23 then M_setTimes_2 r N μ (k + 1) else (sI μ 264 12943 (jsub (jadd (jadd (jadd 1352 (jmul 7 r)) 1) (μ 269 k)) 40) (μ 269 (k + 1))).bind fun m15 => M_setTimes_2 r N m15 (k + 1)) := by
    intro t
    rw [M_setTimes_2, sAt hX hT k0 (by omega) (sc := 70) (by omega), if_neg t, Option.bind_some, if_neg (by decide), wAt hX hT k0 (by omega) (w := 46) (by decide) (by decide), Option.bind_some, pt46, wAt hX hT k0 (by omega) (w := 47) (by decide) (by decide), Option.bind_some, pt47, jadd_e (x := k) (by omega) (by omega), aI_ok k0 (by omega), Option.bind_some, aI_ok k0 (by omega), Option.bind_some, Option.bind_some, aI_ok (by omega) (by omega), Option.bind_some, jmul_e (by omega) (by omega), jadd_e (x := 1352) (by omega) (by omega), jadd_e (x := 1352 + 7 * r) (y := 5) (by omega) (by omega), jadd_e (x := 1352 + 7 * r) (y := 6) (by omega) (by omega), sI_up (i := 1352 + 7 * r + 5) (by omega) (by omega), Option.bind_some, sI_up (i := 1352 + 7 * r + 6) (by omega) (by omega), Option.bind_some, show 1352 + 7 * r + 5 = 1357 + 7 * r by omega, show 1352 + 7 * r + 6 = 1358 + 7 * r by omega]
    by_cases z : TT X k = 27
    · rw [if_pos z, if_neg (by decide), if_pos z]
    · rw [if_neg z, if_pos rfl, if_neg z]
      by_cases y : TT X k = 28
      · rw [if_pos y, if_neg (by decide), if_pos y]
      · rw [if_neg y, if_pos rfl, if_neg y]
  refine ⟨fun t => ?_, fun t => ?_, fun t t' => ?_, fun t => ?_⟩
  · rw [e (by omega), if_pos t]
  · rw [e (by omega), if_neg (by omega), if_pos t]
  · have w := wrdV hX hT k0 (by omega) (by omega)
    obtain ⟨v, hv⟩ : ∃ v : Nat, Vx X k = (v : Int) := ⟨(Vx X k).toNat, by omega⟩
    have i1 := rtim v (List.mem_range.mpr (by omega))
    have i2 := rtim2 v (List.mem_range.mpr (by omega))
    rw [← hv] at i1 i2
    have i1' := i1 (by omega) (by omega)
    have i2' : ¬ Vx X k = 23 := fun x => by have := i2 x; omega
    rw [e (by omega), if_neg (by omega), if_neg (by omega), w.2.2.2.2.2, if_neg (fun x => x rfl), w.1, if_neg i2', jmul_e (by omega) (by omega), jadd_e (x := 1352) (by omega) (by omega), jadd_e (x := 1352 + 7 * r) (by omega) (by omega), jadd_e (by omega) (by omega), jsub_e (by omega) (by omega), sI_up (by omega) (by omega), Option.bind_some, show 1352 + 7 * r + 1 + Vx X k - 40 = 1353 + 7 * r + (TT X k - 21) by omega]
  · obtain ⟨kk1, kk2⟩ := kind_2 hX hT k0 (by omega)
    rw [aI_ok k0 (by omega)] at kk1
    have kk := Option.some.inj kk1
    rw [e (by omega), if_neg (by omega), if_neg (by omega)]
    rcases t with t | t
    · rw [if_pos (by rw [kk, kk2.mpr t]; decide)]
    · have w := wrdV hX hT k0 (by omega) (by omega)
      have : Vx X k = 23 := pi_ij w.2.2.1 w.2.2.2.1 (by decide) (by decide) (by rw [← w.2.1, t]; decide)
      rw [w.2.2.2.2.2, if_neg (fun x => x rfl), w.1, if_pos this]
theorem tim81 {X : Tx} {m0 : Mem} {A r : Int} {g0 : Int → Int} (hX : XO X m0) (hA : TT X A = 70) (r0 : 0 ≤ r) (r1 : r < 30) : ∀ (L : List (Int × Int)) (k : Int) (its : List It3) (td td' : Int → Int) (μ : Mem) (N : Nat), OPL X 21 28 6 slT rlT (-1) L k A its td td' → MTK X A μ → 1 ≤ k → A - k < N → (∀ j, 0 ≤ j → j < 6 → μ 264 (1353 + 7 * r + j) = if td j = -2 then g0 j else td j) → ∃ h, M_setTimes_2 r N μ k = some (up μ 264 h) ∧ (∀ j, 0 ≤ j → j < 6 → h (1353 + 7 * r + j) = if td' j = -2 then g0 j else td' j) ∧ (∀ i, ¬ (1353 + 7 * r ≤ i ∧ i < 1359 + 7 * r) → h i = μ 264 i) := by
  intro L
  induction L with
  | nil =>
    intro k its td td' μ N hO hT k1 hN hP
    have hb := hT.2.1
    obtain ⟨rfl, rfl, rfl, _⟩ := hO
    obtain ⟨N, rfl⟩ : ∃ j, N = j + 1 := ⟨N - 1, by omega⟩
    refine ⟨μ 264, ?_, hP, fun _ _ => rfl⟩
    rw [M_setTimes_2, sAt hX hT (by omega) (Int.le_refl _) (sc := 70) (by omega), if_pos hA, Option.bind_some, if_pos (by decide), up_id]
  | cons sv L ih =>
    intro k its td td' μ N hO hT k1 hN hP
    have hb := hT.2.1
    obtain ⟨its1, its2, e1, t1, t2, h3, h4, h5, rfl, hO2⟩ := hO
    have ol := OPL_l L e1 A its2 _ td' hO2
    have nx : ∀ (s v : Int), sv.1 = s → sv.2 = v → 0 ≤ s → s < 6 → ¬ v = -2 → ∀ j, 0 ≤ j → j < 6 → st1 (μ 264) (1353 + 7 * r + s) v (1353 + 7 * r + j) = if st1 td sv.1 sv.2 j = -2 then g0 j else st1 td sv.1 sv.2 j := by
      intro s v es ev s0 s1 vn j j0 j1
      rw [es, ev]
      by_cases z : j = s
      · rw [z, st1_eq, st1_eq, if_neg vn]
      · rw [st1_ne (by omega), st1_ne z]; exact hP j j0 j1
    rcases h5 with ⟨x1, x2, x3, rfl, rfl⟩ | ⟨x1, x2, rfl, rfl⟩
    · obtain ⟨N, rfl⟩ : ∃ j, N = j + 1 + 1 := ⟨N - 2, by omega⟩
      have hn := nAt hX hT (k := k + 1) (by omega) (by omega) x2
      have es : sv.1 = TT X k - 21 := by rw [h3]; unfold slT; rw [if_pos (by omega)]
      obtain ⟨h, g1, g2, g3⟩ := ih (k + 2) its2 (st1 td sv.1 sv.2) td' (up μ 264 (st1 (μ 264) (1353 + 7 * r + (TT X k - 21)) (Vx X (k + 1)))) N hO2 (MTK_g4 hT) (by omega) (by omega) (by rw [up_eq]; exact nx _ _ es x3 (by omega) (by omega) (by omega))
      refine ⟨h, ?_, g2, fun i hi => ?_⟩
      · rw [(stT_s hX hT (by omega) (by omega) r0 r1).2.2.1 t1 (by omega), hn.2.1, (stT_s hX (MTK_g4 hT) (by omega) (by omega) r0 r1).2.2.2 (Or.inl x2), show k + 1 + 1 = k + 2 by omega, g1, up_up]
      · rw [g3 i hi, up_eq, st1_ne (by omega)]
    · obtain ⟨N, rfl⟩ : ∃ j, N = j + 1 := ⟨N - 1, by omega⟩
      obtain z | z : TT X k = 27 ∨ TT X k = 28 := by omega
      · have es : sv.1 = 4 := by rw [h3, z]; rfl
        obtain ⟨h, g1, g2, g3⟩ := ih (k + 1) its2 (st1 td sv.1 sv.2) td' (up μ 264 (st1 (μ 264) (1357 + 7 * r) (-1))) N hO2 (MTK_g4 hT) (by omega) (by omega) (by
          rw [up_eq]
          have := nx 4 (-1) es x2 (by decide) (by decide) (by decide)
          rwa [show 1353 + 7 * r + 4 = 1357 + 7 * r by omega] at this)
        refine ⟨h, ?_, g2, fun i hi => ?_⟩
        · rw [(stT_s hX hT (by omega) (by omega) r0 r1).1 z, g1, up_up]
        · rw [g3 i hi, up_eq, st1_ne (by omega)]
      · have es : sv.1 = 5 := by rw [h3, z]; rfl
        obtain ⟨h, g1, g2, g3⟩ := ih (k + 1) its2 (st1 td sv.1 sv.2) td' (up μ 264 (st1 (μ 264) (1358 + 7 * r) (-1))) N hO2 (MTK_g4 hT) (by omega) (by omega) (by
          rw [up_eq]
          have := nx 5 (-1) es x2 (by decide) (by decide) (by decide)
          rwa [show 1353 + 7 * r + 5 = 1358 + 7 * r by omega] at this)
        refine ⟨h, ?_, g2, fun i hi => ?_⟩
        · rw [(stT_s hX hT (by omega) (by omega) r0 r1).2.1 z, g1, up_up]
        · rw [g3 i hi, up_eq, st1_ne (by omega)]
