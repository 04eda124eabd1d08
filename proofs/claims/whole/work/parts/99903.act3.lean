-- L3: enter: subs and waves
def UNI (X : Tx) (c m : Mem) (TL : List Q4) (vb e : Int) (r : RW) : Prop := m 259 21 = r.1 ∧ m 271 = r.2 ∧ m 259 22 = e ∧ ((TL = [] ∧ c 248 1 = 0) ∨ (CR c 248 r ∧ ROK r ∧ 0 < r.1 ∧ ∃ its, SETP X TL (kOf vb) e its))
theorem SETP_n {X : Tx} {TL : List Q4} {k e : Int} {its : List It3} (h : SETP X TL k e its) : ¬ TL = [] := by
  obtain ⟨_, _, _, _, _, rfl, _⟩ := h
  simp
theorem ps11 : tbl piT 11 = 54 := by decide
theorem ps13 : tbl piT 13 = 55 := by decide
theorem ps14 : tbl piT 14 = 56 := by decide
theorem ps15 : tbl piT 15 = 57 := by decide
theorem mk86 {X : Tx} {m0 μ : Mem} {A f : Int} (hX : XO X m0) (hT : MTK X A μ) (a2 : 2 ≤ A) (h : ¬ TT X 2 = 55) : M_makeSub_86 f big μ 0 = some μ := by
  obtain ⟨N, hN⟩ := big_s
  rw [hN, M_makeSub_86]
  by_cases z : μ 259 21 ≤ 0
  · rw [if_pos z]
  · rw [if_neg z, wAt hX hT (k := 2) (w := 13) (by decide) a2 (by decide) (by decide), Option.bind_some, ps13, if_neg h, if_pos rfl]
theorem mk53 {X : Tx} {m0 μ : Mem} {A f : Int} (hX : XO X m0) (hT : MTK X A μ) (a2 : 2 ≤ A) (h : ¬ TT X 2 = 54) : M_makeSub_53 f big μ 0 = M_makeSub_86 f big μ 0 := by
  obtain ⟨N, hN⟩ := big_s
  conv => lhs; rw [hN]
  rw [M_makeSub_53, if_neg (by decide), wAt hX hT (k := 2) (w := 11) (by decide) a2 (by decide) (by decide), Option.bind_some, ps11, if_neg h, if_pos rfl]
theorem mk53n {X : Tx} {m0 m : Mem} {A f : Int} (hX : XO X m0) (hT : MTK X A m) (a2 : 2 ≤ A) (h : TT X 2 = 54) (f0 : 0 ≤ f) (f1 : f ≤ 2000) : M_makeSub_53 f big m 0 = some (up m 264 (fun j => if f ≤ j ∧ j < f + 40 then -1 else m 264 j)) := by
  have h' := asg (fun N μ i => M_makeSub_53 f N μ i) 264 f 0 40 (fun _ => -1) m (by
    intro N μ i i0 i1 h1 _ _
    have hT' : MTK X A μ := MTK_c hT (h1 268 (by decide)) (h1 269 (by decide)) (h1 270 (by decide))
    show M_makeSub_53 f (N + 1) μ i = M_makeSub_53 f N _ (i + 1)
    rw [M_makeSub_53, if_neg (by omega), wAt hX hT' (k := 2) (w := 11) (by decide) a2 (by decide) (by decide), Option.bind_some, ps11, if_pos h, if_neg (by decide), jadd_e (by omega) (by omega), sI_up (by omega) (by omega), Option.bind_some, jadd_e (by omega) (by omega)]) 40 (by omega) big (by have := big_ge; omega)
  have h2 : M_makeSub_53 f big m 0 = _ := h'
  rw [h2]
  obtain ⟨N, hN⟩ : ∃ N, big - 40 = N + 1 := ⟨big - 40 - 1, by have := big_ge; omega⟩
  rw [hN]
  show M_makeSub_53 f (N + 1) _ _ = _
  rw [M_makeSub_53, if_pos (by omega), mk86 hX (MTK_g4 hT) a2 (by omega)]
  refine congrArg (fun q => some (up m 264 q)) (funext fun j => ?_)
  by_cases z : f ≤ j ∧ j < f + 40
  · rw [if_pos z, if_pos (by omega)]
  · rw [if_neg z, if_neg (by omega)]
def SBR (c m : Mem) (o F : Int) (c' m' : Mem) : Prop := ∃ f h, c' = up c o f ∧ m' = up m 264 h ∧ (∀ u, 0 ≤ u → u < 40 → f (u + 1) = h (F + u)) ∧ (∀ u, 0 ≤ u → u < 40 → -1 ≤ h (F + u) ∧ h (F + u) ≤ 1000) ∧ (∀ i, ¬ (F ≤ i ∧ i < F + 40) → h i = m 264 i)
theorem subW {X : Tx} {m0 c m : Mem} {A s e v : Int} {r : RW} (hX : XO X m0) (hT : MTK X A m) (a2 : 2 ≤ A) (t2 : TT X 2 = 55) (hC : CR c 248 r) (hR : ROK r) (q1 : m 259 21 = r.1) (q2 : m 271 = r.2) (q3 : m 259 22 = e) (e0 : 0 ≤ e) (e1 : e + 1 ≤ A) (te : TT X (e + 1) = 75) (hv : Vx X (e + 1) = v) (h10 : c 242 10 = v) (v0 : 0 ≤ v) (v1 : v ≤ 1000) (s0 : 1 ≤ s) (s1 : s ≤ 8) (hs : SR c 3 (m 264)) (hw : WF (m 264)) : ∃ c' m', Ed_makeSub_50 s big c 0 = some c' ∧ M_makeSub_86 (840 + 40 * (s - 1)) big m 0 = some m' ∧ SBR c m (62 + 1 * s) (840 + 40 * (s - 1)) c' m' := by
  obtain ⟨r0, r1, r2, r3⟩ := hR
  have hb := hT.2.1
  have hn := nAt hX hT (k := e + 1) (by omega) e1 te
  have st := loop2 (fun N μ i => Ed_makeSub_50 s N μ i) (fun N μ i => M_makeSub_86 (840 + 40 * (s - 1)) N μ i) (fun _ c' m' => SBR c m (62 + 1 * s) (840 + 40 * (s - 1)) c' m') 0 0 0 r.1 (by
    intro n k i c1 m1 i0 i1 ⟨f, h, ec, em, p1, p2, p3⟩
    subst ec em
    have hr := r2 i i0 i1
    have x1 : up c (62 + 1 * s) f 248 1 = r.1 := by rw [up_ne (by omega), hC.1]
    have x2 : up c (62 + 1 * s) f 249 i = r.2 i + 1 := by rw [up_ne (by omega)]; exact hC.2 i i0 i1
    have x3 : up c (62 + 1 * s) f 242 10 = v := by rw [up_ne (by omega), h10]
    have y1 : up m 264 h 259 21 = r.1 := by rw [up_ne (by decide), q1]
    have y2 : up m 264 h 271 = r.2 := by rw [up_ne (by decide), q2]
    have y3 : up m 264 h 259 22 = e := by rw [up_ne (by decide), q3]
    have y4 : up m 264 h 269 (e + 1) = v := by rw [up_ne (by decide), hn.2.1, hv]
    refine ⟨up c (62 + 1 * s) (st1 f (r.2 i + 1) v), up m 264 (st1 h (840 + 40 * (s - 1) + r.2 i) v), ?_, ?_, ⟨_, _, rfl, rfl, ?_, ?_, ?_⟩⟩
    · show Ed_makeSub_50 s (n + 1) (up c (62 + 1 * s) f) (0 + i) = Ed_makeSub_50 s n _ (0 + i + 1)
      rw [show (0 : Int) + i = i by omega, Ed_makeSub_50, x1, if_neg (by omega), ar_ok (by omega) (by omega), Option.bind_some, aI_ok i0 (by omega), x2, Option.bind_some, x3, wD3 (by omega) (by omega) (shK_59 (by omega) (by omega)) (by omega) (by omega), Option.bind_some, jadd_e (by omega) (by omega), up_eq, up_up]
    · show M_makeSub_86 (840 + 40 * (s - 1)) (k + 1) (up m 264 h) (0 + i) = M_makeSub_86 (840 + 40 * (s - 1)) k _ (0 + i + 1)
      rw [show (0 : Int) + i = i by omega, M_makeSub_86, y1, if_neg (by omega), wAt hX (MTK_g4 hT) (k := 2) (w := 13) (by decide) a2 (by decide) (by decide), Option.bind_some, ps13, if_pos t2, if_neg (by decide), aI_ok i0 (by omega), y2, Option.bind_some, y3, jadd_e (by omega) (by omega), aI_ok (by omega) (by omega), y4, Option.bind_some, jadd_e (by omega) (by omega), sI_up (by omega) (by omega), Option.bind_some, jadd_e (by omega) (by omega), up_eq, up_up]
    · intro u u0 u1
      unfold st1
      by_cases z : u = r.2 i
      · rw [if_pos (by omega), if_pos (by omega)]
      · rw [if_neg (by omega), if_neg (by omega)]; exact p1 u u0 u1
    · intro u u0 u1
      unfold st1
      by_cases z : u = r.2 i
      · rw [if_pos (by omega)]; omega
      · rw [if_neg (by omega)]; exact p2 u u0 u1
    · intro j hj
      rw [st1_ne (by omega)]; exact p3 j hj) r.1.toNat big big 0 c m (by omega) (by omega) (by have := big_ge; omega) (by have := big_ge; omega) ⟨c (62 + 1 * s), m 264, up_id.symm, up_id.symm, fun u u0 u1 => by
        have := S3.s hs (s - 1) u (by omega) (by omega) u0 u1
        rwa [show 63 + (s - 1) = 62 + 1 * s by omega] at this, fun u u0 u1 => hw.s (s - 1) u (by omega) (by omega) u0 u1, fun _ _ => rfl⟩
  obtain ⟨c', m', n, k, f1, f2, f3⟩ := st
  have f1' : Ed_makeSub_50 s big c 0 = Ed_makeSub_50 s (n + 1) c' (0 + r.1) := f1
  have f2' : M_makeSub_86 (840 + 40 * (s - 1)) big m 0 = M_makeSub_86 (840 + 40 * (s - 1)) (k + 1) m' (0 + r.1) := f2
  refine ⟨c', m', ?_, ?_, f3⟩
  · obtain ⟨f, h, ec, em, _⟩ := f3
    rw [f1', Ed_makeSub_50, if_pos (show c' 248 1 ≤ 0 + r.1 by rw [ec, up_ne (by omega), hC.1]; omega)]
  · obtain ⟨f, h, ec, em, _⟩ := f3
    rw [f2', M_makeSub_86, if_pos (show m' 259 21 ≤ 0 + r.1 by rw [em, up_ne (by decide), q1]; omega)]
theorem sub_s {c m c' m' : Mem} {s : Int} (hs : SR c 3 (m 264)) (hw : WF (m 264)) (s0 : 1 ≤ s) (s1 : s ≤ 8) (h : SBR c m (62 + 1 * s) (840 + 40 * (s - 1)) c' m') : SR c' 3 (m' 264) ∧ WF (m' 264) ∧ (∀ o, ¬ (3 ≤ o ∧ o < 220) → c' o = c o) ∧ m' = up m 264 (m' 264) := by
  obtain ⟨f, h, rfl, rfl, p1, p2, p3⟩ := h
  rw [up_eq]
  refine ⟨?_, ?_, fun o a => up_ne (by omega), rfl⟩
  · refine SR_reg hs hw (p1 := 62 + 1 * s) (olo := 62) (ohi := 62) (lo := 840) (hi := 1160) (fun o a _ => up_ne a) (fun i a => p3 i (by omega)) (h4 := Or.inr (fun t u t0 t1 u0 u1 => ?_))
    by_cases z : t = s - 1
    · rw [z, show 63 + (s - 1) = 62 + 1 * s by omega, up_eq, p1 u u0 u1]
    · rw [up_ne (by omega), p3 _ (by omega)]
      exact S3.s hs t u t0 t1 u0 u1
  · refine WF_reg hw (lo := 840) (hi := 1160) (fun i a => p3 i (by omega)) (h4 := Or.inr (fun t u t0 t1 u0 u1 => ?_))
    by_cases z : t = s - 1
    · rw [z]; exact p2 u u0 u1
    · rw [p3 _ (by omega)]
      exact hw.s t u t0 t1 u0 u1
theorem k71 : shK (71 - 3) = (100, 9) := by decide +kernel
theorem ac37 {B : Int} {X : Tx} {A cur kn op e : Int} {m0 c m : Mem} {I : List It3} {TL WL : List Q4} {td td' : Int → Int} {r : RW} (E : AE B X A m0 c m) (ht : TT X 0 = 37) (hv : c 241 0 = 37) (hop : c 241 1 = op) (htd : c 242 = td') (h : q37 X td A I TL WL td' op) (hF : ∀ x ∈ I, ¬ x.1 = 20 → fitem (m 264) cur kn x = 0) (hU : UNI X c m TL 37 e r) : ACT B c m (Ed_perform c) (M_act m) := by
  obtain ⟨hX, hT, hA, a0, hs, hw, hp, hg, kc, km, hO⟩ := E
  obtain ⟨q1, q2, q3, hU⟩ := hU
  obtain ⟨t1, _, h⟩ := h
  have A2 : 2 ≤ A := by
    rcases h with ⟨_, _, its, e2, _, hS, _, _, a, _⟩ | ⟨_, _, _, a, _⟩
    · have := SETP_l hS; omega
    · omega
  have hn := nAt hX hT (k := 1) (by decide) (by omega) t1
  have b1 : 1 ≤ Vx X 1 ∧ Vx X 1 ≤ 8 := by
    rcases h with ⟨_, _, its, e2, rfl, _⟩ | ⟨_, _, _, _, rfl, _⟩
    · exact FLT_b (hF (7, Vx X 1, Px X 1) (by simp) (by simp))
    · exact FLT_b (hF (7, Vx X 1, Px X 1) (by simp) (by simp))
  have e9 : c 242 9 = Vx X 1 := by
    rw [htd]
    rcases h with ⟨_, _, its, e2, _, _, _, _, _, e'⟩ | ⟨_, _, _, _, _, e'⟩
    · rw [e', st1_ne (by decide), st1_eq]
    · rw [e', st1_eq]
  have e1 : Ed_perform c = Ed_makeSub c (Vx X 1) := by
    unfold Ed_perform
    rw [Option.bind_some, Option.bind_some, hv, e9]
    show ((Ed_makeSub c (Vx X 1)).bind fun m23 => some m23) = _
    rw [bsm]
  have e2 : M_act m = M_makeSub m (Vx X 1 - 1) := by
    rw [(ckV hX hT a0 (w := 12) (by decide) (by decide) (by decide) (by decide) ht).2]
    show ((M_makeSub m (jsub (m 269 1) 1)).bind fun m22 => some m22) = _
    rw [bsm, hn.2.1, jsub_e (by omega) (by omega)]
  have em : M_makeSub m (Vx X 1 - 1) = (if TT X 2 = 56 then M_makeSub_30 (up m 264 (st1 (m 264) (1160 + (Vx X 1 - 1)) 0)) (Vx X 1 - 1) (840 + 40 * (Vx X 1 - 1)) else M_makeSub_30 m (Vx X 1 - 1) (840 + 40 * (Vx X 1 - 1))) := by
    unfold M_makeSub
    rw [Option.bind_some, jmul_e (by omega) (by omega), jadd_e (by omega) (by omega), wAt hX hT (k := 2) (w := 14) (by decide) (by omega) (by decide) (by decide), Option.bind_some, ps14, jadd_e (by omega) (by omega), sI_up (by omega) (by omega), Option.bind_some]
    by_cases z : TT X 2 = 56
    · rw [if_pos z, if_neg (by decide), if_pos z]
    · rw [if_neg z, if_pos rfl, if_neg z]
  have e30 : ∀ μ, MTK X A μ → M_makeSub_30 μ (Vx X 1 - 1) (840 + 40 * (Vx X 1 - 1)) = (if TT X 2 = 57 then M_makeSub_53 (840 + 40 * (Vx X 1 - 1)) big (up μ 264 (st1 (μ 264) (1160 + (Vx X 1 - 1)) 1)) 0 else M_makeSub_53 (840 + 40 * (Vx X 1 - 1)) big μ 0) := by
    intro μ hμ
    unfold M_makeSub_30
    rw [wAt hX hμ (k := 2) (w := 15) (by decide) (by omega) (by decide) (by decide), Option.bind_some, ps15, jadd_e (by omega) (by omega), sI_up (by omega) (by omega), Option.bind_some]
    by_cases z : TT X 2 = 57
    · rw [if_pos z, if_neg (by decide), if_pos z]
    · rw [if_neg z, if_pos rfl, if_neg z]
  have mas : ∀ v, (v = 0 ∨ v = 1) → SR (up c 71 (st1 (c 71) (Vx X 1) v)) 3 (st1 (m 264) (1160 + (Vx X 1 - 1)) v) ∧ WF (st1 (m 264) (1160 + (Vx X 1 - 1)) v) := by
    intro v hv
    constructor
    · refine SR_reg hs hw (p1 := 71) (olo := 71) (ohi := 71) (lo := 1160) (hi := 1168) (fun o a _ => up_ne a) (fun i a => st1_ne (by omega)) (h5 := Or.inr (fun s s0 s1 => ?_))
      rw [up_eq]
      unfold st1
      by_cases z : s + 1 = Vx X 1
      · rw [if_pos z, if_pos (by omega)]
      · rw [if_neg z, if_neg (by omega)]
        exact S3.m hs s s0 s1
    · refine WF_reg hw (lo := 1160) (hi := 1168) (fun i a => st1_ne (by omega)) (h5 := Or.inr (fun s s0 s1 => ?_))
      unfold st1
      by_cases z : 1160 + s = 1160 + (Vx X 1 - 1)
      · rw [if_pos z]; exact hv
      · rw [if_neg z]; exact hw.m s s0 s1
  rcases h with ⟨t2, eop, its, e3, rfl, hS, te, te1, aa, e'⟩ | ⟨t2, eop, _, aa, rfl, e'⟩
  · have sl := SETP_l hS
    obtain ⟨hC, hR, rp, its', hS'⟩ : CR c 248 r ∧ ROK r ∧ 0 < r.1 ∧ ∃ its, SETP X TL (kOf 37) e its := by
      rcases hU with ⟨a, _⟩ | a
      · exact absurd a (SETP_n hS)
      · exact a
    obtain rfl : e3 = e := SETP_u hS hS'
    have v1 : 0 ≤ Vx X (e3 + 1) ∧ Vx X (e3 + 1) ≤ 1000 := FLT_b (hF (13, Vx X (e3 + 1), Px X (e3 + 1)) (by simp) (by simp))
    obtain ⟨c', m', d1, d2, d3⟩ := subW hX hT A2 t2 hC hR q1 q2 q3 (by omega) (by omega) te1 rfl (by rw [htd, e', st1_eq]) v1.1 v1.2 b1.1 b1.2 hs hw
    obtain ⟨f1, f2, f3, f4⟩ := sub_s hs hw b1.1 b1.2 d3
    refine ACT_s (h := m' 264) hp hg (c' := c') ?_ ?_ f3 f1 f2
    · rw [e1]
      unfold Ed_makeSub
      rw [Option.bind_some, hop, eop, if_neg (by decide), if_pos rfl, d1]
    · rw [e2, em, if_neg (by omega), e30 m hT, if_neg (by omega), mk53 hX hT A2 (by omega), d2, ← f4]
  · rcases t2 with t2 | t2 | t2
    · have kk : shK (62 + 1 * Vx X 1 - 3) = (100, 41) := shK_59 (by omega) (by omega)
      refine ACT_s hp hg (c' := up c (62 + 1 * Vx X 1) (fil (c (62 + 1 * Vx X 1)) 41 (-1))) (h := fun j => if 840 + 40 * (Vx X 1 - 1) ≤ j ∧ j < 840 + 40 * (Vx X 1 - 1) + 40 then -1 else m 264 j) ?_ ?_ (fun o a => up_ne (by omega)) ?_ ?_
      · rw [e1]
        unfold Ed_makeSub
        rw [Option.bind_some, hop, eop, t2, if_pos rfl, ar_ok (by omega) (by omega), Option.bind_some, fill3 (by omega) (by omega) kk (by decide) (by decide), Option.bind_some]
      · rw [e2, em, if_neg (by omega), e30 m hT, if_neg (by omega), mk53n hX hT A2 t2 (by omega) (by omega)]
      · refine SR_reg hs hw (p1 := 62 + 1 * Vx X 1) (olo := 62) (ohi := 62) (lo := 840) (hi := 1160) (fun o a _ => up_ne a) (fun i a => if_neg (by omega)) (h4 := Or.inr (fun t u t0 t1 u0 u1 => ?_))
        by_cases z : t = Vx X 1 - 1
        · rw [z, show 63 + (Vx X 1 - 1) = 62 + 1 * Vx X 1 by omega, up_eq, if_pos (by omega)]
          exact if_pos (by omega)
        · rw [up_ne (by omega), if_neg (by omega)]
          exact S3.s hs t u t0 t1 u0 u1
      · refine WF_reg hw (lo := 840) (hi := 1160) (fun i a => if_neg (by omega)) (h4 := Or.inr (fun t u t0 t1 u0 u1 => ?_))
        have w := hw.s t u t0 t1 u0 u1
        by_cases z : 840 + 40 * (Vx X 1 - 1) ≤ 840 + 40 * t + u ∧ 840 + 40 * t + u < 840 + 40 * (Vx X 1 - 1) + 40
        · simp only [if_pos z]; decide
        · simp only [if_neg z]; exact w
    · obtain ⟨s1, s2⟩ := mas 0 (Or.inl rfl)
      refine ACT_s hp hg (c' := up c 71 (st1 (c 71) (Vx X 1) 0)) ?_ ?_ (fun o a => up_ne (by omega)) s1 s2
      · rw [e1]
        unfold Ed_makeSub
        rw [Option.bind_some, hop, eop, t2, if_neg (by decide), if_neg (by decide), if_pos (by decide), sI_up (by omega) (by omega), Option.bind_some]
      · rw [e2, em, if_pos t2, e30 _ (MTK_g4 hT), if_neg (by omega), mk53 hX (MTK_g4 hT) A2 (by omega), mk86 hX (MTK_g4 hT) A2 (by omega)]
    · obtain ⟨s1, s2⟩ := mas 1 (Or.inr rfl)
      refine ACT_s hp hg (c' := up c 71 (st1 (c 71) (Vx X 1) 1)) ?_ ?_ (fun o a => up_ne (by omega)) s1 s2
      · rw [e1]
        unfold Ed_makeSub
        rw [Option.bind_some, hop, eop, t2, if_neg (by decide), if_neg (by decide), if_neg (by decide), sI_up (by omega) (by omega), Option.bind_some]
      · rw [e2, em, if_neg (by omega), e30 m hT, if_pos t2, mk53 hX (MTK_g4 hT) A2 (by omega), mk86 hX (MTK_g4 hT) A2 (by omega)]
theorem waveC {c : Mem} {v : Int} (v0 : 1 ≤ v) (v1 : v ≤ 4) : Ed_makeWave c v = Row_copyFrom (up c (73 + 1 * v) (fun j => if 0 ≤ j ∧ j < 5 then (if c 242 j = -2 then -1 else c 242 j) else c (73 + 1 * v) j)) (120 + 2 * v) 248 := by
  unfold Ed_makeWave
  have h := asg (fun N μ i => Ed_makeWave_2 v N μ i) (73 + 1 * v) 0 0 5 (fun i => if c 242 i = -2 then -1 else c 242 i) c (by
    intro N μ i i0 i1 h1 _ _
    show Ed_makeWave_2 v (N + 1) μ i = Ed_makeWave_2 v N _ (i + 1)
    rw [Ed_makeWave_2, if_neg (by omega), ar_ok (by omega) (by omega), Option.bind_some, told_e i0 (by omega), Option.bind_some, h1 242 (by omega), wD3 (by omega) (by omega) (shK_70 (by omega) (by omega)) i0 i1, Option.bind_some, jadd_e (by omega) (by omega), show (0 : Int) + i = i by omega]) 5 (by omega) big (by have := big_ge; omega)
  have h' : Ed_makeWave_2 v big c 0 = _ := h
  rw [h']
  obtain ⟨N, hN⟩ : ∃ N, big - 5 = N + 1 := ⟨big - 5 - 1, by have := big_ge; omega⟩
  rw [hN]
  show Ed_makeWave_2 v (N + 1) _ _ = _
  rw [Ed_makeWave_2, if_pos (by omega), ar_ok (by omega) (by omega), Option.bind_some, if_pos ⟨by omega, kd_row (by omega) (by omega) (by omega)⟩, bsm]
  refine congrArg (fun q => Row_copyFrom (up c (73 + 1 * v) q) (120 + 2 * v) 248) (funext fun j => ?_)
  by_cases z : 0 ≤ j ∧ j < 5
  · rw [if_pos z, if_pos (by omega), show j - 0 = j by omega]
  · rw [if_neg z, if_neg (by omega)]
theorem rsaw : ∀ v ∈ List.range 70, 18 ≤ tbl piT (v : Int) → tbl piT (v : Int) < 21 → (v : Int) - 37 = tbl piT (v : Int) - 18 := by decide +kernel
theorem wrdV {X : Tx} {m0 m : Mem} {A k : Int} (hX : XO X m0) (hT : MTK X A m) (k0 : 0 ≤ k) (k1 : k ≤ A) (h : TT X k < 70) : m 269 k = Vx X k ∧ TT X k = tbl piT (Vx X k) ∧ 0 ≤ Vx X k ∧ Vx X k < 70 ∧ Kx X k = 1 ∧ m 268 k = 1 := by
  have hb := hT.2.1
  have hc := TT_c hX (a := k) k0 (by have := hT.1; omega) (by omega)
  obtain ⟨q1, q2, _⟩ := hT.2.2 k k0 k1
  have hK : Kx X k = 1 := by omega
  exact ⟨q2 (Or.inl hK), by omega, by omega, by omega, hK, by rw [q1, hK]⟩
