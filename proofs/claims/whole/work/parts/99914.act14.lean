-- L3: enter: cue, copy, delete
theorem tim_s {c : Mem} {g h F : Int → Int} {k r : Int} (hs : SR c 3 g) (hw : WF g) (k0 : 0 ≤ k) (k1 : k < c 3 8) (hr : r = rowOf g (c (c 79 k) 0)) (hF : ∀ j, 0 ≤ j → j < 6 → F j = h (1353 + 7 * r + j)) (hg : ∀ i, ¬ (1353 + 7 * r ≤ i ∧ i < 1359 + 7 * r) → h i = g i) (v1 : ∀ j, 0 ≤ j → j < 4 → 0 ≤ F j ∧ F j ≤ 600) (v2 : -1 ≤ F 4 ∧ F 4 ≤ 600) (v3 : F 5 = -1 ∨ 1 ≤ F 5 ∧ F 5 ≤ 999) : SR (up c (c 79 k + 1) F) 3 h ∧ WF h := by
  obtain ⟨r0, r1, r2, r3, r4, r5⟩ := S3.row hs hw.n k0 k1
  rw [← hr] at r0 r1 r3 r4 r5
  have n30 := (S3.n hs).2
  have q := cq_k hs k0 (by omega)
  constructor
  · refine SR_reg hs hw (p1 := c 79 k + 1) (olo := c 79 k + 1) (ohi := c 79 k + 2) (lo := 1352) (hi := 1562) (fun o a _ => up_ne a) (fun i a => hg i (by omega)) (h7 := Or.inr ?_)
    refine CUR_upd (S3.cur hs) hw.n k0 k1 r0 r1 r3.symm (up_ne (by omega)) (by rw [up_ne (by omega)]) (fun i i0 i1 ik x x0 x1 => ?_) (by rw [up_ne (by omega)]) (fun j j0 j1 => ?_) (fun f' a b => ?_) (fun q' a b => hg _ (by omega)) (fun q' a b qr j j0 j1 => hg _ (by omega)) (fun q' a b qr f' j0 j1 => hg _ (by omega))
    · have := cq_d hs i0 i1 k0 (by omega) ik
      exact up_ne (by omega)
    · rw [up_eq]; exact hF j j0 j1
    · rw [up_ne (by omega), hg _ (by omega)]; exact r5 f' a b
  · refine WF_reg hw (lo := 1352) (hi := 1562) (fun i a => hg i (by omega)) (h7 := Or.inr (fun s s0 s1 => ?_)) (h8 := Or.inr (WFc_n hw.n (fun s a b => hg _ (by omega)))) (h10 := Or.inr (WFc_b hw.b (hg _ (by omega)) (fun s a b => hg _ (by omega))))
    have hh := hw.c s s0 s1
    unfold cn at hh ⊢
    rw [hg (1352 + 7 * s) (by omega)]
    refine ⟨hh.1, hh.2.1, fun hp => ?_⟩
    obtain ⟨a, b, d, e, kk⟩ := hh.2.2 hp
    by_cases z : s = r
    · have x4 := hF 4 (by decide) (by decide)
      have x5 := hF 5 (by decide) (by decide)
      rw [show 1353 + 7 * r + 4 = 1357 + 7 * r by omega] at x4
      rw [show 1353 + 7 * r + 5 = 1358 + 7 * r by omega] at x5
      rw [z, ← x4, ← x5]
      refine ⟨fun j j0 j1 => ?_, v2.1, v2.2, v3, fun i i0 i1 => ?_⟩
      · have := hF (j - 1) (by omega) (by omega)
        rw [show 1353 + 7 * r + (j - 1) = 1352 + 7 * r + j by omega] at this
        rw [← this]; exact v1 (j - 1) (by omega) (by omega)
      · rw [hg _ (by omega), hg (6 * (i / 9)) (by omega)]
        rw [z] at kk
        exact kk i i0 i1
    · rw [hg (1357 + 7 * s) (by omega), hg (1358 + 7 * s) (by omega)]
      refine ⟨fun j j0 j1 => ?_, b, d, e, fun i i0 i1 => ?_⟩
      · rw [hg _ (by omega)]; exact a j j0 j1
      · rw [hg _ (by omega), hg (6 * (i / 9)) (by omega)]; exact kk i i0 i1
def TMV (td : Int → Int) : Prop := ∀ j, 0 ≤ j → j < 6 → td j = -2 ∨ ((j < 4 → 0 ≤ td j ∧ td j ≤ 600) ∧ (j = 4 → -1 ≤ td j ∧ td j ≤ 600) ∧ (j = 5 → td j = -1 ∨ 1 ≤ td j ∧ td j ≤ 999))
theorem tmv {X : Tx} {g : Int → Int} {cur kn b A : Int} {L : List (Int × Int)} {its : List It3} {td td' : Int → Int} (hL : OPL X 21 28 6 slT rlT (-1) L b A its td td') (hF : ∀ x ∈ its, fitem g cur kn x = 0) (h0 : ∀ j, 0 ≤ j → j < 6 → td j = -2) : TMV td' := by
  intro j j0 j1
  have := OPL_v (fitem g cur kn) (fun j v => (0 ≤ j ∧ j < 4 → 0 ≤ v ∧ v ≤ 600) ∧ (j = 4 → -1 ≤ v ∧ v ≤ 600) ∧ (j = 5 → v = -1 ∨ 1 ≤ v ∧ v ≤ 999)) (fun t v q x1 x2 x3 hz => by
      have hz' : FLT g cur kn (rlT t) v = 0 := hz
      have b := FLT_b hz'
      have es : slT t = t - 21 := by unfold slT; rw [if_pos (by omega)]
      rw [es]
      by_cases z : t = 26
      · subst z
        have b' : 1 ≤ v ∧ v ≤ 999 := b
        omega
      · have er : rlT t = 15 := by unfold rlT; rw [if_neg z]
        rw [er] at b
        have b' : 0 ≤ v ∧ v ≤ 600 := b
        omega) (fun t x y z => by
      have es : slT t = t - 23 := by unfold slT; rw [if_neg (by omega)]
      rw [es]; omega) _ _ _ _ _ _ hL hF j
  rw [h0 j j0 j1] at this
  rcases this with a | ⟨a, b, d⟩
  · exact Or.inl a
  · exact Or.inr ⟨fun x => a ⟨j0, x⟩, b, d⟩
/-- a cue comes, if it must, and gets its times -/
theorem cueB {X : Tx} {A b n : Int} {m0 c m : Mem} {L : List (Int × Int)} {its : List It3} {td td' : Int → Int} (hX : XO X m0) (hT : MTK X A m) (hA : TT X A = 70) (hs : SR c 3 (m 264)) (hw : WF (m 264)) (hO : 280 ≤ c 0 0) (n0 : 1 ≤ n) (n1 : n ≤ 999) (hb : ¬ rowOf (m 264) n < 0 ∨ cuesN (m 264) < 30) (htd : c 242 = td') (hL : OPL X 21 28 6 slT rlT (-1) L b A its td td') (h0 : ∀ j, 0 ≤ j → j < 6 → td j = -2) (hv : TMV td') (hb2 : b = 2 ∨ (b = 3 ∧ TT X 2 = 62)) : ∃ k c' h1 h, Ed_bringCue c n = some (k, c') ∧ M_makeCue m n = some (rowOf h n, up m 264 h1) ∧ M_setTimes (up m 264 h1) (rowOf h n) 2 = some (up m 264 h) ∧ SR c' 3 h ∧ WF h ∧ 0 ≤ k ∧ k < c' 3 8 ∧ c' (c' 79 k) 0 = n ∧ (∀ o, ¬ o = 3 → ¬ o = 79 → ¬ (130 ≤ o ∧ o < 220) → c' o = c o) ∧ (∀ i, ¬ (1352 ≤ i ∧ i < 12362) → h i = m 264 i) ∧ ((h1 = m 264 ∧ ¬ rowOf (m 264) n < 0) ∨ (rowOf (m 264) n < 0 ∧ ∃ r, 0 ≤ r ∧ r < 30 ∧ cn (m 264) r ≤ 0 ∧ h1 = newR (m 264) n r)) ∧ (∀ i, ¬ (1353 + 7 * rowOf h n ≤ i ∧ i < 1359 + 7 * rowOf h n) → h i = h1 i) ∧ (∀ j, 0 ≤ j → j < 6 → h (1353 + 7 * rowOf h n + j) = if td' j = -2 then h1 (1353 + 7 * rowOf h n + j) else td' j) ∧ 0 ≤ rowOf h n ∧ rowOf h n < 30 := by
  have bp : 1 ≤ b := by rcases hb2 with rfl | ⟨rfl, _⟩ <;> decide
  obtain ⟨k, c1, h1, b1, b2, b3, b4, b5, b6, b7, b8, b9, b10⟩ := bring hs hw hO n0 n1 hb
  have lb := OPL_l _ _ _ _ _ _ hL
  have hbb := hT.2.1
  obtain ⟨r0, r1, r2, r3, r4, r5⟩ := S3.row b3 b4.n b5 b6
  rw [b7] at r0 r1 r2 r3 r4 r5
  have n30 := (S3.n b3).2
  have q := cq_k b3 b5 (by omega)
  have hO1 : 280 ≤ c1 0 0 := by rw [b8 0 (by decide) (by decide) (by omega)]; exact hO
  have td1 : c1 242 = td' := by rw [b8 242 (by decide) (by decide) (by omega)]; exact htd
  have w5 := (b4.c _ r0 r1).2.2 (by rw [r3]; exact r2)
  have hN : ∀ N : Nat, A - b < (N : Int) → ∃ h, M_setTimes_2 (rowOf h1 n) N (up m 264 h1) b = some (up (up m 264 h1) 264 h) ∧ (∀ j, 0 ≤ j → j < 6 → h (1353 + 7 * rowOf h1 n + j) = if td' j = -2 then h1 (1353 + 7 * rowOf h1 n + j) else td' j) ∧ (∀ i, ¬ (1353 + 7 * rowOf h1 n ≤ i ∧ i < 1359 + 7 * rowOf h1 n) → h i = (up m 264 h1) 264 i) := fun N hN => tim81 (g0 := fun j => h1 (1353 + 7 * rowOf h1 n + j)) hX hA r0 r1 L b its td td' (up m 264 h1) N hL (MTK_g4 hT) bp hN (fun j j0 j1 => by rw [up_eq, h0 j j0 j1, if_pos rfl])
  have key : ∃ h, M_setTimes (up m 264 h1) (rowOf h1 n) 2 = some (up m 264 h) ∧ (∀ j, 0 ≤ j → j < 6 → h (1353 + 7 * rowOf h1 n + j) = if td' j = -2 then h1 (1353 + 7 * rowOf h1 n + j) else td' j) ∧ (∀ i, ¬ (1353 + 7 * rowOf h1 n ≤ i ∧ i < 1359 + 7 * rowOf h1 n) → h i = h1 i) := by
    unfold M_setTimes
    have hbig := big_ge
    rcases hb2 with rfl | ⟨rfl, t62⟩
    · obtain ⟨h, g1, g2, g3⟩ := hN big (by omega)
      rw [up_up] at g1
      rw [up_eq] at g3
      exact ⟨h, g1, g2, g3⟩
    · obtain ⟨N, hNb⟩ := big_s
      obtain ⟨h, g1, g2, g3⟩ := hN N (by omega)
      rw [up_up] at g1
      rw [up_eq] at g3
      refine ⟨h, ?_, g2, g3⟩
      rw [hNb, (stT_s hX (MTK_g4 hT) (by decide) (by omega) r0 r1).2.2.2 (Or.inr t62)]
      exact g1
  obtain ⟨h, e1, e2, e3⟩ := key
  generalize hF : (fun j => if 0 ≤ j ∧ j < 6 then (if c1 242 j = -2 then c1 (c1 79 k + 1) j else c1 242 j) else c1 (c1 79 k + 1) j) = F
  have F1 : ∀ j, 0 ≤ j → j < 6 → F j = h (1353 + 7 * rowOf h1 n + j) := by
    intro j j0 j1
    rw [← hF, e2 j j0 j1, td1]
    dsimp only
    rw [if_pos ⟨j0, j1⟩, r4 j j0 j1]
  have FV : ∀ j, 0 ≤ j → j < 6 → F j = if td' j = -2 then h1 (1353 + 7 * rowOf h1 n + j) else td' j := fun j j0 j1 => by rw [F1 j j0 j1, e2 j j0 j1]
  obtain ⟨s1, s2⟩ := tim_s (F := F) (h := h) b3 b4 b5 b6 (by rw [b7]) F1 e3 (fun j j0 j1 => by
    rw [FV j j0 (by omega)]
    have x := hv j j0 (by omega)
    have y := w5.1 (j + 1) (by omega) (by omega)
    rw [show 1352 + 7 * rowOf h1 n + (j + 1) = 1353 + 7 * rowOf h1 n + j by omega] at y
    split <;> omega) (by
    rw [FV 4 (by decide) (by decide)]
    have x := hv 4 (by decide) (by decide)
    have y := w5.2.1
    have y2 := w5.2.2.1
    rw [show 1353 + 7 * rowOf h1 n + 4 = 1357 + 7 * rowOf h1 n by omega]
    split <;> omega) (by
    rw [FV 5 (by decide) (by decide)]
    have x := hv 5 (by decide) (by decide)
    have y := w5.2.2.2.1
    rw [show 1353 + 7 * rowOf h1 n + 5 = 1358 + 7 * rowOf h1 n by omega]
    split <;> omega)
  have ecn : ∀ q, 0 ≤ q → q < 30 → cn h q = cn h1 q := fun q a b => e3 _ (by omega)
  have hrow : rowOf h n = rowOf h1 n := by
    have := rowOf_at s2.n r0 r1 (by rw [ecn _ r0 r1, r3]; exact r2)
    rwa [ecn _ r0 r1, r3] at this
  refine ⟨k, up c1 (c1 79 k + 1) F, h1, h, ?_, by rw [hrow]; exact b2, by rw [hrow]; exact e1, s1, s2, b5, by rw [up_ne (by omega)]; exact b6, ?_, fun o x y z => ?_, fun i hi => ?_, b10, by rw [hrow]; exact e3, by rw [hrow]; exact e2, by rw [hrow]; exact r0, by rw [hrow]; exact r1⟩
  · unfold Ed_bringCue
    rw [b1, Option.bind_some, Option.bind_some, if_neg (by omega), aI_ok b5 (by omega), Option.bind_some, cq_g1 b3 hO1 b5 (by omega), Option.bind_some, timC q.1 q.2.1 q.2.2, hF]
  · rw [up_ne (show ¬ (79 : Int) = c1 79 k + 1 by omega), up_ne (by omega)]; exact b7
  · rw [up_ne (by omega), b8 o x y z]
  · rw [e3 i (by omega), b9 i hi]
theorem f17 {g : Int → Int} {cur kn v p : Int} (h : fitem g cur kn (17, v, p) = 0) : 1 ≤ v ∧ v ≤ 999 ∧ (¬ rowOf g v < 0 ∨ cuesN g < 30) := by
  have b : 1 ≤ v ∧ v ≤ 999 := FLT_b h
  have e : fitem g cur kn (17, v, p) = _ := fl17
  rw [e, if_pos b] at h
  refine ⟨b.1, b.2, ?_⟩
  by_cases z : rowOf g v < 0
  · rw [if_pos z] at h
    by_cases y : 30 ≤ cuesN g
    · rw [if_pos y] at h; omega
    · exact Or.inr (by omega)
  · exact Or.inl z
theorem ac39 {B : Int} {X : Tx} {A cur kn op : Int} {m0 c m : Mem} {I : List It3} {TL WL : List Q4} {td td' : Int → Int} (E : AE B X A m0 c m) (ht : TT X 0 = 39) (hv : c 241 0 = 39) (htd : c 242 = td') (td0 : ∀ j, 0 ≤ j → j < 12 → td j = -2) (h : q39 X td A I TL WL td' op) (hF : ∀ x ∈ I, ¬ x.1 = 20 → fitem (m 264) cur kn x = 0) : ACT B c m (Ed_perform c) (M_act m) := by
  obtain ⟨hX, hT, hA, a0, hs, hw, hp, hg, kc, km, hO⟩ := E
  obtain ⟨t1, _, _, _, its, L, rfl, hL⟩ := h
  have ol := OPL_l _ _ _ _ _ _ hL
  have hn := nAt hX hT (k := 1) (by decide) (by omega) t1
  have b1 := f17 (hF (17, Vx X 1, Px X 1) (by simp) (by simp))
  have e9 : c 242 9 = Vx X 1 := by rw [htd, OPL_td (j := 9) (fun t x y => by unfold slT; split <;> omega) _ _ _ _ _ _ hL, st1_eq]
  have F1 : ∀ x ∈ its, fitem (m 264) cur kn x = 0 := fun x hx => hF x (List.mem_append.mpr (Or.inr hx)) (by
    have := OPL_k (kn := kn) rlT_k _ _ _ _ _ _ hL x hx
    exact this.2.2.1)
  have h06 : ∀ j, 0 ≤ j → j < 6 → st1 td 9 (Vx X 1) j = -2 := fun j a b => by rw [st1_ne (by omega)]; exact td0 j a (by omega)
  obtain ⟨k, c', h1, h, g1, g2, g3, g4, g5, g6, g7, g8, g9, g10, _⟩ := cueB hX hT hA hs hw hO b1.1 b1.2.1 b1.2.2 htd hL h06 (tmv hL F1 h06) (Or.inl rfl)
  have e1 : Ed_perform c = some c' := by
    unfold Ed_perform Ed_performOnCues
    rw [Option.bind_some, Option.bind_some, Option.bind_some, hv, e9]
    show (((Ed_bringCue c (Vx X 1)).bind fun p3 => some p3.2).bind fun m49 => some m49) = _
    rw [bsm, g1, Option.bind_some]
  have e2 : M_act m = some (up m 264 h) := by
    rw [(ckV hX hT a0 (w := 21) (by decide) (by decide) (by decide) (by decide) ht).2]
    show (((M_makeCue m (m 269 1)).bind fun p3 => (M_setTimes p3.2 p3.1 2).bind fun m6 => some m6).bind fun m1 => some m1) = _
    rw [bsm, hn.2.1, g2, Option.bind_some, bsm, g3]
  exact ACT_s hp hg e1 e2 (fun o a => g9 o (by omega) (by omega) (by omega)) g4 g5
theorem copM {m : Mem} {rs r : Int} (s0 : 0 ≤ rs) (s1 : rs < 30) (r0 : 0 ≤ r) (r1 : r < 30) (hn : ¬ rs = r) : M_copyCue m rs r = some (up m 264 (fun j => if 1353 + 7 * r ≤ j ∧ j < 1359 + 7 * r then m 264 (1353 + 7 * rs + (j - (1353 + 7 * r))) else if 1562 + 360 * r ≤ j ∧ j < 1922 + 360 * r then m 264 (1562 + 360 * rs + (j - (1562 + 360 * r))) else m 264 j)) := by
  unfold M_copyCue
  have h := asg (fun N μ i => M_copyCue_2 rs r N μ i) 264 (1352 + 7 * r) 1 7 (fun i => m 264 (1352 + 7 * rs + i)) m (by
    intro N μ i i0 i1 _ h2 h3
    have e : μ 264 (1352 + 7 * rs + i) = m 264 (1352 + 7 * rs + i) := by
      by_cases z : 1352 + 7 * r + i ≤ 1352 + 7 * rs + i
      · exact h2 _ z
      · exact h3 _ (by omega)
    show M_copyCue_2 rs r (N + 1) μ i = M_copyCue_2 rs r N _ (i + 1)
    rw [M_copyCue_2, if_neg (by omega), jmul_e (y := rs) (by omega) (by omega), jmul_e (by omega) (by omega), jadd_e (y := 7 * rs) (by omega) (by omega), jadd_e (y := 7 * r) (by omega) (by omega), jadd_e (x := 1352 + 7 * rs) (by omega) (by omega), jadd_e (x := 1352 + 7 * r) (by omega) (by omega), aI_ok (by omega) (by omega), Option.bind_some, e, sI_up (by omega) (by omega), Option.bind_some, jadd_e (by omega) (by omega)]) 6 (by omega) big (by have := big_ge; omega)
  have h' : M_copyCue_2 rs r big m 1 = _ := h
  rw [h']
  obtain ⟨N, hN⟩ : ∃ N, big - 6 = N + 1 := ⟨big - 6 - 1, by have := big_ge; omega⟩
  rw [hN]
  show M_copyCue_2 rs r (N + 1) _ _ = _
  rw [M_copyCue_2, if_pos (by omega)]
  generalize hg : (fun j => if 1352 + 7 * r + 1 ≤ j ∧ j < 1352 + 7 * r + 1 + ((6 : Nat) : Int) then m 264 (1352 + 7 * rs + (j - (1352 + 7 * r))) else m 264 j) = g1
  have gl : ∀ j, 1562 ≤ j → g1 j = m 264 j := fun j a => by rw [← hg]; exact if_neg (by omega)
  have k := asg (fun N μ i => M_copyCue_46 rs r N μ i) 264 (1562 + 360 * r) 0 360 (fun i => m 264 (1562 + 360 * rs + i)) (up m 264 g1) (by
    intro N μ i i0 i1 _ h2 h3
    have e : μ 264 (1562 + 360 * rs + i) = m 264 (1562 + 360 * rs + i) := by
      by_cases z : 1562 + 360 * r + i ≤ 1562 + 360 * rs + i
      · rw [h2 _ z, up_eq, gl _ (by omega)]
      · rw [h3 _ (by omega), up_eq, gl _ (by omega)]
    show M_copyCue_46 rs r (N + 1) μ i = M_copyCue_46 rs r N _ (i + 1)
    rw [M_copyCue_46, if_neg (by omega), jmul_e (y := rs) (by omega) (by omega), jmul_e (by omega) (by omega), jadd_e (y := 360 * rs) (by omega) (by omega), jadd_e (y := 360 * r) (by omega) (by omega), jadd_e (x := 1562 + 360 * rs) (by omega) (by omega), jadd_e (x := 1562 + 360 * r) (by omega) (by omega), aI_ok (by omega) (by omega), Option.bind_some, e, sI_up (by omega) (by omega), Option.bind_some, jadd_e (by omega) (by omega)]) 360 (by omega) big (by have := big_ge; omega)
  have k' : M_copyCue_46 rs r big (up m 264 g1) 0 = _ := k
  rw [k']
  obtain ⟨N2, hN2⟩ : ∃ N, big - 360 = N + 1 := ⟨big - 360 - 1, by have := big_ge; omega⟩
  rw [hN2]
  show M_copyCue_46 rs r (N2 + 1) _ _ = _
  rw [M_copyCue_46, if_pos (by omega), up_eq, up_up]
  refine congrArg (fun q => some (up m 264 q)) (funext fun j => ?_)
  by_cases z : 1562 + 360 * r ≤ j ∧ j < 1922 + 360 * r
  · rw [if_pos (show 1562 + 360 * r + 0 ≤ j ∧ j < 1562 + 360 * r + 0 + ((360 : Nat) : Int) by omega), if_neg (by omega), if_pos z]
  · rw [if_neg (show ¬ (1562 + 360 * r + 0 ≤ j ∧ j < 1562 + 360 * r + 0 + ((360 : Nat) : Int)) by omega), ← hg]
    dsimp only
    by_cases y : 1353 + 7 * r ≤ j ∧ j < 1359 + 7 * r
    · rw [if_pos (by omega), if_pos y, show 1352 + 7 * rs + (j - (1352 + 7 * r)) = 1353 + 7 * rs + (j - (1353 + 7 * r)) by omega]
    · rw [if_neg (by omega), if_neg y, if_neg z]
theorem ac43 {B : Int} {X : Tx} {A cur kn op : Int} {m0 c m : Mem} {I : List It3} {TL WL : List Q4} {td td' : Int → Int} (E : AE B X A m0 c m) (ht : TT X 0 = 43) (hv : c 241 0 = 43) (htd : c 242 = td') (h : q43 X td A I TL WL td' op) (hF : ∀ x ∈ I, ¬ x.1 = 20 → fitem (m 264) cur kn x = 0) : ACT B c m (Ed_perform c) (M_act m) := by
  obtain ⟨hX, hT, hA, a0, hs, hw, hp, hg, kc, km, hO⟩ := E
  obtain ⟨t1, t2, t3, aa, rfl, _, _, e', _⟩ := h
  have hn := nAt hX hT (k := 1) (by decide) (by omega) t1
  have hn3 := nAt hX hT (k := 3) (by decide) (by omega) t3
  have hf := f19 hw (hF (19, Vx X 1, Px X 1) (by simp) (by simp)) hn.2.2.1 hn.2.2.2.1
  have f18 := hF (18, Vx X 3, Px X 3) (by simp) (by simp)
  have b3 : 1 ≤ Vx X 3 ∧ Vx X 3 ≤ 999 := FLT_b f18
  have e18 : fitem (m 264) cur kn (18, Vx X 3, Px X 3) = _ := fl18
  rw [e18, if_pos b3] at f18
  have z3 : rowOf (m 264) (Vx X 3) < 0 := by
    by_cases z : rowOf (m 264) (Vx X 3) < 0
    · exact z
    · rw [if_neg z] at f18; omega
  rw [if_pos z3] at f18
  have c30 : cuesN (m 264) < 30 := by
    by_cases z : 30 ≤ cuesN (m 264)
    · rw [if_pos z] at f18; omega
    · omega
  have e9 : c 242 9 = Vx X 1 := by rw [htd, e', st1_ne (by decide), st1_eq]
  have e10 : c 242 10 = Vx X 3 := by rw [htd, e', st1_eq]
  obtain ⟨k, c1, h1, g1, g2, g3, g4, g5, g6, g7, g8, g9, g10⟩ := bring hs hw hO b3.1 b3.2 (Or.inr c30)
  obtain ⟨rn, rn0, rn1, rn2, hh1⟩ : ∃ r, 0 ≤ r ∧ r < 30 ∧ cn (m 264) r ≤ 0 ∧ h1 = newR (m 264) (Vx X 3) r := by
    rcases g10 with ⟨_, a⟩ | ⟨_, a⟩
    · exact absurd z3 a
    · exact a
  obtain ⟨p1, p2, p3, p4, p5⟩ := newR_p (g := m 264) (n := Vx X 3) rn0 rn1
  rw [← hh1] at p1 p2 p3 p4 p5
  have hrn : rowOf h1 (Vx X 3) = rn := by
    have := rowOf_at g4.n rn0 rn1 (by rw [p1]; omega)
    rwa [p1] at this
  have ner : ¬ rowOf (m 264) (Vx X 1) = rn := by intro x; rw [← x] at rn2; omega
  have cs : cn h1 (rowOf (m 264) (Vx X 1)) = Vx X 1 := by rw [(p4 _ hf.1 hf.2.1 ner).1]; exact hf.2.2.2.2
  have hrs : rowOf h1 (Vx X 1) = rowOf (m 264) (Vx X 1) := by
    have := rowOf_at g4.n hf.1 hf.2.1 (by rw [cs]; omega)
    rwa [cs] at this
  generalize hrsv : rowOf (m 264) (Vx X 1) = rs at *
  obtain ⟨s0, s1, s2, s3, s4⟩ := cix_f g3 g4 (n := Vx X 1) (by rw [hrs]; omega)
  have n30 := (S3.n g3).2
  have q := cq_k g3 g5 (by omega)
  have q2 := cq_k g3 s0 (by omega)
  have hO1 : 280 ≤ c1 0 0 := by rw [g8 0 (by decide) (by decide) (by omega)]; exact hO
  have kne : ¬ cix c1 (Vx X 1) = k := by
    intro x
    rw [x, g7] at s2
    rw [s2] at z3
    omega
  obtain ⟨_, _, _, t3', t4, t5⟩ := S3.row g3 g4.n s0 s1
  rw [s2, hrs] at t4 t5
  have dd := cq_d g3 s0 (by omega) g5 (by omega) kne
  have kk : ∀ x, 130 ≤ x → x < 220 → (x - 130) % 3 = 0 → kd x = 1 ∧ kd (x + 1) = 100 ∧ ln (x + 1) = 6 ∧ kd (x + 2) = 100 ∧ ln (x + 2) = 360 := by
    intro x x0 x1 x2
    have a := kd3 (x := x + 1) (n := 6) (by omega) (by omega) (shK_128 (by omega) (by omega))
    have b := kd3 (x := x + 2) (n := 360) (by omega) (by omega) (shK_129 (by omega) (by omega))
    exact ⟨kd_cue x0 x1 x2, a.1, a.2, b.1, b.2⟩
  have ka := kk _ q.1 q.2.1 q.2.2
  have kb := kk _ q2.1 q2.2.1 q2.2.2
  obtain ⟨c2, d1, d2, d3, d4, d5⟩ := cue_cp (μ := c1) (p := c1 79 k) (q := c1 79 (cix c1 (Vx X 1))) ka.1 kb.1 ka.2.1 kb.2.1 ka.2.2.2.1 kb.2.2.2.1 ka.2.2.1 kb.2.2.1 ka.2.2.2.2 kb.2.2.2.2 (uB3 (by omega) (by omega)) (uB3 (by omega) (by omega)) (by omega) (by omega) (by omega) (by omega) (by omega)
  have c279 : c2 79 = c1 79 := d5 79 (by omega) (by omega) (by omega)
  have e1 : Ed_perform c = some (wr c2 (c1 79 k) 0 (Vx X 3)) := by
    unfold Ed_perform Ed_performOnCues
    rw [Option.bind_some, Option.bind_some, Option.bind_some, hv, e9]
    show (((Ed_copyCue c (Vx X 1) (c 242 10)).bind fun m19 => some m19).bind fun m49 => some m49) = _
    rw [bsm, bsm, e10]
    unfold Ed_copyCue
    rw [g1, Option.bind_some, Option.bind_some]
    dsimp only
    rw [s4, Option.bind_some, if_neg (by omega), if_neg (by omega), aI_ok g5 (by omega), Option.bind_some, aI_ok s0 (by omega), Option.bind_some, if_pos ⟨by omega, ka.1⟩, d1, Option.bind_some, aI_ok g5 (by omega), Option.bind_some, c279]
    unfold pf
    rw [if_pos ⟨ka.1, by omega, fun a => absurd a (by decide), fun a => absurd a (by decide)⟩, Option.bind_some]
  generalize hh : (fun j => if 1353 + 7 * rn ≤ j ∧ j < 1359 + 7 * rn then h1 (1353 + 7 * rs + (j - (1353 + 7 * rn))) else if 1562 + 360 * rn ≤ j ∧ j < 1922 + 360 * rn then h1 (1562 + 360 * rs + (j - (1562 + 360 * rn))) else h1 j) = h
  have e2 : M_act m = some (up m 264 h) := by
    rw [(ckV hX hT a0 (w := 26) (by decide) (by decide) (by decide) (by decide) ht).2]
    show (((M_cueRow m (m 269 1)).bind fun x23 => (M_makeCue m (m 269 3)).bind fun p25 => (M_copyCue p25.2 x23 p25.1).bind fun m28 => some m28).bind fun m1 => some m1) = _
    rw [bsm, hn.2.1, hn3.2.1, M_cueRow_e, Option.bind_some, hrsv, g2, Option.bind_some, bsm, hrn, copM hf.1 hf.2.1 rn0 rn1 ner]
    dsimp only
    rw [up_eq, up_up, hh]
  have x1 : ∀ j, 0 ≤ j → j < 6 → h (1353 + 7 * rn + j) = h1 (1353 + 7 * rs + j) := fun j a b => by
    rw [← hh]; dsimp only; rw [if_pos (by omega), show 1353 + 7 * rs + (1353 + 7 * rn + j - (1353 + 7 * rn)) = 1353 + 7 * rs + j by omega]
  have x2 : ∀ f, 0 ≤ f → f < 360 → h (1562 + 360 * rn + f) = h1 (1562 + 360 * rs + f) := fun f a b => by
    rw [← hh]; dsimp only; rw [if_neg (by omega), if_pos (by omega), show 1562 + 360 * rs + (1562 + 360 * rn + f - (1562 + 360 * rn)) = 1562 + 360 * rs + f by omega]
  have x3 : ∀ i, ¬ (1353 + 7 * rn ≤ i ∧ i < 1359 + 7 * rn) → ¬ (1562 + 360 * rn ≤ i ∧ i < 1922 + 360 * rn) → h i = h1 i := fun i a b => by
    rw [← hh]; dsimp only; rw [if_neg a, if_neg b]
  refine ACT_s hp hg e1 e2 (fun o a => by rw [wr_o (by omega), d5 o (by omega) (by omega) (by omega), g8 o (by omega) (by omega) (by omega)]) ?_ ?_
  · refine SR_reg g3 g4 (p1 := c1 79 k) (olo := c1 79 k) (ohi := c1 79 k + 3) (lo := 1352) (hi := 12362) (fun o a b => by rw [wr_o a, d5 o (by omega) (by omega) (by omega)]) (fun i a => x3 i (by omega) (by omega)) (h7 := Or.inr ?_)
    refine CUR_upd (S3.cur g3) g4.n g5 g6 rn0 rn1 (by rw [g7, p1]) (by rw [wr_o (by omega), c279]) (by rw [wr_o (by omega), d5 3 (by omega) (by omega) (by omega)]) (fun i i0 i1 ik x x0 x1 => ?_) (by rw [wr_eq, g7]) (fun j j0 j1 => ?_) (fun f' a b => ?_) (fun q' a b => x3 _ (by omega) (by omega)) (fun q' a b qr j j0 j1 => x3 _ (by omega) (by omega)) (fun q' a b qr f' j0 j1 => x3 _ (by omega) (by omega))
    · have := cq_d g3 i0 i1 g5 (by omega) ik
      rw [wr_o (by omega), d5 _ (by omega) (by omega) (by omega)]
    · rw [wr_o (by omega), d3 j j0 j1, x1 j j0 j1]; exact t4 j j0 j1
    · rw [wr_o (by omega), d4 f' a b, x2 f' a b]; exact t5 f' a b
  · refine WF_reg g4 (lo := 1352) (hi := 12362) (fun i a => x3 i (by omega) (by omega)) (h7 := Or.inr (fun s s0 s1 => ?_)) (h8 := Or.inr (WFc_n g4.n (fun s a b => x3 _ (by omega) (by omega)))) (h10 := Or.inr (WFc_b g4.b (x3 _ (by omega) (by omega)) (fun s a b => x3 _ (by omega) (by omega))))
    have gg := g4.c s s0 s1
    have gs := (g4.c rs hf.1 hf.2.1).2.2 (by rw [cs]; omega)
    unfold cn at gg ⊢
    rw [x3 (1352 + 7 * s) (by omega) (by omega)]
    refine ⟨gg.1, gg.2.1, fun hp => ?_⟩
    by_cases z : s = rn
    · subst z
      have y4 := x1 4 (by decide) (by decide)
      have y5 := x1 5 (by decide) (by decide)
      rw [show 1353 + 7 * s + 4 = 1357 + 7 * s by omega, show 1353 + 7 * rs + 4 = 1357 + 7 * rs by omega] at y4
      rw [show 1353 + 7 * s + 5 = 1358 + 7 * s by omega, show 1353 + 7 * rs + 5 = 1358 + 7 * rs by omega] at y5
      rw [y4, y5]
      refine ⟨fun j j0 j1 => ?_, gs.2.1, gs.2.2.1, gs.2.2.2.1, fun i i0 i1 => ?_⟩
      · have y := x1 (j - 1) (by omega) (by omega)
        rw [show 1353 + 7 * s + (j - 1) = 1352 + 7 * s + j by omega, show 1353 + 7 * rs + (j - 1) = 1352 + 7 * rs + j by omega] at y
        rw [y]; exact gs.1 j j0 j1
      · rw [x2 i i0 i1, x3 (6 * (i / 9)) (by omega) (by omega)]; exact gs.2.2.2.2 i i0 i1
    · obtain ⟨a, b, d, e, kk⟩ := gg.2.2 hp
      rw [x3 (1357 + 7 * s) (by omega) (by omega), x3 (1358 + 7 * s) (by omega) (by omega)]
      refine ⟨fun j j0 j1 => ?_, b, d, e, fun i i0 i1 => ?_⟩
      · rw [x3 _ (by omega) (by omega)]; exact a j j0 j1
      · rw [x3 _ (by omega) (by omega), x3 (6 * (i / 9)) (by omega) (by omega)]; exact kk i i0 i1
