-- L3: enter: unblock, update, sneak
theorem cna_m {c : Mem} {g : Int → Int} (hs : SR c 3 g) {k n : Int} (k0 : 0 ≤ k) (k1 : k < c 3 8) (hk : c (c 79 k) 0 = n) : cna c (n - 1) = k := by
  obtain ⟨_, a1, a2, a3, a4⟩ := cna_s hs (n - 1)
  by_cases z : cna c (n - 1) < k
  · have x := a4 (k - 1) (by omega) (by omega)
    have y := S3.o hs (k - 1) k (by omega) (by omega) k1
    omega
  · by_cases z2 : k < cna c (n - 1)
    · have x := a3 k k0 z2
      omega
    · omega
theorem ac45 {B : Int} {X : Tx} {A cur kn op : Int} {m0 c m : Mem} {I : List It3} {TL WL : List Q4} {td td' : Int → Int} (E : AE B X A m0 c m) (ht : TT X 0 = 45) (hv : c 241 0 = 45) (htd : c 242 = td') (h : q42 X td A I TL WL td' op) (hF : ∀ x ∈ I, ¬ x.1 = 20 → fitem (m 264) cur kn x = 0) : ACT B c m (Ed_perform c) (M_act m) := by
  obtain ⟨hX, hT, hA, a0, hs, hw, hp, hg, kc, km, hO⟩ := E
  obtain ⟨t1, aa, rfl, _, _, e', _⟩ := h
  have hn := nAt hX hT (k := 1) (by decide) (by omega) t1
  have hf := f19 hw (hF (19, Vx X 1, Px X 1) (by simp) (by simp)) hn.2.2.1 hn.2.2.2.1
  have e9 : c 242 9 = Vx X 1 := by rw [htd, e', st1_eq]
  generalize Vx X 1 = n at *
  obtain ⟨k0, k1, k2, k3, k4⟩ := cix_f hs hw (n := n) (by omega)
  generalize cix c n = k at *
  have n30 := (S3.n hs).2
  have q := cq_k hs k0 (by omega)
  have hm1 := cna_m hs k0 k1 k2
  have hup := upTo_c hs hw.n (n - 1)
  rw [hm1] at hup
  have e1 : Ed_perform c = Ed_unblockCue c k := by
    unfold Ed_perform Ed_performOnCues
    rw [Option.bind_some, Option.bind_some, Option.bind_some, hv, e9]
    show (((Sh_indexOf c n).bind fun x23 => (Ed_unblockCue c x23).bind fun m25 => some m25).bind fun m49 => some m49) = _
    rw [bsm, k4, Option.bind_some, bsm]
  have e2 : M_act m = M_unblock_17 (upTo (m 264) (n - 1)) (1562 + 360 * rowOf (m 264) n) big m 0 := by
    rw [(ckV hX hT a0 (w := 29) (by decide) (by decide) (by decide) (by decide) ht).2]
    show (((M_numberUpTo m (jsub (m 269 1) 1)).bind fun x37 => (M_unblock m (m 269 1) x37).bind fun m39 => some m39).bind fun m1 => some m1) = _
    rw [bsm, hn.2.1, jsub_e (by omega) (by omega), M_numberUpTo_e, Option.bind_some, bsm]
    unfold M_unblock
    rw [M_cueRow_e, Option.bind_some, jmul_e (by omega) (by omega), jadd_e (by omega) (by omega), Option.bind_some]
  by_cases k00 : k = 0
  · rw [if_pos k00] at hup
    refine ACT_LCH hp hg (c' := c) (m' := m) ?_ ?_ (LCH_0 hs hw)
    · rw [e1]; unfold Ed_unblockCue; rw [if_neg (by omega)]
    · rw [e2, hup]
      obtain ⟨N, hN⟩ := big_s
      rw [hN, M_unblock_17, if_neg (by decide), if_pos (by decide)]
  · rw [if_neg k00] at hup
    have kb := cna_at hs (k := k - 1) (by omega) (by omega)
    obtain ⟨_, _, bp, _⟩ := S3.row hs hw.n (i := k - 1) (by omega) (by omega)
    rw [hup] at e2
    generalize c (c 79 (k - 1)) 0 = b at *
    rw [show k - 1 + 1 = k by omega] at kb
    have st := loop2 (fun N μ i => Ed_unblockCue_21 k (c 79 k + 2) N μ i) (fun N μ i => M_unblock_17 b (1562 + 360 * rowOf (m 264) n) N μ i) (fun _ c' m' => LCH c m c' m') 0 0 0 360 (by
      intro a b' i c1 m1 i0 i1 hL
      have hrow := LCH_row hL (n := n)
      have hcna := cna_LCH hL hs b
      obtain ⟨l1, l2, l3, l4, l5, l6⟩ := hL
      have c79 : c1 79 = c 79 := l4 79 (by omega)
      have c3 : c1 3 = c 3 := l4 3 (by omega)
      have hO1 : 280 ≤ c1 0 0 := by rw [l4 0 (by omega)]; exact hO
      obtain ⟨r0, r1, r2, r3, r4, r5⟩ := S3.row l2 l3.n k0 (show k < c1 3 8 by rw [c3]; exact k1)
      rw [c79, l6 k k0 (by omega), k2, hrow] at r0 r1 r3 r5
      have rv := r5 i i0 i1
      have vv := (((l3.c _ r0 r1).2.2 (by omega)).2.2.2.2 i i0 i1).1
      have tv := (trk_c l2 l3 hO1 b i0 i1).2
      rw [hcna, kb] at tv
      show ∃ c' m', Ed_unblockCue_21 k (c 79 k + 2) (a + 1) c1 (0 + i) = Ed_unblockCue_21 k (c 79 k + 2) a c' (0 + i + 1) ∧ M_unblock_17 b (1562 + 360 * rowOf (m 264) n) (b' + 1) m1 (0 + i) = M_unblock_17 b (1562 + 360 * rowOf (m 264) n) b' m' (0 + i + 1) ∧ LCH c m c' m'
      rw [show (0 : Int) + i = i by omega, Ed_unblockCue_21, if_neg (by omega), M_unblock_17, if_neg (by omega), if_neg (by omega), rd_chg (by omega) (by omega) (by omega) i0 i1, Option.bind_some, tv, Option.bind_some, rv, jadd_e (x := 1562 + 360 * rowOf (m 264) n) (by omega) (by omega), aI_ok (by omega) (by omega), Option.bind_some, jadd_e (x := i) (by omega) (by omega), Option.bind_some, M_trackedValue_e i0 i1, Option.bind_some]
      by_cases z : m1 264 (1562 + 360 * rowOf (m 264) n + i) = -1
      · rw [if_pos (show m1 264 (1562 + 360 * rowOf (m 264) n + i) < 0 by omega)]
        refine ⟨c1, m1, ?_, rfl, l1, l2, l3, l4, l5, l6⟩
        by_cases y : m1 264 (1562 + 360 * rowOf (m 264) n + i) ≠ trk (m1 264) b i
        · rw [if_pos y]
        · rw [if_neg y, wCh (by omega) (by omega) (by omega) i0 i1, Option.bind_some, st1_id (by rw [rv, z]), up_id]
      · rw [if_neg (show ¬ m1 264 (1562 + 360 * rowOf (m 264) n + i) < 0 by unfold VAL at vv; omega)]
        by_cases y : m1 264 (1562 + 360 * rowOf (m 264) n + i) ≠ trk (m1 264) b i
        · rw [if_pos y, if_pos y]
          exact ⟨_, _, rfl, rfl, l1, l2, l3, l4, l5, l6⟩
        · rw [if_neg y, if_neg y, wCh (by omega) (by omega) (by omega) i0 i1, Option.bind_some, sI_up (by omega) (by omega), Option.bind_some]
          exact ⟨_, _, rfl, rfl, LCH_ch ⟨l1, l2, l3, l4, l5, l6⟩ k0 k1 i0 i1 (by rw [k2]) (Or.inl rfl) (fun x => by omega)⟩) 360 big big 0 c m (by omega) (by omega) b360 b360 (LCH_0 hs hw)
    obtain ⟨c', m', a, b', f1, f2, f3⟩ := st
    have f1' : Ed_unblockCue_21 k (c 79 k + 2) big c 0 = Ed_unblockCue_21 k (c 79 k + 2) (a + 1) c' (0 + 360) := f1
    have f2' : M_unblock_17 b (1562 + 360 * rowOf (m 264) n) big m 0 = M_unblock_17 b (1562 + 360 * rowOf (m 264) n) (b' + 1) m' (0 + 360) := f2
    refine ACT_LCH hp hg (c' := c') (m' := m') ?_ ?_ f3
    · rw [e1]
      unfold Ed_unblockCue
      rw [if_pos (by omega), aI_ok k0 (by omega), Option.bind_some, cq_g2 hs hO k0 (by omega), Option.bind_some, f1', Ed_unblockCue_21, if_pos (by decide)]
    · rw [e2, f2', M_unblock_17, if_pos (by decide)]
theorem ac41 {B : Int} {X : Tx} {A kn op : Int} {m0 c m : Mem} {I : List It3} {TL WL : List Q4} {td td' : Int → Int} (E : AE B X A m0 c m) (ht : TT X 0 = 41) (hv : c 241 0 = 41) (h : q41 X td A I TL WL td' op) (hF : ∀ x ∈ I, ¬ x.1 = 20 → fitem (m 264) (m 259 29) kn x = 0) : ACT B c m (Ed_perform c) (M_act m) := by
  obtain ⟨hX, hT, hA, a0, hs, hw, hp, hg, kc, km, hO⟩ := E
  obtain ⟨aa, rfl, _⟩ := h
  have cc := hp.C
  have hu : ¬ upTo (m 264) (m 259 29) = 0 := by
    have := hF (22, 0, Px X 0) (by simp) (by simp)
    have e : fitem (m 264) (m 259 29) kn (22, 0, Px X 0) = _ := fl22
    rw [e] at this
    intro z
    rw [if_pos z] at this
    omega
  have hup := upTo_c hs hw.n (m 259 29)
  obtain ⟨cn1, cn2, cn3, _, _⟩ := cna_s hs (m 259 29)
  have K0 : 0 < cna c (m 259 29) := by
    by_cases z : cna c (m 259 29) = 0
    · rw [if_pos z] at hup; exact absurd hup hu
    · omega
  rw [if_neg (by omega)] at hup
  have n30 := (S3.n hs).2
  have e1 : Ed_perform c = Ed_updateCues_17 (cna c (m 259 29)) big c 0 := by
    unfold Ed_perform Ed_performOnCues
    rw [Option.bind_some, Option.bind_some, Option.bind_some, hv]
    show (((Ed_updateCues c).bind fun m11 => some m11).bind fun m49 => some m49) = _
    rw [bsm, bsm]
    unfold Ed_updateCues
    rw [cc.1, cn1, Option.bind_some]
  have e2 : M_act m = M_update_11 (upTo (m 264) (m 259 29)) big m 0 := by
    rw [(ckV hX hT a0 (w := 24) (by decide) (by decide) (by decide) (by decide) ht).2]
    show (((M_update m).bind fun m15 => some m15).bind fun m1 => some m1) = _
    rw [bsm, bsm]
    unfold M_update
    rw [M_numberUpTo_e, Option.bind_some]
  have st := loop2 (fun N μ i => Ed_updateCues_17 (cna c (m 259 29)) N μ i) (fun N μ i => M_update_11 (upTo (m 264) (m 259 29)) N μ i) (fun _ c' m' => LCH c m c' m') 0 0 0 360 (by
    intro a b i c1 m1 i0 i1 hL
    have hrow := fun n => LCH_row hL (n := n)
    have hcna := cna_LCH hL hs (m 259 29)
    have hL' := hL
    obtain ⟨l1, l2, l3, l4, l5, l6⟩ := hL
    have c79 : c1 79 = c 79 := l4 79 (by omega)
    have c3 : c1 3 = c 3 := l4 3 (by omega)
    have m259 : m1 259 = m 259 := by rw [l1, up_ne (by decide)]
    have hO1 : 280 ≤ c1 0 0 := by rw [l4 0 (by omega)]; exact hO
    have hh := S3.h l2 i i0 i1
    obtain ⟨hv1, hv2⟩ := l3.h i i0 i1
    have tv := (trk_c l2 l3 hO1 (m 259 29) i0 i1).1
    obtain ⟨o1, o2, o3, _⟩ := oix_s l2 hO1 i0 i1 (K := cna c (m 259 29)) (by omega) (by omega)
    rw [hcna] at tv
    show ∃ c' m', Ed_updateCues_17 (cna c (m 259 29)) (a + 1) c1 (0 + i) = Ed_updateCues_17 (cna c (m 259 29)) a c' (0 + i + 1) ∧ M_update_11 (upTo (m 264) (m 259 29)) (b + 1) m1 (0 + i) = M_update_11 (upTo (m 264) (m 259 29)) b m' (0 + i + 1) ∧ LCH c m c' m'
    rw [show (0 : Int) + i = i by omega, Ed_updateCues_17, if_neg (show ¬ 360 ≤ i by omega), M_update_11, if_neg (show ¬ 360 ≤ i by omega), aI_ok i0 (by omega), Option.bind_some, hh, jadd_e (x := 12362) (by omega) (by omega), aI_ok (by omega) (by omega), Option.bind_some, jadd_e (x := i) (by omega) (by omega)]
    by_cases z : m1 264 (12362 + i) = -1
    · rw [if_pos z, if_neg (show ¬ 0 ≤ m1 264 (12362 + i) by omega)]
      exact ⟨_, _, rfl, rfl, hL'⟩
    · have p : 0 ≤ m1 264 (12362 + i) := by unfold VAL at hv1; omega
      rw [if_neg z, if_neg (show ¬ cna c (m 259 29) ≤ 0 by omega), if_pos p, m259, o1, Option.bind_some, M_originOf_e i0 i1, Option.bind_some]
      have key : ∀ k, 0 ≤ k → k < c 3 8 → ∃ c' m', Ed_updateCues_69 (Ed_updateCues_17 (cna c (m 259 29)) a) c1 (cna c (m 259 29)) i k = Ed_updateCues_17 (cna c (m 259 29)) a c' (i + 1) ∧ M_update_64 (M_update_11 (upTo (m 264) (m 259 29)) b) m1 (upTo (m 264) (m 259 29)) i 1562 360 (c (c 79 k) 0) = M_update_11 (upTo (m 264) (m 259 29)) b m' (i + 1) ∧ LCH c m c' m' := by
        intro k k0 k1
        have q := cq_k hs k0 (by omega)
        obtain ⟨r0, r1, _⟩ := S3.row hs hw.n k0 k1
        have g2 := cq_g2 (m := c1) hs hO1 k0 (by omega)
        unfold Ed_updateCues_69 M_update_64
        rw [aI_ok k0 (by omega), Option.bind_some, c79, g2, Option.bind_some, aI_ok i0 (by omega), Option.bind_some, hh, wCh (by omega) (by omega) (by omega) i0 i1, Option.bind_some, M_cueRow_e, Option.bind_some, hrow, jadd_e (x := 12362) (by omega) (by omega), aI_ok (by omega) (by omega), Option.bind_some, jmul_e (by omega) (by omega), jadd_e (x := 1562) (by omega) (by omega), jadd_e (x := 1562 + 360 * rowOf (m 264) (c (c 79 k) 0)) (by omega) (by omega), sI_up (by omega) (by omega), Option.bind_some, jadd_e (x := i) (by omega) (by omega)]
        exact ⟨_, _, rfl, rfl, LCH_ch hL' k0 k1 i0 i1 rfl hv1 hv2⟩
      by_cases y : oix c1 (cna c (m 259 29)) i < 0
      · rw [if_pos y] at tv
        rw [tv, if_neg (show ¬ (0 : Int) ≠ 0 from fun x => x rfl), if_neg (show ¬ 0 ≤ oix c1 (cna c (m 259 29)) i by omega), jsub_e (by omega) (by omega)]
        have := key (cna c (m 259 29) - 1) (by omega) (by omega)
        rw [← hup] at this
        exact this
      · rw [if_neg y] at tv
        have l := l6 (oix c1 (cna c (m 259 29)) i) (by omega) (by omega)
        rw [c79, l] at tv
        obtain ⟨_, _, np, _⟩ := S3.row hs hw.n (i := oix c1 (cna c (m 259 29)) i) (by omega) (by omega)
        rw [tv, if_pos (show c (c 79 (oix c1 (cna c (m 259 29)) i)) 0 ≠ 0 by omega), if_pos (by omega)]
        exact key _ (by omega) (by omega)) 360 big big 0 c m (by omega) (by omega) b360 b360 (LCH_0 hs hw)
  obtain ⟨c', m', a, b, f1, f2, f3⟩ := st
  have f1' : Ed_updateCues_17 (cna c (m 259 29)) big c 0 = Ed_updateCues_17 (cna c (m 259 29)) (a + 1) c' (0 + 360) := f1
  have f2' : M_update_11 (upTo (m 264) (m 259 29)) big m 0 = M_update_11 (upTo (m 264) (m 259 29)) (b + 1) m' (0 + 360) := f2
  obtain ⟨l1, l2, l3, l4, l5, l6⟩ := f3
  obtain ⟨s1, s2⟩ := clear_s l2 l3
  refine ACT_s hp hg (c' := up c' 80 (fil (c' 80) 360 (-1))) (h := fun j => if 12362 ≤ j ∧ j < 12722 then -1 else m' 264 j) ?_ ?_ (fun o x => by rw [up_ne (by omega), l4 o (by omega)]) s1 s2
  · rw [e1, f1', Ed_updateCues_17, if_pos (by decide), fill3 (by decide) (by decide) k80 (by decide) (by decide), Option.bind_some]
  · rw [e2, f2', M_update_11, if_pos (by decide), clear_m, Option.bind_some]
    conv => lhs; rw [l1]
    rw [up_up, up_eq]
def SNK (B : Int) (c0 m0 c m : Mem) : Prop := (∀ o, ¬ (223 ≤ o ∧ o ≤ 225) → c o = c0 o) ∧ (∀ o, ¬ (273 ≤ o ∧ o ≤ 275) → m o = m0 o) ∧ PR B c m
theorem ac49 {B : Int} {X : Tx} {A cur kn op : Int} {m0 c m : Mem} {I : List It3} {TL WL : List Q4} {td td' : Int → Int} (E : AE B X A m0 c m) (ht : TT X 0 = 49) (hv : c 241 0 = 49) (htd : c 242 = td') (h : q49 X td A I TL WL td' op) (hF : ∀ x ∈ I, ¬ x.1 = 20 → fitem (m 264) cur kn x = 0) : ACT B c m (Ed_perform c) (M_act m) := by
  obtain ⟨hX, hT, hA, a0, hs, hw, hp, hg, kc, km, hO⟩ := E
  obtain ⟨t1, aa, rfl, _, _, e', _⟩ := h
  have hn := nAt hX hT (k := 1) (by decide) (by omega) t1
  have b1 : 0 ≤ Vx X 1 ∧ Vx X 1 ≤ 600 := FLT_b (hF (15, Vx X 1, Px X 1) (by simp) (by simp))
  have e9 : c 242 9 = Vx X 1 := by rw [htd, e', st1_eq]
  generalize Vx X 1 = T at *
  have e1 : Ed_perform c = Ed_sneakAway_2 T big c 0 := by
    unfold Ed_perform Ed_performOnCues
    rw [Option.bind_some, Option.bind_some, Option.bind_some, hv, e9]
    show (((Ed_sneakAway c T).bind fun m11 => some m11).bind fun m49 => some m49) = _
    rw [bsm, bsm]
    rfl
  have e2 : M_act m = M_sneak_2 T big m 0 := by
    rw [(ckV hX hT a0 (w := 33) (by decide) (by decide) (by decide) (by decide) ht).2]
    show ((((M_sneak m (m 269 1)).bind fun m15 => some m15).bind fun m1 => some m1).bind fun m1 => some m1) = _
    rw [bsm, bsm, bsm, hn.2.1]
    rfl
  have st := loop2 (fun N μ i => Ed_sneakAway_2 T N μ i) (fun N μ i => M_sneak_2 T N μ i) (fun _ c' m' => SNK B c m c' m') 0 0 0 360 (by
    intro a b i c1 m1 i0 i1 ⟨l1, l2, l3⟩
    have hs1 : SR c1 3 (m1 264) := by rw [l2 264 (by omega)]; exact SR_congr hs (fun o x y => l1 o (by omega))
    have hw1 : WF (m1 264) := by rw [l2 264 (by omega)]; exact hw
    have kc1 : KON c1 := by
      obtain ⟨h1, h2, h3, h4, h5, h6, h7, h8, h9, h10, h11, h12⟩ := kc
      refine ⟨fun i a b => ?_, fun i a b => ?_, fun i a b => ?_, fun i a b => ?_, fun i a b => ?_, fun i a b => ?_, fun i a b => ?_, fun i a b => ?_, fun i a b => ?_, fun i a b => ?_, fun i a b => ?_, fun i a b => ?_⟩
      · rw [l1 261 (by omega)]; exact h1 i a b
      · rw [l1 262 (by omega)]; exact h2 i a b
      · rw [l1 263 (by omega)]; exact h3 i a b
      · rw [l1 260 (by omega)]; exact h4 i a b
      · rw [l1 (-1) (by omega)]; exact h5 i a b
      · rw [l1 (-2) (by omega)]; exact h6 i a b
      · rw [l1 (-3) (by omega)]; exact h7 i a b
      · rw [l1 (-4) (by omega)]; exact h8 i a b
      · rw [l1 (-5) (by omega)]; exact h9 i a b
      · rw [l1 (-6) (by omega)]; exact h10 i a b
      · rw [l1 232 (by omega)]; exact h11 i a b
      · rw [l1 240 (by omega)]; exact h12 i a b
    have km1 : KON m1 := by
      obtain ⟨h1, h2, h3, h4, h5, h6, h7, h8, h9, h10, h11, h12⟩ := km
      refine ⟨fun i a b => ?_, fun i a b => ?_, fun i a b => ?_, fun i a b => ?_, fun i a b => ?_, fun i a b => ?_, fun i a b => ?_, fun i a b => ?_, fun i a b => ?_, fun i a b => ?_, fun i a b => ?_, fun i a b => ?_⟩
      · rw [l2 261 (by omega)]; exact h1 i a b
      · rw [l2 262 (by omega)]; exact h2 i a b
      · rw [l2 263 (by omega)]; exact h3 i a b
      · rw [l2 260 (by omega)]; exact h4 i a b
      · rw [l2 (-1) (by omega)]; exact h5 i a b
      · rw [l2 (-2) (by omega)]; exact h6 i a b
      · rw [l2 (-3) (by omega)]; exact h7 i a b
      · rw [l2 (-4) (by omega)]; exact h8 i a b
      · rw [l2 (-5) (by omega)]; exact h9 i a b
      · rw [l2 (-6) (by omega)]; exact h10 i a b
      · rw [l2 232 (by omega)]; exact h11 i a b
      · rw [l2 240 (by omega)]; exact h12 i a b
    have hh := S3.h hs1 i i0 i1
    obtain ⟨hv1, _⟩ := hw1.h i i0 i1
    show ∃ c' m', Ed_sneakAway_2 T (a + 1) c1 (0 + i) = Ed_sneakAway_2 T a c' (0 + i + 1) ∧ M_sneak_2 T (b + 1) m1 (0 + i) = M_sneak_2 T b m' (0 + i + 1) ∧ SNK B c m c' m'
    rw [show (0 : Int) + i = i by omega, Ed_sneakAway_2, if_neg (by omega), M_sneak_2, if_neg (by omega), aI_ok i0 (by omega), Option.bind_some, hh, jadd_e (x := 12362) (by omega) (by omega), aI_ok (by omega) (by omega), Option.bind_some, jadd_e (x := i) (by omega) (by omega)]
    by_cases z : m1 264 (12362 + i) = -1
    · rw [if_pos z, if_neg (by omega)]
      exact ⟨_, _, rfl, rfl, l1, l2, l3⟩
    · have p : 0 ≤ m1 264 (12362 + i) := by unfold VAL at hv1; omega
      have lr := lev_r hw1 hv1 (p := i % 9) (by omega) (by omega)
      rw [if_neg z, if_pos p, jrem_e (by omega) (by omega) (by decide) (by decide), Sh_levelFor_e hs1 hw1 kc1 hv1 (by omega) (by omega), Option.bind_some, Pl_fadeFrom_e i0 i1, Option.bind_some, Option.bind_some, M_levelOf_e km1 hv1 (by omega) (by omega), Option.bind_some, sI_ok i0 i1, Option.bind_some, sI_ok i0 i1, Option.bind_some, sI_ok i0 i1, Option.bind_some]
      generalize lev (m1 264) (m1 264 (12362 + i)) (i % 9) = v at *
      have K := l3.K
      have G := l3.G i i0 i1
      have pr := fd_PR (i := i) (t := m1 272 i) (f := v) (x := m1 259 28) (T := T) l3 i0 i1 (by omega) (by omega) lr.1 lr.2 (by omega) (by omega) b1.1 b1.2
      unfold fd at pr
      rw [wr_self G.1, wr_self (show m1 272 i = m1 272 i from rfl)] at pr
      refine ⟨_, _, rfl, rfl, fun o x => ?_, fun o x => ?_, ?_⟩
      · rw [wr_o (by omega), wr_o (by omega), wr_o (by omega)]; exact l1 o x
      · rw [wr_o (by omega), wr_o (by omega), wr_o (by omega)]; exact l2 o x
      · rw [K.2.2.2.2.2.1, wr_o (show ¬ (259 : Int) = 273 by decide)]; exact pr) 360 big big 0 c m (by omega) (by omega) b360 b360 ⟨fun _ _ => rfl, fun _ _ => rfl, hp⟩
  obtain ⟨c', m', a, b, f1, f2, l1, l2, l3⟩ := st
  have f1' : Ed_sneakAway_2 T big c 0 = Ed_sneakAway_2 T (a + 1) c' (0 + 360) := f1
  have f2' : M_sneak_2 T big m 0 = M_sneak_2 T (b + 1) m' (0 + 360) := f2
  have hs1 : SR c' 3 (m' 264) := by rw [l2 264 (by omega)]; exact SR_congr hs (fun o x y => l1 o (by omega))
  have hw1 : WF (m' 264) := by rw [l2 264 (by omega)]; exact hw
  obtain ⟨s1, s2⟩ := clear_s hs1 hw1
  refine ⟨up c' 80 (fil (c' 80) 360 (-1)), up m' 264 (fun j => if 12362 ≤ j ∧ j < 12722 then -1 else m' 264 j), ?_, ?_, by rw [up_eq]; exact s1, by rw [up_eq]; exact s2, ?_, ?_, fun o x y z => ?_, fun o x y z => ?_⟩
  · rw [e1, f1', Ed_sneakAway_2, if_pos (by decide), fill3 (by decide) (by decide) k80 (by decide) (by decide), Option.bind_some]
  · rw [e2, f2', M_sneak_2, if_pos (by decide), clear_m, Option.bind_some]
  · exact PR_congr l3 (fun o x y => up_ne (by omega)) (fun o x y => up_ne (by omega)) (fun f _ _ => by rw [up_ne (by decide)])
  · exact GR_congr hg (fun o x y => by rw [up_ne (by omega), l1 o (by omega)]) (fun o x y => by rw [up_ne (by omega), l2 o (by omega)]) (fun f _ _ => by rw [up_ne (by decide), l2 259 (by omega)])
  · rw [up_ne (by omega), l1 o y]
  · rw [up_ne x, l2 o y]
