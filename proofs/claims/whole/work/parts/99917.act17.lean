-- L3: enter: record, with the next cue kept
def KVf (g : Int → Int) (ra a f : Int) : Int := if g (12362 + f) < 0 then g (1562 + 360 * ra + f) else if g (1562 + 360 * ra + f) < 0 then (if trk g a f < 0 then tbl hmT (f % 9) else trk g a f) else g (1562 + 360 * ra + f)
def KG (g : Int → Int) (ra a : Int) : Int → Int := fun i => if 1562 + 360 * ra ≤ i ∧ i < 1562 + 360 * ra + 360 then KVf g ra a (i - (1562 + 360 * ra)) else g i
theorem keepM {m : Mem} {n ra : Int} (km : KON m) (hw : WF (m 264)) (r0 : 0 ≤ ra) (r1 : ra < 30) : M_record_26 n ra big m 0 = M_record_120 (up m 264 (KG (m 264) ra (cn (m 264) ra))) n := by
  have k := asg (fun N μ i => M_record_26 n ra N μ i) 264 (1562 + 360 * ra) 0 360 (fun f => KVf (m 264) ra (cn (m 264) ra) f) m (by
    intro N μ f f0 f1 h1 h2 h3
    have cnq : ∀ q, 0 ≤ q → q < 30 → cn (μ 264) q = cn (m 264) q := fun q a b => h3 _ (by omega)
    have te : trk (μ 264) (cn (m 264) ra) f = trk (m 264) (cn (m 264) ra) f := by
      refine trk_cong hw.n (WFc_n hw.n cnq) (fun q q0 q1 => Or.inl ⟨cnq q q0 q1, ?_⟩)
      by_cases z : 1562 + 360 * ra + f ≤ 1562 + 360 * q + f
      · exact h2 _ z
      · exact h3 _ (by omega)
    have hm : μ 264 (12362 + f) = m 264 (12362 + f) := h2 _ (by omega)
    have hc : μ 264 (1562 + 360 * ra + f) = m 264 (1562 + 360 * ra + f) := h2 _ (by omega)
    have m261 : μ 261 (f % 9) = tbl hmT (f % 9) := by rw [h1 261 (by decide)]; exact km.hm _ (by omega) (by omega)
    show M_record_26 n ra (N + 1) μ f = M_record_26 n ra N _ (f + 1)
    rw [M_record_26, if_neg (show ¬ 360 ≤ f by omega), if_neg (show ¬ ra < 0 by omega), jmul_e (by omega) (by omega), jadd_e (x := 1562) (by omega) (by omega), jadd_e (x := 1562 + 360 * ra) (by omega) (by omega), Option.bind_some, jadd_e (x := 12362) (by omega) (by omega), aI_ok (i := 12362 + f) (by omega) (by omega), Option.bind_some, hm, aI_ok (i := 1562 + 360 * ra + f) (by omega) (by omega), Option.bind_some, hc, M_cueNumber_e r0 r1, Option.bind_some, cnq ra r0 r1, M_trackedValue_e f0 f1, Option.bind_some, te, jrem_e (by omega) (by omega) (by decide) (by decide), aI_ok (by omega) (by omega), Option.bind_some, m261, jadd_e (x := f) (by omega) (by omega), sI_up (by omega) (by omega), Option.bind_some, sI_up (by omega) (by omega), Option.bind_some]
    unfold KVf
    by_cases z : m 264 (12362 + f) < 0
    · rw [if_pos z, if_pos z, st1_id hc, up_id]
    · rw [if_neg z, if_neg z]
      by_cases y : m 264 (1562 + 360 * ra + f) < 0
      · rw [if_pos y, if_pos y]
        by_cases x : trk (m 264) (cn (m 264) ra) f < 0
        · rw [if_neg (show ¬ 0 ≤ trk (m 264) (cn (m 264) ra) f by omega), if_pos x]
        · rw [if_pos (show 0 ≤ trk (m 264) (cn (m 264) ra) f by omega), if_neg x]
      · rw [if_neg y, if_neg y, st1_id hc, up_id]) 360 (by omega) big (by have := big_ge; omega)
  have k' : M_record_26 n ra big m 0 = _ := k
  rw [k']
  obtain ⟨N, hN⟩ : ∃ N, big - 360 = N + 1 := ⟨big - 360 - 1, by have := big_ge; omega⟩
  rw [hN]
  show M_record_26 n ra (N + 1) _ _ = _
  rw [M_record_26, if_pos (by omega)]
  refine congrArg (fun q => M_record_120 (up m 264 q) n) (funext fun j => ?_)
  unfold KG
  by_cases z : 1562 + 360 * ra ≤ j ∧ j < 1562 + 360 * ra + 360
  · rw [if_pos z, if_pos (by omega)]
  · rw [if_neg z, if_neg (by omega)]
def KV2 (h : Int → Int) (ra a r F : Int) : Int → Int := fun i => if 1562 + 360 * ra ≤ i ∧ i < 1562 + 360 * ra + F then KVf h ra a (i - (1562 + 360 * ra)) else HWV h h r F i
theorem KV2_s {h : Int → Int} {ra a r f : Int} (n0 : ¬ ra = r) (f0 : 0 ≤ f) (f1 : f < 360) : st1 (st1 (KV2 h ra a r f) (1562 + 360 * ra + f) (KVf h ra a f)) (1562 + 360 * r + f) (if h (12362 + f) < 0 then h (1562 + 360 * r + f) else h (12362 + f)) = KV2 h ra a r (f + 1) := by
  funext i
  unfold st1 KV2 HWV
  by_cases z : i = 1562 + 360 * r + f
  · rw [if_pos z, if_neg (show ¬ (1562 + 360 * ra ≤ i ∧ i < 1562 + 360 * ra + (f + 1)) by omega), if_pos (show 1562 + 360 * r ≤ i ∧ i < 1562 + 360 * r + (f + 1) by omega), z, show 1562 + 360 * r + f - (1562 + 360 * r) = f by omega]
  · rw [if_neg z]
    by_cases y : i = 1562 + 360 * ra + f
    · rw [if_pos y, if_pos (show 1562 + 360 * ra ≤ i ∧ i < 1562 + 360 * ra + (f + 1) by omega), y, show 1562 + 360 * ra + f - (1562 + 360 * ra) = f by omega]
    · rw [if_neg y]
      by_cases x : 1562 + 360 * ra ≤ i ∧ i < 1562 + 360 * ra + f
      · rw [if_pos x, if_pos (show 1562 + 360 * ra ≤ i ∧ i < 1562 + 360 * ra + (f + 1) by omega)]
      · rw [if_neg x, if_neg (show ¬ (1562 + 360 * ra ≤ i ∧ i < 1562 + 360 * ra + (f + 1)) by omega)]
        by_cases w : 1562 + 360 * r ≤ i ∧ i < 1562 + 360 * r + f
        · rw [if_pos w, if_pos (show 1562 + 360 * r ≤ i ∧ i < 1562 + 360 * r + (f + 1) by omega)]
        · rw [if_neg w, if_neg (show ¬ (1562 + 360 * r ≤ i ∧ i < 1562 + 360 * r + (f + 1)) by omega)]
theorem KV2_o {h : Int → Int} {ra a r f q : Int} (n0 : ¬ ra = r) (f0 : 0 ≤ f) (f1 : f < 360) : KV2 h ra a r f (1562 + 360 * q + f) = h (1562 + 360 * q + f) := by
  unfold KV2 HWV
  rw [if_neg (by omega), if_neg (by omega)]
/-- the class's loop that keeps the next cue -/
theorem recK {m c1 : Mem} {h : Int → Int} {k r ra a : Int} (hs : SR c1 3 h) (hw : WF h) (hO : 280 ≤ c1 0 0) (kc : KON c1) (k0 : 0 ≤ k) (k1 : k + 1 < c1 3 8) (hr : r = rowOf h (c1 (c1 79 k) 0)) (hra : ra = rowOf h (c1 (c1 79 (k + 1)) 0)) (ha : a = c1 (c1 79 (k + 1)) 0) : ∃ c', Ed_recordCue_44 k 1 big c1 0 = some c' ∧ LCH c1 (up m 264 h) c' (up m 264 (KV2 h ra a r 360)) := by
  have n30 := (S3.n hs).2
  have q := cq_k hs k0 (by omega)
  have q2 := cq_k hs (i := k + 1) (by omega) (by omega)
  obtain ⟨r0, r1, _, r3, _⟩ := S3.row hs hw.n k0 (by omega)
  obtain ⟨s0, s1, _, s3, _⟩ := S3.row hs hw.n (i := k + 1) (by omega) k1
  rw [← hr] at r0 r1 r3
  rw [← hra] at s0 s1 s3
  have n0 : ¬ ra = r := by
    intro x
    rw [x, r3] at s3
    have := S3.o hs k (k + 1) k0 (by omega) k1
    omega
  have kcn : cna c1 a = k + 2 := by rw [ha, cna_at hs (by omega) k1]; omega
  have lp : ∀ (d N : Nat) (f : Int) (c : Mem), d < N → f + d = 360 → 0 ≤ f → LCH c1 (up m 264 h) c (up m 264 (KV2 h ra a r f)) → ∃ c', Ed_recordCue_44 k 1 N c f = some c' ∧ LCH c1 (up m 264 h) c' (up m 264 (KV2 h ra a r 360)) := by
    intro d
    induction d with
    | zero =>
      intro N f c hN e f0 hL
      obtain ⟨N, rfl⟩ : ∃ k, N = k + 1 := ⟨N - 1, by omega⟩
      obtain rfl : f = 360 := by omega
      exact ⟨c, by rw [Ed_recordCue_44, if_pos (by decide)], hL⟩
    | succ d ih =>
      intro N f c hN e f0 hL
      obtain ⟨N, rfl⟩ : ∃ k, N = k + 1 := ⟨N - 1, by omega⟩
      have f1 : f < 360 := by omega
      have hL' := hL
      have hrow := fun n => LCH_row hL (n := n)
      have hcna := cna_LCH hL (by rw [up_eq]; exact hs) a
      rw [up_eq, up_eq] at hrow
      obtain ⟨l1, l2, l3, l4, l5, l6⟩ := hL
      rw [up_eq] at l2 l3 l5
      rw [up_eq] at l5
      have c79 : c 79 = c1 79 := l4 79 (by omega)
      have c3 : c 3 = c1 3 := l4 3 (by omega)
      have hO1 : 280 ≤ c 0 0 := by rw [l4 0 (by omega)]; exact hO
      have hh := S3.h l2 f f0 f1
      rw [l5 _ (by omega)] at hh
      obtain ⟨hv1, hv2⟩ := l3.h f f0 f1
      rw [l5 (12362 + f) (by omega)] at hv1 hv2
      have ks := KV2_s (h := h) (a := a) n0 f0 f1
      rw [Ed_recordCue_44, if_neg (show ¬ 360 ≤ f by omega), aI_ok f0 f1, Option.bind_some, hh, jadd_e (x := f) (by omega) (by omega)]
      by_cases z : h (12362 + f) = -1
      · rw [if_pos z]
        refine ih N (f + 1) c (by omega) (by omega) (by omega) (LCH_x hL' ?_)
        rw [← ks, st1_id (i := 1562 + 360 * ra + f) (by rw [KV2_o n0 f0 f1]; unfold KVf; rw [if_pos (by omega)]), st1_id (by rw [KV2_o n0 f0 f1, if_pos (by omega)])]
      · have p : 0 ≤ h (12362 + f) := by unfold VAL at hv1; omega
        have hp2 := hv2 p
        rw [if_neg z, if_neg (show ¬ (1 : Int) = 0 by decide), jadd_e (x := k) (by omega) (by omega)]
        obtain ⟨_, _, _, _, _, t5⟩ := S3.row l2 l3.n (i := k + 1) (by omega) (by rw [c3]; exact k1)
        rw [c79, l6 (k + 1) (by omega) (by omega), hrow, ← hra] at t5
        have rv := t5 f f0 f1
        rw [KV2_o n0 f0 f1] at rv
        have wv := (((hw.c ra s0 s1).2.2 (by omega)).2.2.2.2 f f0 f1).1
        have key : ∃ c2, Ed_keepTracked c (k + 1) f = some c2 ∧ LCH c1 (up m 264 h) c2 (up m 264 (st1 (KV2 h ra a r f) (1562 + 360 * ra + f) (KVf h ra a f))) := by
          unfold Ed_keepTracked
          rw [aI_ok (by omega) (by omega), Option.bind_some, c79, cq_g2 hs hO1 (by omega) (by omega), Option.bind_some, rd_chg (by omega) (by omega) (by omega) f0 f1, Option.bind_some, rv]
          by_cases y : h (1562 + 360 * ra + f) = -1
          · have sk := tv_skip l2 hO1 (k := k + 1) (by omega) (by omega) f0 f1 (by rw [c79, rv, y])
            have tv := (trk_c l2 l3 hO1 a f0 f1).2
            rw [hcna, kcn, show k + 2 = k + 1 + 1 by omega, sk] at tv
            have te : trk (KV2 h ra a r f) a f = trk h a f := trk_cong hw.n l3.n (fun s x0 x1 => Or.inl ⟨l5 _ (by omega), KV2_o n0 f0 f1⟩)
            rw [te] at tv
            have tval := trk_val hw.c (n := a) f0 f1
            rw [if_neg (fun x => x y), tv, Option.bind_some]
            have fin : ∀ v, v = KVf h ra a f → VAL v → LCH c1 (up m 264 h) (up c (c1 79 (k + 1) + 2) (st1 (c (c1 79 (k + 1) + 2)) f v)) (up m 264 (st1 (KV2 h ra a r f) (1562 + 360 * ra + f) (KVf h ra a f))) := by
              intro v ev vv
              have st := LCH_ch (v := v) (r := ra) (k := k + 1) hL' (by omega) k1 f0 f1 (by rw [up_eq]; exact hra) vv (by rw [up_eq]; exact fun _ => hp2)
              rw [up_eq, up_up, ev] at st
              rw [ev]
              exact st
            have kf : KVf h ra a f = if trk h a f < 0 then tbl hmT (f % 9) else trk h a f := by
              unfold KVf
              rw [if_neg (by omega), if_pos (by omega)]
            by_cases x : trk h a f = -1
            · rw [if_neg (fun w => w x), jrem_e (by omega) (by omega) (by decide) (by decide), aI_ok (by omega) (by omega), Option.bind_some, wCh q2.1 q2.2.1 q2.2.2 f0 f1, Option.bind_some]
              have e1 : c (-1) (f % 9) = tbl hmT (f % 9) := by rw [l4 (-1) (by omega)]; exact kc.home _ (by omega) (by omega)
              exact ⟨_, rfl, fin _ (by rw [e1, kf, if_pos (by omega)]) (by rw [e1]; exact hm_val (by omega) (by omega))⟩
            · rw [if_pos x, wCh q2.1 q2.2.1 q2.2.2 f0 f1, Option.bind_some]
              exact ⟨_, rfl, fin _ (by rw [kf, if_neg (by unfold VAL at tval; omega)]) tval⟩
          · rw [if_pos y]
            refine ⟨c, rfl, LCH_x hL' ?_⟩
            rw [st1_id]
            rw [KV2_o n0 f0 f1]
            unfold KVf
            rw [if_neg (by omega), if_neg (by unfold VAL at wv; omega)]
        obtain ⟨c2, g1, g2⟩ := key
        have g2' := g2
        obtain ⟨_, _, _, g4, _, _⟩ := g2
        have c279 : c2 79 = c1 79 := g4 79 (by omega)
        have c280 : c2 80 = c1 80 := g4 80 (by omega)
        have hO2 : 280 ≤ c2 0 0 := by rw [g4 0 (by omega)]; exact hO
        have hh2 : c2 80 f = h (12362 + f) := by rw [c280, ← l4 80 (by omega)]; exact hh
        rw [g1, Option.bind_some]
        unfold Ed_recordCue_80
        rw [aI_ok k0 (by omega), Option.bind_some, c279, cq_g2 hs hO2 k0 (by omega), Option.bind_some, aI_ok f0 f1, Option.bind_some, hh2, wCh q.1 q.2.1 q.2.2 f0 f1, Option.bind_some, jadd_e (by omega) (by omega)]
        have st := LCH_ch (v := h (12362 + f)) (r := r) g2' k0 (by omega) f0 f1 (by rw [up_eq]; exact hr) hv1 (by rw [up_eq]; intro _; rw [st1_ne (by omega)]; exact hp2)
        refine ih N (f + 1) _ (by omega) (by omega) (by omega) (LCH_x st ?_)
        rw [up_eq, up_up, ← ks, if_neg (by omega)]
  have e0 : KV2 h ra a r 0 = h := by
    funext i
    unfold KV2 HWV
    rw [if_neg (by omega), if_neg (by omega)]
  exact lp 360 big 0 c1 b360 (by omega) (by omega) (by rw [e0]; exact LCH_0 (by rw [up_eq]; exact hs) (by rw [up_eq]; exact hw))
