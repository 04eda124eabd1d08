-- L3: enter: one value of a cue; block, unblock, update
theorem CUR_upd {c d : Mem} {g h : Int → Int} {k r : Int} (hs : CUR c g) (hn : WF_n g) (k0 : 0 ≤ k) (k1 : k < c 3 8) (r0 : 0 ≤ r) (r1 : r < 30) (hk : c (c 79 k) 0 = cn g r) (o1 : d 79 = c 79) (o3 : d 3 8 = c 3 8) (oo : ∀ i, 0 ≤ i → i < 30 → ¬ i = k → ∀ x, 0 ≤ x → x ≤ 2 → d (c 79 i + x) = c (c 79 i + x)) (ok : d (c 79 k) 0 = c (c 79 k) 0) (t1 : ∀ j, 0 ≤ j → j < 6 → d (c 79 k + 1) j = h (1353 + 7 * r + j)) (t2 : ∀ f, 0 ≤ f → f < 360 → d (c 79 k + 2) f = h (1562 + 360 * r + f)) (en : ∀ q, 0 ≤ q → q < 30 → cn h q = cn g q) (e1 : ∀ q, 0 ≤ q → q < 30 → ¬ q = r → ∀ j, 0 ≤ j → j < 6 → h (1353 + 7 * q + j) = g (1353 + 7 * q + j)) (e2 : ∀ q, 0 ≤ q → q < 30 → ¬ q = r → ∀ f, 0 ≤ f → f < 360 → h (1562 + 360 * q + f) = g (1562 + 360 * q + f)) : CUR d h := by
  obtain ⟨h1, h2, h3, h4, h5, h6⟩ := hs
  have z0 : ∀ i, 0 ≤ i → i < 30 → d (c 79 i) 0 = c (c 79 i) 0 := by
    intro i i0 i1
    by_cases z : i = k
    · rw [z]; exact ok
    · have := oo i i0 i1 z 0 (by omega) (by omega)
      rw [Int.add_zero] at this
      rw [this]
  refine ⟨by rw [o1]; exact h1, by rw [o1]; exact h2, by rw [o3]; exact h3, ?_, ?_, ?_⟩
  · intro i j i0 ij j1
    rw [o3] at j1
    rw [o1, z0 i i0 (by omega), z0 j (by omega) (by omega)]
    exact h4 i j i0 ij j1
  · intro i i0 i1
    rw [o3] at i1
    rw [o1, z0 i i0 (by omega)]
    by_cases z : i = k
    · subst z
      have p : 0 < cn g r := by
        obtain ⟨q, _, _, q2, q3, _⟩ := h5 i i0 i1
        omega
      exact ⟨r, r0, r1, by rw [en r r0 r1]; exact p, by rw [en r r0 r1]; exact hk, t1, t2⟩
    · obtain ⟨q, q0, q1, q2, q3, q4, q5⟩ := h5 i i0 i1
      have qr : ¬ q = r := by
        intro e
        subst e
        have := h4 i k i0
        have := h4 k i k0
        omega
      refine ⟨q, q0, q1, by rw [en q q0 q1]; exact q2, by rw [en q q0 q1]; exact q3, fun j j0 j1 => ?_, fun f f0 f1 => ?_⟩
      · rw [oo i i0 (by omega) z 1 (by omega) (by omega), e1 q q0 q1 qr j j0 j1]; exact q4 j j0 j1
      · rw [oo i i0 (by omega) z 2 (by omega) (by omega), e2 q q0 q1 qr f f0 f1]; exact q5 f f0 f1
  · intro q q0 q1 q2
    rw [en q q0 q1] at q2 ⊢
    obtain ⟨i, i0, i1, i2⟩ := h6 q q0 q1 q2
    refine ⟨i, i0, by rw [o3]; exact i1, ?_⟩
    rw [o1, z0 i i0 (by omega)]
    exact i2
theorem cq_d {c : Mem} {g : Int → Int} (hs : SR c 3 g) {i k : Int} (i0 : 0 ≤ i) (i1 : i < 30) (k0 : 0 ≤ k) (k1 : k < 30) (h : ¬ i = k) : c 79 i + 3 ≤ c 79 k ∨ c 79 k + 3 ≤ c 79 i := by
  have a := cq_k hs i0 i1
  have b := cq_k hs k0 k1
  have d : ¬ c 79 i = c 79 k := by
    by_cases z : i < k
    · exact S3.i hs i k i0 z k1
    · exact fun e => S3.i hs k i k0 (by omega) i1 e.symm
  omega
/-- a value of a cue is set in both -/
theorem SR_ch {c : Mem} {g : Int → Int} {k f v r : Int} (hs : SR c 3 g) (hw : WF g) (k0 : 0 ≤ k) (k1 : k < c 3 8) (f0 : 0 ≤ f) (f1 : f < 360) (hr : r = rowOf g (c (c 79 k) 0)) : SR (up c (c 79 k + 2) (st1 (c (c 79 k + 2)) f v)) 3 (st1 g (1562 + 360 * r + f) v) := by
  subst hr
  obtain ⟨r0, r1, r2, r3, r4, r5⟩ := S3.row hs hw.n k0 k1
  have n30 := (S3.n hs).2
  have q := cq_k hs k0 (by omega)
  refine SR_reg hs hw (p1 := c 79 k + 2) (olo := c 79 k + 2) (ohi := c 79 k + 3) (lo := 1562) (hi := 12362) (fun o a _ => up_ne a) (fun i a => st1_ne (by omega)) (h7 := Or.inr ?_)
  refine CUR_upd (S3.cur hs) hw.n k0 k1 r0 r1 r3.symm (up_ne (by omega)) (by rw [up_ne (by omega)]) (fun i i0 i1 ik x x0 x1 => ?_) (by rw [up_ne (by omega)]) (fun j j0 j1 => ?_) (fun f' a b => ?_) (fun q' a b => st1_ne (by omega)) (fun q' a b qr j j0 j1 => st1_ne (by omega)) (fun q' a b qr f' j0 j1 => st1_ne (by omega))
  · have := cq_d hs i0 i1 k0 (by omega) ik
    exact up_ne (by omega)
  · rw [up_ne (by omega), st1_ne (by omega)]; exact r4 j j0 j1
  · rw [up_eq]
    unfold st1
    by_cases z : f' = f
    · rw [if_pos z, if_pos (by omega)]
    · rw [if_neg z, if_neg (by omega)]; exact r5 f' a b
theorem WF_ch {g : Int → Int} {r f v : Int} (hw : WF g) (r0 : 0 ≤ r) (r1 : r < 30) (f0 : 0 ≤ f) (f1 : f < 360) (hv : VAL v) (hh : 0 ≤ v → hasP (g (6 * (f / 9))) (f % 9)) : WF (st1 g (1562 + 360 * r + f) v) := by
  refine WF_reg hw (lo := 1562) (hi := 12362) (fun i a => st1_ne (by omega)) (h7 := Or.inr (fun q q0 q1 => ?_))
  have h := hw.c q q0 q1
  unfold cn at h ⊢
  rw [st1_ne (by omega), st1_ne (by omega), st1_ne (by omega)]
  refine ⟨h.1, h.2.1, fun hp => ?_⟩
  obtain ⟨a, b, d, e, k⟩ := h.2.2 hp
  refine ⟨fun j j0 j1 => by rw [st1_ne (by omega)]; exact a j j0 j1, b, d, e, fun i i0 i1 => ?_⟩
  rw [st1_ne (show ¬ 6 * (i / 9) = 1562 + 360 * r + f by omega)]
  by_cases z : 1562 + 360 * q + i = 1562 + 360 * r + f
  · rw [z, st1_eq]
    obtain rfl : i = f := by omega
    exact ⟨hv, hh⟩
  · rw [st1_ne z]; exact k i i0 i1
/-- values of cues have changed, nothing else -/
def LCH (c0 m0 c m : Mem) : Prop := m = up m0 264 (m 264) ∧ SR c 3 (m 264) ∧ WF (m 264) ∧ (∀ o, ¬ (130 ≤ o ∧ o < 220) → c o = c0 o) ∧ (∀ i, ¬ (1562 ≤ i ∧ i < 12362) → m 264 i = m0 264 i) ∧ (∀ i, 0 ≤ i → i < 30 → c (c0 79 i) = c0 (c0 79 i))
theorem LCH_0 {c m : Mem} (hs : SR c 3 (m 264)) (hw : WF (m 264)) : LCH c m c m := ⟨up_id.symm, hs, hw, fun _ _ => rfl, fun _ _ => rfl, fun _ _ _ => rfl⟩
theorem LCH_row {c0 m0 c m : Mem} (h : LCH c0 m0 c m) {n : Int} : rowOf (m 264) n = rowOf (m0 264) n := by
  have e : ∀ r : Int, 0 ≤ r → r < 30 → cn (m 264) r = cn (m0 264) r := fun r a b => h.2.2.2.2.1 _ (by omega)
  unfold rowOf
  have : ∀ k : Nat, k ≤ 30 → itr (fun r s => if 0 < n ∧ cn (m 264) r = n then r else s) (-1) k = itr (fun r s => if 0 < n ∧ cn (m0 264) r = n then r else s) (-1) k := by
    intro k
    induction k with
    | zero => intro _; rfl
    | succ k ih =>
      intro hk
      show (if 0 < n ∧ cn (m 264) (k : Int) = n then (k : Int) else itr _ (-1) k) = (if 0 < n ∧ cn (m0 264) (k : Int) = n then (k : Int) else itr _ (-1) k)
      rw [e k (by omega) (by omega), ih (by omega)]
  exact this 30 (Nat.le_refl _)
theorem LCH_ch {c0 m0 c m : Mem} {k f v r : Int} (h : LCH c0 m0 c m) (k0 : 0 ≤ k) (k1 : k < c0 3 8) (f0 : 0 ≤ f) (f1 : f < 360) (hr : r = rowOf (m0 264) (c0 (c0 79 k) 0)) (hv : VAL v) (hh : 0 ≤ v → hasP (m 264 (6 * (f / 9))) (f % 9)) : LCH c0 m0 (up c (c0 79 k + 2) (st1 (c (c0 79 k + 2)) f v)) (up m 264 (st1 (m 264) (1562 + 360 * r + f) v)) := by
  have hrow := LCH_row h (n := c0 (c0 79 k) 0)
  obtain ⟨l1, l2, l3, l4, l5, l6⟩ := h
  have c79 : c 79 = c0 79 := l4 79 (by omega)
  have c3 : c 3 = c0 3 := l4 3 (by omega)
  have n30 := (S3.n l2).2
  rw [c3] at n30
  have hr' : r = rowOf (m 264) (c (c 79 k) 0) := by rw [c79, l6 k k0 (by omega), hrow]; exact hr
  obtain ⟨r0, r1, _⟩ := S3.row l2 l3.n k0 (show k < c 3 8 by rw [c3]; exact k1)
  rw [← hr'] at r0 r1
  have q := cq_k l2 k0 (by omega)
  have s := SR_ch (v := v) l2 l3 k0 (show k < c 3 8 by rw [c3]; exact k1) f0 f1 hr'
  rw [c79] at s q
  refine ⟨?_, by rw [up_eq]; exact s, by rw [up_eq]; exact WF_ch l3 r0 r1 f0 f1 hv hh, fun o a => ?_, fun i a => ?_, fun i i0 i1 => ?_⟩
  · rw [up_eq]
    conv => lhs; rw [l1]
    rw [up_eq, up_up]
  · rw [up_ne (by omega), l4 o a]
  · rw [up_eq, st1_ne (by omega), l5 i a]
  · by_cases z : c0 79 i = c0 79 k + 2
    · have p := cq_k l2 i0 i1
      rw [c79] at p
      omega
    · rw [up_ne z, l6 i i0 i1]
theorem trk_has {g : Int → Int} (hw : WF g) {n f : Int} (f0 : 0 ≤ f) (f1 : f < 360) (h : 0 ≤ trk g n f) : hasP (g (6 * (f / 9))) (f % 9) := by
  unfold trk at h
  by_cases z : orig g n f = 0
  · rw [if_pos z] at h; omega
  · rw [if_neg z] at h
    obtain ⟨a, b, d, e⟩ := orig_r z
    exact (((hw.c _ a b).2.2 (by omega)).2.2.2.2 f f0 f1).2 h
/-- a cue without a value there tracks what stood ahead of it -/
theorem tv_skip {c : Mem} {g : Int → Int} (hs : SR c 3 g) (hO : 280 ≤ c 0 0) {k f : Int} (k0 : 0 ≤ k) (k1 : k < 30) (f0 : 0 ≤ f) (f1 : f < 360) (h : c (c 79 k + 2) f = -1) : Sh_trackedValue c (k + 1) f = Sh_trackedValue c k f := by
  obtain ⟨a1, a2, a3, a4, a5⟩ := oix_s hs hO f0 f1 (K := k + 1) (by omega) (by omega)
  obtain ⟨b1, b2, b3, b4, b5⟩ := oix_s hs hO f0 f1 (K := k) k0 (by omega)
  have e : oix c (k + 1) f = oix c k f := by
    by_cases z : oix c (k + 1) f = k
    · exact absurd (by rw [z]; exact h) (a4 (by omega))
    · by_cases y : oix c (k + 1) f < oix c k f
      · exact absurd (a5 _ y (by omega)) (b4 (by omega))
      · by_cases x : oix c k f < oix c (k + 1) f
        · exact absurd (b5 _ x (by omega)) (a4 (by omega))
        · omega
  unfold Sh_trackedValue
  rw [a1, b1, e]
theorem cix_f {c : Mem} {g : Int → Int} (hs : SR c 3 g) (hw : WF g) {n : Int} (h : ¬ rowOf g n < 0) : 0 ≤ cix c n ∧ cix c n < c 3 8 ∧ c (c 79 (cix c n)) 0 = n ∧ cna c n = cix c n + 1 ∧ Sh_indexOf c n = some (cix c n) := by
  have p := (row_v hw h).2.2.1
  have q := cix_row hs hw.n n p
  rcases cix_s hs n with ⟨a, _⟩ | ⟨a, b, d, e⟩
  · exact absurd (q.mp (by omega)) h
  · exact ⟨a, b, d, e, cix_e hs⟩
theorem cna_LCH {c0 m0 c m : Mem} (h : LCH c0 m0 c m) (hs0 : SR c0 3 (m0 264)) (n : Int) : cna c n = cna c0 n := by
  obtain ⟨l1, l2, l3, l4, l5, l6⟩ := h
  obtain ⟨_, a1, a2, a3, a4⟩ := cna_s l2 n
  obtain ⟨_, b1, b2, b3, b4⟩ := cna_s hs0 n
  have c79 : c 79 = c0 79 := l4 79 (by omega)
  have c3 : c 3 = c0 3 := l4 3 (by omega)
  have n30 := (S3.n l2).2
  rw [c79] at a3 a4
  rw [c3] at n30 a2 a4
  by_cases z : cna c n < cna c0 n
  · have x := b3 _ a1 z
    have y := a4 _ (Int.le_refl _) (by omega)
    rw [l6 _ a1 (by omega)] at y
    omega
  · by_cases z2 : cna c0 n < cna c n
    · have x := a3 _ b1 z2
      have y := b4 _ (Int.le_refl _) (by omega)
      rw [l6 _ b1 (by omega)] at x
      omega
    · omega
theorem wCh {c : Mem} {x j v : Int} (x0 : 130 ≤ x) (x1 : x < 220) (x2 : (x - 130) % 3 = 0) (j0 : 0 ≤ j) (j1 : j < 360) : wD c (x + 2) j v = some (up c (x + 2) (st1 (c (x + 2)) j v)) := wD3 (by omega) (by omega) (shK_129 (by omega) (by omega)) j0 j1
theorem ACT_LCH {B : Int} {c m c' m' : Mem} {D M : Option Mem} (hp : PR B c m) (hg : GR c m) (e1 : D = some c') (e2 : M = some m') (h : LCH c m c' m') : ACT B c m D M := by
  obtain ⟨l1, l2, l3, l4, l5, l6⟩ := h
  rw [l1] at e2
  exact ACT_s hp hg e1 e2 (fun o a => l4 o (by omega)) l2 l3
theorem ac44 {B : Int} {X : Tx} {A cur kn op : Int} {m0 c m : Mem} {I : List It3} {TL WL : List Q4} {td td' : Int → Int} (E : AE B X A m0 c m) (ht : TT X 0 = 44) (hv : c 241 0 = 44) (htd : c 242 = td') (h : q42 X td A I TL WL td' op) (hF : ∀ x ∈ I, ¬ x.1 = 20 → fitem (m 264) cur kn x = 0) : ACT B c m (Ed_perform c) (M_act m) := by
  obtain ⟨hX, hT, hA, a0, hs, hw, hp, hg, kc, km, hO⟩ := E
  obtain ⟨t1, aa, rfl, _, _, e', _⟩ := h
  have hn := nAt hX hT (k := 1) (by decide) (by omega) t1
  have hf := f19 hw (hF (19, Vx X 1, Px X 1) (by simp) (by simp)) hn.2.2.1 hn.2.2.2.1
  have e9 : c 242 9 = Vx X 1 := by rw [htd, e', st1_eq]
  generalize Vx X 1 = n at *
  obtain ⟨k0, k1, k2, k3, k4⟩ := cix_f hs hw (n := n) (by omega)
  generalize cix c n = k at *
  have n30 := (S3.n hs).2
  have q := cq_k hs k0 (by omega)
  have st := loop2 (fun N μ i => Ed_blockCue_20 k (c 79 k + 2) N μ i) (fun N μ i => M_block_8 n (rowOf (m 264) n) N μ i) (fun _ c' m' => LCH c m c' m') 0 0 0 360 (by
    intro a b i c1 m1 i0 i1 hL
    have hrow := LCH_row hL (n := n)
    have hcna := cna_LCH hL hs n
    obtain ⟨l1, l2, l3, l4, l5, l6⟩ := hL
    have c79 : c1 79 = c 79 := l4 79 (by omega)
    have c3 : c1 3 = c 3 := l4 3 (by omega)
    have hO1 : 280 ≤ c1 0 0 := by rw [l4 0 (by omega)]; exact hO
    obtain ⟨r0, r1, r2, r3, r4, r5⟩ := S3.row l2 l3.n k0 (show k < c1 3 8 by rw [c3]; exact k1)
    rw [c79, l6 k k0 (by omega), k2, hrow] at r0 r1 r3 r5
    have rv := r5 i i0 i1
    have vv := (((l3.c _ r0 r1).2.2 (by omega)).2.2.2.2 i i0 i1).1
    have tv := (trk_c l2 l3 hO1 n i0 i1).2
    rw [hcna, k3] at tv
    show ∃ c' m', Ed_blockCue_20 k (c 79 k + 2) (a + 1) c1 (0 + i) = Ed_blockCue_20 k (c 79 k + 2) a c' (0 + i + 1) ∧ M_block_8 n (rowOf (m 264) n) (b + 1) m1 (0 + i) = M_block_8 n (rowOf (m 264) n) b m' (0 + i + 1) ∧ LCH c m c' m'
    rw [show (0 : Int) + i = i by omega, Ed_blockCue_20, if_neg (by omega), M_block_8, if_neg (by omega), rd_chg (by omega) (by omega) (by omega) i0 i1, Option.bind_some, rv, jmul_e (by omega) (by omega), jadd_e (x := 1562) (by omega) (by omega), jadd_e (x := 1562 + 360 * rowOf (m 264) n) (by omega) (by omega), aI_ok (by omega) (by omega), Option.bind_some, jadd_e (x := i) (by omega) (by omega)]
    by_cases z : m1 264 (1562 + 360 * rowOf (m 264) n + i) = -1
    · rw [if_neg (fun x => x z), if_neg (by omega)]
      have sk := tv_skip l2 hO1 k0 (by omega) i0 i1 (by rw [c79, rv, z])
      rw [tv] at sk
      rw [← sk, Option.bind_some, M_trackedValue_e i0 i1, Option.bind_some, wCh (by omega) (by omega) (by omega) i0 i1, Option.bind_some, sI_up (by omega) (by omega), Option.bind_some]
      exact ⟨_, _, rfl, rfl, LCH_ch ⟨l1, l2, l3, l4, l5, l6⟩ k0 k1 i0 i1 (by rw [k2]) (trk_val l3.c i0 i1) (fun x => trk_has l3 i0 i1 x)⟩
    · have : 0 ≤ m1 264 (1562 + 360 * rowOf (m 264) n + i) := by unfold VAL at vv; omega
      rw [if_pos z, if_pos this]
      exact ⟨_, _, rfl, rfl, l1, l2, l3, l4, l5, l6⟩) 360 big big 0 c m (by omega) (by omega) b360 b360 (LCH_0 hs hw)
  obtain ⟨c', m', a, b, f1, f2, f3⟩ := st
  have f1' : Ed_blockCue_20 k (c 79 k + 2) big c 0 = Ed_blockCue_20 k (c 79 k + 2) (a + 1) c' (0 + 360) := f1
  have f2' : M_block_8 n (rowOf (m 264) n) big m 0 = M_block_8 n (rowOf (m 264) n) (b + 1) m' (0 + 360) := f2
  refine ACT_LCH hp hg (c' := c') (m' := m') ?_ ?_ f3
  · unfold Ed_perform Ed_performOnCues
    rw [Option.bind_some, Option.bind_some, Option.bind_some, hv, e9]
    show (((Sh_indexOf c n).bind fun x23 => (Ed_blockCue c x23).bind fun m25 => some m25).bind fun m49 => some m49) = _
    rw [bsm, k4, Option.bind_some, bsm]
    unfold Ed_blockCue
    rw [if_pos k0, aI_ok k0 (by omega), Option.bind_some, cq_g2 hs hO k0 (by omega), Option.bind_some, f1', Ed_blockCue_20, if_pos (by decide)]
  · rw [(ckV hX hT a0 (w := 28) (by decide) (by decide) (by decide) (by decide) ht).2]
    show (((M_block m (m 269 1)).bind fun m33 => some m33).bind fun m1 => some m1) = _
    rw [bsm, bsm, hn.2.1]
    unfold M_block
    rw [M_cueRow_e, Option.bind_some, f2', M_block_8, if_pos (by decide)]
