-- L3: enter: record
theorem orig_cong {g h : Int → Int} {n f : Int} (e : ∀ q, 0 ≤ q → q < 30 → (cn h q = cn g q ∧ h (1562 + 360 * q + f) = g (1562 + 360 * q + f)) ∨ ((cn h q ≤ 0 ∨ h (1562 + 360 * q + f) < 0) ∧ (cn g q ≤ 0 ∨ g (1562 + 360 * q + f) < 0))) : orig h n f = orig g n f := by
  have : ∀ k : Nat, k ≤ 30 → itr (fun r s => if cn h r ≤ n ∧ s < cn h r ∧ 0 ≤ h (1562 + 360 * r + f) then cn h r else s) 0 k = itr (fun r s => if cn g r ≤ n ∧ s < cn g r ∧ 0 ≤ g (1562 + 360 * r + f) then cn g r else s) 0 k ∧ 0 ≤ itr (fun r s => if cn g r ≤ n ∧ s < cn g r ∧ 0 ≤ g (1562 + 360 * r + f) then cn g r else s) 0 k := by
    intro k
    induction k with
    | zero => intro _; exact ⟨rfl, Int.le_refl _⟩
    | succ k ih =>
      intro hk
      obtain ⟨i1, i2⟩ := ih (by omega)
      show (if cn h (k : Int) ≤ n ∧ itr (fun r s => if cn h r ≤ n ∧ s < cn h r ∧ 0 ≤ h (1562 + 360 * r + f) then cn h r else s) 0 k < cn h (k : Int) ∧ 0 ≤ h (1562 + 360 * (k : Int) + f) then cn h (k : Int) else itr (fun r s => if cn h r ≤ n ∧ s < cn h r ∧ 0 ≤ h (1562 + 360 * r + f) then cn h r else s) 0 k) = (if cn g (k : Int) ≤ n ∧ itr (fun r s => if cn g r ≤ n ∧ s < cn g r ∧ 0 ≤ g (1562 + 360 * r + f) then cn g r else s) 0 k < cn g (k : Int) ∧ 0 ≤ g (1562 + 360 * (k : Int) + f) then cn g (k : Int) else itr (fun r s => if cn g r ≤ n ∧ s < cn g r ∧ 0 ≤ g (1562 + 360 * r + f) then cn g r else s) 0 k) ∧ 0 ≤ (if cn g (k : Int) ≤ n ∧ itr (fun r s => if cn g r ≤ n ∧ s < cn g r ∧ 0 ≤ g (1562 + 360 * r + f) then cn g r else s) 0 k < cn g (k : Int) ∧ 0 ≤ g (1562 + 360 * (k : Int) + f) then cn g (k : Int) else itr (fun r s => if cn g r ≤ n ∧ s < cn g r ∧ 0 ≤ g (1562 + 360 * r + f) then cn g r else s) 0 k)
      rw [i1]
      generalize itr (fun r s => if cn g r ≤ n ∧ s < cn g r ∧ 0 ≤ g (1562 + 360 * r + f) then cn g r else s) 0 k = s at *
      rcases e k (by omega) (by omega) with ⟨a, b⟩ | ⟨a, b⟩
      · rw [a, b]
        refine ⟨rfl, ?_⟩
        split <;> omega
      · rw [if_neg (by omega), if_neg (by omega)]
        exact ⟨rfl, i2⟩
  exact (this 30 (Nat.le_refl _)).1
theorem trk_cong {g h : Int → Int} {n f : Int} (wg : WF_n g) (wh : WF_n h) (e : ∀ q, 0 ≤ q → q < 30 → (cn h q = cn g q ∧ h (1562 + 360 * q + f) = g (1562 + 360 * q + f)) ∨ ((cn h q ≤ 0 ∨ h (1562 + 360 * q + f) < 0) ∧ (cn g q ≤ 0 ∨ g (1562 + 360 * q + f) < 0))) : trk h n f = trk g n f := by
  have o := orig_cong (n := n) e
  unfold trk
  rw [o]
  by_cases z : orig g n f = 0
  · rw [if_pos z, if_pos z]
  · rw [if_neg z, if_neg z]
    rcases orig_s g n f with ⟨a, _⟩ | ⟨a, ⟨r, r0, r1, r2, r3, r4⟩, _⟩
    · exact absurd a z
    · rcases e r r0 r1 with ⟨b1, b2⟩ | ⟨_, b⟩
      · have x := rowOf_at wg r0 r1 (by omega)
        have y := rowOf_at wh r0 r1 (by omega)
        rw [b1] at y
        rw [r2] at x y
        rw [x, y, b2]
      · omega
theorem above_cong {g h : Int → Int} {n : Int} (e : ∀ q, 0 ≤ q → q < 30 → cn h q = cn g q ∨ (¬ n < cn h q ∧ ¬ n < cn g q)) : above h n = above g n := by
  have : ∀ k : Nat, k ≤ 30 → itr (fun r s => if n < cn h r ∧ (s = 0 ∨ cn h r < s) then cn h r else s) 0 k = itr (fun r s => if n < cn g r ∧ (s = 0 ∨ cn g r < s) then cn g r else s) 0 k := by
    intro k
    induction k with
    | zero => intro _; rfl
    | succ k ih =>
      intro hk
      show (if n < cn h (k : Int) ∧ (itr (fun r s => if n < cn h r ∧ (s = 0 ∨ cn h r < s) then cn h r else s) 0 k = 0 ∨ cn h (k : Int) < itr (fun r s => if n < cn h r ∧ (s = 0 ∨ cn h r < s) then cn h r else s) 0 k) then cn h (k : Int) else itr (fun r s => if n < cn h r ∧ (s = 0 ∨ cn h r < s) then cn h r else s) 0 k) = (if n < cn g (k : Int) ∧ (itr (fun r s => if n < cn g r ∧ (s = 0 ∨ cn g r < s) then cn g r else s) 0 k = 0 ∨ cn g (k : Int) < itr (fun r s => if n < cn g r ∧ (s = 0 ∨ cn g r < s) then cn g r else s) 0 k) then cn g (k : Int) else itr (fun r s => if n < cn g r ∧ (s = 0 ∨ cn g r < s) then cn g r else s) 0 k)
      rw [ih (by omega)]
      rcases e k (by omega) (by omega) with a | ⟨a, b⟩
      · rw [a]
      · rw [if_neg (fun x => a x.1), if_neg (fun x => b x.1)]
  exact this 30 (Nat.le_refl _)
theorem rowOf_cong {g h : Int → Int} {n : Int} (e : ∀ q, 0 ≤ q → q < 30 → cn h q = cn g q) : rowOf h n = rowOf g n := by
  unfold rowOf
  have : ∀ k : Nat, k ≤ 30 → itr (fun r s => if 0 < n ∧ cn h r = n then r else s) (-1) k = itr (fun r s => if 0 < n ∧ cn g r = n then r else s) (-1) k := by
    intro k
    induction k with
    | zero => intro _; rfl
    | succ k ih =>
      intro hk
      show (if 0 < n ∧ cn h (k : Int) = n then (k : Int) else itr _ (-1) k) = (if 0 < n ∧ cn g (k : Int) = n then (k : Int) else itr _ (-1) k)
      rw [e k (by omega) (by omega), ih (by omega)]
  exact this 30 (Nat.le_refl _)
theorem mk14b {m m1 : Mem} {n : Int} (h : cuesN (m 264) < 30) (e : ∀ q, 0 ≤ q → q < 30 → cn (m1 264) q = cn (m 264) q) : ∃ r, 0 ≤ r ∧ r < 30 ∧ cn (m 264) r ≤ 0 ∧ M_makeCue_14 m n big 0 = M_makeCue_30 n r big m 0 ∧ M_makeCue_14 m1 n big 0 = M_makeCue_30 n r big m1 0 := by
  obtain ⟨r1, a, b, d⟩ := free_r h
  have : ∀ (j : Nat) (N : Nat) (i : Int), 0 ≤ i → i + j = r1 → j < N → ∃ r, 0 ≤ r ∧ r < 30 ∧ cn (m 264) r ≤ 0 ∧ M_makeCue_14 m n N i = M_makeCue_30 n r big m 0 ∧ M_makeCue_14 m1 n N i = M_makeCue_30 n r big m1 0 := by
    intro j
    induction j with
    | zero =>
      intro N i i0 ee hN
      obtain ⟨N, rfl⟩ : ∃ k, N = k + 1 := ⟨N - 1, by omega⟩
      obtain rfl : i = r1 := by omega
      exact ⟨i, a, b, d, by rw [M_makeCue_14, M_cueNumber_e a b, Option.bind_some, if_pos d], by rw [M_makeCue_14, M_cueNumber_e a b, Option.bind_some, e i a b, if_pos d]⟩
    | succ j ih =>
      intro N i i0 ee hN
      obtain ⟨N, rfl⟩ : ∃ k, N = k + 1 := ⟨N - 1, by omega⟩
      by_cases z : cn (m 264) i ≤ 0
      · exact ⟨i, i0, by omega, z, by rw [M_makeCue_14, M_cueNumber_e i0 (by omega), Option.bind_some, if_pos z], by rw [M_makeCue_14, M_cueNumber_e i0 (by omega), Option.bind_some, e i i0 (by omega), if_pos z]⟩
      · obtain ⟨r, x1, x2, x3, x4, x5⟩ := ih N (i + 1) (by omega) (by omega) (by omega)
        exact ⟨r, x1, x2, x3, by rw [M_makeCue_14, M_cueNumber_e i0 (by omega), Option.bind_some, if_neg z, jadd_e (by omega) (by omega), x4], by rw [M_makeCue_14, M_cueNumber_e i0 (by omega), Option.bind_some, e i i0 (by omega), if_neg z, jadd_e (by omega) (by omega), x5]⟩
  exact this r1.toNat big 0 (by omega) (by omega) (by have := big_ge; omega)
/-- what is held comes into a row -/
def HWV (g h : Int → Int) (r F : Int) : Int → Int := fun i => if 1562 + 360 * r ≤ i ∧ i < 1562 + 360 * r + F then (if g (12362 + (i - (1562 + 360 * r))) < 0 then h i else g (12362 + (i - (1562 + 360 * r)))) else h i
theorem recM {m : Mem} {g h : Int → Int} {r : Int} (r0 : 0 ≤ r) (r1 : r < 30) (hh : ∀ i, 0 ≤ i → i < 360 → h (12362 + i) = g (12362 + i)) : M_record_135 r big (up m 264 h) 0 = some (up m 264 (HWV g h r 360)) := by
  have k := asg (fun N μ i => M_record_135 r N μ i) 264 (1562 + 360 * r) 0 360 (fun i => if g (12362 + i) < 0 then h (1562 + 360 * r + i) else g (12362 + i)) (up m 264 h) (by
    intro N μ i i0 i1 _ h2 h3
    show M_record_135 r (N + 1) μ i = M_record_135 r N _ (i + 1)
    have hm : μ 264 (12362 + i) = g (12362 + i) := by rw [h2 _ (by omega), up_eq, hh i i0 i1]
    have hc : μ 264 (1562 + 360 * r + i) = h (1562 + 360 * r + i) := by rw [h2 _ (by omega), up_eq]
    rw [M_record_135, if_neg (by omega), jadd_e (x := 12362) (by omega) (by omega), aI_ok (by omega) (by omega), Option.bind_some, hm, Option.bind_some, jmul_e (by omega) (by omega), jadd_e (x := 1562) (by omega) (by omega), jadd_e (x := 1562 + 360 * r) (by omega) (by omega), jadd_e (x := i) (by omega) (by omega), sI_up (by omega) (by omega), Option.bind_some]
    by_cases z : g (12362 + i) < 0
    · rw [if_pos z, if_pos z, st1_id hc, up_id]
    · rw [if_neg z, if_neg z]) 360 (by omega) big (by have := big_ge; omega)
  have k' : M_record_135 r big (up m 264 h) 0 = _ := k
  rw [k']
  obtain ⟨N, hN⟩ : ∃ N, big - 360 = N + 1 := ⟨big - 360 - 1, by have := big_ge; omega⟩
  rw [hN]
  show M_record_135 r (N + 1) _ _ = _
  rw [M_record_135, if_pos (by omega), up_eq, up_up]
  refine congrArg (fun q => some (up m 264 q)) (funext fun j => ?_)
  unfold HWV
  by_cases z : 1562 + 360 * r ≤ j ∧ j < 1562 + 360 * r + 360
  · rw [if_pos z, if_pos (by omega), show 1562 + 360 * r + (j - (1562 + 360 * r)) = j by omega]
  · rw [if_neg z, if_neg (by omega)]
theorem LCH_x {c0 m0 c m m' : Mem} (h : LCH c0 m0 c m) (e : m = m') : LCH c0 m0 c m' := e ▸ h
/-- the class's loop without keeping -/
theorem recC {m c1 : Mem} {h : Int → Int} {k r : Int} (hs : SR c1 3 h) (hw : WF h) (hO : 280 ≤ c1 0 0) (k0 : 0 ≤ k) (k1 : k < c1 3 8) (hr : r = rowOf h (c1 (c1 79 k) 0)) : ∃ c', Ed_recordCue_44 k 0 big c1 0 = some c' ∧ LCH c1 (up m 264 h) c' (up m 264 (HWV h h r 360)) := by
  have n30 := (S3.n hs).2
  have q := cq_k hs k0 (by omega)
  obtain ⟨r0, r1, _⟩ := S3.row hs hw.n k0 k1
  rw [← hr] at r0 r1
  have lp : ∀ (d N : Nat) (f : Int) (c : Mem), d < N → f + d = 360 → 0 ≤ f → LCH c1 (up m 264 h) c (up m 264 (HWV h h r f)) → ∃ c', Ed_recordCue_44 k 0 N c f = some c' ∧ LCH c1 (up m 264 h) c' (up m 264 (HWV h h r 360)) := by
    intro d
    induction d with
    | zero =>
      intro N f c hN e f0 hL
      obtain ⟨N, rfl⟩ : ∃ k, N = k + 1 := ⟨N - 1, by omega⟩
      obtain rfl : f = 360 := by omega
      exact ⟨c, by rw [Ed_recordCue_44, if_pos (by decide)], hL⟩
    | succ d ih =>
      intro N f c hN e f0 hL
      obtain ⟨N, rfl⟩ : ∃ k, N = k + 1 := ⟨N - 1, by omega⟩
      have hL' := hL
      obtain ⟨l1, l2, l3, l4, l5, l6⟩ := hL
      rw [up_eq] at l2 l3 l5
      rw [up_eq] at l5
      have c79 : c 79 = c1 79 := l4 79 (by omega)
      have hO1 : 280 ≤ c 0 0 := by rw [l4 0 (by omega)]; exact hO
      have hh := S3.h l2 f f0 (by omega)
      rw [l5 _ (by omega)] at hh
      obtain ⟨hv1, hv2⟩ := l3.h f f0 (by omega)
      rw [l5 (12362 + f) (by omega)] at hv1 hv2
      have nx : ∀ v, v = (if h (12362 + f) < 0 then h (1562 + 360 * r + f) else h (12362 + f)) → st1 (HWV h h r f) (1562 + 360 * r + f) v = HWV h h r (f + 1) := by
        intro v hv
        funext i
        unfold st1
        by_cases z : i = 1562 + 360 * r + f
        · rw [if_pos z, hv]
          unfold HWV
          rw [if_pos (show 1562 + 360 * r ≤ i ∧ i < 1562 + 360 * r + (f + 1) by omega), z, show 1562 + 360 * r + f - (1562 + 360 * r) = f by omega]
        · rw [if_neg z]
          unfold HWV
          by_cases y : 1562 + 360 * r ≤ i ∧ i < 1562 + 360 * r + f
          · rw [if_pos y, if_pos (show 1562 + 360 * r ≤ i ∧ i < 1562 + 360 * r + (f + 1) by omega)]
          · rw [if_neg y, if_neg (show ¬ (1562 + 360 * r ≤ i ∧ i < 1562 + 360 * r + (f + 1)) by omega)]
      rw [Ed_recordCue_44, if_neg (show ¬ 360 ≤ f by omega), aI_ok f0 (by omega), Option.bind_some, hh, jadd_e (x := f) (by omega) (by omega)]
      by_cases z : h (12362 + f) = -1
      · rw [if_pos z]
        refine ih N (f + 1) c (by omega) (by omega) (by omega) (LCH_x hL' ?_)
        rw [← nx (h (1562 + 360 * r + f)) (by rw [if_pos (by omega)]), st1_id]
        unfold HWV
        rw [if_neg (by omega)]
      · have p : 0 ≤ h (12362 + f) := by unfold VAL at hv1; omega
        rw [if_neg z, if_pos rfl]
        unfold Ed_recordCue_80
        rw [aI_ok k0 (by omega), Option.bind_some, c79, cq_g2 hs hO1 k0 (by omega), Option.bind_some, aI_ok f0 (by omega), Option.bind_some, hh, wCh q.1 q.2.1 q.2.2 f0 (by omega), Option.bind_some, jadd_e (by omega) (by omega)]
        have st := LCH_ch (v := h (12362 + f)) (r := r) hL' k0 k1 f0 (by omega) (by rw [up_eq]; exact hr) hv1 (by rw [up_eq]; exact hv2)
        refine ih N (f + 1) _ (by omega) (by omega) (by omega) (LCH_x st ?_)
        rw [up_eq, up_up, nx _ (by rw [if_neg (by omega)])]
  have e0 : HWV h h r 0 = h := by
    funext i
    unfold HWV
    rw [if_neg (by omega)]
  exact lp 360 big 0 c1 b360 (by omega) (by omega) (by rw [e0]; exact LCH_0 (by rw [up_eq]; exact hs) (by rw [up_eq]; exact hw))
