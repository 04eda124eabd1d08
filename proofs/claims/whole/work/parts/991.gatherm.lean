-- L3: enter: the model's gather
theorem bnd_f {F : It3 → Int} {s : Int × Int} {x : It3} {lo hi : Int} (hs : 0 ≤ s.1) (hF : F x = if lo ≤ x.2.1 ∧ x.2.1 ≤ hi then 0 else 3) : rfs s (if lo ≤ x.2.1 ∧ x.2.1 ≤ hi then 0 else 1) 3 x.2.2 = ffs F s x := by
  unfold rfs ffs
  by_cases z : lo ≤ x.2.1 ∧ x.2.1 ≤ hi
  · rw [hF, if_pos z, if_pos z, if_pos rfl, if_neg (fun a => a.2 rfl)]
  · rw [hF, if_neg z, if_neg z, if_neg (by decide)]
    by_cases y : s.1 = 0
    · rw [if_pos (by omega), if_pos ⟨y, by decide⟩]
    · rw [if_neg (by omega), if_neg (fun a => y a.1)]
theorem ffs_0 {F : It3 → Int} {s : Int × Int} {x : It3} (h : F x = 0) : ffs F s x = s := if_neg (fun a => a.2 h)
theorem ffs_k {F : It3 → Int} {s : Int × Int} {x : It3} (h : ¬ s.1 = 0) : ffs F s x = s := if_neg (fun a => h a.1)
theorem ffs_y {F : It3 → Int} {s : Int × Int} {x : It3} (h : s.1 = 0) (h2 : ¬ F x = 0) : ffs F s x = (F x, x.2.2) := if_pos ⟨h, h2⟩
theorem ffs_r {F : It3 → Int} {s : Int × Int} {x : It3} (h : 0 ≤ s.1) (hF : 0 ≤ F x) : 0 ≤ (ffs F s x).1 := by
  unfold ffs
  split
  · exact hF
  · exact h
theorem rfs_0 {s : Int × Int} {k p : Int} : rfs s 0 k p = s := if_pos rfl
theorem FLT_r {g : Int → Int} {cur kn r v : Int} : 0 ≤ FLT g cur kn r v := by
  unfold FLT
  repeat' split
  all_goals omega
theorem fold_r {g : Int → Int} {cur kn : Int} : ∀ (L : List It3) (s : Int × Int), 0 ≤ s.1 → 0 ≤ (L.foldl (ffs (fitem g cur kn)) s).1
  | [], s, h => h
  | x :: L, s, h => fold_r L _ (ffs_r h FLT_r)
theorem fold_k {F : It3 → Int} : ∀ (L : List It3) (s : Int × Int), ¬ s.1 = 0 → L.foldl (ffs F) s = s
  | [], s, h => rfl
  | x :: L, s, h => by
    show L.foldl (ffs F) (ffs F s x) = s
    rw [ffs_k h]
    exact fold_k L s h
theorem fold_0 {F : It3 → Int} {L : List It3} {s : Int × Int} (h : (L.foldl (ffs F) s).1 = 0) : s.1 = 0 := by
  by_cases z : s.1 = 0
  · exact z
  · rw [fold_k L s z] at h; exact h
theorem term_m {X : Tx} {m0 m : Mem} {A k sg e cur kn : Int} {its : List It3} {tm : Q4} {s : Int × Int} {r : RW} (hX : XO X m0) (hT : MTK X A m) (hw : WF (m 264)) (ht : TRM X k sg e its tm) (k0 : 0 ≤ k) (e1 : e ≤ A) (hs : 0 ≤ s.1) (h : ROK r) : ∃ r', M_termAt (gst m s r) k (moreT tm) = some (e, gst m (its.foldl (ffs (fitem (m 264) cur kn)) s) r') ∧ ROK r' ∧ ((its.foldl (ffs (fitem (m 264) cur kn)) s).1 = 0 → r' = termP (m 264) r tm ∧ TOK tm) := by
  have hb := hT.2.1
  have hl := TRM_l ht
  have hTg := MTK_g (s := s) (r := r) hT
  unfold M_termAt
  rw [wAt hX hTg k0 (by omega) (by decide) (by decide), p0, wAt hX hTg k0 (by omega) (by decide) (by decide), p1, Option.bind_some]
  rcases ht with ⟨t0, rfl, rfl, rfl⟩ | ⟨t0, t1, rfl, rfl, rfl⟩ | ⟨t0, t1, rfl, rfl, rfl⟩ | ⟨t0, t1, t2, rfl, rfl, rfl⟩
  · -- all
    rw [if_pos t0, if_neg (show ¬ (1 : Int) = 0 by decide)]
    have := all_m (m := m) (s := s) (r := r) (k := k) (more := moreT (sg, 0, 0, 0)) k0 (by omega) h 40 big 0 (by omega) (by have := big_ge; omega)
    refine ⟨_, this, thru_k (K := 40) (fun i i0 i1 => by omega) h 40 (by omega), fun _ => ⟨rfl, Or.inl rfl⟩⟩
  · -- a group
    rw [if_neg (show ¬ TT X k = 64 by omega), if_pos (show (0 : Int) = 0 from rfl), if_pos t0, Option.bind_some, if_neg (show ¬ (1 : Int) = 0 by decide), jadd_e (by omega) (by omega)]
    unfold M_groupAt
    have bf := bnd_f (F := fitem (m 264) cur kn) (s := s) (x := (5, Vx X (k + 1), Px X (k + 1))) (lo := 1) (hi := 12) hs
    rw [bounds_e hX hT (by omega) (by omega) t1, Option.bind_some, jadd_e (by omega) (by omega)]
    have vr := nAt hX hTg (by omega) (by omega) t1
    simp only [List.foldl_cons, List.foldl_nil]
    have eF : fitem (m 264) cur kn (5, Vx X (k + 1), Px X (k + 1)) = FLT (m 264) cur kn 5 (Vx X (k + 1)) := rfl
    by_cases z : 1 ≤ Vx X (k + 1) ∧ Vx X (k + 1) ≤ 12
    · rw [if_pos z, rfs_0]
      obtain ⟨q1, q2, q3, q4, q5, q6⟩ := gst_p (m := m) (s := s) (r := r)
      rw [q3]
      by_cases y : s.1 = 0
      · rw [if_pos (by omega), vr.1, Option.bind_some, Option.bind_some, jsub_e (by omega) (by omega), jmul_e (by omega) (by omega), jadd_e (by omega) (by omega), aI_ok (by omega) (by omega), Option.bind_some, q5 264 (by decide) (by decide)]
        obtain ⟨w1, w2, w3, _⟩ := hw.g (Vx X (k + 1) - 1) (by omega) (by omega)
        unfold M_groupAt_47
        by_cases y2 : m 264 (240 + 41 * (Vx X (k + 1) - 1)) = 0
        · rw [if_neg (fun a => a y2), refuse_e hT (by omega) (by omega), Option.bind_some]
          have e5 : rfs s 1 2 (Px X (k + 1)) = ffs (fitem (m 264) cur kn) s (5, Vx X (k + 1), Px X (k + 1)) := by
            rw [ffs_y y (by rw [eF, fl5, if_pos z, if_pos (by omega)]; decide), eF, fl5, if_pos z, if_pos (show m 264 (240 + 41 * (Vx X (k + 1) - 1)) ≤ 0 by omega)]
            unfold rfs
            rw [if_neg (by decide), if_pos (by omega)]
          have := grp_m (m := m) (s := rfs s 1 2 (Px X (k + 1))) (more := moreT (sg, 1, Vx X (k + 1), 0)) hw (k := Vx X (k + 1) - 1) (by omega) (by omega) h (m 264 (240 + 41 * (Vx X (k + 1) - 1))).toNat big 0 (by omega) (by have := big_ge; omega)
          rw [show (((0 : Nat) : Int) + 1) = 1 by decide] at this
          have e0 : grpP (m 264) (moreT (sg, 1, Vx X (k + 1), 0)) (Vx X (k + 1) - 1) r 0 = r := rfl
          rw [e0] at this
          rw [this, Option.bind_some, e5]
          refine ⟨_, rfl, grp_k (K := (m 264 (240 + 41 * (Vx X (k + 1) - 1))).toNat) (fun i i0 i1 => w3 i i0 (by omega)) h _ (Nat.le_refl _), fun a => ?_⟩
          rw [← e5] at a
          unfold rfs at a
          rw [if_neg (by decide), if_pos (by omega)] at a
          exact absurd (show (2 : Int) = 0 from a) (by decide)
        · rw [if_pos y2, refuse_e hT (by omega) (by omega), Option.bind_some, rfs_0]
          have e5 : ffs (fitem (m 264) cur kn) s (5, Vx X (k + 1), Px X (k + 1)) = s := ffs_0 (by rw [eF, fl5, if_pos z, if_neg (by omega)])
          have := grp_m (m := m) (s := s) (more := moreT (sg, 1, Vx X (k + 1), 0)) hw (k := Vx X (k + 1) - 1) (by omega) (by omega) h (m 264 (240 + 41 * (Vx X (k + 1) - 1))).toNat big 0 (by omega) (by have := big_ge; omega)
          rw [show (((0 : Nat) : Int) + 1) = 1 by decide] at this
          have e0 : grpP (m 264) (moreT (sg, 1, Vx X (k + 1), 0)) (Vx X (k + 1) - 1) r 0 = r := rfl
          rw [e0] at this
          rw [this, Option.bind_some, e5]
          exact ⟨_, rfl, grp_k (K := (m 264 (240 + 41 * (Vx X (k + 1) - 1))).toNat) (fun i i0 i1 => w3 i i0 (by omega)) h _ (Nat.le_refl _), fun a => ⟨rfl, Or.inr (Or.inl ⟨rfl, z.1, z.2⟩)⟩⟩
      · rw [if_neg (by omega), Option.bind_some, ffs_k y]
        exact ⟨r, rfl, h, fun a => absurd a y⟩
    · have e5 := bf (by rw [eF, fl5]; show _ = if 1 ≤ Vx X (k + 1) ∧ Vx X (k + 1) ≤ 12 then (0 : Int) else 3; rw [if_neg z, if_neg z])
      have e5' : rfs s (if 1 ≤ Vx X (k + 1) ∧ Vx X (k + 1) ≤ 12 then 0 else 1) 3 (Px X (k + 1)) = ffs (fitem (m 264) cur kn) s (5, Vx X (k + 1), Px X (k + 1)) := e5
      have n0 : ¬ (ffs (fitem (m 264) cur kn) s (5, Vx X (k + 1), Px X (k + 1))).1 = 0 := by
        rw [← e5', if_neg z]
        unfold rfs
        rw [if_neg (by decide)]
        split
        · exact show ¬ (3 : Int) = 0 by decide
        · omega
      have nn := ffs_r (F := fitem (m 264) cur kn) (s := s) (x := (5, Vx X (k + 1), Px X (k + 1))) hs FLT_r
      rw [e5']
      obtain ⟨q1, q2, q3, q4, q5, q6⟩ := gst_p (m := m) (s := ffs (fitem (m 264) cur kn) s (5, Vx X (k + 1), Px X (k + 1))) (r := r)
      rw [q3, if_neg (by omega), Option.bind_some]
      exact ⟨r, rfl, h, fun a => absurd a n0⟩
  · -- a unit
    rw [if_neg (show ¬ TT X k = 64 by omega), if_pos (show (0 : Int) = 0 from rfl), if_neg (show ¬ TT X k = 35 by omega), Option.bind_some, if_pos (show (0 : Int) = 0 from rfl), bounds_e hX hT k0 (by omega) t0, Option.bind_some, jadd_e (by omega) (by omega), jadd_e (by omega) (by omega), wAt hX (MTK_g hT) (by omega) (by omega) (by decide) (by decide), p2, if_neg t1, Option.bind_some, if_neg (show ¬ (0 : Int) ≠ 0 by decide)]
    simp only [List.foldl_cons, List.foldl_nil]
    have eF : fitem (m 264) cur kn (2, Vx X k, Px X k) = FLT (m 264) cur kn 2 (Vx X k) := rfl
    have e109 : ∀ (s' : Int × Int) (b : Int), M_termAt_109 (gst m s' r) k (moreT (sg, 2, Vx X k, Vx X k)) b = if (rfs s' b 2 (Px X k)).1 ≠ 0 then some (k + 1, gst m (rfs s' b 2 (Px X k)) r) else (aI (gst m (rfs s' b 2 (Px X k)) r) 269 122 k).bind fun x4 => (M_put (gst m (rfs s' b 2 (Px X k)) r) (jsub x4 1) (moreT (sg, 2, Vx X k, Vx X k))).bind fun m6 => some (k + 1, m6) := by
      intro s' b
      unfold M_termAt_109
      rw [refuse_e hT k0 (by omega), Option.bind_some, (gst_p (m := m) (s := rfs s' b 2 (Px X k)) (r := r)).2.2.1, jadd_e (by omega) (by omega)]
    by_cases z : 1 ≤ Vx X k ∧ Vx X k ≤ 40
    · rw [if_pos z, rfs_0]
      obtain ⟨q1, q2, q3, q4, q5, q6⟩ := gst_p (m := m) (s := s) (r := r)
      have vr := nAt hX hTg k0 (by omega) t0
      rw [q3]
      by_cases y : s.1 = 0
      · rw [if_neg (fun a => a y), vr.1, Option.bind_some, jsub_e (by omega) (by omega), gst_pat (by omega) (by omega), Option.bind_some]
        by_cases y2 : m 264 (6 * (Vx X k - 1)) < 0
        · have e5 : rfs s 1 2 (Px X k) = ffs (fitem (m 264) cur kn) s (2, Vx X k, Px X k) := by
            rw [ffs_y y (by rw [eF, fl2, if_pos z, if_pos y2]; decide), eF, fl2, if_pos z, if_pos y2]
            unfold rfs
            rw [if_neg (by decide), if_pos (by omega)]
          have n0 : (rfs s 1 2 (Px X k)).1 = 2 := by
            unfold rfs
            rw [if_neg (by decide), if_pos (by omega)]
          rw [if_pos y2, if_neg (by decide), e109, if_pos (by rw [n0]; decide), ← e5]
          exact ⟨r, rfl, h, fun a => by rw [n0] at a; exact absurd a (by decide)⟩
        · have e5 : ffs (fitem (m 264) cur kn) s (2, Vx X k, Px X k) = s := ffs_0 (by rw [eF, fl2, if_pos z, if_neg y2])
          rw [if_neg y2, if_pos (by decide), e109, rfs_0, if_neg (fun a => a y), vr.1, Option.bind_some, jsub_e (by omega) (by omega), put_m h (by omega) (by omega), Option.bind_some, e5]
          exact ⟨putP r (Vx X k - 1) (moreT (sg, 2, Vx X k, Vx X k)), rfl, putP_k h (by omega) (by omega), fun a => ⟨rfl, Or.inr (Or.inr (Or.inl ⟨rfl, z.1, z.2⟩))⟩⟩
      · rw [if_pos y, e109, rfs_0, if_pos y, ffs_k y]
        exact ⟨r, rfl, h, fun a => absurd a y⟩
    · have e5 := bnd_f (F := fitem (m 264) cur kn) (s := s) (x := (2, Vx X k, Px X k)) (lo := 1) (hi := 40) hs (by rw [eF, fl2]; show _ = if 1 ≤ Vx X k ∧ Vx X k ≤ 40 then (0 : Int) else 3; rw [if_neg z, if_neg z])
      have e5' : rfs s (if 1 ≤ Vx X k ∧ Vx X k ≤ 40 then 0 else 1) 3 (Px X k) = ffs (fitem (m 264) cur kn) s (2, Vx X k, Px X k) := e5
      have n0 : ¬ (ffs (fitem (m 264) cur kn) s (2, Vx X k, Px X k)).1 = 0 := by
        rw [← e5', if_neg z]
        unfold rfs
        rw [if_neg (by decide)]
        split
        · exact show ¬ (3 : Int) = 0 by decide
        · omega
      rw [e5', (gst_p (m := m) (s := ffs (fitem (m 264) cur kn) s (2, Vx X k, Px X k)) (r := r)).2.2.1, if_pos n0, e109, rfs_0, if_pos n0]
      exact ⟨r, rfl, h, fun a => absurd a n0⟩
  · -- units from one to another
    have f1 : ∀ v p, fitem (m 264) cur kn (1, v, p) = if 1 ≤ v ∧ v ≤ 40 then 0 else 3 := fun v p => fl1
    have b1 := bnd_f (F := fitem (m 264) cur kn) (s := s) (x := (1, Vx X k, Px X k)) (lo := 1) (hi := 40) hs (f1 _ _)
    have b1' : rfs s (if 1 ≤ Vx X k ∧ Vx X k ≤ 40 then 0 else 1) 3 (Px X k) = ffs (fitem (m 264) cur kn) s (1, Vx X k, Px X k) := b1
    have hs1 := ffs_r (F := fitem (m 264) cur kn) (s := s) (x := (1, Vx X k, Px X k)) hs FLT_r
    have b2 := bnd_f (F := fitem (m 264) cur kn) (s := ffs (fitem (m 264) cur kn) s (1, Vx X k, Px X k)) (x := (1, Vx X (k + 2), Px X (k + 2))) (lo := 1) (hi := 40) hs1 (f1 _ _)
    have b2' : rfs (ffs (fitem (m 264) cur kn) s (1, Vx X k, Px X k)) (if 1 ≤ Vx X (k + 2) ∧ Vx X (k + 2) ≤ 40 then 0 else 1) 3 (Px X (k + 2)) = ffs (fitem (m 264) cur kn) (ffs (fitem (m 264) cur kn) s (1, Vx X k, Px X k)) (1, Vx X (k + 2), Px X (k + 2)) := b2
    rw [if_neg (show ¬ TT X k = 64 by omega), if_pos (show (0 : Int) = 0 from rfl), if_neg (show ¬ TT X k = 35 by omega), Option.bind_some, if_pos (show (0 : Int) = 0 from rfl), bounds_e hX hT k0 (by omega) t0, Option.bind_some, b1', jadd_e (by omega) (by omega), wAt hX (MTK_g hT) (by omega) (by omega) (by decide) (by decide), p2, if_pos t1, Option.bind_some, if_pos (show (1 : Int) ≠ 0 by decide), jadd_e (by omega) (by omega), jadd_e (by omega) (by omega), bounds_e hX hT (by omega) (by omega) t2, Option.bind_some, b2']
    show ∃ r', _ ∧ ROK r' ∧ ((ffs (fitem (m 264) cur kn) (ffs (fitem (m 264) cur kn) s (1, Vx X k, Px X k)) (1, Vx X (k + 2), Px X (k + 2))).1 = 0 → _)
    show ∃ r', _ = some (k + 3, gst m (ffs (fitem (m 264) cur kn) (ffs (fitem (m 264) cur kn) s (1, Vx X k, Px X k)) (1, Vx X (k + 2), Px X (k + 2))) r') ∧ _
    generalize hS : ffs (fitem (m 264) cur kn) (ffs (fitem (m 264) cur kn) s (1, Vx X k, Px X k)) (1, Vx X (k + 2), Px X (k + 2)) = S
    obtain ⟨q1, q2, q3, q4, q5, q6⟩ := gst_p (m := m) (s := S) (r := r)
    rw [q3]
    by_cases y : S.1 = 0
    · have y1 : (ffs (fitem (m 264) cur kn) s (1, Vx X k, Px X k)).1 = 0 := by
        by_cases w : (ffs (fitem (m 264) cur kn) s (1, Vx X k, Px X k)).1 = 0
        · exact w
        · rw [← hS, ffs_k w] at y; exact y
      have y0 : s.1 = 0 := by
        by_cases w : s.1 = 0
        · exact w
        · rw [ffs_k w] at y1; exact y1
      have z1 : 1 ≤ Vx X k ∧ Vx X k ≤ 40 := by
        by_cases w : 1 ≤ Vx X k ∧ Vx X k ≤ 40
        · exact w
        · rw [ffs_y y0 (by rw [f1, if_neg w]; decide), f1, if_neg w] at y1
          exact absurd (show (3 : Int) = 0 from y1) (by decide)
      have z2 : 1 ≤ Vx X (k + 2) ∧ Vx X (k + 2) ≤ 40 := by
        by_cases w : 1 ≤ Vx X (k + 2) ∧ Vx X (k + 2) ≤ 40
        · exact w
        · rw [← hS, ffs_y y1 (by rw [f1, if_neg w]; decide), f1, if_neg w] at y
          exact absurd (show (3 : Int) = 0 from y) (by decide)
      have v1 := nAt hX (MTK_g (s := S) (r := r) hT) k0 (by omega) t0
      have v2 := nAt hX (MTK_g (s := S) (r := r) hT) (k := k + 2) (by omega) (by omega) t2
      rw [if_neg (fun a => a y), v1.1, Option.bind_some, v2.1, Option.bind_some, jsub_e (by omega) (by omega), jsub_e (by omega) (by omega), through_m z1.1 z1.2 z2.1 z2.2 h, Option.bind_some]
      have tk : TOK (sg, 3, Vx X k, Vx X (k + 2)) := Or.inr (Or.inr (Or.inr ⟨rfl, z1.1, z1.2, z2.1, z2.2⟩))
      exact ⟨_, rfl, termP_k hw h tk, fun _ => ⟨rfl, tk⟩⟩
    · rw [if_pos y]
      exact ⟨r, rfl, h, fun a => absurd a y⟩
