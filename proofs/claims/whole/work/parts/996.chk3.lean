-- L3: enter: the model's check of each verb
def kOf (vb : Int) : Int := if vb = 34 then 1 else if vb = 38 then 12 else if vb = 78 then 0 else 3
def CK0 (m : Mem) (r : RW) (I : List It3) (cur kn : Int) : Prop := M_check (gst m (0, -1) r) = some (gst m (I.foldl (ffs (fitem (m 264) cur kn)) (0, -1)) r) ∧ ∀ x ∈ I, RK kn x
def CK1 (X : Tx) (m : Mem) (r : RW) (I : List It3) (TL : List Q4) (vb cur kn : Int) : Prop := ∃ I1 P I2 e r' its, I = I1 ++ (20, 0, P) :: I2 ∧ M_check (gst m (0, -1) r) = some (gst (wr m 259 22 e) (I2.foldl (ffs (fitem (m 264) cur kn)) (rfs (I1.foldl (ffs (fitem (m 264) cur kn)) (0, -1)) (if r'.1 = 0 then 1 else 0) 6 P)) r') ∧ ROK r' ∧ ((I1.foldl (ffs (fitem (m 264) cur kn)) (0, -1)).1 = 0 → r' = gathP (m 264) (0, r.2) TL ∧ ∀ tm ∈ TL, TOK tm) ∧ SETP X TL (kOf vb) e its ∧ (∀ x ∈ I1, RK kn x) ∧ ∀ x ∈ I2, RK kn x
theorem s00 : (0 : Int) ≤ ((0 : Int), (-1 : Int)).1 := Int.le_refl _
theorem ff0 {g : Int → Int} {cur kn : Int} {s : Int × Int} {x : It3} (hs : 0 ≤ s.1) : 0 ≤ (ffs (fitem g cur kn) s x).1 := ffs_r hs FLT_r
theorem rfs_r {s : Int × Int} {b k p : Int} (hs : 0 ≤ s.1) (hk : 0 ≤ k) : 0 ≤ (rfs s b k p).1 := by
  unfold rfs
  by_cases z : b = 0
  · rw [if_pos z]; exact hs
  · rw [if_neg z]
    by_cases y : s.1 ≤ 0
    · rw [if_pos y]; exact hk
    · rw [if_neg y]; exact hs
theorem ck34 {X : Tx} {m0 m : Mem} {A cur kn op : Int} {r : RW} {I : List It3} {TL WL : List Q4} {td td' : Int → Int} (hX : XO X m0) (hT : MTK X A m) (a0 : 0 ≤ A) (hw : WF (m 264)) (ht : TT X 0 = 34) (h : q34 X td A I TL WL td' op) : CK1 X m r I TL 34 cur kn := by
  obtain ⟨_, _, _, its, rfl, hS⟩ := h
  obtain ⟨r', e1, e2, e3⟩ := gather_m (cur := cur) (kn := kn) (s := (0, -1)) (r := r) hX hT hw hS (by decide) (Int.le_refl _) s00
  refine ⟨its, Px X 1, [], A, r', its, rfl, ?_, e2, e3, hS, SETP_k hS, fun x hx => by simp at hx⟩
  rw [(ckV hX (MTK_g hT) a0 (w := 9) (by decide) (by decide) (by decide) (by decide) ht).1]
  show ((M_gather (gst m (0, -1) r) 1).bind fun m24 => some m24) = _
  rw [e1, Option.bind_some, gst_22]
  rfl
theorem ck35 {X : Tx} {m0 m : Mem} {A cur kn op : Int} {r : RW} {I : List It3} {TL WL : List Q4} {td td' : Int → Int} (hX : XO X m0) (hT : MTK X A m) (a0 : 0 ≤ A) (hw : WF (m 264)) (ht : TT X 0 = 35) (h : q35 X td A I TL WL td' op) : CK1 X m r I TL 35 cur kn := by
  obtain ⟨t1, t2, _, _, _, its, rfl, hS⟩ := h
  have hl := SETP_l hS
  obtain ⟨r', e1, e2, e3⟩ := gather_m (cur := cur) (kn := kn) (s := ffs (fitem (m 264) cur kn) (0, -1) (4, Vx X 1, Px X 1)) (r := r) hX hT hw hS (by decide) (Int.le_refl _) (ff0 s00)
  refine ⟨(4, Vx X 1, Px X 1) :: its, Px X 3, [], A, r', its, rfl, ?_, e2, e3, hS, fun x hx => ?_, fun x hx => by simp at hx⟩
  · rw [(ckV hX (MTK_g hT) a0 (w := 1) (by decide) (by decide) (by decide) (by decide) ht).1]
    show ((M_isSignAt (gst m (0, -1) r) 2 61).bind fun x1 => if x1 = 0 then (M_checkSet (gst m (0, -1) r)).bind fun m3 => some m3 else (M_bounds (gst m (0, -1) r) 1 1 12).bind fun m6 => (M_gather m6 3).bind fun m9 => some m9) = _
    rw [sAt hX (MTK_g hT) (by decide) (by omega) (sc := 73) (by omega), if_pos t2, Option.bind_some, if_neg (show ¬ (1 : Int) = 0 by decide), bnd_e (g := m 264) (cur := cur) (kn := kn) (r := 4) hX hT (by decide) (by omega) t1 (by unfold smp; omega) (by decide) (by decide) s00, Option.bind_some, e1, Option.bind_some, gst_22]
    rfl
  · rcases List.mem_cons.mp hx with hx | hx
    · subst hx; exact RK_m (by decide) (by decide) (by decide) (by decide)
    · exact SETP_k hS x hx
theorem ck36 {X : Tx} {m0 m : Mem} {A cur kn op : Int} {r : RW} {I : List It3} {TL WL : List Q4} {td td' : Int → Int} (hX : XO X m0) (hT : MTK X A m) (hA : TT X A = 70) (a0 : 0 ≤ A) (ht : TT X 0 = 36) (h : q36 X td A I TL WL td' op) : CK0 m r I cur kn := by
  have hb := hT.2.1
  obtain ⟨t1, t2, _, _, h⟩ := h
  have A1 : 3 ≤ A := by
    rcases h with ⟨_, a, _⟩ | ⟨_, its, L, _, a⟩
    · omega
    · have := OPL_l _ _ _ _ _ _ a; omega
  have st : M_check (gst m (0, -1) r) = M_check_158 big (gst m (ffs (fitem (m 264) cur kn) (0, -1) (6, Vx X 1, Px X 1)) r) 3 := by
    rw [(ckV hX (MTK_g hT) a0 (w := 10) (by decide) (by decide) (by decide) (by decide) ht).1]
    show ((M_bounds (gst m (0, -1) r) 1 1 12).bind fun m28 => M_check_158 big m28 3) = _
    rw [bnd_e (g := m 264) (cur := cur) (kn := kn) (r := 6) hX hT (by decide) (by omega) t1 (by unfold smp; omega) (by decide) (by decide) s00, Option.bind_some]
  rcases h with ⟨t3, a, _, rfl, _⟩ | ⟨_, its, L, rfl, hO⟩
  · refine ⟨?_, fun x hx => ?_⟩
    · obtain ⟨j, hj⟩ := big_s
      rw [st, hj, M_check_158, (parAt hX (MTK_g hT) (by decide) (by omega)).2 (by omega), Option.bind_some, if_pos rfl]
      rfl
    · simp at hx; subst hx; exact RK_m (by decide) (by decide) (by decide) (by decide)
  · refine ⟨?_, fun x hx => ?_⟩
    · rw [st, levels_m hX hT hA L 3 its _ td' _ big hO (by decide) (ff0 s00) (by have := big_ge; omega)]
      rfl
    · rcases List.mem_append.mp hx with hx | hx
      · simp at hx; subst hx; exact RK_m (by decide) (by decide) (by decide) (by decide)
      · exact OPL_k rlL_k _ _ _ _ _ _ hO x hx
theorem ck37 {X : Tx} {m0 m : Mem} {A cur kn op : Int} {r : RW} {I : List It3} {TL WL : List Q4} {td td' : Int → Int} (hX : XO X m0) (hT : MTK X A m) (a0 : 0 ≤ A) (hw : WF (m 264)) (ht : TT X 0 = 37) (h : q37 X td A I TL WL td' op) : (CK0 m r I cur kn ∧ TL = []) ∨ CK1 X m r I TL 37 cur kn := by
  have hb := hT.2.1
  obtain ⟨t1, _, h⟩ := h
  have A1 : 3 ≤ A := by
    rcases h with ⟨_, _, its, e, _, a, _, _, b, _⟩ | ⟨_, _, _, a, _⟩
    · have := SETP_l a; omega
    · omega
  have st : M_check (gst m (0, -1) r) = if (if TT X 2 = 55 then (1 : Int) else 0) = 0 then some (gst m (ffs (fitem (m 264) cur kn) (0, -1) (7, Vx X 1, Px X 1)) r) else (M_gather (gst m (ffs (fitem (m 264) cur kn) (0, -1) (7, Vx X 1, Px X 1)) r) 3).bind fun m38 => (M_bounds m38 (jadd (m38 259 22) 1) 0 1000).bind fun m41 => some m41 := by
    rw [(ckV hX (MTK_g hT) a0 (w := 12) (by decide) (by decide) (by decide) (by decide) ht).1]
    show ((M_bounds (gst m (0, -1) r) 1 1 8).bind fun m33 => (M_isWordAt m33 2 13).bind fun x36 => if x36 = 0 then some m33 else (M_gather m33 3).bind fun m38 => (M_bounds m38 (jadd (m38 259 22) 1) 0 1000).bind fun m41 => some m41) = _
    rw [bnd_e (g := m 264) (cur := cur) (kn := kn) (r := 7) hX hT (by decide) (by omega) t1 (by unfold smp; omega) (by decide) (by decide) s00, Option.bind_some, wAt hX (MTK_g hT) (by decide) (by omega) (by decide) (by decide), show tbl piT 13 = 55 by decide, Option.bind_some]
  rcases h with ⟨t2, _, its, e, rfl, hS, t3, t4, a, _⟩ | ⟨t2, _, tl, _, rfl, _⟩
  · right
    have hl := SETP_l hS
    obtain ⟨r', e1, e2, e3⟩ := gather_m (cur := cur) (kn := kn) (s := ffs (fitem (m 264) cur kn) (0, -1) (7, Vx X 1, Px X 1)) (r := r) hX hT hw hS (by decide) (by omega) (ff0 s00)
    refine ⟨(7, Vx X 1, Px X 1) :: its, Px X 3, [(13, Vx X (e + 1), Px X (e + 1))], e, r', its, by simp, ?_, e2, e3, hS, fun x hx => ?_, fun x hx => ?_⟩
    · rw [st, if_pos t2, if_neg (show ¬ (1 : Int) = 0 by decide), e1, Option.bind_some]
      have e22 : wr (gst m (rfs (its.foldl (ffs (fitem (m 264) cur kn)) (ffs (fitem (m 264) cur kn) (0, -1) (7, Vx X 1, Px X 1))) (if r'.1 = 0 then 1 else 0) 6 (Px X 3)) r') 259 22 e 259 22 = e := wr_eq
      rw [e22, jadd_e (by omega) (by omega), gst_22]
      have hs2 : 0 ≤ (rfs (its.foldl (ffs (fitem (m 264) cur kn)) (ffs (fitem (m 264) cur kn) (0, -1) (7, Vx X 1, Px X 1))) (if r'.1 = 0 then 1 else 0) 6 (Px X 3)).1 := by
        exact rfs_r (fold_r its _ (ff0 s00)) (by decide)
      rw [bnd_e (g := m 264) (cur := cur) (kn := kn) (r := 13) hX (MTK_22 hT) (by omega) (by omega) t4 (by unfold smp; omega) (by decide) (by decide) hs2, Option.bind_some]
      rfl
    · rcases List.mem_cons.mp hx with hx | hx
      · subst hx; exact RK_m (by decide) (by decide) (by decide) (by decide)
      · exact SETP_k hS x hx
    · simp at hx; subst hx; exact RK_m (by decide) (by decide) (by decide) (by decide)
  · left
    refine ⟨⟨?_, fun x hx => ?_⟩, tl⟩
    · rw [st, if_neg (show ¬ TT X 2 = 55 by omega), if_pos rfl]
      rfl
    · simp at hx; subst hx; exact RK_m (by decide) (by decide) (by decide) (by decide)
theorem ck38 {X : Tx} {m0 m : Mem} {A cur kn op : Int} {r : RW} {I : List It3} {TL WL : List Q4} {td td' : Int → Int} (hX : XO X m0) (hT : MTK X A m) (a0 : 0 ≤ A) (hw : WF (m 264)) (ht : TT X 0 = 38) (h : q38 X td A I TL WL td' op) : (CK0 m r I cur kn ∧ TL = []) ∨ CK1 X m r I TL 38 cur kn := by
  have hb := hT.2.1
  obtain ⟨t1, t2, _, h⟩ := h
  have A1 : 4 ≤ A := by
    rcases h with ⟨_, a, _⟩ | ⟨_, _, _, _, _, _, _, _, _, _, its, _, a, _⟩
    · omega
    · have := SETP_l a; omega
  have st : M_check (gst m (0, -1) r) = M_check_236 big (gst m (ffs (fitem (m 264) cur kn) (0, -1) (8, Vx X 1, Px X 1)) r) 6 := by
    rw [(ckV hX (MTK_g hT) a0 (w := 16) (by decide) (by decide) (by decide) (by decide) ht).1]
    show ((M_bounds (gst m (0, -1) r) 1 1 4).bind fun m49 => M_check_236 big m49 6) = _
    rw [bnd_e (g := m 264) (cur := cur) (kn := kn) (r := 8) hX hT (by decide) (by omega) t1 (by unfold smp; omega) (by decide) (by decide) s00, Option.bind_some]
  have p11 : tbl piT 11 = 54 := by decide
  rcases h with ⟨t3, _, _, tl, rfl, _⟩ | ⟨t3, t4, _, t6, _, t8, _, t10, _, _, its, rfl, hS, _⟩
  · left
    refine ⟨⟨?_, fun x hx => ?_⟩, tl⟩
    · obtain ⟨j, hj⟩ := big_s
      rw [st, hj, M_check_236, if_neg (show ¬ (10 : Int) < 6 by decide), wAt hX (MTK_g hT) (by decide) (by omega) (by decide) (by decide), p11, if_pos t3, Option.bind_some, if_pos (show (1 : Int) ≠ 0 by decide)]
      unfold M_check_267
      rw [wAt hX (MTK_g hT) (by decide) (by omega) (by decide) (by decide), p11, if_pos t3, Option.bind_some, if_pos (show (1 : Int) ≠ 0 by decide)]
      rfl
    · simp at hx; subst hx; exact RK_m (by decide) (by decide) (by decide) (by decide)
  · right
    have hl := SETP_l hS
    have n3 : ¬ TT X 3 = 54 := by omega
    obtain ⟨r', e1, e2, e3⟩ := gather_m (cur := cur) (kn := kn) (s := ffs (fitem (m 264) cur kn) (ffs (fitem (m 264) cur kn) (ffs (fitem (m 264) cur kn) (ffs (fitem (m 264) cur kn) (0, -1) (8, Vx X 1, Px X 1)) (13, Vx X 6, Px X 6)) (13, Vx X 8, Px X 8)) (13, Vx X 10, Px X 10)) (r := r) hX hT hw hS (by decide) (Int.le_refl _) (ff0 (ff0 (ff0 (ff0 s00))))
    refine ⟨[(8, Vx X 1, Px X 1), (13, Vx X 6, Px X 6), (13, Vx X 8, Px X 8), (13, Vx X 10, Px X 10)] ++ its, Px X 12, [], A, r', its, rfl, ?_, e2, e3, hS, fun x hx => ?_, fun x hx => by simp at hx⟩
    · have step : ∀ (N : Nat) (k : Int) (s : Int × Int), 6 ≤ k → k ≤ 10 → 0 ≤ s.1 → TT X k = 75 → M_check_236 (N + 1) (gst m s r) k = M_check_236 N (gst m (ffs (fitem (m 264) cur kn) s (13, Vx X k, Px X k)) r) (k + 2) := by
        intro N k s k0 k1 hs tk
        rw [M_check_236, if_neg (show ¬ (10 : Int) < k by omega), wAt hX (MTK_g hT) (by decide) (by omega) (by decide) (by decide), p11, if_neg n3, Option.bind_some, if_neg (show ¬ (0 : Int) ≠ 0 from fun a => a rfl), bnd_e (g := m 264) (cur := cur) (kn := kn) (r := 13) hX hT (by omega) (by omega) tk (by unfold smp; omega) (by decide) (by decide) hs, Option.bind_some, jadd_e (by omega) (by omega)]
      obtain ⟨j, hj⟩ : ∃ j, big = j + 1 + 1 + 1 + 1 := ⟨big - 4, by have := big_ge; omega⟩
      rw [st, hj, step _ 6 _ (by decide) (by decide) (ff0 s00) t6, show (6 : Int) + 2 = 8 by decide, step _ 8 _ (by decide) (by decide) (ff0 (ff0 s00)) t8, show (8 : Int) + 2 = 10 by decide, step _ 10 _ (by decide) (by decide) (ff0 (ff0 (ff0 s00))) t10, show (10 : Int) + 2 = 12 by decide, M_check_236, if_pos (show (10 : Int) < 12 by decide)]
      unfold M_check_267
      rw [wAt hX (MTK_g hT) (by decide) (by omega) (by decide) (by decide), p11, if_neg n3, Option.bind_some, if_neg (show ¬ (0 : Int) ≠ 0 from fun a => a rfl), e1, Option.bind_some, gst_22]
      rfl
    · rcases List.mem_append.mp hx with hx | hx
      · simp at hx; rcases hx with hx | hx | hx | hx <;> subst hx <;> exact RK_m (by decide) (by decide) (by decide) (by decide)
      · exact SETP_k hS x hx
theorem cuesN_le {g : Int → Int} : cuesN g ≤ 30 := by
  have := itr_inv (fun r s => if 0 < cn g r then s + 1 else s) (0 : Int) (fun k s => s ≤ k) (Int.le_refl _) (fun k s hs => by split <;> omega) 30
  exact this
theorem upTo_0 {g : Int → Int} : upTo g 0 = 0 := by
  have := itr_inv (fun r s => if cn g r ≤ 0 ∧ s < cn g r then cn g r else s) (0 : Int) (fun k s => s = 0) rfl (fun k s hs => by split <;> omega) 30
  exact this
theorem num_m {X : Tx} {m0 m : Mem} {A k cur kn : Int} {s : Int × Int} {w : RW} (hX : XO X m0) (hT : MTK X A m) (k0 : 0 ≤ k) (k1 : k ≤ A) (ht : TT X k = 75) (hs : 0 ≤ s.1) : M_checkNumber (gst m s w) k = some (gst m (ffs (fitem (m 264) cur kn) s (17, Vx X k, Px X k)) w) := by
  have hn := nAt hX (MTK_g (s := s) (r := w) hT) k0 k1 ht
  have hle := cuesN_le (g := m 264)
  have fe : fitem (m 264) cur kn (17, Vx X k, Px X k) = (if 1 ≤ Vx X k ∧ Vx X k ≤ 999 then (if rowOf (m 264) (Vx X k) < 0 then (if 30 ≤ cuesN (m 264) then 5 else 0) else 0) else 3) := fl17
  unfold M_checkNumber
  rw [bounds_e hX hT k0 k1 ht, Option.bind_some, (nAt hX (MTK_g hT) k0 k1 ht).1, Option.bind_some, M_cueRow_e, Option.bind_some, gst_264]
  by_cases z : 0 ≤ rowOf (m 264) (Vx X k)
  · rw [if_pos z]
    unfold M_checkNumber_37
    rw [refuse_e hT k0 k1, Option.bind_some, rfs_0]
    rw [if_neg (show ¬ rowOf (m 264) (Vx X k) < 0 by omega)] at fe
    have := one_f (F := fitem (m 264) cur kn) (s := s) (x := (17, Vx X k, Px X k)) (b := if 1 ≤ Vx X k ∧ Vx X k ≤ 999 then 0 else 1) (k := 3) hs (by decide) (by
      rw [fe]; by_cases y : 1 ≤ Vx X k ∧ Vx X k ≤ 999
      · rw [if_pos y, if_pos y, if_pos rfl]
      · rw [if_neg y, if_neg y, if_neg (show ¬ (1 : Int) = 0 by decide)])
    exact congrArg (fun a => some (gst m a w)) this
  · rw [if_neg z, M_cues_e, Option.bind_some, gst_264]
    rw [if_pos (show rowOf (m 264) (Vx X k) < 0 by omega)] at fe
    by_cases y : cuesN (m 264) = 30
    · rw [if_neg (fun a => a y)]
      unfold M_checkNumber_37
      rw [refuse_e hT k0 k1, Option.bind_some, rfs2 (by decide)]
      rw [if_pos (show 30 ≤ cuesN (m 264) by omega)] at fe
      have := one_f (F := fitem (m 264) cur kn) (s := s) (x := (17, Vx X k, Px X k)) (b := if (if 1 ≤ Vx X k ∧ Vx X k ≤ 999 then (0 : Int) else 1) = 0 then 1 else 1) (k := if (if 1 ≤ Vx X k ∧ Vx X k ≤ 999 then (0 : Int) else 1) = 0 then 5 else 3) hs (by split <;> decide) (by
        rw [fe]; by_cases y : 1 ≤ Vx X k ∧ Vx X k ≤ 999
        · simp [y]
        · simp [y])
      exact congrArg (fun a => some (gst m a w)) this
    · rw [if_pos y]
      unfold M_checkNumber_37
      rw [refuse_e hT k0 k1, Option.bind_some, rfs_0]
      rw [if_neg (show ¬ 30 ≤ cuesN (m 264) by omega)] at fe
      have := one_f (F := fitem (m 264) cur kn) (s := s) (x := (17, Vx X k, Px X k)) (b := if 1 ≤ Vx X k ∧ Vx X k ≤ 999 then 0 else 1) (k := 3) hs (by decide) (by
        rw [fe]; by_cases y : 1 ≤ Vx X k ∧ Vx X k ≤ 999
        · rw [if_pos y, if_pos y, if_pos rfl]
        · rw [if_neg y, if_neg y, if_neg (show ¬ (1 : Int) = 0 by decide)])
      exact congrArg (fun a => some (gst m a w)) this
theorem ck39 {X : Tx} {m0 m : Mem} {A cur kn op : Int} {r : RW} {I : List It3} {TL WL : List Q4} {td td' : Int → Int} (hX : XO X m0) (hT : MTK X A m) (hA : TT X A = 70) (a0 : 0 ≤ A) (ht : TT X 0 = 39) (h : q39 X td A I TL WL td' op) : CK0 m r I cur kn := by
  have hb := hT.2.1
  obtain ⟨t1, _, _, _, its, L, rfl, hO⟩ := h
  have hl := OPL_l _ _ _ _ _ _ hO
  refine ⟨?_, fun x hx => ?_⟩
  · rw [(ckV hX (MTK_g hT) a0 (w := 21) (by decide) (by decide) (by decide) (by decide) ht).1]
    show (((M_checkNumber (gst m (0, -1) r) 1).bind fun m1 => (M_checkTimes m1 2).bind fun m4 => some m4).bind fun m1 => some m1) = _
    rw [num_m (cur := cur) (kn := kn) hX hT (by decide) (by omega) t1 s00, Option.bind_some]
    unfold M_checkTimes
    rw [times_m hX hT hA L 2 its _ td' _ big hO (by decide) (ff0 s00) (by rw [show (2 : Int) - 1 = 1 by decide]; omega) (by have := big_ge; omega), Option.bind_some, Option.bind_some]
    rfl
  · rcases List.mem_append.mp hx with hx | hx
    · simp at hx; subst hx; exact RK_m (by decide) (by decide) (by decide) (by decide)
    · exact OPL_k rlT_k _ _ _ _ _ _ hO x hx
theorem held_f {X : Tx} {m : Mem} {A cur kn : Int} {s : Int × Int} {w : RW} {K : Mem → Option Mem} (hT : MTK X A m) (a0 : 0 ≤ A) (hs : 0 ≤ s.1) : ((M_hasHeld (gst m s w)).bind fun x => (M_refuse (gst m s w) (if x ≠ 0 then 0 else 1) 6 0).bind K) = K (gst m (ffs (fitem (m 264) cur kn) s (21, 0, Px X 0)) w) := by
  have fe : fitem (m 264) cur kn (21, 0, Px X 0) = (if vcn (fun i => m 264 (12362 + i)) ≤ 0 then 6 else 0) := fl21
  rw [held_m, Option.bind_some, refuse_e hT (Int.le_refl _) a0, Option.bind_some]
  have := one_f (F := fitem (m 264) cur kn) (s := s) (x := (21, 0, Px X 0)) (b := if (if vcn (fun i => gst m s w 264 (12362 + i)) ≤ 0 then (0 : Int) else 1) ≠ 0 then 0 else 1) (k := 6) hs (by decide) (by
    rw [fe, gst_264]
    by_cases y : vcn (fun i => m 264 (12362 + i)) ≤ 0
    · simp [y]
    · simp [y])
  exact congrArg (fun a => K (gst m a w)) this
theorem iteb {α : Type} {x : Int} {f : Int → α} : (if x ≠ 0 then f 0 else f 1) = f (if x ≠ 0 then 0 else 1) := by split <;> rfl
theorem ck40 {X : Tx} {m0 m : Mem} {A cur kn op : Int} {r : RW} {I : List It3} {TL WL : List Q4} {td td' : Int → Int} (hX : XO X m0) (hT : MTK X A m) (hA : TT X A = 70) (a0 : 0 ≤ A) (ht : TT X 0 = 40) (h : q40 X td A I TL WL td' op) : CK0 m r I cur kn := by
  have hb := hT.2.1
  obtain ⟨t1, _, _, its, L, b, hbb, rfl, hO⟩ := h
  have hl := OPL_l _ _ _ _ _ _ hO
  have b2 : 2 ≤ b := by omega
  refine ⟨?_, fun x hx => ?_⟩
  · rw [(ckV hX (MTK_g hT) a0 (w := 22) (by decide) (by decide) (by decide) (by decide) ht).1]
    show (((M_hasHeld (gst m (0, -1) r)).bind fun x8 => if x8 ≠ 0 then M_checkCue_90 (gst m (0, -1) r) 0 else M_checkCue_90 (gst m (0, -1) r) 1).bind fun m1 => some m1) = _
    simp only [iteb (f := M_checkCue_90 (gst m (0, -1) r))]
    unfold M_checkCue_90
    rw [held_f (cur := cur) (kn := kn) (K := fun m1 => (M_checkNumber m1 1).bind fun m4 => (M_checkTimes m4 2).bind fun m7 => some m7) hT a0 s00, num_m (cur := cur) (kn := kn) hX hT (by decide) (by omega) t1 (ff0 s00), Option.bind_some]
    unfold M_checkTimes
    have tm := fun N => times_m (m0 := m0) (cur := cur) (kn := kn) (g := m 264) (w := r) hX hT hA L b its _ td' (ffs (fitem (m 264) cur kn) (ffs (fitem (m 264) cur kn) (0, -1) (21, 0, Px X 0)) (17, Vx X 1, Px X 1)) N hO (by omega) (ff0 (ff0 s00))
    rcases hbb with ⟨t2, _, rfl⟩ | ⟨t2, _, rfl⟩
    · obtain ⟨j, hj⟩ : ∃ j, big = j + 1 := big_s
      obtain ⟨kd1, kd2⟩ := kind_2 hX (MTK_g (s := ffs (fitem (m 264) cur kn) (ffs (fitem (m 264) cur kn) (0, -1) (21, 0, Px X 0)) (17, Vx X 1, Px X 1)) (r := r) hT) (k := 2) (by decide) (by omega)
      rw [hj, M_checkTimes_2, sAt hX (MTK_g hT) (by decide) (by omega) (sc := 70) (by omega), if_neg (show ¬ TT X 2 = 70 by omega), Option.bind_some, if_neg (show ¬ (0 : Int) ≠ 0 from fun a => a rfl), jsub_e (by decide) (by decide), wAt hX (MTK_g hT) (by decide) (by omega) (by decide) (by decide), Option.bind_some, kd1, Option.bind_some, if_pos (show Kx X 2 ≠ 2 from fun a => by have := kd2.mp a; omega), jadd_e (by decide) (by decide), show (2 : Int) + 1 = 3 by decide, tm j (by rw [show (3 : Int) - 1 = 2 by decide]; omega) (by have := big_ge; omega), Option.bind_some, Option.bind_some]
      rfl
    · rw [tm big (by rw [show (2 : Int) - 1 = 1 by decide]; omega) (by have := big_ge; omega), Option.bind_some, Option.bind_some]
      rfl
  · rcases List.mem_append.mp hx with hx | hx
    · simp at hx; rcases hx with hx | hx <;> subst hx <;> exact RK_m (by decide) (by decide) (by decide) (by decide)
    · exact OPL_k rlT_k _ _ _ _ _ _ hO x hx
theorem ck41 {X : Tx} {m0 m : Mem} {A kn op : Int} {r : RW} {I : List It3} {TL WL : List Q4} {td td' : Int → Int} (hX : XO X m0) (hT : MTK X A m) (a0 : 0 ≤ A) (ht : TT X 0 = 41) (h : q41 X td A I TL WL td' op) : CK0 m r I (m 259 29) kn := by
  obtain ⟨a1, rfl, _⟩ := h
  refine ⟨?_, fun x hx => ?_⟩
  · rw [(ckV hX (MTK_g hT) a0 (w := 24) (by decide) (by decide) (by decide) (by decide) ht).1]
    show (((M_hasHeld (gst m (0, -1) r)).bind fun x13 => if x13 ≠ 0 then M_checkCue_122 (gst m (0, -1) r) 0 else M_checkCue_122 (gst m (0, -1) r) 1).bind fun m1 => some m1) = _
    simp only [iteb (f := M_checkCue_122 (gst m (0, -1) r))]
    unfold M_checkCue_122
    rw [held_f (cur := m 259 29) (kn := kn) (K := fun m1 => if (m1 259 29) = 0 then M_checkCue_152 m1 1 else (M_numberUpTo m1 (m1 259 29)).bind fun x4 => if x4 ≠ 0 then M_checkCue_152 m1 0 else M_checkCue_152 m1 1) hT a0 s00]
    have hs1 := ff0 (g := m 264) (cur := m 259 29) (kn := kn) (x := (21, 0, Px X 0)) s00
    generalize hs : ffs (fitem (m 264) (m 259 29) kn) (0, -1) (21, 0, Px X 0) = s at hs1
    have e29 : gst m s r 259 29 = m 259 29 := (gst_p (m := m) (s := s) (r := r)).2.2.2.2.2 29 (by decide) (by decide) (by decide)
    have fe : fitem (m 264) (m 259 29) kn (22, 0, Px X 0) = (if upTo (m 264) (m 259 29) = 0 then 7 else 0) := fl22
    have fin : ∀ b, (b = 0 ∧ ¬ upTo (m 264) (m 259 29) = 0) ∨ (b = 1 ∧ upTo (m 264) (m 259 29) = 0) → ((M_checkCue_152 (gst m s r) b).bind fun m1 => some m1) = some (gst m (ffs (fitem (m 264) (m 259 29) kn) s (22, 0, Px X 0)) r) := by
      intro b hb
      unfold M_checkCue_152
      rw [refuse_e hT (Int.le_refl _) a0, Option.bind_some, Option.bind_some]
      have := one_f (F := fitem (m 264) (m 259 29) kn) (s := s) (x := (22, 0, Px X 0)) (b := b) (k := 7) hs1 (by decide) (by
        rw [fe]
        rcases hb with ⟨rfl, hb⟩ | ⟨rfl, hb⟩
        · rw [if_neg hb, if_pos rfl]
        · rw [if_pos hb, if_neg (show ¬ (1 : Int) = 0 by decide)])
      exact congrArg (fun a => some (gst m a r)) this
    show ((if gst m s r 259 29 = 0 then M_checkCue_152 (gst m s r) 1 else (M_numberUpTo (gst m s r) (gst m s r 259 29)).bind fun x4 => if x4 ≠ 0 then M_checkCue_152 (gst m s r) 0 else M_checkCue_152 (gst m s r) 1).bind fun m1 => some m1) = some (gst m (ffs (fitem (m 264) (m 259 29) kn) (ffs (fitem (m 264) (m 259 29) kn) (0, -1) (21, 0, Px X 0)) (22, 0, Px X 0)) r)
    rw [hs, e29]
    by_cases z : m 259 29 = 0
    · rw [if_pos z]
      exact fin 1 (Or.inr ⟨rfl, by rw [z]; exact upTo_0⟩)
    · rw [if_neg z, M_numberUpTo_e, Option.bind_some, gst_264]
      by_cases y : upTo (m 264) (m 259 29) = 0
      · rw [if_neg (fun a => a y)]
        exact fin 1 (Or.inr ⟨rfl, y⟩)
      · rw [if_pos y]
        exact fin 0 (Or.inl ⟨rfl, y⟩)
  · simp at hx; rcases hx with hx | hx <;> subst hx <;> exact RK_m (by decide) (by decide) (by decide) (by decide)
