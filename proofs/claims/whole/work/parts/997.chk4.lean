-- L3: enter: the model's check, the other verbs; the class's check
theorem rfs_t {s : Int × Int} {b2 k1 k2 P : Int} (hk : 0 < k1) : rfs (rfs s 1 k1 P) b2 k2 P = rfs s 1 k1 P := by
  rw [rfs2 hk, if_neg (show ¬ (1 : Int) = 0 by decide), if_neg (show ¬ (1 : Int) = 0 by decide)]
theorem one_1 {F : It3 → Int} {s : Int × Int} {x : It3} {k : Int} (hs : 0 ≤ s.1) (hk : 0 < k) (h : F x = k) : rfs s 1 k x.2.2 = ffs F s x := one_f hs hk (by rw [h, if_neg (show ¬ (1 : Int) = 0 by decide)])
theorem rfs_k {s : Int × Int} {b k p : Int} (h : ¬ s.1 ≤ 0) : rfs s b k p = s := by
  unfold rfs
  by_cases z : b = 0
  · rw [if_pos z]
  · rw [if_neg z, if_neg h]
theorem iteL {α : Type} {x : Int} {f : Int → α} : (if x < 0 then f 0 else f 1) = f (if x < 0 then 0 else 1) := by split <;> rfl
theorem iteC {α : Type} {x : Int} {f : Int → α} : (if x ≠ 30 then f 0 else f 1) = f (if x ≠ 30 then 0 else 1) := by split <;> rfl
theorem ck42 {X : Tx} {m0 m : Mem} {A cur kn op vb : Int} {r : RW} {I : List It3} {TL WL : List Q4} {td td' : Int → Int} (hX : XO X m0) (hT : MTK X A m) (a0 : 0 ≤ A) (hv : vb = 42 ∨ vb = 44 ∨ vb = 45 ∨ vb = 46) (ht : TT X 0 = vb) (h : q42 X td A I TL WL td' op) : CK0 m r I cur kn := by
  obtain ⟨t1, aa, rfl, _⟩ := h
  have st : M_check (gst m (0, -1) r) = (M_checkCue_161 (gst m (0, -1) r)).bind fun m1 => some m1 := by
    rcases hv with rfl | rfl | rfl | rfl
    · rw [(ckV hX (MTK_g hT) a0 (w := 25) (by decide) (by decide) (by decide) (by decide) ht).1]; rfl
    · rw [(ckV hX (MTK_g hT) a0 (w := 28) (by decide) (by decide) (by decide) (by decide) ht).1]; rfl
    · rw [(ckV hX (MTK_g hT) a0 (w := 29) (by decide) (by decide) (by decide) (by decide) ht).1]; rfl
    · rw [(ckV hX (MTK_g hT) a0 (w := 30) (by decide) (by decide) (by decide) (by decide) ht).1]; rfl
  have hn := nAt hX (MTK_g (s := (0, -1)) (r := r) hT) (by decide) (by omega) t1
  have fe : fitem (m 264) cur kn (19, Vx X 1, Px X 1) = (if rowOf (m 264) (Vx X 1) < 0 then 2 else 0) := fl19 hn.2.2.1 hn.2.2.2.1
  refine ⟨?_, fun x hx => ?_⟩
  · rw [st]
    unfold M_checkCue_161
    rw [hn.2.1, M_cueRow_e, Option.bind_some, gst_264]
    by_cases z : 0 ≤ rowOf (m 264) (Vx X 1)
    · rw [if_neg (show ¬ rowOf (m 264) (Vx X 1) < 0 by omega)] at fe
      rw [if_pos z]
      unfold M_checkCue_180
      rw [refuse_e hT (by decide) (by omega), Option.bind_some, Option.bind_some, rfs_0]
      show _ = some (gst m (ffs (fitem (m 264) cur kn) (0, -1) (19, Vx X 1, Px X 1)) r)
      rw [ffs_0 fe]
    · rw [if_pos (show rowOf (m 264) (Vx X 1) < 0 by omega)] at fe
      rw [if_neg z]
      unfold M_checkCue_180
      rw [refuse_e hT (by decide) (by omega), Option.bind_some, Option.bind_some]
      exact congrArg (fun a => some (gst m a r)) (one_1 (F := fitem (m 264) cur kn) (x := (19, Vx X 1, Px X 1)) s00 (by decide) fe)
  · simp at hx; subst hx; exact RK_m (by decide) (by decide) (by decide) (by decide)
theorem ck43 {X : Tx} {m0 m : Mem} {A cur kn op : Int} {r : RW} {I : List It3} {TL WL : List Q4} {td td' : Int → Int} (hX : XO X m0) (hT : MTK X A m) (a0 : 0 ≤ A) (ht : TT X 0 = 43) (h : q43 X td A I TL WL td' op) : CK0 m r I cur kn := by
  obtain ⟨t1, t2, t3, aa, rfl, _⟩ := h
  have hn := nAt hX (MTK_g (s := (0, -1)) (r := r) hT) (by decide) (by omega) t1
  have hle := cuesN_le (g := m 264)
  have fe : fitem (m 264) cur kn (19, Vx X 1, Px X 1) = (if rowOf (m 264) (Vx X 1) < 0 then 2 else 0) := fl19 hn.2.2.1 hn.2.2.2.1
  have ge : fitem (m 264) cur kn (18, Vx X 3, Px X 3) = (if 1 ≤ Vx X 3 ∧ Vx X 3 ≤ 999 then (if rowOf (m 264) (Vx X 3) < 0 then (if 30 ≤ cuesN (m 264) then 5 else 0) else 7) else 3) := fl18
  have fin : ∀ (s : Int × Int), 0 ≤ s.1 → ((M_bounds (gst m s r) 3 1 999).bind fun m4 => (M_cueRow m4 (m4 269 3)).bind fun x7 => if x7 < 0 then M_checkCue_240 m4 0 else M_checkCue_240 m4 1) = some (gst m (ffs (fitem (m 264) cur kn) s (18, Vx X 3, Px X 3)) r) := by
    intro s hs
    have hn3 := nAt hX (MTK_g (s := rfs s (if 1 ≤ Vx X 3 ∧ Vx X 3 ≤ 999 then 0 else 1) 3 (Px X 3)) (r := r) hT) (by decide) (by omega) t3
    rw [bounds_e hX hT (by decide) (by omega) t3, Option.bind_some, hn3.2.1, M_cueRow_e, Option.bind_some, gst_264, iteL]
    unfold M_checkCue_240
    rw [refuse_e hT (by decide) (by omega), Option.bind_some, M_cues_e, Option.bind_some, gst_264, iteC]
    unfold M_checkCue_261
    rw [refuse_e hT (by decide) (by omega), Option.bind_some]
    by_cases z : 1 ≤ Vx X 3 ∧ Vx X 3 ≤ 999
    · rw [if_pos z] at ge
      rw [if_pos z, rfs_0]
      by_cases y : rowOf (m 264) (Vx X 3) < 0
      · rw [if_pos y] at ge
        rw [if_pos y, rfs_0]
        by_cases q : cuesN (m 264) = 30
        · rw [if_pos (show 30 ≤ cuesN (m 264) by omega)] at ge
          rw [if_neg (fun a => a q)]
          exact congrArg (fun a => some (gst m a r)) (one_1 (F := fitem (m 264) cur kn) (x := (18, Vx X 3, Px X 3)) hs (by decide) ge)
        · rw [if_neg (show ¬ 30 ≤ cuesN (m 264) by omega)] at ge
          rw [if_pos q, rfs_0, ffs_0 ge]
      · rw [if_neg y] at ge
        rw [if_neg y, rfs_t (by decide)]
        exact congrArg (fun a => some (gst m a r)) (one_1 (F := fitem (m 264) cur kn) (x := (18, Vx X 3, Px X 3)) hs (by decide) ge)
    · rw [if_neg z] at ge
      rw [if_neg z, rfs_t (by decide), rfs_t (by decide)]
      exact congrArg (fun a => some (gst m a r)) (one_1 (F := fitem (m 264) cur kn) (x := (18, Vx X 3, Px X 3)) hs (by decide) ge)
  refine ⟨?_, fun x hx => ?_⟩
  · rw [(ckV hX (MTK_g hT) a0 (w := 26) (by decide) (by decide) (by decide) (by decide) ht).1]
    show (((M_cueRow (gst m (0, -1) r) (gst m (0, -1) r 269 1)).bind fun x18 => if 0 ≤ x18 then M_checkCue_207 (gst m (0, -1) r) 0 else M_checkCue_207 (gst m (0, -1) r) 1).bind fun m1 => some m1) = _
    rw [hn.2.1, M_cueRow_e, Option.bind_some, gst_264, bsm]
    by_cases z : 0 ≤ rowOf (m 264) (Vx X 1)
    · rw [if_neg (show ¬ rowOf (m 264) (Vx X 1) < 0 by omega)] at fe
      rw [if_pos z]
      unfold M_checkCue_207
      rw [refuse_e hT (by decide) (by omega), Option.bind_some, rfs_0, fin _ s00]
      show _ = some (gst m (ffs (fitem (m 264) cur kn) (ffs (fitem (m 264) cur kn) (0, -1) (19, Vx X 1, Px X 1)) (18, Vx X 3, Px X 3)) r)
      rw [ffs_0 fe]
    · rw [if_pos (show rowOf (m 264) (Vx X 1) < 0 by omega)] at fe
      rw [if_neg z]
      unfold M_checkCue_207
      have o1 := one_1 (F := fitem (m 264) cur kn) (x := (19, Vx X 1, Px X 1)) s00 (by decide) fe
      have o2 : rfs (0, -1) 1 2 (Px X 1) = ffs (fitem (m 264) cur kn) (0, -1) (19, Vx X 1, Px X 1) := o1
      rw [refuse_e hT (by decide) (by omega), Option.bind_some, o2, fin _ (ff0 s00)]
      rfl
  · simp at hx; rcases hx with hx | hx <;> subst hx <;> exact RK_m (by decide) (by decide) (by decide) (by decide)
theorem ck47 {X : Tx} {m0 m : Mem} {A cur kn op vb : Int} {r : RW} {I : List It3} {TL WL : List Q4} {td td' : Int → Int} (hX : XO X m0) (hT : MTK X A m) (a0 : 0 ≤ A) (hv : vb = 47 ∨ vb = 48) (ht : TT X 0 = vb) (h : q47 X td A I TL WL td' op) : CK0 m r I cur kn := by
  obtain ⟨_, rfl, _⟩ := h
  refine ⟨?_, fun x hx => by simp at hx⟩
  rcases hv with rfl | rfl
  · rw [(ckV hX (MTK_g hT) a0 (w := 31) (by decide) (by decide) (by decide) (by decide) ht).1]; rfl
  · rw [(ckV hX (MTK_g hT) a0 (w := 32) (by decide) (by decide) (by decide) (by decide) ht).1]; rfl
theorem ck49 {X : Tx} {m0 m : Mem} {A cur kn op : Int} {r : RW} {I : List It3} {TL WL : List Q4} {td td' : Int → Int} (hX : XO X m0) (hT : MTK X A m) (a0 : 0 ≤ A) (ht : TT X 0 = 49) (h : q49 X td A I TL WL td' op) : CK0 m r I cur kn := by
  obtain ⟨t1, aa, rfl, _⟩ := h
  refine ⟨?_, fun x hx => ?_⟩
  · rw [(ckV hX (MTK_g hT) a0 (w := 33) (by decide) (by decide) (by decide) (by decide) ht).1]
    show ((((M_hasHeld (gst m (0, -1) r)).bind fun x1 => if x1 ≠ 0 then M_checkOther_45 (gst m (0, -1) r) 0 else M_checkOther_45 (gst m (0, -1) r) 1).bind fun m1 => some m1).bind fun m1 => some m1) = _
    rw [bsm, bsm]
    simp only [iteb (f := M_checkOther_45 (gst m (0, -1) r))]
    unfold M_checkOther_45
    rw [held_f (cur := cur) (kn := kn) (K := fun m1 => (M_bounds m1 1 0 600).bind fun m4 => some m4) hT a0 s00, bnd_e (g := m 264) (cur := cur) (kn := kn) (r := 15) hX hT (by decide) (by omega) t1 (by unfold smp; omega) (by decide) (by decide) (ff0 s00), Option.bind_some]
    rfl
  · simp at hx; rcases hx with hx | hx <;> subst hx <;> exact RK_m (by decide) (by decide) (by decide) (by decide)
theorem ck50 {X : Tx} {m0 m : Mem} {A cur kn op : Int} {r : RW} {I : List It3} {TL WL : List Q4} {td td' : Int → Int} (hX : XO X m0) (hT : MTK X A m) (a0 : 0 ≤ A) (ht : TT X 0 = 50) (h : q50 X td A I TL WL td' op) : CK0 m r I cur kn := by
  obtain ⟨t1, t2, t3, aa, rfl, _⟩ := h
  refine ⟨?_, fun x hx => ?_⟩
  · rw [(ckV hX (MTK_g hT) a0 (w := 34) (by decide) (by decide) (by decide) (by decide) ht).1]
    show ((((M_bounds (gst m (0, -1) r) 1 1 200).bind fun m5 => (M_bounds m5 3 0 255).bind fun m8 => some m8).bind fun m1 => some m1).bind fun m1 => some m1) = _
    rw [bsm, bsm, bnd_e (g := m 264) (cur := cur) (kn := kn) (r := 10) hX hT (by decide) (by omega) t1 (by unfold smp; omega) (by decide) (by decide) s00, Option.bind_some, bnd_e (g := m 264) (cur := cur) (kn := kn) (r := 12) hX hT (by decide) (by omega) t3 (by unfold smp; omega) (by decide) (by decide) (ff0 s00), Option.bind_some]
    rfl
  · simp at hx; rcases hx with hx | hx <;> subst hx <;> exact RK_m (by decide) (by decide) (by decide) (by decide)
theorem ck51 {X : Tx} {m0 m : Mem} {A cur kn op : Int} {r : RW} {I : List It3} {TL WL : List Q4} {td td' : Int → Int} (hX : XO X m0) (hT : MTK X A m) (a0 : 0 ≤ A) (ht : TT X 0 = 51) (h : q51 X td A I TL WL td' op) : CK0 m r I cur kn := by
  obtain ⟨aa, _, _, h⟩ := h
  have k2 := kind_2 hX (MTK_g (s := (0, -1)) (r := r) hT) (k := 1) (by decide) (by omega)
  have ek : gst m (0, -1) r 268 1 = Kx X 1 := by
    have := k2.1
    rw [aI_ok (by decide) (by decide)] at this
    exact Option.some.inj this
  have st : M_check (gst m (0, -1) r) = if Kx X 1 ≠ 2 then some (gst m (0, -1) r) else (M_bounds (gst m (0, -1) r) 1 1 200).bind fun m12 => some m12 := by
    rw [(ckV hX (MTK_g hT) a0 (w := 35) (by decide) (by decide) (by decide) (by decide) ht).1]
    show (((if (gst m (0, -1) r 268 1) ≠ 2 then some (gst m (0, -1) r) else (M_bounds (gst m (0, -1) r) 1 1 200).bind fun m12 => some m12).bind fun m1 => some m1).bind fun m1 => some m1) = _
    rw [bsm, bsm, ek]
  rcases h with ⟨t1, rfl, _⟩ | ⟨t1, rfl, _⟩
  · refine ⟨?_, fun x hx => by simp at hx⟩
    rw [st, if_pos (show Kx X 1 ≠ 2 from fun a => by have := k2.2.mp a; omega)]
    rfl
  · refine ⟨?_, fun x hx => ?_⟩
    · rw [st, if_neg (fun a => a (k2.2.mpr t1)), bnd_e (g := m 264) (cur := cur) (kn := kn) (r := 10) hX hT (by decide) (by omega) t1 (by unfold smp; omega) (by decide) (by decide) s00, Option.bind_some]
      rfl
    · simp at hx; subst hx; exact RK_m (by decide) (by decide) (by decide) (by decide)
theorem ck52 {X : Tx} {m0 m : Mem} {A cur kn op : Int} {r : RW} {I : List It3} {TL WL : List Q4} {td td' : Int → Int} (hX : XO X m0) (hT : MTK X A m) (a0 : 0 ≤ A) (ht : TT X 0 = 52) (h : q52 X td A I TL WL td' op) : CK0 m r I cur kn := by
  obtain ⟨t1, t2, _, _, h⟩ := h
  have A1 : 4 ≤ A := by omega
  have st : M_check (gst m (0, -1) r) = if (if TT X 3 = 54 then (1 : Int) else 0) ≠ 0 then some (gst m (ffs (fitem (m 264) cur kn) (0, -1) (9, Vx X 1, Px X 1)) r) else (M_bounds (gst m (ffs (fitem (m 264) cur kn) (0, -1) (9, Vx X 1, Px X 1)) r) 5 1 999).bind fun m22 => some m22 := by
    rw [(ckV hX (MTK_g hT) a0 (w := 36) (by decide) (by decide) (by decide) (by decide) ht).1]
    show ((((M_bounds (gst m (0, -1) r) 1 1 10).bind fun m17 => (M_isWordAt m17 3 11).bind fun x20 => if x20 ≠ 0 then some m17 else (M_bounds m17 5 1 999).bind fun m22 => some m22).bind fun m1 => some m1).bind fun m1 => some m1) = _
    rw [bsm, bsm, bnd_e (g := m 264) (cur := cur) (kn := kn) (r := 9) hX hT (by decide) (by omega) t1 (by unfold smp; omega) (by decide) (by decide) s00, Option.bind_some, wAt hX (MTK_g hT) (by decide) (by omega) (by decide) (by decide), show tbl piT 11 = 54 by decide, Option.bind_some]
  rcases h with ⟨t3, _, _, rfl, _⟩ | ⟨t3, t4, t5, aa, _, rfl, _⟩
  · refine ⟨?_, fun x hx => ?_⟩
    · rw [st, if_pos t3, if_pos (show (1 : Int) ≠ 0 by decide)]
      rfl
    · simp at hx; subst hx; exact RK_m (by decide) (by decide) (by decide) (by decide)
  · have hn := nAt hX hT (k := 3) (by decide) (by omega) t3
    have f0 : fitem (m 264) cur kn (0, Vx X 3, Px X 3) = 0 := by
      show FLT (m 264) cur kn 0 (Vx X 3) = 0
      rw [flS (show smp 0 by unfold smp; omega), show tbl leaT 0 = 0 by decide, show tbl greT 0 = 9999 by decide, if_pos (by omega)]
    refine ⟨?_, fun x hx => ?_⟩
    · rw [st, if_neg (show ¬ TT X 3 = 54 by omega), if_neg (show ¬ (0 : Int) ≠ 0 from fun a => a rfl), bnd_e (g := m 264) (cur := cur) (kn := kn) (r := 16) hX hT (by decide) (by omega) t5 (by unfold smp; omega) (by decide) (by decide) (ff0 s00), Option.bind_some]
      show _ = some (gst m (ffs (fitem (m 264) cur kn) (ffs (fitem (m 264) cur kn) (ffs (fitem (m 264) cur kn) (0, -1) (9, Vx X 1, Px X 1)) (0, Vx X 3, Px X 3)) (16, Vx X 5, Px X 5)) r)
      rw [ffs_0 (x := (0, Vx X 3, Px X 3)) f0]
    · simp at hx; rcases hx with hx | hx | hx <;> subst hx <;> exact RK_m (by decide) (by decide) (by decide) (by decide)
theorem ck78 {X : Tx} {m0 m : Mem} {A cur kn op : Int} {r : RW} {I : List It3} {TL WL : List Q4} {td td' : Int → Int} (hX : XO X m0) (hT : MTK X A m) (hA : TT X A = 70) (a0 : 0 ≤ A) (hw : WF (m 264)) (ht : TT X 0 = 75 ∨ TT X 0 = 64 ∨ (TT X 0 = 35 ∧ ¬ TT X 2 = 73)) (h : q78 X td A I TL WL td' op) : CK1 X m r I TL 78 cur kn := by
  have hb := hT.2.1
  obtain ⟨_, _, its, its2, e, rfl, hS, hW, _⟩ := h
  have hl := SETP_l hS
  have hl2 := (WHS_k (kn := kn) WL e A its2 hW).2
  obtain ⟨r', e1, e2, e3⟩ := gather_m (cur := cur) (kn := kn) (s := (0, -1)) (r := r) hX hT hw hS (by decide) hl2 s00
  refine ⟨its, Px X 0, its2, e, r', its, by simp, ?_, e2, e3, hS, SETP_k hS, (WHS_k WL e A its2 hW).1⟩
  have st : M_check (gst m (0, -1) r) = M_checkSet (gst m (0, -1) r) := by
    rcases ht with ht | ht | ⟨ht, ht2⟩
    · rw [(ckN hX (MTK_g hT) a0 (by omega)).1]
      show ((((M_checkSet (gst m (0, -1) r)).bind fun m => some m).bind fun m => some m).bind fun m => some m) = _
      rw [bsm, bsm, bsm]
    · rw [(ckV hX (MTK_g hT) a0 (w := 0) (by decide) (by decide) (by decide) (by decide) ht).1]
      show ((((M_checkSet (gst m (0, -1) r)).bind fun m => some m).bind fun m => some m).bind fun m => some m) = _
      rw [bsm, bsm, bsm]
    · have A2 : 2 ≤ A := by
        obtain ⟨tm, tms, e1, its1, its2, _, h2, _, h4⟩ := hS
        have := MORE_l _ _ _ _ h4
        rcases h2 with ⟨a, _⟩ | ⟨_, _, a, _⟩ | ⟨a, _⟩ | ⟨a, _⟩ <;> omega
      rw [(ckV hX (MTK_g hT) a0 (w := 1) (by decide) (by decide) (by decide) (by decide) ht).1]
      show ((M_isSignAt (gst m (0, -1) r) 2 61).bind fun x1 => if x1 = 0 then (M_checkSet (gst m (0, -1) r)).bind fun m3 => some m3 else (M_bounds (gst m (0, -1) r) 1 1 12).bind fun m6 => (M_gather m6 3).bind fun m9 => some m9) = _
      rw [sAt hX (MTK_g hT) (by decide) (by omega) (sc := 73) (by omega), if_neg ht2, Option.bind_some, if_pos rfl, bsm]
  rw [st]
  unfold M_checkSet
  rw [e1, Option.bind_some]
  have e22 : wr (gst m (rfs (its.foldl (ffs (fitem (m 264) cur kn)) (0, -1)) (if r'.1 = 0 then 1 else 0) 6 (Px X 0)) r') 259 22 e 259 22 = e := wr_eq
  rw [e22, Option.bind_some, gst_22]
  exact whats_m hX (MTK_22 hT) hA WL e its2 _ big hW (by omega) (rfs_r (fold_r its _ s00) (by decide)) (by have := big_ge; omega)
-- free slots
theorem r52 : ∀ v ∈ List.range 70, tbl piT (v : Int) < 9 → (v : Int) = tbl piT (v : Int) + 52 := by decide +kernel
theorem free_m {m : Mem} {s : Int × Int} {w : RW} {v kn : Int} (hk : KON m) (hw : WF (m 264)) (v0 : 0 ≤ v) (v1 : v ≤ 9999) (k0 : 0 ≤ kn) (k1 : kn < 9) (wk : 0 ≤ wdK kn ∧ wdK kn ≤ 8) (wa : ∀ k, 0 ≤ k → k < 9 → 0 ≤ wdK k ∧ wdK k ≤ 8) : ∀ (d N : Nat) (u l3 : Int), 0 ≤ u → u + d = 40 → d < N → ((l3 = 0 ∧ ¬ freeP (m 264) v kn) ∨ (l3 = 1 ∧ v + wdK kn ≤ 201 ∧ ∀ q, 0 ≤ q → q < u → 0 ≤ m 264 (6 * q) → m 264 (6 * q + 1) + wdK (m 264 (6 * q)) ≤ v ∨ v + wdK kn ≤ m 264 (6 * q + 1))) → ∃ b, M_checkPatch_92 (gst m s w) v (v + wdK kn - 1) N l3 u = M_checkPatch_181 (gst m s w) b ∧ ((b = 0 ∧ freeP (m 264) v kn) ∨ (b = 1 ∧ ¬ freeP (m 264) v kn)) := by
  intro d
  induction d with
  | zero =>
    intro N u l3 u0 hu hN hl
    obtain ⟨N, rfl⟩ : ∃ j, N = j + 1 := ⟨N - 1, by omega⟩
    rw [M_checkPatch_92, if_pos (show 40 ≤ u by omega)]
    rcases hl with ⟨rfl, hl⟩ | ⟨rfl, hl, hq⟩
    · rw [if_neg (fun a => a rfl)]
      exact ⟨1, rfl, Or.inr ⟨rfl, hl⟩⟩
    · rw [if_pos (show (1 : Int) ≠ 0 by decide)]
      exact ⟨0, rfl, Or.inl ⟨rfl, hl, fun q q0 q1 => hq q q0 (by omega)⟩⟩
  | succ d ih =>
    intro N u l3 u0 hu hN hl
    obtain ⟨N, rfl⟩ : ∃ j, N = j + 1 := ⟨N - 1, by omega⟩
    rw [M_checkPatch_92, if_neg (show ¬ 40 ≤ u by omega), jadd_e (x := u) (y := 1) (by omega) (by omega)]
    rcases hl with ⟨rfl, hl⟩ | ⟨rfl, hl, hq⟩
    · rw [if_pos rfl]
      exact ih N (u + 1) 0 (by omega) (by omega) (by omega) (Or.inl ⟨rfl, hl⟩)
    · rw [if_neg (show ¬ (1 : Int) = 0 by decide), gst_pat u0 (by omega), Option.bind_some]
      by_cases z : m 264 (6 * u) < 0
      · rw [if_pos z, if_pos rfl]
        refine ih N (u + 1) 1 (by omega) (by omega) (by omega) (Or.inr ⟨rfl, hl, fun q q0 q1 qp => ?_⟩)
        by_cases e : q = u
        · subst e; omega
        · exact hq q q0 (by omega) qp
      · obtain ⟨w1, w2, w3⟩ := hw.u u u0 (by omega)
        obtain ⟨w4, w5, _⟩ := w3 (by omega)
        have wu := wa (m 264 (6 * u)) (by omega) (by omega)
        rw [if_neg z, if_neg (show ¬ (1 : Int) = 0 by decide), jmul_e (by omega) (by omega), jadd_e (x := 6 * u) (y := 1) (by omega) (by omega), aI_ok (by omega) (by omega), gst_264, Option.bind_some, Option.bind_some, aI_ok (by omega) (by omega), gst_264, Option.bind_some, M_width_e (KON_g hk) (by omega) (by omega), Option.bind_some, jadd_e (x := m 264 (6 * u + 1)) (by omega) (by omega)]
        by_cases y : v + wdK kn - 1 < m 264 (6 * u + 1)
        · rw [if_pos y]
          refine ih N (u + 1) 1 (by omega) (by omega) (by omega) (Or.inr ⟨rfl, hl, fun q q0 q1 qp => ?_⟩)
          by_cases e : q = u
          · subst e; omega
          · exact hq q q0 (by omega) qp
        · rw [if_neg y]
          by_cases x : v < m 264 (6 * u + 1) + wdK (m 264 (6 * u))
          · rw [if_pos x]
            refine ih N (u + 1) 0 (by omega) (by omega) (by omega) (Or.inl ⟨rfl, fun a => ?_⟩)
            have := a.2 u u0 (by omega) (by omega)
            omega
          · rw [if_neg x]
            refine ih N (u + 1) 1 (by omega) (by omega) (by omega) (Or.inr ⟨rfl, hl, fun q q0 q1 qp => ?_⟩)
            by_cases e : q = u
            · subst e; omega
            · exact hq q q0 (by omega) qp
theorem wdK_q : ∀ k, 0 ≤ k → k < 9 → 0 ≤ wdK k ∧ wdK k ≤ 8 := by
  intro k k0 k1
  have h : ∀ j ∈ List.range 9, 0 ≤ wdK (j : Int) ∧ wdK (j : Int) ≤ 8 := by decide +kernel
  have := h k.toNat (List.mem_range.mpr (by omega))
  rw [show ((k.toNat : Nat) : Int) = k by omega] at this
  exact this
theorem ck33 {X : Tx} {m0 m : Mem} {A cur op : Int} {r : RW} {I : List It3} {TL WL : List Q4} {td td' : Int → Int} (hX : XO X m0) (hT : MTK X A m) (hA : TT X A = 70) (a0 : 0 ≤ A) (hw : WF (m 264)) (hk : KON m) (ht : TT X 0 = 33) (h : q33 X td A I TL WL td' op) : CK0 m r I cur (td' 11) := by
  have hb := hT.2.1
  obtain ⟨t1, ⟨k0, k1⟩, t3, t4, _, _, _, its, L, rfl, hO⟩ := h
  have hl := OPL_l _ _ _ _ _ _ hO
  have ekn : td' 11 = TT X 2 := by
    rw [OPL_td (j := 11) (fun t a b => by unfold slP; omega) _ _ _ _ _ _ hO, st1_ne (show ¬ (11 : Int) = 10 by decide), st1_eq]
  rw [ekn]
  have hc := TT_c hX (a := 2) (by decide) (by have := hT.1; omega) (by omega)
  have hK : Kx X 2 = 1 := by omega
  have eT : TT X 2 = tbl piT (Vx X 2) := by omega
  have eV : Vx X 2 = TT X 2 + 52 := by
    obtain ⟨v, hv⟩ : ∃ v : Nat, Vx X 2 = (v : Int) := ⟨(Vx X 2).toNat, by omega⟩
    have := r52 v (List.mem_range.mpr (by omega))
    rw [← hv, ← eT] at this
    exact this k1
  refine ⟨?_, fun x hx => ?_⟩
  · have fin : ∀ s, 0 ≤ s.1 → ((M_bounds (gst m s r) 4 1 200).bind fun m4 => (some (m4 269 4)).bind fun x7 => (M_width m4 (jsub (m4 269 2) 52)).bind fun x9 => (some (jsub (jadd x7 x9) 1)).bind fun x11 => if 200 < x11 then M_checkPatch_92 m4 x7 x11 big 0 0 else M_checkPatch_92 m4 x7 x11 big 1 0) = some (gst m (its.foldl (ffs (fitem (m 264) cur (TT X 2))) (ffs (fitem (m 264) cur (TT X 2)) s (11, Vx X 4, Px X 4))) r) := by
      intro s hs
      have hn := nAt hX hT (by decide) (by omega) t4
      rw [bounds_e hX hT (by decide) (by omega) t4, Option.bind_some]
      generalize hS1 : rfs s (if 1 ≤ Vx X 4 ∧ Vx X 4 ≤ 200 then 0 else 1) 3 (Px X 4) = s1
      have hn2 := nAt hX (MTK_g (s := s1) (r := r) hT) (by decide) (by omega) t4
      have h2 := ((MTK_g (s := s1) (r := r) hT).2.2 2 (by decide) (by omega)).2.1 (Or.inl hK)
      have wk := wdK_q (TT X 2) k0 k1
      rw [hn2.2.1, Option.bind_some, h2, eV, jsub_e (by omega) (by omega), show TT X 2 + 52 - 52 = TT X 2 by omega, M_width_e (KON_g hk) k0 k1, Option.bind_some, jadd_e (by omega) (by omega), jsub_e (by omega) (by omega), Option.bind_some]
      have fr := free_m (m := m) (s := s1) (w := r) (v := Vx X 4) (kn := TT X 2) hk hw hn.2.2.1 hn.2.2.2.1 k0 k1 wk wdK_q 40 big 0
      have e : ∃ b, (if 200 < Vx X 4 + wdK (TT X 2) - 1 then M_checkPatch_92 (gst m s1 r) (Vx X 4) (Vx X 4 + wdK (TT X 2) - 1) big 0 0 else M_checkPatch_92 (gst m s1 r) (Vx X 4) (Vx X 4 + wdK (TT X 2) - 1) big 1 0) = M_checkPatch_181 (gst m s1 r) b ∧ ((b = 0 ∧ freeP (m 264) (Vx X 4) (TT X 2)) ∨ (b = 1 ∧ ¬ freeP (m 264) (Vx X 4) (TT X 2))) := by
        by_cases z : 200 < Vx X 4 + wdK (TT X 2) - 1
        · rw [if_pos z]
          exact fr 0 (by decide) (by decide) b40 (Or.inl ⟨rfl, fun a => by have := a.1; omega⟩)
        · rw [if_neg z]
          exact fr 1 (by decide) (by decide) b40 (Or.inr ⟨rfl, by omega, fun q q0 q1 => by omega⟩)
      obtain ⟨b, e1, e2⟩ := e
      rw [e1]
      unfold M_checkPatch_181
      rw [refuse_e hT (by decide) (by omega), Option.bind_some]
      have fe : fitem (m 264) cur (TT X 2) (11, Vx X 4, Px X 4) = (if 1 ≤ Vx X 4 ∧ Vx X 4 ≤ 200 then (@ite Int (freeP (m 264) (Vx X 4) (TT X 2)) (Classical.propDecidable _) 0 4) else 3) := fl11
      have o : rfs s1 b 4 (Px X 4) = ffs (fitem (m 264) cur (TT X 2)) s (11, Vx X 4, Px X 4) := by
        rw [← hS1]
        by_cases z : 1 ≤ Vx X 4 ∧ Vx X 4 ≤ 200
        · rw [if_pos z] at fe
          rw [if_pos z, rfs_0]
          rcases e2 with ⟨rfl, hf⟩ | ⟨rfl, hf⟩
          · rw [if_pos hf] at fe
            rw [rfs_0, ffs_0 fe]
          · rw [if_neg hf] at fe
            exact one_1 (F := fitem (m 264) cur (TT X 2)) (x := (11, Vx X 4, Px X 4)) hs (by decide) fe
        · rw [if_neg z] at fe
          rw [if_neg z, rfs_t (by decide)]
          exact one_1 (F := fitem (m 264) cur (TT X 2)) (x := (11, Vx X 4, Px X 4)) hs (by decide) fe
      rw [o]
      exact opts_m hX hT hA L 5 its _ td' _ big hO (by decide) (ff0 hs) (by have := big_ge; omega)
    have hn1 := nAt hX hT (by decide) (by omega) t1
    have fe : fitem (m 264) cur (TT X 2) (3, Vx X 1, Px X 1) = (if 1 ≤ Vx X 1 ∧ Vx X 1 ≤ 40 then (if m 264 (6 * (Vx X 1 - 1)) < 0 then 0 else 7) else 3) := fl3
    rw [(ckV hX (MTK_g hT) a0 (w := 3) (by decide) (by decide) (by decide) (by decide) ht).1]
    show ((M_checkPatch (gst m (0, -1) r)).bind fun m15 => some m15) = some (gst m (its.foldl (ffs (fitem (m 264) cur (TT X 2))) (ffs (fitem (m 264) cur (TT X 2)) (ffs (fitem (m 264) cur (TT X 2)) (0, -1) (3, Vx X 1, Px X 1)) (11, Vx X 4, Px X 4))) r)
    rw [bsm]
    unfold M_checkPatch
    rw [bounds_e hX hT (by decide) (by omega) t1, Option.bind_some]
    by_cases z : 1 ≤ Vx X 1 ∧ Vx X 1 ≤ 40
    · rw [if_pos z] at fe
      rw [if_pos z, rfs_0]
      have e11 : gst m (0, -1) r 259 11 = 0 := (gst_p (m := m) (s := (0, -1)) (r := r)).2.2.1
      have hn2 := nAt hX (MTK_g (s := (0, -1)) (r := r) hT) (by decide) (by omega) t1
      rw [if_neg (fun a => a e11), hn2.2.1, jsub_e (by omega) (by omega), gst_pat (by omega) (by omega), Option.bind_some]
      by_cases y : m 264 (6 * (Vx X 1 - 1)) < 0
      · rw [if_pos y] at fe
        rw [if_pos y, if_pos rfl]
        unfold M_checkPatch_36
        rw [refuse_e hT (by decide) (by omega), Option.bind_some, rfs_0, fin _ s00, ffs_0 (x := (3, Vx X 1, Px X 1)) fe]
      · rw [if_neg y] at fe
        rw [if_neg y, if_neg (show ¬ (1 : Int) = 0 by decide)]
        unfold M_checkPatch_36
        have o1 : rfs (0, -1) 1 7 (Px X 1) = ffs (fitem (m 264) cur (TT X 2)) (0, -1) (3, Vx X 1, Px X 1) := one_1 (F := fitem (m 264) cur (TT X 2)) (x := (3, Vx X 1, Px X 1)) s00 (by decide) fe
        rw [refuse_e hT (by decide) (by omega), Option.bind_some, o1, fin _ (ff0 s00)]
    · rw [if_neg z] at fe
      rw [if_neg z]
      have o1 : rfs (0, -1) 1 3 (Px X 1) = ffs (fitem (m 264) cur (TT X 2)) (0, -1) (3, Vx X 1, Px X 1) := one_1 (F := fitem (m 264) cur (TT X 2)) (x := (3, Vx X 1, Px X 1)) s00 (by decide) fe
      have e11 : gst m (rfs (0, -1) 1 3 (Px X 1)) r 259 11 = 3 := (gst_p (m := m) (s := rfs (0, -1) 1 3 (Px X 1)) (r := r)).2.2.1
      rw [if_pos (show gst m (rfs (0, -1) 1 3 (Px X 1)) r 259 11 ≠ 0 by rw [e11]; decide)]
      unfold M_checkPatch_36
      rw [refuse_e hT (by decide) (by omega), Option.bind_some, rfs_0, o1, fin _ (ff0 s00)]
  · rcases List.mem_append.mp hx with hx | hx
    · simp at hx
      rcases hx with hx | hx <;> subst hx
      · exact RK_m (by decide) (by decide) (by decide) (by decide)
      · exact ⟨show (0 : Int) ≤ 11 by decide, show (11 : Int) < 23 by decide, show ¬ (11 : Int) = 20 by decide, fun _ => ⟨k0, k1⟩⟩
    · exact OPL_k rlP_k _ _ _ _ _ _ hO x hx
