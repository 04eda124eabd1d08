-- L3: enter: the model's check, step by step
def smp (r : Int) : Prop := r = 0 ∨ r = 1 ∨ r = 4 ∨ r = 6 ∨ r = 7 ∨ r = 8 ∨ r = 9 ∨ r = 10 ∨ r = 12 ∨ r = 13 ∨ r = 14 ∨ r = 15 ∨ r = 16
theorem flS {g : Int → Int} {cur kn r v : Int} (h : smp r) : FLT g cur kn r v = if tbl leaT r ≤ v ∧ v ≤ tbl greT r then 0 else 3 := by
  unfold FLT
  by_cases z : tbl leaT r ≤ v ∧ v ≤ tbl greT r
  · rw [if_neg (by omega), if_pos z]
    unfold smp at h
    rw [if_neg (by omega), if_neg (by omega), if_neg (by omega), if_neg (by omega), if_neg (by omega), if_neg (by omega), if_neg (by omega), if_neg (by omega), if_neg (by omega)]
  · rw [if_pos (by omega), if_neg z]
theorem bnd_e {X : Tx} {m0 m : Mem} {A k lo hi cur kn r : Int} {g : Int → Int} {s : Int × Int} {w : RW} (hX : XO X m0) (h : MTK X A m) (k0 : 0 ≤ k) (k1 : k ≤ A) (ht : TT X k = 75) (hr : smp r) (hl : tbl leaT r = lo) (hh : tbl greT r = hi) (hs : 0 ≤ s.1) : M_bounds (gst m s w) k lo hi = some (gst m (ffs (fitem g cur kn) s (r, Vx X k, Px X k)) w) := by
  rw [bounds_e hX h k0 k1 ht]
  have := bnd_f (F := fitem g cur kn) (s := s) (x := (r, Vx X k, Px X k)) (lo := lo) (hi := hi) hs (by
    show FLT g cur kn r (Vx X k) = _
    rw [flS hr, hl, hh])
  have e : rfs s (if lo ≤ Vx X k ∧ Vx X k ≤ hi then 0 else 1) 3 (Px X k) = ffs (fitem g cur kn) s (r, Vx X k, Px X k) := this
  rw [e]
theorem gst_22 {m : Mem} {s : Int × Int} {r : RW} {e : Int} : wr (gst m s r) 259 22 e = gst (wr m 259 22 e) s r := by
  obtain ⟨q1, q2, q3, q4, q5, q6⟩ := gst_p (m := m) (s := s) (r := r)
  refine gst_x ?_ ?_ ?_ ?_ ?_ ?_
  · rw [wr_f (by decide), q1]
  · rw [wr_o (by decide), q2]
  · rw [wr_f (by decide), q3]
  · rw [wr_f (by decide), q4]
  · intro o a b; rw [wr_o a, wr_o a, q5 o a b]
  · intro f a b d
    by_cases z : f = 22
    · subst z; rw [wr_eq, wr_eq]
    · rw [wr_f z, wr_f z, q6 f a b d]
theorem MTK_22 {X : Tx} {A e : Int} {m : Mem} (h : MTK X A m) : MTK X A (wr m 259 22 e) := by
  refine ⟨h.1, h.2.1, fun k k0 k1 => ?_⟩
  rw [wr_o (by decide), wr_o (by decide), wr_o (by decide)]
  exact h.2.2 k k0 k1
theorem p45 : tbl piT 45 = 26 := by decide
theorem p5 : tbl piT 5 = 29 := by decide
theorem p6 : tbl piT 6 = 30 := by decide
theorem kind_2 {X : Tx} {m0 m : Mem} {A k : Int} (hX : XO X m0) (h : MTK X A m) (k0 : 0 ≤ k) (k1 : k ≤ A) : aI m 268 122 k = some (Kx X k) ∧ (Kx X k = 2 ↔ TT X k = 75) := by
  obtain ⟨h1, h2, h3⟩ := h
  have hc := TT_c hX k0 (by omega) (by omega)
  rw [aI_ok k0 (by omega), (h3 k k0 k1).1]
  exact ⟨rfl, by omega⟩
-- times
theorem times_m {X : Tx} {m0 m : Mem} {A cur kn : Int} {g : Int → Int} {w : RW} (hX : XO X m0) (hT : MTK X A m) (hA : TT X A = 70) : ∀ (L : List (Int × Int)) (k : Int) (its : List It3) (td td' : Int → Int) (s : Int × Int) (N : Nat), OPL X 21 28 6 slT rlT (-1) L k A its td td' → 1 ≤ k → 0 ≤ s.1 → ¬ TT X (k - 1) = 26 → A - k < N → M_checkTimes_2 N (gst m s w) k = some (gst m (its.foldl (ffs (fitem g cur kn)) s) w) := by
  have hb := hT.2.1
  intro L
  induction L with
  | nil =>
    intro k its td td' s N hO k1 hs hl hN
    obtain ⟨rfl, rfl, _, _⟩ := hO
    obtain ⟨N, rfl⟩ : ∃ j, N = j + 1 := ⟨N - 1, by omega⟩
    rw [M_checkTimes_2, sAt hX (MTK_g hT) (by omega) (Int.le_refl _) (sc := 70) (by omega), if_pos hA, Option.bind_some, if_pos (by decide)]
    rfl
  | cons sv L ih =>
    intro k its td td' s N hO k1 hs hl hN
    obtain ⟨its1, its2, e1, t1, t2, _, _, h5, rfl, hO2⟩ := hO
    have ol := OPL_l L e1 A its2 _ td' hO2
    obtain ⟨N, rfl⟩ : ∃ j, N = j + 1 := ⟨N - 1, by rcases h5 with ⟨_, _, _, x, _⟩ | ⟨_, _, x, _⟩ <;> omega⟩
    have kA : k + 1 ≤ A := by rcases h5 with ⟨_, _, _, x, _⟩ | ⟨_, _, x, _⟩ <;> omega
    obtain ⟨kd1, kd2⟩ := kind_2 hX (MTK_g (s := s) (r := w) hT) (k := k) (by omega) (by omega)
    -- the word
    have st1' : M_checkTimes_2 (N + 1) (gst m s w) k = M_checkTimes_2 N (gst m s w) (k + 1) := by
      rw [M_checkTimes_2, sAt hX (MTK_g hT) (by omega) (by omega) (sc := 70) (by omega), if_neg (show ¬ TT X k = 70 by omega), Option.bind_some, if_neg (by decide), jsub_e (by omega) (by omega), wAt hX (MTK_g hT) (by omega) (by omega) (by decide) (by decide), Option.bind_some, kd1, Option.bind_some, if_pos (show Kx X k ≠ 2 from fun a => by have := kd2.mp a; omega), jadd_e (by omega) (by omega)]
    rw [st1']
    rcases h5 with ⟨x1, x2, x3, rfl, rfl⟩ | ⟨x1, x2, rfl, rfl⟩
    · obtain ⟨N, rfl⟩ : ∃ j, N = j + 1 := ⟨N - 1, by omega⟩
      obtain ⟨kd3, kd4⟩ := kind_2 hX (MTK_g (s := s) (r := w) hT) (k := k + 1) (by omega) (by omega)
      have fr := ffs_r (F := fitem g cur kn) (s := s) (x := (rlT (TT X k), Vx X (k + 1), Px X (k + 1))) hs FLT_r
      have := ih (k + 2) its2 _ td' (ffs (fitem g cur kn) s (rlT (TT X k), Vx X (k + 1), Px X (k + 1))) N hO2 (by omega) fr (by rw [show k + 2 - 1 = k + 1 by omega, x2]; decide) (by omega)
      rw [M_checkTimes_2, sAt hX (MTK_g hT) (by omega) (by omega) (sc := 70) (by omega), if_neg (show ¬ TT X (k + 1) = 70 by omega), Option.bind_some, if_neg (by decide), jsub_e (by omega) (by omega), show k + 1 - 1 = k by omega, wAt hX (MTK_g hT) (by omega) (by omega) (by decide) (by decide), p45, Option.bind_some, kd3, Option.bind_some, if_neg (show ¬ Kx X (k + 1) ≠ 2 from fun a => a (kd4.mpr x2))]
      unfold M_checkTimes_43 M_checkTimes_56
      by_cases z : TT X k = 26
      · have er : rlT (TT X k) = 16 := by unfold rlT; rw [if_pos z]
        rw [if_pos z, if_neg (show ¬ (1 : Int) = 0 by decide), if_neg (show ¬ (1 : Int) = 0 by decide), bnd_e (g := g) (cur := cur) (kn := kn) (r := 16) hX hT (by omega) (by omega) x2 (by unfold smp; omega) (by decide) (by decide) hs, Option.bind_some, jadd_e (by omega) (by omega), show k + 1 + 1 = k + 2 by omega, ← er, this]
        rfl
      · have er : rlT (TT X k) = 15 := by unfold rlT; rw [if_neg z]
        rw [if_neg z, if_pos (show (0 : Int) = 0 from rfl), if_pos (show (0 : Int) = 0 from rfl), bnd_e (g := g) (cur := cur) (kn := kn) (r := 15) hX hT (by omega) (by omega) x2 (by unfold smp; omega) (by decide) (by decide) hs, Option.bind_some, jadd_e (by omega) (by omega), show k + 1 + 1 = k + 2 by omega, ← er, this]
        rfl
    · exact ih (k + 1) its2 _ td' s N hO2 (by omega) hs (by rw [show k + 1 - 1 = k by omega]; omega) (by omega)
-- limits and curves
theorem opts_m {X : Tx} {m0 m : Mem} {A cur kn : Int} {g : Int → Int} {w : RW} (hX : XO X m0) (hT : MTK X A m) (hA : TT X A = 70) : ∀ (L : List (Int × Int)) (k : Int) (its : List It3) (td td' : Int → Int) (s : Int × Int) (N : Nat), OPL X 29 32 2 slP rlP 1 L k A its td td' → 1 ≤ k → 0 ≤ s.1 → A - k < N → M_checkPatch_189 N (gst m s w) k = some (gst m (its.foldl (ffs (fitem g cur kn)) s) w) := by
  have hb := hT.2.1
  intro L
  induction L with
  | nil =>
    intro k its td td' s N hO k1 hs hN
    obtain ⟨rfl, rfl, _, _⟩ := hO
    obtain ⟨N, rfl⟩ : ∃ j, N = j + 1 := ⟨N - 1, by omega⟩
    rw [M_checkPatch_189, sAt hX (MTK_g hT) (by omega) (Int.le_refl _) (sc := 70) (by omega), if_pos hA, Option.bind_some, if_pos (by decide)]
    rfl
  | cons sv L ih =>
    intro k its td td' s N hO k1 hs hN
    obtain ⟨its1, its2, e1, t1, t2, _, _, h5, rfl, hO2⟩ := hO
    have ol := OPL_l L e1 A its2 _ td' hO2
    obtain ⟨N, rfl⟩ : ∃ j, N = j + 1 := ⟨N - 1, by rcases h5 with ⟨_, _, _, x, _⟩ | ⟨_, _, x, _⟩ <;> omega⟩
    have kA : k + 1 ≤ A := by rcases h5 with ⟨_, _, _, x, _⟩ | ⟨_, _, x, _⟩ <;> omega
    rw [M_checkPatch_189, sAt hX (MTK_g hT) (by omega) (by omega) (sc := 70) (by omega), if_neg (show ¬ TT X k = 70 by omega), Option.bind_some, if_neg (by decide), wAt hX (MTK_g hT) (by omega) (by omega) (by decide) (by decide), p5, Option.bind_some]
    unfold M_checkPatch_222
    rcases h5 with ⟨x1, x2, x3, rfl, rfl⟩ | ⟨x1, x2, rfl, rfl⟩
    · obtain ⟨N, rfl⟩ : ∃ j, N = j + 1 := ⟨N - 1, by omega⟩
      have fr := ffs_r (F := fitem g cur kn) (s := s) (x := (rlP (TT X k), Vx X (k + 1), Px X (k + 1))) hs FLT_r
      have := ih (k + 2) its2 _ td' (ffs (fitem g cur kn) s (rlP (TT X k), Vx X (k + 1), Px X (k + 1))) N hO2 (by omega) fr (by omega)
      -- the number is passed by
      have nb : ∀ s', M_checkPatch_189 (N + 1) (gst m s' w) (k + 1) = M_checkPatch_189 N (gst m s' w) (k + 2) := by
        intro s'
        rw [M_checkPatch_189, sAt hX (MTK_g hT) (by omega) (by omega) (sc := 70) (by omega), if_neg (show ¬ TT X (k + 1) = 70 by omega), Option.bind_some, if_neg (by decide), wAt hX (MTK_g hT) (by omega) (by omega) (by decide) (by decide), p5, if_neg (show ¬ TT X (k + 1) = 29 by omega), Option.bind_some, if_pos rfl]
        unfold M_checkPatch_222
        rw [wAt hX (MTK_g hT) (by omega) (by omega) (by decide) (by decide), p6, if_neg (show ¬ TT X (k + 1) = 30 by omega), Option.bind_some, if_pos rfl, jadd_e (by omega) (by omega), show k + 1 + 1 = k + 2 by omega]
      by_cases z : TT X k = 29
      · have er : rlP (TT X k) = 13 := by unfold rlP; rw [if_pos z]
        rw [if_pos z, if_neg (show ¬ (1 : Int) = 0 by decide), jadd_e (by omega) (by omega), bnd_e (g := g) (cur := cur) (kn := kn) (r := 13) hX hT (by omega) (by omega) x2 (by unfold smp; omega) (by decide) (by decide) hs, Option.bind_some, wAt hX (MTK_g hT) (by omega) (by omega) (by decide) (by decide), p6, if_neg (show ¬ TT X k = 30 by omega), Option.bind_some, if_pos rfl, nb, ← er, this]
        rfl
      · have er : rlP (TT X k) = 14 := by unfold rlP; rw [if_neg z]
        rw [if_neg z, if_pos (show (0 : Int) = 0 from rfl), wAt hX (MTK_g hT) (by omega) (by omega) (by decide) (by decide), p6, if_pos (show TT X k = 30 by omega), Option.bind_some, if_neg (show ¬ (1 : Int) = 0 by decide), jadd_e (by omega) (by omega), bnd_e (g := g) (cur := cur) (kn := kn) (r := 14) hX hT (by omega) (by omega) x2 (by unfold smp; omega) (by decide) (by decide) hs, Option.bind_some, nb, ← er, this]
        rfl
    · rw [if_neg (show ¬ TT X k = 29 by omega), if_pos (show (0 : Int) = 0 from rfl), wAt hX (MTK_g hT) (by omega) (by omega) (by decide) (by decide), p6, if_neg (show ¬ TT X k = 30 by omega), Option.bind_some, if_pos rfl, jadd_e (by omega) (by omega)]
      exact ih (k + 1) its2 _ td' s N hO2 (by omega) hs (by omega)
theorem parAt {X : Tx} {m0 m : Mem} {A k : Int} (hX : XO X m0) (h : MTK X A m) (k0 : 0 ≤ k) (k1 : k ≤ A) : (TT X k = 74 ∨ (9 ≤ TT X k ∧ TT X k ≤ 17) → M_isParameterAt m k = some 1) ∧ (¬ (TT X k = 74 ∨ (9 ≤ TT X k ∧ TT X k ≤ 17)) → M_isParameterAt m k = some 0) := by
  have h' := h
  obtain ⟨h1, h2, h3⟩ := h'
  obtain ⟨e1, e2, _⟩ := h3 k k0 k1
  have hc := TT_c hX k0 (by omega) (by omega)
  unfold M_isParameterAt
  rw [sAt hX h k0 k1 (sc := 74) (by omega), Option.bind_some]
  by_cases z : TT X k = 74
  · rw [if_pos z, if_pos (by decide)]
    exact ⟨fun _ => rfl, fun x => absurd (Or.inl z) x⟩
  · rw [if_neg z, if_neg (by decide), aI_ok k0 (by omega), Option.bind_some, e1]
    by_cases y : Kx X k = 1
    · rw [if_neg (fun x => x y), aI_ok k0 (by omega), Option.bind_some, e2 (Or.inl y), M_in_e, Option.bind_some]
      obtain ⟨v, hv⟩ : ∃ v : Nat, Vx X k = (v : Int) := ⟨(Vx X k).toNat, by omega⟩
      have hr := r61 v (List.mem_range.mpr (by omega))
      rw [← hv] at hr
      have eT : TT X k = tbl piT (Vx X k) := by omega
      rw [← eT] at hr
      by_cases x : 61 ≤ Vx X k ∧ Vx X k ≤ 69
      · rw [if_pos x, if_neg (by decide)]
        exact ⟨fun _ => rfl, fun a => absurd (Or.inr (hr.mp x)) a⟩
      · rw [if_neg x, if_pos rfl]
        refine ⟨fun a => ?_, fun _ => rfl⟩
        rcases a with a | a
        · exact absurd a z
        · exact absurd (hr.mpr a) x
    · rw [if_pos y]
      exact ⟨fun a => by omega, fun _ => rfl⟩
theorem levels_m {X : Tx} {m0 m : Mem} {A cur kn : Int} {g : Int → Int} {w : RW} (hX : XO X m0) (hT : MTK X A m) (hA : TT X A = 70) : ∀ (L : List (Int × Int)) (k : Int) (its : List It3) (td td' : Int → Int) (s : Int × Int) (N : Nat), OPL X 9 17 9 slL rlL 1 L k A its td td' → 1 ≤ k → 0 ≤ s.1 → A - k < N → M_check_158 N (gst m s w) k = some (gst m (its.foldl (ffs (fitem g cur kn)) s) w) := by
  have hb := hT.2.1
  intro L
  induction L with
  | nil =>
    intro k its td td' s N hO k1 hs hN
    obtain ⟨rfl, rfl, _, _⟩ := hO
    obtain ⟨N, rfl⟩ : ∃ j, N = j + 1 := ⟨N - 1, by omega⟩
    rw [M_check_158, (parAt hX (MTK_g hT) (by omega) (Int.le_refl _)).2 (by omega), Option.bind_some, if_pos rfl]
    rfl
  | cons sv L ih =>
    intro k its td td' s N hO k1 hs hN
    obtain ⟨its1, its2, e1, t1, t2, _, _, h5, rfl, hO2⟩ := hO
    have ol := OPL_l L e1 A its2 _ td' hO2
    rcases h5 with ⟨x1, x2, x3, rfl, rfl⟩ | ⟨x1, x2, rfl, rfl⟩
    · obtain ⟨N, rfl⟩ : ∃ j, N = j + 1 := ⟨N - 1, by omega⟩
      have fr := ffs_r (F := fitem g cur kn) (s := s) (x := (rlL (TT X k), Vx X (k + 1), Px X (k + 1))) hs FLT_r
      have := ih (k + 2) its2 _ td' (ffs (fitem g cur kn) s (rlL (TT X k), Vx X (k + 1), Px X (k + 1))) N hO2 (by omega) fr (by omega)
      rw [M_check_158, (parAt hX (MTK_g hT) (by omega) (by omega)).1 (Or.inr ⟨t1, t2⟩), Option.bind_some, if_neg (by decide), jadd_e (by omega) (by omega), jadd_e (by omega) (by omega), bnd_e (g := g) (cur := cur) (kn := kn) (r := 13) hX hT (by omega) (by omega) x2 (by unfold smp; omega) (by decide) (by decide) hs, Option.bind_some]
      have er : rlL (TT X k) = 13 := rfl
      rw [← er, this]
      rfl
    · omega
