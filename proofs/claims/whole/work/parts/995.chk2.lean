-- L3: enter: the model's check, verb by verb
theorem wr_me {m : Mem} {o f : Int} : wr m o f (m o f) = m := by
  funext a j
  unfold wr
  by_cases h : a = o ∧ j = f
  · rw [if_pos h, h.1, h.2]
  · rw [if_neg h]
theorem KON_g {m : Mem} {s : Int × Int} {r : RW} (h : KON m) : KON (gst m s r) := by
  obtain ⟨_, _, _, _, q5, _⟩ := gst_p (m := m) (s := s) (r := r)
  obtain ⟨h1, h2, h3, h4, h5, h6, h7, h8, h9, h10, h11, h12⟩ := h
  refine ⟨fun i a b => ?_, fun i a b => ?_, fun i a b => ?_, fun i a b => ?_, fun i a b => ?_, fun i a b => ?_, fun i a b => ?_, fun i a b => ?_, fun i a b => ?_, fun i a b => ?_, fun i a b => ?_, fun i a b => ?_⟩
  · rw [q5 261 (by decide) (by decide)]; exact h1 i a b
  · rw [q5 262 (by decide) (by decide)]; exact h2 i a b
  · rw [q5 263 (by decide) (by decide)]; exact h3 i a b
  · rw [q5 260 (by decide) (by decide)]; exact h4 i a b
  · rw [q5 (-1) (by decide) (by decide)]; exact h5 i a b
  · rw [q5 (-2) (by decide) (by decide)]; exact h6 i a b
  · rw [q5 (-3) (by decide) (by decide)]; exact h7 i a b
  · rw [q5 (-4) (by decide) (by decide)]; exact h8 i a b
  · rw [q5 (-5) (by decide) (by decide)]; exact h9 i a b
  · rw [q5 (-6) (by decide) (by decide)]; exact h10 i a b
  · rw [q5 232 (by decide) (by decide)]; exact h11 i a b
  · rw [q5 240 (by decide) (by decide)]; exact h12 i a b
def RK (kn : Int) (x : It3) : Prop := 0 ≤ x.1 ∧ x.1 < 23 ∧ ¬ x.1 = 20 ∧ (x.1 = 11 → 0 ≤ kn ∧ kn < 9)
theorem RK_i {kn : Int} {x : It3} (h0 : 0 ≤ x.1) (h1 : x.1 < 23) (h2 : ¬ x.1 = 20) (h3 : ¬ x.1 = 11) : RK kn x := ⟨h0, h1, h2, fun a => absurd a h3⟩
theorem RK_m {kn r a b : Int} (h0 : 0 ≤ r) (h1 : r < 23) (h2 : ¬ r = 20) (h3 : ¬ r = 11) : RK kn (r, a, b) := ⟨h0, h1, h2, fun e => absurd e h3⟩
theorem TRM_k {X : Tx} {k sg e kn : Int} {its : List It3} {tm : Q4} (h : TRM X k sg e its tm) : ∀ x ∈ its, RK kn x := by
  rcases h with ⟨_, _, h2, _⟩ | ⟨_, _, _, h2, _⟩ | ⟨_, _, _, h2, _⟩ | ⟨_, _, _, _, h2, _⟩ <;> subst h2 <;> intro x hx <;> simp at hx
  · subst hx; exact RK_m (by decide) (by decide) (by decide) (by decide)
  · subst hx; exact RK_m (by decide) (by decide) (by decide) (by decide)
  · rcases hx with hx | hx <;> subst hx <;> exact RK_m (by decide) (by decide) (by decide) (by decide)
theorem MORE_k {X : Tx} {kn : Int} : ∀ (L : List Q4) (k e : Int) (its : List It3), MORE X L k e its → ∀ x ∈ its, RK kn x
  | [], k, e, its, h => by
    obtain ⟨_, h2, _⟩ := h
    subst h2; intro x hx; simp at hx
  | tm :: tms, k, e, its, h => by
    obtain ⟨e1, its1, its2, _, h2, h3, h4⟩ := h
    subst h3
    intro x hx
    rcases List.mem_append.mp hx with hx | hx
    · exact TRM_k h2 x hx
    · exact MORE_k tms _ _ _ h4 x hx
theorem SETP_k {X : Tx} {k e kn : Int} {L : List Q4} {its : List It3} (h : SETP X L k e its) : ∀ x ∈ its, RK kn x := by
  obtain ⟨tm, tms, e1, its1, its2, _, h2, h3, h4⟩ := h
  subst h3
  intro x hx
  rcases List.mem_append.mp hx with hx | hx
  · exact TRM_k h2 x hx
  · exact MORE_k tms _ _ _ h4 x hx
theorem AMT_k {X : Tx} {k p e kn : Int} {its : List It3} {wh : Q4} (h : AMT X k p e its wh) : (∀ x ∈ its, RK kn x) ∧ k < e := by
  rcases h with ⟨_, h1, h2, _⟩ | ⟨_, _, h1, h2, _⟩ | ⟨_, _, h1, h2, _⟩ | ⟨_, _, h1, h2, _⟩ | ⟨_, _, h1, h2, _⟩ | ⟨_, _, _, h1, h2, _⟩ <;> subst h2 <;> refine ⟨?_, by omega⟩ <;> intro x hx <;> simp at hx
  · subst hx; exact RK_m (by decide) (by decide) (by decide) (by decide)
  · subst hx; exact RK_m (by decide) (by decide) (by decide) (by decide)
  · subst hx; exact RK_m (by decide) (by decide) (by decide) (by decide)
  · subst hx; exact RK_m (by decide) (by decide) (by decide) (by decide)
  · rcases hx with hx | hx <;> subst hx <;> exact RK_m (by decide) (by decide) (by decide) (by decide)
theorem WTP_k {X : Tx} {k e kn : Int} {its : List It3} {wh : Q4} (h : WTP X k e its wh) : (∀ x ∈ its, RK kn x) ∧ k < e := by
  rcases h with ⟨p, _, h⟩ | ⟨_, _, h1, h2, _⟩ | ⟨_, h1, h2, _⟩ | ⟨_, h1, h2, _⟩
  · have := AMT_k (kn := kn) h; exact ⟨this.1, by omega⟩
  · subst h2; refine ⟨?_, by omega⟩; intro x hx; simp at hx; subst hx; exact RK_m (by decide) (by decide) (by decide) (by decide)
  · subst h2; refine ⟨?_, by omega⟩; intro x hx; simp at hx
  · subst h2; refine ⟨?_, by omega⟩; intro x hx; simp at hx
theorem WHS_k {X : Tx} {kn : Int} : ∀ (L : List Q4) (k e : Int) (its : List It3), WHS X L k e its → (∀ x ∈ its, RK kn x) ∧ k ≤ e
  | [], k, e, its, h => by
    obtain ⟨h1, h2, _⟩ := h
    subst h2; exact ⟨fun x hx => by simp at hx, by omega⟩
  | wh :: whs, k, e, its, h => by
    obtain ⟨e1, its1, its2, h2, h3, h4⟩ := h
    subst h3
    have a := WTP_k (kn := kn) h2
    have b := WHS_k (kn := kn) whs _ _ _ h4
    refine ⟨fun x hx => ?_, by omega⟩
    rcases List.mem_append.mp hx with hx | hx
    · exact a.1 x hx
    · exact b.1 x hx
theorem OPL_k {X : Tx} {lo hi nn cv kn : Int} {sl rl : Int → Int} (hr : ∀ t, 0 ≤ rl t ∧ rl t < 23 ∧ ¬ rl t = 20 ∧ ¬ rl t = 11) : ∀ (L : List (Int × Int)) (k e : Int) (its : List It3) (td td' : Int → Int), OPL X lo hi nn sl rl cv L k e its td td' → ∀ x ∈ its, RK kn x
  | [], k, e, its, td, td', h => by
    obtain ⟨_, h2, _⟩ := h
    subst h2; intro x hx; simp at hx
  | sv :: L, k, e, its, td, td', h => by
    obtain ⟨its1, its2, e1, _, _, _, _, h5, h6, h7⟩ := h
    subst h6
    intro x hx
    rcases List.mem_append.mp hx with hx | hx
    · rcases h5 with ⟨_, _, _, _, h5⟩ | ⟨_, _, _, h5⟩ <;> subst h5 <;> simp at hx
      subst hx
      obtain ⟨a, b, c, d⟩ := hr (TT X k)
      exact RK_i a b c d
    · exact OPL_k hr L _ _ _ _ _ h7 x hx
theorem OPL_td {X : Tx} {lo hi nn cv j : Int} {sl rl : Int → Int} (hr : ∀ t, lo ≤ t → t ≤ hi → ¬ sl t = j) : ∀ (L : List (Int × Int)) (k e : Int) (its : List It3) (td td' : Int → Int), OPL X lo hi nn sl rl cv L k e its td td' → td' j = td j
  | [], k, e, its, td, td', h => by
    obtain ⟨_, _, h3, _⟩ := h
    rw [h3]
  | sv :: L, k, e, its, td, td', h => by
    obtain ⟨its1, its2, e1, t1, t2, h3, _, _, _, h7⟩ := h
    rw [OPL_td hr L _ _ _ _ _ h7, h3, st1_ne (fun a => hr _ t1 t2 a.symm)]
theorem rlP_k : ∀ t, 0 ≤ rlP t ∧ rlP t < 23 ∧ ¬ rlP t = 20 ∧ ¬ rlP t = 11 := by intro t; unfold rlP; split <;> decide
theorem rlT_k : ∀ t, 0 ≤ rlT t ∧ rlT t < 23 ∧ ¬ rlT t = 20 ∧ ¬ rlT t = 11 := by intro t; unfold rlT; split <;> decide
theorem rlL_k : ∀ t, 0 ≤ rlL t ∧ rlL t < 23 ∧ ¬ rlL t = 20 ∧ ¬ rlL t = 11 := by intro t; unfold rlL; decide
-- the end of a set is one
theorem TRM_u {X : Tx} {k sg e e' : Int} {its its' : List It3} {tm : Q4} (h : TRM X k sg e its tm) (h' : TRM X k sg e' its' tm) : e = e' := by
  rcases h with ⟨_, a, _, h⟩ | ⟨_, _, a, _, h⟩ | ⟨_, _, a, _, h⟩ | ⟨_, _, _, a, _, h⟩ <;> rcases h' with ⟨_, b, _, h'⟩ | ⟨_, _, b, _, h'⟩ | ⟨_, _, b, _, h'⟩ | ⟨_, _, _, b, _, h'⟩ <;> first | omega | (exfalso; rw [h] at h'; simp at h')
theorem MORE_u {X : Tx} : ∀ (L : List Q4) (k e e' : Int) (its its' : List It3), MORE X L k e its → MORE X L k e' its' → e = e'
  | [], k, e, e', its, its', h, h' => by
    obtain ⟨a, _⟩ := h
    obtain ⟨b, _⟩ := h'
    omega
  | tm :: tms, k, e, e', its, its', h, h' => by
    obtain ⟨e1, its1, its2, _, h2, _, h4⟩ := h
    obtain ⟨e1', its1', its2', _, h2', _, h4'⟩ := h'
    have := TRM_u h2 h2'
    subst this
    exact MORE_u tms _ _ _ _ _ h4 h4'
theorem SETP_u {X : Tx} {k e e' : Int} {L : List Q4} {its its' : List It3} (h : SETP X L k e its) (h' : SETP X L k e' its') : e = e' := by
  obtain ⟨tm, tms, e1, its1, its2, hl, h2, _, h4⟩ := h
  obtain ⟨tm', tms', e1', its1', its2', hl', h2', _, h4'⟩ := h'
  rw [hl] at hl'
  obtain ⟨rfl, rfl⟩ := List.cons.inj hl'
  have := TRM_u h2 h2'
  subst this
  exact MORE_u tms _ _ _ _ _ h4 h4'
-- two refusals, a fault
theorem rfs2 {s : Int × Int} {b1 b2 k1 k2 P : Int} (hk : 0 < k1) : rfs (rfs s b1 k1 P) b2 k2 P = rfs s (if b1 = 0 then b2 else 1) (if b1 = 0 then k2 else k1) P := by
  by_cases z : b1 = 0
  · subst z; rw [rfs_0, if_pos rfl, if_pos rfl]
  · rw [if_neg z, if_neg z]
    unfold rfs
    rw [if_neg z, if_neg (show ¬ (1 : Int) = 0 by decide)]
    by_cases y : s.1 ≤ 0
    · rw [if_pos y]
      by_cases q : b2 = 0
      · rw [if_pos q]
      · rw [if_neg q, if_neg (show ¬ (k1, P).1 ≤ 0 from by show ¬ k1 ≤ 0; omega)]
    · rw [if_neg y]
      by_cases q : b2 = 0
      · rw [if_pos q]
      · rw [if_neg q, if_neg y]
theorem one_f {F : It3 → Int} {s : Int × Int} {x : It3} {b k : Int} (hs : 0 ≤ s.1) (hk : 0 < k) (h : F x = if b = 0 then 0 else k) : rfs s b k x.2.2 = ffs F s x := by
  unfold rfs ffs
  by_cases z : b = 0
  · rw [if_pos z] at h
    rw [if_pos z, if_neg (fun q => q.2 h)]
  · rw [if_neg z] at h
    rw [if_neg z]
    by_cases y : s.1 ≤ 0
    · rw [if_pos y, if_pos (show s.1 = 0 ∧ ¬ F x = 0 from ⟨by omega, by omega⟩), h]
    · rw [if_neg y, if_neg (fun q => y (by omega))]
theorem ckV {X : Tx} {m0 m : Mem} {A w x : Int} (hX : XO X m0) (h : MTK X A m) (a0 : 0 ≤ A) (w0 : 0 ≤ w) (w1 : w < 70) (x1 : x < 70) (hw : tbl piT w = x) (hx : TT X 0 = x) : M_check m = M_check_20 m w ∧ M_act m = M_act_20 m w := by
  obtain ⟨h1, h2, h3⟩ := h
  obtain ⟨e1, e2, _⟩ := h3 0 (Int.le_refl _) a0
  have hc := TT_c hX (a := 0) (Int.le_refl _) (by omega) (by omega)
  have hK : Kx X 0 = 1 := by omega
  have eT : TT X 0 = tbl piT (Vx X 0) := by omega
  have eV : Vx X 0 = w := pi_ij (by omega) (by omega) w0 w1 (by rw [← eT, hx, hw])
  have g1 : m 268 0 = 1 := by rw [e1, hK]
  have g2 : m 269 0 = w := by rw [e2 (Or.inl hK), eV]
  constructor
  · unfold M_check; rw [if_neg (fun a => a g1), g2]
  · unfold M_act; rw [if_neg (fun a => a g1), g2]
theorem ckN {X : Tx} {m0 m : Mem} {A : Int} (hX : XO X m0) (h : MTK X A m) (a0 : 0 ≤ A) (hx : 70 ≤ TT X 0) : M_check m = M_check_20 m (-1) ∧ M_act m = M_act_20 m (-1) := by
  obtain ⟨h1, h2, h3⟩ := h
  obtain ⟨e1, e2, _⟩ := h3 0 (Int.le_refl _) a0
  have hc := TT_c hX (a := 0) (Int.le_refl _) (by omega) (by omega)
  have hK : ¬ Kx X 0 = 1 := by omega
  have g1 : ¬ m 268 0 = 1 := by rw [e1]; exact hK
  constructor
  · unfold M_check; rw [if_pos g1]
  · unfold M_act; rw [if_pos g1]
-- faults by roles
theorem FLT_o {g : Int → Int} {cur kn r v : Int} (h : v < tbl leaT r ∨ tbl greT r < v) : FLT g cur kn r v = 3 := by
  unfold FLT; rw [if_pos h]
theorem fl3 {cur kn v : Int} {g : Int → Int} : FLT g cur kn 3 v = (if 1 ≤ v ∧ v ≤ 40 then (if g (6 * (v - 1)) < 0 then 0 else 7) else 3) := by
  by_cases z : 1 ≤ v ∧ v ≤ 40
  · unfold FLT
    rw [show tbl leaT 3 = 1 by decide, show tbl greT 3 = 40 by decide, if_neg (show ¬ (v < 1 ∨ 40 < v) by omega), if_pos z, if_neg (show ¬ (3 : Int) = 2 by decide), if_pos (show (3 : Int) = 3 from rfl)]
  · rw [if_neg z]; apply FLT_o; rw [show tbl leaT 3 = 1 by decide, show tbl greT 3 = 40 by decide]; omega
theorem fl11 {cur kn v : Int} {g : Int → Int} : FLT g cur kn 11 v = (if 1 ≤ v ∧ v ≤ 200 then (@ite Int (freeP g v kn) (Classical.propDecidable _) 0 4) else 3) := by
  by_cases z : 1 ≤ v ∧ v ≤ 200
  · unfold FLT
    rw [show tbl leaT 11 = 1 by decide, show tbl greT 11 = 200 by decide, if_neg (show ¬ (v < 1 ∨ 200 < v) by omega), if_pos z, if_neg (show ¬ (11 : Int) = 2 by decide), if_neg (show ¬ (11 : Int) = 3 by decide), if_neg (show ¬ (11 : Int) = 5 by decide), if_pos (show (11 : Int) = 11 from rfl)]
  · rw [if_neg z]; apply FLT_o; rw [show tbl leaT 11 = 1 by decide, show tbl greT 11 = 200 by decide]; omega
theorem fl17 {cur kn v : Int} {g : Int → Int} : FLT g cur kn 17 v = (if 1 ≤ v ∧ v ≤ 999 then (if rowOf g v < 0 then (if 30 ≤ cuesN g then 5 else 0) else 0) else 3) := by
  by_cases z : 1 ≤ v ∧ v ≤ 999
  · unfold FLT
    rw [show tbl leaT 17 = 1 by decide, show tbl greT 17 = 999 by decide, if_neg (show ¬ (v < 1 ∨ 999 < v) by omega), if_pos z, if_neg (show ¬ (17 : Int) = 2 by decide), if_neg (show ¬ (17 : Int) = 3 by decide), if_neg (show ¬ (17 : Int) = 5 by decide), if_neg (show ¬ (17 : Int) = 11 by decide), if_pos (show (17 : Int) = 17 from rfl)]
  · rw [if_neg z]; apply FLT_o; rw [show tbl leaT 17 = 1 by decide, show tbl greT 17 = 999 by decide]; omega
theorem fl18 {cur kn v : Int} {g : Int → Int} : FLT g cur kn 18 v = (if 1 ≤ v ∧ v ≤ 999 then (if rowOf g v < 0 then (if 30 ≤ cuesN g then 5 else 0) else 7) else 3) := by
  by_cases z : 1 ≤ v ∧ v ≤ 999
  · unfold FLT
    rw [show tbl leaT 18 = 1 by decide, show tbl greT 18 = 999 by decide, if_neg (show ¬ (v < 1 ∨ 999 < v) by omega), if_pos z, if_neg (show ¬ (18 : Int) = 2 by decide), if_neg (show ¬ (18 : Int) = 3 by decide), if_neg (show ¬ (18 : Int) = 5 by decide), if_neg (show ¬ (18 : Int) = 11 by decide), if_neg (show ¬ (18 : Int) = 17 by decide), if_pos (show (18 : Int) = 18 from rfl)]
  · rw [if_neg z]; apply FLT_o; rw [show tbl leaT 18 = 1 by decide, show tbl greT 18 = 999 by decide]; omega
theorem fl19 {cur kn v : Int} {g : Int → Int} (v0 : 0 ≤ v) (v1 : v ≤ 9999) : FLT g cur kn 19 v = (if rowOf g v < 0 then 2 else 0) := by
  unfold FLT
  rw [if_neg (show ¬ (v < tbl leaT 19 ∨ tbl greT 19 < v) by rw [show tbl leaT 19 = 0 by decide, show tbl greT 19 = 9999 by decide]; omega), if_neg (show ¬ (19 : Int) = 2 by decide), if_neg (show ¬ (19 : Int) = 3 by decide), if_neg (show ¬ (19 : Int) = 5 by decide), if_neg (show ¬ (19 : Int) = 11 by decide), if_neg (show ¬ (19 : Int) = 17 by decide), if_neg (show ¬ (19 : Int) = 18 by decide), if_pos (show (19 : Int) = 19 from rfl)]
theorem fl21 {cur kn : Int} {g : Int → Int} : FLT g cur kn 21 0 = (if vcn (fun i => g (12362 + i)) ≤ 0 then 6 else 0) := by
  unfold FLT
  rw [if_neg (show ¬ ((0 : Int) < tbl leaT 21 ∨ tbl greT 21 < 0) by decide), if_neg (show ¬ (21 : Int) = 2 by decide), if_neg (show ¬ (21 : Int) = 3 by decide), if_neg (show ¬ (21 : Int) = 5 by decide), if_neg (show ¬ (21 : Int) = 11 by decide), if_neg (show ¬ (21 : Int) = 17 by decide), if_neg (show ¬ (21 : Int) = 18 by decide), if_neg (show ¬ (21 : Int) = 19 by decide), if_pos (show (21 : Int) = 21 from rfl)]
theorem fl22 {cur kn : Int} {g : Int → Int} : FLT g cur kn 22 0 = (if upTo g cur = 0 then 7 else 0) := by
  unfold FLT
  rw [if_neg (show ¬ ((0 : Int) < tbl leaT 22 ∨ tbl greT 22 < 0) by decide), if_neg (show ¬ (22 : Int) = 2 by decide), if_neg (show ¬ (22 : Int) = 3 by decide), if_neg (show ¬ (22 : Int) = 5 by decide), if_neg (show ¬ (22 : Int) = 11 by decide), if_neg (show ¬ (22 : Int) = 17 by decide), if_neg (show ¬ (22 : Int) = 18 by decide), if_neg (show ¬ (22 : Int) = 19 by decide), if_neg (show ¬ (22 : Int) = 21 by decide), if_pos (show (22 : Int) = 22 from rfl)]
theorem FLT_1 {g : Int → Int} {cur kn r v : Int} : ¬ FLT g cur kn r v = 1 := by
  unfold FLT
  repeat' split
  all_goals decide
theorem fold_1 {F : It3 → Int} (hF : ∀ x, ¬ F x = 1) : ∀ (L : List It3) (s : Int × Int), ¬ s.1 = 1 → ¬ (L.foldl (ffs F) s).1 = 1
  | [], s, h => h
  | x :: L, s, h => by
    refine fold_1 hF L (ffs F s x) ?_
    unfold ffs
    split
    · exact hF x
    · exact h
theorem fold_al {F : It3 → Int} : ∀ (L : List It3) (s : Int × Int), (L.foldl (ffs F) s).1 = 0 → ∀ x ∈ L, F x = 0
  | [], s, h, x, hx => by simp at hx
  | y :: L, s, h, x, hx => by
    rcases List.mem_cons.mp hx with hx | hx
    · subst hx
      have h1 : (ffs F s x).1 = 0 := fold_0 (L := L) h
      by_cases z : F x = 0
      · exact z
      · unfold ffs at h1
        by_cases y : s.1 = 0
        · rw [if_pos ⟨y, z⟩] at h1; exact absurd h1 z
        · rw [if_neg (fun q => y q.1)] at h1; exact absurd h1 y
    · exact fold_al L _ h x hx
-- held values
theorem held_x {μ : Mem} : ∀ (d n i : Nat), i + d = 360 → d < n → M_hasHeld_4 μ n (if itr (fun i s => if μ 264 (12362 + i) < 0 then s else s + 1) (0 : Int) i ≤ 0 then 0 else 1) i = some (if vcn (fun i => μ 264 (12362 + i)) ≤ 0 then 0 else 1) := by
  intro d
  induction d with
  | zero =>
    intro n i hi hn
    obtain ⟨n, rfl⟩ : ∃ j, n = j + 1 := ⟨n - 1, by omega⟩
    have : i = 360 := by omega
    subst this
    rw [M_hasHeld_4, if_pos (show (360 : Int) ≤ ((360 : Nat) : Int) by decide)]
    show _ = some (if itr (fun i s => if μ 264 (12362 + i) < 0 then s else s + 1) (0 : Int) 360 ≤ 0 then 0 else 1)
    by_cases z : itr (fun i s => if μ 264 (12362 + i) < 0 then s else s + 1) (0 : Int) 360 ≤ 0
    · rw [if_pos z, if_pos (Or.inl rfl)]
    · rw [if_neg z, if_pos (Or.inr rfl)]
  | succ d ih =>
    intro n i hi hn
    obtain ⟨n, rfl⟩ : ∃ j, n = j + 1 := ⟨n - 1, by omega⟩
    have := ih n (i + 1) (by omega) (by omega)
    have e : itr (fun i s => if μ 264 (12362 + i) < 0 then s else s + 1) (0 : Int) (i + 1) = (fun (i : Int) (s : Int) => if μ 264 (12362 + i) < 0 then s else s + 1) i (itr (fun i s => if μ 264 (12362 + i) < 0 then s else s + 1) (0 : Int) i) := rfl
    rw [e] at this
    simp only [] at this
    rw [M_hasHeld_4, if_neg (show ¬ (360 : Int) ≤ (i : Int) by omega), jadd_e (x := (i : Int)) (y := 1) (by omega) (by omega), jadd_e (x := 12362) (y := (i : Int)) (by omega) (by omega), aI_ok (by omega) (by omega), Option.bind_some]
    by_cases z : itr (fun i s => if μ 264 (12362 + i) < 0 then s else s + 1) (0 : Int) i ≤ 0
    · rw [if_pos z, if_neg (show ¬ (0 : Int) ≠ 0 from fun a => a rfl)]
      by_cases y : μ 264 (12362 + (i : Int)) < 0
      · rw [if_pos y]
        rw [if_pos (show (if μ 264 (12362 + (i : Int)) < 0 then itr (fun i s => if μ 264 (12362 + i) < 0 then s else s + 1) (0 : Int) i else itr (fun i s => if μ 264 (12362 + i) < 0 then s else s + 1) (0 : Int) i + 1) ≤ 0 by rw [if_pos y]; exact z)] at this
        exact this
      · have i0 : 0 ≤ itr (fun i s => if μ 264 (12362 + i) < 0 then s else s + 1) (0 : Int) i := itr_inv _ _ (fun _ s => 0 ≤ s) (Int.le_refl _) (fun k s hs => by split <;> omega) i
        rw [if_neg y]
        rw [if_neg (show ¬ (if μ 264 (12362 + (i : Int)) < 0 then itr (fun i s => if μ 264 (12362 + i) < 0 then s else s + 1) (0 : Int) i else itr (fun i s => if μ 264 (12362 + i) < 0 then s else s + 1) (0 : Int) i + 1) ≤ 0 by rw [if_neg y]; omega)] at this
        exact this
    · rw [if_neg z, if_pos (show (1 : Int) ≠ 0 by decide)]
      have y : ¬ (if μ 264 (12362 + (i : Int)) < 0 then itr (fun i s => if μ 264 (12362 + i) < 0 then s else s + 1) (0 : Int) i else itr (fun i s => if μ 264 (12362 + i) < 0 then s else s + 1) (0 : Int) i + 1) ≤ 0 := by split <;> omega
      rw [if_neg y] at this
      exact this
theorem held_m {μ : Mem} : M_hasHeld μ = some (if vcn (fun i => μ 264 (12362 + i)) ≤ 0 then 0 else 1) := held_x 360 big 0 (by omega) b360
theorem gst_264 {m : Mem} {s : Int × Int} {r : RW} : gst m s r 264 = m 264 := (gst_p (m := m) (s := s) (r := r)).2.2.2.2.1 264 (by decide) (by decide)
-- whats
theorem pq49 : tbl piT 49 = 67 := by decide
theorem pq10 : tbl piT 10 = 36 := by decide
theorem cs_p {X : Tx} {m0 m : Mem} {A k : Int} {s : Int × Int} {w : RW} {N : Nat} (hX : XO X m0) (hT : MTK X A m) (k0 : 0 ≤ k) (k1 : k < A) (h : ¬ TT X k = 70 ∧ ¬ TT X k = 67 ∧ ¬ TT X k = 36 ∧ ¬ TT X k = 75) : M_checkSet_10 (N + 1) (gst m s w) k = M_checkSet_10 N (gst m s w) (k + 1) := by
  have hb := hT.2.1
  obtain ⟨kd1, kd2⟩ := kind_2 hX (MTK_g (s := s) (r := w) hT) (k := k) k0 (by omega)
  rw [M_checkSet_10, sAt hX (MTK_g hT) k0 (by omega) (sc := 70) (by omega), if_neg h.1, Option.bind_some, if_neg (show ¬ (0 : Int) ≠ 0 from fun a => a rfl), wAt hX (MTK_g hT) k0 (by omega) (by decide) (by decide), pq49, if_neg h.2.1, Option.bind_some, if_neg (show ¬ (0 : Int) ≠ 0 from fun a => a rfl), wAt hX (MTK_g hT) k0 (by omega) (by decide) (by decide), pq10, if_neg h.2.2.1, Option.bind_some, if_pos rfl, kd1, Option.bind_some, if_pos (show Kx X k ≠ 2 from fun a => h.2.2.2 (kd2.mp a)), jadd_e (by omega) (by omega)]
theorem cs_n {X : Tx} {m0 m : Mem} {A k cur kn : Int} {g : Int → Int} {s : Int × Int} {w : RW} {N : Nat} (hX : XO X m0) (hT : MTK X A m) (k0 : 0 ≤ k) (k1 : k < A) (hs : 0 ≤ s.1) (h : TT X k = 75) : M_checkSet_10 (N + 1) (gst m s w) k = M_checkSet_10 N (gst m (ffs (fitem g cur kn) s (13, Vx X k, Px X k)) w) (k + 1) := by
  have hb := hT.2.1
  obtain ⟨kd1, kd2⟩ := kind_2 hX (MTK_g (s := s) (r := w) hT) (k := k) k0 (by omega)
  rw [M_checkSet_10, sAt hX (MTK_g hT) k0 (by omega) (sc := 70) (by omega), if_neg (show ¬ TT X k = 70 by omega), Option.bind_some, if_neg (show ¬ (0 : Int) ≠ 0 from fun a => a rfl), wAt hX (MTK_g hT) k0 (by omega) (by decide) (by decide), pq49, if_neg (show ¬ TT X k = 67 by omega), Option.bind_some, if_neg (show ¬ (0 : Int) ≠ 0 from fun a => a rfl), wAt hX (MTK_g hT) k0 (by omega) (by decide) (by decide), pq10, if_neg (show ¬ TT X k = 36 by omega), Option.bind_some, if_pos rfl, kd1, Option.bind_some, if_neg (show ¬ Kx X k ≠ 2 from fun a => a (kd2.mpr h)), bnd_e (g := g) (cur := cur) (kn := kn) (r := 13) hX hT k0 (by omega) h (by unfold smp; omega) (by decide) (by decide) hs, Option.bind_some, jadd_e (by omega) (by omega)]
theorem cs_f {X : Tx} {m0 m : Mem} {A k cur kn : Int} {g : Int → Int} {s : Int × Int} {w : RW} {N : Nat} (hX : XO X m0) (hT : MTK X A m) (k0 : 0 ≤ k) (k1 : k + 1 < A) (hs : 0 ≤ s.1) (h : TT X k = 67 ∨ TT X k = 36) (h2 : TT X (k + 1) = 75) : M_checkSet_10 (N + 1) (gst m s w) k = M_checkSet_10 N (gst m (ffs (fitem g cur kn) s (6, Vx X (k + 1), Px X (k + 1))) w) (k + 2) := by
  have hb := hT.2.1
  have st : M_checkSet_40 (M_checkSet_10 N) (gst m s w) k = M_checkSet_10 N (gst m (ffs (fitem g cur kn) s (6, Vx X (k + 1), Px X (k + 1))) w) (k + 2) := by
    unfold M_checkSet_40
    rw [jadd_e (by omega) (by omega), bnd_e (g := g) (cur := cur) (kn := kn) (r := 6) hX hT (by omega) (by omega) h2 (by unfold smp; omega) (by decide) (by decide) hs, Option.bind_some, jadd_e (by omega) (by omega), show k + 1 + 1 = k + 2 by omega]
  rw [M_checkSet_10, sAt hX (MTK_g hT) k0 (by omega) (sc := 70) (by omega), if_neg (show ¬ TT X k = 70 by omega), Option.bind_some, if_neg (show ¬ (0 : Int) ≠ 0 from fun a => a rfl), wAt hX (MTK_g hT) k0 (by omega) (by decide) (by decide), pq49]
  rcases h with h | h
  · rw [if_pos h, Option.bind_some, if_pos (show (1 : Int) ≠ 0 by decide), st]
  · rw [if_neg (show ¬ TT X k = 67 by omega), Option.bind_some, if_neg (show ¬ (0 : Int) ≠ 0 from fun a => a rfl), wAt hX (MTK_g hT) k0 (by omega) (by decide) (by decide), pq10, if_pos h, Option.bind_some, if_neg (show ¬ (1 : Int) = 0 by decide), st]
theorem whats_m {X : Tx} {m0 m : Mem} {A cur kn : Int} {g : Int → Int} {w : RW} (hX : XO X m0) (hT : MTK X A m) (hA : TT X A = 70) : ∀ (L : List Q4) (k : Int) (its : List It3) (s : Int × Int) (N : Nat), WHS X L k A its → 0 ≤ k → 0 ≤ s.1 → A - k < N → M_checkSet_10 N (gst m s w) k = some (gst m (its.foldl (ffs (fitem g cur kn)) s) w) := by
  have hb := hT.2.1
  intro L
  induction L with
  | nil =>
    intro k its s N hO k1 hs hN
    obtain ⟨rfl, rfl, _⟩ := hO
    obtain ⟨N, rfl⟩ : ∃ j, N = j + 1 := ⟨N - 1, by omega⟩
    rw [M_checkSet_10, sAt hX (MTK_g hT) (by omega) (Int.le_refl _) (sc := 70) (by omega), if_pos hA, Option.bind_some, if_pos (show (1 : Int) ≠ 0 by decide)]
    rfl
  | cons wh L ih =>
    intro k its s N hO k1 hs hN
    obtain ⟨e1, its1, its2, h1, rfl, h2⟩ := hO
    have ol := (WHS_k (kn := kn) L e1 A its2 h2).2
    have fr : ∀ (s : Int × Int) (x : It3), 0 ≤ s.1 → 0 ≤ (ffs (fitem g cur kn) s x).1 := fun s x hs => ffs_r hs FLT_r
    rcases h1 with ⟨p, hp, h⟩ | ⟨t1, t2, rfl, rfl, _⟩ | ⟨t1, rfl, rfl, _⟩ | ⟨t1, rfl, rfl, _⟩
    · have tp : ¬ TT X k = 70 ∧ ¬ TT X k = 67 ∧ ¬ TT X k = 36 ∧ ¬ TT X k = 75 := by unfold parK at hp; omega
      have hl := (AMT_k (kn := kn) h).2
      obtain ⟨N, rfl⟩ : ∃ j, N = j + 1 := ⟨N - 1, by omega⟩
      rw [cs_p hX hT k1 (by omega) tp]
      rcases h with ⟨u1, rfl, rfl, _⟩ | ⟨u1, u2, rfl, rfl, _⟩ | ⟨u1, u2, rfl, rfl, _⟩ | ⟨u1, u2, rfl, rfl, _⟩ | ⟨u1, _, rfl, rfl, _⟩ | ⟨u1, u2, u3, rfl, rfl, _⟩
      · obtain ⟨N, rfl⟩ : ∃ j, N = j + 1 := ⟨N - 1, by omega⟩
        rw [cs_p hX hT (by omega) (by omega) (by omega)]
        exact ih _ its2 s N h2 (by omega) hs (by omega)
      · obtain ⟨N, rfl⟩ : ∃ j, N = j + 1 := ⟨N - 1, by omega⟩
        rw [cs_f (g := g) (cur := cur) (kn := kn) hX hT (by omega) (by omega) hs (Or.inl u1) u2]
        exact ih _ its2 _ N h2 (by omega) (fr _ _ hs) (by omega)
      · obtain ⟨N, rfl⟩ : ∃ j, N = j + 2 := ⟨N - 2, by omega⟩
        rw [cs_p hX hT (by omega) (by omega) (by omega), cs_n (g := g) (cur := cur) (kn := kn) hX hT (by omega) (by omega) hs u2, show k + 1 + 1 + 1 = k + 1 + 2 by omega]
        exact ih _ its2 _ N h2 (by omega) (fr _ _ hs) (by omega)
      · obtain ⟨N, rfl⟩ : ∃ j, N = j + 2 := ⟨N - 2, by omega⟩
        rw [cs_p hX hT (by omega) (by omega) (by omega), cs_n (g := g) (cur := cur) (kn := kn) hX hT (by omega) (by omega) hs u2, show k + 1 + 1 + 1 = k + 1 + 2 by omega]
        exact ih _ its2 _ N h2 (by omega) (fr _ _ hs) (by omega)
      · obtain ⟨N, rfl⟩ : ∃ j, N = j + 1 := ⟨N - 1, by omega⟩
        rw [cs_n (g := g) (cur := cur) (kn := kn) hX hT (by omega) (by omega) hs u1]
        exact ih _ its2 _ N h2 (by omega) (fr _ _ hs) (by omega)
      · obtain ⟨N, rfl⟩ : ∃ j, N = j + 3 := ⟨N - 3, by omega⟩
        rw [cs_n (g := g) (cur := cur) (kn := kn) hX hT (by omega) (by omega) hs u1, cs_p hX hT (by omega) (by omega) (by omega), show k + 1 + 1 + 1 = k + 1 + 2 by omega, cs_n (g := g) (cur := cur) (kn := kn) hX hT (by omega) (by omega) (fr _ _ hs) u3, show k + 1 + 2 + 1 = k + 1 + 3 by omega]
        exact ih _ its2 _ N h2 (by omega) (fr _ _ (fr _ _ hs)) (by omega)
    · obtain ⟨N, rfl⟩ : ∃ j, N = j + 1 := ⟨N - 1, by omega⟩
      rw [cs_f (g := g) (cur := cur) (kn := kn) hX hT (by omega) (by omega) hs (Or.inr t1) t2]
      exact ih _ its2 _ N h2 (by omega) (fr _ _ hs) (by omega)
    · obtain ⟨N, rfl⟩ : ∃ j, N = j + 1 := ⟨N - 1, by omega⟩
      rw [cs_p hX hT (by omega) (by omega) (by omega)]
      exact ih _ its2 s N h2 (by omega) hs (by omega)
    · obtain ⟨N, rfl⟩ : ∃ j, N = j + 1 := ⟨N - 1, by omega⟩
      rw [cs_p hX hT (by omega) (by omega) (by omega)]
      exact ih _ its2 s N h2 (by omega) hs (by omega)
