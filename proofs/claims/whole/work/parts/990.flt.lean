-- L3: enter: faults; the model gathers and refuses
def freeP (g : Int → Int) (v k : Int) : Prop := v + wdK k ≤ 201 ∧ ∀ u, 0 ≤ u → u < 40 → 0 ≤ g (6 * u) → g (6 * u + 1) + wdK (g (6 * u)) ≤ v ∨ v + wdK k ≤ g (6 * u + 1)
noncomputable def FLT (g : Int → Int) (cur kn r v : Int) : Int :=
  if v < tbl leaT r ∨ tbl greT r < v then 3 else
  if r = 2 then (if g (6 * (v - 1)) < 0 then 2 else 0) else
  if r = 3 then (if g (6 * (v - 1)) < 0 then 0 else 7) else
  if r = 5 then (if g (240 + 41 * (v - 1)) ≤ 0 then 2 else 0) else
  if r = 11 then @ite Int (freeP g v kn) (Classical.propDecidable _) 0 4 else
  if r = 17 then (if rowOf g v < 0 then (if 30 ≤ cuesN g then 5 else 0) else 0) else
  if r = 18 then (if rowOf g v < 0 then (if 30 ≤ cuesN g then 5 else 0) else 7) else
  if r = 19 then (if rowOf g v < 0 then 2 else 0) else
  if r = 21 then (if vcn (fun i => g (12362 + i)) ≤ 0 then 6 else 0) else
  if r = 22 then (if upTo g cur = 0 then 7 else 0) else 0
noncomputable def fitem (g : Int → Int) (cur kn : Int) (x : It3) : Int := FLT g cur kn x.1 x.2.1
def ffs (F : It3 → Int) (s : Int × Int) (x : It3) : Int × Int := if s.1 = 0 ∧ ¬ F x = 0 then (F x, x.2.2) else s
def rfs (s : Int × Int) (b k p : Int) : Int × Int := if b = 0 then s else if s.1 ≤ 0 then (k, p) else s
def MTK (X : Tx) (A : Int) (m : Mem) : Prop := A < X.2.2.2 ∧ A < 120 ∧ ∀ k, 0 ≤ k → k ≤ A → m 268 k = Kx X k ∧ (Kx X k = 1 ∨ Kx X k = 2 ∨ Kx X k = 3 → m 269 k = Vx X k) ∧ m 270 k = Px X k
theorem MTK_g {X : Tx} {A : Int} {m : Mem} {s : Int × Int} {r : RW} (h : MTK X A m) : MTK X A (gst m s r) := by
  obtain ⟨_, _, _, _, q5, _⟩ := gst_p (m := m) (s := s) (r := r)
  refine ⟨h.1, h.2.1, fun k k0 k1 => ?_⟩
  rw [q5 268 (by decide) (by decide), q5 269 (by decide) (by decide), q5 270 (by decide) (by decide)]
  exact h.2.2 k k0 k1
theorem wAt {X : Tx} {m0 m : Mem} {A k w : Int} (hX : XO X m0) (h : MTK X A m) (k0 : 0 ≤ k) (k1 : k ≤ A) (w0 : 0 ≤ w) (w1 : w < 70) : M_isWordAt m k w = some (if TT X k = tbl piT w then 1 else 0) := by
  obtain ⟨d1, d2, _⟩ := wd_x w0 w1
  obtain ⟨h1, h2, h3⟩ := h
  obtain ⟨e1, e2, _⟩ := h3 k k0 k1
  have hc := TT_c hX k0 (by omega) (by omega)
  unfold M_isWordAt
  rw [aI_ok k0 (by omega), Option.bind_some, e1]
  by_cases z : Kx X k = 1
  · rw [if_neg (fun x => x z), aI_ok k0 (by omega), Option.bind_some, e2 (Or.inl z)]
    by_cases z2 : Vx X k = w
    · rw [if_neg (fun x => x z2), if_pos (by rw [← z2]; omega)]
    · rw [if_pos z2, if_neg (fun x => z2 (pi_ij (by omega) (by omega) w0 w1 (by omega)))]
  · rw [if_pos z, if_neg (by omega)]
theorem sAt {X : Tx} {m0 m : Mem} {A k ch sc : Int} (hX : XO X m0) (h : MTK X A m) (k0 : 0 ≤ k) (k1 : k ≤ A) (hs : ch = 59 ∧ sc = 70 ∨ ch = 43 ∧ sc = 71 ∨ ch = 45 ∧ sc = 72 ∨ ch = 61 ∧ sc = 73 ∨ ch = 64 ∧ sc = 74) : M_isSignAt m k ch = some (if TT X k = sc then 1 else 0) := by
  obtain ⟨h1, h2, h3⟩ := h
  obtain ⟨e1, e2, _⟩ := h3 k k0 k1
  have hc := TT_c hX k0 (by omega) (by omega)
  unfold M_isSignAt
  rw [aI_ok k0 (by omega), Option.bind_some, e1]
  by_cases z : Kx X k = 3
  · rw [if_neg (fun x => x z), aI_ok k0 (by omega), Option.bind_some, e2 (Or.inr (Or.inr z))]
    by_cases z2 : Vx X k = ch
    · rw [if_neg (fun x => x z2), if_pos (by omega)]
    · rw [if_pos z2, if_neg (by omega)]
  · rw [if_pos z, if_neg (by omega)]
theorem nAt {X : Tx} {m0 m : Mem} {A k : Int} (hX : XO X m0) (h : MTK X A m) (k0 : 0 ≤ k) (k1 : k ≤ A) (ht : TT X k = 75) : aI m 269 122 k = some (Vx X k) ∧ m 269 k = Vx X k ∧ 0 ≤ Vx X k ∧ Vx X k ≤ 9999 ∧ m 268 k = 2 := by
  obtain ⟨h1, h2, h3⟩ := h
  obtain ⟨e1, e2, _⟩ := h3 k k0 k1
  have hc := TT_c hX k0 (by omega) (by omega)
  have hk : Kx X k = 2 := by omega
  rw [aI_ok k0 (by omega), e2 (Or.inr (Or.inl hk))]
  exact ⟨rfl, rfl, by omega, by omega, by rw [e1, hk]⟩
theorem refuse_e {X : Tx} {m : Mem} {A k b kn : Int} {s : Int × Int} {r : RW} (h : MTK X A m) (k0 : 0 ≤ k) (k1 : k ≤ A) : M_refuse (gst m s r) b kn k = some (gst m (rfs s b kn (Px X k)) r) := by
  obtain ⟨q1, q2, q3, q4, q5, q6⟩ := gst_p (m := m) (s := s) (r := r)
  have hb := h.2.1
  have hk := (h.2.2 k k0 k1).2.2
  unfold M_refuse rfs
  by_cases z : b = 0
  · rw [if_pos z, if_pos z]
  · rw [if_neg z, if_neg z, q3]
    by_cases z2 : s.1 ≤ 0
    · rw [if_pos z2, if_pos z2, Option.bind_some, aI_ok k0 (by omega)]
      simp only [Option.bind_some]
      rw [wr_o (show ¬ (270 : Int) = 259 by decide), q5 270 (by decide) (by decide), hk]
      congr 1
      refine gst_x ?_ ?_ ?_ wr_eq ?_ ?_
      · rw [wr_f (by decide), wr_f (by decide), q1]
      · rw [wr_o (by decide), wr_o (by decide), q2]
      · rw [wr_f (by decide), wr_eq]
      · intro o a b; rw [wr_o a, wr_o a, q5 o a b]
      · intro f a b d; rw [wr_f d, wr_f b, q6 f a b d]
    · rw [if_neg z2, if_neg z2]
theorem bounds_e {X : Tx} {m0 m : Mem} {A k lo hi : Int} {s : Int × Int} {r : RW} (hX : XO X m0) (h : MTK X A m) (k0 : 0 ≤ k) (k1 : k ≤ A) (ht : TT X k = 75) : M_bounds (gst m s r) k lo hi = some (gst m (rfs s (if lo ≤ Vx X k ∧ Vx X k ≤ hi then 0 else 1) 3 (Px X k)) r) := by
  obtain ⟨n1, n2, n3, n4, n5⟩ := nAt hX (MTK_g (s := s) (r := r) h) k0 k1 ht
  unfold M_bounds M_bounds_20
  rw [n1, Option.bind_some, M_in_e, Option.bind_some]
  by_cases z : lo ≤ Vx X k ∧ Vx X k ≤ hi
  · rw [if_pos z, if_pos z, if_pos (by decide), refuse_e h k0 k1, Option.bind_some]
  · rw [if_neg z, if_neg z, if_neg (by decide), refuse_e h k0 k1, Option.bind_some]
theorem gst_pat {m : Mem} {s : Int × Int} {r : RW} {u : Int} (u0 : 0 ≤ u) (u1 : u < 40) : M_isPatched (gst m s r) u = some (if m 264 (6 * u) < 0 then 0 else 1) := by
  obtain ⟨q1, q2, q3, q4, q5, q6⟩ := gst_p (m := m) (s := s) (r := r)
  rw [M_isPatched_e u0 u1, q5 264 (by decide) (by decide)]
theorem all_m {m : Mem} {s : Int × Int} {r : RW} {k more : Int} (k0 : 0 ≤ k) (k1 : k < 120) (h : ROK r) : ∀ (d N i : Nat), i + d = 40 → d < N → M_termAt_11 k more N (gst m s (thruP (m 264) more 0 1 r i)) i = some (k + 1, gst m s (thruP (m 264) more 0 1 r 40)) := by
  have hr : ∀ i : Int, 0 ≤ i → i < (40 : Nat) → 0 ≤ 0 + 1 * i ∧ 0 + 1 * i < 40 := fun i i0 i1 => by omega
  intro d
  induction d with
  | zero =>
    intro N i e hN
    obtain ⟨N, rfl⟩ : ∃ j, N = j + 1 := ⟨N - 1, by omega⟩
    have : i = 40 := by omega
    subst this
    rw [M_termAt_11, if_pos (by omega), jadd_e (by omega) (by omega)]
  | succ d ih =>
    intro N i e hN
    obtain ⟨N, rfl⟩ : ∃ j, N = j + 1 := ⟨N - 1, by omega⟩
    have hi := hr i (by omega) (by omega)
    have ei : (0 : Int) + 1 * (i : Int) = i := by omega
    have nx : thruP (m 264) more 0 1 r (i + 1) = if m 264 (6 * (0 + 1 * (i : Int))) < 0 then thruP (m 264) more 0 1 r i else putP (thruP (m 264) more 0 1 r i) (0 + 1 * (i : Int)) more := rfl
    rw [ei] at nx
    have rk := thru_k (g := m 264) (more := more) hr h i (by omega)
    rw [M_termAt_11, if_neg (by omega), gst_pat (by omega) (by omega), Option.bind_some, jadd_e (x := (i : Int)) (by omega) (by omega)]
    by_cases z : m 264 (6 * (i : Int)) < 0
    · rw [if_pos z, if_pos rfl]
      have := ih N (i + 1) (by omega) (by omega)
      rw [nx, if_pos z] at this
      exact this
    · rw [if_neg z, if_neg (by decide), put_m rk (by omega) (by omega), Option.bind_some]
      have := ih N (i + 1) (by omega) (by omega)
      rw [nx, if_neg z] at this
      exact this
theorem through_x {m : Mem} {s : Int × Int} {r : RW} {more a b st : Int} {K : Nat} (hK : K ≤ 40) (hst : st = 1 ∨ st = -1) (a0 : 0 ≤ a) (a1 : a < 40) (b0 : 0 ≤ b) (b1 : b < 40) (hr : ∀ i : Int, 0 ≤ i → i < K → 0 ≤ a + st * i ∧ a + st * i < 40) (hb : b + st = a + st * K) (h : ROK r) : ∀ (d N i : Nat), i + d = K → d < N → M_through_15 b more st N (gst m s (thruP (m 264) more a st r i)) (a + st * i) = some (gst m s (thruP (m 264) more a st r K)) := by
  have hbs : jadd b st = b + st := jadd_e (by omega) (by omega)
  intro d
  induction d with
  | zero =>
    intro N i e hN
    obtain ⟨N, rfl⟩ : ∃ j, N = j + 1 := ⟨N - 1, by omega⟩
    have : i = K := by omega
    subst this
    rw [M_through_15, hbs, if_pos hb.symm]
  | succ d ih =>
    intro N i e hN
    obtain ⟨N, rfl⟩ : ∃ j, N = j + 1 := ⟨N - 1, by omega⟩
    have hi := hr i (by omega) (by omega)
    have ne : ¬ a + st * (i : Int) = b + st := by
      rcases hst with rfl | rfl <;> omega
    have nx : thruP (m 264) more a st r (i + 1) = if m 264 (6 * (a + st * (i : Int))) < 0 then thruP (m 264) more a st r i else putP (thruP (m 264) more a st r i) (a + st * (i : Int)) more := rfl
    have es : jadd (a + st * (i : Int)) st = a + st * ((i + 1 : Nat) : Int) := by
      rcases hst with rfl | rfl
      · rw [jadd_e (by omega) (by omega)]; omega
      · rw [jadd_e (by omega) (by omega)]; omega
    have rk := thru_k (g := m 264) (more := more) hr h i (by omega)
    rw [M_through_15, hbs, if_neg ne, gst_pat hi.1 hi.2, Option.bind_some, es]
    by_cases z : m 264 (6 * (a + st * (i : Int))) < 0
    · rw [if_pos z, if_pos rfl, Option.bind_some]
      have := ih N (i + 1) (by omega) (by omega)
      rw [nx, if_pos z] at this
      exact this
    · rw [if_neg z, if_neg (by decide), put_m rk hi.1 hi.2, Option.bind_some, Option.bind_some]
      have := ih N (i + 1) (by omega) (by omega)
      rw [nx, if_neg z] at this
      exact this
theorem through_m {m : Mem} {s : Int × Int} {r : RW} {more a b : Int} (a0 : 1 ≤ a) (a1 : a ≤ 40) (b0 : 1 ≤ b) (b1 : b ≤ 40) (h : ROK r) : M_through (gst m s r) (a - 1) (b - 1) more = some (gst m s (thruP (m 264) more (a - 1) (if a ≤ b then 1 else -1) r (if a ≤ b then b - a + 1 else a - b + 1).toNat)) := by
  unfold M_through
  by_cases z : a ≤ b
  · rw [if_neg (by omega), if_pos z, if_pos z]
    have := through_x (m := m) (s := s) (r := r) (more := more) (a := a - 1) (b := b - 1) (st := 1) (K := (b - a + 1).toNat) (by omega) (Or.inl rfl) (by omega) (by omega) (by omega) (by omega) (fun i i0 i1 => by omega) (by omega) h (b - a + 1).toNat big 0 (by omega) (by have := big_ge; omega)
    rw [show a - 1 + 1 * ((0 : Nat) : Int) = a - 1 by omega] at this
    exact this
  · rw [if_pos (by omega), if_neg z, if_neg z]
    have := through_x (m := m) (s := s) (r := r) (more := more) (a := a - 1) (b := b - 1) (st := -1) (K := (a - b + 1).toNat) (by omega) (Or.inr rfl) (by omega) (by omega) (by omega) (by omega) (fun i i0 i1 => by omega) (by omega) h (a - b + 1).toNat big 0 (by omega) (by have := big_ge; omega)
    rw [show a - 1 + -1 * ((0 : Nat) : Int) = a - 1 by omega] at this
    exact this
theorem grp_m {m : Mem} {s : Int × Int} {r : RW} {k more : Int} (hw : WF (m 264)) (k0 : 0 ≤ k) (k1 : k < 12) (h : ROK r) : ∀ (d N i : Nat), i + d = (m 264 (240 + 41 * k)).toNat → d < N → M_groupAt_55 more (240 + 41 * k) N (gst m s (grpP (m 264) more k r i)) ((i : Int) + 1) = some (gst m s (grpP (m 264) more k r (m 264 (240 + 41 * k)).toNat)) := by
  obtain ⟨w1, w2, w3, _⟩ := hw.g k k0 k1
  intro d
  induction d with
  | zero =>
    intro N i e hN
    obtain ⟨N, rfl⟩ : ∃ j, N = j + 1 := ⟨N - 1, by omega⟩
    obtain ⟨_, _, _, _, q5, _⟩ := gst_p (m := m) (s := s) (r := grpP (m 264) more k r i)
    have : i = (m 264 (240 + 41 * k)).toNat := by omega
    rw [M_groupAt_55, aI_ok (by omega) (by omega), Option.bind_some, q5 264 (by decide) (by decide), if_pos (by omega), this]
  | succ d ih =>
    intro N i e hN
    obtain ⟨N, rfl⟩ : ∃ j, N = j + 1 := ⟨N - 1, by omega⟩
    obtain ⟨_, _, _, _, q5, _⟩ := gst_p (m := m) (s := s) (r := grpP (m 264) more k r i)
    have w3i : 0 ≤ m 264 (241 + 41 * k + (i : Int)) ∧ m 264 (241 + 41 * k + (i : Int)) < 40 := w3 i (by omega) (by omega)
    have rk := grp_k (g := m 264) (more := more) (k := k) (K := (m 264 (240 + 41 * k)).toNat) (fun i i0 i1 => w3 i i0 (by omega)) h i (by omega)
    rw [M_groupAt_55, aI_ok (by omega) (by omega), Option.bind_some, q5 264 (by decide) (by decide), if_neg (by omega), jadd_e (by omega) (by omega), aI_ok (by omega) (by omega), Option.bind_some, q5 264 (by decide) (by decide), show 240 + 41 * k + ((i : Int) + 1) = 241 + 41 * k + i by omega, put_m rk w3i.1 w3i.2, Option.bind_some, jadd_e (by omega) (by omega)]
    exact ih N (i + 1) (by omega) (by omega)
theorem fl1 {cur kn v : Int} {g : Int → Int} : FLT g cur kn 1 v = (if 1 ≤ v ∧ v ≤ 40 then 0 else 3) := by
  unfold FLT
  rw [show tbl leaT 1 = 1 by decide, show tbl greT 1 = 40 by decide]
  by_cases z : 1 ≤ v ∧ v ≤ 40
  · rw [if_neg (by omega), if_pos z]; rfl
  · rw [if_pos (by omega), if_neg z]
theorem fl2 {cur kn v : Int} {g : Int → Int} : FLT g cur kn 2 v = (if 1 ≤ v ∧ v ≤ 40 then (if g (6 * (v - 1)) < 0 then 2 else 0) else 3) := by
  unfold FLT
  rw [show tbl leaT 2 = 1 by decide, show tbl greT 2 = 40 by decide]
  by_cases z : 1 ≤ v ∧ v ≤ 40
  · rw [if_neg (by omega), if_pos z]; rfl
  · rw [if_pos (by omega), if_neg z]
theorem fl5 {cur kn v : Int} {g : Int → Int} : FLT g cur kn 5 v = (if 1 ≤ v ∧ v ≤ 12 then (if g (240 + 41 * (v - 1)) ≤ 0 then 2 else 0) else 3) := by
  unfold FLT
  rw [show tbl leaT 5 = 1 by decide, show tbl greT 5 = 12 by decide]
  by_cases z : 1 ≤ v ∧ v ≤ 12
  · rw [if_neg (by omega), if_pos z]; rfl
  · rw [if_pos (by omega), if_neg z]
