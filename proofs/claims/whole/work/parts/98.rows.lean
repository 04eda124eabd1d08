-- L3: enter: rows of units, put and taken away by both
theorem pigeon : ∀ (K N : Nat) (f : Int → Int), (∀ i : Int, 0 ≤ i → i < (N : Int) → 0 ≤ f i ∧ f i < (K : Int)) → (∀ i j : Int, 0 ≤ i → i < j → j < (N : Int) → f i ≠ f j) → N ≤ K := by
  intro K
  induction K with
  | zero =>
    intro N f h _
    by_cases z : N = 0
    · omega
    · have := h 0 (by omega) (by omega); omega
  | succ K ih =>
    intro N f h hd
    by_cases e : ∃ i : Int, 0 ≤ i ∧ i < N ∧ f i = K
    · obtain ⟨i, i0, i1, hi⟩ := e
      have := ih (N - 1) (fun j => if j = i then f (N - 1) else f j) (by
        intro j j0 j1
        show 0 ≤ (if j = i then f ((N : Int) - 1) else f j) ∧ (if j = i then f ((N : Int) - 1) else f j) < K
        by_cases z : j = i
        · rw [if_pos z]
          have a := h ((N : Int) - 1) (by omega) (by omega)
          have b := hd i ((N : Int) - 1) i0 (by omega) (by omega)
          omega
        · rw [if_neg z]
          have a := h j j0 (by omega)
          have b : f j ≠ f i := by
            by_cases y : j < i
            · exact hd j i j0 y (by omega)
            · exact (hd i j i0 (by omega) (by omega)).symm
          omega) (by
        intro j k j0 jk k1
        show (if j = i then f ((N : Int) - 1) else f j) ≠ (if k = i then f ((N : Int) - 1) else f k)
        by_cases z : j = i
        · rw [if_pos z, if_neg (by omega)]
          exact (hd k ((N : Int) - 1) (by omega) (by omega) (by omega)).symm
        · rw [if_neg z]
          by_cases z2 : k = i
          · rw [if_pos z2]
            exact hd j ((N : Int) - 1) j0 (by omega) (by omega)
          · rw [if_neg z2]
            exact hd j k j0 jk (by omega))
      omega
    · have := ih N f (fun i i0 i1 => by
        have a := h i i0 i1
        have b : f i ≠ K := fun x => e ⟨i, i0, i1, x⟩
        omega) hd
      omega
abbrev RW := Int × (Int → Int)
def fndP (r : RW) (u : Int) : Int := itr (fun k s => if r.2 k = u then k else s) (-1) r.1.toNat
def delP (r : RW) (p : Int) : RW := (r.1 - 1, fun j => if p ≤ j ∧ j < r.1 - 1 then r.2 (j + 1) else r.2 j)
def putP (r : RW) (u more : Int) : RW := if more ≠ 0 then (if fndP r u < 0 then (r.1 + 1, st1 r.2 r.1 u) else r) else (if 0 ≤ fndP r u then delP r (fndP r u) else r)
def ROK (r : RW) : Prop := RowOK r.2 r.1
theorem fndP_s {r : RW} (h : ROK r) (u : Int) : (fndP r u = -1 ∧ ∀ k, 0 ≤ k → k < r.1 → r.2 k ≠ u) ∨ (0 ≤ fndP r u ∧ fndP r u < r.1 ∧ r.2 (fndP r u) = u ∧ ∀ k, 0 ≤ k → k < r.1 → r.2 k = u → k = fndP r u) := by
  obtain ⟨h1, h2, h3, h4⟩ := h
  have hh := itr_inv (fun k s => if r.2 k = u then k else s) (-1) (fun i s => (s = -1 ∧ ∀ k, 0 ≤ k → k < i → r.2 k ≠ u) ∨ (0 ≤ s ∧ s < i ∧ r.2 s = u)) (Or.inl ⟨rfl, fun k a b => by omega⟩) (by
    intro k s h
    split
    · rename_i hc
      exact Or.inr ⟨by omega, by omega, hc⟩
    · rename_i hc
      rcases h with ⟨a, b⟩ | ⟨a, b, d⟩
      · refine Or.inl ⟨a, fun j j0 j1 => ?_⟩
        by_cases e : j = k
        · subst e; exact hc
        · exact b j j0 (by omega)
      · exact Or.inr ⟨a, by omega, d⟩) r.1.toNat
  rw [show ((r.1.toNat : Nat) : Int) = r.1 by omega] at hh
  have e : itr (fun k s => if r.2 k = u then k else s) (-1) r.1.toNat = fndP r u := rfl
  rw [e] at hh
  rcases hh with ⟨a, b⟩ | ⟨a, b, d⟩
  · exact Or.inl ⟨a, b⟩
  · refine Or.inr ⟨a, b, d, fun k k0 k1 k2 => ?_⟩
    by_cases y : k = fndP r u
    · exact y
    · exfalso
      by_cases y2 : k < fndP r u
      · exact h4 k _ k0 y2 b (by rw [k2, d])
      · exact h4 _ k a (by omega) k1 (by rw [k2, d])
theorem delP_k {r : RW} {p : Int} (h : ROK r) (p0 : 0 ≤ p) (p1 : p < r.1) : ROK (delP r p) := by
  obtain ⟨h1, h2, h3, h4⟩ := h
  refine ⟨show 0 ≤ r.1 - 1 by omega, show r.1 - 1 ≤ 40 by omega, fun i i0 i1 => ?_, fun i j i0 ij j1 => ?_⟩
  · have i1' : i < r.1 - 1 := i1
    show 0 ≤ (if p ≤ i ∧ i < r.1 - 1 then r.2 (i + 1) else r.2 i) ∧ (if p ≤ i ∧ i < r.1 - 1 then r.2 (i + 1) else r.2 i) < 40
    split
    · exact h3 (i + 1) (by omega) (by omega)
    · exact h3 i i0 (by omega)
  · have j1' : j < r.1 - 1 := j1
    show (if p ≤ i ∧ i < r.1 - 1 then r.2 (i + 1) else r.2 i) ≠ (if p ≤ j ∧ j < r.1 - 1 then r.2 (j + 1) else r.2 j)
    by_cases z : p ≤ i
    · rw [if_pos ⟨z, by omega⟩, if_pos ⟨by omega, j1'⟩]
      exact h4 (i + 1) (j + 1) (by omega) (by omega) (by omega)
    · rw [if_neg (fun x => z x.1)]
      by_cases z2 : p ≤ j
      · rw [if_pos ⟨z2, j1'⟩]
        exact h4 i (j + 1) i0 (by omega) (by omega)
      · rw [if_neg (fun x => z2 x.1)]
        exact h4 i j i0 ij (by omega)
theorem ROK_lt {r : RW} {u : Int} (h : ROK r) (hf : fndP r u < 0) (u0 : 0 ≤ u) (u1 : u < 40) : r.1 < 40 := by
  have hs := fndP_s h u
  obtain ⟨h1, h2, h3, h4⟩ := h
  have hn : ∀ k, 0 ≤ k → k < r.1 → r.2 k ≠ u := by
    rcases hs with ⟨_, b⟩ | ⟨a, _⟩
    · exact b
    · omega
  have := pigeon 40 (r.1.toNat + 1) (st1 r.2 r.1 u) (fun i i0 i1 => by
    unfold st1
    split
    · omega
    · have := h3 i i0 (by omega); omega) (fun i j i0 ij j1 => by
    unfold st1
    rw [if_neg (show ¬ i = r.1 by omega)]
    split
    · exact hn i i0 (by omega)
    · exact h4 i j i0 ij (by omega))
  omega
theorem putP_k {r : RW} {u more : Int} (h : ROK r) (u0 : 0 ≤ u) (u1 : u < 40) : ROK (putP r u more) := by
  have hs := fndP_s h u
  unfold putP
  by_cases z : more ≠ 0
  · rw [if_pos z]
    by_cases y : fndP r u < 0
    · rw [if_pos y]
      have lt := ROK_lt h y u0 u1
      obtain ⟨h1, h2, h3, h4⟩ := h
      refine ⟨show 0 ≤ r.1 + 1 by omega, show r.1 + 1 ≤ 40 by omega, fun i i0 i1 => ?_, fun i j i0 ij j1 => ?_⟩
      · have i1' : i < r.1 + 1 := i1
        show 0 ≤ st1 r.2 r.1 u i ∧ st1 r.2 r.1 u i < 40
        unfold st1
        split
        · omega
        · exact h3 i i0 (by omega)
      · have j1' : j < r.1 + 1 := j1
        show st1 r.2 r.1 u i ≠ st1 r.2 r.1 u j
        unfold st1
        rw [if_neg (show ¬ i = r.1 by omega)]
        split
        · rcases hs with ⟨_, b⟩ | ⟨a, _⟩
          · exact b i i0 (by omega)
          · omega
        · exact h4 i j i0 ij (by omega)
    · rw [if_neg y]; exact h
  · rw [if_neg z]
    by_cases y : 0 ≤ fndP r u
    · rw [if_pos y]
      rcases hs with ⟨a, _⟩ | ⟨a, b, _⟩
      · omega
      · exact delP_k h a b
    · rw [if_neg y]; exact h
/-- the class's row of units at object o -/
def CR (c : Mem) (o : Int) (r : RW) : Prop := c o 1 = r.1 ∧ ∀ i, 0 ≤ i → i < r.1 → c (o + 1) i = r.2 i + 1
def RO (o : Int) : Prop := kd o = 5 ∧ kd (o + 1) = 100 ∧ ln (o + 1) = 40 ∧ 0 < o ∧ uB (o + 1) = false ∧ uB o = false
theorem placeOf_x {c : Mem} {o : Int} {r : RW} {u : Int} (ho : RO o) (hO : o ≤ c 0 0) (h : ROK r) (hc : CR c o r) : ∀ (d N : Nat) (i : Int), 0 ≤ i → i + d = r.1 → d < N → (∀ k, 0 ≤ k → k < i → r.2 k ≠ u) → Row_placeOf_2 c o (u + 1) N i = some (fndP r u) := by
  obtain ⟨k1, k2, k3, k4, k5, _⟩ := ho
  have hs := fndP_s h u
  intro d
  induction d with
  | zero =>
    intro N i i0 e hN hi
    obtain ⟨N, rfl⟩ : ∃ j, N = j + 1 := ⟨N - 1, by omega⟩
    rw [Row_placeOf_2]
    unfold gf
    rw [if_pos k1, Option.bind_some, hc.1, if_pos (by omega)]
    rcases hs with ⟨a, _⟩ | ⟨a, b, d, _⟩
    · rw [a]
    · exact absurd d (hi _ a (by omega))
  | succ d ih =>
    intro N i i0 e hN hi
    obtain ⟨N, rfl⟩ : ∃ j, N = j + 1 := ⟨N - 1, by omega⟩
    have hb := h.2.1
    rw [Row_placeOf_2]
    unfold gf gO
    rw [if_pos k1, Option.bind_some, hc.1, if_neg (by omega), if_pos ⟨k1, k4, hO⟩, Option.bind_some, rdI_ok k2 i0 (by omega), Option.bind_some, hc.2 i i0 (by omega), jadd_e (by omega) (by omega)]
    by_cases z : r.2 i = u
    · rw [if_neg (fun x => x (by omega))]
      rcases hs with ⟨_, b⟩ | ⟨_, _, _, b⟩
      · exact absurd z (b i i0 (by omega))
      · rw [← b i i0 (by omega) z]
    · rw [if_pos (show r.2 i + 1 ≠ u + 1 by omega)]
      refine ih N (i + 1) (by omega) (by omega) (by omega) (fun k k0 k2 => ?_)
      by_cases ek : k = i
      · subst ek; exact z
      · exact hi k k0 (by omega)
theorem placeOf_e {c : Mem} {o : Int} {r : RW} {u : Int} (ho : RO o) (hO : o ≤ c 0 0) (h : ROK r) (hc : CR c o r) : Row_placeOf c o (u + 1) = some (fndP r u) := by
  have h1 := h.1
  have h2 := h.2.1
  exact placeOf_x ho hO h hc r.1.toNat big 0 (by omega) (by omega) (by have := big_ge; omega) (fun k a b => by omega)
theorem remove_e {c : Mem} {o : Int} {r : RW} {u : Int} (ho : RO o) (hO : o ≤ c 0 0) (h : ROK r) (hc : CR c o r) : ∃ c', Row_remove c o (u + 1) = some c' ∧ CR c' o (putP r u 0) ∧ (∀ p, ¬ p = o → ¬ p = o + 1 → c' p = c p) ∧ (∀ f, ¬ f = 1 → c' o f = c o f) := by
  have ho' := ho
  obtain ⟨k1, k2, k3, k4, k5, k6⟩ := ho'
  have hs := fndP_s h u
  have h1 := h.1
  have h2 := h.2.1
  unfold Row_remove
  rw [if_pos ⟨by omega, k1⟩, placeOf_e ho hO h hc, Option.bind_some]
  unfold putP
  rw [if_neg (show ¬ (0 : Int) ≠ 0 by decide)]
  by_cases z : 0 ≤ fndP r u
  · rw [if_pos z, if_pos z]
    obtain ⟨a, b⟩ : 0 ≤ fndP r u ∧ fndP r u < r.1 := by rcases hs with ⟨x, _⟩ | ⟨x, y, _⟩ <;> omega
    unfold gf pf
    rw [if_pos k1, Option.bind_some, hc.1, if_pos ⟨k1, k4, fun x => absurd x (by decide), fun x => absurd x (by decide)⟩, Option.bind_some, jsub_e (by omega) (by omega)]
    generalize hm : wr c o 1 (r.1 - 1) = c1
    have o1 : c1 o 1 = r.1 - 1 := by rw [← hm, wr_eq]
    have o0 : c1 0 0 = c 0 0 := by rw [← hm, wr_o (by omega)]
    obtain ⟨p, hp⟩ : ∃ p : Nat, fndP r u = (p : Int) := ⟨(fndP r u).toNat, by omega⟩
    have lp := asg (fun N μ i => Row_remove_23 o N μ i) (o + 1) 0 (fndP r u) (r.1 - 1) (fun i => c (o + 1) (i + 1)) c1 (by
      intro N μ i i0 i1 hp1 hp2 hp3
      show Row_remove_23 o (N + 1) μ i = Row_remove_23 o N _ (i + 1)
      have e1 : μ o = c1 o := hp1 o (by omega)
      have e0 : μ 0 = c1 0 := hp1 0 (by omega)
      rw [Row_remove_23]
      unfold gf gO wD
      rw [if_pos k1, Option.bind_some, e1, o1, if_neg (by omega), e0, o0, if_pos ⟨k1, k4, hO⟩, Option.bind_some, Option.bind_some, jadd_e (by omega) (by omega), rdI_ok k2 (by omega) (by omega), Option.bind_some, if_pos k5, wI_ok k2 (by omega) (by omega) (by omega), Option.bind_some, wr_st1, hp2 (i + 1) (by omega), ← hm, wr_o (show ¬ o + 1 = o by omega), show (0 : Int) + i = i by omega]) (r.1 - 1 - fndP r u).toNat (by omega) big (by have := big_ge; omega)
    have lp' : Row_remove_23 o big c1 (fndP r u) = _ := lp
    rw [lp']
    obtain ⟨N, hN⟩ : ∃ N, big - (r.1 - 1 - fndP r u).toNat = N + 1 := ⟨big - (r.1 - 1 - fndP r u).toNat - 1, by have := big_ge; omega⟩
    rw [hN]
    refine ⟨up c1 (o + 1) (fun j => if 0 + fndP r u ≤ j ∧ j < 0 + fndP r u + ((r.1 - 1 - fndP r u).toNat : Int) then (fun i => c (o + 1) (i + 1)) (j - 0) else c1 (o + 1) j), ?_, ?_, ?_, ?_⟩
    · show Row_remove_23 o (N + 1) _ _ = _
      rw [Row_remove_23]
      unfold gf
      rw [if_pos k1, Option.bind_some, up_ne (show ¬ o = o + 1 by omega), o1, if_pos (by omega)]
    · refine ⟨by rw [up_ne (show ¬ o = o + 1 by omega), o1]; rfl, fun i i0 i1 => ?_⟩
      have i1' : i < r.1 - 1 := i1
      rw [up_eq]
      show (if 0 + fndP r u ≤ i ∧ i < 0 + fndP r u + ((r.1 - 1 - fndP r u).toNat : Int) then c (o + 1) (i - 0 + 1) else c1 (o + 1) i) = (if fndP r u ≤ i ∧ i < r.1 - 1 then r.2 (i + 1) else r.2 i) + 1
      by_cases y : fndP r u ≤ i
      · rw [if_pos (by omega), if_pos ⟨y, i1'⟩, show i - 0 + 1 = i + 1 by omega, hc.2 (i + 1) (by omega) (by omega)]
      · rw [if_neg (by omega), if_neg (by omega), ← hm, wr_o (show ¬ o + 1 = o by omega), hc.2 i i0 (by omega)]
    · intro q q1 q2
      rw [up_ne q2, ← hm, wr_o q1]
    · intro f hf
      rw [up_ne (show ¬ o = o + 1 by omega), ← hm, wr_f hf]
  · rw [if_neg z, if_neg z]
    exact ⟨c, rfl, hc, fun _ _ _ => rfl, fun _ _ => rfl⟩
theorem ro248 : RO 248 := by unfold RO; decide +kernel
theorem gU_c {c : Mem} {r : RW} {u more : Int} (hO : 280 ≤ c 0 0) (h : ROK r) (hc : CR c 248 r) (u0 : 0 ≤ u) (u1 : u < 40) : ∃ c', Ch_gatherUnit c more (u + 1) = some c' ∧ CR c' 248 (putP r u more) ∧ (∀ p, ¬ p = 248 → ¬ p = 249 → c' p = c p) ∧ (∀ f, ¬ f = 1 → c' 248 f = c 248 f) := by
  unfold Ch_gatherUnit
  by_cases z : more = 0
  · subst z
    obtain ⟨c', e1, e2, e3, e4⟩ := remove_e (u := u) ro248 (by omega) h hc
    rw [if_pos rfl, e1, Option.bind_some]
    exact ⟨c', rfl, e2, e3, e4⟩
  · rw [if_neg z]
    unfold Row_add putP
    rw [if_pos z, hc.1]
    have hs := fndP_s h u
    have h1 := h.1
    have h2 := h.2.1
    by_cases y : fndP r u < 0
    · have lt := ROK_lt h y u0 u1
      rw [if_neg (by omega), placeOf_e ro248 (by omega) h hc, Option.bind_some, if_neg (by omega), if_pos y, sI_ok (by omega) (by omega)]
      simp only [Option.bind_some]
      rw [wr_o (show ¬ (248 : Int) = 249 by decide), hc.1, jadd_e (by omega) (by omega)]
      refine ⟨_, rfl, ⟨wr_eq, fun i i0 i1 => ?_⟩, fun p p1 p2 => by rw [wr_o p1, wr_o p2], fun f hf => by rw [wr_f hf, wr_o (by decide)]⟩
      have i1' : i < r.1 + 1 := i1
      show wr (wr c 249 r.1 (u + 1)) 248 1 (r.1 + 1) 249 i = st1 r.2 r.1 u i + 1
      rw [wr_o (by decide)]
      unfold st1
      by_cases e : i = r.1
      · rw [if_pos e, e, wr_eq]
      · rw [if_neg e, wr_f e]; exact hc.2 i i0 (by omega)
    · rw [if_neg y]
      by_cases y2 : 40 ≤ r.1
      · rw [if_pos y2, Option.bind_some]
        exact ⟨c, rfl, hc, fun _ _ _ => rfl, fun _ _ => rfl⟩
      · rw [if_neg y2, placeOf_e ro248 (by omega) h hc, Option.bind_some, if_pos (by omega), Option.bind_some]
        exact ⟨c, rfl, hc, fun _ _ _ => rfl, fun _ _ => rfl⟩
/-- the model's row and fault over a memory -/
def gst (m : Mem) (s : Int × Int) (r : RW) : Mem := wr (wr (wr (up m 271 r.2) 259 21 r.1) 259 11 s.1) 259 12 s.2
theorem gst_p {m : Mem} {s : Int × Int} {r : RW} : gst m s r 259 21 = r.1 ∧ gst m s r 271 = r.2 ∧ gst m s r 259 11 = s.1 ∧ gst m s r 259 12 = s.2 ∧ (∀ o, ¬ o = 259 → ¬ o = 271 → gst m s r o = m o) ∧ (∀ f, ¬ f = 21 → ¬ f = 11 → ¬ f = 12 → gst m s r 259 f = m 259 f) := by
  unfold gst
  refine ⟨?_, ?_, ?_, wr_eq, ?_, ?_⟩
  · rw [wr_f (by decide), wr_f (by decide), wr_eq]
  · rw [wr_o (by decide), wr_o (by decide), wr_o (by decide), up_eq]
  · rw [wr_f (by decide), wr_eq]
  · intro o a b; rw [wr_o a, wr_o a, wr_o a, up_ne b]
  · intro f a b d; rw [wr_f d, wr_f b, wr_f a, up_ne (by decide)]
theorem gst_x {m m' : Mem} {s' : Int × Int} {r' : RW} (h1 : m' 259 21 = r'.1) (h2 : m' 271 = r'.2) (h3 : m' 259 11 = s'.1) (h4 : m' 259 12 = s'.2) (h5 : ∀ o, ¬ o = 259 → ¬ o = 271 → m' o = m o) (h6 : ∀ f, ¬ f = 21 → ¬ f = 11 → ¬ f = 12 → m' 259 f = m 259 f) : m' = gst m s' r' := by
  obtain ⟨p1, p2, p3, p4, p5, p6⟩ := gst_p (m := m) (s := s') (r := r')
  funext o f
  by_cases e1 : o = 259
  · subst e1
    by_cases f1 : f = 21
    · subst f1; rw [h1, p1]
    · by_cases f2 : f = 11
      · subst f2; rw [h3, p3]
      · by_cases f3 : f = 12
        · subst f3; rw [h4, p4]
        · rw [h6 f f1 f2 f3, p6 f f1 f2 f3]
  · by_cases e2 : o = 271
    · subst e2; rw [h2, p2]
    · rw [h5 o e1 e2, p5 o e1 e2]
theorem put_m {m : Mem} {s : Int × Int} {r : RW} {u more : Int} (h : ROK r) (u0 : 0 ≤ u) (u1 : u < 40) : M_put (gst m s r) u more = some (gst m s (putP r u more)) := by
  have hs := fndP_s h u
  have h1 := h.1
  have h2 := h.2.1
  obtain ⟨q1, q2, q3, q4, q5, q6⟩ := gst_p (m := m) (s := s) (r := r)
  obtain ⟨n, hn⟩ : ∃ n : Nat, r.1 = (n : Int) := ⟨r.1.toNat, by omega⟩
  unfold M_put
  have lp : M_put_5 (gst m s r) u more big (-1) 0 = (if more = 0 then M_put_69 (gst m s r) more (fndP r u) else if 0 ≤ fndP r u then M_put_69 (gst m s r) more (fndP r u) else (sI (gst m s r) 271 40 r.1 u).bind fun m1 => (some (wr m1 259 21 (jadd (m1 259 21) 1))).bind fun m4 => some m4) := by
    have ef : fndP r u = itr (fun k s => if r.2 k = u then k else s) (-1) n := by unfold fndP; rw [hn]; rfl
    rw [ef]
    refine loopZ (fun k t i => M_put_5 (gst m s r) u more k t i) (fun k t => if r.2 k = u then k else t) (-1) n r.1 (by omega) ?_ ?_ big (by have := big_ge; omega)
    · intro k i t i0 i1
      show M_put_5 (gst m s r) u more (k + 1) t i = M_put_5 (gst m s r) u more k _ (i + 1)
      rw [M_put_5, q1, if_neg (by omega), aI_ok i0 (by omega), Option.bind_some, q2, jadd_e (by omega) (by omega)]
      by_cases e : r.2 i = u
      · rw [if_neg (fun x => x e), if_pos e]
      · rw [if_pos e, if_neg e]
    · intro k
      show M_put_5 (gst m s r) u more (k + 1) _ r.1 = _
      rw [M_put_5, q1, if_pos (Int.le_refl _)]
  rw [lp]
  unfold putP
  by_cases z : more = 0
  · subst z
    rw [if_pos rfl, if_neg (show ¬ (0 : Int) ≠ 0 by decide)]
    unfold M_put_69
    rw [if_neg (show ¬ (0 : Int) ≠ 0 by decide)]
    by_cases y : 0 ≤ fndP r u
    · rw [if_pos y, if_neg (by omega)]
      obtain ⟨a, b⟩ : 0 ≤ fndP r u ∧ fndP r u < r.1 := by rcases hs with ⟨x, _⟩ | ⟨x, y, _⟩ <;> omega
      have lq := asg (fun N μ i => M_put_80 N μ i) 271 0 (fndP r u) (r.1 - 1) (fun i => r.2 (i + 1)) (gst m s r) (by
        intro N μ i i0 i1 hp1 hp2 hp3
        show M_put_80 (N + 1) μ i = M_put_80 N _ (i + 1)
        have e1 : μ 259 = gst m s r 259 := hp1 259 (by decide)
        rw [M_put_80, e1, q1, jadd_e (by omega) (by omega), if_neg (by omega), aI_ok (by omega) (by omega), Option.bind_some, sI_up (by omega) (by omega), Option.bind_some, hp2 (i + 1) (by omega), q2, show (0 : Int) + i = i by omega]) (r.1 - 1 - fndP r u).toNat (by omega) big (by have := big_ge; omega)
      have lq' : M_put_80 big (gst m s r) (fndP r u) = _ := lq
      rw [lq']
      obtain ⟨N, hN⟩ : ∃ N, big - (r.1 - 1 - fndP r u).toNat = N + 1 := ⟨big - (r.1 - 1 - fndP r u).toNat - 1, by have := big_ge; omega⟩
      rw [hN]
      show M_put_80 (N + 1) _ _ = _
      rw [M_put_80, up_ne (show ¬ (259 : Int) = 271 by decide), q1, jadd_e (by omega) (by omega), if_pos (by omega), Option.bind_some, jsub_e (by omega) (by omega)]
      congr 1
      refine gst_x wr_eq ?_ ?_ ?_ ?_ ?_
      · rw [wr_o (by decide), up_eq, q2]
        funext j
        show (if 0 + fndP r u ≤ j ∧ j < 0 + fndP r u + ((r.1 - 1 - fndP r u).toNat : Int) then r.2 (j - 0 + 1) else r.2 j) = (if fndP r u ≤ j ∧ j < r.1 - 1 then r.2 (j + 1) else r.2 j)
        by_cases y2 : fndP r u ≤ j ∧ j < r.1 - 1
        · rw [if_pos (by omega), if_pos y2, show j - 0 + 1 = j + 1 by omega]
        · rw [if_neg (by omega), if_neg y2]
      · rw [wr_f (by decide), up_ne (by decide), q3]
      · rw [wr_f (by decide), up_ne (by decide), q4]
      · intro o a b; rw [wr_o a, up_ne b, q5 o a b]
      · intro f a b d; rw [wr_f a, up_ne (by decide), q6 f a b d]
    · rw [if_neg y, if_pos (by omega)]
  · rw [if_neg z, if_pos z]
    by_cases y : fndP r u < 0
    · have lt := ROK_lt h y u0 u1
      rw [if_neg (by omega), if_pos y, sI_up (by omega) (by omega)]
      simp only [Option.bind_some]
      rw [up_ne (show ¬ (259 : Int) = 271 by decide), q1, jadd_e (by omega) (by omega)]
      congr 1
      refine gst_x wr_eq ?_ ?_ ?_ ?_ ?_
      · rw [wr_o (by decide), up_eq, q2]
      · rw [wr_f (by decide), up_ne (by decide), q3]
      · rw [wr_f (by decide), up_ne (by decide), q4]
      · intro o a b; rw [wr_o a, up_ne b, q5 o a b]
      · intro f a b d; rw [wr_f a, up_ne (by decide), q6 f a b d]
    · rw [if_pos (by omega), if_neg y]
      unfold M_put_69
      rw [if_pos z]
