-- L3: enter: the model's gather as a whole; the class's faults
theorem more_m {X : Tx} {m0 m : Mem} {A cur kn first : Int} (hX : XO X m0) (hT : MTK X A m) (hw : WF (m 264)) : ∀ (tms : List Q4) (N : Nat) (k e : Int) (its : List It3) (s : Int × Int) (r : RW), MORE X tms k e its → 0 ≤ k → e ≤ A → 0 ≤ s.1 → ROK r → tms.length < N → ∃ r', M_gather_12 first N (gst m s r) k = M_gather_63 (gst m (its.foldl (ffs (fitem (m 264) cur kn)) s) r') first e (if r'.1 = 0 then 1 else 0) ∧ ROK r' ∧ ((its.foldl (ffs (fitem (m 264) cur kn)) s).1 = 0 → r' = gathP (m 264) r tms ∧ ∀ tm ∈ tms, TOK tm) := by
  intro tms
  induction tms with
  | nil =>
    intro N k e its s r hM k0 e1 hs h hN
    obtain ⟨N, rfl⟩ : ∃ j, N = j + 1 := ⟨N - 1, by omega⟩
    obtain ⟨rfl, rfl, z1, z2⟩ := hM
    have hTg := MTK_g (s := s) (r := r) hT
    refine ⟨r, ?_, h, fun _ => ⟨rfl, fun tm ht => by simp at ht⟩⟩
    rw [M_gather_12, sAt hX hTg k0 e1 (sc := 71) (by omega), if_neg z1, Option.bind_some, if_neg (by decide), sAt hX hTg k0 e1 (sc := 72) (by omega), if_neg z2, Option.bind_some, if_pos rfl, (gst_p (m := m) (s := s) (r := r)).1]
    show _ = M_gather_63 (gst m s r) first e _
    by_cases z : r.1 = 0
    · rw [if_neg (fun a => a z), if_pos z]
    · rw [if_pos z, if_neg z]
  | cons tm tms ih =>
    intro N k e its s r hM k0 e1 hs h hN
    obtain ⟨N, rfl⟩ : ∃ j, N = j + 1 := ⟨N - 1, by omega⟩
    obtain ⟨e2, its1, its2, hz, hR, rfl, hM2⟩ := hM
    have rl := TRM_l hR
    have ml := MORE_l tms e2 e its2 hM2
    have hb := hT.2.1
    have hTg := MTK_g (s := s) (r := r) hT
    have tm1 : tm.1 = TT X k := by
      rcases hR with ⟨_, _, _, q⟩ | ⟨_, _, _, _, q⟩ | ⟨_, _, _, _, q⟩ | ⟨_, _, _, _, _, q⟩ <;> rw [q]
    obtain ⟨r1, g1, g2, g3⟩ := term_m (cur := cur) (kn := kn) (s := s) (r := r) hX hT hw hR (by omega) (by omega) hs h
    have hs1 := fold_r (g := m 264) (cur := cur) (kn := kn) its1 s hs
    obtain ⟨r2, f1, f2, f3⟩ := ih N e2 e its2 (its1.foldl (ffs (fitem (m 264) cur kn)) s) r1 hM2 (by omega) e1 hs1 g2 (by simp at hN; omega)
    have e32 : M_gather_32 (M_gather_12 first N) (gst m s r) first k = M_gather_12 first N (gst m (its1.foldl (ffs (fitem (m 264) cur kn)) s) r1) e2 := by
      unfold M_gather_32
      rw [sAt hX hTg k0 (by omega) (sc := 71) (by omega), Option.bind_some, jadd_e (by omega) (by omega)]
      have em : (if TT X k = 71 then (1 : Int) else 0) = moreT tm := by unfold moreT; rw [tm1]
      rw [em, g1, Option.bind_some, Option.bind_some]
    refine ⟨r2, ?_, f2, fun a => ?_⟩
    · rw [List.foldl_append, ← f1, M_gather_12, sAt hX hTg k0 (by omega) (sc := 71) (by omega), Option.bind_some]
      by_cases z : TT X k = 71
      · rw [if_pos z, if_pos (by decide), e32]
      · rw [if_neg z, if_neg (by decide), sAt hX hTg k0 (by omega) (sc := 72) (by omega), if_pos (by omega), Option.bind_some, if_neg (by decide), e32]
    · rw [List.foldl_append] at a
      obtain ⟨h1, h2⟩ := f3 a
      obtain ⟨h3, h4⟩ := g3 (fold_0 a)
      refine ⟨by rw [h1, h3]; rfl, fun x hx => ?_⟩
      rcases List.mem_cons.mp hx with y | y
      · rw [y]; exact h4
      · exact h2 x y
theorem gather_m {X : Tx} {m0 m : Mem} {A cur kn k e : Int} {TL : List Q4} {its : List It3} {s : Int × Int} {r : RW} (hX : XO X m0) (hT : MTK X A m) (hw : WF (m 264)) (hS : SETP X TL k e its) (k0 : 0 ≤ k) (e1 : e ≤ A) (hs : 0 ≤ s.1) : ∃ r', M_gather (gst m s r) k = some (wr (gst m (rfs (its.foldl (ffs (fitem (m 264) cur kn)) s) (if r'.1 = 0 then 1 else 0) 6 (Px X k)) r') 259 22 e) ∧ ROK r' ∧ ((its.foldl (ffs (fitem (m 264) cur kn)) s).1 = 0 → r' = gathP (m 264) (0, r.2) TL ∧ ∀ tm ∈ TL, TOK tm) := by
  obtain ⟨tm, tms, e2, its1, its2, rfl, hR, rfl, hM⟩ := hS
  have rl := TRM_l hR
  have ml := MORE_l tms e2 e its2 hM
  have hb := hT.2.1
  have h0 : ROK (0, r.2) := ⟨show (0 : Int) ≤ 0 by decide, show (0 : Int) ≤ 40 by decide, fun i i0 i1 => by have : i < 0 := i1; omega, fun i j i0 ij j1 => by have : j < 0 := j1; omega⟩
  have tm1 : moreT tm = 1 := by
    unfold moreT
    rcases hR with ⟨_, _, _, q⟩ | ⟨_, _, _, _, q⟩ | ⟨_, _, _, _, q⟩ | ⟨_, _, _, _, _, q⟩ <;> rw [q] <;> rfl
  have eg : wr (gst m s r) 259 21 0 = gst m s (0, r.2) := by
    obtain ⟨q1, q2, q3, q4, q5, q6⟩ := gst_p (m := m) (s := s) (r := r)
    refine gst_x wr_eq ?_ ?_ ?_ ?_ ?_
    · rw [wr_o (by decide), q2]
    · rw [wr_f (by decide), q3]
    · rw [wr_f (by decide), q4]
    · intro o a b; rw [wr_o a, q5 o a b]
    · intro f a b d; rw [wr_f a, q6 f a b d]
  obtain ⟨r1, g1, g2, g3⟩ := term_m (cur := cur) (kn := kn) (s := s) (r := (0, r.2)) hX hT hw hR k0 (by omega) hs h0
  have hs1 := fold_r (g := m 264) (cur := cur) (kn := kn) its1 s hs
  obtain ⟨r2, f1, f2, f3⟩ := more_m (cur := cur) (kn := kn) (first := k) hX hT hw tms big e2 e its2 _ r1 hM (by omega) e1 hs1 g2 (by have := big_ge; omega)
  rw [tm1] at g1
  refine ⟨r2, ?_, f2, fun a => ?_⟩
  · unfold M_gather
    rw [Option.bind_some, eg, g1, Option.bind_some, Option.bind_some, f1]
    unfold M_gather_63
    rw [refuse_e hT k0 (by omega), Option.bind_some, Option.bind_some, List.foldl_append]
  · rw [List.foldl_append] at a
    obtain ⟨h1, h2⟩ := f3 a
    obtain ⟨h3, h4⟩ := g3 (fold_0 a)
    refine ⟨by rw [h1, h3]; rfl, fun x hx => ?_⟩
    rcases List.mem_cons.mp hx with y | y
    · rw [y]; exact h4
    · exact h2 x y
def inG (g : Int → Int) (k u : Int) : Prop := 0 ≤ g (6 * u) ∧ 0 ≤ k - g (6 * u + 1) ∧ k - g (6 * u + 1) < wdK (g (6 * u))
theorem own_g {c : Mem} {g : Int → Int} (hs : SR c 3 g) (hw : WF g) (hk : KON c) {k : Int} (k0 : 1 ≤ k) (k1 : k ≤ 200) : ∀ (N : Nat) (u : Int), 0 ≤ u → u ≤ 40 → 40 - u < N → (∀ q, 0 ≤ q → q < u → ¬ inG g k q) → ∃ v, Sh_ownerOf_2 c k N (u + 1) = some v ∧ ((v = 0 ∧ ∀ q, 0 ≤ q → q < 40 → ¬ inG g k q) ∨ (1 ≤ v ∧ v ≤ 40 ∧ inG g k (v - 1))) := by
  intro N
  induction N with
  | zero => intro u _ _ h3; omega
  | succ N ih =>
    intro u u0 u1 u2 hu
    rw [Sh_ownerOf_2]
    by_cases e : 40 < u + 1
    · rw [if_pos e]
      exact ⟨0, rfl, Or.inl ⟨rfl, fun q a b => hu q a (by omega)⟩⟩
    · rw [if_neg e, Sh_isPatched_e hs hw (by omega) (by omega), show 6 * (u + 1 - 1) = 6 * u by omega]
      simp only [Option.bind_some, nz]
      have go : ¬ inG g k u → ∃ v, Sh_ownerOf_2 c k N (jadd (u + 1) 1) = some v ∧ ((v = 0 ∧ ∀ q, 0 ≤ q → q < 40 → ¬ inG g k q) ∨ (1 ≤ v ∧ v ≤ 40 ∧ inG g k (v - 1))) := by
        intro hn
        rw [jadd_e (by omega) (by omega)]
        refine ih (u + 1) (by omega) (by omega) (by omega) (fun q a b => ?_)
        by_cases e3 : q = u
        · rw [e3]; exact hn
        · exact hu q a (by omega)
      by_cases e2 : g (6 * u) < 0
      · rw [if_pos e2]
        exact go (fun x => by have := x.1; omega)
      · obtain ⟨s1, s2⟩ := S3.u hs u u0 (by omega)
        obtain ⟨w1, w2, w3⟩ := hw.u u u0 (by omega)
        obtain ⟨x1, x2, _⟩ := w3 (by omega)
        have wr := wdK_r (k := g (6 * u)) (by omega) (by omega)
        rw [if_neg e2]
        simp (disch := omega) only [ar_ok, rd_pat, Option.bind_some]
        rw [show (5 + 1 * (u + 1) : Int) = 6 + u by omega, s1, s2 (by omega) 1 (by omega) (by omega), jsub_e (by omega) (by omega), aI_ok (by omega) (by omega), Option.bind_some, hk.sok _ (by omega) (by omega)]
        by_cases e3 : k - g (6 * u + 1) < 0
        · rw [if_pos e3]
          exact go (fun x => by have := x.2.1; omega)
        · rw [if_neg e3]
          by_cases e4 : tbl sokT (g (6 * u)) ≤ k - g (6 * u + 1)
          · rw [if_pos e4]
            exact go (fun x => by have := x.2.2; unfold wdK at this; omega)
          · rw [if_neg e4]
            refine ⟨u + 1, rfl, Or.inr ⟨by omega, by omega, ?_⟩⟩
            rw [show u + 1 - 1 = u by omega]
            exact ⟨by omega, by omega, by unfold wdK; omega⟩

theorem free_x {c : Mem} {g : Int → Int} (hs : SR c 3 g) (hw : WF g) (hk : KON c) {v kn : Int} (v0 : 1 ≤ v) (k0 : 0 ≤ kn) (k1 : kn < 9) (hv : v + wdK kn ≤ 201) : ∀ (d N : Nat) (i : Int), 0 ≤ i → i + d = wdK kn → d < N → (∀ j, 0 ≤ j → j < i → ∀ u, 0 ≤ u → u < 40 → ¬ inG g (v + j) u) → ∃ b, Ch_areSlotsFree_29 c v kn N i = some b ∧ ((b = 1 ∧ ∀ j, 0 ≤ j → j < wdK kn → ∀ u, 0 ≤ u → u < 40 → ¬ inG g (v + j) u) ∨ (b = 0 ∧ ∃ j, 0 ≤ j ∧ j < wdK kn ∧ ∃ u, 0 ≤ u ∧ u < 40 ∧ inG g (v + j) u)) := by
  have wr := wdK_r k0 k1
  intro d
  induction d with
  | zero =>
    intro N i i0 e hN hi
    obtain ⟨N, rfl⟩ : ∃ j, N = j + 1 := ⟨N - 1, by omega⟩
    rw [Ch_areSlotsFree_29, aI_ok k0 k1, Option.bind_some, hk.sok kn k0 k1, if_pos (show tbl sokT kn ≤ i by unfold wdK at e; omega)]
    exact ⟨1, rfl, Or.inl ⟨rfl, fun j j0 j1 => hi j j0 (by omega)⟩⟩
  | succ d ih =>
    intro N i i0 e hN hi
    obtain ⟨N, rfl⟩ : ∃ j, N = j + 1 := ⟨N - 1, by omega⟩
    obtain ⟨o, e1, e2⟩ := own_g hs hw hk (k := v + i) (by omega) (by omega) big 0 (by omega) (by omega) (by have := big_ge; omega) (fun q a b => by omega)
    have e1' : Sh_ownerOf c (v + i) = some o := e1
    rw [Ch_areSlotsFree_29, aI_ok k0 k1, Option.bind_some, hk.sok kn k0 k1, if_neg (show ¬ tbl sokT kn ≤ i by unfold wdK at e; omega), jadd_e (by omega) (by omega), e1', Option.bind_some]
    rcases e2 with ⟨z, hn⟩ | ⟨z1, z2, z3⟩
    · rw [if_pos z, jadd_e (by omega) (by omega)]
      refine ih N (i + 1) (by omega) (by omega) (by omega) (fun j j0 j1 => ?_)
      by_cases ej : j = i
      · subst ej; exact hn
      · exact hi j j0 (by omega)
    · rw [if_neg (by omega)]
      exact ⟨0, rfl, Or.inr ⟨rfl, i, i0, by omega, o - 1, by omega, by omega, z3⟩⟩
theorem free_c {c : Mem} {g : Int → Int} (hs : SR c 3 g) (hw : WF g) (hk : KON c) {v kn : Int} (v0 : 1 ≤ v) (v1 : v ≤ 200) (k0 : 0 ≤ kn) (k1 : kn < 9) : ∃ b, Ch_areSlotsFree c v kn = some b ∧ ((b = 1 ∧ freeP g v kn) ∨ (b = 0 ∧ ¬ freeP g v kn)) := by
  have wr := wdK_r k0 k1
  unfold Ch_areSlotsFree
  rw [if_neg (by omega), if_neg (by omega), aI_ok k0 k1, Option.bind_some, hk.sok kn k0 k1]
  have ew : tbl sokT kn = wdK kn := rfl
  rw [ew, jadd_e (by omega) (by omega), jsub_e (by omega) (by omega)]
  by_cases z : v + wdK kn - 1 ≤ 200
  · rw [if_pos z]
    obtain ⟨b, e1, e2⟩ := free_x hs hw hk v0 k0 k1 (by omega) (wdK kn).toNat big 0 (by omega) (by omega) (by have := big_ge; omega) (fun j a b => by omega)
    refine ⟨b, e1, ?_⟩
    rcases e2 with ⟨rfl, hn⟩ | ⟨rfl, j, j0, j1, u, u0, u1, hu⟩
    · refine Or.inl ⟨rfl, by omega, fun u u0 u1 hp => ?_⟩
      have wu := wdK_r (k := g (6 * u)) hp (by have := (hw.u u u0 u1).2.1; omega)
      by_cases y : g (6 * u + 1) + wdK (g (6 * u)) ≤ v
      · exact Or.inl y
      · right
        by_cases y2 : v + wdK kn ≤ g (6 * u + 1)
        · exact y2
        · exfalso
          by_cases y3 : g (6 * u + 1) ≤ v
          · exact hn 0 (by omega) (by omega) u u0 u1 ⟨hp, by omega, by omega⟩
          · exact hn (g (6 * u + 1) - v) (by omega) (by omega) u u0 u1 ⟨hp, by omega, by omega⟩
    · refine Or.inr ⟨rfl, fun hf => ?_⟩
      obtain ⟨i1, i2, i3⟩ := hu
      rcases hf.2 u u0 u1 i1 with x | x <;> omega
  · rw [if_neg z]
    exact ⟨0, rfl, Or.inr ⟨rfl, fun x => by have := x.1; omega⟩⟩
