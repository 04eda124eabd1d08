-- L3: enter: a cue comes
theorem free_r {g : Int → Int} (h : cuesN g < 30) : ∃ r, 0 ≤ r ∧ r < 30 ∧ cn g r ≤ 0 := by
  by_cases z : ∃ r, 0 ≤ r ∧ r < 30 ∧ cn g r ≤ 0
  · exact z
  · exfalso
    have al : ∀ r, 0 ≤ r → r < 30 → 0 < cn g r := fun r a b => by
      by_cases y : 0 < cn g r
      · exact y
      · exact absurd ⟨r, a, b, by omega⟩ z
    have : ∀ k : Nat, k ≤ 30 → itr (fun r s => if 0 < cn g r then s + 1 else s) (0 : Int) k = k := by
      intro k
      induction k with
      | zero => intro _; rfl
      | succ k ih =>
        intro hk
        show (if 0 < cn g (k : Int) then itr (fun r s => if 0 < cn g r then s + 1 else s) (0 : Int) k + 1 else itr _ 0 k) = _
        rw [if_pos (al k (by omega) (by omega)), ih (by omega)]
        omega
    have e : cuesN g = 30 := this 30 (Nat.le_refl _)
    omega
theorem mk14 {m : Mem} {n : Int} (h : cuesN (m 264) < 30) : ∃ r, 0 ≤ r ∧ r < 30 ∧ cn (m 264) r ≤ 0 ∧ M_makeCue_14 m n big 0 = M_makeCue_30 n r big m 0 := by
  obtain ⟨r1, a, b, d⟩ := free_r h
  have : ∀ (j : Nat) (N : Nat) (i : Int), 0 ≤ i → i + j = r1 → j < N → ∃ r, 0 ≤ r ∧ r < 30 ∧ cn (m 264) r ≤ 0 ∧ M_makeCue_14 m n N i = M_makeCue_30 n r big m 0 := by
    intro j
    induction j with
    | zero =>
      intro N i i0 e hN
      obtain ⟨N, rfl⟩ : ∃ k, N = k + 1 := ⟨N - 1, by omega⟩
      obtain rfl : i = r1 := by omega
      exact ⟨i, a, b, d, by rw [M_makeCue_14, M_cueNumber_e a b, Option.bind_some, if_pos d]⟩
    | succ j ih =>
      intro N i i0 e hN
      obtain ⟨N, rfl⟩ : ∃ k, N = k + 1 := ⟨N - 1, by omega⟩
      by_cases z : cn (m 264) i ≤ 0
      · exact ⟨i, i0, by omega, z, by rw [M_makeCue_14, M_cueNumber_e i0 (by omega), Option.bind_some, if_pos z]⟩
      · obtain ⟨r, x1, x2, x3, x4⟩ := ih N (i + 1) (by omega) (by omega) (by omega)
        exact ⟨r, x1, x2, x3, by rw [M_makeCue_14, M_cueNumber_e i0 (by omega), Option.bind_some, if_neg z, jadd_e (by omega) (by omega), x4]⟩
  exact this r1.toNat big 0 (by omega) (by omega) (by have := big_ge; omega)
/-- the row of a new cue -/
def newR (g : Int → Int) (n r : Int) : Int → Int := fun j => if j = 1352 + 7 * r then n else if 1352 + 7 * r < j ∧ j < 1357 + 7 * r then 0 else if 1357 + 7 * r ≤ j ∧ j < 1359 + 7 * r then -1 else if 1562 + 360 * r ≤ j ∧ j < 1922 + 360 * r then -1 else g j
theorem mk30 {m : Mem} {n r : Int} (r0 : 0 ≤ r) (r1 : r < 30) : M_makeCue_30 n r big m 0 = some (r, up m 264 (newR (m 264) n r)) := by
  have h := asg (fun N μ i => M_makeCue_30 n r N μ i) 264 (1352 + 7 * r) 0 5 (fun _ => 0) m (by
    intro N μ i i0 i1 _ _ _
    show M_makeCue_30 n r (N + 1) μ i = M_makeCue_30 n r N _ (i + 1)
    rw [M_makeCue_30, if_neg (by omega), jmul_e (by omega) (by omega), jadd_e (x := 1352) (by omega) (by omega), jadd_e (x := 1352 + 7 * r) (by omega) (by omega), sI_up (by omega) (by omega), Option.bind_some, jadd_e (by omega) (by omega)]) 5 (by omega) big (by have := big_ge; omega)
  have h' : M_makeCue_30 n r big m 0 = _ := h
  rw [h']
  obtain ⟨N, hN⟩ : ∃ N, big - 5 = N + 1 := ⟨big - 5 - 1, by have := big_ge; omega⟩
  rw [hN]
  show M_makeCue_30 n r (N + 1) _ _ = _
  rw [M_makeCue_30, if_pos (by omega), jmul_e (by omega) (by omega), jadd_e (x := 1352) (by omega) (by omega), jadd_e (x := 1352 + 7 * r) (by omega) (by omega), jadd_e (x := 1352 + 7 * r) (by omega) (by omega), sI_up (by omega) (by omega), Option.bind_some, sI_up (by omega) (by omega), Option.bind_some, sI_up (by omega) (by omega), Option.bind_some, up_eq, up_up, up_eq, up_up, up_eq, up_up]
  generalize hg : st1 (st1 (st1 (fun j => if 1352 + 7 * r + 0 ≤ j ∧ j < 1352 + 7 * r + 0 + ((5 : Nat) : Int) then 0 else m 264 j) (1352 + 7 * r) n) (1352 + 7 * r + 5) (-1)) (1352 + 7 * r + 6) (-1) = g1
  have k := asg (fun N μ i => M_makeCue_106 r N μ i) 264 (1562 + 360 * r) 0 360 (fun _ => -1) (up m 264 g1) (by
    intro N μ i i0 i1 _ _ _
    show M_makeCue_106 r (N + 1) μ i = M_makeCue_106 r N _ (i + 1)
    rw [M_makeCue_106, if_neg (by omega), jmul_e (by omega) (by omega), jadd_e (x := 1562) (by omega) (by omega), jadd_e (x := 1562 + 360 * r) (by omega) (by omega), sI_up (by omega) (by omega), Option.bind_some, jadd_e (by omega) (by omega)]) 360 (by omega) big (by have := big_ge; omega)
  have k' : M_makeCue_106 r big (up m 264 g1) 0 = _ := k
  rw [k']
  obtain ⟨N2, hN2⟩ : ∃ N, big - 360 = N + 1 := ⟨big - 360 - 1, by have := big_ge; omega⟩
  rw [hN2]
  show M_makeCue_106 r (N2 + 1) _ _ = _
  rw [M_makeCue_106, if_pos (by omega), up_eq, up_up]
  refine congrArg (fun q => some (r, up m 264 q)) (funext fun j => ?_)
  rw [← hg]
  unfold newR st1
  by_cases a1 : 1562 + 360 * r ≤ j ∧ j < 1922 + 360 * r
  · rw [if_pos (show 1562 + 360 * r + 0 ≤ j ∧ j < 1562 + 360 * r + 0 + ((360 : Nat) : Int) by omega), if_neg (by omega), if_neg (by omega), if_neg (by omega), if_pos a1]
  · rw [if_neg (show ¬ (1562 + 360 * r + 0 ≤ j ∧ j < 1562 + 360 * r + 0 + ((360 : Nat) : Int)) by omega)]
    by_cases a2 : j = 1352 + 7 * r + 6
    · rw [if_pos a2, if_neg (by omega), if_neg (by omega), if_pos (by omega)]
    · rw [if_neg a2]
      by_cases a3 : j = 1352 + 7 * r + 5
      · rw [if_pos a3, if_neg (by omega), if_neg (by omega), if_pos (by omega)]
      · rw [if_neg a3]
        by_cases a4 : j = 1352 + 7 * r
        · rw [if_pos a4, if_pos a4]
        · rw [if_neg a4, if_neg a4]
          by_cases a5 : 1352 + 7 * r < j ∧ j < 1357 + 7 * r
          · dsimp only
            rw [if_pos (show 1352 + 7 * r + 0 ≤ j ∧ j < 1352 + 7 * r + 0 + ((5 : Nat) : Int) by omega), if_pos a5]
          · dsimp only
            rw [if_neg (show ¬ (1352 + 7 * r + 0 ≤ j ∧ j < 1352 + 7 * r + 0 + ((5 : Nat) : Int)) by omega), if_neg a5, if_neg (by omega), if_neg a1]
theorem newR_p {g : Int → Int} {n r : Int} (r0 : 0 ≤ r) (r1 : r < 30) : cn (newR g n r) r = n ∧ (∀ j, 0 ≤ j → j < 6 → newR g n r (1353 + 7 * r + j) = if j < 4 then 0 else -1) ∧ (∀ f, 0 ≤ f → f < 360 → newR g n r (1562 + 360 * r + f) = -1) ∧ (∀ q, 0 ≤ q → q < 30 → ¬ q = r → cn (newR g n r) q = cn g q ∧ (∀ j, 0 ≤ j → j < 6 → newR g n r (1353 + 7 * q + j) = g (1353 + 7 * q + j)) ∧ (∀ f, 0 ≤ f → f < 360 → newR g n r (1562 + 360 * q + f) = g (1562 + 360 * q + f))) ∧ (∀ i, ¬ (1352 ≤ i ∧ i < 12362) → newR g n r i = g i) := by
  unfold newR cn
  refine ⟨?_, fun j j0 j1 => ?_, fun f f0 f1 => ?_, fun q q0 q1 qr => ⟨?_, fun j j0 j1 => ?_, fun f f0 f1 => ?_⟩, fun i hi => ?_⟩
  · dsimp only
    rw [if_pos rfl]
  · by_cases z : j < 4
    · rw [if_neg (by omega), if_pos (by omega), if_pos z]
    · rw [if_neg (by omega), if_neg (by omega), if_pos (by omega), if_neg z]
  · rw [if_neg (by omega), if_neg (by omega), if_neg (by omega), if_pos (by omega)]
  · dsimp only
    rw [if_neg (by omega), if_neg (by omega), if_neg (by omega), if_neg (by omega)]
  · rw [if_neg (by omega), if_neg (by omega), if_neg (by omega), if_neg (by omega)]
  · rw [if_neg (by omega), if_neg (by omega), if_neg (by omega), if_neg (by omega)]
  · rw [if_neg (by omega), if_neg (by omega), if_neg (by omega), if_neg (by omega)]
theorem newR_w {g : Int → Int} {n r : Int} (hw : WF g) (r0 : 0 ≤ r) (r1 : r < 30) (hr : cn g r ≤ 0) (n0 : 1 ≤ n) (n1 : n ≤ 999) (hn : rowOf g n < 0) : WF (newR g n r) := by
  obtain ⟨p1, p2, p3, p4, p5⟩ := newR_p (g := g) (n := n) r0 r1
  have nn : ∀ q, 0 ≤ q → q < 30 → cn g q ≠ n := by
    rcases rowOf_s g n with ⟨_, a⟩ | ⟨a, _⟩
    · exact a (by omega)
    · omega
  refine WF_reg hw (lo := 1352) (hi := 12362) p5 (h7 := Or.inr (fun q q0 q1 => ?_)) (h8 := Or.inr (fun a b a0 a1 b0 b1 => ?_)) (h10 := Or.inr ?_)
  · by_cases z : q = r
    · subst z
      rw [p1]
      refine ⟨by omega, n1, fun _ => ⟨fun j j0 j1 => ?_, ?_, ?_, ?_, fun i i0 i1 => ?_⟩⟩
      · have := p2 (j - 1) (by omega) (by omega)
        rw [show 1353 + 7 * q + (j - 1) = 1352 + 7 * q + j by omega, if_pos (by omega)] at this
        omega
      · have := p2 4 (by omega) (by omega)
        rw [show 1353 + 7 * q + 4 = 1357 + 7 * q by omega, if_neg (by omega)] at this
        omega
      · have := p2 4 (by omega) (by omega)
        rw [show 1353 + 7 * q + 4 = 1357 + 7 * q by omega, if_neg (by omega)] at this
        omega
      · have := p2 5 (by omega) (by omega)
        rw [show 1353 + 7 * q + 5 = 1358 + 7 * q by omega, if_neg (by omega)] at this
        omega
      · rw [p3 i i0 i1]
        exact ⟨Or.inl rfl, fun a => absurd a (by decide)⟩
    · obtain ⟨x1, x2, x3⟩ := p4 q q0 q1 z
      have h := hw.c q q0 q1
      rw [x1]
      refine ⟨h.1, h.2.1, fun hp => ?_⟩
      obtain ⟨a, b, d, e, k⟩ := h.2.2 hp
      have e4 := x2 4 (by omega) (by omega)
      have e5 := x2 5 (by omega) (by omega)
      rw [show 1353 + 7 * q + 4 = 1357 + 7 * q by omega] at e4
      rw [show 1353 + 7 * q + 5 = 1358 + 7 * q by omega] at e5
      rw [e4, e5]
      refine ⟨fun j j0 j1 => ?_, b, d, e, fun i i0 i1 => ?_⟩
      · have := x2 (j - 1) (by omega) (by omega)
        rw [show 1353 + 7 * q + (j - 1) = 1352 + 7 * q + j by omega] at this
        rw [this]; exact a j j0 j1
      · rw [x3 i i0 i1, p5 _ (by omega)]; exact k i i0 i1
  · intro e hp
    by_cases za : a = r
    · by_cases zb : b = r
      · omega
      · subst za
        rw [p1, (p4 b b0 b1 zb).1] at e
        exact absurd e.symm (nn b b0 b1)
    · by_cases zb : b = r
      · subst zb
        rw [p1, (p4 a a0 a1 za).1] at e
        exact absurd e (nn a a0 a1)
      · rw [(p4 a a0 a1 za).1] at e hp
        rw [(p4 b b0 b1 zb).1] at e
        exact hw.n a b a0 a1 b0 b1 e hp
  · have hb := hw.b
    unfold WF_b at hb ⊢
    rw [p5 12722 (by omega)]
    rcases hb with a | ⟨a, b, q, q0, q1, q2⟩
    · exact Or.inl a
    · refine Or.inr ⟨a, b, q, q0, q1, ?_⟩
      rw [(p4 q q0 q1 (by intro z; subst z; omega)).1]
      exact q2
theorem wA79 {μ : Mem} {i x : Int} (hO : 280 ≤ μ 0 0) (i0 : 0 ≤ i) (i1 : i < 30) (x0 : 130 ≤ x) (x1 : x < 220) (x2 : (x - 130) % 3 = 0) : wA μ 79 i x = some (up μ 79 (st1 (μ 79) i x)) := by
  have k : kd 79 = 121 ∧ ln 79 = 30 := by decide +kernel
  unfold wA
  rw [kd_cue x0 x1 x2, k.1, k.2, if_pos ⟨Or.inr ⟨by omega, by omega, by decide, rfl⟩, by decide, i0, i1⟩, wr_st1]
theorem beg_c {c : Mem} {x n : Int} (hO : 280 ≤ c 0 0) (x0 : 130 ≤ x) (x1 : x < 220) (x2 : (x - 130) % 3 = 0) : ∃ c', Cue_begin c x n = some c' ∧ c' x 0 = n ∧ (∀ j, 0 ≤ j → j < 6 → c' (x + 1) j = if j < 4 then 0 else -1) ∧ (∀ f, 0 ≤ f → f < 360 → c' (x + 2) f = -1) ∧ (∀ o, ¬ o = x → ¬ o = x + 1 → ¬ o = x + 2 → c' o = c o) := by
  have kx := kd_cue x0 x1 x2
  have s1 : shK (x + 1 - 3) = (100, 6) := shK_128 (by omega) (by omega)
  have s2 : shK (x + 2 - 3) = (100, 360) := shK_129 (by omega) (by omega)
  have g : ∀ (μ : Mem) d, μ 0 = c 0 → gO μ 1 d x = some (x + d) := by
    intro μ d h
    unfold gO
    rw [kx, if_pos ⟨rfl, by omega, by rw [h]; omega⟩]
  unfold Cue_begin pf
  rw [kx, if_pos ⟨rfl, by omega, fun a => absurd a (by decide), fun a => absurd a (by decide)⟩, Option.bind_some, g _ 1 (wr_o (by omega)), Option.bind_some, fill3 (by omega) (by omega) s1 (by decide) (by decide), Option.bind_some, g _ 1 (by rw [up_ne (by omega), wr_o (by omega)]), Option.bind_some, wD3 (by omega) (by omega) s1 (by decide) (by decide), Option.bind_some, up_eq, up_up, g _ 1 (by rw [up_ne (by omega), wr_o (by omega)]), Option.bind_some, wD3 (by omega) (by omega) s1 (by decide) (by decide), Option.bind_some, up_eq, up_up, g _ 2 (by rw [up_ne (by omega), wr_o (by omega)]), Option.bind_some, fill3 (by omega) (by omega) s2 (by decide) (by decide), Option.bind_some]
  refine ⟨_, rfl, ?_, fun j j0 j1 => ?_, fun f f0 f1 => ?_, fun o a b d => ?_⟩
  · rw [up_ne (by omega), up_ne (by omega), wr_eq]
  · rw [up_ne (by omega), up_eq]
    unfold st1 fil
    by_cases z5 : j = 5
    · rw [if_pos z5, if_neg (by omega)]
    · rw [if_neg z5]
      by_cases z4 : j = 4
      · rw [if_pos z4, if_neg (by omega)]
      · rw [if_neg z4, if_pos (by omega), if_pos (by omega)]
  · rw [up_eq]; exact if_pos ⟨f0, f1⟩
  · rw [up_ne d, up_ne b, wr_o a]
def sg (pl cnt i : Int) : Int := if i = pl then cnt else if pl < i ∧ i ≤ cnt then i - 1 else i
theorem bring_c {c : Mem} {g : Int → Int} {n : Int} (hs : SR c 3 g) (hO : 280 ≤ c 0 0) (hn : ∀ i, 0 ≤ i → i < c 3 8 → c (c 79 i) 0 ≠ n) (hc : c 3 8 < 30) : ∃ c', Sh_bringCue c n = some (cna c n, c') ∧ (∀ i, 0 ≤ i → i < 30 → c' 79 i = c 79 (sg (cna c n) (c 3 8) i)) ∧ c' 3 8 = c 3 8 + 1 ∧ (∀ f, ¬ f = 8 → c' 3 f = c 3 f) ∧ c' (c 79 (c 3 8)) 0 = n ∧ (∀ j, 0 ≤ j → j < 6 → c' (c 79 (c 3 8) + 1) j = if j < 4 then 0 else -1) ∧ (∀ f, 0 ≤ f → f < 360 → c' (c 79 (c 3 8) + 2) f = -1) ∧ (∀ o, ¬ o = 3 → ¬ o = 79 → ¬ (c 79 (c 3 8) ≤ o ∧ o < c 79 (c 3 8) + 3) → c' o = c o) := by
  obtain ⟨c1, a1, a2, a3, a4⟩ := cna_s hs n
  have n0 := (S3.n hs).1
  have q := cq_k hs n0 hc
  generalize hpl : cna c n = pl at *
  generalize hcn : c 3 8 = cnt at *
  generalize hx : c 79 cnt = x at *
  have e29 : Sh_bringCue c n = Sh_bringCue_29 c n pl := by
    unfold Sh_bringCue
    rw [c1, Option.bind_some]
    by_cases z : pl ≤ 0
    · rw [if_pos z]
    · rw [if_neg z, jsub_e (by omega) (by omega), aI_ok (by omega) (by omega), Option.bind_some, cq_gf hs (by omega) (by omega), Option.bind_some, if_pos (hn _ (by omega) (by omega))]
  have lp : ∀ (d N : Nat) (μ : Mem), d < N → pl + d ≤ cnt → (∀ o, ¬ o = 79 → μ o = c o) → (∀ j, 0 ≤ j → j < 30 → μ 79 j = if pl + d < j ∧ j ≤ cnt then c 79 (j - 1) else c 79 j) → ∃ μ', Sh_bringCue_56 n pl x N μ (pl + d) = (Cue_begin μ' x n).bind (fun m8 => some (pl, m8)) ∧ (∀ i, 0 ≤ i → i < 30 → μ' 79 i = c 79 (sg pl cnt i)) ∧ μ' 3 8 = cnt + 1 ∧ (∀ f, ¬ f = 8 → μ' 3 f = c 3 f) ∧ (∀ o, ¬ o = 3 → ¬ o = 79 → μ' o = c o) := by
    intro d
    induction d with
    | zero =>
      intro N μ hN hd ho hj
      obtain ⟨N, rfl⟩ : ∃ k, N = k + 1 := ⟨N - 1, by omega⟩
      have h3 : up μ 79 (st1 (μ 79) pl x) 3 = c 3 := by rw [up_ne (by decide), ho 3 (by decide)]
      rw [Sh_bringCue_56, if_pos (by omega), wA79 (by rw [ho 0 (by decide)]; exact hO) (by omega) (by omega) q.1 q.2.1 q.2.2, Option.bind_some, Option.bind_some, if_pos ⟨by omega, kd_cue q.1 q.2.1 q.2.2⟩, h3, hcn, jadd_e (by omega) (by omega)]
      refine ⟨_, rfl, fun i i0 i1 => ?_, wr_eq, fun f hf => ?_, fun o o3 o79 => ?_⟩
      · rw [wr_o (by decide), up_eq]
        unfold st1 sg
        by_cases z : i = pl
        · rw [if_pos z, if_pos z, hx]
        · rw [if_neg z, if_neg z, hj i i0 i1]
          by_cases y : pl < i ∧ i ≤ cnt
          · rw [if_pos (by omega), if_pos y]
          · rw [if_neg (by omega), if_neg y]
      · rw [wr_f hf, h3]
      · rw [wr_o o3, up_ne o79, ho o o79]
    | succ d ih =>
      intro N μ hN hd ho hj
      obtain ⟨N, rfl⟩ : ∃ k, N = k + 1 := ⟨N - 1, by omega⟩
      have v := hj (pl + ((d + 1 : Nat) : Int) - 1) (by omega) (by omega)
      rw [if_neg (by omega)] at v
      have q' := cq_k hs (i := pl + ((d + 1 : Nat) : Int) - 1) (by omega) (by omega)
      obtain ⟨μ', f1, f2⟩ := ih N (up μ 79 (st1 (μ 79) (pl + ((d + 1 : Nat) : Int)) (c 79 (pl + ((d + 1 : Nat) : Int) - 1)))) (by omega) (by omega) (fun o a => by rw [up_ne a, ho o a]) (fun j j0 j1 => by
        rw [up_eq]
        unfold st1
        by_cases z : j = pl + ((d + 1 : Nat) : Int)
        · rw [if_pos z, if_pos (by omega), z]
        · rw [if_neg z, hj j j0 j1]
          by_cases y : pl + ((d + 1 : Nat) : Int) < j ∧ j ≤ cnt
          · rw [if_pos y, if_pos (by omega)]
          · rw [if_neg y, if_neg (by omega)])
      refine ⟨μ', ?_, f2⟩
      rw [Sh_bringCue_56, if_neg (by omega), jsub_e (by omega) (by omega), aI_ok (by omega) (by omega), Option.bind_some, v, wA79 (by rw [ho 0 (by decide)]; exact hO) (by omega) (by omega) q'.1 q'.2.1 q'.2.2, Option.bind_some, jadd_e (by omega) (by omega), show pl + ((d + 1 : Nat) : Int) + -1 = pl + (d : Int) by omega, f1]
  obtain ⟨μ', f1, f2, f3, f4, f5⟩ := lp (cnt - pl).toNat big c (by have := big_ge; omega) (by omega) (fun _ _ => rfl) (fun j _ _ => by rw [if_neg (by omega)])
  obtain ⟨c', b1, b2, b3, b4, b5⟩ := beg_c (c := μ') (n := n) (by rw [f5 0 (by decide) (by decide)]; exact hO) q.1 q.2.1 q.2.2
  refine ⟨c', ?_, fun i i0 i1 => ?_, ?_, fun f hf => ?_, b2, b3, b4, fun o o3 o79 ox => ?_⟩
  · rw [e29]
    unfold Sh_bringCue_29
    rw [hcn, if_pos hc, aI_ok n0 hc, Option.bind_some, Option.bind_some, hx, show cnt = pl + (((cnt - pl).toNat : Nat) : Int) by omega, f1, b1, Option.bind_some]
  · rw [b5 79 (by omega) (by omega) (by omega), f2 i i0 i1]
  · rw [b5 3 (by omega) (by omega) (by omega), f3]
  · rw [b5 3 (by omega) (by omega) (by omega), f4 f hf]
  · rw [b5 o (by omega) (by omega) (by omega), f5 o o3 o79]
