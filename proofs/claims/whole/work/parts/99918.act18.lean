-- L3: enter: record, both
theorem rowOf_0 {g : Int → Int} {n : Int} (h : n ≤ 0) : rowOf g n = -1 := by
  rcases rowOf_s g n with ⟨a, _⟩ | ⟨_, _, a, _⟩
  · exact a
  · omega
theorem upinj {m : Mem} {a b : Int → Int} (h : up m 264 a = up m 264 b) : a = b := by
  have := congrFun h 264
  rwa [up_eq, up_eq] at this
theorem pt23 : tbl piT 23 = 62 := by decide
theorem ac40 {B : Int} {X : Tx} {A cur kn op : Int} {m0 c m : Mem} {I : List It3} {TL WL : List Q4} {td td' : Int → Int} (E : AE B X A m0 c m) (ht : TT X 0 = 40) (hv : c 241 0 = 40) (hop : c 241 1 = op) (htd : c 242 = td') (td0 : ∀ j, 0 ≤ j → j < 12 → td j = -2) (h : q40 X td A I TL WL td' op) (hF : ∀ x ∈ I, ¬ x.1 = 20 → fitem (m 264) cur kn x = 0) : ACT B c m (Ed_perform c) (M_act m) := by
  obtain ⟨hX, hT, hA, a0, hs, hw, hp, hg, kc, km, hO⟩ := E
  obtain ⟨t1, _, _, its, L, b, hb, rfl, hL⟩ := h
  have ol := OPL_l _ _ _ _ _ _ hL
  have hb2 : b = 2 ∨ (b = 3 ∧ TT X 2 = 62) := by
    rcases hb with ⟨x, _, y⟩ | ⟨_, _, y⟩
    · exact Or.inr ⟨y, x⟩
    · exact Or.inl y
  have A2 : 2 ≤ A := by omega
  have hbA := hT.2.1
  have hn := nAt hX hT (k := 1) (by decide) (by omega) t1
  have b1 := f17 (hF (17, Vx X 1, Px X 1) (by simp) (by simp))
  have e9 : c 242 9 = Vx X 1 := by rw [htd, OPL_td (j := 9) (fun t x y => by unfold slT; split <;> omega) _ _ _ _ _ _ hL, st1_eq]
  have F1 : ∀ x ∈ its, fitem (m 264) cur kn x = 0 := fun x hx => hF x (List.mem_append.mpr (Or.inr hx)) (by
    have := OPL_k (kn := kn) rlT_k _ _ _ _ _ _ hL x hx
    exact this.2.2.1)
  have h06 : ∀ j, 0 ≤ j → j < 6 → st1 td 9 (Vx X 1) j = -2 := fun j a b => by rw [st1_ne (by omega)]; exact td0 j a (by omega)
  generalize hnn : Vx X 1 = n at *
  obtain ⟨k, c1, h1, h, g1, g2, g3, g4, g5, g6, g7, g8, g9, g10, g11, g12, g13, r0, r1⟩ := cueB hX hT hA hs hw hO b1.1 b1.2.1 b1.2.2 htd hL h06 (tmv hL F1 h06) hb2
  have n30 := (S3.n g4).2
  have hO1 : 280 ≤ c1 0 0 := by rw [g9 0 (by decide) (by decide) (by omega)]; exact hO
  have kc1 : KON c1 := KON_o kc (fun o a => g9 o (by omega) (by omega) (by omega))
  have op1 : c1 241 1 = op := by rw [g9 241 (by decide) (by decide) (by omega)]; exact hop
  have hr : rowOf h n = rowOf h (c1 (c1 79 k) 0) := by rw [g8]
  have hcn : cn h (rowOf h n) = n := by
    have := (S3.row g4 g5.n g6 g7).2.2.2.1
    rwa [g8] at this
  have kcn : cna c1 n = k + 1 := by
    have := cna_at g4 g6 g7
    rwa [g8] at this
  -- the numbers of the cues ahead and behind
  have cnh1 : ∀ q, 0 ≤ q → q < 30 → cn h q = cn h1 q := fun q x y => g12 _ (by omega)
  have cnq : ∀ q, 0 ≤ q → q < 30 → cn h q = cn (m 264) q ∨ (q = rowOf h n ∧ cn (m 264) q ≤ 0) := by
    intro q q0 q1
    rw [cnh1 q q0 q1]
    rcases g11 with ⟨x, _⟩ | ⟨_, r', x0, x1, x2, x3⟩
    · left; rw [x]
    · by_cases z : q = r'
      · right
        subst z
        refine ⟨?_, x2⟩
        have p1 := (newR_p (g := m 264) (n := n) x0 x1).1
        rw [← x3] at p1
        have := rowOf_at g5.n x0 x1 (by rw [cnh1 q x0 x1, p1]; omega)
        rw [cnh1 q x0 x1, p1] at this
        exact this.symm
      · left
        rw [x3]; exact ((newR_p (g := m 264) (n := n) x0 x1).2.2.2.1 q q0 q1 z).1
  have ab : above h n = above (m 264) n := above_cong (fun q q0 q1 => by
    rcases cnq q q0 q1 with x | ⟨x, y⟩
    · exact Or.inl x
    · right
      rw [x] at y ⊢
      rw [hcn]
      omega)
  have abc := above_c g4 g5.n n (by omega)
  rw [kcn, ab] at abc
  have e2 : M_act m = M_record m n := by
    rw [(ckV hX hT a0 (w := 22) (by decide) (by decide) (by decide) (by decide) ht).2]
    show (((M_record m (m 269 1)).bind fun m10 => some m10).bind fun m1 => some m1) = _
    rw [bsm, bsm, hn.2.1]
  have e1 : Ed_perform c = if c1 241 1 ≠ 62 then Ed_recordCue_44 k 0 big c1 0 else if c1 3 8 ≤ k + 1 then Ed_recordCue_44 k 0 big c1 0 else Ed_recordCue_44 k 1 big c1 0 := by
    unfold Ed_perform Ed_performOnCues
    rw [Option.bind_some, Option.bind_some, Option.bind_some, hv, e9]
    show (((Ed_recordCue c n).bind fun m7 => some m7).bind fun m49 => some m49) = _
    rw [bsm, bsm]
    unfold Ed_recordCue
    rw [g1, Option.bind_some, Option.bind_some]
    dsimp only
    rw [if_pos g6, jadd_e (by omega) (by omega)]
  have em : M_record m n = if TT X 2 = 62 then M_record_26 n (rowOf (m 264) (above (m 264) n)) big m 0 else M_record_26 n (-1) big m 0 := by
    unfold M_record
    rw [wAt hX hT (k := 2) (w := 23) (by decide) A2 (by decide) (by decide), Option.bind_some, pt23, M_numberAbove_e, Option.bind_some, M_cueRow_e, Option.bind_some]
    by_cases z : TT X 2 = 62
    · rw [if_pos z, if_neg (by decide), if_pos z]
    · rw [if_neg z, if_pos rfl, if_neg z]
  by_cases kp : TT X 2 = 62 ∧ k + 1 < c1 3 8
  · -- the next cue is kept
    obtain ⟨t62, klt⟩ := kp
    have op62 : op = 62 := by
      rcases hb with ⟨_, x, _⟩ | ⟨x, _⟩
      · exact x
      · exact absurd t62 x
    rw [if_pos klt] at abc
    obtain ⟨s0, s1, s2, s3, s4, s5⟩ := S3.row g4 g5.n (i := k + 1) (by omega) klt
    have aln : n < above (m 264) n := by
      rw [abc, ← g8]
      exact S3.o g4 k (k + 1) g6 (by omega) klt
    rw [← abc] at s0 s1 s2 s3 s5
    generalize ha : above (m 264) n = a at *
    generalize hra : rowOf h a = ra at *
    generalize hrr : rowOf h n = r at *
    have rne : ¬ ra = r := by intro x; rw [x, hcn] at s3; omega
    have cra : cn (m 264) ra = a := by
      rcases cnq ra s0 s1 with x | ⟨x, _⟩
      · rw [← x]; exact s3
      · exact absurd x rne
    have rga : rowOf (m 264) a = ra := by
      have := rowOf_at hw.n s0 s1 (by omega)
      rwa [cra] at this
    obtain ⟨c', d1, d2⟩ := recK (m := m) (r := r) (ra := ra) (a := a) g4 g5 hO1 kc1 g6 klt hr (by rw [← abc, hra]) abc
    -- the model
    generalize hg1 : KG (m 264) ra a = gk
    have gk_o : ∀ i, ¬ (1562 + 360 * ra ≤ i ∧ i < 1562 + 360 * ra + 360) → gk i = m 264 i := fun i x => by rw [← hg1]; unfold KG; rw [if_neg x]
    have gk_a : ∀ f, 0 ≤ f → f < 360 → gk (1562 + 360 * ra + f) = KVf (m 264) ra a f := fun f x y => by rw [← hg1]; unfold KG; rw [if_pos (by omega), show 1562 + 360 * ra + f - (1562 + 360 * ra) = f by omega]
    have gk_c : ∀ q, 0 ≤ q → q < 30 → cn gk q = cn (m 264) q := fun q x y => gk_o _ (by omega)
    have e3 : M_record m n = M_record_120 (up m 264 gk) n := by
      have := keepM (n := n) (ra := ra) km hw s0 s1
      rw [cra, hg1] at this
      rw [em, if_pos t62, rga, this]
    have mk : ∃ b1, M_makeCue (up m 264 gk) n = some (r, up m 264 b1) ∧ (∀ i, ¬ (1562 + 360 * ra ≤ i ∧ i < 1562 + 360 * ra + 360) → b1 i = h1 i) ∧ (∀ f, 0 ≤ f → f < 360 → b1 (1562 + 360 * ra + f) = KVf (m 264) ra a f) := by
      have rk : rowOf gk n = rowOf (m 264) n := rowOf_cong gk_c
      unfold M_makeCue
      rw [M_cueRow_e, Option.bind_some, up_eq, rk]
      rcases g11 with ⟨x, y⟩ | ⟨x, _⟩
      · rw [if_neg y]
        have rr : rowOf (m 264) n = r := by
          have := g2
          unfold M_makeCue at this
          rw [M_cueRow_e, Option.bind_some, if_neg y] at this
          have := Option.some.inj this
          exact congrArg Prod.fst this
        refine ⟨gk, by rw [rr], fun i hi => by rw [x]; exact gk_o i hi, gk_a⟩
      · rw [if_pos x]
        have lt : cuesN (m 264) < 30 := by rcases b1.2.2 with w | w <;> omega
        obtain ⟨r', x0, x1, x2, x3, x4⟩ := mk14b (m := m) (m1 := up m 264 gk) (n := n) lt (fun q q0 q1 => by rw [up_eq]; exact gk_c q q0 q1)
        have gg := g2
        unfold M_makeCue at gg
        rw [M_cueRow_e, Option.bind_some, if_pos x, x3, mk30 x0 x1] at gg
        have gg := Option.some.inj gg
        have er : r' = r := congrArg Prod.fst gg
        have eh : newR (m 264) n r' = h1 := upinj (congrArg Prod.snd gg)
        rw [x4, mk30 x0 x1, up_eq, up_up, er]
        have np := newR_p (g := m 264) (n := n) x0 x1
        have nk := newR_p (g := gk) (n := n) x0 x1
        rw [er] at eh
        refine ⟨newR gk n r, rfl, fun i hi => ?_, fun f f0 f1 => ?_⟩
        · rw [← eh]
          unfold newR
          rw [gk_o i hi]
        · have := (nk.2.2.2.1 ra s0 s1 (by rw [er]; exact rne)).2.2 f f0 f1
          rw [er] at this
          rw [this, gk_a f f0 f1]
    obtain ⟨b1', m1, m2, m3⟩ := mk
    have r3b : b = 3 := by
      rcases hb with ⟨_, _, x⟩ | ⟨x, _⟩
      · exact x
      · exact absurd t62 x
    subst r3b
    obtain ⟨N, hNb⟩ := big_s
    have hbig := big_ge
    obtain ⟨h', f1, f2, f3⟩ := tim81 (g0 := fun j => b1' (1353 + 7 * r + j)) hX hA r0 r1 L 3 its _ td' (up m 264 b1') N hL (MTK_g4 hT) (by decide) (by omega) (fun j j0 j1 => by rw [up_eq, h06 j j0 j1, if_pos rfl])
    rw [up_up] at f1
    rw [up_eq] at f3
    have ts : M_setTimes (up m 264 b1') r 2 = some (up m 264 h') := by
      unfold M_setTimes
      rw [hNb, (stT_s hX (MTK_g4 hT) (by decide) (by omega) r0 r1).2.2.2 (Or.inr t62)]
      exact f1
    have ho : ∀ i, ¬ (1562 + 360 * ra ≤ i ∧ i < 1562 + 360 * ra + 360) → h' i = h i := by
      intro i hi
      by_cases z : 1353 + 7 * r ≤ i ∧ i < 1359 + 7 * r
      · obtain ⟨j, hj⟩ : ∃ j, i = 1353 + 7 * r + j := ⟨i - (1353 + 7 * r), by omega⟩
        rw [hj, f2 j (by omega) (by omega), g13 j (by omega) (by omega), m2 _ (by omega)]
      · rw [f3 i z, g12 i z, m2 i hi]
    have hra2 : ∀ f, 0 ≤ f → f < 360 → h' (1562 + 360 * ra + f) = KVf (m 264) ra a f := fun f x y => by rw [f3 _ (by omega), m3 f x y]
    have kvv : ∀ f, 0 ≤ f → f < 360 → KVf (m 264) ra a f = KVf h ra a f := by
      intro f f0 f1
      have x1 : h (12362 + f) = m 264 (12362 + f) := g10 _ (by omega)
      have hm : ∀ q, 0 ≤ q → q < 30 → (cn h q = cn (m 264) q ∧ h (1562 + 360 * q + f) = m 264 (1562 + 360 * q + f)) ∨ ((cn h q ≤ 0 ∨ h (1562 + 360 * q + f) < 0) ∧ (cn (m 264) q ≤ 0 ∨ m 264 (1562 + 360 * q + f) < 0)) := by
        intro q q0 q1
        rw [g12 (1562 + 360 * q + f) (by omega)]
        rcases g11 with ⟨x, _⟩ | ⟨_, r', y0, y1, y2, y3⟩
        · left; rw [cnh1 q q0 q1, x]; exact ⟨rfl, rfl⟩
        · obtain ⟨np1, np2, np3, np4, _⟩ := newR_p (g := m 264) (n := n) y0 y1
          by_cases z : q = r'
          · right
            subst z
            refine ⟨Or.inr ?_, Or.inl y2⟩
            rw [y3, np3 f f0 f1]; decide
          · left
            obtain ⟨u1, u2, u3⟩ := np4 q q0 q1 z
            rw [cnh1 q q0 q1, y3]
            exact ⟨u1, u3 f f0 f1⟩
      have x2 : trk h a f = trk (m 264) a f := trk_cong hw.n g5.n hm
      have x3 : h (1562 + 360 * ra + f) = m 264 (1562 + 360 * ra + f) := by
        rcases hm ra s0 s1 with ⟨_, x⟩ | ⟨x, y⟩
        · exact x
        · have w1 := (((g5.c ra s0 s1).2.2 (by omega)).2.2.2.2 f f0 f1).1
          have w2 := (((hw.c ra s0 s1).2.2 (by omega)).2.2.2.2 f f0 f1).1
          unfold VAL at w1 w2
          omega
      unfold KVf
      rw [x1, x2, x3]
    have fe : HWV h' h' r 360 = KV2 h ra a r 360 := by
      funext i
      unfold KV2 HWV
      by_cases z : 1562 + 360 * ra ≤ i ∧ i < 1562 + 360 * ra + 360
      · rw [if_pos z, if_neg (show ¬ (1562 + 360 * r ≤ i ∧ i < 1562 + 360 * r + 360) by omega)]
        have := hra2 (i - (1562 + 360 * ra)) (by omega) (by omega)
        rw [show 1562 + 360 * ra + (i - (1562 + 360 * ra)) = i by omega] at this
        rw [this, kvv _ (by omega) (by omega)]
      · rw [if_neg z]
        by_cases y : 1562 + 360 * r ≤ i ∧ i < 1562 + 360 * r + 360
        · rw [if_pos y, if_pos y, ho i z, ho (12362 + (i - (1562 + 360 * r))) (by omega)]
        · rw [if_neg y, if_neg y, ho i z]
    have e4 : M_act m = some (up m 264 (KV2 h ra a r 360)) := by
      rw [e2, e3]
      unfold M_record_120
      rw [m1, Option.bind_some, Option.bind_some]
      dsimp only
      rw [ts, Option.bind_some, recM (g := h') r0 r1 (fun _ _ _ => rfl), fe]
    obtain ⟨l1, l2, l3, l4, l5, l6⟩ := d2
    rw [up_eq] at l2 l3
    refine ACT_s hp hg (c' := c') ?_ e4 (fun o x => by rw [l4 o (by omega), g9 o (by omega) (by omega) (by omega)]) l2 l3
    rw [e1, if_neg (fun x => x (by rw [op1, op62])), if_neg (by omega), d1]
  · -- nothing is kept
    obtain ⟨c', d1, d2⟩ := recC (m := m) (r := rowOf h n) g4 g5 hO1 g6 g7 hr
    have e3 : M_record m n = M_record_120 m n := by
      have e0 : M_record_26 n (-1) big m 0 = M_record_120 m n := by
        obtain ⟨N, hN⟩ := big_s
        rw [hN, M_record_26, if_neg (by decide), if_pos (by decide)]
      rw [em]
      by_cases z : TT X 2 = 62
      · rw [if_pos z]
        rw [if_neg (fun x => kp ⟨z, x⟩)] at abc
        rw [abc, rowOf_0 (Int.le_refl _), e0]
      · rw [if_neg z, e0]
    have e4 : M_act m = some (up m 264 (HWV h h (rowOf h n) 360)) := by
      rw [e2, e3]
      unfold M_record_120
      rw [g2, Option.bind_some, Option.bind_some]
      dsimp only
      rw [g3, Option.bind_some, recM (g := h) r0 r1 (fun _ _ _ => rfl)]
    obtain ⟨l1, l2, l3, l4, l5, l6⟩ := d2
    rw [up_eq] at l2 l3
    refine ACT_s hp hg (c' := c') ?_ e4 (fun o x => by rw [l4 o (by omega), g9 o (by omega) (by omega) (by omega)]) l2 l3
    rw [e1, op1]
    by_cases z : TT X 2 = 62
    · have : ¬ k + 1 < c1 3 8 := fun x => kp ⟨z, x⟩
      rw [if_pos (show c1 3 8 ≤ k + 1 by omega), d1]
      split <;> rfl
    · have : op = -1 := by
        rcases hb with ⟨x, _⟩ | ⟨_, x, _⟩
        · exact absurd x z
        · exact x
      rw [if_pos (show op ≠ 62 by omega), d1]
