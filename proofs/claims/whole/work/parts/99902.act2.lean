-- L3: enter: events, palettes, groups
theorem MTK_c {X : Tx} {A : Int} {m m' : Mem} (h : MTK X A m) (e1 : m' 268 = m 268) (e2 : m' 269 = m 269) (e3 : m' 270 = m 270) : MTK X A m' := by
  refine ⟨h.1, h.2.1, fun k k0 k1 => ?_⟩
  rw [e1, e2, e3]
  exact h.2.2 k k0 k1
theorem MTK_g4 {X : Tx} {A : Int} {m : Mem} {f : Int → Int} (h : MTK X A m) : MTK X A (up m 264 f) := MTK_c h (up_ne (by decide)) (up_ne (by decide)) (up_ne (by decide))
theorem OPL_v {X : Tx} {lo hi nn cv : Int} {sl rl : Int → Int} (F : It3 → Int) (P : Int → Int → Prop) (hn : ∀ t v p, lo ≤ t → t ≤ hi → t < lo + nn → F (rl t, v, p) = 0 → P (sl t) v) (hcv : ∀ t, lo ≤ t → t ≤ hi → lo + nn ≤ t → P (sl t) cv) : ∀ (L : List (Int × Int)) (k e : Int) (its : List It3) (td td' : Int → Int), OPL X lo hi nn sl rl cv L k e its td td' → (∀ x ∈ its, F x = 0) → ∀ j, td' j = td j ∨ P j (td' j)
  | [], k, e, its, td, td', h, _, j => by
    obtain ⟨_, _, h3, _⟩ := h
    exact Or.inl (by rw [h3])
  | sv :: L, k, e, its, td, td', h, hF, j => by
    obtain ⟨its1, its2, e1, t1, t2, h3, h4, h5, rfl, h7⟩ := h
    have ih := OPL_v F P hn hcv L _ _ _ _ _ h7 (fun x hx => hF x (List.mem_append.mpr (Or.inr hx))) j
    rcases ih with ih | ih
    · by_cases z : j = sv.1
      · right
        rw [ih, z, st1_eq, h3]
        rcases h5 with ⟨x1, _, x3, _, x5⟩ | ⟨x1, x2, _, _⟩
        · rw [x3]
          exact hn _ _ (Px X (k + 1)) t1 t2 x1 (hF _ (List.mem_append.mpr (Or.inl (by rw [x5]; simp))))
        · rw [x2]; exact hcv _ t1 t2 x1
      · left
        rw [ih, st1_ne z]
    · exact Or.inr ih
theorem ac52 {B : Int} {X : Tx} {A cur kn op : Int} {m0 c m : Mem} {I : List It3} {TL WL : List Q4} {td td' : Int → Int} (E : AE B X A m0 c m) (ht : TT X 0 = 52) (hv : c 241 0 = 52) (htd : c 242 = td') (td0 : ∀ j, 0 ≤ j → j < 12 → td j = -2) (h : q52 X td A I TL WL td' op) (hF : ∀ x ∈ I, ¬ x.1 = 20 → fitem (m 264) cur kn x = 0) : ACT B c m (Ed_perform c) (M_act m) := by
  obtain ⟨hX, hT, hA, a0, hs, hw, hp, hg, kc, km, hO⟩ := E
  obtain ⟨t1, t2, _, _, h⟩ := h
  have A4 : 4 ≤ A := by rcases h with ⟨_, a, _⟩ | ⟨_, _, _, a, _⟩ <;> omega
  have hn := nAt hX hT (k := 1) (by decide) (by omega) t1
  have b1 : 1 ≤ Vx X 1 ∧ Vx X 1 ≤ 10 := by
    rcases h with ⟨_, _, _, rfl, _⟩ | ⟨_, _, _, _, _, rfl, _⟩
    · exact FLT_b (hF (9, Vx X 1, Px X 1) (by simp) (by simp))
    · exact FLT_b (hF (9, Vx X 1, Px X 1) (by simp) (by simp))
  have p11 : tbl piT 11 = 54 := by decide
  -- both write a and b
  have key : ∃ a b, ((a = -1 ∧ b = -1) ∨ (0 ≤ a ∧ a ≤ 9999 ∧ 1 ≤ b ∧ b ≤ 999)) ∧ c 242 9 = Vx X 1 ∧ (if c 242 10 = -2 then -1 else c 242 10) = a ∧ (if c 242 11 = -2 then -1 else c 242 11) = b ∧ M_act m = some (up m 264 (st1 (st1 (m 264) (12923 + 2 * (Vx X 1 - 1)) a) (12923 + 2 * (Vx X 1 - 1) + 1) b)) := by
    have e2 : M_act m = ((M_isWordAt m 3 11).bind fun x10 => if x10 = 0 then M_actOther_139 m (m 269 1) (jadd 12923 (jmul 2 (jsub (m 269 1) 1))) (m 269 3) else M_actOther_139 m (m 269 1) (jadd 12923 (jmul 2 (jsub (m 269 1) 1))) (-1)) := by
      rw [(ckV hX hT a0 (w := 36) (by decide) (by decide) (by decide) (by decide) ht).2]
      show (((((M_isWordAt m 3 11).bind fun x10 => if x10 = 0 then M_actOther_139 m (m 269 1) (jadd 12923 (jmul 2 (jsub (m 269 1) 1))) (m 269 3) else M_actOther_139 m (m 269 1) (jadd 12923 (jmul 2 (jsub (m 269 1) 1))) (-1)).bind fun m1 => some m1).bind fun m1 => some m1)) = _
      rw [bsm, bsm]
    have e3 : ∀ a, M_actOther_139 m (Vx X 1) (12923 + 2 * (Vx X 1 - 1)) a = some (up m 264 (st1 (st1 (m 264) (12923 + 2 * (Vx X 1 - 1)) a) (12923 + 2 * (Vx X 1 - 1) + 1) (if TT X 3 = 54 then -1 else m 269 5))) := by
      intro a
      unfold M_actOther_139
      rw [sI_up (by omega) (by omega), Option.bind_some, wAt hX (MTK_g4 hT) (k := 3) (w := 11) (by decide) (by omega) (by decide) (by decide), Option.bind_some, p11, up_ne (show ¬ (269 : Int) = 264 by decide)]
      by_cases z : TT X 3 = 54
      · rw [if_pos z, if_neg (by decide), jsub_e (by omega) (by omega), jmul_e (by omega) (by omega), jadd_e (x := 12923) (by omega) (by omega), jadd_e (by omega) (by omega), sI_up (by omega) (by omega), Option.bind_some, up_eq, up_up, if_pos z]
      · rw [if_neg z, if_pos rfl, jsub_e (by omega) (by omega), jmul_e (by omega) (by omega), jadd_e (x := 12923) (by omega) (by omega), jadd_e (by omega) (by omega), sI_up (by omega) (by omega), Option.bind_some, up_eq, up_up, if_neg z]
    rw [hn.2.1, wAt hX hT (k := 3) (w := 11) (by decide) (by omega) (by decide) (by decide), Option.bind_some, p11, jsub_e (by omega) (by omega), jmul_e (by omega) (by omega), jadd_e (by omega) (by omega), e3, e3] at e2
    rcases h with ⟨t3, aa, _, rfl, e'⟩ | ⟨t3, t4, t5, aa, _, rfl, e'⟩
    · rw [if_pos t3, if_pos t3, if_neg (by decide)] at e2
      refine ⟨-1, -1, Or.inl ⟨rfl, rfl⟩, ?_, ?_, ?_, e2⟩
      · rw [htd, e', st1_eq]
      · rw [htd, e', st1_ne (by decide), td0 10 (by decide) (by decide), if_pos rfl]
      · rw [htd, e', st1_ne (by decide), td0 11 (by decide) (by decide), if_pos rfl]
    · have n54 : ¬ TT X 3 = 54 := by omega
      have h3 := nAt hX hT (k := 3) (by decide) (by omega) t3
      have h5 := nAt hX hT (k := 5) (by decide) (by omega) t5
      have b5 : 1 ≤ Vx X 5 ∧ Vx X 5 ≤ 999 := FLT_b (hF (16, Vx X 5, Px X 5) (by simp) (by simp))
      rw [if_neg n54, if_neg n54, if_pos rfl, h3.2.1, h5.2.1] at e2
      refine ⟨Vx X 3, Vx X 5, Or.inr ⟨by omega, by omega, by omega, by omega⟩, ?_, ?_, ?_, e2⟩
      · rw [htd, e', st1_ne (by decide), st1_ne (by decide), st1_eq]
      · rw [htd, e', st1_ne (by decide), st1_eq, if_neg (by omega)]
      · rw [htd, e', st1_eq, if_neg (by omega)]
  obtain ⟨a, b, hab, e9, ea, eb, e2⟩ := key
  have kk : shK (83 + 1 * Vx X 1 - 3) = (100, 2) := shK_80 (by omega) (by omega)
  have e1 : Ed_perform c = some (up c (83 + 1 * Vx X 1) (st1 (st1 (c (83 + 1 * Vx X 1)) 0 a) 1 b)) := by
    unfold Ed_perform
    rw [Option.bind_some, Option.bind_some, hv, e9]
    show ((ar 83 11 1 (Vx X 1)).bind fun o39 => (Ed_makeEvent c o39).bind fun m41 => some m41) = _
    rw [ar_ok (by omega) (by omega), Option.bind_some, bsm]
    unfold Ed_makeEvent
    rw [told_e (by decide) (by decide), Option.bind_some, ea, wD3 (by omega) (by omega) kk (by decide) (by decide), Option.bind_some, told_e (by decide) (by decide), Option.bind_some, up_ne (show ¬ (242 : Int) = 83 + 1 * Vx X 1 by omega), eb, wD3 (by omega) (by omega) kk (by decide) (by decide), Option.bind_some, up_eq, up_up]
  refine ACT_s hp hg e1 e2 (fun o a => up_ne (by omega)) ?_ ?_
  · refine SR_reg hs hw (p1 := 83 + 1 * Vx X 1) (olo := 83) (ohi := 83) (lo := 12923) (hi := 12943) (fun o a _ => up_ne a) (fun i a => by rw [st1_ne (by omega), st1_ne (by omega)]) (h11 := Or.inr (fun e j e0 e1 j0 j1 => ?_))
    by_cases z : e = Vx X 1 - 1
    · rw [show 84 + e = 83 + 1 * Vx X 1 by omega, up_eq, z]
      by_cases y : j = 0
      · rw [y, st1_ne (by decide), st1_eq, st1_ne (by omega), show 12923 + 2 * (Vx X 1 - 1) + 0 = 12923 + 2 * (Vx X 1 - 1) by omega, st1_eq]
      · rw [show j = 1 by omega, st1_eq, st1_eq]
    · rw [up_ne (by omega), st1_ne (by omega), st1_ne (by omega)]
      exact S3.e hs e j e0 e1 j0 j1
  · refine WF_reg hw (lo := 12923) (hi := 12943) (fun i a => by rw [st1_ne (by omega), st1_ne (by omega)]) (h13 := Or.inr (fun e e0 e1 => ?_))
    by_cases z : e = Vx X 1 - 1
    · rw [z, show 12924 + 2 * (Vx X 1 - 1) = 12923 + 2 * (Vx X 1 - 1) + 1 by omega, st1_eq, st1_ne (by omega), st1_eq]
      exact hab
    · rw [st1_ne (by omega), st1_ne (by omega), st1_ne (by omega), st1_ne (by omega)]
      exact hw.e e e0 e1
theorem rpal : ∀ v ∈ List.range 70, 9 ≤ tbl piT (v : Int) → tbl piT (v : Int) ≤ 17 → (v : Int) - 61 = tbl piT (v : Int) - 9 := by decide +kernel
theorem pal25 {X : Tx} {m0 : Mem} {A f : Int} (hX : XO X m0) (hA : TT X A = 70) (f0 : 0 ≤ f) (f1 : f ≤ 900) : ∀ (L : List (Int × Int)) (k : Int) (its : List It3) (td td' : Int → Int) (μ : Mem) (N : Nat), OPL X 9 17 9 slL rlL 1 L k A its td td' → MTK X A μ → 1 ≤ k → A - k < N → (∀ p, 0 ≤ p → p < 9 → μ 264 (f + p) = if td p = -2 then -1 else td p) → ∃ h, M_makePalette_25 f N μ k = some (up μ 264 h) ∧ (∀ p, 0 ≤ p → p < 9 → h (f + p) = if td' p = -2 then -1 else td' p) ∧ (∀ i, ¬ (f ≤ i ∧ i < f + 9) → h i = μ 264 i) := by
  intro L
  induction L with
  | nil =>
    intro k its td td' μ N hO hT k1 hN hP
    have hb := hT.2.1
    obtain ⟨rfl, rfl, rfl, _⟩ := hO
    obtain ⟨N, rfl⟩ : ∃ j, N = j + 1 := ⟨N - 1, by omega⟩
    refine ⟨μ 264, ?_, hP, fun _ _ => rfl⟩
    rw [M_makePalette_25, (parAt hX hT (by omega) (Int.le_refl _)).2 (by omega), Option.bind_some, if_pos rfl, up_id]
  | cons sv L ih =>
    intro k its td td' μ N hO hT k1 hN hP
    have hb := hT.2.1
    obtain ⟨its1, its2, e1, t1, t2, h3, h4, h5, rfl, hO2⟩ := hO
    have ol := OPL_l L e1 A its2 _ td' hO2
    rcases h5 with ⟨x1, x2, x3, rfl, rfl⟩ | ⟨x1, x2, rfl, rfl⟩
    · obtain ⟨N, rfl⟩ : ∃ j, N = j + 1 := ⟨N - 1, by omega⟩
      have hn := nAt hX hT (k := k + 1) (by omega) (by omega) x2
      have hc := TT_c hX (a := k) (by omega) (by have := hT.1; omega) (by omega)
      obtain ⟨q1, q2, _⟩ := hT.2.2 k (by omega) (by omega)
      have hK : Kx X k = 1 := by omega
      have eT : TT X k = tbl piT (Vx X k) := by omega
      have hV : Vx X k - 61 = TT X k - 9 := by
        obtain ⟨v, hv⟩ : ∃ v : Nat, Vx X k = (v : Int) := ⟨(Vx X k).toNat, by omega⟩
        have := rpal v (List.mem_range.mpr (by omega))
        rw [← hv] at this
        have := this (by omega) (by omega)
        omega
      have h3' : sv.1 = TT X k - 9 := h3
      have pa : M_parameterAt μ k = some (TT X k - 9) := by
        unfold M_parameterAt
        rw [aI_ok (by omega) (by omega), Option.bind_some, q1, if_neg (fun a => a hK), aI_ok (by omega) (by omega), Option.bind_some, q2 (Or.inl hK), jsub_e (by omega) (by omega), hV]
      obtain ⟨h, g1, g2, g3⟩ := ih (k + 2) its2 (st1 td sv.1 sv.2) td' (up μ 264 (st1 (μ 264) (f + (TT X k - 9)) (Vx X (k + 1)))) N hO2 (MTK_g4 hT) (by omega) (by omega) (fun p p0 p1 => by
        rw [up_eq]
        by_cases z : p = TT X k - 9
        · rw [z, st1_eq, ← h3', st1_eq, x3, if_neg (by omega)]
        · rw [st1_ne (by omega), st1_ne (by omega)]; exact hP p p0 p1)
      refine ⟨h, ?_, g2, fun i hi => ?_⟩
      · rw [M_makePalette_25, (parAt hX hT (by omega) (by omega)).1 (Or.inr ⟨t1, t2⟩), Option.bind_some, if_neg (by decide), pa, Option.bind_some, jadd_e (by omega) (by omega), hn.1, Option.bind_some, jadd_e (by omega) (by omega), sI_up (by omega) (by omega), Option.bind_some, jadd_e (by omega) (by omega), g1, up_up]
      · rw [g3 i hi, up_eq, st1_ne (by omega)]
    · omega
theorem palC {c : Mem} {o : Int} (o0 : 48 ≤ o) (o1 : o < 61) : Ed_makePalette c o = some (up c o (fun j => if 0 ≤ j ∧ j < 9 then (if c 242 j = -2 then -1 else c 242 j) else c o j)) := by
  unfold Ed_makePalette
  have h := asg (fun N μ i => Ed_makePalette_2 o N μ i) o 0 0 9 (fun i => if c 242 i = -2 then -1 else c 242 i) c (by
    intro N μ i i0 i1 h1 _ _
    show Ed_makePalette_2 o (N + 1) μ i = Ed_makePalette_2 o N _ (i + 1)
    rw [Ed_makePalette_2, if_neg (by omega), told_e i0 (by omega), Option.bind_some, h1 242 (by omega), wD3 (by omega) (by omega) (shK_45 (by omega) (by omega)) i0 i1, Option.bind_some, jadd_e (by omega) (by omega), show (0 : Int) + i = i by omega]) 9 (by omega) big (by have := big_ge; omega)
  have h' : Ed_makePalette_2 o big c 0 = _ := h
  rw [h']
  obtain ⟨N, hN⟩ : ∃ N, big - 9 = N + 1 := ⟨big - 9 - 1, by have := big_ge; omega⟩
  rw [hN]
  show Ed_makePalette_2 o (N + 1) _ _ = _
  rw [Ed_makePalette_2, if_pos (by omega)]
  refine congrArg (fun q => some (up c o q)) (funext fun j => ?_)
  by_cases z : 0 ≤ j ∧ j < 9
  · rw [if_pos z, if_pos (by omega), show j - 0 = j by omega]
  · rw [if_neg z, if_neg (by omega)]
theorem palM {m : Mem} {f : Int} (f0 : 0 ≤ f) (f1 : f ≤ 900) : M_makePalette m f = M_makePalette_25 f big (up m 264 (fun j => if f ≤ j ∧ j < f + 9 then -1 else m 264 j)) 3 := by
  unfold M_makePalette
  have h := asg (fun N μ i => M_makePalette_2 f N μ i) 264 f 0 9 (fun _ => -1) m (by
    intro N μ i i0 i1 h1 _ _
    show M_makePalette_2 f (N + 1) μ i = M_makePalette_2 f N _ (i + 1)
    rw [M_makePalette_2, if_neg (by omega), jadd_e (by omega) (by omega), sI_up (by omega) (by omega), Option.bind_some, jadd_e (by omega) (by omega)]) 9 (by omega) big (by have := big_ge; omega)
  have h' : M_makePalette_2 f big m 0 = _ := h
  rw [h']
  obtain ⟨N, hN⟩ : ∃ N, big - 9 = N + 1 := ⟨big - 9 - 1, by have := big_ge; omega⟩
  rw [hN]
  show M_makePalette_2 f (N + 1) _ _ = _
  rw [M_makePalette_2, if_pos (by omega)]
  refine congrArg (fun q => M_makePalette_25 f big (up m 264 q) 3) (funext fun j => ?_)
  by_cases z : f ≤ j ∧ j < f + 9
  · rw [if_pos z, if_pos (by omega)]
  · rw [if_neg z, if_neg (by omega)]
theorem ac36 {B : Int} {X : Tx} {A cur kn op : Int} {m0 c m : Mem} {I : List It3} {TL WL : List Q4} {td td' : Int → Int} (E : AE B X A m0 c m) (ht : TT X 0 = 36) (hv : c 241 0 = 36) (htd : c 242 = td') (td0 : ∀ j, 0 ≤ j → j < 12 → td j = -2) (h : q36 X td A I TL WL td' op) (hF : ∀ x ∈ I, ¬ x.1 = 20 → fitem (m 264) cur kn x = 0) : ACT B c m (Ed_perform c) (M_act m) := by
  obtain ⟨hX, hT, hA, a0, hs, hw, hp, hg, kc, km, hO⟩ := E
  obtain ⟨t1, t2, _, _, h⟩ := h
  have hb := hT.2.1
  have A3 : 3 ≤ A := by
    rcases h with ⟨_, a, _⟩ | ⟨_, its, L, _, a⟩
    · omega
    · have := OPL_l _ _ _ _ _ _ a; omega
  have hn := nAt hX hT (k := 1) (by decide) (by omega) t1
  have b1 : 1 ≤ Vx X 1 ∧ Vx X 1 ≤ 12 := by
    rcases h with ⟨_, _, _, rfl, _⟩ | ⟨_, its, L, rfl, _⟩
    · exact FLT_b (hF (6, Vx X 1, Px X 1) (by simp) (by simp))
    · exact FLT_b (hF (6, Vx X 1, Px X 1) (by simp) (by simp))
  have e9 : c 242 9 = Vx X 1 := by
    rw [htd]
    rcases h with ⟨_, _, _, _, e'⟩ | ⟨_, its, L, _, a⟩
    · rw [e', st1_eq]
    · rw [OPL_td (j := 9) (fun t x y => by unfold slL; omega) _ _ _ _ _ _ a, st1_eq]
  have tv : ∀ p, 0 ≤ p → p < 9 → td' p = -2 ∨ (0 ≤ td' p ∧ td' p ≤ 1000) := by
    intro p p0 p1
    rcases h with ⟨_, _, _, _, e'⟩ | ⟨_, its, L, rfl, a⟩
    · rw [e', st1_ne (by omega), td0 p p0 (by omega)]; exact Or.inl rfl
    · have := OPL_v (fitem (m 264) cur kn) (fun _ v => 0 ≤ v ∧ v ≤ 1000) (fun t v q _ _ _ hz => by
        have hz' : FLT (m 264) cur kn 13 v = 0 := hz
        exact FLT_b hz') (fun t x y z => by omega) _ _ _ _ _ _ a (fun x hx => hF x (List.mem_append.mpr (Or.inr hx)) (by
          have := OPL_k (kn := kn) rlL_k _ _ _ _ _ _ a x hx
          exact this.2.2.1)) p
      rw [st1_ne (by omega), td0 p p0 (by omega)] at this
      exact this
  have e1 : Ed_perform c = some (up c (48 + 1 * Vx X 1) (fun j => if 0 ≤ j ∧ j < 9 then (if c 242 j = -2 then -1 else c 242 j) else c (48 + 1 * Vx X 1) j)) := by
    unfold Ed_perform
    rw [Option.bind_some, Option.bind_some, hv, e9]
    show ((ar 48 13 1 (Vx X 1)).bind fun o17 => (Ed_makePalette c o17).bind fun m19 => some m19) = _
    rw [ar_ok (by omega) (by omega), Option.bind_some, bsm, palC (by omega) (by omega)]
  have e2 : M_act m = M_makePalette_25 (732 + 9 * (Vx X 1 - 1)) big (up m 264 (fun j => if 732 + 9 * (Vx X 1 - 1) ≤ j ∧ j < 732 + 9 * (Vx X 1 - 1) + 9 then -1 else m 264 j)) 3 := by
    rw [(ckV hX hT a0 (w := 10) (by decide) (by decide) (by decide) (by decide) ht).2]
    show ((M_makePalette m (jadd 732 (jmul 9 (jsub (m 269 1) 1)))).bind fun m22 => some m22) = _
    rw [bsm, hn.2.1, jsub_e (by omega) (by omega), jmul_e (by omega) (by omega), jadd_e (by omega) (by omega), palM (by omega) (by omega)]
  have key : ∃ h', M_act m = some (up m 264 h') ∧ (∀ p, 0 ≤ p → p < 9 → h' (732 + 9 * (Vx X 1 - 1) + p) = if td' p = -2 then -1 else td' p) ∧ (∀ i, ¬ (732 + 9 * (Vx X 1 - 1) ≤ i ∧ i < 732 + 9 * (Vx X 1 - 1) + 9) → h' i = m 264 i) := by
    rcases h with ⟨t3, aa, _, _, e'⟩ | ⟨_, its, L, rfl, a⟩
    · refine ⟨fun j => if 732 + 9 * (Vx X 1 - 1) ≤ j ∧ j < 732 + 9 * (Vx X 1 - 1) + 9 then -1 else m 264 j, ?_, fun p p0 p1 => ?_, fun i hi => if_neg hi⟩
      · rw [e2]
        obtain ⟨N, hN⟩ := big_s
        rw [hN, M_makePalette_25, (parAt hX (MTK_g4 hT) (by decide) (by omega)).2 (by omega), Option.bind_some, if_pos rfl]
      · rw [e', st1_ne (by omega), td0 p p0 (by omega), if_pos rfl]
        exact if_pos (by omega)
    · obtain ⟨h', g1, g2, g3⟩ := pal25 hX hA (f := 732 + 9 * (Vx X 1 - 1)) (by omega) (by omega) L 3 its _ td' (up m 264 (fun j => if 732 + 9 * (Vx X 1 - 1) ≤ j ∧ j < 732 + 9 * (Vx X 1 - 1) + 9 then -1 else m 264 j)) big a (MTK_g4 hT) (by decide) (by have := big_ge; omega) (fun p p0 p1 => by
        rw [up_eq, if_pos (by omega), st1_ne (by omega), td0 p p0 (by omega), if_pos rfl])
      refine ⟨h', ?_, g2, fun i hi => ?_⟩
      · rw [e2, g1, up_up]
      · rw [g3 i hi, up_eq, if_neg hi]
  obtain ⟨h', e2', g2, g3⟩ := key
  refine ACT_s hp hg e1 e2' (fun o a => up_ne (by omega)) ?_ ?_
  · refine SR_reg hs hw (p1 := 48 + 1 * Vx X 1) (olo := 48) (ohi := 48) (lo := 732) (hi := 840) (fun o a _ => up_ne a) (fun i a => g3 i (by omega)) (h3 := Or.inr (fun k p k0 k1 p0 p1 => ?_))
    by_cases z : k = Vx X 1 - 1
    · rw [show 49 + k = 48 + 1 * Vx X 1 by omega, up_eq, z, g2 p p0 p1, if_pos ⟨p0, p1⟩, htd]
    · rw [up_ne (by omega), g3 _ (by omega)]
      exact S3.p hs k p k0 k1 p0 p1
  · refine WF_reg hw (lo := 732) (hi := 840) (fun i a => g3 i (by omega)) (h3 := Or.inr (fun k p k0 k1 p0 p1 => ?_))
    by_cases z : k = Vx X 1 - 1
    · rw [z, g2 p p0 p1]
      have := tv p p0 p1
      by_cases y : td' p = -2
      · rw [if_pos y]; decide
      · rw [if_neg y]; omega
    · rw [g3 _ (by omega)]
      exact hw.p k p k0 k1 p0 p1
theorem makeG {m : Mem} {f : Int} {r : RW} (h1 : m 259 21 = r.1) (h2 : m 271 = r.2) (r0 : 0 ≤ r.1) (r1 : r.1 ≤ 40) (f0 : 0 ≤ f) (f1 : f ≤ 12000) : ∃ h, M_makeGroup m f = some (up m 264 h) ∧ h f = r.1 ∧ (∀ i, 0 ≤ i → i < r.1 → h (f + 1 + i) = r.2 i) ∧ (∀ i, ¬ (f ≤ i ∧ i < f + 1 + r.1) → h i = m 264 i) := by
  unfold M_makeGroup
  rw [sI_up (by omega) (by omega), Option.bind_some, h1]
  obtain ⟨k, hk⟩ : ∃ k : Nat, r.1 = (k : Int) := ⟨r.1.toNat, by omega⟩
  have h := asg (fun N μ i => M_makeGroup_12 f N μ i) 264 (f + 1) 0 k r.2 (up m 264 (st1 (m 264) f r.1)) (by
    intro N μ i i0 i1 e1 _ _
    show M_makeGroup_12 f (N + 1) μ i = M_makeGroup_12 f N _ (i + 1)
    have q1 : μ 259 21 = r.1 := by rw [e1 259 (by decide), up_ne (by decide), h1]
    have q2 : μ 271 = r.2 := by rw [e1 271 (by decide), up_ne (by decide), h2]
    rw [M_makeGroup_12, q1, if_neg (by omega), aI_ok i0 (by omega), Option.bind_some, q2, jadd_e (x := f) (by omega) (by omega), jadd_e (by omega) (by omega), sI_up (by omega) (by omega), Option.bind_some, jadd_e (by omega) (by omega)]) k (by omega) big (by have := big_ge; omega)
  have h' : M_makeGroup_12 f big (up m 264 (st1 (m 264) f r.1)) 0 = _ := h
  rw [h']
  obtain ⟨N, hN⟩ : ∃ N, big - k = N + 1 := ⟨big - k - 1, by have := big_ge; omega⟩
  rw [hN]
  refine ⟨fun j => if f + 1 + 0 ≤ j ∧ j < f + 1 + 0 + (k : Int) then r.2 (j - (f + 1)) else st1 (m 264) f r.1 j, ?_, ?_, ?_, ?_⟩
  · show M_makeGroup_12 f (N + 1) _ _ = _
    rw [M_makeGroup_12, up_ne (show ¬ (259 : Int) = 264 by decide), up_ne (show ¬ (259 : Int) = 264 by decide), h1, if_pos (by omega), up_eq, up_up]
  · show (if f + 1 + 0 ≤ f ∧ f < f + 1 + 0 + (k : Int) then r.2 (f - (f + 1)) else st1 (m 264) f r.1 f) = r.1
    rw [if_neg (by omega), st1_eq]
  · intro i i0 i1
    show (if f + 1 + 0 ≤ f + 1 + i ∧ f + 1 + i < f + 1 + 0 + (k : Int) then r.2 (f + 1 + i - (f + 1)) else st1 (m 264) f r.1 (f + 1 + i)) = r.2 i
    rw [if_pos (by omega), show f + 1 + i - (f + 1) = i by omega]
  · intro i hi
    show (if f + 1 + 0 ≤ i ∧ i < f + 1 + 0 + (k : Int) then r.2 (i - (f + 1)) else st1 (m 264) f r.1 i) = m 264 i
    rw [if_neg (by omega), st1_ne (by omega)]
theorem cpRow {c : Mem} {p : Int} {r : RW} (hO : 280 ≤ c 0 0) (p0 : 94 ≤ p) (p1 : p < 130) (p2 : (p - 94) % 2 = 0) (hc : CR c 248 r) (r0 : 0 ≤ r.1) (r1 : r.1 ≤ 40) : ∃ c', Row_copyFrom c p 248 = some c' ∧ c' p 1 = r.1 ∧ (∀ j, 0 ≤ j → j < r.1 → c' (p + 1) j = r.2 j + 1) ∧ (∀ o, ¬ o = p → ¬ o = p + 1 → c' o = c o) := by
  have k1 := kd3 (x := p + 1) (n := 40) (by omega) (by omega) (shK_92 (by omega) (by omega) (by omega))
  obtain ⟨g1, g2, g3, g4, g5, g6⟩ := ro248
  obtain ⟨h1, h2⟩ := hc
  obtain ⟨c', d1, d2, d3, d4, _⟩ := row_cp (μ := c) (p := p) (q := 248) (kd_row p0 p1 p2) g1 k1.1 g2 k1.2 g3 (uB3 (by omega) (by omega)) (by omega) (by decide) (by omega) (by omega) (by omega) (by omega) (by omega) (by omega)
  refine ⟨c', d1, by rw [d2, h1], fun j j0 j1 => ?_, d4⟩
  rw [d3 j j0 (by omega)]
  exact h2 j j0 j1
theorem ac35 {B : Int} {X : Tx} {A cur kn op : Int} {m0 c m : Mem} {I : List It3} {TL WL : List Q4} {td td' : Int → Int} {r : RW} (E : AE B X A m0 c m) (ht : TT X 0 = 35) (hv : c 241 0 = 35) (htd : c 242 = td') (h : q35 X td A I TL WL td' op) (hF : ∀ x ∈ I, ¬ x.1 = 20 → fitem (m 264) cur kn x = 0) (hC : CR c 248 r) (hR : ROK r) (q1 : m 259 21 = r.1) (q2 : m 271 = r.2) : ACT B c m (Ed_perform c) (M_act m) := by
  obtain ⟨hX, hT, hA, a0, hs, hw, hp, hg, kc, km, hO⟩ := E
  obtain ⟨t1, t2, _, _, e', its, rfl, hS⟩ := h
  have hS2 := SETP_l hS
  have hn := nAt hX hT (k := 1) (by decide) (by omega) t1
  have b1 : 1 ≤ Vx X 1 ∧ Vx X 1 ≤ 12 := FLT_b (hF (4, Vx X 1, Px X 1) (by simp) (by simp))
  have e9 : c 242 9 = Vx X 1 := by rw [htd, e', st1_eq]
  obtain ⟨c', d1, d2, d3, d4⟩ := cpRow (p := 94 + 2 * Vx X 1) hO (by omega) (by omega) (by omega) hC hR.1 hR.2.1
  obtain ⟨h', g1, g2, g3, g4⟩ := makeG (f := 240 + 41 * (Vx X 1 - 1)) q1 q2 hR.1 hR.2.1 (by omega) (by omega)
  have r1 := hR.2.1
  have e1 : Ed_perform c = some c' := by
    unfold Ed_perform
    rw [Option.bind_some, Option.bind_some, hv, e9]
    show ((ar 94 13 2 (Vx X 1)).bind fun o10 => if o10 ≠ 0 ∧ kd o10 = 5 then (Row_copyFrom c o10 248).bind fun m13 => some m13 else none) = _
    rw [ar_ok (by omega) (by omega), Option.bind_some, if_pos ⟨by omega, kd_row (by omega) (by omega) (by omega)⟩, bsm, d1]
  have e2 : M_act m = some (up m 264 h') := by
    rw [(ckV hX hT a0 (w := 1) (by decide) (by decide) (by decide) (by decide) ht).2]
    show ((M_isSignAt m 2 61).bind fun x1 => if x1 = 0 then (M_values m).bind fun m3 => some m3 else (M_makeGroup m (jadd 240 (jmul 41 (jsub (m 269 1) 1)))).bind fun m6 => some m6) = _
    rw [sAt hX hT (k := 2) (sc := 73) (by decide) (by omega) (by omega), Option.bind_some, if_pos t2, if_neg (by decide), bsm, hn.2.1, jsub_e (by omega) (by omega), jmul_e (by omega) (by omega), jadd_e (by omega) (by omega), g1]
  refine ACT_s hp hg e1 e2 (fun o a => d4 o (by omega) (by omega)) ?_ ?_
  · refine SR_reg hs hw (p1 := 94 + 2 * Vx X 1) (olo := 94 + 2 * Vx X 1) (ohi := 96 + 2 * Vx X 1) (lo := 240) (hi := 732) (fun o a b => d4 o a (by omega)) (fun i a => g4 i (by omega)) (h2 := Or.inr (fun k k0 k1 => ?_))
    by_cases z : k = Vx X 1 - 1
    · rw [show 96 + 2 * k = 94 + 2 * Vx X 1 by omega, d2, z, g2]
      refine ⟨rfl, fun i i0 i1 => ?_⟩
      rw [show 97 + 2 * (Vx X 1 - 1) = 94 + 2 * Vx X 1 + 1 by omega, d3 i i0 i1, show 241 + 41 * (Vx X 1 - 1) + i = 240 + 41 * (Vx X 1 - 1) + 1 + i by omega, g3 i i0 i1]
    · obtain ⟨x, y⟩ := S3.g hs k k0 k1
      have w2 := (hw.g k k0 k1).2.1
      rw [d4 _ (by omega) (by omega), d4 _ (by omega) (by omega), g4 _ (by omega)]
      exact ⟨x, fun i i0 i1 => by rw [g4 _ (by omega)]; exact y i i0 i1⟩
  · refine WF_reg hw (lo := 240) (hi := 732) (fun i a => g4 i (by omega)) (h2 := Or.inr (fun k k0 k1 => ?_))
    by_cases z : k = Vx X 1 - 1
    · rw [z, g2]
      exact RowOK_c hR (fun i i0 i1 => by
        show h' (241 + 41 * (Vx X 1 - 1) + i) = _
        rw [show 241 + 41 * (Vx X 1 - 1) + i = 240 + 41 * (Vx X 1 - 1) + 1 + i by omega, g3 i i0 i1])
    · have w := hw.g k k0 k1
      have w2 := w.2.1
      rw [g4 _ (by omega)]
      exact RowOK_c w (fun i i0 i1 => g4 _ (by omega))
