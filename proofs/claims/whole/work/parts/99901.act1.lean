-- L3: enter: statements that set little
theorem uB3 {x : Int} (x0 : 3 ≤ x) (x1 : x < 220) : uB x = false := by
  have := uB_s (a := 3) (r := x - 3) (Or.inl rfl) (by omega) (by omega)
  rwa [show 3 + (x - 3) = x by omega] at this
theorem kd3 {x n : Int} (x0 : 3 ≤ x) (x1 : x < 220) (h : shK (x - 3) = (100, n)) : kd x = 100 ∧ ln x = n := by
  unfold kd ln
  rw [ob_3 x0 x1, h]
  exact ⟨rfl, rfl⟩
theorem wD3 {c : Mem} {x j v n : Int} (x0 : 3 ≤ x) (x1 : x < 220) (h : shK (x - 3) = (100, n)) (j0 : 0 ≤ j) (j1 : j < n) : wD c x j v = some (up c x (st1 (c x) j v)) := by
  unfold wD
  rw [if_pos (uB3 x0 x1), wS (ob_3 x0 x1) h (by omega) j0 j1]
theorem fill3 {c : Mem} {x v n : Int} (x0 : 3 ≤ x) (x1 : x < 220) (h : shK (x - 3) = (100, n)) (n0 : 0 ≤ n) (n1 : n ≤ 1000) : Ar_fill c x v = some (up c x (fil (c x) n v)) := fill_e (kd3 x0 x1 h).1 (kd3 x0 x1 h).2 (by omega) (uB3 x0 x1) n0 n1
theorem told_e {c : Mem} {j d : Int} (j0 : 0 ≤ j) (j1 : j < 12) : St_toldOr c j d = some (if c 242 j = -2 then d else c 242 j) := by
  unfold St_toldOr St_isTold
  rw [aI_ok j0 j1, Option.bind_some]
  by_cases z : c 242 j = -2
  · rw [if_pos z, if_pos z, Option.bind_some, if_pos rfl]
  · rw [if_neg z, if_neg z, Option.bind_some, if_neg (by decide), Option.bind_some]
theorem st1_id {g : Int → Int} {i v : Int} (h : g i = v) : st1 g i v = g := by
  funext j
  unfold st1
  by_cases z : j = i
  · rw [if_pos z, z, h]
  · rw [if_neg z]
theorem clear_m {m : Mem} : M_clear m = some (up m 264 (fun j => if 12362 ≤ j ∧ j < 12722 then -1 else m 264 j)) := by
  unfold M_clear
  have h := asg (fun N μ i => M_clear_2 N μ i) 264 12362 0 360 (fun _ => -1) m (by
    intro N μ i i0 i1 _ _ _
    show M_clear_2 (N + 1) μ i = M_clear_2 N _ (i + 1)
    rw [M_clear_2, if_neg (by omega), jadd_e (by omega) (by omega), sI_up (by omega) (by omega), Option.bind_some, jadd_e (by omega) (by omega)]) 360 (by omega) big (by have := big_ge; omega)
  have h' : M_clear_2 big m 0 = _ := h
  rw [h']
  obtain ⟨N, hN⟩ : ∃ N, big - 360 = N + 1 := ⟨big - 360 - 1, by have := big_ge; omega⟩
  rw [hN]
  show M_clear_2 (N + 1) _ _ = _
  rw [M_clear_2, if_pos (by omega)]
  congr 2
theorem row_v {g : Int → Int} (hw : WF g) {n : Int} (h : ¬ rowOf g n < 0) : 0 ≤ rowOf g n ∧ rowOf g n < 30 ∧ 0 < n ∧ n ≤ 999 ∧ cn g (rowOf g n) = n := by
  rcases rowOf_s g n with ⟨a, _⟩ | ⟨a, b, d, e⟩
  · omega
  · have := (hw.c _ a b).2.1
    exact ⟨a, b, d, by omega, e⟩
theorem f19 {g : Int → Int} (hw : WF g) {cur kn v p : Int} (h : fitem g cur kn (19, v, p) = 0) (v0 : 0 ≤ v) (v1 : v ≤ 9999) : 0 ≤ rowOf g v ∧ rowOf g v < 30 ∧ 0 < v ∧ v ≤ 999 ∧ cn g (rowOf g v) = v := by
  have e : fitem g cur kn (19, v, p) = (if rowOf g v < 0 then 2 else 0) := fl19 v0 v1
  refine row_v hw (fun a => ?_)
  rw [e, if_pos a] at h
  omega
theorem SR_b3 {c : Mem} {g : Int → Int} {v : Int} (hs : SR c 3 g) (hw : WF g) : SR (wr c 3 10 v) 3 (st1 g 12722 v) :=
  SR_reg hs hw (p1 := 3) (olo := 3) (ohi := 3) (lo := 12722) (hi := 12723) (fun o a _ => wr_o a) (fun i a => st1_ne (by omega)) (h7 := Or.inr (CUR_c (S3.cur hs) (wr_o (by decide)) (fun x a b => wr_o (by omega)) (wr_f (by decide)) (fun i a b => st1_ne (by omega)))) (h9 := Or.inr (by rw [wr_eq, st1_eq]))
theorem ac46 {B : Int} {X : Tx} {A cur kn op : Int} {m0 c m : Mem} {I : List It3} {TL WL : List Q4} {td td' : Int → Int} (E : AE B X A m0 c m) (ht : TT X 0 = 46) (hv : c 241 0 = 46) (htd : c 242 = td') (h : q42 X td A I TL WL td' op) (hF : ∀ x ∈ I, ¬ x.1 = 20 → fitem (m 264) cur kn x = 0) : ACT B c m (Ed_perform c) (M_act m) := by
  obtain ⟨hX, hT, hA, a0, hs, hw, hp, hg, kc, km, hO⟩ := E
  obtain ⟨t1, aa, rfl, _, _, e', _⟩ := h
  have hn := nAt hX hT (k := 1) (by decide) (by omega) t1
  have hf := f19 hw (hF (19, Vx X 1, Px X 1) (by simp) (by simp)) hn.2.2.1 hn.2.2.2.1
  have e9 : c 242 9 = Vx X 1 := by rw [htd, e', st1_eq]
  have e1 : Ed_perform c = some (wr c 3 10 (Vx X 1)) := by
    unfold Ed_perform Ed_performOnCues
    rw [Option.bind_some, Option.bind_some, Option.bind_some, hv, e9]
    rfl
  have e2 : M_act m = some (up m 264 (st1 (m 264) 12722 (Vx X 1))) := by
    rw [(ckV hX hT a0 (w := 30) (by decide) (by decide) (by decide) (by decide) ht).2]
    show (((sI m 264 12943 12722 (m 269 1)).bind fun m43 => some m43).bind fun m1 => some m1) = _
    rw [bsm, bsm, hn.2.1, sI_up (by decide) (by decide)]
  refine ACT_s hp hg e1 e2 (fun o a => wr_o (by omega)) (SR_b3 hs hw) ?_
  refine WF_reg hw (lo := 12722) (hi := 12723) (fun i a => st1_ne (by omega)) (h10 := Or.inr ?_)
  unfold WF_b
  rw [st1_eq]
  refine Or.inr ⟨by omega, by omega, rowOf (m 264) (Vx X 1), hf.1, hf.2.1, ?_⟩
  have := hf.2.2.2.2
  unfold cn at this ⊢
  rw [st1_ne (by omega)]
  exact this
theorem ac47 {B : Int} {X : Tx} {A : Int} {m0 c m : Mem} (E : AE B X A m0 c m) (ht : TT X 0 = 47) (hv : c 241 0 = 47) : ACT B c m (Ed_perform c) (M_act m) := by
  obtain ⟨hX, hT, hA, a0, hs, hw, hp, hg, kc, km, hO⟩ := E
  have e1 : Ed_perform c = some (wr c 3 10 (-1)) := by
    unfold Ed_perform Ed_performOnCues
    rw [Option.bind_some, Option.bind_some, Option.bind_some, hv]
    rfl
  have e2 : M_act m = some (up m 264 (st1 (m 264) 12722 (-1))) := by
    rw [(ckV hX hT a0 (w := 31) (by decide) (by decide) (by decide) (by decide) ht).2]
    show (((sI m 264 12943 12722 (-1)).bind fun m43 => some m43).bind fun m1 => some m1) = _
    rw [bsm, bsm, sI_up (by decide) (by decide)]
  refine ACT_s hp hg e1 e2 (fun o a => wr_o (by omega)) (SR_b3 hs hw) ?_
  refine WF_reg hw (lo := 12722) (hi := 12723) (fun i a => st1_ne (by omega)) (h10 := Or.inr ?_)
  unfold WF_b
  rw [st1_eq]
  exact Or.inl rfl
theorem clear_s {c : Mem} {g : Int → Int} (hs : SR c 3 g) (hw : WF g) : SR (up c 80 (fil (c 80) 360 (-1))) 3 (fun j => if 12362 ≤ j ∧ j < 12722 then -1 else g j) ∧ WF (fun j => if 12362 ≤ j ∧ j < 12722 then -1 else g j) := by
  constructor
  · refine SR_reg hs hw (p1 := 80) (olo := 80) (ohi := 80) (lo := 12362) (hi := 12722) (fun o a _ => up_ne a) (fun i a => if_neg a) (h8 := Or.inr (fun i i0 i1 => ?_))
    rw [up_eq, if_pos (show 12362 ≤ 12362 + i ∧ 12362 + i < 12722 by omega)]
    exact if_pos ⟨i0, i1⟩
  · refine WF_reg hw (lo := 12362) (hi := 12722) (fun i a => if_neg a) (h9 := Or.inr (fun i i0 i1 => ?_))
    show VAL (if 12362 ≤ 12362 + i ∧ 12362 + i < 12722 then -1 else g (12362 + i)) ∧ (0 ≤ (if 12362 ≤ 12362 + i ∧ 12362 + i < 12722 then -1 else g (12362 + i)) → _)
    rw [if_pos (show 12362 ≤ 12362 + i ∧ 12362 + i < 12722 by omega)]
    exact ⟨Or.inl rfl, fun a => absurd a (by decide)⟩
theorem k80 : shK (80 - 3) = (100, 360) := by decide +kernel
theorem k81 : shK (81 - 3) = (100, 201) := by decide +kernel
theorem ac48 {B : Int} {X : Tx} {A : Int} {m0 c m : Mem} (E : AE B X A m0 c m) (ht : TT X 0 = 48) (hv : c 241 0 = 48) : ACT B c m (Ed_perform c) (M_act m) := by
  obtain ⟨hX, hT, hA, a0, hs, hw, hp, hg, kc, km, hO⟩ := E
  have e1 : Ed_perform c = some (up c 80 (fil (c 80) 360 (-1))) := by
    unfold Ed_perform Ed_performOnCues
    rw [Option.bind_some, Option.bind_some, Option.bind_some, hv]
    show ((Ar_fill c 80 (-1)).bind fun m43 => some m43).bind (fun m49 => some m49) = _
    rw [bsm, bsm, fill3 (by decide) (by decide) k80 (by decide) (by decide)]
  have e2 : M_act m = some (up m 264 (fun j => if 12362 ≤ j ∧ j < 12722 then -1 else m 264 j)) := by
    rw [(ckV hX hT a0 (w := 32) (by decide) (by decide) (by decide) (by decide) ht).2]
    show (((M_clear m).bind fun m43 => some m43).bind fun m1 => some m1) = _
    rw [bsm, bsm, clear_m]
  exact ACT_s hp hg e1 e2 (fun o a => up_ne (by omega)) (clear_s hs hw).1 (clear_s hs hw).2
theorem ac50 {B : Int} {X : Tx} {A cur kn op : Int} {m0 c m : Mem} {I : List It3} {TL WL : List Q4} {td td' : Int → Int} (E : AE B X A m0 c m) (ht : TT X 0 = 50) (hv : c 241 0 = 50) (htd : c 242 = td') (h : q50 X td A I TL WL td' op) (hF : ∀ x ∈ I, ¬ x.1 = 20 → fitem (m 264) cur kn x = 0) : ACT B c m (Ed_perform c) (M_act m) := by
  obtain ⟨hX, hT, hA, a0, hs, hw, hp, hg, kc, km, hO⟩ := E
  obtain ⟨t1, t2, t3, aa, rfl, _, _, e', _⟩ := h
  have hn := nAt hX hT (k := 1) (by decide) (by omega) t1
  have hn3 := nAt hX hT (k := 3) (by decide) (by omega) t3
  have b1 := FLT_b (hF (10, Vx X 1, Px X 1) (by simp) (by simp))
  have b3 := FLT_b (hF (12, Vx X 3, Px X 3) (by simp) (by simp))
  have b1' : 1 ≤ Vx X 1 ∧ Vx X 1 ≤ 200 := b1
  have b3' : 0 ≤ Vx X 3 ∧ Vx X 3 ≤ 255 := b3
  have e9 : c 242 9 = Vx X 1 := by rw [htd, e', st1_ne (by decide), st1_eq]
  have e10 : c 242 10 = Vx X 3 := by rw [htd, e', st1_eq]
  have e1 : Ed_perform c = some (up c 81 (st1 (c 81) (Vx X 1) (Vx X 3))) := by
    unfold Ed_perform
    rw [Option.bind_some, Option.bind_some, hv, e9]
    show ((sI c 81 201 (Vx X 1) (c 242 10)).bind fun m31 => some m31) = _
    rw [bsm, e10, sI_up (by omega) (by omega)]
  have e2 : M_act m = some (up m 264 (st1 (m 264) (12722 + Vx X 1) (Vx X 3))) := by
    rw [(ckV hX hT a0 (w := 34) (by decide) (by decide) (by decide) (by decide) ht).2]
    show ((((((sI m 264 12943 (jsub (jadd 12723 (m 269 1)) 1) (m 269 3)).bind fun m5 => some m5).bind fun m1 => some m1).bind fun m1 => some m1))) = _
    rw [bsm, bsm, bsm, hn.2.1, hn3.2.1, jadd_e (by omega) (by omega), jsub_e (by omega) (by omega), show 12723 + Vx X 1 - 1 = 12722 + Vx X 1 by omega, sI_up (by omega) (by omega)]
  refine ACT_s hp hg e1 e2 (fun o a => up_ne (by omega)) ?_ ?_
  · refine SR_reg hs hw (p1 := 81) (olo := 81) (ohi := 81) (lo := 12723) (hi := 12923) (fun o a _ => up_ne a) (fun i a => st1_ne (by omega)) (h10 := Or.inr (fun k k0 k1 => ?_))
    rw [up_eq]
    unfold st1
    by_cases z : k + 1 = Vx X 1
    · rw [if_pos z, if_pos (by omega)]
    · rw [if_neg z, if_neg (by omega)]
      exact S3.k hs k k0 k1
  · refine WF_reg hw (lo := 12723) (hi := 12923) (fun i a => st1_ne (by omega)) (h11 := Or.inr (fun k k0 k1 => ?_))
    unfold st1
    by_cases z : 12723 + k = 12722 + Vx X 1
    · rw [if_pos z]; omega
    · rw [if_neg z]; exact hw.k k k0 k1
theorem unpark_m {X : Tx} {m0 m : Mem} {A n : Int} (hX : XO X m0) (hT : MTK X A m) (a1 : 1 ≤ A) (n0 : 1 ≤ n ∨ TT X 1 = 64) (n1 : n ≤ 9999) (n2 : 0 ≤ n) : M_actOther_63 n big m 0 = some (up m 264 (fun j => if 12723 ≤ j ∧ j < 12923 then (if TT X 1 = 64 ∨ j - 12723 = n - 1 then -1 else m 264 j) else m 264 j)) := by
  have h := asg (fun N μ i => M_actOther_63 n N μ i) 264 12723 0 200 (fun i => if TT X 1 = 64 ∨ i = n - 1 then -1 else m 264 (12723 + i)) m (by
    intro N μ i i0 i1 h1 h2 _
    have hT' : MTK X A μ := ⟨hT.1, hT.2.1, fun k k0 k1 => by rw [h1 268 (by decide), h1 269 (by decide), h1 270 (by decide)]; exact hT.2.2 k k0 k1⟩
    show M_actOther_63 n (N + 1) μ i = M_actOther_63 n N _ (i + 1)
    have p0' : tbl piT 0 = 64 := by decide
    rw [M_actOther_63, if_neg (by omega), wAt hX hT' (k := 1) (w := 0) (by decide) a1 (by decide) (by decide), Option.bind_some, p0']
    have h86 : M_actOther_86 (M_actOther_63 n N) μ n i = M_actOther_63 n N (up μ 264 (st1 (μ 264) (12723 + i) (-1))) (i + 1) := by
      unfold M_actOther_86
      rw [jadd_e (by omega) (by omega), sI_up (by omega) (by omega), Option.bind_some, jadd_e (by omega) (by omega)]
    by_cases z : TT X 1 = 64
    · rw [if_pos z, if_pos (by decide), h86, if_pos (Or.inl z)]
    · rw [if_neg z, if_neg (by decide), jsub_e (by omega) (by omega)]
      by_cases y : i = n - 1
      · rw [if_neg (fun a => a y), h86, if_pos (Or.inr y)]
      · rw [if_pos y, if_neg (show ¬ (TT X 1 = 64 ∨ i = n - 1) by omega), ← h2 (12723 + i) (by omega), st1_id rfl, up_id, jadd_e (by omega) (by omega)]) 200 (by omega) big (by have := big_ge; omega)
  have h' : M_actOther_63 n big m 0 = _ := h
  rw [h']
  obtain ⟨N, hN⟩ : ∃ N, big - 200 = N + 1 := ⟨big - 200 - 1, by have := big_ge; omega⟩
  rw [hN]
  show M_actOther_63 n (N + 1) _ _ = _
  rw [M_actOther_63, if_pos (by omega)]
  refine congrArg (fun q => some (up m 264 q)) (funext fun j => ?_)
  by_cases z : 12723 ≤ j ∧ j < 12923
  · rw [if_pos z, if_pos (by omega), show 12723 + (j - 12723) = j by omega]
  · rw [if_neg z, if_neg (by omega)]
theorem ac51 {B : Int} {X : Tx} {A cur kn op : Int} {m0 c m : Mem} {I : List It3} {TL WL : List Q4} {td td' : Int → Int} (E : AE B X A m0 c m) (ht : TT X 0 = 51) (hv : c 241 0 = 51) (hop : c 241 1 = op) (htd : c 242 = td') (h : q51 X td A I TL WL td' op) (hF : ∀ x ∈ I, ¬ x.1 = 20 → fitem (m 264) cur kn x = 0) : ACT B c m (Ed_perform c) (M_act m) := by
  obtain ⟨hX, hT, hA, a0, hs, hw, hp, hg, kc, km, hO⟩ := E
  obtain ⟨aa, _, _, h⟩ := h
  have e1 : Ed_perform c = Ed_unparkSlots c (c 242 9) := by
    unfold Ed_perform
    rw [Option.bind_some, Option.bind_some, hv]
    show ((Ed_unparkSlots c (c 242 9)).bind fun m31 => some m31) = _
    rw [bsm]
  have e2 : M_act m = M_actOther_63 (m 269 1) big m 0 := by
    rw [(ckV hX hT a0 (w := 35) (by decide) (by decide) (by decide) (by decide) ht).2]
    show ((((M_actOther_63 (m 269 1) big m 0).bind fun m1 => some m1).bind fun m1 => some m1)) = _
    rw [bsm, bsm]
  have kw : 1 < X.2.2.2 := by have := hT.1; omega
  have hc := TT_c hX (a := 1) (by decide) kw (by decide)
  obtain ⟨k1, k2, _⟩ := hT.2.2 1 (by decide) (by omega)
  rcases h with ⟨t1, rfl, etd, eop⟩ | ⟨t1, rfl, etd, eop⟩
  · have hV : Kx X 1 = 1 ∧ tbl piT (Vx X 1) = 64 := by omega
    have hV0 : 0 ≤ Vx X 1 ∧ Vx X 1 < 70 := by omega
    have m1 : m 269 1 = Vx X 1 := k2 (Or.inl hV.1)
    have d1 : Ed_unparkSlots c (c 242 9) = some (up c 81 (fil (c 81) 201 (-1))) := by
      unfold Ed_unparkSlots
      rw [if_neg (fun a => a (by rw [hop, eop])), fill3 (by decide) (by decide) k81 (by decide) (by decide), Option.bind_some]
    refine ACT_s hp hg (e1.trans d1) (e2.trans (unpark_m hX hT (by omega) (Or.inr t1) (by omega) (by omega))) (fun o a => up_ne (by omega)) ?_ ?_
    · refine SR_reg hs hw (p1 := 81) (olo := 81) (ohi := 81) (lo := 12723) (hi := 12923) (fun o a _ => up_ne a) (fun i a => if_neg a) (h10 := Or.inr (fun k k0 k1 => ?_))
      rw [up_eq, if_pos (show 12723 ≤ 12723 + k ∧ 12723 + k < 12923 by omega), if_pos (Or.inl t1)]
      exact if_pos (by omega)
    · refine WF_reg hw (lo := 12723) (hi := 12923) (fun i a => if_neg a) (h11 := Or.inr (fun k k0 k1 => ?_))
      show -1 ≤ (if 12723 ≤ 12723 + k ∧ 12723 + k < 12923 then (if TT X 1 = 64 ∨ 12723 + k - 12723 = m 269 1 - 1 then -1 else m 264 (12723 + k)) else m 264 (12723 + k)) ∧ (if 12723 ≤ 12723 + k ∧ 12723 + k < 12923 then (if TT X 1 = 64 ∨ 12723 + k - 12723 = m 269 1 - 1 then -1 else m 264 (12723 + k)) else m 264 (12723 + k)) ≤ 255
      rw [if_pos (show 12723 ≤ 12723 + k ∧ 12723 + k < 12923 by omega), if_pos (Or.inl t1)]
      decide
  · have hn := nAt hX hT (k := 1) (by decide) (by omega) t1
    have b1 : 1 ≤ Vx X 1 ∧ Vx X 1 ≤ 200 := FLT_b (hF (10, Vx X 1, Px X 1) (by simp) (by simp))
    have e9 : c 242 9 = Vx X 1 := by rw [htd, etd, st1_eq]
    have d1 : Ed_unparkSlots c (c 242 9) = some (up c 81 (st1 (c 81) (Vx X 1) (-1))) := by
      unfold Ed_unparkSlots
      rw [if_pos (show c 241 1 ≠ 64 by rw [hop, eop]; decide), e9, sI_up (by omega) (by omega), Option.bind_some]
    refine ACT_s hp hg (e1.trans d1) (e2.trans (unpark_m hX hT (by omega) (Or.inl (by omega)) (by omega) (by omega))) (fun o a => up_ne (by omega)) ?_ ?_
    · refine SR_reg hs hw (p1 := 81) (olo := 81) (ohi := 81) (lo := 12723) (hi := 12923) (fun o a _ => up_ne a) (fun i a => if_neg a) (h10 := Or.inr (fun k k0 k1 => ?_))
      rw [up_eq, if_pos (show 12723 ≤ 12723 + k ∧ 12723 + k < 12923 by omega), hn.2.1]
      unfold st1
      by_cases z : k + 1 = Vx X 1
      · rw [if_pos z, if_pos (Or.inr (by omega))]
      · rw [if_neg z, if_neg (show ¬ (TT X 1 = 64 ∨ 12723 + k - 12723 = Vx X 1 - 1) by omega)]
        exact S3.k hs k k0 k1
    · refine WF_reg hw (lo := 12723) (hi := 12923) (fun i a => if_neg a) (h11 := Or.inr (fun k k0 k1 => ?_))
      show -1 ≤ (if 12723 ≤ 12723 + k ∧ 12723 + k < 12923 then (if TT X 1 = 64 ∨ 12723 + k - 12723 = m 269 1 - 1 then -1 else m 264 (12723 + k)) else m 264 (12723 + k)) ∧ (if 12723 ≤ 12723 + k ∧ 12723 + k < 12923 then (if TT X 1 = 64 ∨ 12723 + k - 12723 = m 269 1 - 1 then -1 else m 264 (12723 + k)) else m 264 (12723 + k)) ≤ 255
      rw [if_pos (show 12723 ≤ 12723 + k ∧ 12723 + k < 12923 by omega)]
      by_cases z : TT X 1 = 64 ∨ 12723 + k - 12723 = m 269 1 - 1
      · rw [if_pos z]; decide
      · rw [if_neg z]; exact hw.k k k0 k1
