-- L3: enter: waves, the patch
theorem waveM {X : Tx} {m0 m : Mem} {A f : Int} {r : RW} (hX : XO X m0) (hT : MTK X A m) (a3 : 11 ≤ A) (t3 : 18 ≤ TT X 3 ∧ TT X 3 < 21) (t4 : 9 ≤ TT X 4 ∧ TT X 4 < 18) (t6 : TT X 6 = 75) (t8 : TT X 8 = 75) (t10 : TT X 10 = 75) (h1 : m 259 21 = r.1) (h2 : m 271 = r.2) (r0 : 0 ≤ r.1) (r1 : r.1 ≤ 40) (f0 : 0 ≤ f) (f1 : f ≤ 11000) : ∃ h, M_makeWave m f = some (up m 264 h) ∧ h f = TT X 3 - 18 ∧ h (f + 1) = TT X 4 - 9 ∧ h (f + 2) = Vx X 6 ∧ h (f + 3) = Vx X 8 ∧ h (f + 4) = Vx X 10 ∧ h (f + 5) = r.1 ∧ (∀ i, 0 ≤ i → i < r.1 → h (f + 6 + i) = r.2 i) ∧ (∀ i, ¬ (f ≤ i ∧ i < f + 6 + r.1) → h i = m 264 i) := by
  have w3 := wrdV hX hT (k := 3) (by decide) (by omega) (by omega)
  have w4 := wrdV hX hT (k := 4) (by decide) (by omega) (by omega)
  have n6 := nAt hX hT (k := 6) (by decide) (by omega) t6
  have n8 := nAt hX hT (k := 8) (by decide) (by omega) t8
  have n10 := nAt hX hT (k := 10) (by decide) (by omega) t10
  have v3 : Vx X 3 - 37 = TT X 3 - 18 := by
    obtain ⟨v, hv⟩ : ∃ v : Nat, Vx X 3 = (v : Int) := ⟨(Vx X 3).toNat, by omega⟩
    have := rsaw v (List.mem_range.mpr (by omega))
    rw [← hv] at this
    have := this (by omega) (by omega)
    omega
  have v4 : Vx X 4 - 61 = TT X 4 - 9 := by
    obtain ⟨v, hv⟩ : ∃ v : Nat, Vx X 4 = (v : Int) := ⟨(Vx X 4).toNat, by omega⟩
    have := rpal v (List.mem_range.mpr (by omega))
    rw [← hv] at this
    have := this (by omega) (by omega)
    omega
  have t9 : ∀ (q : Int → Int), up m 264 q 269 = m 269 := fun q => up_ne (by decide)
  generalize hg : st1 (st1 (st1 (st1 (st1 (st1 (m 264) f (-1)) f (TT X 3 - 18)) (f + 1) (TT X 4 - 9)) (f + 2) (Vx X 6)) (f + 3) (Vx X 8)) (f + 4) (Vx X 10) = g1
  have e : M_makeWave m f = M_makeGroup (up m 264 g1) (f + 5) := by
    unfold M_makeWave
    rw [sI_up (by omega) (by omega), Option.bind_some, wAt hX (MTK_g4 hT) (k := 3) (w := 11) (by decide) (by omega) (by decide) (by decide), Option.bind_some, ps11, if_neg (show ¬ TT X 3 = 54 by omega), if_pos rfl, t9, w3.1, jsub_e (by omega) (by omega), v3, sI_up (by omega) (by omega), Option.bind_some, up_eq, up_up, t9, w4.1, jsub_e (by omega) (by omega), v4, jadd_e (by omega) (by omega), sI_up (by omega) (by omega), Option.bind_some, up_eq, up_up, t9, n6.2.1, jadd_e (by omega) (by omega), sI_up (by omega) (by omega), Option.bind_some, up_eq, up_up, t9, n8.2.1, jadd_e (by omega) (by omega), sI_up (by omega) (by omega), Option.bind_some, up_eq, up_up, t9, n10.2.1, jadd_e (by omega) (by omega), sI_up (by omega) (by omega), Option.bind_some, up_eq, up_up, jadd_e (by omega) (by omega), bsm, hg]
  obtain ⟨h, g2, g3, g4, g5⟩ := makeG (m := up m 264 g1) (f := f + 5) (r := r) (by rw [up_ne (by decide), h1]) (by rw [up_ne (by decide), h2]) r0 r1 (by omega) (by omega)
  rw [up_up] at g2
  rw [up_eq] at g5
  refine ⟨h, by rw [e, g2], ?_, ?_, ?_, ?_, ?_, g3, fun i i0 i1 => ?_, fun i hi => ?_⟩
  · rw [g5 _ (by omega), ← hg, st1_ne (by omega), st1_ne (by omega), st1_ne (by omega), st1_ne (by omega), st1_eq]
  · rw [g5 _ (by omega), ← hg, st1_ne (by omega), st1_ne (by omega), st1_ne (by omega), st1_eq]
  · rw [g5 _ (by omega), ← hg, st1_ne (by omega), st1_ne (by omega), st1_eq]
  · rw [g5 _ (by omega), ← hg, st1_ne (by omega), st1_eq]
  · rw [g5 _ (by omega), ← hg, st1_eq]
  · rw [show f + 6 + i = f + 5 + 1 + i by omega, g4 i i0 i1]
  · rw [g5 _ (by omega), ← hg, st1_ne (by omega), st1_ne (by omega), st1_ne (by omega), st1_ne (by omega), st1_ne (by omega), st1_ne (by omega)]
/-- one wave is set anew in both -/
theorem wave_s {c c' : Mem} {g h : Int → Int} {v : Int} (hs : SR c 3 g) (hw : WF g) (v0 : 1 ≤ v) (v1 : v ≤ 4) (eo : ∀ o, ¬ o = 73 + 1 * v → ¬ (120 + 2 * v ≤ o ∧ o < 122 + 2 * v) → c' o = c o) (eg : ∀ i, ¬ (1168 + 46 * (v - 1) ≤ i ∧ i < 1168 + 46 * v) → h i = g i)
    (hn : c' (73 + 1 * v) 0 = h (1168 + 46 * (v - 1)) ∧ (0 ≤ h (1168 + 46 * (v - 1)) → (∀ j, 1 ≤ j → j ≤ 4 → c' (73 + 1 * v) j = h (1168 + 46 * (v - 1) + j)) ∧ c' (120 + 2 * v) 1 = h (1173 + 46 * (v - 1)) ∧ (∀ i, 0 ≤ i → i < h (1173 + 46 * (v - 1)) → c' (120 + 2 * v + 1) i = h (1174 + 46 * (v - 1) + i) + 1)) ∧ (h (1168 + 46 * (v - 1)) < 0 → (∀ j, 1 ≤ j → j ≤ 4 → c' (73 + 1 * v) j = -1) ∧ c' (120 + 2 * v) 1 = 0))
    (hm : -1 ≤ h (1168 + 46 * (v - 1)) ∧ h (1168 + 46 * (v - 1)) ≤ 2 ∧ (0 ≤ h (1168 + 46 * (v - 1)) → 0 ≤ h (1169 + 46 * (v - 1)) ∧ h (1169 + 46 * (v - 1)) ≤ 8 ∧ 0 ≤ h (1170 + 46 * (v - 1)) ∧ h (1170 + 46 * (v - 1)) ≤ 1000 ∧ 0 ≤ h (1171 + 46 * (v - 1)) ∧ h (1171 + 46 * (v - 1)) ≤ 1000 ∧ 0 ≤ h (1172 + 46 * (v - 1)) ∧ h (1172 + 46 * (v - 1)) ≤ 1000 ∧ 1 ≤ h (1173 + 46 * (v - 1)) ∧ RowOK (fun i => h (1174 + 46 * (v - 1) + i)) (h (1173 + 46 * (v - 1))))) : SR c' 3 h ∧ WF h := by
  constructor
  · refine SR_reg hs hw (p1 := 73 + 1 * v) (olo := 120 + 2 * v) (ohi := 122 + 2 * v) (lo := 1168) (hi := 1352) eo (fun i a => eg i (by omega)) (h6 := Or.inr (fun w w0 w1 => ?_))
    by_cases z : w = v - 1
    · rw [z, show 74 + (v - 1) = 73 + 1 * v by omega, show 122 + 2 * (v - 1) = 120 + 2 * v by omega, show 123 + 2 * (v - 1) = 120 + 2 * v + 1 by omega]
      exact hn
    · obtain ⟨a, b, d⟩ := S3.w hs w w0 w1
      have ww := (hw.w w w0 w1).2.2
      rw [eo _ (by omega) (by omega), eo (122 + 2 * w) (by omega) (by omega), eo (123 + 2 * w) (by omega) (by omega), eg _ (by omega), eg (1173 + 46 * w) (by omega)]
      refine ⟨a, fun hp => ?_, d⟩
      obtain ⟨b1, b2, b3⟩ := b hp
      have w2 := (ww hp).2.2.2.2.2.2.2.2.2.2.1
      exact ⟨fun j j0 j1 => by rw [eg _ (by omega)]; exact b1 j j0 j1, b2, fun i i0 i1 => by rw [eg _ (by omega)]; exact b3 i i0 i1⟩
  · refine WF_reg hw (lo := 1168) (hi := 1352) (fun i a => eg i (by omega)) (h6 := Or.inr (fun w w0 w1 => ?_))
    by_cases z : w = v - 1
    · rw [z]; exact hm
    · obtain ⟨a, b, d⟩ := hw.w w w0 w1
      rw [eg (1168 + 46 * w) (by omega), eg (1169 + 46 * w) (by omega), eg (1170 + 46 * w) (by omega), eg (1171 + 46 * w) (by omega), eg (1172 + 46 * w) (by omega), eg (1173 + 46 * w) (by omega)]
      refine ⟨a, b, fun hp => ?_⟩
      obtain ⟨d1, d2, d3, d4, d5, d6, d7, d8, d9, d10⟩ := d hp
      have r2 := d10.2.1
      exact ⟨d1, d2, d3, d4, d5, d6, d7, d8, d9, RowOK_c d10 (fun i a b => eg (1174 + 46 * w + i) (by omega))⟩
theorem ac38 {B : Int} {X : Tx} {A cur kn op e : Int} {m0 c m : Mem} {I : List It3} {TL WL : List Q4} {td td' : Int → Int} {r : RW} (E : AE B X A m0 c m) (ht : TT X 0 = 38) (hv : c 241 0 = 38) (htd : c 242 = td') (td0 : ∀ j, 0 ≤ j → j < 12 → td j = -2) (h : q38 X td A I TL WL td' op) (hF : ∀ x ∈ I, ¬ x.1 = 20 → fitem (m 264) cur kn x = 0) (hU : UNI X c m TL 38 e r) : ACT B c m (Ed_perform c) (M_act m) := by
  obtain ⟨hX, hT, hA, a0, hs, hw, hp, hg, kc, km, hO⟩ := E
  obtain ⟨q1, q2, q3, hU⟩ := hU
  obtain ⟨t1, t2, _, h⟩ := h
  have A3 : 3 ≤ A := by
    rcases h with ⟨_, a, _⟩ | ⟨_, _, _, _, _, _, _, _, _, _, its, _, hS, _⟩
    · omega
    · have := SETP_l hS; omega
  have hn := nAt hX hT (k := 1) (by decide) (by omega) t1
  have b1 : 1 ≤ Vx X 1 ∧ Vx X 1 ≤ 4 := by
    rcases h with ⟨_, _, _, _, rfl, _⟩ | ⟨_, _, _, _, _, _, _, _, _, _, its, rfl, _⟩
    · exact FLT_b (hF (8, Vx X 1, Px X 1) (by simp) (by simp))
    · exact FLT_b (hF (8, Vx X 1, Px X 1) (by simp) (by simp))
  have e9 : c 242 9 = Vx X 1 := by
    rw [htd]
    rcases h with ⟨_, _, _, _, _, e'⟩ | ⟨_, _, _, _, _, _, _, _, _, _, its, _, _, e'⟩
    · rw [e', st1_eq]
    · rw [e', st1_ne (by decide), st1_ne (by decide), st1_ne (by decide), st1_ne (by decide), st1_ne (by decide), st1_eq]
  generalize hc1 : up c (73 + 1 * Vx X 1) (fun j => if 0 ≤ j ∧ j < 5 then (if c 242 j = -2 then -1 else c 242 j) else c (73 + 1 * Vx X 1) j) = c1
  have e1 : Ed_perform c = Row_copyFrom c1 (120 + 2 * Vx X 1) 248 := by
    unfold Ed_perform
    rw [Option.bind_some, Option.bind_some, hv, e9]
    show ((Ed_makeWave c (Vx X 1)).bind fun m27 => some m27) = _
    rw [bsm, waveC b1.1 b1.2, hc1]
  have e2 : M_act m = M_makeWave m (1168 + 46 * (Vx X 1 - 1)) := by
    rw [(ckV hX hT a0 (w := 16) (by decide) (by decide) (by decide) (by decide) ht).2]
    show ((M_makeWave m (jadd 1168 (jmul 46 (jsub (m 269 1) 1)))).bind fun m22 => some m22) = _
    rw [bsm, hn.2.1, jsub_e (by omega) (by omega), jmul_e (by omega) (by omega), jadd_e (by omega) (by omega)]
  have o1 : ∀ o, ¬ o = 73 + 1 * Vx X 1 → c1 o = c o := fun o a => by rw [← hc1, up_ne a]
  have v1 : ∀ j, 0 ≤ j → j < 5 → c1 (73 + 1 * Vx X 1) j = if td' j = -2 then -1 else td' j := fun j a b => by rw [← hc1, up_eq, if_pos ⟨a, b⟩, htd]
  have O1 : 280 ≤ c1 0 0 := by rw [o1 0 (by omega)]; exact hO
  rcases h with ⟨t3, aa, eop, tl, rfl, e'⟩ | ⟨t3, t4, t5, t6, t7, t8, t9, t10, t11, eop, its, rfl, hS, e'⟩
  · have c0 : c 248 1 = 0 := by
      rcases hU with ⟨_, a⟩ | ⟨_, _, _, its, hS⟩
      · exact a
      · exact absurd tl (SETP_n hS)
    obtain ⟨c', d1, d2, d3, d4⟩ := cpRow (c := c1) (p := 120 + 2 * Vx X 1) (r := (0, fun _ => 0)) O1 (by omega) (by omega) (by omega) ⟨by rw [o1 248 (by omega)]; exact c0, fun i a b => by have b' : i < 0 := b; omega⟩ (Int.le_refl _) (by decide)
    have vv : ∀ j, 0 ≤ j → j < 5 → c' (73 + 1 * Vx X 1) j = -1 := fun j a b => by
      rw [d4 _ (by omega) (by omega), v1 j a b, e', st1_ne (by omega), td0 j a (by omega), if_pos rfl]
    have em : M_makeWave m (1168 + 46 * (Vx X 1 - 1)) = some (up m 264 (st1 (m 264) (1168 + 46 * (Vx X 1 - 1)) (-1))) := by
      unfold M_makeWave
      rw [sI_up (by omega) (by omega), Option.bind_some, wAt hX (MTK_g4 hT) (k := 3) (w := 11) (by decide) (by omega) (by decide) (by decide), Option.bind_some, ps11, if_pos t3, if_neg (by decide)]
    have hh := wave_s (c' := c') (h := st1 (m 264) (1168 + 46 * (Vx X 1 - 1)) (-1)) hs hw b1.1 b1.2 (fun o a b => by rw [d4 o (by omega) (by omega), o1 o a]) (fun i a => st1_ne (by omega)) (by
      rw [st1_eq]
      exact ⟨vv 0 (by decide) (by decide), fun a => absurd a (by decide), fun _ => ⟨fun j a b => vv j (by omega) (by omega), d2⟩⟩) (by
      rw [st1_eq]
      exact ⟨by decide, by decide, fun a => absurd a (by decide)⟩)
    exact ACT_s hp hg (e1.trans d1) (e2.trans em) (fun o a => by rw [d4 o (by omega) (by omega), o1 o (by omega)]) hh.1 hh.2
  · have sl := SETP_l hS
    obtain ⟨hC, hR, rp, _⟩ : CR c 248 r ∧ ROK r ∧ 0 < r.1 ∧ ∃ its, SETP X TL (kOf 38) e its := by
      rcases hU with ⟨a, _⟩ | a
      · exact absurd a (SETP_n hS)
      · exact a
    have r1 := hR.2.1
    have f6 : 0 ≤ Vx X 6 ∧ Vx X 6 ≤ 1000 := FLT_b (hF (13, Vx X 6, Px X 6) (by simp) (by simp))
    have f8 : 0 ≤ Vx X 8 ∧ Vx X 8 ≤ 1000 := FLT_b (hF (13, Vx X 8, Px X 8) (by simp) (by simp))
    have f10 : 0 ≤ Vx X 10 ∧ Vx X 10 ≤ 1000 := FLT_b (hF (13, Vx X 10, Px X 10) (by simp) (by simp))
    obtain ⟨c', d1, d2, d3, d4⟩ := cpRow (c := c1) (p := 120 + 2 * Vx X 1) (r := r) O1 (by omega) (by omega) (by omega) ⟨by rw [o1 248 (by omega)]; exact hC.1, fun i a b => by rw [o1 _ (by omega)]; exact hC.2 i a b⟩ hR.1 hR.2.1
    obtain ⟨h', g1, g2, g3, g4, g5, g6, g7, g8, g9⟩ := waveM (f := 1168 + 46 * (Vx X 1 - 1)) hX hT (by omega) t3 t4 t6 t8 t10 q1 q2 hR.1 hR.2.1 (by omega) (by omega)
    have vv : ∀ j, 0 ≤ j → j < 5 → c' (73 + 1 * Vx X 1) j = if td' j = -2 then -1 else td' j := fun j a b => by
      rw [d4 _ (by omega) (by omega), v1 j a b]
    have u0 : c' (73 + 1 * Vx X 1) 0 = TT X 3 - 18 := by rw [vv 0 (by decide) (by decide), e', st1_ne (by decide), st1_ne (by decide), st1_ne (by decide), st1_ne (by decide), st1_eq, if_neg (by omega)]
    have u1 : c' (73 + 1 * Vx X 1) 1 = TT X 4 - 9 := by rw [vv 1 (by decide) (by decide), e', st1_ne (by decide), st1_ne (by decide), st1_ne (by decide), st1_eq, if_neg (by omega)]
    have u2 : c' (73 + 1 * Vx X 1) 2 = Vx X 6 := by rw [vv 2 (by decide) (by decide), e', st1_ne (by decide), st1_ne (by decide), st1_eq, if_neg (by omega)]
    have u3 : c' (73 + 1 * Vx X 1) 3 = Vx X 8 := by rw [vv 3 (by decide) (by decide), e', st1_ne (by decide), st1_eq, if_neg (by omega)]
    have u4 : c' (73 + 1 * Vx X 1) 4 = Vx X 10 := by rw [vv 4 (by decide) (by decide), e', st1_eq, if_neg (by omega)]
    have x1 : h' (1169 + 46 * (Vx X 1 - 1)) = TT X 4 - 9 := by rw [show 1169 + 46 * (Vx X 1 - 1) = 1168 + 46 * (Vx X 1 - 1) + 1 by omega, g3]
    have x2 : h' (1170 + 46 * (Vx X 1 - 1)) = Vx X 6 := by rw [show 1170 + 46 * (Vx X 1 - 1) = 1168 + 46 * (Vx X 1 - 1) + 2 by omega, g4]
    have x3 : h' (1171 + 46 * (Vx X 1 - 1)) = Vx X 8 := by rw [show 1171 + 46 * (Vx X 1 - 1) = 1168 + 46 * (Vx X 1 - 1) + 3 by omega, g5]
    have x4 : h' (1172 + 46 * (Vx X 1 - 1)) = Vx X 10 := by rw [show 1172 + 46 * (Vx X 1 - 1) = 1168 + 46 * (Vx X 1 - 1) + 4 by omega, g6]
    have x5 : h' (1173 + 46 * (Vx X 1 - 1)) = r.1 := by rw [show 1173 + 46 * (Vx X 1 - 1) = 1168 + 46 * (Vx X 1 - 1) + 5 by omega, g7]
    have x6 : ∀ i, 0 ≤ i → i < r.1 → h' (1174 + 46 * (Vx X 1 - 1) + i) = r.2 i := fun i a b => by rw [show 1174 + 46 * (Vx X 1 - 1) + i = 1168 + 46 * (Vx X 1 - 1) + 6 + i by omega, g8 i a b]
    have hh := wave_s (c' := c') (h := h') hs hw b1.1 b1.2 (fun o a b => by rw [d4 o (by omega) (by omega), o1 o a]) (fun i a => g9 i (by omega)) (by
      rw [g2, x5]
      refine ⟨u0, fun _ => ⟨fun j j0 j1 => ?_, d2, fun i i0 i1 => ?_⟩, fun a => by omega⟩
      · obtain z | z | z | z : j = 1 ∨ j = 2 ∨ j = 3 ∨ j = 4 := by omega
        · rw [z, u1, g3]
        · rw [z, u2, g4]
        · rw [z, u3, g5]
        · rw [z, u4, g6]
      · rw [d3 i i0 i1, x6 i i0 i1]) (by
      rw [g2, x1, x2, x3, x4, x5]
      refine ⟨by omega, by omega, fun _ => ⟨by omega, by omega, f6.1, f6.2, f8.1, f8.2, f10.1, f10.2, by omega, ?_⟩⟩
      exact RowOK_c hR (fun i a b => x6 i a b))
    exact ACT_s hp hg (e1.trans d1) (e2.trans g1) (fun o a => by rw [d4 o (by omega) (by omega), o1 o (by omega)]) hh.1 hh.2
