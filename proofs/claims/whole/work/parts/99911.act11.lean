-- L3: enter: values set, a whole statement
theorem hm_v : ∀ p ∈ List.range 9, tbl hmT (p : Int) = 0 ∨ tbl hmT (p : Int) = 500 ∨ tbl hmT (p : Int) = 1000 := by decide +kernel
theorem hm_val {p : Int} (p0 : 0 ≤ p) (p1 : p < 9) : VAL (tbl hmT p) := by
  obtain ⟨n, rfl⟩ : ∃ n : Nat, p = (n : Int) := ⟨p.toNat, by omega⟩
  have := hm_v n (List.mem_range.mpr (by omega))
  unfold VAL
  omega
theorem pal_v {X : Tx} {mX c0 m0 c m : Mem} {A i kb tg V : Int} {r : RW} {K : Mem → Int → Option Mem} (hX : XO X mX) (hT : MTK X A m0) (hs0 : SR c0 3 (m0 264)) (kc : KON c0) (km : KON m0) (hS : SEN c0 m0 r i (3, 0, V, 0)) (hG : TG c0 m0 kb tg) (V0 : 1 ≤ V) (V1 : V ≤ 12) (hV : VSR c0 m0 c m) : ∃ c' m', Ed_setValues_84 K kb tg i (4 * i) big c 0 = K c' (i + 1) ∧ M_paletteValues m V = some m' ∧ VSR c0 m0 c' m' := by
  have hS' := hS
  obtain ⟨s1, s2, s3, s4, i0, i1, w1, w2, w3, w4⟩ := hS
  have r0 := s2.1
  have r1 := s2.2.1
  have r2 := s2.2.2.1
  unfold M_paletteValues
  refine what9 (G := fun N m q => M_paletteValues_2 V N m q) (H := some) hS' hG kc km (show (2 : Int) < 3 by decide) (fun c1 m1 k p k0 k1 p0 p1 hV1 => ?_) (fun n c1 m1 hV1 => ?_) hV
  · have u := r2 k k0 k1
    have hc := hasC (p := p) hV1 kc u.1 u.2
    obtain ⟨l1, l2, l3, l4, l5, l6⟩ := hV1
    have sp := S3.p l2 (V - 1) p (by omega) (by omega) p0 p1
    have wp := l3.p (V - 1) p (by omega) (by omega) p0 p1
    have cl : ∀ n, hasP (m0 264 (6 * r.2 k)) p → Ed_setAll_21 (r.2 k + 1) tg 3 V (n + 1) c1 p = if m1 264 (732 + 9 * (V - 1) + p) = -1 then Ed_setAll_21 (r.2 k + 1) tg 3 V n c1 (p + 1) else (wD c1 tg (9 * r.2 k + p) (2000 + V)).bind fun m9 => Ed_setAll_21 (r.2 k + 1) tg 3 V n m9 (p + 1) := by
      intro n z
      rw [Ed_setAll_21, if_neg (by omega), hc.1 z, Option.bind_some, if_neg (show ¬ (1 : Int) = 0 by decide), D_cellOf_e (by omega) (by omega) p0 p1, Option.bind_some, if_pos (show (3 : Int) ≠ 4 by decide), if_pos (show (3 : Int) ≠ 5 by decide), ar_ok (by omega) (by omega), Option.bind_some, rd_pal (by omega) (by omega) p0 p1, Option.bind_some, show 48 + 1 * V = 49 + (V - 1) by omega, sp, jadd_e (x := 2000) (by omega) (by omega), jadd_e (by omega) (by omega), show 9 * (r.2 k + 1 - 1) + p = 9 * r.2 k + p by omega]
    have ml : ∀ n, M_paletteValues_2 V (n + 1) m1 (9 * k + p) = if m1 264 (732 + 9 * (V - 1) + p) < 0 then M_paletteValues_2 V n m1 (9 * k + p + 1) else (M_give m1 (r.2 k) p (2000 + V)).bind fun m7 => M_paletteValues_2 V n m7 (9 * k + p + 1) := by
      intro n
      have m259 : m1 259 = m0 259 := by rw [l1, up_ne (by decide)]
      have m271 : m1 271 = m0 271 := by rw [l1, up_ne (by decide)]
      rw [M_paletteValues_2, m259, s3, jmul_e (by omega) (by omega), if_neg (by omega), jrem_e (by omega) (by omega) (by decide) (by decide), show (9 * k + p) % 9 = p by omega, Option.bind_some, jsub_e (by omega) (by omega), jmul_e (by omega) (by omega), jadd_e (x := 732) (by omega) (by omega), jadd_e (x := 732 + 9 * (V - 1)) (by omega) (by omega), aI_ok (by omega) (by omega), Option.bind_some, jdiv_e (by omega) (by omega) (by decide) (by decide), show (9 * k + p) / 9 = k by omega, aI_ok k0 (by omega), Option.bind_some, m271, s4, jadd_e (x := 2000) (by omega) (by omega), jadd_e (x := 9 * k + p) (by omega) (by omega)]
    by_cases z : m1 264 (732 + 9 * (V - 1) + p) = -1
    · right
      refine ⟨fun n h => ?_, fun n => ?_⟩
      · show Ed_setAll_21 (r.2 k + 1) tg 3 V (n + 1) c1 p = _
        rw [cl n h, if_pos z]
      · show M_paletteValues_2 V (n + 1) m1 (9 * k + p) = M_paletteValues_2 V n m1 (9 * k + p + 1)
        rw [ml n, if_pos (by omega)]
    · left
      refine ⟨2000 + V, by unfold VAL; omega, fun n h => ?_, fun n => ?_⟩
      · show Ed_setAll_21 (r.2 k + 1) tg 3 V (n + 1) c1 p = _
        rw [cl n h, if_neg z]
      · show M_paletteValues_2 V (n + 1) m1 (9 * k + p) = (M_give m1 (r.2 k) p (2000 + V)).bind fun m3 => M_paletteValues_2 V n m3 (9 * k + p + 1)
        rw [ml n, if_neg (by omega)]
  · show M_paletteValues_2 V (n + 1) m1 (9 * r.1) = some m1
    rw [M_paletteValues_2, VSR_m hV1 259 (by decide), s3, jmul_e (by omega) (by omega), if_pos (by omega)]
theorem hom_v {X : Tx} {mX c0 m0 c m : Mem} {A i kb tg l t : Int} {r : RW} {K K5 : Mem → Int → Option Mem} (hX : XO X mX) (hT : MTK X A m0) (kc : KON c0) (km : KON m0) (hS : SEN c0 m0 r i (t, 0, 0, 0)) (ht : (t = 4 ∧ TT X l = 68) ∨ (t = 5 ∧ TT X l = 69)) (hG : TG c0 m0 kb tg) (l0 : 0 ≤ l) (l1 : l ≤ A) (hV : VSR c0 m0 c m) : ∃ c' m', Ed_setValues_84 K kb tg i (4 * i) big c 0 = K c' (i + 1) ∧ M_values_69 K5 l big m 0 = K5 m' (l + 1) ∧ VSR c0 m0 c' m' := by
  have hb := hT.2.1
  have hS' := hS
  obtain ⟨s1, s2, s3, s4, i0, i1, w1, w2, w3, w4⟩ := hS
  have r0 := s2.1
  have r1 := s2.2.1
  have r2 := s2.2.2.1
  refine what9 (G := fun N m q => M_values_69 K5 l N m q) (H := fun m => K5 m (l + 1)) hS' hG kc km (show 2 < t by omega) (fun c1 m1 k p k0 k1 p0 p1 hV1 => ?_) (fun n c1 m1 hV1 => ?_) hV
  · have u := r2 k k0 k1
    have hc := hasC (p := p) hV1 kc u.1 u.2
    have hT' := VSR_T hV1 hT
    have m259 : m1 259 = m0 259 := VSR_m hV1 259 (by decide)
    have m271 : m1 271 = m0 271 := VSR_m hV1 271 (by decide)
    have m261 : m1 261 p = tbl hmT p := by rw [VSR_m hV1 261 (by decide)]; exact km.hm p p0 p1
    have cm1 : c1 (-1) p = tbl hmT p := by rw [hV1.2.2.2.1 (-1) (by omega) (by omega)]; exact kc.home p p0 p1
    left
    refine ⟨if TT X l = 68 then tbl hmT p else -1, ?_, fun n h => ?_, fun n => ?_⟩
    · by_cases z : TT X l = 68
      · rw [if_pos z]; exact hm_val p0 p1
      · rw [if_neg z]; exact Or.inl rfl
    · show Ed_setAll_21 (r.2 k + 1) tg t 0 (n + 1) c1 p = (wD c1 tg (9 * r.2 k + p) _).bind fun m1 => Ed_setAll_21 (r.2 k + 1) tg t 0 n m1 (p + 1)
      rw [Ed_setAll_21, if_neg (by omega), hc.1 h, Option.bind_some, if_neg (show ¬ (1 : Int) = 0 by decide), D_cellOf_e (by omega) (by omega) p0 p1, Option.bind_some, show 9 * (r.2 k + 1 - 1) + p = 9 * r.2 k + p by omega, aI_ok p0 p1, Option.bind_some, cm1, jadd_e (x := p) (by omega) (by omega)]
      rcases ht with ⟨t4, tt⟩ | ⟨t5, tt⟩
      · rw [if_neg (show ¬ t ≠ 4 from fun x => x t4), if_pos tt]
      · rw [if_pos (show t ≠ 4 by omega), if_neg (show ¬ t ≠ 5 from fun x => x t5), if_neg (show ¬ TT X l = 68 by omega)]
    · show M_values_69 K5 l (n + 1) m1 (9 * k + p) = (M_give m1 (r.2 k) p _).bind fun m3 => M_values_69 K5 l n m3 (9 * k + p + 1)
      rw [M_values_69, m259, s3, jmul_e (by omega) (by omega), if_neg (by omega), jdiv_e (by omega) (by omega) (by decide) (by decide), show (9 * k + p) / 9 = k by omega, aI_ok k0 (by omega), Option.bind_some, m271, s4, wAt hX hT' l0 l1 (w := 50) (by decide) (by decide), Option.bind_some, pv50, jrem_e (by omega) (by omega) (by decide) (by decide), show (9 * k + p) % 9 = p by omega, aI_ok p0 p1, Option.bind_some, m261]
      by_cases z : TT X l = 68
      · rw [if_pos z, if_neg (by decide), if_pos z]
        unfold M_values_117
        rw [jadd_e (by omega) (by omega)]
      · rw [if_neg z, if_pos rfl, if_neg z]
        unfold M_values_117
        rw [jadd_e (by omega) (by omega)]
  · show M_values_69 K5 l (n + 1) m1 (9 * r.1) = K5 m1 (l + 1)
    rw [M_values_69, VSR_m hV1 259 (by decide), s3, jmul_e (by omega) (by omega), if_pos (by omega), jadd_e (by omega) (by omega)]
theorem parV {X : Tx} {mX m : Mem} {A k p : Int} (hX : XO X mX) (hT : MTK X A m) (k0 : 0 ≤ k) (k1 : k ≤ A) (h : parK X k p) : M_isParameterAt m k = some 1 ∧ M_parameterAt m k = some p ∧ 0 ≤ p ∧ p < 9 := by
  have hb := hT.2.1
  have hc := TT_c hX (a := k) k0 (by have := hT.1; omega) (by omega)
  obtain ⟨q1, q2, _⟩ := hT.2.2 k k0 k1
  have pa := (parAt hX hT k0 k1).1
  rcases h with ⟨t, rfl⟩ | ⟨t1, t2, rfl⟩
  · refine ⟨pa (Or.inl t), ?_, by omega, by omega⟩
    unfold M_parameterAt
    rw [aI_ok k0 (by omega), Option.bind_some, q1, if_pos (show Kx X k ≠ 1 by omega)]
  · have w := wrdV hX hT k0 k1 (by omega)
    have hV : Vx X k - 61 = TT X k - 9 := by
      obtain ⟨v, hv⟩ : ∃ v : Nat, Vx X k = (v : Int) := ⟨(Vx X k).toNat, by omega⟩
      have := rpal v (List.mem_range.mpr (by omega))
      rw [← hv] at this
      have := this (by omega) (by omega)
      omega
    refine ⟨pa (Or.inr ⟨t1, t2⟩), ?_, by omega, by omega⟩
    unfold M_parameterAt
    rw [aI_ok k0 (by omega), Option.bind_some, w.2.2.2.2.2, if_neg (fun x => x rfl), aI_ok k0 (by omega), Option.bind_some, w.1, jsub_e (by omega) (by omega), hV]
theorem vals_v {B : Int} {X : Tx} {mX c0 m0 : Mem} {A kb tg cur kn : Int} {r : RW} {WL : List Q4} (hX : XO X mX) (hT : MTK X A m0) (hA : TT X A = 70) (hp : PR B c0 m0) (hs0 : SR c0 3 (m0 264)) (hO : 280 ≤ c0 0 0) (kc : KON c0) (km : KON m0) (hC : CR c0 248 r) (hR : ROK r) (s3 : m0 259 21 = r.1) (s4 : m0 271 = r.2) (hQ : QUD c0 10 247 WL) (hl : WL.length ≤ 120) (hG : TG c0 m0 kb tg) : ∀ (L : List Q4) (i : Nat) (k : Int) (its : List It3) (N1 N2 : Nat) (c m : Mem), WL.drop i = L → WHS X L k A its → (∀ x ∈ its, fitem (m0 264) cur kn x = 0) → 0 ≤ k → L.length < N1 → L.length < N2 → VSR c0 m0 c m → ∃ c' m', Ed_setValues_66 kb tg N1 c i = some c' ∧ M_values_5 N2 m k = some m' ∧ VSR c0 m0 c' m' := by
  have hb := hT.2.1
  intro L
  induction L with
  | nil =>
    intro i k its N1 N2 c m hd hW hF k0 h1 h2 hV
    obtain ⟨rfl, _, _⟩ := hW
    obtain ⟨a, rfl⟩ : ∃ a, N1 = a + 1 := ⟨N1 - 1, by omega⟩
    obtain ⟨b, rfl⟩ : ∃ b, N2 = b + 1 := ⟨N2 - 1, by omega⟩
    have il : WL.length ≤ i := by
      have := congrArg List.length hd
      rw [List.length_drop] at this
      simp at this
      omega
    have c241 : c 241 = c0 241 := hV.2.2.2.1 241 (by omega) (by omega)
    refine ⟨c, m, ?_, ?_, hV⟩
    · rw [Ed_setValues_66, c241, hQ.1, if_pos (by omega)]
    · rw [M_values_5, sAt hX (VSR_T hV hT) k0 (Int.le_refl _) (sc := 70) (by omega), if_pos hA, Option.bind_some, if_pos (by decide)]
  | cons w L ih =>
    intro i k its N1 N2 c m hd hW hF k0 h1 h2 hV
    obtain ⟨e1, its1, its2, h3, rfl, h5⟩ := hW
    obtain ⟨a, rfl⟩ : ∃ a, N1 = a + 1 := ⟨N1 - 1, by omega⟩
    obtain ⟨b, rfl⟩ : ∃ b, N2 = b + 1 := ⟨N2 - 1, by omega⟩
    have wl := WTP_l h3
    have eA : e1 ≤ A := by
      have aux : ∀ (L : List Q4) (k : Int) (its : List It3), WHS X L k A its → k ≤ A := by
        intro L
        induction L with
        | nil => intro k its h; obtain ⟨h, _⟩ := h; omega
        | cons w L ih =>
          intro k its h
          obtain ⟨e1, _, _, h1, _, h3⟩ := h
          have a := WTP_l h1
          have b := ih _ _ h3
          omega
      exact aux _ _ _ h5
    have gi : WL[i]? = some w := by
      have : (WL.drop i)[0]? = some w := by rw [hd]; rfl
      rw [List.getElem?_drop] at this
      simpa using this
    have il : i < WL.length := by
      have := (List.getElem?_eq_some_iff.mp gi).1
      exact this
    have hd' : WL.drop (i + 1) = L := by rw [← List.drop_drop, hd]; rfl
    obtain ⟨w1, w2, w3, w4⟩ := hQ.2 i w gi
    have hS : SEN c0 m0 r i w := ⟨hC, hR, s3, s4, by omega, by omega, w1, w2, w3, w4⟩
    have hT' := VSR_T hV hT
    have c241 : c 241 = c0 241 := hV.2.2.2.1 241 (by omega) (by omega)
    have ec : Ed_setValues_66 kb tg (a + 1) c i = Ed_setValues_84 (Ed_setValues_66 kb tg a) kb tg i (4 * i) big c 0 := by
      rw [Ed_setValues_66, c241, hQ.1, if_neg (by omega), jmul_e (by omega) (by omega), Option.bind_some, show (i : Int) * 4 = 4 * i by omega]
    have F1 : ∀ x ∈ its1, fitem (m0 264) cur kn x = 0 := fun x hx => hF x (List.mem_append.mpr (Or.inl hx))
    have F2 : ∀ x ∈ its2, fitem (m0 264) cur kn x = 0 := fun x hx => hF x (List.mem_append.mpr (Or.inr hx))
    have fin : ∀ c1 m1, VSR c0 m0 c1 m1 → Ed_setValues_84 (Ed_setValues_66 kb tg a) kb tg i (4 * i) big c 0 = Ed_setValues_66 kb tg a c1 ((i : Int) + 1) → M_values_5 (b + 1) m k = M_values_5 b m1 e1 → ∃ c' m', Ed_setValues_66 kb tg (a + 1) c i = some c' ∧ M_values_5 (b + 1) m k = some m' ∧ VSR c0 m0 c' m' := by
      intro c1 m1 hV1 g1 g2
      obtain ⟨c', m', f1, f2, f3⟩ := ih (i + 1) e1 its2 a b c1 m1 hd' h5 F2 (by omega) (by simp at h1; omega) (by simp at h2; omega) hV1
      refine ⟨c', m', ?_, ?_, f3⟩
      · rw [ec, g1]; exact f1
      · rw [g2, f2]
    have nt : ¬ TT X k = 70 := by
      rcases h3 with ⟨p, ⟨t, _⟩ | ⟨t, t', _⟩, _⟩ | ⟨t, _⟩ | ⟨t, _⟩ | ⟨t, _⟩ <;> omega
    have e5 : M_values_5 (b + 1) m k = (M_isParameterAt m k).bind fun x3 => if x3 = 0 then (M_isWordAt m k 10).bind fun x5 => if x5 = 0 then M_values_69 (M_values_5 b) k big m 0 else (aI m 269 122 (jadd k 1)).bind fun x7 => (M_paletteValues m x7).bind fun m9 => M_values_5 b m9 (jadd k 2) else (M_parameterAt m k).bind fun x13 => (M_parameterValues m (jadd k 1) x13).bind fun p15 => (some p15.1).bind fun x18 => M_values_5 b p15.2 x18 := by
      rw [M_values_5, sAt hX hT' k0 (by omega) (sc := 70) (by omega), if_neg nt, Option.bind_some, if_neg (by decide)]
    rcases h3 with ⟨p, hpk, ha⟩ | ⟨t, t2, ee, ei, ew⟩ | ⟨t, ee, ei, ew⟩ | ⟨t, ee, ei, ew⟩
    · obtain ⟨pa, pb, p0, p1⟩ := parV hX hT' k0 (by omega) hpk
      obtain ⟨c1, m1, g1, g2, g3⟩ := amt_v (K := Ed_setValues_66 kb tg a) hX hT hp hs0 hO kc km hS hG ha (by omega) eA p0 p1 F1 hV
      refine fin c1 m1 g3 g1 ?_
      rw [e5, pa, Option.bind_some, if_neg (by decide), pb, Option.bind_some, jadd_e (by omega) (by omega), g2, Option.bind_some, Option.bind_some]
    · subst ee ei ew
      have hn := nAt hX hT (k := k + 1) (by omega) (by omega) t2
      have b1 : 1 ≤ Vx X (k + 1) ∧ Vx X (k + 1) ≤ 12 := FLT_b (F1 (6, Vx X (k + 1), Px X (k + 1)) (by simp))
      obtain ⟨c1, m1, g1, g2, g3⟩ := pal_v (K := Ed_setValues_66 kb tg a) hX hT hs0 kc km hS hG b1.1 b1.2 hV
      refine fin c1 m1 g3 g1 ?_
      rw [e5, (parAt hX hT' k0 (by omega)).2 (by omega), Option.bind_some, if_pos rfl, wAt hX hT' k0 (by omega) (w := 10) (by decide) (by decide), Option.bind_some, pv10, if_pos t, if_neg (by decide), jadd_e (by omega) (by omega), aI_ok (by omega) (by omega), Option.bind_some, VSR_m hV 269 (by decide), hn.2.1, g2, Option.bind_some, jadd_e (by omega) (by omega)]
    · subst ee ei ew
      obtain ⟨c1, m1, g1, g2, g3⟩ := hom_v (K := Ed_setValues_66 kb tg a) (K5 := M_values_5 b) (l := k) hX hT kc km hS (Or.inl ⟨rfl, t⟩) hG k0 (by omega) hV
      refine fin c1 m1 g3 g1 ?_
      rw [e5, (parAt hX hT' k0 (by omega)).2 (by omega), Option.bind_some, if_pos rfl, wAt hX hT' k0 (by omega) (w := 10) (by decide) (by decide), Option.bind_some, pv10, if_neg (show ¬ TT X k = 36 by omega), if_pos (show (0 : Int) = 0 from rfl), g2]
    · subst ee ei ew
      obtain ⟨c1, m1, g1, g2, g3⟩ := hom_v (K := Ed_setValues_66 kb tg a) (K5 := M_values_5 b) (l := k) hX hT kc km hS (Or.inr ⟨rfl, t⟩) hG k0 (by omega) hV
      refine fin c1 m1 g3 g1 ?_
      rw [e5, (parAt hX hT' k0 (by omega)).2 (by omega), Option.bind_some, if_pos rfl, wAt hX hT' k0 (by omega) (w := 10) (by decide) (by decide), Option.bind_some, pv10, if_neg (show ¬ TT X k = 36 by omega), if_pos (show (0 : Int) = 0 from rfl), g2]
theorem ac78 {B : Int} {X : Tx} {A cur kn op e : Int} {m0 c m : Mem} {I : List It3} {TL WL : List Q4} {td td' : Int → Int} {r : RW} (E : AE B X A m0 c m) (ht : TT X 0 = 75 ∨ TT X 0 = 64 ∨ (TT X 0 = 35 ∧ ¬ TT X 2 = 73)) (hv : c 241 0 = 78) (h : q78 X td A I TL WL td' op) (hF : ∀ x ∈ I, ¬ x.1 = 20 → fitem (m 264) cur kn x = 0) (hU : UNI X c m TL 78 e r) (hQ : QUD c 10 247 WL) (hl : WL.length ≤ 120) : ACT B c m (Ed_perform c) (M_act m) := by
  obtain ⟨hX, hT, hA, a0, hs, hw, hp, hg, kc, km, hO⟩ := E
  obtain ⟨q1, q2, q3, hU⟩ := hU
  obtain ⟨_, _, its, its2, e2, rfl, hS, hW, hwt⟩ := h
  have hb := hT.2.1
  have sl := SETP_l hS
  obtain ⟨hC, hR, rp, its', hS'⟩ : CR c 248 r ∧ ROK r ∧ 0 < r.1 ∧ ∃ its, SETP X TL (kOf 78) e its := by
    rcases hU with ⟨a, _⟩ | a
    · exact absurd a (SETP_n hS)
    · exact a
  obtain rfl : e2 = e := SETP_u hS hS'
  have F2 : ∀ x ∈ its2, fitem (m 264) cur kn x = 0 := by
    intro x hx
    refine hF x (by simp [hx]) ?_
    have aux : ∀ (L : List Q4) (k : Int) (its : List It3), WHS X L k A its → ∀ x ∈ its, ¬ x.1 = 20 := by
      intro L
      induction L with
      | nil => intro k its h x hx; obtain ⟨_, h, _⟩ := h; subst h; simp at hx
      | cons w L ih =>
        intro k its h x hx
        obtain ⟨e1, i1, i2, h1, rfl, h3⟩ := h
        rcases List.mem_append.mp hx with hx | hx
        · rcases h1 with ⟨p, _, ⟨_, _, rfl, _⟩ | ⟨_, _, _, rfl, _⟩ | ⟨_, _, _, rfl, _⟩ | ⟨_, _, _, rfl, _⟩ | ⟨_, _, _, rfl, _⟩ | ⟨_, _, _, _, rfl, _⟩⟩ | ⟨_, _, _, rfl, _⟩ | ⟨_, _, rfl, _⟩ | ⟨_, _, rfl, _⟩
          · simp at hx
          · simp at hx; subst hx; simp
          · simp at hx; subst hx; simp
          · simp at hx; subst hx; simp
          · simp at hx; subst hx; simp
          · simp at hx; rcases hx with hx | hx <;> subst hx <;> simp
          · simp at hx; subst hx; simp
          · simp at hx
          · simp at hx
        · exact ih _ _ h3 x hx
    exact aux _ _ _ hW x hx
  have e1 : ∃ kb tg, TG c m kb tg ∧ Ed_perform c = Ed_setValues_66 kb tg big c 0 := by
    have e0 : Ed_perform c = Ed_setValues c := by
      unfold Ed_perform
      rw [Option.bind_some, Option.bind_some, hv]
      show ((Ed_setValues c).bind fun m45 => some m45) = _
      rw [bsm]
    have sb := S3.b hs
    have wb := hw.b
    rw [e0]
    unfold Ed_setValues
    rw [sb]
    by_cases z : m 264 12722 = -1
    · refine ⟨-1, 80, Or.inl ⟨z, rfl, rfl⟩, ?_⟩
      rw [if_neg (fun x => x z)]
      rfl
    · rw [if_pos z]
      have rv : ¬ rowOf (m 264) (m 264 12722) < 0 := by
        rcases wb with x | ⟨x1, x2, rr, y0, y1, y2⟩
        · exact absurd x z
        · have := rowOf_at hw.n y0 y1 (by omega)
          rw [y2] at this
          omega
      obtain ⟨k0, k1, k2, k3, k4⟩ := cix_f hs hw rv
      have n30 := (S3.n hs).2
      refine ⟨cix c (m 264 12722), c 79 (cix c (m 264 12722)) + 2, Or.inr ⟨k0, k1, k2, (row_v hw rv).2.2.1, rfl⟩, ?_⟩
      rw [k4, Option.bind_some]
      unfold Ed_setValues_29
      rw [if_pos k0, aI_ok k0 (by omega), Option.bind_some, cq_g2 hs hO k0 (by omega), Option.bind_some]
      rfl
  have em : M_act m = M_values_5 big m e2 := by
    have ev : M_values m = M_values_5 big m e2 := by
      unfold M_values
      rw [Option.bind_some, q3]
    rcases ht with t | t | ⟨t, t'⟩
    · rw [(ckN hX hT a0 (by omega)).2]
      show (((((M_values m).bind fun m14 => some m14).bind fun m1 => some m1).bind fun m1 => some m1)) = _
      rw [bsm, bsm, bsm, ev]
    · rw [(ckV hX hT a0 (w := 0) (by decide) (by decide) (by decide) (by decide) t).2]
      show (((((M_values m).bind fun m14 => some m14).bind fun m1 => some m1).bind fun m1 => some m1)) = _
      rw [bsm, bsm, bsm, ev]
    · have A2 : 2 ≤ A := by
        obtain ⟨tm, tms, e1, i1, i2, _, h1, _, h3⟩ := hS
        have ml := MORE_l _ _ _ _ h3
        have wk : e2 ≤ A := by
          have aux : ∀ (L : List Q4) (k : Int) (its : List It3), WHS X L k A its → k ≤ A := by
            intro L
            induction L with
            | nil => intro k its h; obtain ⟨h, _⟩ := h; omega
            | cons w L ih =>
              intro k its h
              obtain ⟨e1, _, _, h1, _, h3⟩ := h
              have a := WTP_l h1
              have b := ih _ _ h3
              omega
          exact aux _ _ _ hW
        rcases h1 with ⟨x, _⟩ | ⟨_, _, x, _⟩ | ⟨x, _⟩ | ⟨x, _⟩ <;> omega
      rw [(ckV hX hT a0 (w := 1) (by decide) (by decide) (by decide) (by decide) t).2]
      show ((M_isSignAt m 2 61).bind fun x1 => if x1 = 0 then (M_values m).bind fun m3 => some m3 else (M_makeGroup m (jadd 240 (jmul 41 (jsub (m 269 1) 1)))).bind fun m6 => some m6) = _
      rw [sAt hX hT (k := 2) (sc := 73) (by decide) A2 (by omega), Option.bind_some, if_neg t', if_pos rfl, bsm, ev]
  obtain ⟨kb, tg, hG, e1⟩ := e1
  obtain ⟨c', m', f1, f2, l1, l2, l3, l4, l5, l6⟩ := vals_v (cur := cur) (kn := kn) hX hT hA hp hs hO kc km hC hR q1 q2 hQ hl hG WL 0 e2 its2 big big c m (by simp) hW F2 (by omega) (by have := big_ge; omega) (by have := big_ge; omega) ⟨up_id.symm, hs, hw, fun _ _ _ => rfl, fun _ _ => rfl, fun _ _ _ => rfl⟩
  refine ACT_s (h := m' 264) hp hg (c' := c') (by rw [e1]; exact f1) (by rw [em, f2, ← l1]) (fun o a => l4 o (by omega) (by omega)) l2 l3
