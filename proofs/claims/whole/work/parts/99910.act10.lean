-- L3: enter: values set, the whole statement
theorem pv48 : tbl piT 48 = 66 := by decide
theorem pv49 : tbl piT 49 = 67 := by decide
theorem pv2 : tbl piT 2 = 65 := by decide
theorem pv50 : tbl piT 50 = 68 := by decide
theorem pv10 : tbl piT 10 = 36 := by decide
theorem VSR_m {c0 m0 c m : Mem} (h : VSR c0 m0 c m) : ∀ o, ¬ o = 264 → m o = m0 o := fun o a => by rw [h.1, up_ne a]
theorem VSR_T {X : Tx} {A : Int} {c0 m0 c m : Mem} (h : VSR c0 m0 c m) (hT : MTK X A m0) : MTK X A m := MTK_c hT (VSR_m h 268 (by decide)) (VSR_m h 269 (by decide)) (VSR_m h 270 (by decide))
theorem v222 {c0 m0 c m : Mem} {r : RW} {l1 p l4 l5 l6 l7 l8 q v : Int} {K : Mem → Int → Option (Int × Mem)} (s4 : m0 271 = r.2) (hV : VSR c0 m0 c m) (q0 : 0 ≤ q) (q1 : q < 40) : M_parameterValues_222 K m l1 p l4 l5 l6 l7 l8 q v = (M_give m (r.2 q) p v).bind fun m3 => K m3 (q + 1) := by
  unfold M_parameterValues_222
  rw [aI_ok q0 q1, Option.bind_some, VSR_m hV 271 (by decide), s4, jadd_e (by omega) (by omega)]
theorem v168 {c0 m0 c m : Mem} {r : RW} {l1 p l4 l7 l8 q v : Int} {K : Mem → Int → Option (Int × Mem)} (s4 : m0 271 = r.2) (hV : VSR c0 m0 c m) (q0 : 0 ≤ q) (q1 : q < 40) : M_parameterValues_168 K m l1 p l4 0 0 l7 l8 q v = (M_give m (r.2 q) p v).bind fun m3 => K m3 (q + 1) := by
  unfold M_parameterValues_168
  rw [if_pos rfl]
  unfold M_parameterValues_196
  rw [if_pos rfl, v222 s4 hV q0 q1]
theorem st_pl {c0 m0 c m : Mem} {r : RW} {l1 p l4 l7 q : Int} {k : Nat} (s3 : m0 259 21 = r.1) (s4 : m0 271 = r.2) (r1 : r.1 ≤ 40) (hV : VSR c0 m0 c m) (q0 : 0 ≤ q) (q1 : q < r.1) : M_parameterValues_105 l1 p l4 0 0 l7 0 (k + 1) m q = (M_give m (r.2 q) p (if l4 = 0 then l7 else jadd 2000 l7)).bind fun m3 => M_parameterValues_105 l1 p l4 0 0 l7 0 k m3 (q + 1) := by
  have h : ∀ v, M_parameterValues_130 (M_parameterValues_105 l1 p l4 0 0 l7 0 k) m l1 p l4 0 0 l7 0 q v = (M_give m (r.2 q) p v).bind fun m3 => M_parameterValues_105 l1 p l4 0 0 l7 0 k m3 (q + 1) := by
    intro v
    unfold M_parameterValues_130
    rw [if_pos rfl, v168 s4 hV q0 (by omega)]
  rw [M_parameterValues_105, VSR_m hV 259 (by decide), s3, if_neg (by omega), h, h]
  by_cases z : l4 = 0
  · rw [if_pos z, if_pos z]
  · rw [if_neg z, if_neg z]
theorem st_th {c0 m0 c m : Mem} {r : RW} {l1 p l7 q b : Int} {k : Nat} (s3 : m0 259 21 = r.1) (s4 : m0 271 = r.2) (r1 : r.1 ≤ 40) (hV : VSR c0 m0 c m) (l0 : 0 ≤ l1) (l2 : l1 + 2 < 122) (hb : m0 269 (l1 + 2) = b) (q0 : 0 ≤ q) (q1 : q < r.1) : M_parameterValues_105 l1 p 0 0 0 l7 1 (k + 1) m q = (M_give m (r.2 q) p (if r.1 ≤ 1 then l7 else mixJ l7 b q (r.1 - 1))).bind fun m3 => M_parameterValues_105 l1 p 0 0 0 l7 1 k m3 (q + 1) := by
  rw [M_parameterValues_105, VSR_m hV 259 (by decide), s3, if_neg (by omega), if_pos rfl]
  unfold M_parameterValues_130
  rw [if_neg (show ¬ (1 : Int) = 0 by decide), VSR_m hV 259 (by decide), s3]
  by_cases z : r.1 ≤ 1
  · rw [if_pos z, if_pos z, v168 s4 hV q0 (by omega)]
  · rw [if_neg z, if_neg z, jadd_e (by omega) (by omega), aI_ok (by omega) (by omega), Option.bind_some, VSR_m hV 269 (by decide), hb, jsub_e (y := 1) (by omega) (by omega)]
    unfold M_mix
    rw [if_neg (show ¬ r.1 - 1 = 0 by omega), Option.bind_some, v168 s4 hV q0 (by omega)]
    rfl
theorem st_mo {c0 m0 c m : Mem} {r : RW} {l1 p l7 q L : Int} {k : Nat} (s3 : m0 259 21 = r.1) (s4 : m0 271 = r.2) (r1 : r.1 ≤ 40) (hV : VSR c0 m0 c m) (q0 : 0 ≤ q) (q1 : q < r.1) (hL : M_present m (r.2 q) p = some L) : M_parameterValues_105 l1 p 0 1 0 l7 0 (k + 1) m q = (M_give m (r.2 q) p (mnI 1000 (jadd L l7))).bind fun m3 => M_parameterValues_105 l1 p 0 1 0 l7 0 k m3 (q + 1) := by
  rw [M_parameterValues_105, VSR_m hV 259 (by decide), s3, if_neg (by omega), if_pos rfl]
  unfold M_parameterValues_130
  rw [if_pos rfl]
  unfold M_parameterValues_168
  rw [if_neg (show ¬ (1 : Int) = 0 by decide), aI_ok q0 (by omega), Option.bind_some, VSR_m hV 271 (by decide), s4, hL, Option.bind_some, Option.bind_some]
  unfold M_parameterValues_196
  rw [if_pos rfl, v222 s4 hV q0 (by omega)]
theorem st_le {c0 m0 c m : Mem} {r : RW} {l1 p l7 q L : Int} {k : Nat} (s3 : m0 259 21 = r.1) (s4 : m0 271 = r.2) (r1 : r.1 ≤ 40) (hV : VSR c0 m0 c m) (q0 : 0 ≤ q) (q1 : q < r.1) (hL : M_present m (r.2 q) p = some L) : M_parameterValues_105 l1 p 0 0 1 l7 0 (k + 1) m q = (M_give m (r.2 q) p (mxI 0 (jsub L l7))).bind fun m3 => M_parameterValues_105 l1 p 0 0 1 l7 0 k m3 (q + 1) := by
  rw [M_parameterValues_105, VSR_m hV 259 (by decide), s3, if_neg (by omega), if_pos rfl]
  unfold M_parameterValues_130
  rw [if_pos rfl]
  unfold M_parameterValues_168
  rw [if_pos rfl]
  unfold M_parameterValues_196
  rw [if_neg (show ¬ (1 : Int) = 0 by decide), aI_ok q0 (by omega), Option.bind_some, VSR_m hV 271 (by decide), s4, hL, Option.bind_some, Option.bind_some, v222 s4 hV q0 (by omega)]
theorem pvE {X : Tx} {m0 c0 c m : Mem} {mX : Mem} {A k p : Int} (hX : XO X mX) (hT : MTK X A m0) (hV : VSR c0 m0 c m) (k0 : 0 ≤ k) (k1 : k + 1 ≤ A) : M_parameterValues m k p = (if TT X k = 66 then M_parameterValues_72 m k p 0 0 0 1000 else if TT X k = 75 then M_parameterValues_72 m k p 0 0 0 (m0 269 k) else M_parameterValues_72 m k p (if TT X k = 67 then 1 else 0) (if TT X k = 71 then 1 else 0) (if TT X k = 72 then 1 else 0) (m0 269 (k + 1))) := by
  have hT' := VSR_T hV hT
  have hb := hT.2.1
  obtain ⟨e1, e2⟩ := kind_2 hX hT' k0 (by omega)
  unfold M_parameterValues
  rw [wAt hX hT' k0 (by omega) (w := 48) (by decide) (by decide), wAt hX hT' k0 (by omega) (w := 49) (by decide) (by decide), sAt hX hT' k0 (by omega) (sc := 71) (by omega), sAt hX hT' k0 (by omega) (sc := 72) (by omega), Option.bind_some, Option.bind_some, Option.bind_some, Option.bind_some, pv48, pv49, e1, Option.bind_some, jadd_e (by omega) (by omega), aI_ok (i := k + 1) (by omega) (by omega), aI_ok k0 (by omega), Option.bind_some, Option.bind_some, VSR_m hV 269 (by decide)]
  by_cases z : TT X k = 66
  · rw [if_pos z, if_neg (by decide), if_pos z, if_neg (by omega), if_neg (by omega), if_neg (by omega)]
  · rw [if_neg z, if_pos rfl, if_neg z]
    by_cases y : TT X k = 75
    · rw [if_neg (fun x => x (e2.mpr y)), if_pos y, if_neg (by omega), if_neg (by omega), if_neg (by omega)]
    · rw [if_pos (fun x => y (e2.mp x)), if_neg y]
theorem pv72 {X : Tx} {m0 c0 c m : Mem} {mX : Mem} {A k p l4 l5 l6 l7 : Int} (hX : XO X mX) (hT : MTK X A m0) (hV : VSR c0 m0 c m) (k0 : 0 ≤ k) (k1 : k + 1 ≤ A) : M_parameterValues_72 m k p l4 l5 l6 l7 = M_parameterValues_105 k p l4 l5 l6 l7 (if TT X k = 75 ∧ TT X (k + 1) = 65 then 1 else 0) big m 0 := by
  have hT' := VSR_T hV hT
  have hb := hT.2.1
  obtain ⟨e1, e2⟩ := kind_2 hX hT' k0 (by omega)
  unfold M_parameterValues_72
  rw [e1, Option.bind_some, jadd_e (by omega) (by omega), wAt hX hT' (by omega) k1 (w := 2) (by decide) (by decide), Option.bind_some, pv2]
  by_cases y : TT X k = 75
  · rw [if_neg (fun x => x (e2.mpr y))]
    by_cases z : TT X (k + 1) = 65
    · rw [if_pos z, if_neg (by decide), if_pos ⟨y, z⟩]
    · rw [if_neg z, if_pos rfl, if_neg (fun x => z x.2)]
  · rw [if_pos (fun x => y (e2.mp x)), if_neg (fun x => y x.1)]
theorem pv_ex {c0 m0 c m : Mem} {r : RW} {l1 p l4 l5 l6 l7 l8 E : Int} {k : Nat} (s3 : m0 259 21 = r.1) (hV : VSR c0 m0 c m) (l0 : 0 ≤ l1) (l2 : l1 ≤ 200) (hE : E = if l8 = 0 then (if l4 ≠ 0 ∨ l5 ≠ 0 ∨ l6 ≠ 0 then l1 + 2 else l1 + 1) else l1 + 3) : M_parameterValues_105 l1 p l4 l5 l6 l7 l8 (k + 1) m r.1 = some (E, m) := by
  rw [M_parameterValues_105, VSR_m hV 259 (by decide), s3, if_pos (Int.le_refl _), jadd_e (by omega) (by omega), jadd_e (by omega) (by omega), jadd_e (by omega) (by omega), hE]
  repeat' split
  all_goals first | rfl | (exfalso; omega)
/-- a parameter's value, over all units -/
theorem amt_v {B : Int} {X : Tx} {mX c0 m0 c m : Mem} {A k p e i kb tg : Int} {r : RW} {w : Q4} {its : List It3} {cur kn : Int} {K : Mem → Int → Option Mem} (hX : XO X mX) (hT : MTK X A m0) (hp : PR B c0 m0) (hs0 : SR c0 3 (m0 264)) (hO : 280 ≤ c0 0 0) (kc : KON c0) (km : KON m0) (hS : SEN c0 m0 r i w) (hG : TG c0 m0 kb tg) (ha : AMT X k p e its w) (k0 : 0 ≤ k) (e1 : e ≤ A) (p0 : 0 ≤ p) (p1 : p < 9) (hF : ∀ x ∈ its, fitem (m0 264) cur kn x = 0) (hV : VSR c0 m0 c m) : ∃ c' m', Ed_setValues_84 K kb tg i (4 * i) big c 0 = K c' (i + 1) ∧ M_parameterValues m k p = some (e, m') ∧ VSR c0 m0 c' m' := by
  have hb := hT.2.1
  have hS' := hS
  obtain ⟨s1, s2, s3, s4, i0, i1, w1, w2, w3, w4⟩ := hS
  have r0 := s2.1
  have r1 := s2.2.1
  have r2 := s2.2.2.1
  have kA : k + 1 ≤ A := by rcases ha with ⟨_, a, _⟩ | ⟨_, _, a, _⟩ | ⟨_, _, a, _⟩ | ⟨_, _, a, _⟩ | ⟨_, _, a, _⟩ | ⟨_, _, _, a, _⟩ <;> omega
  rw [pvE hX hT hV k0 kA]
  have cell : ∀ (c1 : Mem) q, 0 ≤ q → q < r.1 → D_cellOf c1 (r.2 q + 1) p = some (9 * r.2 q + p) := by
    intro c1 q q0 q1
    have u := r2 q q0 q1
    rw [D_cellOf_e (by omega) (by omega) p0 p1, show r.2 q + 1 - 1 = r.2 q by omega]
  rcases ha with ⟨t, rfl, rfl, rfl⟩ | ⟨t, t2, rfl, rfl, rfl⟩ | ⟨t, t2, rfl, rfl, rfl⟩ | ⟨t, t2, rfl, rfl, rfl⟩ | ⟨t, t2, rfl, rfl, rfl⟩ | ⟨t, t2, t3, rfl, rfl, rfl⟩
  · rw [if_pos t, pv72 hX hT hV k0 kA, if_neg (by omega)]
    refine what1 hS' hG kc km p0 p1 (by simp) (fun c1 m1 q q0 q1 hV1 => ⟨1000, by unfold VAL; omega, fun z => ?_, fun n => ?_⟩) (fun n c1 m1 hV1 => pv_ex s3 hV1 k0 (by omega) (by simp)) hV
    · have oh := (one_h (tg := tg) (kb := kb) hS' hV1 kc q0 q1).1 z
      rw [oh]
      unfold oneB
      rw [cell c1 q q0 q1, Option.bind_some, if_pos (show (0 : Int) = 0 from rfl)]
    · rw [st_pl s3 s4 r1 hV1 q0 q1, if_pos rfl]
  · have hn := nAt hX hT (k := k + 1) (by omega) (by omega) t2
    have b1 : 1 ≤ Vx X (k + 1) ∧ Vx X (k + 1) ≤ 12 := FLT_b (hF (6, Vx X (k + 1), Px X (k + 1)) (by simp))
    rw [if_neg (by omega), if_neg (by omega), if_pos t, if_neg (by omega), if_neg (by omega), hn.2.1, pv72 hX hT hV k0 kA, if_neg (by omega)]
    refine what1 hS' hG kc km p0 p1 (by simp) (fun c1 m1 q q0 q1 hV1 => ⟨2000 + Vx X (k + 1), by unfold VAL; omega, fun z => ?_, fun n => ?_⟩) (fun n c1 m1 hV1 => pv_ex s3 hV1 k0 (by omega) (by simp)) hV
    · have oh := (one_h (tg := tg) (kb := kb) hS' hV1 kc q0 q1).1 z
      rw [oh]
      unfold oneB
      rw [cell c1 q q0 q1, Option.bind_some, if_pos (show (0 : Int) = 0 from rfl)]
    · rw [st_pl s3 s4 r1 hV1 q0 q1, if_neg (by decide), jadd_e (by omega) (by omega)]
  · have hn := nAt hX hT (k := k + 1) (by omega) (by omega) t2
    have b1 : 0 ≤ Vx X (k + 1) ∧ Vx X (k + 1) ≤ 1000 := FLT_b (hF (13, Vx X (k + 1), Px X (k + 1)) (by simp))
    rw [if_neg (by omega), if_neg (by omega), if_neg (by omega), if_pos t, if_neg (by omega), hn.2.1, pv72 hX hT hV k0 kA, if_neg (by omega)]
    refine what1 hS' hG kc km p0 p1 (by simp) (fun c1 m1 q q0 q1 hV1 => ?_) (fun n c1 m1 hV1 => pv_ex s3 hV1 k0 (by omega) (by simp)) hV
    have u := r2 q q0 q1
    obtain ⟨L, L1, L2, L3, L4⟩ := prs hp hs0 hO hV1 hG kc km u.1 u.2 p0 p1
    refine ⟨mnI 1000 (jadd L (Vx X (k + 1))), ?_, fun z => ?_, fun n => st_mo s3 s4 r1 hV1 q0 q1 L2⟩
    · rw [jadd_e (by omega) (by omega)]; unfold VAL mnI; split <;> omega
    · have oh := (one_h (tg := tg) (kb := kb) hS' hV1 kc q0 q1).1 z
      rw [oh]
      unfold oneB
      dsimp only
      rw [cell c1 q q0 q1, Option.bind_some]
      rw [if_neg (show ¬ (2 : Int) = 0 by decide), if_neg (show ¬ (2 : Int) = 1 by decide), L1, Option.bind_some, jadd_e (by omega) (by omega)]
      congr 1
      unfold mxI mnI
      split <;> split <;> omega
  · have hn := nAt hX hT (k := k + 1) (by omega) (by omega) t2
    have b1 : 0 ≤ Vx X (k + 1) ∧ Vx X (k + 1) ≤ 1000 := FLT_b (hF (13, Vx X (k + 1), Px X (k + 1)) (by simp))
    rw [if_neg (by omega), if_neg (by omega), if_neg (by omega), if_neg (by omega), if_pos t, hn.2.1, pv72 hX hT hV k0 kA, if_neg (by omega)]
    refine what1 hS' hG kc km p0 p1 (by simp) (fun c1 m1 q q0 q1 hV1 => ?_) (fun n c1 m1 hV1 => pv_ex s3 hV1 k0 (by omega) (by simp)) hV
    have u := r2 q q0 q1
    obtain ⟨L, L1, L2, L3, L4⟩ := prs hp hs0 hO hV1 hG kc km u.1 u.2 p0 p1
    refine ⟨mxI 0 (jsub L (Vx X (k + 1))), ?_, fun z => ?_, fun n => st_le s3 s4 r1 hV1 q0 q1 L2⟩
    · rw [jsub_e (by omega) (by omega)]; unfold VAL mxI; split <;> omega
    · have oh := (one_h (tg := tg) (kb := kb) hS' hV1 kc q0 q1).1 z
      rw [oh]
      unfold oneB
      dsimp only
      rw [cell c1 q q0 q1, Option.bind_some]
      rw [if_neg (show ¬ (2 : Int) = 0 by decide), if_neg (show ¬ (2 : Int) = 1 by decide), L1, Option.bind_some, jadd_e (by omega) (by omega), jsub_e (by omega) (by omega)]
      congr 1
      unfold mxI mnI
      show (if 0 < (if L + -Vx X (k + 1) < 1000 then L + -Vx X (k + 1) else 1000) then (if L + -Vx X (k + 1) < 1000 then L + -Vx X (k + 1) else 1000) else 0) = if 0 < L - Vx X (k + 1) then L - Vx X (k + 1) else 0
      split <;> split <;> omega
  · have hn := nAt hX hT (k := k) (by omega) (by omega) t
    have b1 : 0 ≤ Vx X k ∧ Vx X k ≤ 1000 := FLT_b (hF (13, Vx X k, Px X k) (by simp))
    rw [if_neg (by omega), if_pos t, hn.2.1, pv72 hX hT hV k0 kA, if_neg (fun x => t2 x.2)]
    refine what1 hS' hG kc km p0 p1 (by simp) (fun c1 m1 q q0 q1 hV1 => ⟨Vx X k, by unfold VAL; omega, fun z => ?_, fun n => ?_⟩) (fun n c1 m1 hV1 => pv_ex s3 hV1 k0 (by omega) (by simp)) hV
    · have oh := (one_h (tg := tg) (kb := kb) hS' hV1 kc q0 q1).1 z
      rw [oh]
      unfold oneB
      rw [cell c1 q q0 q1, Option.bind_some, if_pos (show (0 : Int) = 0 from rfl)]
    · rw [st_pl s3 s4 r1 hV1 q0 q1, if_pos rfl]
  · have hn := nAt hX hT (k := k) (by omega) (by omega) t
    have hn2 := nAt hX hT (k := k + 2) (by omega) (by omega) t3
    have b1 : 0 ≤ Vx X k ∧ Vx X k ≤ 1000 := FLT_b (hF (13, Vx X k, Px X k) (by simp))
    have b2 : 0 ≤ Vx X (k + 2) ∧ Vx X (k + 2) ≤ 1000 := FLT_b (hF (13, Vx X (k + 2), Px X (k + 2)) (by simp))
    rw [if_neg (by omega), if_pos t, hn.2.1, pv72 hX hT hV k0 kA, if_pos ⟨t, t2⟩]
    refine what1 hS' hG kc km p0 p1 (by simp) (fun c1 m1 q q0 q1 hV1 => ⟨if r.1 ≤ 1 then Vx X k else mixJ (Vx X k) (Vx X (k + 2)) q (r.1 - 1), ?_, fun z => ?_, fun n => st_th s3 s4 r1 hV1 k0 (by omega) hn2.2.1 q0 q1⟩) (fun n c1 m1 hV1 => pv_ex s3 hV1 k0 (by omega) (by simp)) hV
    · by_cases y : r.1 ≤ 1
      · rw [if_pos y]; unfold VAL; omega
      · rw [if_neg y]
        have := mixJ_r (a := Vx X k) (b := Vx X (k + 2)) (p := q) (q := r.1 - 1) b1.1 b1.2 b2.1 b2.2 q0 (by omega) (by omega) (by omega)
        unfold VAL; omega
    · have oh := (one_h (tg := tg) (kb := kb) hS' hV1 kc q0 q1).1 z
      rw [oh]
      unfold oneB
      dsimp only
      rw [cell c1 q q0 q1, Option.bind_some]
      rw [if_neg (show ¬ (1 : Int) = 0 by decide), if_pos (show (1 : Int) = 1 from rfl)]
      by_cases y : r.1 ≤ 1
      · rw [if_neg (show ¬ 1 ≤ r.1 - 1 by omega), if_pos y]
      · rw [if_pos (show 1 ≤ r.1 - 1 by omega), if_neg y]
        rfl
