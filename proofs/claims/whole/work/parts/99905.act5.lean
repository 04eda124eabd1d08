-- L3: enter: the patch
theorem pp6 : tbl piT 6 = 30 := by decide
theorem pp7 : tbl piT 7 = 31 := by decide
theorem pp8 : tbl piT 8 = 32 := by decide
theorem pp5 : tbl piT 5 = 29 := by decide
theorem p161_e {X : Tx} {m0 μ : Mem} {A k F : Int} {K : Mem → Int → Option Mem} (hX : XO X m0) (hT : MTK X A μ) (k0 : 0 ≤ k) (k1 : k ≤ A) (F0 : 0 ≤ F) (F1 : F ≤ 300) : M_patch_161 K μ F k = K (if TT X k = 32 then up μ 264 (st1 (μ 264) (F + 5) 1) else μ) (k + 1) := by
  have hb := hT.2.1
  unfold M_patch_161
  rw [wAt hX hT k0 k1 (w := 8) (by decide) (by decide), Option.bind_some, pp8]
  by_cases z : TT X k = 32
  · rw [if_pos z, if_neg (by decide), if_pos z, jadd_e (x := F) (by omega) (by omega), sI_up (by omega) (by omega), Option.bind_some, jadd_e (by omega) (by omega)]
  · rw [if_neg z, if_pos rfl, if_neg z, jadd_e (by omega) (by omega)]
theorem p142_e {X : Tx} {m0 μ : Mem} {A k F : Int} {K : Mem → Int → Option Mem} (hX : XO X m0) (hT : MTK X A μ) (k0 : 0 ≤ k) (k1 : k ≤ A) (F0 : 0 ≤ F) (F1 : F ≤ 300) : M_patch_142 K μ F k = K (if TT X k = 31 then up μ 264 (st1 (μ 264) (F + 4) 1) else if TT X k = 32 then up μ 264 (st1 (μ 264) (F + 5) 1) else μ) (k + 1) := by
  unfold M_patch_142
  rw [wAt hX hT k0 k1 (w := 7) (by decide) (by decide), Option.bind_some, pp7]
  by_cases z : TT X k = 31
  · rw [if_pos z, if_neg (by decide), if_pos z, jadd_e (by omega) (by omega), sI_up (by omega) (by omega), Option.bind_some, p161_e hX (MTK_g4 hT) k0 k1 F0 F1, if_neg (by omega)]
  · rw [if_neg z, if_pos rfl, if_neg z, p161_e hX hT k0 k1 F0 F1]
theorem p116_e {X : Tx} {m0 μ : Mem} {A k F : Int} {K : Mem → Int → Option Mem} (hX : XO X m0) (hT : MTK X A μ) (k0 : 0 ≤ k) (k1 : k + 1 ≤ A) (F0 : 0 ≤ F) (F1 : F ≤ 300) : M_patch_116 K μ F k = K (if TT X k = 30 then up μ 264 (st1 (μ 264) (F + 3) (μ 269 (k + 1))) else if TT X k = 31 then up μ 264 (st1 (μ 264) (F + 4) 1) else if TT X k = 32 then up μ 264 (st1 (μ 264) (F + 5) 1) else μ) (k + 1) := by
  have hb := hT.2.1
  unfold M_patch_116
  rw [wAt hX hT k0 (by omega) (w := 6) (by decide) (by decide), Option.bind_some, pp6]
  by_cases z : TT X k = 30
  · rw [if_pos z, if_neg (by decide), if_pos z, jadd_e (x := k) (by omega) (by omega), aI_ok (by omega) (by omega), Option.bind_some, jadd_e (by omega) (by omega), sI_up (by omega) (by omega), Option.bind_some, p142_e hX (MTK_g4 hT) k0 (by omega) F0 F1, if_neg (by omega), if_neg (by omega)]
  · rw [if_neg z, if_pos rfl, if_neg z, p142_e hX hT k0 (by omega) F0 F1]
/-- one token of the options -/
theorem p81_s {X : Tx} {m0 μ : Mem} {A k F : Int} {N : Nat} (hX : XO X m0) (hT : MTK X A μ) (k0 : 0 ≤ k) (k1 : k + 1 ≤ A) (F0 : 0 ≤ F) (F1 : F ≤ 300) (h : ¬ TT X k = 70) : M_patch_81 F (N + 1) μ k = M_patch_81 F N (if TT X k = 29 then up μ 264 (st1 (μ 264) (F + 2) (μ 269 (k + 1))) else if TT X k = 30 then up μ 264 (st1 (μ 264) (F + 3) (μ 269 (k + 1))) else if TT X k = 31 then up μ 264 (st1 (μ 264) (F + 4) 1) else if TT X k = 32 then up μ 264 (st1 (μ 264) (F + 5) 1) else μ) (k + 1) := by
  have hb := hT.2.1
  rw [M_patch_81, sAt hX hT k0 (by omega) (sc := 70) (by omega), if_neg h, Option.bind_some, if_neg (by decide), wAt hX hT k0 (by omega) (w := 5) (by decide) (by decide), Option.bind_some, pp5]
  by_cases z : TT X k = 29
  · rw [if_pos z, if_neg (by decide), if_pos z, jadd_e (x := k) (by omega) (by omega), aI_ok (by omega) (by omega), Option.bind_some, jadd_e (by omega) (by omega), sI_up (by omega) (by omega), Option.bind_some, p116_e hX (MTK_g4 hT) k0 k1 F0 F1, if_neg (by omega), if_neg (by omega), if_neg (by omega)]
  · rw [if_neg z, if_pos rfl, if_neg z, p116_e hX hT k0 k1 F0 F1]
def PTO (g td : Int → Int) (F : Int) : Prop := g (F + 2) = (if td 0 = -2 then 1000 else td 0) ∧ g (F + 3) = (if td 1 = -2 then 0 else td 1) ∧ g (F + 4) = (if td 2 = -2 then 0 else td 2) ∧ g (F + 5) = (if td 3 = -2 then 0 else td 3)
theorem pat81 {X : Tx} {m0 : Mem} {A F V : Int} (hX : XO X m0) (hA : TT X A = 70) (F0 : 0 ≤ F) (F1 : F ≤ 300) (V0 : 1 ≤ V) (V1 : V ≤ 40) : ∀ (L : List (Int × Int)) (k : Int) (its : List It3) (td td' : Int → Int) (μ : Mem) (N : Nat), OPL X 29 32 2 slP rlP 1 L k A its td td' → MTK X A μ → μ 269 1 = V → 1 ≤ k → A - k < N → PTO (μ 264) td F → ∃ h, M_patch_81 F N μ k = some (up (up μ 264 h) 279 (st1 (μ 279) (V - 1) 0)) ∧ PTO h td' F ∧ (∀ i, ¬ (F + 2 ≤ i ∧ i < F + 6) → h i = μ 264 i) := by
  intro L
  induction L with
  | nil =>
    intro k its td td' μ N hO hT hV k1 hN hP
    have hb := hT.2.1
    obtain ⟨rfl, rfl, rfl, _⟩ := hO
    obtain ⟨N, rfl⟩ : ∃ j, N = j + 1 := ⟨N - 1, by omega⟩
    refine ⟨μ 264, ?_, hP, fun _ _ => rfl⟩
    rw [M_patch_81, sAt hX hT (by omega) (Int.le_refl _) (sc := 70) (by omega), if_pos hA, Option.bind_some, if_pos (by decide), hV, jsub_e (by omega) (by omega), sI_up (by omega) (by omega), Option.bind_some, up_id]
  | cons sv L ih =>
    intro k its td td' μ N hO hT hV k1 hN hP
    have hb := hT.2.1
    obtain ⟨its1, its2, e1, t1, t2, h3, h4, h5, rfl, hO2⟩ := hO
    have ol := OPL_l L e1 A its2 _ td' hO2
    have h3' : sv.1 = TT X k - 29 := h3
    obtain ⟨q1, q2, q3, q4⟩ := hP
    rcases h5 with ⟨x1, x2, x3, rfl, rfl⟩ | ⟨x1, x2, rfl, rfl⟩
    · obtain ⟨N, rfl⟩ : ∃ j, N = j + 1 + 1 := ⟨N - 2, by omega⟩
      have hn := nAt hX hT (k := k + 1) (by omega) (by omega) x2
      obtain z | z : TT X k = 29 ∨ TT X k = 30 := by omega
      · have s0 : sv.1 = 0 := by omega
        obtain ⟨h, g1, g2, g3⟩ := ih (k + 2) its2 (st1 td sv.1 sv.2) td' (up μ 264 (st1 (μ 264) (F + 2) (Vx X (k + 1)))) N hO2 (MTK_g4 hT) (by rw [up_ne (by decide)]; exact hV) (by omega) (by omega) (by
          rw [up_eq, s0, x3]
          refine ⟨?_, ?_, ?_, ?_⟩
          · rw [st1_eq, st1_eq, if_neg (by omega)]
          · rw [st1_ne (by omega), st1_ne (by decide)]; exact q2
          · rw [st1_ne (by omega), st1_ne (by decide)]; exact q3
          · rw [st1_ne (by omega), st1_ne (by decide)]; exact q4)
        refine ⟨h, ?_, g2, fun i hi => ?_⟩
        · rw [p81_s hX hT (by omega) (by omega) F0 F1 (by omega), if_pos z, hn.2.1, p81_s hX (MTK_g4 hT) (by omega) (by omega) F0 F1 (by omega), if_neg (by omega), if_neg (by omega), if_neg (by omega), if_neg (by omega), show k + 1 + 1 = k + 2 by omega, g1, up_up, up_ne (show ¬ (279 : Int) = 264 by decide)]
        · rw [g3 i hi, up_eq, st1_ne (by omega)]
      · have s0 : sv.1 = 1 := by omega
        obtain ⟨h, g1, g2, g3⟩ := ih (k + 2) its2 (st1 td sv.1 sv.2) td' (up μ 264 (st1 (μ 264) (F + 3) (Vx X (k + 1)))) N hO2 (MTK_g4 hT) (by rw [up_ne (by decide)]; exact hV) (by omega) (by omega) (by
          rw [up_eq, s0, x3]
          refine ⟨?_, ?_, ?_, ?_⟩
          · rw [st1_ne (by omega), st1_ne (by decide)]; exact q1
          · rw [st1_eq, st1_eq, if_neg (by omega)]
          · rw [st1_ne (by omega), st1_ne (by decide)]; exact q3
          · rw [st1_ne (by omega), st1_ne (by decide)]; exact q4)
        refine ⟨h, ?_, g2, fun i hi => ?_⟩
        · rw [p81_s hX hT (by omega) (by omega) F0 F1 (by omega), if_neg (by omega), if_pos z, hn.2.1, p81_s hX (MTK_g4 hT) (by omega) (by omega) F0 F1 (by omega), if_neg (by omega), if_neg (by omega), if_neg (by omega), if_neg (by omega), show k + 1 + 1 = k + 2 by omega, g1, up_up, up_ne (show ¬ (279 : Int) = 264 by decide)]
        · rw [g3 i hi, up_eq, st1_ne (by omega)]
    · obtain ⟨N, rfl⟩ : ∃ j, N = j + 1 := ⟨N - 1, by omega⟩
      obtain z | z : TT X k = 31 ∨ TT X k = 32 := by omega
      · have s0 : sv.1 = 2 := by omega
        obtain ⟨h, g1, g2, g3⟩ := ih (k + 1) its2 (st1 td sv.1 sv.2) td' (up μ 264 (st1 (μ 264) (F + 4) 1)) N hO2 (MTK_g4 hT) (by rw [up_ne (by decide)]; exact hV) (by omega) (by omega) (by
          rw [up_eq, s0, x2]
          refine ⟨?_, ?_, ?_, ?_⟩
          · rw [st1_ne (by omega), st1_ne (by decide)]; exact q1
          · rw [st1_ne (by omega), st1_ne (by decide)]; exact q2
          · rw [st1_eq, st1_eq, if_neg (by decide)]
          · rw [st1_ne (by omega), st1_ne (by decide)]; exact q4)
        refine ⟨h, ?_, g2, fun i hi => ?_⟩
        · rw [p81_s hX hT (by omega) (by omega) F0 F1 (by omega), if_neg (by omega), if_neg (by omega), if_pos z, g1, up_up, up_ne (show ¬ (279 : Int) = 264 by decide)]
        · rw [g3 i hi, up_eq, st1_ne (by omega)]
      · have s0 : sv.1 = 3 := by omega
        obtain ⟨h, g1, g2, g3⟩ := ih (k + 1) its2 (st1 td sv.1 sv.2) td' (up μ 264 (st1 (μ 264) (F + 5) 1)) N hO2 (MTK_g4 hT) (by rw [up_ne (by decide)]; exact hV) (by omega) (by omega) (by
          rw [up_eq, s0, x2]
          refine ⟨?_, ?_, ?_, ?_⟩
          · rw [st1_ne (by omega), st1_ne (by decide)]; exact q1
          · rw [st1_ne (by omega), st1_ne (by decide)]; exact q2
          · rw [st1_ne (by omega), st1_ne (by decide)]; exact q3
          · rw [st1_eq, st1_eq, if_neg (by decide)])
        refine ⟨h, ?_, g2, fun i hi => ?_⟩
        · rw [p81_s hX hT (by omega) (by omega) F0 F1 (by omega), if_neg (by omega), if_neg (by omega), if_neg (by omega), if_pos z, g1, up_up, up_ne (show ¬ (279 : Int) = 264 by decide)]
        · rw [g3 i hi, up_eq, st1_ne (by omega)]
theorem patC {c : Mem} {v : Int} (v0 : 1 ≤ v) (v1 : v ≤ 40) : ∃ f, Ed_patchUnit c v = some (up (up c (5 + 1 * v) f) 230 (st1 (c 230) v 0)) ∧ f 0 = c 242 11 ∧ f 1 = c 242 10 ∧ f 2 = (if c 242 0 = -2 then 1000 else c 242 0) ∧ f 3 = (if c 242 1 = -2 then 0 else c 242 1) ∧ f 4 = (if c 242 2 = -2 then 0 else c 242 2) ∧ f 5 = (if c 242 3 = -2 then 0 else c 242 3) := by
  have kk : shK (5 + 1 * v - 3) = (100, 6) := shK_2 (by omega) (by omega)
  have t2 : ∀ (q : Int → Int), up c (5 + 1 * v) q 242 = c 242 := fun q => up_ne (by omega)
  have t3 : ∀ (q : Int → Int), up c (5 + 1 * v) q 230 = c 230 := fun q => up_ne (by omega)
  refine ⟨st1 (st1 (st1 (st1 (st1 (st1 (c (5 + 1 * v)) 0 (c 242 11)) 1 (c 242 10)) 2 (if c 242 0 = -2 then 1000 else c 242 0)) 3 (if c 242 1 = -2 then 0 else c 242 1)) 4 (if c 242 2 = -2 then 0 else c 242 2)) 5 (if c 242 3 = -2 then 0 else c 242 3), ?_, ?_, ?_, ?_, ?_, ?_, ?_⟩
  · unfold Ed_patchUnit
    rw [ar_ok (by omega) (by omega), Option.bind_some, wD3 (by omega) (by omega) kk (by decide) (by decide), Option.bind_some, t2, wD3 (by omega) (by omega) kk (by decide) (by decide), Option.bind_some, up_eq, up_up, told_e (by decide) (by decide), Option.bind_some, t2, wD3 (by omega) (by omega) kk (by decide) (by decide), Option.bind_some, up_eq, up_up, told_e (by decide) (by decide), Option.bind_some, t2, wD3 (by omega) (by omega) kk (by decide) (by decide), Option.bind_some, up_eq, up_up, told_e (by decide) (by decide), Option.bind_some, t2, wD3 (by omega) (by omega) kk (by decide) (by decide), Option.bind_some, up_eq, up_up, told_e (by decide) (by decide), Option.bind_some, t2, wD3 (by omega) (by omega) kk (by decide) (by decide), Option.bind_some, up_eq, up_up, sI_up (by omega) (by omega), Option.bind_some, t3]
  · rw [st1_ne (by decide), st1_ne (by decide), st1_ne (by decide), st1_ne (by decide), st1_ne (by decide), st1_eq]
  · rw [st1_ne (by decide), st1_ne (by decide), st1_ne (by decide), st1_ne (by decide), st1_eq]
  · rw [st1_ne (by decide), st1_ne (by decide), st1_ne (by decide), st1_eq]
  · rw [st1_ne (by decide), st1_ne (by decide), st1_eq]
  · rw [st1_ne (by decide), st1_eq]
  · rw [st1_eq]
theorem ac33 {B : Int} {X : Tx} {A cur op : Int} {m0 c m : Mem} {I : List It3} {TL WL : List Q4} {td td' : Int → Int} (E : AE B X A m0 c m) (ht : TT X 0 = 33) (hv : c 241 0 = 33) (htd : c 242 = td') (td0 : ∀ j, 0 ≤ j → j < 12 → td j = -2) (h : q33 X td A I TL WL td' op) (hF : ∀ x ∈ I, ¬ x.1 = 20 → fitem (m 264) cur (td' 11) x = 0) : ACT B c m (Ed_perform c) (M_act m) := by
  obtain ⟨hX, hT, hA, a0, hs, hw, hp, hg, kc, km, hO⟩ := E
  obtain ⟨t1, t2, t3, t4, _, _, _, its, L, rfl, hL⟩ := h
  have ol := OPL_l _ _ _ _ _ _ hL
  have hb := hT.2.1
  have hn := nAt hX hT (k := 1) (by decide) (by omega) t1
  have hn4 := nAt hX hT (k := 4) (by decide) (by omega) t4
  have w2 := wrdV hX hT (k := 2) (by decide) (by omega) (by omega)
  have v2 : Vx X 2 - 52 = TT X 2 := by
    obtain ⟨v, hv⟩ : ∃ v : Nat, Vx X 2 = (v : Int) := ⟨(Vx X 2).toNat, by omega⟩
    have := r52 v (List.mem_range.mpr (by omega))
    rw [← hv] at this
    have := this (by omega)
    omega
  have k11 : td' 11 = TT X 2 := by rw [OPL_td (j := 11) (fun t x y => by unfold slP; omega) _ _ _ _ _ _ hL, st1_ne (by decide), st1_eq]
  have k10 : td' 10 = Vx X 4 := by rw [OPL_td (j := 10) (fun t x y => by unfold slP; omega) _ _ _ _ _ _ hL, st1_eq]
  have k9 : td' 9 = Vx X 1 := by rw [OPL_td (j := 9) (fun t x y => by unfold slP; omega) _ _ _ _ _ _ hL, st1_ne (by decide), st1_ne (by decide), st1_eq]
  have b1 : 1 ≤ Vx X 1 ∧ Vx X 1 ≤ 40 := FLT_b (hF (3, Vx X 1, Px X 1) (by simp) (by simp))
  have b4 : 1 ≤ Vx X 4 ∧ Vx X 4 ≤ 200 := FLT_b (hF (11, Vx X 4, Px X 4) (by simp) (by simp))
  have un : m 264 (6 * (Vx X 1 - 1)) < 0 := by
    have := hF (3, Vx X 1, Px X 1) (by simp) (by simp)
    have e : fitem (m 264) cur (td' 11) (3, Vx X 1, Px X 1) = _ := fl3
    rw [e, if_pos b1] at this
    by_cases z : m 264 (6 * (Vx X 1 - 1)) < 0
    · exact z
    · rw [if_neg z] at this; omega
  have fr : freeP (m 264) (Vx X 4) (TT X 2) := by
    have := hF (11, Vx X 4, Px X 4) (by simp) (by simp)
    have e : fitem (m 264) cur (td' 11) (11, Vx X 4, Px X 4) = _ := fl11
    rw [e, if_pos b4, k11] at this
    by_cases z : freeP (m 264) (Vx X 4) (TT X 2)
    · exact z
    · rw [if_neg z] at this; omega
  have tv := OPL_v (fitem (m 264) cur (td' 11)) (fun j v => (j = 0 → 0 ≤ v ∧ v ≤ 1000) ∧ (j = 1 → 0 ≤ v ∧ v ≤ 3) ∧ (j = 2 ∨ j = 3 → v = 1)) (fun t v q x1 x2 x3 hz => by
      have hz' : FLT (m 264) cur (td' 11) (rlP t) v = 0 := hz
      have := FLT_b hz'
      unfold slP
      obtain z | z : t = 29 ∨ t = 30 := by omega
      · subst z
        have t' : 0 ≤ v ∧ v ≤ 1000 := this
        exact ⟨fun _ => t', fun a => by omega, fun a => by omega⟩
      · subst z
        have t' : 0 ≤ v ∧ v ≤ 3 := this
        exact ⟨fun a => by omega, fun _ => t', fun a => by omega⟩) (fun t x y z => by unfold slP; exact ⟨fun a => by omega, fun a => by omega, fun _ => rfl⟩) _ _ _ _ _ _ hL (fun x hx => hF x (List.mem_append.mpr (Or.inr hx)) (by
        have := OPL_k (kn := td' 11) rlP_k _ _ _ _ _ _ hL x hx
        exact this.2.2.1))
  have tv' : ∀ j, 0 ≤ j → j < 4 → td' j = -2 ∨ ((j = 0 → 0 ≤ td' j ∧ td' j ≤ 1000) ∧ (j = 1 → 0 ≤ td' j ∧ td' j ≤ 3) ∧ (j = 2 ∨ j = 3 → td' j = 1)) := by
    intro j j0 j1
    have := tv j
    rw [st1_ne (by omega), st1_ne (by omega), st1_ne (by omega), td0 j j0 (by omega)] at this
    exact this
  obtain ⟨f, d1, f0, f1, f2, f3, f4, f5⟩ := patC (c := c) b1.1 b1.2
  rw [htd] at f0 f1 f2 f3 f4 f5
  rw [k11] at f0
  rw [k10] at f1
  have e1 : Ed_perform c = some (up (up c (5 + 1 * Vx X 1) f) 230 (st1 (c 230) (Vx X 1) 0)) := by
    unfold Ed_perform
    rw [Option.bind_some, Option.bind_some, hv, htd, k9]
    show ((Ed_patchUnit c (Vx X 1)).bind fun m23 => some m23) = _
    rw [bsm, d1]
  generalize hg1 : st1 (st1 (st1 (st1 (st1 (st1 (m 264) (6 * (Vx X 1 - 1)) (TT X 2)) (6 * (Vx X 1 - 1) + 1) (Vx X 4)) (6 * (Vx X 1 - 1) + 2) 1000) (6 * (Vx X 1 - 1) + 3) 0) (6 * (Vx X 1 - 1) + 4) 0) (6 * (Vx X 1 - 1) + 5) 0 = g1
  have t9 : ∀ (q : Int → Int), up m 264 q 269 = m 269 := fun q => up_ne (by decide)
  have em : M_act m = M_patch_81 (6 * (Vx X 1 - 1)) big (up m 264 g1) 5 := by
    rw [(ckV hX hT a0 (w := 3) (by decide) (by decide) (by decide) (by decide) ht).2]
    show ((M_patch m).bind fun m22 => some m22) = _
    rw [bsm]
    unfold M_patch
    rw [Option.bind_some, hn.2.1, w2.1, jsub_e (y := 1) (by omega) (by omega), jmul_e (by omega) (by omega), jsub_e (by omega) (by omega), v2, sI_up (by omega) (by omega), Option.bind_some, t9, hn4.2.1, jadd_e (by omega) (by omega), sI_up (by omega) (by omega), Option.bind_some, up_eq, up_up, jadd_e (by omega) (by omega), sI_up (by omega) (by omega), Option.bind_some, up_eq, up_up, jadd_e (by omega) (by omega), sI_up (by omega) (by omega), Option.bind_some, up_eq, up_up, jadd_e (by omega) (by omega), sI_up (by omega) (by omega), Option.bind_some, up_eq, up_up, jadd_e (by omega) (by omega), sI_up (by omega) (by omega), Option.bind_some, up_eq, up_up, hg1]
  obtain ⟨h', g2, g3, g4⟩ := pat81 (F := 6 * (Vx X 1 - 1)) (V := Vx X 1) hX hA (by omega) (by omega) b1.1 b1.2 L 5 its _ td' (up m 264 g1) big hL (MTK_g4 hT) (by rw [t9]; exact hn.2.1) (by decide) (by have := big_ge; omega) (by
    rw [up_eq, ← hg1]
    refine ⟨?_, ?_, ?_, ?_⟩
    · rw [st1_ne (by omega), st1_ne (by omega), st1_ne (by omega), st1_eq, st1_ne (by decide), st1_ne (by decide), st1_ne (by decide), td0 0 (by decide) (by decide), if_pos rfl]
    · rw [st1_ne (by omega), st1_ne (by omega), st1_eq, st1_ne (by decide), st1_ne (by decide), st1_ne (by decide), td0 1 (by decide) (by decide), if_pos rfl]
    · rw [st1_ne (by omega), st1_eq, st1_ne (by decide), st1_ne (by decide), st1_ne (by decide), td0 2 (by decide) (by decide), if_pos rfl]
    · rw [st1_eq, st1_ne (by decide), st1_ne (by decide), st1_ne (by decide), td0 3 (by decide) (by decide), if_pos rfl])
  rw [up_up, up_ne (show ¬ (279 : Int) = 264 by decide)] at g2
  rw [up_eq] at g4
  have y0 : h' (6 * (Vx X 1 - 1)) = TT X 2 := by rw [g4 _ (by omega), ← hg1, st1_ne (by omega), st1_ne (by omega), st1_ne (by omega), st1_ne (by omega), st1_ne (by omega), st1_eq]
  have y1 : h' (6 * (Vx X 1 - 1) + 1) = Vx X 4 := by rw [g4 _ (by omega), ← hg1, st1_ne (by omega), st1_ne (by omega), st1_ne (by omega), st1_ne (by omega), st1_eq]
  obtain ⟨y2, y3, y4, y5⟩ := g3
  have yo : ∀ i, ¬ (6 * (Vx X 1 - 1) ≤ i ∧ i < 6 * (Vx X 1 - 1) + 6) → h' i = m 264 i := fun i hi => by rw [g4 _ (by omega), ← hg1, st1_ne (by omega), st1_ne (by omega), st1_ne (by omega), st1_ne (by omega), st1_ne (by omega), st1_ne (by omega)]
  have S1 : SR (up c (5 + 1 * Vx X 1) f) 3 h' := by
    refine SR_reg hs hw (p1 := 5 + 1 * Vx X 1) (olo := 5) (ohi := 5) (lo := 0) (hi := 240) (fun o a _ => up_ne a) (fun i a => yo i (by omega)) (h1 := Or.inr (fun u u0 u1 => ?_))
    by_cases z : u = Vx X 1 - 1
    · rw [z, show 6 + (Vx X 1 - 1) = 5 + 1 * Vx X 1 by omega, up_eq, y0]
      refine ⟨f0, fun _ j j0 j1 => ?_⟩
      obtain z | z | z | z | z : j = 1 ∨ j = 2 ∨ j = 3 ∨ j = 4 ∨ j = 5 := by omega
      · rw [z, f1, y1]
      · rw [z, f2, y2]
      · rw [z, f3, y3]
      · rw [z, f4, y4]
      · rw [z, f5, y5]
    · obtain ⟨a, b⟩ := S3.u hs u u0 u1
      rw [up_ne (by omega), yo _ (by omega)]
      exact ⟨a, fun x j j0 j1 => by rw [yo _ (by omega)]; exact b x j j0 j1⟩
  have W1 : WF h' := by
    have hasN : ∀ i, 0 ≤ i → i < 360 → ∀ p, hasP (m 264 (6 * (i / 9))) p → hasP (h' (6 * (i / 9))) p := by
      intro i i0 i1 p hh
      by_cases z : i / 9 = Vx X 1 - 1
      · rw [z] at hh
        have := hh.1
        omega
      · rw [yo _ (by omega)]; exact hh
    refine WF_reg hw (lo := 0) (hi := 240) (fun i a => yo i (by omega)) (h1 := Or.inr ⟨fun u u0 u1 => ?_, fun u v u0 u1 v0 v1 uv => ?_⟩) (h7 := Or.inr (fun r r0 r1 => ?_)) (h9 := Or.inr (fun i i0 i1 => ?_))
    · by_cases z : u = Vx X 1 - 1
      · rw [z, y0, y1, y2, y3, y4, y5]
        have z0 := tv' 0 (by decide) (by decide)
        have z1 := tv' 1 (by decide) (by decide)
        have z2 := tv' 2 (by decide) (by decide)
        have z3 := tv' 3 (by decide) (by decide)
        refine ⟨by omega, by omega, fun _ => ⟨by omega, fr.1, ?_⟩⟩
        split <;> split <;> split <;> split <;> omega
      · rw [yo _ (by omega), yo _ (by omega), yo _ (by omega), yo _ (by omega), yo _ (by omega), yo _ (by omega)]
        exact hw.u u u0 u1
    · intro p1 p2
      by_cases z : u = Vx X 1 - 1
      · rw [yo (6 * v) (by omega)] at p2
        rw [z, y0, y1, yo (6 * v) (by omega), yo (6 * v + 1) (by omega)]
        rcases fr.2 v v0 v1 p2 with a | a
        · exact Or.inr a
        · exact Or.inl a
      · by_cases y : v = Vx X 1 - 1
        · rw [yo (6 * u) (by omega)] at p1
          rw [y, y0, y1, yo (6 * u) (by omega), yo (6 * u + 1) (by omega)]
          exact fr.2 u u0 u1 p1
        · rw [yo (6 * u) (by omega)] at p1
          rw [yo (6 * v) (by omega)] at p2
          rw [yo (6 * u) (by omega), yo (6 * u + 1) (by omega), yo (6 * v) (by omega), yo (6 * v + 1) (by omega)]
          exact hw.d u v u0 u1 v0 v1 uv p1 p2
    · have hh := hw.c r r0 r1
      unfold cn at hh ⊢
      rw [yo (1352 + 7 * r) (by omega), yo (1357 + 7 * r) (by omega), yo (1358 + 7 * r) (by omega)]
      refine ⟨hh.1, hh.2.1, fun hp => ?_⟩
      obtain ⟨a, b, d, f, k⟩ := hh.2.2 hp
      refine ⟨fun j j0 j1 => ?_, b, d, f, fun i i0 i1 => ?_⟩
      · rw [yo _ (by omega)]; exact a j j0 j1
      · obtain ⟨k1, k2⟩ := k i i0 i1
        rw [yo (1562 + 360 * r + i) (by omega)]
        exact ⟨k1, fun x => hasN i i0 i1 _ (k2 x)⟩
    · obtain ⟨k1, k2⟩ := hw.h i i0 i1
      rw [yo (12362 + i) (by omega)]
      exact ⟨k1, fun x => hasN i i0 i1 _ (k2 x)⟩
  refine ⟨_, _, e1, em.trans g2, ?_, ?_, ?_, ?_, fun o a1 a2 a3 => ?_, fun o a1 a2 a3 => ?_⟩
  · rw [up_ne (show ¬ (264 : Int) = 279 by decide), up_eq]
    exact SR_congr S1 (fun o a b => up_ne (by omega))
  · rw [up_ne (show ¬ (264 : Int) = 279 by decide), up_eq]; exact W1
  · exact PR_congr hp (fun o a b => by rw [up_ne (by omega), up_ne (by omega)]) (fun o a b => by rw [up_ne (by omega), up_ne (by omega)]) (fun f _ _ => by rw [up_ne (by decide), up_ne (by decide)])
  · have cc : ∀ o, ¬ o = 230 → ¬ o = 5 + 1 * Vx X 1 → up (up c (5 + 1 * Vx X 1) f) 230 (st1 (c 230) (Vx X 1) 0) o = c o := fun o a b => by rw [up_ne a, up_ne b]
    have mm : ∀ o, ¬ o = 279 → ¬ o = 264 → up (up m 264 h') 279 (st1 (m 279) (Vx X 1 - 1) 0) o = m o := fun o a b => by rw [up_ne a, up_ne b]
    refine ⟨?_, ?_, ?_, ?_, ?_, ?_⟩
    · intro s s0 s1; rw [cc 227 (by decide) (by omega), mm 276 (by decide) (by decide)]; exact hg.f s s0 s1
    · intro s s0 s1; rw [cc 228 (by decide) (by omega), mm 277 (by decide) (by decide)]; exact hg.b s s0 s1
    · unfold GR_g; rw [cc 226 (by decide) (by omega), mm 259 (by decide) (by decide)]; exact hg.g
    · unfold GR_k; rw [cc 226 (by decide) (by omega), mm 259 (by decide) (by decide)]; exact hg.k
    · intro s s0 s1; rw [cc 229 (by decide) (by omega), mm 278 (by decide) (by decide)]; exact hg.r s s0 s1
    · intro u u0 u1
      rw [up_eq, up_eq]
      unfold st1
      by_cases z : u + 1 = Vx X 1
      · rw [if_pos z, if_pos (by omega)]
      · rw [if_neg z, if_neg (by omega)]; exact hg.p u u0 u1
  · rw [up_ne a3, up_ne (by omega)]
  · rw [up_ne a3, up_ne a1]
