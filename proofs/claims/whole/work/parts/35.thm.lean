-- L2: the small machine does what the functions say (printed by wip/gen/emit32.py)
theorem b_Rd_codeOfSign  {μ : Mem} {a0 : Int} {r : Int}  (h : Rd_codeOfSign μ a0 = some r) (hF : FX μ)  : Rn FX 29 cd_29 [some (vI a0)] [] μ (some (vI r), μ) := by
  unfold Rd_codeOfSign at h
  refine N1 (j := 1) (fun _ => rfl) ?_
  by_cases c1 : a0 = 43
  · replace h := ifT c1 h
    refine Rsw (t := 55) c1 (fun _ => rfl) jm_29_55 ?_
    refine N1 (j := 1) (fun _ => rfl) ?_
    cases h
    exact Rri mt_29 rfl hF
  replace h := ifF c1 h
  by_cases c2 : a0 = 45
  · replace h := ifT c2 h
    refine Rsw (t := 58) c2 (fun _ => rfl) jm_29_58 ?_
    refine N1 (j := 1) (fun _ => rfl) ?_
    cases h
    exact Rri mt_29 rfl hF
  replace h := ifF c2 h
  by_cases c3 : a0 = 59
  · replace h := ifT c3 h
    refine Rsw (t := 52) c3 (fun _ => rfl) jm_29_52 ?_
    refine N1 (j := 1) (fun _ => rfl) ?_
    cases h
    exact Rri mt_29 rfl hF
  replace h := ifF c3 h
  by_cases c4 : a0 = 61
  · replace h := ifT c4 h
    refine Rsw (t := 61) c4 (fun _ => rfl) jm_29_61 ?_
    refine N1 (j := 1) (fun _ => rfl) ?_
    cases h
    exact Rri mt_29 rfl hF
  replace h := ifF c4 h
  by_cases c5 : a0 = 64
  · replace h := ifT c5 h
    refine Rsw (t := 64) c5 (fun _ => rfl) jm_29_64 ?_
    refine N1 (j := 1) (fun _ => rfl) ?_
    cases h
    exact Rri mt_29 rfl hF
  replace h := ifF c5 h
  refine Rswl (by simp [List.find?, beqF c1, beqF c2, beqF c3, beqF c4, beqF c5]) jm_29_67 ?_
  refine N1 (j := 1) (fun _ => rfl) ?_
  cases h
  exact Rri mt_29 rfl hF
theorem t_Rd_codeOfSign {μ : Mem} {a0 : Int} {r : Int} (h : Rd_codeOfSign μ a0 = some r) (hF : FX μ) : RunM 29 [vI a0] μ (some (vI r), μ) ∧ FX ((some (vI r), μ) : Res).2 := RM md_29 rfl rfl (b_Rd_codeOfSign h hF)
theorem t_Row_placeOf_2  {μ : Mem} {l0 : Int} {l1 : Int}  : ∀ (n : Nat) (l2 : Int) (r : Int), Row_placeOf_2 μ l0 l1 n l2 = some r → FX μ → Rn FX 71 bl_71_2 [some (vA l0), some (vI l1), some (vI l2)] [] μ (some (vI r), μ) := by
  intro n
  induction n with
  | zero =>
    intro l2 r h
    exact noneS h
  | succ n ih =>
    intro l2 r h hF 
    rw [Row_placeOf_2] at h
    refine N1 (j := 2) (fun _ => rfl) ?_
    obtain ⟨x1, h2, h⟩ := bindS h
    refine RgI rfl h2 ?_
    by_cases c8 : x1 ≤ l2
    · replace h := ifT c8 h
      refine Rit (x := l2) (cmpge c8) jm_71_28 ?_
      refine N1 (j := 1) (fun _ => rfl) ?_
      cases h
      exact Rri mt_71 rfl hF
    · replace h := ifF c8 h
      refine Rif (x := l2) (cmnge c8) ?_
      refine N1 (j := 1) (fun _ => rfl) ?_
      obtain ⟨x3, h4, h⟩ := bindS h
      refine RgA rfl (fxO_5_0 hF h4) ?_
      refine N1 (j := 1) (fun _ => rfl) ?_
      obtain ⟨x5, h6, h⟩ := bindS h
      refine RaI h6 ?_
      refine N1 (j := 1) (fun _ => rfl) ?_
      by_cases c7 : x5 ≠ l1
      · replace h := ifT c7 h
        refine Rit (x := x5) (cmpne c7) jm_71_22 ?_
        refine N1 (j := 1) (fun _ => rfl) ?_
        refine Rgo jm_71_2 ?_
        exact ih _ _ h hF
      · replace h := ifF c7 h
        refine Rif (x := x5) (cmnne c7) ?_
        refine N1 (j := 1) (fun _ => rfl) ?_
        cases h
        exact Rri mt_71 rfl hF
theorem b_Row_placeOf  {μ : Mem} {a0 : Int} {a1 : Int} {r : Int}  (h : Row_placeOf μ a0 a1 = some r) (hF : FX μ)  : Rn FX 71 cd_71 [some (vA a0), some (vI a1), none] [] μ (some (vI r), μ) := by
  unfold Row_placeOf at h
  refine N1 (j := 2) (fun _ => rfl) ?_
  exact t_Row_placeOf_2  _ _ _ h hF
theorem t_Row_placeOf {μ : Mem} {a0 : Int} {a1 : Int} {r : Int} (h : Row_placeOf μ a0 a1 = some r) (hF : FX μ) : RunM 71 [vA a0, vI a1] μ (some (vI r), μ) ∧ FX ((some (vI r), μ) : Res).2 := RM md_71 rfl rfl (b_Row_placeOf h hF)
theorem t_Row_remove_23  {l0 : Int}  : ∀ (n : Nat) (μ : Mem) (l3 : Int) (d1 d2 : Option SV) (r : Mem), Row_remove_23 l0 n μ l3 = some r → FX μ → noJ d1 = true → noJ d2 = true → Rn FX 72 bl_72_23 [some (vA l0), d1, d2, some (vI l3)] [] μ (none, r) := by
  intro n
  induction n with
  | zero =>
    intro μ l3 d1 d2 r h
    exact noneS h
  | succ n ih =>
    intro μ l3 d1 d2 r h hF hd1 hd2
    rw [Row_remove_23] at h
    refine N1 (j := 2) (fun _ => rfl) ?_
    obtain ⟨x1, h2, h⟩ := bindS h
    refine RgI rfl h2 ?_
    by_cases c12 : x1 ≤ l3
    · replace h := ifT c12 h
      refine Rit (x := l3) (cmpge c12) jm_72_51 ?_
      cases h
      exact Rrv mt_72 hF
    · replace h := ifF c12 h
      refine Rif (x := l3) (cmnge c12) ?_
      refine N1 (j := 1) (fun _ => rfl) ?_
      obtain ⟨x3, h4, h⟩ := bindS h
      refine RgA rfl (fxO_5_0 hF h4) ?_
      refine N1 (j := 2) (fun _ => rfl) ?_
      obtain ⟨x5, h6, h⟩ := bindS h
      refine RgA rfl (fxO_5_0 hF h6) ?_
      refine N1 (j := 3) (fun _ => rfl) ?_
      obtain ⟨x7, h8, h⟩ := bindS h
      refine RaI h8 ?_
      obtain ⟨m9, h10, h⟩ := bindS h
      refine RsI h10 ?_
      have hF11 := fxwI hF h10
      refine Riinc rfl rfl (by first | rfl | assumption) (Nat.le_of_ble_eq_true rfl) ?_
      refine Rgo jm_72_23 ?_
      exact ih _ _ _ _ _ h hF11 (by first | rfl | assumption) (by first | rfl | assumption)
theorem b_Row_remove  {μ : Mem} {a0 : Int} {a1 : Int} {r : Mem}  (h : Row_remove μ a0 a1 = some r) (hF : FX μ)  : Rn FX 72 cd_72 [some (vA a0), some (vI a1), none, none] [] μ (none, r) := by
  unfold Row_remove at h
  refine N1 (j := 2) (fun _ => rfl) ?_
  obtain ⟨h1, h⟩ := ifSome h
  obtain ⟨x2, h3, h⟩ := bindS h
  refine RC_71 ci_virtual (clE rfl) h1 (t_Row_placeOf h3 hF).1 ?_
  refine N1 (j := 2) (fun _ => rfl) ?_
  by_cases c9 : 0 ≤ x2
  · replace h := ifT c9 h
    refine Rzt (x := x2) (cmpge c9) jm_72_11 ?_
    refine N1 (j := 2) (fun _ => rfl) ?_
    obtain ⟨x4, h5, h⟩ := bindS h
    refine RgI rfl h5 ?_
    refine N1 (j := 2) (fun _ => rfl) ?_
    obtain ⟨m6, h7, h⟩ := bindS h
    refine RpI rfl h7 ?_
    have hF8 := fxPf hF rfl h7
    refine N1 (j := 2) (fun _ => rfl) ?_
    exact t_Row_remove_23  _ _ _ _ _ _ h hF8 (by first | rfl | assumption) (by first | rfl | assumption)
  · replace h := ifF c9 h
    refine Rzf (x := x2) (cmnge c9) ?_
    cases h
    exact Rrv mt_72 hF
theorem t_Row_remove {μ : Mem} {a0 : Int} {a1 : Int} {r : Mem} (h : Row_remove μ a0 a1 = some r) (hF : FX μ) : RunM 72 [vA a0, vI a1] μ (none, r) ∧ FX ((none, r) : Res).2 := RM md_72 rfl rfl (b_Row_remove h hF)
theorem b_M_in  {μ : Mem} {a0 : Int} {a1 : Int} {a2 : Int} {r : Int}  (h : M_in μ a0 a1 a2 = some r) (hF : FX μ)  : Rn FX 187 cd_187 [some (vI a0), some (vI a1), some (vI a2)] [] μ (some (vI r), μ) := by
  unfold M_in at h
  refine N1 (j := 2) (fun _ => rfl) ?_
  by_cases c2 : a0 < a1
  · replace h := ifT c2 h
    refine Rit (x := a0) (cmplt c2) jm_187_14 ?_
    refine N1 (j := 1) (fun _ => rfl) ?_
    cases h
    exact Rri mt_187 rfl hF
  · replace h := ifF c2 h
    refine Rif (x := a0) (cmnlt c2) ?_
    refine N1 (j := 2) (fun _ => rfl) ?_
    by_cases c1 : a2 < a0
    · replace h := ifT c1 h
      refine Rit (x := a0) (cmpgt c1) jm_187_14 ?_
      refine N1 (j := 1) (fun _ => rfl) ?_
      cases h
      exact Rri mt_187 rfl hF
    · replace h := ifF c1 h
      refine Rif (x := a0) (cmngt c1) ?_
      refine N1 (j := 1) (fun _ => rfl) ?_
      refine Rgo jm_187_15 ?_
      cases h
      exact Rri mt_187 rfl hF
theorem t_M_in {μ : Mem} {a0 : Int} {a1 : Int} {a2 : Int} {r : Int} (h : M_in μ a0 a1 a2 = some r) (hF : FX μ) : RunM 187 [vI a0, vI a1, vI a2] μ (some (vI r), μ) ∧ FX ((some (vI r), μ) : Res).2 := RM md_187 rfl rfl (b_M_in h hF)
theorem b_M_byteAt  {μ : Mem} {a1 : Int} {r : Int}  (h : M_byteAt μ a1 = some r) (hF : FX μ)  : Rn FX 192 cd_192 [some (vA 259), some (vI a1)] [] μ (some (vI r), μ) := by
  unfold M_byteAt at h
  refine N1 (j := 2) (fun _ => rfl) ?_
  refine RgI (x := μ 259 10) rfl (gf_c kd_259) ?_
  by_cases c3 : (μ 259 10) ≤ a1
  · replace h := ifT c3 h
    refine Rit (x := a1) (cmpge c3) jm_192_17 ?_
    refine N1 (j := 1) (fun _ => rfl) ?_
    cases h
    exact Rri mt_192 rfl hF
  · replace h := ifF c3 h
    refine Rif (x := a1) (cmnge c3) ?_
    refine N1 (j := 1) (fun _ => rfl) ?_
    refine RgA (x := 267) rfl (gf_v kd_259 (fx_259_9 hF)) ?_
    refine N1 (j := 1) (fun _ => rfl) ?_
    obtain ⟨x1, h2, h⟩ := bindS h
    refine RaI (rI_267 h2) ?_
    refine Rgo jm_192_18 ?_
    cases h
    exact Rri mt_192 rfl hF
theorem t_M_byteAt {μ : Mem} {a1 : Int} {r : Int} (h : M_byteAt μ a1 = some r) (hF : FX μ) : RunM 192 [vA 259, vI a1] μ (some (vI r), μ) ∧ FX ((some (vI r), μ) : Res).2 := RM md_192 rfl rfl (b_M_byteAt h hF)
theorem b_M_isLetter  {μ : Mem} {a0 : Int} {r : Int}  (h : M_isLetter μ a0 = some r) (hF : FX μ)  : Rn FX 193 cd_193 [some (vI a0)] [] μ (some (vI r), μ) := by
  unfold M_isLetter at h
  refine N1 (j := 3) (fun _ => rfl) ?_
  obtain ⟨x1, h2, h⟩ := bindS h
  refine RC_187 (ci_static rfl) (clE rfl) (t_M_in h2 hF).1 ?_
  obtain ⟨h3, h⟩ := ifSome h
  cases h
  exact Rri mt_193 (rokz h3) hF
theorem t_M_isLetter {μ : Mem} {a0 : Int} {r : Int} (h : M_isLetter μ a0 = some r) (hF : FX μ) : RunM 193 [vI a0] μ (some (vI r), μ) ∧ FX ((some (vI r), μ) : Res).2 := RM md_193 rfl rfl (b_M_isLetter h hF)
theorem t_M_readWord_46 {K4 : Mem → Int → Int → Option (Mem)} {μ : Mem} {l3 : Int} {s0 : Int} {d1 d2 d4 d5 : Option SV} {r : Mem} (hK4 : ∀ (μ : Mem) (l1 : Int) (l3 : Int) (d2 d4 d5 : Option SV) (r : Mem), K4 μ l1 l3 = some r → FX μ → noJ d2 = true → noJ d4 = true → noJ d5 = true → Rn FX 194 bl_194_4 [some (vA 259), some (vJ l1), d2, some (vI l3), d4, d5] [] μ (none, r)) (h : M_readWord_46 K4 μ l3 s0 = some r) (hF : FX μ) (hd1 : noJ d1 = true) (hd2 : noJ d2 = true) (hd4 : noJ d4 = true) (hd5 : noJ d5 = true) : Rn FX 194 bl_194_46 [some (vA 259), d1, d2, some (vI l3), d4, d5] [vJ s0] μ (none, r) := by
  unfold M_readWord_46 at h
  refine N1 (j := 4) (fun _ => rfl) ?_
  refine RgI (x := μ 259 18) rfl (gf_c kd_259) ?_
  refine N1 (j := 2) (fun _ => rfl) ?_
  obtain ⟨m1, h2, h⟩ := bindS h
  refine RpI rfl (pf_0 kd_259 (by decide) h2) ?_
  have hF3 := fxP hF ff_259_18 h2
  refine Rgo jm_194_4 ?_
  exact hK4 _ _ _ _ _ _ _ h hF3 (by first | rfl | assumption) (by first | rfl | assumption) (by first | rfl | assumption)
theorem t_M_readWord_69  {μ : Mem} {l1 : Int} {l3 : Int}  : ∀ (n : Nat) (l4 : Int) (l5 : Int) (d2 : Option SV) (r : Mem), M_readWord_69 μ l1 l3 n l4 l5 = some r → FX μ → noJ d2 = true → Rn FX 194 bl_194_69 [some (vA 259), some (vJ l1), d2, some (vI l3), some (vI l4), some (vI l5)] [] μ (none, r) := by
  intro n
  induction n with
  | zero =>
    intro l4 l5 d2 r h
    exact noneS h
  | succ n ih =>
    intro l4 l5 d2 r h hF hd2
    rw [M_readWord_69] at h
    refine N1 (j := 2) (fun _ => rfl) ?_
    by_cases c18 : 69 < l5
    · replace h := ifT c18 h
      refine Rit (x := l5) (cmpgt c18) jm_194_109 ?_
      refine N1 (j := 1) (fun _ => rfl) ?_
      refine RgA (x := 268) rfl (gf_v kd_259 (fx_259_13 hF)) ?_
      refine N1 (j := 1) (fun _ => rfl) ?_
      refine RgI (x := μ 259 16) rfl (gf_c kd_259) ?_
      refine N1 (j := 1) (fun _ => rfl) ?_
      by_cases c13 : l4 < 0
      · replace h := ifT c13 h
        refine Rzt (x := l4) (cmplt c13) jm_194_126 ?_
        refine N1 (j := 1) (fun _ => rfl) ?_
        obtain ⟨m1, h2, h⟩ := bindS h
        refine RsI (wI_268 h2) ?_
        have hF3 := fxS hF ka_268 h2
        refine N1 (j := 1) (fun _ => rfl) ?_
        refine RgA (x := 269) rfl (gf_v kd_259 (fx_259_14 hF3)) ?_
        refine N1 (j := 1) (fun _ => rfl) ?_
        refine RgI (x := m1 259 16) rfl (gf_c kd_259) ?_
        refine N1 (j := 1) (fun _ => rfl) ?_
        obtain ⟨m4, h5, h⟩ := bindS h
        refine RsI (wI_269 h5) ?_
        have hF6 := fxS hF3 ka_269 h5
        cases h
        exact Rrv mt_194 hF6
      · replace h := ifF c13 h
        refine Rzf (x := l4) (cmnlt c13) ?_
        refine N1 (j := 1) (fun _ => rfl) ?_
        refine Rgo jm_194_127 ?_
        obtain ⟨m7, h8, h⟩ := bindS h
        refine RsI (wI_268 h8) ?_
        have hF9 := fxS hF ka_268 h8
        refine N1 (j := 1) (fun _ => rfl) ?_
        refine RgA (x := 269) rfl (gf_v kd_259 (fx_259_14 hF9)) ?_
        refine N1 (j := 1) (fun _ => rfl) ?_
        refine RgI (x := m7 259 16) rfl (gf_c kd_259) ?_
        refine N1 (j := 1) (fun _ => rfl) ?_
        obtain ⟨m10, h11, h⟩ := bindS h
        refine RsI (wI_269 h11) ?_
        have hF12 := fxS hF9 ka_269 h11
        cases h
        exact Rrv mt_194 hF12
    · replace h := ifF c18 h
      refine Rif (x := l5) (cmngt c18) ?_
      refine N1 (j := 2) (fun _ => rfl) ?_
      by_cases c17 : 9 < l3
      · replace h := ifT c17 h
        refine Rit (x := l3) (cmpgt c17) jm_194_99 ?_
        refine N1 (j := 3) (fun _ => rfl) ?_
        refine Rgo jm_194_69 ?_
        exact ih _ _ _ _ h hF (by first | rfl | assumption)
      · replace h := ifF c17 h
        refine Rif (x := l3) (cmngt c17) ?_
        refine N1 (j := 1) (fun _ => rfl) ?_
        refine RgA (x := 260) rfl (gf_v kd_259 (fx_259_0 hF)) ?_
        refine N1 (j := 1) (fun _ => rfl) ?_
        obtain ⟨x14, h15, h⟩ := bindS h
        refine RaJ (rJ_260 h15) ?_
        refine N1 (j := 2) (fun _ => rfl) ?_
        by_cases c16 : (qcmp x14 l1) ≠ 0
        · replace h := ifT c16 h
          refine Rzt (x := (qcmp x14 l1)) (cmpne c16) jm_194_99 ?_
          refine N1 (j := 3) (fun _ => rfl) ?_
          refine Rgo jm_194_69 ?_
          exact ih _ _ _ _ h hF (by first | rfl | assumption)
        · replace h := ifF c16 h
          refine Rzf (x := (qcmp x14 l1)) (cmnne c16) ?_
          refine N1 (j := 1) (fun _ => rfl) ?_
          refine Rgo jm_194_101 ?_
          refine N1 (j := 2) (fun _ => rfl) ?_
          refine Rgo jm_194_69 ?_
          exact ih _ _ _ _ h hF (by first | rfl | assumption)
theorem t_M_readWord_4    : ∀ (n : Nat) (μ : Mem) (l1 : Int) (l3 : Int) (d2 d4 d5 : Option SV) (r : Mem), M_readWord_69 μ l1 l3 n μ l1 l3 = some r → FX μ → noJ d2 = true → noJ d4 = true → noJ d5 = true → Rn FX 194 bl_194_4 [some (vA 259), some (vJ l1), d2, some (vI l3), d4, d5] [] μ (none, r) := by
  intro n
  induction n with
  | zero =>
    intro μ l1 l3 d2 d4 d5 r h
    exact noneS h
  | succ n ih =>
    intro μ l1 l3 d2 d4 d5 r h hF hd2 hd4 hd5
    rw [M_readWord_4] at h
    refine N1 (j := 2) (fun _ => rfl) ?_
    refine RgI (x := μ 259 18) rfl (gf_c kd_259) ?_
    obtain ⟨x1, h2, h⟩ := bindS h
    refine RC_192 ci_virtual (clE rfl) (rcE kd_259 rfl) (t_M_byteAt h2 hF).1 ?_
    obtain ⟨x3, h4, h⟩ := bindS h
    refine RC_193 (ci_static rfl) (clE rfl) (t_M_isLetter h4 hF).1 ?_
    by_cases c8 : x3 = 0
    · replace h := ifT c8 h
      refine Rzt (x := x3) (cmpeq c8) jm_194_63 ?_
      refine N1 (j := 4) (fun _ => rfl) ?_
      exact t_M_readWord_69  _ _ _ _ _ h hF (by first | rfl | assumption)
    · replace h := ifF c8 h
      refine Rzf (x := x3) (cmneq c8) ?_
      refine N1 (j := 2) (fun _ => rfl) ?_
      by_cases c7 : 9 ≤ l3
      · replace h := ifT c7 h
        refine Rit (x := l3) (cmpge c7) jm_194_45 ?_
        refine N1 (j := 1) (fun _ => rfl) ?_
        exact t_M_readWord_46 ih h hF (by first | rfl | assumption) (by first | rfl | assumption) (by first | rfl | assumption) (by first | rfl | assumption)
      · replace h := ifF c7 h
        refine Rif (x := l3) (cmnge c7) ?_
        refine N1 (j := 5) (fun _ => rfl) ?_
        refine RgI (x := μ 259 18) rfl (gf_c kd_259) ?_
        obtain ⟨x5, h6, h⟩ := bindS h
        refine RC_192 ci_virtual (clE rfl) (rcE kd_259 rfl) (t_M_byteAt h6 hF).1 ?_
        refine N1 (j := 4) (fun _ => rfl) ?_
        refine Rgo jm_194_46 ?_
        exact t_M_readWord_46 ih h hF (by first | rfl | assumption) (by first | rfl | assumption) (by first | rfl | assumption) (by first | rfl | assumption)
theorem b_M_readWord  {μ : Mem}  {r : Mem}  (h : M_readWord μ = some r) (hF : FX μ)  : Rn FX 194 cd_194 [some (vA 259), none, none, none, none, none] [] μ (none, r) := by
  unfold M_readWord at h
  refine N1 (j := 4) (fun _ => rfl) ?_
  exact t_M_readWord_4  _ _ _ _ _ _ _ _ h hF (by first | rfl | assumption) (by first | rfl | assumption) (by first | rfl | assumption)
theorem t_M_readWord {μ : Mem}  {r : Mem} (h : M_readWord μ = some r) (hF : FX μ) : RunM 194 [vA 259] μ (none, r) ∧ FX ((none, r) : Res).2 := RM md_194 rfl rfl (b_M_readWord h hF)
theorem b_M_isDigit  {μ : Mem} {a0 : Int} {r : Int}  (h : M_isDigit μ a0 = some r) (hF : FX μ)  : Rn FX 195 cd_195 [some (vI a0)] [] μ (some (vI r), μ) := by
  unfold M_isDigit at h
  refine N1 (j := 3) (fun _ => rfl) ?_
  obtain ⟨x1, h2, h⟩ := bindS h
  refine RC_187 (ci_static rfl) (clE rfl) (t_M_in h2 hF).1 ?_
  obtain ⟨h3, h⟩ := ifSome h
  cases h
  exact Rri mt_195 (rokz h3) hF
theorem t_M_isDigit {μ : Mem} {a0 : Int} {r : Int} (h : M_isDigit μ a0 = some r) (hF : FX μ) : RunM 195 [vI a0] μ (some (vI r), μ) ∧ FX ((some (vI r), μ) : Res).2 := RM md_195 rfl rfl (b_M_isDigit h hF)
theorem t_M_readNumber_43 {K4 : Mem → Int → Int → Option (Mem)} {μ : Mem} {l2 : Int} {s0 : Int} {d1 : Option SV} {r : Mem} (hK4 : ∀ (μ : Mem) (l1 : Int) (l2 : Int) (r : Mem), K4 μ l1 l2 = some r → FX μ → Rn FX 196 bl_196_4 [some (vA 259), some (vI l1), some (vI l2)] [] μ (none, r)) (h : M_readNumber_43 K4 μ l2 s0 = some r) (hF : FX μ) (hd1 : noJ d1 = true) : Rn FX 196 bl_196_43 [some (vA 259), d1, some (vI l2)] [vI s0] μ (none, r) := by
  unfold M_readNumber_43 at h
  refine N1 (j := 4) (fun _ => rfl) ?_
  refine RgI (x := μ 259 18) rfl (gf_c kd_259) ?_
  refine N1 (j := 2) (fun _ => rfl) ?_
  obtain ⟨m1, h2, h⟩ := bindS h
  refine RpI rfl (pf_0 kd_259 (by decide) h2) ?_
  have hF3 := fxP hF ff_259_18 h2
  refine Rgo jm_196_4 ?_
  exact hK4 _ _ _ _ h hF3
theorem t_M_readNumber_4    : ∀ (n : Nat) (μ : Mem) (l1 : Int) (l2 : Int) (r : Mem), M_readNumber_4 n μ l1 l2 = some r → FX μ → Rn FX 196 bl_196_4 [some (vA 259), some (vI l1), some (vI l2)] [] μ (none, r) := by
  intro n
  induction n with
  | zero =>
    intro μ l1 l2 r h
    exact noneS h
  | succ n ih =>
    intro μ l1 l2 r h hF 
    rw [M_readNumber_4] at h
    refine N1 (j := 2) (fun _ => rfl) ?_
    refine RgI (x := μ 259 18) rfl (gf_c kd_259) ?_
    obtain ⟨x1, h2, h⟩ := bindS h
    refine RC_192 ci_virtual (clE rfl) (rcE kd_259 rfl) (t_M_byteAt h2 hF).1 ?_
    obtain ⟨x3, h4, h⟩ := bindS h
    refine RC_195 (ci_static rfl) (clE rfl) (t_M_isDigit h4 hF).1 ?_
    by_cases c21 : x3 = 0
    · replace h := ifT c21 h
      refine Rzt (x := x3) (cmpeq c21) jm_196_60 ?_
      refine N1 (j := 1) (fun _ => rfl) ?_
      refine RgA (x := 268) rfl (gf_v kd_259 (fx_259_13 hF)) ?_
      refine N1 (j := 1) (fun _ => rfl) ?_
      refine RgI (x := μ 259 16) rfl (gf_c kd_259) ?_
      refine N1 (j := 2) (fun _ => rfl) ?_
      by_cases c17 : 4 < l2
      · replace h := ifT c17 h
        refine Rit (x := l2) (cmpgt c17) jm_196_77 ?_
        refine N1 (j := 1) (fun _ => rfl) ?_
        obtain ⟨m5, h6, h⟩ := bindS h
        refine RsI (wI_268 h6) ?_
        have hF7 := fxS hF ka_268 h6
        refine N1 (j := 1) (fun _ => rfl) ?_
        refine RgA (x := 269) rfl (gf_v kd_259 (fx_259_14 hF7)) ?_
        refine N1 (j := 1) (fun _ => rfl) ?_
        refine RgI (x := m5 259 16) rfl (gf_c kd_259) ?_
        refine N1 (j := 1) (fun _ => rfl) ?_
        obtain ⟨m8, h9, h⟩ := bindS h
        refine RsI (wI_269 h9) ?_
        have hF10 := fxS hF7 ka_269 h9
        cases h
        exact Rrv mt_196 hF10
      · replace h := ifF c17 h
        refine Rif (x := l2) (cmngt c17) ?_
        refine N1 (j := 1) (fun _ => rfl) ?_
        refine Rgo jm_196_78 ?_
        obtain ⟨m11, h12, h⟩ := bindS h
        refine RsI (wI_268 h12) ?_
        have hF13 := fxS hF ka_268 h12
        refine N1 (j := 1) (fun _ => rfl) ?_
        refine RgA (x := 269) rfl (gf_v kd_259 (fx_259_14 hF13)) ?_
        refine N1 (j := 1) (fun _ => rfl) ?_
        refine RgI (x := m11 259 16) rfl (gf_c kd_259) ?_
        refine N1 (j := 1) (fun _ => rfl) ?_
        obtain ⟨m14, h15, h⟩ := bindS h
        refine RsI (wI_269 h15) ?_
        have hF16 := fxS hF13 ka_269 h15
        cases h
        exact Rrv mt_196 hF16
    · replace h := ifF c21 h
      refine Rzf (x := x3) (cmneq c21) ?_
      refine N1 (j := 2) (fun _ => rfl) ?_
      by_cases c20 : 4 ≤ l2
      · replace h := ifT c20 h
        refine Rit (x := l2) (cmpge c20) jm_196_42 ?_
        refine N1 (j := 1) (fun _ => rfl) ?_
        exact t_M_readNumber_43 ih h hF (by first | rfl | assumption)
      · replace h := ifF c20 h
        refine Rif (x := l2) (cmnge c20) ?_
        refine N1 (j := 5) (fun _ => rfl) ?_
        refine RgI (x := μ 259 18) rfl (gf_c kd_259) ?_
        obtain ⟨x18, h19, h⟩ := bindS h
        refine RC_192 ci_virtual (clE rfl) (rcE kd_259 rfl) (t_M_byteAt h19 hF).1 ?_
        refine N1 (j := 3) (fun _ => rfl) ?_
        refine Rgo jm_196_43 ?_
        exact t_M_readNumber_43 ih h hF (by first | rfl | assumption)
theorem b_M_readNumber  {μ : Mem}  {r : Mem}  (h : M_readNumber μ = some r) (hF : FX μ)  : Rn FX 196 cd_196 [some (vA 259), none, none] [] μ (none, r) := by
  unfold M_readNumber at h
  refine N1 (j := 4) (fun _ => rfl) ?_
  exact t_M_readNumber_4  _ _ _ _ _ h hF
theorem t_M_readNumber {μ : Mem}  {r : Mem} (h : M_readNumber μ = some r) (hF : FX μ) : RunM 196 [vA 259] μ (none, r) ∧ FX ((none, r) : Res).2 := RM md_196 rfl rfl (b_M_readNumber h hF)
theorem t_M_read_26 {K0 : Mem → Option (Mem)} {μ : Mem}  {d1 : Option SV} {r : Mem} (hK0 : ∀ (μ : Mem) (d1 : Option SV) (r : Mem), K0 μ = some r → FX μ → noJ d1 = true → Rn FX 191 cd_191 [some (vA 259), d1] [] μ (none, r)) (h : M_read_26 K0 μ = some r) (hF : FX μ) (hd1 : noJ d1 = true) : Rn FX 191 bl_191_26 [some (vA 259), d1] [] μ (none, r) := by
  unfold M_read_26 at h
  refine N1 (j := 2) (fun _ => rfl) ?_
  refine RgI (x := μ 259 18) rfl (gf_c kd_259) ?_
  refine N1 (j := 2) (fun _ => rfl) ?_
  obtain ⟨m1, h2, h⟩ := bindS h
  refine RpI rfl (pf_0 kd_259 (by decide) h2) ?_
  have hF3 := fxP hF ff_259_18 h2
  refine Rgo jm_191_0 ?_
  exact hK0 _ _ _ h hF3 (by first | rfl | assumption)
theorem t_M_read_166  {μ : Mem} {s1 : Int} {s2 : Int} {d1 : Option SV} {r : Mem}  (h : M_read_166 μ s1 s2 = some r) (hF : FX μ) (hd1 : noJ d1 = true) : Rn FX 191 bl_191_166 [some (vA 259), d1] [vI s2, vI s1, vA 268] μ (none, r) := by
  unfold M_read_166 at h
  obtain ⟨m1, h2, h⟩ := bindS h
  refine RsI (wI_268 h2) ?_
  have hF3 := fxS hF ka_268 h2
  refine N1 (j := 2) (fun _ => rfl) ?_
  refine RgI (x := m1 259 18) rfl (gf_c kd_259) ?_
  refine N1 (j := 2) (fun _ => rfl) ?_
  obtain ⟨m4, h5, h⟩ := bindS h
  refine RpI rfl (pf_0 kd_259 (by decide) h5) ?_
  have hF6 := fxP hF3 ff_259_18 h5
  refine N1 (j := 2) (fun _ => rfl) ?_
  refine RgI (x := m4 259 16) rfl (gf_c kd_259) ?_
  refine N1 (j := 2) (fun _ => rfl) ?_
  obtain ⟨m7, h8, h⟩ := bindS h
  refine RpI rfl (pf_0 kd_259 (by decide) h8) ?_
  have hF9 := fxP hF6 ff_259_16 h8
  cases h
  exact Rrv mt_191 hF9
theorem t_M_read_0    : ∀ (n : Nat) (μ : Mem) (d1 : Option SV) (r : Mem), M_read_0 n μ = some r → FX μ → noJ d1 = true → Rn FX 191 cd_191 [some (vA 259), d1] [] μ (none, r) := by
  intro n
  induction n with
  | zero =>
    intro μ d1 r h
    exact noneS h
  | succ n ih =>
    intro μ d1 r h hF hd1
    rw [M_read_0] at h
    refine N1 (j := 2) (fun _ => rfl) ?_
    refine RgI (x := μ 259 18) rfl (gf_c kd_259) ?_
    obtain ⟨x1, h2, h⟩ := bindS h
    refine RC_192 ci_virtual (clE rfl) (rcE kd_259 rfl) (t_M_byteAt h2 hF).1 ?_
    refine N1 (j := 1) (fun _ => rfl) ?_
    by_cases c44 : x1 = 10
    · replace h := ifT c44 h
      refine Rit (x := x1) (cmpeq c44) jm_191_26 ?_
      exact t_M_read_26 ih h hF (by first | rfl | assumption)
    · replace h := ifF c44 h
      refine Rif (x := x1) (cmneq c44) ?_
      refine N1 (j := 2) (fun _ => rfl) ?_
      refine RgI (x := μ 259 18) rfl (gf_c kd_259) ?_
      obtain ⟨x3, h4, h⟩ := bindS h
      refine RC_192 ci_virtual (clE rfl) (rcE kd_259 rfl) (t_M_byteAt h4 hF).1 ?_
      refine N1 (j := 1) (fun _ => rfl) ?_
      by_cases c43 : x3 ≠ 32
      · replace h := ifT c43 h
        refine Rit (x := x3) (cmpne c43) jm_191_39 ?_
        refine N1 (j := 2) (fun _ => rfl) ?_
        refine RgI (x := μ 259 18) rfl (gf_c kd_259) ?_
        obtain ⟨x5, h6, h⟩ := bindS h
        refine RC_192 ci_virtual (clE rfl) (rcE kd_259 rfl) (t_M_byteAt h6 hF).1 ?_
        refine N1 (j := 2) (fun _ => rfl) ?_
        refine RgA (x := 270) rfl (gf_v kd_259 (fx_259_15 hF)) ?_
        refine N1 (j := 1) (fun _ => rfl) ?_
        refine RgI (x := μ 259 16) rfl (gf_c kd_259) ?_
        refine N1 (j := 1) (fun _ => rfl) ?_
        refine RgI (x := μ 259 18) rfl (gf_c kd_259) ?_
        obtain ⟨m7, h8, h⟩ := bindS h
        refine RsI (wI_270 h8) ?_
        have hF9 := fxS hF ka_270 h8
        refine N1 (j := 1) (fun _ => rfl) ?_
        refine RgA (x := 269) rfl (gf_v kd_259 (fx_259_14 hF9)) ?_
        refine N1 (j := 1) (fun _ => rfl) ?_
        refine RgI (x := m7 259 16) rfl (gf_c kd_259) ?_
        refine N1 (j := 1) (fun _ => rfl) ?_
        obtain ⟨m10, h11, h⟩ := bindS h
        refine RsI (wI_269 h11) ?_
        have hF12 := fxS hF9 ka_269 h11
        refine N1 (j := 1) (fun _ => rfl) ?_
        refine RgI (x := m10 259 18) rfl (gf_c kd_259) ?_
        refine N1 (j := 1) (fun _ => rfl) ?_
        refine RgI (x := m10 259 10) rfl (gf_c kd_259) ?_
        by_cases c42 : (m10 259 18) < (m10 259 10)
        · replace h := ifT c42 h
          refine Rit (x := (m10 259 18)) (cmplt c42) jm_191_95 ?_
          refine N1 (j := 1) (fun _ => rfl) ?_
          obtain ⟨x13, h14, h⟩ := bindS h
          refine RC_193 (ci_static rfl) (clE rfl) (t_M_isLetter h14 hF12).1 ?_
          by_cases c35 : x13 = 0
          · replace h := ifT c35 h
            refine Rzt (x := x13) (cmpeq c35) jm_191_109 ?_
            refine N1 (j := 1) (fun _ => rfl) ?_
            obtain ⟨x15, h16, h⟩ := bindS h
            refine RC_195 (ci_static rfl) (clE rfl) (t_M_isDigit h16 hF12).1 ?_
            by_cases c28 : x15 = 0
            · replace h := ifT c28 h
              refine Rzt (x := x15) (cmpeq c28) jm_191_123 ?_
              refine N1 (j := 1) (fun _ => rfl) ?_
              refine RgA (x := 268) rfl (gf_v kd_259 (fx_259_13 hF12)) ?_
              refine N1 (j := 1) (fun _ => rfl) ?_
              refine RgI (x := m10 259 16) rfl (gf_c kd_259) ?_
              refine N1 (j := 2) (fun _ => rfl) ?_
              by_cases c21 : x5 = 59
              · replace h := ifT c21 h
                refine Rit (x := x5) (cmpeq c21) jm_191_161 ?_
                refine N1 (j := 1) (fun _ => rfl) ?_
                refine Rgo jm_191_166 ?_
                exact t_M_read_166  h hF12 (by first | rfl | assumption)
              · replace h := ifF c21 h
                refine Rif (x := x5) (cmneq c21) ?_
                refine N1 (j := 2) (fun _ => rfl) ?_
                by_cases c20 : x5 = 43
                · replace h := ifT c20 h
                  refine Rit (x := x5) (cmpeq c20) jm_191_161 ?_
                  refine N1 (j := 1) (fun _ => rfl) ?_
                  refine Rgo jm_191_166 ?_
                  exact t_M_read_166  h hF12 (by first | rfl | assumption)
                · replace h := ifF c20 h
                  refine Rif (x := x5) (cmneq c20) ?_
                  refine N1 (j := 2) (fun _ => rfl) ?_
                  by_cases c19 : x5 = 45
                  · replace h := ifT c19 h
                    refine Rit (x := x5) (cmpeq c19) jm_191_161 ?_
                    refine N1 (j := 1) (fun _ => rfl) ?_
                    refine Rgo jm_191_166 ?_
                    exact t_M_read_166  h hF12 (by first | rfl | assumption)
                  · replace h := ifF c19 h
                    refine Rif (x := x5) (cmneq c19) ?_
                    refine N1 (j := 2) (fun _ => rfl) ?_
                    by_cases c18 : x5 = 61
                    · replace h := ifT c18 h
                      refine Rit (x := x5) (cmpeq c18) jm_191_161 ?_
                      refine N1 (j := 1) (fun _ => rfl) ?_
                      refine Rgo jm_191_166 ?_
                      exact t_M_read_166  h hF12 (by first | rfl | assumption)
                    · replace h := ifF c18 h
                      refine Rif (x := x5) (cmneq c18) ?_
                      refine N1 (j := 2) (fun _ => rfl) ?_
                      by_cases c17 : x5 ≠ 64
                      · replace h := ifT c17 h
                        refine Rit (x := x5) (cmpne c17) jm_191_165 ?_
                        refine N1 (j := 1) (fun _ => rfl) ?_
                        exact t_M_read_166  h hF12 (by first | rfl | assumption)
                      · replace h := ifF c17 h
                        refine Rif (x := x5) (cmnne c17) ?_
                        refine N1 (j := 1) (fun _ => rfl) ?_
                        refine Rgo jm_191_166 ?_
                        exact t_M_read_166  h hF12 (by first | rfl | assumption)
            · replace h := ifF c28 h
              refine Rzf (x := x15) (cmneq c28) ?_
              refine N1 (j := 1) (fun _ => rfl) ?_
              obtain ⟨m22, h23, h⟩ := bindS h
              refine RC_196 ci_virtual (clE rfl) (rcE kd_259 rfl) (t_M_readNumber h23 hF12).1 ?_
              have hF24 := (t_M_readNumber h23 hF12).2
              refine Rgo jm_191_177 ?_
              refine N1 (j := 2) (fun _ => rfl) ?_
              refine RgI (x := m22 259 16) rfl (gf_c kd_259) ?_
              refine N1 (j := 2) (fun _ => rfl) ?_
              obtain ⟨m25, h26, h⟩ := bindS h
              refine RpI rfl (pf_0 kd_259 (by decide) h26) ?_
              have hF27 := fxP hF24 ff_259_16 h26
              cases h
              exact Rrv mt_191 hF27
          · replace h := ifF c35 h
            refine Rzf (x := x13) (cmneq c35) ?_
            refine N1 (j := 1) (fun _ => rfl) ?_
            obtain ⟨m29, h30, h⟩ := bindS h
            refine RC_194 ci_virtual (clE rfl) (rcE kd_259 rfl) (t_M_readWord h30 hF12).1 ?_
            have hF31 := (t_M_readWord h30 hF12).2
            refine Rgo jm_191_177 ?_
            refine N1 (j := 2) (fun _ => rfl) ?_
            refine RgI (x := m29 259 16) rfl (gf_c kd_259) ?_
            refine N1 (j := 2) (fun _ => rfl) ?_
            obtain ⟨m32, h33, h⟩ := bindS h
            refine RpI rfl (pf_0 kd_259 (by decide) h33) ?_
            have hF34 := fxP hF31 ff_259_16 h33
            cases h
            exact Rrv mt_191 hF34
        · replace h := ifF c42 h
          refine Rif (x := (m10 259 18)) (cmnlt c42) ?_
          refine N1 (j := 1) (fun _ => rfl) ?_
          refine RgA (x := 268) rfl (gf_v kd_259 (fx_259_13 hF12)) ?_
          refine N1 (j := 1) (fun _ => rfl) ?_
          refine RgI (x := m10 259 16) rfl (gf_c kd_259) ?_
          refine N1 (j := 1) (fun _ => rfl) ?_
          obtain ⟨m36, h37, h⟩ := bindS h
          refine RsI (wI_268 h37) ?_
          have hF38 := fxS hF12 ka_268 h37
          refine Rgo jm_191_177 ?_
          refine N1 (j := 2) (fun _ => rfl) ?_
          refine RgI (x := m36 259 16) rfl (gf_c kd_259) ?_
          refine N1 (j := 2) (fun _ => rfl) ?_
          obtain ⟨m39, h40, h⟩ := bindS h
          refine RpI rfl (pf_0 kd_259 (by decide) h40) ?_
          have hF41 := fxP hF38 ff_259_16 h40
          cases h
          exact Rrv mt_191 hF41
      · replace h := ifF c43 h
        refine Rif (x := x3) (cmnne c43) ?_
        exact t_M_read_26 ih h hF (by first | rfl | assumption)
theorem b_M_read {μ : Mem}  {r : Mem} (h : M_read μ = some r) (hF : FX μ) : Rn FX 191 cd_191 [some (vA 259), none] [] μ (none, r) := t_M_read_0 _ _ _ _ h hF rfl
theorem t_M_read {μ : Mem}  {r : Mem} (h : M_read μ = some r) (hF : FX μ) : RunM 191 [vA 259] μ (none, r) ∧ FX ((none, r) : Res).2 := RM md_191 rfl rfl (b_M_read h hF)
theorem b_M_isSignAt  {μ : Mem} {a1 : Int} {a2 : Int} {r : Int}  (h : M_isSignAt μ a1 a2 = some r) (hF : FX μ)  : Rn FX 229 cd_229 [some (vA 259), some (vI a1), some (vI a2)] [] μ (some (vI r), μ) := by
  unfold M_isSignAt at h
  refine N1 (j := 1) (fun _ => rfl) ?_
  refine RgA (x := 268) rfl (gf_v kd_259 (fx_259_13 hF)) ?_
  refine N1 (j := 1) (fun _ => rfl) ?_
  obtain ⟨x1, h2, h⟩ := bindS h
  refine RaI (rI_268 h2) ?_
  refine N1 (j := 1) (fun _ => rfl) ?_
  by_cases c6 : x1 ≠ 3
  · replace h := ifT c6 h
    refine Rit (x := x1) (cmpne c6) jm_229_24 ?_
    refine N1 (j := 1) (fun _ => rfl) ?_
    cases h
    exact Rri mt_229 rfl hF
  · replace h := ifF c6 h
    refine Rif (x := x1) (cmnne c6) ?_
    refine N1 (j := 1) (fun _ => rfl) ?_
    refine RgA (x := 269) rfl (gf_v kd_259 (fx_259_14 hF)) ?_
    refine N1 (j := 1) (fun _ => rfl) ?_
    obtain ⟨x3, h4, h⟩ := bindS h
    refine RaI (rI_269 h4) ?_
    refine N1 (j := 1) (fun _ => rfl) ?_
    by_cases c5 : x3 ≠ a2
    · replace h := ifT c5 h
      refine Rit (x := x3) (cmpne c5) jm_229_24 ?_
      refine N1 (j := 1) (fun _ => rfl) ?_
      cases h
      exact Rri mt_229 rfl hF
    · replace h := ifF c5 h
      refine Rif (x := x3) (cmnne c5) ?_
      refine N1 (j := 1) (fun _ => rfl) ?_
      refine Rgo jm_229_25 ?_
      cases h
      exact Rri mt_229 rfl hF
theorem t_M_isSignAt {μ : Mem} {a1 : Int} {a2 : Int} {r : Int} (h : M_isSignAt μ a1 a2 = some r) (hF : FX μ) : RunM 229 [vA 259, vI a1, vI a2] μ (some (vI r), μ) ∧ FX ((some (vI r), μ) : Res).2 := RM md_229 rfl rfl (b_M_isSignAt h hF)
theorem b_M_isWordAt  {μ : Mem} {a1 : Int} {a2 : Int} {r : Int}  (h : M_isWordAt μ a1 a2 = some r) (hF : FX μ)  : Rn FX 230 cd_230 [some (vA 259), some (vI a1), some (vI a2)] [] μ (some (vI r), μ) := by
  unfold M_isWordAt at h
  refine N1 (j := 1) (fun _ => rfl) ?_
  refine RgA (x := 268) rfl (gf_v kd_259 (fx_259_13 hF)) ?_
  refine N1 (j := 1) (fun _ => rfl) ?_
  obtain ⟨x1, h2, h⟩ := bindS h
  refine RaI (rI_268 h2) ?_
  refine N1 (j := 1) (fun _ => rfl) ?_
  by_cases c6 : x1 ≠ 1
  · replace h := ifT c6 h
    refine Rit (x := x1) (cmpne c6) jm_230_24 ?_
    refine N1 (j := 1) (fun _ => rfl) ?_
    cases h
    exact Rri mt_230 rfl hF
  · replace h := ifF c6 h
    refine Rif (x := x1) (cmnne c6) ?_
    refine N1 (j := 1) (fun _ => rfl) ?_
    refine RgA (x := 269) rfl (gf_v kd_259 (fx_259_14 hF)) ?_
    refine N1 (j := 1) (fun _ => rfl) ?_
    obtain ⟨x3, h4, h⟩ := bindS h
    refine RaI (rI_269 h4) ?_
    refine N1 (j := 1) (fun _ => rfl) ?_
    by_cases c5 : x3 ≠ a2
    · replace h := ifT c5 h
      refine Rit (x := x3) (cmpne c5) jm_230_24 ?_
      refine N1 (j := 1) (fun _ => rfl) ?_
      cases h
      exact Rri mt_230 rfl hF
    · replace h := ifF c5 h
      refine Rif (x := x3) (cmnne c5) ?_
      refine N1 (j := 1) (fun _ => rfl) ?_
      refine Rgo jm_230_25 ?_
      cases h
      exact Rri mt_230 rfl hF
theorem t_M_isWordAt {μ : Mem} {a1 : Int} {a2 : Int} {r : Int} (h : M_isWordAt μ a1 a2 = some r) (hF : FX μ) : RunM 230 [vA 259, vI a1, vI a2] μ (some (vI r), μ) ∧ FX ((some (vI r), μ) : Res).2 := RM md_230 rfl rfl (b_M_isWordAt h hF)
theorem b_M_cueNumber  {μ : Mem} {a1 : Int} {r : Int}  (h : M_cueNumber μ a1 = some r) (hF : FX μ)  : Rn FX 241 cd_241 [some (vA 259), some (vI a1)] [] μ (some (vI r), μ) := by
  unfold M_cueNumber at h
  refine N1 (j := 1) (fun _ => rfl) ?_
  refine RgA (x := 264) rfl (gf_v kd_259 (fx_259_4 hF)) ?_
  refine N1 (j := 5) (fun _ => rfl) ?_
  obtain ⟨x1, h2, h⟩ := bindS h
  refine RaI (rI_264 h2) ?_
  cases h
  exact Rri mt_241 rfl hF
theorem t_M_cueNumber {μ : Mem} {a1 : Int} {r : Int} (h : M_cueNumber μ a1 = some r) (hF : FX μ) : RunM 241 [vA 259, vI a1] μ (some (vI r), μ) ∧ FX ((some (vI r), μ) : Res).2 := RM md_241 rfl rfl (b_M_cueNumber h hF)
theorem t_M_cueRow_4  {μ : Mem} {l1 : Int}  : ∀ (n : Nat) (l2 : Int) (l3 : Int) (r : Int), M_cueRow_4 μ l1 n l2 l3 = some r → FX μ → Rn FX 240 bl_240_4 [some (vA 259), some (vI l1), some (vI l2), some (vI l3)] [] μ (some (vI r), μ) := by
  intro n
  induction n with
  | zero =>
    intro l2 l3 r h
    exact noneS h
  | succ n ih =>
    intro l2 l3 r h hF 
    rw [M_cueRow_4] at h
    refine N1 (j := 2) (fun _ => rfl) ?_
    by_cases c5 : 30 ≤ l3
    · replace h := ifT c5 h
      refine Rit (x := l3) (cmpge c5) jm_240_35 ?_
      refine N1 (j := 1) (fun _ => rfl) ?_
      cases h
      exact Rri mt_240 rfl hF
    · replace h := ifF c5 h
      refine Rif (x := l3) (cmnge c5) ?_
      refine N1 (j := 1) (fun _ => rfl) ?_
      by_cases c4 : l1 ≤ 0
      · replace h := ifT c4 h
        refine Rzt (x := l1) (cmple c4) jm_240_27 ?_
        refine N1 (j := 3) (fun _ => rfl) ?_
        refine Rgo jm_240_4 ?_
        exact ih _ _ _ h hF
      · replace h := ifF c4 h
        refine Rzf (x := l1) (cmnle c4) ?_
        refine N1 (j := 2) (fun _ => rfl) ?_
        obtain ⟨x1, h2, h⟩ := bindS h
        refine RC_241 ci_virtual (clE rfl) (rcE kd_259 rfl) (t_M_cueNumber h2 hF).1 ?_
        refine N1 (j := 1) (fun _ => rfl) ?_
        by_cases c3 : x1 ≠ l1
        · replace h := ifT c3 h
          refine Rit (x := x1) (cmpne c3) jm_240_27 ?_
          refine N1 (j := 3) (fun _ => rfl) ?_
          refine Rgo jm_240_4 ?_
          exact ih _ _ _ h hF
        · replace h := ifF c3 h
          refine Rif (x := x1) (cmnne c3) ?_
          refine N1 (j := 1) (fun _ => rfl) ?_
          refine Rgo jm_240_28 ?_
          refine N1 (j := 2) (fun _ => rfl) ?_
          refine Rgo jm_240_4 ?_
          exact ih _ _ _ h hF
theorem b_M_cueRow  {μ : Mem} {a1 : Int} {r : Int}  (h : M_cueRow μ a1 = some r) (hF : FX μ)  : Rn FX 240 cd_240 [some (vA 259), some (vI a1), none, none] [] μ (some (vI r), μ) := by
  unfold M_cueRow at h
  refine N1 (j := 4) (fun _ => rfl) ?_
  exact t_M_cueRow_4  _ _ _ _ h hF
theorem t_M_cueRow {μ : Mem} {a1 : Int} {r : Int} (h : M_cueRow μ a1 = some r) (hF : FX μ) : RunM 240 [vA 259, vI a1] μ (some (vI r), μ) ∧ FX ((some (vI r), μ) : Res).2 := RM md_240 rfl rfl (b_M_cueRow h hF)
theorem t_M_patch_161 {K81 : Mem → Int → Option (Mem)} {μ : Mem} {l1 : Int} {l2 : Int} {r : Mem} (hK81 : ∀ (μ : Mem) (l2 : Int) (r : Mem), K81 μ l2 = some r → FX μ → Rn FX 248 bl_248_81 [some (vA 259), some (vI l1), some (vI l2)] [] μ (none, r)) (h : M_patch_161 K81 μ l1 l2 = some r) (hF : FX μ)  : Rn FX 248 bl_248_161 [some (vA 259), some (vI l1), some (vI l2)] [] μ (none, r) := by
  unfold M_patch_161 at h
  refine N1 (j := 3) (fun _ => rfl) ?_
  obtain ⟨x1, h2, h⟩ := bindS h
  refine RC_230 ci_virtual (clE rfl) (rcE kd_259 rfl) (t_M_isWordAt h2 hF).1 ?_
  by_cases c6 : x1 = 0
  · replace h := ifT c6 h
    refine Rzt (x := x1) (cmpeq c6) jm_248_180 ?_
    refine N1 (j := 1) (fun _ => rfl) ?_
    refine Rgo jm_248_81 ?_
    exact hK81 _ _ _ h hF
  · replace h := ifF c6 h
    refine Rzf (x := x1) (cmneq c6) ?_
    refine N1 (j := 1) (fun _ => rfl) ?_
    refine RgA (x := 264) rfl (gf_v kd_259 (fx_259_4 hF)) ?_
    refine N1 (j := 4) (fun _ => rfl) ?_
    obtain ⟨m3, h4, h⟩ := bindS h
    refine RsI (wI_264 h4) ?_
    have hF5 := fxS hF ka_264 h4
    refine N1 (j := 1) (fun _ => rfl) ?_
    refine Rgo jm_248_81 ?_
    exact hK81 _ _ _ h hF5
theorem t_M_patch_142 {K81 : Mem → Int → Option (Mem)} {μ : Mem} {l1 : Int} {l2 : Int} {r : Mem} (hK81 : ∀ (μ : Mem) (l2 : Int) (r : Mem), K81 μ l2 = some r → FX μ → Rn FX 248 bl_248_81 [some (vA 259), some (vI l1), some (vI l2)] [] μ (none, r)) (h : M_patch_142 K81 μ l1 l2 = some r) (hF : FX μ)  : Rn FX 248 bl_248_142 [some (vA 259), some (vI l1), some (vI l2)] [] μ (none, r) := by
  unfold M_patch_142 at h
  refine N1 (j := 3) (fun _ => rfl) ?_
  obtain ⟨x1, h2, h⟩ := bindS h
  refine RC_230 ci_virtual (clE rfl) (rcE kd_259 rfl) (t_M_isWordAt h2 hF).1 ?_
  by_cases c6 : x1 = 0
  · replace h := ifT c6 h
    refine Rzt (x := x1) (cmpeq c6) jm_248_161 ?_
    exact t_M_patch_161 hK81 h hF
  · replace h := ifF c6 h
    refine Rzf (x := x1) (cmneq c6) ?_
    refine N1 (j := 1) (fun _ => rfl) ?_
    refine RgA (x := 264) rfl (gf_v kd_259 (fx_259_4 hF)) ?_
    refine N1 (j := 4) (fun _ => rfl) ?_
    obtain ⟨m3, h4, h⟩ := bindS h
    refine RsI (wI_264 h4) ?_
    have hF5 := fxS hF ka_264 h4
    exact t_M_patch_161 hK81 h hF5
theorem t_M_patch_116 {K81 : Mem → Int → Option (Mem)} {μ : Mem} {l1 : Int} {l2 : Int} {r : Mem} (hK81 : ∀ (μ : Mem) (l2 : Int) (r : Mem), K81 μ l2 = some r → FX μ → Rn FX 248 bl_248_81 [some (vA 259), some (vI l1), some (vI l2)] [] μ (none, r)) (h : M_patch_116 K81 μ l1 l2 = some r) (hF : FX μ)  : Rn FX 248 bl_248_116 [some (vA 259), some (vI l1), some (vI l2)] [] μ (none, r) := by
  unfold M_patch_116 at h
  refine N1 (j := 3) (fun _ => rfl) ?_
  obtain ⟨x1, h2, h⟩ := bindS h
  refine RC_230 ci_virtual (clE rfl) (rcE kd_259 rfl) (t_M_isWordAt h2 hF).1 ?_
  by_cases c8 : x1 = 0
  · replace h := ifT c8 h
    refine Rzt (x := x1) (cmpeq c8) jm_248_142 ?_
    exact t_M_patch_142 hK81 h hF
  · replace h := ifF c8 h
    refine Rzf (x := x1) (cmneq c8) ?_
    refine N1 (j := 1) (fun _ => rfl) ?_
    refine RgA (x := 264) rfl (gf_v kd_259 (fx_259_4 hF)) ?_
    refine N1 (j := 4) (fun _ => rfl) ?_
    refine RgA (x := 269) rfl (gf_v kd_259 (fx_259_14 hF)) ?_
    refine N1 (j := 3) (fun _ => rfl) ?_
    obtain ⟨x3, h4, h⟩ := bindS h
    refine RaI (rI_269 h4) ?_
    obtain ⟨m5, h6, h⟩ := bindS h
    refine RsI (wI_264 h6) ?_
    have hF7 := fxS hF ka_264 h6
    exact t_M_patch_142 hK81 h hF7
theorem t_M_patch_81  {l1 : Int}  : ∀ (n : Nat) (μ : Mem) (l2 : Int) (r : Mem), M_patch_81 l1 n μ l2 = some r → FX μ → Rn FX 248 bl_248_81 [some (vA 259), some (vI l1), some (vI l2)] [] μ (none, r) := by
  intro n
  induction n with
  | zero =>
    intro μ l2 r h
    exact noneS h
  | succ n ih =>
    intro μ l2 r h hF 
    rw [M_patch_81] at h
    refine N1 (j := 3) (fun _ => rfl) ?_
    obtain ⟨x1, h2, h⟩ := bindS h
    refine RC_229 ci_virtual (clE rfl) (rcE kd_259 rfl) (t_M_isSignAt h2 hF).1 ?_
    by_cases c14 : x1 ≠ 0
    · replace h := ifT c14 h
      refine Rzt (x := x1) (cmpne c14) jm_248_186 ?_
      refine N1 (j := 1) (fun _ => rfl) ?_
      refine RgA (x := 279) rfl (gf_v kd_259 (fx_259_37 hF)) ?_
      refine N1 (j := 1) (fun _ => rfl) ?_
      refine RgA (x := 269) rfl (gf_v kd_259 (fx_259_14 hF)) ?_
      refine N1 (j := 1) (fun _ => rfl) ?_
      refine RaI (x := μ 269 1) (rI_269 (aI_c rfl)) ?_
      refine N1 (j := 3) (fun _ => rfl) ?_
      obtain ⟨m3, h4, h⟩ := bindS h
      refine RsI (wI_279 h4) ?_
      have hF5 := fxS hF ka_279 h4
      cases h
      exact Rrv mt_248 hF5
    · replace h := ifF c14 h
      refine Rzf (x := x1) (cmnne c14) ?_
      refine N1 (j := 3) (fun _ => rfl) ?_
      obtain ⟨x6, h7, h⟩ := bindS h
      refine RC_230 ci_virtual (clE rfl) (rcE kd_259 rfl) (t_M_isWordAt h7 hF).1 ?_
      by_cases c13 : x6 = 0
      · replace h := ifT c13 h
        refine Rzt (x := x6) (cmpeq c13) jm_248_116 ?_
        exact t_M_patch_116 ih h hF
      · replace h := ifF c13 h
        refine Rzf (x := x6) (cmneq c13) ?_
        refine N1 (j := 1) (fun _ => rfl) ?_
        refine RgA (x := 264) rfl (gf_v kd_259 (fx_259_4 hF)) ?_
        refine N1 (j := 4) (fun _ => rfl) ?_
        refine RgA (x := 269) rfl (gf_v kd_259 (fx_259_14 hF)) ?_
        refine N1 (j := 3) (fun _ => rfl) ?_
        obtain ⟨x8, h9, h⟩ := bindS h
        refine RaI (rI_269 h9) ?_
        obtain ⟨m10, h11, h⟩ := bindS h
        refine RsI (wI_264 h11) ?_
        have hF12 := fxS hF ka_264 h11
        exact t_M_patch_116 ih h hF12
theorem b_M_patch  {μ : Mem}  {r : Mem}  (h : M_patch μ = some r) (hF : FX μ)  : Rn FX 248 cd_248 [some (vA 259), none, none] [] μ (none, r) := by
  unfold M_patch at h
  refine N1 (j := 2) (fun _ => rfl) ?_
  refine RgA (x := 269) rfl (gf_v kd_259 (fx_259_14 hF)) ?_
  refine N1 (j := 1) (fun _ => rfl) ?_
  refine RaI (x := μ 269 1) (rI_269 (aI_c rfl)) ?_
  refine N1 (j := 3) (fun _ => rfl) ?_
  obtain ⟨x1, h2, h⟩ := bindS h
  refine RE h2 ?_
  refine N1 (j := 2) (fun _ => rfl) ?_
  refine RgA (x := 264) rfl (gf_v kd_259 (fx_259_4 hF)) ?_
  refine N1 (j := 2) (fun _ => rfl) ?_
  refine RgA (x := 269) rfl (gf_v kd_259 (fx_259_14 hF)) ?_
  refine N1 (j := 1) (fun _ => rfl) ?_
  refine RaI (x := μ 269 2) (rI_269 (aI_c rfl)) ?_
  refine N1 (j := 2) (fun _ => rfl) ?_
  obtain ⟨m3, h4, h⟩ := bindS h
  refine RsI (wI_264 h4) ?_
  have hF5 := fxS hF ka_264 h4
  refine N1 (j := 1) (fun _ => rfl) ?_
  refine RgA (x := 264) rfl (gf_v kd_259 (fx_259_4 hF5)) ?_
  refine N1 (j := 4) (fun _ => rfl) ?_
  refine RgA (x := 269) rfl (gf_v kd_259 (fx_259_14 hF5)) ?_
  refine N1 (j := 1) (fun _ => rfl) ?_
  refine RaI (x := m3 269 4) (rI_269 (aI_c rfl)) ?_
  obtain ⟨m6, h7, h⟩ := bindS h
  refine RsI (wI_264 h7) ?_
  have hF8 := fxS hF5 ka_264 h7
  refine N1 (j := 1) (fun _ => rfl) ?_
  refine RgA (x := 264) rfl (gf_v kd_259 (fx_259_4 hF8)) ?_
  refine N1 (j := 4) (fun _ => rfl) ?_
  obtain ⟨m9, h10, h⟩ := bindS h
  refine RsI (wI_264 h10) ?_
  have hF11 := fxS hF8 ka_264 h10
  refine N1 (j := 1) (fun _ => rfl) ?_
  refine RgA (x := 264) rfl (gf_v kd_259 (fx_259_4 hF11)) ?_
  refine N1 (j := 4) (fun _ => rfl) ?_
  obtain ⟨m12, h13, h⟩ := bindS h
  refine RsI (wI_264 h13) ?_
  have hF14 := fxS hF11 ka_264 h13
  refine N1 (j := 1) (fun _ => rfl) ?_
  refine RgA (x := 264) rfl (gf_v kd_259 (fx_259_4 hF14)) ?_
  refine N1 (j := 4) (fun _ => rfl) ?_
  obtain ⟨m15, h16, h⟩ := bindS h
  refine RsI (wI_264 h16) ?_
  have hF17 := fxS hF14 ka_264 h16
  refine N1 (j := 1) (fun _ => rfl) ?_
  refine RgA (x := 264) rfl (gf_v kd_259 (fx_259_4 hF17)) ?_
  refine N1 (j := 4) (fun _ => rfl) ?_
  obtain ⟨m18, h19, h⟩ := bindS h
  refine RsI (wI_264 h19) ?_
  have hF20 := fxS hF17 ka_264 h19
  refine N1 (j := 2) (fun _ => rfl) ?_
  exact t_M_patch_81  _ _ _ _ h hF20
theorem t_M_patch {μ : Mem}  {r : Mem} (h : M_patch μ = some r) (hF : FX μ) : RunM 248 [vA 259] μ (none, r) ∧ FX ((none, r) : Res).2 := RM md_248 rfl rfl (b_M_patch h hF)
