-- L3: the invariant over one memory; a step of both
theorem mo_0 {c m : Mem} : mg c m 0 = c 0 := mg_out (by decide)
theorem mo_1 {c m : Mem} : mg c m 1 = c 1 := mg_out (by decide)
theorem mo_2 {c m : Mem} : mg c m 2 = c 2 := mg_out (by decide)
theorem mo_3 {c m : Mem} : mg c m 3 = c 3 := mg_out (by decide)
theorem mo_220 {c m : Mem} : mg c m 220 = c 220 := mg_out (by decide)
theorem mo_221 {c m : Mem} : mg c m 221 = c 221 := mg_out (by decide)
theorem mo_222 {c m : Mem} : mg c m 222 = c 222 := mg_out (by decide)
theorem mo_223 {c m : Mem} : mg c m 223 = c 223 := mg_out (by decide)
theorem mo_224 {c m : Mem} : mg c m 224 = c 224 := mg_out (by decide)
theorem mo_225 {c m : Mem} : mg c m 225 = c 225 := mg_out (by decide)
theorem mo_226 {c m : Mem} : mg c m 226 = c 226 := mg_out (by decide)
theorem mo_227 {c m : Mem} : mg c m 227 = c 227 := mg_out (by decide)
theorem mo_228 {c m : Mem} : mg c m 228 = c 228 := mg_out (by decide)
theorem mo_229 {c m : Mem} : mg c m 229 = c 229 := mg_out (by decide)
theorem mo_230 {c m : Mem} : mg c m 230 = c 230 := mg_out (by decide)
theorem PR_mg {B : Int} {c m : Mem} (h : PR B c m) : PR B (mg c m) (mg c m) := by
  have h2 := h
  unfold PR PR_G PR_F PR_T PR_K PR_C at h2 ⊢
  simp only [mo_0, mo_1, mo_2, mo_3, mo_220, mo_221, mo_222, mo_223, mo_224, mo_225, mo_226, mo_227, mo_228, mo_229, mo_230, mg_259, mg_260, mg_261, mg_262, mg_263, mg_264, mg_265, mg_266, mg_267, mg_268, mg_269, mg_270, mg_271, mg_272, mg_273, mg_274, mg_275, mg_276, mg_277, mg_278, mg_279, mg_280]
  exact h2
theorem GR_mg {c m : Mem} (h : GR c m) : GR (mg c m) (mg c m) := by
  have h2 := h
  unfold GR GR_f GR_b GR_g GR_k GR_r GR_p at h2 ⊢
  simp only [mo_0, mo_1, mo_2, mo_3, mo_220, mo_221, mo_222, mo_223, mo_224, mo_225, mo_226, mo_227, mo_228, mo_229, mo_230, mg_259, mg_260, mg_261, mg_262, mg_263, mg_264, mg_265, mg_266, mg_267, mg_268, mg_269, mg_270, mg_271, mg_272, mg_273, mg_274, mg_275, mg_276, mg_277, mg_278, mg_279, mg_280]
  exact h2
theorem TR_mg {c m : Mem} (h : TR c m) : TR (mg c m) (mg c m) := by
  have h2 := h
  unfold TR TR_n TR_t TR_f at h2 ⊢
  simp only [mo_0, mo_1, mo_2, mo_3, mo_220, mo_221, mo_222, mo_223, mo_224, mo_225, mo_226, mo_227, mo_228, mo_229, mo_230, mg_259, mg_260, mg_261, mg_262, mg_263, mg_264, mg_265, mg_266, mg_267, mg_268, mg_269, mg_270, mg_271, mg_272, mg_273, mg_274, mg_275, mg_276, mg_277, mg_278, mg_279, mg_280]
  exact h2
theorem SR_mg {c m : Mem} {b : Int} {g : Int → Int} (hb : SHB b) (h : SR c b g) : SR (mg c m) b g := SR_congr h (fun o a b => mg_out (by rcases hb with rfl | ⟨j, j0, j1, rfl⟩ <;> omega))
theorem past_b {c m : Mem} (h : HR c m) {k : Int} (k0 : 0 ≤ k) (k1 : k < m 259 7) : SHB (c 220 (m 259 7 - 1 - k)) := by
  obtain ⟨K, K0, K1, K2, K3, K4, _⟩ := h.p
  obtain ⟨j, j0, j1, j2⟩ := K4 (m 259 7 - 1 - k) (by omega) (by omega)
  exact Or.inr ⟨j, j0, by omega, j2⟩
theorem HR_mg {c m : Mem} (h : HR c m) : HR (mg c m) (mg c m) := by
  refine ⟨?_, ?_, ?_, ?_⟩
  · have := h.n
    unfold HR_n
    simp only [mo_0, mo_1, mo_2, mo_3, mo_220, mo_221, mo_222, mo_223, mo_224, mo_225, mo_226, mo_227, mo_228, mo_229, mo_230, mg_259, mg_260, mg_261, mg_262, mg_263, mg_264, mg_265, mg_266, mg_267, mg_268, mg_269, mg_270, mg_271, mg_272, mg_273, mg_274, mg_275, mg_276, mg_277, mg_278, mg_279, mg_280]
    exact this
  · have := h.p
    unfold HR_p
    simp only [mo_0, mo_1, mo_2, mo_3, mo_220, mo_221, mo_222, mo_223, mo_224, mo_225, mo_226, mo_227, mo_228, mo_229, mo_230, mg_259, mg_260, mg_261, mg_262, mg_263, mg_264, mg_265, mg_266, mg_267, mg_268, mg_269, mg_270, mg_271, mg_272, mg_273, mg_274, mg_275, mg_276, mg_277, mg_278, mg_279, mg_280]
    exact this
  · intro k k0 k1
    rw [mg_259] at k1
    obtain ⟨a, b⟩ := h.s k k0 k1
    have e : pastG (mg c m) k = pastG m k := by unfold pastG; rw [mg_266, mg_259]
    rw [e, mo_220, mg_259]
    exact ⟨SR_mg (past_b h k0 k1) a, b⟩
  · intro i i0 i1 j j0 j1 hj
    rw [mo_220] at hj
    have q := h.q i i0 i1 j j0 j1 hj
    unfold SHQ at q ⊢
    rw [mg_out (show ¬ (259 ≤ 281 + 217 * j + 76 ∧ 281 + 217 * j + 76 ≤ 280) by omega)]
    exact q
theorem INV_mg {B : Int} {c m : Mem} (h : INV B c m) : INV B (mg c m) (mg c m) := by
  refine ⟨KON_mg h.kc h.km, KON_mg h.kc h.km, ?_, ?_, ?_, PR_mg h.p, GR_mg h.g, TR_mg h.t, HR_mg h.h⟩
  · show 280 ≤ mg c m 0 0
    rw [mo_0]; exact h.o
  · show SR (mg c m) 3 (mg c m 264)
    rw [mg_264]; exact SR_mg (Or.inl rfl) h.s
  · show WF (mg c m 264)
    rw [mg_264]; exact h.w
/-- a step of both, from the class's result in c' and the model's in m' -/
theorem step2 {B : Int} {μ c' m' : Mem} {v : Int} {M : Mem → Option (Int × Mem)} (fr : ∀ a b, M (mg a b) = (M b).map (mgP a)) (hu : UN μ c') (hM : M μ = some (v, m')) (h : INV B c' m') : M c' = some (v, mg c' m') ∧ INV B (mg c' m') (mg c' m') := by
  have e : mg c' μ = c' := by
    funext o
    by_cases ho : 259 ≤ o ∧ o ≤ 280
    · rw [mg_in ho]
      refine (hu.1 o ?_).symm
      unfold uB
      simp only [Bool.or_eq_true, Bool.and_eq_true, decide_eq_true_eq]
      exact Or.inr ho
    · rw [mg_out ho]
  have e2 := fr c' μ
  rw [e, hM] at e2
  exact ⟨e2, INV_mg h⟩
