-- L3: what the invariant hangs on
theorem KON_un {μ c : Mem} (h : KON μ) (hu : UN μ c) : KON c := by
  have e : ∀ o, uB o = true → c o = μ o := hu.1
  refine ⟨?_, ?_, ?_, ?_, ?_, ?_, ?_, ?_, ?_, ?_, ?_, ?_⟩
  · intro i a b; rw [e 261 (by decide)]; exact h.hm i a b
  · intro i a b; rw [e 262 (by decide)]; exact h.so i a b
  · intro i a b; rw [e 263 (by decide)]; exact h.sf i a b
  · intro i a b; rw [e 260 (by decide)]; exact h.wd i a b
  · intro i a b; rw [e (-1) (by decide)]; exact h.home i a b
  · intro i a b; rw [e (-2) (by decide)]; exact h.has i a b
  · intro i a b; rw [e (-3) (by decide)]; exact h.sok i a b
  · intro i a b; rw [e (-4) (by decide)]; exact h.lay i a b
  · intro i a b; rw [e (-5) (by decide)]; exact h.lea i a b
  · intro i a b; rw [e (-6) (by decide)]; exact h.gre i a b
  · intro i a b; rw [e 232 (by decide)]; exact h.sts i a b
  · intro i a b; rw [e 240 (by decide)]; exact h.let i a b
theorem KON_um {μ m : Mem} (h : KON μ) (e : UM μ m) : KON m := by
  refine ⟨?_, ?_, ?_, ?_, ?_, ?_, ?_, ?_, ?_, ?_, ?_, ?_⟩
  · intro i a b; rw [e 261 (by decide)]; exact h.hm i a b
  · intro i a b; rw [e 262 (by decide)]; exact h.so i a b
  · intro i a b; rw [e 263 (by decide)]; exact h.sf i a b
  · intro i a b; rw [e 260 (by decide)]; exact h.wd i a b
  · intro i a b; rw [e (-1) (by decide)]; exact h.home i a b
  · intro i a b; rw [e (-2) (by decide)]; exact h.has i a b
  · intro i a b; rw [e (-3) (by decide)]; exact h.sok i a b
  · intro i a b; rw [e (-4) (by decide)]; exact h.lay i a b
  · intro i a b; rw [e (-5) (by decide)]; exact h.lea i a b
  · intro i a b; rw [e (-6) (by decide)]; exact h.gre i a b
  · intro i a b; rw [e 232 (by decide)]; exact h.sts i a b
  · intro i a b; rw [e 240 (by decide)]; exact h.let i a b
theorem KON_mg {c m : Mem} (hc : KON c) (hm : KON m) : KON (mg c m) := by
  refine ⟨?_, ?_, ?_, ?_, ?_, ?_, ?_, ?_, ?_, ?_, ?_, ?_⟩
  · intro i a b; rw [mg_261]; exact hm.hm i a b
  · intro i a b; rw [mg_262]; exact hm.so i a b
  · intro i a b; rw [mg_263]; exact hm.sf i a b
  · intro i a b; rw [mg_260]; exact hm.wd i a b
  · intro i a b; rw [mg_out (by decide)]; exact hc.home i a b
  · intro i a b; rw [mg_out (by decide)]; exact hc.has i a b
  · intro i a b; rw [mg_out (by decide)]; exact hc.sok i a b
  · intro i a b; rw [mg_out (by decide)]; exact hc.lay i a b
  · intro i a b; rw [mg_out (by decide)]; exact hc.lea i a b
  · intro i a b; rw [mg_out (by decide)]; exact hc.gre i a b
  · intro i a b; rw [mg_out (by decide)]; exact hc.sts i a b
  · intro i a b; rw [mg_out (by decide)]; exact hc.let i a b
theorem SR_congr {c d : Mem} {b : Int} {g : Int → Int} (h : SR c b g) (e : ∀ o, b ≤ o → o < b + 217 → d o = c o) : SR d b g := by
  have e76 : d (b + 76) = c (b + 76) := e _ (by omega) (by omega)
  have eb : d b = c b := e _ (by omega) (by omega)
  have eq : ∀ i, 0 ≤ i → i < 30 → ∀ k, 0 ≤ k → k ≤ 2 → d (c (b + 76) i + k) = c (c (b + 76) i + k) := by
    intro i i0 i1 k k0 k1
    obtain ⟨t, t0, t1, t2⟩ := h.q i i0 i1
    exact e _ (by omega) (by omega)
  have eq0 : ∀ i, 0 ≤ i → i < 30 → d (c (b + 76) i) = c (c (b + 76) i) := by
    intro i i0 i1
    have := eq i i0 i1 0 (by omega) (by omega)
    rwa [Int.add_zero] at this
  have hn := h.n
  refine ⟨?_, ?_, ?_, ?_, ?_, ?_, ?_, ?_, ?_, ?_, ?_, ?_, ?_, ?_, ?_, ?_, ?_⟩
  · intro u u0 u1; rw [e (b + 3 + u) (by omega) (by omega)]; exact h.u u u0 u1
  · intro k k0 k1; rw [e (b + 93 + 2 * k) (by omega) (by omega), e (b + 94 + 2 * k) (by omega) (by omega)]; exact h.g k k0 k1
  · intro k p k0 k1 p0 p1; rw [e (b + 46 + k) (by omega) (by omega)]; exact h.p k p k0 k1 p0 p1
  · intro s u s0 s1 u0 u1; rw [e (b + 60 + s) (by omega) (by omega)]; exact h.s s u s0 s1 u0 u1
  · intro s s0 s1; rw [e (b + 68) (by omega) (by omega)]; exact h.m s s0 s1
  · intro w w0 w1; rw [e (b + 71 + w) (by omega) (by omega), e (b + 119 + 2 * w) (by omega) (by omega), e (b + 120 + 2 * w) (by omega) (by omega)]; exact h.w w w0 w1
  · intro i i0 i1; rw [e76]; exact h.q i i0 i1
  · intro i j i0 ij j1; rw [e76]; exact h.i i j i0 ij j1
  · unfold SR_n; rw [eb]; exact h.n
  · intro i j i0 ij j1
    rw [eb] at j1
    have hn2 : 0 ≤ c b 8 ∧ c b 8 ≤ 30 := hn
    unfold cnu
    rw [e76, eq0 i i0 (by omega), eq0 j (by omega) (by omega)]
    exact h.o i j i0 ij j1
  · intro i i0 i1
    rw [eb] at i1
    have hn2 : 0 ≤ c b 8 ∧ c b 8 ≤ 30 := hn
    unfold cnu cq
    rw [e76, eq0 i i0 (by omega), eq i i0 (by omega) 1 (by omega) (by omega), eq i i0 (by omega) 2 (by omega) (by omega)]
    exact h.c i i0 i1
  · intro r r0 r1 r2
    have hn2 : 0 ≤ c b 8 ∧ c b 8 ≤ 30 := hn
    obtain ⟨i, i0, i1, i2⟩ := h.r r r0 r1 r2
    refine ⟨i, i0, by rw [eb]; exact i1, ?_⟩
    unfold cnu
    rw [e76, eq0 i i0 (by omega)]
    exact i2
  · intro i i0 i1; rw [e (b + 77) (by omega) (by omega)]; exact h.h i i0 i1
  · unfold SR_b; rw [eb]; exact h.b
  · intro k k0 k1; rw [e (b + 78) (by omega) (by omega)]; exact h.k k k0 k1
  · intro x j x0 x1 j0 j1; rw [e (b + 81 + x) (by omega) (by omega)]; exact h.e x j x0 x1 j0 j1
  · unfold SR_z; rw [e (b + 91) (by omega) (by omega), e (b + 117) (by omega) (by omega)]; exact h.z
