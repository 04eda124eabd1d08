-- L3: what a text's first statement leaves for undo: all
theorem alo_sh {c : Mem} {b : Int} (h : c 0 0 + 1 = b) (b0 : 0 < b) : alo c = shM c b 0 (ShP b 0) := by
  have hP : ∀ j, ShP b 0 0 j = 0 := by
    intro j
    unfold ShP
    rw [if_pos rfl, if_neg (by omega)]
  funext o j
  unfold alo shM
  rw [h]
  by_cases z : o = 0 ∧ j = 0
  · rw [if_pos z, if_pos z]; omega
  · rw [if_neg z, if_neg z]
    by_cases y : o = b
    · rw [if_pos y, if_pos (by omega), show o - b = 0 by omega, hP]
    · rw [if_neg y, if_neg (by omega)]
theorem k220 : kd 220 = 127 ∧ ln 220 = 8 := by decide +kernel
theorem wA220 {c : Mem} {i a : Int} (ha : SHB a) (h : a ≤ c 0 0) (i0 : 0 ≤ i) (i1 : i < 8) : wA c 220 i a = some (wr c 220 i a) := by
  have a3 := (SHB_r ha).1
  unfold wA
  rw [if_pos ⟨Or.inr ⟨by omega, h, by rw [kd7 ha]; decide, by rw [kd7 ha, k220.1]⟩, by decide, i0, by rw [k220.2]; exact i1⟩]
theorem rem64 {c m : Mem} {i K : Int} (hF : FX c) (i0 : 0 ≤ i) (i1 : i < 8) (hi : c 1 6 = i) (hm : (if 8 ≤ m 259 7 then 8 else m 259 7 + 1) = i + 1) (K1 : K ≤ 8) (hK : i ≤ K) (h0 : c 0 0 = 280 + 217 * K) (p1 : ∀ i, 0 ≤ i → i < K → ∃ j, 0 ≤ j ∧ j < K ∧ c 220 i = 281 + 217 * j) (p2 : ∀ i j, 0 ≤ i → i < j → j < K → c 220 i ≠ c 220 j) (p3 : ∀ i, K ≤ i → i < 8 → c 220 i = 0) (hq : ∀ t, 0 ≤ t → t < K → SHQ c (c 220 t)) (hs : ∀ k, 0 ≤ k → k < i → SR c (c 220 (i - 1 - k)) (pastG m k) ∧ WF (pastG m k)) (s3 : SR c 3 (m 264)) (hw : WF (m 264)) (e : ∀ i, 0 ≤ i → i < 12943 → m 265 i = m 264 i) : ∃ c', D_remember_64 c = some c' ∧ HR c' (kA m) ∧ (∀ o, ¬ o = 0 → ¬ o = 1 → ¬ o = 220 → o < 281 → c' o = c o) ∧ (∀ f, ¬ f = 6 → c' 1 f = c 1 f) ∧ 280 ≤ c' 0 0 ∧ c' 0 1 = c 0 1 := by
  by_cases z : i < K
  · obtain ⟨j, j0, j1, ej⟩ := p1 i i0 z
    obtain ⟨c', d1, d2, d3, d4⟩ := rem_end i0 i1 hi hm K1 (by omega) h0 p1 p2 p3 hq hs s3 hw e
    refine ⟨c', ?_, d2, fun o _ y _ w => d3 o y w, d4, by rw [d3 0 (by decide) (by decide)]; omega, by rw [d3 0 (by decide) (by decide)]⟩
    unfold D_remember_64
    rw [hi, aI_ok i0 i1, Option.bind_some, if_pos (show c 220 i ≠ 0 by omega), d1]
  · have eK : K = i := by omega
    subst eK
    have ez : c 220 K = 0 := p3 K (by omega) i1
    obtain ⟨b, eb⟩ : ∃ b, b = 281 + 217 * K := ⟨_, rfl⟩
    have hb : SHB b := Or.inr ⟨K, i0, i1, eb⟩
    have c0 : c 0 0 + 1 = b := by omega
    have nwe : nw c 7 13 = some (alo c) := by
      unfold nw
      rw [c0, if_pos ⟨kd7 hb, ln13 hb, by decide, by omega⟩]
    have hS0 : shM c b 216 (ShN b) 0 0 = b + 216 := shM_0
    obtain ⟨c1, ec1⟩ : ∃ c1, c1 = wr (shM c b 216 (ShN b)) 220 K b := ⟨_, rfl⟩
    have w1 : wA (shM c b 216 (ShN b)) 220 K b = some c1 := by rw [ec1]; exact wA220 hb (by omega) i0 i1
    have f0 : ∀ o, ¬ o = 0 → ¬ o = 220 → ¬ (b ≤ o ∧ o ≤ b + 216) → c1 o = c o := fun o x y w => by rw [ec1, wr_o y, shM_o w x]
    have f1 : c1 220 K = b := by rw [ec1, wr_eq]
    have f2 : ∀ t, ¬ t = K → c1 220 t = c 220 t := fun t x => by rw [ec1, wr_f x, shM_o (by omega) (by omega)]
    have f3 : c1 0 0 = b + 216 := by rw [ec1, wr_o (by decide), hS0]
    have f4 : c1 0 1 = c 0 1 := by
      rw [ec1, wr_o (by decide)]
      unfold shM
      rw [if_neg (by decide), if_neg (by omega)]
    have f5 : c1 1 = c 1 := f0 1 (by decide) (by decide) (by omega)
    have fq : SHQ c1 b := by
      have h76 : ∀ t, 0 ≤ t → t < 30 → c1 (b + 76) t = b + 127 + 3 * t := fun t x y => by rw [ec1, wr_o (by omega), shM_i (by omega) (by omega) (by omega), ShN_76 x y]
      refine ⟨fun t x y => ⟨t, x, y, h76 t x y⟩, fun t u x y w => ?_⟩
      rw [h76 t x (by omega), h76 u (by omega) w]
      omega
    have lo : ∀ t, 0 ≤ t → t < K → ∀ o, c 220 t ≤ o → o < c 220 t + 217 → c1 o = c o := by
      intro t t0 t1 o o0 o1
      obtain ⟨j, j0, j1, ej⟩ := p1 t t0 t1
      exact f0 o (by omega) (by omega) (by omega)
    obtain ⟨c', d1, d2, d3, d4⟩ := rem_end (c := c1) (m := m) (i := K) (K := K + 1) i0 i1 (by rw [f5]; exact hi) hm (by omega) (by omega) (by omega) (by
        intro t t0 t1
        by_cases y : t = K
        · exact ⟨K, i0, by omega, by rw [y, f1, eb]⟩
        · obtain ⟨j, j0, j1, ej⟩ := p1 t t0 (by omega)
          exact ⟨j, j0, by omega, by rw [f2 t y, ej]⟩) (by
        intro t u t0 tu u1
        obtain ⟨j, j0, j1, ej⟩ := p1 t t0 (by omega)
        rw [f2 t (by omega)]
        by_cases y : u = K
        · rw [y, f1]; omega
        · rw [f2 u y]; exact p2 t u t0 tu (by omega)) (by
        intro t t0 t1
        rw [f2 t (by omega)]
        exact p3 t (by omega) t1) (by
        intro t t0 t1
        by_cases y : t = K
        · rw [y, f1]; exact fq
        · rw [f2 t y]
          exact SHQ_c (hq t t0 (by omega)) (lo t t0 (by omega) _ (by omega) (by omega))) (by
        intro k k0 k1
        obtain ⟨h1, h2⟩ := hs k k0 k1
        rw [f2 _ (by omega)]
        exact ⟨SR_congr h1 (lo _ (by omega) (by omega)), h2⟩) (SR_congr s3 (fun o x y => f0 o (by omega) (by omega) (by omega))) hw e
    refine ⟨c', ?_, d2, fun o x y w v => by rw [d3 o y v, f0 o x w (by omega)], fun f x => by rw [d4 f x, f5], by rw [d3 0 (by decide) (by decide)]; omega, by rw [d3 0 (by decide) (by decide)]; exact f4⟩
    unfold D_remember_64
    rw [hi, aI_ok i0 i1, Option.bind_some, ez, if_neg (fun x => x rfl), nwe, Option.bind_some, c0, Option.bind_some, if_pos ⟨by omega, kd7 hb⟩, alo_sh c0 (by omega), shmk hb, Option.bind_some, gFX_y (FXn hF hb (by omega) c0), Option.bind_some, w1, Option.bind_some, d1]
/-- eight are kept: the oldest goes to the end -/
def c18 (c : Mem) : Mem := wr (wr (up c 220 (fun t => if 0 ≤ t ∧ t < 7 then c 220 (t + 1) else c 220 t)) 1 6 7) 220 7 (c 220 0)
theorem rem18 {c : Mem} (hk : ∀ t, 0 ≤ t → t < 8 → SHB (c 220 t) ∧ c 220 t ≤ c 0 0) (h6 : c 1 6 = 8) : D_remember c = D_remember_64 (c18 c) := by
  have hbig := big_ge
  have h := asg (fun N μ i => D_remember_18 (c 220 0) N μ i) 220 (-1) 1 8 (fun i => c 220 i) c (by
    intro N ν i i0 i1 h1 h2 _
    obtain ⟨s1, s2⟩ := hk i (by omega) i1
    show D_remember_18 (c 220 0) (N + 1) ν i = D_remember_18 (c 220 0) N _ (i + 1)
    rw [D_remember_18, if_neg (show ¬ 8 ≤ i by omega), aI_ok (by omega) i1, Option.bind_some, h2 i (by omega), jsub_e (by omega) (by omega), wA220 s1 (by rw [h1 0 (by decide)]; exact s2) (by omega) (by omega), Option.bind_some, jadd_e (by omega) (by omega), wr_st1, show i - 1 = -1 + i by omega]) 7 (by omega) big (by omega)
  have h' : D_remember_18 (c 220 0) big c 1 = _ := h
  unfold D_remember
  rw [if_neg (fun x => x h6), Option.bind_some, h']
  obtain ⟨N, hN⟩ : ∃ N, big - 7 = N + 1 := ⟨big - 7 - 1, by omega⟩
  rw [hN]
  have eu : (fun j : Int => if (-1 : Int) + 1 ≤ j ∧ j < -1 + 1 + ((7 : Nat) : Int) then c 220 (j - -1) else c 220 j) = (fun t => if 0 ≤ t ∧ t < 7 then c 220 (t + 1) else c 220 t) := by
    funext t
    by_cases y : 0 ≤ t ∧ t < 7
    · rw [if_pos y, if_pos (by omega), show t - -1 = t + 1 by omega]
    · rw [if_neg y, if_neg (by omega)]
  rw [eu]
  obtain ⟨s1, s2⟩ := hk 0 (by omega) (by omega)
  rw [D_remember_18, if_pos (by decide), up_ne (by decide), h6, jsub_e (by decide) (by decide), Option.bind_some, wr_eq, show (8 : Int) - 1 = 7 by decide, wA220 s1 (by rw [wr_o (by decide), up_ne (by decide)]; exact s2) (by decide) (by decide), Option.bind_some]
  rfl
theorem remp : REMP := by
  intro c m h s3 hw hF ho e
  obtain ⟨n1, n2, n3, n4, n5⟩ := h.n
  obtain ⟨K, K0, K1, K2, K3, K4, K5, K6⟩ := h.p
  have hq : ∀ t, 0 ≤ t → t < K → SHQ c (c 220 t) := by
    intro t t0 t1
    obtain ⟨j, j0, j1, ej⟩ := K4 t t0 t1
    rw [ej]
    exact h.q t t0 (by omega) j j0 (by omega) ej
  by_cases z : m 259 7 = 8
  · have eK : K = 8 := by omega
    subst eK
    have e8 : ∀ t, 0 ≤ t → t < 7 → c18 c 220 t = c 220 (t + 1) := by
      intro t t0 t1
      unfold c18
      rw [wr_f (by omega), wr_o (by decide), up_eq]
      exact if_pos ⟨t0, t1⟩
    have e7 : c18 c 220 7 = c 220 0 := by unfold c18; rw [wr_eq]
    have eo : ∀ o, ¬ o = 1 → ¬ o = 220 → c18 c o = c o := by
      intro o x y
      unfold c18
      rw [wr_o y, wr_o x, up_ne y]
    have ef : ∀ f, ¬ f = 6 → c18 c 1 f = c 1 f := by
      intro f x
      unfold c18
      rw [wr_o (by decide), wr_f x, up_ne (by decide)]
    have e6 : c18 c 1 6 = 7 := by
      unfold c18
      rw [wr_o (by decide), wr_eq]
    have e0 : c18 c 0 = c 0 := eo 0 (by decide) (by decide)
    have hF' : FX (c18 c) := by
      unfold c18
      refine FXw (FXw ?_ (by decide +kernel)) (by decide +kernel)
      have g : ∀ a, ¬ a = 220 → up c 220 (fun t => if 0 ≤ t ∧ t < 7 then c 220 (t + 1) else c 220 t) a = c a := fun a x => up_ne x
      refine ⟨fun p hp => ?_, by rw [g 0 (by decide)]; exact hF.2.1, fun o o0 o1 => ?_⟩
      · have hh := (show ∀ p ∈ fxT, ¬ p.1 = 220 by decide +kernel) p hp
        rw [g _ hh]
        exact hF.1 p hp
      · rw [g 0 (by decide)] at o1
        by_cases y : o = 220
        · have kk : kd o = 127 := by rw [y]; exact k220.1
          rw [kk]
          refine ⟨fun x => absurd x (by decide), fun x => absurd x (by decide), fun x => absurd x (by decide), fun x => absurd x (by decide), fun x => absurd x (by decide)⟩
        · rw [g o y]
          exact hF.2.2 o o0 o1
    have sx : ∀ t, 0 ≤ t → t < 8 → ∃ u, 0 ≤ u ∧ u < 8 ∧ c18 c 220 t = c 220 u ∧ (u = t + 1 ∨ (t = 7 ∧ u = 0)) := by
      intro t t0 t1
      by_cases y : t = 7
      · exact ⟨0, by decide, by decide, by rw [y, e7], Or.inr ⟨y, rfl⟩⟩
      · exact ⟨t + 1, by omega, by omega, e8 t t0 (by omega), Or.inl rfl⟩
    have oo : ∀ t, 0 ≤ t → t < 8 → ∀ o, c 220 t ≤ o → o < c 220 t + 217 → c18 c o = c o := by
      intro t t0 t1 o o0 o1
      obtain ⟨j, j0, j1, ej⟩ := K4 t t0 t1
      exact eo o (by omega) (by omega)
    obtain ⟨c', d1, d2, d3, d4, d5, d6⟩ := rem64 (c := c18 c) (m := m) (i := 7) (K := 8) hF' (by decide) (by decide) e6 (by rw [z]; decide) (by decide) (by decide) (by rw [e0]; exact K2) (by
        intro t t0 t1
        obtain ⟨u, u0, u1, u2, _⟩ := sx t t0 t1
        rw [u2]
        exact K4 u u0 u1) (by
        intro t w t0 tw w1
        obtain ⟨u, u0, u1, u2, u3⟩ := sx t t0 (by omega)
        obtain ⟨v, v0, v1, v2, v3⟩ := sx w (by omega) w1
        rw [u2, v2]
        by_cases y : u < v
        · exact K5 u v u0 y v1
        · exact fun x => K5 v u v0 (by omega) u1 x.symm) (by intro t t0 t1; omega) (by
        intro t t0 t1
        obtain ⟨u, u0, u1, u2, _⟩ := sx t t0 t1
        rw [u2]
        exact SHQ_c (hq u u0 u1) (oo u u0 u1 _ (by omega) (by omega))) (by
        intro k k0 k1
        obtain ⟨h1, h2⟩ := h.s k k0 (by omega)
        rw [z, show (8 : Int) - 1 - k = 7 - k by omega] at h1
        rw [e8 _ (by omega) (by omega), show 7 - 1 - k + 1 = 7 - k by omega]
        exact ⟨SR_congr h1 (oo _ (by omega) (by omega)), h2⟩) (SR_congr s3 (fun o x y => eo o (by omega) (by omega))) hw e
    refine ⟨c', ?_, d2, fun o x y w v => by rw [d3 o x y w v, eo o y w], fun f x => by rw [d4 f x, ef f x], d5, by rw [d6, e0]⟩
    rw [rem18 (by
      intro t t0 t1
      obtain ⟨j, j0, j1, ej⟩ := K4 t t0 t1
      exact ⟨Or.inr ⟨j, j0, j1, ej⟩, by omega⟩) (by omega), d1]
  · obtain ⟨c', d1, d⟩ := rem64 (c := c) (m := m) (i := m 259 7) (K := K) hF n2 (by omega) n1 (by rw [if_neg (by omega)]) K1 K3 K2 K4 K5 K6 hq h.s s3 hw e
    refine ⟨c', ?_, d⟩
    unfold D_remember
    rw [if_pos (by omega), d1]
