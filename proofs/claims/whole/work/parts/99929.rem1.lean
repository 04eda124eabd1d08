-- L3: what a text's first statement leaves for undo: the copy
theorem kd7 {a : Int} (ha : SHB a) : kd a = 7 := by
  have h := (kdB ha (r := 0) (by omega) (by omega) (K := 7) (n := 13) (by decide +kernel)).1
  rwa [show a + 0 = a by omega] at h
theorem ln13 {a : Int} (ha : SHB a) : ln a = 13 := by
  have h := (kdB ha (r := 0) (by omega) (by omega) (K := 7) (n := 13) (by decide +kernel)).2
  rwa [show a + 0 = a by omega] at h
theorem gFX_y {μ : Mem} (h : FX μ) : gFX μ = some () := by
  unfold gFX
  exact if_pos h
theorem pastK0 {m : Mem} (hw : WF (m 264)) (e : ∀ i, 0 ≤ i → i < 12943 → m 265 i = m 264 i) : pastG (kA m) 0 = m 264 := by
  obtain ⟨p1, _, _, _, p5⟩ := kA_p (m := m)
  have l0 : 0 ≤ kL m ∧ kL m < 8 := by unfold kL; omega
  funext i
  unfold pastG
  by_cases z : 0 ≤ i ∧ i < 12943
  · rw [if_pos z, p1, p5, show (kL m - 0) % 8 = kL m by omega]
    dsimp only
    rw [if_pos (show 12943 * kL m ≤ 12943 * kL m + i ∧ 12943 * kL m + i < 12943 * kL m + 12943 by omega), show 12943 * kL m + i - 12943 * kL m = i by omega, e i z.1 z.2]
  · rw [if_neg z]; exact (hw.x i z).symm
theorem pastK1 {m : Mem} {k : Int} (k0 : 0 ≤ k) (k1 : k < 7) : pastG (kA m) (k + 1) = pastG m k := by
  obtain ⟨p1, _, _, _, p5⟩ := kA_p (m := m)
  funext i
  unfold pastG
  by_cases z : 0 ≤ i ∧ i < 12943
  · have e : (kL m - (k + 1)) % 8 = (m 259 8 - k) % 8 := by unfold kL; omega
    have ne : ¬ (m 259 8 - k) % 8 = kL m := by unfold kL; omega
    rw [if_pos z, if_pos z, p1, p5, e]
    dsimp only
    generalize (m 259 8 - k) % 8 = r at ne
    rw [if_neg (show ¬ (12943 * kL m ≤ 12943 * r + i ∧ 12943 * r + i < 12943 * kL m + 12943) by omega)]
  · rw [if_neg z, if_neg z]
theorem SHQ_c {c d : Mem} {a : Int} (h : SHQ c a) (e : d (a + 76) = c (a + 76)) : SHQ d a := by
  unfold SHQ
  rw [e]
  exact h
theorem rem92 {c : Mem} {g : Int → Int} {a i : Int} (hi : c 1 6 = i) (i0 : 0 ≤ i) (i1 : i < 8) (ha : c 220 i = a) (hb : SHB a) (h3 : 281 ≤ a) (hA : a + 217 ≤ c 0 0 + 1) (hq : SHQ c a) (hS : SR c 3 g) (hw : WF g) : ∃ c', D_remember_92 c = some c' ∧ SR c' a g ∧ c' 1 6 = i + 1 ∧ (∀ f, ¬ f = 6 → c' 1 f = c 1 f) ∧ (∀ o, ¬ o = 1 → ¬ (a ≤ o ∧ o < a + 217) → c' o = c o) := by
  obtain ⟨c2, cc, cs, cf⟩ := copy_op (μ := c) (a := a) (b := 3) (g := g) hb (Or.inl rfl) (by omega) hA (by omega) hq.1 hq.2 hS hw
  have e1 : c2 1 = c 1 := cf 1 (by omega)
  refine ⟨wr c2 1 6 (i + 1), ?_, SR_congr cs (fun o x y => wr_o (by omega)), wr_eq, fun f x => by rw [wr_f x, e1], fun o x y => by rw [wr_o x, cf o y]⟩
  unfold D_remember_92
  rw [hi, aI_ok i0 i1, Option.bind_some, ha, if_pos ⟨by omega, kd7 hb⟩, cc, Option.bind_some, e1, hi, jadd_e (by omega) (by omega), Option.bind_some]
theorem rem_end {c m : Mem} {i K : Int} (i0 : 0 ≤ i) (i1 : i < 8) (hi : c 1 6 = i) (hm : (if 8 ≤ m 259 7 then 8 else m 259 7 + 1) = i + 1) (K1 : K ≤ 8) (hK : i + 1 ≤ K) (h0 : c 0 0 = 280 + 217 * K) (p1 : ∀ i, 0 ≤ i → i < K → ∃ j, 0 ≤ j ∧ j < K ∧ c 220 i = 281 + 217 * j) (p2 : ∀ i j, 0 ≤ i → i < j → j < K → c 220 i ≠ c 220 j) (p3 : ∀ i, K ≤ i → i < 8 → c 220 i = 0) (hq : ∀ t, 0 ≤ t → t < K → SHQ c (c 220 t)) (hs : ∀ k, 0 ≤ k → k < i → SR c (c 220 (i - 1 - k)) (pastG m k) ∧ WF (pastG m k)) (s3 : SR c 3 (m 264)) (hw : WF (m 264)) (e : ∀ i, 0 ≤ i → i < 12943 → m 265 i = m 264 i) : ∃ c', D_remember_92 c = some c' ∧ HR c' (kA m) ∧ (∀ o, ¬ o = 1 → o < 281 → c' o = c o) ∧ (∀ f, ¬ f = 6 → c' 1 f = c 1 f) := by
  obtain ⟨j, j0, j1, ej⟩ := p1 i i0 (by omega)
  obtain ⟨q1, q2, _, _, _⟩ := kA_p (m := m)
  have l0 : 0 ≤ kL m ∧ kL m < 8 := by unfold kL; omega
  have hb : SHB (c 220 i) := Or.inr ⟨j, j0, by omega, ej⟩
  obtain ⟨c', d1, d2, d3, d4, d5⟩ := rem92 hi i0 i1 rfl hb (by omega) (by omega) (hq i i0 (by omega)) s3 hw
  have e220 : c' 220 = c 220 := d5 220 (by decide) (by omega)
  have e0 : c' 0 = c 0 := d5 0 (by decide) (by omega)
  have ot : ∀ t, 0 ≤ t → t < K → ¬ t = i → ∀ o, c 220 t ≤ o → o < c 220 t + 217 → c' o = c o := by
    intro t t0 t1 t2 o o0 o1
    obtain ⟨jt, u0, u1, u2⟩ := p1 t t0 t1
    have ne : c 220 t ≠ c 220 i := by
      rcases Int.lt_or_gt_of_ne t2 with x | x
      · exact p2 t i t0 x (by omega)
      · exact fun y => p2 i t i0 x t1 y.symm
    have hh := SHB_ne (Or.inr ⟨jt, u0, by omega, u2⟩) hb ne
    exact d5 o (by omega) (by omega)
  refine ⟨c', d1, ⟨?_, ?_, ?_, ?_⟩, fun o x y => d5 o x (by omega), d4⟩
  · unfold HR_n
    rw [q1, q2, hm]
    exact ⟨d3, by omega, by omega, l0.1, l0.2⟩
  · refine ⟨K, by omega, K1, by rw [e0]; exact h0, by rw [q2, hm]; exact hK, ?_, ?_, ?_⟩
    · rw [e220]; exact p1
    · rw [e220]; exact p2
    · rw [e220]; exact p3
  · intro k k0 k1
    rw [q2, hm] at k1
    rw [q2, hm, e220]
    by_cases z : k = 0
    · rw [z, pastK0 hw e, show i + 1 - 1 - 0 = i by omega]
      exact ⟨d2, hw⟩
    · obtain ⟨h1, h2⟩ := hs (k - 1) (by omega) (by omega)
      have ek : pastG (kA m) k = pastG m (k - 1) := by
        have hh := pastK1 (m := m) (k := k - 1) (by omega) (by omega)
        rwa [show k - 1 + 1 = k by omega] at hh
      rw [ek, show i + 1 - 1 - k = i - 1 - (k - 1) by omega]
      exact ⟨SR_congr h1 (fun o x y => ot (i - 1 - (k - 1)) (by omega) (by omega) (by omega) o x y), h2⟩
  · intro t t0 t1 jt u0 u1 u2
    rw [e220] at u2
    have tk : t < K := by
      by_cases z : t < K
      · exact z
      · have hh := p3 t (by omega) t1
        omega
    rw [← u2]
    by_cases z : t = i
    · rw [z]
      exact ⟨d2.q, d2.i⟩
    · exact SHQ_c (hq t t0 tk) (ot t t0 tk z _ (by omega) (by omega))
