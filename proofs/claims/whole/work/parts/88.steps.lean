-- L3: enter: the model's steps over tokens
def VK (K V : Int) : Prop := 0 ≤ K ∧ K ≤ 4 ∧ (K = 1 → 0 ≤ V ∧ V < 70) ∧ (K = 2 → 0 ≤ V ∧ V ≤ 9999) ∧ (K = 3 → V = 59 ∨ V = 43 ∨ V = 45 ∨ V = 61 ∨ V = 64)
theorem cdK_c {K V : Int} (h : VK K V) : (K = 0 ∧ cdK K V = 77) ∨ (K = 1 ∧ cdK K V = tbl piT V ∧ 0 ≤ V ∧ V < 70 ∧ 0 ≤ tbl piT V ∧ tbl piT V < 70) ∨ (K = 2 ∧ cdK K V = 75 ∧ 0 ≤ V ∧ V ≤ 9999) ∨ (K = 3 ∧ V = 59 ∧ cdK K V = 70) ∨ (K = 3 ∧ V = 43 ∧ cdK K V = 71) ∨ (K = 3 ∧ V = 45 ∧ cdK K V = 72) ∨ (K = 3 ∧ V = 61 ∧ cdK K V = 73) ∨ (K = 3 ∧ V = 64 ∧ cdK K V = 74) ∨ (K = 4 ∧ cdK K V = 76) := by
  obtain ⟨h1, h2, h3, h4, h5⟩ := h
  have : K = 0 ∨ K = 1 ∨ K = 2 ∨ K = 3 ∨ K = 4 := by omega
  rcases this with rfl | rfl | rfl | rfl | rfl
  · exact Or.inl ⟨rfl, rfl⟩
  · obtain ⟨a, b⟩ := h3 rfl
    obtain ⟨d, e, _⟩ := wd_x a b
    exact Or.inr (Or.inl ⟨rfl, rfl, a, b, d, e⟩)
  · exact Or.inr (Or.inr (Or.inl ⟨rfl, rfl, (h4 rfl).1, (h4 rfl).2⟩))
  · rcases h5 rfl with rfl | rfl | rfl | rfl | rfl
    · exact Or.inr (Or.inr (Or.inr (Or.inl ⟨rfl, rfl, rfl⟩)))
    · exact Or.inr (Or.inr (Or.inr (Or.inr (Or.inl ⟨rfl, rfl, rfl⟩))))
    · exact Or.inr (Or.inr (Or.inr (Or.inr (Or.inr (Or.inl ⟨rfl, rfl, rfl⟩)))))
    · exact Or.inr (Or.inr (Or.inr (Or.inr (Or.inr (Or.inr (Or.inl ⟨rfl, rfl, rfl⟩))))))
    · exact Or.inr (Or.inr (Or.inr (Or.inr (Or.inr (Or.inr (Or.inr (Or.inl ⟨rfl, rfl, rfl⟩)))))))
  · exact Or.inr (Or.inr (Or.inr (Or.inr (Or.inr (Or.inr (Or.inr (Or.inr ⟨rfl, rfl⟩)))))))
theorem pi_inj : ∀ a ∈ List.range 70, ∀ b ∈ List.range 70, tbl piT (a : Int) = tbl piT (b : Int) → a = b := by decide +kernel
theorem pi_ij {a b : Int} (a0 : 0 ≤ a) (a1 : a < 70) (b0 : 0 ≤ b) (b1 : b < 70) (h : tbl piT a = tbl piT b) : a = b := by
  obtain ⟨a', rfl⟩ : ∃ a' : Nat, a = (a' : Int) := ⟨a.toNat, by omega⟩
  obtain ⟨b', rfl⟩ : ∃ b' : Nat, b = (b' : Int) := ⟨b.toNat, by omega⟩
  have := pi_inj a' (List.mem_range.mpr (by omega)) b' (List.mem_range.mpr (by omega)) h
  omega
/-- what is fixed while a statement is read -/
def XO (X : Tx) (m0 : Mem) : Prop := TPm m0 X.1 X.2.1 ∧ (∀ i, 0 ≤ i → i < 70 → m0 260 i = tbl wdT i) ∧ 0 ≤ X.2.2.1 ∧ X.2.2.1 ≤ X.2.1 ∧ 1 ≤ X.2.2.2 ∧ X.2.2.2 ≤ 121 ∧ (∀ i, 0 ≤ i → i < X.2.2.2 - 1 → ¬ stp3 (TT X i)) ∧ stp3 (TT X (X.2.2.2 - 1))
theorem XO.go {X : Tx} {m0 : Mem} (h : XO X m0) {a : Int} (a0 : 0 ≤ a) (a1 : a < X.2.2.2) (hs : ¬ stp3 (TT X a)) : a + 1 < X.2.2.2 ∧ a < 120 := by
  obtain ⟨_, _, _, _, h5, h6, _, h8⟩ := h
  by_cases e : a = X.2.2.2 - 1
  · rw [← e] at h8; exact absurd h8 hs
  · omega
theorem XO.vk {X : Tx} {m0 : Mem} (h : XO X m0) {a : Int} (a0 : 0 ≤ a) : VK (Kx X a) (Vx X a) := by
  obtain ⟨h1, _, h3, h4, _⟩ := h
  have := Px_x h1.2.2.1 h3 h4 a0
  exact tK_v this.1 this.2.1 h1.2.2.1
theorem TT_C {X : Tx} {a : Int} (a0 : 0 ≤ a) (a1 : a < X.2.2.2) (a2 : a < 120) : TT X a = cdK (Kx X a) (Vx X a) := if_pos ⟨a0, a1, a2⟩
theorem TT_120 {X : Tx} : TT X 120 = 76 := if_neg (fun x => by omega)
theorem TT_c {X : Tx} {m0 : Mem} (h : XO X m0) {a : Int} (a0 : 0 ≤ a) (a1 : a < X.2.2.2) (a2 : a < 120) : (Kx X a = 0 ∧ TT X a = 77) ∨ (Kx X a = 1 ∧ TT X a = tbl piT (Vx X a) ∧ 0 ≤ Vx X a ∧ Vx X a < 70 ∧ 0 ≤ tbl piT (Vx X a) ∧ tbl piT (Vx X a) < 70) ∨ (Kx X a = 2 ∧ TT X a = 75 ∧ 0 ≤ Vx X a ∧ Vx X a ≤ 9999) ∨ (Kx X a = 3 ∧ Vx X a = 59 ∧ TT X a = 70) ∨ (Kx X a = 3 ∧ Vx X a = 43 ∧ TT X a = 71) ∨ (Kx X a = 3 ∧ Vx X a = 45 ∧ TT X a = 72) ∨ (Kx X a = 3 ∧ Vx X a = 61 ∧ TT X a = 73) ∨ (Kx X a = 3 ∧ Vx X a = 64 ∧ TT X a = 74) ∨ (Kx X a = 4 ∧ TT X a = 76) := by
  rw [TT_C a0 a1 a2]
  exact cdK_c (h.vk a0)
def MS (X : Tx) (m0 m : Mem) (a : Int) : Prop := 0 ≤ a ∧ a < 120 ∧ m 259 17 = a ∧ m 259 16 = a + 1 ∧ m 259 18 = Ex X a ∧ m 259 19 = 0 ∧ (∀ k, 0 ≤ k → k ≤ a → m 268 k = Kx X k ∧ (Kx X k = 1 ∨ Kx X k = 2 ∨ Kx X k = 3 → m 269 k = Vx X k) ∧ m 270 k = Px X k) ∧ (∀ o, ¬ o = 259 → ¬ o = 268 → ¬ o = 269 → ¬ o = 270 → m o = m0 o) ∧ (∀ f, ¬ (16 ≤ f ∧ f ≤ 19) → m 259 f = m0 259 f)
def MB (m0 m : Mem) (p : Int) : Prop := m 259 19 = 1 ∧ m 259 11 = 1 ∧ m 259 12 = p ∧ (∀ o, ¬ o = 259 → ¬ o = 268 → ¬ o = 269 → ¬ o = 270 → m o = m0 o) ∧ (∀ f, ¬ (16 ≤ f ∧ f ≤ 19) → ¬ f = 11 → ¬ f = 12 → m 259 f = m0 259 f)
def MST (X : Tx) (m0 m : Mem) (a : Int) : Prop := (a = 120 ∧ MB m0 m (Px X 120)) ∨ (a < 120 ∧ MS X m0 m a)
theorem mfail {X : Tx} {m0 m : Mem} {a : Int} (h : MST X m0 m a) : ∃ m', M_fail m = some m' ∧ MB m0 m' (Px X a) := by
  rcases h with ⟨rfl, h⟩ | ⟨_, h⟩
  · refine ⟨m, ?_, h⟩
    unfold M_fail
    rw [if_pos (by rw [h.1]; decide), Option.bind_some, wr_self h.1]
  · obtain ⟨a0, a1, e17, e16, e18, e19, ek, eo, ef⟩ := h
    unfold M_fail
    rw [if_neg (by rw [e19]; decide), Option.bind_some, wr_f (show ¬ (17 : Int) = 11 by decide), e17, aI_ok a0 (by omega)]
    simp only [Option.bind_some]
    refine ⟨_, rfl, wr_eq, ?_, ?_, ?_, ?_⟩
    · rw [wr_f (by decide), wr_f (by decide), wr_eq]
    · rw [wr_f (by decide), wr_eq, wr_o (by decide)]
      exact (ek a a0 (Int.le_refl _)).2.2
    · intro o x y z w
      rw [wr_o x, wr_o x, wr_o x, eo o x y z w]
    · intro f x y z
      rw [wr_f (by omega), wr_f z, wr_f y, ef f x]
theorem mread0 {X : Tx} {m0 m : Mem} (hX : XO X m0) (e16 : m 259 16 = 0) (e17 : m 259 17 = 0) (e18 : m 259 18 = X.2.2.1) (e19 : m 259 19 = 0) (eo : ∀ o, ¬ o = 259 → ¬ o = 268 → ¬ o = 269 → ¬ o = 270 → m o = m0 o) (ef : ∀ f, ¬ (16 ≤ f ∧ f ≤ 19) → m 259 f = m0 259 f) : ∃ m', M_read m = some m' ∧ MS X m0 m' 0 := by
  obtain ⟨h1, h2, h3, h4, _⟩ := hX
  have hT : TPm m X.1 X.2.1 := ⟨by rw [ef 10 (by omega)]; exact h1.1, h1.2.1, h1.2.2.1, fun i i0 i1 => by rw [eo 267 (by decide) (by decide) (by decide) (by decide)]; exact h1.2.2.2 i i0 i1⟩
  obtain ⟨m', e, r1, r2, r3, r4, r5, r6, r7, r8⟩ := M_read_e hT (fun i i0 i1 => by rw [eo 260 (by decide) (by decide) (by decide) (by decide)]; exact h2 i i0 i1) e18 h3 h4 (by omega) (by omega)
  have eP : skq X.1 X.2.1 6000 X.2.2.1 = Px X 0 := rfl
  rw [eP] at r1 r3 r4 r5
  rw [e16] at r2 r3 r4 r5
  refine ⟨m', e, by omega, by omega, ?_, r2, r1, ?_, ?_, ?_, ?_⟩
  · rw [r8 17 (by decide) (by decide)]; exact e17
  · rw [r8 19 (by decide) (by decide)]; exact e19
  · intro k k0 k1
    have : k = 0 := by omega
    subst this
    exact ⟨r3, r4, r5⟩
  · intro o x y z w; rw [r7 o x y z w, eo o x y z w]
  · intro f x; rw [r8 f (by omega) (by omega), ef f x]
theorem mnext {X : Tx} {m0 m : Mem} {a : Int} (hX : XO X m0) (h : MST X m0 m a) (a1 : a < X.2.2.2) (hs : ¬ stp3 (TT X a)) : ∃ m', M_next m = some m' ∧ MST X m0 m' (a + 1) ∧ a + 1 < X.2.2.2 := by
  have h : MS X m0 m a := by
    rcases h with ⟨rfl, _⟩ | ⟨_, h⟩
    · exact absurd (Or.inr (Or.inl TT_120)) hs
    · exact h
  obtain ⟨a0, a2, e17, e16, e18, e19, ek, eo, ef⟩ := h
  obtain ⟨g1, g2⟩ := hX.go a0 a1 hs
  obtain ⟨h1, h2, h3, h4, _⟩ := hX
  have hP := Px_x h1.2.2.1 h3 h4 (i := a) a0
  unfold M_next
  rw [Option.bind_some, e17, jadd_e (by omega) (by omega)]
  generalize hm : wr m 259 17 (a + 1) = m1
  have f16 : m1 259 16 = a + 1 := by rw [← hm, wr_f (by decide)]; exact e16
  have f18 : m1 259 18 = Ex X a := by rw [← hm, wr_f (by decide)]; exact e18
  have hT : TPm m1 X.1 X.2.1 := ⟨by rw [← hm, wr_f (by decide), ef 10 (by omega)]; exact h1.1, h1.2.1, h1.2.2.1, fun i i0 i1 => by rw [← hm, wr_o (by decide), eo 267 (by decide) (by decide) (by decide) (by decide)]; exact h1.2.2.2 i i0 i1⟩
  obtain ⟨m', e, r1, r2, r3, r4, r5, r6, r7, r8⟩ := M_read_e hT (fun i i0 i1 => by rw [← hm, wr_o (by decide), eo 260 (by decide) (by decide) (by decide) (by decide)]; exact h2 i i0 i1) f18 hP.2.2.2.2.1 hP.2.2.2.2.2 (by omega) (by omega)
  have eP : skq X.1 X.2.1 6000 (Ex X a) = Px X (a + 1) := by
    rw [Px_S (by omega)]
    unfold Sx
    rw [if_neg (by omega), show a + 1 - 1 = a by omega]
  rw [eP] at r1 r3 r4 r5
  rw [f16] at r2 r3 r4 r5 r6
  have f17 : m' 259 17 = a + 1 := by rw [r8 17 (by decide) (by decide), ← hm, wr_eq]
  have hk : ∀ k, 0 ≤ k → k ≤ a + 1 → m' 268 k = Kx X k ∧ (Kx X k = 1 ∨ Kx X k = 2 ∨ Kx X k = 3 → m' 269 k = Vx X k) ∧ m' 270 k = Px X k := by
    intro k k0 k1
    by_cases e2 : k = a + 1
    · subst e2; exact ⟨r3, r4, r5⟩
    · obtain ⟨s1, s2, s3⟩ := r6 k e2
      rw [s1, s2, s3, ← hm, wr_o (by decide), wr_o (by decide), wr_o (by decide)]
      exact ek k k0 (by omega)
  have ho : ∀ o, ¬ o = 259 → ¬ o = 268 → ¬ o = 269 → ¬ o = 270 → m' o = m0 o := by
    intro o x y z w; rw [r7 o x y z w, ← hm, wr_o x, eo o x y z w]
  have hf : ∀ f, ¬ (16 ≤ f ∧ f ≤ 19) → m' 259 f = m0 259 f := by
    intro f x; rw [r8 f (by omega) (by omega), ← hm, wr_f (by omega), ef f x]
  have f19 : m' 259 19 = 0 := by rw [r8 19 (by decide) (by decide), ← hm, wr_f (by decide)]; exact e19
  rw [e, Option.bind_some, f17]
  by_cases z : a + 1 = 120
  · rw [if_neg (fun x => x z)]
    have z2 : a = 119 := by omega
    subst z2
    unfold M_fail
    rw [if_neg (by rw [f19]; decide), Option.bind_some, wr_f (show ¬ (17 : Int) = 11 by decide), f17, aI_ok (by decide) (by decide)]
    simp only [Option.bind_some]
    refine ⟨_, rfl, Or.inl ⟨rfl, wr_eq, ?_, ?_, ?_, ?_⟩, g1⟩
    · rw [wr_f (by decide), wr_f (by decide), wr_eq]
    · rw [wr_f (by decide), wr_eq, wr_o (by decide)]
      exact (hk 120 (by decide) (by decide)).2.2
    · intro o x y z w
      rw [wr_o x, wr_o x, wr_o x, ho o x y z w]
    · intro f x y z
      rw [wr_f (by omega), wr_f z, wr_f y, hf f x]
  · rw [if_pos z]
    exact ⟨m', rfl, Or.inr ⟨by omega, by omega, by omega, f17, by rw [r2], r1, f19, hk, ho, hf⟩, g1⟩
theorem isW {X : Tx} {m0 m : Mem} {a w : Int} (hX : XO X m0) (h : MST X m0 m a) (a1 : a < X.2.2.2) (w0 : 0 ≤ w) (w1 : w < 70) : M_isWord m w = some (if TT X a = tbl piT w then 1 else 0) := by
  obtain ⟨d1, d2, _⟩ := wd_x w0 w1
  unfold M_isWord
  rcases h with ⟨rfl, h⟩ | ⟨_, h⟩
  · rw [if_pos (by rw [h.1]; decide), TT_120, if_neg (by omega)]
  · obtain ⟨a0, a2, e17, e16, e18, e19, ek, _⟩ := h
    obtain ⟨k1, k2, _⟩ := ek a a0 (Int.le_refl _)
    rw [if_neg (by rw [e19]; decide), e17, aI_ok a0 (by omega), Option.bind_some, k1]
    have hc := TT_c hX a0 a1 a2
    by_cases z : Kx X a = 1
    · rw [if_neg (fun x => x z), aI_ok a0 (by omega), Option.bind_some, k2 (Or.inl z)]
      by_cases z2 : Vx X a = w
      · rw [if_neg (fun x => x z2), if_pos (by rw [← z2]; omega)]
      · rw [if_pos z2, if_neg (fun x => z2 (pi_ij (by omega) (by omega) w0 w1 (by omega)))]
    · rw [if_pos z, if_neg (by omega)]
theorem isWi {X : Tx} {m0 m : Mem} {a lo hi lo' hi' : Int} (hX : XO X m0) (h : MST X m0 m a) (a1 : a < X.2.2.2) (hh : hi' < 70) (hr : ∀ w ∈ List.range 70, (lo ≤ (w : Int) ∧ (w : Int) ≤ hi) ↔ (lo' ≤ tbl piT (w : Int) ∧ tbl piT (w : Int) ≤ hi')) : M_isWordIn m lo hi = some (if lo' ≤ TT X a ∧ TT X a ≤ hi' then 1 else 0) := by
  unfold M_isWordIn
  rcases h with ⟨rfl, h⟩ | ⟨_, h⟩
  · rw [if_pos (by rw [h.1]; decide), TT_120, if_neg (by omega)]
  · obtain ⟨a0, a2, e17, e16, e18, e19, ek, _⟩ := h
    obtain ⟨k1, k2, _⟩ := ek a a0 (Int.le_refl _)
    rw [if_neg (by rw [e19]; decide), e17, aI_ok a0 (by omega), Option.bind_some, k1]
    have hc := TT_c hX a0 a1 a2
    by_cases z : Kx X a = 1
    · rw [if_neg (fun x => x z), aI_ok a0 (by omega), Option.bind_some, k2 (Or.inl z), M_in_e, Option.bind_some]
      obtain ⟨v, hv⟩ : ∃ v : Nat, Vx X a = (v : Int) := ⟨(Vx X a).toNat, by omega⟩
      have hr' := hr v (List.mem_range.mpr (by omega))
      rw [← hv] at hr'
      have eT : TT X a = tbl piT (Vx X a) := by omega
      rw [eT]
      by_cases z2 : lo ≤ Vx X a ∧ Vx X a ≤ hi
      · rw [if_pos z2, if_neg (by decide), if_pos (hr'.mp z2)]
      · rw [if_neg z2, if_pos rfl, if_neg (fun x => z2 (hr'.mpr x))]
    · rw [if_pos z, if_neg (by omega)]
theorem isSg {X : Tx} {m0 m : Mem} {a ch sc : Int} (hX : XO X m0) (h : MST X m0 m a) (a1 : a < X.2.2.2) (hs : ch = 59 ∧ sc = 70 ∨ ch = 43 ∧ sc = 71 ∨ ch = 45 ∧ sc = 72 ∨ ch = 61 ∧ sc = 73 ∨ ch = 64 ∧ sc = 74) : M_isSign m ch = some (if TT X a = sc then 1 else 0) := by
  unfold M_isSign
  rcases h with ⟨rfl, h⟩ | ⟨_, h⟩
  · rw [if_pos (by rw [h.1]; decide), TT_120, if_neg (by omega)]
  · obtain ⟨a0, a2, e17, e16, e18, e19, ek, _⟩ := h
    obtain ⟨k1, k2, _⟩ := ek a a0 (Int.le_refl _)
    rw [if_neg (by rw [e19]; decide), e17, aI_ok a0 (by omega), Option.bind_some, k1]
    have hc := TT_c hX a0 a1 a2
    by_cases z : Kx X a = 3
    · rw [if_neg (fun x => x z), aI_ok a0 (by omega), Option.bind_some, k2 (Or.inr (Or.inr z))]
      by_cases z2 : Vx X a = ch
      · rw [if_neg (fun x => x z2), if_pos (by omega)]
      · rw [if_pos z2, if_neg (by omega)]
    · rw [if_pos z, if_neg (by omega)]
theorem isNm {X : Tx} {m0 m : Mem} {a : Int} (hX : XO X m0) (h : MST X m0 m a) (a1 : a < X.2.2.2) : M_isNumber m = some (if TT X a = 75 then 1 else 0) := by
  unfold M_isNumber
  rcases h with ⟨rfl, h⟩ | ⟨_, h⟩
  · rw [if_pos (by rw [h.1]; decide), TT_120, if_neg (by decide)]
  · obtain ⟨a0, a2, e17, e16, e18, e19, ek, _⟩ := h
    obtain ⟨k1, k2, _⟩ := ek a a0 (Int.le_refl _)
    rw [if_neg (by rw [e19]; decide), e17, aI_ok a0 (by omega), Option.bind_some, k1]
    have hc := TT_c hX a0 a1 a2
    by_cases z : Kx X a = 2
    · rw [if_neg (fun x => x z), if_pos (by omega)]
    · rw [if_pos z, if_neg (by omega)]
-- a bad state stays
theorem bd_fail {m : Mem} (h : m 259 19 = 1) : M_fail m = some m := by
  unfold M_fail
  rw [if_pos (by rw [h]; decide), Option.bind_some, wr_self h]
theorem bd_isWord {m : Mem} {w : Int} (h : m 259 19 = 1) : M_isWord m w = some 0 := by
  unfold M_isWord; rw [if_pos (by rw [h]; decide)]
theorem bd_isWordIn {m : Mem} {v w : Int} (h : m 259 19 = 1) : M_isWordIn m v w = some 0 := by
  unfold M_isWordIn; rw [if_pos (by rw [h]; decide)]
theorem bd_isSign {m : Mem} {w : Int} (h : m 259 19 = 1) : M_isSign m w = some 0 := by
  unfold M_isSign; rw [if_pos (by rw [h]; decide)]
theorem bd_isNumber {m : Mem} (h : m 259 19 = 1) : M_isNumber m = some 0 := by
  unfold M_isNumber; rw [if_pos (by rw [h]; decide)]
theorem bd_need {m : Mem} (h : m 259 19 = 1) : M_need m 0 = some m := by
  unfold M_need; rw [if_pos rfl, bd_fail h, Option.bind_some]
theorem bd_number {m : Mem} (h : m 259 19 = 1) : M_number m = some m := by
  unfold M_number; rw [bd_isNumber h, Option.bind_some, bd_need h, Option.bind_some]
theorem bd_word {m : Mem} {w : Int} (h : m 259 19 = 1) : M_word m w = some m := by
  unfold M_word; rw [bd_isWord h, Option.bind_some, bd_need h, Option.bind_some]
theorem bd_sign {m : Mem} {w : Int} (h : m 259 19 = 1) : M_sign m w = some m := by
  unfold M_sign; rw [bd_isSign h, Option.bind_some, bd_need h, Option.bind_some]
theorem bd_parameter {m : Mem} (h : m 259 19 = 1) : M_parameter m = some m := by
  unfold M_parameter; rw [bd_isWordIn h, Option.bind_some, bd_need h, Option.bind_some]
theorem bd_term {m : Mem} (h : m 259 19 = 1) : M_term m = some m := by
  unfold M_term; rw [bd_isWord h, Option.bind_some, if_pos rfl, bd_isWord h, Option.bind_some, if_pos rfl, bd_number h, Option.bind_some, bd_isWord h, Option.bind_some, if_pos rfl]
theorem bd_more0 {m : Mem} {N : Nat} (h : m 259 19 = 1) (hN : 0 < N) : M_moreTerms_0 N m = some m := by
  obtain ⟨N, rfl⟩ : ∃ j, N = j + 1 := ⟨N - 1, by omega⟩
  rw [M_moreTerms_0, bd_isSign h, Option.bind_some, if_neg (by decide), bd_isSign h, Option.bind_some, if_pos rfl]
theorem big_0 : 0 < big := by have := big_ge; omega
theorem bd_more {m : Mem} (h : m 259 19 = 1) : M_moreTerms m = some m := bd_more0 h big_0
theorem bd_set {m : Mem} (h : m 259 19 = 1) : M_set m = some m := by
  unfold M_set; rw [bd_term h, Option.bind_some, bd_more h, Option.bind_some]
theorem bd_isWhat {m : Mem} (h : m 259 19 = 1) : M_isWhat m = some 0 := by
  unfold M_isWhat
  rw [bd_isSign h, Option.bind_some, if_neg (by decide), bd_isWordIn h, Option.bind_some, if_neg (by decide), bd_isWord h, Option.bind_some, if_neg (by decide), bd_isWord h, Option.bind_some, if_neg (by decide), bd_isWord h, Option.bind_some, if_pos rfl]
theorem bd_amount {m : Mem} (h : m 259 19 = 1) : M_amount m = some m := by
  unfold M_amount
  rw [bd_isWord h, Option.bind_some, if_pos rfl, bd_isWord h, Option.bind_some, if_neg (by decide), bd_isSign h, Option.bind_some, if_neg (by decide), bd_isSign h, Option.bind_some, if_pos rfl, bd_number h, Option.bind_some, bd_isWord h, Option.bind_some, if_pos rfl]
theorem bd_whats11 {m : Mem} {N : Nat} (h : m 259 19 = 1) (hN : 0 < N) : M_whats_11 N m = some m := by
  obtain ⟨N, rfl⟩ : ∃ j, N = j + 1 := ⟨N - 1, by omega⟩
  rw [M_whats_11, bd_isWhat h, Option.bind_some, if_pos rfl]
theorem bd_whats {m : Mem} (h : m 259 19 = 1) : M_whats m = some m := by
  unfold M_whats
  rw [bd_isWhat h, Option.bind_some, if_neg (by decide), bd_fail h, Option.bind_some, bd_whats11 h big_0]
theorem bd_options3 {m : Mem} {a b d s : Int} {N : Nat} (h : m 259 19 = 1) (hN : 0 < N) : M_options_3 a b d N m s = some m := by
  obtain ⟨N, rfl⟩ : ∃ j, N = j + 1 := ⟨N - 1, by omega⟩
  rw [M_options_3, bd_isWordIn h, Option.bind_some, if_pos rfl]
theorem bd_options {m : Mem} {a b d : Int} (h : m 259 19 = 1) : M_options m a b d = some m := bd_options3 h big_0
theorem bd_levels {m : Mem} (h : m 259 19 = 1) : M_levels m = some m := by
  unfold M_levels M_levels_31
  rw [bd_isWord h, Option.bind_some, if_pos rfl, bd_isWordIn h, Option.bind_some, if_neg (by decide), bd_fail h, Option.bind_some, bd_options h, Option.bind_some]
theorem bd_subs {m : Mem} (h : m 259 19 = 1) : M_subs m = some m := by
  unfold M_subs
  rw [bd_isWord h, Option.bind_some, if_neg (by decide), bd_isWordIn h, Option.bind_some, if_pos rfl, bd_word h, Option.bind_some, bd_set h, Option.bind_some, bd_sign h, Option.bind_some, bd_number h, Option.bind_some]
theorem bd_waves {m : Mem} (h : m 259 19 = 1) : M_waves m = some m := by
  unfold M_waves
  rw [bd_isWord h, Option.bind_some, if_pos rfl, bd_isWordIn h, Option.bind_some, bd_need h, Option.bind_some, bd_parameter h, Option.bind_some, bd_word h, Option.bind_some, bd_number h, Option.bind_some, bd_word h, Option.bind_some, bd_number h, Option.bind_some, bd_word h, Option.bind_some, bd_number h, Option.bind_some, bd_word h, Option.bind_some, bd_set h, Option.bind_some]
theorem bd_times {m : Mem} (h : m 259 19 = 1) : M_times m = some m := by
  unfold M_times; rw [bd_options h, Option.bind_some]
theorem bd_220 {m : Mem} (h : m 259 19 = 1) : M_statement_220 m = some m := by
  unfold M_statement_220; rw [bd_isSign h, Option.bind_some, if_neg (by decide), bd_fail h, Option.bind_some]
