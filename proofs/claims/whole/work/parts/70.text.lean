-- L3: the text is written by both
def WV (N : Int) (c0 m0 c m : Mem) : Prop := (c 257 4 = 0 ∨ c 257 4 = 1) ∧ (c 257 5 = m 259 40 ∧ (m 259 40 = 0 ∨ m 259 40 = 1)) ∧ (0 ≤ m 259 39 ∧ m 259 39 ≤ N ∧ N ≤ 1000000000) ∧ (m 259 39 ≤ 6000 → c 257 3 = m 259 39 ∧ c 257 4 = 0) ∧ (6000 < m 259 39 → c 257 3 = 6000 ∧ c 257 4 = 1) ∧ (∀ i, 0 ≤ i → i < m 259 39 → i < 6000 → c 258 i = jb (m 280 i) ∧ 0 ≤ m 280 i ∧ m 280 i ≤ 255) ∧ (∀ o, ¬ o = 257 → ¬ o = 258 → c o = c0 o) ∧ (∀ o, ¬ o = 259 → ¬ o = 280 → m o = m0 o) ∧ (∀ f, ¬ f = 39 → ¬ f = 40 → m 259 f = m0 259 f)
theorem WV.t {N : Int} {c0 m0 c m : Mem} (h : WV N c0 m0 c m) : c 257 4 = 0 ∨ c 257 4 = 1 := h.1
theorem WV.s {N : Int} {c0 m0 c m : Mem} (h : WV N c0 m0 c m) : c 257 5 = m 259 40 ∧ (m 259 40 = 0 ∨ m 259 40 = 1) := h.2.1
theorem WV.n {N : Int} {c0 m0 c m : Mem} (h : WV N c0 m0 c m) : 0 ≤ m 259 39 ∧ m 259 39 ≤ N ∧ N ≤ 1000000000 := h.2.2.1
theorem WV.a {N : Int} {c0 m0 c m : Mem} (h : WV N c0 m0 c m) : m 259 39 ≤ 6000 → c 257 3 = m 259 39 ∧ c 257 4 = 0 := h.2.2.2.1
theorem WV.z {N : Int} {c0 m0 c m : Mem} (h : WV N c0 m0 c m) : 6000 < m 259 39 → c 257 3 = 6000 ∧ c 257 4 = 1 := h.2.2.2.2.1
theorem WV.b {N : Int} {c0 m0 c m : Mem} (h : WV N c0 m0 c m) : ∀ i, 0 ≤ i → i < m 259 39 → i < 6000 → c 258 i = jb (m 280 i) ∧ 0 ≤ m 280 i ∧ m 280 i ≤ 255 := h.2.2.2.2.2.1
theorem WV.c {N : Int} {c0 m0 c m : Mem} (h : WV N c0 m0 c m) : ∀ o, ¬ o = 257 → ¬ o = 258 → c o = c0 o := h.2.2.2.2.2.2.1
theorem WV.m {N : Int} {c0 m0 c m : Mem} (h : WV N c0 m0 c m) : ∀ o, ¬ o = 259 → ¬ o = 280 → m o = m0 o := h.2.2.2.2.2.2.2.1
theorem WV.f {N : Int} {c0 m0 c m : Mem} (h : WV N c0 m0 c m) : ∀ f, ¬ f = 39 → ¬ f = 40 → m 259 f = m0 259 f := h.2.2.2.2.2.2.2.2
def EM (N : Int) (c0 m0 : Mem) (D M : Option Mem) : Prop := ∃ c m, D = some c ∧ M = some m ∧ WV N c0 m0 c m
theorem jb_jb {x : Int} : jb (jb x) = jb x := by
  unfold jb
  rw [i32_of]
  simp
theorem byte_op {N : Int} {c0 m0 c m : Mem} {b : Int} (h : WV N c0 m0 c m) (hN : N + 1 ≤ 1000000000) (b0 : 0 ≤ b) (b1 : b ≤ 255) : EM (N + 1) c0 m0 (Sv_putByte c b) (M_write m b) ∧ ∀ c' m', Sv_putByte c b = some c' → M_write m b = some m' → c' 257 5 = c 257 5 ∧ m' 259 40 = m 259 40 := by
  obtain ⟨n0, n1, n2⟩ := h.n
  unfold Sv_putByte M_write
  by_cases z : m 259 39 < 6000
  · obtain ⟨a1, a2⟩ := h.a (by omega)
    rw [if_pos (show c 257 3 < 6000 by omega), if_neg (show ¬ 6000 ≤ m 259 39 by omega), sI_ok (by omega) (by omega), sI_ok (by omega) (by omega)]
    simp only [Option.bind_some]
    rw [wr_o (show ¬ (257 : Int) = 258 by decide), wr_o (show ¬ (259 : Int) = 280 by decide), jb_jb, a1, jadd_e (by omega) (by omega)]
    refine ⟨⟨_, _, rfl, rfl, ?_⟩, ?_⟩
    · refine ⟨?_, ?_, ?_, ?_, ?_, ?_, ?_, ?_, ?_⟩
      · rw [wr_f (by decide), wr_o (by decide)]; exact h.t
      · rw [wr_f (by decide), wr_o (by decide), wr_f (by decide), wr_o (by decide)]; exact h.s
      · rw [wr_eq]; omega
      · intro _; rw [wr_eq, wr_eq, wr_f (by decide), wr_o (by decide)]; exact ⟨rfl, a2⟩
      · intro x; rw [wr_eq] at x; omega
      · intro i i0 i1 i2
        rw [wr_eq] at i1
        have e1 : ∀ v, wr (wr c 258 (m 259 39) (jb b)) 257 3 v 258 i = wr c 258 (m 259 39) (jb b) 258 i := fun v => by rw [wr_o (by decide)]
        have e2 : ∀ v, wr (wr m 280 (m 259 39) b) 259 39 v 280 i = wr m 280 (m 259 39) b 280 i := fun v => by rw [wr_o (by decide)]
        rw [e1, e2]
        by_cases e : i = m 259 39
        · subst e; rw [wr_eq, wr_eq]; exact ⟨rfl, b0, b1⟩
        · rw [wr_f e, wr_f e]; exact h.b i i0 (by omega) i2
      · intro o x y; rw [wr_o x, wr_o y]; exact h.c o x y
      · intro o x y; rw [wr_o x, wr_o y]; exact h.m o x y
      · intro f x y; rw [wr_f x, wr_o (by decide)]; exact h.f f x y
    · intro c' m' e1 e2
      cases e1; cases e2
      rw [wr_f (by decide), wr_o (by decide), wr_f (by decide), wr_o (by decide)]
      exact ⟨rfl, rfl⟩
  · have cl : c 257 3 = 6000 := by
      by_cases z2 : m 259 39 = 6000
      · have := h.a (by omega); omega
      · have := h.z (by omega); omega
    rw [if_neg (show ¬ c 257 3 < 6000 by omega), if_pos (show 6000 ≤ m 259 39 by omega), jadd_e (by omega) (by omega)]
    simp only [Option.bind_some]
    refine ⟨⟨_, _, rfl, rfl, ?_⟩, ?_⟩
    · refine ⟨?_, ?_, ?_, ?_, ?_, ?_, ?_, ?_, ?_⟩
      · rw [wr_eq]; exact Or.inr rfl
      · rw [wr_f (by decide), wr_f (by decide)]; exact h.s
      · rw [wr_eq]; omega
      · intro x; rw [wr_eq] at x; omega
      · intro _; rw [wr_f (by decide), wr_eq]; exact ⟨cl, rfl⟩
      · intro i i0 i1 i2
        rw [wr_o (by decide), wr_o (by decide)]
        exact h.b i i0 (by omega) i2
      · intro o x y; rw [wr_o x]; exact h.c o x y
      · intro o x y; rw [wr_o x]; exact h.m o x y
      · intro f x y; rw [wr_f x]; exact h.f f x y
    · intro c' m' e1 e2
      cases e1; cases e2
      rw [wr_f (by decide), wr_f (by decide)]
      exact ⟨rfl, rfl⟩
theorem WV_flag {N : Int} {c0 m0 c m : Mem} {v : Int} (h : WV N c0 m0 c m) (hv : v = 0 ∨ v = 1) : WV N c0 m0 (wr c 257 5 v) (wr m 259 40 v) := by
  refine ⟨?_, ?_, ?_, ?_, ?_, ?_, ?_, ?_, ?_⟩
  · rw [wr_f (by decide)]; exact h.t
  · rw [wr_eq, wr_eq]; exact ⟨rfl, hv⟩
  · rw [wr_f (by decide)]; exact h.n
  · rw [wr_f (by decide), wr_f (by decide), wr_f (by decide)]; exact h.a
  · rw [wr_f (by decide), wr_f (by decide), wr_f (by decide)]; exact h.z
  · intro i i0 i1 i2
    rw [wr_f (by decide)] at i1
    rw [wr_o (by decide), wr_o (by decide)]
    exact h.b i i0 i1 i2
  · intro o x y; rw [wr_o x]; exact h.c o x y
  · intro o x y; rw [wr_o x]; exact h.m o x y
  · intro f x y; rw [wr_f y]; exact h.f f x y
theorem byteE {N : Int} {c0 m0 c m : Mem} {b : Int} (h : WV N c0 m0 c m) (hN : N + 1 ≤ 1000000000) (b0 : 0 ≤ b) (b1 : b ≤ 255) : EM (N + 1) c0 m0 (Sv_putByte c b) (M_write m b) := (byte_op h hN b0 b1).1
theorem blank_op {N : Int} {c0 m0 c m : Mem} (h : WV N c0 m0 c m) (hN : N + 1 ≤ 1000000000) : EM (N + 1) c0 m0 (Sv_putBlankIfNeeded c) (M_solid m) := by
  obtain ⟨s1, s2⟩ := h.s
  unfold Sv_putBlankIfNeeded M_solid
  rw [s1]
  by_cases z : m 259 40 = 0
  · rw [if_pos z, if_pos z]
    simp only [Option.bind_some]
    have h2 := WV_flag h (v := 1) (Or.inr rfl)
    refine ⟨_, _, rfl, rfl, h2.t, h2.s, ?_, h2.a, h2.z, h2.b, h2.c, h2.m, h2.f⟩
    have := h2.n
    omega
  · obtain ⟨c1, m1, e1, e2, e3⟩ := byteE h hN (b := 32) (by omega) (by omega)
    rw [if_neg z, if_neg z, e1, e2]
    simp only [Option.bind_some]
    exact ⟨_, _, rfl, rfl, WV_flag e3 (Or.inr rfl)⟩
theorem sign_op {N : Int} {c0 m0 c m : Mem} {b : Int} (h : WV N c0 m0 c m) (hN : N + 1 ≤ 1000000000) (b0 : 0 ≤ b) (b1 : b ≤ 255) : EM (N + 1) c0 m0 (Sv_putSign c b) (M_writeSign m b) := by
  obtain ⟨c1, m1, e1, e2, e3⟩ := byteE h hN b0 b1
  unfold Sv_putSign M_writeSign
  rw [e1, e2]
  simp only [Option.bind_some]
  exact ⟨_, _, rfl, rfl, WV_flag e3 (Or.inl rfl)⟩
theorem close_op {N : Int} {c0 m0 c m : Mem} (h : WV N c0 m0 c m) (hN : N + 2 ≤ 1000000000) : EM (N + 2) c0 m0 (Sv_close c) (M_ends m) := by
  obtain ⟨c1, m1, e1, e2, e3⟩ := sign_op h (by omega) (b := 59) (by omega) (by omega)
  obtain ⟨c2, m2, g1, g2, g3⟩ := byteE e3 (by omega) (b := 10) (by omega) (by omega)
  unfold Sv_close M_ends
  rw [e1, e2, Option.bind_some, Option.bind_some, g1, g2]
  rw [show N + 1 + 1 = N + 2 by omega] at g3
  exact ⟨_, _, rfl, rfl, g3⟩
