-- L3: enter: the tape read by both; blanks
def skq (t : Int → Int) (n : Int) : Nat → Int → Int
  | 0, p => p
  | k + 1, p => if p < n ∧ (t p = 10 ∨ t p = 32) then skq t n k (p + 1) else p
/-- the class's reader over a tape of n bytes t -/
def TPc (c : Mem) (t : Int → Int) (n : Int) : Prop := c 250 2 = 2 ∧ c 250 3 = n ∧ 0 ≤ n ∧ n ≤ 6000 ∧ (∀ i, 0 ≤ i → i < n → c 2 i = jb (t i) ∧ 0 ≤ t i ∧ t i ≤ 255)
def TPm (m : Mem) (t : Int → Int) (n : Int) : Prop := m 259 10 = n ∧ 0 ≤ n ∧ n ≤ 6000 ∧ (∀ i, 0 ≤ i → i < n → m 267 i = t i ∧ 0 ≤ t i ∧ t i ≤ 255)
theorem jb_small : ∀ x ∈ List.range 256, ∀ y ∈ List.range 128, (jb (x : Int) = (y : Int) ↔ x = y) := by decide +kernel
theorem jb_is {x y : Int} (x0 : 0 ≤ x) (x1 : x ≤ 255) (y0 : 0 ≤ y) (y1 : y < 128) : jb x = y ↔ x = y := by
  obtain ⟨x', rfl⟩ : ∃ x' : Nat, x = (x' : Int) := ⟨x.toNat, by omega⟩
  obtain ⟨y', rfl⟩ : ∃ y' : Nat, y = (y' : Int) := ⟨y.toNat, by omega⟩
  have := jb_small x' (List.mem_range.mpr (by omega)) y' (List.mem_range.mpr (by omega))
  rw [this]
  omega
theorem wr_self {c : Mem} {o i v : Int} (h : c o i = v) : wr c o i v = c := by
  funext a j
  unfold wr
  by_cases e : a = o ∧ j = i
  · rw [if_pos e, e.1, e.2, h]
  · rw [if_neg e]
theorem wr_wr {c : Mem} {o i v w : Int} : wr (wr c o i v) o i w = wr c o i w := by
  funext a j
  unfold wr
  by_cases e : a = o ∧ j = i
  · rw [if_pos e, if_pos e]
  · rw [if_neg e, if_neg e, if_neg e]
theorem rdB_2 {c : Mem} {i : Int} (i0 : 0 ≤ i) (i1 : i < 6000) : rdB c 2 i = some (c 2 i) := if_pos ⟨Or.inl (by decide +kernel), i0, by rw [show ln 2 = 6000 by decide +kernel]; exact i1⟩
theorem Rd_skip {t : Int → Int} {n : Int} : ∀ (k N : Nat) (c : Mem) (p : Int), TPc c t n → c 250 4 = p → 0 ≤ p → p ≤ n → n - p ≤ k → k < N → Rd_skipBlanks_0 N c = some (wr c 250 4 (skq t n k p)) := by
  intro k
  induction k with
  | zero =>
    intro N c p h hp p0 p1 h1 h2
    obtain ⟨N, rfl⟩ : ∃ j, N = j + 1 := ⟨N - 1, by omega⟩
    obtain ⟨a1, a2, a3, a4, a5⟩ := h
    rw [Rd_skipBlanks_0, a2, hp, if_pos (by omega)]
    show some c = some (wr c 250 4 p)
    rw [wr_self hp]
  | succ k ih =>
    intro N c p h hp p0 p1 h1 h2
    obtain ⟨N, rfl⟩ : ∃ j, N = j + 1 := ⟨N - 1, by omega⟩
    have h' := h
    obtain ⟨a1, a2, a3, a4, a5⟩ := h'
    rw [Rd_skipBlanks_0, a1, a2, hp, skq]
    by_cases z : n ≤ p
    · rw [if_pos z, if_neg (show ¬ (p < n ∧ (t p = 10 ∨ t p = 32)) from fun x => by omega), wr_self hp]
    · obtain ⟨b1, b2, b3⟩ := a5 p p0 (by omega)
      have e32 : jb (t p) = 32 ↔ t p = 32 := jb_is b2 b3 (by omega) (by omega)
      have e10 : jb (t p) = 10 ↔ t p = 10 := jb_is b2 b3 (by omega) (by omega)
      rw [if_neg z, rdB_2 p0 (by omega), Option.bind_some, Option.bind_some, b1]
      have hn : TPc (wr c 250 4 (p + 1)) t n := ⟨by rw [wr_f (by decide)]; exact a1, by rw [wr_f (by decide)]; exact a2, a3, a4, fun i i0 i1 => by rw [wr_o (by decide)]; exact a5 i i0 i1⟩
      have go : Rd_skipBlanks_39 (Rd_skipBlanks_0 N) c = some (wr c 250 4 (skq t n k (p + 1))) := by
        unfold Rd_skipBlanks_39
        rw [Option.bind_some, hp, jadd_e (by omega) (by omega), ih N (wr c 250 4 (p + 1)) (p + 1) hn wr_eq (by omega) (by omega) (by omega) (by omega), wr_wr]
      by_cases z2 : t p = 32
      · rw [if_pos (e32.mpr z2), if_pos (show p < n ∧ (t p = 10 ∨ t p = 32) from ⟨by omega, Or.inr z2⟩), go]
      · rw [if_neg (fun x => z2 (e32.mp x))]
        by_cases z3 : t p = 10
        · rw [if_neg (fun x => x (e10.mpr z3)), if_pos (show p < n ∧ (t p = 10 ∨ t p = 32) from ⟨by omega, Or.inl z3⟩), go]
        · rw [if_pos (fun x => z3 (e10.mp x)), if_neg (show ¬ (p < n ∧ (t p = 10 ∨ t p = 32)) from fun x => by omega), wr_self hp]
theorem M_byteAt_e {m : Mem} {t : Int → Int} {n p : Int} (h : TPm m t n) (p0 : 0 ≤ p) : M_byteAt m p = some (if p < n then t p else 0) := by
  obtain ⟨a1, a2, a3, a4⟩ := h
  unfold M_byteAt
  rw [a1]
  by_cases z : n ≤ p
  · rw [if_pos z, if_neg (show ¬ p < n by omega)]
  · rw [if_neg z, if_pos (show p < n by omega), aI_ok p0 (by omega), Option.bind_some, (a4 p p0 (by omega)).1]
theorem M_skip {t : Int → Int} {n : Int} : ∀ (k N : Nat) (m : Mem) (p : Int), TPm m t n → m 259 18 = p → 0 ≤ p → p ≤ n → n - p ≤ k → k < N → ∃ j, M_read_0 N m = M_read_0 (j + 1) (wr m 259 18 (skq t n k p)) := by
  intro k
  induction k with
  | zero =>
    intro N m p h hp p0 p1 h1 h2
    refine ⟨N - 1, ?_⟩
    show _ = M_read_0 (N - 1 + 1) (wr m 259 18 p)
    rw [wr_self hp, show N - 1 + 1 = N by omega]
  | succ k ih =>
    intro N m p h hp p0 p1 h1 h2
    obtain ⟨N, rfl⟩ : ∃ j, N = j + 1 := ⟨N - 1, by omega⟩
    rw [skq]
    by_cases z : p < n ∧ (t p = 10 ∨ t p = 32)
    · rw [if_pos z, M_read_0, hp, M_byteAt_e h p0, if_pos z.1]
      simp only [Option.bind_some]
      obtain ⟨a1, a2, a3, a4⟩ := h
      have hn : TPm (wr m 259 18 (p + 1)) t n := ⟨by rw [wr_f (by decide)]; exact a1, a2, a3, fun i i0 i1 => by rw [wr_o (by decide)]; exact a4 i i0 i1⟩
      have go : ∃ j, M_read_26 (M_read_0 N) m = M_read_0 (j + 1) (wr m 259 18 (skq t n k (p + 1))) := by
        obtain ⟨j, e⟩ := ih N (wr m 259 18 (p + 1)) (p + 1) hn wr_eq (by omega) (by omega) (by omega) (by omega)
        refine ⟨j, ?_⟩
        unfold M_read_26
        rw [Option.bind_some, hp, jadd_e (by omega) (by omega), e, wr_wr]
      by_cases z2 : t p = 10
      · rw [if_pos z2]; exact go
      · rw [if_neg z2, if_neg (show ¬ t p ≠ 32 by omega)]; exact go
    · rw [if_neg z, wr_self hp]
      exact ⟨N, rfl⟩
