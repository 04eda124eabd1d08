-- L3: numbers
theorem jadd_e {x y : Int} (h1 : -2147483648 ≤ x + y) (h2 : x + y < 2147483648) : jadd x y = x + y := by
  unfold jadd; rw [← Int32.ofInt_add]; exact i32_id ⟨h1, h2⟩
theorem jsub_e {x y : Int} (h1 : -2147483648 ≤ x - y) (h2 : x - y < 2147483648) : jsub x y = x - y := by
  unfold jsub; rw [← Int32.ofInt_sub]; exact i32_id ⟨h1, h2⟩
theorem jmul_e {x y : Int} (h1 : -2147483648 ≤ x * y) (h2 : x * y < 2147483648) : jmul x y = x * y := by
  unfold jmul; rw [← Int32.ofInt_mul]; exact i32_id ⟨h1, h2⟩
theorem jneg_e {x : Int} (h1 : -2147483648 < x) (h2 : x < 2147483648) : jneg x = -x := by
  unfold jneg; rw [← Int32.ofInt_neg]; exact i32_id ⟨by omega, by omega⟩
theorem jdiv_t {x y : Int} (hx : R32 x) (hy : R32 y) (h : y ≠ -1) : jdiv x y = x.tdiv y := by
  unfold jdiv
  rw [Int32.toInt_div_of_ne_right, i32_id hx, i32_id hy]
  intro e
  have e2 := congrArg Int32.toInt e
  rw [i32_id hy] at e2
  exact h (by simpa using e2)
theorem jdiv_e {x y : Int} (h1 : 0 ≤ x) (h2 : x < 2147483648) (h3 : 0 < y) (h4 : y < 2147483648) : jdiv x y = x / y := by
  rw [jdiv_t ⟨by omega, h2⟩ ⟨by omega, h4⟩ (by omega), Int.tdiv_eq_ediv_of_nonneg h1]
theorem jrem_e {x y : Int} (h1 : 0 ≤ x) (h2 : x < 2147483648) (h3 : 0 < y) (h4 : y < 2147483648) : jrem x y = x % y := by
  have e : jrem x y = jsub x (jmul (jdiv x y) y) := by
    unfold jrem jsub jmul jdiv
    rw [i32_of, i32_of]
  have d0 : 0 ≤ x / y := Int.ediv_nonneg h1 (by omega)
  have d1 : x / y * y ≤ x := Int.ediv_mul_le x (by omega)
  have d2 : 0 ≤ x / y * y := Int.mul_nonneg d0 (by omega)
  rw [e, jdiv_e h1 h2 h3 h4, jmul_e (by omega) (by omega), jsub_e (by omega) (by omega)]
  have := Int.emod_add_mul_ediv x y
  rw [Int.mul_comm] at this
  omega
theorem big_le {n : Nat} (h : n ≤ 200000) : n ≤ big := Nat.le_trans h big_ge
theorem aI_ok {μ : Mem} {o n i : Int} (h1 : 0 ≤ i) (h2 : i < n) : aI μ o n i = some (μ o i) := if_pos ⟨h1, h2⟩
theorem sI_ok {μ : Mem} {o n i v : Int} (h1 : 0 ≤ i) (h2 : i < n) : sI μ o n i v = some (wr μ o i v) := if_pos ⟨h1, h2⟩
theorem ar_ok {b n s i : Int} (h1 : 0 ≤ i) (h2 : i < n) : ar b n s i = some (b + s * i) := if_pos ⟨h1, h2⟩
theorem rdI_ok {μ : Mem} {o i : Int} (hk : kd o = 100) (h1 : 0 ≤ i) (h2 : i < ln o) : rdI μ o i = some (μ o i) := if_pos (Or.inl ⟨hk, h1, h2⟩)
theorem wI_ok {μ : Mem} {o i v : Int} (hk : kd o = 100) (ho : 0 < o) (h1 : 0 ≤ i) (h2 : i < ln o) : wI μ o i v = some (wr μ o i v) := if_pos ⟨hk, ho, h1, h2⟩
/-- a loop that counts up to hi: an invariant that each turn keeps gives the end -/
theorem forI {σ α : Type} (f : Nat → σ → Int → Option α) (lo hi : Int) (I : Int → σ → Prop) (out : Option α → Prop)
    (step : ∀ n i s, lo ≤ i → i < hi → I i s → ∃ s', I (i + 1) s' ∧ f (n + 1) s i = f n s' (i + 1))
    (exit : ∀ n s, I hi s → out (f (n + 1) s hi)) : ∀ (n : Nat) (i : Int) (s : σ), lo ≤ i → i ≤ hi → hi - i < n → I i s → out (f n s i) := by
  intro n
  induction n with
  | zero => intro i s _ h2 h3 _; omega
  | succ n ih =>
    intro i s h1 h2 h3 hI
    by_cases e : i = hi
    · subst e; exact exit n s hI
    · obtain ⟨s', hI', hf⟩ := step n i s h1 (by omega) hI
      rw [hf]
      exact ih (i + 1) s' (by omega) (by omega) (by omega) hI'
