-- L3: loops that count up, as folds
def itr {σ : Type} (f : Int → σ → σ) (s : σ) : Nat → σ
  | 0 => s
  | k + 1 => f (k : Int) (itr f s k)
/-- a loop whose turn at i makes f i of the state: it comes to the end with the fold -/
theorem loopI {σ α : Type} (F : Nat → σ → Int → Option α) (f : Int → σ → σ) (s0 : σ) (hi : Nat) (P : Int → σ → Prop)
    (hP : ∀ k : Nat, k < hi → P k (itr f s0 k))
    (step : ∀ n (i : Int) s, 0 ≤ i → i < hi → P i s → F (n + 1) s i = F n (f i s) (i + 1)) (N : Nat) (hN : hi ≤ N) :
    F N s0 0 = F (N - hi) (itr f s0 hi) hi := by
  have key : ∀ k : Nat, k ≤ hi → F N s0 0 = F (N - k) (itr f s0 k) k := by
    intro k
    induction k with
    | zero => intro _; rfl
    | succ k ih =>
      intro hk
      rw [ih (by omega)]
      have e : N - k = (N - (k + 1)) + 1 := by omega
      rw [e, step _ _ _ (by omega) (by omega) (hP k (by omega))]
      rfl
  exact key hi (Nat.le_refl _)
/-- without a premise on the state -/
theorem loopT {σ α : Type} (F : Nat → σ → Int → Option α) (f : Int → σ → σ) (s0 : σ) (hi : Nat)
    (step : ∀ n (i : Int) s, 0 ≤ i → i < hi → F (n + 1) s i = F n (f i s) (i + 1)) (N : Nat) (hN : hi ≤ N) :
    F N s0 0 = F (N - hi) (itr f s0 hi) hi := loopI F f s0 hi (fun _ _ => True) (fun _ _ => trivial) (fun n i s h1 h2 _ => step n i s h1 h2) N hN
theorem itr_inv {σ : Type} (f : Int → σ → σ) (s0 : σ) (I : Int → σ → Prop) (h0 : I 0 s0) (hs : ∀ (k : Nat) s, I k s → I (k + 1) (f k s)) : ∀ k : Nat, I k (itr f s0 k) := by
  intro k
  induction k with
  | zero => exact h0
  | succ k ih => exact hs k _ ih
/-- the content of an object is replaced -/
def up (μ : Mem) (o : Int) (g : Int → Int) : Mem := fun a j => if a = o then g j else μ a j
theorem up_eq {μ : Mem} {o : Int} {g : Int → Int} : up μ o g o = g := by funext j; exact if_pos rfl
theorem up_ne {μ : Mem} {o a : Int} {g : Int → Int} (h : ¬ a = o) : up μ o g a = μ a := by funext j; exact if_neg h
theorem up_id {μ : Mem} {o : Int} : up μ o (μ o) = μ := by
  funext a j
  unfold up
  by_cases h : a = o
  · rw [if_pos h, h]
  · rw [if_neg h]
theorem wr_up {μ : Mem} {o i v : Int} : wr μ o i v = up μ o (fun j => if j = i then v else μ o j) := by
  funext a j
  unfold wr up
  by_cases h : a = o
  · subst h
    by_cases h2 : j = i
    · rw [if_pos ⟨rfl, h2⟩, if_pos rfl]; exact (if_pos h2).symm
    · rw [if_neg (fun e => h2 e.2), if_pos rfl]; exact (if_neg h2).symm
  · rw [if_neg (fun e => h e.1), if_neg h]
theorem up_up {μ : Mem} {o : Int} {g h : Int → Int} : up (up μ o g) o h = up μ o h := by
  funext a j
  unfold up
  by_cases e : a = o
  · rw [if_pos e, if_pos e]
  · rw [if_neg e, if_neg e, if_neg e]
theorem up_comm {μ : Mem} {o p : Int} {g h : Int → Int} (hp : ¬ o = p) : up (up μ o g) p h = up (up μ p h) o g := by
  funext a j
  unfold up
  by_cases e : a = p
  · rw [if_pos e, if_neg (fun e2 => hp (e2.symm.trans e)), if_pos e]
  · rw [if_neg e]
    by_cases e2 : a = o
    · rw [if_pos e2, if_pos e2]
    · rw [if_neg e2, if_neg e2, if_neg e]
/-- one place of a row of numbers changes -/
def st1 (g : Int → Int) (i v : Int) : Int → Int := fun j => if j = i then v else g j
theorem wr_st1 {μ : Mem} {o i v : Int} : wr μ o i v = up μ o (st1 (μ o) i v) := wr_up
theorem st1_eq {g : Int → Int} {i v : Int} : st1 g i v i = v := if_pos rfl
theorem st1_ne {g : Int → Int} {i v j : Int} (h : ¬ j = i) : st1 g i v j = g j := if_neg h
theorem sI_up {μ : Mem} {o n i v : Int} (h1 : 0 ≤ i) (h2 : i < n) : sI μ o n i v = some (up μ o (st1 (μ o) i v)) := by rw [sI_ok h1 h2, wr_st1]
/-- the loop and its end -/
theorem loopZ {σ α : Type} (F : Nat → σ → Int → Option α) (f : Int → σ → σ) (s0 : σ) (hi : Nat) (h : Int) (e : (hi : Int) = h) {r : Option α}
    (step : ∀ n (i : Int) s, 0 ≤ i → i < h → F (n + 1) s i = F n (f i s) (i + 1)) (exit : ∀ n, F (n + 1) (itr f s0 hi) h = r) (N : Nat) (hN : hi < N) : F N s0 0 = r := by
  subst e
  rw [loopT F f s0 hi step N (by omega)]
  obtain ⟨j, hj⟩ : ∃ j, N - hi = j + 1 := ⟨N - hi - 1, by omega⟩
  rw [hj]
  exact exit j
/-- the same with what is known of the states -/
theorem loopY {σ α : Type} (F : Nat → σ → Int → Option α) (f : Int → σ → σ) (s0 : σ) (hi : Nat) (h : Int) (e : (hi : Int) = h) (P : Int → σ → Prop) {r : Option α}
    (h0 : P 0 s0) (hP : ∀ (i : Int) s, 0 ≤ i → i < h → P i s → P (i + 1) (f i s))
    (step : ∀ n (i : Int) s, 0 ≤ i → i < h → P i s → F (n + 1) s i = F n (f i s) (i + 1)) (exit : ∀ n, P h (itr f s0 hi) → F (n + 1) (itr f s0 hi) h = r) (N : Nat) (hN : hi < N) : F N s0 0 = r := by
  subst e
  have key : ∀ k : Nat, k ≤ hi → P k (itr f s0 k) := by
    intro k
    induction k with
    | zero => intro _; exact h0
    | succ k ih => intro hk; exact hP k _ (by omega) (by omega) (ih (by omega))
  rw [loopI F f s0 hi P (fun k hk => key k (by omega)) step N (by omega)]
  obtain ⟨j, hj⟩ : ∃ j, N - hi = j + 1 := ⟨N - hi - 1, by omega⟩
  rw [hj]
  exact exit j (key hi (Nat.le_refl _))
theorem b30 : 30 < big := Nat.lt_of_lt_of_le (by decide) big_ge
theorem b40 : 40 < big := Nat.lt_of_lt_of_le (by decide) big_ge
theorem b360 : 360 < big := Nat.lt_of_lt_of_le (by decide) big_ge
theorem big_s : ∃ j, big = j + 1 := ⟨big - 1, by have := big_ge; omega⟩
