-- L3: enter: a word's number in the model is a word's letters
/-- digits 1..26, the last letter first -/
def vl : List Int → Int
  | [] => 0
  | d :: L => 27 * vl L + d
theorem vl_0 : ∀ L : List Int, (∀ d ∈ L, 1 ≤ d ∧ d ≤ 26) → 0 ≤ vl L := by
  intro L
  induction L with
  | nil => intro _; exact Int.le_refl _
  | cons d L ih =>
    intro h
    have := ih (fun x hx => h x (by simp [hx]))
    have := h d (by simp)
    show 0 ≤ 27 * vl L + d
    omega
theorem vl_inj : ∀ L M : List Int, (∀ d ∈ L, 1 ≤ d ∧ d ≤ 26) → (∀ d ∈ M, 1 ≤ d ∧ d ≤ 26) → vl L = vl M → L = M := by
  intro L
  induction L with
  | nil =>
    intro M _ hM e
    cases M with
    | nil => rfl
    | cons d M =>
      exfalso
      have := hM d (by simp)
      have := vl_0 M (fun x hx => hM x (by simp [hx]))
      have e2 : (0 : Int) = 27 * vl M + d := e
      omega
  | cons a L ih =>
    intro M hL hM e
    cases M with
    | nil =>
      exfalso
      have := hL a (by simp)
      have := vl_0 L (fun x hx => hL x (by simp [hx]))
      have e2 : 27 * vl L + a = (0 : Int) := e
      omega
    | cons d M =>
      have h1 := hL a (by simp)
      have h2 := hM d (by simp)
      have e2 : 27 * vl L + a = 27 * vl M + d := e
      have e3 : a = d := by omega
      have e4 : vl L = vl M := by omega
      rw [e3, ih M (fun x hx => hL x (by simp [hx])) (fun x hx => hM x (by simp [hx])) e4]
theorem vl_b : ∀ L : List Int, (∀ d ∈ L, 1 ≤ d ∧ d ≤ 26) → L.length ≤ 9 → vl L ≤ 7625597484986 := by
  have key : ∀ L : List Int, (∀ d ∈ L, 1 ≤ d ∧ d ≤ 26) → vl L + 1 ≤ 27 ^ L.length := by
    intro L
    induction L with
    | nil => intro _; exact Int.le_refl _
    | cons d L ih =>
      intro h
      have h1 := ih (fun x hx => h x (by simp [hx]))
      have h2 := h d (by simp)
      show 27 * vl L + d + 1 ≤ 27 ^ (L.length + 1)
      rw [Int.pow_succ]
      omega
  intro L h hl
  have h1 := key L h
  have h2 : (27 : Int) ^ L.length ≤ 27 ^ 9 := by
    have : L.length = 0 ∨ L.length = 1 ∨ L.length = 2 ∨ L.length = 3 ∨ L.length = 4 ∨ L.length = 5 ∨ L.length = 6 ∨ L.length = 7 ∨ L.length = 8 ∨ L.length = 9 := by omega
    rcases this with e | e | e | e | e | e | e | e | e | e <;> rw [e] <;> decide
  have h3 : (27 : Int) ^ 9 = 7625597484987 := by decide
  omega
