-- L3: enter: runs of letters and digits
def rq (t : Int → Int) (n lo hi : Int) : Nat → Int → Int
  | 0, p => p
  | k + 1, p => if p < n ∧ lo ≤ t p ∧ t p ≤ hi then rq t n lo hi k (p + 1) else p
theorem jb_t : ∀ x ∈ List.range 256, jb (x : Int) = if x < 128 then (x : Int) else (x : Int) - 256 := by decide +kernel
theorem jb_v {x : Int} (x0 : 0 ≤ x) (x1 : x ≤ 255) : jb x = if x < 128 then x else x - 256 := by
  obtain ⟨x', rfl⟩ : ∃ x' : Nat, x = (x' : Int) := ⟨x.toNat, by omega⟩
  have := jb_t x' (List.mem_range.mpr (by omega))
  rw [this]
  by_cases z : x' < 128
  · rw [if_pos z, if_pos (by omega)]
  · rw [if_neg z, if_neg (by omega)]
theorem rq_r {t : Int → Int} {n lo hi : Int} : ∀ (k : Nat) (p : Int), p ≤ n → p ≤ rq t n lo hi k p ∧ rq t n lo hi k p ≤ n ∧ (∀ i, p ≤ i → i < rq t n lo hi k p → lo ≤ t i ∧ t i ≤ hi) ∧ (n - p ≤ k → rq t n lo hi k p < n → ¬ (lo ≤ t (rq t n lo hi k p) ∧ t (rq t n lo hi k p) ≤ hi)) := by
  intro k
  induction k with
  | zero => intro p h; exact ⟨Int.le_refl _, h, fun i a b => by unfold rq at b; omega, fun a b => by unfold rq at b; omega⟩
  | succ k ih =>
    intro p h
    unfold rq
    by_cases z : p < n ∧ lo ≤ t p ∧ t p ≤ hi
    · rw [if_pos z]
      obtain ⟨a, b, d, e⟩ := ih (p + 1) (by omega)
      refine ⟨by omega, b, fun i i0 i1 => ?_, fun x y => e (by omega) y⟩
      by_cases e2 : i = p
      · subst e2; exact z.2
      · exact d i (by omega) i1
    · rw [if_neg z]
      exact ⟨Int.le_refl _, h, fun i a b => by omega, fun _ y x => z ⟨y, x⟩⟩
theorem Rd_run {t : Int → Int} {n lo hi : Int} {c : Mem} (h : TPc c t n) (l0 : 0 ≤ lo) (h1 : hi < 128) (p0 : 0 ≤ c 250 4) : ∀ (k N : Nat) (q : Int), c 250 4 ≤ q → q ≤ n → n - q ≤ k → k < N → Rd_runLength_5 c lo hi N q = some (rq t n lo hi k q - c 250 4) := by
  obtain ⟨a1, a2, a3, a4, a5⟩ := h
  intro k
  induction k with
  | zero =>
    intro N q q0 q1 h2 h3
    obtain ⟨N, rfl⟩ : ∃ j, N = j + 1 := ⟨N - 1, by omega⟩
    rw [Rd_runLength_5, a2, if_pos (by omega), jsub_e (by omega) (by omega)]
    rfl
  | succ k ih =>
    intro N q q0 q1 h2 h3
    obtain ⟨N, rfl⟩ : ∃ j, N = j + 1 := ⟨N - 1, by omega⟩
    rw [Rd_runLength_5, a2, a1, rq]
    by_cases z : n ≤ q
    · rw [if_pos z, if_neg (show ¬ (q < n ∧ lo ≤ t q ∧ t q ≤ hi) from fun x => by omega), jsub_e (by omega) (by omega)]
    · obtain ⟨b1, b2, b3⟩ := a5 q (by omega) (by omega)
      have jv := jb_v b2 b3
      rw [if_neg z, rdB_2 (by omega) (by omega), Option.bind_some, Option.bind_some, b1, jsub_e (by omega) (by omega), jadd_e (by omega) (by omega)]
      by_cases z2 : lo ≤ t q ∧ t q ≤ hi
      · rw [jv, if_pos (show t q < 128 by omega), if_neg (show ¬ t q < lo by omega), if_neg (show ¬ hi < t q by omega), if_pos (show q < n ∧ lo ≤ t q ∧ t q ≤ hi from ⟨by omega, z2⟩)]
        exact ih N (q + 1) (by omega) (by omega) (by omega) (by omega)
      · rw [if_neg (show ¬ (q < n ∧ lo ≤ t q ∧ t q ≤ hi) from fun x => z2 x.2)]
        by_cases z3 : jb (t q) < lo
        · rw [if_pos z3]
        · rw [if_neg z3, if_pos]
          rw [jv] at z3 ⊢
          by_cases z4 : t q < 128
          · rw [if_pos z4] at z3 ⊢; omega
          · rw [if_neg z4] at z3 ⊢; omega
