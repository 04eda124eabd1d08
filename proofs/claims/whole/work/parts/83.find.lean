-- L3: enter: the class finds a word
theorem Wd_len {c : Mem} (tb : TB c) {w : Int} (w0 : 0 ≤ w) (w1 : w < 70) : Wd_lengthOf c w = some (cln w) := by
  obtain ⟨s0, s1, s2, s3, s4, s5, s6⟩ := st_x w0 w1
  unfold Wd_lengthOf cln
  rw [jadd_e (by omega) (by omega), aI_ok (by omega) (by omega), Option.bind_some, aI_ok (by omega) (by omega), Option.bind_some, tb.1 _ (by omega) (by omega), tb.1 _ (by omega) (by omega), jsub_e (x := tbl stT2 (w + 1)) (by omega) (by omega), jsub_e (by omega) (by omega)]
theorem Wd_let {c : Mem} (tb : TB c) {w i : Int} (w0 : 0 ≤ w) (w1 : w < 70) (i0 : 0 ≤ i) (i1 : i < cln w) : Wd_letterOf c w i = some (clt w i) := by
  obtain ⟨s0, s1, s2, s3, s4, s5, s6⟩ := st_x w0 w1
  unfold Wd_letterOf clt
  rw [aI_ok w0 (by omega), Option.bind_some, tb.1 w w0 (by omega), jadd_e (by omega) (by omega), aI_ok (by omega) (by omega), Option.bind_some, tb.2 _ (by omega) (by omega)]
theorem Wd_at {c : Mem} (tb : TB c) {w p : Int} (w0 : 0 ≤ w) (w1 : w < 70) (p0 : 0 ≤ p) (p1 : p + cln w ≤ 6000) : ∀ (k N : Nat) (i : Int), 0 ≤ i → i + k = cln w → k < N → ∃ v, Wd_isAt_10 c w 2 p (cln w) N i = some v ∧ (v = 0 ∨ v = 1) ∧ (v = 1 ↔ ∀ j, i ≤ j → j < cln w → c 2 (p + j) = clt w j) := by
  intro k
  induction k with
  | zero =>
    intro N i i0 e h
    obtain ⟨N, rfl⟩ : ∃ j, N = j + 1 := ⟨N - 1, by omega⟩
    rw [Wd_isAt_10, if_pos (by omega)]
    exact ⟨1, rfl, Or.inr rfl, fun _ j a b => by omega, fun _ => rfl⟩
  | succ k ih =>
    intro N i i0 e h
    obtain ⟨N, rfl⟩ : ∃ j, N = j + 1 := ⟨N - 1, by omega⟩
    rw [Wd_isAt_10, if_neg (by omega), jadd_e (x := p) (by omega) (by omega), rdB_2 (by omega) (by omega), Option.bind_some, Wd_let tb w0 w1 i0 (by omega), Option.bind_some, jadd_e (by omega) (by omega)]
    by_cases z : c 2 (p + i) = clt w i
    · rw [if_pos z]
      obtain ⟨v, e1, e2, e3⟩ := ih N (i + 1) (by omega) (by omega) (by omega)
      refine ⟨v, e1, e2, fun hv j a b => ?_, fun hv => e3.mpr (fun j a b => hv j (by omega) b)⟩
      by_cases ej : j = i
      · subst ej; exact z
      · exact e3.mp hv j (by omega) b
    · rw [if_neg z]
      exact ⟨0, rfl, Or.inl rfl, fun x => by omega, fun hv => absurd (hv i (by omega) (by omega)) z⟩
theorem Wd_fnd {c : Mem} (tb : TB c) {p len : Int} (p0 : 0 ≤ p) (p1 : p + len ≤ 6000) : ∀ (k N : Nat) (w : Int), 0 ≤ w → w + k = 70 → k < N → ∃ v, Wd_find_3 c 2 p len N w = some v ∧ ((v = 76 ∧ ∀ q, w ≤ q → q < 70 → ¬ (cln q = len ∧ ∀ j, 0 ≤ j → j < cln q → c 2 (p + j) = clt q j)) ∨ (w ≤ v ∧ v < 70 ∧ cln v = len ∧ ∀ j, 0 ≤ j → j < cln v → c 2 (p + j) = clt v j)) := by
  intro k
  induction k with
  | zero =>
    intro N w w0 e h
    obtain ⟨N, rfl⟩ : ∃ j, N = j + 1 := ⟨N - 1, by omega⟩
    rw [Wd_find_3, if_pos (by omega)]
    exact ⟨76, rfl, Or.inl ⟨rfl, fun q a b => by omega⟩⟩
  | succ k ih =>
    intro N w w0 e h
    obtain ⟨N, rfl⟩ : ∃ j, N = j + 1 := ⟨N - 1, by omega⟩
    obtain ⟨s0, s1, s2, s3, s4, s5, s6⟩ := st_x w0 (by omega : w < 70)
    rw [Wd_find_3, if_neg (by omega), Wd_len tb w0 (by omega), Option.bind_some, jadd_e (by omega) (by omega)]
    have go : ¬ (cln w = len ∧ ∀ j, 0 ≤ j → j < cln w → c 2 (p + j) = clt w j) → ∃ v, Wd_find_3 c 2 p len N (w + 1) = some v ∧ ((v = 76 ∧ ∀ q, w ≤ q → q < 70 → ¬ (cln q = len ∧ ∀ j, 0 ≤ j → j < cln q → c 2 (p + j) = clt q j)) ∨ (w ≤ v ∧ v < 70 ∧ cln v = len ∧ ∀ j, 0 ≤ j → j < cln v → c 2 (p + j) = clt v j)) := by
      intro hn
      obtain ⟨v, e1, e2⟩ := ih N (w + 1) (by omega) (by omega) (by omega)
      refine ⟨v, e1, ?_⟩
      rcases e2 with ⟨a, b⟩ | ⟨a, b⟩
      · refine Or.inl ⟨a, fun q q0 q1 => ?_⟩
        by_cases eq : q = w
        · subst eq; exact hn
        · exact b q (by omega) q1
      · exact Or.inr ⟨by omega, b⟩
    by_cases z : cln w = len
    · rw [if_neg (fun x => x z)]
      obtain ⟨v, e1, e2, e3⟩ := Wd_at tb w0 (by omega) p0 (by omega) (cln w).toNat big 0 (by omega) (by omega) (by have := big_ge; omega)
      have e4 : Wd_isAt c w 2 p = some v := by
        unfold Wd_isAt
        rw [Wd_len tb w0 (by omega), Option.bind_some]
        exact e1
      rw [e4, Option.bind_some]
      by_cases z2 : v = 0
      · rw [if_pos z2]
        exact go (fun x => by have := e3.mpr x.2; omega)
      · rw [if_neg z2]
        exact ⟨w, rfl, Or.inr ⟨Int.le_refl _, by omega, z, e3.mp (by omega)⟩⟩
    · rw [if_pos z]
      exact go (fun x => z x.1)
