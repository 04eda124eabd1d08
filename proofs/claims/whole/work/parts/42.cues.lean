-- L3: the cues of a row of numbers (the model's lay of a show), and what the model finds of them
def cn (g : Int → Int) (r : Int) : Int := g (1352 + 7 * r)
def rowOf (g : Int → Int) (n : Int) : Int := itr (fun r s => if 0 < n ∧ cn g r = n then r else s) (-1) 30
def above (g : Int → Int) (n : Int) : Int := itr (fun r s => if n < cn g r ∧ (s = 0 ∨ cn g r < s) then cn g r else s) 0 30
def upTo (g : Int → Int) (n : Int) : Int := itr (fun r s => if cn g r ≤ n ∧ s < cn g r then cn g r else s) 0 30
def cuesN (g : Int → Int) : Int := itr (fun r s => if 0 < cn g r then s + 1 else s) 0 30
def orig (g : Int → Int) (n i : Int) : Int := itr (fun r s => if cn g r ≤ n ∧ s < cn g r ∧ 0 ≤ g (1562 + 360 * r + i) then cn g r else s) 0 30
theorem M_cueNumber_e {μ : Mem} {r : Int} (h0 : 0 ≤ r) (h1 : r < 30) : M_cueNumber μ r = some (cn (μ 264) r) := by
  unfold M_cueNumber cn
  simp (disch := omega) only [jadd_e, jmul_e, aI_ok, Option.bind_some]
theorem M_cueRow_e {μ : Mem} {n : Int} : M_cueRow μ n = some (rowOf (μ 264) n) := by
  refine loopZ (fun k s i => M_cueRow_4 μ n k s i) (fun r s => if 0 < n ∧ cn (μ 264) r = n then r else s) (-1) 30 30 rfl ?_ (fun k => by rw [M_cueRow_4]; rfl) big b30
  intro k i s h0 h1
  rw [M_cueRow_4]
  simp (disch := omega) only [M_cueNumber_e, Option.bind_some, jadd_e]
  repeat' split
  all_goals first | rfl | (exfalso; omega)
theorem M_numberAbove_e {μ : Mem} {n : Int} : M_numberAbove μ n = some (above (μ 264) n) := by
  refine loopZ (fun k s i => M_numberAbove_4 μ n k s i) (fun r s => if n < cn (μ 264) r ∧ (s = 0 ∨ cn (μ 264) r < s) then cn (μ 264) r else s) 0 30 30 rfl ?_ (fun k => by rw [M_numberAbove_4]; rfl) big b30
  intro k i s h0 h1
  rw [M_numberAbove_4]
  simp (disch := omega) only [M_cueNumber_e, Option.bind_some, jadd_e]
  repeat' split
  all_goals first | rfl | (exfalso; omega)
theorem M_numberUpTo_e {μ : Mem} {n : Int} : M_numberUpTo μ n = some (upTo (μ 264) n) := by
  refine loopZ (fun k s i => M_numberUpTo_4 μ n k s i) (fun r s => if cn (μ 264) r ≤ n ∧ s < cn (μ 264) r then cn (μ 264) r else s) 0 30 30 rfl ?_ (fun k => by rw [M_numberUpTo_4]; rfl) big b30
  intro k i s h0 h1
  rw [M_numberUpTo_4]
  simp (disch := omega) only [M_cueNumber_e, Option.bind_some, jadd_e]
  repeat' split
  all_goals first | rfl | (exfalso; omega)
theorem M_cues_e {μ : Mem} : M_cues μ = some (cuesN (μ 264)) := by
  refine loopY (fun k s i => M_cues_4 μ k s i) (fun r s => if 0 < cn (μ 264) r then s + 1 else s) 0 30 30 rfl (fun i s => 0 ≤ s ∧ s ≤ i) (by omega) ?_ ?_ (fun k _ => by rw [M_cues_4]; rfl) big b30
  · intro i s h0 h1 h2
    split <;> omega
  intro k i s h0 h1 h2
  rw [M_cues_4]
  simp (disch := omega) only [M_cueNumber_e, Option.bind_some, jadd_e, Int.add_zero]
  repeat' split
  all_goals first | rfl | (exfalso; omega)
theorem M_originOf_e {μ : Mem} {n j : Int} (j0 : 0 ≤ j) (j1 : j < 360) : M_originOf μ n j = some (orig (μ 264) n j) := by
  refine loopZ (fun k s i => M_originOf_5 μ n j k s i) (fun r s => if cn (μ 264) r ≤ n ∧ s < cn (μ 264) r ∧ 0 ≤ μ 264 (1562 + 360 * r + j) then cn (μ 264) r else s) 0 30 30 rfl ?_ (fun k => by rw [M_originOf_5]; rfl) big b30
  intro k i s h0 h1
  rw [M_originOf_5]
  simp (disch := omega) only [M_cueNumber_e, Option.bind_some, jadd_e, jmul_e, aI_ok]
  repeat' split
  all_goals first | rfl | (exfalso; omega)
theorem rowOf_s (g : Int → Int) (n : Int) : (rowOf g n = -1 ∧ (0 < n → ∀ r, 0 ≤ r → r < 30 → cn g r ≠ n)) ∨ (0 ≤ rowOf g n ∧ rowOf g n < 30 ∧ 0 < n ∧ cn g (rowOf g n) = n) := by
  have h := itr_inv (fun r s => if 0 < n ∧ cn g r = n then r else s) (-1) (fun i s => (s = -1 ∧ (0 < n → ∀ r, 0 ≤ r → r < i → cn g r ≠ n)) ∨ (0 ≤ s ∧ s < i ∧ 0 < n ∧ cn g s = n)) (Or.inl ⟨rfl, fun _ r h1 h2 => by omega⟩) (by
    intro k s h
    split
    · rename_i hc
      exact Or.inr ⟨by omega, by omega, hc.1, hc.2⟩
    · rename_i hc
      rcases h with ⟨h1, h2⟩ | ⟨h1, h2, h3, h4⟩
      · refine Or.inl ⟨h1, fun hn r r0 r1 => ?_⟩
        by_cases e : r = k
        · subst e; exact fun e => hc ⟨hn, e⟩
        · exact h2 hn r r0 (by omega)
      · exact Or.inr ⟨h1, by omega, h3, h4⟩) 30
  exact h
theorem upTo_s (g : Int → Int) (n : Int) : (upTo g n = 0 ∧ ∀ r, 0 ≤ r → r < 30 → cn g r ≤ n → cn g r ≤ 0) ∨ (0 < upTo g n ∧ (∃ r, 0 ≤ r ∧ r < 30 ∧ cn g r = upTo g n ∧ cn g r ≤ n) ∧ ∀ r, 0 ≤ r → r < 30 → cn g r ≤ n → cn g r ≤ upTo g n) := by
  have h := itr_inv (fun r s => if cn g r ≤ n ∧ s < cn g r then cn g r else s) 0 (fun i s => (s = 0 ∧ ∀ r, 0 ≤ r → r < i → cn g r ≤ n → cn g r ≤ 0) ∨ (0 < s ∧ (∃ r, 0 ≤ r ∧ r < i ∧ cn g r = s ∧ cn g r ≤ n) ∧ ∀ r, 0 ≤ r → r < i → cn g r ≤ n → cn g r ≤ s)) (Or.inl ⟨rfl, fun r h1 h2 => by omega⟩) (by
    intro k s h
    split
    · rename_i hc
      refine Or.inr ⟨by rcases h with h | h <;> omega, ⟨k, by omega, by omega, rfl, hc.1⟩, fun r r0 r1 r2 => ?_⟩
      by_cases e : r = k
      · subst e; exact Int.le_refl _
      · rcases h with ⟨h1, h2⟩ | ⟨h1, _, h2⟩
        · have := h2 r r0 (by omega) r2; omega
        · have := h2 r r0 (by omega) r2; omega
    · rename_i hc
      rcases h with ⟨h1, h2⟩ | ⟨h1, ⟨r, r0, r1, r2, r3⟩, h2⟩
      · refine Or.inl ⟨h1, fun r r0 r1 r2 => ?_⟩
        by_cases e : r = k
        · subst e; omega
        · exact h2 r r0 (by omega) r2
      · refine Or.inr ⟨h1, ⟨r, r0, by omega, r2, r3⟩, fun q q0 q1 q2 => ?_⟩
        by_cases e : q = k
        · subst e; omega
        · exact h2 q q0 (by omega) q2) 30
  exact h
theorem above_s (g : Int → Int) (n : Int) (hn : 0 ≤ n) : (above g n = 0 ∧ ∀ r, 0 ≤ r → r < 30 → ¬ n < cn g r) ∨ (0 < above g n ∧ (∃ r, 0 ≤ r ∧ r < 30 ∧ cn g r = above g n ∧ n < cn g r) ∧ ∀ r, 0 ≤ r → r < 30 → n < cn g r → above g n ≤ cn g r) := by
  have h := itr_inv (fun r s => if n < cn g r ∧ (s = 0 ∨ cn g r < s) then cn g r else s) 0 (fun i s => (s = 0 ∧ ∀ r, 0 ≤ r → r < i → ¬ n < cn g r) ∨ (0 < s ∧ (∃ r, 0 ≤ r ∧ r < i ∧ cn g r = s ∧ n < cn g r) ∧ ∀ r, 0 ≤ r → r < i → n < cn g r → s ≤ cn g r)) (Or.inl ⟨rfl, fun r h1 h2 => by omega⟩) (by
    intro k s h
    split
    · rename_i hc
      refine Or.inr ⟨by omega, ⟨k, by omega, by omega, rfl, hc.1⟩, fun r r0 r1 r2 => ?_⟩
      by_cases e : r = k
      · subst e; exact Int.le_refl _
      · rcases h with ⟨h1, h2⟩ | ⟨h1, _, h2⟩
        · exact absurd r2 (h2 r r0 (by omega))
        · have := h2 r r0 (by omega) r2; omega
    · rename_i hc
      rcases h with ⟨h1, h2⟩ | ⟨h1, ⟨r, r0, r1, r2, r3⟩, h2⟩
      · refine Or.inl ⟨h1, fun r r0 r1 r2 => ?_⟩
        by_cases e : r = k
        · subst e; exact hc ⟨r2, Or.inl h1⟩
        · exact h2 r r0 (by omega) r2
      · refine Or.inr ⟨h1, ⟨r, r0, by omega, r2, r3⟩, fun q q0 q1 q2 => ?_⟩
        by_cases e : q = k
        · subst e; omega
        · exact h2 q q0 (by omega) q2) 30
  exact h
theorem orig_s (g : Int → Int) (n j : Int) : (orig g n j = 0 ∧ ∀ r, 0 ≤ r → r < 30 → cn g r ≤ n → 0 ≤ g (1562 + 360 * r + j) → cn g r ≤ 0) ∨ (0 < orig g n j ∧ (∃ r, 0 ≤ r ∧ r < 30 ∧ cn g r = orig g n j ∧ cn g r ≤ n ∧ 0 ≤ g (1562 + 360 * r + j)) ∧ ∀ r, 0 ≤ r → r < 30 → cn g r ≤ n → 0 ≤ g (1562 + 360 * r + j) → cn g r ≤ orig g n j) := by
  have h := itr_inv (fun r s => if cn g r ≤ n ∧ s < cn g r ∧ 0 ≤ g (1562 + 360 * r + j) then cn g r else s) 0 (fun i s => (s = 0 ∧ ∀ r, 0 ≤ r → r < i → cn g r ≤ n → 0 ≤ g (1562 + 360 * r + j) → cn g r ≤ 0) ∨ (0 < s ∧ (∃ r, 0 ≤ r ∧ r < i ∧ cn g r = s ∧ cn g r ≤ n ∧ 0 ≤ g (1562 + 360 * r + j)) ∧ ∀ r, 0 ≤ r → r < i → cn g r ≤ n → 0 ≤ g (1562 + 360 * r + j) → cn g r ≤ s)) (Or.inl ⟨rfl, fun r h1 h2 => by omega⟩) (by
    intro k s h
    split
    · rename_i hc
      refine Or.inr ⟨by rcases h with h | h <;> omega, ⟨k, by omega, by omega, rfl, hc.1, hc.2.2⟩, fun r r0 r1 r2 r3 => ?_⟩
      by_cases e : r = k
      · subst e; exact Int.le_refl _
      · rcases h with ⟨h1, h2⟩ | ⟨h1, _, h2⟩
        · have := h2 r r0 (by omega) r2 r3; omega
        · have := h2 r r0 (by omega) r2 r3; omega
    · rename_i hc
      rcases h with ⟨h1, h2⟩ | ⟨h1, ⟨r, r0, r1, r2, r3⟩, h2⟩
      · refine Or.inl ⟨h1, fun r r0 r1 r2 r3 => ?_⟩
        by_cases e : r = k
        · subst e; omega
        · exact h2 r r0 (by omega) r2 r3
      · refine Or.inr ⟨h1, ⟨r, r0, by omega, r2, r3⟩, fun q q0 q1 q2 q3 => ?_⟩
        by_cases e : q = k
        · subst e; omega
        · exact h2 q q0 (by omega) q2 q3) 30
  exact h
