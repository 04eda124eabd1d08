-- L3: what the model's pure methods answer
def hm (p : Int) : Int := tbl hmT p
def trk (g : Int → Int) (n i : Int) : Int := if orig g n i = 0 then -1 else g (1562 + 360 * rowOf g (orig g n i) + i)
def lev (g : Int → Int) (v p : Int) : Int := if v < 2000 then (if v < 0 then hm p else v) else if g (732 + 9 * (v - 2001) + p) < 0 then hm p else g (732 + 9 * (v - 2001) + p)
def tlv (g : Int → Int) (n i : Int) : Int := lev g (trk g n i) (i % 9)
def mixJ (a b p q : Int) : Int := jadd a (jdiv (jmul (jsub b a) p) q)
/-- the level of a cell by goals, froms, begins, lasts, at a time -/
def clv (G F B T : Int → Int) (t i : Int) : Int := if jsub t (B i) < 0 then F i else if T i ≤ jsub t (B i) then G i else mixJ (F i) (G i) (jsub t (B i)) (T i)
theorem rowOf_at {g : Int → Int} (hn : WF_n g) {r : Int} (r0 : 0 ≤ r) (r1 : r < 30) (h : 0 < cn g r) : rowOf g (cn g r) = r := by
  rcases rowOf_s g (cn g r) with ⟨_, h2⟩ | ⟨h1, h2, h3, h4⟩
  · exact absurd rfl (h2 h r r0 r1)
  · exact hn _ _ h1 h2 r0 r1 h4 (by omega)
theorem orig_r {g : Int → Int} {n i : Int} (h : orig g n i ≠ 0) : 0 ≤ rowOf g (orig g n i) ∧ rowOf g (orig g n i) < 30 ∧ cn g (rowOf g (orig g n i)) = orig g n i ∧ 0 < orig g n i := by
  rcases orig_s g n i with ⟨h1, _⟩ | ⟨h1, ⟨r, r0, r1, r2, _⟩, _⟩
  · exact absurd h1 h
  · rcases rowOf_s g (orig g n i) with ⟨_, h2⟩ | ⟨h3, h4, h5, h6⟩
    · exact absurd r2 (h2 h1 r r0 r1)
    · exact ⟨h3, h4, h6, h5⟩
theorem M_trackedValue_e {μ : Mem} {n j : Int} (j0 : 0 ≤ j) (j1 : j < 360) : M_trackedValue μ n j = some (trk (μ 264) n j) := by
  unfold M_trackedValue trk
  simp only [M_originOf_e j0 j1, Option.bind_some]
  by_cases h : orig (μ 264) n j = 0
  · rw [if_neg (by simpa using h), if_pos h]
  · obtain ⟨h1, h2, _⟩ := orig_r h
    rw [if_pos h, if_neg h]
    simp (disch := omega) only [M_cueRow_e, Option.bind_some, jadd_e, jmul_e, aI_ok]
theorem trk_val {g : Int → Int} (hc : WF_c g) {n i : Int} (i0 : 0 ≤ i) (i1 : i < 360) : VAL (trk g n i) := by
  unfold trk
  split
  · exact Or.inl rfl
  · rename_i h
    obtain ⟨h1, h2, h3, h4⟩ := orig_r h
    exact (((hc _ h1 h2).2.2 (by omega)).2.2.2.2 i i0 i1).1
theorem M_levelOf_e {μ : Mem} (hk : KON μ) {v p : Int} (hv : VAL v) (p0 : 0 ≤ p) (p1 : p < 9) : M_levelOf μ v p = some (lev (μ 264) v p) := by
  unfold M_levelOf lev hm
  rcases hv with h | h | h
  · rw [if_neg (by omega), if_neg (by omega), if_pos (by omega), if_pos (by omega), aI_ok p0 p1, hk.hm p p0 p1]; rfl
  · rw [if_neg (by omega), if_pos (by omega), if_pos (by omega), if_neg (by omega)]
  · rw [if_pos (by omega), if_neg (by omega)]
    simp (disch := omega) only [jadd_e, jmul_e, jsub_e, aI_ok, Option.bind_some, hk.hm p p0 p1]
    rw [show 732 + 9 * (v - 2000 - 1) + p = 732 + 9 * (v - 2001) + p by omega]
    split
    · rw [if_neg (by omega)]
    · rw [if_pos (by omega)]
theorem M_trackedLevel_e {μ : Mem} (hk : KON μ) (hc : WF_c (μ 264)) {n j : Int} (j0 : 0 ≤ j) (j1 : j < 360) : M_trackedLevel μ n j = some (tlv (μ 264) n j) := by
  unfold M_trackedLevel tlv
  rw [M_trackedValue_e j0 j1, Option.bind_some, jrem_e j0 (by omega) (by omega) (by omega), M_levelOf_e hk (trk_val hc j0 j1) (by omega) (by omega)]
  rfl
theorem M_cueLevel_e {μ : Mem} {i : Int} (i0 : 0 ≤ i) (i1 : i < 360) : M_cueLevel μ i = some (clv (μ 272) (μ 273) (μ 274) (μ 275) (μ 259 28) i) := by
  unfold M_cueLevel clv M_mix mixJ
  simp (disch := omega) only [aI_ok, Option.bind_some]
  repeat' split
  all_goals first | rfl | (exfalso; omega)
theorem M_isPatched_e {μ : Mem} {u : Int} (u0 : 0 ≤ u) (u1 : u < 40) : M_isPatched μ u = some (if μ 264 (6 * u) < 0 then 0 else 1) := by
  unfold M_isPatched
  simp (disch := omega) only [jmul_e, aI_ok, Option.bind_some]
  split <;> rfl
theorem M_in_e {μ : Mem} {a b c : Int} : M_in μ a b c = some (if b ≤ a ∧ a ≤ c then 1 else 0) := by
  unfold M_in
  repeat' split
  all_goals first | rfl | (exfalso; omega)
theorem M_isUnit_e {μ : Mem} {u : Int} : M_isUnit μ u = some (if 1 ≤ u ∧ u ≤ 40 ∧ 0 ≤ μ 264 (6 * (u - 1)) then 1 else 0) := by
  unfold M_isUnit
  simp only [M_in_e, Option.bind_some]
  by_cases h : 1 ≤ u ∧ u ≤ 40
  · rw [if_pos h]
    simp (disch := omega) only [jsub_e, M_isPatched_e, Option.bind_some]
    repeat' split
    all_goals first | rfl | (exfalso; omega)
  · rw [if_neg h, if_pos rfl, if_neg (by omega)]
theorem M_isField_e {μ : Mem} {u p : Int} : M_isField μ u p = some (if 1 ≤ u ∧ u ≤ 40 ∧ 0 ≤ p ∧ p ≤ 8 then 1 else 0) := by
  unfold M_isField
  simp only [M_in_e, Option.bind_some]
  repeat' split
  all_goals first | rfl | (exfalso; omega)
theorem M_field_e {μ : Mem} {u p : Int} (h : 1 ≤ u ∧ u ≤ 40 ∧ 0 ≤ p ∧ p ≤ 8) : M_field μ u p = some (9 * (u - 1) + p) := by
  unfold M_field
  simp (disch := omega) only [jadd_e, jmul_e, jsub_e]
def μT : Mem := fun o i => if o = 262 then tbl soT i else if o = 263 then tbl sfT i else 0
theorem aI_tab {μ ν : Mem} {o n x : Int} (h : ∀ i, 0 ≤ i → i < n → μ o i = ν o i) : aI μ o n x = aI ν o n x := by
  unfold aI
  by_cases e : 0 ≤ x ∧ x < n
  · rw [if_pos e, if_pos e, h x e.1 e.2]
  · rw [if_neg e, if_neg e]
theorem T262 {μ : Mem} (hk : KON μ) {x : Int} : aI μ 262 22 x = aI μT 262 22 x := aI_tab (fun i h0 h1 => hk.so i h0 h1)
theorem T263 {μ : Mem} (hk : KON μ) {x : Int} : aI μ 263 10 x = aI μT 263 10 x := aI_tab (fun i h0 h1 => hk.sf i h0 h1)
theorem M_has_T {μ : Mem} (hk : KON μ) {p k : Int} : ∀ (n : Nat) (a b : Int), M_has_41 μ p k n a b = M_has_41 μT p k n a b := by
  intro n
  induction n with
  | zero => intro a b; rfl
  | succ n ih =>
    intro a b
    rw [M_has_41, M_has_41, T263 hk, T262 hk]
    simp only [ih]
theorem M_has_up {p k : Int} {v : Int} (j : Nat) : ∀ (n : Nat) (a b : Int), M_has_41 μT p k n a b = some v → M_has_41 μT p k (n + j) a b = some v := by
  intro n
  induction n with
  | zero => intro a b h; exact noneS h
  | succ n ih =>
    intro a b h
    rw [M_has_41] at h
    rw [show n + 1 + j = n + j + 1 by omega, M_has_41]
    revert h
    cases aI μT 263 10 (jadd k 1) with
    | none => exact id
    | some x =>
      simp only [Option.bind_some]
      cases aI μT 262 22 b with
      | none =>
        repeat' split
        all_goals first | exact ih _ _ | exact id
      | some y =>
        simp only [Option.bind_some]
        repeat' split
        all_goals first | exact ih _ _ | exact id
theorem M_has_D20 : ∀ k ∈ List.range 9, ∀ p ∈ List.range 9, (aI μT 263 10 (k : Int)).bind (fun x => M_has_41 μT (p : Int) (k : Int) 20 (if p = 0 then 1 else 0) x) = some (if jand (jshr (tbl hasT k) p) 1 = 1 then 1 else 0) := by decide +kernel
theorem M_has_D : ∀ k ∈ List.range 9, ∀ p ∈ List.range 9, (aI μT 263 10 (k : Int)).bind (fun x => M_has_41 μT (p : Int) (k : Int) big (if p = 0 then 1 else 0) x) = some (if jand (jshr (tbl hasT k) p) 1 = 1 then 1 else 0) := by
  intro k hk p hp
  have h := M_has_D20 k hk p hp
  obtain ⟨x, e, h⟩ := bindS h
  rw [e, Option.bind_some]
  have := M_has_up (big - 20) 20 _ _ h
  rwa [show 20 + (big - 20) = big by have := big_ge; omega] at this
theorem M_has_e {μ : Mem} (hk : KON μ) (hu : WF_u (μ 264)) {u p : Int} (u0 : 0 ≤ u) (u1 : u < 40) (p0 : 0 ≤ p) (p1 : p < 9) : M_has μ u p = some (if 0 ≤ μ 264 (6 * u) ∧ jand (jshr (tbl hasT (μ 264 (6 * u))) p) 1 = 1 then 1 else 0) := by
  obtain ⟨w1, w2, _⟩ := hu u u0 u1
  unfold M_has
  simp (disch := omega) only [jmul_e, aI_ok, Option.bind_some]
  generalize μ 264 (6 * u) = k at *
  unfold M_has_23
  by_cases h : 0 ≤ k
  · obtain ⟨k', rfl⟩ : ∃ k' : Nat, k = (k' : Int) := ⟨k.toNat, by omega⟩
    obtain ⟨p', rfl⟩ : ∃ p' : Nat, p = (p' : Int) := ⟨p.toNat, by omega⟩
    have D := M_has_D k' (List.mem_range.mpr (by omega)) p' (List.mem_range.mpr (by omega))
    simp only [M_has_T hk, T263 hk]
    rw [if_pos h, if_pos h]
    by_cases e : p' = 0
    · subst e
      rw [if_neg (by simp), if_neg (by omega)]
      rw [if_pos rfl] at D
      rw [D]
      simp only [h, true_and]
    · rw [if_pos (by omega)]
      rw [if_neg e] at D
      rw [D]
      simp only [h, true_and]
  · have e : k = -1 := by omega
    subst e
    rw [if_neg (by omega : ¬ (0 ≤ (-1 : Int))), if_neg (by omega : ¬ (0 ≤ (-1 : Int)))]
    have hz : ∀ n a b, (a = 0 ∨ a = 1) → M_has_41 μ p (-1) (n + 1) a b = some a := by
      intro n a b ha
      rw [M_has_41, if_pos (by omega), if_pos ha]
    obtain ⟨j, hj⟩ := big_s
    rw [hj, hz j 0 0 (Or.inl rfl), hz j 1 0 (Or.inr rfl)]
    rw [if_neg (by omega : ¬ (0 ≤ (-1 : Int) ∧ _))]
    repeat' split
    all_goals first | rfl | (exfalso; omega)
