-- worlds of the memory under writing and making
def okO (q : Nat × Int) : Bool := (decide (50 ≤ q.1) || decide (cls[q.1]?.map (fun r => ((r.2.2 : Nat) : Int)) = some q.2)) && decide (0 ≤ q.2)
theorem getD_all {α : Type} {p : α → Bool} {d : α} (hd : p d = true) : ∀ (l : List α), l.all p = true → ∀ i, p (l.getD i d) = true := by
  intro l hl i
  rw [List.getD_eq_getElem?_getD]
  cases h : l[i]? with
  | none => exact hd
  | some x => exact List.all_eq_true.mp hl x (List.mem_of_getElem? h)
theorem ite_p {α : Type} (p : α → Bool) {c : Prop} [Decidable c] {a b : α} (h1 : p a = true) (h2 : p b = true) : p (if c then a else b) = true := by
  split
  · exact h1
  · exact h2
theorem okO_sh (r : Int) : okO (shK r) = true := by
  unfold shK
  repeat' first
    | exact (by decide +kernel)
    | refine ite_p okO ?_ ?_
theorem okO_ob (o : Int) : okO (ob o) = true := by
  unfold ob
  split
  · exact getD_all (by decide +kernel) exT (by decide +kernel) _
  · split
    · decide +kernel
    · split
      · decide +kernel
      · split
        · exact okO_sh _
        · split
          · exact getD_all (by decide +kernel) obT (by decide +kernel) _
          · split
            · exact okO_sh _
            · decide +kernel
theorem ln_nn (o : Int) : 0 ≤ ln o := by
  have h := okO_ob o
  unfold okO at h
  rw [Bool.and_eq_true, decide_eq_true_eq] at h
  exact h.2
theorem ln_cls {o : Int} (h : kd o < 50) : ∃ r, cls[kd o]? = some r ∧ ln o = ((r.2.2 : Nat) : Int) := by
  have h1 := okO_ob o
  unfold okO at h1
  rw [Bool.and_eq_true, Bool.or_eq_true, decide_eq_true_eq, decide_eq_true_eq] at h1
  rcases h1.1 with h2 | h2
  · exact absurd h (by unfold kd; omega)
  · obtain ⟨r, hr, he⟩ := Option.map_eq_some_iff.mp h2
    exact ⟨r, hr, he.symm⟩
theorem ex_at {o : Int} (h : o ≤ 0) : kd o = (exT.getD (-o).toNat (999, 0)).1 := by
  unfold kd ob
  rw [if_pos h]
theorem ex_big {i : Nat} (h : 24 ≤ i) : exT.getD i (999, 0) = (999, 0) := by
  rw [List.getD_eq_getElem?_getD, List.getElem?_eq_none (by show exT.length ≤ i; exact h)]
  rfl
theorem ex_int {o : Int} (h : o ≤ 0) (hk : kd o = 100) : ∃ j : Nat, j < 6 ∧ o = -(j : Int) - 1 := by
  rw [ex_at h] at hk
  have h2 : ∀ i, i < 24 → (exT.getD i (999, 0)).1 = 100 → 1 ≤ i ∧ i ≤ 6 := by decide +kernel
  by_cases hi : (-o).toNat < 24
  · have h3 := h2 _ hi hk
    exact ⟨(-o).toNat - 1, by omega, by omega⟩
  · rw [ex_big (by omega)] at hk
    cases hk
theorem ex_scr {o : Int} (hk : kd o = 99) : o = -7 := by
  by_cases h : o ≤ 0
  · rw [ex_at h] at hk
    have h2 : ∀ i, i < 24 → (exT.getD i (999, 0)).1 = 99 → i = 7 := by decide +kernel
    by_cases hi : (-o).toNat < 24
    · have h3 := h2 _ hi hk
      omega
    · rw [ex_big (by omega)] at hk
      cases hk
  · exfalso
    have hb : ∀ q : Nat × Int, (decide (q.1 ≠ 99)) = true → q.1 ≠ 99 := fun q h => of_decide_eq_true h
    revert hk
    apply hb
    unfold ob
    rw [if_neg h]
    have hsh : ∀ r, decide ((shK r).1 ≠ 99) = true := by
      intro r
      unfold shK
      repeat' first
        | exact (by decide +kernel)
        | refine ite_p (fun q => decide (Prod.fst q ≠ 99)) ?_ ?_
    split
    · decide +kernel
    · split
      · decide +kernel
      · split
        · exact hsh _
        · split
          · exact getD_all (p := fun q => decide (q.1 ≠ 99)) (d := (999, 0)) (by decide +kernel) obT (by decide +kernel) _
          · split
            · exact hsh _
            · decide +kernel
theorem ex_bt {o : Int} (h : o ≤ 0) (hk : kd o = 101 ∨ kd o = 102) : kd o = 101 ∧ ∃ j : Nat, j < 4 ∧ o = -(20 + (j : Int)) := by
  rw [ex_at h] at hk ⊢
  have h2 : ∀ i, i < 24 → ((exT.getD i (999, 0)).1 = 101 ∨ (exT.getD i (999, 0)).1 = 102) → (exT.getD i (999, 0)).1 = 101 ∧ 20 ≤ i := by decide +kernel
  by_cases hi : (-o).toNat < 24
  · have h3 := h2 _ hi hk
    exact ⟨h3.1, (-o).toNat - 20, by omega, by omega⟩
  · rw [ex_big (by omega)] at hk
    rcases hk with hk | hk <;> cases hk
theorem ex_cls {o : Int} (h : o ≤ 0) (hk : kd o < 50) : kd o = 14 ∧ ∃ j : Nat, j < 4 ∧ o = -(10 + (j : Int)) := by
  rw [ex_at h] at hk ⊢
  have h2 : ∀ i, i < 24 → (exT.getD i (999, 0)).1 < 50 → (exT.getD i (999, 0)).1 = 14 ∧ 10 ≤ i ∧ i < 14 := by decide +kernel
  by_cases hi : (-o).toNat < 24
  · have h3 := h2 _ hi hk
    exact ⟨h3.1, (-o).toNat - 10, by omega, by omega⟩
  · rw [ex_big (by omega)] at hk
    exact absurd hk (by decide)
theorem cellE_c {tc : Nat → ClassId} {adr : Int → Nat} {o : Int} {f : Int → Int} (h : kd o < 50) : cellE tc adr o f = .inr (kd o, (List.range (ln o).toNat).map fun (j : Nat) => fval adr (ft (kd o) j) (f j)) := if_pos h
theorem cellE_a {tc : Nat → ClassId} {adr : Int → Nat} {o : Int} {f : Int → Int} (h : ¬ kd o < 50) : cellE tc adr o f = .inl (tc (kd o), (ln o).toNat, acon adr (kd o) f) := if_neg h
theorem acon_i {adr : Int → Nat} {k : Nat} {f : Int → Int} (h : k < 104) : acon adr k f = .inl fun (j : Nat) => Int32.ofInt (f j) := by
  unfold acon
  rw [if_neg (by omega), if_pos (by omega)]
theorem acon_j {adr : Int → Nat} {f : Int → Int} : acon adr 104 f = .inr (.inl fun (j : Nat) => Int64.ofInt (f j)) := by
  unfold acon
  rw [if_pos rfl]
theorem acon_a {adr : Int → Nat} {k : Nat} {f : Int → Int} (h : 110 ≤ k) : acon adr k f = .inr (.inr (.inr (.inr fun (j : Nat) => rfo adr (f j)))) := by
  unfold acon
  rw [if_neg (by omega), if_neg (by omega)]
/-- addresses beyond the made ones don't count -/
theorem cellE_adr {tc : Nat → ClassId} {adr adr' : Int → Nat} {o n : Int} {f : Int → Int} (hr : ∀ j, rng n (kd o) j (f j)) (ha : ∀ x, x ≤ n → adr' x = adr x) : cellE tc adr' o f = cellE tc adr o f := by
  have hv : ∀ x, x ≤ n → rfv adr' x = rfv adr x := fun x hx => by unfold rfv; rw [ha x hx]
  have ho : ∀ x, x ≤ n → rfo adr' x = rfo adr x := fun x hx => by unfold rfo; rw [ha x hx]
  by_cases hc : kd o < 50
  · rw [cellE_c hc, cellE_c hc]
    congr 2
    apply List.map_congr_left
    intro j _
    unfold fval
    by_cases h1 : ft (kd o) j = 1
    · rw [if_pos h1, if_pos h1]
      have h2 := hr (j : Int)
      unfold rng at h2
      rw [if_pos hc, show ((j : Int)).toNat = j from rfl, if_pos h1] at h2
      exact hv _ h2
    · rw [if_neg h1, if_neg h1]
  · rw [cellE_a hc, cellE_a hc]
    congr 3
    unfold acon
    split
    · rfl
    · split
      · rfl
      · rename_i h1 h2
        congr 4
        funext j
        have h3 := hr (j : Int)
        unfold rng at h3
        rw [if_neg hc, if_neg (by omega), if_neg (by omega), if_neg (by omega), if_neg h1, if_neg h2] at h3
        exact ho _ h3
theorem wsOf_adr {X : Int → Int → Int} {Lx : Int} {tc : Nat → ClassId} {adr adr' : Int → Nat} {μ : Mem} (hg : RG X Lx μ) (ha : ∀ x, x ≤ μ 0 0 → adr' x = adr x) : wsOf tc adr' μ = wsOf tc adr μ := by
  unfold wsOf
  apply List.map_congr_left
  intro i hi
  have hi2 := List.mem_range.mp hi
  rw [ha _ (by omega), cellE_adr (fun j => hg.2.1 _ j (by omega) (by omega)) ha]
theorem tv_adr {adr adr' : Int → Nat} {n : Int} {v : SV} (hv : okv n v) (ha : ∀ x, x ≤ n → adr' x = adr x) : tv adr' v = tv adr v := by
  match v, hv with
  | .inl x, _ => rfl
  | .inr (.inl x), _ => rfl
  | .inr (.inr x), hv =>
    show rfv adr' x = rfv adr x
    unfold rfv
    rw [ha x hv]
theorem RG_wr {X : Int → Int → Int} {Lx : Int} {μ : Mem} {o i v : Int} (hg : RG X Lx μ) (h0 : 0 < o) (hr : rng (μ 0 0) (kd o) i v) : RG X Lx (wr μ o i v) := by
  have e0 : (wr μ o i v) 0 = μ 0 := wr_obj (by omega)
  refine ⟨by rw [e0]; exact hg.1, fun a j ha hb => ?_, fun a j ha => ?_, by rw [e0]; exact hg.2.2.2⟩
  · rw [e0] at hb ⊢
    by_cases h1 : a = o
    · subst h1
      by_cases h2 : j = i
      · subst h2
        rw [wr_same]
        exact hr
      · rw [wr_idx h2]
        exact hg.2.1 a j ha hb
    · rw [wr_obj h1]
      exact hg.2.1 a j ha hb
  · rw [wr_obj (by omega)]
    exact hg.2.2.1 a j ha
theorem wsOf_wr {tc : Nat → ClassId} {adr : Int → Nat} {μ : Mem} {o i v : Int} (h0 : 0 < o) (h1 : o ≤ μ 0 0) : (wsOf tc adr μ).set (o - 1).toNat (adr o, cellE tc adr o (wr μ o i v o)) = wsOf tc adr (wr μ o i v) :=
  wsOf_set h0 h1 (wr μ o i v) (by rw [wr_obj (by omega)]) (fun a ha => wr_obj ha)
theorem rng_0 {n : Int} (hn : 0 ≤ n) (k : Nat) (j : Int) : rng n k j 0 := by
  unfold rng
  repeat' split
  all_goals first | exact hn | exact Or.inl rfl | (constructor <;> decide) | exact r32_0 | exact ⟨by decide, by decide⟩
theorem rng_up {n n' : Int} (h : n ≤ n') {k : Nat} {j x : Int} (hr : rng n k j x) : rng n' k j x := by
  unfold rng at hr ⊢
  by_cases hc : k < 50
  · rw [if_pos hc] at hr ⊢
    by_cases h1 : ft k j.toNat = 1
    · rw [if_pos h1] at hr ⊢
      omega
    · rw [if_neg h1] at hr ⊢
      exact hr
  · rw [if_neg hc] at hr ⊢
    by_cases h1 : k = 101
    · rw [if_pos h1] at hr ⊢
      exact hr
    · rw [if_neg h1] at hr ⊢
      by_cases h2 : k = 102
      · rw [if_pos h2] at hr ⊢
        exact hr
      · rw [if_neg h2] at hr ⊢
        by_cases h3 : k = 103
        · rw [if_pos h3] at hr ⊢
          exact hr
        · rw [if_neg h3] at hr ⊢
          by_cases h4 : k = 104
          · rw [if_pos h4] at hr ⊢
            exact hr
          · rw [if_neg h4] at hr ⊢
            by_cases h5 : k < 110
            · rw [if_pos h5] at hr ⊢
              exact hr
            · rw [if_neg h5] at hr ⊢
              omega
