-- L4: the law's start in the small machine's world
/-- what the objects that nobody makes hold: tables, the script, texts -/
def X0 (xs : Nat → Int32) (o i : Int) : Int := if o = -1 then tbl hmT i else if o = -2 then tbl hasT i else if o = -3 then tbl sokT i else if o = -4 then tbl layT i else if o = -5 then tbl leaT i else if o = -6 then tbl greT i else if o = -7 then (xs i.toNat).toInt else if -13 ≤ o ∧ o ≤ -10 then (if i = 0 then o - 10 else 0) else if o = -20 then tbl ltT i else if o = -21 then tbl ltT (106 + i) else if o = -22 then tbl ltT (172 + i) else if o = -23 then tbl ltT (294 + i) else 0
/-- the memory before all -/
def M0 (xs : Nat → Int32) (L : Int) : Mem := fun o i => if o = 0 then (if i = 1 then L else 0) else if o < 0 then X0 xs o i else 0
theorem tbl_p {p : Int → Prop} {T : List Int} (h : ∀ x ∈ T, p x) (h0 : p 0) (i : Int) : p (tbl T i) := by
  unfold tbl
  rw [List.getD_eq_getElem?_getD]
  cases e : T[i.toNat]? with
  | none => exact h0
  | some x => exact h x (List.mem_of_getElem? e)
theorem lt_b (i : Int) : 0 ≤ tbl ltT i ∧ tbl ltT i ≤ 127 := tbl_p (p := fun x => 0 ≤ x ∧ x ≤ 127) (by decide +kernel) (by decide) i
theorem r_T {T : List Int} (h : ∀ x ∈ T, 0 ≤ x ∧ x ≤ 100000) (i : Int) : R32 (tbl T i) := by
  have := tbl_p (p := fun x => 0 ≤ x ∧ x ≤ 100000) h (by decide) i
  exact ⟨by omega, by omega⟩
theorem X0_r (xs : Nat → Int32) (o i : Int) : R32 (X0 xs o i) := by
  have hb : ∀ j, R32 (tbl ltT j) := fun j => by have := lt_b j; exact ⟨by omega, by omega⟩
  unfold X0
  by_cases h1 : o = -1
  · rw [if_pos h1]; exact r_T (by decide +kernel) i
  rw [if_neg h1]
  by_cases h2 : o = -2
  · rw [if_pos h2]; exact r_T (by decide +kernel) i
  rw [if_neg h2]
  by_cases h3 : o = -3
  · rw [if_pos h3]; exact r_T (by decide +kernel) i
  rw [if_neg h3]
  by_cases h4 : o = -4
  · rw [if_pos h4]; exact r_T (by decide +kernel) i
  rw [if_neg h4]
  by_cases h5 : o = -5
  · rw [if_pos h5]; exact r_T (by decide +kernel) i
  rw [if_neg h5]
  by_cases h6 : o = -6
  · rw [if_pos h6]; exact r_T (by decide +kernel) i
  rw [if_neg h6]
  by_cases h7 : o = -7
  · rw [if_pos h7]; exact i32_r _
  rw [if_neg h7]
  by_cases h8 : -13 ≤ o ∧ o ≤ -10
  · rw [if_pos h8]
    by_cases z : i = 0
    · rw [if_pos z]; exact ⟨by omega, by omega⟩
    · rw [if_neg z]; exact ⟨by decide, by decide⟩
  rw [if_neg h8]
  by_cases h9 : o = -20
  · rw [if_pos h9]; exact hb _
  rw [if_neg h9]
  by_cases h10 : o = -21
  · rw [if_pos h10]; exact hb _
  rw [if_neg h10]
  by_cases h11 : o = -22
  · rw [if_pos h11]; exact hb _
  rw [if_neg h11]
  by_cases h12 : o = -23
  · rw [if_pos h12]; exact hb _
  rw [if_neg h12]
  exact ⟨by decide, by decide⟩
theorem X0_x (xs : Nat → Int32) : X0 xs (-7) = fun i => (xs i.toNat).toInt := by
  funext i
  unfold X0
  rw [if_neg (by decide), if_neg (by decide), if_neg (by decide), if_neg (by decide), if_neg (by decide), if_neg (by decide), if_pos rfl]
theorem X0_20 {xs : Nat → Int32} {i : Int} : X0 xs (-20) i = tbl ltT (0 + i) := by
  rw [Int.zero_add]
  rfl
theorem X0_b {xs : Nat → Int32} : ∀ j i : Int, 20 ≤ j → j < 24 → -128 ≤ X0 xs (-j) i ∧ X0 xs (-j) i ≤ 127 := by
  intro j i a b
  have h : j = 20 ∨ j = 21 ∨ j = 22 ∨ j = 23 := by omega
  rcases h with rfl | rfl | rfl | rfl
  · have := lt_b i
    show -128 ≤ tbl ltT i ∧ tbl ltT i ≤ 127
    omega
  · have := lt_b (106 + i)
    show -128 ≤ tbl ltT (106 + i) ∧ tbl ltT (106 + i) ≤ 127
    omega
  · have := lt_b (172 + i)
    show -128 ≤ tbl ltT (172 + i) ∧ tbl ltT (172 + i) ≤ 127
    omega
  · have := lt_b (294 + i)
    show -128 ≤ tbl ltT (294 + i) ∧ tbl ltT (294 + i) ≤ 127
    omega
theorem X0_s {xs : Nat → Int32} : ∀ j : Int, 10 ≤ j → j < 14 → X0 xs (-j) 0 = -(j + 10) ∧ X0 xs (-j) 1 = 0 := by
  intro j a b
  have h : j = 10 ∨ j = 11 ∨ j = 12 ∨ j = 13 := by omega
  rcases h with rfl | rfl | rfl | rfl
  all_goals exact ⟨rfl, rfl⟩
theorem M0_n {xs : Nat → Int32} {L o : Int} (h : o < 0) : M0 xs L o = X0 xs o := by
  funext i
  unfold M0
  rw [if_neg (by omega), if_pos h]
theorem M0_0 {xs : Nat → Int32} {L : Int} : M0 xs L 0 0 = 0 := rfl
theorem M0_1 {xs : Nat → Int32} {L : Int} : M0 xs L 0 1 = L := rfl
theorem M0_z {xs : Nat → Int32} {L o j : Int} (h : 0 < o) : M0 xs L o j = 0 := by
  unfold M0
  rw [if_neg (by omega), if_neg (by omega)]
theorem M0_p (xs : Nat → Int32) (L : Int) : PRE (M0 xs L) := by
  have k : ∀ n : Nat, n < 4 → kd (-(10 + (n : Int))) = 14 ∧ kd (-(20 + (n : Int))) = 101 ∧ ln (-(20 + (n : Int))) ≤ 1000 := by decide +kernel
  refine ⟨⟨?_, ?_, ?_, ?_⟩, M0_0, fun i _ _ => rfl, fun i _ _ => rfl, fun i _ _ => rfl, fun i _ _ => rfl, fun i _ _ => rfl, fun i _ _ => rfl, fun o j h => M0_z h⟩
  · exact ⟨(k 0 (by decide)).1, by decide, by decide, (k 0 (by decide)).2.1, (k 0 (by decide)).2.2, rfl, rfl, fun j _ _ => by rw [M0_n (by decide), X0_20]⟩
  · exact ⟨(k 1 (by decide)).1, by decide, by decide, (k 1 (by decide)).2.1, (k 1 (by decide)).2.2, rfl, rfl, fun j _ _ => rfl⟩
  · exact ⟨(k 2 (by decide)).1, by decide, by decide, (k 2 (by decide)).2.1, (k 2 (by decide)).2.2, rfl, rfl, fun j _ _ => rfl⟩
  · exact ⟨(k 3 (by decide)).1, by decide, by decide, (k 3 (by decide)).2.1, (k 3 (by decide)).2.2, rfl, rfl, fun j _ _ => rfl⟩
theorem ln_t : (ln (-1)).toNat = hmT.length ∧ (ln (-2)).toNat = hasT.length ∧ (ln (-3)).toNat = sokT.length ∧ (ln (-4)).toNat = layT.length ∧ (ln (-5)).toNat = leaT.length ∧ (ln (-6)).toNat = greT.length := by decide +kernel
/-- all that is known at the law's entry -/
theorem kn_of {s : State} {b L : Nat} {xs : Nat → Int32} (hts : ∀ w ∈ lw_tbl, w.before #[Value.ref b] s = true) (hX : va_X b L xs s s.heap) (hb : b < s.heap.size) (hL : L ≤ 3072) (hh : HL s b) : ∃ P : Par, KN P s ∧ pX P = X0 xs ∧ pL P = (L : Int) ∧ pB P = s.heap.size ∧ pA P (-7) = b := by
  have hA : ∀ a : Nat, a < s.heap.size → ¬ AA s.heap.size a := fun a ha => Nat.not_le.mpr ha
  have tbm : ∀ {i : Nat} {w : Cond}, tables_1[i]? = some w → w.before #[Value.ref b] s = true := fun h => hts _ (tb_lw h)
  have iD := tbm (i := 1) (w := .initialized "LightDesk") (by decide +kernel)
  obtain ⟨a0, z0, t0⟩ := tb_of hh tw_0 (by decide) (tbm (i := 197) (by decide +kernel)) iD
  obtain ⟨a1, z1, t1⟩ := tb_of hh tw_1 (by decide) (tbm (i := 1023) (by decide +kernel)) iD
  obtain ⟨a2, z2, t2⟩ := tb_of hh tw_2 (by decide) (tbm (i := 931) (by decide +kernel)) iD
  obtain ⟨a3, z3, t3⟩ := tb_of hh tw_3 (by decide) (tbm (i := 1370) (by decide +kernel)) iD
  obtain ⟨a4, z4, t4⟩ := tb_of hh tw_4 (by decide) (tbm (i := 919) (by decide +kernel)) iD
  obtain ⟨a5, z5, t5⟩ := tb_of hh tw_5 (by decide) (tbm (i := 921) (by decide +kernel)) iD
  obtain ⟨s0, v0, e0, o0, c0, f0, w0⟩ := sq_of hh sw_0 (by decide)
  obtain ⟨s1, v1, e1, o1, c1, f1, w1⟩ := sq_of hh sw_1 (by decide)
  obtain ⟨s2, v2, e2, o2, c2, f2, w2⟩ := sq_of hh sw_2 (by decide)
  obtain ⟨s3, v3, e3, o3, c3, f3, w3⟩ := sq_of hh sw_3 (by decide)
  have hC : va_AO "LightDesk$Cue" s := va_AO.of (tbm (i := 43) (by decide +kernel))
  have hR : va_AO "LightDesk$Row" s := va_AO.of (tbm (i := 41) (by decide +kernel))
  have hS : va_AO "LightDesk$Show" s := va_AO.of (tbm (i := 189) (by decide +kernel))
  have hO : aoaW s := tbm (i := 39) (w := .arrayOver (.array .int)) (by decide +kernel)
  obtain ⟨D, tc, hK⟩ := vk_of hts hC hR hS hO
  have hcs : (Cond.eq (.static "java/lang/String" "COMPACT_STRINGS" "Z") (.int 1)).before #[Value.ref b] s = true := hh _ (List.mem_of_getElem? (show FLB[16]? = some _ by decide +kernel))
  have hZc : va_Z "java/lang/String" "COMPACT_STRINGS" "Z" (.int 1) (AA s.heap.size) s s.heap := va_Zof (tbm (i := 291) (by decide +kernel)) (tbm (i := 11) (by decide +kernel)) (va_eqi hcs) hA
  refine ⟨(D, tc, s.heap.size, X0 xs, (L : Int), fun o => if o = -1 then a0 else if o = -2 then a1 else if o = -3 then a2 else if o = -4 then a3 else if o = -5 then a4 else if o = -6 then a5 else if o = -7 then b else if o = -10 then s0 else if o = -11 then s1 else if o = -12 then s2 else if o = -13 then s3 else if o = -20 then v0 else if o = -21 then v1 else if o = -22 then v2 else if o = -23 then v3 else 0), ⟨fun w hw hn => ?_, hC, hR, hS, hO, hK, Nat.le_refl _, fun j r hj hr => ?_, fun j hj => ?_, hZc, ?_, ?_, by show (0 : Int) ≤ (L : Int); omega, by show (L : Int) < 2147483648; omega, X0_r xs, fun j hj => ?_, fun e r he hr => ?_, X0_b, X0_s⟩, rfl, rfl, rfl, rfl⟩
  · refine va_Nw.of ?_ (hts w hw)
    unfold isNest at hn
    split at hn
    · rfl
    · rfl
    · rfl
    · cases hn
  · have h6 : j = 0 ∨ j = 1 ∨ j = 2 ∨ j = 3 ∨ j = 4 ∨ j = 5 := by omega
    rcases h6 with rfl | rfl | rfl | rfl | rfl | rfl
    · cases hr; exact z0
    · cases hr; exact z1
    · cases hr; exact z2
    · cases hr; exact z3
    · cases hr; exact z4
    · cases hr; exact z5
  · have h6 : j = 0 ∨ j = 1 ∨ j = 2 ∨ j = 3 ∨ j = 4 ∨ j = 5 := by omega
    rcases h6 with rfl | rfl | rfl | rfl | rfl | rfl
    · show va_T .int a0 (ln (-1)).toNat _ _ _ _; rw [ln_t.1]; exact t0
    · show va_T .int a1 (ln (-2)).toNat _ _ _ _; rw [ln_t.2.1]; exact t1
    · show va_T .int a2 (ln (-3)).toNat _ _ _ _; rw [ln_t.2.2.1]; exact t2
    · show va_T .int a3 (ln (-4)).toNat _ _ _ _; rw [ln_t.2.2.2.1]; exact t3
    · show va_T .int a4 (ln (-5)).toNat _ _ _ _; rw [ln_t.2.2.2.2.1]; exact t4
    · show va_T .int a5 (ln (-6)).toNat _ _ _ _; rw [ln_t.2.2.2.2.2]; exact t5
  · show va_X b (L : Int).toNat (fun (j : Nat) => Int32.ofInt (X0 xs (-7) (j : Int))) s s.heap
    have e : (fun (j : Nat) => Int32.ofInt (X0 xs (-7) (j : Int))) = xs := by
      funext j
      rw [X0_x]
      exact i32_of (xs j)
    rw [e, Int.toNat_natCast]
    exact hX
  · show b < s.heap.size
    exact hb
  · have h4 : j = 0 ∨ j = 1 ∨ j = 2 ∨ j = 3 := by omega
    rcases h4 with rfl | rfl | rfl | rfl
    · refine ⟨o0, c0, f0, ?_⟩
      show va_T .byte v0 (ln (-20)).toNat (fun (i : Nat) => .int (Int32.ofInt (X0 xs (-20) (i : Int)))) _ _ _
      have e : (fun (i : Nat) => Value.int (Int32.ofInt (X0 xs (-20) (i : Int)))) = fun (i : Nat) => Value.int (Int32.ofInt (tbl ltT (0 + (i : Int)))) := by
        funext i
        rw [X0_20]
      rw [e, ln_20.1]
      exact w0
    · refine ⟨o1, c1, f1, ?_⟩
      show va_T .byte v1 (ln (-21)).toNat (fun (i : Nat) => .int (Int32.ofInt (tbl ltT (106 + (i : Int))))) _ _ _
      rw [ln_20.2.1]
      exact w1
    · refine ⟨o2, c2, f2, ?_⟩
      show va_T .byte v2 (ln (-22)).toNat (fun (i : Nat) => .int (Int32.ofInt (tbl ltT (172 + (i : Int))))) _ _ _
      rw [ln_20.2.2.1]
      exact w2
    · refine ⟨o3, c3, f3, ?_⟩
      show va_T .byte v3 (ln (-23)).toNat (fun (i : Nat) => .int (Int32.ofInt (tbl ltT (294 + (i : Int))))) _ _ _
      rw [ln_20.2.2.2]
      exact w3
  · unfold strT at he
    simp only [List.mem_cons, List.not_mem_nil, or_false] at he
    rcases he with rfl | rfl | rfl | rfl
    · cases hr; exact vk_R.of (tbm (i := 312) (by decide +kernel)) e0
    · cases hr; exact vk_R.of (tbm (i := 433) (by decide +kernel)) e1
    · cases hr; exact vk_R.of (tbm (i := 434) (by decide +kernel)) e2
    · cases hr; exact vk_R.of (tbm (i := 435) (by decide +kernel)) e3
