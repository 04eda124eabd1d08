-- L4: what the Statement gives of the start: statics, texts, classes
def FLB : List Cond := flatC (Jvm.Cond.and given_1 narrow_1)
def HL (s : State) (b : Nat) : Prop := ∀ w ∈ FLB, w.before #[Value.ref b] s = true
def tbW (nm : String) (T : List Int) : List Cond := Cond.arrayOf (.static "LightDesk" nm "[I") .int :: Cond.eq (.length (.static "LightDesk" nm "[I")) (.int (Int32.ofNat T.length)) :: (List.range T.length).map fun j => Cond.eq (.elem (.static "LightDesk" nm "[I") (.int (Int32.ofNat j))) (.int (Int32.ofInt (tbl T (j : Int))))
theorem tw_0 : (FLB.drop 5).take 11 = tbW "HOME" hmT := by decide +kernel
theorem tw_1 : (FLB.drop 86).take 11 = tbW "HAS" hasT := by decide +kernel
theorem tw_2 : (FLB.drop 74).take 11 = tbW "SLOTS_OF_KIND" sokT := by decide +kernel
theorem tw_3 : (FLB.drop 98).take 74 = tbW "LAYOUT" layT := by decide +kernel
theorem tw_4 : (FLB.drop 22).take 25 = tbW "LEAST" leaT := by decide +kernel
theorem tw_5 : (FLB.drop 48).take 25 = tbW "GREATEST" greT := by decide +kernel
theorem seg_mem {k n : Nat} {l : List Cond} (h : (FLB.drop k).take n = l) {w : Cond} (hw : w ∈ l) : w ∈ FLB := by
  rw [← h] at hw
  exact List.mem_of_mem_drop (List.mem_of_mem_take hw)
theorem tb_of {s : State} {b k n : Nat} {nm : String} {T : List Int} (h : HL s b) (hw : (FLB.drop k).take n = tbW nm T) (hN : T.length < 1000) (hl : (Cond.laysStatic "LightDesk" nm "[I").before #[Value.ref b] s = true) (hi : (Cond.initialized "LightDesk").before #[Value.ref b] s = true) : ∃ t : Nat, va_Z "LightDesk" nm "[I" (.ref t) (AA s.heap.size) s s.heap ∧ va_T .int t T.length (fun (i : Nat) => .int (Int32.ofInt (tbl T (i : Int)))) (AA s.heap.size) s s.heap := by
  have hA : ∀ a : Nat, a < s.heap.size → ¬ AA s.heap.size a := fun a ha => Nat.not_le.mpr ha
  obtain ⟨t, e1, e2⟩ := va_Tof (ty := .int) (N := T.length) (f := fun (i : Nat) => .int (Int32.ofInt (tbl T (i : Int)))) (A := AA s.heap.size) (by omega) (h _ (seg_mem hw List.mem_cons_self)) (va_eqt (h _ (seg_mem hw (List.mem_cons_of_mem _ List.mem_cons_self)))) (fun j hj => va_eqt (h _ (seg_mem hw (List.mem_cons_of_mem _ (List.mem_cons_of_mem _ (List.mem_map.mpr ⟨j, List.mem_range.mpr hj, rfl⟩)))))) hA
  exact ⟨t, va_Zref hl hi e1 hA, e2⟩
def sqW (k N : Nat) (q : Int) : List Cond := Cond.exactly (.string "LightDesk$Words" k) "java/lang/String" :: Cond.eq (.field (.string "LightDesk$Words" k) "java/lang/String" "coder" "B") (.int 0) :: Cond.arrayOf (.field (.string "LightDesk$Words" k) "java/lang/String" "value" "[B") .byte :: Cond.eq (.length (.field (.string "LightDesk$Words" k) "java/lang/String" "value" "[B")) (.int (Int32.ofNat N)) :: (List.range N).map fun j => Cond.eq (.elem (.field (.string "LightDesk$Words" k) "java/lang/String" "value" "[B") (.int (Int32.ofNat j))) (.int (Int32.ofInt (tbl ltT (q + (j : Int)))))
theorem sw_0 : (FLB.drop 214).take 110 = sqW 18 106 0 := by decide +kernel
theorem sw_1 : (FLB.drop 324).take 70 = sqW 24 66 106 := by decide +kernel
theorem sw_2 : (FLB.drop 395).take 126 = sqW 26 122 172 := by decide +kernel
theorem sw_3 : (FLB.drop 523).take 90 = sqW 28 86 294 := by decide +kernel
theorem sq_of {s : State} {b k n idx N : Nat} {q : Int} (h : HL s b) (hw : (FLB.drop k).take n = sqW idx N q) (hN : N < 1000) : ∃ a v : Nat, (Term.string "LightDesk$Words" idx).eval #[Value.ref b] s none [] s = some (.ref a) ∧ va_O "java/lang/String" a (AA s.heap.size) s s.heap ∧ va_OF "java/lang/String" "coder" "B" (.int 0) a (AA s.heap.size) s s.heap ∧ va_OF "java/lang/String" "value" "[B" (.ref v) a (AA s.heap.size) s s.heap ∧ va_T .byte v N (fun (i : Nat) => .int (Int32.ofInt (tbl ltT (q + (i : Int))))) (AA s.heap.size) s s.heap := by
  have hA : ∀ a : Nat, a < s.heap.size → ¬ AA s.heap.size a := fun a ha => Nat.not_le.mpr ha
  have m0 := h _ (seg_mem hw List.mem_cons_self)
  have m1 := h _ (seg_mem hw (List.mem_cons_of_mem _ List.mem_cons_self))
  have m2 := h _ (seg_mem hw (List.mem_cons_of_mem _ (List.mem_cons_of_mem _ List.mem_cons_self)))
  have m3 := h _ (seg_mem hw (List.mem_cons_of_mem _ (List.mem_cons_of_mem _ (List.mem_cons_of_mem _ List.mem_cons_self))))
  obtain ⟨a, c, cA, kA, q1, -⟩ := Cond.exactly_spec (args := #[Value.ref b]) (first := s) (o := none) (s := s) (idx := []) (t := Term.string "LightDesk$Words" idx) (cls := "java/lang/String") m0
  obtain ⟨v, e1, e2⟩ := va_Tof (ty := .byte) (N := N) (f := fun (i : Nat) => .int (Int32.ofInt (tbl ltT (q + (i : Int))))) (A := AA s.heap.size) (by omega) m2 (va_eqt m3) (fun j hj => va_eqt (h _ (seg_mem hw (List.mem_cons_of_mem _ (List.mem_cons_of_mem _ (List.mem_cons_of_mem _ (List.mem_cons_of_mem _ (List.mem_map.mpr ⟨j, List.mem_range.mpr hj, rfl⟩)))))))) hA
  exact ⟨a, v, q1, va_Oof m0 q1 hA, vk_OFof q1 (va_eqt m1) hA, vk_OFof q1 e1 hA, e2⟩
-- classes
def instP : List Nat := [624, 71, 641, 191, 587, 50, 657, 33, 237, 525, 276, 25, 1471, 282, 441]
theorem inst_ok : ∀ k : Nat, k < 15 → ∃ r, cls[k]? = some r ∧ tables_1[instP.getD k 9999]? = some (.instantiable r.1 r.2.2) := by
  intro k hk
  have h : ∀ k : Nat, k < 15 → (cls[k]?.map fun r => Cond.instantiable r.1 r.2.2) = tables_1[instP.getD k 9999]? ∧ (cls[k]?).isSome = true := by decide +kernel
  obtain ⟨h1, h2⟩ := h k hk
  obtain ⟨r, hr⟩ := Option.isSome_iff_exists.mp h2
  rw [hr] at h1
  exact ⟨r, hr, h1.symm⟩
theorem tb_lw {i : Nat} {w : Cond} (h : tables_1[i]? = some w) : w ∈ lw_tbl := List.mem_append_right _ (List.mem_of_getElem? h)
theorem cls_of {s : State} {b : Nat} (hts : ∀ w ∈ lw_tbl, w.before #[Value.ref b] s = true) : ∃ D : va_G, ∀ (c : Nat) (q : vw_C), cls[c]? = some q → u_Kn s q.1 q.2.1 q.2.2 (D.1 c) (D.2 c) := by
  have h : ∀ k : Nat, ∃ x : ClassId × (Nat → Nat), ∀ r, cls[k]? = some r → u_Kn s r.1 r.2.1 r.2.2 x.1 x.2 := by
    intro k
    by_cases hk : k < 15
    · obtain ⟨r, hr, hi⟩ := inst_ok k hk
      obtain ⟨c, iS, hK⟩ := u_known (C := r.1) (T := r.2.1) (N := r.2.2) (n := r.2.2) hts (lays_in r (List.mem_of_getElem? hr)) (hts _ (tb_lw hi))
      refine ⟨(c, iS), fun r' hr' => ?_⟩
      rw [hr] at hr'
      cases hr'
      exact hK
    · refine ⟨(0, fun _ => 0), fun r hr => ?_⟩
      have := (List.getElem?_eq_some_iff.mp hr).1
      exact absurd this hk
  obtain ⟨f, hf⟩ := Classical.axiomOfChoice h
  exact ⟨(fun k => (f k).1, fun k => (f k).2), fun c q hq => hf c q hq⟩
theorem arr_p {s : State} {b : Nat} {ty : FieldType} (h : (Cond.arrayClass ty).before #[Value.ref b] s = true) (hR : ∀ c, s.vm.findClass ("[" ++ ty.toString) = some c → va_RA s c ty) : ∃ c, ArrOfT s c ty ∧ va_RA s c ty := by
  obtain ⟨c, k, comp, h1, h2, h3⟩ := Cond.arrayClass_spec h
  exact ⟨c, fun n z => ⟨fun k h => (by cases h), k, h2, comp, h3⟩, hR c h1⟩
theorem arr_o {s : State} {C : String} (h : va_AO C s) : ∃ c, ArrOfT s c (.object C) ∧ va_RA s c (.object C) := by
  obtain ⟨comp, c, k, h1, h2, h3, h4, h5⟩ := Cond.arrayOver_spec h
  exact ⟨c, fun n z => ⟨fun k h => (by cases h), k, h3, comp, h4⟩, k, comp, h3, h4, h1, h5⟩
theorem arr_a {s : State} (h : aoaW s) : ∃ c, ArrOfT s c (.array .int) ∧ va_RA s c (.array .int) := by
  obtain ⟨comp, c, k, h1, h2, h3, h4, h5⟩ := Jvm.Stand.arrayOver_specB h
  exact ⟨c, fun n z => ⟨fun k h => (by cases h), k, h3, comp, h4⟩, h5⟩
theorem vk_of {s : State} {b : Nat} (hts : ∀ w ∈ lw_tbl, w.before #[Value.ref b] s = true) (hC : va_AO "LightDesk$Cue" s) (hR : va_AO "LightDesk$Row" s) (hS : va_AO "LightDesk$Show" s) (hA : aoaW s) : ∃ (D : va_G) (tc : Nat → ClassId), va_K D cls (tysL tc) s := by
  obtain ⟨D, hD⟩ := cls_of hts
  have w0 := hts (.arrayClass .int) (tb_lw (i := 70) (by decide +kernel))
  have w1 := hts (.arrayClass .byte) (tb_lw (i := 69) (by decide +kernel))
  have w2 := hts (.arrayClass .boolean) (tb_lw (i := 274) (by decide +kernel))
  have w3 := hts (.arrayClass .char) (tb_lw (i := 523) (by decide +kernel))
  have w4 := hts (.arrayClass .long) (tb_lw (i := 1671) (by decide +kernel))
  obtain ⟨c0, a0⟩ := arr_p w0 (fun c h => h)
  obtain ⟨c1, a1⟩ := arr_p w1 (fun c h => h)
  obtain ⟨c2, a2⟩ := arr_p w2 (fun c h => h)
  obtain ⟨c3, a3⟩ := arr_p w3 (fun c h => h)
  obtain ⟨c4, a4⟩ := arr_p w4 (fun c h => h)
  obtain ⟨c5, a5⟩ := arr_a hA
  obtain ⟨c6, a6⟩ := arr_o hC
  obtain ⟨c7, a7⟩ := arr_o hR
  obtain ⟨c8, a8⟩ := arr_o hS
  refine ⟨D, fun k => if k = 100 then c0 else if k = 101 then c1 else if k = 102 then c2 else if k = 103 then c3 else if k = 104 then c4 else if k = 110 then c5 else if k = 121 then c6 else if k = 125 then c7 else c8, hD, fun k q hq => ?_⟩
  have hk : k < 9 := (List.getElem?_eq_some_iff.mp hq).1
  have h9 : k = 0 ∨ k = 1 ∨ k = 2 ∨ k = 3 ∨ k = 4 ∨ k = 5 ∨ k = 6 ∨ k = 7 ∨ k = 8 := by omega
  rcases h9 with rfl | rfl | rfl | rfl | rfl | rfl | rfl | rfl | rfl
  · cases hq; exact a0
  · cases hq; exact a1
  · cases hq; exact a2
  · cases hq; exact a3
  · cases hq; exact a4
  · cases hq; exact a5
  · cases hq; exact a6
  · cases hq; exact a7
  · cases hq; exact a8
