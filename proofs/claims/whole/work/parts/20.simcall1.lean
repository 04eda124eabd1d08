-- calls: behind a call; the kinds of link
theorem call_go {P : Par} {n k pc : Nat} {i : Instr} {c : Cd} {L : LV} {rest : List SV} {μ : Mem} {r r1 : Res} (ih : IHn P n) (hs : Sfx k ((pc, i) :: c)) (h : run n k c L (r1.1.toList ++ rest) r1.2 = some r) (hm1 : μ 0 0 ≤ r1.2 0 0) (hn : hdpc c = pc + 3)
    {p : Program} {l : Launch} {e : Env} {R : Room} {s : State} {m : MethodId} {args : Array Value} {below : List Frame} {meth : Method} {c0 : Code} {H : Heap} {locs : List Loc} {cells slots : Nat} {ls : Array Slot} {adr : Int → Nat} {Qc : Array Value → State → Outcome → State → Prop} {mc ms : Nat}
    (C : CX P k p s m args meth c0 R) (hW : WD P adr μ s H locs) (hL : LR adr (μ 0 0) (miL (mi k)) L ls) (hS : ∀ v ∈ rest, okv (μ 0 0) v) (hR : RM μ r R cells slots mc ms) (hq : hQ P adr μ r s args Qc)
    {st0 : List Value} {a : Array Value} (hrun : va_Run p l e R s m args below meth c0 H locs cells slots (nO r1.2 - nO μ) (sl (nO r1.2) - sl (nO μ)) (F0 m pc ls st0) (rest.map (tv adr)) (QcK P adr μ r1 a) (AA (pB P))) :
    W p l e R s m args below meth c0 H locs cells slots (MQ below Qc args s mc ms (AA (pB P))) (F0 m pc ls st0) := by
  intro T hT X
  obtain ⟨v, st₀, t, T', L', h0, X', hL', e1, e2, ⟨⟨adr', g1, g2, g3, g4, g5, g6⟩, hz, hk⟩, stp⟩ := hrun T hT X
  have hv : v = r1.1.map (tv adr') := by injection g2
  subst hv
  rw [h0] at hz hk
  have hS3 := hW.2.2.1
  have hnn := hW.2.2.2.1.1
  have hm2 := run_mono _ _ _ _ _ _ _ h
  have hno : nO μ ≤ nO r1.2 := by unfold nO; omega
  have hsl := sl_mono hno
  obtain ⟨r1a, r2a, r3a, r4a, r5a⟩ := hR
  have hVS : va_S (AA (pB P)) s.heap T'.heap (locs ++ L') := ⟨Nat.le_trans hS3.1 (by rw [e1]; exact hz), fun q q1 q2 => by
      rw [e1, hk q (Nat.lt_of_lt_of_le q1 hS3.1) q2]
      exact hS3.2.1 q q1 q2, fun q hq2 => by
      rcases List.mem_append.mp hq2 with h3 | h3
      · exact hS3.2.2 q h3
      · exact hL' q h3⟩
  have hst : ∀ w ∈ r1.1.toList ++ rest, okv (r1.2 0 0) w := by
    intro w hw
    rcases List.mem_append.mp hw with h3 | h3
    · cases hr1 : r1.1 with
      | none => rw [hr1] at h3; cases h3
      | some x =>
        rw [hr1] at h3 g6
        have : w = x := by simpa using h3
        subst this
        exact g6
    · exact okv_up hm1 (hS w h3)
  have K := ih _ _ _ _ _ _ h hs.tail p l e R s m args below meth c0 T'.heap (locs ++ L') (cells + (nO r1.2 - nO μ)) (slots + (sl (nO r1.2) - sl (nO μ))) ls adr' Qc mc ms C
    ⟨by rw [e1]; exact g3, g4, hVS, g5, fun o ho => by rw [g1 o (by omega)]; exact hW.2.2.2.2 o ho⟩ (LR_up hm1 g1 hL) hst ⟨hm2, by omega, by omega, r4a, r5a⟩
    (fun adr'' t2 k1 => hq adr'' t2 (fun o ho => by rw [k1 o (by omega)]; exact g1 o ho))
  rw [hn] at K
  obtain ⟨t2, a1, b1⟩ := K T' rfl X'
  refine ⟨t2, stp t2 ?_, b1⟩
  have e3 : (r1.1.toList ++ rest).map (tv adr') = (r1.1.map (tv adr')).toList ++ rest.map (tv adr) := by
    rw [List.map_append, map_up hS g1]
    cases r1.1 <;> rfl
  rw [e3] at a1
  exact a1
theorem cats_eq (adr : Int → Nat) : ∀ st : List SV, ((st.map (tv adr)).map fun v => v.category).sum = cats st
  | [] => rfl
  | .inl x :: st => by
    have ih := cats_eq adr st
    unfold cats at ih ⊢
    simp only [List.map_cons, List.sum_cons, ih]
    rfl
  | .inr (.inl x) :: st => by
    have ih := cats_eq adr st
    unfold cats at ih ⊢
    simp only [List.map_cons, List.sum_cons, ih]
    rfl
  | .inr (.inr x) :: st => by
    have ih := cats_eq adr st
    have hc : (tv adr (.inr (.inr x))).category = 1 := rfv_cat adr x
    unfold cats at ih ⊢
    simp only [List.map_cons, List.sum_cons, ih, hc]
    rfl
theorem st_split (st : List SV) (n : Nat) : st = ((st.take n).reverse).reverse ++ st.drop n := by
  rw [List.reverse_reverse, List.take_append_drop]
theorem words_go {P : Par} {k k' : Nat} {p : Program} {s : State} {m : MethodId} {args : Array Value} {meth : Method} {c0 : Code} {R : Room} (C : CX P k p s m args meth c0 R) (hm : mi k' ∈ MIs) (hl : (miY (mi k')).cls ≠ "LightDeskLaw") : ∀ w ∈ wsK k', ∀ (a' : Array Value) (U : State), s.WarmedH U.vm → w.before a' U = true := by
  intro w hw a' U hU
  have h1 : w ∈ Tg := by
    rcases List.mem_cons.mp hw with rfl | h
    · exact code_Tg hm hl
    · exact h
  exact word_at hU (good_of_word (List.mem_filter.mp h1).2) (C.2.2.2.2.1 w h1)
theorem parN_spec {y : MethodName} {n : Nat} (h : parN y n = true) : ∀ sig, parseMethodDescriptor y.desc = some sig → n = sig.parameters.length := by
  intro sig hsig
  have h1 := of_decide_eq_true h
  rw [hsig] at h1
  exact (Option.some.inj h1).symm
theorem notMH_spec {y : MethodName} (h : notMH y = true) : y.cls ≠ "java/lang/invoke/MethodHandle" ∧ y.cls ≠ "java/lang/invoke/VarHandle" := of_decide_eq_true h
theorem PcK_go {P : Par} {k : Nat} {p : Program} {s : State} {m : MethodId} {args : Array Value} {meth : Method} {c0 : Code} {R : Room} {adr : Int → Nat} {μ : Mem} {H : Heap} {locs : List Loc} {vs : List SV} {a : Array Value} (C : CX P k p s m args meth c0 R) (hW : WD P adr μ s H locs) (ha : a = (vs.map (tv adr)).toArray) : ∀ U : State, U.heap = H → s.WarmedH U.vm → PcK P adr μ vs a U := by
  intro U hU hWm
  refine ⟨ha, by rw [hU]; exact hW.1, hW.2.1, KN_go hWm (by rw [hU]; exact hW.2.2.1.1) (fun q q1 q2 => by rw [hU]; exact hW.2.2.1.2.1 q q1 q2) C.kn⟩
/-- the receiver -/
theorem recv_go {P : Par} {k : Nat} {p : Program} {s : State} {m : MethodId} {args : Array Value} {meth : Method} {c0 : Code} {R : Room} {adr : Int → Nat} {μ : Mem} {H : Heap} {locs : List Loc} {o : Int} {v : Nat} {cn : String} (C : CX P k p s m args meth c0 R) (hW : WD P adr μ s H locs) (ho : o ≤ μ 0 0) (h0 : o ≠ 0) (hk : kd o = v) (hc : (cls[v]?.map (fun r => r.1)) = some cn) :
    ∃ cellB : Cell, H[adr o]? = some cellB ∧ cellB.vm.isStatics = false ∧ s.vm.findClass cn = some cellB.cls := by
  obtain ⟨r2, hr2, hcn⟩ := Option.map_eq_some_iff.mp hc
  have hc15 := cls_lt hr2
  by_cases hp : 0 < o
  · have hws := wsOf_at (tc := pT P) (adr := adr) hp ho
    rw [cellE_c (by omega), hk] at hws
    have h1 := va_recv C.kn.vk hW.1 hr2 hws
    rw [hcn] at h1
    exact h1
  · obtain ⟨h14, j, hj, rfl⟩ := ex_cls (o := o) (by omega) (by omega)
    have hv : v = 14 := by omega
    subst hv
    cases hr2
    subst hcn
    have h1 := (C.kn.str j hj).1
    have h2 := h1.kept (H1 := H) (fun q q1 q2 => hW.2.2.1.2.1 q q1 q2)
    obtain ⟨cell, q1, q2, q3, -⟩ := h2
    rw [hW.2.2.2.2 _ (by omega)]
    exact ⟨cell, q1, q2, q3⟩
