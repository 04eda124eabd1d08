-- the StringBuilder's links
theorem same_at {P : Par} {k : Nat} {p : Program} {s : State} {m : MethodId} {args : Array Value} {meth : Method} {c0 : Code} {R : Room} (C : CX P k p s m args meth c0 R) {y : MethodName} (h : isSame y = true) : (Cond.sameMethod y.cls y.cls y.name y.desc).before args s = true := by
  unfold isSame at h
  obtain ⟨q, -, hq⟩ := List.any_eq_true.mp h
  exact C.2.2.2.2.1 _ (tb_mem (of_decide_eq_true hq) rfl)
theorem asbLen_code : Cond.code asbLen (miB m_362) (miL m_362) (miR m_362) ∈ Tg := List.mem_filter.mpr ⟨cw_all m_362 (List.mem_of_getElem? (i := 362) (show MIs[362]? = some m_362 from rfl)) (by decide +kernel), rfl⟩
theorem sel_priv {P : Par} {k : Nat} {p : Program} {s : State} {m : MethodId} {args : Array Value} {meth : Method} {c0 : Code} {R : Room} (C : CX P k p s m args meth c0 R) {y : MethodName} (hc : y.cls = "java/lang/AbstractStringBuilder") (hy : y.cls ≠ "java/lang/invoke/MethodHandle" ∧ y.cls ≠ "java/lang/invoke/VarHandle") (hpriv : (Cond.privateMethod y).before args s = true) (hinst : (Cond.instanceMethod y).before args s = true) : (Cond.selects "java/lang/StringBuilder" y y).before args s = true := by
  have h0 : (Cond.selects "java/lang/StringBuilder" ⟨"java/lang/AbstractStringBuilder", "isLatin1", "()Z"⟩ ⟨"java/lang/AbstractStringBuilder", "isLatin1", "()Z"⟩).before args s = true := C.2.2.2.2.1 _ (List.mem_filter.mpr ⟨List.mem_of_getElem? (i := 558) (by decide +kernel), rfl⟩)
  obtain ⟨c, r0, m0, hcl, -, hn0, -, k0, hk0, hi0⟩ := Cond.selects_spec h0
  obtain ⟨mk, methM, hnamed, hmethM, -, -⟩ := Cond.instanceMethod_spec hinst
  have hfound : s.methodFound? y.cls y.name y.desc = some mk := State.methodFound?_of_named hnamed hy
  have hcls : mk.cls = m0.cls := by
    have h1 := findClass_of_methodNamed hnamed
    have h2 := findClass_of_methodNamed hn0
    rw [hc] at h1
    exact Option.some.inj (h1.symm.trans h2)
  have hsel : selectMethod {} s.vm c mk = .method mk := selectMethod_private hmethM (Cond.privateMethod_at hpriv mk methM hnamed hmethM)
  simp only [Cond.before, Cond.holds, Cond.value, hcl, hfound, hnamed, hsel, hcls, hk0]
  simp
  exact hi0
theorem c_six {P : Par} {n k pc k' : Nat} {c : Cd} {L : LV} {μ : Mem} {r r1 : Res} {vs rest : List SV}
    {p : Program} {l : Launch} {e : Env} {R : Room} {s : State} {m : MethodId} {args : Array Value} {below : List Frame} {meth : Method} {c0 : Code} {H : Heap} {locs : List Loc} {cells slots : Nat} {ls : Array Slot} {adr : Int → Nat} {Qc : Array Value → State → Outcome → State → Prop} {mc ms : Nat}
    (ih : IHn P n) (hs : Sfx k ((pc, .invokevirtual k') :: c)) (hv1 : run n k' (codeOf k') (padL (miL (mi k')) (entL vs)) [] μ = some r1) (hv2 : run n k c L (r1.1.toList ++ rest) r1.2 = some r) (hlen : vs.length = miN (mi k')) (hcat : cats rest ≤ 8) (hrcv : rcvOK (miV (mi k')) vs = true) (hent : (entL vs).length ≤ miL (mi k'))
    {e2 : IE} (he : e2 ∈ invT) (q1 : e2.1 = miO (mi k)) (q3 : e2.2.2.2.1 = k') (hd : decode (miB (mi k)) pc = .ok (.invokevirtual e2.2.1, 3)) (hn : hdpc c = pc + 3) (hkd : e2.2.2.2.2.1 = 6 ∨ e2.2.2.2.2.1 = 8 ∨ e2.2.2.2.2.1 = 10)
    (C : CX P k p s m args meth c0 R) (hW : WD P adr μ s H locs) (hL : LR adr (μ 0 0) (miL (mi k)) L ls) (hS : ∀ v ∈ vs.reverse ++ rest, okv (μ 0 0) v) (hR : RM μ r R cells slots mc ms) (hq : hQ P adr μ r s args Qc) :
    W p l e R s m args below meth c0 H locs cells slots (MQ below Qc args s mc ms (AA (pB P))) (F0 m pc ls ((vs.reverse ++ rest).map (tv adr))) := by
  obtain ⟨hv, hr⟩ := ok_app hS
  have hmem := (mi_ne hv1).2.1
  have hlaw := law_only k' (by rw [← q3]; exact inv_k0 e2 he)
  have hm1 := run_mono _ _ _ _ _ _ _ hv1
  have hm2 := run_mono _ _ _ _ _ _ _ hv2
  have hnn := hW.2.2.2.1.1
  have hrm := rm_at hs
  simp only [rmI, decide_eq_true_eq] at hrm
  have hok := inv_ok e2 he
  obtain ⟨o2, idx, w2, kk, kind, p1, p2, p3⟩ := e2
  simp only at q1 q3 hd hkd
  subst q1 q3
  have hM := met_of ih hv1 hent l (adr := adr) hW.2.2.2.1 hv hW.2.2.2.2
  have hcb := cB_go C hmem hlaw hrm (nO r1.2 - nO μ) (sl (nO r1.2) - sl (nO μ))
  have hroom := room_go hnn hm1 hm2 hR
  rcases hkd with rfl | rfl | rfl
  · simp only [okV, Bool.and_eq_true, decide_eq_true_eq] at hok
    obtain ⟨⟨⟨⟨⟨⟨⟨⟨x1, x2⟩, x3⟩, x4⟩, x5⟩, x6⟩, x7⟩, x8⟩, x9⟩ := hok
    rw [x8] at hrcv
    obtain ⟨o, as, rfl, ho0, hko⟩ := rcv_spec hrcv (by decide)
    have hoo : o ≤ μ 0 0 := hv _ List.mem_cons_self
    rw [stk_go o as rest ho0]
    refine call_go ih hs hv2 hm1 hn C hW hL hr hR hq (va_runU (x := (miY (mi kk))) (owner := (miY (mi kk)).cls) (C := "java/lang/StringBuilder") (As := as.map (tv adr)) (Ts := Tg) ⟨C.1, C.2.1, C.2.2.1, C.2.2.2.1, C.2.2.2.2.1⟩ hM (n := miN (mi kk) - 1) ⟨hcb, C.2.2.2.2.1 _ (code_Tg hmem hlaw), C.2.2.2.2.1 _ (tb_mem (of_decide_eq_true x7) rfl), notMH_spec x1, parN_spec x2, C.2.2.2.2.1 _ (tb_mem x4 rfl), same_at C x9, va_Decl.of (C.2.2.2.2.1 _ (tb_mem x5 rfl)) (C.2.2.2.2.1 _ (code_Tg hmem hlaw)), C.2.2.2.2.1 _ (List.mem_filter.mpr ⟨List.mem_of_getElem? x6, rfl⟩), C.2.2.2.2.1 _ (tb_mem x5 rfl)⟩
      ⟨blindK P adr μ (vA o :: as), recv_go C hW hoo ho0 hko (show (cls[13]?.map (fun r => r.1)) = some "java/lang/StringBuilder" from rfl), PcK_go C hW (by rw [List.map_cons, show tv adr (vA o) = .ref (adr o) from if_neg ho0])⟩ rfl (by rw [List.length_map]; simp only [List.length_cons] at hlen; omega) hL.2.1 rfl (lv_room (by rw [cats_eq]; exact hcat)) hd hroom)
  · simp only [okV, Bool.and_eq_true, decide_eq_true_eq] at hok
    obtain ⟨⟨⟨⟨⟨⟨⟨⟨⟨x1, x2⟩, x3⟩, x4⟩, x5⟩, x6⟩, x7⟩, x8⟩, x9⟩, x10⟩ := hok
    rw [x8] at hrcv
    obtain ⟨o, as, rfl, ho0, hko⟩ := rcv_spec hrcv (by decide)
    have hoo : o ≤ μ 0 0 := hv _ List.mem_cons_self
    rw [stk_go o as rest ho0]
    refine call_go ih hs hv2 hm1 hn C hW hL hr hR hq (va_runU (x := (miY (mi kk))) (owner := (miY (mi kk)).cls) (C := "java/lang/StringBuilder") (As := as.map (tv adr)) (Ts := Tg) ⟨C.1, C.2.1, C.2.2.1, C.2.2.2.1, C.2.2.2.2.1⟩ hM (n := miN (mi kk) - 1) ⟨hcb, C.2.2.2.2.1 _ (code_Tg hmem hlaw), C.2.2.2.2.1 _ (tb_mem (of_decide_eq_true x7) rfl), notMH_spec x1, parN_spec x2, C.2.2.2.2.1 _ (tb_mem x4 rfl), same_at C x9, va_Decl.of (C.2.2.2.2.1 _ (tb_mem x5 rfl)) (C.2.2.2.2.1 _ (code_Tg hmem hlaw)), sel_priv C x10 (notMH_spec x1) (va_Nw.use rfl (C.kn.nest _ (List.mem_append_right _ (List.mem_of_getElem? x6)) rfl)) (C.2.2.2.2.1 _ (tb_mem x5 rfl)), C.2.2.2.2.1 _ (tb_mem x5 rfl)⟩
      ⟨blindK P adr μ (vA o :: as), recv_go C hW hoo ho0 hko (show (cls[13]?.map (fun r => r.1)) = some "java/lang/StringBuilder" from rfl), PcK_go C hW (by rw [List.map_cons, show tv adr (vA o) = .ref (adr o) from if_neg ho0])⟩ rfl (by rw [List.length_map]; simp only [List.length_cons] at hlen; omega) hL.2.1 rfl (lv_room (by rw [cats_eq]; exact hcat)) hd hroom)
  · simp only [okV, Bool.and_eq_true, decide_eq_true_eq] at hok
    obtain ⟨⟨⟨⟨⟨⟨x2, x3⟩, x4⟩, x5⟩, x6⟩, x7⟩, x8⟩ := hok
    rw [x8] at hrcv
    obtain ⟨o, as, rfl, ho0, hko⟩ := rcv_spec hrcv (by decide)
    have hoo : o ≤ μ 0 0 := hv _ List.mem_cons_self
    rw [stk_go o as rest ho0]
    refine call_go ih hs hv2 hm1 hn C hW hL hr hR hq (va_runU (x := asbLen) (owner := "java/lang/AbstractStringBuilder") (C := "java/lang/StringBuilder") (As := as.map (tv adr)) (Ts := Tg) ⟨C.1, C.2.1, C.2.2.1, C.2.2.2.1, C.2.2.2.2.1⟩ hM (n := miN (mi kk) - 1) ⟨hcb, C.2.2.2.2.1 _ (code_Tg hmem hlaw), C.2.2.2.2.1 _ (tb_mem (of_decide_eq_true x7) rfl), by decide, parN_spec x2, C.2.2.2.2.1 _ (tb_mem x4 rfl), same_at C (by decide +kernel), va_Decl.of (C.2.2.2.2.1 _ (tb_mem (i := 455) (by decide +kernel) rfl)) (C.2.2.2.2.1 _ asbLen_code), C.2.2.2.2.1 _ (List.mem_filter.mpr ⟨List.mem_of_getElem? x6, rfl⟩), C.2.2.2.2.1 _ (tb_mem x5 rfl)⟩
      ⟨blindK P adr μ (vA o :: as), recv_go C hW hoo ho0 hko (show (cls[13]?.map (fun r => r.1)) = some "java/lang/StringBuilder" from rfl), PcK_go C hW (by rw [List.map_cons, show tv adr (vA o) = .ref (adr o) from if_neg ho0])⟩ rfl (by rw [List.length_map]; simp only [List.length_cons] at hlen; omega) hL.2.1 rfl (lv_room (by rw [cats_eq]; exact hcat)) hd hroom)
theorem c_seven {P : Par} {n k pc k' : Nat} {c : Cd} {L : LV} {μ : Mem} {r r1 : Res} {vs rest : List SV}
    {p : Program} {l : Launch} {e : Env} {R : Room} {s : State} {m : MethodId} {args : Array Value} {below : List Frame} {meth : Method} {c0 : Code} {H : Heap} {locs : List Loc} {cells slots : Nat} {ls : Array Slot} {adr : Int → Nat} {Qc : Array Value → State → Outcome → State → Prop} {mc ms : Nat}
    (ih : IHn P n) (hs : Sfx k ((pc, .invokespecial k') :: c)) (hlt : k' < 1000) (hv1 : run n k' (codeOf k') (padL (miL (mi k')) (entL vs)) [] μ = some r1) (hv2 : run n k c L (r1.1.toList ++ rest) r1.2 = some r) (hlen : vs.length = miN (mi k')) (hcat : cats rest ≤ 8) (hrcv : rcvOK (miV (mi k')) vs = true) (hent : (entL vs).length ≤ miL (mi k'))
    {e2 : IE} (he : e2 ∈ invT) (q1 : e2.1 = miO (mi k)) (q3 : e2.2.2.2.1 = k') (hd : decode (miB (mi k)) pc = .ok (.invokespecial e2.2.1, 3)) (hn : hdpc c = pc + 3) (hkd : e2.2.2.2.2.1 = 7)
    (C : CX P k p s m args meth c0 R) (hW : WD P adr μ s H locs) (hL : LR adr (μ 0 0) (miL (mi k)) L ls) (hS : ∀ v ∈ vs.reverse ++ rest, okv (μ 0 0) v) (hR : RM μ r R cells slots mc ms) (hq : hQ P adr μ r s args Qc) :
    W p l e R s m args below meth c0 H locs cells slots (MQ below Qc args s mc ms (AA (pB P))) (F0 m pc ls ((vs.reverse ++ rest).map (tv adr))) := by
  obtain ⟨hv, hr⟩ := ok_app hS
  have hmem := (mi_ne hv1).2.1
  have hlaw := law_only k' (by rw [← q3]; exact inv_k0 e2 he)
  have hm1 := run_mono _ _ _ _ _ _ _ hv1
  have hm2 := run_mono _ _ _ _ _ _ _ hv2
  have hnn := hW.2.2.2.1.1
  have hrm := rm_at hs
  simp only [rmI, hlt, if_true, decide_eq_true_eq] at hrm
  have hok := inv_ok e2 he
  obtain ⟨o2, idx, w2, kk, kind, p1, p2, p3⟩ := e2
  simp only at q1 q3 hd hkd
  subst q1 q3
  have hM := met_of ih hv1 hent l (adr := adr) hW.2.2.2.1 hv hW.2.2.2.2
  have hcb := cB_go C hmem hlaw hrm (nO r1.2 - nO μ) (sl (nO r1.2) - sl (nO μ))
  have hroom := room_go hnn hm1 hm2 hR
  subst hkd
  simp only [okV, Bool.and_eq_true, decide_eq_true_eq] at hok
  obtain ⟨⟨⟨⟨⟨⟨⟨⟨⟨x2, x3⟩, x4⟩, x5⟩, x7⟩, x8⟩, x9⟩, x10⟩, x11⟩, x12⟩ := hok
  rw [x8] at hrcv
  obtain ⟨o, as, rfl, ho0, hko⟩ := rcv_spec hrcv (by decide)
  have hoo : o ≤ μ 0 0 := hv _ List.mem_cons_self
  have hat := (C.kn.vk.1 13 ("java/lang/StringBuilder", F_13, 4) rfl).2
  have hsup : (Cond.superclass (own (miO (mi k))) (miY (mi kk)).cls).before args s = true := by
    rw [x11, x10]
    exact C.2.2.2.2.1 _ (tb_mem (i := 311) (by decide +kernel) rfl)
  rw [stk_go o as rest ho0]
  refine call_go ih hs hv2 hm1 hn C hW hL hr hR hq (va_runSU (As := as.map (tv adr)) (Ts := Tg) hat ⟨C.1, C.2.1, C.2.2.1, C.2.2.2.1, C.2.2.2.2.1⟩ hM (n := miN (mi kk) - 1) ⟨hcb, C.2.2.2.2.1 _ (tb_mem x4 rfl), same_at C x9, hsup, C.2.2.2.2.1 _ (tb_mem x5 rfl), C.2.2.2.2.1 _ (tb_mem (of_decide_eq_true x7) rfl), C.2.2.2.2.1 _ (code_Tg hmem hlaw), x12, parN_spec x2⟩
    ⟨blindK P adr μ (vA o :: as), recv_go C hW hoo ho0 hko (show (cls[13]?.map (fun r => r.1)) = some "java/lang/StringBuilder" from rfl), PcK_go C hW (by rw [List.map_cons, show tv adr (vA o) = .ref (adr o) from if_neg ho0])⟩ rfl (by rw [List.length_map]; simp only [List.length_cons] at hlen; omega) hL.2.1 rfl (lv_room (by rw [cats_eq]; exact hcat)) hd hroom)
