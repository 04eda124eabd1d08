-- calls, kind by kind
theorem law_only : ∀ k, k ≠ 0 → (miY (mi k)).cls ≠ "LightDeskLaw" := by
  have h : (List.range 371).all (fun k => decide (k = 0) || decide ((miY (mi k)).cls ≠ "LightDeskLaw")) = true := by decide +kernel
  intro k hk
  by_cases h1 : k < 371
  · have h2 := List.all_eq_true.mp h k (List.mem_range.mpr h1)
    rw [Bool.or_eq_true, decide_eq_true_eq, decide_eq_true_eq] at h2
    exact h2.resolve_left hk
  · have h2 : mi k = miD := by
      unfold mi
      rw [List.getD_eq_getElem?_getD, List.getElem?_eq_none (by show MIs.length ≤ k; exact Nat.le_trans (by decide +kernel) (Nat.not_lt.mp h1))]
      rfl
    rw [h2]
    decide
theorem inv_k0 : ∀ e ∈ invT, e.2.2.2.1 ≠ 0 := by
  have h : invT.all (fun e => decide (e.2.2.2.1 ≠ 0)) = true := by decide +kernel
  intro e he
  exact of_decide_eq_true (List.all_eq_true.mp h e he)
theorem invC_spec {c k' w pc nx : Nat} {b : ByteArray} {mk : Nat → Instr} (h : invC c k' w b pc nx mk = true) : ∃ e ∈ invT, e.1 = c ∧ e.2.2.1 = w ∧ e.2.2.2.1 = k' ∧ decode b pc = .ok (mk e.2.1, 3) ∧ nx = pc + 3 := by
  unfold invC at h
  obtain ⟨e, he, h⟩ := List.any_eq_true.mp h
  simp only [Bool.and_eq_true, beq_iff_eq] at h
  exact ⟨e, he, h.1.1.1, h.1.1.2, h.1.2, dcd_spec h.2⟩
/-- the kinds that go with each instruction -/
theorem inv_kinds : ∀ e ∈ invT, (e.2.2.1 = 0 → e.2.2.2.2.1 = 0 ∨ e.2.2.2.2.1 = 1 ∨ e.2.2.2.2.1 = 6 ∨ e.2.2.2.2.1 = 8 ∨ e.2.2.2.2.1 = 10) ∧ (e.2.2.1 = 2 → e.2.2.2.2.1 = 2 ∨ e.2.2.2.2.1 = 3 ∨ e.2.2.2.2.1 = 9) ∧ (e.2.2.1 = 1 → e.2.2.2.2.1 = 4 ∨ e.2.2.2.2.1 = 5 ∨ e.2.2.2.2.1 = 7 ∨ e.2.2.2.2.1 = 9) ∧ (e.2.2.2.2.1 = 9 ↔ 1000 ≤ e.2.2.2.1) := by
  have h : invT.all (fun e => decide ((e.2.2.1 = 0 → e.2.2.2.2.1 = 0 ∨ e.2.2.2.2.1 = 1 ∨ e.2.2.2.2.1 = 6 ∨ e.2.2.2.2.1 = 8 ∨ e.2.2.2.2.1 = 10) ∧ (e.2.2.1 = 2 → e.2.2.2.2.1 = 2 ∨ e.2.2.2.2.1 = 3 ∨ e.2.2.2.2.1 = 9) ∧ (e.2.2.1 = 1 → e.2.2.2.2.1 = 4 ∨ e.2.2.2.2.1 = 5 ∨ e.2.2.2.2.1 = 7 ∨ e.2.2.2.2.1 = 9) ∧ (e.2.2.2.2.1 = 9 ↔ 1000 ≤ e.2.2.2.1))) = true := by decide +kernel
  intro e he
  exact of_decide_eq_true (List.all_eq_true.mp h e he)
/-- what callK gives -/
theorem callK_spec {n k' k : Nat} {c : Cd} {L : LV} {st : List SV} {μ : Mem} {r : Res} (h : callK (run n) k' k c L st μ = some r) :
    ∃ (vs rest : List SV) (r1 : Res), st = vs.reverse ++ rest ∧ vs.length = miN (mi k') ∧ cats rest ≤ 8 ∧ rcvOK (miV (mi k')) vs = true ∧ (entL vs).length ≤ miL (mi k') ∧ run n k' (codeOf k') (padL (miL (mi k')) (entL vs)) [] μ = some r1 ∧ run n k c L (r1.1.toList ++ rest) r1.2 = some r := by
  unfold callK at h
  split at h
  · rename_i hc
    obtain ⟨r1, h1, h2⟩ := Option.bind_eq_some_iff.mp h
    refine ⟨_, _, r1, st_split st (miN (mi k')), ?_, hc.2.1, hc.2.2.1, hc.2.2.2, h1, h2⟩
    rw [List.length_reverse, List.length_take]
    omega
  · cases h
theorem ok_app {n : Int} {a b : List SV} (h : ∀ v ∈ a.reverse ++ b, okv n v) : (∀ v ∈ a, okv n v) ∧ ∀ v ∈ b, okv n v := ⟨fun v hv => h v (List.mem_append_left _ (List.mem_reverse.mpr hv)), fun v hv => h v (List.mem_append_right _ hv)⟩
theorem rcv_spec {v : Nat} {vs : List SV} (h : rcvOK v vs = true) (hv : v ≠ 99) : ∃ o as, vs = vA o :: as ∧ o ≠ 0 ∧ kd o = v := by
  unfold rcvOK at h
  rw [if_neg hv] at h
  split at h
  · rename_i o as
    have h1 := of_decide_eq_true h
    exact ⟨o, as, rfl, h1.1, h1.2⟩
  · cases h
section
variable {P : Par} {n k pc k' : Nat} {i : Instr} {c : Cd} {L : LV} {μ : Mem} {r r1 : Res} {vs rest : List SV}
variable {p : Program} {l : Launch} {e : Env} {R : Room} {s : State} {m : MethodId} {args : Array Value} {below : List Frame} {meth : Method} {c0 : Code} {H : Heap} {locs : List Loc} {cells slots : Nat} {ls : Array Slot} {adr : Int → Nat} {Qc : Array Value → State → Outcome → State → Prop} {mc ms : Nat}
/-- the common part of a call's words -/
theorem cB_go (C : CX P k p s m args meth c0 R) (hm : mi k' ∈ MIs) (hl : (miY (mi k')).cls ≠ "LightDeskLaw") (hrm : miF (mi k') + 1 ≤ miF (mi k) ∧ 8 + (miL (mi k') + 11) + miW (mi k') ≤ miW (mi k)) (mc' ms' : Nat) :
    (rmK k' mc' ms').cells = mc' ∧ (rmK k' mc' ms').slots = ms' ∧ (rmK k' mc' ms').frames + 1 ≤ R.frames ∧ 8 + (miL (mi k') + 11) + (rmK k' mc' ms').locals ≤ R.locals ∧ (∀ w ∈ wsK k', ∀ (a' : Array Value) (U : State), s.WarmedH U.vm → w.before a' U = true) ∧ Cond.code (miY (mi k')) (miB (mi k')) (miL (mi k')) (miR (mi k')) ∈ wsK k' :=
  ⟨rfl, rfl, Nat.le_trans hrm.1 C.2.2.2.2.2.2.2.2.2.1, Nat.le_trans hrm.2 C.2.2.2.2.2.2.2.2.2.2, words_go C hm hl, List.mem_cons_self⟩
theorem room_go (hnn : 0 ≤ μ 0 0) (h1 : μ 0 0 ≤ r1.2 0 0) (h2 : r1.2 0 0 ≤ r.2 0 0) (hR : RM μ r R cells slots mc ms) : cells + (nO r1.2 - nO μ) ≤ R.cells ∧ slots + (sl (nO r1.2) - sl (nO μ)) ≤ R.slots := by
  obtain ⟨a1, a2, a3, a4, a5⟩ := hR
  have b1 : nO μ ≤ nO r1.2 := by unfold nO; omega
  have b2 : nO r1.2 ≤ nO r.2 := by unfold nO; omega
  have b3 := sl_mono b1
  have b4 := sl_mono b2
  constructor <;> omega
theorem stk_go (o : Int) (as rest : List SV) (h0 : o ≠ 0) : ((vA o :: as).reverse ++ rest).map (tv adr) = (as.map (tv adr)).reverse ++ .ref (adr o) :: rest.map (tv adr) := by
  have eo : tv adr (vA o) = .ref (adr o) := if_neg h0
  rw [List.reverse_cons, List.map_append, List.map_append, List.map_reverse, List.map_cons, List.map_nil, eo, List.append_assoc]
  rfl
theorem c_virt (ih : IHn P n) (hs : Sfx k ((pc, .invokevirtual k') :: c)) (hv1 : run n k' (codeOf k') (padL (miL (mi k')) (entL vs)) [] μ = some r1) (hv2 : run n k c L (r1.1.toList ++ rest) r1.2 = some r) (hlen : vs.length = miN (mi k')) (hcat : cats rest ≤ 8) (hrcv : rcvOK (miV (mi k')) vs = true) (hent : (entL vs).length ≤ miL (mi k'))
    {e2 : IE} (he : e2 ∈ invT) (q1 : e2.1 = miO (mi k)) (q3 : e2.2.2.2.1 = k') (hd : decode (miB (mi k)) pc = .ok (.invokevirtual e2.2.1, 3)) (hn : hdpc c = pc + 3) (hkd : e2.2.2.2.2.1 = 0 ∨ e2.2.2.2.2.1 = 1)
    (C : CX P k p s m args meth c0 R) (hW : WD P adr μ s H locs) (hL : LR adr (μ 0 0) (miL (mi k)) L ls) (hS : ∀ v ∈ vs.reverse ++ rest, okv (μ 0 0) v) (hR : RM μ r R cells slots mc ms) (hq : hQ P adr μ r s args Qc) :
    W p l e R s m args below meth c0 H locs cells slots (MQ below Qc args s mc ms (AA (pB P))) (F0 m pc ls ((vs.reverse ++ rest).map (tv adr))) := by
  obtain ⟨hv, hr⟩ := ok_app hS
  have hmem := (mi_ne hv1).2.1
  have hlaw := law_only k' (by rw [← q3]; exact inv_k0 e2 he)
  have hm1 := run_mono _ _ _ _ _ _ _ hv1
  have hm2 := run_mono _ _ _ _ _ _ _ hv2
  have hnn := hW.2.2.2.1.1
  have hrm := rm_at hs
  simp only [rmI, decide_eq_true_eq] at hrm
  have hok := inv_ok e2 he
  obtain ⟨o2, idx, w2, kk, kind, p1, p2, p3⟩ := e2
  simp only at q1 q3 hd hkd
  subst q1 q3
  have hM := met_of ih hv1 hent l (adr := adr) hW.2.2.2.1 hv hW.2.2.2.2
  have hcb := cB_go C hmem hlaw hrm (nO r1.2 - nO μ) (sl (nO r1.2) - sl (nO μ))
  have hroom := room_go hnn hm1 hm2 hR
  rcases hkd with rfl | rfl
  · simp only [okV, Bool.and_eq_true, decide_eq_true_eq] at hok
    obtain ⟨⟨⟨⟨⟨⟨⟨x1, x2⟩, x3⟩, x4⟩, x5⟩, x6⟩, x7⟩, x8⟩ := hok
    have hv99 : miV (mi kk) ≠ 99 := by
      intro h99
      rw [h99] at x8
      cases x8
    obtain ⟨o, as, rfl, ho0, hko⟩ := rcv_spec hrcv hv99
    have hoo : o ≤ μ 0 0 := hv _ List.mem_cons_self
    rw [stk_go o as rest ho0]
    refine call_go ih hs hv2 hm1 hn C hW hL hr hR hq (va_runV (As := as.map (tv adr)) (Ts := Tg) ⟨C.1, C.2.1, C.2.2.1, C.2.2.2.1, C.2.2.2.2.1⟩ hM (n := miN (mi kk) - 1) ⟨⟨hcb.1, hcb.2.1, hcb.2.2.1, hcb.2.2.2.1, hcb.2.2.2.2.1, hcb.2.2.2.2.2, C.2.2.2.2.1 _ (code_Tg hmem hlaw), C.2.2.2.2.1 _ (tb_mem (of_decide_eq_true x7) rfl), notMH_spec x1, parN_spec x2, C.2.2.2.2.1 _ (tb_mem x4 rfl)⟩, C.2.2.2.2.1 _ (tb_mem x5 rfl), C.2.2.2.2.1 _ (List.mem_filter.mpr ⟨List.mem_of_getElem? x6, rfl⟩)⟩
      ⟨blindK P adr μ (vA o :: as), recv_go C hW hoo ho0 hko x8, PcK_go C hW (by rw [List.map_cons, show tv adr (vA o) = .ref (adr o) from if_neg ho0])⟩ rfl (by rw [List.length_map]; simp only [List.length_cons] at hlen; omega) hL.2.1 rfl (lv_room (by rw [cats_eq]; exact hcat)) hd hroom)
  · simp only [okV, Bool.and_eq_true, decide_eq_true_eq] at hok
    obtain ⟨⟨⟨⟨⟨⟨⟨x1, x2⟩, x3⟩, x4⟩, x5⟩, x6⟩, x7⟩, x8⟩ := hok
    have hv99 : miV (mi kk) ≠ 99 := by
      intro h99
      rw [h99] at x8
      cases x8
    obtain ⟨o, as, rfl, ho0, hko⟩ := rcv_spec hrcv hv99
    have hoo : o ≤ μ 0 0 := hv _ List.mem_cons_self
    rw [stk_go o as rest ho0]
    refine call_go ih hs hv2 hm1 hn C hW hL hr hR hq (va_runVN (As := as.map (tv adr)) (Ts := Tg) (host := "LightDesk") ⟨C.1, C.2.1, C.2.2.1, C.2.2.2.1, C.2.2.2.2.1⟩ hM (n := miN (mi kk) - 1) ⟨⟨hcb, C.2.2.2.2.1 _ (code_Tg hmem hlaw), C.2.2.2.2.1 _ (tb_mem (of_decide_eq_true x7) rfl), notMH_spec x1, parN_spec x2, va_Nw.use rfl (C.kn.nest _ (nest_mem x4) rfl)⟩, C.2.2.2.2.1 _ (tb_mem x5 rfl), C.2.2.2.2.1 _ (List.mem_filter.mpr ⟨List.mem_of_getElem? x6, rfl⟩)⟩
      ⟨blindK P adr μ (vA o :: as), recv_go C hW hoo ho0 hko x8, PcK_go C hW (by rw [List.map_cons, show tv adr (vA o) = .ref (adr o) from if_neg ho0])⟩ rfl (by rw [List.length_map]; simp only [List.length_cons] at hlen; omega) hL.2.1 rfl (lv_room (by rw [cats_eq]; exact hcat)) hd hroom)
theorem c_stat (ih : IHn P n) (hs : Sfx k ((pc, .invokestatic k') :: c)) (hlt : k' < 1000) (hv1 : run n k' (codeOf k') (padL (miL (mi k')) (entL vs)) [] μ = some r1) (hv2 : run n k c L (r1.1.toList ++ rest) r1.2 = some r) (hlen : vs.length = miN (mi k')) (hcat : cats rest ≤ 8) (hent : (entL vs).length ≤ miL (mi k'))
    {e2 : IE} (he : e2 ∈ invT) (q1 : e2.1 = miO (mi k)) (q3 : e2.2.2.2.1 = k') (hd : decode (miB (mi k)) pc = .ok (.invokestatic e2.2.1, 3)) (hn : hdpc c = pc + 3) (hkd : e2.2.2.2.2.1 = 2 ∨ e2.2.2.2.2.1 = 3)
    (C : CX P k p s m args meth c0 R) (hW : WD P adr μ s H locs) (hL : LR adr (μ 0 0) (miL (mi k)) L ls) (hS : ∀ v ∈ vs.reverse ++ rest, okv (μ 0 0) v) (hR : RM μ r R cells slots mc ms) (hq : hQ P adr μ r s args Qc) :
    W p l e R s m args below meth c0 H locs cells slots (MQ below Qc args s mc ms (AA (pB P))) (F0 m pc ls ((vs.reverse ++ rest).map (tv adr))) := by
  obtain ⟨hv, hr⟩ := ok_app hS
  have hmem := (mi_ne hv1).2.1
  have hlaw := law_only k' (by rw [← q3]; exact inv_k0 e2 he)
  have hm1 := run_mono _ _ _ _ _ _ _ hv1
  have hm2 := run_mono _ _ _ _ _ _ _ hv2
  have hnn := hW.2.2.2.1.1
  have hrm := rm_at hs
  simp only [rmI, hlt, if_true, decide_eq_true_eq] at hrm
  have hok := inv_ok e2 he
  obtain ⟨o2, idx, w2, kk, kind, p1, p2, p3⟩ := e2
  simp only at q1 q3 hd hkd
  subst q1 q3
  have hM := met_of ih hv1 hent l (adr := adr) hW.2.2.2.1 hv hW.2.2.2.2
  have hcb := cB_go C hmem hlaw hrm (nO r1.2 - nO μ) (sl (nO r1.2) - sl (nO μ))
  have hroom := room_go hnn hm1 hm2 hR
  rw [List.map_append, List.map_reverse]
  rcases hkd with rfl | rfl
  · simp only [okV, Bool.and_eq_true, decide_eq_true_eq] at hok
    obtain ⟨⟨⟨⟨⟨x1, x2⟩, x4⟩, x5⟩, x7⟩, x8⟩ := hok
    refine call_go ih hs hv2 hm1 hn C hW hL hr hR hq (va_runS (As := vs.map (tv adr)) (Ts := Tg) ⟨C.1, C.2.1, C.2.2.1, C.2.2.2.1, C.2.2.2.2.1⟩ hM (n := miN (mi kk)) ⟨⟨hcb.1, hcb.2.1, hcb.2.2.1, hcb.2.2.2.1, hcb.2.2.2.2.1, hcb.2.2.2.2.2, C.2.2.2.2.1 _ (code_Tg hmem hlaw), C.2.2.2.2.1 _ (tb_mem (of_decide_eq_true x7) rfl), notMH_spec x1, parN_spec x2, C.2.2.2.2.1 _ (tb_mem x4 rfl)⟩, C.2.2.2.2.1 _ (tb_mem x5 rfl)⟩
      ⟨blindK P adr μ vs, PcK_go C hW rfl⟩ rfl (by rw [List.length_map]; exact hlen) hL.2.1 rfl (lv_room (by rw [cats_eq]; exact hcat)) hd hroom)
  · simp only [okV, Bool.and_eq_true, decide_eq_true_eq] at hok
    obtain ⟨⟨⟨⟨⟨x1, x2⟩, x4⟩, x5⟩, x7⟩, x8⟩ := hok
    refine call_go ih hs hv2 hm1 hn C hW hL hr hR hq (va_runSN (As := vs.map (tv adr)) (Ts := Tg) (host := "LightDesk") ⟨C.1, C.2.1, C.2.2.1, C.2.2.2.1, C.2.2.2.2.1⟩ hM (n := miN (mi kk)) ⟨⟨hcb, C.2.2.2.2.1 _ (code_Tg hmem hlaw), C.2.2.2.2.1 _ (tb_mem (of_decide_eq_true x7) rfl), notMH_spec x1, parN_spec x2, va_Nw.use rfl (C.kn.nest _ (nest_mem x4) rfl)⟩, C.2.2.2.2.1 _ (tb_mem x5 rfl), trivial⟩
      ⟨blindK P adr μ vs, PcK_go C hW rfl⟩ rfl (by rw [List.length_map]; exact hlen) hL.2.1 rfl (lv_room (by rw [cats_eq]; exact hcat)) hd hroom)
theorem c_init (ih : IHn P n) (hs : Sfx k ((pc, .invokespecial k') :: c)) (hlt : k' < 1000) (hv1 : run n k' (codeOf k') (padL (miL (mi k')) (entL vs)) [] μ = some r1) (hv2 : run n k c L (r1.1.toList ++ rest) r1.2 = some r) (hlen : vs.length = miN (mi k')) (hcat : cats rest ≤ 8) (hrcv : rcvOK (miV (mi k')) vs = true) (hent : (entL vs).length ≤ miL (mi k'))
    {e2 : IE} (he : e2 ∈ invT) (q1 : e2.1 = miO (mi k)) (q3 : e2.2.2.2.1 = k') (hd : decode (miB (mi k)) pc = .ok (.invokespecial e2.2.1, 3)) (hn : hdpc c = pc + 3) (hkd : e2.2.2.2.2.1 = 4 ∨ e2.2.2.2.2.1 = 5)
    (C : CX P k p s m args meth c0 R) (hW : WD P adr μ s H locs) (hL : LR adr (μ 0 0) (miL (mi k)) L ls) (hS : ∀ v ∈ vs.reverse ++ rest, okv (μ 0 0) v) (hR : RM μ r R cells slots mc ms) (hq : hQ P adr μ r s args Qc) :
    W p l e R s m args below meth c0 H locs cells slots (MQ below Qc args s mc ms (AA (pB P))) (F0 m pc ls ((vs.reverse ++ rest).map (tv adr))) := by
  obtain ⟨hv, hr⟩ := ok_app hS
  have hmem := (mi_ne hv1).2.1
  have hlaw := law_only k' (by rw [← q3]; exact inv_k0 e2 he)
  have hm1 := run_mono _ _ _ _ _ _ _ hv1
  have hm2 := run_mono _ _ _ _ _ _ _ hv2
  have hnn := hW.2.2.2.1.1
  have hrm := rm_at hs
  simp only [rmI, hlt, if_true, decide_eq_true_eq] at hrm
  have hok := inv_ok e2 he
  obtain ⟨o2, idx, w2, kk, kind, p1, p2, p3⟩ := e2
  simp only at q1 q3 hd hkd
  subst q1 q3
  have hM := met_of ih hv1 hent l (adr := adr) hW.2.2.2.1 hv hW.2.2.2.2
  have hcb := cB_go C hmem hlaw hrm (nO r1.2 - nO μ) (sl (nO r1.2) - sl (nO μ))
  have hroom := room_go hnn hm1 hm2 hR
  rcases hkd with rfl | rfl
  · simp only [okV, Bool.and_eq_true, decide_eq_true_eq] at hok
    obtain ⟨⟨⟨⟨⟨⟨⟨⟨x1, x2⟩, x3⟩, x4⟩, x5⟩, x7⟩, x8⟩, x9⟩, x10⟩ := hok
    obtain ⟨o, as, rfl, ho0, hko⟩ := rcv_spec hrcv (by omega)
    rw [stk_go o as rest ho0]
    have hcd := hcb.2.2.2.2.2
    have hcd2 := C.2.2.2.2.1 _ (code_Tg hmem hlaw)
    rw [x9] at hcd hcd2
    refine call_go ih hs hv2 hm1 hn C hW hL hr hR hq (va_runI (As := as.map (tv adr)) (Ts := Tg) ⟨C.1, C.2.1, C.2.2.1, C.2.2.2.1, C.2.2.2.2.1⟩ hM (n := miN (mi kk) - 1) ⟨⟨hcb.1, hcb.2.1, hcb.2.2.1, hcb.2.2.2.1, hcb.2.2.2.2.1, hcd, hcd2, C.2.2.2.2.1 _ (tb_mem (of_decide_eq_true x7) rfl), notMH_spec x1, parN_spec x2, C.2.2.2.2.1 _ (tb_mem x4 rfl)⟩, x8, C.2.2.2.2.1 _ (tb_mem x5 rfl)⟩
      ⟨blindK P adr μ (vA o :: as), PcK_go C hW (by rw [List.map_cons, show tv adr (vA o) = .ref (adr o) from if_neg ho0])⟩ rfl (by rw [List.length_map]; simp only [List.length_cons] at hlen; omega) hL.2.1 rfl (lv_room (by rw [cats_eq]; exact hcat)) hd hroom)
  · simp only [okV, Bool.and_eq_true, decide_eq_true_eq] at hok
    obtain ⟨⟨⟨⟨⟨⟨⟨⟨x1, x2⟩, x3⟩, x4⟩, x5⟩, x7⟩, x8⟩, x9⟩, x10⟩ := hok
    obtain ⟨o, as, rfl, ho0, hko⟩ := rcv_spec hrcv (by omega)
    rw [stk_go o as rest ho0]
    have hcd2 := C.2.2.2.2.1 _ (code_Tg hmem hlaw)
    rw [x9] at hcb hcd2
    refine call_go ih hs hv2 hm1 hn C hW hL hr hR hq (va_runIN (As := as.map (tv adr)) (Ts := Tg) (host := "LightDesk") ⟨C.1, C.2.1, C.2.2.1, C.2.2.2.1, C.2.2.2.2.1⟩ hM (n := miN (mi kk) - 1) ⟨⟨hcb, hcd2, C.2.2.2.2.1 _ (tb_mem (of_decide_eq_true x7) rfl), notMH_spec x1, parN_spec x2, va_Nw.use rfl (C.kn.nest _ (nest_mem x4) rfl)⟩, x8, C.2.2.2.2.1 _ (tb_mem x5 rfl)⟩
      ⟨blindK P adr μ (vA o :: as), PcK_go C hW (by rw [List.map_cons, show tv adr (vA o) = .ref (adr o) from if_neg ho0])⟩ rfl (by rw [List.length_map]; simp only [List.length_cons] at hlen; omega) hL.2.1 rfl (lv_room (by rw [cats_eq]; exact hcat)) hd hroom)
end
