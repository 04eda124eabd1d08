-- L4: the law's walk (head and end after kit/laws/SKELETON)
def R_law : String := "LightDeskLaw"
def lw_P (b : Addr) (xs : List Int32) (args : Array Value) (s : State) : Prop := args = #[.ref b] ∧ s.IntsAt b xs ∧ xs.length ≤ 3072 ∧ (Jvm.Cond.and given_1 narrow_1).before args s = true
def lw_Q (_ : Array Value) (s : State) (o : Outcome) (t : State) : Prop := o = .returned (some (.int 1)) ∧ Framed s o t [] 600000 7302250
def lw_Z (below : List Frame) (a : Array Value) (s : State) : State → Prop := fun t => ∃ o, t.status = .running ∧ Ended t below o ∧ lw_Q a s o t
/-- the law's own end, with 1 on the stack, nothing written that was there before, its room as the claim has it -/
theorem lw_ret {p : Program} {l : Launch} {e : Env} {s : State} {m : MethodId} {below : List Frame} {meth : Method} {c : Code} {b : Nat} (hx : p.tables.exec = Jvm.exec) (hb : c.code = code) (hr : meth.sig.returnType = ret) (hlocks : meth.locks = false) {pc : Nat} {H : Heap} {ls : Array Slot} (hdg : decode code pc = .ok (.ireturn, 1)) : W p l e room_1 s m #[Value.ref b] below meth c H [] 600000 7302250 (lw_Z below #[Value.ref b] s) (F0 m pc ls [.int 1]) := by
  intro T hT X
  obtain ⟨fs, hret, hrun, hended, hW, hframe⟩ := X.leave (v := some (.int 1)) (hlocks := hlocks) (fun h => by rw [hr] at h; cases h)
  have hmeth' : T.vm.method? m = some meth := X.method'
  refine ⟨T.setFrames fs, ?_, .returned (some (.int 1)), hrun, hended, rfl, ⟨_, rfl⟩, hW, hframe⟩
  jvm_step X.here [X.here.top, hx, hb, hdg, hmeth', hr, ret, narrow_b1]
  (try refine ⟨rfl, ?_⟩); (try refine ⟨rfl, ?_⟩)
  first | (intro acts; rw [hret _ acts rfl rfl rfl]) | rw [hret _ _ rfl rfl rfl]
  exact Steps.refl _
/-- what holds at the law's entry: the machine, the code, the tables' words (any of lw_tbl by 'hts w (by decide +kernel)'), the script of L ints xs at the cell b, what the Statement gives of the start (any of its parts by flat_of_before) -/
def lw_At (p : Program) (s : State) (m : MethodId) (meth : Method) (c : Code) (b L : Nat) (xs : Nat → Int32) : Prop :=
  p.tables.exec = Jvm.exec ∧ c.code = code ∧ meth.sig.returnType = ret ∧ c.maxLocals = 4 ∧ s.vm.findClass R_law = some m.cls ∧ (∀ w ∈ lw_tbl, w.before #[Value.ref b] s = true) ∧ va_X b L xs s s.heap ∧ b < s.heap.size ∧ meth.locks = false ∧ (Jvm.Cond.and given_1 narrow_1).before #[Value.ref b] s = true ∧ meth.name = "law"
theorem sl_2016 : sl 2016 ≤ 7302250 := by decide +kernel
theorem lw_one (adr : Int → Nat) : Outcome.returned ((some (vI 1) : Option SV).map (tv adr)) = Outcome.returned (some (Value.int 1)) := by
  have e : Int32.ofInt 1 = 1 := by decide
  show Outcome.returned (some (Value.int (Int32.ofInt 1))) = _
  rw [e]
theorem lw_forget {s t : State} {o : Outcome} {L : List Loc} {k n : Nat} (h : FrameEnd s o t L k n) (hf : ∀ q ∈ L, s.heap.size ≤ q.base) : Framed s o t [] k n :=
  ⟨h.1, h.2.1, State.sameButNew.drop_fresh (L := []) (J := L) h.2.2 hf⟩
theorem whole_start {p : Program} {e : Env} {s : State} {m : MethodId} {below : List Frame} {meth : Method} {c : Code} (l : Launch) {b L : Nat} {xs : Nat → Int32} (hL : L ≤ 3072) (C0 : lw_At p s m meth c b L xs) : W p l e room_1 s m #[Value.ref b] below meth c s.heap [] 0 0 (lw_Z below #[Value.ref b] s) (entryFrame m ([Value.ref b] : List Value).toArray 4) := by
  obtain ⟨hx, hbd, hr, hml, hown, hts, hX, hbl, hlocks, hgv, hname⟩ := C0
  have hh : HL s b := fun w hw => flat_of_before _ hgv w hw
  obtain ⟨P, hK, eX, eL, eB, e7⟩ := kn_of hts hX hbl hL hh
  obtain ⟨μ', hrun, hn⟩ := law_run (M0_p xs (L : Int)) (L := (L : Int)) M0_1 (by omega) (by omega) (fun i i0 i1 => by rw [M0_n (by decide), X0_x]; exact (i32_r _).2)
  obtain ⟨n, hrn⟩ := hrun.some
  have h1 : nO μ' ≤ 2016 := by unfold nO; omega
  have h2 : sl (nO μ') ≤ 7302250 := Nat.le_trans (sl_mono h1) sl_2016
  have h0 : nO (M0 xs (L : Int)) = 0 := rfl
  have C : CX P 0 p s m #[Value.ref b] meth c room_1 := ⟨hx, by rw [md_0]; exact hbd, by rw [md_0]; exact hml, by rw [md_0]; exact hown, fun w hw => hts w (List.mem_filter.mp hw).1, by rw [md_0]; exact hr, hlocks, by rw [md_0]; exact hname, hK, by rw [md_0]; decide, by rw [md_0]; decide⟩
  have hle : (lg_sl ([Value.ref b])).length ≤ 4 := Nat.le_of_ble_eq_true rfl
  have hen := lv_entry ([Value.ref b]) hle
  rw [lg_entry_eq]
  generalize (lg_sl ([Value.ref b]) ++ List.replicate (4 - (lg_sl ([Value.ref b])).length) Slot.unset).toArray = ls at hen ⊢
  have hW : WD P (pA P) (M0 xs (L : Int)) s s.heap [] := by
    have e0 : wsOf (pT P) (pA P) (M0 xs (L : Int)) = [] := rfl
    unfold WD
    rw [e0]
    refine ⟨fun k q hq => by simp at hq, ⟨fun i j p q hi => by simp at hi, fun k q hq => by simp at hq⟩, va_S.rf, ⟨Int.le_refl _, fun o j o0 o1 => ?_, fun o j ho => by rw [eX, M0_n ho], by rw [eL, M0_1]⟩, fun o _ => rfl⟩
    rw [M0_0] at o1
    omega
  have hR : LR (pA P) (M0 xs (L : Int) 0 0) (miL (mi 0)) [some (vA (-7)), none, none, none] ls := by
    refine ⟨by rw [md_0]; rfl, by rw [md_0]; exact hen.1, hen.2.1, fun j v hj => ?_⟩
    cases j with
    | zero =>
      have hj' : some (some (vA (-7))) = some (some v) := hj
      cases hj'
      refine ⟨?_, by show (-7 : Int) ≤ 0; decide⟩
      have h3 := hen.2.2 (0, Value.ref b) List.mem_cons_self
      have h4 : tv (pA P) (vA (-7)) = Value.ref b := by
        show rfv (pA P) (-7) = Value.ref b
        unfold rfv
        rw [if_neg (by decide), e7]
      rw [h4]
      exact h3
    | succ j =>
      exfalso
      have h5 : j = 0 ∨ j = 1 ∨ j = 2 ∨ 3 ≤ j := by omega
      rcases h5 with rfl | rfl | rfl | h5
      · have hj' : (some none : Option (Option SV)) = some (some v) := hj
        cases hj'
      · have hj' : (some none : Option (Option SV)) = some (some v) := hj
        cases hj'
      · have hj' : (some none : Option (Option SV)) = some (some v) := hj
        cases hj'
      · rw [List.getElem?_eq_none (by show 4 ≤ j + 1; omega)] at hj
        cases hj
  have hcode : codeOf 0 = cd_0 := by unfold codeOf; rw [md_0]; rfl
  have hmono := run_mono _ _ _ _ _ _ _ hrn
  refine W.widen (k := 600000 - nO μ') (n := 7302250 - sl (nO μ')) (by omega) (by omega) ?_
  have K := sim P n 0 cd_0 _ [] (M0 xs (L : Int)) (some (vI 1), μ') hrn ⟨[], hcode⟩ p l e room_1 s m #[Value.ref b] below meth c s.heap [] (600000 - nO μ') (7302250 - sl (nO μ')) ls (pA P) (fun _ _ o _ => o = .returned (some (.int 1))) 600000 7302250 C hW hR (fun v hv => absurd hv List.not_mem_nil)
    ⟨hmono, by rw [h0]; show 600000 - nO μ' + nO μ' = 600000 + 0; omega, by rw [h0]; show 7302250 - sl (nO μ') + sl (nO μ') = 7302250 + 0; omega, Nat.le_refl _, Nat.le_refl _⟩ (fun adr' _ _ _ _ _ _ _ _ => lw_one adr')
  intro T hT X
  obtain ⟨t, a1, o, r1, r2, r3, L', r4, r5⟩ := K T hT X
  exact ⟨t, a1, o, r1, r2, r3, lw_forget r4 (fun q hq => by have := r5 q hq; rw [eB] at this; exact this)⟩
