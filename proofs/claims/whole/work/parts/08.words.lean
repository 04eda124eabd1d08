-- the words of the tables that the links rest on
def iniP : List Nat := [20, 5, 21, 6, 19, 4, 22, 2, 7, 18, 8, 1, 23, 10, 11, 9, 17, 3, 13, 0]
def isIni (o : Nat) (c : String) : Bool := decide (tables_1[iniP.getD o 9999]? = some (.initialized c))
def tyC (t : Option FieldType) : Nat := match t with
  | some .int => 0
  | some (.object _) => 1
  | some (.array _) => 1
  | some .boolean => 2
  | some .byte => 3
  | _ => 9
def okF (e : FE) : Bool := match cls[e.2.2.1 / 512]? with
  | none => false
  | some r => decide (e.2.2.1 / 8 % 64 < r.2.2) && decide (tyC (parseFieldDescriptor (r.2.1 (e.2.2.1 / 8 % 64)).2.2.1) = e.2.2.1 % 8) && decide (ft (e.2.2.1 / 512) (e.2.2.1 / 8 % 64) = e.2.2.1 % 8) && decide (tables_1[e.2.2.2.2]? = some (if e.2.2.2.1 = 0 then .fieldLink (own e.1) e.2.1 (r.2.1 (e.2.2.1 / 8 % 64)).1 (r.2.1 (e.2.2.1 / 8 % 64)).2.1 (r.2.1 (e.2.2.1 / 8 % 64)).2.2.1 else .fieldLinkNest (own e.1) e.2.1 (r.2.1 (e.2.2.1 / 8 % 64)).1 (r.2.1 (e.2.2.1 / 8 % 64)).2.1 (r.2.1 (e.2.2.1 / 8 % 64)).2.2.1 "LightDesk"))
def notMH (y : MethodName) : Bool := decide (y.cls ≠ "java/lang/invoke/MethodHandle" ∧ y.cls ≠ "java/lang/invoke/VarHandle")
def parN (y : MethodName) (n : Nat) : Bool := decide ((parseMethodDescriptor y.desc).map (fun d => d.parameters.length) = some n)
def linkW (nest : Bool) (o idx : Nat) (y : MethodName) : Cond := if nest then .methodLinkNest (own o) idx y "LightDesk" else .methodLink (own o) idx y
def smP : List Nat := [347, 361, 451, 456, 2307, 2308, 2309, 2310, 2311, 2312, 2313]
def isSame (y : MethodName) : Bool := smP.any fun p => decide (tables_1[p]? = some (.sameMethod y.cls y.cls y.name y.desc))
def asbLen : MethodName := ⟨"java/lang/AbstractStringBuilder", "length", "()I"⟩
/-- kinds of link: 6, 8, 10 a StringBuilder's inherited, private, overridden member, 7 super's; 0 virtual, 1 virtual of a nest mate, 2 static, 3 static of a nest mate, 4 a constructor, 5 one of a nest mate; 9 a member by itself -/
def okV (e : IE) : Bool := match e with
  | (o, idx, _, k', kind, p1, p2, p3) => match kind with
    | 0 => notMH (miY (mi k')) && parN (miY (mi k')) (miN (mi k') - 1) && decide (1 ≤ miN (mi k')) && decide (tables_1[p1]? = some (linkW false o idx (miY (mi k')))) && decide (tables_1[p2]? = some (.instanceMethod (miY (mi k')))) && decide (lw_tbl[p3]? = some (.selects (miY (mi k')).cls (miY (mi k')) (miY (mi k')))) && isIni (miO (mi k')) (miY (mi k')).cls && decide ((cls[miV (mi k')]?.map (fun r => r.1)) = some (miY (mi k')).cls)
    | 1 => notMH (miY (mi k')) && parN (miY (mi k')) (miN (mi k') - 1) && decide (1 ≤ miN (mi k')) && decide (tables_1[p1]? = some (linkW true o idx (miY (mi k')))) && decide (tables_1[p2]? = some (.instanceMethod (miY (mi k')))) && decide (lw_tbl[p3]? = some (.selects (miY (mi k')).cls (miY (mi k')) (miY (mi k')))) && isIni (miO (mi k')) (miY (mi k')).cls && decide ((cls[miV (mi k')]?.map (fun r => r.1)) = some (miY (mi k')).cls)
    | 2 => notMH (miY (mi k')) && parN (miY (mi k')) (miN (mi k')) && decide (tables_1[p1]? = some (linkW false o idx (miY (mi k')))) && decide (tables_1[p2]? = some (.static (miY (mi k')))) && isIni (miO (mi k')) (miY (mi k')).cls && decide (miV (mi k') = 99)
    | 3 => notMH (miY (mi k')) && parN (miY (mi k')) (miN (mi k')) && decide (tables_1[p1]? = some (linkW true o idx (miY (mi k')))) && decide (tables_1[p2]? = some (.static (miY (mi k')))) && isIni (miO (mi k')) (miY (mi k')).cls && decide (miV (mi k') = 99)
    | 4 => notMH (miY (mi k')) && parN (miY (mi k')) (miN (mi k') - 1) && decide (1 ≤ miN (mi k')) && decide (tables_1[p1]? = some (linkW false o idx (miY (mi k')))) && decide (tables_1[p2]? = some (.instanceMethod (miY (mi k')))) && isIni (miO (mi k')) (miY (mi k')).cls && decide ((miY (mi k')).name = "<init>") && decide (miR (mi k') = none) && decide (miV (mi k') < 50)
    | 5 => notMH (miY (mi k')) && parN (miY (mi k')) (miN (mi k') - 1) && decide (1 ≤ miN (mi k')) && decide (tables_1[p1]? = some (linkW true o idx (miY (mi k')))) && decide (tables_1[p2]? = some (.instanceMethod (miY (mi k')))) && isIni (miO (mi k')) (miY (mi k')).cls && decide ((miY (mi k')).name = "<init>") && decide (miR (mi k') = none) && decide (miV (mi k') < 50)
    | 6 => notMH (miY (mi k')) && parN (miY (mi k')) (miN (mi k') - 1) && decide (1 ≤ miN (mi k')) && decide (tables_1[p1]? = some (linkW false o idx (miY (mi k')))) && decide (tables_1[p2]? = some (.instanceMethod (miY (mi k')))) && decide (lw_tbl[p3]? = some (.selects "java/lang/StringBuilder" (miY (mi k')) (miY (mi k')))) && isIni (miO (mi k')) (miY (mi k')).cls && decide (miV (mi k') = 13) && isSame (miY (mi k'))
    | 8 => notMH (miY (mi k')) && parN (miY (mi k')) (miN (mi k') - 1) && decide (1 ≤ miN (mi k')) && decide (tables_1[p1]? = some (linkW false o idx (miY (mi k')))) && decide (tables_1[p2]? = some (.instanceMethod (miY (mi k')))) && decide (tables_1[p3]? = some (.privateMethod (miY (mi k')))) && isIni (miO (mi k')) (miY (mi k')).cls && decide (miV (mi k') = 13) && isSame (miY (mi k')) && decide ((miY (mi k')).cls = "java/lang/AbstractStringBuilder")
    | 10 => parN asbLen (miN (mi k') - 1) && decide (1 ≤ miN (mi k')) && decide (tables_1[p1]? = some (linkW false o idx asbLen)) && decide (tables_1[p2]? = some (.instanceMethod (miY (mi k')))) && decide (lw_tbl[p3]? = some (.selects "java/lang/StringBuilder" asbLen (miY (mi k')))) && isIni (miO (mi k')) (miY (mi k')).cls && decide (miV (mi k') = 13)
    | 7 => parN (miY (mi k')) (miN (mi k') - 1) && decide (1 ≤ miN (mi k')) && decide (tables_1[p1]? = some (linkW false o idx (miY (mi k')))) && decide (tables_1[p2]? = some (.instanceMethod (miY (mi k')))) && isIni (miO (mi k')) (miY (mi k')).cls && decide (miV (mi k') = 13) && isSame (miY (mi k')) && decide ((miY (mi k')).cls = "java/lang/AbstractStringBuilder") && decide (own o = "java/lang/StringBuilder") && decide ((miY (mi k')).name ≠ "<init>")
    | 9 => decide (tables_1[p1]? = some (.methodLink (own o) idx (if k' = 1000 then Lib.Math.max.name else if k' = 1001 then Lib.Math.min.name else if k' = 1002 then Lib.Math.abs.name else if k' = 1003 then arraycopyName else Lib.objectInit)))
    | _ => false
def okC (e : Nat × Nat × Nat × Nat) : Bool := if e.2.2.1 = 100 then decide (tables_1[e.2.2.2]? = some (.classLink (own e.1) e.2.1 "[[I")) else match cls[e.2.2.1]? with
  | none => false
  | some r => decide (tables_1[e.2.2.2]? = some (.classLink (own e.1) e.2.1 r.1))
def okK (e : Nat × Nat × Int × Nat) : Bool := decide (tables_1[e.2.2.2]? = some (.constant (own e.1) e.2.1 (Int32.ofInt e.2.2.1))) || decide (tables_1[e.2.2.2]? = some (.constantLong (own e.1) e.2.1 (Int64.ofInt e.2.2.1)))
def okS (e : Nat × Nat × Nat × Nat × Nat) : Bool := match stN[e.2.2.1]? with
  | none => false
  | some r => decide (tables_1[e.2.2.2.1]? = some (if e.2.2.2.2 = 0 then .fieldLink (own e.1) e.2.1 r.1 r.2.1 r.2.2 else .fieldLinkNest (own e.1) e.2.1 r.1 r.2.1 r.2.2 "LightDesk"))
def primW (k' : Nat) : Nat := if k' = 1003 then 26 else if k' = 1004 then 20 else 21
/-- the room of a method's calls -/
def rmI (x : MI) (i : Instr) : Bool := match i with
  | .invokevirtual k' => decide (miF (mi k') + 1 ≤ miF x ∧ 8 + (miL (mi k') + 11) + miW (mi k') ≤ miW x)
  | .invokespecial k' => if k' < 1000 then decide (miF (mi k') + 1 ≤ miF x ∧ 8 + (miL (mi k') + 11) + miW (mi k') ≤ miW x) else decide (1 ≤ miF x ∧ primW k' ≤ miW x)
  | .invokestatic k' => if k' < 1000 then decide (miF (mi k') + 1 ≤ miF x ∧ 8 + (miL (mi k') + 11) + miW (mi k') ≤ miW x) else decide (1 ≤ miF x ∧ primW k' ≤ miW x)
  | _ => true
def rmM (x : MI) : Bool := (miC x).all fun q => rmI x q.2
theorem fk_0 : fldT_0.all okF = true := by decide +kernel
theorem fk_1 : fldT_1.all okF = true := by decide +kernel
theorem fk_2 : fldT_2.all okF = true := by decide +kernel
theorem fk_3 : fldT_3.all okF = true := by decide +kernel
theorem fld_ok : ∀ e ∈ fldT, okF e = true := by
  intro e he
  simp only [fldT, List.mem_append] at he
  rcases he with ((h | h) | h) | h
  · exact List.all_eq_true.mp fk_0 e h
  · exact List.all_eq_true.mp fk_1 e h
  · exact List.all_eq_true.mp fk_2 e h
  · exact List.all_eq_true.mp fk_3 e h
theorem ik_0 : invT_0.all okV = true := by decide +kernel
theorem ik_1 : invT_1.all okV = true := by decide +kernel
theorem ik_2 : invT_2.all okV = true := by decide +kernel
theorem ik_3 : invT_3.all okV = true := by decide +kernel
theorem ik_4 : invT_4.all okV = true := by decide +kernel
theorem ik_5 : invT_5.all okV = true := by decide +kernel
theorem ik_6 : invT_6.all okV = true := by decide +kernel
theorem ik_7 : invT_7.all okV = true := by decide +kernel
theorem inv_ok : ∀ e ∈ invT, okV e = true := by
  intro e he
  simp only [invT, List.mem_append] at he
  rcases he with ((((((h | h) | h) | h) | h) | h) | h) | h
  · exact List.all_eq_true.mp ik_0 e h
  · exact List.all_eq_true.mp ik_1 e h
  · exact List.all_eq_true.mp ik_2 e h
  · exact List.all_eq_true.mp ik_3 e h
  · exact List.all_eq_true.mp ik_4 e h
  · exact List.all_eq_true.mp ik_5 e h
  · exact List.all_eq_true.mp ik_6 e h
  · exact List.all_eq_true.mp ik_7 e h
theorem cls_ok : ∀ e ∈ clsT, okC e = true := List.all_eq_true.mp (by decide +kernel)
theorem k_ok : ∀ e ∈ kT, okK e = true := List.all_eq_true.mp (by decide +kernel)
theorem st_ok : ∀ e ∈ stT, okS e = true := List.all_eq_true.mp (by decide +kernel)
theorem rk_0 : MIs_0.all rmM = true := by decide +kernel
theorem rk_1 : MIs_1.all rmM = true := by decide +kernel
theorem rk_2 : MIs_2.all rmM = true := by decide +kernel
theorem rk_3 : MIs_3.all rmM = true := by decide +kernel
theorem rk_4 : MIs_4.all rmM = true := by decide +kernel
theorem rk_5 : MIs_5.all rmM = true := by decide +kernel
theorem rk_6 : MIs_6.all rmM = true := by decide +kernel
theorem rk_7 : MIs_7.all rmM = true := by decide +kernel
theorem rk_8 : MIs_8.all rmM = true := by decide +kernel
theorem rk_9 : MIs_9.all rmM = true := by decide +kernel
theorem rm_all : ∀ x ∈ MIs, rmM x = true := by
  intro x hx
  simp only [MIs, List.mem_append] at hx
  rcases hx with h | h | h | h | h | h | h | h | h | h
  · exact List.all_eq_true.mp rk_0 x h
  · exact List.all_eq_true.mp rk_1 x h
  · exact List.all_eq_true.mp rk_2 x h
  · exact List.all_eq_true.mp rk_3 x h
  · exact List.all_eq_true.mp rk_4 x h
  · exact List.all_eq_true.mp rk_5 x h
  · exact List.all_eq_true.mp rk_6 x h
  · exact List.all_eq_true.mp rk_7 x h
  · exact List.all_eq_true.mp rk_8 x h
  · exact List.all_eq_true.mp rk_9 x h
def okL (r : vw_C) : Bool := (List.range r.2.2).all (fun k => decide ((parseFieldDescriptor (r.2.1 k).2.2.1).isSome = true) && (List.range r.2.2).all (fun j => decide (k = j) || decide ((r.2.1 k).2.1 ≠ (r.2.1 j).2.1)))
theorem cl_ok : ∀ r ∈ cls, okL r = true := List.all_eq_true.mp (by decide +kernel)
theorem lp_0 : ∀ w ∈ u_ws "LightDesk$Checker" F_0 3, w ∈ lw_tbl := by
  intro w hw
  refine List.mem_append_right _ ?_
  have h : ∀ k, k < 3 → u_lay "LightDesk$Checker" F_0 k ∈ tables_1 := by
    intro k hk
    have h2 : ([633, 635, 637] : List Nat)[k]?.bind (fun i => tables_1[i]?) = some (u_lay "LightDesk$Checker" F_0 k) := by
      revert k; decide +kernel
    obtain ⟨i, _, hi⟩ := Option.bind_eq_some_iff.mp h2
    exact List.mem_of_getElem? hi
  obtain ⟨k, hk, rfl⟩ := List.mem_map.mp hw
  exact h k (List.mem_range.mp hk)
theorem lp_1 : ∀ w ∈ u_ws "LightDesk$Cue" F_1 3, w ∈ lw_tbl := by
  intro w hw
  refine List.mem_append_right _ ?_
  have h : ∀ k, k < 3 → u_lay "LightDesk$Cue" F_1 k ∈ tables_1 := by
    intro k hk
    have h2 : ([92, 94, 96] : List Nat)[k]?.bind (fun i => tables_1[i]?) = some (u_lay "LightDesk$Cue" F_1 k) := by
      revert k; decide +kernel
    obtain ⟨i, _, hi⟩ := Option.bind_eq_some_iff.mp h2
    exact List.mem_of_getElem? hi
  obtain ⟨k, hk, rfl⟩ := List.mem_map.mp hw
  exact h k (List.mem_range.mp hk)
theorem lp_2 : ∀ w ∈ u_ws "LightDesk$Editor" F_2 3, w ∈ lw_tbl := by
  intro w hw
  refine List.mem_append_right _ ?_
  have h : ∀ k, k < 3 → u_lay "LightDesk$Editor" F_2 k ∈ tables_1 := by
    intro k hk
    have h2 : ([649, 651, 653] : List Nat)[k]?.bind (fun i => tables_1[i]?) = some (u_lay "LightDesk$Editor" F_2 k) := by
      revert k; decide +kernel
    obtain ⟨i, _, hi⟩ := Option.bind_eq_some_iff.mp h2
    exact List.mem_of_getElem? hi
  obtain ⟨k, hk, rfl⟩ := List.mem_map.mp hw
  exact h k (List.mem_range.mp hk)
theorem lp_3 : ∀ w ∈ u_ws "LightDesk$Player" F_3 10, w ∈ lw_tbl := by
  intro w hw
  refine List.mem_append_right _ ?_
  have h : ∀ k, k < 10 → u_lay "LightDesk$Player" F_3 k ∈ tables_1 := by
    intro k hk
    have h2 : ([215, 217, 219, 221, 223, 225, 227, 229, 231, 233] : List Nat)[k]?.bind (fun i => tables_1[i]?) = some (u_lay "LightDesk$Player" F_3 k) := by
      revert k; decide +kernel
    obtain ⟨i, _, hi⟩ := Option.bind_eq_some_iff.mp h2
    exact List.mem_of_getElem? hi
  obtain ⟨k, hk, rfl⟩ := List.mem_map.mp hw
  exact h k (List.mem_range.mp hk)
theorem lp_4 : ∀ w ∈ u_ws "LightDesk$Reader" F_4 10, w ∈ lw_tbl := by
  intro w hw
  refine List.mem_append_right _ ?_
  have h : ∀ k, k < 10 → u_lay "LightDesk$Reader" F_4 k ∈ tables_1 := by
    intro k hk
    have h2 : ([602, 604, 606, 608, 610, 612, 614, 616, 618, 620] : List Nat)[k]?.bind (fun i => tables_1[i]?) = some (u_lay "LightDesk$Reader" F_4 k) := by
      revert k; decide +kernel
    obtain ⟨i, _, hi⟩ := Option.bind_eq_some_iff.mp h2
    exact List.mem_of_getElem? hi
  obtain ⟨k, hk, rfl⟩ := List.mem_map.mp hw
  exact h k (List.mem_range.mp hk)
theorem lp_5 : ∀ w ∈ u_ws "LightDesk$Row" F_5 2, w ∈ lw_tbl := by
  intro w hw
  refine List.mem_append_right _ ?_
  have h : ∀ k, k < 2 → u_lay "LightDesk$Row" F_5 k ∈ tables_1 := by
    intro k hk
    have h2 : ([64, 66] : List Nat)[k]?.bind (fun i => tables_1[i]?) = some (u_lay "LightDesk$Row" F_5 k) := by
      revert k; decide +kernel
    obtain ⟨i, _, hi⟩ := Option.bind_eq_some_iff.mp h2
    exact List.mem_of_getElem? hi
  obtain ⟨k, hk, rfl⟩ := List.mem_map.mp hw
  exact h k (List.mem_range.mp hk)
theorem lp_6 : ∀ w ∈ u_ws "LightDesk$Saver" F_6 6, w ∈ lw_tbl := by
  intro w hw
  refine List.mem_append_right _ ?_
  have h : ∀ k, k < 6 → u_lay "LightDesk$Saver" F_6 k ∈ tables_1 := by
    intro k hk
    have h2 : ([671, 673, 675, 677, 679, 681] : List Nat)[k]?.bind (fun i => tables_1[i]?) = some (u_lay "LightDesk$Saver" F_6 k) := by
      revert k; decide +kernel
    obtain ⟨i, _, hi⟩ := Option.bind_eq_some_iff.mp h2
    exact List.mem_of_getElem? hi
  obtain ⟨k, hk, rfl⟩ := List.mem_map.mp hw
  exact h k (List.mem_range.mp hk)
theorem lp_7 : ∀ w ∈ u_ws "LightDesk$Show" F_7 13, w ∈ lw_tbl := by
  intro w hw
  refine List.mem_append_right _ ?_
  have h : ∀ k, k < 13 → u_lay "LightDesk$Show" F_7 k ∈ tables_1 := by
    intro k hk
    have h2 : ([162, 164, 166, 168, 170, 172, 174, 176, 178, 180, 182, 184, 186] : List Nat)[k]?.bind (fun i => tables_1[i]?) = some (u_lay "LightDesk$Show" F_7 k) := by
      revert k; decide +kernel
    obtain ⟨i, _, hi⟩ := Option.bind_eq_some_iff.mp h2
    exact List.mem_of_getElem? hi
  obtain ⟨k, hk, rfl⟩ := List.mem_map.mp hw
  exact h k (List.mem_range.mp hk)
theorem lp_8 : ∀ w ∈ u_ws "LightDesk$Stage" F_8 8, w ∈ lw_tbl := by
  intro w hw
  refine List.mem_append_right _ ?_
  have h : ∀ k, k < 8 → u_lay "LightDesk$Stage" F_8 k ∈ tables_1 := by
    intro k hk
    have h2 : ([257, 259, 261, 263, 265, 267, 269, 271] : List Nat)[k]?.bind (fun i => tables_1[i]?) = some (u_lay "LightDesk$Stage" F_8 k) := by
      revert k; decide +kernel
    obtain ⟨i, _, hi⟩ := Option.bind_eq_some_iff.mp h2
    exact List.mem_of_getElem? hi
  obtain ⟨k, hk, rfl⟩ := List.mem_map.mp hw
  exact h k (List.mem_range.mp hk)
theorem lp_9 : ∀ w ∈ u_ws "LightDesk$Statement" F_9 12, w ∈ lw_tbl := by
  intro w hw
  refine List.mem_append_right _ ?_
  have h : ∀ k, k < 12 → u_lay "LightDesk$Statement" F_9 k ∈ tables_1 := by
    intro k hk
    have h2 : ([561, 563, 565, 567, 569, 571, 573, 575, 577, 579, 581, 583] : List Nat)[k]?.bind (fun i => tables_1[i]?) = some (u_lay "LightDesk$Statement" F_9 k) := by
      revert k; decide +kernel
    obtain ⟨i, _, hi⟩ := Option.bind_eq_some_iff.mp h2
    exact List.mem_of_getElem? hi
  obtain ⟨k, hk, rfl⟩ := List.mem_map.mp hw
  exact h k (List.mem_range.mp hk)
theorem lp_10 : ∀ w ∈ u_ws "LightDesk$Words" F_10 2, w ∈ lw_tbl := by
  intro w hw
  refine List.mem_append_right _ ?_
  have h : ∀ k, k < 2 → u_lay "LightDesk$Words" F_10 k ∈ tables_1 := by
    intro k hk
    have h2 : ([518, 520] : List Nat)[k]?.bind (fun i => tables_1[i]?) = some (u_lay "LightDesk$Words" F_10 k) := by
      revert k; decide +kernel
    obtain ⟨i, _, hi⟩ := Option.bind_eq_some_iff.mp h2
    exact List.mem_of_getElem? hi
  obtain ⟨k, hk, rfl⟩ := List.mem_map.mp hw
  exact h k (List.mem_range.mp hk)
theorem lp_11 : ∀ w ∈ u_ws "LightDesk" F_11 15, w ∈ lw_tbl := by
  intro w hw
  refine List.mem_append_right _ ?_
  have h : ∀ k, k < 15 → u_lay "LightDesk" F_11 k ∈ tables_1 := by
    intro k hk
    have h2 : ([699, 701, 703, 705, 707, 709, 711, 713, 715, 717, 719, 721, 723, 725, 727] : List Nat)[k]?.bind (fun i => tables_1[i]?) = some (u_lay "LightDesk" F_11 k) := by
      revert k; decide +kernel
    obtain ⟨i, _, hi⟩ := Option.bind_eq_some_iff.mp h2
    exact List.mem_of_getElem? hi
  obtain ⟨k, hk, rfl⟩ := List.mem_map.mp hw
  exact h k (List.mem_range.mp hk)
theorem lp_12 : ∀ w ∈ u_ws "LightDeskModel" F_12 41, w ∈ lw_tbl := by
  intro w hw
  refine List.mem_append_right _ ?_
  have h : ∀ k, k < 41 → u_lay "LightDeskModel" F_12 k ∈ tables_1 := by
    intro k hk
    have h2 : ([1588, 1590, 1592, 1594, 1596, 1598, 1600, 1602, 1604, 1606, 1608, 1610, 1612, 1614, 1616, 1618, 1620, 1622, 1624, 1626, 1628, 1630, 1632, 1634, 1636, 1638, 1640, 1642, 1644, 1646, 1648, 1650, 1652, 1654, 1656, 1658, 1660, 1662, 1664, 1666, 1668] : List Nat)[k]?.bind (fun i => tables_1[i]?) = some (u_lay "LightDeskModel" F_12 k) := by
      revert k; decide +kernel
    obtain ⟨i, _, hi⟩ := Option.bind_eq_some_iff.mp h2
    exact List.mem_of_getElem? hi
  obtain ⟨k, hk, rfl⟩ := List.mem_map.mp hw
  exact h k (List.mem_range.mp hk)
theorem lp_13 : ∀ w ∈ u_ws "java/lang/StringBuilder" F_13 4, w ∈ lw_tbl := by
  intro w hw
  refine List.mem_append_right _ ?_
  have h : ∀ k, k < 4 → u_lay "java/lang/StringBuilder" F_13 k ∈ tables_1 := by
    intro k hk
    have h2 : ([303, 305, 307, 309] : List Nat)[k]?.bind (fun i => tables_1[i]?) = some (u_lay "java/lang/StringBuilder" F_13 k) := by
      revert k; decide +kernel
    obtain ⟨i, _, hi⟩ := Option.bind_eq_some_iff.mp h2
    exact List.mem_of_getElem? hi
  obtain ⟨k, hk, rfl⟩ := List.mem_map.mp hw
  exact h k (List.mem_range.mp hk)
theorem lp_14 : ∀ w ∈ u_ws "java/lang/String" F_14 4, w ∈ lw_tbl := by
  intro w hw
  refine List.mem_append_right _ ?_
  have h : ∀ k, k < 4 → u_lay "java/lang/String" F_14 k ∈ tables_1 := by
    intro k hk
    have h2 : ([487, 489, 491, 493] : List Nat)[k]?.bind (fun i => tables_1[i]?) = some (u_lay "java/lang/String" F_14 k) := by
      revert k; decide +kernel
    obtain ⟨i, _, hi⟩ := Option.bind_eq_some_iff.mp h2
    exact List.mem_of_getElem? hi
  obtain ⟨k, hk, rfl⟩ := List.mem_map.mp hw
  exact h k (List.mem_range.mp hk)
theorem lays_in : ∀ r ∈ cls, ∀ w ∈ u_ws r.1 r.2.1 r.2.2, w ∈ lw_tbl := by
  unfold cls
  exact List.forall_mem_cons.mpr ⟨lp_0, List.forall_mem_cons.mpr ⟨lp_1, List.forall_mem_cons.mpr ⟨lp_2, List.forall_mem_cons.mpr ⟨lp_3, List.forall_mem_cons.mpr ⟨lp_4, List.forall_mem_cons.mpr ⟨lp_5, List.forall_mem_cons.mpr ⟨lp_6, List.forall_mem_cons.mpr ⟨lp_7, List.forall_mem_cons.mpr ⟨lp_8, List.forall_mem_cons.mpr ⟨lp_9, List.forall_mem_cons.mpr ⟨lp_10, List.forall_mem_cons.mpr ⟨lp_11, List.forall_mem_cons.mpr ⟨lp_12, List.forall_mem_cons.mpr ⟨lp_13, List.forall_mem_cons.mpr ⟨lp_14, fun _ h => absurd h List.not_mem_nil⟩⟩⟩⟩⟩⟩⟩⟩⟩⟩⟩⟩⟩⟩⟩
theorem lg_0 : (u_ws "LightDesk$Checker" F_0 3).all goodWord = true := by decide +kernel
theorem lg_1 : (u_ws "LightDesk$Cue" F_1 3).all goodWord = true := by decide +kernel
theorem lg_2 : (u_ws "LightDesk$Editor" F_2 3).all goodWord = true := by decide +kernel
theorem lg_3 : (u_ws "LightDesk$Player" F_3 10).all goodWord = true := by decide +kernel
theorem lg_4 : (u_ws "LightDesk$Reader" F_4 10).all goodWord = true := by decide +kernel
theorem lg_5 : (u_ws "LightDesk$Row" F_5 2).all goodWord = true := by decide +kernel
theorem lg_6 : (u_ws "LightDesk$Saver" F_6 6).all goodWord = true := by decide +kernel
theorem lg_7 : (u_ws "LightDesk$Show" F_7 13).all goodWord = true := by decide +kernel
theorem lg_8 : (u_ws "LightDesk$Stage" F_8 8).all goodWord = true := by decide +kernel
theorem lg_9 : (u_ws "LightDesk$Statement" F_9 12).all goodWord = true := by decide +kernel
theorem lg_10 : (u_ws "LightDesk$Words" F_10 2).all goodWord = true := by decide +kernel
theorem lg_11 : (u_ws "LightDesk" F_11 15).all goodWord = true := by decide +kernel
theorem lg_12 : (u_ws "LightDeskModel" F_12 41).all goodWord = true := by decide +kernel
theorem lg_13 : (u_ws "java/lang/StringBuilder" F_13 4).all goodWord = true := by decide +kernel
theorem lg_14 : (u_ws "java/lang/String" F_14 4).all goodWord = true := by decide +kernel
def Tg : List Cond := lw_tbl.filter goodWord
theorem lays_good : ∀ r ∈ cls, ∀ w ∈ u_ws r.1 r.2.1 r.2.2, w ∈ Tg := by
  intro r hr w hw
  have h : ∀ r ∈ cls, (u_ws r.1 r.2.1 r.2.2).all goodWord = true := by
    unfold cls
    exact List.forall_mem_cons.mpr ⟨lg_0, List.forall_mem_cons.mpr ⟨lg_1, List.forall_mem_cons.mpr ⟨lg_2, List.forall_mem_cons.mpr ⟨lg_3, List.forall_mem_cons.mpr ⟨lg_4, List.forall_mem_cons.mpr ⟨lg_5, List.forall_mem_cons.mpr ⟨lg_6, List.forall_mem_cons.mpr ⟨lg_7, List.forall_mem_cons.mpr ⟨lg_8, List.forall_mem_cons.mpr ⟨lg_9, List.forall_mem_cons.mpr ⟨lg_10, List.forall_mem_cons.mpr ⟨lg_11, List.forall_mem_cons.mpr ⟨lg_12, List.forall_mem_cons.mpr ⟨lg_13, List.forall_mem_cons.mpr ⟨lg_14, fun _ h => absurd h List.not_mem_nil⟩⟩⟩⟩⟩⟩⟩⟩⟩⟩⟩⟩⟩⟩⟩
  exact List.mem_filter.mpr ⟨lays_in r hr w hw, List.all_eq_true.mp (h r hr) w hw⟩
