def insP : List Nat := [624, 71, 641, 191, 587, 50, 657, 33, 237, 525, 276, 25, 1471, 282, 441]
-- more that the code keeps to, decided instruction by instruction
def isFin (n : Nat) : Bool := match cls[n / 512]? with
  | none => true
  | some r => (r.2.1 (n / 8 % 64)).2.2.2
def declF (n : Nat) : String := match cls[n / 512]? with
  | none => ""
  | some r => (r.2.1 (n / 8 % 64)).1
def msI (x : MI) (i : Instr) : Bool := match i with
  | .iconst v => decide (-2147483648 ≤ v ∧ v < 2147483648)
  | .sipush v => decide (-9223372036854775808 ≤ v ∧ v < 9223372036854775808)
  | .putfield n => !isFin n || (decide ((miY x).name = "<init>") && decide (declF n = (miY x).cls) && (fldT.all fun e => !(e.1 == miO x && e.2.2.1 == n) || e.2.2.2.1 == 0))
  | .ireturn => (miT x == 1 && decide (miR x = some .int)) || (miT x == 2 && decide (miR x = some .boolean)) || (miT x == 3 && decide (miR x = some .byte))
  | .areturn => match miR x with
    | some (.object _) => true
    | some (.array _) => true
    | _ => false
  | .return_ => decide (miR x = none)
  | .getstatic j => decide (j < 7)
  | .ldc j => decide (j < 4)
  | .new ci => decide (ci < 15) && isIni ci (cls.getD ci ("", F_0, 0)).1 && insP.any (fun p => decide (tables_1[p]? = some (.instantiable (cls.getD ci ("", F_0, 0)).1 (cls.getD ci ("", F_0, 0)).2.2)))
  | .anewarray ci => ci == 1 || ci == 5 || ci == 7
  | _ => true
def msM (x : MI) : Bool := ((miC x).all fun q => msI x q.2) && decide (own (miO x) = (miY x).cls)
def isKi (e : Nat × Nat × Int × Nat) : Bool := decide (tables_1[e.2.2.2]? = some (.constant (own e.1) e.2.1 (Int32.ofInt e.2.2.1)))
def isKl (e : Nat × Nat × Int × Nat) : Bool := decide (tables_1[e.2.2.2]? = some (.constantLong (own e.1) e.2.1 (Int64.ofInt e.2.2.1)))
def kiI (x : MI) (q : Nat × Instr) : Bool := match q.2 with
  | .iconst v => kT.all fun e => !(e.1 == miO x && e.2.2.1 == v) || (!decide (decode (miB x) q.1 = .ok (.ldc e.2.1, 2)) && !decide (decode (miB x) q.1 = .ok (.ldc_w e.2.1, 3))) || isKi e
  | .sipush v => kT.all fun e => !(e.1 == miO x && e.2.2.1 == v) || isKl e
  | _ => true
def kiM (x : MI) : Bool := (miC x).all (kiI x)
theorem ki_0 : MIs_0.all kiM = true := by decide +kernel
theorem ki_1 : MIs_1.all kiM = true := by decide +kernel
theorem ki_2 : MIs_2.all kiM = true := by decide +kernel
theorem ki_3 : MIs_3.all kiM = true := by decide +kernel
theorem ki_4 : MIs_4.all kiM = true := by decide +kernel
theorem ki_5 : MIs_5.all kiM = true := by decide +kernel
theorem ki_6 : MIs_6.all kiM = true := by decide +kernel
theorem ki_7 : MIs_7.all kiM = true := by decide +kernel
theorem ki_8 : MIs_8.all kiM = true := by decide +kernel
theorem ki_9 : MIs_9.all kiM = true := by decide +kernel
theorem ki_all : ∀ x ∈ MIs, kiM x = true := by
  intro x hx
  simp only [MIs, List.mem_append] at hx
  rcases hx with h | h | h | h | h | h | h | h | h | h
  · exact List.all_eq_true.mp ki_0 x h
  · exact List.all_eq_true.mp ki_1 x h
  · exact List.all_eq_true.mp ki_2 x h
  · exact List.all_eq_true.mp ki_3 x h
  · exact List.all_eq_true.mp ki_4 x h
  · exact List.all_eq_true.mp ki_5 x h
  · exact List.all_eq_true.mp ki_6 x h
  · exact List.all_eq_true.mp ki_7 x h
  · exact List.all_eq_true.mp ki_8 x h
  · exact List.all_eq_true.mp ki_9 x h
theorem ms_0 : MIs_0.all msM = true := by decide +kernel
theorem ms_1 : MIs_1.all msM = true := by decide +kernel
theorem ms_2 : MIs_2.all msM = true := by decide +kernel
theorem ms_3 : MIs_3.all msM = true := by decide +kernel
theorem ms_4 : MIs_4.all msM = true := by decide +kernel
theorem ms_5 : MIs_5.all msM = true := by decide +kernel
theorem ms_6 : MIs_6.all msM = true := by decide +kernel
theorem ms_7 : MIs_7.all msM = true := by decide +kernel
theorem ms_8 : MIs_8.all msM = true := by decide +kernel
theorem ms_9 : MIs_9.all msM = true := by decide +kernel
theorem ms_all : ∀ x ∈ MIs, msM x = true := by
  intro x hx
  simp only [MIs, List.mem_append] at hx
  rcases hx with h | h | h | h | h | h | h | h | h | h
  · exact List.all_eq_true.mp ms_0 x h
  · exact List.all_eq_true.mp ms_1 x h
  · exact List.all_eq_true.mp ms_2 x h
  · exact List.all_eq_true.mp ms_3 x h
  · exact List.all_eq_true.mp ms_4 x h
  · exact List.all_eq_true.mp ms_5 x h
  · exact List.all_eq_true.mp ms_6 x h
  · exact List.all_eq_true.mp ms_7 x h
  · exact List.all_eq_true.mp ms_8 x h
  · exact List.all_eq_true.mp ms_9 x h
