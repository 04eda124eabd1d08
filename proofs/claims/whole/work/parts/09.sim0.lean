-- the simulation: its statement, and what every step uses
def hdpc (c : Cd) : Nat := match c with
  | [] => 0
  | q :: _ => q.1
def Sfx (k : Nat) (c : Cd) : Prop := ∃ pre, codeOf k = pre ++ c
abbrev AA (b0 : Nat) : Nat → Prop := fun q => b0 ≤ q
def tysL (tc : Nat → ClassId) : List (ClassId × FieldType) := [(tc 100, .int), (tc 101, .byte), (tc 102, .boolean), (tc 103, .char), (tc 104, .long), (tc 110, .array .int), (tc 121, .object "LightDesk$Cue"), (tc 125, .object "LightDesk$Row"), (tc 127, .object "LightDesk$Show")]
abbrev Par : Type := va_G × (Nat → ClassId) × Nat × (Int → Int → Int) × Int × (Int → Nat)
abbrev pD (P : Par) : va_G := P.1
abbrev pT (P : Par) : Nat → ClassId := P.2.1
abbrev pB (P : Par) : Nat := P.2.2.1
abbrev pX (P : Par) : Int → Int → Int := P.2.2.2.1
abbrev pL (P : Par) : Int := P.2.2.2.2.1
abbrev pA (P : Par) : Int → Nat := P.2.2.2.2.2
def aoaW (U : State) : Prop := (Cond.arrayOver (.array .int)).before #[] U = true
def isNest : Cond → Bool
  | .fieldLinkNest .. => true
  | .methodLinkNest .. => true
  | .privateMethod _ => true
  | _ => false
/-- what is known at a state: classes, statics, the script, the text constants -/
def KN (P : Par) (s : State) : Prop := (∀ w ∈ lw_tbl, isNest w = true → va_Nw w s) ∧ va_AO "LightDesk$Cue" s ∧ va_AO "LightDesk$Row" s ∧ va_AO "LightDesk$Show" s ∧ aoaW s ∧ va_K (pD P) cls (tysL (pT P)) s ∧ pB P ≤ s.heap.size ∧
  (∀ (j : Nat) (r : String × String × String), j < 6 → stN[j]? = some r → va_Z r.1 r.2.1 r.2.2 (.ref (pA P (-(j : Int) - 1))) (AA (pB P)) s s.heap) ∧
  (∀ j : Nat, j < 6 → va_T .int (pA P (-(j : Int) - 1)) (ln (-(j : Int) - 1)).toNat (fun (i : Nat) => .int (Int32.ofInt (pX P (-(j : Int) - 1) i))) (AA (pB P)) s s.heap) ∧
  va_Z "java/lang/String" "COMPACT_STRINGS" "Z" (.int 1) (AA (pB P)) s s.heap ∧
  va_X (pA P (-7)) (pL P).toNat (fun (j : Nat) => Int32.ofInt (pX P (-7) j)) s s.heap ∧ pA P (-7) < pB P ∧ 0 ≤ pL P ∧ pL P < 2147483648 ∧ (∀ o j, R32 (pX P o j)) ∧
  (∀ j : Nat, j < 4 → va_O "java/lang/String" (pA P (-(10 + (j : Int)))) (AA (pB P)) s s.heap ∧ va_OF "java/lang/String" "coder" "B" (.int 0) (pA P (-(10 + (j : Int)))) (AA (pB P)) s s.heap ∧ va_OF "java/lang/String" "value" "[B" (.ref (pA P (-(20 + (j : Int))))) (pA P (-(10 + (j : Int)))) (AA (pB P)) s s.heap ∧ va_T .byte (pA P (-(20 + (j : Int)))) (ln (-(20 + (j : Int)))).toNat (fun (i : Nat) => .int (Int32.ofInt (pX P (-(20 + (j : Int))) i))) (AA (pB P)) s s.heap) ∧
  (∀ (e : Nat × Nat × Nat × Nat) (r : String), e ∈ strT → strN[e.2.2.1]? = some r → vk_R (own e.1) e.2.1 r (pA P (-(10 + (e.2.2.1 : Int)))) s) ∧
  (∀ j i : Int, 20 ≤ j → j < 24 → -128 ≤ pX P (-j) i ∧ pX P (-j) i ≤ 127) ∧ (∀ j : Int, 10 ≤ j → j < 14 → pX P (-j) 0 = -(j + 10) ∧ pX P (-j) 1 = 0)
theorem KN.nest {P : Par} {s : State} (h : KN P s) : (∀ w ∈ lw_tbl, isNest w = true → va_Nw w s) := h.1
theorem KN.aoC {P : Par} {s : State} (h : KN P s) : va_AO "LightDesk$Cue" s := h.2.1
theorem KN.aoR {P : Par} {s : State} (h : KN P s) : va_AO "LightDesk$Row" s := h.2.2.1
theorem KN.aoS {P : Par} {s : State} (h : KN P s) : va_AO "LightDesk$Show" s := h.2.2.2.1
theorem KN.aoa {P : Par} {s : State} (h : KN P s) : aoaW s := h.2.2.2.2.1
theorem KN.vk {P : Par} {s : State} (h : KN P s) : va_K (pD P) cls (tysL (pT P)) s := h.2.2.2.2.2.1
theorem KN.sz {P : Par} {s : State} (h : KN P s) : pB P ≤ s.heap.size := h.2.2.2.2.2.2.1
theorem KN.z {P : Par} {s : State} (h : KN P s) : (∀ (j : Nat) (r : String × String × String), j < 6 → stN[j]? = some r → va_Z r.1 r.2.1 r.2.2 (.ref (pA P (-(j : Int) - 1))) (AA (pB P)) s s.heap) := h.2.2.2.2.2.2.2.1
theorem KN.t {P : Par} {s : State} (h : KN P s) : (∀ j : Nat, j < 6 → va_T .int (pA P (-(j : Int) - 1)) (ln (-(j : Int) - 1)).toNat (fun (i : Nat) => .int (Int32.ofInt (pX P (-(j : Int) - 1) i))) (AA (pB P)) s s.heap) := h.2.2.2.2.2.2.2.2.1
theorem KN.zc {P : Par} {s : State} (h : KN P s) : va_Z "java/lang/String" "COMPACT_STRINGS" "Z" (.int 1) (AA (pB P)) s s.heap := h.2.2.2.2.2.2.2.2.2.1
theorem KN.x {P : Par} {s : State} (h : KN P s) : va_X (pA P (-7)) (pL P).toNat (fun (j : Nat) => Int32.ofInt (pX P (-7) j)) s s.heap := h.2.2.2.2.2.2.2.2.2.2.1
theorem KN.xlt {P : Par} {s : State} (h : KN P s) : pA P (-7) < pB P := h.2.2.2.2.2.2.2.2.2.2.2.1
theorem KN.l0 {P : Par} {s : State} (h : KN P s) : 0 ≤ pL P := h.2.2.2.2.2.2.2.2.2.2.2.2.1
theorem KN.l1 {P : Par} {s : State} (h : KN P s) : pL P < 2147483648 := h.2.2.2.2.2.2.2.2.2.2.2.2.2.1
theorem KN.r {P : Par} {s : State} (h : KN P s) : (∀ o j, R32 (pX P o j)) := h.2.2.2.2.2.2.2.2.2.2.2.2.2.2.1
theorem KN.str {P : Par} {s : State} (h : KN P s) : (∀ j : Nat, j < 4 → va_O "java/lang/String" (pA P (-(10 + (j : Int)))) (AA (pB P)) s s.heap ∧ va_OF "java/lang/String" "coder" "B" (.int 0) (pA P (-(10 + (j : Int)))) (AA (pB P)) s s.heap ∧ va_OF "java/lang/String" "value" "[B" (.ref (pA P (-(20 + (j : Int))))) (pA P (-(10 + (j : Int)))) (AA (pB P)) s s.heap ∧ va_T .byte (pA P (-(20 + (j : Int)))) (ln (-(20 + (j : Int)))).toNat (fun (i : Nat) => .int (Int32.ofInt (pX P (-(20 + (j : Int))) i))) (AA (pB P)) s s.heap) := h.2.2.2.2.2.2.2.2.2.2.2.2.2.2.2.1
theorem KN.strT {P : Par} {s : State} (h : KN P s) : (∀ (e : Nat × Nat × Nat × Nat) (r : String), e ∈ strT → strN[e.2.2.1]? = some r → vk_R (own e.1) e.2.1 r (pA P (-(10 + (e.2.2.1 : Int)))) s) := h.2.2.2.2.2.2.2.2.2.2.2.2.2.2.2.2.1
theorem KN.byt {P : Par} {s : State} (h : KN P s) : (∀ j i : Int, 20 ≤ j → j < 24 → -128 ≤ pX P (-j) i ∧ pX P (-j) i ≤ 127) := h.2.2.2.2.2.2.2.2.2.2.2.2.2.2.2.2.2.1
theorem KN.xs {P : Par} {s : State} (h : KN P s) : (∀ j : Int, 10 ≤ j → j < 14 → pX P (-j) 0 = -(j + 10) ∧ pX P (-j) 1 = 0) := h.2.2.2.2.2.2.2.2.2.2.2.2.2.2.2.2.2.2
def CX (P : Par) (k : Nat) (p : Program) (s : State) (m : MethodId) (args : Array Value) (meth : Method) (c : Code) (R : Room) : Prop :=
  p.tables.exec = Jvm.exec ∧ c.code = miB (mi k) ∧ c.maxLocals = miL (mi k) ∧ s.vm.findClass (own (miO (mi k))) = some m.cls ∧ (∀ w ∈ Tg, w.before args s = true) ∧
  meth.sig.returnType = miR (mi k) ∧ meth.locks = false ∧ meth.name = (miY (mi k)).name ∧ KN P s ∧ miF (mi k) ≤ R.frames ∧ miW (mi k) ≤ R.locals
theorem CX.kn {P : Par} {k : Nat} {p : Program} {s : State} {m : MethodId} {args : Array Value} {meth : Method} {c : Code} {R : Room} (h : CX P k p s m args meth c R) : KN P s := h.2.2.2.2.2.2.2.2.1
def WD (P : Par) (adr : Int → Nat) (μ : Mem) (s : State) (H : Heap) (locs : List Loc) : Prop :=
  va_P (pD P) cls (wsOf (pT P) adr μ) H ∧ va_D (AA (pB P)) (wsOf (pT P) adr μ) ∧ va_S (AA (pB P)) s.heap H locs ∧ RG (pX P) (pL P) μ ∧ (∀ o, o < 0 → adr o = pA P o)
def LR (adr : Int → Nat) (n : Int) (nL : Nat) (L : LV) (ls : Array Slot) : Prop := L.length = nL ∧ ls.size = nL ∧ lv_wf ls ∧ ∀ (j : Nat) (v : SV), L[j]? = some (some v) → ls[j]? = some (Slot.val (tv adr v)) ∧ okv n v
def sl : Nat → Nat
  | 0 => 0
  | n + 1 => sl n + (ln ((n : Int) + 1)).toNat
def nO (μ : Mem) : Nat := (μ 0 0).toNat
def oko (n : Int) : Option SV → Prop
  | none => True
  | some v => okv n v
def hQ (P : Par) (adr : Int → Nat) (μ : Mem) (r : Res) (s : State) (args : Array Value) (Qc : Array Value → State → Outcome → State → Prop) : Prop :=
  ∀ (adr' : Int → Nat) (t : State), (∀ o, o ≤ μ 0 0 → adr' o = adr o) → va_P (pD P) cls (wsOf (pT P) adr' r.2) t.heap → va_D (AA (pB P)) (wsOf (pT P) adr' r.2) → RG (pX P) (pL P) r.2 → oko (r.2 0 0) r.1 → va_F (AA (pB P)) s t → s.WarmedH t.vm → Qc args s (.returned (r.1.map (tv adr'))) t
def RM (μ : Mem) (r : Res) (R : Room) (cells slots mc ms : Nat) : Prop := μ 0 0 ≤ r.2 0 0 ∧ cells + nO r.2 = mc + nO μ ∧ slots + sl (nO r.2) = ms + sl (nO μ) ∧ mc ≤ R.cells ∧ ms ≤ R.slots
def SIM (P : Par) (k : Nat) (c : Cd) (L : LV) (st : List SV) (μ : Mem) (r : Res) : Prop :=
  ∀ (p : Program) (l : Launch) (e : Env) (R : Room) (s : State) (m : MethodId) (args : Array Value) (below : List Frame) (meth : Method) (c0 : Code) (H : Heap) (locs : List Loc) (cells slots : Nat) (ls : Array Slot) (adr : Int → Nat) (Qc : Array Value → State → Outcome → State → Prop) (mc ms : Nat),
    CX P k p s m args meth c0 R → WD P adr μ s H locs → LR adr (μ 0 0) (miL (mi k)) L ls → (∀ v ∈ st, okv (μ 0 0) v) → RM μ r R cells slots mc ms → hQ P adr μ r s args Qc →
    W p l e R s m args below meth c0 H locs cells slots (MQ below Qc args s mc ms (AA (pB P))) (F0 m (hdpc c) ls (st.map (tv adr)))
abbrev IHn (P : Par) (n : Nat) : Prop := ∀ k c L st μ r, run n k c L st μ = some r → Sfx k c → SIM P k c L st μ r
theorem run_ne {n k : Nat} {c : Cd} {L : LV} {st : List SV} {μ : Mem} {r : Res} (h : run n k c L st μ = some r) : c ≠ [] := by
  rintro rfl
  cases n <;> simp [run] at h
theorem sfx_spec (c : Cd) (t : Nat) : sfx c t = [] ∨ (hdpc (sfx c t) = t ∧ ∃ pre, c = pre ++ sfx c t) := by
  induction c with
  | nil => exact Or.inl rfl
  | cons q c ih =>
    unfold sfx
    by_cases h : q.1 = t
    · rw [if_pos h]
      exact Or.inr ⟨h, [], rfl⟩
    · rw [if_neg h]
      rcases ih with h1 | ⟨h1, pre, h2⟩
      · exact Or.inl h1
      · exact Or.inr ⟨h1, q :: pre, by rw [List.cons_append, ← h2]⟩
theorem jmp_at {n k : Nat} {t : Int} {L : LV} {st : List SV} {μ : Mem} {r : Res} (h : run n k (jmp k t) L st μ = some r) : hdpc (jmp k t) = t.toNat ∧ Sfx k (jmp k t) := by
  rcases sfx_spec (codeOf k) t.toNat with h1 | ⟨h1, h2⟩
  · exact absurd h1 (run_ne h)
  · exact ⟨h1, h2⟩
theorem Sfx.tail {k : Nat} {q : Nat × Instr} {c : Cd} (h : Sfx k (q :: c)) : Sfx k c := by
  obtain ⟨pre, h⟩ := h
  exact ⟨pre ++ [q], by rw [h, List.append_assoc]; rfl⟩
theorem mi_mem {k : Nat} {q : Nat × Instr} {c : Cd} (h : Sfx k (q :: c)) : mi k ∈ MIs := by
  obtain ⟨pre, h⟩ := h
  unfold codeOf at h
  unfold mi at h ⊢
  by_cases hk : k < MIs.length
  · rw [List.getD_eq_getElem?_getD, List.getElem?_eq_getElem hk]
    exact List.getElem_mem hk
  · rw [List.getD_eq_getElem?_getD, List.getElem?_eq_none (by omega)] at h
    have h2 : ([] : Cd) = pre ++ q :: c := h
    simp at h2
/-- the check of the head of a suffix -/
theorem okI_at {k pc : Nat} {i : Instr} {c : Cd} (h : Sfx k ((pc, i) :: c)) (hc : c ≠ []) : okI (miO (mi k)) (miB (mi k)) pc i (hdpc c) = true := by
  have hm := (ck_all _ (mi_mem h)).1
  obtain ⟨pre, h⟩ := h
  have h1 := hm pre.length (by show pre.length < (codeOf k).length; rw [h]; simp)
  unfold chkAt at h1
  have h2 : (miC (mi k)).drop pre.length = (pc, i) :: c := by
    show (codeOf k).drop pre.length = _
    rw [h]
    simp
  rw [h2] at h1
  cases c with
  | nil => exact absurd rfl hc
  | cons q c => exact h1
theorem okI_last {k pc : Nat} {i : Instr} {c : Cd} (h : Sfx k ((pc, i) :: c)) : ∃ nx, okI (miO (mi k)) (miB (mi k)) pc i nx = true := by
  by_cases hc : c = []
  · subst hc
    have hm := (ck_all _ (mi_mem h)).1
    obtain ⟨pre, h⟩ := h
    have h1 := hm pre.length (by show pre.length < (codeOf k).length; rw [h]; simp)
    unfold chkAt at h1
    have h2 : (miC (mi k)).drop pre.length = [(pc, i)] := by
      show (codeOf k).drop pre.length = _
      rw [h]
      simp
    rw [h2] at h1
    exact ⟨_, h1⟩
  · exact ⟨_, okI_at h hc⟩
theorem dcd_spec {b : ByteArray} {pc len nx : Nat} {raw : Instr} (h : dcd b pc raw len nx = true) : decode b pc = .ok (raw, len) ∧ nx = pc + len := by
  unfold dcd at h
  rw [Bool.and_eq_true, decide_eq_true_eq, beq_iff_eq] at h
  exact h
