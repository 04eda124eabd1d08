-- calls: what goes over, and a method's contract out of the simulation
theorem KN_go {P : Par} {s U : State} (hW : s.WarmedH U.vm) (hz : s.heap.size ≤ U.heap.size) (hk : ∀ a : Nat, a < s.heap.size → ¬ AA (pB P) a → U.heap[a]? = s.heap[a]?) (h : KN P s) : KN P U := by
  have hA := hW.alike
  refine ⟨fun w hw hn => ?_, h.aoC.moved hA, h.aoR.moved hA, h.aoS.moved hA, ?_, h.vk.moved hA, Nat.le_trans h.sz hz, fun j r hj hr => ((h.z j r hj hr).moved hA).kept hk, fun j hj => ((h.t j hj).moved hA).kept hk, (h.zc.moved hA).kept hk, ?_, h.xlt, h.l0, h.l1, h.r, fun j hj => ?_, fun e r he hr => (h.strT e r he hr).warm hW, h.byt, h.xs⟩
  · have h1 := h.nest w hw hn
    unfold isNest at hn
    split at hn
    · exact va_Nw.warmF hW h1
    · exact va_Nw.warmM hW h1
    · exact Jvm.Cond.privateMethod_warm hW h1
    · cases hn
  · exact Jvm.Stand.arrayOver_alikeB hA h.aoa
  · have h1 := h.xlt
    have h2 := h.sz
    exact (h.x.moved hA).kept (hk _ (by omega) (by show ¬ pB P ≤ _; omega))
  · obtain ⟨h1, h2, h3, h4⟩ := h.str j hj
    exact ⟨(h1.moved hA).kept hk, (h2.moved hA).kept hk, (h3.moved hA).kept hk, (h4.moved hA).kept hk⟩
abbrev wsK (k : Nat) : List Cond := Cond.code (miY (mi k)) (miB (mi k)) (miL (mi k)) (miR (mi k)) :: Tg
def rmK (k mc ms : Nat) : Room := { frames := miF (mi k), cells := mc, slots := ms, locals := miW (mi k) }
def PcK (P : Par) (adr : Int → Nat) (μ : Mem) (vs : List SV) : Array Value → State → Prop := fun a U => a = (vs.map (tv adr)).toArray ∧ va_P (pD P) cls (wsOf (pT P) adr μ) U.heap ∧ va_D (AA (pB P)) (wsOf (pT P) adr μ) ∧ KN P U
def QcK (P : Par) (adr : Int → Nat) (μ : Mem) (r : Res) : Array Value → State → Outcome → State → Prop := fun _ st oc t =>
  (∃ adr' : Int → Nat, (∀ o, o ≤ μ 0 0 → adr' o = adr o) ∧ oc = .returned (r.1.map (tv adr')) ∧ va_P (pD P) cls (wsOf (pT P) adr' r.2) t.heap ∧ va_D (AA (pB P)) (wsOf (pT P) adr' r.2) ∧ RG (pX P) (pL P) r.2 ∧ oko (r.2 0 0) r.1) ∧ va_F (AA (pB P)) st t
theorem blindK (P : Par) (adr : Int → Nat) (μ : Mem) (vs : List SV) : FrameBlind (PcK P adr μ vs) := by
  intro a U g mk h
  obtain ⟨h1, h2, h3, h4⟩ := h
  exact ⟨h1, h2, h3, KN_go (s := U) (U := U.calling g mk a) (State.WarmedH.refl U) (Nat.le_refl _) (fun _ _ _ => rfl) h4⟩
theorem lg_sl_cons (v : Value) (vs : List Value) : lg_sl (v :: vs) = (if v.category = 2 then [Slot.val v, Slot.second] else [Slot.val v]) ++ lg_sl vs := by
  unfold lg_sl
  rw [List.flatMap_cons]
theorem entL_len : ∀ vs : List SV, ∀ adr : Int → Nat, (lg_sl (vs.map (tv adr))).length = (entL vs).length
  | [], _ => rfl
  | .inl x :: vs, adr => by
    have ih := entL_len vs adr
    have hc : (tv adr (.inl x)).category = 1 := rfl
    rw [List.map_cons, lg_sl_cons, hc, if_neg (by decide), List.length_append, ih]
    simp only [entL, List.length_cons, List.length_nil]
    omega
  | .inr (.inl x) :: vs, adr => by
    have ih := entL_len vs adr
    have hc : (tv adr (.inr (.inl x))).category = 2 := rfl
    rw [List.map_cons, lg_sl_cons, hc, if_pos rfl, List.length_append, ih]
    simp only [entL, List.length_cons, List.length_nil]
    omega
  | .inr (.inr x) :: vs, adr => by
    have ih := entL_len vs adr
    have hc : (tv adr (.inr (.inr x))).category = 1 := rfv_cat adr x
    rw [List.map_cons, lg_sl_cons, hc, if_neg (by decide), List.length_append, ih]
    simp only [entL, List.length_cons, List.length_nil]
    omega
theorem entL_args : ∀ (vs : List SV) (adr : Int → Nat) (i j : Nat) (v : SV), (entL vs)[j]? = some (some v) → (i + j, tv adr v) ∈ lv_args i (vs.map (tv adr)) ∧ v ∈ vs
  | [], _, _, _, _, h => by simp [entL] at h
  | .inl x :: vs, adr, i, j, v, h => by
    simp only [entL] at h
    cases j with
    | zero =>
      rw [List.getElem?_cons_zero] at h
      cases h
      exact ⟨List.mem_cons_self, List.mem_cons_self⟩
    | succ j =>
      rw [List.getElem?_cons_succ] at h
      obtain ⟨h1, h2⟩ := entL_args vs adr (i + 1) j v h
      refine ⟨?_, List.mem_cons_of_mem _ h2⟩
      rw [show i + (j + 1) = i + 1 + j by omega]
      exact List.mem_cons_of_mem _ h1
  | .inr (.inl x) :: vs, adr, i, j, v, h => by
    simp only [entL] at h
    cases j with
    | zero =>
      rw [List.getElem?_cons_zero] at h
      cases h
      exact ⟨List.mem_cons_self, List.mem_cons_self⟩
    | succ j =>
      rw [List.getElem?_cons_succ] at h
      cases j with
      | zero =>
        rw [List.getElem?_cons_zero] at h
        cases h
      | succ j =>
        rw [List.getElem?_cons_succ] at h
        obtain ⟨h1, h2⟩ := entL_args vs adr (i + 2) j v h
        refine ⟨?_, List.mem_cons_of_mem _ h2⟩
        rw [show i + (j + 1 + 1) = i + 2 + j by omega]
        exact List.mem_cons_of_mem _ h1
  | .inr (.inr x) :: vs, adr, i, j, v, h => by
    simp only [entL] at h
    have hc : (tv adr (.inr (.inr x))).category = 1 := rfv_cat adr x
    cases j with
    | zero =>
      rw [List.getElem?_cons_zero] at h
      cases h
      exact ⟨List.mem_cons_self, List.mem_cons_self⟩
    | succ j =>
      rw [List.getElem?_cons_succ] at h
      obtain ⟨h1, h2⟩ := entL_args vs adr (i + 1) j v h
      refine ⟨?_, List.mem_cons_of_mem _ h2⟩
      rw [show i + (j + 1) = i + 1 + j by omega, List.map_cons, lv_args, hc]
      exact List.mem_cons_of_mem _ h1
theorem code_Tg {k : Nat} (hm : mi k ∈ MIs) (hl : (miY (mi k)).cls ≠ "LightDeskLaw") : Cond.code (miY (mi k)) (miB (mi k)) (miL (mi k)) (miR (mi k)) ∈ Tg := List.mem_filter.mpr ⟨cw_all _ hm hl, rfl⟩
theorem mi_ne {n k : Nat} {L : LV} {st : List SV} {μ : Mem} {r : Res} (h : run n k (codeOf k) L st μ = some r) : Sfx k (codeOf k) ∧ mi k ∈ MIs ∧ hdpc (codeOf k) = 0 := by
  have h1 := run_ne h
  have hs : Sfx k (codeOf k) := ⟨[], rfl⟩
  cases hc : codeOf k with
  | nil => exact absurd hc h1
  | cons q c =>
    rw [hc] at hs
    have hm := mi_mem hs
    refine ⟨hs, hm, ?_⟩
    have h2 := (ck_all _ hm).2
    unfold chkH at h2
    rw [Bool.and_eq_true, decide_eq_true_eq, decide_eq_true_eq] at h2
    have h3 := h2.2
    have h4 : miC (mi k) = q :: c := hc
    rw [h4] at h3
    exact h3
/-- a method's contract, out of the simulation of its body -/
theorem met_of {P : Par} {n k : Nat} (ih : IHn P n) {vs : List SV} {μ : Mem} {r : Res} (h : run n k (codeOf k) (padL (miL (mi k)) (entL vs)) [] μ = some r) (hl : (entL vs).length ≤ miL (mi k)) (l : Launch) {adr : Int → Nat} (hg : RG (pX P) (pL P) μ) (hv : ∀ v ∈ vs, okv (μ 0 0) v) (ha : ∀ o, o < 0 → adr o = pA P o) :
    Met l (miY (mi k)) (wsK k) (rmK k (nO r.2 - nO μ) (sl (nO r.2) - sl (nO μ))) (PcK P adr μ vs) (QcK P adr μ r) (nO r.2 - nO μ) (sl (nO r.2) - sl (nO μ)) (AA (pB P)) := by
  obtain ⟨hsf, hm, hpc⟩ := mi_ne h
  have hck := (ck_all _ hm).2
  unfold chkH at hck
  rw [Bool.and_eq_true, decide_eq_true_eq] at hck
  refine Met.ofW (cc := miB (mi k)) (maxL := miL (mi k)) (ret := miR (mi k)) hck.1 rfl ?_
  intro p e s m args below meth c s₁ B hml hp
  obtain ⟨rfl, hP, hD, hK⟩ := hp
  have hts := atoms_spec (ws := wsK k) B.pre
  have hown : s.vm.findClass (own (miO (mi k))) = some m.cls := by
    have h1 := ms_all _ hm
    unfold msM at h1
    rw [Bool.and_eq_true, decide_eq_true_eq] at h1
    rw [h1.2]
    exact findClass_of_methodNamed B.named
  have hmono := run_mono _ _ _ _ _ _ _ h
  have hnn := hg.1
  have hno : nO μ ≤ nO r.2 := by unfold nO; omega
  have hsl := sl_mono hno
  have C : CX P k p s m ((vs.map (tv adr)).toArray) meth c (rmK k (nO r.2 - nO μ) (sl (nO r.2) - sl (nO μ))) :=
    ⟨B.exec, B.bytes, hml, hown, fun w hw => hts w (List.mem_cons_of_mem _ hw), B.returns, B.notSynchronized, (name_of_methodNamed B.named B.method).1, hK, Nat.le_refl _, Nat.le_refl _⟩
  have hle : (lg_sl (vs.map (tv adr))).length ≤ miL (mi k) := by rw [entL_len]; exact hl
  have hen := lv_entry (vs.map (tv adr)) hle
  rw [lg_entry_eq]
  have K := ih _ _ _ _ _ _ h hsf p l e (rmK k (nO r.2 - nO μ) (sl (nO r.2) - sl (nO μ))) s m ((vs.map (tv adr)).toArray) below meth c s.heap [] 0 0 (adr := adr) (Qc := QcK P adr μ r) (mc := nO r.2 - nO μ) (ms := sl (nO r.2) - sl (nO μ)) C ⟨hP, hD, va_S.rf, hg, ha⟩ (ls := (lg_sl (vs.map (tv adr)) ++ List.replicate (miL (mi k) - (lg_sl (vs.map (tv adr))).length) Slot.unset).toArray)
    ⟨by unfold padL; rw [List.length_append, List.length_replicate]; omega, hen.1, hen.2.1, fun j v hj => ?_⟩ (fun v hv => absurd hv List.not_mem_nil) ⟨hmono, by omega, by omega, Nat.le_refl _, Nat.le_refl _⟩
    (fun adr' t g1 g2 g3 g4 g5 g6 _ => ⟨⟨adr', g1, rfl, g2, g3, g4, g5⟩, g6⟩)
  · rw [hpc] at K
    exact K
  · have hj2 : (entL vs)[j]? = some (some v) := by
      unfold padL at hj
      by_cases hjl : j < (entL vs).length
      · rwa [List.getElem?_append_left hjl] at hj
      · rw [List.getElem?_append_right (by omega), List.getElem?_replicate] at hj
        split at hj <;> cases hj
    obtain ⟨h1, h2⟩ := entL_args vs adr 0 j v hj2
    rw [Nat.zero_add] at h1
    exact ⟨hen.2.2 _ h1, hv v h2⟩
