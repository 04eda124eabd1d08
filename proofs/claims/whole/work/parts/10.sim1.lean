-- the simulation of instructions that touch no memory (printed by wip/gen/emit10.py)
theorem okc {n : Int} {v : SV} {st : List SV} (h : okv n v) (hs : ∀ v ∈ st, okv n v) : ∀ w ∈ v :: st, okv n w := List.forall_mem_cons.mpr ⟨h, hs⟩
theorem ok1 {n : Int} {v : SV} {st : List SV} (h : ∀ w ∈ v :: st, okv n w) : okv n v ∧ ∀ w ∈ st, okv n w := List.forall_mem_cons.mp h
theorem ms_at {k pc : Nat} {i : Instr} {c : Cd} (h : Sfx k ((pc, i) :: c)) : msI (mi k) i = true := by
  have h1 := ms_all _ (mi_mem h)
  unfold msM at h1
  rw [Bool.and_eq_true] at h1
  obtain ⟨pre, h⟩ := h
  exact List.all_eq_true.mp h1.1 (pc, i) (by show (pc, i) ∈ codeOf k; rw [h]; simp)
theorem own_at {k pc : Nat} {i : Instr} {c : Cd} (h : Sfx k ((pc, i) :: c)) : own (miO (mi k)) = (miY (mi k)).cls := by
  have h1 := ms_all _ (mi_mem h)
  unfold msM at h1
  rw [Bool.and_eq_true, decide_eq_true_eq] at h1
  exact h1.2
theorem rm_at {k pc : Nat} {i : Instr} {c : Cd} (h : Sfx k ((pc, i) :: c)) : rmI (mi k) i = true := by
  have h1 := rm_all _ (mi_mem h)
  obtain ⟨pre, h⟩ := h
  exact List.all_eq_true.mp h1 (pc, i) (by show (pc, i) ∈ codeOf k; rw [h]; simp)
theorem s_iadd {P : Par} {n k pc : Nat} {c : Cd} {L : LV} {st : List SV} {μ : Mem} {r : Res} (ih : IHn P n) (hs : Sfx k ((pc, .iadd) :: c)) (h : stp (run n) k (.iadd) c L st μ = some r) : SIM P k ((pc, .iadd) :: c) L st μ r := by
  simp only [stp, bin2] at h
  split at h
  · rename_i y x st
    intro p l e R s m args below meth c0 H locs cells slots ls adr Qc mc ms C hW hL hS hR hq
    obtain ⟨hd, hn⟩ := dcd_spec (okI_at hs (run_ne h))
    have K := ih _ _ _ _ _ _ h hs.tail p l e R s m args below meth c0 H locs cells slots ls adr Qc mc ms C hW hL (okc (i32_r _) (ok1 (ok1 hS).2).2) hR hq
    rw [hn] at K
    refine lv_iadd C.1 C.2.1 hd ?_
    simpa only [hdpc, List.map_cons, tv, jadd, i32_of] using K
  · cases h
theorem s_isub {P : Par} {n k pc : Nat} {c : Cd} {L : LV} {st : List SV} {μ : Mem} {r : Res} (ih : IHn P n) (hs : Sfx k ((pc, .isub) :: c)) (h : stp (run n) k (.isub) c L st μ = some r) : SIM P k ((pc, .isub) :: c) L st μ r := by
  simp only [stp, bin2] at h
  split at h
  · rename_i y x st
    intro p l e R s m args below meth c0 H locs cells slots ls adr Qc mc ms C hW hL hS hR hq
    obtain ⟨hd, hn⟩ := dcd_spec (okI_at hs (run_ne h))
    have K := ih _ _ _ _ _ _ h hs.tail p l e R s m args below meth c0 H locs cells slots ls adr Qc mc ms C hW hL (okc (i32_r _) (ok1 (ok1 hS).2).2) hR hq
    rw [hn] at K
    refine lv_isub C.1 C.2.1 hd ?_
    simpa only [hdpc, List.map_cons, tv, jsub, i32_of] using K
  · cases h
theorem s_imul {P : Par} {n k pc : Nat} {c : Cd} {L : LV} {st : List SV} {μ : Mem} {r : Res} (ih : IHn P n) (hs : Sfx k ((pc, .imul) :: c)) (h : stp (run n) k (.imul) c L st μ = some r) : SIM P k ((pc, .imul) :: c) L st μ r := by
  simp only [stp, bin2] at h
  split at h
  · rename_i y x st
    intro p l e R s m args below meth c0 H locs cells slots ls adr Qc mc ms C hW hL hS hR hq
    obtain ⟨hd, hn⟩ := dcd_spec (okI_at hs (run_ne h))
    have K := ih _ _ _ _ _ _ h hs.tail p l e R s m args below meth c0 H locs cells slots ls adr Qc mc ms C hW hL (okc (i32_r _) (ok1 (ok1 hS).2).2) hR hq
    rw [hn] at K
    refine lv_imul C.1 C.2.1 hd ?_
    simpa only [hdpc, List.map_cons, tv, jmul, i32_of] using K
  · cases h
theorem s_iand {P : Par} {n k pc : Nat} {c : Cd} {L : LV} {st : List SV} {μ : Mem} {r : Res} (ih : IHn P n) (hs : Sfx k ((pc, .iand) :: c)) (h : stp (run n) k (.iand) c L st μ = some r) : SIM P k ((pc, .iand) :: c) L st μ r := by
  simp only [stp, bin2] at h
  split at h
  · rename_i y x st
    intro p l e R s m args below meth c0 H locs cells slots ls adr Qc mc ms C hW hL hS hR hq
    obtain ⟨hd, hn⟩ := dcd_spec (okI_at hs (run_ne h))
    have K := ih _ _ _ _ _ _ h hs.tail p l e R s m args below meth c0 H locs cells slots ls adr Qc mc ms C hW hL (okc (i32_r _) (ok1 (ok1 hS).2).2) hR hq
    rw [hn] at K
    refine lv_iand C.1 C.2.1 hd ?_
    simpa only [hdpc, List.map_cons, tv, jand, i32_of] using K
  · cases h
theorem s_ior {P : Par} {n k pc : Nat} {c : Cd} {L : LV} {st : List SV} {μ : Mem} {r : Res} (ih : IHn P n) (hs : Sfx k ((pc, .ior) :: c)) (h : stp (run n) k (.ior) c L st μ = some r) : SIM P k ((pc, .ior) :: c) L st μ r := by
  simp only [stp, bin2] at h
  split at h
  · rename_i y x st
    intro p l e R s m args below meth c0 H locs cells slots ls adr Qc mc ms C hW hL hS hR hq
    obtain ⟨hd, hn⟩ := dcd_spec (okI_at hs (run_ne h))
    have K := ih _ _ _ _ _ _ h hs.tail p l e R s m args below meth c0 H locs cells slots ls adr Qc mc ms C hW hL (okc (i32_r _) (ok1 (ok1 hS).2).2) hR hq
    rw [hn] at K
    refine lv_ior C.1 C.2.1 hd ?_
    simpa only [hdpc, List.map_cons, tv, jor, i32_of] using K
  · cases h
theorem s_ishl {P : Par} {n k pc : Nat} {c : Cd} {L : LV} {st : List SV} {μ : Mem} {r : Res} (ih : IHn P n) (hs : Sfx k ((pc, .ishl) :: c)) (h : stp (run n) k (.ishl) c L st μ = some r) : SIM P k ((pc, .ishl) :: c) L st μ r := by
  simp only [stp, bin2] at h
  split at h
  · rename_i y x st
    intro p l e R s m args below meth c0 H locs cells slots ls adr Qc mc ms C hW hL hS hR hq
    obtain ⟨hd, hn⟩ := dcd_spec (okI_at hs (run_ne h))
    have K := ih _ _ _ _ _ _ h hs.tail p l e R s m args below meth c0 H locs cells slots ls adr Qc mc ms C hW hL (okc (i32_r _) (ok1 (ok1 hS).2).2) hR hq
    rw [hn] at K
    refine lv_ishl C.1 C.2.1 hd ?_
    simpa only [hdpc, List.map_cons, tv, jshl, i32_of] using K
  · cases h
theorem s_ishr {P : Par} {n k pc : Nat} {c : Cd} {L : LV} {st : List SV} {μ : Mem} {r : Res} (ih : IHn P n) (hs : Sfx k ((pc, .ishr) :: c)) (h : stp (run n) k (.ishr) c L st μ = some r) : SIM P k ((pc, .ishr) :: c) L st μ r := by
  simp only [stp, bin2] at h
  split at h
  · rename_i y x st
    intro p l e R s m args below meth c0 H locs cells slots ls adr Qc mc ms C hW hL hS hR hq
    obtain ⟨hd, hn⟩ := dcd_spec (okI_at hs (run_ne h))
    have K := ih _ _ _ _ _ _ h hs.tail p l e R s m args below meth c0 H locs cells slots ls adr Qc mc ms C hW hL (okc (i32_r _) (ok1 (ok1 hS).2).2) hR hq
    rw [hn] at K
    refine lv_ishr C.1 C.2.1 hd ?_
    simpa only [hdpc, List.map_cons, tv, jshr, i32_of] using K
  · cases h
theorem s_iushr {P : Par} {n k pc : Nat} {c : Cd} {L : LV} {st : List SV} {μ : Mem} {r : Res} (ih : IHn P n) (hs : Sfx k ((pc, .iushr) :: c)) (h : stp (run n) k (.iushr) c L st μ = some r) : SIM P k ((pc, .iushr) :: c) L st μ r := by
  simp only [stp, bin2] at h
  split at h
  · rename_i y x st
    intro p l e R s m args below meth c0 H locs cells slots ls adr Qc mc ms C hW hL hS hR hq
    obtain ⟨hd, hn⟩ := dcd_spec (okI_at hs (run_ne h))
    have K := ih _ _ _ _ _ _ h hs.tail p l e R s m args below meth c0 H locs cells slots ls adr Qc mc ms C hW hL (okc (i32_r _) (ok1 (ok1 hS).2).2) hR hq
    rw [hn] at K
    refine lv_iushr C.1 C.2.1 hd rfl ?_
    simpa only [hdpc, List.map_cons, tv, jushr, i32_of] using K
  · cases h
theorem s_idiv {P : Par} {n k pc : Nat} {c : Cd} {L : LV} {st : List SV} {μ : Mem} {r : Res} (ih : IHn P n) (hs : Sfx k ((pc, .idiv) :: c)) (h : stp (run n) k (.idiv) c L st μ = some r) : SIM P k ((pc, .idiv) :: c) L st μ r := by
  simp only [stp] at h
  split at h
  · rename_i y x st
    split at h
    · cases h
    · rename_i hne
      intro p l e R s m args below meth c0 H locs cells slots ls adr Qc mc ms C hW hL hS hR hq
      obtain ⟨hd, hn⟩ := dcd_spec (okI_at hs (run_ne h))
      have K := ih _ _ _ _ _ _ h hs.tail p l e R s m args below meth c0 H locs cells slots ls adr Qc mc ms C hW hL (okc (i32_r _) (ok1 (ok1 hS).2).2) hR hq
      rw [hn] at K
      refine lv_idiv C.1 C.2.1 hd (fun z => hne ((i32_eq0 (ok1 hS).1).mp z)) ?_
      simpa only [hdpc, List.map_cons, tv, jdiv, i32_of] using K
  · cases h
theorem s_irem {P : Par} {n k pc : Nat} {c : Cd} {L : LV} {st : List SV} {μ : Mem} {r : Res} (ih : IHn P n) (hs : Sfx k ((pc, .irem) :: c)) (h : stp (run n) k (.irem) c L st μ = some r) : SIM P k ((pc, .irem) :: c) L st μ r := by
  simp only [stp] at h
  split at h
  · rename_i y x st
    split at h
    · cases h
    · rename_i hne
      intro p l e R s m args below meth c0 H locs cells slots ls adr Qc mc ms C hW hL hS hR hq
      obtain ⟨hd, hn⟩ := dcd_spec (okI_at hs (run_ne h))
      have K := ih _ _ _ _ _ _ h hs.tail p l e R s m args below meth c0 H locs cells slots ls adr Qc mc ms C hW hL (okc (i32_r _) (ok1 (ok1 hS).2).2) hR hq
      rw [hn] at K
      refine lv_irem C.1 C.2.1 hd (fun z => hne ((i32_eq0 (ok1 hS).1).mp z)) ?_
      simpa only [hdpc, List.map_cons, tv, jrem, i32_of] using K
  · cases h
theorem s_ladd {P : Par} {n k pc : Nat} {c : Cd} {L : LV} {st : List SV} {μ : Mem} {r : Res} (ih : IHn P n) (hs : Sfx k ((pc, .ladd) :: c)) (h : stp (run n) k (.ladd) c L st μ = some r) : SIM P k ((pc, .ladd) :: c) L st μ r := by
  simp only [stp, bin4] at h
  split at h
  · rename_i y x st
    intro p l e R s m args below meth c0 H locs cells slots ls adr Qc mc ms C hW hL hS hR hq
    obtain ⟨hd, hn⟩ := dcd_spec (okI_at hs (run_ne h))
    have K := ih _ _ _ _ _ _ h hs.tail p l e R s m args below meth c0 H locs cells slots ls adr Qc mc ms C hW hL (okc (i64_r _) (ok1 (ok1 hS).2).2) hR hq
    rw [hn] at K
    refine lv_ladd C.1 C.2.1 hd ?_
    simpa only [hdpc, List.map_cons, tv, qadd, i64_of] using K
  · cases h
theorem s_lmul {P : Par} {n k pc : Nat} {c : Cd} {L : LV} {st : List SV} {μ : Mem} {r : Res} (ih : IHn P n) (hs : Sfx k ((pc, .lmul) :: c)) (h : stp (run n) k (.lmul) c L st μ = some r) : SIM P k ((pc, .lmul) :: c) L st μ r := by
  simp only [stp, bin4] at h
  split at h
  · rename_i y x st
    intro p l e R s m args below meth c0 H locs cells slots ls adr Qc mc ms C hW hL hS hR hq
    obtain ⟨hd, hn⟩ := dcd_spec (okI_at hs (run_ne h))
    have K := ih _ _ _ _ _ _ h hs.tail p l e R s m args below meth c0 H locs cells slots ls adr Qc mc ms C hW hL (okc (i64_r _) (ok1 (ok1 hS).2).2) hR hq
    rw [hn] at K
    refine lv_lmul C.1 C.2.1 hd ?_
    simpa only [hdpc, List.map_cons, tv, qmul, i64_of] using K
  · cases h
theorem i64_eq0 {x : Int} (hx : R64 x) : Int64.ofInt x = 0 ↔ x = 0 := by
  constructor
  · intro h
    have h2 := i64_id hx
    rw [h] at h2
    exact h2.symm
  · rintro rfl; rfl
theorem s_ldiv {P : Par} {n k pc : Nat} {c : Cd} {L : LV} {st : List SV} {μ : Mem} {r : Res} (ih : IHn P n) (hs : Sfx k ((pc, .ldiv) :: c)) (h : stp (run n) k (.ldiv) c L st μ = some r) : SIM P k ((pc, .ldiv) :: c) L st μ r := by
  simp only [stp] at h
  split at h
  · rename_i y x st
    split at h
    · cases h
    · rename_i hne
      intro p l e R s m args below meth c0 H locs cells slots ls adr Qc mc ms C hW hL hS hR hq
      obtain ⟨hd, hn⟩ := dcd_spec (okI_at hs (run_ne h))
      have K := ih _ _ _ _ _ _ h hs.tail p l e R s m args below meth c0 H locs cells slots ls adr Qc mc ms C hW hL (okc (i64_r _) (ok1 (ok1 hS).2).2) hR hq
      rw [hn] at K
      refine lv_ldiv C.1 C.2.1 hd (fun z => hne ((i64_eq0 (ok1 hS).1).mp z)) ?_
      simpa only [hdpc, List.map_cons, tv, qdiv, i64_of] using K
  · cases h
theorem s_lrem {P : Par} {n k pc : Nat} {c : Cd} {L : LV} {st : List SV} {μ : Mem} {r : Res} (ih : IHn P n) (hs : Sfx k ((pc, .lrem) :: c)) (h : stp (run n) k (.lrem) c L st μ = some r) : SIM P k ((pc, .lrem) :: c) L st μ r := by
  simp only [stp] at h
  split at h
  · rename_i y x st
    split at h
    · cases h
    · rename_i hne
      intro p l e R s m args below meth c0 H locs cells slots ls adr Qc mc ms C hW hL hS hR hq
      obtain ⟨hd, hn⟩ := dcd_spec (okI_at hs (run_ne h))
      have K := ih _ _ _ _ _ _ h hs.tail p l e R s m args below meth c0 H locs cells slots ls adr Qc mc ms C hW hL (okc (i64_r _) (ok1 (ok1 hS).2).2) hR hq
      rw [hn] at K
      refine lv_lrem C.1 C.2.1 hd (fun z => hne ((i64_eq0 (ok1 hS).1).mp z)) ?_
      simpa only [hdpc, List.map_cons, tv, qrem, i64_of] using K
  · cases h
theorem s_lcmp {P : Par} {n k pc : Nat} {c : Cd} {L : LV} {st : List SV} {μ : Mem} {r : Res} (ih : IHn P n) (hs : Sfx k ((pc, .lcmp) :: c)) (h : stp (run n) k (.lcmp) c L st μ = some r) : SIM P k ((pc, .lcmp) :: c) L st μ r := by
  simp only [stp] at h
  split at h
  · rename_i y x st
    intro p l e R s m args below meth c0 H locs cells slots ls adr Qc mc ms C hW hL hS hR hq
    obtain ⟨hd, hn⟩ := dcd_spec (okI_at hs (run_ne h))
    have K := ih _ _ _ _ _ _ h hs.tail p l e R s m args below meth c0 H locs cells slots ls adr Qc mc ms C hW hL (okc (i32_r _) (ok1 (ok1 hS).2).2) hR hq
    rw [hn] at K
    refine W.lcmp C.1 C.2.1 hd ?_
    simpa only [hdpc, List.map_cons, tv, qcmp, i32_of] using K
  · cases h
theorem s_ineg {P : Par} {n k pc : Nat} {c : Cd} {L : LV} {st : List SV} {μ : Mem} {r : Res} (ih : IHn P n) (hs : Sfx k ((pc, .ineg) :: c)) (h : stp (run n) k (.ineg) c L st μ = some r) : SIM P k ((pc, .ineg) :: c) L st μ r := by
  simp only [stp, una] at h
  split at h
  · rename_i x st
    intro p l e R s m args below meth c0 H locs cells slots ls adr Qc mc ms C hW hL hS hR hq
    obtain ⟨hd, hn⟩ := dcd_spec (okI_at hs (run_ne h))
    have K := ih _ _ _ _ _ _ h hs.tail p l e R s m args below meth c0 H locs cells slots ls adr Qc mc ms C hW hL (okc (i32_r _) (ok1 hS).2) hR hq
    rw [hn] at K
    refine lv_ineg C.1 C.2.1 hd ?_
    simpa only [hdpc, List.map_cons, tv, jneg, i32_of] using K
  · cases h
theorem s_i2b {P : Par} {n k pc : Nat} {c : Cd} {L : LV} {st : List SV} {μ : Mem} {r : Res} (ih : IHn P n) (hs : Sfx k ((pc, .i2b) :: c)) (h : stp (run n) k (.i2b) c L st μ = some r) : SIM P k ((pc, .i2b) :: c) L st μ r := by
  simp only [stp, una] at h
  split at h
  · rename_i x st
    intro p l e R s m args below meth c0 H locs cells slots ls adr Qc mc ms C hW hL hS hR hq
    obtain ⟨hd, hn⟩ := dcd_spec (okI_at hs (run_ne h))
    have K := ih _ _ _ _ _ _ h hs.tail p l e R s m args below meth c0 H locs cells slots ls adr Qc mc ms C hW hL (okc (i32_r _) (ok1 hS).2) hR hq
    rw [hn] at K
    refine lv_i2b C.1 C.2.1 hd rfl ?_
    simpa only [hdpc, List.map_cons, tv, jb, i32_of] using K
  · cases h
theorem s_i2c {P : Par} {n k pc : Nat} {c : Cd} {L : LV} {st : List SV} {μ : Mem} {r : Res} (ih : IHn P n) (hs : Sfx k ((pc, .i2c) :: c)) (h : stp (run n) k (.i2c) c L st μ = some r) : SIM P k ((pc, .i2c) :: c) L st μ r := by
  simp only [stp, una] at h
  split at h
  · rename_i x st
    intro p l e R s m args below meth c0 H locs cells slots ls adr Qc mc ms C hW hL hS hR hq
    obtain ⟨hd, hn⟩ := dcd_spec (okI_at hs (run_ne h))
    have K := ih _ _ _ _ _ _ h hs.tail p l e R s m args below meth c0 H locs cells slots ls adr Qc mc ms C hW hL (okc (i32_r _) (ok1 hS).2) hR hq
    rw [hn] at K
    refine lv_i2c C.1 C.2.1 hd rfl ?_
    simpa only [hdpc, List.map_cons, tv, jc, i32_of] using K
  · cases h
theorem i32_wide {x : Int} (hx : R32 x) : (Int32.ofInt x).toInt64 = Int64.ofInt x := by
  have h : (Int32.ofInt x).toInt64.toInt = x := by rw [Int32.toInt_toInt64, i32_id hx]
  rw [← i64_of (Int32.ofInt x).toInt64, h]
theorem s_i2l {P : Par} {n k pc : Nat} {c : Cd} {L : LV} {st : List SV} {μ : Mem} {r : Res} (ih : IHn P n) (hs : Sfx k ((pc, .i2l) :: c)) (h : stp (run n) k (.i2l) c L st μ = some r) : SIM P k ((pc, .i2l) :: c) L st μ r := by
  simp only [stp] at h
  split at h
  · rename_i x st
    intro p l e R s m args below meth c0 H locs cells slots ls adr Qc mc ms C hW hL hS hR hq
    obtain ⟨hd, hn⟩ := dcd_spec (okI_at hs (run_ne h))
    have hx : R32 x := (ok1 hS).1
    have K := ih _ _ _ _ _ _ h hs.tail p l e R s m args below meth c0 H locs cells slots ls adr Qc mc ms C hW hL (okc (show R64 x from ⟨by have := hx.1; omega, by have := hx.2; omega⟩) (ok1 hS).2) hR hq
    rw [hn] at K
    refine lv_i2l C.1 C.2.1 hd (i32_wide hx) ?_
    simpa only [hdpc, List.map_cons, tv] using K
  · cases h
theorem s_l2i {P : Par} {n k pc : Nat} {c : Cd} {L : LV} {st : List SV} {μ : Mem} {r : Res} (ih : IHn P n) (hs : Sfx k ((pc, .l2i) :: c)) (h : stp (run n) k (.l2i) c L st μ = some r) : SIM P k ((pc, .l2i) :: c) L st μ r := by
  simp only [stp] at h
  split at h
  · rename_i x st
    intro p l e R s m args below meth c0 H locs cells slots ls adr Qc mc ms C hW hL hS hR hq
    obtain ⟨hd, hn⟩ := dcd_spec (okI_at hs (run_ne h))
    have K := ih _ _ _ _ _ _ h hs.tail p l e R s m args below meth c0 H locs cells slots ls adr Qc mc ms C hW hL (okc (i32_r _) (ok1 hS).2) hR hq
    rw [hn] at K
    refine lv_l2i C.1 C.2.1 hd rfl ?_
    simpa only [hdpc, List.map_cons, tv, q2i, i32_of] using K
  · cases h
theorem rfv_cat (adr : Int → Nat) (x : Int) : (rfv adr x).category = 1 := by
  unfold rfv
  split <;> rfl
theorem s_pop {P : Par} {n k pc : Nat} {c : Cd} {L : LV} {st : List SV} {μ : Mem} {r : Res} (ih : IHn P n) (hs : Sfx k ((pc, .pop) :: c)) (h : stp (run n) k (.pop) c L st μ = some r) : SIM P k ((pc, .pop) :: c) L st μ r := by
  simp only [stp] at h
  split at h
  · rename_i x st
    intro p l e R s m args below meth c0 H locs cells slots ls adr Qc mc ms C hW hL hS hR hq
    obtain ⟨hd, hn⟩ := dcd_spec (okI_at hs (run_ne h))
    have K := ih _ _ _ _ _ _ h hs.tail p l e R s m args below meth c0 H locs cells slots ls adr Qc mc ms C hW hL (ok1 hS).2 hR hq
    rw [hn] at K
    exact lv_pop (va := tv adr (vI x)) C.1 C.2.1 hd rfl K
  · rename_i x st
    intro p l e R s m args below meth c0 H locs cells slots ls adr Qc mc ms C hW hL hS hR hq
    obtain ⟨hd, hn⟩ := dcd_spec (okI_at hs (run_ne h))
    have K := ih _ _ _ _ _ _ h hs.tail p l e R s m args below meth c0 H locs cells slots ls adr Qc mc ms C hW hL (ok1 hS).2 hR hq
    rw [hn] at K
    exact lv_pop (va := tv adr (vA x)) C.1 C.2.1 hd (rfv_cat adr x) K
  · cases h
theorem s_dup {P : Par} {n k pc : Nat} {c : Cd} {L : LV} {st : List SV} {μ : Mem} {r : Res} (ih : IHn P n) (hs : Sfx k ((pc, .dup) :: c)) (h : stp (run n) k (.dup) c L st μ = some r) : SIM P k ((pc, .dup) :: c) L st μ r := by
  simp only [stp] at h
  split at h
  · rename_i x st
    intro p l e R s m args below meth c0 H locs cells slots ls adr Qc mc ms C hW hL hS hR hq
    obtain ⟨hd, hn⟩ := dcd_spec (okI_at hs (run_ne h))
    have K := ih _ _ _ _ _ _ h hs.tail p l e R s m args below meth c0 H locs cells slots ls adr Qc mc ms C hW hL (okc (ok1 hS).1 hS) hR hq
    rw [hn] at K
    exact lv_dup (va := tv adr (vI x)) C.1 C.2.1 hd rfl K
  · rename_i x st
    intro p l e R s m args below meth c0 H locs cells slots ls adr Qc mc ms C hW hL hS hR hq
    obtain ⟨hd, hn⟩ := dcd_spec (okI_at hs (run_ne h))
    have K := ih _ _ _ _ _ _ h hs.tail p l e R s m args below meth c0 H locs cells slots ls adr Qc mc ms C hW hL (okc (ok1 hS).1 hS) hR hq
    rw [hn] at K
    exact lv_dup (va := tv adr (vA x)) C.1 C.2.1 hd (rfv_cat adr x) K
  · cases h
theorem s_dup2 {P : Par} {n k pc : Nat} {c : Cd} {L : LV} {st : List SV} {μ : Mem} {r : Res} (ih : IHn P n) (hs : Sfx k ((pc, .dup2) :: c)) (h : stp (run n) k (.dup2) c L st μ = some r) : SIM P k ((pc, .dup2) :: c) L st μ r := by
  simp only [stp] at h
  split at h
  · rename_i x y st
    intro p l e R s m args below meth c0 H locs cells slots ls adr Qc mc ms C hW hL hS hR hq
    obtain ⟨hd, hn⟩ := dcd_spec (okI_at hs (run_ne h))
    have K := ih _ _ _ _ _ _ h hs.tail p l e R s m args below meth c0 H locs cells slots ls adr Qc mc ms C hW hL (okc (ok1 hS).1 (okc (ok1 (ok1 hS).2).1 hS)) hR hq
    rw [hn] at K
    exact lv_dup2_11 (va := tv adr (vI x)) (vb := tv adr (vA y)) C.1 C.2.1 hd rfl (rfv_cat adr y) K
  · cases h
theorem s_aconst_null {P : Par} {n k pc : Nat} {c : Cd} {L : LV} {st : List SV} {μ : Mem} {r : Res} (ih : IHn P n) (hs : Sfx k ((pc, .aconst_null) :: c)) (h : stp (run n) k (.aconst_null) c L st μ = some r) : SIM P k ((pc, .aconst_null) :: c) L st μ r := by
  simp only [stp] at h
  intro p l e R s m args below meth c0 H locs cells slots ls adr Qc mc ms C hW hL hS hR hq
  obtain ⟨hd, hn⟩ := dcd_spec (okI_at hs (run_ne h))
  have K := ih _ _ _ _ _ _ h hs.tail p l e R s m args below meth c0 H locs cells slots ls adr Qc mc ms C hW hL (okc (show (0 : Int) ≤ μ 0 0 from hW.2.2.2.1.1) hS) hR hq
  rw [hn] at K
  exact lv_null C.1 C.2.1 hd K
theorem tgt_eq {pc : Nat} {t : Int} (h : 0 ≤ t) : (pc : Int) + (t - (pc : Int)) = ((t.toNat : Nat) : Int) := by omega
theorem s_goto {P : Par} {n k pc : Nat} {t : Int} {c : Cd} {L : LV} {st : List SV} {μ : Mem} {r : Res} (ih : IHn P n) (hs : Sfx k ((pc, .goto t) :: c)) (h : stp (run n) k (.goto t) c L st μ = some r) : SIM P k ((pc, .goto t) :: c) L st μ r := by
  simp only [stp] at h
  intro p l e R s m args below meth c0 H locs cells slots ls adr Qc mc ms C hW hL hS hR hq
  obtain ⟨nx, hk⟩ := okI_last hs
  simp only [okI, Bool.and_eq_true, decide_eq_true_eq] at hk
  obtain ⟨hd, hn⟩ := dcd_spec hk.2
  obtain ⟨j1, j2⟩ := jmp_at h
  have K := ih _ _ _ _ _ _ h j2 p l e R s m args below meth c0 H locs cells slots ls adr Qc mc ms C hW hL hS hR hq
  rw [j1] at K
  exact lv_goto C.1 C.2.1 hd (tgt_eq hk.1) K
theorem s_ifCond {P : Par} {n k pc : Nat} {cc : Jvm.ClassFile.Cond} {t : Int} {c : Cd} {L : LV} {st : List SV} {μ : Mem} {r : Res} (ih : IHn P n) (hs : Sfx k ((pc, .ifCond cc t) :: c)) (h : stp (run n) k (.ifCond cc t) c L st μ = some r) : SIM P k ((pc, .ifCond cc t) :: c) L st μ r := by
  simp only [stp] at h
  split at h
  · rename_i x st
    intro p l e R s m args below meth c0 H locs cells slots ls adr Qc mc ms C hW hL hS hR hq
    obtain ⟨nx, hk⟩ := okI_last hs
    simp only [okI, Bool.and_eq_true, decide_eq_true_eq] at hk
    obtain ⟨hd, -⟩ := dcd_spec hk.2
    have hx : R32 x := (ok1 hS).1
    have hS2 := (ok1 hS).2
    have kt : cmpB cc x 0 = true → W p l e R s m args below meth c0 H locs cells slots (MQ below Qc args s mc ms (AA (pB P))) (F0 m t.toNat ls (st.map (tv adr))) := by
      intro hc
      rw [if_pos hc] at h
      obtain ⟨j1, j2⟩ := jmp_at h
      have K := ih _ _ _ _ _ _ h j2 p l e R s m args below meth c0 H locs cells slots ls adr Qc mc ms C hW hL hS2 hR hq
      rw [j1] at K
      exact K
    have kf : cmpB cc x 0 = false → W p l e R s m args below meth c0 H locs cells slots (MQ below Qc args s mc ms (AA (pB P))) (F0 m (pc + 3) ls (st.map (tv adr))) := by
      intro hc
      rw [if_neg (by rw [hc]; exact Bool.false_ne_true)] at h
      have hk2 := okI_at hs (run_ne h)
      simp only [okI, Bool.and_eq_true, decide_eq_true_eq] at hk2
      obtain ⟨-, hn⟩ := dcd_spec hk2.2
      have K := ih _ _ _ _ _ _ h hs.tail p l e R s m args below meth c0 H locs cells slots ls adr Qc mc ms C hW hL hS2 hR hq
      rw [hn] at K
      exact K
    clear h
    cases cc
    · exact lv_if_eq C.1 C.2.1 hd (tgt_eq hk.1) (fun z => kt (decide_eq_true ((i32_eq0 hx).mp z))) (fun z => kf (decide_eq_false (fun q => z ((i32_eq0 hx).mpr q))))
    · exact lv_if_ne C.1 C.2.1 hd (tgt_eq hk.1) (fun z => kt (decide_eq_true (fun q => z ((i32_eq0 hx).mpr q)))) (fun z => kf (decide_eq_false (fun q => q ((i32_eq0 hx).mp z))))
    · exact lv_if_lt C.1 C.2.1 hd (tgt_eq hk.1) (fun z => kt (decide_eq_true ((i32_lt hx r32_0).mp z))) (fun z => kf (decide_eq_false (fun q => z ((i32_lt hx r32_0).mpr q))))
    · exact lv_if_ge C.1 C.2.1 hd (tgt_eq hk.1) (fun z => kt (decide_eq_true ((i32_le r32_0 hx).mp z))) (fun z => kf (decide_eq_false (fun q => z ((i32_le r32_0 hx).mpr q))))
    · exact lv_if_gt C.1 C.2.1 hd (tgt_eq hk.1) (fun z => kt (decide_eq_true ((i32_lt r32_0 hx).mp z))) (fun z => kf (decide_eq_false (fun q => z ((i32_lt r32_0 hx).mpr q))))
    · exact lv_if_le C.1 C.2.1 hd (tgt_eq hk.1) (fun z => kt (decide_eq_true ((i32_le hx r32_0).mp z))) (fun z => kf (decide_eq_false (fun q => z ((i32_le hx r32_0).mpr q))))
  · cases h
theorem s_if_icmp {P : Par} {n k pc : Nat} {cc : Jvm.ClassFile.Cond} {t : Int} {c : Cd} {L : LV} {st : List SV} {μ : Mem} {r : Res} (ih : IHn P n) (hs : Sfx k ((pc, .if_icmp cc t) :: c)) (h : stp (run n) k (.if_icmp cc t) c L st μ = some r) : SIM P k ((pc, .if_icmp cc t) :: c) L st μ r := by
  simp only [stp] at h
  split at h
  · rename_i y x st
    intro p l e R s m args below meth c0 H locs cells slots ls adr Qc mc ms C hW hL hS hR hq
    obtain ⟨nx, hk⟩ := okI_last hs
    simp only [okI, Bool.and_eq_true, decide_eq_true_eq] at hk
    obtain ⟨hd, -⟩ := dcd_spec hk.2
    have hy : R32 y := (ok1 hS).1
    have hx : R32 x := (ok1 (ok1 hS).2).1
    have hS2 := (ok1 (ok1 hS).2).2
    have kt : cmpB cc x y = true → W p l e R s m args below meth c0 H locs cells slots (MQ below Qc args s mc ms (AA (pB P))) (F0 m t.toNat ls (st.map (tv adr))) := by
      intro hc
      rw [if_pos hc] at h
      obtain ⟨j1, j2⟩ := jmp_at h
      have K := ih _ _ _ _ _ _ h j2 p l e R s m args below meth c0 H locs cells slots ls adr Qc mc ms C hW hL hS2 hR hq
      rw [j1] at K
      exact K
    have kf : cmpB cc x y = false → W p l e R s m args below meth c0 H locs cells slots (MQ below Qc args s mc ms (AA (pB P))) (F0 m (pc + 3) ls (st.map (tv adr))) := by
      intro hc
      rw [if_neg (by rw [hc]; exact Bool.false_ne_true)] at h
      have hk2 := okI_at hs (run_ne h)
      simp only [okI, Bool.and_eq_true, decide_eq_true_eq] at hk2
      obtain ⟨-, hn⟩ := dcd_spec hk2.2
      have K := ih _ _ _ _ _ _ h hs.tail p l e R s m args below meth c0 H locs cells slots ls adr Qc mc ms C hW hL hS2 hR hq
      rw [hn] at K
      exact K
    clear h
    cases cc
    · exact lv_icmp_eq C.1 C.2.1 hd (tgt_eq hk.1) (fun z => kt (decide_eq_true ((i32_eq hx hy).mp z))) (fun z => kf (decide_eq_false (fun q => z ((i32_eq hx hy).mpr q))))
    · exact lv_icmp_ne C.1 C.2.1 hd (tgt_eq hk.1) (fun z => kt (decide_eq_true (fun q => z ((i32_eq hx hy).mpr q)))) (fun z => kf (decide_eq_false (fun q => q ((i32_eq hx hy).mp z))))
    · exact lv_icmp_lt C.1 C.2.1 hd (tgt_eq hk.1) (fun z => kt (decide_eq_true ((i32_lt hx hy).mp z))) (fun z => kf (decide_eq_false (fun q => z ((i32_lt hx hy).mpr q))))
    · exact lv_icmp_ge C.1 C.2.1 hd (tgt_eq hk.1) (fun z => kt (decide_eq_true ((i32_le hy hx).mp z))) (fun z => kf (decide_eq_false (fun q => z ((i32_le hy hx).mpr q))))
    · exact lv_icmp_gt C.1 C.2.1 hd (tgt_eq hk.1) (fun z => kt (decide_eq_true ((i32_lt hy hx).mp z))) (fun z => kf (decide_eq_false (fun q => z ((i32_lt hy hx).mpr q))))
    · exact lv_icmp_le C.1 C.2.1 hd (tgt_eq hk.1) (fun z => kt (decide_eq_true ((i32_le hx hy).mp z))) (fun z => kf (decide_eq_false (fun q => z ((i32_le hx hy).mpr q))))
  · cases h
theorem s_ifnull {P : Par} {n k pc : Nat} {t : Int} {c : Cd} {L : LV} {st : List SV} {μ : Mem} {r : Res} (ih : IHn P n) (hs : Sfx k ((pc, .ifnull t) :: c)) (h : stp (run n) k (.ifnull t) c L st μ = some r) : SIM P k ((pc, .ifnull t) :: c) L st μ r := by
  simp only [stp] at h
  split at h
  · rename_i o st
    intro p l e R s m args below meth c0 H locs cells slots ls adr Qc mc ms C hW hL hS hR hq
    obtain ⟨nx, hk⟩ := okI_last hs
    simp only [okI, Bool.and_eq_true, decide_eq_true_eq] at hk
    obtain ⟨hd, -⟩ := dcd_spec hk.2
    by_cases ho : o = 0
    · rw [if_pos ho] at h
      subst ho
      obtain ⟨j1, j2⟩ := jmp_at h
      have K := ih _ _ _ _ _ _ h j2 p l e R s m args below meth c0 H locs cells slots ls adr Qc mc ms C hW hL (ok1 hS).2 hR hq
      rw [j1] at K
      exact lv_ifnullN C.1 C.2.1 hd (tgt_eq hk.1) K
    · rw [if_neg ho] at h
      have hk2 := okI_at hs (run_ne h)
      simp only [okI, Bool.and_eq_true, decide_eq_true_eq] at hk2
      obtain ⟨-, hn⟩ := dcd_spec hk2.2
      have K := ih _ _ _ _ _ _ h hs.tail p l e R s m args below meth c0 H locs cells slots ls adr Qc mc ms C hW hL (ok1 hS).2 hR hq
      rw [hn] at K
      have ee : tv adr (vA o) = .ref (adr o) := if_neg ho
      rw [List.map_cons]
      show W p l e R s m args below meth c0 H locs cells slots _ (F0 m pc ls (tv adr (vA o) :: st.map (tv adr)))
      rw [ee]
      exact lv_ifnull C.1 C.2.1 hd K
  · cases h
theorem s_ifnonnull {P : Par} {n k pc : Nat} {t : Int} {c : Cd} {L : LV} {st : List SV} {μ : Mem} {r : Res} (ih : IHn P n) (hs : Sfx k ((pc, .ifnonnull t) :: c)) (h : stp (run n) k (.ifnonnull t) c L st μ = some r) : SIM P k ((pc, .ifnonnull t) :: c) L st μ r := by
  simp only [stp] at h
  split at h
  · rename_i o st
    intro p l e R s m args below meth c0 H locs cells slots ls adr Qc mc ms C hW hL hS hR hq
    obtain ⟨nx, hk⟩ := okI_last hs
    simp only [okI, Bool.and_eq_true, decide_eq_true_eq] at hk
    obtain ⟨hd, -⟩ := dcd_spec hk.2
    by_cases ho : o = 0
    · rw [if_pos ho] at h
      subst ho
      have hk2 := okI_at hs (run_ne h)
      simp only [okI, Bool.and_eq_true, decide_eq_true_eq] at hk2
      obtain ⟨-, hn⟩ := dcd_spec hk2.2
      have K := ih _ _ _ _ _ _ h hs.tail p l e R s m args below meth c0 H locs cells slots ls adr Qc mc ms C hW hL (ok1 hS).2 hR hq
      rw [hn] at K
      exact lv_ifnonnullN C.1 C.2.1 hd K
    · rw [if_neg ho] at h
      obtain ⟨j1, j2⟩ := jmp_at h
      have K := ih _ _ _ _ _ _ h j2 p l e R s m args below meth c0 H locs cells slots ls adr Qc mc ms C hW hL (ok1 hS).2 hR hq
      rw [j1] at K
      have ee : tv adr (vA o) = .ref (adr o) := if_neg ho
      rw [List.map_cons]
      show W p l e R s m args below meth c0 H locs cells slots _ (F0 m pc ls (tv adr (vA o) :: st.map (tv adr)))
      rw [ee]
      exact lv_ifnonnull C.1 C.2.1 hd (tgt_eq hk.1) K
  · cases h
