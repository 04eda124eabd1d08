-- making objects and arrays; lookupswitch (printed by wip/gen/emit18.py)
theorem clsC_spec {c k' pc nx len : Nat} {b : ByteArray} {mk : Nat → Instr} (h : clsC c k' b pc nx len mk = true) : ∃ e ∈ clsT, e.1 = c ∧ e.2.2.1 = k' ∧ decode b pc = .ok (mk e.2.1, len) ∧ nx = pc + len := by
  unfold clsC at h
  obtain ⟨e, he, h⟩ := List.any_eq_true.mp h
  simp only [Bool.and_eq_true, beq_iff_eq] at h
  exact ⟨e, he, h.1.1, h.1.2, dcd_spec h.2⟩
theorem okC_spec {e : Nat × Nat × Nat × Nat} {r : vw_C} (h : okC e = true) (h1 : e.2.2.1 ≠ 100) (hr : cls[e.2.2.1]? = some r) : tables_1[e.2.2.2]? = some (.classLink (own e.1) e.2.1 r.1) := by
  unfold okC at h
  rw [if_neg h1, hr] at h
  exact of_decide_eq_true h
theorem zero_cls {adr : Int → Nat} {tc : Nat → ClassId} {o : Int} {ci : Nat} {r : vw_C} (hk : kd o = ci) (hc : ci < 15) (hr : cls[ci]? = some r) (hl : ln o = ((r.2.2 : Nat) : Int)) : cellE tc adr o (fun _ => 0) = .inr (ci, (List.range r.2.2).map fun (j : Nat) => fval adr (ft ci j) 0) := by
  rw [cellE_c (by omega), hk, hl]
  rfl
theorem sm_0 {adr : Int → Nat} {q : Nat} {n : Int} {t : Nat} : fval adr t 0 = fval (adN adr n q) t 0 := by
  unfold fval rfv
  split <;> rfl
theorem s_new {P : Par} {n k pc : Nat} {ci : Nat} {c : Cd} {L : LV} {st : List SV} {μ : Mem} {r : Res} (ih : IHn P n) (hs : Sfx k ((pc, .new ci) :: c)) (h : stp (run n) k (.new ci) c L st μ = some r) : SIM P k ((pc, .new ci) :: c) L st μ r := by
  simp only [stp] at h
  obtain ⟨μ1, hx, h⟩ := Option.bind_eq_some_iff.mp h
  unfold nw at hx
  split at hx
  · rename_i hk
    cases hx
    obtain ⟨hk, hl, hl0, h0⟩ := hk
    intro p l e R s m args below meth c0 H locs cells slots ls adr Qc mc ms C hW hL hS hR hq
    obtain ⟨e2, he, q1, q2, hd, hn⟩ := clsC_spec (okI_at hs (run_ne h))
    have hms := ms_at hs
    simp only [msI, Bool.and_eq_true, decide_eq_true_eq] at hms
    obtain ⟨⟨hc15, hini⟩, hins⟩ := hms
    obtain ⟨r2, hr2⟩ : ∃ r2, cls[ci]? = some r2 := ⟨_, List.getElem?_eq_getElem (by show ci < 15; exact hc15)⟩
    have hgd : cls.getD ci ("", F_0, 0) = r2 := by rw [List.getD_eq_getElem?_getD, hr2]; rfl
    rw [hgd] at hl hini hins
    have hm2 := List.mem_of_getElem? hr2
    have hw := okC_spec (r := r2) (cls_ok e2 he) (by rw [q2]; omega) (by rw [q2]; exact hr2)
    rw [q1] at hw
    unfold isIni at hini
    have hini2 := tb_mem (of_decide_eq_true hini) rfl
    obtain ⟨pi, hpi, hins⟩ := List.any_eq_true.mp hins
    have hins2 := tb_mem (of_decide_eq_true hins) rfl
    have hN : (ln (μ 0 0 + 1)).toNat = r2.2.2 := by rw [hl]; rfl
    have hRn := RM_new h0 (run_mono _ _ _ _ _ _ _ h) hN hR
    have hsz := C.kn.sz
    refine va_new C.1 C.2.1 C.2.2.2.2.1 (lays_good r2 hm2) _ (hty_of hm2) C.2.2.2.1 (C.2.2.2.2.1 _ (tb_mem hw rfl)) (C.2.2.2.2.1 _ hins2) (C.2.2.2.2.1 _ hini2) C.kn.vk hW.1 hW.2.1 hW.2.2.1 (fun q hq2 => Nat.le_trans hsz hq2) hr2 (fs := (List.range r2.2.2).map fun (j : Nat) => fval adr (ft ci j) 0) (fun j hj => ?_) hRn.2.1 hRn.2.2 hd (fun q H1 g1 g2 g3 => ?_)
    · unfold vp_V
      rw [List.getD_eq_getElem?_getD, fs_at (g := fun _ => 0) hj]
      have hfo := ft_ok ci hc15 r2 hr2 j hj
      rw [hty_of hm2 j hj] at hfo
      exact dflt_fval hfo (ft_le ci hc15 r2 hr2 j hj)
    · have K := new_go ih hs h hN C hW hL hS hR hq (l := l) (e := e) (below := below) (q := q) (H1 := H1) (E := .inr (ci, (List.range r2.2.2).map fun (j : Nat) => fval adr (ft ci j) 0)) (by
        rw [zero_cls hk hc15 hr2 hl]
        congr 2) g1 g2 g3
      rw [hn] at K
      exact K
  · cases hx
theorem tc_of {P : Par} {s : State} {cA : ClassId} {ty : FieldType} (hK : va_K (pD P) cls (tysL (pT P)) s) (i : Nat) {cB : ClassId} (hi : (tysL (pT P))[i]? = some (cB, ty)) (h : va_K (pD P) cls (tysL (pT P) ++ [(cA, ty)]) s) (hp : ∀ c, va_RA s c ty → s.vm.findClass ("[" ++ ty.toString) = some c) : cA = cB := by
  have h1 := (hK.2 i _ hi).2
  have h2 := (h.2 (tysL (pT P)).length (cA, ty) (by rw [List.getElem?_append_right (Nat.le_refl _)]; simp)).2
  have h3 := hp _ h1
  have h4 := hp _ h2
  exact Option.some.inj (h4.symm.trans h3)
theorem zero_arr {adr : Int → Nat} {tc : Nat → ClassId} {o : Int} {k : Nat} (hk : kd o = k) (h50 : 50 ≤ k) : cellE tc adr o (fun _ => 0) = .inl (tc k, (ln o).toNat, acon adr k (fun _ => 0)) := by
  rw [cellE_a (by omega), hk]
theorem nokd (o : Int) : kd o ≠ 998 := by
  have h := ob_all (p := fun q => decide (q.1 ≠ 998)) (by decide +kernel) (by decide +kernel) (by decide +kernel) (by decide +kernel) (by decide +kernel) (fun r => by
    unfold shK
    repeat' first
      | exact (by decide +kernel)
      | refine ite_p (fun q : Nat × Int => decide (q.1 ≠ 998)) ?_ ?_) o
  exact of_decide_eq_true h
theorem s_newarray {P : Par} {n k pc : Nat} {t : ArrayType} {c : Cd} {L : LV} {st : List SV} {μ : Mem} {r : Res} (ih : IHn P n) (hs : Sfx k ((pc, .newarray t) :: c)) (h : stp (run n) k (.newarray t) c L st μ = some r) : SIM P k ((pc, .newarray t) :: c) L st μ r := by
  simp only [stp] at h
  split at h
  · rename_i n1 st
    split at h
    · rename_i hle
      cases t
      · obtain ⟨μ1, hx, h2⟩ := Option.bind_eq_some_iff.mp h
        change nw μ 102 n1 = some μ1 at hx
        unfold nw at hx
        split at hx
        · rename_i hk
          cases hx
          obtain ⟨hk, hl, hl0, h0⟩ := hk
          intro p l e R s m args below meth c0 H locs cells slots ls adr Qc mc ms C hW hL hS hR hq
          obtain ⟨hd, hn⟩ := dcd_spec (okI_at hs (run_ne h2))
          have hx : R32 n1 := (ok1 hS).1
          have hN : (ln (μ 0 0 + 1)).toNat = n1.toNat := by rw [hl]
          have hRn := RM_new h0 (run_mono _ _ _ _ _ _ _ h2) hN hR
          have hsz := C.kn.sz
          have hneg : ¬ Int32.ofInt n1 < 0 := by rw [i32_lt0 hx]; omega
          refine va_newa C.1 C.2.1 (C.2.2.2.2.1 _ (tb_mem (i := 274) (by decide +kernel) rfl)) (ty := .boolean) rfl C.kn.vk hW.1 hW.2.1 hW.2.2.1 (fun q hq2 => Nat.le_trans hsz hq2) (a0 := (n1.toNat, .inl fun _ => (0 : Int32))) (fun cA => rfl) hneg (i32_clamp hx hl0) (by show n1.toNat * 1 ≤ 536870912; omega) hRn.2.1 hRn.2.2 hd (fun q cA H1 g0 g1 g2 g3 => ?_)
          have ec := tc_of C.kn.vk 2 rfl g0 (fun c z => z)
          subst ec
          have K := new_go ih hs h2 hN C hW hL (ok1 hS).2 hR hq (l := l) (e := e) (below := below) (q := q) (H1 := H1) (E := .inl (pT P 102, n1.toNat, .inl fun _ => (0 : Int32))) (by rw [zero_arr hk (by decide), hN, acon_i (by decide)]; rfl) g1 g2 g3
          rw [hn] at K
          exact K
        · cases hx
      · obtain ⟨μ1, hx, h2⟩ := Option.bind_eq_some_iff.mp h
        change nw μ 103 n1 = some μ1 at hx
        unfold nw at hx
        split at hx
        · rename_i hk
          cases hx
          obtain ⟨hk, hl, hl0, h0⟩ := hk
          intro p l e R s m args below meth c0 H locs cells slots ls adr Qc mc ms C hW hL hS hR hq
          obtain ⟨hd, hn⟩ := dcd_spec (okI_at hs (run_ne h2))
          have hx : R32 n1 := (ok1 hS).1
          have hN : (ln (μ 0 0 + 1)).toNat = n1.toNat := by rw [hl]
          have hRn := RM_new h0 (run_mono _ _ _ _ _ _ _ h2) hN hR
          have hsz := C.kn.sz
          have hneg : ¬ Int32.ofInt n1 < 0 := by rw [i32_lt0 hx]; omega
          refine va_newa C.1 C.2.1 (C.2.2.2.2.1 _ (tb_mem (i := 523) (by decide +kernel) rfl)) (ty := .char) rfl C.kn.vk hW.1 hW.2.1 hW.2.2.1 (fun q hq2 => Nat.le_trans hsz hq2) (a0 := (n1.toNat, .inl fun _ => (0 : Int32))) (fun cA => rfl) hneg (i32_clamp hx hl0) (by show n1.toNat * 2 ≤ 536870912; omega) hRn.2.1 hRn.2.2 hd (fun q cA H1 g0 g1 g2 g3 => ?_)
          have ec := tc_of C.kn.vk 3 rfl g0 (fun c z => z)
          subst ec
          have K := new_go ih hs h2 hN C hW hL (ok1 hS).2 hR hq (l := l) (e := e) (below := below) (q := q) (H1 := H1) (E := .inl (pT P 103, n1.toNat, .inl fun _ => (0 : Int32))) (by rw [zero_arr hk (by decide), hN, acon_i (by decide)]; rfl) g1 g2 g3
          rw [hn] at K
          exact K
        · cases hx
      · obtain ⟨μ1, hx, h2⟩ := Option.bind_eq_some_iff.mp h
        change nw μ 998 n1 = some μ1 at hx
        unfold nw at hx
        split at hx
        · rename_i hk
          exact absurd hk.1 (nokd _)
        · cases hx
      · obtain ⟨μ1, hx, h2⟩ := Option.bind_eq_some_iff.mp h
        change nw μ 998 n1 = some μ1 at hx
        unfold nw at hx
        split at hx
        · rename_i hk
          exact absurd hk.1 (nokd _)
        · cases hx
      · obtain ⟨μ1, hx, h2⟩ := Option.bind_eq_some_iff.mp h
        change nw μ 101 n1 = some μ1 at hx
        unfold nw at hx
        split at hx
        · rename_i hk
          cases hx
          obtain ⟨hk, hl, hl0, h0⟩ := hk
          intro p l e R s m args below meth c0 H locs cells slots ls adr Qc mc ms C hW hL hS hR hq
          obtain ⟨hd, hn⟩ := dcd_spec (okI_at hs (run_ne h2))
          have hx : R32 n1 := (ok1 hS).1
          have hN : (ln (μ 0 0 + 1)).toNat = n1.toNat := by rw [hl]
          have hRn := RM_new h0 (run_mono _ _ _ _ _ _ _ h2) hN hR
          have hsz := C.kn.sz
          have hneg : ¬ Int32.ofInt n1 < 0 := by rw [i32_lt0 hx]; omega
          refine va_newa C.1 C.2.1 (C.2.2.2.2.1 _ (tb_mem (i := 69) (by decide +kernel) rfl)) (ty := .byte) rfl C.kn.vk hW.1 hW.2.1 hW.2.2.1 (fun q hq2 => Nat.le_trans hsz hq2) (a0 := (n1.toNat, .inl fun _ => (0 : Int32))) (fun cA => rfl) hneg (i32_clamp hx hl0) (by show n1.toNat * 1 ≤ 536870912; omega) hRn.2.1 hRn.2.2 hd (fun q cA H1 g0 g1 g2 g3 => ?_)
          have ec := tc_of C.kn.vk 1 rfl g0 (fun c z => z)
          subst ec
          have K := new_go ih hs h2 hN C hW hL (ok1 hS).2 hR hq (l := l) (e := e) (below := below) (q := q) (H1 := H1) (E := .inl (pT P 101, n1.toNat, .inl fun _ => (0 : Int32))) (by rw [zero_arr hk (by decide), hN, acon_i (by decide)]; rfl) g1 g2 g3
          rw [hn] at K
          exact K
        · cases hx
      · obtain ⟨μ1, hx, h2⟩ := Option.bind_eq_some_iff.mp h
        change nw μ 998 n1 = some μ1 at hx
        unfold nw at hx
        split at hx
        · rename_i hk
          exact absurd hk.1 (nokd _)
        · cases hx
      · obtain ⟨μ1, hx, h2⟩ := Option.bind_eq_some_iff.mp h
        change nw μ 100 n1 = some μ1 at hx
        unfold nw at hx
        split at hx
        · rename_i hk
          cases hx
          obtain ⟨hk, hl, hl0, h0⟩ := hk
          intro p l e R s m args below meth c0 H locs cells slots ls adr Qc mc ms C hW hL hS hR hq
          obtain ⟨hd, hn⟩ := dcd_spec (okI_at hs (run_ne h2))
          have hx : R32 n1 := (ok1 hS).1
          have hN : (ln (μ 0 0 + 1)).toNat = n1.toNat := by rw [hl]
          have hRn := RM_new h0 (run_mono _ _ _ _ _ _ _ h2) hN hR
          have hsz := C.kn.sz
          have hneg : ¬ Int32.ofInt n1 < 0 := by rw [i32_lt0 hx]; omega
          refine va_newa C.1 C.2.1 (C.2.2.2.2.1 _ (tb_mem (i := 70) (by decide +kernel) rfl)) (ty := .int) rfl C.kn.vk hW.1 hW.2.1 hW.2.2.1 (fun q hq2 => Nat.le_trans hsz hq2) (a0 := (n1.toNat, .inl fun _ => (0 : Int32))) (fun cA => rfl) hneg (i32_clamp hx hl0) (by show n1.toNat * 4 ≤ 536870912; omega) hRn.2.1 hRn.2.2 hd (fun q cA H1 g0 g1 g2 g3 => ?_)
          have ec := tc_of C.kn.vk 0 rfl g0 (fun c z => z)
          subst ec
          have K := new_go ih hs h2 hN C hW hL (ok1 hS).2 hR hq (l := l) (e := e) (below := below) (q := q) (H1 := H1) (E := .inl (pT P 100, n1.toNat, .inl fun _ => (0 : Int32))) (by rw [zero_arr hk (by decide), hN, acon_i (by decide)]; rfl) g1 g2 g3
          rw [hn] at K
          exact K
        · cases hx
      · obtain ⟨μ1, hx, h2⟩ := Option.bind_eq_some_iff.mp h
        change nw μ 104 n1 = some μ1 at hx
        unfold nw at hx
        split at hx
        · rename_i hk
          cases hx
          obtain ⟨hk, hl, hl0, h0⟩ := hk
          intro p l e R s m args below meth c0 H locs cells slots ls adr Qc mc ms C hW hL hS hR hq
          obtain ⟨hd, hn⟩ := dcd_spec (okI_at hs (run_ne h2))
          have hx : R32 n1 := (ok1 hS).1
          have hN : (ln (μ 0 0 + 1)).toNat = n1.toNat := by rw [hl]
          have hRn := RM_new h0 (run_mono _ _ _ _ _ _ _ h2) hN hR
          have hsz := C.kn.sz
          have hneg : ¬ Int32.ofInt n1 < 0 := by rw [i32_lt0 hx]; omega
          refine va_newa C.1 C.2.1 (C.2.2.2.2.1 _ (tb_mem (i := 1671) (by decide +kernel) rfl)) (ty := .long) rfl C.kn.vk hW.1 hW.2.1 hW.2.2.1 (fun q hq2 => Nat.le_trans hsz hq2) (a0 := (n1.toNat, .inr (.inl fun _ => (0 : Int64)))) (fun cA => rfl) hneg (i32_clamp hx hl0) (by show n1.toNat * 8 ≤ 536870912; omega) hRn.2.1 hRn.2.2 hd (fun q cA H1 g0 g1 g2 g3 => ?_)
          have ec := tc_of C.kn.vk 4 rfl g0 (fun c z => z)
          subst ec
          have K := new_go ih hs h2 hN C hW hL (ok1 hS).2 hR hq (l := l) (e := e) (below := below) (q := q) (H1 := H1) (E := .inl (pT P 104, n1.toNat, .inr (.inl fun _ => (0 : Int64)))) (by rw [zero_arr hk (by decide), hN, acon_j]; rfl) g1 g2 g3
          rw [hn] at K
          exact K
        · cases hx
    · cases h
  · cases h
theorem s_anewarray {P : Par} {n k pc : Nat} {ci : Nat} {c : Cd} {L : LV} {st : List SV} {μ : Mem} {r : Res} (ih : IHn P n) (hs : Sfx k ((pc, .anewarray ci) :: c)) (h : stp (run n) k (.anewarray ci) c L st μ = some r) : SIM P k ((pc, .anewarray ci) :: c) L st μ r := by
  simp only [stp] at h
  split at h
  · rename_i n1 st
    split at h
    · rename_i hle
      obtain ⟨μ1, hx, h2⟩ := Option.bind_eq_some_iff.mp h
      unfold nw at hx
      split at hx
      · rename_i hk
        cases hx
        obtain ⟨hk, hl, hl0, h0⟩ := hk
        intro p l e R s m args below meth c0 H locs cells slots ls adr Qc mc ms C hW hL hS hR hq
        obtain ⟨e2, he, q1, q2, hd, hn⟩ := clsC_spec (okI_at hs (run_ne h2))
        have hms := ms_at hs
        simp only [msI, Bool.or_eq_true, beq_iff_eq] at hms
        have hx : R32 n1 := (ok1 hS).1
        have hN : (ln (μ 0 0 + 1)).toNat = n1.toNat := by rw [hl]
        have hRn := RM_new h0 (run_mono _ _ _ _ _ _ _ h2) hN hR
        have hsz := C.kn.sz
        have hneg : ¬ Int32.ofInt n1 < 0 := by rw [i32_lt0 hx]; omega
        rcases hms with (rfl | rfl) | rfl
        · have hw := okC_spec (r := ("LightDesk$Cue", F_1, 3)) (cls_ok e2 he) (by rw [q2]; decide) (by rw [q2]; rfl)
          rw [q1] at hw
          refine va_newq C.1 C.2.1 C.2.2.2.1 (C.2.2.2.2.1 _ (tb_mem hw rfl)) C.kn.aoC C.kn.vk hW.1 hW.2.1 hW.2.2.1 (fun q hq2 => Nat.le_trans hsz hq2) hneg (i32_clamp hx hl0) (by omega) hRn.2.1 hRn.2.2 hd (fun q cA H1 g0 g1 g2 g3 => ?_)
          have ec := tc_of C.kn.vk 6 rfl g0 (fun c z => z.choose_spec.choose_spec.2.2.2)
          subst ec
          have K := new_go ih hs h2 hN C hW hL (ok1 hS).2 hR hq (l := l) (e := e) (below := below) (q := q) (H1 := H1) (E := .inl (pT P 121, n1.toNat, .inr (.inr (.inr (.inr fun _ => none))))) (by rw [zero_arr hk (by decide), hN, acon_a (by decide)]; rfl) g1 g2 g3
          rw [hn] at K
          exact K
        · have hw := okC_spec (r := ("LightDesk$Row", F_5, 2)) (cls_ok e2 he) (by rw [q2]; decide) (by rw [q2]; rfl)
          rw [q1] at hw
          refine va_newq C.1 C.2.1 C.2.2.2.1 (C.2.2.2.2.1 _ (tb_mem hw rfl)) C.kn.aoR C.kn.vk hW.1 hW.2.1 hW.2.2.1 (fun q hq2 => Nat.le_trans hsz hq2) hneg (i32_clamp hx hl0) (by omega) hRn.2.1 hRn.2.2 hd (fun q cA H1 g0 g1 g2 g3 => ?_)
          have ec := tc_of C.kn.vk 7 rfl g0 (fun c z => z.choose_spec.choose_spec.2.2.2)
          subst ec
          have K := new_go ih hs h2 hN C hW hL (ok1 hS).2 hR hq (l := l) (e := e) (below := below) (q := q) (H1 := H1) (E := .inl (pT P 125, n1.toNat, .inr (.inr (.inr (.inr fun _ => none))))) (by rw [zero_arr hk (by decide), hN, acon_a (by decide)]; rfl) g1 g2 g3
          rw [hn] at K
          exact K
        · have hw := okC_spec (r := ("LightDesk$Show", F_7, 13)) (cls_ok e2 he) (by rw [q2]; decide) (by rw [q2]; rfl)
          rw [q1] at hw
          refine va_newq C.1 C.2.1 C.2.2.2.1 (C.2.2.2.2.1 _ (tb_mem hw rfl)) C.kn.aoS C.kn.vk hW.1 hW.2.1 hW.2.2.1 (fun q hq2 => Nat.le_trans hsz hq2) hneg (i32_clamp hx hl0) (by omega) hRn.2.1 hRn.2.2 hd (fun q cA H1 g0 g1 g2 g3 => ?_)
          have ec := tc_of C.kn.vk 8 rfl g0 (fun c z => z.choose_spec.choose_spec.2.2.2)
          subst ec
          have K := new_go ih hs h2 hN C hW hL (ok1 hS).2 hR hq (l := l) (e := e) (below := below) (q := q) (H1 := H1) (E := .inl (pT P 127, n1.toNat, .inr (.inr (.inr (.inr fun _ => none))))) (by rw [zero_arr hk (by decide), hN, acon_a (by decide)]; rfl) g1 g2 g3
          rw [hn] at K
          exact K
      · cases hx
    · cases h
  · cases h
theorem look_off {f : Int → Int} (d x : Int) : ∀ ps : List (Int × Int), Op.lookupswitch.offset (ps.map fun t => (t.1, f t.2)) (f d) x = f (((ps.find? (fun q => q.1 == x)).map (fun q => q.2)).getD d)
  | [] => rfl
  | q :: ps => by
    rw [List.map_cons, Op.lookupswitch.offset_cons, List.find?_cons]
    by_cases h : q.1 = x
    · rw [if_pos h]
      simp [h]
    · rw [if_neg h, look_off d x ps]
      have h2 : (q.1 == x) = false := by simpa using h
      simp [h2]
theorem s_lookupswitch {P : Par} {n k pc : Nat} {d : Int} {ps : Array (Int × Int)} {c : Cd} {L : LV} {st : List SV} {μ : Mem} {r : Res} (ih : IHn P n) (hs : Sfx k ((pc, .lookupswitch d ps) :: c)) (h : stp (run n) k (.lookupswitch d ps) c L st μ = some r) : SIM P k ((pc, .lookupswitch d ps) :: c) L st μ r := by
  simp only [stp] at h
  split at h
  · rename_i x st
    intro p l e R s m args below meth c0 H locs cells slots ls adr Qc mc ms C hW hL hS hR hq
    obtain ⟨nx, hk⟩ := okI_last hs
    simp only [okI, Bool.and_eq_true, decide_eq_true_eq] at hk
    obtain ⟨⟨⟨hd0, hts⟩, hinc⟩, hk⟩ := hk
    obtain ⟨hd, -⟩ := dcd_spec hk
    have hx : R32 x := (ok1 hS).1
    obtain ⟨j1, j2⟩ := jmp_at h
    have ht0 : 0 ≤ ((ps.toList.find? (fun q => q.1 == x)).map (fun q => q.2)).getD d := by
      cases hf : ps.toList.find? (fun q => q.1 == x) with
      | none => exact hd0
      | some q => exact of_decide_eq_true (List.all_eq_true.mp hts q (List.mem_of_find?_eq_some hf))
    have K := ih _ _ _ _ _ _ h j2 p l e R s m args below meth c0 H locs cells slots ls adr Qc mc ms C hW hL (ok1 hS).2 hR hq
    rw [j1] at K
    refine lv_lookup C.1 C.2.1 hd hinc (off := ((ps.toList.find? (fun q => q.1 == x)).map (fun q => q.2)).getD d - (pc : Int)) ?_ (tgt_eq ht0) K
    rw [i32_id hx, Array.toList_map]
    exact look_off (f := fun t => t - (pc : Int)) d x ps.toList
  · cases h
