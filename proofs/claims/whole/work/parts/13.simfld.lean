-- fields and arrays (printed by wip/gen/emit13.py)
theorem fldC_spec {c n pc nx : Nat} {b : ByteArray} {mk : Nat → Instr} (h : fldC c n b pc nx mk = true) : ∃ e ∈ fldT, e.1 = c ∧ e.2.2.1 = n ∧ decode b pc = .ok (mk e.2.1, 3) ∧ nx = pc + 3 := by
  unfold fldC at h
  obtain ⟨e, he, h⟩ := List.any_eq_true.mp h
  simp only [Bool.and_eq_true, beq_iff_eq] at h
  exact ⟨e, he, h.1.1, h.1.2, dcd_spec h.2⟩
theorem okF_spec {e : FE} (h : okF e = true) : ∃ r, cls[e.2.2.1 / 512]? = some r ∧ e.2.2.1 / 8 % 64 < r.2.2 ∧ tyC (parseFieldDescriptor (r.2.1 (e.2.2.1 / 8 % 64)).2.2.1) = e.2.2.1 % 8 ∧ ft (e.2.2.1 / 512) (e.2.2.1 / 8 % 64) = e.2.2.1 % 8 ∧
    tables_1[e.2.2.2.2]? = some (if e.2.2.2.1 = 0 then .fieldLink (own e.1) e.2.1 (r.2.1 (e.2.2.1 / 8 % 64)).1 (r.2.1 (e.2.2.1 / 8 % 64)).2.1 (r.2.1 (e.2.2.1 / 8 % 64)).2.2.1 else .fieldLinkNest (own e.1) e.2.1 (r.2.1 (e.2.2.1 / 8 % 64)).1 (r.2.1 (e.2.2.1 / 8 % 64)).2.1 (r.2.1 (e.2.2.1 / 8 % 64)).2.2.1 "LightDesk") := by
  unfold okF at h
  split at h
  · cases h
  · rename_i r hr
    simp only [Bool.and_eq_true, decide_eq_true_eq] at h
    exact ⟨r, hr, h.1.1.1, h.1.1.2, h.1.2, h.2⟩
theorem nest_mem {i : Nat} {w : Cond} (h : tables_1[i]? = some w) : w ∈ lw_tbl := List.mem_append_right _ (List.mem_of_getElem? h)
theorem cls_lt {i : Nat} {r : vw_C} (h : cls[i]? = some r) : i < 15 := (List.getElem?_eq_some_iff.mp h).1
theorem rng_cls {n : Int} {c : Nat} {f : Nat} {x : Int} (hc : c < 50) (h : rng n c (f : Int) x) : okv n (if ft c f = 1 then vA x else vI x) := by
  unfold rng at h
  rw [if_pos hc, show ((f : Int)).toNat = f from rfl] at h
  by_cases h1 : ft c f = 1
  · rw [if_pos h1] at h
    rw [if_pos h1]
    exact h
  · rw [if_neg h1] at h
    rw [if_neg h1]
    show R32 x
    split at h
    · rcases h with rfl | rfl <;> exact ⟨by decide, by decide⟩
    · split at h
      · exact ⟨by omega, by omega⟩
      · exact h
theorem str_flds : ∀ e ∈ fldT, e.2.2.1 / 512 = 14 → e.2.2.1 = 7169 ∨ e.2.2.1 = 7179 := by
  have h : fldT.all (fun e => !decide (e.2.2.1 / 512 = 14) || decide (e.2.2.1 = 7169) || decide (e.2.2.1 = 7179)) = true := by decide +kernel
  intro e he h1
  have h2 := List.all_eq_true.mp h e he
  simp only [h1, decide_true, Bool.not_true, Bool.false_or, Bool.or_eq_true, decide_eq_true_eq] at h2
  exact h2
theorem fs_at {adr : Int → Nat} {c N f : Nat} {g : Int → Int} (h : f < N) : ((List.range N).map fun (j : Nat) => fval adr (ft c j) (g j))[f]? = some (fval adr (ft c f) (g f)) := by
  rw [List.getElem?_map, List.getElem?_range h]
  rfl
theorem fval_tv (adr : Int → Nat) (t : Nat) (x : Int) : fval adr t x = tv adr (if t = 1 then vA x else vI x) := by
  unfold fval
  split <;> rfl
theorem nest_no : ∀ e ∈ fldT, e.2.2.1 / 512 = 14 → e.2.2.2.1 = 0 := by
  have h : fldT.all (fun e => !decide (e.2.2.1 / 512 = 14) || decide (e.2.2.2.1 = 0)) = true := by decide +kernel
  intro e he h1
  have h2 := List.all_eq_true.mp h e he
  simp only [h1, decide_true, Bool.not_true, Bool.false_or, decide_eq_true_eq] at h2
  exact h2
theorem s_getfield {P : Par} {n k pc : Nat} {nn : Nat} {c : Cd} {L : LV} {st : List SV} {μ : Mem} {r : Res} (ih : IHn P n) (hs : Sfx k ((pc, .getfield nn) :: c)) (h : stp (run n) k (.getfield nn) c L st μ = some r) : SIM P k ((pc, .getfield nn) :: c) L st μ r := by
  simp only [stp] at h
  split at h
  · rename_i o st
    obtain ⟨x, hx, h⟩ := Option.bind_eq_some_iff.mp h
    unfold gf at hx
    split at hx
    · rename_i hk
      cases hx
      intro p l e R s m args below meth c0 H locs cells slots ls adr Qc mc ms C hW hL hS hR hq
      obtain ⟨e2, he, q1, q2, hd, hn⟩ := fldC_spec (okI_at hs (run_ne h))
      obtain ⟨r2, hr2, hf, hty, hft, hw⟩ := okF_spec (fld_ok e2 he)
      rw [q2] at hr2 hf hty hft hw
      rw [q1] at hw
      have hc15 := cls_lt hr2
      have hto : okv (μ 0 0) (vA o) := (ok1 hS).1
      by_cases ho : 0 < o
      · have hc : kd o < 50 := by omega
        have hv := rng_cls hc (hW.2.2.2.1.2.1 o ((nn / 8 % 64 : Nat) : Int) ho hto)
        rw [hk, hft] at hv
        have K := ih _ _ _ _ _ _ h hs.tail p l e R s m args below meth c0 H locs cells slots ls adr Qc mc ms C hW hL (okc hv (ok1 hS).2) hR hq
        rw [hn, List.map_cons] at K
        have hws := wsOf_at (tc := pT P) (adr := adr) ho hto
        rw [cellE_c hc, hk] at hws
        obtain ⟨r3, hr3, hl3⟩ := ln_cls hc
        rw [hk, hr2] at hr3
        cases hr3
        have hfs := fs_at (adr := adr) (c := nn / 512) (N := (ln o).toNat) (f := nn / 8 % 64) (g := μ o) (by rw [hl3]; simpa using hf)
        rw [fval_tv, hft] at hfs
        have eo : tv adr (vA o) = .ref (adr o) := if_neg (by omega)
        rw [List.map_cons]
        show W p l e R s m args below meth c0 H locs cells slots _ (F0 m pc ls (tv adr (vA o) :: st.map (tv adr)))
        rw [eo]
        by_cases hnest : e2.2.2.2.1 = 0
        · rw [if_pos hnest] at hw
          exact va_get C.1 C.2.1 C.2.2.2.2.1 (lays_good r2 (List.mem_of_getElem? hr2)) C.2.2.2.1 C.kn.vk hW.1 _ hws hr2 (nn / 8 % 64) hf (C.2.2.2.2.1 _ (tb_mem hw rfl)) (fun _ z => z) hfs hd K
        · rw [if_neg hnest] at hw
          exact va_getN C.1 C.2.1 C.2.2.2.2.1 (lays_good r2 (List.mem_of_getElem? hr2)) C.2.2.2.1 C.kn.vk hW.1 _ hws hr2 (nn / 8 % 64) hf (va_Nw.use rfl (C.kn.nest _ (nest_mem hw) rfl)) (fun _ z => z) hfs hd K
      · obtain ⟨h14, j, hj, rfl⟩ := ex_cls (by omega) (show kd o < 50 by omega)
        have hX := hW.2.2.2.1.2.2.1
        have hx0 := C.kn.xs (10 + (j : Int)) (by omega) (by omega)
        rcases str_flds e2 he (by rw [q2]; omega) with h71 | h71
        · rw [q2] at h71
          subst h71
          have ev : μ (-(10 + (j : Int))) (((7169 / 8 % 64 : Nat)) : Int) = -(20 + (j : Int)) := by
            rw [hX _ _ (by omega)]
            show pX P _ 0 = _
            rw [hx0.1]
            omega
          rw [ev] at h
          have K := ih _ _ _ _ _ _ h hs.tail p l e R s m args below meth c0 H locs cells slots ls adr Qc mc ms C hW hL (okc (show okv (μ 0 0) (vA (-(20 + (j : Int)))) from by have := hW.2.2.2.1.1; show -(20 + (j : Int)) ≤ μ 0 0; omega) (ok1 hS).2) hR hq
          rw [hn] at K
          have e3 : tv adr (vA (-(10 + (j : Int)))) = .ref (pA P (-(10 + (j : Int)))) := by
            rw [← hW.2.2.2.2 _ (by omega)]
            exact if_neg (by omega)
          have e4 : tv adr (vA (-(20 + (j : Int)))) = .ref (pA P (-(20 + (j : Int)))) := by
            rw [← hW.2.2.2.2 _ (by omega)]
            exact if_neg (by omega)
          rw [List.map_cons]
          show W p l e R s m args below meth c0 H locs cells slots _ (F0 m pc ls (tv adr (vA (-(10 + (j : Int)))) :: st.map (tv adr)))
          rw [e3]
          simp only [List.map_cons, if_true, e4] at K
          by_cases hnest : e2.2.2.2.1 = 0
          · rw [if_pos hnest] at hw
            cases hr2
            exact vk_getf C.1 C.2.1 (C.kn.str j hj).2.2.1 hW.2.2.1 C.2.2.2.1 (C.2.2.2.2.1 _ (tb_mem hw rfl)) (fun _ z => z) hd K
          · exact absurd (nest_no e2 he (by rw [q2])) hnest
        · rw [q2] at h71
          subst h71
          have ev : μ (-(10 + (j : Int))) (((7179 / 8 % 64 : Nat)) : Int) = 0 := by
            rw [hX _ _ (by omega)]
            exact hx0.2
          rw [ev] at h
          have K := ih _ _ _ _ _ _ h hs.tail p l e R s m args below meth c0 H locs cells slots ls adr Qc mc ms C hW hL (okc (show okv (μ 0 0) (vI 0) from r32_0) (ok1 hS).2) hR hq
          rw [hn] at K
          have e3 : tv adr (vA (-(10 + (j : Int)))) = .ref (pA P (-(10 + (j : Int)))) := by
            rw [← hW.2.2.2.2 _ (by omega)]
            exact if_neg (by omega)
          rw [List.map_cons]
          show W p l e R s m args below meth c0 H locs cells slots _ (F0 m pc ls (tv adr (vA (-(10 + (j : Int)))) :: st.map (tv adr)))
          rw [e3]
          by_cases hnest : e2.2.2.2.1 = 0
          · rw [if_pos hnest] at hw
            cases hr2
            exact vk_getf C.1 C.2.1 (C.kn.str j hj).2.1 hW.2.2.1 C.2.2.2.1 (C.2.2.2.2.1 _ (tb_mem hw rfl)) (fun _ z => z) hd K
          · exact absurd (nest_no e2 he (by rw [q2])) hnest
    · cases hx
  · cases h
