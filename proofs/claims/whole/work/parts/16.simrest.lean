-- aastore, lengths, statics, texts, switches, returns (printed by wip/gen/emit16.py)
theorem ob_all {p : Nat × Int → Bool} (h0 : p (999, 0) = true) (h1 : exT.all p = true) (h2 : obT.all p = true) (h3 : p (11, 15) = true) (h4 : p (101, 6000) = true) (h5 : ∀ r, p (shK r) = true) (o : Int) : p (ob o) = true := by
  unfold ob
  split
  · exact getD_all h0 exT h1 _
  · split
    · exact h3
    · split
      · exact h4
      · split
        · exact h5 _
        · split
          · exact getD_all h0 obT h2 _
          · split
            · exact h5 _
            · exact h0
theorem kd_arr (o : Int) : kd o < 120 ∨ kd o = 121 ∨ kd o = 125 ∨ kd o = 127 ∨ kd o = 999 := by
  have h := ob_all (p := fun q => decide (q.1 < 120 ∨ q.1 = 121 ∨ q.1 = 125 ∨ q.1 = 127 ∨ q.1 = 999)) (by decide +kernel) (by decide +kernel) (by decide +kernel) (by decide +kernel) (by decide +kernel) (fun r => by
    unfold shK
    repeat' first
      | exact (by decide +kernel)
      | refine ite_p (fun q : Nat × Int => decide (q.1 < 120 ∨ q.1 = 121 ∨ q.1 = 125 ∨ q.1 = 127 ∨ q.1 = 999)) ?_ ?_) o
  exact of_decide_eq_true h
theorem ln_le (o : Int) : ln o ≤ 103544 := by
  have h := ob_all (p := fun q => decide (q.2 ≤ 103544)) (by decide +kernel) (by decide +kernel) (by decide +kernel) (by decide +kernel) (by decide +kernel) (fun r => by
    unfold shK
    repeat' first
      | exact (by decide +kernel)
      | refine ite_p (fun q : Nat × Int => decide (q.2 ≤ 103544)) ?_ ?_) o
  exact of_decide_eq_true h
theorem ex_kinds {o : Int} (h : o ≤ 0) : kd o = 999 ∨ kd o = 100 ∨ kd o = 99 ∨ kd o = 14 ∨ kd o = 101 := by
  rw [ex_at h]
  have h2 := getD_all (p := fun q => decide (q.1 = 999 ∨ q.1 = 100 ∨ q.1 = 99 ∨ q.1 = 14 ∨ q.1 = 101)) (d := (999, 0)) (by decide +kernel) exT (by decide +kernel) (-o).toNat
  exact of_decide_eq_true h2
theorem ofNat_ofInt {z : Int} (h : 0 ≤ z) : Int32.ofNat z.toNat = Int32.ofInt z := by
  rw [← Int32.ofInt_eq_ofNat, ofn z h]
theorem s_aastore {P : Par} {n k pc : Nat} {c : Cd} {L : LV} {st : List SV} {μ : Mem} {r : Res} (ih : IHn P n) (hs : Sfx k ((pc, .aastore) :: c)) (h : stp (run n) k (.aastore) c L st μ = some r) : SIM P k ((pc, .aastore) :: c) L st μ r := by
  simp only [stp] at h
  split at h
  · rename_i x i o st
    obtain ⟨μ1, hx, h⟩ := Option.bind_eq_some_iff.mp h
    unfold wA at hx
    split at hx
    · rename_i hk
      cases hx
      intro p l e R s m args below meth c0 H locs cells slots ls adr Qc mc ms C hW hL hS hR hq
      obtain ⟨hd, hn⟩ := dcd_spec (okI_at hs (run_ne h))
      have hxo : x ≤ μ 0 0 := (ok1 hS).1
      have hi : R32 i := (ok1 (ok1 hS).2).1
      have hto : o ≤ μ 0 0 := (ok1 (ok1 (ok1 hS).2).2).1
      have hS2 := (ok1 (ok1 (ok1 hS).2).2).2
      obtain ⟨hk, ho, h0, h1⟩ := hk
      have hrg : rng (μ 0 0) (kd o) i x := by
        have hka := kd_arr o
        have : 120 ≤ kd o := by omega
        exact rng_mk (by omega) (fun q => by omega) (fun q => by omega) (fun q => by omega) (fun q => by omega) (fun q _ => by omega) (fun _ => hxo)
      rcases hk with ⟨rfl, hk⟩ | ⟨hx0, hx1, hx13, hk2⟩
      · rcases hk with hk | hk | hk
        · have hws := wsOf_at (tc := pT P) (adr := adr) ho hto
          rw [cellE_a (by omega), hk, acon_a (by decide)] at hws
          have eo : tv adr (vA o) = .ref (adr o) := if_neg (by omega)
          have ev : tv adr (vA 0) = .null := rfl
          have er : none = rfo adr 0 := rfl
          rw [List.map_cons, List.map_cons, List.map_cons, eo, ev]
          refine va_astqN C.1 C.2.1 C.kn.vk hW.1 hW.2.1 hW.2.2.1 _ 6 hws rfl (ix_of hi h0 h1) hd (fun H1 locs1 g1 g2 g3 => ?_)
          rw [i32_clamp hi h0, er, up_wr h0] at g1 g2
          have K := ih _ _ _ _ _ _ h hs.tail p l e R s m args below meth c0 H1 locs1 cells slots ls adr Qc mc ms C (hW.put ho hrg (by rw [cellE_a (by omega), hk, acon_a (by decide)]) hto g1 g2 g3) (by rw [wr_n ho]; exact hL) (by rw [wr_n ho]; exact hS2) (RM_wr ho hR) (hQ_wr ho hq)
          rw [hn] at K
          exact K
        · have hws := wsOf_at (tc := pT P) (adr := adr) ho hto
          rw [cellE_a (by omega), hk, acon_a (by decide)] at hws
          have eo : tv adr (vA o) = .ref (adr o) := if_neg (by omega)
          have ev : tv adr (vA 0) = .null := rfl
          have er : none = rfo adr 0 := rfl
          rw [List.map_cons, List.map_cons, List.map_cons, eo, ev]
          refine va_astqN C.1 C.2.1 C.kn.vk hW.1 hW.2.1 hW.2.2.1 _ 7 hws rfl (ix_of hi h0 h1) hd (fun H1 locs1 g1 g2 g3 => ?_)
          rw [i32_clamp hi h0, er, up_wr h0] at g1 g2
          have K := ih _ _ _ _ _ _ h hs.tail p l e R s m args below meth c0 H1 locs1 cells slots ls adr Qc mc ms C (hW.put ho hrg (by rw [cellE_a (by omega), hk, acon_a (by decide)]) hto g1 g2 g3) (by rw [wr_n ho]; exact hL) (by rw [wr_n ho]; exact hS2) (RM_wr ho hR) (hQ_wr ho hq)
          rw [hn] at K
          exact K
        · have hws := wsOf_at (tc := pT P) (adr := adr) ho hto
          rw [cellE_a (by omega), hk, acon_a (by decide)] at hws
          have eo : tv adr (vA o) = .ref (adr o) := if_neg (by omega)
          have ev : tv adr (vA 0) = .null := rfl
          have er : none = rfo adr 0 := rfl
          rw [List.map_cons, List.map_cons, List.map_cons, eo, ev]
          refine va_astqN C.1 C.2.1 C.kn.vk hW.1 hW.2.1 hW.2.2.1 _ 8 hws rfl (ix_of hi h0 h1) hd (fun H1 locs1 g1 g2 g3 => ?_)
          rw [i32_clamp hi h0, er, up_wr h0] at g1 g2
          have K := ih _ _ _ _ _ _ h hs.tail p l e R s m args below meth c0 H1 locs1 cells slots ls adr Qc mc ms C (hW.put ho hrg (by rw [cellE_a (by omega), hk, acon_a (by decide)]) hto g1 g2 g3) (by rw [wr_n ho]; exact hL) (by rw [wr_n ho]; exact hS2) (RM_wr ho hR) (hQ_wr ho hq)
          rw [hn] at K
          exact K
      · have hka := kd_arr o
        have hk : kd o = 121 ∨ kd o = 125 ∨ kd o = 127 := by omega
        rcases hk with hk | hk | hk
        · have hws := wsOf_at (tc := pT P) (adr := adr) ho hto
          rw [cellE_a (by omega), hk, acon_a (by decide)] at hws
          have eo : tv adr (vA o) = .ref (adr o) := if_neg (by omega)
          have ev : tv adr (vA x) = .ref (adr x) := if_neg (by omega)
          have er : some (adr x) = rfo adr x := (if_neg (by omega)).symm
          have hwx := wsOf_at (tc := pT P) (adr := adr) hx0 hx1
          rw [cellE_c (by omega), show kd x = 1 by omega] at hwx
          rw [List.map_cons, List.map_cons, List.map_cons, eo, ev]
          refine va_astq C.1 C.2.1 C.kn.vk hW.1 hW.2.1 hW.2.2.1 _ 6 _ 1 (r := ("LightDesk$Cue", F_1, 3)) hws rfl hwx rfl (ix_of hi h0 h1) hd (fun H1 locs1 g1 g2 g3 => ?_)
          rw [i32_clamp hi h0, er, up_wr h0] at g1 g2
          have K := ih _ _ _ _ _ _ h hs.tail p l e R s m args below meth c0 H1 locs1 cells slots ls adr Qc mc ms C (hW.put ho hrg (by rw [cellE_a (by omega), hk, acon_a (by decide)]) hto g1 g2 g3) (by rw [wr_n ho]; exact hL) (by rw [wr_n ho]; exact hS2) (RM_wr ho hR) (hQ_wr ho hq)
          rw [hn] at K
          exact K
        · have hws := wsOf_at (tc := pT P) (adr := adr) ho hto
          rw [cellE_a (by omega), hk, acon_a (by decide)] at hws
          have eo : tv adr (vA o) = .ref (adr o) := if_neg (by omega)
          have ev : tv adr (vA x) = .ref (adr x) := if_neg (by omega)
          have er : some (adr x) = rfo adr x := (if_neg (by omega)).symm
          have hwx := wsOf_at (tc := pT P) (adr := adr) hx0 hx1
          rw [cellE_c (by omega), show kd x = 5 by omega] at hwx
          rw [List.map_cons, List.map_cons, List.map_cons, eo, ev]
          refine va_astq C.1 C.2.1 C.kn.vk hW.1 hW.2.1 hW.2.2.1 _ 7 _ 5 (r := ("LightDesk$Row", F_5, 2)) hws rfl hwx rfl (ix_of hi h0 h1) hd (fun H1 locs1 g1 g2 g3 => ?_)
          rw [i32_clamp hi h0, er, up_wr h0] at g1 g2
          have K := ih _ _ _ _ _ _ h hs.tail p l e R s m args below meth c0 H1 locs1 cells slots ls adr Qc mc ms C (hW.put ho hrg (by rw [cellE_a (by omega), hk, acon_a (by decide)]) hto g1 g2 g3) (by rw [wr_n ho]; exact hL) (by rw [wr_n ho]; exact hS2) (RM_wr ho hR) (hQ_wr ho hq)
          rw [hn] at K
          exact K
        · have hws := wsOf_at (tc := pT P) (adr := adr) ho hto
          rw [cellE_a (by omega), hk, acon_a (by decide)] at hws
          have eo : tv adr (vA o) = .ref (adr o) := if_neg (by omega)
          have ev : tv adr (vA x) = .ref (adr x) := if_neg (by omega)
          have er : some (adr x) = rfo adr x := (if_neg (by omega)).symm
          have hwx := wsOf_at (tc := pT P) (adr := adr) hx0 hx1
          rw [cellE_c (by omega), show kd x = 7 by omega] at hwx
          rw [List.map_cons, List.map_cons, List.map_cons, eo, ev]
          refine va_astq C.1 C.2.1 C.kn.vk hW.1 hW.2.1 hW.2.2.1 _ 8 _ 7 (r := ("LightDesk$Show", F_7, 13)) hws rfl hwx rfl (ix_of hi h0 h1) hd (fun H1 locs1 g1 g2 g3 => ?_)
          rw [i32_clamp hi h0, er, up_wr h0] at g1 g2
          have K := ih _ _ _ _ _ _ h hs.tail p l e R s m args below meth c0 H1 locs1 cells slots ls adr Qc mc ms C (hW.put ho hrg (by rw [cellE_a (by omega), hk, acon_a (by decide)]) hto g1 g2 g3) (by rw [wr_n ho]; exact hL) (by rw [wr_n ho]; exact hS2) (RM_wr ho hR) (hQ_wr ho hq)
          rw [hn] at K
          exact K
    · cases hx
  · cases h
theorem s_arraylength {P : Par} {n k pc : Nat} {c : Cd} {L : LV} {st : List SV} {μ : Mem} {r : Res} (ih : IHn P n) (hs : Sfx k ((pc, .arraylength) :: c)) (h : stp (run n) k (.arraylength) c L st μ = some r) : SIM P k ((pc, .arraylength) :: c) L st μ r := by
  simp only [stp] at h
  split at h
  · rename_i o st
    obtain ⟨x, hx, h⟩ := Option.bind_eq_some_iff.mp h
    unfold aln at hx
    split at hx
    · rename_i hk
      cases hx
      intro p l e R s m args below meth c0 H locs cells slots ls adr Qc mc ms C hW hL hS hR hq
      obtain ⟨hd, hn⟩ := dcd_spec (okI_at hs (run_ne h))
      have e7 := ex_scr hk
      subst e7
      have hl : μ 0 1 = pL P := hW.2.2.2.1.2.2.2
      have hl0 := C.kn.l0
      have hl1 := C.kn.l1
      have K := ih _ _ _ _ _ _ h hs.tail p l e R s m args below meth c0 H locs cells slots ls adr Qc mc ms C hW hL (okc (show R32 (μ 0 1) from ⟨by omega, by omega⟩) (ok1 hS).2) hR hq
      rw [hn, List.map_cons] at K
      have eo : tv adr (vA (-7)) = .ref (pA P (-7)) := by
        rw [← hW.2.2.2.2 _ (by omega)]
        exact rfl
      rw [List.map_cons, eo]
      have hsz := C.kn.sz
      have hlt := C.kn.xlt
      refine va_slen C.1 C.2.1 C.kn.x (by omega) (by show ¬ pB P ≤ _; omega) hW.2.2.1 hd ?_
      rw [ofNat_ofInt hl0, ← hl]
      exact K
    · rename_i hk9
      split at hx
      · rename_i hk
        cases hx
        intro p l e R s m args below meth c0 H locs cells slots ls adr Qc mc ms C hW hL hS hR hq
        obtain ⟨hd, hn⟩ := dcd_spec (okI_at hs (run_ne h))
        have hto : o ≤ μ 0 0 := (ok1 hS).1
        have hn0 := ln_nn o
        have hnl := ln_le o
        have K := ih _ _ _ _ _ _ h hs.tail p l e R s m args below meth c0 H locs cells slots ls adr Qc mc ms C hW hL (okc (show R32 (ln o) from ⟨by omega, by omega⟩) (ok1 hS).2) hR hq
        rw [hn, List.map_cons] at K
        by_cases ho : 0 < o
        · have eo : tv adr (vA o) = .ref (adr o) := if_neg (by omega)
          rw [List.map_cons, eo]
          have hws := wsOf_at (tc := pT P) (adr := adr) ho hto
          rcases hk with hk | hk | hk | hk | hk | hk | hk | hk | hk
          · rw [cellE_a (by omega), hk, acon_i (by decide)] at hws
            exact va_alen C.1 C.2.1 C.kn.vk hW.1 _ 0 hws rfl (ofNat_ofInt hn0) hd K
          · rw [cellE_a (by omega), hk, acon_i (by decide)] at hws
            exact va_alen C.1 C.2.1 C.kn.vk hW.1 _ 1 hws rfl (ofNat_ofInt hn0) hd K
          · rw [cellE_a (by omega), hk, acon_i (by decide)] at hws
            exact va_alen C.1 C.2.1 C.kn.vk hW.1 _ 2 hws rfl (ofNat_ofInt hn0) hd K
          · rw [cellE_a (by omega), hk, acon_i (by decide)] at hws
            exact va_alen C.1 C.2.1 C.kn.vk hW.1 _ 3 hws rfl (ofNat_ofInt hn0) hd K
          · rw [cellE_a (by omega), hk, acon_j] at hws
            exact va_alen C.1 C.2.1 C.kn.vk hW.1 _ 4 hws rfl (ofNat_ofInt hn0) hd K
          · rw [cellE_a (by omega), hk, acon_a (by decide)] at hws
            exact va_alen C.1 C.2.1 C.kn.vk hW.1 _ 5 hws rfl (ofNat_ofInt hn0) hd K
          · rw [cellE_a (by omega), hk, acon_a (by decide)] at hws
            exact va_alen C.1 C.2.1 C.kn.vk hW.1 _ 6 hws rfl (ofNat_ofInt hn0) hd K
          · rw [cellE_a (by omega), hk, acon_a (by decide)] at hws
            exact va_alen C.1 C.2.1 C.kn.vk hW.1 _ 7 hws rfl (ofNat_ofInt hn0) hd K
          · rw [cellE_a (by omega), hk, acon_a (by decide)] at hws
            exact va_alen C.1 C.2.1 C.kn.vk hW.1 _ 8 hws rfl (ofNat_ofInt hn0) hd K
        · have hkk := ex_kinds (o := o) (by omega)
          by_cases h100 : kd o = 100
          · obtain ⟨j, hj, rfl⟩ := ex_int (by omega) h100
            have eo : tv adr (vA (-(j : Int) - 1)) = .ref (pA P (-(j : Int) - 1)) := by
              rw [← hW.2.2.2.2 _ (by omega)]
              exact if_neg (by omega)
            rw [List.map_cons, eo]
            exact va_tlen C.1 C.2.1 (C.kn.t j hj) hW.2.2.1 (ofNat_ofInt hn0) hd K
          · obtain ⟨-, j, hj, rfl⟩ := ex_bt (o := o) (by omega) (by omega)
            have eo : tv adr (vA (-(20 + (j : Int)))) = .ref (pA P (-(20 + (j : Int)))) := by
              rw [← hW.2.2.2.2 _ (by omega)]
              exact if_neg (by omega)
            rw [List.map_cons, eo]
            exact va_tlen C.1 C.2.1 (C.kn.str j hj).2.2.2 hW.2.2.1 (ofNat_ofInt hn0) hd K
      · cases hx
  · cases h
theorem stC_spec {c j pc nx : Nat} {b : ByteArray} (h : (stT.any fun e => e.1 == c && e.2.2.1 == j && dcd b pc (.getstatic e.2.1) 3 nx) = true) : ∃ e ∈ stT, e.1 = c ∧ e.2.2.1 = j ∧ decode b pc = .ok (.getstatic e.2.1, 3) ∧ nx = pc + 3 := by
  obtain ⟨e, he, h⟩ := List.any_eq_true.mp h
  simp only [Bool.and_eq_true, beq_iff_eq] at h
  exact ⟨e, he, h.1.1, h.1.2, dcd_spec h.2⟩
theorem okS_spec {e : Nat × Nat × Nat × Nat × Nat} (h : okS e = true) : ∃ r, stN[e.2.2.1]? = some r ∧ tables_1[e.2.2.2.1]? = some (if e.2.2.2.2 = 0 then .fieldLink (own e.1) e.2.1 r.1 r.2.1 r.2.2 else .fieldLinkNest (own e.1) e.2.1 r.1 r.2.1 r.2.2 "LightDesk") := by
  unfold okS at h
  split at h
  · cases h
  · rename_i r hr
    rw [decide_eq_true_eq] at h
    exact ⟨r, hr, h⟩
theorem s_getstatic {P : Par} {n k pc : Nat} {j : Nat} {c : Cd} {L : LV} {st : List SV} {μ : Mem} {r : Res} (ih : IHn P n) (hs : Sfx k ((pc, .getstatic j) :: c)) (h : stp (run n) k (.getstatic j) c L st μ = some r) : SIM P k ((pc, .getstatic j) :: c) L st μ r := by
  simp only [stp] at h
  split at h
  · rename_i hj
    intro p l e R s m args below meth c0 H locs cells slots ls adr Qc mc ms C hW hL hS hR hq
    obtain ⟨e2, he, q1, q2, hd, hn⟩ := stC_spec (okI_at hs (run_ne h))
    obtain ⟨r2, hr2, hw⟩ := okS_spec (st_ok e2 he)
    rw [q2] at hr2
    rw [q1] at hw
    have hz := C.kn.z j r2 hj hr2
    have hn0 := hW.2.2.2.1.1
    have K := ih _ _ _ _ _ _ h hs.tail p l e R s m args below meth c0 H locs cells slots ls adr Qc mc ms C hW hL (okc (show -(j : Int) - 1 ≤ μ 0 0 by omega) hS) hR hq
    have eo : tv adr (vA (-(j : Int) - 1)) = .ref (pA P (-(j : Int) - 1)) := by
      rw [← hW.2.2.2.2 _ (by omega)]
      exact if_neg (by omega)
    rw [hn, List.map_cons, eo] at K
    by_cases hnest : e2.2.2.2.2 = 0
    · rw [if_pos hnest] at hw
      exact va_gets C.1 C.2.1 hz hW.2.2.1 C.2.2.2.1 (C.2.2.2.2.1 _ (tb_mem hw rfl)) (fun _ z => z) hd K
    · rw [if_neg hnest] at hw
      exact va_getsN C.1 C.2.1 hz hW.2.2.1 C.2.2.2.1 (va_Nw.use rfl (C.kn.nest _ (nest_mem hw) rfl)) (fun _ z => z) hd K
  · rename_i hj
    intro p l e R s m args below meth c0 H locs cells slots ls adr Qc mc ms C hW hL hS hR hq
    obtain ⟨e2, he, q1, q2, hd, hn⟩ := stC_spec (okI_at hs (run_ne h))
    obtain ⟨r2, hr2, hw⟩ := okS_spec (st_ok e2 he)
    rw [q2] at hr2
    rw [q1] at hw
    have hms := ms_at hs
    simp only [msI, decide_eq_true_eq] at hms
    have hj6 : j = 6 := by omega
    subst hj6
    cases hr2
    have K := ih _ _ _ _ _ _ h hs.tail p l e R s m args below meth c0 H locs cells slots ls adr Qc mc ms C hW hL (okc (show R32 1 from ⟨by decide, by decide⟩) hS) hR hq
    rw [hn, List.map_cons] at K
    by_cases hnest : e2.2.2.2.2 = 0
    · rw [if_pos hnest] at hw
      exact va_gets C.1 C.2.1 C.kn.zc hW.2.2.1 C.2.2.2.1 (C.2.2.2.2.1 _ (tb_mem hw rfl)) (fun _ z => z) hd K
    · rw [if_neg hnest] at hw
      exact va_getsN C.1 C.2.1 C.kn.zc hW.2.2.1 C.2.2.2.1 (va_Nw.use rfl (C.kn.nest _ (nest_mem hw) rfl)) (fun _ z => z) hd K
theorem s_ldc {P : Par} {n k pc : Nat} {j : Nat} {c : Cd} {L : LV} {st : List SV} {μ : Mem} {r : Res} (ih : IHn P n) (hs : Sfx k ((pc, .ldc j) :: c)) (h : stp (run n) k (.ldc j) c L st μ = some r) : SIM P k ((pc, .ldc j) :: c) L st μ r := by
  simp only [stp] at h
  intro p l e R s m args below meth c0 H locs cells slots ls adr Qc mc ms C hW hL hS hR hq
  have hk := okI_at hs (run_ne h)
  simp only [okI] at hk
  obtain ⟨e2, he, hk⟩ := List.any_eq_true.mp hk
  simp only [Bool.and_eq_true, beq_iff_eq] at hk
  obtain ⟨⟨q1, q2⟩, hk⟩ := hk
  obtain ⟨hd, hn⟩ := dcd_spec hk
  have hms := ms_at hs
  simp only [msI, decide_eq_true_eq] at hms
  have hn0 := hW.2.2.2.1.1
  obtain ⟨r2, hr2⟩ : ∃ r2, strN[e2.2.2.1]? = some r2 := by
    rw [q2]
    have h4 : ∀ j, j < 4 → (strN[j]?).isSome = true := by decide +kernel
    exact Option.isSome_iff_exists.mp (h4 j hms)
  have hv := C.kn.strT e2 r2 he hr2
  rw [q1, q2] at hv
  have K := ih _ _ _ _ _ _ h hs.tail p l e R s m args below meth c0 H locs cells slots ls adr Qc mc ms C hW hL (okc (show -(10 + (j : Int)) ≤ μ 0 0 by omega) hS) hR hq
  have eo : tv adr (vA (-(10 + (j : Int)))) = .ref (pA P (-(10 + (j : Int)))) := by
    rw [← hW.2.2.2.2 _ (by omega)]
    exact if_neg (by omega)
  rw [hn, List.map_cons, eo] at K
  exact va_ldcS C.1 C.2.1 C.2.2.2.1 hv hd K
theorem toArr_map_get {ts : Array Int} {f : Int → Int} {i : Nat} (h : i < ts.toList.length) : (ts.map f)[i]? = some (f (ts.toList.getD i 0)) := by
  rw [Array.getElem?_map, ← Array.getElem?_toList, List.getD_eq_getElem?_getD, List.getElem?_eq_getElem h]
  rfl
theorem s_tableswitch {P : Par} {n k pc : Nat} {d lo hi : Int} {ts : Array Int} {c : Cd} {L : LV} {st : List SV} {μ : Mem} {r : Res} (ih : IHn P n) (hs : Sfx k ((pc, .tableswitch d lo hi ts) :: c)) (h : stp (run n) k (.tableswitch d lo hi ts) c L st μ = some r) : SIM P k ((pc, .tableswitch d lo hi ts) :: c) L st μ r := by
  simp only [stp] at h
  split at h
  · rename_i x st
    intro p l e R s m args below meth c0 H locs cells slots ls adr Qc mc ms C hW hL hS hR hq
    obtain ⟨nx, hk⟩ := okI_last hs
    simp only [okI, Bool.and_eq_true, decide_eq_true_eq] at hk
    obtain ⟨⟨⟨hd0, hts⟩, hlen⟩, hk⟩ := hk
    obtain ⟨hd, -⟩ := dcd_spec hk
    have hx : R32 x := (ok1 hS).1
    split at h
    · rename_i hin
      obtain ⟨j1, j2⟩ := jmp_at h
      have hi : (x - lo).toNat < ts.toList.length := by rw [hlen]; omega
      have ht0 : 0 ≤ ts.toList.getD (x - lo).toNat 0 := by
        rw [List.getD_eq_getElem?_getD, List.getElem?_eq_getElem hi]
        exact of_decide_eq_true (List.all_eq_true.mp hts _ (List.getElem_mem hi))
      have K := ih _ _ _ _ _ _ h j2 p l e R s m args below meth c0 H locs cells slots ls adr Qc mc ms C hW hL (ok1 hS).2 hR hq
      rw [j1] at K
      refine lv_tableIn C.1 C.2.1 hd (by rw [i32_id hx]; omega) (by rw [i32_id hx]; omega) (by rw [i32_id hx]; exact toArr_map_get hi) (tgt_eq ht0) K
    · rename_i hin
      obtain ⟨j1, j2⟩ := jmp_at h
      have K := ih _ _ _ _ _ _ h j2 p l e R s m args below meth c0 H locs cells slots ls adr Qc mc ms C hW hL (ok1 hS).2 hR hq
      rw [j1] at K
      exact lv_tableOut C.1 C.2.1 hd (by rw [i32_id hx]; omega) (tgt_eq hd0) K
  · cases h
theorem RM_end {μ : Mem} {v : Option SV} {R : Room} {cells slots mc ms : Nat} (hR : RM μ (v, μ) R cells slots mc ms) : cells = mc ∧ slots = ms := by
  obtain ⟨-, h1, h2, -⟩ := hR
  simp only at h1 h2
  constructor <;> omega
theorem s_ireturn {P : Par} {n k pc : Nat} {c : Cd} {L : LV} {st : List SV} {μ : Mem} {r : Res} (ih : IHn P n) (hs : Sfx k ((pc, .ireturn) :: c)) (h : stp (run n) k (.ireturn) c L st μ = some r) : SIM P k ((pc, .ireturn) :: c) L st μ r := by
  simp only [stp] at h
  split at h
  · rename_i x
    split at h
    · rename_i hok
      cases h
      intro p l e R s m args below meth c0 H locs cells slots ls adr Qc mc ms C hW hL hS hR hq
      obtain ⟨nx, hk⟩ := okI_last hs
      obtain ⟨hd, -⟩ := dcd_spec hk
      have hms := ms_at hs
      simp only [msI, Bool.or_eq_true, Bool.and_eq_true, beq_iff_eq, decide_eq_true_eq] at hms
      have hrt := C.2.2.2.2.2.1
      rcases hms with (⟨h1, h2⟩ | ⟨h1, h2⟩) | ⟨h1, h2⟩
      · rw [h2] at hrt
        obtain ⟨rfl, rfl⟩ := RM_end hR
        refine W.iret C.1 C.2.1 hrt (fun t ht hwm => hq adr t (fun _ _ => rfl) (by rw [ht]; exact hW.1) hW.2.1 hW.2.2.2.1 ((ok1 hS).1) (hW.2.2.1.F ht) hwm) (fun q hq2 => hW.2.2.1.2.2 q hq2) hd C.2.2.2.2.2.2.1
      · rw [h2] at hrt
        rw [h1] at hok
        have hb : x = 0 ∨ x = 1 := of_decide_eq_true hok
        have hnar : narrow .boolean (.int (Int32.ofInt x)) = .int (Int32.ofInt x) := by rcases hb with rfl | rfl <;> rfl
        obtain ⟨rfl, rfl⟩ := RM_end hR
        refine W.zret C.1 C.2.1 hrt hnar (fun t ht hwm => hq adr t (fun _ _ => rfl) (by rw [ht]; exact hW.1) hW.2.1 hW.2.2.2.1 ((ok1 hS).1) (hW.2.2.1.F ht) hwm) (fun q hq2 => hW.2.2.1.2.2 q hq2) hd C.2.2.2.2.2.2.1
      · rw [h2] at hrt
        rw [h1] at hok
        have hb : -128 ≤ x ∧ x ≤ 127 := of_decide_eq_true hok
        have hnar : narrow .byte (.int (Int32.ofInt x)) = .int (Int32.ofInt x) := by
          rw [← i8_32 hb.1 hb.2]
          show Value.int ((Int8.ofInt x).toInt32.toInt8.toInt32) = _
          rw [Int8.toInt8_toInt32]
        obtain ⟨rfl, rfl⟩ := RM_end hR
        refine W.zret C.1 C.2.1 hrt hnar (fun t ht hwm => hq adr t (fun _ _ => rfl) (by rw [ht]; exact hW.1) hW.2.1 hW.2.2.2.1 ((ok1 hS).1) (hW.2.2.1.F ht) hwm) (fun q hq2 => hW.2.2.1.2.2 q hq2) hd C.2.2.2.2.2.2.1
    · cases h
  · cases h
theorem s_areturn {P : Par} {n k pc : Nat} {c : Cd} {L : LV} {st : List SV} {μ : Mem} {r : Res} (ih : IHn P n) (hs : Sfx k ((pc, .areturn) :: c)) (h : stp (run n) k (.areturn) c L st μ = some r) : SIM P k ((pc, .areturn) :: c) L st μ r := by
  simp only [stp] at h
  split at h
  · rename_i x
    split at h
    · cases h
      intro p l e R s m args below meth c0 H locs cells slots ls adr Qc mc ms C hW hL hS hR hq
      obtain ⟨nx, hk⟩ := okI_last hs
      obtain ⟨hd, -⟩ := dcd_spec hk
      have hms := ms_at hs
      have hrt := C.2.2.2.2.2.1
      have hor : ∃ ty, miR (mi k) = some ty ∧ ((∃ n, ty = .object n) ∨ ∃ t, ty = .array t) := by
        simp only [msI] at hms
        split at hms
        · exact ⟨_, by assumption, Or.inl ⟨_, rfl⟩⟩
        · exact ⟨_, by assumption, Or.inr ⟨_, rfl⟩⟩
        · cases hms
      obtain ⟨ty, ht1, ht2⟩ := hor
      rw [ht1] at hrt
      have hvv : tv adr (vA x) = .null ∨ ∃ a, tv adr (vA x) = .ref a := by
        show rfv adr x = .null ∨ ∃ a, rfv adr x = .ref a
        unfold rfv
        split
        · exact Or.inl rfl
        · exact Or.inr ⟨_, rfl⟩
      obtain ⟨rfl, rfl⟩ := RM_end hR
      refine W.aret C.1 C.2.1 hrt ht2 hvv (fun t ht hwm => hq adr t (fun _ _ => rfl) (by rw [ht]; exact hW.1) hW.2.1 hW.2.2.2.1 ((ok1 hS).1) (hW.2.2.1.F ht) hwm) (fun q hq2 => hW.2.2.1.2.2 q hq2) hd C.2.2.2.2.2.2.1
    · cases h
  · cases h
theorem s_return {P : Par} {n k pc : Nat} {c : Cd} {L : LV} {st : List SV} {μ : Mem} {r : Res} (ih : IHn P n) (hs : Sfx k ((pc, .return_) :: c)) (h : stp (run n) k (.return_) c L st μ = some r) : SIM P k ((pc, .return_) :: c) L st μ r := by
  simp only [stp] at h
  split at h
  · split at h
    · cases h
      intro p l e R s m args below meth c0 H locs cells slots ls adr Qc mc ms C hW hL hS hR hq
      obtain ⟨nx, hk⟩ := okI_last hs
      obtain ⟨hd, -⟩ := dcd_spec hk
      have hms := ms_at hs
      simp only [msI, decide_eq_true_eq] at hms
      have hrt := C.2.2.2.2.2.1
      rw [hms] at hrt
      obtain ⟨rfl, rfl⟩ := RM_end hR
      refine W.vret C.1 C.2.1 hrt (fun t ht hwm => hq adr t (fun _ _ => rfl) (by rw [ht]; exact hW.1) hW.2.1 hW.2.2.2.1 (trivial) (hW.2.2.1.F ht) hwm) (fun q hq2 => hW.2.2.1.2.2 q hq2) hd C.2.2.2.2.2.2.1
    · cases h
  · cases h
