-- loads and stores of arrays (printed by wip/gen/emit15.py)
theorem rng_a {n : Int} {k : Nat} {j x : Int} (hk : 50 ≤ k) (h : rng n k j x) : (k = 101 → -128 ≤ x ∧ x ≤ 127) ∧ (k = 102 → x = 0 ∨ x = 1) ∧ (k = 103 → 0 ≤ x ∧ x ≤ 65535) ∧ (k = 104 → R64 x) ∧ (k < 104 → R32 x) ∧ (110 ≤ k → x ≤ n) := by
  unfold rng at h
  rw [if_neg (by omega)] at h
  have h32 : ∀ a b : Int, a ≤ x → x ≤ b → -2147483648 ≤ a → b < 2147483648 → R32 x := fun a b h1 h2 h3 h4 => ⟨by omega, by omega⟩
  by_cases h1 : k = 101
  · rw [if_pos h1] at h
    exact ⟨fun _ => h, fun q => by omega, fun q => by omega, fun q => by omega, fun _ => h32 _ _ h.1 h.2 (by decide) (by decide), fun q => by omega⟩
  · rw [if_neg h1] at h
    by_cases h2 : k = 102
    · rw [if_pos h2] at h
      exact ⟨fun q => by omega, fun _ => h, fun q => by omega, fun q => by omega, fun _ => by rcases h with rfl | rfl <;> exact ⟨by decide, by decide⟩, fun q => by omega⟩
    · rw [if_neg h2] at h
      by_cases h3 : k = 103
      · rw [if_pos h3] at h
        exact ⟨fun q => by omega, fun q => by omega, fun _ => h, fun q => by omega, fun _ => h32 _ _ h.1 h.2 (by decide) (by decide), fun q => by omega⟩
      · rw [if_neg h3] at h
        by_cases h4 : k = 104
        · rw [if_pos h4] at h
          exact ⟨fun q => by omega, fun q => by omega, fun q => by omega, fun _ => h, fun q => by omega, fun q => by omega⟩
        · rw [if_neg h4] at h
          by_cases h5 : k < 110
          · rw [if_pos h5] at h
            exact ⟨fun q => by omega, fun q => by omega, fun q => by omega, fun q => by omega, fun _ => h, fun q => by omega⟩
          · rw [if_neg h5] at h
            exact ⟨fun q => by omega, fun q => by omega, fun q => by omega, fun q => by omega, fun q => by omega, fun _ => h⟩
theorem ix_of {i : Int} {o : Int} (hi : R32 i) (h0 : 0 ≤ i) (h1 : i < ln o) : vp_in (Int32.ofInt i) (ln o).toNat := i32_in hi h0 (by omega)
theorem ofn (i : Int) (h : 0 ≤ i) : ((i.toNat : Nat) : Int) = i := by omega
section
variable {p : Program} {l : Launch} {e : Env} {R : Room} {s : State} {m : MethodId} {args : Array Value} {below : List Frame} {meth : Method} {c : Code} {H : Heap} {locs : List Loc} {cells slots : Nat} {Q : State → Prop}
variable {cc : ByteArray} {pc : Nat} {ls : Array Slot} {rest : List Value} {D : va_G} {cl : List vw_C} {A : Nat → Prop} {a : Nat} {tys : List (ClassId × FieldType)} {ws : va_W} {H0 : Heap}
theorem va_aldr (hexec : p.tables.exec = Jvm.exec) (hb : c.code = cc) (hK : va_K D cl tys s) (hP : va_P D cl ws H) (q0 t0 : Nat) {cA : ClassId} {ty : FieldType} {n : Nat} {f : Nat → Option Nat} (ha : ws[q0]? = some (a, .inl (cA, n, .inr (.inr (.inr (.inr f)))))) (ht : tys[t0]? = some (cA, ty)) (hty : ty.isReference = true) {i : Int32} (hin : vp_in i n) (hdg : decode cc pc = .ok (.aaload, 1))
    (kk : W p l e R s m args below meth c H locs cells slots Q (F0 m (pc + 1) ls (va_rf (f i.toNatClampNeg) :: rest))) : W p l e R s m args below meth c H locs cells slots Q (F0 m pc ls (.int i :: .ref a :: rest)) := by
  have hlt : i.toNatClampNeg < n := Nat.not_le.mp fun q => hin (Or.inr q)
  exact W.aald (v := va_rf (f i.toNatClampNeg)) hexec hb (hP q0 _ ha) ((hK.2 t0 _ ht).1 n (fun j => va_rf (f j))) hty (fun q => by cases q) (by show ¬ (i < 0 ∨ (arrV _ _ _).slots.size ≤ _); rw [arrV_size]; exact hin) (by show (arrV _ _ _).slots[_]? = _; rw [arrV_read _ _ hlt]) rfl rfl hdg kk
end
theorem s_iaload {P : Par} {n k pc : Nat} {c : Cd} {L : LV} {st : List SV} {μ : Mem} {r : Res} (ih : IHn P n) (hs : Sfx k ((pc, .iaload) :: c)) (h : stp (run n) k (.iaload) c L st μ = some r) : SIM P k ((pc, .iaload) :: c) L st μ r := by
  simp only [stp] at h
  split at h
  · rename_i i o st
    obtain ⟨x, hx, h⟩ := Option.bind_eq_some_iff.mp h
    unfold rdI at hx
    split at hx
    · rename_i hk
      cases hx
      intro p l e R s m args below meth c0 H locs cells slots ls adr Qc mc ms C hW hL hS hR hq
      obtain ⟨hd, hn⟩ := dcd_spec (okI_at hs (run_ne h))
      have hi : R32 i := (ok1 hS).1
      have hto : o ≤ μ 0 0 := (ok1 (ok1 hS).2).1
      have hS2 := (ok1 (ok1 hS).2).2
      rcases hk with ⟨hk, h0, h1⟩ | ⟨hk, h0, h1⟩
      · by_cases ho : 0 < o
        · have hws := wsOf_at (tc := pT P) (adr := adr) ho hto
          rw [cellE_a (by omega), hk, acon_i (by decide)] at hws
          have hrg := rng_a (by omega) (hW.2.2.2.1.2.1 o i ho hto)
          have K := ih _ _ _ _ _ _ h hs.tail p l e R s m args below meth c0 H locs cells slots ls adr Qc mc ms C hW hL (okc (hrg.2.2.2.2.1 (by omega)) hS2) hR hq
          rw [hn, List.map_cons] at K
          have eo : tv adr (vA o) = .ref (adr o) := if_neg (by omega)
          rw [List.map_cons, List.map_cons, eo]
          refine va_iald C.1 C.2.1 C.kn.vk hW.1 _ 0 hws rfl (ix_of hi h0 h1) hd ?_
          rw [i32_clamp hi h0, ofn i h0]
          exact K
        · obtain ⟨j, hj, rfl⟩ := ex_int (by omega) hk
          have ev : μ (-(j : Int) - 1) i = pX P (-(j : Int) - 1) i := hW.2.2.2.1.2.2.1 _ _ (by omega)
          rw [ev] at h
          have K := ih _ _ _ _ _ _ h hs.tail p l e R s m args below meth c0 H locs cells slots ls adr Qc mc ms C hW hL (okc (C.kn.r _ _) hS2) hR hq
          rw [hn, List.map_cons] at K
          have eo : tv adr (vA (-(j : Int) - 1)) = .ref (pA P (-(j : Int) - 1)) := by
            rw [← hW.2.2.2.2 _ (by omega)]
            exact if_neg (by omega)
          rw [List.map_cons, List.map_cons, eo]
          refine va_ti C.1 C.2.1 (C.kn.t j hj) hW.2.2.1 (ix_of hi h0 h1) rfl hd ?_
          rw [i32_clamp hi h0, ofn i h0]
          exact K
      · have e7 := ex_scr hk
        subst e7
        have hl : μ 0 1 = pL P := hW.2.2.2.1.2.2.2
        have ev : μ (-7) i = pX P (-7) i := hW.2.2.2.1.2.2.1 _ _ (by omega)
        rw [ev] at h
        have K := ih _ _ _ _ _ _ h hs.tail p l e R s m args below meth c0 H locs cells slots ls adr Qc mc ms C hW hL (okc (C.kn.r _ _) hS2) hR hq
        rw [hn, List.map_cons] at K
        have eo : tv adr (vA (-7)) = .ref (pA P (-7)) := by
          rw [← hW.2.2.2.2 _ (by omega)]
          exact rfl
        rw [List.map_cons, List.map_cons, eo]
        have hsz := C.kn.sz
        have hlt := C.kn.xlt
        refine va_sld C.1 C.2.1 C.kn.x (by omega) (by show ¬ pB P ≤ _; omega) hW.2.2.1 (i32_in hi h0 (by omega)) hd ?_
        rw [i32_clamp hi h0, ofn i h0]
        exact K
    · cases hx
  · cases h
theorem s_baload {P : Par} {n k pc : Nat} {c : Cd} {L : LV} {st : List SV} {μ : Mem} {r : Res} (ih : IHn P n) (hs : Sfx k ((pc, .baload) :: c)) (h : stp (run n) k (.baload) c L st μ = some r) : SIM P k ((pc, .baload) :: c) L st μ r := by
  simp only [stp] at h
  split at h
  · rename_i i o st
    obtain ⟨x, hx, h⟩ := Option.bind_eq_some_iff.mp h
    unfold rdB at hx
    split at hx
    · rename_i hk
      cases hx
      intro p l e R s m args below meth c0 H locs cells slots ls adr Qc mc ms C hW hL hS hR hq
      obtain ⟨hd, hn⟩ := dcd_spec (okI_at hs (run_ne h))
      have hi : R32 i := (ok1 hS).1
      have hto : o ≤ μ 0 0 := (ok1 (ok1 hS).2).1
      have hS2 := (ok1 (ok1 hS).2).2
      obtain ⟨hk, h0, h1⟩ := hk
      by_cases ho : 0 < o
      · rcases hk with hk | hk
        · have hws := wsOf_at (tc := pT P) (adr := adr) ho hto
          rw [cellE_a (by omega), hk, acon_i (by decide)] at hws
          have hrg := rng_a (by omega) (hW.2.2.2.1.2.1 o i ho hto)
          have K := ih _ _ _ _ _ _ h hs.tail p l e R s m args below meth c0 H locs cells slots ls adr Qc mc ms C hW hL (okc (hrg.2.2.2.2.1 (by omega)) hS2) hR hq
          rw [hn, List.map_cons] at K
          have eo : tv adr (vA o) = .ref (adr o) := if_neg (by omega)
          rw [List.map_cons, List.map_cons, eo]
          refine va_bald C.1 C.2.1 C.kn.vk hW.1 _ 1 hws rfl (ix_of hi h0 h1) hd ?_
          rw [i32_clamp hi h0, ofn i h0]
          exact K
        · have hws := wsOf_at (tc := pT P) (adr := adr) ho hto
          rw [cellE_a (by omega), hk, acon_i (by decide)] at hws
          have hrg := rng_a (by omega) (hW.2.2.2.1.2.1 o i ho hto)
          have K := ih _ _ _ _ _ _ h hs.tail p l e R s m args below meth c0 H locs cells slots ls adr Qc mc ms C hW hL (okc (hrg.2.2.2.2.1 (by omega)) hS2) hR hq
          rw [hn, List.map_cons] at K
          have eo : tv adr (vA o) = .ref (adr o) := if_neg (by omega)
          rw [List.map_cons, List.map_cons, eo]
          refine va_zald C.1 C.2.1 C.kn.vk hW.1 _ 2 hws rfl (ix_of hi h0 h1) hd ?_
          rw [i32_clamp hi h0, ofn i h0]
          exact K
      · obtain ⟨hk, j, hj, rfl⟩ := ex_bt (by omega) hk
        have ev : μ (-(20 + (j : Int))) i = pX P (-(20 + (j : Int))) i := hW.2.2.2.1.2.2.1 _ _ (by omega)
        rw [ev] at h
        have K := ih _ _ _ _ _ _ h hs.tail p l e R s m args below meth c0 H locs cells slots ls adr Qc mc ms C hW hL (okc (C.kn.r _ _) hS2) hR hq
        rw [hn, List.map_cons] at K
        have eo : tv adr (vA (-(20 + (j : Int)))) = .ref (pA P (-(20 + (j : Int)))) := by
          rw [← hW.2.2.2.2 _ (by omega)]
          exact if_neg (by omega)
        rw [List.map_cons, List.map_cons, eo]
        refine va_tb C.1 C.2.1 (C.kn.str j hj).2.2.2 hW.2.2.1 (ix_of hi h0 h1) rfl hd ?_
        rw [i32_clamp hi h0, ofn i h0]
        exact K
    · cases hx
  · cases h
theorem s_caload {P : Par} {n k pc : Nat} {c : Cd} {L : LV} {st : List SV} {μ : Mem} {r : Res} (ih : IHn P n) (hs : Sfx k ((pc, .caload) :: c)) (h : stp (run n) k (.caload) c L st μ = some r) : SIM P k ((pc, .caload) :: c) L st μ r := by
  simp only [stp] at h
  split at h
  · rename_i i o st
    obtain ⟨x, hx, h⟩ := Option.bind_eq_some_iff.mp h
    unfold rdC at hx
    split at hx
    · rename_i hk
      cases hx
      intro p l e R s m args below meth c0 H locs cells slots ls adr Qc mc ms C hW hL hS hR hq
      obtain ⟨hd, hn⟩ := dcd_spec (okI_at hs (run_ne h))
      have hi : R32 i := (ok1 hS).1
      have hto : o ≤ μ 0 0 := (ok1 (ok1 hS).2).1
      have hS2 := (ok1 (ok1 hS).2).2
      obtain ⟨hk, ho, h0, h1⟩ := hk
      have hws := wsOf_at (tc := pT P) (adr := adr) ho hto
      rw [cellE_a (by omega), hk, acon_i (by decide)] at hws
      have hrg := rng_a (by omega) (hW.2.2.2.1.2.1 o i ho hto)
      have K := ih _ _ _ _ _ _ h hs.tail p l e R s m args below meth c0 H locs cells slots ls adr Qc mc ms C hW hL (okc (hrg.2.2.2.2.1 (by omega)) hS2) hR hq
      rw [hn, List.map_cons] at K
      have eo : tv adr (vA o) = .ref (adr o) := if_neg (by omega)
      rw [List.map_cons, List.map_cons, eo]
      refine va_cald C.1 C.2.1 C.kn.vk hW.1 _ 3 hws rfl (ix_of hi h0 h1) hd ?_
      rw [i32_clamp hi h0, ofn i h0]
      exact K
    · cases hx
  · cases h
theorem s_laload {P : Par} {n k pc : Nat} {c : Cd} {L : LV} {st : List SV} {μ : Mem} {r : Res} (ih : IHn P n) (hs : Sfx k ((pc, .laload) :: c)) (h : stp (run n) k (.laload) c L st μ = some r) : SIM P k ((pc, .laload) :: c) L st μ r := by
  simp only [stp] at h
  split at h
  · rename_i i o st
    obtain ⟨x, hx, h⟩ := Option.bind_eq_some_iff.mp h
    unfold rdJ at hx
    split at hx
    · rename_i hk
      cases hx
      intro p l e R s m args below meth c0 H locs cells slots ls adr Qc mc ms C hW hL hS hR hq
      obtain ⟨hd, hn⟩ := dcd_spec (okI_at hs (run_ne h))
      have hi : R32 i := (ok1 hS).1
      have hto : o ≤ μ 0 0 := (ok1 (ok1 hS).2).1
      have hS2 := (ok1 (ok1 hS).2).2
      obtain ⟨hk, ho, h0, h1⟩ := hk
      have hws := wsOf_at (tc := pT P) (adr := adr) ho hto
      rw [cellE_a (by omega), hk, acon_j] at hws
      have hrg := rng_a (by omega) (hW.2.2.2.1.2.1 o i ho hto)
      have K := ih _ _ _ _ _ _ h hs.tail p l e R s m args below meth c0 H locs cells slots ls adr Qc mc ms C hW hL (okc (hrg.2.2.2.1 (by omega)) hS2) hR hq
      rw [hn, List.map_cons] at K
      have eo : tv adr (vA o) = .ref (adr o) := if_neg (by omega)
      rw [List.map_cons, List.map_cons, eo]
      refine va_lald C.1 C.2.1 C.kn.vk hW.1 _ 4 hws rfl (ix_of hi h0 h1) hd ?_
      rw [i32_clamp hi h0, ofn i h0]
      exact K
    · cases hx
  · cases h
theorem s_aaload {P : Par} {n k pc : Nat} {c : Cd} {L : LV} {st : List SV} {μ : Mem} {r : Res} (ih : IHn P n) (hs : Sfx k ((pc, .aaload) :: c)) (h : stp (run n) k (.aaload) c L st μ = some r) : SIM P k ((pc, .aaload) :: c) L st μ r := by
  simp only [stp] at h
  split at h
  · rename_i i o st
    obtain ⟨x, hx, h⟩ := Option.bind_eq_some_iff.mp h
    unfold rdA at hx
    split at hx
    · rename_i hk
      cases hx
      intro p l e R s m args below meth c0 H locs cells slots ls adr Qc mc ms C hW hL hS hR hq
      obtain ⟨hd, hn⟩ := dcd_spec (okI_at hs (run_ne h))
      have hi : R32 i := (ok1 hS).1
      have hto : o ≤ μ 0 0 := (ok1 (ok1 hS).2).1
      have hS2 := (ok1 (ok1 hS).2).2
      obtain ⟨hk, ho, h0, h1⟩ := hk
      rcases hk with hk | hk | hk | hk
      · have hws := wsOf_at (tc := pT P) (adr := adr) ho hto
        rw [cellE_a (by omega), hk, acon_a (by decide)] at hws
        have hrg := rng_a (by omega) (hW.2.2.2.1.2.1 o i ho hto)
        have K := ih _ _ _ _ _ _ h hs.tail p l e R s m args below meth c0 H locs cells slots ls adr Qc mc ms C hW hL (okc (hrg.2.2.2.2.2 (by omega)) hS2) hR hq
        rw [hn, List.map_cons] at K
        have eo : tv adr (vA o) = .ref (adr o) := if_neg (by omega)
        rw [List.map_cons, List.map_cons, eo]
        refine va_aldr C.1 C.2.1 C.kn.vk hW.1 _ 5 hws rfl rfl (ix_of hi h0 h1) hd ?_
        rw [i32_clamp hi h0, rfo_rf, ofn i h0]
        exact K
      · have hws := wsOf_at (tc := pT P) (adr := adr) ho hto
        rw [cellE_a (by omega), hk, acon_a (by decide)] at hws
        have hrg := rng_a (by omega) (hW.2.2.2.1.2.1 o i ho hto)
        have K := ih _ _ _ _ _ _ h hs.tail p l e R s m args below meth c0 H locs cells slots ls adr Qc mc ms C hW hL (okc (hrg.2.2.2.2.2 (by omega)) hS2) hR hq
        rw [hn, List.map_cons] at K
        have eo : tv adr (vA o) = .ref (adr o) := if_neg (by omega)
        rw [List.map_cons, List.map_cons, eo]
        refine va_aldr C.1 C.2.1 C.kn.vk hW.1 _ 6 hws rfl rfl (ix_of hi h0 h1) hd ?_
        rw [i32_clamp hi h0, rfo_rf, ofn i h0]
        exact K
      · have hws := wsOf_at (tc := pT P) (adr := adr) ho hto
        rw [cellE_a (by omega), hk, acon_a (by decide)] at hws
        have hrg := rng_a (by omega) (hW.2.2.2.1.2.1 o i ho hto)
        have K := ih _ _ _ _ _ _ h hs.tail p l e R s m args below meth c0 H locs cells slots ls adr Qc mc ms C hW hL (okc (hrg.2.2.2.2.2 (by omega)) hS2) hR hq
        rw [hn, List.map_cons] at K
        have eo : tv adr (vA o) = .ref (adr o) := if_neg (by omega)
        rw [List.map_cons, List.map_cons, eo]
        refine va_aldr C.1 C.2.1 C.kn.vk hW.1 _ 7 hws rfl rfl (ix_of hi h0 h1) hd ?_
        rw [i32_clamp hi h0, rfo_rf, ofn i h0]
        exact K
      · have hws := wsOf_at (tc := pT P) (adr := adr) ho hto
        rw [cellE_a (by omega), hk, acon_a (by decide)] at hws
        have hrg := rng_a (by omega) (hW.2.2.2.1.2.1 o i ho hto)
        have K := ih _ _ _ _ _ _ h hs.tail p l e R s m args below meth c0 H locs cells slots ls adr Qc mc ms C hW hL (okc (hrg.2.2.2.2.2 (by omega)) hS2) hR hq
        rw [hn, List.map_cons] at K
        have eo : tv adr (vA o) = .ref (adr o) := if_neg (by omega)
        rw [List.map_cons, List.map_cons, eo]
        refine va_aldr C.1 C.2.1 C.kn.vk hW.1 _ 8 hws rfl rfl (ix_of hi h0 h1) hd ?_
        rw [i32_clamp hi h0, rfo_rf, ofn i h0]
        exact K
    · cases hx
  · cases h
theorem upd_wr {μ : Mem} {o i x : Int} (h0 : 0 ≤ i) : upd (fun (j : Nat) => Int32.ofInt (μ o j)) i.toNat (Int32.ofInt x) = fun (j : Nat) => Int32.ofInt (wr μ o i x o j) := by
  funext j
  unfold upd
  by_cases hj : j = i.toNat
  · subst hj
    rw [if_pos rfl, ofn i h0, wr_same]
  · rw [if_neg hj, wr_idx (by omega)]
theorem updL_wr {μ : Mem} {o i x : Int} (h0 : 0 ≤ i) : vp_updL (fun (j : Nat) => Int64.ofInt (μ o j)) i.toNat (Int64.ofInt x) = fun (j : Nat) => Int64.ofInt (wr μ o i x o j) := by
  funext j
  unfold vp_updL
  by_cases hj : j = i.toNat
  · subst hj
    rw [if_pos rfl, ofn i h0, wr_same]
  · rw [if_neg hj, wr_idx (by omega)]
theorem up_wr {adr : Int → Nat} {μ : Mem} {o i x : Int} (h0 : 0 ≤ i) : va_up (fun (j : Nat) => rfo adr (μ o j)) i.toNat (rfo adr x) = fun (j : Nat) => rfo adr (wr μ o i x o j) := by
  funext j
  unfold va_up
  by_cases hj : j = i.toNat
  · subst hj
    rw [if_pos rfl, ofn i h0, wr_same]
  · rw [if_neg hj, wr_idx (by omega)]
theorem rng_mk {n : Int} {k : Nat} {j x : Int} (hk : 50 ≤ k) (h1 : k = 101 → -128 ≤ x ∧ x ≤ 127) (h2 : k = 102 → x = 0 ∨ x = 1) (h3 : k = 103 → 0 ≤ x ∧ x ≤ 65535) (h4 : k = 104 → R64 x) (h5 : k < 110 → k ≠ 104 → R32 x) (h6 : 110 ≤ k → x ≤ n) : rng n k j x := by
  unfold rng
  rw [if_neg (by omega)]
  split
  · exact h1 (by assumption)
  · split
    · exact h2 (by assumption)
    · split
      · exact h3 (by assumption)
      · split
        · exact h4 (by assumption)
        · split
          · exact h5 (by assumption) (by assumption)
          · exact h6 (by omega)
theorem jb_r (x : Int) : -128 ≤ jb x ∧ jb x ≤ 127 := by
  unfold jb
  rw [Int8.toInt_toInt32]
  have h1 := Int8.le_toInt (Int32.ofInt x).toInt8
  have h2 := Int8.toInt_lt (Int32.ofInt x).toInt8
  constructor
  · simpa using h1
  · have h3 : (Int32.ofInt x).toInt8.toInt < 128 := by simpa using h2
    omega
theorem jz_r (x : Int) : jz x = 0 ∨ jz x = 1 := by
  unfold jz
  have h : vp_nar .boolean (Int32.ofInt x) = Int32.ofInt x &&& 1 := rfl
  rw [h]
  obtain ⟨j, hj, he⟩ := pk_andE (Int32.ofInt x) (m := 1) 1 rfl
  rw [he]
  have h2 : j = 0 ∨ j = 1 := by omega
  rcases h2 with rfl | rfl
  · exact Or.inl rfl
  · exact Or.inr rfl
theorem jc_nar (x : Int) : vp_nar .char (Int32.ofInt x) = Int32.ofInt (jc x) := by
  unfold jc
  rw [i32_of, vp_nar_char, UInt32.toUInt32_toUInt16]
theorem jc_r (x : Int) : 0 ≤ jc x ∧ jc x ≤ 65535 := by
  unfold jc
  rw [pk_char, nI_toInt (by omega)]
  omega
theorem s_iastore {P : Par} {n k pc : Nat} {c : Cd} {L : LV} {st : List SV} {μ : Mem} {r : Res} (ih : IHn P n) (hs : Sfx k ((pc, .iastore) :: c)) (h : stp (run n) k (.iastore) c L st μ = some r) : SIM P k ((pc, .iastore) :: c) L st μ r := by
  simp only [stp] at h
  split at h
  · rename_i x i o st
    obtain ⟨μ1, hx, h⟩ := Option.bind_eq_some_iff.mp h
    unfold wI at hx
    split at hx
    · rename_i hk
      cases hx
      intro p l e R s m args below meth c0 H locs cells slots ls adr Qc mc ms C hW hL hS hR hq
      obtain ⟨hd, hn⟩ := dcd_spec (okI_at hs (run_ne h))
      have hx : okv (μ 0 0) (vI x) := (ok1 hS).1
      have hi : R32 i := (ok1 (ok1 hS).2).1
      have hto : o ≤ μ 0 0 := (ok1 (ok1 (ok1 hS).2).2).1
      have hS2 := (ok1 (ok1 (ok1 hS).2).2).2
      obtain ⟨hk, ho, h0, h1⟩ := hk
      have hws := wsOf_at (tc := pT P) (adr := adr) ho hto
      rw [cellE_a (by omega), hk, acon_i (by decide)] at hws
      have hrg : rng (μ 0 0) (kd o) i (x) := rng_mk (by omega) (fun q => by omega) (fun q => by omega) (fun q => by omega) (fun q => by omega) (fun _ _ => hx) (fun q => by omega)
      have eo : tv adr (vA o) = .ref (adr o) := if_neg (by omega)
      rw [List.map_cons, List.map_cons, List.map_cons, eo]
      refine va_iast C.1 C.2.1 C.kn.vk hW.1 hW.2.1 hW.2.2.1 _ 0 hws rfl (ix_of hi h0 h1) hd (fun H1 locs1 g1 g2 g3 => ?_)
      rw [i32_clamp hi h0, upd_wr h0] at g1 g2
      have K := ih _ _ _ _ _ _ h hs.tail p l e R s m args below meth c0 H1 locs1 cells slots ls adr Qc mc ms C (hW.put ho hrg (by rw [cellE_a (by omega), hk, acon_i (by decide)]) hto g1 g2 g3) (by rw [wr_n ho]; exact hL) (by rw [wr_n ho]; exact hS2) (RM_wr ho hR) (hQ_wr ho hq)
      rw [hn] at K
      exact K
    · cases hx
  · cases h
theorem s_lastore {P : Par} {n k pc : Nat} {c : Cd} {L : LV} {st : List SV} {μ : Mem} {r : Res} (ih : IHn P n) (hs : Sfx k ((pc, .lastore) :: c)) (h : stp (run n) k (.lastore) c L st μ = some r) : SIM P k ((pc, .lastore) :: c) L st μ r := by
  simp only [stp] at h
  split at h
  · rename_i x i o st
    obtain ⟨μ1, hx, h⟩ := Option.bind_eq_some_iff.mp h
    unfold wJ at hx
    split at hx
    · rename_i hk
      cases hx
      intro p l e R s m args below meth c0 H locs cells slots ls adr Qc mc ms C hW hL hS hR hq
      obtain ⟨hd, hn⟩ := dcd_spec (okI_at hs (run_ne h))
      have hx : okv (μ 0 0) (vJ x) := (ok1 hS).1
      have hi : R32 i := (ok1 (ok1 hS).2).1
      have hto : o ≤ μ 0 0 := (ok1 (ok1 (ok1 hS).2).2).1
      have hS2 := (ok1 (ok1 (ok1 hS).2).2).2
      obtain ⟨hk, ho, h0, h1⟩ := hk
      have hws := wsOf_at (tc := pT P) (adr := adr) ho hto
      rw [cellE_a (by omega), hk, acon_j] at hws
      have hrg : rng (μ 0 0) (kd o) i (x) := rng_mk (by omega) (fun q => by omega) (fun q => by omega) (fun q => by omega) (fun _ => hx) (fun q q2 => by omega) (fun q => by omega)
      have eo : tv adr (vA o) = .ref (adr o) := if_neg (by omega)
      rw [List.map_cons, List.map_cons, List.map_cons, eo]
      refine va_last C.1 C.2.1 C.kn.vk hW.1 hW.2.1 hW.2.2.1 _ 4 hws rfl (ix_of hi h0 h1) hd (fun H1 locs1 g1 g2 g3 => ?_)
      rw [i32_clamp hi h0, updL_wr h0] at g1 g2
      have K := ih _ _ _ _ _ _ h hs.tail p l e R s m args below meth c0 H1 locs1 cells slots ls adr Qc mc ms C (hW.put ho hrg (by rw [cellE_a (by omega), hk, acon_j]) hto g1 g2 g3) (by rw [wr_n ho]; exact hL) (by rw [wr_n ho]; exact hS2) (RM_wr ho hR) (hQ_wr ho hq)
      rw [hn] at K
      exact K
    · cases hx
  · cases h
theorem s_castore {P : Par} {n k pc : Nat} {c : Cd} {L : LV} {st : List SV} {μ : Mem} {r : Res} (ih : IHn P n) (hs : Sfx k ((pc, .castore) :: c)) (h : stp (run n) k (.castore) c L st μ = some r) : SIM P k ((pc, .castore) :: c) L st μ r := by
  simp only [stp] at h
  split at h
  · rename_i x i o st
    obtain ⟨μ1, hx, h⟩ := Option.bind_eq_some_iff.mp h
    unfold wC at hx
    split at hx
    · rename_i hk
      cases hx
      intro p l e R s m args below meth c0 H locs cells slots ls adr Qc mc ms C hW hL hS hR hq
      obtain ⟨hd, hn⟩ := dcd_spec (okI_at hs (run_ne h))
      have hx : okv (μ 0 0) (vI x) := (ok1 hS).1
      have hi : R32 i := (ok1 (ok1 hS).2).1
      have hto : o ≤ μ 0 0 := (ok1 (ok1 (ok1 hS).2).2).1
      have hS2 := (ok1 (ok1 (ok1 hS).2).2).2
      obtain ⟨hk, ho, h0, h1⟩ := hk
      have hws := wsOf_at (tc := pT P) (adr := adr) ho hto
      rw [cellE_a (by omega), hk, acon_i (by decide)] at hws
      have hrg : rng (μ 0 0) (kd o) i (jc x) := rng_mk (by omega) (fun q => by omega) (fun q => by omega) (fun _ => jc_r x) (fun q => by omega) (fun _ _ => ⟨by have := (jc_r x).1; omega, by have := (jc_r x).2; omega⟩) (fun q => by omega)
      have eo : tv adr (vA o) = .ref (adr o) := if_neg (by omega)
      rw [List.map_cons, List.map_cons, List.map_cons, eo]
      refine va_cast C.1 C.2.1 C.kn.vk hW.1 hW.2.1 hW.2.2.1 _ 3 hws rfl (ix_of hi h0 h1) hd (fun H1 locs1 g1 g2 g3 => ?_)
      rw [i32_clamp hi h0, jc_nar, upd_wr h0] at g1 g2
      have K := ih _ _ _ _ _ _ h hs.tail p l e R s m args below meth c0 H1 locs1 cells slots ls adr Qc mc ms C (hW.put ho hrg (by rw [cellE_a (by omega), hk, acon_i (by decide)]) hto g1 g2 g3) (by rw [wr_n ho]; exact hL) (by rw [wr_n ho]; exact hS2) (RM_wr ho hR) (hQ_wr ho hq)
      rw [hn] at K
      exact K
    · cases hx
  · cases h
theorem s_bastore {P : Par} {n k pc : Nat} {c : Cd} {L : LV} {st : List SV} {μ : Mem} {r : Res} (ih : IHn P n) (hs : Sfx k ((pc, .bastore) :: c)) (h : stp (run n) k (.bastore) c L st μ = some r) : SIM P k ((pc, .bastore) :: c) L st μ r := by
  simp only [stp] at h
  split at h
  · rename_i x i o st
    obtain ⟨μ1, hx, h⟩ := Option.bind_eq_some_iff.mp h
    unfold wB at hx
    split at hx
    · rename_i hk
      cases hx
      intro p l e R s m args below meth c0 H locs cells slots ls adr Qc mc ms C hW hL hS hR hq
      obtain ⟨hd, hn⟩ := dcd_spec (okI_at hs (run_ne h))
      have hx : okv (μ 0 0) (vI x) := (ok1 hS).1
      have hi : R32 i := (ok1 (ok1 hS).2).1
      have hto : o ≤ μ 0 0 := (ok1 (ok1 (ok1 hS).2).2).1
      have hS2 := (ok1 (ok1 (ok1 hS).2).2).2
      obtain ⟨hk, ho, h0, h1⟩ := hk
      rcases hk with hk | hk
      · rw [if_pos hk] at h
        have hws := wsOf_at (tc := pT P) (adr := adr) ho hto
        rw [cellE_a (by omega), hk, acon_i (by decide)] at hws
        have hrg : rng (μ 0 0) (kd o) i (jb x) := rng_mk (by omega) (fun _ => jb_r x) (fun q => by omega) (fun q => by omega) (fun q => by omega) (fun _ _ => ⟨by have := (jb_r x).1; omega, by have := (jb_r x).2; omega⟩) (fun q => by omega)
        have eo : tv adr (vA o) = .ref (adr o) := if_neg (by omega)
        rw [List.map_cons, List.map_cons, List.map_cons, eo]
        refine va_bast C.1 C.2.1 C.kn.vk hW.1 hW.2.1 hW.2.2.1 _ 1 hws rfl (ix_of hi h0 h1) hd (fun H1 locs1 g1 g2 g3 => ?_)
        rw [i32_clamp hi h0, vp_nar_byte, show (Int32.ofInt x).toInt8.toInt32 = Int32.ofInt (jb x) from (i32_of _).symm, upd_wr h0] at g1 g2
        have K := ih _ _ _ _ _ _ h hs.tail p l e R s m args below meth c0 H1 locs1 cells slots ls adr Qc mc ms C (hW.put ho hrg (by rw [cellE_a (by omega), hk, acon_i (by decide)]) hto g1 g2 g3) (by rw [wr_n ho]; exact hL) (by rw [wr_n ho]; exact hS2) (RM_wr ho hR) (hQ_wr ho hq)
        rw [hn] at K
        exact K
      · rw [if_neg (by omega)] at h
        have hws := wsOf_at (tc := pT P) (adr := adr) ho hto
        rw [cellE_a (by omega), hk, acon_i (by decide)] at hws
        have hrg : rng (μ 0 0) (kd o) i (jz x) := rng_mk (by omega) (fun q => by omega) (fun _ => jz_r x) (fun q => by omega) (fun q => by omega) (fun _ _ => by rcases jz_r x with q | q <;> rw [q] <;> exact ⟨by decide, by decide⟩) (fun q => by omega)
        have eo : tv adr (vA o) = .ref (adr o) := if_neg (by omega)
        rw [List.map_cons, List.map_cons, List.map_cons, eo]
        refine va_zast C.1 C.2.1 C.kn.vk hW.1 hW.2.1 hW.2.2.1 _ 2 hws rfl (ix_of hi h0 h1) hd (fun H1 locs1 g1 g2 g3 => ?_)
        rw [i32_clamp hi h0, show vp_nar .boolean (Int32.ofInt x) = Int32.ofInt (jz x) from (i32_of _).symm, upd_wr h0] at g1 g2
        have K := ih _ _ _ _ _ _ h hs.tail p l e R s m args below meth c0 H1 locs1 cells slots ls adr Qc mc ms C (hW.put ho hrg (by rw [cellE_a (by omega), hk, acon_i (by decide)]) hto g1 g2 g3) (by rw [wr_n ho]; exact hL) (by rw [wr_n ho]; exact hS2) (RM_wr ho hR) (hQ_wr ho hq)
        rw [hn] at K
        exact K
    · cases hx
  · cases h
