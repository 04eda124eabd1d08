-- constants, locals, switches (printed by wip/gen/emit11.py)
theorem ki_at {k pc : Nat} {i : Instr} {c : Cd} (h : Sfx k ((pc, i) :: c)) : kiI (mi k) (pc, i) = true := by
  have h1 := ki_all _ (mi_mem h)
  obtain ⟨pre, h⟩ := h
  exact List.all_eq_true.mp h1 (pc, i) (by show (pc, i) ∈ codeOf k; rw [h]; simp)
theorem tb_mem {i : Nat} {w : Cond} (h : tables_1[i]? = some w) (hg : goodWord w = true) : w ∈ Tg := List.mem_filter.mpr ⟨List.mem_append_right _ (List.mem_of_getElem? h), hg⟩
theorem i8_32 {v : Int} (h1 : -128 ≤ v) (h2 : v ≤ 127) : (Int8.ofInt v).toInt32 = Int32.ofInt v := by
  have h : (Int8.ofInt v).toInt32.toInt = v := by
    rw [Int8.toInt_toInt32, Int8.toInt_ofInt]
    exact Int.bmod_eq_of_le (by simpa using h1) (by simp; omega)
  rw [← i32_of (Int8.ofInt v).toInt32, h]
theorem i16_32 {v : Int} (h1 : -32768 ≤ v) (h2 : v ≤ 32767) : (Int16.ofInt v).toInt32 = Int32.ofInt v := by
  have h : (Int16.ofInt v).toInt32.toInt = v := by
    rw [Int16.toInt_toInt32, Int16.toInt_ofInt]
    exact Int.bmod_eq_of_le (by simpa using h1) (by simp; omega)
  rw [← i32_of (Int16.ofInt v).toInt32, h]
theorem s_iconst {P : Par} {n k pc : Nat} {v : Int} {c : Cd} {L : LV} {st : List SV} {μ : Mem} {r : Res} (ih : IHn P n) (hs : Sfx k ((pc, .iconst v) :: c)) (h : stp (run n) k (.iconst v) c L st μ = some r) : SIM P k ((pc, .iconst v) :: c) L st μ r := by
  simp only [stp] at h
  intro p l e R s m args below meth c0 H locs cells slots ls adr Qc mc ms C hW hL hS hR hq
  have hr : R32 v := by
    have h1 := ms_at hs
    simp only [msI, decide_eq_true_eq] at h1
    exact h1
  have hk := okI_at hs (run_ne h)
  simp only [okI, Bool.or_eq_true, Bool.and_eq_true, decide_eq_true_eq, List.any_eq_true, beq_iff_eq] at hk
  have K := ih _ _ _ _ _ _ h hs.tail p l e R s m args below meth c0 H locs cells slots ls adr Qc mc ms C hW hL (okc hr hS) hR hq
  rcases hk with ((hk | ⟨hb, hk⟩) | ⟨hb, hk⟩) | ⟨q, hq1, ⟨⟨e1, e2⟩, -⟩, hk⟩
  · obtain ⟨hd, hn⟩ := dcd_spec hk
    rw [hn] at K
    exact lv_iconst C.1 C.2.1 hd rfl K
  · obtain ⟨hd, hn⟩ := dcd_spec hk
    rw [hn] at K
    exact lv_bipush C.1 C.2.1 hd (i8_32 hb.1 hb.2) K
  · obtain ⟨hd, hn⟩ := dcd_spec hk
    rw [hn] at K
    exact lv_sipush C.1 C.2.1 hd (i16_32 hb.1 hb.2) K
  · have hi : isKi q = true := by
      have h2 := ki_at hs
      simp only [kiI] at h2
      have h3 := List.all_eq_true.mp h2 q hq1
      simp only [e1, e2, beq_self_eq_true, Bool.and_self, Bool.not_true, Bool.false_or, Bool.or_eq_true, Bool.and_eq_true, Bool.not_eq_true', decide_eq_false_iff_not] at h3
      rcases h3 with ⟨h4, h5⟩ | h3
      · rcases hk with hk | hk
        · exact absurd (dcd_spec hk).1 h4
        · exact absurd (dcd_spec hk).1 h5
      · exact h3
    unfold isKi at hi
    rw [decide_eq_true_eq, e1, e2] at hi
    have hw := C.2.2.2.2.1 _ (tb_mem hi rfl)
    rcases hk with hk | hk
    · obtain ⟨hd, hn⟩ := dcd_spec hk
      rw [hn] at K
      exact lv_ldc C.1 C.2.1 C.2.2.2.1 hw hd K
    · obtain ⟨hd, hn⟩ := dcd_spec hk
      rw [hn] at K
      exact lv_ldcw C.1 C.2.1 C.2.2.2.1 hw hd K
theorem s_sipush {P : Par} {n k pc : Nat} {v : Int} {c : Cd} {L : LV} {st : List SV} {μ : Mem} {r : Res} (ih : IHn P n) (hs : Sfx k ((pc, .sipush v) :: c)) (h : stp (run n) k (.sipush v) c L st μ = some r) : SIM P k ((pc, .sipush v) :: c) L st μ r := by
  simp only [stp] at h
  intro p l e R s m args below meth c0 H locs cells slots ls adr Qc mc ms C hW hL hS hR hq
  have hr : R64 v := by
    have h1 := ms_at hs
    simp only [msI, decide_eq_true_eq] at h1
    exact h1
  have hk := okI_at hs (run_ne h)
  simp only [okI, Bool.or_eq_true, Bool.and_eq_true, decide_eq_true_eq, List.any_eq_true, beq_iff_eq] at hk
  have K := ih _ _ _ _ _ _ h hs.tail p l e R s m args below meth c0 H locs cells slots ls adr Qc mc ms C hW hL (okc hr hS) hR hq
  rcases hk with (⟨rfl, hk⟩ | ⟨rfl, hk⟩) | ⟨q, hq1, ⟨⟨e1, e2⟩, -⟩, hk⟩
  · obtain ⟨hd, hn⟩ := dcd_spec hk
    rw [hn] at K
    exact lv_lconst C.1 C.2.1 hd rfl K
  · obtain ⟨hd, hn⟩ := dcd_spec hk
    rw [hn] at K
    exact lv_lconst C.1 C.2.1 hd rfl K
  · have hi : isKl q = true := by
      have h2 := ki_at hs
      simp only [kiI] at h2
      have h3 := List.all_eq_true.mp h2 q hq1
      simp only [e1, e2, beq_self_eq_true, Bool.and_self, Bool.not_true, Bool.false_or] at h3
      exact h3
    unfold isKl at hi
    rw [decide_eq_true_eq, e1, e2] at hi
    have hw := C.2.2.2.2.1 _ (tb_mem hi rfl)
    obtain ⟨hd, hn⟩ := dcd_spec hk
    rw [hn] at K
    exact lv_ldc2 C.1 C.2.1 C.2.2.2.1 hw hd K
theorem locC_spec {b : ByteArray} {pc nx j : Nat} {mk : Nat → Instr} {mk4 : Fin 4 → Instr} (h : locC b pc nx j mk mk4 = true) : (decode b pc = .ok (mk j, 2) ∧ nx = pc + 2) ∨ ∃ q : Fin 4, (q : Nat) = j ∧ decode b pc = .ok (mk4 q, 1) ∧ nx = pc + 1 := by
  unfold locC at h
  simp only [Bool.or_eq_true, Bool.and_eq_true, decide_eq_true_eq] at h
  rcases h with h | ⟨h1, h⟩
  · exact Or.inl (dcd_spec h)
  · exact Or.inr ⟨_, by simp [Fin.ofNat, Nat.mod_eq_of_lt h1], dcd_spec h⟩
theorem s_iload {P : Par} {n k pc : Nat} {j : Nat} {c : Cd} {L : LV} {st : List SV} {μ : Mem} {r : Res} (ih : IHn P n) (hs : Sfx k ((pc, .iload j) :: c)) (h : stp (run n) k (.iload j) c L st μ = some r) : SIM P k ((pc, .iload j) :: c) L st μ r := by
  simp only [stp] at h
  split at h
  · rename_i x hx
    intro p l e R s m args below meth c0 H locs cells slots ls adr Qc mc ms C hW hL hS hR hq
    have hk := locC_spec (okI_at hs (run_ne h))
    obtain ⟨hl, ho⟩ := hL.2.2.2 j _ hx
    have K := ih _ _ _ _ _ _ h hs.tail p l e R s m args below meth c0 H locs cells slots ls adr Qc mc ms C hW hL (okc ho hS) hR hq
    rcases hk with ⟨hd, hn⟩ | ⟨q, hj, hd, hn⟩
    · rw [hn] at K
      exact lv_iload C.1 C.2.1 hd hl K
    · rw [hn] at K
      exact lv_iload_n C.1 C.2.1 hd hj hl K
  · cases h
theorem s_lload {P : Par} {n k pc : Nat} {j : Nat} {c : Cd} {L : LV} {st : List SV} {μ : Mem} {r : Res} (ih : IHn P n) (hs : Sfx k ((pc, .lload j) :: c)) (h : stp (run n) k (.lload j) c L st μ = some r) : SIM P k ((pc, .lload j) :: c) L st μ r := by
  simp only [stp] at h
  split at h
  · rename_i x hx
    intro p l e R s m args below meth c0 H locs cells slots ls adr Qc mc ms C hW hL hS hR hq
    have hk := locC_spec (okI_at hs (run_ne h))
    obtain ⟨hl, ho⟩ := hL.2.2.2 j _ hx
    have K := ih _ _ _ _ _ _ h hs.tail p l e R s m args below meth c0 H locs cells slots ls adr Qc mc ms C hW hL (okc ho hS) hR hq
    rcases hk with ⟨hd, hn⟩ | ⟨q, hj, hd, hn⟩
    · rw [hn] at K
      exact lv_lload C.1 C.2.1 hd hl K
    · rw [hn] at K
      exact lv_lload_n C.1 C.2.1 hd hj hl K
  · cases h
theorem s_aload {P : Par} {n k pc : Nat} {j : Nat} {c : Cd} {L : LV} {st : List SV} {μ : Mem} {r : Res} (ih : IHn P n) (hs : Sfx k ((pc, .aload j) :: c)) (h : stp (run n) k (.aload j) c L st μ = some r) : SIM P k ((pc, .aload j) :: c) L st μ r := by
  simp only [stp] at h
  split at h
  · rename_i x hx
    intro p l e R s m args below meth c0 H locs cells slots ls adr Qc mc ms C hW hL hS hR hq
    have hk := locC_spec (okI_at hs (run_ne h))
    obtain ⟨hl, ho⟩ := hL.2.2.2 j _ hx
    have K := ih _ _ _ _ _ _ h hs.tail p l e R s m args below meth c0 H locs cells slots ls adr Qc mc ms C hW hL (okc ho hS) hR hq
    rw [List.map_cons] at K
    by_cases h0 : x = 0
    · have ee : tv adr (vA x) = .null := if_pos h0
      rw [ee] at hl K
      rcases hk with ⟨hd, hn⟩ | ⟨q, hj, hd, hn⟩
      · rw [hn] at K
        exact lv_aloadN C.1 C.2.1 hd hl K
      · rw [hn] at K
        exact lv_aload_nN C.1 C.2.1 hd hj hl K
    · have ee : tv adr (vA x) = .ref (adr x) := if_neg h0
      rw [ee] at hl K
      rcases hk with ⟨hd, hn⟩ | ⟨q, hj, hd, hn⟩
      · rw [hn] at K
        exact lv_aload C.1 C.2.1 hd hl K
      · rw [hn] at K
        exact lv_aload_n C.1 C.2.1 hd hj hl K
  · cases h
def lvl (adr : Int → Nat) (L : LV) : List (Nat × Value) := (List.range L.length).filterMap fun j => match L[j]? with
  | some (some v) => some (j, tv adr v)
  | _ => none
theorem mem_lvl {adr : Int → Nat} {L : LV} {q : Nat × Value} : q ∈ lvl adr L ↔ ∃ v, L[q.1]? = some (some v) ∧ q.2 = tv adr v := by
  unfold lvl
  rw [List.mem_filterMap]
  constructor
  · rintro ⟨j, hj, h⟩
    split at h
    · rename_i v hv
      cases h
      exact ⟨v, hv, rfl⟩
    · cases h
  · rintro ⟨v, h1, h2⟩
    refine ⟨q.1, List.mem_range.mpr (List.getElem?_eq_some_iff.mp h1).1, ?_⟩
    rw [h1]
    show some (q.1, tv adr v) = some q
    rw [← h2]
theorem LR.has {adr : Int → Nat} {n : Int} {nL : Nat} {L : LV} {ls : Array Slot} (h : LR adr n nL L ls) : lv_has ls nL (lvl adr L) := by
  refine ⟨h.2.1, h.2.2.1, fun q hq => ?_⟩
  obtain ⟨v, h1, h2⟩ := mem_lvl.mp hq
  rw [h2]
  exact (h.2.2.2 _ _ h1).1
theorem tv_cat {adr : Int → Nat} {v : SV} (h : (tv adr v).category = 2) : ∃ x, v = vJ x := by
  match v, h with
  | .inl x, h => cases h
  | .inr (.inl x), h => exact ⟨x, rfl⟩
  | .inr (.inr x), h => rw [show tv adr (.inr (.inr x)) = rfv adr x from rfl, rfv_cat] at h; cases h
theorem LR.put1 {adr : Int → Nat} {n : Int} {nL j : Nat} {L : LV} {ls ls' : Array Slot} {v : SV} (h : LR adr n nL L ls) (hj : j < L.length) (hn : noL L j = true) (ho : okv n v)
    (h2 : lv_has ls' nL ((j, tv adr v) :: (lvl adr L).filter fun q => !(q.1 == j) && !(q.1 + 1 == j && q.2.category == 2))) : LR adr n nL (L.set j (some v)) ls' := by
  refine ⟨by rw [List.length_set]; exact h.1, h2.1, h2.2.1, fun i w hi => ?_⟩
  by_cases hij : i = j
  · subst hij
    rw [List.getElem?_set_self hj] at hi
    cases hi
    exact ⟨h2.2.2 (i, tv adr v) List.mem_cons_self, ho⟩
  · rw [List.getElem?_set_ne (Ne.symm hij)] at hi
    refine ⟨h2.2.2 (i, tv adr w) (List.mem_cons_of_mem _ (List.mem_filter.mpr ⟨mem_lvl.mpr ⟨w, hi, rfl⟩, ?_⟩)), (h.2.2.2 _ _ hi).2⟩
    have h3 : (i == j) = false := by simpa using hij
    simp only [h3, Bool.not_false, Bool.true_and]
    by_cases hc : i + 1 = j
    · subst hc
      have h4 : ¬ (tv adr w).category = 2 := by
        intro hc2
        obtain ⟨x, rfl⟩ := tv_cat hc2
        unfold noL at hn
        simp only [hi] at hn
        cases hn
      simp [h4]
    · simp [hc]
theorem LR.put2 {adr : Int → Nat} {n : Int} {nL j : Nat} {L : LV} {ls ls' : Array Slot} {v : SV} (h : LR adr n nL L ls) (hj : j + 1 < L.length) (hn : noL L j = true) (ho : okv n v)
    (h2 : lv_has ls' nL ((j, tv adr v) :: (lvl adr L).filter fun q => !(q.1 == j) && (!(q.1 == j + 1) && !(q.1 + 1 == j && q.2.category == 2)))) : LR adr n nL ((L.set j (some v)).set (j + 1) none) ls' := by
  refine ⟨by rw [List.length_set, List.length_set]; exact h.1, h2.1, h2.2.1, fun i w hi => ?_⟩
  by_cases hi1 : i = j + 1
  · subst hi1
    rw [List.getElem?_set_self (by rw [List.length_set]; exact hj)] at hi
    cases hi
  · rw [List.getElem?_set_ne (Ne.symm hi1)] at hi
    by_cases hij : i = j
    · subst hij
      rw [List.getElem?_set_self (by omega)] at hi
      cases hi
      exact ⟨h2.2.2 (i, tv adr v) List.mem_cons_self, ho⟩
    · rw [List.getElem?_set_ne (Ne.symm hij)] at hi
      refine ⟨h2.2.2 (i, tv adr w) (List.mem_cons_of_mem _ (List.mem_filter.mpr ⟨mem_lvl.mpr ⟨w, hi, rfl⟩, ?_⟩)), (h.2.2.2 _ _ hi).2⟩
      have h3 : (i == j) = false := by simpa using hij
      have h5 : (i == j + 1) = false := by simpa using hi1
      simp only [h3, h5, Bool.not_false, Bool.true_and]
      by_cases hc : i + 1 = j
      · subst hc
        have h4 : ¬ (tv adr w).category = 2 := by
          intro hc2
          obtain ⟨x, rfl⟩ := tv_cat hc2
          unfold noL at hn
          simp only [hi] at hn
          cases hn
        simp [h4]
      · simp [hc]
theorem s_istore {P : Par} {n k pc : Nat} {j : Nat} {c : Cd} {L : LV} {st : List SV} {μ : Mem} {r : Res} (ih : IHn P n) (hs : Sfx k ((pc, .istore j) :: c)) (h : stp (run n) k (.istore j) c L st μ = some r) : SIM P k ((pc, .istore j) :: c) L st μ r := by
  simp only [stp] at h
  split at h
  · rename_i x st
    split at h
    · rename_i hc
      intro p l e R s m args below meth c0 H locs cells slots ls adr Qc mc ms C hW hL hS hR hq
      have hk := locC_spec (okI_at hs (run_ne h))
      have hj : j < miL (mi k) := by have := hL.1; omega
      have K := fun ls2 h2 => ih _ _ _ _ _ _ h hs.tail p l e R s m args below meth c0 H locs cells slots ls2 adr Qc mc ms C hW (hL.put1 hc.1 hc.2 (v := vI x) (ok1 hS).1 h2) (ok1 hS).2 hR hq
      rcases hk with ⟨hd, hn⟩ | ⟨q, hj2, hd, hn⟩
      · rw [hn] at K
        exact lv_istore C.1 C.2.1 hd hL.has hj rfl K
      · rw [hn] at K
        exact lv_istore_n C.1 C.2.1 hd hj2 hL.has hj rfl K
    · cases h
  · cases h
theorem s_lstore {P : Par} {n k pc : Nat} {j : Nat} {c : Cd} {L : LV} {st : List SV} {μ : Mem} {r : Res} (ih : IHn P n) (hs : Sfx k ((pc, .lstore j) :: c)) (h : stp (run n) k (.lstore j) c L st μ = some r) : SIM P k ((pc, .lstore j) :: c) L st μ r := by
  simp only [stp] at h
  split at h
  · rename_i x st
    split at h
    · rename_i hc
      intro p l e R s m args below meth c0 H locs cells slots ls adr Qc mc ms C hW hL hS hR hq
      have hk := locC_spec (okI_at hs (run_ne h))
      have hj : j + 1 < miL (mi k) := by have := hL.1; omega
      have K := fun ls2 h2 => ih _ _ _ _ _ _ h hs.tail p l e R s m args below meth c0 H locs cells slots ls2 adr Qc mc ms C hW (hL.put2 hc.1 hc.2 (v := vJ x) (ok1 hS).1 h2) (ok1 hS).2 hR hq
      rcases hk with ⟨hd, hn⟩ | ⟨q, hj2, hd, hn⟩
      · rw [hn] at K
        exact lv_lstore C.1 C.2.1 hd hL.has hj rfl K
      · rw [hn] at K
        exact lv_lstore_n C.1 C.2.1 hd hj2 hL.has hj rfl K
    · cases h
  · cases h
theorem s_astore {P : Par} {n k pc : Nat} {j : Nat} {c : Cd} {L : LV} {st : List SV} {μ : Mem} {r : Res} (ih : IHn P n) (hs : Sfx k ((pc, .astore j) :: c)) (h : stp (run n) k (.astore j) c L st μ = some r) : SIM P k ((pc, .astore j) :: c) L st μ r := by
  simp only [stp] at h
  split at h
  · rename_i x st
    split at h
    · rename_i hc
      intro p l e R s m args below meth c0 H locs cells slots ls adr Qc mc ms C hW hL hS hR hq
      have hk := locC_spec (okI_at hs (run_ne h))
      have hj : j < miL (mi k) := by have := hL.1; omega
      have K := fun ls2 h2 => ih _ _ _ _ _ _ h hs.tail p l e R s m args below meth c0 H locs cells slots ls2 adr Qc mc ms C hW (hL.put1 hc.1 hc.2 (v := vA x) (ok1 hS).1 h2) (ok1 hS).2 hR hq
      rw [List.map_cons]
      by_cases h0 : x = 0
      · have ee : tv adr (vA x) = .null := if_pos h0
        rw [ee] at K ⊢
        rcases hk with ⟨hd, hn⟩ | ⟨q, hj2, hd, hn⟩
        · rw [hn] at K
          exact lv_astoreN C.1 C.2.1 hd hL.has hj rfl K
        · rw [hn] at K
          exact lv_astore_nN C.1 C.2.1 hd hj2 hL.has hj rfl K
      · have ee : tv adr (vA x) = .ref (adr x) := if_neg h0
        rw [ee] at K ⊢
        rcases hk with ⟨hd, hn⟩ | ⟨q, hj2, hd, hn⟩
        · rw [hn] at K
          exact lv_astore C.1 C.2.1 hd hL.has hj rfl K
        · rw [hn] at K
          exact lv_astore_n C.1 C.2.1 hd hj2 hL.has hj rfl K
    · cases h
  · cases h
theorem s_iinc {P : Par} {n k pc : Nat} {j : Nat} {a : Int} {c : Cd} {L : LV} {st : List SV} {μ : Mem} {r : Res} (ih : IHn P n) (hs : Sfx k ((pc, .iinc j a) :: c)) (h : stp (run n) k (.iinc j a) c L st μ = some r) : SIM P k ((pc, .iinc j a) :: c) L st μ r := by
  simp only [stp] at h
  split at h
  · rename_i x hx
    split at h
    · rename_i hc
      intro p l e R s m args below meth c0 H locs cells slots ls adr Qc mc ms C hW hL hS hR hq
      obtain ⟨hd, hn⟩ := dcd_spec (okI_at hs (run_ne h))
      have hj : j < miL (mi k) := by have := hL.1; omega
      obtain ⟨q, hq2⟩ := List.getElem?_of_mem (mem_lvl (adr := adr) (L := L) (q := (j, tv adr (vI x))) |>.mpr ⟨vI x, hx, rfl⟩)
      have K := fun ls2 h2 => ih _ _ _ _ _ _ h hs.tail p l e R s m args below meth c0 H locs cells slots ls2 adr Qc mc ms C hW (hL.put1 hc.1 hc.2 (v := vI (jadd x a)) (i32_r _) h2) hS hR hq
      rw [hn] at K
      exact lv_iinc C.1 C.2.1 hd hL.has hq2 (show Int32.ofInt x + Int32.ofInt a = Int32.ofInt (jadd x a) by unfold jadd; rw [i32_of]) hj rfl K
    · cases h
  · cases h
