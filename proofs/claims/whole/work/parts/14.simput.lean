-- putfield, loads and stores of arrays (printed by wip/gen/emit14.py)
theorem fs_set {adr : Int → Nat} {c N f : Nat} {g : Int → Int} {o x : Int} {μ : Mem} (hg : g = μ o) : ((List.range N).map fun (j : Nat) => fval adr (ft c j) (g j)).set f (fval adr (ft c f) x) = (List.range N).map fun (j : Nat) => fval adr (ft c j) (wr μ o (f : Int) x o j) := by
  subst hg
  apply List.ext_getElem?
  intro i
  by_cases hi : i = f
  · subst hi
    by_cases hl : i < N
    · rw [List.getElem?_set_self (by simpa using hl), List.getElem?_map, List.getElem?_range hl]
      simp only [Option.map_some, wr_same]
    · rw [List.getElem?_eq_none (by simp; omega), List.getElem?_eq_none (by simp; omega)]
  · rw [List.getElem?_set_ne (Ne.symm hi), List.getElem?_map, List.getElem?_map]
    by_cases hl : i < N
    · rw [List.getElem?_range hl]
      simp only [Option.map_some]
      rw [wr_idx (by omega)]
    · rw [List.getElem?_eq_none (by simp; omega)]
      rfl
theorem ty_cases {d : String} {t : Nat} (h : tyC (parseFieldDescriptor d) = t) (ht : t ≤ 3) : ∃ ty, parseFieldDescriptor d = some ty ∧ tyC (some ty) = t := by
  cases hp : parseFieldDescriptor d with
  | none => rw [hp] at h; simp only [tyC] at h; omega
  | some ty => rw [hp] at h; exact ⟨ty, rfl, h⟩
theorem fits_fval {adr : Int → Nat} {ty : FieldType} {t : Nat} {x : Int} (h : tyC (some ty) = t) (ht : t ≤ 3) (h2 : t = 2 → x = 0 ∨ x = 1) (h3 : t = 3 → -128 ≤ x ∧ x ≤ 127) : narrow ty (fval adr t x) = fval adr t x ∧ fits ty (fval adr t x) = true := by
  cases ty <;> simp only [tyC] at h <;> subst h
  all_goals first | omega | skip
  · -- byte
    obtain ⟨h4, h5⟩ := h3 rfl
    have e : fval adr 3 x = .int (Int8.ofInt x).toInt32 := by
      rw [i8_32 h4 h5]
      rfl
    rw [e]
    constructor
    · show Value.int ((Int8.ofInt x).toInt32.toInt8.toInt32) = _
      rw [Int8.toInt8_toInt32]
    · have h6 := pk_fb (Int8.ofInt x).toInt32
      rw [Int8.toInt8_toInt32] at h6
      exact h6
  · exact ⟨rfl, rfl⟩
  · rcases h2 rfl with rfl | rfl <;> exact ⟨rfl, rfl⟩
  · show narrow _ (rfv adr x) = rfv adr x ∧ fits _ (rfv adr x) = true
    unfold rfv
    split <;> exact ⟨rfl, rfl⟩
  · show narrow _ (rfv adr x) = rfv adr x ∧ fits _ (rfv adr x) = true
    unfold rfv
    split <;> exact ⟨rfl, rfl⟩
theorem hnm_of {r : vw_C} (h : r ∈ cls) : ∀ a, a < r.2.2 → ∀ b, b < r.2.2 → a ≠ b → (r.2.1 a).2.1 ≠ (r.2.1 b).2.1 := by
  intro a ha b hb hab
  have h1 := cl_ok r h
  unfold okL at h1
  have h2 := List.all_eq_true.mp h1 a (List.mem_range.mpr ha)
  rw [Bool.and_eq_true] at h2
  have h3 := List.all_eq_true.mp h2.2 b (List.mem_range.mpr hb)
  rw [Bool.or_eq_true, decide_eq_true_eq, decide_eq_true_eq] at h3
  exact h3.resolve_left hab
theorem hty_of {r : vw_C} (h : r ∈ cls) : ∀ k, k < r.2.2 → parseFieldDescriptor (r.2.1 k).2.2.1 = some ((parseFieldDescriptor (r.2.1 k).2.2.1).getD .int) := by
  intro a ha
  have h1 := cl_ok r h
  unfold okL at h1
  have h2 := List.all_eq_true.mp h1 a (List.mem_range.mpr ha)
  rw [Bool.and_eq_true, decide_eq_true_eq] at h2
  obtain ⟨x, hx⟩ := Option.isSome_iff_exists.mp h2.1
  rw [hx]
  rfl
/-- what is behind a write -/
theorem WD.put {P : Par} {adr : Int → Nat} {μ : Mem} {s : State} {H H1 : Heap} {locs locs1 : List Loc} {o i v : Int} {e : va_E} (hW : WD P adr μ s H locs) (h0 : 0 < o) (hr : rng (μ 0 0) (kd o) i v) (he : e = cellE (pT P) adr o (wr μ o i v o)) (ho : o ≤ μ 0 0)
    (h1 : va_P (pD P) cls ((wsOf (pT P) adr μ).set (o - 1).toNat (adr o, e)) H1) (h2 : va_D (AA (pB P)) ((wsOf (pT P) adr μ).set (o - 1).toNat (adr o, e))) (h3 : va_S (AA (pB P)) s.heap H1 locs1) : WD P adr (wr μ o i v) s H1 locs1 := by
  subst he
  rw [wsOf_wr h0 ho] at h1 h2
  exact ⟨h1, h2, h3, RG_wr hW.2.2.2.1 h0 hr, hW.2.2.2.2⟩
theorem wr_n {μ : Mem} {o i v : Int} (h : 0 < o) : wr μ o i v 0 = μ 0 := wr_obj (by omega)
theorem RM_wr {μ : Mem} {o i v : Int} {r : Res} {R : Room} {cells slots mc ms : Nat} (h : 0 < o) (hR : RM μ r R cells slots mc ms) : RM (wr μ o i v) r R cells slots mc ms := by
  unfold RM nO at hR ⊢
  rw [wr_n h]
  exact hR
theorem hQ_wr {P : Par} {adr : Int → Nat} {μ : Mem} {o i v : Int} {r : Res} {s : State} {args : Array Value} {Qc : Array Value → State → Outcome → State → Prop} (h : 0 < o) (hq : hQ P adr μ r s args Qc) : hQ P adr (wr μ o i v) r s args Qc := by
  unfold hQ at hq ⊢
  rw [wr_n h]
  exact hq
theorem s_putv {P : Par} {n k pc nn : Nat} {c : Cd} {L : LV} {st : List SV} {μ μ1 : Mem} {r : Res} {o x : Int} {v : SV} (ih : IHn P n) (hs : Sfx k ((pc, .putfield nn) :: c)) (ht8 : nn % 8 ≤ 3) (hv : v = if nn % 8 = 1 then vA x else vI x) (hp : pf μ (nn / 512) ((nn / 8 % 64 : Nat) : Int) (nn % 8) o x = some μ1) (h : run n k c L st μ1 = some r) : SIM P k ((pc, .putfield nn) :: c) L (v :: vA o :: st) μ r := by
  unfold pf at hp
  split at hp
  · rename_i hk
    cases hp
    obtain ⟨hk, ho, hb2, hb3⟩ := hk
    intro p l e R s m args below meth c0 H locs cells slots ls adr Qc mc ms C hW hL hS hR hq
    obtain ⟨e2, he, q1, q2, hd, hn⟩ := fldC_spec (okI_at hs (run_ne h))
    obtain ⟨r2, hr2, hf, hty, hft, hw⟩ := okF_spec (fld_ok e2 he)
    rw [q2] at hr2 hf hty hft hw
    rw [q1] at hw
    have hc15 := cls_lt hr2
    have hm2 := List.mem_of_getElem? hr2
    have hto : o ≤ μ 0 0 := (ok1 (ok1 hS).2).1
    have hvo : okv (μ 0 0) v := (ok1 hS).1
    have hc : kd o < 50 := by omega
    have hws := wsOf_at (tc := pT P) (adr := adr) ho hto
    rw [cellE_c hc, hk] at hws
    obtain ⟨r3, hr3, hl3⟩ := ln_cls hc
    rw [hk, hr2] at hr3
    cases hr3
    obtain ⟨ty, hp1, hp2⟩ := ty_cases hty ht8
    have ev : tv adr v = fval adr (nn % 8) x := by rw [fval_tv, hv]
    obtain ⟨hnar, hfit⟩ := fits_fval (adr := adr) hp2 ht8 hb2 hb3
    have hrg : rng (μ 0 0) (kd o) ((nn / 8 % 64 : Nat) : Int) x := by
      unfold rng
      rw [if_pos hc, show (((nn / 8 % 64 : Nat)) : Int).toNat = nn / 8 % 64 from rfl, hk, hft]
      by_cases h1 : nn % 8 = 1
      · rw [if_pos h1]
        rw [if_pos h1] at hv
        rw [hv] at hvo
        exact hvo
      · rw [if_neg h1]
        rw [if_neg h1] at hv
        rw [hv] at hvo
        by_cases h2 : nn % 8 = 2
        · rw [if_pos h2]
          exact hb2 h2
        · rw [if_neg h2]
          by_cases h3 : nn % 8 = 3
          · rw [if_pos h3]
            exact hb3 h3
          · rw [if_neg h3]
            exact hvo
    have hst : ∀ w ∈ st, okv (wr μ o ((nn / 8 % 64 : Nat) : Int) x 0 0) w := by rw [wr_n ho]; exact (ok1 (ok1 hS).2).2
    have hL2 : LR adr (wr μ o ((nn / 8 % 64 : Nat) : Int) x 0 0) (miL (mi k)) L ls := by rw [wr_n ho]; exact hL
    have K : ∀ (H1 : Heap) (locs1 : List Loc), va_P (pD P) cls ((wsOf (pT P) adr μ).set (o - 1).toNat (adr o, .inr (nn / 512, ((List.range (ln o).toNat).map fun (j : Nat) => fval adr (ft (nn / 512) j) (μ o j)).set (nn / 8 % 64) (fval adr (nn % 8) x)))) H1 → va_D (AA (pB P)) ((wsOf (pT P) adr μ).set (o - 1).toNat (adr o, .inr (nn / 512, ((List.range (ln o).toNat).map fun (j : Nat) => fval adr (ft (nn / 512) j) (μ o j)).set (nn / 8 % 64) (fval adr (nn % 8) x)))) → va_S (AA (pB P)) s.heap H1 locs1 →
        W p l e R s m args below meth c0 H1 locs1 cells slots (MQ below Qc args s mc ms (AA (pB P))) (F0 m (pc + 3) ls (st.map (tv adr))) := by
      intro H1 locs1 g1 g2 g3
      have hE : (Sum.inr (nn / 512, ((List.range (ln o).toNat).map fun (j : Nat) => fval adr (ft (nn / 512) j) (μ o j)).set (nn / 8 % 64) (fval adr (nn % 8) x)) : va_E) = cellE (pT P) adr o (wr μ o ((nn / 8 % 64 : Nat) : Int) x o) := by
        rw [cellE_c hc, hk]
        congr 2
        rw [← hft]
        exact fs_set rfl
      have K := ih _ _ _ _ _ _ h hs.tail p l e R s m args below meth c0 H1 locs1 cells slots ls adr Qc mc ms C (hW.put ho hrg hE hto g1 g2 g3) hL2 hst (RM_wr ho hR) (hQ_wr ho hq)
      rw [hn] at K
      exact K
    have eo : tv adr (vA o) = .ref (adr o) := if_neg (by omega)
    rw [List.map_cons, List.map_cons, ev, eo]
    have hfl : nn / 8 % 64 < ((List.range (ln o).toNat).map fun (j : Nat) => fval adr (ft (nn / 512) j) (μ o j)).length := by
      simp only [List.length_map, List.length_range]
      rw [hl3]
      simpa using hf
    have hms := ms_at hs
    simp only [msI, Bool.or_eq_true, Bool.not_eq_true', Bool.and_eq_true, decide_eq_true_eq] at hms
    have hfi : isFin nn = (r2.2.1 (nn / 8 % 64)).2.2.2 := by unfold isFin; rw [hr2]
    by_cases hnest : e2.2.2.2.1 = 0
    · rw [if_pos hnest] at hw
      cases hfin : (r2.2.1 (nn / 8 % 64)).2.2.2 with
      | false => exact va_put C.1 C.2.1 C.2.2.2.2.1 (lays_good r2 hm2) _ (hty_of hm2) (hnm_of hm2) C.2.2.2.1 C.kn.vk hW.1 hW.2.1 hW.2.2.1 _ hws hr2 (nn / 8 % 64) hf (C.2.2.2.2.1 _ (tb_mem hw rfl)) (fun _ z => z) hfin hp1 hnar hfit hfl hd K
      | true =>
        rw [hfi, hfin] at hms
        rcases hms with hms | ⟨⟨hm3, hm4⟩, -⟩
        · cases hms
        · have hdl : (r2.2.1 (nn / 8 % 64)).1 = own (miO (mi k)) := by
            rw [own_at hs, ← hm4]
            unfold declF
            rw [hr2]
          exact va_putF C.1 C.2.1 C.2.2.2.2.1 (lays_good r2 hm2) _ (hty_of hm2) (hnm_of hm2) C.2.2.2.1 C.kn.vk hW.1 hW.2.1 hW.2.2.1 _ hws hr2 (nn / 8 % 64) hf (C.2.2.2.2.1 _ (tb_mem hw rfl)) (fun _ z => z) hfin (C.2.2.2.2.2.2.2.1.trans hm3) hdl hp1 hnar hfit hfl hd K
    · rw [if_neg hnest] at hw
      cases hfin : (r2.2.1 (nn / 8 % 64)).2.2.2 with
      | false => exact va_putN C.1 C.2.1 C.2.2.2.2.1 (lays_good r2 hm2) _ (hty_of hm2) (hnm_of hm2) C.2.2.2.1 C.kn.vk hW.1 hW.2.1 hW.2.2.1 _ hws hr2 (nn / 8 % 64) hf (va_Nw.use rfl (C.kn.nest _ (nest_mem hw) rfl)) (fun _ z => z) hfin hp1 hnar hfit hfl hd K
      | true =>
        rw [hfi, hfin] at hms
        rcases hms with hms | ⟨-, hm5⟩
        · cases hms
        · have h9 := List.all_eq_true.mp hm5 e2 he
          simp only [q1, q2, beq_self_eq_true, Bool.and_self, Bool.not_true, Bool.false_or, beq_iff_eq] at h9
          exact absurd h9 hnest
  · cases hp
theorem fld_t {k pc nn : Nat} {c : Cd} (hs : Sfx k ((pc, .putfield nn) :: c)) (hc : c ≠ []) : nn % 8 ≤ 3 := by
  obtain ⟨e2, he, q1, q2, hd, hn⟩ := fldC_spec (okI_at hs hc)
  have h : fldT.all (fun e => decide (e.2.2.1 % 8 ≤ 3)) = true := by decide +kernel
  have h2 := List.all_eq_true.mp h e2 he
  rw [decide_eq_true_eq, q2] at h2
  exact h2
theorem s_putfield {P : Par} {n k pc : Nat} {nn : Nat} {c : Cd} {L : LV} {st : List SV} {μ : Mem} {r : Res} (ih : IHn P n) (hs : Sfx k ((pc, .putfield nn) :: c)) (h : stp (run n) k (.putfield nn) c L st μ = some r) : SIM P k ((pc, .putfield nn) :: c) L st μ r := by
  simp only [stp] at h
  split at h
  · rename_i x o st
    split at h
    · cases h
    · rename_i h1
      obtain ⟨μ1, hp, h⟩ := Option.bind_eq_some_iff.mp h
      have h8 : nn % 8 ≤ 3 := fld_t hs (run_ne h)
      exact s_putv ih hs h8 (by rw [if_neg h1]) hp h
  · rename_i x o st
    split at h
    · rename_i h1
      obtain ⟨μ1, hp, h⟩ := Option.bind_eq_some_iff.mp h
      exact s_putv ih hs (by omega) (by rw [if_pos h1]) (by rw [h1]; exact hp) h
    · cases h
  · cases h
