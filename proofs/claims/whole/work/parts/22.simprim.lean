-- the members that are taken by themselves: Math, System.arraycopy, Object()
theorem okV9 {e2 : IE} (he : e2 ∈ invT) (h9 : e2.2.2.2.2.1 = 9) : tables_1[e2.2.2.2.2.2.1]? = some (.methodLink (own e2.1) e2.2.1 (if e2.2.2.2.1 = 1000 then Lib.Math.max.name else if e2.2.2.2.1 = 1001 then Lib.Math.min.name else if e2.2.2.2.1 = 1002 then Lib.Math.abs.name else if e2.2.2.2.1 = 1003 then arraycopyName else Lib.objectInit)) := by
  have hok := inv_ok e2 he
  obtain ⟨o2, idx, w2, kk, kind, p1, p2, p3⟩ := e2
  simp only at h9
  subst h9
  simp only [okV, decide_eq_true_eq] at hok
  exact hok
theorem jmax {x y : Int} (hx : R32 x) (hy : R32 y) : (if Int32.ofInt x < Int32.ofInt y then Int32.ofInt y else Int32.ofInt x) = Int32.ofInt (if x < y then y else x) := by
  by_cases h : x < y
  · rw [if_pos h, if_pos ((i32_lt hx hy).mpr h)]
  · rw [if_neg h, if_neg (fun q => h ((i32_lt hx hy).mp q))]
theorem jabs {x : Int} (hx : R32 x) : (if 0 ≤ Int32.ofInt x then Int32.ofInt x else 0 - Int32.ofInt x) = Int32.ofInt (if 0 ≤ x then x else jsub 0 x) := by
  have h0 : (0 : Int32) ≤ Int32.ofInt x ↔ 0 ≤ x := i32_le r32_0 hx
  by_cases h : 0 ≤ x
  · rw [if_pos h, if_pos (h0.mpr h)]
  · rw [if_neg h, if_neg (fun q => h (h0.mp q))]
    unfold jsub
    rw [i32_of]
    rfl
theorem cpy_eq {μ : Mem} {s0 sp d dp n : Int} (h0 : 0 ≤ sp) (h1 : 0 ≤ dp) (h2 : 0 ≤ n) : va_cpy (fun (j : Nat) => Int32.ofInt (μ s0 j)) (fun (j : Nat) => Int32.ofInt (μ d j)) sp.toNat dp.toNat n.toNat = fun (j : Nat) => Int32.ofInt (acp μ s0 sp d dp n d j) := by
  funext j
  unfold va_cpy acp
  by_cases hj : dp.toNat ≤ j ∧ j < dp.toNat + n.toNat
  · rw [if_pos hj, if_pos ⟨rfl, by omega, by omega⟩]
    show Int32.ofInt (μ s0 ((sp.toNat + (j - dp.toNat) : Nat) : Int)) = _
    rw [show ((sp.toNat + (j - dp.toNat) : Nat) : Int) = sp + ((j : Int) - dp) by omega]
  · rw [if_neg hj, if_neg (fun q => hj ⟨by omega, by omega⟩)]
theorem acp_n {μ : Mem} {s0 sp d dp n : Int} (hd : 0 < d) (a : Int) (ha : a ≠ d) : acp μ s0 sp d dp n a = μ a := by
  funext j
  unfold acp
  rw [if_neg (fun q => ha q.1)]
theorem RG_acp {X : Int → Int → Int} {Lx : Int} {μ : Mem} {s0 sp d dp n : Int} (hg : RG X Lx μ) (hd : 0 < d) (hr : ∀ j, rng (μ 0 0) (kd d) j (μ s0 (sp + (j - dp)))) : RG X Lx (acp μ s0 sp d dp n) := by
  have e0 : acp μ s0 sp d dp n 0 = μ 0 := acp_n hd 0 (by omega)
  refine ⟨by rw [e0]; exact hg.1, fun a j ha hb => ?_, fun a j ha => ?_, by rw [e0]; exact hg.2.2.2⟩
  · rw [e0] at hb ⊢
    by_cases h1 : a = d
    · subst h1
      unfold acp
      split
      · exact hr j
      · exact hg.2.1 a j ha hb
    · rw [acp_n hd a h1]
      exact hg.2.1 a j ha hb
  · rw [acp_n hd a (by omega)]
    exact hg.2.2.1 a j ha
theorem rng_same {n : Int} {k : Nat} (h : 50 ≤ k) {j j' x : Int} (hr : rng n k j x) : rng n k j' x := by
  unfold rng at hr ⊢
  rw [if_neg (by omega)] at hr ⊢
  exact hr
theorem w_max_s : (Cond.static Lib.Math.max.name) ∈ Tg := tb_mem (i := 336) (by decide +kernel) rfl
theorem w_max_c : (Cond.code Lib.Math.max.name Lib.Math.max.code 2 (some .int)) ∈ Tg := tb_mem (i := 337) (by decide +kernel) rfl
theorem w_min_s : (Cond.static Lib.Math.min.name) ∈ Tg := tb_mem (i := 354) (by decide +kernel) rfl
theorem w_min_c : (Cond.code Lib.Math.min.name Lib.Math.min.code 2 (some .int)) ∈ Tg := tb_mem (i := 355) (by decide +kernel) rfl
theorem w_abs_s : (Cond.static Lib.Math.abs.name) ∈ Tg := tb_mem (i := 960) (by decide +kernel) rfl
theorem w_abs_c : (Cond.code Lib.Math.abs.name Lib.Math.abs.code 1 (some .int)) ∈ Tg := tb_mem (i := 961) (by decide +kernel) rfl
theorem w_math_i : (Cond.initialized "java/lang/Math") ∈ Tg := tb_mem (i := 14) (by decide +kernel) rfl
theorem w_ac_n : (Cond.native arraycopyName) ∈ Tg := tb_mem (i := 358) (by decide +kernel) rfl
theorem w_ac_s : (Cond.static arraycopyName) ∈ Tg := tb_mem (i := 357) (by decide +kernel) rfl
theorem w_sys_i : (Cond.initialized "java/lang/System") ∈ Tg := tb_mem (i := 15) (by decide +kernel) rfl
theorem w_oi_i : (Cond.instanceMethod Lib.objectInit) ∈ Tg := tb_mem (i := 30) (by decide +kernel) rfl
theorem w_oi_c : (Cond.code Lib.objectInit ⟨#[0xb1]⟩ 1 none) ∈ Tg := tb_mem (i := 31) (by decide +kernel) rfl
theorem fits_b {x : Int} (h1 : -128 ≤ x) (h2 : x ≤ 127) : fits .byte (.int (Int32.ofInt x)) = true := by
  have h := pk_fb (Int32.ofInt x)
  have e : (Int32.ofInt x).toInt8.toInt32 = Int32.ofInt x := by
    rw [← i8_32 h1 h2, Int8.toInt8_toInt32]
  rw [e] at h
  exact h
theorem jmin {x y : Int} (hx : R32 x) (hy : R32 y) : (if Int32.ofInt y < Int32.ofInt x then Int32.ofInt y else Int32.ofInt x) = Int32.ofInt (if y < x then y else x) := by
  by_cases h : y < x
  · rw [if_pos h, if_pos ((i32_lt hy hx).mpr h)]
  · rw [if_neg h, if_neg (fun q => h ((i32_lt hy hx).mp q))]
theorem s_prim {P : Par} {n k pc k' : Nat} {i : Instr} {c : Cd} {L : LV} {st : List SV} {μ : Mem} {r : Res} (ih : IHn P n) (hs : Sfx k ((pc, i) :: c)) (hk : i = .invokestatic k' ∨ i = .invokespecial k') (h1000 : ¬ k' < 1000) (h : prim (run n) k' k c L st μ = some r) : SIM P k ((pc, i) :: c) L st μ r := by
  have hrm : 1 ≤ miF (mi k) ∧ primW k' ≤ miW (mi k) := by
    have h1 := rm_at hs
    rcases hk with rfl | rfl <;> simpa only [rmI, h1000, if_false, decide_eq_true_eq] using h1
  have hlink : c ≠ [] → ∃ e2 ∈ invT, e2.1 = miO (mi k) ∧ e2.2.2.2.1 = k' ∧ hdpc c = pc + 3 ∧ ((i = .invokestatic k' ∧ decode (miB (mi k)) pc = .ok (.invokestatic e2.2.1, 3) ∧ e2.2.2.1 = 2) ∨ (i = .invokespecial k' ∧ decode (miB (mi k)) pc = .ok (.invokespecial e2.2.1, 3) ∧ e2.2.2.1 = 1)) := by
    intro hc
    rcases hk with rfl | rfl
    · obtain ⟨e2, he, q1, q2, q3, hd, hn⟩ := invC_spec (okI_at hs hc)
      exact ⟨e2, he, q1, q3, hn, Or.inl ⟨rfl, hd, q2⟩⟩
    · obtain ⟨e2, he, q1, q2, q3, hd, hn⟩ := invC_spec (okI_at hs hc)
      exact ⟨e2, he, q1, q3, hn, Or.inr ⟨rfl, hd, q2⟩⟩
  have hword : ∀ e2 ∈ invT, e2.1 = miO (mi k) → e2.2.2.2.1 = k' → tables_1[e2.2.2.2.2.2.1]? = some (.methodLink (own (miO (mi k))) e2.2.1 (if k' = 1000 then Lib.Math.max.name else if k' = 1001 then Lib.Math.min.name else if k' = 1002 then Lib.Math.abs.name else if k' = 1003 then arraycopyName else Lib.objectInit)) := by
    intro e2 he q1 q3
    have hw := okV9 he ((inv_kinds e2 he).2.2.2.mpr (by omega))
    rw [q3, q1] at hw
    exact hw
  have hkind : ∀ e2 ∈ invT, e2.2.2.2.1 = k' → (e2.2.2.1 = 1 ↔ k' = 1004) := by
    intro e2 he q3
    have h0 : invT.all (fun e => decide (1000 ≤ e.2.2.2.1 → (e.2.2.1 = 1 ↔ e.2.2.2.1 = 1004))) = true := by decide +kernel
    have h1 := of_decide_eq_true (List.all_eq_true.mp h0 e2 he)
    rw [q3] at h1
    exact h1 (by omega)
  unfold prim at h
  split at h
  · rename_i y x st
    split at h
    · rename_i hcat
      intro p l e R s m args below meth c0 H locs cells slots ls adr Qc mc ms C hW hL hS hR hq
      obtain ⟨e2, he, q1, q3, hn, hd⟩ := hlink (run_ne h)
      have hw := hword e2 he q1 q3
      simp only [Nat.reduceEqDiff, if_true, if_false, reduceIte] at hw
      have hf := C.2.2.2.2.2.2.2.2.2
      have hpw := hrm.2
      simp only [primW, Nat.reduceEqDiff, if_true, if_false, reduceIte] at hpw
      obtain ⟨a1, a2, a3, a4, a5⟩ := id hR
      have hnn := hW.2.2.2.1.1
      have hno : nO μ ≤ nO r.2 := by unfold nO; omega
      have hsl := sl_mono hno
      have hd : decode (miB (mi k)) pc = .ok (.invokestatic e2.2.1, 3) := by
        rcases hd with ⟨-, hd, -⟩ | ⟨-, -, hd⟩
        · exact hd
        · exact absurd ((hkind e2 he q3).mp hd) (by decide)
      have hx : R32 x := (ok1 (ok1 hS).2).1
      have hy : R32 y := (ok1 hS).1
      have K := ih _ _ _ _ _ _ h hs.tail p l e R s m args below meth c0 H locs cells slots ls adr Qc mc ms C hW hL (okc (show R32 _ by split <;> assumption) (ok1 (ok1 hS).2).2) hR hq
      rw [hn, List.map_cons] at K
      refine va_mmax C.1 C.2.1 (by rw [C.2.2.1]; exact hL.2.1.symm) C.2.2.2.1 (C.2.2.2.2.1 _ (tb_mem hw rfl)) (C.2.2.2.2.1 _ w_max_s) (C.2.2.2.2.1 _ w_math_i) (C.2.2.2.2.1 _ w_max_c) (Nat.le_trans hrm.1 hf.1) (by rw [cats_eq]; have := hf.2; omega) (by omega) (by omega) hd ?_
      rw [jmax hx hy]
      exact K
    · cases h
  · rename_i y x st
    split at h
    · rename_i hcat
      intro p l e R s m args below meth c0 H locs cells slots ls adr Qc mc ms C hW hL hS hR hq
      obtain ⟨e2, he, q1, q3, hn, hd⟩ := hlink (run_ne h)
      have hw := hword e2 he q1 q3
      simp only [Nat.reduceEqDiff, if_true, if_false, reduceIte] at hw
      have hf := C.2.2.2.2.2.2.2.2.2
      have hpw := hrm.2
      simp only [primW, Nat.reduceEqDiff, if_true, if_false, reduceIte] at hpw
      obtain ⟨a1, a2, a3, a4, a5⟩ := id hR
      have hnn := hW.2.2.2.1.1
      have hno : nO μ ≤ nO r.2 := by unfold nO; omega
      have hsl := sl_mono hno
      have hd : decode (miB (mi k)) pc = .ok (.invokestatic e2.2.1, 3) := by
        rcases hd with ⟨-, hd, -⟩ | ⟨-, -, hd⟩
        · exact hd
        · exact absurd ((hkind e2 he q3).mp hd) (by decide)
      have hx : R32 x := (ok1 (ok1 hS).2).1
      have hy : R32 y := (ok1 hS).1
      have K := ih _ _ _ _ _ _ h hs.tail p l e R s m args below meth c0 H locs cells slots ls adr Qc mc ms C hW hL (okc (show R32 _ by split <;> assumption) (ok1 (ok1 hS).2).2) hR hq
      rw [hn, List.map_cons] at K
      refine va_mmin C.1 C.2.1 (by rw [C.2.2.1]; exact hL.2.1.symm) C.2.2.2.1 (C.2.2.2.2.1 _ (tb_mem hw rfl)) (C.2.2.2.2.1 _ w_min_s) (C.2.2.2.2.1 _ w_math_i) (C.2.2.2.2.1 _ w_min_c) (Nat.le_trans hrm.1 hf.1) (by rw [cats_eq]; have := hf.2; omega) (by omega) (by omega) hd ?_
      rw [jmin hx hy]
      exact K
    · cases h
  · rename_i x st
    split at h
    · rename_i hcat
      intro p l e R s m args below meth c0 H locs cells slots ls adr Qc mc ms C hW hL hS hR hq
      obtain ⟨e2, he, q1, q3, hn, hd⟩ := hlink (run_ne h)
      have hw := hword e2 he q1 q3
      simp only [Nat.reduceEqDiff, if_true, if_false, reduceIte] at hw
      have hf := C.2.2.2.2.2.2.2.2.2
      have hpw := hrm.2
      simp only [primW, Nat.reduceEqDiff, if_true, if_false, reduceIte] at hpw
      obtain ⟨a1, a2, a3, a4, a5⟩ := id hR
      have hnn := hW.2.2.2.1.1
      have hno : nO μ ≤ nO r.2 := by unfold nO; omega
      have hsl := sl_mono hno
      have hd : decode (miB (mi k)) pc = .ok (.invokestatic e2.2.1, 3) := by
        rcases hd with ⟨-, hd, -⟩ | ⟨-, -, hd⟩
        · exact hd
        · exact absurd ((hkind e2 he q3).mp hd) (by decide)
      have hx : R32 x := (ok1 hS).1
      have K := ih _ _ _ _ _ _ h hs.tail p l e R s m args below meth c0 H locs cells slots ls adr Qc mc ms C hW hL (okc (show R32 _ by split <;> first | exact hx | exact i32_r _) (ok1 hS).2) hR hq
      rw [hn, List.map_cons] at K
      refine va_mabs C.1 C.2.1 (by rw [C.2.2.1]; exact hL.2.1.symm) C.2.2.2.1 (C.2.2.2.2.1 _ (tb_mem hw rfl)) (C.2.2.2.2.1 _ w_abs_s) (C.2.2.2.2.1 _ w_math_i) (C.2.2.2.2.1 _ w_abs_c) (Nat.le_trans hrm.1 hf.1) (by rw [cats_eq]; have := hf.2; omega) (by omega) (by omega) hd ?_
      rw [jabs hx]
      exact K
    · cases h
  · rename_i n1 dp d sp s0 st
    split at h
    · rename_i hcat
      obtain ⟨μ1, hx, h⟩ := Option.bind_eq_some_iff.mp h
      unfold cpA at hx
      split at hx
      · rename_i hc
        cases hx
        obtain ⟨hks, hkd, hd0, hsp, hdp, hn0, hl1, hl2, hs0⟩ := hc
        intro p l e R s m args below meth c0 H locs cells slots ls adr Qc mc ms C hW hL hS hR hq
        obtain ⟨e2, he, q1, q3, hn, hd⟩ := hlink (run_ne h)
        have hw := hword e2 he q1 q3
        simp only [Nat.reduceEqDiff, if_true, if_false, reduceIte] at hw
        have hf := C.2.2.2.2.2.2.2.2.2
        have hpw := hrm.2
        simp only [primW, Nat.reduceEqDiff, if_true, if_false, reduceIte] at hpw
        obtain ⟨a1, a2, a3, a4, a5⟩ := id hR
        have hnn := hW.2.2.2.1.1
        have hno : nO μ ≤ nO r.2 := by unfold nO; omega
        have hsl := sl_mono hno
        have hd : decode (miB (mi k)) pc = .ok (.invokestatic e2.2.1, 3) := by
          rcases hd with ⟨-, hd, -⟩ | ⟨-, -, hd⟩
          · exact hd
          · exact absurd ((hkind e2 he q3).mp hd) (by decide)
        have xn : R32 n1 := (ok1 hS).1
        have xdp : R32 dp := (ok1 (ok1 hS).2).1
        have xd : d ≤ μ 0 0 := (ok1 (ok1 (ok1 hS).2).2).1
        have xsp : R32 sp := (ok1 (ok1 (ok1 (ok1 hS).2).2).2).1
        have xs : s0 ≤ μ 0 0 := (ok1 (ok1 (ok1 (ok1 (ok1 hS).2).2).2).2).1
        have hS2 := (ok1 (ok1 (ok1 (ok1 (ok1 hS).2).2).2).2).2
        have e0 : acp μ s0 sp d dp n1 0 = μ 0 := acp_n hd0 0 (by omega)
        have hrg : ∀ j, rng (μ 0 0) (kd d) j (μ s0 (sp + (j - dp))) := by
          intro j
          rw [hkd]
          by_cases hp : 0 < s0
          · exact rng_same (by omega) (hW.2.2.2.1.2.1 s0 (sp + (j - dp)) hp xs)
          · obtain ⟨h101, jj, hjj, rfl⟩ := ex_bt (o := s0) (by omega) (by omega)
            rw [hW.2.2.2.1.2.2.1 (-(20 + (jj : Int))) (sp + (j - dp)) (by omega)]
            have hb := C.kn.byt (20 + (jj : Int)) (sp + (j - dp)) (by omega) (by omega)
            exact rng_mk (by omega) (fun _ => hb) (fun q => by omega) (fun q => by omega) (fun q => by omega) (fun _ _ => ⟨by omega, by omega⟩) (fun q => by omega)
        have hgo : ∀ (H1 : Heap) (locs1 : List Loc) (E : va_E), E = cellE (pT P) adr d (acp μ s0 sp d dp n1 d) → va_P (pD P) cls ((wsOf (pT P) adr μ).set (d - 1).toNat (adr d, E)) H1 → va_D (AA (pB P)) ((wsOf (pT P) adr μ).set (d - 1).toNat (adr d, E)) → va_S (AA (pB P)) s.heap H1 locs1 → W p l e R s m args below meth c0 H1 locs1 cells slots (MQ below Qc args s mc ms (AA (pB P))) (F0 m (pc + 3) ls (st.map (tv adr))) := by
          intro H1 locs1 E hE g1 g2 g3
          subst hE
          rw [wsOf_set hd0 xd (acp μ s0 sp d dp n1) (by rw [e0]) (fun a ha => acp_n hd0 a ha)] at g1 g2
          have K := ih _ _ _ _ _ _ h hs.tail p l e R s m args below meth c0 H1 locs1 cells slots ls adr Qc mc ms C ⟨g1, g2, g3, RG_acp hW.2.2.2.1 hd0 hrg, hW.2.2.2.2⟩ (by rw [e0]; exact hL) (by rw [e0]; exact hS2) (by unfold RM nO at hR ⊢; rw [e0]; exact hR) (by unfold hQ at hq ⊢; rw [e0]; exact hq)
          rw [hn] at K
          exact K
        have ed : tv adr (vA d) = .ref (adr d) := if_neg (by omega)
        have hwd := wsOf_at (tc := pT P) (adr := adr) hd0 xd
        rw [cellE_a (by omega), acon_i (by omega)] at hwd
        have n1' : ¬ Int32.ofInt sp < 0 := by rw [i32_lt0 xsp]; omega
        have n2' : ¬ Int32.ofInt dp < 0 := by rw [i32_lt0 xdp]; omega
        have n3' : ¬ Int32.ofInt n1 < 0 := by rw [i32_lt0 xn]; omega
        have hln := ln_nn s0
        have hln2 := ln_nn d
        have hEd : (Sum.inl (pT P (kd d), (ln d).toNat, Sum.inl (fun (j : Nat) => Int32.ofInt (acp μ s0 sp d dp n1 d j))) : va_E) = cellE (pT P) adr d (acp μ s0 sp d dp n1 d) := by rw [cellE_a (by omega), acon_i (by omega)]
        by_cases hp : 0 < s0
        · have es : tv adr (vA s0) = .ref (adr s0) := if_neg (by omega)
          have hwsr := wsOf_at (tc := pT P) (adr := adr) hp xs
          rw [cellE_a (by omega), acon_i (by omega)] at hwsr
          simp only [List.map_cons, ed, es]
          rcases hks with hks | hks
          · refine va_copyi C.1 C.2.1 (by rw [C.2.2.1]; exact hL.2.1.symm) C.2.2.2.1 (C.2.2.2.2.1 _ (tb_mem hw rfl)) (C.2.2.2.2.1 _ w_ac_n) (C.2.2.2.2.1 _ w_ac_s) (C.2.2.2.2.1 _ w_sys_i) C.kn.vk hW.1 hW.2.1 hW.2.2.1 _ _ 0 0 hwsr hwd (ty := .int) (by rw [hks]; rfl) (by rw [hkd, hks]; rfl) rfl n1' n2' n3' (by rw [i32_clamp xsp hsp, i32_clamp xn hn0]; omega) (by rw [i32_clamp xdp hdp, i32_clamp xn hn0]; omega) (fun _ _ => rfl) (Nat.le_trans hrm.1 hf.1) (by rw [cats_eq]; have := hf.2; show cats st + (7 + 11) ≤ R.locals; omega) hd (fun H1 locs1 g1 g2 g3 => ?_)
            rw [i32_clamp xsp hsp, i32_clamp xdp hdp, i32_clamp xn hn0, cpy_eq hsp hdp hn0] at g1 g2
            exact hgo H1 locs1 _ hEd g1 g2 g3
          · refine va_copyi C.1 C.2.1 (by rw [C.2.2.1]; exact hL.2.1.symm) C.2.2.2.1 (C.2.2.2.2.1 _ (tb_mem hw rfl)) (C.2.2.2.2.1 _ w_ac_n) (C.2.2.2.2.1 _ w_ac_s) (C.2.2.2.2.1 _ w_sys_i) C.kn.vk hW.1 hW.2.1 hW.2.2.1 _ _ 1 1 hwsr hwd (ty := .byte) (by rw [hks]; rfl) (by rw [hkd, hks]; rfl) rfl n1' n2' n3' (by rw [i32_clamp xsp hsp, i32_clamp xn hn0]; omega) (by rw [i32_clamp xdp hdp, i32_clamp xn hn0]; omega) (fun jj _ => by
              have hb := (rng_a (by omega) (hW.2.2.2.1.2.1 s0 (((Int32.ofInt sp).toNatClampNeg + jj : Nat) : Int) hp xs)).1 hks
              exact fits_b hb.1 hb.2) (Nat.le_trans hrm.1 hf.1) (by rw [cats_eq]; have := hf.2; show cats st + (7 + 11) ≤ R.locals; omega) hd (fun H1 locs1 g1 g2 g3 => ?_)
            rw [i32_clamp xsp hsp, i32_clamp xdp hdp, i32_clamp xn hn0, cpy_eq hsp hdp hn0] at g1 g2
            exact hgo H1 locs1 _ hEd g1 g2 g3
        · obtain ⟨h101, jj, hjj, rfl⟩ := ex_bt (o := s0) (by omega) (by omega)
          have es : tv adr (vA (-(20 + (jj : Int)))) = .ref (pA P (-(20 + (jj : Int)))) := by
            rw [← hW.2.2.2.2 _ (by omega)]
            exact if_neg (by omega)
          simp only [List.map_cons, ed, es]
          refine vk_copyt C.1 C.2.1 (by rw [C.2.2.1]; exact hL.2.1.symm) C.2.2.2.1 (C.2.2.2.2.1 _ (tb_mem hw rfl)) (C.2.2.2.2.1 _ w_ac_n) (C.2.2.2.2.1 _ w_ac_s) (C.2.2.2.2.1 _ w_sys_i) C.kn.vk hW.1 hW.2.1 hW.2.2.1 (C.kn.str jj hjj).2.2.2 _ 1 hwd (by rw [hkd, h101]; rfl) n1' n2' n3' (by rw [i32_clamp xsp hsp, i32_clamp xn hn0]; omega) (by rw [i32_clamp xdp hdp, i32_clamp xn hn0]; omega) (fun i2 _ => by
            have hb := C.kn.byt (20 + (jj : Int)) (((Int32.ofInt sp).toNatClampNeg + i2 : Nat) : Int) (by omega) (by omega)
            exact fits_b hb.1 hb.2) (Nat.le_trans hrm.1 hf.1) (by rw [cats_eq]; have := hf.2; show cats st + (7 + 11) ≤ R.locals; omega) hd (fun H1 locs1 g1 g2 g3 => ?_)
          have efx : (fun (j : Nat) => Int32.ofInt (pX P (-(20 + (jj : Int))) j)) = fun (j : Nat) => Int32.ofInt (μ (-(20 + (jj : Int))) j) := by
            funext j
            rw [hW.2.2.2.1.2.2.1 (-(20 + (jj : Int))) (j : Int) (by omega)]
          rw [i32_clamp xsp hsp, i32_clamp xdp hdp, i32_clamp xn hn0, efx, cpy_eq hsp hdp hn0] at g1 g2
          exact hgo H1 locs1 _ hEd g1 g2 g3
      · cases hx
    · cases h
  · rename_i o st
    split at h
    · rename_i hcat
      intro p l e R s m args below meth c0 H locs cells slots ls adr Qc mc ms C hW hL hS hR hq
      obtain ⟨e2, he, q1, q3, hn, hd⟩ := hlink (run_ne h)
      have hw := hword e2 he q1 q3
      simp only [Nat.reduceEqDiff, if_true, if_false, reduceIte] at hw
      have hf := C.2.2.2.2.2.2.2.2.2
      have hpw := hrm.2
      simp only [primW, Nat.reduceEqDiff, if_true, if_false, reduceIte] at hpw
      obtain ⟨a1, a2, a3, a4, a5⟩ := id hR
      have hnn := hW.2.2.2.1.1
      have hno : nO μ ≤ nO r.2 := by unfold nO; omega
      have hsl := sl_mono hno
      have hd : decode (miB (mi k)) pc = .ok (.invokespecial e2.2.1, 3) := by
        rcases hd with ⟨-, -, hd⟩ | ⟨-, hd, -⟩
        · exact absurd ((hkind e2 he q3).mpr rfl) (by omega)
        · exact hd
      have K := ih _ _ _ _ _ _ h hs.tail p l e R s m args below meth c0 H locs cells slots ls adr Qc mc ms C hW hL (ok1 hS).2 hR hq
      rw [hn] at K
      have eo : tv adr (vA o) = .ref (adr o) := if_neg hcat.2
      rw [List.map_cons, eo]
      exact W.objInit C.1 C.2.1 C.2.2.2.1 (C.2.2.2.2.1 _ (tb_mem hw rfl)) (C.2.2.2.2.1 _ w_oi_i) (C.2.2.2.2.1 _ w_oi_c) rfl (by rw [C.2.2.1]; exact hL.2.1) rfl hd (Nat.le_trans hrm.1 hf.1) (by have h8 := lv_room (m := m) (pc := pc) (ls := ls) (rest := Value.ref (adr o) :: st.map (tv adr)) (st := st.map (tv adr)) (by rw [cats_eq]; exact hcat.1); have := hf.2; show 2 * (F0 m pc ls _).monitorRoom + _ + 12 ≤ R.locals; change 2 * (F0 m pc ls _).monitorRoom + _ ≤ 8 at h8; omega) K
    · cases h
  · cases h
