-- rows of rows
theorem str_i : "[" ++ FieldType.int.toString = "[I" := by decide +kernel
theorem str_ai : (FieldType.array .int).toString = "[I" := by decide +kernel
theorem str_aai : "[" ++ (FieldType.array .int).toString = "[[I" := by decide +kernel
theorem outer_eq (c : ClassId) (N h0 : Nat) : ∀ i : Nat, Jvm.Free.Multi.outerC c N h0 i = arrV c N (fun j => va_rf (if j < i then some (h0 + 1 + j) else none))
  | 0 => by
    show ({ cls := c, slots := Array.replicate N .null, vm := .none } : Cell) = _
    rw [arrV_new]
    refine congrArg (arrV c N) (funext fun j => ?_)
    simp [va_rf]
  | i + 1 => by
    show (Jvm.Free.Multi.outerC c N h0 i).setSlot i (.ref (h0 + 1 + i)) = _
    rw [outer_eq c N h0 i, arrV_store]
    refine congrArg (arrV c N) (funext fun j => ?_)
    by_cases e : j = i
    · subst e
      simp [updV, va_rf]
    · by_cases h : j < i
      · simp [updV, e, h, Nat.lt_succ_of_lt h]
      · simp [updV, e, h, show ¬ j < i + 1 by omega]
theorem arrV_cong {c : ClassId} {N : Nat} {f g : Nat → Value} (h : ∀ j, j < N → f j = g j) : arrV c N f = arrV c N g := by
  unfold arrV
  congr 1
  apply Array.ext
  · simp
  · intro i h1 h2
    simp only [Array.getElem_ofFn]
    exact h i (by simpa using h1)
theorem W_mna {p : Program} {l : Launch} {e : Env} {R : Room} {s : State} {m : MethodId} {args : Array Value} {below : List Frame} {meth : Method} {c : Code} {H : Heap} {locs : List Loc} {cells slots : Nat} {Q : State → Prop} {cc : ByteArray} {pc : Nat} {ls : Array Slot} {rest : List Value}
    (hexec : p.tables.exec = Jvm.exec) (hb : c.code = cc) {own : String} {index : Nat} (hown : s.vm.findClass own = some m.cls) (hclink : (Cond.classLink own index "[[I").before args s = true) (hover : aoaW s) (harr : (Cond.arrayClass .int).before args s = true) {n k : Int32} {N K : Nat} (hn : ¬ n < 0) (hk : ¬ k < 0) (hN : n.toNatClampNeg = N) (hK : k.toNatClampNeg = K) (hb1 : N * 4 ≤ 536870912) (hb2 : K * 4 ≤ 536870912) (hcells : cells + (1 + N) ≤ R.cells) (hslots : slots + (N + N * K) ≤ R.slots) (hdg : decode cc pc = .ok (.multianewarray index 2, 4))
    (kk : ∀ (H1 : Heap) (cA comp : ClassId), s.vm.findClass "[[I" = some cA → s.vm.findClass "[I" = some comp → H1.size = H.size + 1 + N → H1[H.size]? = some (arrV cA N (fun j => va_rf (if j < N then some (H.size + 1 + j) else none))) → (∀ j, j < N → H1[H.size + 1 + j]? = some (arrV comp K (fun _ => .int 0))) → (∀ x, x < H.size → H1[x]? = H[x]?) → W p l e R s m args below meth c H1 locs (cells + 1 + N) (slots + N + N * K) Q (F0 m (pc + 4) ls (.ref H.size :: rest))) :
    W p l e R s m args below meth c H locs cells slots Q (F0 m pc ls (.int k :: .int n :: rest)) := by
  subst hN
  subst hK
  intro T hT Xs
  obtain ⟨vm₁, cA, comp, -, fA, fC, hO, -, X', step⟩ := Xs.multianewarray2F hexec hown (ty := .int) (by rw [str_aai]; exact hclink) hover harr (g := F0 m pc ls (.int k :: .int n :: rest)) rfl (by rw [hb]; exact hdg) rfl hn hk hb1 hb2 (by omega) rfl rfl hcells hslots
  rw [str_aai] at fA
  rw [str_ai] at fC
  generalize hF : Jvm.Free.Multi.fill (T.setVm vm₁) cA comp n.toNatClampNeg k.toNatClampNeg (defaultValue .int) n.toNatClampNeg = F at X' step
  have hTh : (T.setVm vm₁).heap = H := hT
  obtain ⟨f1, f2, -, -⟩ := Jvm.Free.Multi.fill_facts (T.setVm vm₁) cA comp n.toNatClampNeg k.toNatClampNeg (defaultValue .int) n.toNatClampNeg
  rw [hF, hTh] at f1 f2
  rw [outer_eq] at f2
  have hold : ∀ x : Nat, x < H.size → F.heap[x]? = H[x]? := fun x hx => by
    have := Jvm.Free.Multi.fill_old (T.setVm vm₁) cA comp n.toNatClampNeg k.toNatClampNeg (defaultValue .int) (a := x) (by rw [hTh]; exact hx) n.toNatClampNeg
    rw [hF, hTh] at this
    exact this
  have hrow : ∀ j : Nat, j < n.toNatClampNeg → F.heap[H.size + 1 + j]? = some (arrV comp k.toNatClampNeg (fun _ => .int 0)) := fun j hj => by
    have := Jvm.Free.Multi.fill_inner (T.setVm vm₁) cA comp n.toNatClampNeg k.toNatClampNeg (defaultValue .int) n.toNatClampNeg j hj
    rw [hF, hTh] at this
    rw [this, ← arrV_new]
    rfl
  obtain ⟨t, a1, b1⟩ := kk F.heap cA comp fA fC f1 f2 hrow hold F rfl X'
  refine ⟨t, step t ?_, b1⟩
  have e : T.heap.size = H.size := by rw [hT]
  rw [e]
  exact a1
def adM (adr : Int → Nat) (n N : Int) (h0 : Nat) : Int → Nat := fun x => if n < x ∧ x ≤ n + 1 + N then h0 + (x - n - 1).toNat else adr x
theorem adM_le {adr : Int → Nat} {n N x : Int} {h0 : Nat} (h : x ≤ n) : adM adr n N h0 x = adr x := if_neg (by omega)
theorem adM_in {adr : Int → Nat} {n N x : Int} {h0 : Nat} (h : n < x) (h2 : x ≤ n + 1 + N) : adM adr n N h0 x = h0 + (x - n - 1).toNat := if_pos ⟨h, h2⟩
theorem aloN_old {μ : Mem} {n a : Int} (hn : 0 ≤ n) (h00 : 0 ≤ μ 0 0) (h0 : a ≠ 0) (h1 : a ≤ μ 0 0) : aloN μ n a = μ a := by
  funext j
  unfold aloN
  rw [if_neg (fun q => h0 q.1), if_neg (by omega), if_neg (by omega)]
theorem aloN_out {μ : Mem} {n : Int} (h00 : 0 ≤ μ 0 0) : aloN μ n (μ 0 0 + 1) = fun j => if 0 ≤ j ∧ j < n then μ 0 0 + 2 + j else 0 := by
  funext j
  unfold aloN
  rw [if_neg (fun q => by have := q.1; omega), if_pos rfl]
theorem aloN_in {μ : Mem} {n a : Int} (h00 : 0 ≤ μ 0 0) (h1 : μ 0 0 + 1 < a) (h2 : a ≤ μ 0 0 + 1 + n) : aloN μ n a = fun _ => 0 := by
  funext j
  unfold aloN
  rw [if_neg (fun q => by have := q.1; omega), if_neg (by omega), if_pos ⟨h1, h2⟩]
theorem RG_newN {X : Int → Int → Int} {Lx : Int} {μ : Mem} {n : Int} (hn : 0 ≤ n) (hk : kd (μ 0 0 + 1) = 110) (hg : RG X Lx μ) : RG X Lx (aloN μ n) := by
  have h0 := hg.1
  refine ⟨by rw [aloN_n]; omega, fun o j ho hm => ?_, fun o j ho => ?_, ?_⟩
  · rw [aloN_n] at hm ⊢
    by_cases h1 : o ≤ μ 0 0
    · rw [aloN_old hn h0 (by omega) h1]
      exact rng_up (by omega) (hg.2.1 o j ho h1)
    · by_cases h2 : o = μ 0 0 + 1
      · subst h2
        rw [aloN_out h0, hk]
        refine rng_mk (by decide) (fun q => by omega) (fun q => by omega) (fun q => by omega) (fun q => by omega) (fun q => by omega) (fun _ => ?_)
        simp only []
        split <;> omega
      · rw [aloN_in h0 (by omega) (by omega)]
        exact rng_0 (by omega) _ _
  · rw [aloN_old hn h0 (by omega) (by omega)]
    exact hg.2.2.1 o j ho
  · have e : aloN μ n 0 1 = μ 0 1 := by
      unfold aloN
      rw [if_neg (fun q => by have := q.2; omega), if_neg (by omega), if_neg (by omega)]
    rw [e]
    exact hg.2.2.2
theorem sl_rows {n0 K : Nat} : ∀ N : Nat, (∀ j, j < N → (ln ((n0 : Int) + 1 + (j : Int))).toNat = K) → sl (n0 + N) = sl n0 + N * K
  | 0, _ => by simp
  | N + 1, h => by
    have ih := sl_rows N (fun j hj => h j (by omega))
    have h1 := h N (by omega)
    rw [show n0 + (N + 1) = (n0 + N) + 1 by omega, sl_succ, ih, show (((n0 + N : Nat)) : Int) + 1 = (n0 : Int) + 1 + (N : Int) by omega, h1, Nat.add_mul]
    omega
theorem s_multi {P : Par} {n k pc a b : Nat} {c : Cd} {L : LV} {st : List SV} {μ : Mem} {r : Res} (ih : IHn P n) (hs : Sfx k ((pc, .multianewarray a b) :: c)) (h : stp (run n) k (.multianewarray a b) c L st μ = some r) : SIM P k ((pc, .multianewarray a b) :: c) L st μ r := by
  simp only [stp] at h
  split at h
  · rename_i m1 n1 st
    obtain ⟨μ1, hx, h2⟩ := Option.bind_eq_some_iff.mp h
    unfold nw2 at hx
    split at hx
    · rename_i hk
      cases hx
      obtain ⟨hk, hl, hn0, hn1, hm0, hm1, h0, hrows⟩ := hk
      intro p l e R s m args below meth c0 H locs cells slots ls adr Qc mc ms C hW hL hS hR hq
      have hck : clsC (miO (mi k)) 100 (miB (mi k)) pc (hdpc c) 4 (fun i => .multianewarray i 2) = true := okI_at hs (run_ne h2)
      obtain ⟨e2, he, q1, q2, hd, hn⟩ := clsC_spec hck
      have harr : (Cond.arrayClass .int).before args s = true := C.2.2.2.2.1 _ (tb_mem (i := 70) (w := Cond.arrayClass .int) (by decide +kernel) rfl)
      have hw := cls_ok e2 he
      unfold okC at hw
      rw [if_pos q2] at hw
      have hw := of_decide_eq_true hw
      rw [q1] at hw
      have hcl := C.2.2.2.2.1 _ (tb_mem hw rfl)
      have xm : R32 m1 := (ok1 hS).1
      have xn : R32 n1 := (ok1 (ok1 hS).2).1
      have hS2 := (ok1 (ok1 hS).2).2
      have hg := hW.2.2.2.1
      have hro : ∀ j : Int, 0 ≤ j → j < n1 → kd (μ 0 0 + 2 + j) = 100 ∧ ln (μ 0 0 + 2 + j) = m1 := by
        intro j j0 j1
        have h3 := of_decide_eq_true (List.all_eq_true.mp hrows j.toNat (List.mem_range.mpr (by omega)))
        rw [ofn j j0] at h3
        exact h3
      have hmono := run_mono _ _ _ _ _ _ _ h2
      rw [aloN_n] at hmono
      have en : nO (aloN μ n1) = nO μ + 1 + n1.toNat := by unfold nO; rw [aloN_n]; omega
      have es : sl (nO μ + 1 + n1.toNat) = sl (nO μ) + n1.toNat + n1.toNat * m1.toNat := by
        rw [sl_rows (n0 := nO μ + 1) (K := m1.toNat) n1.toNat (fun j hj => by
          have h3 := (hro j (by omega) (by omega)).2
          rw [show (((nO μ + 1 : Nat)) : Int) + 1 + (j : Int) = μ 0 0 + 2 + (j : Int) by unfold nO; omega, h3]), sl_succ]
        rw [show ((nO μ : Nat) : Int) + 1 = μ 0 0 + 1 by unfold nO; omega, hl]
      obtain ⟨r1a, r2a, r3a, r4a, r5a⟩ := hR
      have hno : nO μ + 1 + n1.toNat ≤ nO r.2 := by unfold nO; omega
      have hsl := sl_mono hno
      have hc1 : cells + (1 + n1.toNat) ≤ R.cells := by omega
      have hc2 : slots + (n1.toNat + n1.toNat * m1.toNat) ≤ R.slots := by omega
      have hsz := C.kn.sz
      have hS3 := hW.2.2.1
      rw [List.map_cons, List.map_cons]
      refine W_mna C.1 C.2.1 C.2.2.2.1 hcl C.kn.aoa harr (n := Int32.ofInt n1) (k := Int32.ofInt m1) (N := n1.toNat) (K := m1.toNat) (rest := st.map (tv adr)) (by rw [i32_lt0 xn]; omega) (by rw [i32_lt0 xm]; omega) (i32_clamp xn hn0) (i32_clamp xm hm0) (by omega) (by omega) hc1 hc2 hd (fun H1 cA comp fA fC z1 z2 z3 z4 => ?_)
      have ecA : cA = pT P 110 := by
        have h3 := (C.kn.vk.2 5 _ rfl).2
        have h4 : s.vm.findClass ("[" ++ (FieldType.array .int).toString) = some (pT P 110) := h3
        rw [str_aai] at h4
        exact Option.some.inj (fA.symm.trans h4)
      have ecI : comp = pT P 100 := by
        have h3 := (C.kn.vk.2 0 _ rfl).2
        have h4 : s.vm.findClass ("[" ++ FieldType.int.toString) = some (pT P 100) := h3
        rw [str_i] at h4
        exact Option.some.inj (fC.symm.trans h4)
      subst ecA ecI
      have hag : ∀ x, x ≤ μ 0 0 → adM adr (μ 0 0) n1 H.size x = adr x := fun x hx => adM_le hx
      have hcell : ∀ i : Nat, i < (aloN μ n1 0 0).toNat → (i < (μ 0 0).toNat ∧ (adM adr (μ 0 0) n1 H.size ((i : Int) + 1), cellE (pT P) (adM adr (μ 0 0) n1 H.size) ((i : Int) + 1) (aloN μ n1 ((i : Int) + 1))) = (adr ((i : Int) + 1), cellE (pT P) adr ((i : Int) + 1) (μ ((i : Int) + 1)))) ∨ ((μ 0 0).toNat ≤ i ∧ adM adr (μ 0 0) n1 H.size ((i : Int) + 1) = H.size + (i - (μ 0 0).toNat) ∧ va_at (pD P) cls (adM adr (μ 0 0) n1 H.size ((i : Int) + 1), cellE (pT P) (adM adr (μ 0 0) n1 H.size) ((i : Int) + 1) (aloN μ n1 ((i : Int) + 1))) H1) := by
        intro i hi
        rw [aloN_n] at hi
        by_cases h3 : i < (μ 0 0).toNat
        · left
          refine ⟨h3, ?_⟩
          rw [aloN_old hn0 h0 (by omega) (by omega), hag _ (by omega), cellE_adr (fun j => hg.2.1 _ j (by omega) (by omega)) hag]
        · right
          have ead : adM adr (μ 0 0) n1 H.size ((i : Int) + 1) = H.size + (i - (μ 0 0).toNat) := by
            rw [adM_in (by omega) (by omega)]
            omega
          refine ⟨by omega, ead, ?_⟩
          rw [ead]
          by_cases h4 : (i : Int) + 1 = μ 0 0 + 1
          · rw [h4, aloN_out h0, cellE_a (by omega), hk, acon_a (by decide), hl, show i - (μ 0 0).toNat = 0 by omega]
            show H1[H.size + 0]? = some (vp_cell _ (_, _))
            rw [vp_cell_q, Nat.add_zero, z2]
            congr 1
            apply arrV_cong
            intro j hj
            rw [if_pos hj, if_pos ⟨by omega, by omega⟩]
            unfold rfo
            rw [if_neg (by omega), adM_in (by omega) (by omega)]
            congr 2
            omega
          · have h5 := hro ((i : Int) - (μ 0 0 + 1)) (by omega) (by omega)
            rw [show μ 0 0 + 2 + ((i : Int) - (μ 0 0 + 1)) = (i : Int) + 1 by omega] at h5
            rw [aloN_in h0 (by omega) (by omega), cellE_a (by omega), h5.1, acon_i (by decide), h5.2]
            show H1[H.size + (i - (μ 0 0).toNat)]? = some (vp_cell _ (_, _))
            rw [vp_cell_i, show H.size + (i - (μ 0 0).toNat) = H.size + 1 + (i - (μ 0 0).toNat - 1) by omega, z3 _ (by omega)]
            rfl
      have hget : ∀ (i : Nat) (q : Nat × va_E), (wsOf (pT P) (adM adr (μ 0 0) n1 H.size) (aloN μ n1))[i]? = some q → i < (aloN μ n1 0 0).toNat ∧ q = (adM adr (μ 0 0) n1 H.size ((i : Int) + 1), cellE (pT P) (adM adr (μ 0 0) n1 H.size) ((i : Int) + 1) (aloN μ n1 ((i : Int) + 1))) := by
        intro i q hq2
        have hlt := (List.getElem?_eq_some_iff.mp hq2).1
        unfold wsOf at hq2 hlt
        rw [List.length_map, List.length_range] at hlt
        rw [List.getElem?_map, List.getElem?_range hlt] at hq2
        exact ⟨hlt, (Option.some.inj hq2).symm⟩
      have hold : ∀ i : Nat, i < (μ 0 0).toNat → (wsOf (pT P) adr μ)[i]? = some (adr ((i : Int) + 1), cellE (pT P) adr ((i : Int) + 1) (μ ((i : Int) + 1))) := by
        intro i hi
        have h3 := wsOf_at (tc := pT P) (adr := adr) (μ := μ) (o := (i : Int) + 1) (by omega) (by omega)
        rwa [show ((i : Int) + 1 - 1).toNat = i by omega] at h3
      have g1 : va_P (pD P) cls (wsOf (pT P) (adM adr (μ 0 0) n1 H.size) (aloN μ n1)) H1 := by
        intro i q hq2
        obtain ⟨hlt, rfl⟩ := hget i q hq2
        rcases hcell i hlt with ⟨h3, h4⟩ | ⟨-, -, h4⟩
        · rw [h4]
          have h5 := hW.1 i _ (hold i h3)
          exact h5.kept (z4 _ h5.lt)
        · exact h4
      have g2 : va_D (AA (pB P)) (wsOf (pT P) (adM adr (μ 0 0) n1 H.size) (aloN μ n1)) := by
        refine ⟨fun i j x y hi hj hxy => ?_, fun i q hq2 => ?_⟩
        · obtain ⟨li, rfl⟩ := hget i x hi
          obtain ⟨lj, rfl⟩ := hget j y hj
          rcases hcell i li with ⟨h3, h4⟩ | ⟨h3, h4, -⟩ <;> rcases hcell j lj with ⟨h5, h6⟩ | ⟨h5, h6, -⟩
          · rw [h4, h6] at hxy
            exact hW.2.1.1 i j _ _ (hold i h3) (hold j h5) hxy
          · rw [h4] at hxy
            simp only [h6] at hxy
            have h7 := (hW.1 i _ (hold i h3)).lt
            simp only at h7
            omega
          · rw [h6] at hxy
            simp only [h4] at hxy
            have h7 := (hW.1 j _ (hold j h5)).lt
            simp only at h7
            omega
          · simp only [h4, h6] at hxy
            omega
        · obtain ⟨li, rfl⟩ := hget i q hq2
          rcases hcell i li with ⟨h3, h4⟩ | ⟨h3, h4, -⟩
          · rw [h4]
            exact hW.2.1.2 i _ (hold i h3)
          · show pB P ≤ adM adr (μ 0 0) n1 H.size ((i : Int) + 1)
            rw [h4]
            have := hS3.1
            omega
      have g3 : va_S (AA (pB P)) s.heap H1 locs := ⟨by have := hS3.1; omega, fun q k1 k2 => by rw [z4 q (by have := hS3.1; omega)]; exact hS3.2.1 q k1 k2, hS3.2.2⟩
      have K := ih _ _ _ _ _ _ h2 hs.tail p l e R s m args below meth c0 H1 locs (cells + 1 + n1.toNat) (slots + n1.toNat + n1.toNat * m1.toNat) ls (adM adr (μ 0 0) n1 H.size) Qc mc ms C ⟨g1, g2, g3, RG_newN hn0 hk hg, fun o ho => by rw [hag o (by omega)]; exact hW.2.2.2.2 o ho⟩ (LR_up (by rw [aloN_n]; omega) hag hL) (okc (show μ 0 0 + 1 ≤ aloN μ n1 0 0 by rw [aloN_n]; omega) (fun v hv => okv_up (by rw [aloN_n]; omega) (hS2 v hv))) ⟨by rw [aloN_n]; exact hmono, by rw [en]; omega, by rw [en, es]; omega, r4a, r5a⟩ (fun adr'' t2 k1 => hq adr'' t2 (fun o ho => by rw [k1 o (by rw [aloN_n]; omega), hag o ho]))
      rw [List.map_cons, map_up hS2 hag] at K
      have e0 : adM adr (μ 0 0) n1 H.size (μ 0 0 + 1) = H.size := by
        rw [adM_in (by omega) (by omega), show (μ 0 0 + 1 - μ 0 0 - 1).toNat = 0 by omega]
        rfl
      have eo : tv (adM adr (μ 0 0) n1 H.size) (vA (μ 0 0 + 1)) = .ref H.size := by
        show rfv _ _ = _
        unfold rfv
        rw [if_neg (by omega), e0]
      rw [eo, hn] at K
      exact K
    · cases hx
  · cases h
