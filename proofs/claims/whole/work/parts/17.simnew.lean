-- the number of made objects never falls; making
theorem wI_n {μ μ1 : Mem} {o i v : Int} (h : wI μ o i v = some μ1) : μ1 0 0 = μ 0 0 := by
  unfold wI at h
  split at h
  · rename_i hk
    cases h
    rw [wr_n hk.2.1]
  · cases h
theorem wB_n {μ μ1 : Mem} {o i v : Int} (h : wB μ o i v = some μ1) : μ1 0 0 = μ 0 0 := by
  unfold wB at h
  split at h
  · rename_i hk
    cases h
    rw [wr_n hk.2.1]
  · cases h
theorem wC_n {μ μ1 : Mem} {o i v : Int} (h : wC μ o i v = some μ1) : μ1 0 0 = μ 0 0 := by
  unfold wC at h
  split at h
  · rename_i hk
    cases h
    rw [wr_n hk.2.1]
  · cases h
theorem wJ_n {μ μ1 : Mem} {o i v : Int} (h : wJ μ o i v = some μ1) : μ1 0 0 = μ 0 0 := by
  unfold wJ at h
  split at h
  · rename_i hk
    cases h
    rw [wr_n hk.2.1]
  · cases h
theorem wA_n {μ μ1 : Mem} {o i v : Int} (h : wA μ o i v = some μ1) : μ1 0 0 = μ 0 0 := by
  unfold wA at h
  split at h
  · rename_i hk
    cases h
    rw [wr_n hk.2.1]
  · cases h
theorem pf_n {μ μ1 : Mem} {c t : Nat} {f o v : Int} (h : pf μ c f t o v = some μ1) : μ1 0 0 = μ 0 0 := by
  unfold pf at h
  split at h
  · rename_i hk
    cases h
    rw [wr_n hk.2.1]
  · cases h
theorem cpA_n {μ μ1 : Mem} {s sp d dp n : Int} (h : cpA μ s sp d dp n = some μ1) : μ1 0 0 = μ 0 0 := by
  unfold cpA at h
  split at h
  · rename_i hk
    cases h
    have : (0 : Int) ≠ d := by have := hk.2.2.1; omega
    show acp μ s sp d dp n 0 0 = _
    unfold acp
    rw [if_neg (fun q => this q.1)]
  · cases h
theorem alo_n (μ : Mem) : alo μ 0 0 = μ 0 0 + 1 := by
  unfold alo
  rw [if_pos ⟨rfl, rfl⟩]
theorem aloN_n (μ : Mem) (n : Int) : aloN μ n 0 0 = μ 0 0 + 1 + n := by
  unfold aloN
  rw [if_pos ⟨rfl, rfl⟩]
theorem nw_n {μ μ1 : Mem} {k : Nat} {n : Int} (h : nw μ k n = some μ1) : μ 0 0 ≤ μ1 0 0 := by
  unfold nw at h
  split at h
  · cases h
    rw [alo_n]
    omega
  · cases h
theorem nw2_n {μ μ1 : Mem} {n m : Int} (h : nw2 μ n m = some μ1) : μ 0 0 ≤ μ1 0 0 := by
  unfold nw2 at h
  split at h
  · rename_i hk
    cases h
    rw [aloN_n]
    have := hk.2.2.1
    omega
  · cases h
theorem stp_mono {rec : Rec} (hr : ∀ k c L st μ (r : Res), rec k c L st μ = some r → μ 0 0 ≤ r.2 0 0) {k : Nat} {i : Instr} {c : Cd} {L : LV} {st : List SV} {μ : Mem} {r : Res} (h : stp rec k i c L st μ = some r) : μ 0 0 ≤ r.2 0 0 := by
  cases i <;> simp only [stp, bin2, bin4, una, callK, prim] at h
  all_goals repeat' split at h
  all_goals first
    | exact hr _ _ _ _ _ _ h
    | (cases h; done)
    | (cases h; exact Int.le_refl _)
    | (obtain ⟨x, hx, h⟩ := Option.bind_eq_some_iff.mp h
       first
         | exact hr _ _ _ _ _ _ h
         | (have h1 := hr _ _ _ _ _ _ h
            first
              | (rw [wI_n hx] at h1; exact h1)
              | (rw [wB_n hx] at h1; exact h1)
              | (rw [wC_n hx] at h1; exact h1)
              | (rw [wJ_n hx] at h1; exact h1)
              | (rw [wA_n hx] at h1; exact h1)
              | (rw [pf_n hx] at h1; exact h1)
              | (rw [cpA_n hx] at h1; exact h1)
              | exact Int.le_trans (nw_n hx) h1
              | exact Int.le_trans (nw2_n hx) h1
              | exact Int.le_trans (hr _ _ _ _ _ _ hx) h1))
theorem run_mono : ∀ n k c L st μ (r : Res), run n k c L st μ = some r → μ 0 0 ≤ r.2 0 0
  | 0, _, _, _, _, _, _, h => by simp [run] at h
  | _ + 1, _, [], _, _, _, _, h => by simp [run] at h
  | n + 1, k, q :: c, L, st, μ, r, h => stp_mono (run_mono n) (show stp (run n) k q.2 c L st μ = some r from h)
-- making one
def adN (adr : Int → Nat) (n : Int) (q : Nat) : Int → Nat := fun x => if x = n + 1 then q else adr x
theorem adN_le {adr : Int → Nat} {n x : Int} {q : Nat} (h : x ≤ n) : adN adr n q x = adr x := if_neg (by omega)
theorem adN_at {adr : Int → Nat} {n : Int} {q : Nat} : adN adr n q (n + 1) = q := if_pos rfl
theorem alo_old {μ : Mem} {a : Int} (h0 : a ≠ 0) (h1 : a ≠ μ 0 0 + 1) : alo μ a = μ a := by
  funext j
  unfold alo
  rw [if_neg (fun q => h0 q.1), if_neg h1]
theorem alo_new {μ : Mem} (h0 : 0 ≤ μ 0 0) : alo μ (μ 0 0 + 1) = fun _ => 0 := by
  funext j
  unfold alo
  rw [if_neg (fun q => by have := q.1; omega), if_pos rfl]
theorem wsOf_new {X : Int → Int → Int} {Lx : Int} {tc : Nat → ClassId} {adr : Int → Nat} {μ : Mem} {q : Nat} (hg : RG X Lx μ) : wsOf tc (adN adr (μ 0 0) q) (alo μ) = wsOf tc adr μ ++ [(q, cellE tc (adN adr (μ 0 0) q) (μ 0 0 + 1) (fun _ => 0))] := by
  have h0 := hg.1
  unfold wsOf
  rw [alo_n, show (μ 0 0 + 1).toNat = (μ 0 0).toNat + 1 by omega, List.range_succ, List.map_append]
  congr 1
  · apply List.map_congr_left
    intro i hi
    have hi2 := List.mem_range.mp hi
    rw [alo_old (by omega) (by omega), adN_le (by omega), cellE_adr (fun j => hg.2.1 _ j (by omega) (by omega)) (fun x hx => adN_le hx)]
  · simp only [List.map_cons, List.map_nil]
    rw [show (((μ 0 0).toNat : Nat) : Int) + 1 = μ 0 0 + 1 by omega, alo_new h0, adN_at]
theorem RG_new {X : Int → Int → Int} {Lx : Int} {μ : Mem} (hg : RG X Lx μ) : RG X Lx (alo μ) := by
  have h0 := hg.1
  refine ⟨by rw [alo_n]; omega, fun o j ho hn => ?_, fun o j ho => ?_, ?_⟩
  · rw [alo_n] at hn ⊢
    by_cases h1 : o = μ 0 0 + 1
    · subst h1
      rw [alo_new h0]
      exact rng_0 (by omega) _ _
    · rw [alo_old (by omega) h1]
      exact rng_up (by omega) (hg.2.1 o j ho (by omega))
  · rw [alo_old (by omega) (by omega)]
    exact hg.2.2.1 o j ho
  · unfold alo
    rw [if_neg (fun q => by have := q.2; omega), if_neg (by omega)]
    exact hg.2.2.2
theorem okv_up {n n' : Int} (h : n ≤ n') {v : SV} (hv : okv n v) : okv n' v := by
  match v, hv with
  | .inl x, hv => exact hv
  | .inr (.inl x), hv => exact hv
  | .inr (.inr x), hv => exact Int.le_trans hv h
theorem LR_up {adr adr' : Int → Nat} {n n' : Int} {nL : Nat} {L : LV} {ls : Array Slot} (h : n ≤ n') (ha : ∀ x, x ≤ n → adr' x = adr x) (hL : LR adr n nL L ls) : LR adr' n' nL L ls := by
  refine ⟨hL.1, hL.2.1, hL.2.2.1, fun j v hj => ?_⟩
  obtain ⟨h1, h2⟩ := hL.2.2.2 j v hj
  rw [tv_adr h2 ha]
  exact ⟨h1, okv_up h h2⟩
theorem map_up {adr adr' : Int → Nat} {n : Int} {st : List SV} (hS : ∀ v ∈ st, okv n v) (ha : ∀ x, x ≤ n → adr' x = adr x) : st.map (tv adr') = st.map (tv adr) := by
  apply List.map_congr_left
  intro v hv
  exact tv_adr (hS v hv) ha
theorem sl_succ (n : Nat) : sl (n + 1) = sl n + (ln ((n : Int) + 1)).toNat := rfl
theorem sl_mono {a b : Nat} (h : a ≤ b) : sl a ≤ sl b := by
  induction h with
  | refl => exact Nat.le_refl _
  | step _ ih => exact Nat.le_trans ih (by rw [sl_succ]; omega)
theorem RM_new {μ : Mem} {r : Res} {R : Room} {cells slots mc ms : Nat} {n : Nat} (h0 : 0 ≤ μ 0 0) (hm : alo μ 0 0 ≤ r.2 0 0) (hn : (ln (μ 0 0 + 1)).toNat = n) (hR : RM μ r R cells slots mc ms) : RM (alo μ) r R (cells + 1) (slots + n) mc ms ∧ cells + 1 ≤ R.cells ∧ slots + n ≤ R.slots := by
  obtain ⟨h1, h2, h3, h4, h5⟩ := hR
  rw [alo_n] at hm
  have e : nO (alo μ) = nO μ + 1 := by unfold nO; rw [alo_n]; omega
  have e2 : sl (nO μ + 1) = sl (nO μ) + n := by
    rw [sl_succ, ← hn]
    unfold nO
    rw [show (((μ 0 0).toNat : Nat) : Int) + 1 = μ 0 0 + 1 by omega]
  have e3 : nO μ + 1 ≤ nO r.2 := by unfold nO; omega
  have e4 := sl_mono e3
  refine ⟨⟨by rw [alo_n]; exact hm, by rw [e]; omega, by rw [e, e2]; omega, h4, h5⟩, by omega, by omega⟩
theorem hQ_new {P : Par} {adr : Int → Nat} {μ : Mem} {q : Nat} {r : Res} {s : State} {args : Array Value} {Qc : Array Value → State → Outcome → State → Prop} (hq : hQ P adr μ r s args Qc) : hQ P (adN adr (μ 0 0) q) (alo μ) r s args Qc := by
  intro adr' t ha
  refine hq adr' t (fun o ho => ?_)
  rw [ha o (by rw [alo_n]; omega), adN_le ho]
/-- behind making one: the continuation -/
theorem new_go {P : Par} {n k pc : Nat} {i : Instr} {c : Cd} {L : LV} {st : List SV} {μ : Mem} {r : Res} (ih : IHn P n) (hs : Sfx k ((pc, i) :: c)) (h : run n k c L (vA (μ 0 0 + 1) :: st) (alo μ) = some r) {N : Nat} (hN : (ln (μ 0 0 + 1)).toNat = N)
    {p : Program} {l : Launch} {e : Env} {R : Room} {s : State} {m : MethodId} {args : Array Value} {below : List Frame} {meth : Method} {c0 : Code} {H : Heap} {locs : List Loc} {cells slots : Nat} {ls : Array Slot} {adr : Int → Nat} {Qc : Array Value → State → Outcome → State → Prop} {mc ms : Nat}
    (C : CX P k p s m args meth c0 R) (hW : WD P adr μ s H locs) (hL : LR adr (μ 0 0) (miL (mi k)) L ls) (hS : ∀ v ∈ st, okv (μ 0 0) v) (hR : RM μ r R cells slots mc ms) (hq : hQ P adr μ r s args Qc)
    {q : Nat} {H1 : Heap} {E : va_E} (hE : E = cellE (pT P) (adN adr (μ 0 0) q) (μ 0 0 + 1) (fun _ => 0)) (g1 : va_P (pD P) cls (wsOf (pT P) adr μ ++ [(q, E)]) H1) (g2 : va_D (AA (pB P)) (wsOf (pT P) adr μ ++ [(q, E)])) (g3 : va_S (AA (pB P)) s.heap H1 locs) :
    W p l e R s m args below meth c0 H1 locs (cells + 1) (slots + N) (MQ below Qc args s mc ms (AA (pB P))) (F0 m (hdpc c) ls (.ref q :: st.map (tv adr))) := by
  have hg := hW.2.2.2.1
  have h0 := hg.1
  subst hE
  rw [← wsOf_new hg] at g1 g2
  have hag : ∀ x, x ≤ μ 0 0 → adN adr (μ 0 0) q x = adr x := fun x hx => adN_le hx
  have hR2 := RM_new h0 (run_mono _ _ _ _ _ _ _ h) hN hR
  have K := ih _ _ _ _ _ _ h hs.tail p l e R s m args below meth c0 H1 locs (cells + 1) (slots + N) ls (adN adr (μ 0 0) q) Qc mc ms C ⟨g1, g2, g3, RG_new hg, fun o ho => by rw [hag o (by omega)]; exact hW.2.2.2.2 o ho⟩ (LR_up (by rw [alo_n]; omega) hag hL) (okc (show μ 0 0 + 1 ≤ alo μ 0 0 by rw [alo_n]; omega) (fun v hv => okv_up (by rw [alo_n]; omega) (hS v hv))) hR2.1 (hQ_new hq)
  rw [List.map_cons, map_up hS hag] at K
  have eo : tv (adN adr (μ 0 0) q) (vA (μ 0 0 + 1)) = .ref q := by
    show rfv _ _ = _
    unfold rfv
    rw [if_neg (by omega), adN_at]
  rw [eo] at K
  exact K
theorem ft_ok : ∀ ci, ci < 15 → ∀ r, cls[ci]? = some r → ∀ j, j < r.2.2 → tyC (parseFieldDescriptor (r.2.1 j).2.2.1) = ft ci j := by
  have h : (List.range 15).all (fun ci => match cls[ci]? with | none => true | some r => (List.range r.2.2).all (fun j => decide (tyC (parseFieldDescriptor (r.2.1 j).2.2.1) = ft ci j))) = true := by decide +kernel
  intro ci hci r hr j hj
  have h1 := List.all_eq_true.mp h ci (List.mem_range.mpr hci)
  rw [hr] at h1
  exact of_decide_eq_true (List.all_eq_true.mp h1 j (List.mem_range.mpr hj))
theorem ft_le : ∀ ci, ci < 15 → ∀ r, cls[ci]? = some r → ∀ j, j < r.2.2 → ft ci j ≤ 3 := by
  have h : (List.range 15).all (fun ci => match cls[ci]? with | none => true | some r => (List.range r.2.2).all (fun j => decide (ft ci j ≤ 3))) = true := by decide +kernel
  intro ci hci r hr j hj
  have h1 := List.all_eq_true.mp h ci (List.mem_range.mpr hci)
  rw [hr] at h1
  exact of_decide_eq_true (List.all_eq_true.mp h1 j (List.mem_range.mpr hj))
theorem dflt_fval {adr : Int → Nat} {ty : FieldType} {t : Nat} (h : tyC (some ty) = t) (ht : t ≤ 3) : defaultValue ty = fval adr t 0 := by
  cases ty <;> simp only [tyC] at h <;> subst h
  all_goals first | omega | rfl
