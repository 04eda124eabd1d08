-- L3: law's loop (printed by wip/gen/emitlaw.py)
/-- what stands between two calls: B bounds the clocks, L and s are the script -/
def LWS (B L : Int) (s : Int → Int) (μ : Mem) : Prop := INV B μ μ ∧ FX μ ∧ μ 0 1 = L ∧ μ (-7) = s
theorem k_7 : kd (-7) = 99 := by decide +kernel
theorem ls_rd {L l k : Int} {s : Int → Int} {μ : Mem} (h : μ 0 1 = L) (h2 : μ (-7) = s) (i0 : 0 ≤ l) (k0 : 0 ≤ k) (i1 : l + k < L) (L1 : L ≤ 1000000) : rdI μ (-7) (jadd l k) = some (s (l + k)) := by
  rw [jadd_e (by omega) (by omega)]
  unfold rdI
  rw [if_pos (Or.inr ⟨k_7, by omega, by omega⟩), h2]
theorem ls_op {B L : Int} {s : Int → Int} {μ c' m' : Mem} {v : Int} {M : Mem → Option (Int × Mem)} (h : LWS B L s μ) (fr : ∀ a b, M (mg a b) = (M b).map (mgP a)) (hu : UN μ c') (hM : M μ = some (v, m')) (hI : INV (B + 1200) c' m') (hFM : ∀ r, M c' = some r → FX r.2) : (c' 0 1 = L ∧ c' (-7) = s) ∧ ∃ μ', M c' = some (v, μ') ∧ LWS (B + 1200) L s μ' := by
  obtain ⟨e1, e2⟩ := step2 fr hu hM hI
  have a1 : c' 0 1 = L := by rw [hu.2]; exact h.2.2.1
  have a2 : c' (-7) = s := by rw [hu.1 (-7) (by decide)]; exact h.2.2.2
  refine ⟨⟨a1, a2⟩, mg c' m', e1, e2, hFM _ e1, ?_, ?_⟩
  · rw [mg_out (by decide)]; exact a1
  · rw [mg_out (by decide)]; exact a2
theorem lo_feed {B L : Int} {s : Int → Int} {μ : Mem} (h : LWS B L s μ) (hB : B + 1200 ≤ 1000000) (a1 a2 a3 a4 a5 : Int) : ∃ v c' μ', D_feed μ a1 a2 a3 a4 a5 = some (v, c') ∧ (c' 0 1 = L ∧ c' (-7) = s) ∧ M_feed c' a1 a2 a3 a4 a5 = some (v, μ') ∧ LWS (B + 1200) L s μ' := by
  obtain ⟨v, c', m', d1, d2, d3⟩ := op_feed h.1 a1 a2 a3 a4 a5
  obtain ⟨e, μ', f1, f2⟩ := ls_op (M := fun x => M_feed x a1 a2 a3 a4 a5) h (fun a b => fr_M_feed) (un_D_feed d1 UN.refl) d2 (INV_mono d3 (by omega) hB) (fun r hr => (t_M_feed hr (t_D_feed d1 h.2.1).2).2)
  exact ⟨v, c', μ', d1, e, f1, f2⟩
theorem lo_end {B L : Int} {s : Int → Int} {μ : Mem} (h : LWS B L s μ) (hB : B + 1200 ≤ 1000000) (a1 : Int) : ∃ v c' μ', D_end μ a1 = some (v, c') ∧ (c' 0 1 = L ∧ c' (-7) = s) ∧ M_end c' a1 = some (v, μ') ∧ LWS (B + 1200) L s μ' := by
  obtain ⟨v, c', m', d1, d2, d3⟩ := op_end h.1 a1
  obtain ⟨e, μ', f1, f2⟩ := ls_op (M := fun x => M_end x a1) h (fun a b => fr_M_end) (un_D_end d1 UN.refl) d2 (INV_mono d3 (by omega) hB) (fun r hr => (t_M_end hr (t_D_end d1 h.2.1).2).2)
  exact ⟨v, c', μ', d1, e, f1, f2⟩
theorem lo_enter {B L : Int} {s : Int → Int} {μ : Mem} (h : LWS B L s μ) (hB : B + 1200 ≤ 1000000) : ∃ v c' μ', D_enter μ = some (v, c') ∧ (c' 0 1 = L ∧ c' (-7) = s) ∧ M_enter c' = some (v, μ') ∧ LWS (B + 1200) L s μ' := by
  obtain ⟨v, c', m', d1, d2, d3, d4⟩ := op_enter remp h.1 h.2.1
  obtain ⟨e, μ', f1, f2⟩ := ls_op (M := fun x => M_enter x) h (fun a b => fr_M_enter) d4 d2 (INV_mono d3 (by omega) hB) (fun r hr => (t_M_enter hr (t_D_enter d1 h.2.1).2).2)
  exact ⟨v, c', μ', d1, e, f1, f2⟩
theorem lo_undo {B L : Int} {s : Int → Int} {μ : Mem} (h : LWS B L s μ) (hB : B + 1200 ≤ 1000000) : ∃ v c' μ', D_undo μ = some (v, c') ∧ (c' 0 1 = L ∧ c' (-7) = s) ∧ M_undo c' = some (v, μ') ∧ LWS (B + 1200) L s μ' := by
  obtain ⟨v, c', m', d1, d2, d3⟩ := op_undo h.1
  obtain ⟨e, μ', f1, f2⟩ := ls_op (M := fun x => M_undo x) h (fun a b => fr_M_undo) (un_D_undo d1 UN.refl) d2 (INV_mono d3 (by omega) hB) (fun r hr => (t_M_undo hr (t_D_undo d1 h.2.1).2).2)
  exact ⟨v, c', μ', d1, e, f1, f2⟩
theorem lo_save {B L : Int} {s : Int → Int} {μ : Mem} (h : LWS B L s μ) (hB : B + 1200 ≤ 1000000) : ∃ v c' μ', D_save μ = some (v, c') ∧ (c' 0 1 = L ∧ c' (-7) = s) ∧ M_save c' = some (v, μ') ∧ LWS (B + 1200) L s μ' := by
  obtain ⟨v, c', m', d1, d2, d3⟩ := op_save h.1
  obtain ⟨e, μ', f1, f2⟩ := ls_op (M := fun x => M_save x) h (fun a b => fr_M_save) (un_D_save d1 UN.refl) d2 (INV_mono d3 (by omega) hB) (fun r hr => (t_M_save hr (t_D_save d1 h.2.1).2).2)
  exact ⟨v, c', μ', d1, e, f1, f2⟩
theorem lo_go {B L : Int} {s : Int → Int} {μ : Mem} (h : LWS B L s μ) (hB : B + 1200 ≤ 1000000) : ∃ v c' μ', D_go μ = some (v, c') ∧ (c' 0 1 = L ∧ c' (-7) = s) ∧ M_go c' = some (v, μ') ∧ LWS (B + 1200) L s μ' := by
  obtain ⟨v, c', m', d1, d2, d3⟩ := op_go h.1
  obtain ⟨e, μ', f1, f2⟩ := ls_op (M := fun x => M_go x) h (fun a b => fr_M_go) (un_D_go d1 UN.refl) d2 (INV_mono d3 (by omega) hB) (fun r hr => (t_M_go hr (t_D_go d1 h.2.1).2).2)
  exact ⟨v, c', μ', d1, e, f1, f2⟩
theorem lo_back {B L : Int} {s : Int → Int} {μ : Mem} (h : LWS B L s μ) (hB : B + 1200 ≤ 1000000) : ∃ v c' μ', D_back μ = some (v, c') ∧ (c' 0 1 = L ∧ c' (-7) = s) ∧ M_back c' = some (v, μ') ∧ LWS (B + 1200) L s μ' := by
  obtain ⟨v, c', m', d1, d2, d3⟩ := op_back h.1
  obtain ⟨e, μ', f1, f2⟩ := ls_op (M := fun x => M_back x) h (fun a b => fr_M_back) (un_D_back d1 UN.refl) d2 (INV_mono d3 (by omega) hB) (fun r hr => (t_M_back hr (t_D_back d1 h.2.1).2).2)
  exact ⟨v, c', μ', d1, e, f1, f2⟩
theorem lo_jump {B L : Int} {s : Int → Int} {μ : Mem} (h : LWS B L s μ) (hB : B + 1200 ≤ 1000000) (a1 : Int) : ∃ v c' μ', D_jump μ a1 = some (v, c') ∧ (c' 0 1 = L ∧ c' (-7) = s) ∧ M_jump c' a1 = some (v, μ') ∧ LWS (B + 1200) L s μ' := by
  obtain ⟨v, c', m', d1, d2, d3⟩ := op_jump h.1 a1
  obtain ⟨e, μ', f1, f2⟩ := ls_op (M := fun x => M_jump x a1) h (fun a b => fr_M_jump) (un_D_jump d1 UN.refl) d2 (INV_mono d3 (by omega) hB) (fun r hr => (t_M_jump hr (t_D_jump d1 h.2.1).2).2)
  exact ⟨v, c', μ', d1, e, f1, f2⟩
theorem lo_hold {B L : Int} {s : Int → Int} {μ : Mem} (h : LWS B L s μ) (hB : B + 1200 ≤ 1000000) (a1 : Int) (hl : a1 = 0 ∨ a1 = 1) : ∃ v c' μ', D_hold μ a1 = some (v, c') ∧ (c' 0 1 = L ∧ c' (-7) = s) ∧ M_hold c' a1 = some (v, μ') ∧ LWS (B + 1200) L s μ' := by
  obtain ⟨v, c', m', d1, d2, d3⟩ := op_hold h.1 a1 hl
  obtain ⟨e, μ', f1, f2⟩ := ls_op (M := fun x => M_hold x a1) h (fun a b => fr_M_hold) (un_D_hold d1 UN.refl) d2 (INV_mono d3 (by omega) hB) (fun r hr => (t_M_hold hr (t_D_hold d1 h.2.1).2).2)
  exact ⟨v, c', μ', d1, e, f1, f2⟩
theorem lo_advance {B L : Int} {s : Int → Int} {μ : Mem} (h : LWS B L s μ) (hB : B + 1200 ≤ 1000000) (a1 : Int) : ∃ v c' μ', D_advance μ a1 = some (v, c') ∧ (c' 0 1 = L ∧ c' (-7) = s) ∧ M_advance c' a1 = some (v, μ') ∧ LWS (B + 1200) L s μ' := by
  obtain ⟨v, c', m', d1, d2, d3⟩ := op_advance h.1 a1 hB
  obtain ⟨e, μ', f1, f2⟩ := ls_op (M := fun x => M_advance x a1) h (fun a b => fr_M_advance) (un_D_advance d1 UN.refl) d2 d3 (fun r hr => (t_M_advance hr (t_D_advance d1 h.2.1).2).2)
  exact ⟨v, c', μ', d1, e, f1, f2⟩
theorem lo_fader {B L : Int} {s : Int → Int} {μ : Mem} (h : LWS B L s μ) (hB : B + 1200 ≤ 1000000) (a1 a2 : Int) : ∃ v c' μ', D_fader μ a1 a2 = some (v, c') ∧ (c' 0 1 = L ∧ c' (-7) = s) ∧ M_fader c' a1 a2 = some (v, μ') ∧ LWS (B + 1200) L s μ' := by
  obtain ⟨v, c', m', d1, d2, d3⟩ := op_fader h.1 a1 a2
  obtain ⟨e, μ', f1, f2⟩ := ls_op (M := fun x => M_fader x a1 a2) h (fun a b => fr_M_fader) (un_D_fader d1 UN.refl) d2 (INV_mono d3 (by omega) hB) (fun r hr => (t_M_fader hr (t_D_fader d1 h.2.1).2).2)
  exact ⟨v, c', μ', d1, e, f1, f2⟩
theorem lo_bump {B L : Int} {s : Int → Int} {μ : Mem} (h : LWS B L s μ) (hB : B + 1200 ≤ 1000000) (a1 a2 : Int) (hl : a2 = 0 ∨ a2 = 1) : ∃ v c' μ', D_bump μ a1 a2 = some (v, c') ∧ (c' 0 1 = L ∧ c' (-7) = s) ∧ M_bump c' a1 a2 = some (v, μ') ∧ LWS (B + 1200) L s μ' := by
  obtain ⟨v, c', m', d1, d2, d3⟩ := op_bump h.1 a1 a2 hl
  obtain ⟨e, μ', f1, f2⟩ := ls_op (M := fun x => M_bump x a1 a2) h (fun a b => fr_M_bump) (un_D_bump d1 UN.refl) d2 (INV_mono d3 (by omega) hB) (fun r hr => (t_M_bump hr (t_D_bump d1 h.2.1).2).2)
  exact ⟨v, c', μ', d1, e, f1, f2⟩
theorem lo_grand {B L : Int} {s : Int → Int} {μ : Mem} (h : LWS B L s μ) (hB : B + 1200 ≤ 1000000) (a1 : Int) : ∃ v c' μ', D_grand μ a1 = some (v, c') ∧ (c' 0 1 = L ∧ c' (-7) = s) ∧ M_grand c' a1 = some (v, μ') ∧ LWS (B + 1200) L s μ' := by
  obtain ⟨v, c', m', d1, d2, d3⟩ := op_grand h.1 a1
  obtain ⟨e, μ', f1, f2⟩ := ls_op (M := fun x => M_grand x a1) h (fun a b => fr_M_grand) (un_D_grand d1 UN.refl) d2 (INV_mono d3 (by omega) hB) (fun r hr => (t_M_grand hr (t_D_grand d1 h.2.1).2).2)
  exact ⟨v, c', μ', d1, e, f1, f2⟩
theorem lo_black {B L : Int} {s : Int → Int} {μ : Mem} (h : LWS B L s μ) (hB : B + 1200 ≤ 1000000) (a1 : Int) (hl : a1 = 0 ∨ a1 = 1) : ∃ v c' μ', D_black μ a1 = some (v, c') ∧ (c' 0 1 = L ∧ c' (-7) = s) ∧ M_black c' a1 = some (v, μ') ∧ LWS (B + 1200) L s μ' := by
  obtain ⟨v, c', m', d1, d2, d3⟩ := op_black h.1 a1 hl
  obtain ⟨e, μ', f1, f2⟩ := ls_op (M := fun x => M_black x a1) h (fun a b => fr_M_black) (un_D_black d1 UN.refl) d2 (INV_mono d3 (by omega) hB) (fun r hr => (t_M_black hr (t_D_black d1 h.2.1).2).2)
  exact ⟨v, c', μ', d1, e, f1, f2⟩
theorem lo_run {B L : Int} {s : Int → Int} {μ : Mem} (h : LWS B L s μ) (hB : B + 1200 ≤ 1000000) (a1 a2 : Int) (hl : a2 = 0 ∨ a2 = 1) : ∃ v c' μ', D_run μ a1 a2 = some (v, c') ∧ (c' 0 1 = L ∧ c' (-7) = s) ∧ M_run c' a1 a2 = some (v, μ') ∧ LWS (B + 1200) L s μ' := by
  obtain ⟨v, c', m', d1, d2, d3⟩ := op_run h.1 a1 a2 hl
  obtain ⟨e, μ', f1, f2⟩ := ls_op (M := fun x => M_run x a1 a2) h (fun a b => fr_M_run) (un_D_run d1 UN.refl) d2 (INV_mono d3 (by omega) hB) (fun r hr => (t_M_run hr (t_D_run d1 h.2.1).2).2)
  exact ⟨v, c', μ', d1, e, f1, f2⟩
theorem law_step {B L l : Int} {s : Int → Int} {μ : Mem} {n : Nat} (h : LWS B L s μ) (hs : ∀ i, 0 ≤ i → i < L → s i < 2147483648) (hB : B + 1200 ≤ 1000000) (l0 : 0 ≤ l) (l1 : l + 6 ≤ L) (L1 : L ≤ 1000000) : ∃ μ', LWS (B + 1200) L s μ' ∧ L_law_18 (n + 1) μ l = L_law_18 n μ' (l + 6) := by
  have hm : LWS (B + 1200) L s μ := ⟨INV_mono h.1 (by omega) hB, h.2⟩
  have rd : ∀ (ν : Mem), (ν 0 1 = L ∧ ν (-7) = s) → rdI ν (-7) (jadd l 1) = some (s (l + 1)) ∧ rdI ν (-7) (jadd l 2) = some (s (l + 2)) ∧ rdI ν (-7) (jadd l 3) = some (s (l + 3)) ∧ rdI ν (-7) (jadd l 4) = some (s (l + 4)) ∧ rdI ν (-7) (jadd l 5) = some (s (l + 5)) := by
    intro ν e
    refine ⟨?_, ?_, ?_, ?_, ?_⟩
    all_goals exact ls_rd e.1 e.2 l0 (by decide) (by omega) L1
  have j6 : jadd l 6 = l + 6 := jadd_e (by omega) (by omega)
  obtain ⟨r1, r2, r3, r4, r5⟩ := rd μ h.2.2
  have r0 : rdI μ (-7) l = some (s l) := by
    unfold rdI
    rw [if_pos (Or.inr ⟨k_7, l0, by rw [h.2.2.1]; omega⟩), h.2.2.2]
  rw [L_law_18, if_neg (show ¬ jsub (μ 0 1) 6 < l by rw [h.2.2.1, jsub_e (by omega) (by omega)]; omega), r0, Option.bind_some, Option.bind_some]
  generalize jand (s l) 63 = x
  by_cases z0 : x = 0
  · rw [if_pos z0]
    obtain ⟨v, c', μ', d1, e, f1, f2⟩ := lo_feed h hB (s (l + 1)) (s (l + 2)) (s (l + 3)) (s (l + 4)) (s (l + 5))
    obtain ⟨t1, t2, t3, t4, t5⟩ := rd c' e
    refine ⟨μ', f2, ?_⟩
    simp only [r1, r2, r3, r4, r5, d1, t1, t2, t3, t4, t5, f1, Option.bind_some, ↓reduceIte, j6]
  rw [if_neg z0]
  by_cases z1 : x = 1
  · rw [if_pos z1]
    obtain ⟨v, c', μ', d1, e, f1, f2⟩ := lo_end h hB (s (l + 1))
    obtain ⟨t1, t2, t3, t4, t5⟩ := rd c' e
    refine ⟨μ', f2, ?_⟩
    simp only [r1, r2, r3, r4, r5, d1, t1, t2, t3, t4, t5, f1, Option.bind_some, ↓reduceIte, j6]
  rw [if_neg z1]
  by_cases z2 : x = 2
  · rw [if_pos z2]
    obtain ⟨v, c', μ', d1, e, f1, f2⟩ := lo_enter h hB
    obtain ⟨t1, t2, t3, t4, t5⟩ := rd c' e
    refine ⟨μ', f2, ?_⟩
    simp only [r1, r2, r3, r4, r5, d1, t1, t2, t3, t4, t5, f1, Option.bind_some, ↓reduceIte, j6]
  rw [if_neg z2]
  by_cases z3 : x = 3
  · rw [if_pos z3]
    obtain ⟨v, d1, d2⟩ := q_fault h.1 (s (l + 1))
    refine ⟨μ, hm, ?_⟩
    simp only [r1, r2, r3, d1, d2, Option.bind_some, ↓reduceIte, j6]
  rw [if_neg z3]
  by_cases z4 : x = 4
  · rw [if_pos z4]
    obtain ⟨v, c', μ', d1, e, f1, f2⟩ := lo_undo h hB
    obtain ⟨t1, t2, t3, t4, t5⟩ := rd c' e
    refine ⟨μ', f2, ?_⟩
    simp only [r1, r2, r3, r4, r5, d1, t1, t2, t3, t4, t5, f1, Option.bind_some, ↓reduceIte, j6]
  rw [if_neg z4]
  by_cases z5 : x = 5
  · rw [if_pos z5]
    obtain ⟨v, c', μ', d1, e, f1, f2⟩ := lo_save h hB
    obtain ⟨t1, t2, t3, t4, t5⟩ := rd c' e
    refine ⟨μ', f2, ?_⟩
    simp only [r1, r2, r3, r4, r5, d1, t1, t2, t3, t4, t5, f1, Option.bind_some, ↓reduceIte, j6]
  rw [if_neg z5]
  by_cases z6 : x = 6
  · rw [if_pos z6]
    obtain ⟨v, d1, d2⟩ := q_tape h.1 (s (l + 1))
    refine ⟨μ, hm, ?_⟩
    simp only [r1, r2, r3, d1, d2, Option.bind_some, ↓reduceIte, j6]
  rw [if_neg z6]
  by_cases z7 : x = 7
  · rw [if_pos z7]
    obtain ⟨v, c', μ', d1, e, f1, f2⟩ := lo_go h hB
    obtain ⟨t1, t2, t3, t4, t5⟩ := rd c' e
    refine ⟨μ', f2, ?_⟩
    simp only [r1, r2, r3, r4, r5, d1, t1, t2, t3, t4, t5, f1, Option.bind_some, ↓reduceIte, j6]
  rw [if_neg z7]
  by_cases z8 : x = 8
  · rw [if_pos z8]
    obtain ⟨v, c', μ', d1, e, f1, f2⟩ := lo_back h hB
    obtain ⟨t1, t2, t3, t4, t5⟩ := rd c' e
    refine ⟨μ', f2, ?_⟩
    simp only [r1, r2, r3, r4, r5, d1, t1, t2, t3, t4, t5, f1, Option.bind_some, ↓reduceIte, j6]
  rw [if_neg z8]
  by_cases z9 : x = 9
  · rw [if_pos z9]
    obtain ⟨v, c', μ', d1, e, f1, f2⟩ := lo_jump h hB (s (l + 1))
    obtain ⟨t1, t2, t3, t4, t5⟩ := rd c' e
    refine ⟨μ', f2, ?_⟩
    simp only [r1, r2, r3, r4, r5, d1, t1, t2, t3, t4, t5, f1, Option.bind_some, ↓reduceIte, j6]
  rw [if_neg z9]
  by_cases z10 : x = 10
  · rw [if_pos z10]
    by_cases y : s (l + 1) = 0
    · obtain ⟨v, c', μ', d1, e, f1, f2⟩ := lo_hold h hB 0 (by decide)
      obtain ⟨t1, t2, t3, t4, t5⟩ := rd c' e
      refine ⟨μ', f2, ?_⟩
      simp only [r1, r2, Option.bind_some, y, L_law_418, d1, t1, t2, L_law_435, f1, ↓reduceIte, j6]
    · obtain ⟨v, c', μ', d1, e, f1, f2⟩ := lo_hold h hB 1 (by decide)
      obtain ⟨t1, t2, t3, t4, t5⟩ := rd c' e
      refine ⟨μ', f2, ?_⟩
      simp only [r1, r2, Option.bind_some, y, L_law_418, d1, t1, t2, L_law_435, f1, ↓reduceIte, j6]
  rw [if_neg z10]
  by_cases z11 : x = 11
  · rw [if_pos z11]
    obtain ⟨v, c', μ', d1, e, f1, f2⟩ := lo_advance h hB (s (l + 1))
    obtain ⟨t1, t2, t3, t4, t5⟩ := rd c' e
    refine ⟨μ', f2, ?_⟩
    simp only [r1, r2, r3, r4, r5, d1, t1, t2, t3, t4, t5, f1, Option.bind_some, ↓reduceIte, j6]
  rw [if_neg z11]
  by_cases z12 : x = 12
  · rw [if_pos z12]
    obtain ⟨v, c', μ', d1, e, f1, f2⟩ := lo_fader h hB (s (l + 1)) (s (l + 2))
    obtain ⟨t1, t2, t3, t4, t5⟩ := rd c' e
    refine ⟨μ', f2, ?_⟩
    simp only [r1, r2, r3, r4, r5, d1, t1, t2, t3, t4, t5, f1, Option.bind_some, ↓reduceIte, j6]
  rw [if_neg z12]
  by_cases z13 : x = 13
  · rw [if_pos z13]
    by_cases y : s (l + 2) = 0
    · obtain ⟨v, c', μ', d1, e, f1, f2⟩ := lo_bump h hB (s (l + 1)) 0 (by decide)
      obtain ⟨t1, t2, t3, t4, t5⟩ := rd c' e
      refine ⟨μ', f2, ?_⟩
      simp only [r1, r2, Option.bind_some, y, L_law_518, d1, t1, t2, L_law_540, f1, ↓reduceIte, j6]
    · obtain ⟨v, c', μ', d1, e, f1, f2⟩ := lo_bump h hB (s (l + 1)) 1 (by decide)
      obtain ⟨t1, t2, t3, t4, t5⟩ := rd c' e
      refine ⟨μ', f2, ?_⟩
      simp only [r1, r2, Option.bind_some, y, L_law_518, d1, t1, t2, L_law_540, f1, ↓reduceIte, j6]
  rw [if_neg z13]
  by_cases z14 : x = 14
  · rw [if_pos z14]
    obtain ⟨v, c', μ', d1, e, f1, f2⟩ := lo_grand h hB (s (l + 1))
    obtain ⟨t1, t2, t3, t4, t5⟩ := rd c' e
    refine ⟨μ', f2, ?_⟩
    simp only [r1, r2, r3, r4, r5, d1, t1, t2, t3, t4, t5, f1, Option.bind_some, ↓reduceIte, j6]
  rw [if_neg z14]
  by_cases z15 : x = 15
  · rw [if_pos z15]
    by_cases y : s (l + 1) = 0
    · obtain ⟨v, c', μ', d1, e, f1, f2⟩ := lo_black h hB 0 (by decide)
      obtain ⟨t1, t2, t3, t4, t5⟩ := rd c' e
      refine ⟨μ', f2, ?_⟩
      simp only [r1, r2, Option.bind_some, y, L_law_585, d1, t1, t2, L_law_602, f1, ↓reduceIte, j6]
    · obtain ⟨v, c', μ', d1, e, f1, f2⟩ := lo_black h hB 1 (by decide)
      obtain ⟨t1, t2, t3, t4, t5⟩ := rd c' e
      refine ⟨μ', f2, ?_⟩
      simp only [r1, r2, Option.bind_some, y, L_law_585, d1, t1, t2, L_law_602, f1, ↓reduceIte, j6]
  rw [if_neg z15]
  by_cases z16 : x = 16
  · rw [if_pos z16]
    by_cases y : s (l + 2) = 0
    · obtain ⟨v, c', μ', d1, e, f1, f2⟩ := lo_run h hB (s (l + 1)) 0 (by decide)
      obtain ⟨t1, t2, t3, t4, t5⟩ := rd c' e
      refine ⟨μ', f2, ?_⟩
      simp only [r1, r2, Option.bind_some, y, L_law_629, d1, t1, t2, L_law_651, f1, ↓reduceIte, j6]
    · obtain ⟨v, c', μ', d1, e, f1, f2⟩ := lo_run h hB (s (l + 1)) 1 (by decide)
      obtain ⟨t1, t2, t3, t4, t5⟩ := rd c' e
      refine ⟨μ', f2, ?_⟩
      simp only [r1, r2, Option.bind_some, y, L_law_629, d1, t1, t2, L_law_651, f1, ↓reduceIte, j6]
  rw [if_neg z16]
  by_cases z17 : x = 17
  · rw [if_pos z17]
    obtain ⟨v, d1, d2⟩ := q_slot h.1 (s (l + 1))
    refine ⟨μ, hm, ?_⟩
    simp only [r1, r2, r3, d1, d2, Option.bind_some, ↓reduceIte, j6]
  rw [if_neg z17]
  by_cases z18 : x = 18
  · rw [if_pos z18]
    obtain ⟨v, d1, d2⟩ := q_level h.1 (s (l + 1)) (s (l + 2))
    refine ⟨μ, hm, ?_⟩
    simp only [r1, r2, r3, d1, d2, Option.bind_some, ↓reduceIte, j6]
  rw [if_neg z18]
  by_cases z19 : x = 19
  · rw [if_pos z19]
    obtain ⟨v, d1, d2⟩ := q_shown h.1 (s (l + 1))
    refine ⟨μ, hm, ?_⟩
    simp only [r1, r2, r3, d1, d2, Option.bind_some, ↓reduceIte, j6]
  rw [if_neg z19]
  by_cases z20 : x = 20
  · rw [if_pos z20]
    obtain ⟨v, d1, d2⟩ := q_tracked h.1 (s (l + 1)) (s (l + 2)) (s (l + 3))
    refine ⟨μ, hm, ?_⟩
    simp only [r1, r2, r3, d1, d2, Option.bind_some, ↓reduceIte, j6]
  rw [if_neg z20]
  by_cases z21 : x = 21
  · rw [if_pos z21]
    obtain ⟨v, d1, d2⟩ := q_origin h.1 (s (l + 1)) (s (l + 2)) (s (l + 3))
    refine ⟨μ, hm, ?_⟩
    simp only [r1, r2, r3, d1, d2, Option.bind_some, ↓reduceIte, j6]
  rw [if_neg z21]
  by_cases z22 : x = 22
  · rw [if_pos z22]
    obtain ⟨v, d1, d2⟩ := q_change h.1 (s (l + 1)) (s (l + 2)) (s (l + 3))
    refine ⟨μ, hm, ?_⟩
    simp only [r1, r2, r3, d1, d2, Option.bind_some, ↓reduceIte, j6]
  rw [if_neg z22]
  by_cases z23 : x = 23
  · rw [if_pos z23]
    obtain ⟨v, d1, d2⟩ := q_held h.1 (s (l + 1)) (s (l + 2))
    refine ⟨μ, hm, ?_⟩
    simp only [r1, r2, r3, d1, d2, Option.bind_some, ↓reduceIte, j6]
  rw [if_neg z23]
  by_cases z24 : x = 24
  · rw [if_pos z24]
    obtain ⟨v, d1, d2⟩ := q_cue h.1 (s (l + 1)) (s (l + 2))
    refine ⟨μ, hm, ?_⟩
    simp only [r1, r2, r3, d1, d2, Option.bind_some, ↓reduceIte, j6]
  rw [if_neg z24]
  by_cases z25 : x = 25
  · rw [if_pos z25]
    obtain ⟨v, d1, d2⟩ := q_unit h.1 (s (l + 1)) (s (l + 2))
    refine ⟨μ, hm, ?_⟩
    simp only [r1, r2, r3, d1, d2, Option.bind_some, ↓reduceIte, j6]
  rw [if_neg z25]
  by_cases z26 : x = 26
  · rw [if_pos z26]
    obtain ⟨v, d1, d2⟩ := q_group h.1 (s (l + 1)) (s (l + 2))
    refine ⟨μ, hm, ?_⟩
    simp only [r1, r2, r3, d1, d2, Option.bind_some, ↓reduceIte, j6]
  rw [if_neg z26]
  by_cases z27 : x = 27
  · rw [if_pos z27]
    obtain ⟨v, d1, d2⟩ := q_palette h.1 (s (l + 1)) (s (l + 2))
    refine ⟨μ, hm, ?_⟩
    simp only [r1, r2, r3, d1, d2, Option.bind_some, ↓reduceIte, j6]
  rw [if_neg z27]
  by_cases z28 : x = 28
  · rw [if_pos z28]
    obtain ⟨v, d1, d2⟩ := q_sub h.1 (s (l + 1)) (s (l + 2))
    refine ⟨μ, hm, ?_⟩
    simp only [r1, r2, r3, d1, d2, Option.bind_some, ↓reduceIte, j6]
  rw [if_neg z28]
  by_cases z29 : x = 29
  · rw [if_pos z29]
    obtain ⟨v, d1, d2⟩ := q_masters h.1 (s (l + 1))
    refine ⟨μ, hm, ?_⟩
    simp only [r1, r2, r3, d1, d2, Option.bind_some, ↓reduceIte, j6]
  rw [if_neg z29]
  by_cases z30 : x = 30
  · rw [if_pos z30]
    obtain ⟨v, d1, d2⟩ := q_park h.1 (s (l + 1))
    refine ⟨μ, hm, ?_⟩
    simp only [r1, r2, r3, d1, d2, Option.bind_some, ↓reduceIte, j6]
  rw [if_neg z30]
  by_cases z31 : x = 31
  · rw [if_pos z31]
    obtain ⟨v, d1, d2⟩ := q_event h.1 (s (l + 1)) (s (l + 2))
    refine ⟨μ, hm, ?_⟩
    simp only [r1, r2, r3, d1, d2, Option.bind_some, ↓reduceIte, j6]
  rw [if_neg z31]
  by_cases z32 : x = 32
  · rw [if_pos z32]
    obtain ⟨v, d1, d2⟩ := q_wave h.1 (s (l + 1)) (s (l + 2)) (hs _ (by omega) (by omega))
    refine ⟨μ, hm, ?_⟩
    simp only [r1, r2, r3, d1, d2, Option.bind_some, ↓reduceIte, j6]
  rw [if_neg z32]
  by_cases z33 : x = 33
  · rw [if_pos z33]
    obtain ⟨v, d1, d2⟩ := q_state h.1 (s (l + 1))
    refine ⟨μ, hm, ?_⟩
    simp only [r1, r2, r3, d1, d2, Option.bind_some, ↓reduceIte, j6]
  rw [if_neg z33]
  exact ⟨μ, hm, by rw [j6]⟩
theorem law_end {L l : Int} {μ : Mem} {n : Nat} (h : μ 0 1 = L) (L0 : 0 ≤ L) (L1 : L ≤ 1000000) (l1 : L < l + 6) : L_law_18 (n + 1) μ l = some (1, μ) := by
  rw [L_law_18, if_pos (show jsub (μ 0 1) 6 < l by rw [h, jsub_e (by omega) (by omega)]; omega)]
theorem law_loop {L : Int} {s : Int → Int} (hs : ∀ i, 0 ≤ i → i < L → s i < 2147483648) (L0 : 0 ≤ L) (L1 : L ≤ 1000000) : ∀ (k N : Nat) (μ : Mem) (l B : Int), LWS B L s μ → B + 1200 * (k : Int) ≤ 1000000 → 0 ≤ l → L < l + 6 * (k : Int) + 6 → k < N → ∃ μ', L_law_18 N μ l = some (1, μ') := by
  intro k
  induction k with
  | zero =>
    intro N μ l B h hB l0 l1 hN
    obtain ⟨N, rfl⟩ : ∃ j, N = j + 1 := ⟨N - 1, by omega⟩
    exact ⟨μ, law_end h.2.2.1 L0 L1 (by omega)⟩
  | succ k ih =>
    intro N μ l B h hB l0 l1 hN
    obtain ⟨N, rfl⟩ : ∃ j, N = j + 1 := ⟨N - 1, by omega⟩
    by_cases z : L < l + 6
    · exact ⟨μ, law_end h.2.2.1 L0 L1 z⟩
    · obtain ⟨μ', h1, h2⟩ := law_step (n := N) h hs (by omega) l0 (by omega) L1
      obtain ⟨μ2, h3⟩ := ih N μ' (l + 6) (B + 1200) h1 (by omega) (by omega) (by omega) (by omega)
      exact ⟨μ2, by rw [h2, h3]⟩
