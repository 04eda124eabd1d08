-- L3: enter: the class's fault of an item, and its first fault
theorem fault_c {c : Mem} {g : Int → Int} {cur kn r v : Int} (hs : SR c 3 g) (hw : WF g) (hk : KON c) (hO : 280 ≤ c 0 0) (hcur : c 221 3 = cur) (c0 : 0 ≤ cur) (hkn : c 242 11 = kn) (r0 : 0 ≤ r) (r1 : r < 23) (r20 : ¬ r = 20) (hkr : r = 11 → 0 ≤ kn ∧ kn < 9) : Ch_faultOf c r v = some (FLT g cur kn r v, c) := by
  unfold Ch_faultOf FLT
  rw [if_neg (by omega), if_neg (by omega), aI_ok r0 r1, Option.bind_some, hk.lea r r0 r1]
  by_cases z1 : v < tbl leaT r
  · rw [if_pos z1, if_pos (Or.inl z1)]
  · rw [if_neg z1, aI_ok r0 r1, Option.bind_some, hk.gre r r0 r1]
    by_cases z2 : v ≤ tbl greT r
    · rw [if_pos z2, if_neg (show ¬ (v < tbl leaT r ∨ tbl greT r < v) by omega)]
      have hr : r = 0 ∨ r = 1 ∨ r = 2 ∨ r = 3 ∨ r = 4 ∨ r = 5 ∨ r = 6 ∨ r = 7 ∨ r = 8 ∨ r = 9 ∨ r = 10 ∨ r = 11 ∨ r = 12 ∨ r = 13 ∨ r = 14 ∨ r = 15 ∨ r = 16 ∨ r = 17 ∨ r = 18 ∨ r = 19 ∨ r = 21 ∨ r = 22 := by omega
      have nc : Ch_faultOfNewCue c = some (if 30 ≤ cuesN g then 5 else 0) := by
        unfold Ch_faultOfNewCue
        rw [cuesN_c hs hw.n]
        split <;> rfl
      rcases hr with rfl | rfl | rfl | rfl | rfl | rfl | rfl | rfl | rfl | rfl | rfl | rfl | rfl | rfl | rfl | rfl | rfl | rfl | rfl | rfl | rfl | rfl
      · rfl
      · rfl
      · rw [show tbl leaT 2 = 1 by decide] at z1
        rw [show tbl greT 2 = 40 by decide] at z2
        rw [if_pos rfl, if_pos rfl, Sh_isPatched_e hs hw (by omega) z2, Option.bind_some]
        by_cases y : g (6 * (v - 1)) < 0
        · rw [if_pos y, if_pos rfl, if_pos y]
        · rw [if_neg y, if_neg (by decide), if_neg y]
      · rw [show tbl leaT 3 = 1 by decide] at z1
        rw [show tbl greT 3 = 40 by decide] at z2
        rw [if_neg (show ¬ (3 : Int) = 2 by decide), if_neg (show ¬ (3 : Int) = 2 by decide), if_pos rfl, if_pos rfl, Sh_isPatched_e hs hw (by omega) z2, Option.bind_some]
        by_cases y : g (6 * (v - 1)) < 0
        · rw [if_pos y, if_pos rfl, if_pos y]
        · rw [if_neg y, if_neg (by decide), if_neg y]
      · rfl
      · rw [show tbl leaT 5 = 1 by decide] at z1
        rw [show tbl greT 5 = 12 by decide] at z2
        obtain ⟨x1, _⟩ := S3.g hs (v - 1) (by omega) (by omega)
        rw [show 96 + 2 * (v - 1) = 94 + 2 * v by omega] at x1
        have kk : kd (94 + 2 * v) = 5 := kd_row (by omega) (by omega) (by omega)
        show ((ar 94 13 2 v).bind fun o14 => (gf c 5 1 o14).bind fun x16 => if x16 ≤ 0 then some (2, c) else some (0, c)) = some ((if g (240 + 41 * (v - 1)) ≤ 0 then 2 else 0), c)
        unfold gf
        rw [ar_ok (by omega) (by omega), Option.bind_some, if_pos kk, Option.bind_some, x1]
        split <;> rfl
      · rfl
      · rfl
      · rfl
      · rfl
      · rfl
      · rw [show tbl leaT 11 = 1 by decide] at z1
        rw [show tbl greT 11 = 200 by decide] at z2
        obtain ⟨k0, k1⟩ := hkr rfl
        obtain ⟨b, e1, e2⟩ := free_c hs hw hk (v := v) (kn := kn) (by omega) z2 k0 k1
        show ((Ch_areSlotsFree c v (c 242 11)).bind fun x25 => if x25 = 0 then some (4, c) else some (0, c)) = some (@ite Int (freeP g v kn) (Classical.propDecidable _) 0 4, c)
        rw [hkn, e1, Option.bind_some]
        rcases e2 with ⟨rfl, hf⟩ | ⟨rfl, hf⟩
        · rw [if_neg (by decide), if_pos hf]
        · rw [if_pos rfl, if_neg hf]
      · rfl
      · rfl
      · rfl
      · rfl
      · rfl
      · rw [show tbl leaT 17 = 1 by decide] at z1
        show ((Sh_indexOf c v).bind fun x34 => if x34 < 0 then (Ch_faultOfNewCue c).bind fun x36 => some (x36, c) else some (0, c)) = some ((if rowOf g v < 0 then (if 30 ≤ cuesN g then 5 else 0) else 0), c)
        rw [cix_e hs, Option.bind_some]
        have ci := cix_row hs hw.n v (by omega)
        by_cases y : rowOf g v < 0
        · rw [if_pos (ci.mpr y), nc, Option.bind_some, if_pos y]
        · rw [if_neg (fun x => y (ci.mp x)), if_neg y]
      · rw [show tbl leaT 18 = 1 by decide] at z1
        show ((Sh_indexOf c v).bind fun x34 => if x34 < 0 then (Ch_faultOfNewCue c).bind fun x36 => some (x36, c) else some (7, c)) = some ((if rowOf g v < 0 then (if 30 ≤ cuesN g then 5 else 0) else 7), c)
        rw [cix_e hs, Option.bind_some]
        have ci := cix_row hs hw.n v (by omega)
        by_cases y : rowOf g v < 0
        · rw [if_pos (ci.mpr y), nc, Option.bind_some, if_pos y]
        · rw [if_neg (fun x => y (ci.mp x)), if_neg y]
      · show ((Sh_indexOf c v).bind fun x46 => if x46 < 0 then some (2, c) else some (0, c)) = some ((if rowOf g v < 0 then 2 else 0), c)
        rw [cix_e hs, Option.bind_some]
        have rs := rowOf_s g v
        by_cases y0 : 0 < v
        · have ci := cix_row hs hw.n v y0
          by_cases y : rowOf g v < 0
          · rw [if_pos (ci.mpr y), if_pos y]
          · rw [if_neg (fun x => y (ci.mp x)), if_neg y]
        · rw [cix_pos hs hw.n (by omega), if_pos (by decide), if_pos (by omega)]
      · show ((D_countValues c 80).bind fun x55 => if x55 ≤ 0 then some (6, c) else some (0, c)) = some ((if vcn (fun i => g (12362 + i)) ≤ 0 then 6 else 0), c)
        have hv : D_countValues c 80 = some (vcn (fun i => g (12362 + i))) := D_countValues_e (by decide +kernel) (by decide +kernel) (fun i a b => ⟨S3.h hs i a b, (hw.h i a b).1⟩)
        rw [hv, Option.bind_some]
        split <;> rfl
      · show ((Sh_countNotAbove c (c 221 3)).bind fun x59 => if x59 ≤ 0 then some (7, c) else some (0, c)) = some ((if upTo g cur = 0 then 7 else 0), c)
        rw [hcur, cna_e hs, Option.bind_some]
        have uc := upTo_c hs hw.n cur
        have cs := cna_s hs cur
        by_cases y : cna c cur = 0
        · rw [if_pos (by omega), if_pos (by rw [uc, if_pos y])]
        · have : 0 < c (c 79 (cna c cur - 1)) 0 := by
            obtain ⟨_, _, q2, _⟩ := S3.row hs hw.n (i := cna c cur - 1) (by omega) (by omega)
            exact q2
          rw [if_neg (by omega), if_neg (by rw [uc, if_neg y]; omega)]
    · rw [if_neg z2, if_pos (Or.inr (by omega))]
/-- the items of a list without the set's units, looked at from the left -/
theorem ff_c {c : Mem} {g : Int → Int} {cur kn : Int} {I : List It3} (hs : SR c 3 g) (hw : WF g) (hk : KON c) (hO : 280 ≤ c 0 0) (hcur : c 221 3 = cur) (c0 : 0 ≤ cur) (hkn : c 242 11 = kn) (hI : ITM c I) (hl : I.length ≤ 240) : ∀ (L rest : List It3) (i N : Nat), I.drop i = L ++ rest → (∀ x ∈ L, 0 ≤ x.1 ∧ x.1 < 23 ∧ ¬ x.1 = 20 ∧ (x.1 = 11 → 0 ≤ kn ∧ kn < 9)) → L.length + rest.length < N → ((L.foldl (ffs (fitem g cur kn)) (0, -1)).1 = 0 ∧ Ch_firstFault_2 N c i = Ch_firstFault_2 (N - L.length) c ((i + L.length : Nat) : Int)) ∨ (¬ (L.foldl (ffs (fitem g cur kn)) (0, -1)).1 = 0 ∧ Ch_firstFault_2 N c i = some ((L.foldl (ffs (fitem g cur kn)) (0, -1)).1, wr c 255 2 (L.foldl (ffs (fitem g cur kn)) (0, -1)).2)) := by
  intro L
  induction L with
  | nil =>
    intro rest i N _ _ _
    exact Or.inl ⟨rfl, rfl⟩
  | cons x L ih =>
    intro rest i N hd hx hN
    obtain ⟨N, rfl⟩ : ∃ j, N = j + 1 := ⟨N - 1, by omega⟩
    have hi : I[i]? = some x := by
      have e := congrArg (fun l => l[0]?) hd
      have e2 : (I.drop i)[0]? = some x := e
      rw [List.getElem?_drop] at e2
      exact e2
    have hd2 : I.drop (i + 1) = L ++ rest := by
      have e := congrArg List.tail hd
      rw [List.tail_drop] at e
      exact e
    have il : i < I.length := by
      by_cases y : i < I.length
      · exact y
      · rw [List.getElem?_eq_none (by omega)] at hi; exact absurd hi (by simp)
    obtain ⟨q1, q2, q3⟩ := hI.2 i x hi
    obtain ⟨x0, x1, x2, x3⟩ := hx x (by simp)
    have ef := fault_c (v := x.2.1) hs hw hk hO hcur c0 hkn x0 x1 x2 x3
    rw [Ch_firstFault_2, hI.1, if_neg (by omega), aI_ok (by omega) (by omega), Option.bind_some, aI_ok (by omega) (by omega), Option.bind_some, q1, q2, ef, Option.bind_some, Option.bind_some, jadd_e (by omega) (by omega)]
    have fe : (x :: L).foldl (ffs (fitem g cur kn)) (0, -1) = L.foldl (ffs (fitem g cur kn)) (ffs (fitem g cur kn) (0, -1) x) := rfl
    rw [fe]
    by_cases z : FLT g cur kn x.1 x.2.1 = 0
    · rw [if_pos z, ffs_0 (show fitem g cur kn x = 0 from z)]
      have := ih rest (i + 1) N hd2 (fun y hy => hx y (by simp [hy])) (by simp at hN; omega)
      rw [show N + 1 - (x :: L).length = N - L.length by simp, show i + (x :: L).length = i + 1 + L.length by simp; omega]
      exact this
    · rw [if_neg z, ffs_y rfl (show ¬ fitem g cur kn x = 0 from z), fold_k L _ (show ¬ (fitem g cur kn x) = 0 from z), aI_ok (by omega) (by omega), Option.bind_some, Option.bind_some]
      refine Or.inr ⟨z, ?_⟩
      show some (FLT g cur kn x.1 x.2.1, wr c 255 2 (c 245 (i : Int))) = some (FLT g cur kn x.1 x.2.1, wr c 255 2 x.2.2)
      rw [q3]
