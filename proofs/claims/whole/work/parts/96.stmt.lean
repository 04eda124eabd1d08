-- L3: enter: loops that set a row of places; a statement read by both
theorem asg {α : Type} (F : Nat → Mem → Int → Option α) (o b lo hi : Int) (v : Int → Int) (μ0 : Mem) (step : ∀ n μ i, lo ≤ i → i < hi → (∀ p, ¬ p = o → μ p = μ0 p) → (∀ j, b + i ≤ j → μ o j = μ0 o j) → (∀ j, j < b + lo → μ o j = μ0 o j) → F (n + 1) μ i = F n (up μ o (st1 (μ o) (b + i) (v i))) (i + 1)) : ∀ (k : Nat), lo + k ≤ hi → ∀ N, k ≤ N → F N μ0 lo = F (N - k) (up μ0 o (fun j => if b + lo ≤ j ∧ j < b + lo + k then v (j - b) else μ0 o j)) (lo + k) := by
  intro k
  induction k with
  | zero =>
    intro _ N _
    have e : (fun j => if b + lo ≤ j ∧ j < b + lo + ((0 : Nat) : Int) then v (j - b) else μ0 o j) = μ0 o := by
      funext j; rw [if_neg (by omega)]
    rw [e, up_id, show lo + ((0 : Nat) : Int) = lo by omega]
    rfl
  | succ k ih =>
    intro hk N hN
    obtain ⟨n, hn⟩ : ∃ n, N - k = n + 1 := ⟨N - k - 1, by omega⟩
    rw [ih (by omega) N (by omega), hn, step n _ (lo + k) (by omega) (by omega) (fun p hp => up_ne hp) (fun j hj => by rw [up_eq, if_neg (by omega)]) (fun j hj => by rw [up_eq, if_neg (by omega)]), up_eq, up_up, show N - (k + 1) = n by omega]
    have e : st1 (fun j => if b + lo ≤ j ∧ j < b + lo + (k : Int) then v (j - b) else μ0 o j) (b + (lo + k)) (v (lo + k)) = (fun j => if b + lo ≤ j ∧ j < b + lo + ((k + 1 : Nat) : Int) then v (j - b) else μ0 o j) := by
      funext j
      unfold st1
      by_cases z : j = b + (lo + k)
      · rw [if_pos z, if_pos (by omega), z, show b + (lo + (k : Int)) - b = lo + k by omega]
      · rw [if_neg z]
        show (if b + lo ≤ j ∧ j < b + lo + (k : Int) then v (j - b) else μ0 o j) = _
        by_cases z2 : b + lo ≤ j ∧ j < b + lo + (k : Int)
        · rw [if_pos z2, if_pos (by omega)]
        · rw [if_neg z2, if_neg (by omega)]
    rw [e, show lo + (k : Int) + 1 = lo + ((k + 1 : Nat) : Int) by omega]
def fil (g : Int → Int) (n v : Int) : Int → Int := fun j => if 0 ≤ j ∧ j < n then v else g j
theorem fill_e {c : Mem} {o v n : Int} (hk : kd o = 100) (hl : ln o = n) (ho : 0 < o) (hu : uB o = false) (n0 : 0 ≤ n) (n1 : n ≤ 1000) : Ar_fill c o v = some (up c o (fil (c o) n v)) := by
  unfold Ar_fill
  rw [aln_ok hk hl (Or.inl rfl), Option.bind_some]
  obtain ⟨k, rfl⟩ : ∃ k : Nat, n = (k : Int) := ⟨n.toNat, by omega⟩
  have h := asg (fun N μ i => Ar_fill_5 o v (k : Int) N μ i) o 0 0 k (fun _ => v) c (by
    intro N μ i i0 i1 _ _ _
    show Ar_fill_5 o v (k : Int) (N + 1) μ i = Ar_fill_5 o v (k : Int) N _ (i + 1)
    rw [Ar_fill_5, if_neg (by omega)]
    unfold wD
    rw [if_pos hu, wI_ok hk ho i0 (by omega), Option.bind_some, wr_st1, jadd_e (by omega) (by omega), show (0 : Int) + i = i by omega]) k (by omega) big (by have := big_ge; omega)
  have h' : Ar_fill_5 o v (k : Int) big c 0 = _ := h
  rw [h']
  obtain ⟨N, hN⟩ : ∃ N, big - k = N + 1 := ⟨big - k - 1, by have := big_ge; omega⟩
  rw [hN]
  show Ar_fill_5 o v (k : Int) (N + 1) _ _ = _
  rw [Ar_fill_5, if_pos (by omega)]
  congr 2
  funext j
  unfold fil
  by_cases z : 0 ≤ j ∧ j < (k : Int)
  · rw [if_pos z, if_pos (by omega)]
  · rw [if_neg z, if_neg (by omega)]
/-- the class's statement is begun anew -/
def BEG (c c0 : Mem) : Prop := c0 250 = c 250 ∧ (∀ o, ¬ o = 241 → ¬ o = 242 → ¬ o = 248 → c0 o = c o) ∧ c0 241 0 = -1 ∧ c0 241 1 = -1 ∧ c0 241 6 = 0 ∧ c0 241 8 = 0 ∧ c0 241 10 = 0 ∧ (∀ j, 0 ≤ j → j < 12 → c0 242 j = -2) ∧ c0 248 1 = 0 ∧ (∀ f, ¬ f = 1 → c0 248 f = c 248 f)
theorem begin_e {c : Mem} : ∃ c0, St_begin c = some c0 ∧ BEG c c0 := by
  have k242 : kd 242 = 100 ∧ ln 242 = 12 := by decide +kernel
  unfold St_begin Row_clear
  simp only [Option.bind_some]
  rw [fill_e k242.1 k242.2 (by decide) (by decide) (by decide) (by decide)]
  simp only [Option.bind_some]
  refine ⟨_, rfl, ?_, ?_, ?_, ?_, ?_, ?_, ?_, ?_, wr_eq, ?_⟩
  · rw [wr_o (by decide), wr_o (by decide), wr_o (by decide), wr_o (by decide), up_ne (by decide), wr_o (by decide), wr_o (by decide)]
  · intro o x y z
    rw [wr_o z, wr_o x, wr_o x, wr_o x, up_ne y, wr_o x, wr_o x]
  · rw [wr_o (by decide), wr_f (by decide), wr_f (by decide), wr_f (by decide), up_ne (by decide), wr_f (by decide), wr_eq]
  · rw [wr_o (by decide), wr_f (by decide), wr_f (by decide), wr_f (by decide), up_ne (by decide), wr_eq]
  · rw [wr_o (by decide), wr_f (by decide), wr_f (by decide), wr_eq]
  · rw [wr_o (by decide), wr_f (by decide), wr_eq]
  · rw [wr_o (by decide), wr_eq]
  · intro j j0 j1
    rw [wr_o (by decide), wr_o (by decide), wr_o (by decide), wr_o (by decide), up_eq]
    exact if_pos ⟨j0, j1⟩
  · intro f x
    rw [wr_f x, wr_o (by decide), wr_o (by decide), wr_o (by decide), up_ne (by decide), wr_o (by decide), wr_o (by decide)]
def SHAPE (X : Tx) (td : Int → Int) (A vb : Int) (I : List It3) (TL WL : List Q4) (td' : Int → Int) (op : Int) : Prop :=
  (vb = 33 ∧ TT X 0 = 33 ∧ q33 X td A I TL WL td' op) ∨ (vb = 34 ∧ TT X 0 = 34 ∧ q34 X td A I TL WL td' op) ∨ (vb = 35 ∧ TT X 0 = 35 ∧ q35 X td A I TL WL td' op) ∨ (vb = 36 ∧ TT X 0 = 36 ∧ q36 X td A I TL WL td' op) ∨ (vb = 37 ∧ TT X 0 = 37 ∧ q37 X td A I TL WL td' op) ∨ (vb = 38 ∧ TT X 0 = 38 ∧ q38 X td A I TL WL td' op) ∨ (vb = 39 ∧ TT X 0 = 39 ∧ q39 X td A I TL WL td' op) ∨ (vb = 40 ∧ TT X 0 = 40 ∧ q40 X td A I TL WL td' op) ∨ (vb = 41 ∧ TT X 0 = 41 ∧ q41 X td A I TL WL td' op) ∨ ((vb = 42 ∨ vb = 44 ∨ vb = 45 ∨ vb = 46) ∧ TT X 0 = vb ∧ q42 X td A I TL WL td' op) ∨ (vb = 43 ∧ TT X 0 = 43 ∧ q43 X td A I TL WL td' op) ∨ ((vb = 47 ∨ vb = 48) ∧ TT X 0 = vb ∧ q47 X td A I TL WL td' op) ∨ (vb = 49 ∧ TT X 0 = 49 ∧ q49 X td A I TL WL td' op) ∨ (vb = 50 ∧ TT X 0 = 50 ∧ q50 X td A I TL WL td' op) ∨ (vb = 51 ∧ TT X 0 = 51 ∧ q51 X td A I TL WL td' op) ∨ (vb = 52 ∧ TT X 0 = 52 ∧ q52 X td A I TL WL td' op) ∨ (vb = 78 ∧ (TT X 0 = 75 ∨ TT X 0 = 64 ∨ (TT X 0 = 35 ∧ ¬ TT X 2 = 73)) ∧ q78 X td A I TL WL td' op)
/-- both have read it, or both stopped at the same place -/
def STR (X : Tx) (c0 m0 : Mem) (D : Option (Int × Mem)) (M : Option Mem) : Prop := (∃ c m' A vb I TL WL td' op, D = some (1, wr c 250 9 (A + 1)) ∧ M = some m' ∧ TT X A = 70 ∧ SHAPE X (c0 242) A vb I TL WL td' op ∧ CS X c0 c A I TL WL td' op vb ∧ MS X m0 m' A) ∨ (∃ c' m' f, D = some (0, c') ∧ M = some m' ∧ CSF X c0 c' f ∧ MB m0 m' (Px X f))
theorem semi {X : Tx} {c0 m0 : Mem} {D : Option (Int × Mem)} {M : Option Mem} {q : QV} {vb : Int} (hX : XO X m0) (hc : CXO X c0) (h : REL X c0 m0 D M (QR q X c0 (c0 242) vb)) (hs : ∀ A I TL WL td' op, q X (c0 242) A I TL WL td' op → SHAPE X (c0 242) A vb I TL WL td' op) : STR X c0 m0 (D.bind fun p => Rd_readStatement_156 p.2 p.1) (M.bind M_statement_220) := by
  rcases h with ⟨c', m', e, e1, e2, ⟨I, TL, WL, td', op, hq, hC⟩, hm⟩ | ⟨c', m', f, e1, e2, hF, hB⟩
  · have a0 := hC.1.2.1
    have a1 := hC.1.2.2.1
    have hb := hc.2.2
    rw [e1, e2, Option.bind_some, Option.bind_some]
    unfold Rd_readStatement_156 M_statement_220
    rw [if_neg (show ¬ (1 : Int) = 0 by decide), isSg hX hm a1 (sc := 70) (by omega), Option.bind_some]
    by_cases z : TT X e = 70
    · rw [if_pos z, if_pos (by decide)]
      have hS : MS X m0 m' e := by
        rcases hm with ⟨rfl, _⟩ | ⟨_, h⟩
        · rw [TT_120] at z; omega
        · exact h
      refine Or.inl ⟨c', m', e, vb, I, TL, WL, td', op, ?_, rfl, z, hs _ _ _ _ _ _ hq, hC, hS⟩
      show ((Rd_pass c' 70).bind fun p1 => if p1.1 = 0 then some (0, p1.2) else some (1, p1.2)) = _
      unfold Rd_pass
      rw [cA0 hC.1 hc, Option.bind_some, if_pos z, Option.bind_some, hC.1.1, jadd_e (by omega) (by omega), Option.bind_some, if_neg (show ¬ (1 : Int) = 0 by decide)]
    · obtain ⟨m2, g2, hm2⟩ := mfail hm
      rw [if_neg z, if_neg (by decide), g2, Option.bind_some, pN hc hC.1 z, Option.bind_some, if_pos (show (0 : Int) = 0 from rfl)]
      exact Or.inr ⟨c', m2, e, rfl, rfl, hC.1, hm2⟩
  · rw [e1, e2, Option.bind_some, Option.bind_some, bd_220 hB.1]
    refine Or.inr ⟨c', m', f, ?_, rfl, hF, hB⟩
    unfold Rd_readStatement_156
    rw [if_pos (show (0 : Int) = 0 from rfl)]
theorem bsm {α : Type} (o : Option α) : (o.bind fun x => some x) = o := by cases o <;> rfl
-- the model's way by the first word
theorem st_nx {m : Mem} {f : Mem → Option Mem} : ((M_next m).bind fun m6 => (f m6).bind M_statement_220) = ((M_next m).bind f).bind M_statement_220 := by
  cases M_next m <;> rfl
theorem ms3 {m : Mem} : M_statement_20 m 3 = ((M_next m).bind bo33).bind M_statement_220 := by
  rw [show M_statement_20 m 3 = (M_next m).bind fun m6 => (M_number m6).bind fun m9 => (M_isWordIn m9 52 60).bind fun x12 => (M_need m9 x12).bind fun m14 => (M_word m14 4).bind fun m17 => (M_number m17).bind fun m20 => (M_options m20 5 8 2).bind fun m23 => M_statement_220 m23 from rfl]
  unfold bo33
  simp only [Option.bind_assoc]
theorem ms9 {m : Mem} : M_statement_20 m 9 = ((M_next m).bind M_set).bind M_statement_220 := by
  rw [show M_statement_20 m 9 = (M_next m).bind fun m32 => (M_set m32).bind fun m35 => M_statement_220 m35 from rfl]
  simp only [Option.bind_assoc]
theorem ms10 {m : Mem} : M_statement_20 m 10 = ((M_next m).bind bo36).bind M_statement_220 := by
  rw [show M_statement_20 m 10 = (M_next m).bind fun m39 => (M_number m39).bind fun m42 => (M_sign m42 61).bind fun m45 => (M_levels m45).bind fun m48 => M_statement_220 m48 from rfl]
  unfold bo36
  simp only [Option.bind_assoc]
theorem ms12 {m : Mem} : M_statement_20 m 12 = ((M_next m).bind bo37).bind M_statement_220 := by
  rw [show M_statement_20 m 12 = (M_next m).bind fun m53 => (M_number m53).bind fun m56 => (M_subs m56).bind fun m59 => M_statement_220 m59 from rfl]
  unfold bo37
  simp only [Option.bind_assoc]
theorem ms16 {m : Mem} : M_statement_20 m 16 = ((M_next m).bind bo38).bind M_statement_220 := by
  rw [show M_statement_20 m 16 = (M_next m).bind fun m66 => (M_number m66).bind fun m69 => (M_sign m69 61).bind fun m72 => (M_waves m72).bind fun m75 => M_statement_220 m75 from rfl]
  unfold bo38
  simp only [Option.bind_assoc]
theorem ms21 {m : Mem} : M_statement_20 m 21 = ((M_next m).bind bo39).bind M_statement_220 := by
  rw [show M_statement_20 m 21 = ((M_next m).bind fun m1 => (M_number m1).bind fun m4 => (M_times m4).bind fun m1 => some m1).bind fun m1 => M_statement_220 m1 from rfl]
  unfold bo39
  simp only [Option.bind_assoc, bsm]
theorem ms22 {m : Mem} : M_statement_20 m 22 = ((M_next m).bind bo40).bind M_statement_220 := by
  rw [show M_statement_20 m 22 = ((M_next m).bind fun m1 => (M_number m1).bind fun m4 => (M_isWord m4 23).bind fun x7 => if x7 = 0 then (M_times m4).bind fun m1 => some m1 else (M_next m4).bind fun m9 => (M_times m9).bind fun m1 => some m1).bind fun m1 => M_statement_220 m1 from rfl]
  unfold bo40
  simp only [bsm]
theorem ms24 {m : Mem} {w : Int} (h : w = 24 ∨ w = 31 ∨ w = 32) : M_statement_20 m w = ((M_next m).bind some).bind M_statement_220 := by
  rcases h with rfl | rfl | rfl <;> rfl
theorem ms25 {m : Mem} {w : Int} (h : w = 25 ∨ w = 28 ∨ w = 29 ∨ w = 30 ∨ w = 33) : M_statement_20 m w = ((M_next m).bind M_number).bind M_statement_220 := by
  have e : M_statement_20 m w = ((M_next m).bind fun m1 => (M_number m1).bind fun m4 => some m4).bind M_statement_220 := by
    rcases h with rfl | rfl | rfl | rfl | rfl <;> rfl
  rw [e]
  simp only [bsm]
theorem ms26 {m : Mem} : M_statement_20 m 26 = ((M_next m).bind bo43).bind M_statement_220 := by
  rw [show M_statement_20 m 26 = ((M_next m).bind fun m6 => (M_number m6).bind fun m9 => (M_word m9 27).bind fun m12 => (M_number m12).bind fun m15 => some m15).bind M_statement_220 from rfl]
  unfold bo43
  simp only [bsm]
theorem ms34 {m : Mem} : M_statement_20 m 34 = ((M_next m).bind bo50).bind M_statement_220 := by
  rw [show M_statement_20 m 34 = (((M_next m).bind fun m6 => (M_number m6).bind fun m9 => (M_sign m9 64).bind fun m12 => (M_number m12).bind fun m15 => some m15).bind fun m1 => some m1).bind M_statement_220 from rfl]
  unfold bo50
  simp only [bsm]
theorem ms35 {m : Mem} : M_statement_20 m 35 = ((M_next m).bind bo51).bind M_statement_220 := by
  rw [show M_statement_20 m 35 = (((M_next m).bind fun m14 => (M_isWord m14 0).bind fun x17 => if x17 ≠ 0 then (M_need m14 1).bind fun m1 => some m1 else (M_isNumber m14).bind fun x19 => if x19 = 0 then (M_need m14 0).bind fun m1 => some m1 else (M_need m14 1).bind fun m1 => some m1).bind fun m1 => some m1).bind M_statement_220 from rfl]
  unfold bo51
  simp only [bsm]
theorem ms36 {m : Mem} : M_statement_20 m 36 = ((M_next m).bind bo52).bind M_statement_220 := by
  rw [show M_statement_20 m 36 = (((M_next m).bind fun m24 => (M_number m24).bind fun m27 => (M_sign m27 61).bind fun m30 => (M_isWord m30 11).bind fun x33 => if x33 = 0 then (M_number m30).bind fun m35 => (M_word m35 21).bind fun m38 => (M_number m38).bind fun m41 => some m41 else (M_next m30).bind fun m44 => some m44).bind fun m1 => some m1).bind M_statement_220 from rfl]
  unfold bo52
  simp only [bsm]
theorem msO {m : Mem} {w : Int} (h : ¬ w = 1 ∧ ¬ w = 3 ∧ ¬ w = 9 ∧ ¬ w = 10 ∧ ¬ w = 12 ∧ ¬ w = 16 ∧ ¬ w = 21 ∧ ¬ w = 22 ∧ ¬ w = 24 ∧ ¬ w = 25 ∧ ¬ w = 26 ∧ ¬ (28 ≤ w ∧ w ≤ 36)) : M_statement_20 m w = ((M_set m).bind fun m49 => M_whats m49).bind M_statement_220 := by
  have e1 : M_otherStatement m w = (M_set m).bind fun m49 => M_whats m49 := by
    unfold M_otherStatement
    rw [if_neg (by omega), if_neg (by omega), if_neg (by omega)]
    simp only [bsm]
  have e2 : M_cueStatement m w = M_otherStatement m w := by
    unfold M_cueStatement M_cueStatement_141
    rw [if_neg (show ¬ w = 21 by omega), if_neg (show ¬ w = 22 by omega)]
    by_cases y1 : w = 23
    · rw [if_pos y1]; exact bsm _
    · rw [if_neg y1, if_neg (show ¬ w = 24 by omega), if_neg (show ¬ w = 25 by omega), if_neg (show ¬ w = 26 by omega)]
      by_cases y2 : w = 27
      · rw [if_pos y2]; exact bsm _
      · rw [if_neg y2, if_neg (show ¬ w = 28 by omega), if_neg (show ¬ w = 29 by omega), if_neg (show ¬ w = 30 by omega), if_neg (show ¬ w = 31 by omega), if_neg (show ¬ w = 32 by omega), if_neg (show ¬ w = 33 by omega)]; exact bsm _
  have e3 : M_statement_215 m w = ((M_set m).bind fun m49 => M_whats m49).bind M_statement_220 := by
    unfold M_statement_215
    rw [e2, e1]
  unfold M_statement_20
  rw [if_neg (show ¬ w = 1 by omega)]
  by_cases y2 : w = 2
  · rw [if_pos y2]; exact e3
  · rw [if_neg y2]
    rw [if_neg (show ¬ w = 3 by omega)]
    by_cases y4 : w = 4
    · rw [if_pos y4]; exact e3
    · rw [if_neg y4]
      by_cases y5 : w = 5
      · rw [if_pos y5]; exact e3
      · rw [if_neg y5]
        by_cases y6 : w = 6
        · rw [if_pos y6]; exact e3
        · rw [if_neg y6]
          by_cases y7 : w = 7
          · rw [if_pos y7]; exact e3
          · rw [if_neg y7]
            by_cases y8 : w = 8
            · rw [if_pos y8]; exact e3
            · rw [if_neg y8]
              rw [if_neg (show ¬ w = 9 by omega)]
              rw [if_neg (show ¬ w = 10 by omega)]
              by_cases y11 : w = 11
              · rw [if_pos y11]; exact e3
              · rw [if_neg y11]
                rw [if_neg (show ¬ w = 12 by omega)]
                by_cases y13 : w = 13
                · rw [if_pos y13]; exact e3
                · rw [if_neg y13]
                  by_cases y14 : w = 14
                  · rw [if_pos y14]; exact e3
                  · rw [if_neg y14]
                    by_cases y15 : w = 15
                    · rw [if_pos y15]; exact e3
                    · rw [if_neg y15]
                      rw [if_neg (show ¬ w = 16 by omega)]
                      exact e3
