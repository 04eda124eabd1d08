-- L3: enter: options (limits, levels, times), each once
theorem i32_dist (S B J : Int32) : (S ||| B) &&& J = (S &&& J) ||| (B &&& J) := by
  apply Int32.toBitVec_inj.1
  rw [Int32.toBitVec_and, Int32.toBitVec_or, Int32.toBitVec_or, Int32.toBitVec_and, Int32.toBitVec_and]
  ext i
  simp [Bool.and_or_distrib_right]
theorem jand_0 {x y : Int} : jand x y = 0 ↔ Int32.ofInt x &&& Int32.ofInt y = 0 := by
  unfold jand
  constructor
  · intro h
    apply Int32.toInt_inj.mp
    rw [h]; rfl
  · intro h; rw [h]; rfl
def BT (seen : Int) (td : Int → Int) : Prop := ∀ j, 0 ≤ j → j < 9 → (jand seen (jshl 1 j) = 0 ↔ td j = -2)
theorem bit_d : ∀ b ∈ List.range 9, ∀ j ∈ List.range 9, (Int32.ofInt (jshl 1 (b : Int)) &&& Int32.ofInt (jshl 1 (j : Int)) = 0 ↔ b ≠ j) := by decide +kernel
theorem bit_0 : ∀ j ∈ List.range 9, jand 0 (jshl 1 (j : Int)) = 0 := by decide +kernel
theorem BT_0 {td : Int → Int} (h : ∀ j, 0 ≤ j → j < 9 → td j = -2) : BT 0 td := by
  intro j j0 j1
  obtain ⟨j', rfl⟩ : ∃ j' : Nat, j = (j' : Int) := ⟨j.toNat, by omega⟩
  exact ⟨fun _ => h _ j0 j1, fun _ => bit_0 j' (List.mem_range.mpr (by omega))⟩
theorem BT_s {seen b v : Int} {td : Int → Int} (h : BT seen td) (b0 : 0 ≤ b) (b1 : b < 9) (hv : ¬ v = -2) : BT (jor seen (jshl 1 b)) (st1 td b v) := by
  intro j j0 j1
  have hj := h j j0 j1
  rw [jand_0] at hj ⊢
  have e : Int32.ofInt (jor seen (jshl 1 b)) = Int32.ofInt seen ||| Int32.ofInt (jshl 1 b) := by unfold jor; exact i32_of _
  rw [e, i32_dist, Int32.or_eq_zero_iff, hj]
  obtain ⟨j', rfl⟩ : ∃ j' : Nat, j = (j' : Int) := ⟨j.toNat, by omega⟩
  obtain ⟨b', rfl⟩ : ∃ b' : Nat, b = (b' : Int) := ⟨b.toNat, by omega⟩
  rw [bit_d b' (List.mem_range.mpr (by omega)) j' (List.mem_range.mpr (by omega))]
  by_cases z : j' = b'
  · subst z
    rw [st1_eq]
    exact ⟨fun x => absurd rfl x.2, fun x => absurd x hv⟩
  · rw [st1_ne (by omega)]
    exact ⟨fun x => x.1, fun x => ⟨x, fun y => z y.symm⟩⟩
/-- options read: slot and value of each -/
def OPL (X : Tx) (lo hi nn : Int) (sl rl : Int → Int) (cv : Int) : List (Int × Int) → Int → Int → List It3 → (Int → Int) → (Int → Int) → Prop
  | [], k, e, its, td, td' => e = k ∧ its = [] ∧ td' = td ∧ ¬ (lo ≤ TT X k ∧ TT X k ≤ hi)
  | sv :: L, k, e, its, td, td' => ∃ its1 its2 e1, lo ≤ TT X k ∧ TT X k ≤ hi ∧ sv.1 = sl (TT X k) ∧ td sv.1 = -2 ∧ ((TT X k < lo + nn ∧ TT X (k + 1) = 75 ∧ sv.2 = Vx X (k + 1) ∧ e1 = k + 2 ∧ its1 = [(rl (TT X k), Vx X (k + 1), Px X (k + 1))]) ∨ (lo + nn ≤ TT X k ∧ sv.2 = cv ∧ e1 = k + 1 ∧ its1 = [])) ∧ its = its1 ++ its2 ∧ OPL X lo hi nn sl rl cv L e1 e its2 (st1 td sv.1 sv.2) td'
theorem OPL_l {X : Tx} {lo hi nn : Int} {sl rl : Int → Int} {cv : Int} : ∀ (L : List (Int × Int)) (k e : Int) (its : List It3) (td td' : Int → Int), OPL X lo hi nn sl rl cv L k e its td td' → k ≤ e ∧ its.length ≤ e - k
  | [], k, e, its, td, td', h => by
    obtain ⟨h1, h2, _⟩ := h
    subst h1; subst h2; simp
  | sv :: L, k, e, its, td, td', h => by
    obtain ⟨its1, its2, e1, _, _, _, _, h5, h6, h7⟩ := h
    have a := OPL_l L e1 e its2 _ td' h7
    subst h6
    rw [List.length_append]
    rcases h5 with ⟨_, _, _, h8, h9⟩ | ⟨_, _, h8, h9⟩
    · subst h8; subst h9; simp; omega
    · subst h8; subst h9; simp; omega
theorem cIsTold {X : Tx} {c0 c : Mem} {a j : Int} {I : List It3} {TL WL : List Q4} {td : Int → Int} {op vb : Int} (h : CS X c0 c a I TL WL td op vb) (j0 : 0 ≤ j) (j1 : j < 12) : St_isTold c j = some (if td j = -2 then 0 else 1) := by
  unfold St_isTold
  rw [aI_ok j0 j1, Option.bind_some, h.2.2.2.2.1]
  split <;> rfl
theorem opt_rel {X : Tx} {c0 m0 : Mem} (hX : XO X m0) (hc : CXO X c0) {TL WL : List Q4} {op vb : Int} (F : Nat → Mem → Int → Option (Int × Mem)) (mlo mhi lo hi nn : Int) (sl rl : Int → Int) (cv : Int)
    (lo0 : 0 ≤ lo) (hi1 : hi < 70) (nn0 : 0 ≤ nn) (hcv : ¬ cv = -2)
    (hr : ∀ w ∈ List.range 70, (mlo ≤ (w : Int) ∧ (w : Int) ≤ mhi) ↔ (lo ≤ tbl piT (w : Int) ∧ tbl piT (w : Int) ≤ hi))
    (hw : ∀ w ∈ List.range 70, mlo ≤ (w : Int) → (w : Int) ≤ mhi → (w : Int) - mlo = tbl piT (w : Int) - lo ∧ ((w : Int) = 46 → sl (tbl piT (w : Int)) = 44 - mlo) ∧ ((w : Int) = 47 → sl (tbl piT (w : Int)) = 45 - mlo) ∧ (¬ (w : Int) = 46 → ¬ (w : Int) = 47 → sl (tbl piT (w : Int)) = (w : Int) - mlo))
    (ml0 : 0 ≤ mlo) (ml1 : mlo < 70)
    (hsl : ∀ x, lo ≤ x → x ≤ hi → 0 ≤ sl x ∧ sl x < 9)
    (F1 : ∀ N c a I td i, CS X c0 c a I TL WL td op vb → 0 ≤ i → i < 120 → lo ≤ TT X a → TT X a ≤ hi → ¬ td (sl (TT X a)) = -2 → F (N + 1) c i = some (0, c))
    (F2 : ∀ N c a I td i, CS X c0 c a I TL WL td op vb → 0 ≤ i → i < 120 → lo ≤ TT X a → TT X a ≤ hi → td (sl (TT X a)) = -2 → TT X a < lo + nn → F (N + 1) c i = (Rd_tellNumber (wr c 250 9 (a + 1)) (sl (TT X a)) (rl (TT X a))).bind fun p => if p.1 ≠ 0 then F N p.2 (jadd i 1) else some (0, p.2))
    (F3 : ∀ N c a I td i, CS X c0 c a I TL WL td op vb → 0 ≤ i → i < 120 → lo ≤ TT X a → TT X a ≤ hi → td (sl (TT X a)) = -2 → lo + nn ≤ TT X a → F (N + 1) c i = F N (wr (wr c 250 9 (a + 1)) 242 (sl (TT X a)) cv) (jadd i 1))
    (ff : Bool)
    (F4 : ∀ N c a I td i, CS X c0 c a I TL WL td op vb → 0 ≤ i → i < 120 → ¬ (lo ≤ TT X a ∧ TT X a ≤ hi) → (ff = true → 0 < i) → F (N + 1) c i = some (1, c)) :
    ∀ (d N1 N2 : Nat) (c m : Mem) (a i seen : Int) (I : List It3) (td : Int → Int), CS X c0 c a I TL WL td op vb → MST X m0 m a → X.2.2.2 - a ≤ d → d < N1 → d < N2 → 0 ≤ i → i + 1 ≤ a → I.length ≤ a + 3 → BT seen td → (ff = true → i = 0 → lo ≤ TT X a ∧ TT X a ≤ hi) → REL X c0 m0 (F N1 c i) (M_options_3 mlo mhi nn N2 m seen) (fun c' e => ∃ its L td', OPL X lo hi nn sl rl cv L a e its td td' ∧ CS X c0 c' e (I ++ its) TL WL td' op vb) := by
  intro d
  induction d with
  | zero =>
    intro N1 N2 c m a i seen I td h hm h1
    have := h.1.2.2.1
    omega
  | succ d ih =>
    intro N1 N2 c m a i seen I td h hm h1 h2 h3 i0 i1 hI hB hff
    obtain ⟨N1, rfl⟩ : ∃ j, N1 = j + 1 := ⟨N1 - 1, by omega⟩
    obtain ⟨N2, rfl⟩ : ∃ j, N2 = j + 1 := ⟨N2 - 1, by omega⟩
    have a0 := h.1.2.1
    have a1 := h.1.2.2.1
    have hb := hc.2.2
    have tr := TT_r hX a0
    rw [M_options_3, isWi hX hm a1 hi1 hr, Option.bind_some]
    by_cases z : lo ≤ TT X a ∧ TT X a ≤ hi
    · rw [if_pos z, if_neg (show ¬ (1 : Int) = 0 by decide)]
      have ns : ¬ stp3 (TT X a) := by unfold stp3; omega
      obtain ⟨b1, b2⟩ := hX.go a0 a1 ns
      have hS : MS X m0 m a := by
        rcases hm with ⟨x, _⟩ | ⟨_, x⟩
        · omega
        · exact x
      have hk := hS.2.2.2.2.2.2.1 a a0 (Int.le_refl _)
      have h17 := hS.2.2.1
      have tc := TT_c hX a0 a1 b2
      have k1 : Kx X a = 1 := by omega
      have e69 : m 269 a = Vx X a := hk.2.1 (Or.inl k1)
      obtain ⟨v, hv⟩ : ∃ v : Nat, Vx X a = (v : Int) := ⟨(Vx X a).toNat, by omega⟩
      have eT : TT X a = tbl piT (v : Int) := by rw [← hv]; omega
      have hv70 : v ∈ List.range 70 := List.mem_range.mpr (by omega)
      have hrr := (hr v hv70).mpr (by rw [← eT]; exact z)
      obtain ⟨w1, w2, w3, w4⟩ := hw v hv70 hrr.1 hrr.2
      rw [← eT] at w1 w2 w3 w4
      have hs9 := hsl (TT X a) z.1 z.2
      -- the model's bit is the slot
      have key : ((aI m 269 122 (m 259 17)).bind fun x3 => (some (jsub x3 mlo)).bind fun x5 => (aI m 269 122 (m 259 17)).bind fun x7 => if x7 ≠ 46 then (aI m 269 122 (m 259 17)).bind fun x9 => if x9 ≠ 47 then M_options_70 (M_options_3 mlo mhi nn N2) m mlo mhi nn seen x5 1 x5 else M_options_70 (M_options_3 mlo mhi nn N2) m mlo mhi nn seen x5 1 (jsub 45 mlo) else M_options_70 (M_options_3 mlo mhi nn N2) m mlo mhi nn seen x5 1 (jsub 44 mlo)) = M_options_70 (M_options_3 mlo mhi nn N2) m mlo mhi nn seen (TT X a - lo) 1 (sl (TT X a)) := by
        rw [h17, aI_ok a0 (by omega), e69, hv]
        simp only [Option.bind_some]
        rw [jsub_e (by omega) (by omega), jsub_e (by omega) (by omega), jsub_e (by omega) (by omega)]
        by_cases y1 : (v : Int) = 46
        · rw [if_neg (fun x => x y1), w2 y1, w1]
        · rw [if_pos y1]
          by_cases y2 : (v : Int) = 47
          · rw [if_neg (fun x => x y2), w3 y2, w1]
          · rw [if_pos y2, w4 y1 y2, w1]
      rw [key]
      unfold M_options_70
      rw [Option.bind_some]
      have hbt := hB (sl (TT X a)) hs9.1 hs9.2
      by_cases y : td (sl (TT X a)) = -2
      · rw [if_pos (hbt.mpr y), Option.bind_some]
        obtain ⟨m1, e2, hm1, _⟩ := mnext hX hm a1 ns
        rw [e2, Option.bind_some]
        have hC1 := CS_at h (b := a + 1) (by omega) b1
        by_cases y2 : TT X a < lo + nn
        · rw [if_neg (show ¬ nn ≤ TT X a - lo by omega), F2 N1 c a I td i h i0 (by omega) z.1 z.2 y y2]
          by_cases y3 : TT X (a + 1) = 75
          · have vr := Vx_r hX (by omega) b1 y3
            obtain ⟨c2, e3, h3'⟩ := tY (r := rl (TT X a)) (j := sl (TT X a)) hX hc hC1 y3 (by omega) hs9.1 (by omega)
            obtain ⟨m2, e4, hm2⟩ := mNumY hX hm1 b1 y3
            rw [e3, e4, Option.bind_some, Option.bind_some]
            simp only []
            rw [if_pos (by decide), jadd_e (by omega) (by omega)]
            rw [show a + 1 + 1 = a + 2 by omega] at h3' hm2
            have hl3 : ((I ++ [(rl (TT X a), Vx X (a + 1), Px X (a + 1))]).length : Int) ≤ a + 2 + 3 := by rw [List.length_append]; simp; omega
            rcases ih N1 N2 c2 m2 (a + 2) (i + 1) _ _ _ h3' hm2 (by omega) (by omega) (by omega) (by omega) (by omega) hl3 (BT_s hB hs9.1 hs9.2 (by omega)) (fun _ x => by omega) with ⟨c3, m3, e5, e6, e7, ⟨its2, L, td', hq, hC3⟩, hm3⟩ | x
            · refine Or.inl ⟨c3, m3, e5, e6, e7, ⟨[(rl (TT X a), Vx X (a + 1), Px X (a + 1))] ++ its2, (sl (TT X a), Vx X (a + 1)) :: L, td', ⟨_, its2, a + 2, z.1, z.2, rfl, y, Or.inl ⟨y2, y3, rfl, rfl, rfl⟩, rfl, hq⟩, ?_⟩, hm3⟩
              rw [← List.append_assoc]
              exact hC3
            · exact Or.inr x
          · obtain ⟨m2, e4, hm2⟩ := mNumN hX hm1 b1 y3
            rw [tN hc hC1.1 y3, e4, Option.bind_some, Option.bind_some]
            simp only []
            rw [if_neg (by decide), bd_options3 hm2.1 (by omega)]
            exact Or.inr ⟨_, m2, a + 1, rfl, rfl, hC1.1, hm2⟩
        · rw [if_pos (show nn ≤ TT X a - lo by omega), F3 N1 c a I td i h i0 (by omega) z.1 z.2 y (by omega), jadd_e (by omega) (by omega)]
          obtain ⟨_, h4⟩ := cTold (j := sl (TT X a)) (v := cv) hC1 hs9.1 (by omega)
          rcases ih N1 N2 _ m1 (a + 1) (i + 1) _ I _ h4 hm1 (by omega) (by omega) (by omega) (by omega) (by omega) (by omega) (BT_s hB hs9.1 hs9.2 hcv) (fun _ x => by omega) with ⟨c3, m3, e5, e6, e7, ⟨its2, L, td', hq, hC3⟩, hm3⟩ | x
          · exact Or.inl ⟨c3, m3, e5, e6, e7, ⟨its2, (sl (TT X a), cv) :: L, td', ⟨[], its2, a + 1, z.1, z.2, rfl, y, Or.inr ⟨by omega, rfl, rfl, rfl⟩, rfl, hq⟩, hC3⟩, hm3⟩
          · exact Or.inr x
      · rw [if_neg (fun x => y (hbt.mp x)), F1 N1 c a I td i h i0 (by omega) z.1 z.2 y]
        obtain ⟨m1, e1, hm1⟩ := mfail hm
        rw [e1, Option.bind_some, bd_options3 hm1.1 (by omega)]
        exact Or.inr ⟨c, m1, a, rfl, rfl, h.1, hm1⟩
    · rw [if_neg z, if_pos rfl, F4 N1 c a I td i h i0 (by omega) z (fun x => by
        by_cases ei : i = 0
        · exact absurd (hff x ei) z
        · omega)]
      exact Or.inl ⟨c, m, a, rfl, rfl, ⟨[], [], td, ⟨rfl, rfl, rfl, z⟩, by rw [List.append_nil]; exact h⟩, hm⟩
def slP (x : Int) : Int := x - 29
def rlP (x : Int) : Int := if x = 29 then 13 else 14
def slL (x : Int) : Int := x - 9
def rlL (_ : Int) : Int := 13
def slT (x : Int) : Int := if x < 27 then x - 21 else x - 23
def rlT (x : Int) : Int := if x = 26 then 16 else 15
theorem optP_rel {X : Tx} {c0 m0 c m : Mem} (hX : XO X m0) (hc : CXO X c0) {TL WL : List Q4} {op vb a : Int} {I : List It3} {td : Int → Int} (h : CS X c0 c a I TL WL td op vb) (hm : MST X m0 m a) (a2 : 1 ≤ a) (hI : I.length ≤ a + 3) (ht : ∀ j, 0 ≤ j → j < 9 → td j = -2) : REL X c0 m0 (Rd_readPatch_56 big c 0) (M_options m 5 8 2) (fun c' e => ∃ its L td', OPL X 29 32 2 slP rlP 1 L a e its td td' ∧ CS X c0 c' e (I ++ its) TL WL td' op vb) := by
  have hN := big_ge
  have hb := hc.2.2
  have a0 := h.1.2.1
  refine opt_rel hX hc (fun N c i => Rd_readPatch_56 N c i) 5 8 29 32 2 slP rlP 1 (by decide) (by decide) (by decide) (by decide) (by decide +kernel) (by decide +kernel) (by decide) (by decide) (fun x x0 x1 => by unfold slP; omega) ?_ ?_ ?_ false ?_ 121 big big c m a 0 0 I td h hm (by omega) (by omega) (by omega) (by omega) (by omega) hI (BT_0 ht) (fun x => absurd x (by decide))
  · intro N c a I td i h i0 i1 x0 x1 hy
    show Rd_readPatch_56 (N + 1) c i = _
    unfold slP at hy
    rw [Rd_readPatch_56, if_neg (by omega), cA0 h.1 hc, Option.bind_some, if_neg (by omega), if_pos x1, Option.bind_some, jsub_e (by omega) (by omega), cIsTold h (by omega) (by omega), if_neg hy, Option.bind_some, if_neg (by decide)]
  · intro N c a I td i h i0 i1 x0 x1 hy x2
    have a0 := h.1.2.1
    have a1 := h.1.2.2.1
    show Rd_readPatch_56 (N + 1) c i = _
    unfold slP at hy
    rw [Rd_readPatch_56, if_neg (by omega), cA0 h.1 hc, Option.bind_some, if_neg (by omega), if_pos x1, Option.bind_some, jsub_e (by omega) (by omega), cIsTold h (by omega) (by omega), if_pos hy, Option.bind_some, if_pos rfl, Option.bind_some, if_pos (by omega), h.1.1, jadd_e (x := a) (by omega) (by omega)]
    unfold Rd_readPatch_148 slP rlP
    by_cases y : TT X a = 29
    · rw [if_neg (fun x => x y), if_pos y]
    · rw [if_pos y, if_neg y]
  · intro N c a I td i h i0 i1 x0 x1 hy x2
    have a0 := h.1.2.1
    have a1 := h.1.2.2.1
    show Rd_readPatch_56 (N + 1) c i = _
    unfold slP at hy
    rw [Rd_readPatch_56, if_neg (by omega), cA0 h.1 hc, Option.bind_some, if_neg (by omega), if_pos x1, Option.bind_some, jsub_e (by omega) (by omega), cIsTold h (by omega) (by omega), if_pos hy, Option.bind_some, if_pos rfl, Option.bind_some, if_neg (by omega), h.1.1, jadd_e (x := a) (by omega) (by omega), sI_ok (by omega) (by omega), Option.bind_some]
    rfl
  · intro N c a I td i h i0 i1 x0 _
    show Rd_readPatch_56 (N + 1) c i = _
    rw [Rd_readPatch_56, if_neg (by omega), cA0 h.1 hc, Option.bind_some]
    by_cases y : TT X a < 29
    · rw [if_pos y]
    · rw [if_neg y, if_neg (by omega)]
theorem optL_rel {X : Tx} {c0 m0 c m : Mem} (hX : XO X m0) (hc : CXO X c0) {TL WL : List Q4} {op vb a : Int} {I : List It3} {td : Int → Int} (h : CS X c0 c a I TL WL td op vb) (hm : MST X m0 m a) (a2 : 1 ≤ a) (hI : I.length ≤ a + 3) (ht : ∀ j, 0 ≤ j → j < 9 → td j = -2) (hz : 9 ≤ TT X a ∧ TT X a ≤ 17) : REL X c0 m0 (Rd_readPalette_13 big c 0) (M_options m 61 69 9) (fun c' e => ∃ its L td', OPL X 9 17 9 slL rlL 1 L a e its td td' ∧ CS X c0 c' e (I ++ its) TL WL td' op vb) := by
  have hN := big_ge
  have hb := hc.2.2
  have a0 := h.1.2.1
  refine opt_rel hX hc (fun N c i => Rd_readPalette_13 N c i) 61 69 9 17 9 slL rlL 1 (by decide) (by decide) (by decide) (by decide) (by decide +kernel) (by decide +kernel) (by decide) (by decide) (fun x x0 x1 => by unfold slL; omega) ?_ ?_ ?_ true ?_ 121 big big c m a 0 0 I td h hm (by omega) (by omega) (by omega) (by omega) (by omega) hI (BT_0 ht) (fun _ _ => hz)
  · intro N c a I td i h i0 i1 x0 x1 hy
    show Rd_readPalette_13 (N + 1) c i = _
    unfold slL at hy
    rw [Rd_readPalette_13, if_neg (by omega), cA0 h.1 hc, Option.bind_some, Option.bind_some, jsub_e (by omega) (by omega), if_neg (by omega), if_pos (by omega), cIsTold h (by omega) (by omega), if_neg hy, Option.bind_some, if_neg (by decide)]
  · intro N c a I td i h i0 i1 x0 x1 hy x2
    have a0 := h.1.2.1
    have a1 := h.1.2.2.1
    show Rd_readPalette_13 (N + 1) c i = _
    unfold slL at hy
    rw [Rd_readPalette_13, if_neg (by omega), cA0 h.1 hc, Option.bind_some, Option.bind_some, jsub_e (by omega) (by omega), if_neg (by omega), if_pos (by omega), cIsTold h (by omega) (by omega), if_pos hy, Option.bind_some, if_pos rfl, Option.bind_some, h.1.1, jadd_e (x := a) (by omega) (by omega)]
    rfl
  · intro N c a I td i h i0 i1 x0 x1 hy x2
    omega
  · intro N c a I td i h i0 i1 x0 x1
    have tr := TT_r hX h.1.2.1
    show Rd_readPalette_13 (N + 1) c i = _
    rw [Rd_readPalette_13, if_neg (by omega), cA0 h.1 hc, Option.bind_some, Option.bind_some, jsub_e (by omega) (by omega)]
    unfold Rd_readPalette_38
    rw [if_neg (show ¬ i ≤ 0 by have := x1 rfl; omega)]
    by_cases y : TT X a - 9 < 0
    · rw [if_pos y]
    · rw [if_neg y, if_neg (by omega)]
theorem optT_rel {X : Tx} {c0 m0 c m : Mem} (hX : XO X m0) (hc : CXO X c0) {TL WL : List Q4} {op vb a : Int} {I : List It3} {td : Int → Int} (h : CS X c0 c a I TL WL td op vb) (hm : MST X m0 m a) (a2 : 1 ≤ a) (hI : I.length ≤ a + 3) (ht : ∀ j, 0 ≤ j → j < 9 → td j = -2) : REL X c0 m0 (Rd_readTimes c) (M_times m) (fun c' e => ∃ its L td', OPL X 21 28 6 slT rlT (-1) L a e its td td' ∧ CS X c0 c' e (I ++ its) TL WL td' op vb) := by
  have hN := big_ge
  have hb := hc.2.2
  have a0 := h.1.2.1
  have et : M_times m = M_options m 40 47 6 := by
    unfold M_times
    cases M_options m 40 47 6 <;> rfl
  rw [et]
  have s47 : ∀ N c a I td i, CS X c0 c a I TL WL td op vb → 0 ≤ i → i < 120 → 21 ≤ TT X a → TT X a ≤ 28 → Rd_readTimes_2 (N + 1) c i = Rd_readTimes_47 (Rd_readTimes_2 N) c i (TT X a) (slT (TT X a)) := by
    intro N c a I td i h i0 i1 x0 x1
    rw [Rd_readTimes_2, if_neg (by omega), cA0 h.1 hc, Option.bind_some, if_neg (by omega), if_pos x1]
    unfold slT
    by_cases y : 27 ≤ TT X a
    · rw [if_pos y, if_neg (by omega), jsub_e (by omega) (by omega), jadd_e (by omega) (by omega)]
      congr 1; omega
    · rw [if_neg y, if_pos (by omega), jsub_e (by omega) (by omega)]
  refine opt_rel hX hc (fun N c i => Rd_readTimes_2 N c i) 40 47 21 28 6 slT rlT (-1) (by decide) (by decide) (by decide) (by decide) (by decide +kernel) (by decide +kernel) (by decide) (by decide) (fun x x0 x1 => by unfold slT; split <;> omega) ?_ ?_ ?_ false ?_ 121 big big c m a 0 0 I td h hm (by omega) (by omega) (by omega) (by omega) (by omega) hI (BT_0 ht) (fun x => absurd x (by decide))
  · intro N c a I td i h i0 i1 x0 x1 hy
    show Rd_readTimes_2 (N + 1) c i = _
    have sr : 0 ≤ slT (TT X a) ∧ slT (TT X a) < 9 := by unfold slT; split <;> omega
    rw [s47 N c a I td i h i0 i1 x0 x1]
    unfold Rd_readTimes_47
    rw [cIsTold h sr.1 (by omega), if_neg hy, Option.bind_some, if_neg (by decide)]
  · intro N c a I td i h i0 i1 x0 x1 hy x2
    have a0 := h.1.2.1
    have a1 := h.1.2.2.1
    show Rd_readTimes_2 (N + 1) c i = _
    have sr : 0 ≤ slT (TT X a) ∧ slT (TT X a) < 9 := by unfold slT; split <;> omega
    rw [s47 N c a I td i h i0 i1 x0 x1]
    unfold Rd_readTimes_47 Rd_readTimes_105
    rw [cIsTold h sr.1 (by omega), if_pos hy, Option.bind_some, if_pos rfl, Option.bind_some, if_pos (by omega), h.1.1, jadd_e (x := a) (by omega) (by omega)]
    unfold rlT
    by_cases y : TT X a = 26
    · rw [if_neg (fun x => x y), if_pos y]
    · rw [if_pos y, if_neg y]
  · intro N c a I td i h i0 i1 x0 x1 hy x2
    have a0 := h.1.2.1
    have a1 := h.1.2.2.1
    show Rd_readTimes_2 (N + 1) c i = _
    have sr : 0 ≤ slT (TT X a) ∧ slT (TT X a) < 9 := by unfold slT; split <;> omega
    rw [s47 N c a I td i h i0 i1 x0 x1]
    unfold Rd_readTimes_47
    rw [cIsTold h sr.1 (by omega), if_pos hy, Option.bind_some, if_pos rfl, Option.bind_some, if_neg (by omega), h.1.1, jadd_e (x := a) (by omega) (by omega), sI_ok sr.1 (by omega), Option.bind_some]
  · intro N c a I td i h i0 i1 x0 _
    show Rd_readTimes_2 (N + 1) c i = _
    rw [Rd_readTimes_2, if_neg (by omega), cA0 h.1 hc, Option.bind_some]
    by_cases y : TT X a < 21
    · rw [if_pos y]
    · rw [if_neg y, if_neg (by omega)]
