-- L3: enter: both check
theorem chk_m {X : Tx} {m0 m : Mem} {A op vb : Int} {r : RW} {I : List It3} {TL WL : List Q4} {td td' : Int → Int} (hX : XO X m0) (hT : MTK X A m) (hA : TT X A = 70) (a0 : 0 ≤ A) (hw : WF (m 264)) (hk : KON m) (h : SHAPE X td A vb I TL WL td' op) : (CK0 m r I (m 259 29) (td' 11) ∧ TL = []) ∨ CK1 X m r I TL vb (m 259 29) (td' 11) := by
  rcases h with ⟨_, t, h⟩ | ⟨rfl, t, h⟩ | ⟨rfl, t, h⟩ | ⟨_, t, h⟩ | ⟨rfl, t, h⟩ | ⟨rfl, t, h⟩ | ⟨_, t, h⟩ | ⟨_, t, h⟩ | ⟨_, t, h⟩ | ⟨v, t, h⟩ | ⟨_, t, h⟩ | ⟨v, t, h⟩ | ⟨_, t, h⟩ | ⟨_, t, h⟩ | ⟨_, t, h⟩ | ⟨_, t, h⟩ | ⟨rfl, t, h⟩
  · exact Or.inl ⟨ck33 hX hT hA a0 hw hk t h, h.2.2.2.2.1⟩
  · exact Or.inr (ck34 hX hT a0 hw t h)
  · exact Or.inr (ck35 hX hT a0 hw t h)
  · exact Or.inl ⟨ck36 hX hT hA a0 t h, h.2.2.1⟩
  · exact ck37 hX hT a0 hw t h
  · exact ck38 hX hT a0 hw t h
  · exact Or.inl ⟨ck39 hX hT hA a0 t h, h.2.1⟩
  · exact Or.inl ⟨ck40 hX hT hA a0 t h, h.2.1⟩
  · exact Or.inl ⟨ck41 hX hT a0 t h, h.2.2.1⟩
  · exact Or.inl ⟨ck42 hX hT a0 v t h, h.2.2.2.1⟩
  · exact Or.inl ⟨ck43 hX hT a0 t h, h.2.2.2.2.2.1⟩
  · exact Or.inl ⟨ck47 hX hT a0 v t h, h.2.2.1⟩
  · exact Or.inl ⟨ck49 hX hT a0 t h, h.2.2.2.1⟩
  · exact Or.inl ⟨ck50 hX hT a0 t h, h.2.2.2.2.2.1⟩
  · exact Or.inl ⟨ck51 hX hT a0 t h, h.2.1⟩
  · exact Or.inl ⟨ck52 hX hT a0 t h, h.2.2.1⟩
  · exact Or.inr (ck78 hX hT hA a0 hw t h)
/-- both refuse, with the same fault at the same place -/
def CKF (c m : Mem) (D : Option (Int × Mem)) (M : Option Mem) : Prop := ∃ f p c2 e r', D = some (f, wr c2 255 2 p) ∧ GF c c2 ∧ ¬ f = 0 ∧ ¬ f = 1 ∧ M = some (gst (wr m 259 22 e) (f, p) r')
/-- both find nothing, and have the same units -/
def CKY (X : Tx) (c m : Mem) (I : List It3) (TL : List Q4) (vb cur kn : Int) (D : Option (Int × Mem)) (M : Option Mem) : Prop := ∃ c2 e r', D = some (0, c2) ∧ GF c c2 ∧ M = some (gst (wr m 259 22 e) (0, -1) r') ∧ (∀ x ∈ I, ¬ x.1 = 20 → fitem (m 264) cur kn x = 0) ∧ ((TL = [] ∧ c2 = c) ∨ (CR c2 248 r' ∧ ROK r' ∧ 0 < r'.1 ∧ ∃ its, SETP X TL (kOf vb) e its))
theorem fold_z {F : It3 → Int} : ∀ (L : List It3) (s : Int × Int), (∀ x ∈ L, F x = 0) → L.foldl (ffs F) s = s
  | [], _, _ => rfl
  | x :: L, s, h => by
    show L.foldl (ffs F) (ffs F s x) = s
    rw [ffs_0 (h x (by simp)), fold_z L s (fun y hy => h y (by simp [hy]))]
theorem GF_m {c : Mem} : GF c c := ⟨fun _ _ _ => rfl, fun _ _ => rfl⟩
theorem f20 {c : Mem} (hk : KON c) : Ch_faultOf c 20 0 = (Ch_gather c).bind fun m50 => if (m50 248 1) ≤ 0 then some (6, m50) else some (0, m50) := by
  obtain ⟨_, _, _, _, _, _, _, _, h9, h10, _, _⟩ := hk
  unfold Ch_faultOf
  rw [if_neg (show ¬ (20 : Int) < 0 by decide), if_neg (show ¬ (23 : Int) ≤ 20 by decide), aI_ok (by decide) (by decide), Option.bind_some, h9 20 (by decide) (by decide), if_neg (show ¬ (0 : Int) < tbl leaT 20 by decide), aI_ok (by decide) (by decide), Option.bind_some, h10 20 (by decide) (by decide), if_pos (show (0 : Int) ≤ tbl greT 20 by decide)]
  rfl
theorem KON_gf {cB c : Mem} (h : GF cB c) (hk : KON cB) : KON c := by
  obtain ⟨h1, h2, h3, h4, h5, h6, h7, h8, h9, h10, h11, h12⟩ := hk
  refine ⟨fun i a b => ?_, fun i a b => ?_, fun i a b => ?_, fun i a b => ?_, fun i a b => ?_, fun i a b => ?_, fun i a b => ?_, fun i a b => ?_, fun i a b => ?_, fun i a b => ?_, fun i a b => ?_, fun i a b => ?_⟩
  · rw [h.1 261 (by decide) (by decide)]; exact h1 i a b
  · rw [h.1 262 (by decide) (by decide)]; exact h2 i a b
  · rw [h.1 263 (by decide) (by decide)]; exact h3 i a b
  · rw [h.1 260 (by decide) (by decide)]; exact h4 i a b
  · rw [h.1 (-1) (by decide) (by decide)]; exact h5 i a b
  · rw [h.1 (-2) (by decide) (by decide)]; exact h6 i a b
  · rw [h.1 (-3) (by decide) (by decide)]; exact h7 i a b
  · rw [h.1 (-4) (by decide) (by decide)]; exact h8 i a b
  · rw [h.1 (-5) (by decide) (by decide)]; exact h9 i a b
  · rw [h.1 (-6) (by decide) (by decide)]; exact h10 i a b
  · rw [h.1 232 (by decide) (by decide)]; exact h11 i a b
  · rw [h.1 240 (by decide) (by decide)]; exact h12 i a b
theorem ff_end {c : Mem} {g : Int → Int} {cur kn : Int} {I L : List It3} (hs : SR c 3 g) (hw : WF g) (hk : KON c) (hO : 280 ≤ c 0 0) (hcur : c 221 3 = cur) (c0 : 0 ≤ cur) (hkn : c 242 11 = kn) (hI : ITM c I) (hl : I.length ≤ 240) {i N : Nat} (hd : I.drop i = L) (hi : i ≤ I.length) (hr : ∀ x ∈ L, RK kn x) (hN : L.length < N) : ((∀ x ∈ L, fitem g cur kn x = 0) ∧ Ch_firstFault_2 N c i = some (0, c)) ∨ (¬ (L.foldl (ffs (fitem g cur kn)) (0, -1)).1 = 0 ∧ ¬ (L.foldl (ffs (fitem g cur kn)) (0, -1)).1 = 1 ∧ Ch_firstFault_2 N c i = some ((L.foldl (ffs (fitem g cur kn)) (0, -1)).1, wr c 255 2 (L.foldl (ffs (fitem g cur kn)) (0, -1)).2)) := by
  rcases ff_c hs hw hk hO hcur c0 hkn hI hl L [] i N (by rw [hd, List.append_nil]) hr (by simp; omega) with ⟨h1, h2⟩ | ⟨h1, h2⟩
  · refine Or.inl ⟨fold_al L _ h1, ?_⟩
    have e : i + L.length = I.length := by rw [← hd, List.length_drop]; omega
    obtain ⟨j, hj⟩ : ∃ j, N - L.length = j + 1 := ⟨N - L.length - 1, by omega⟩
    rw [h2, e, hj, Ch_firstFault_2, if_pos (show c 241 6 ≤ ((I.length : Nat) : Int) by rw [hI.1]; omega)]
  · exact Or.inr ⟨h1, fold_1 (fun x => FLT_1) L _ (show ¬ (0 : Int) = 1 by decide), h2⟩
theorem chk_rel {X : Tx} {c m : Mem} {cur kn vb : Int} {r : RW} {I : List It3} {TL : List Q4} (hs : SR c 3 (m 264)) (hw : WF (m 264)) (hk : KON c) (hO : 280 ≤ c 0 0) (hcur : c 221 3 = cur) (c0 : 0 ≤ cur) (hkn : c 242 11 = kn) (hI : ITM c I) (hl : I.length ≤ 240) (hQ : QUD c 8 246 TL) (htl : TL.length ≤ 120) (hM : (CK0 m r I cur kn ∧ TL = []) ∨ CK1 X m r I TL vb cur kn) : CKF c m (Ch_firstFault c) (M_check (gst m (0, -1) r)) ∨ CKY X c m I TL vb cur kn (Ch_firstFault c) (M_check (gst m (0, -1) r)) := by
  have hbig := big_ge
  unfold Ch_firstFault
  rcases hM with ⟨⟨e1, hr⟩, tl⟩ | ⟨I1, P, I2, e, r', its, eI, e1, hR, hG, hS, hr1, hr2⟩
  · rw [e1]
    rcases ff_end hs hw hk hO hcur c0 hkn hI hl (i := 0) (N := big) (L := I) rfl (by omega) hr (by omega) with ⟨h1, h2⟩ | ⟨h1, h2, h3⟩
    · right
      refine ⟨c, m 259 22, r, h2, GF_m, ?_, fun x hx _ => h1 x hx, Or.inl ⟨tl, rfl⟩⟩
      rw [wr_me, fold_z I _ h1]
    · left
      refine ⟨_, _, c, m 259 22, r, h3, GF_m, h1, h2, ?_⟩
      rw [wr_me]
  · rw [e1]
    have hI1 : I[I1.length]? = some (20, 0, P) := by rw [eI]; simp
    have hln : I1.length + (I2.length + 1) = I.length := by rw [eI]; simp
    rcases ff_c hs hw hk hO hcur c0 hkn hI hl I1 ((20, 0, P) :: I2) 0 big (by rw [eI]; rfl) hr1 (by simp; omega) with ⟨h1, h2⟩ | ⟨h1, h2⟩
    · have al := fold_al I1 _ h1
      rw [fold_z I1 _ al]
      obtain ⟨g1, g2⟩ := hG h1
      obtain ⟨i1, i2, i3⟩ := hI.2 I1.length (20, 0, P) hI1
      obtain ⟨c', d1, d2, d3, d4⟩ := gather_c hs hw hO hQ htl g2 r.2
      rw [← g1] at d3
      obtain ⟨s1, s2⟩ := GF_s d2 hs hO
      have hI' : ITM c' I := by
        refine ⟨by rw [d2.1 241 (by decide) (by decide)]; exact hI.1, fun k x hx => ?_⟩
        rw [d2.1 243 (by decide) (by decide), d2.1 244 (by decide) (by decide), d2.1 245 (by decide) (by decide)]
        exact hI.2 k x hx
      obtain ⟨j, hj⟩ : ∃ j, big - I1.length = j + 1 := ⟨big - I1.length - 1, by omega⟩
      have st : Ch_firstFault_2 big c ((0 : Nat) : Int) = if r'.1 ≤ 0 then some (6, wr c' 255 2 P) else Ch_firstFault_2 j c' ((I1.length + 1 : Nat) : Int) := by
        rw [h2, Nat.zero_add, hj, Ch_firstFault_2, if_neg (show ¬ c 241 6 ≤ ((I1.length : Nat) : Int) by rw [hI.1]; omega), aI_ok (by omega) (by omega), i1, Option.bind_some, aI_ok (by omega) (by omega), i2, Option.bind_some]
        show ((Ch_faultOf c 20 0).bind _) = _
        rw [f20 hk, d1, Option.bind_some, d3.1]
        by_cases z : r'.1 ≤ 0
        · rw [if_pos z, if_pos z, Option.bind_some, Option.bind_some, if_neg (show ¬ (6 : Int) = 0 by decide), aI_ok (by omega) (by omega), Option.bind_some]
          show some ((6 : Int), wr c' 255 2 (c' 245 ((I1.length : Nat) : Int))) = _
          rw [(hI'.2 I1.length (20, 0, P) hI1).2.2]
        · rw [if_neg z, if_neg z, Option.bind_some, Option.bind_some, if_pos (show (0 : Int) = 0 from rfl), jadd_e (by omega) (by omega)]
          rfl
      have e0 : Ch_firstFault_2 big c 0 = Ch_firstFault_2 big c ((0 : Nat) : Int) := rfl
      rw [e0, st]
      have r0 : 0 ≤ r'.1 := hR.1
      by_cases z : r'.1 ≤ 0
      · rw [if_pos z, if_pos (show r'.1 = 0 by omega)]
        left
        refine ⟨6, P, c', e, r', rfl, d2, by decide, by decide, ?_⟩
        rw [show rfs (0, -1) 1 6 P = (6, P) from rfl, fold_k I2 _ (show ¬ (6 : Int) = 0 by decide)]
      · rw [if_neg z, if_neg (show ¬ r'.1 = 0 by omega), rfs_0]
        rcases ff_end s1 hw (KON_gf d2 hk) s2 (by rw [d2.1 221 (by decide) (by decide)]; exact hcur) c0 (by rw [d2.1 242 (by decide) (by decide)]; exact hkn) hI' hl (i := I1.length + 1) (N := j) (L := I2) (by rw [eI]; simp) (by omega) hr2 (by omega) with ⟨h3, h4⟩ | ⟨h3, h4, h5⟩
        · right
          refine ⟨c', e, r', h4, d2, ?_, fun x hx h20 => ?_, Or.inr ⟨d3, hR, by omega, its, hS⟩⟩
          · rw [fold_z I2 _ h3]
          · rw [eI] at hx
            rcases List.mem_append.mp hx with hx | hx
            · exact al x hx
            · rcases List.mem_cons.mp hx with hx | hx
              · rw [hx] at h20; exact absurd rfl h20
              · exact h3 x hx
        · left
          exact ⟨_, _, c', e, r', h5, d2, h3, h4, rfl⟩
    · left
      have h3 := fold_1 (F := fitem (m 264) cur kn) (fun x => FLT_1) I1 (0, -1) (show ¬ (0 : Int) = 1 by decide)
      have h4 := fold_r (g := m 264) (cur := cur) (kn := kn) I1 (0, -1) s00
      refine ⟨_, _, c, e, r', h2, GF_m, h1, h3, ?_⟩
      rw [rfs_k (by omega), fold_k I2 _ h1]
theorem SH_len {X : Tx} {A op vb : Int} {I : List It3} {TL WL : List Q4} {td td' : Int → Int} (a1 : A < 120) (h : SHAPE X td A vb I TL WL td' op) : I.length ≤ 240 ∧ TL.length ≤ 120 ∧ WL.length ≤ 120 := by
  have wl : ∀ (L : List Q4) (k e : Int) (its : List It3), WHS X L k e its → k ≤ e ∧ its.length ≤ e - k ∧ L.length ≤ e - k := by
    intro L
    induction L with
    | nil => intro k e its h; obtain ⟨h1, h2, _⟩ := h; subst h2; simp; omega
    | cons wh L ih =>
      intro k e its h
      obtain ⟨e1, its1, its2, h1, h2, h3⟩ := h
      have a := WTP_l h1
      have b := ih _ _ _ h3
      subst h2
      simp
      omega
  rcases h with ⟨_, t, h⟩ | ⟨_, t, h⟩ | ⟨_, t, h⟩ | ⟨_, t, h⟩ | ⟨_, t, h⟩ | ⟨_, t, h⟩ | ⟨_, t, h⟩ | ⟨_, t, h⟩ | ⟨_, t, h⟩ | ⟨_, t, h⟩ | ⟨_, t, h⟩ | ⟨_, t, h⟩ | ⟨_, t, h⟩ | ⟨_, t, h⟩ | ⟨_, t, h⟩ | ⟨_, t, h⟩ | ⟨_, t, h⟩
  · obtain ⟨_, _, _, _, rfl, rfl, _, its, L, rfl, hO⟩ := h
    have := OPL_l _ _ _ _ _ _ hO
    simp; omega
  · obtain ⟨rfl, _, _, its, rfl, hS⟩ := h
    have := SETP_l hS
    simp; omega
  · obtain ⟨_, _, rfl, _, _, its, rfl, hS⟩ := h
    have := SETP_l hS
    simp; omega
  · obtain ⟨_, _, rfl, rfl, ⟨_, _, _, rfl, _⟩ | ⟨_, its, L, rfl, hO⟩⟩ := h
    · simp
    · have := OPL_l _ _ _ _ _ _ hO
      simp; omega
  · obtain ⟨_, rfl, ⟨_, _, its, e, rfl, hS, _, _, a, _⟩ | ⟨_, _, rfl, _, rfl, _⟩⟩ := h
    · have := SETP_l hS
      simp; omega
    · simp
  · obtain ⟨_, _, rfl, ⟨_, _, _, rfl, rfl, _⟩ | ⟨_, _, _, _, _, _, _, _, _, _, its, rfl, hS, _⟩⟩ := h
    · simp
    · have := SETP_l hS
      simp; omega
  · obtain ⟨_, rfl, rfl, _, its, L, rfl, hO⟩ := h
    have := OPL_l _ _ _ _ _ _ hO
    simp; omega
  · obtain ⟨_, rfl, rfl, its, L, b, _, rfl, hO⟩ := h
    have := OPL_l _ _ _ _ _ _ hO
    simp; omega
  · obtain ⟨_, rfl, rfl, rfl, _⟩ := h; simp
  · obtain ⟨_, _, rfl, rfl, rfl, _⟩ := h; simp
  · obtain ⟨_, _, _, _, rfl, rfl, rfl, _⟩ := h; simp
  · obtain ⟨_, rfl, rfl, rfl, _⟩ := h; simp
  · obtain ⟨_, _, rfl, rfl, rfl, _⟩ := h; simp
  · obtain ⟨_, _, _, _, rfl, rfl, rfl, _⟩ := h; simp
  · obtain ⟨_, rfl, rfl, ⟨_, rfl, _⟩ | ⟨_, rfl, _⟩⟩ := h <;> simp
  · obtain ⟨_, _, rfl, rfl, ⟨_, _, _, rfl, _⟩ | ⟨_, _, _, _, _, rfl, _⟩⟩ := h <;> simp
  · obtain ⟨_, _, its, its2, e, rfl, hS, hW, _⟩ := h
    have a := SETP_l hS
    have b := wl _ _ _ _ hW
    simp; omega
