-- L3: enter: delete
def dl (k cnt i : Int) : Int := if k ≤ i ∧ i < cnt - 1 then i + 1 else if i = cnt - 1 then k else i
theorem dl_r {k cnt i : Int} (k0 : 0 ≤ k) (k1 : k < cnt) (c1 : cnt ≤ 30) (i0 : 0 ≤ i) (i1 : i < 30) : 0 ≤ dl k cnt i ∧ dl k cnt i < 30 ∧ (i < k → dl k cnt i = i) ∧ (k ≤ i → i < cnt - 1 → dl k cnt i = i + 1) := by
  unfold dl
  by_cases z : k ≤ i ∧ i < cnt - 1
  · rw [if_pos z]; omega
  · rw [if_neg z]
    by_cases y : i = cnt - 1
    · rw [if_pos y]; omega
    · rw [if_neg y]; omega
theorem dl_i {k cnt i j : Int} (k0 : 0 ≤ k) (k1 : k < cnt) (h : ¬ i = j) : ¬ dl k cnt i = dl k cnt j := by
  unfold dl
  repeat' split
  all_goals omega
theorem rem_c {c : Mem} {g : Int → Int} {k : Int} (hs : SR c 3 g) (hO : 280 ≤ c 0 0) (k0 : 0 ≤ k) (k1 : k < c 3 8) : ∃ c', Sh_removeCue c k = some c' ∧ (∀ i, 0 ≤ i → i < 30 → c' 79 i = c 79 (dl k (c 3 8) i)) ∧ c' 3 8 = c 3 8 - 1 ∧ (∀ f, ¬ f = 8 → c' 3 f = c 3 f) ∧ (∀ o, ¬ o = 3 → ¬ o = 79 → c' o = c o) := by
  have n30 := (S3.n hs).2
  have q := cq_k hs k0 (by omega)
  generalize hcn : c 3 8 = cnt at *
  have lp : ∀ (d N : Nat) (l : Int) (μ : Mem), d < N → l + d = cnt → k + 1 ≤ l → (∀ o, ¬ o = 79 → μ o = c o) → (∀ j, 0 ≤ j → j < 30 → μ 79 j = if k ≤ j ∧ j < l - 1 then c 79 (j + 1) else c 79 j) → ∃ c', Sh_removeCue_11 (c 79 k) N μ l = some c' ∧ (∀ i, 0 ≤ i → i < 30 → c' 79 i = c 79 (dl k cnt i)) ∧ c' 3 8 = cnt - 1 ∧ (∀ f, ¬ f = 8 → c' 3 f = c 3 f) ∧ (∀ o, ¬ o = 3 → ¬ o = 79 → c' o = c o) := by
    intro d
    induction d with
    | zero =>
      intro N l μ hN hd hl ho hj
      obtain ⟨N, rfl⟩ : ∃ k, N = k + 1 := ⟨N - 1, by omega⟩
      rw [Sh_removeCue_11, ho 3 (by decide), hcn, if_pos (by omega), Option.bind_some, jsub_e (by omega) (by omega), wr_eq, wA79 (by rw [wr_o (by decide), ho 0 (by decide)]; exact hO) (by omega) (by omega) q.1 q.2.1 q.2.2, Option.bind_some]
      refine ⟨_, rfl, fun i i0 i1 => ?_, ?_, fun f hf => ?_, fun o o3 o79 => ?_⟩
      · rw [up_eq, wr_o (by decide)]
        unfold st1 dl
        by_cases z : i = cnt - 1
        · rw [if_pos z, if_neg (by omega), if_pos z]
        · rw [if_neg z, hj i i0 i1]
          by_cases y : k ≤ i ∧ i < l - 1
          · rw [if_pos y, if_pos (by omega)]
          · rw [if_neg y, if_neg (by omega), if_neg z]
      · rw [up_ne (by decide), wr_eq]
      · rw [up_ne (by decide), wr_f hf, ho 3 (by decide)]
      · rw [up_ne o79, wr_o o3, ho o o79]
    | succ d ih =>
      intro N l μ hN hd hl ho hj
      obtain ⟨N, rfl⟩ : ∃ k, N = k + 1 := ⟨N - 1, by omega⟩
      have v := hj l (by omega) (by omega)
      rw [if_neg (by omega)] at v
      have q' := cq_k hs (i := l) (by omega) (by omega)
      rw [Sh_removeCue_11, ho 3 (by decide), hcn, if_neg (by omega), aI_ok (by omega) (by omega), Option.bind_some, v, jsub_e (by omega) (by omega), wA79 (by rw [ho 0 (by decide)]; exact hO) (by omega) (by omega) q'.1 q'.2.1 q'.2.2, Option.bind_some, jadd_e (by omega) (by omega)]
      refine ih N (l + 1) _ (by omega) (by omega) (by omega) (fun o a => by rw [up_ne a, ho o a]) (fun j j0 j1 => ?_)
      rw [up_eq]
      unfold st1
      by_cases z : j = l - 1
      · rw [if_pos z, if_pos (by omega), z, show l - 1 + 1 = l by omega]
      · rw [if_neg z, hj j j0 j1]
        by_cases y : k ≤ j ∧ j < l - 1
        · rw [if_pos y, if_pos (by omega)]
        · rw [if_neg y, if_neg (by omega)]
  unfold Sh_removeCue
  rw [aI_ok k0 (by omega), Option.bind_some, jadd_e (by omega) (by omega), Option.bind_some]
  exact lp (cnt - (k + 1)).toNat big (k + 1) c (by have := big_ge; omega) (by omega) (by omega) (fun _ _ => rfl) (fun j _ _ => by rw [if_neg (by omega)])
theorem ac42 {B : Int} {X : Tx} {A cur kn op : Int} {m0 c m : Mem} {I : List It3} {TL WL : List Q4} {td td' : Int → Int} (E : AE B X A m0 c m) (ht : TT X 0 = 42) (hv : c 241 0 = 42) (htd : c 242 = td') (h : q42 X td A I TL WL td' op) (hF : ∀ x ∈ I, ¬ x.1 = 20 → fitem (m 264) cur kn x = 0) : ACT B c m (Ed_perform c) (M_act m) := by
  obtain ⟨hX, hT, hA, a0, hs, hw, hp, hg, kc, km, hO⟩ := E
  obtain ⟨t1, aa, rfl, _, _, e', _⟩ := h
  have hn := nAt hX hT (k := 1) (by decide) (by omega) t1
  have hf := f19 hw (hF (19, Vx X 1, Px X 1) (by simp) (by simp)) hn.2.2.1 hn.2.2.2.1
  have e9 : c 242 9 = Vx X 1 := by rw [htd, e', st1_eq]
  generalize Vx X 1 = n at *
  obtain ⟨k0, k1, k2, k3, k4⟩ := cix_f hs hw (n := n) (by omega)
  generalize cix c n = k at *
  obtain ⟨c', b1, b2, b3, b4, b5⟩ := rem_c hs hO k0 k1
  have n30 := (S3.n hs).2
  generalize hrw : rowOf (m 264) n = r at *
  have sb := S3.b hs
  -- the memory and the row of numbers behind it
  have e1 : Ed_perform c = some (if m 264 12722 = n then wr c' 3 10 (-1) else c') := by
    unfold Ed_perform Ed_performOnCues
    rw [Option.bind_some, Option.bind_some, Option.bind_some, hv, e9]
    show (((Ed_deleteCue c n).bind fun m15 => some m15).bind fun m49 => some m49) = _
    rw [bsm, bsm]
    unfold Ed_deleteCue
    rw [k4, Option.bind_some, if_neg (by omega), b1, Option.bind_some]
    unfold Ed_deleteCue_21
    rw [b4 10 (by decide), sb]
    by_cases z : m 264 12722 = n
    · rw [if_neg (fun x => x z), if_pos z, Option.bind_some]
    · rw [if_pos z, if_neg z]
  have e2 : M_act m = some (up m 264 (if m 264 12722 = n then st1 (st1 (m 264) (1352 + 7 * r) 0) 12722 (-1) else st1 (m 264) (1352 + 7 * r) 0)) := by
    rw [(ckV hX hT a0 (w := 25) (by decide) (by decide) (by decide) (by decide) ht).2]
    show (((M_deleteCue m (m 269 1)).bind fun m19 => some m19).bind fun m1 => some m1) = _
    rw [bsm, bsm, hn.2.1]
    unfold M_deleteCue
    rw [M_cueRow_e, Option.bind_some, hrw, jmul_e (by omega) (by omega), jadd_e (by omega) (by omega), sI_up (by omega) (by omega), Option.bind_some, up_eq, st1_ne (show ¬ (12722 : Int) = 1352 + 7 * r by omega)]
    by_cases z : m 264 12722 = n
    · rw [if_neg (fun x => x z), if_pos z, sI_up (by omega) (by omega), Option.bind_some, up_eq, up_up]
    · rw [if_pos z, if_neg z]
  generalize hh : (if m 264 12722 = n then st1 (st1 (m 264) (1352 + 7 * r) 0) 12722 (-1) else st1 (m 264) (1352 + 7 * r) 0) = h at *
  generalize hd : (if m 264 12722 = n then wr c' 3 10 (-1) else c') = d at *
  have hr0 : h (1352 + 7 * r) = 0 := by
    rw [← hh]
    split
    · rw [st1_ne (by omega), st1_eq]
    · rw [st1_eq]
  have hro : ∀ i, ¬ i = 1352 + 7 * r → ¬ i = 12722 → h i = m 264 i := fun i a b => by
    rw [← hh]
    split
    · rw [st1_ne b, st1_ne a]
    · rw [st1_ne a]
  have hbl : d 3 10 = h 12722 := by
    rw [← hh, ← hd]
    by_cases z : m 264 12722 = n
    · rw [if_pos z, if_pos z, wr_eq, st1_eq]
    · rw [if_neg z, if_neg z, b4 10 (by decide), sb, st1_ne (by omega)]
  have do_ : ∀ o, ¬ o = 3 → ¬ o = 79 → d o = c o := fun o a b => by
    rw [← hd]
    split
    · rw [wr_o a, b5 o a b]
    · rw [b5 o a b]
  have d79 : d 79 = c' 79 := by
    rw [← hd]
    split
    · rw [wr_o (by decide)]
    · rfl
  have d38 : d 3 8 = c 3 8 - 1 := by
    rw [← hd]
    split
    · rw [wr_f (by decide), b3]
    · rw [b3]
  have oo : ∀ i, 0 ≤ i → i < 30 → ∀ x, 0 ≤ x → x ≤ 2 → d (c 79 i + x) = c (c 79 i + x) := by
    intro i i0 i1 x x0 x1
    have := cq_k hs i0 i1
    exact do_ _ (by omega) (by omega)
  have o0 : ∀ i, 0 ≤ i → i < 30 → d (c 79 i) = c (c 79 i) := by
    intro i i0 i1
    have := oo i i0 i1 0 (by omega) (by omega)
    rwa [Int.add_zero] at this
  have cnr : cn h r = 0 := hr0
  have cno : ∀ s, 0 ≤ s → s < 30 → ¬ s = r → cn h s = cn (m 264) s := fun s a b e => hro _ (by omega) (by omega)
  have kr : cn (m 264) r = n := hf.2.2.2.2
  have cur : CUR d h := by
    have s79 : ∀ i, 0 ≤ i → i < 30 → d 79 i = c 79 (dl k (c 3 8) i) := fun i a b => by rw [d79, b2 i a b]
    refine ⟨fun i i0 i1 => ?_, fun i j i0 ij j1 => ?_, by rw [d38]; omega, fun i j i0 ij j1 => ?_, fun i i0 i1 => ?_, fun s s0 s1 s2 => ?_⟩
    · have e := dl_r k0 k1 n30 i0 i1
      rw [s79 i i0 i1]
      exact S3.q hs _ e.1 e.2.1
    · have e := dl_r k0 k1 n30 i0 (show i < 30 by omega)
      have e' := dl_r k0 k1 n30 (show 0 ≤ j by omega) j1
      have dd := dl_i (i := i) (j := j) k0 k1 (by omega)
      rw [s79 i i0 (by omega), s79 j (by omega) j1]
      by_cases y : dl k (c 3 8) i < dl k (c 3 8) j
      · exact S3.i hs _ _ e.1 y e'.2.1
      · exact fun x => S3.i hs _ _ e'.1 (by omega) e.2.1 x.symm
    · rw [d38] at j1
      have e := dl_r k0 k1 n30 i0 (show i < 30 by omega)
      have e' := dl_r k0 k1 n30 (show 0 ≤ j by omega) (show j < 30 by omega)
      rw [s79 i i0 (by omega), s79 j (by omega) (by omega), o0 _ e.1 e.2.1, o0 _ e'.1 e'.2.1]
      by_cases y : j < k
      · rw [e.2.2.1 (by omega), e'.2.2.1 y]
        exact S3.o hs i j i0 ij (by omega)
      · rw [e'.2.2.2 (by omega) j1]
        by_cases w : i < k
        · rw [e.2.2.1 w]
          exact S3.o hs i (j + 1) i0 (by omega) (by omega)
        · rw [e.2.2.2 (by omega) (by omega)]
          exact S3.o hs (i + 1) (j + 1) (by omega) (by omega) (by omega)
    · rw [d38] at i1
      have e := dl_r k0 k1 n30 i0 (show i < 30 by omega)
      have lt : dl k (c 3 8) i < c 3 8 ∧ ¬ dl k (c 3 8) i = k := by
        by_cases y : i < k
        · rw [e.2.2.1 y]; omega
        · rw [e.2.2.2 (by omega) i1]; omega
      obtain ⟨s, s0, s1, s2, s3, s4, s5⟩ := S3.c hs (dl k (c 3 8) i) e.1 lt.1
      have sr : ¬ s = r := by
        intro x
        rw [x, kr] at s3
        have l1 := S3.o hs (dl k (c 3 8) i) k e.1
        have l2 := S3.o hs k (dl k (c 3 8) i) k0
        omega
      rw [s79 i i0 (by omega), o0 _ e.1 e.2.1, oo _ e.1 e.2.1 1 (by omega) (by omega), oo _ e.1 e.2.1 2 (by omega) (by omega)]
      exact ⟨s, s0, s1, by rw [cno s s0 s1 sr]; exact s2, by rw [cno s s0 s1 sr]; exact s3, fun j j0 j1 => by rw [hro _ (by omega) (by omega)]; exact s4 j j0 j1, fun f f0 f1 => by rw [hro _ (by omega) (by omega)]; exact s5 f f0 f1⟩
    · by_cases sr : s = r
      · rw [sr, cnr] at s2; omega
      · rw [cno s s0 s1 sr] at s2 ⊢
        obtain ⟨i, i0, i1, i2⟩ := S3.r hs s s0 s1 s2
        have ik : ¬ i = k := by
          intro x
          rw [x, k2] at i2
          exact sr (hw.n s r s0 s1 hf.1 hf.2.1 (by rw [kr, ← i2]) s2)
        by_cases y : i < k
        · have e := dl_r k0 k1 n30 i0 (show i < 30 by omega)
          refine ⟨i, i0, by rw [d38]; omega, ?_⟩
          rw [s79 i i0 (by omega), e.2.2.1 y, o0 i i0 (by omega)]
          exact i2
        · have e := dl_r k0 k1 n30 (show 0 ≤ i - 1 by omega) (show i - 1 < 30 by omega)
          refine ⟨i - 1, by omega, by rw [d38]; omega, ?_⟩
          rw [s79 (i - 1) (by omega) (by omega), e.2.2.2 (by omega) (by omega), show i - 1 + 1 = i by omega, o0 i i0 (by omega)]
          exact i2
  have gd : ∀ i, (i < 1352 ∨ 1562 ≤ i) → ¬ i = 12722 → h i = m 264 i := fun i a b => hro i (by omega) b
  refine ACT_s hp hg e1 e2 (fun o a => do_ o (by omega) (by omega)) ?_ ?_
  · exact SR_mk (SRc_u hs (fun x a b => do_ x (by omega) (by omega)) (fun i a b => gd i (by omega) (by omega))) (SRc_g hs hw.g (fun x a b => do_ x (by omega) (by omega)) (fun i a b => gd i (by omega) (by omega))) (SRc_p hs (fun x a b => do_ x (by omega) (by omega)) (fun i a b => gd i (by omega) (by omega))) (SRc_s hs (fun x a b => do_ x (by omega) (by omega)) (fun i a b => gd i (by omega) (by omega))) (SRc_m hs (do_ 71 (by omega) (by omega)) (fun i a b => gd i (by omega) (by omega))) (SRc_w hs hw.w (fun x a b => do_ x (by omega) (by omega)) (fun x a b => do_ x (by omega) (by omega)) (fun i a b => gd i (by omega) (by omega))) cur (SRc_h hs (do_ 80 (by omega) (by omega)) (fun i a b => gd i (by omega) (by omega))) hbl (SRc_k hs (do_ 81 (by omega) (by omega)) (fun i a b => gd i (by omega) (by omega))) (SRc_e hs (fun x a b => do_ x (by omega) (by omega)) (fun i a b => gd i (by omega) (by omega))) (by rw [do_ 94 (by omega) (by omega), do_ 120 (by omega) (by omega)]; exact S3.z hs)
  · refine ⟨WFc_u hw.u (fun i a b => gd i (by omega) (by omega)), WFc_d hw.d (fun i a b => gd i (by omega) (by omega)), WFc_g hw.g (fun i a b => gd i (by omega) (by omega)), WFc_p hw.p (fun i a b => gd i (by omega) (by omega)), WFc_s hw.s (fun i a b => gd i (by omega) (by omega)), WFc_m hw.m (fun i a b => gd i (by omega) (by omega)), WFc_w hw.w (fun i a b => gd i (by omega) (by omega)), fun s s0 s1 => ?_, fun a b a0 a1 b0 b1 e p => ?_, WFc_h hw.h (fun i a b => gd i (by omega) (by omega)) (fun i a b => gd i (by omega) (by omega)), ?_, WFc_k hw.k (fun i a b => gd i (by omega) (by omega)), WFc_x hw.x (fun i a => gd i (by omega) (by omega)), WFc_e hw.e (fun i a b => gd i (by omega) (by omega))⟩
    · by_cases sr : s = r
      · rw [sr, cnr]
        exact ⟨by omega, by omega, fun x => by omega⟩
      · have gg := hw.c s s0 s1
        rw [cno s s0 s1 sr]
        refine ⟨gg.1, gg.2.1, fun hp => ?_⟩
        obtain ⟨a, b, d, e, kk⟩ := gg.2.2 hp
        rw [hro (1357 + 7 * s) (by omega) (by omega), hro (1358 + 7 * s) (by omega) (by omega)]
        refine ⟨fun j j0 j1 => ?_, b, d, e, fun i i0 i1 => ?_⟩
        · rw [hro _ (by omega) (by omega)]; exact a j j0 j1
        · rw [hro _ (by omega) (by omega), hro (6 * (i / 9)) (by omega) (by omega)]; exact kk i i0 i1
    · have ar : ¬ a = r := fun x => by rw [x, cnr] at p; omega
      have br : ¬ b = r := fun x => by rw [x, cnr] at e; omega
      rw [cno a a0 a1 ar] at e p
      rw [cno b b0 b1 br] at e
      exact hw.n a b a0 a1 b0 b1 e p
    · have wb := hw.b
      unfold WF_b at wb ⊢
      rw [← hh]
      by_cases z : m 264 12722 = n
      · rw [if_pos z, st1_eq]; exact Or.inl rfl
      · rw [if_neg z, st1_ne (by omega)]
        rcases wb with x | ⟨x1, x2, s, s0, s1, s2⟩
        · exact Or.inl x
        · have sr : ¬ s = r := fun x => by rw [x, kr] at s2; exact z s2.symm
          refine Or.inr ⟨x1, x2, s, s0, s1, ?_⟩
          have := cno s s0 s1 sr
          rw [← hh, if_neg z] at this
          rw [this]; exact s2
