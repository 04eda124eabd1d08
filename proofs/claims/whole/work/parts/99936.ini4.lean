-- L3: what the constructors make: the words, to the end
theorem k240 : kd 240 = 103 ∧ ln 240 = 380 := by decide +kernel
theorem k239 : kd 239 = 101 ∧ ln 239 = 380 := by decide +kernel
theorem k238 : kd 238 = 14 := by decide +kernel
theorem k237 : kd 237 = 101 ∧ ln 237 = 430 := by decide +kernel
theorem k231 : kd 231 = 10 := by decide +kernel
theorem k232 : kd 232 = 100 ∧ ln 232 = 71 := by decide +kernel
theorem lt_r : ∀ n : Nat, n < 380 → jc (jc (jand (tbl ltT (n : Int)) 255)) = tbl ltT (n : Int) := by decide +kernel
theorem lt_ri {i : Int} (i0 : 0 ≤ i) (i1 : i < 380) : jc (jc (jand (tbl ltT i) 255)) = tbl ltT i := by
  obtain ⟨n, rfl⟩ : ∃ n : Nat, i = (n : Int) := ⟨i.toNat, by omega⟩
  exact lt_r n (by omega)
/-- the letters come as chars, i of them -/
def ch1 (μ : Mem) (i : Int) : Mem := fun o j => if o = 240 ∧ 0 ≤ j ∧ j < i then tbl ltT j else μ o j
theorem ch1_o {μ : Mem} {i o : Int} (h : ¬ o = 240) : ch1 μ i o = μ o := by
  funext j
  unfold ch1
  rw [if_neg (fun x => h x.1)]
theorem ch1_s {μ : Mem} {i : Int} (i0 : 0 ≤ i) : wr (ch1 μ i) 240 i (tbl ltT i) = ch1 μ (i + 1) := by
  funext o j
  unfold wr ch1
  by_cases a : o = 240 ∧ j = i
  · rw [if_pos a, if_pos (by omega), a.2]
  · rw [if_neg a]
    by_cases b : o = 240 ∧ 0 ≤ j ∧ j < i
    · rw [if_pos b, if_pos (by omega)]
    · rw [if_neg b, if_neg (by omega)]
theorem ch1_0 {μ : Mem} : ch1 μ 0 = μ := by
  funext o j
  unfold ch1
  rw [if_neg (by omega)]
theorem infl {μ : Mem} (h : ∀ j, 0 ≤ j → j < 380 → μ 239 j = tbl ltT j) : ∀ (d N : Nat) (i : Int), d < N → i + d = 380 → 0 ≤ i → wJ_inflate_3 239 240 380 N (ch1 μ i) i i i = some (ch1 μ 380) := by
  intro d
  induction d with
  | zero =>
    intro N i hN hi i0
    obtain ⟨N, rfl⟩ : ∃ j, N = j + 1 := ⟨N - 1, by omega⟩
    obtain rfl : i = 380 := by omega
    rw [wJ_inflate_3, if_pos (by decide)]
  | succ d ih =>
    intro N i hN hi i0
    obtain ⟨N, rfl⟩ : ∃ j, N = j + 1 := ⟨N - 1, by omega⟩
    have e1 : rdB (ch1 μ i) 239 i = some (tbl ltT i) := by
      unfold rdB
      rw [if_pos ⟨Or.inl k239.1, i0, by rw [k239.2]; omega⟩, ch1_o (by decide), h i i0 (by omega)]
    have e2 : wC (ch1 μ i) 240 i (jc (jand (tbl ltT i) 255)) = some (ch1 μ (i + 1)) := by
      unfold wC
      rw [if_pos ⟨k240.1, by decide, i0, by rw [k240.2]; omega⟩, lt_ri i0 (by omega), ch1_s i0]
    rw [wJ_inflate_3, if_neg (by omega), e1, Option.bind_some, e2, Option.bind_some, jadd_e (by omega) (by omega)]
    exact ih N (i + 1) (by omega) (by omega) (by omega)
/-- how many blanks stand before n -/
def bl0 (n : Nat) : Nat := ((ltT.take n).filter (fun x => x == 32)).length
theorem bl_s : ∀ n : Nat, n < 380 → (tbl ltT (n : Int) = 32 → bl0 n < 70 ∧ tbl stT2 ((bl0 n : Int) + 1) = (n : Int) + 1 ∧ bl0 (n + 1) = bl0 n + 1) ∧ (¬ tbl ltT (n : Int) = 32 → bl0 (n + 1) = bl0 n) := by decide +kernel
theorem bl_e : bl0 380 = 70 := by decide +kernel
/-- the first k starts stand -/
def st3 (μ : Mem) (k : Int) : Mem := fun o j => if o = 232 ∧ 1 ≤ j ∧ j ≤ k then tbl stT2 j else μ o j
theorem st3_o {μ : Mem} {i o : Int} (h : ¬ o = 232) : st3 μ i o = μ o := by
  funext j
  unfold st3
  rw [if_neg (fun x => h x.1)]
theorem st3_s {μ : Mem} {i : Int} (i0 : 0 ≤ i) : wr (st3 μ i) 232 (i + 1) (tbl stT2 (i + 1)) = st3 μ (i + 1) := by
  funext o j
  unfold wr st3
  by_cases a : o = 232 ∧ j = i + 1
  · rw [if_pos a, if_pos (by omega), a.2]
  · rw [if_neg a]
    by_cases b : o = 232 ∧ 1 ≤ j ∧ j ≤ i
    · rw [if_pos b, if_pos (by omega)]
    · rw [if_neg b, if_neg (by omega)]
theorem st3_0 {μ : Mem} : st3 μ 0 = μ := by
  funext o j
  unfold st3
  rw [if_neg (by omega)]
theorem sts_63 {μ : Mem} (h0 : μ 231 0 = 240) (h1 : μ 231 1 = 232) (h : ∀ j, 0 ≤ j → j < 380 → μ 240 j = tbl ltT j) : ∀ (d N n : Nat), d < N → n + d = 380 → wWd_init_63 231 N (st3 μ (bl0 n : Int)) (bl0 n : Int) (n : Int) = some (st3 μ 70) := by
  intro d
  have w0 : ∀ k, gf (st3 μ k) 10 0 231 = some 240 := fun k => by rw [gf_c k231, st3_o (by decide), h0]
  have w1 : ∀ k, gf (st3 μ k) 10 1 231 = some 232 := fun k => by rw [gf_c k231, st3_o (by decide), h1]
  have ga : ∀ k, aln (st3 μ k) 240 = some 380 := fun k => by rw [alnB (Or.inr k240.1), k240.2]
  induction d with
  | zero =>
    intro N n hN hn
    obtain ⟨N, rfl⟩ : ∃ j, N = j + 1 := ⟨N - 1, by omega⟩
    obtain rfl : n = 380 := by omega
    have e : ((bl0 380 : Nat) : Int) = 70 := by rw [bl_e]; rfl
    rw [wWd_init_63, w0, Option.bind_some, ga, Option.bind_some, if_pos (by decide), e]
  | succ d ih =>
    intro N n hN hn
    obtain ⟨N, rfl⟩ : ∃ j, N = j + 1 := ⟨N - 1, by omega⟩
    have b1 := bl_s n (by omega)
    have e1 : ∀ k, rdC (st3 μ k) 240 (n : Int) = some (tbl ltT (n : Int)) := by
      intro k
      unfold rdC
      rw [if_pos ⟨k240.1, by decide, by omega, by rw [k240.2]; omega⟩, st3_o (by decide), h _ (by omega) (by omega)]
    have hi := ih N (n + 1) (by omega) (by omega)
    rw [show ((n + 1 : Nat) : Int) = (n : Int) + 1 by omega] at hi
    rw [wWd_init_63, w0, Option.bind_some, ga, Option.bind_some, if_neg (show ¬ (380 : Int) ≤ (n : Int) by omega), Option.bind_some, e1, Option.bind_some, jadd_e (by omega) (by omega)]
    by_cases z : tbl ltT (n : Int) = 32
    · obtain ⟨c1, c2, c3⟩ := b1.1 z
      have e2 : wI (st3 μ (bl0 n : Int)) 232 ((bl0 n : Int) + 1) ((n : Int) + 1) = some (st3 μ ((bl0 n : Int) + 1)) := by
        rw [wI_ok k232.1 (by decide) (by omega) (by rw [k232.2]; omega), ← c2, st3_s (by omega)]
      rw [if_neg (fun x => x z), if_neg (show ¬ (70 : Int) ≤ (bl0 n : Int) by omega), w1, Option.bind_some, jadd_e (by omega) (by omega), e2, Option.bind_some]
      rw [c3, show ((bl0 n + 1 : Nat) : Int) = (bl0 n : Int) + 1 by omega] at hi
      exact hi
    · rw [if_pos z]
      rw [b1.2 z] at hi
      exact hi
/-- the four texts stand as the class file has them -/
def TXT (c : Mem) : Prop := TX c (-10) (-20) 0 ∧ TX c (-11) (-21) 106 ∧ TX c (-12) (-22) 172 ∧ TX c (-13) (-23) 294
theorem ln_20 : ln (-20) = 106 ∧ ln (-21) = 66 ∧ ln (-22) = 122 ∧ ln (-23) = 86 := by decide +kernel
theorem wd_build {c : Mem} (h0 : c 0 0 = 232) : ∃ c', wJ_init_344 (al 233 c) 233 = some c' ∧ c' 0 0 = 234 ∧ c' 0 1 = c 0 1 ∧ (∀ o, ¬ o = 0 → ¬ o = 233 → ¬ o = 234 → c' o = c o) ∧ BU c' 234 0 := by
  obtain ⟨m, em⟩ : ∃ m, m = wr (wr (al 234 (al 233 c)) 233 0 234) 233 1 0 := ⟨_, rfl⟩
  refine ⟨m, ?_, by rw [em]; rfl, by rw [em]; rfl, fun o x y z => by rw [em, wr_o y, wr_o y, al_o x z, al_o x y], by rw [em]; rfl, by rw [em]; rfl, by rw [em]; rfl, fun j j0 j1 => absurd j1 (by omega)⟩
  unfold wJ_init_344 wJ_init_345
  rw [if_pos ⟨by decide, k233⟩, if_neg (by decide), if_neg (by decide), nwpf (k := 234) (by rfl) (by decide +kernel) (by decide +kernel), pfc (by decide +kernel) (by decide), Option.bind_some, em]
theorem wd_text {c : Mem} (hB : BU c 237 380) (h0 : c 0 0 = 237) : ∃ c', wJ_toString c 233 = some ((238 : Int), c') ∧ c' 0 0 = 239 ∧ c' 0 1 = c 0 1 ∧ (∀ o, ¬ o = 0 → ¬ o = 238 → ¬ o = 239 → c' o = c o) ∧ c' 238 0 = 239 ∧ c' 238 1 = 0 ∧ (∀ j, 0 ≤ j → j < 380 → c' 239 j = tbl ltT j) := by
  obtain ⟨g1, g2, g3, g4⟩ := hB
  obtain ⟨m, em⟩ : ∃ m, m = wr (al 238 c) 238 1 0 := ⟨_, rfl⟩
  have f0 : m 0 0 = 238 := by rw [em]; rfl
  have fo : ∀ o, ¬ o = 0 → ¬ o = 238 → m o = c o := fun o x y => by rw [em, wr_o y, al_o x y]
  have a0 : al 238 c 0 0 = 238 := al_0
  have ao : ∀ o, ¬ o = 0 → ¬ o = 238 → al 238 c o = c o := fun o x y => al_o x y
  have e1 : wJ_getValue (al 238 c) 233 = some 237 := by
    unfold wJ_getValue
    rw [gf_c k233, ao 233 (by decide) (by decide), g1, Option.bind_some]
  have e2 : wJ_length_356 (al 238 c) 233 = some 380 := by
    unfold wJ_length_356 wJ_length_362
    rw [if_pos ⟨by decide, k233⟩, gf_c k233, ao 233 (by decide) (by decide), g3, Option.bind_some, Option.bind_some]
  have e3 : wJ_isLatin1_363 (al 238 c) 233 = some 1 := by
    unfold wJ_isLatin1_363
    rw [if_neg (by decide), gf_c k233, ao 233 (by decide) (by decide), g2, Option.bind_some, if_neg (by decide)]
  have e4 : wAr_copyOfRange m 237 0 380 = some (239, acp (al 239 m) 237 0 239 0 380) := by
    unfold wAr_copyOfRange wAr_copyOfRange_10 wAr_copyOfRangeByte wAr_checkLength
    rw [if_neg (by decide), alnB (Or.inl k237.1), Option.bind_some, k237.2, if_neg (by decide), if_pos (by decide), Option.bind_some, Option.bind_some, show jsub 380 0 = 380 by decide]
    unfold nwA nw
    rw [if_pos (by decide), show m 0 0 + 1 = 239 by omega, if_pos ⟨k239.1, k239.2, by decide, by omega⟩, Option.bind_some, Option.bind_some, alnB (Or.inl k237.1), Option.bind_some, k237.2, show mnI (jsub 430 0) 380 = 380 by decide, alo_al (show m 0 0 + 1 = 239 by omega)]
    unfold cpA
    rw [if_pos (by decide +kernel)]
    rfl
  refine ⟨wr (acp (al 239 m) 237 0 239 0 380) 238 0 239, ?_, ?_, ?_, fun o x y z => ?_, ?_, ?_, fun j j0 j1 => ?_⟩
  · unfold wJ_toString nw
    rw [show c 0 0 + 1 = 238 by omega, if_pos (by rw [h0]; decide +kernel), Option.bind_some, Option.bind_some, if_pos (by decide +kernel), alo_al (show c 0 0 + 1 = 238 by omega)]
    unfold wJ_init_359 wJ_init_360
    rw [if_pos (by decide +kernel), if_neg (by decide), if_pos ⟨by decide, k233⟩, e1, Option.bind_some, if_pos ⟨by decide, k233⟩, e2, Option.bind_some, if_pos ⟨by decide, k233⟩, e3, Option.bind_some, if_neg (by decide), pfc (by decide +kernel) (by decide), ← em, e4, Option.bind_some, pfb (by decide +kernel) (Or.inl (by decide)), Option.bind_some, Option.bind_some]
  · rw [wr_o (by decide), acq_o (by decide), al_0]
  · rw [wr_o (by decide), acq_o (by decide), al_1 (by decide), em, wr_o (by decide), al_1 (by decide)]
  · rw [wr_o y, acq_o z, al_o x z, fo o x y]
  · exact wr_eq
  · rw [wr_f (by decide), acq_o (by decide), al_o (by decide) (by decide), em, wr_eq]
  · rw [wr_o (by decide), acq_i j0 (by omega), al_o (by decide) (by decide), fo 237 (by decide) (by decide), show j - 0 = j by omega, g4 j j0 j1]
theorem wd_chars {c : Mem} (h1 : c 238 0 = 239) (h2 : c 238 1 = 0) (h3 : ∀ j, 0 ≤ j → j < 380 → c 239 j = tbl ltT j) (h0 : c 0 0 = 239) : wJ_toCharArray c 238 = some ((240 : Int), ch1 (al 240 c) 380) := by
  have e1 : wJ_isLatin1_367 c 238 = some 1 := by
    unfold wJ_isLatin1_367
    rw [if_neg (by decide), gf_v k238 h2, Option.bind_some, if_neg (by decide)]
  have e2 : wJ_toChars c 239 = some (240, ch1 (al 240 c) 380) := by
    have hi := infl (μ := al 240 c) (fun j j0 j1 => by rw [al_o (by decide) (by decide)]; exact h3 j j0 j1) 380 big 0 (Nat.lt_of_lt_of_le (by decide) big_ge) (by decide) (Int.le_refl _)
    rw [ch1_0] at hi
    unfold wJ_toChars
    rw [alnB (Or.inl k239.1), Option.bind_some, k239.2]
    unfold nwA nw
    rw [if_pos (by decide), show c 0 0 + 1 = 240 by omega, if_pos ⟨k240.1, k240.2, by decide, by omega⟩, Option.bind_some, Option.bind_some, alnB (Or.inl k239.1), Option.bind_some, k239.2, alo_al (show c 0 0 + 1 = 240 by omega)]
    unfold wJ_inflate
    rw [hi, Option.bind_some]
  unfold wJ_toCharArray
  rw [if_pos ⟨by decide, k238⟩, e1, Option.bind_some, if_neg (by decide), gf_v k238 h1, Option.bind_some, e2, Option.bind_some]
theorem TXT_c {c d : Mem} (h : TXT c) (e : ∀ o, o < 0 → d o = c o) : TXT d := ⟨TX_c h.1 (e _ (by decide)) (e _ (by decide)), TX_c h.2.1 (e _ (by decide)) (e _ (by decide)), TX_c h.2.2.1 (e _ (by decide)) (e _ (by decide)), TX_c h.2.2.2 (e _ (by decide)) (e _ (by decide))⟩
theorem k234 : kd 234 = 101 ∧ ln 234 = 16 := by decide +kernel
theorem k235 : kd 235 = 101 ∧ ln 235 = 106 := by decide +kernel
theorem k236 : kd 236 = 101 ∧ ln 236 = 214 := by decide +kernel
theorem mk_Wd {c : Mem} (hT : TXT c) (h0 : c 0 0 = 231) : ∃ c', wWd_init c 231 = some c' ∧ c' 0 0 = 240 ∧ c' 0 1 = c 0 1 ∧ (∀ o, ¬ o = 0 → ¬ (231 ≤ o ∧ o ≤ 240) → c' o = c o) ∧ c' 231 0 = 240 ∧ c' 231 1 = 232 ∧ KON_sts c' ∧ KON_let c' := by
  obtain ⟨m, em⟩ : ∃ m, m = wr (al 232 c) 231 1 232 := ⟨_, rfl⟩
  have f0 : m 0 0 = 232 := by rw [em]; rfl
  have f1 : m 0 1 = c 0 1 := by rw [em]; rfl
  have fo : ∀ o, ¬ o = 0 → ¬ (231 ≤ o ∧ o ≤ 240) → m o = c o := fun o x y => by rw [em, wr_o (by omega), al_o x (by omega)]
  have f231 : m 231 1 = 232 := by rw [em]; rfl
  have f232 : ∀ j, m 232 j = 0 := fun j => by rw [em, wr_o (by decide), al_k (by decide)]
  have T0 : TXT m := TXT_c hT (fun o x => fo o (by omega) (by omega))
  obtain ⟨b1, p1, q1, q2, q3, q4⟩ := wd_build f0
  have T1 : TXT b1 := TXT_c T0 (fun o x => q3 o (by omega) (by omega) (by omega))
  obtain ⟨b2, p2, r1, r2, r3, r4⟩ := ap_new (k := 235) (n := 106) T1.1 q4 (by decide) k234.1 k234.2 (by decide) (by decide) (by decide) (by decide) (by omega) (by decide +kernel) (by rw [ln_20.1]; decide) (by rw [ln_20.1]; decide) (by decide) (by decide)
  rw [ln_20.1] at r4
  have T2 : TXT b2 := TXT_c T1 (fun o x => r3 o (by omega) (by omega) (by omega))
  obtain ⟨b3, p3, s1, s2, s3, s4⟩ := ap_new (q := 106) (k := 236) (n := 214) T2.2.1 r4 (by decide) k235.1 k235.2 (by decide) (by decide) (by decide) (by decide) (by omega) (by decide +kernel) (by rw [ln_20.2.1]; decide) (by rw [ln_20.2.1]; decide) (by decide) (by decide)
  rw [ln_20.2.1] at s4
  have T3 : TXT b3 := TXT_c T2 (fun o x => s3 o (by omega) (by omega) (by omega))
  obtain ⟨b4, p4, t1, t2, t3, t4⟩ := ap_new (q := 172) (k := 237) (n := 430) T3.2.2.1 s4 (by decide) k236.1 k236.2 (by decide) (by decide) (by decide) (by decide) (by omega) (by decide +kernel) (by rw [ln_20.2.2.1]; decide) (by rw [ln_20.2.2.1]; decide) (by decide) (by decide)
  rw [ln_20.2.2.1] at t4
  have T4 : TXT b4 := TXT_c T3 (fun o x => t3 o (by omega) (by omega) (by omega))
  obtain ⟨b5, p5, u1, u2, u3, u4⟩ := ap_fit (q := 294) T4.2.2.2 t4 (by decide) k237.1 (by rw [ln_20.2.2.2, k237.2]; decide) (by rw [k237.2]; decide) (by decide) (by decide)
  rw [ln_20.2.2.2] at u4
  obtain ⟨b6, p6, v1, v2, v3, v4, v5, v6⟩ := wd_text u4 (by omega)
  have p7 := wd_chars v4 v5 v6 v1
  obtain ⟨b7, e7⟩ : ∃ b7, b7 = ch1 (al 240 b6) 380 := ⟨_, rfl⟩
  rw [← e7] at p7
  have fr7 : ∀ o, ¬ o = 0 → ¬ (233 ≤ o ∧ o ≤ 240) → b7 o = m o := fun o x y => by rw [e7, ch1_o (by omega), al_o x (by omega), v3 o x (by omega) (by omega), u3 o (by omega) (by omega), t3 o x (by omega) (by omega), s3 o x (by omega) (by omega), r3 o x (by omega) (by omega), q3 o x (by omega) (by omega)]
  have l7 : ∀ j, 0 ≤ j → j < 380 → b7 240 j = tbl ltT j := fun j j0 j1 => by rw [e7]; exact if_pos ⟨rfl, j0, j1⟩
  obtain ⟨b8, e8⟩ : ∃ b8, b8 = wr b7 231 0 240 := ⟨_, rfl⟩
  have hs := sts_63 (μ := b8) (by rw [e8, wr_eq]) (by rw [e8, wr_f (by decide), fr7 231 (by decide) (by decide), f231]) (fun j j0 j1 => by rw [e8, wr_o (by decide)]; exact l7 j j0 j1) 380 big 0 (Nat.lt_of_lt_of_le (by decide) big_ge) (by decide)
  have z0 : ((bl0 0 : Nat) : Int) = 0 := by decide +kernel
  rw [z0, st3_0] at hs
  refine ⟨st3 b8 70, ?_, ?_, ?_, fun o x y => ?_, ?_, ?_, fun j j0 j1 => ?_, fun j j0 j1 => ?_⟩
  · unfold wWd_init
    rw [if_neg (by decide), nwpf (k := 232) (by omega) (by decide +kernel) (by decide +kernel), ← em]
    rw [nwIn (k := 233) (by omega) (by decide +kernel), if_pos ⟨by decide, k233⟩, p1, Option.bind_some, if_pos ⟨by decide, k233⟩, p2, Option.bind_some, if_pos ⟨by decide, k233⟩, p3, Option.bind_some, if_pos ⟨by decide, k233⟩, p4, Option.bind_some, if_pos ⟨by decide, k233⟩, p5, Option.bind_some, if_pos ⟨by decide, k233⟩, p6, Option.bind_some, if_pos ⟨(show (238 : Int) ≠ 0 by decide), k238⟩, p7, Option.bind_some, pfb ⟨k231, by decide⟩ (Or.inl (by decide)), ← e8]
    exact hs
  · rw [st3_o (by decide), e8, wr_o (by decide), e7, ch1_o (by decide), al_0]
  · rw [st3_o (by decide), e8, wr_o (by decide), e7, ch1_o (by decide), al_1 (by decide), v2, u3 0 (by decide) (by decide), t2, s2, r2, q2, f1]
  · rw [st3_o (by omega), e8, wr_o (by omega), fr7 o x (by omega), fo o x y]
  · rw [st3_o (by decide), e8, wr_eq]
  · rw [st3_o (by decide), e8, wr_f (by decide), fr7 231 (by decide) (by decide), f231]
  · by_cases z : j = 0
    · subst z
      unfold st3
      rw [if_neg (by omega), e8, wr_o (by decide), fr7 232 (by decide) (by decide), f232]
      rfl
    · unfold st3
      rw [if_pos (by omega)]
  · rw [st3_o (by decide), e8, wr_o (by decide), l7 j j0 j1]
