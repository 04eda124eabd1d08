-- L3: goals are what is tracked in the current cue, at once
def stC (fc : Int) (g : Int → Int) (n i : Int) (c : Mem) : Mem := if tlv g n i = c 222 i then c else fd 222 223 224 225 c i (tlv g n i) (tlv g n i) fc 0
def stM (fc : Int) (g : Int → Int) (n i : Int) (m : Mem) : Mem := if tlv g n i = m 272 i then m else wr (wr (wr m 272 i (tlv g n i)) 275 i 0) 274 i fc
theorem stC_o {fc : Int} {g : Int → Int} {n i : Int} {c : Mem} {o : Int} (h : ¬ (222 ≤ o ∧ o ≤ 225)) : stC fc g n i c o = c o := by
  unfold stC
  split
  · rfl
  · exact fd_o (by omega) (by omega) (by omega) (by omega)
theorem stM_o {fc : Int} {g : Int → Int} {n i : Int} {m : Mem} {o : Int} (h : ¬ (272 ≤ o ∧ o ≤ 275)) : stM fc g n i m o = m o := by
  unfold stM
  split
  · rfl
  · rw [wr_o (by omega), wr_o (by omega), wr_o (by omega)]
theorem M_settle_e {m : Mem} (hk : KON m) (hw : WF (m 264)) : M_settle m = some (itr (stM (m 259 28) (m 264) (m 259 29)) m 360) := by
  refine loopY (fun k s i => M_settle_2 k s i) (stM (m 259 28) (m 264) (m 259 29)) m 360 360 rfl (fun i s => ∀ o, ¬ (272 ≤ o ∧ o ≤ 275) → s o = m o) (fun o _ => rfl) ?_ ?_ ?_ big b360
  · intro i s h0 h1 h2 o ho
    rw [← h2 o ho]
    exact stM_o ho
  · intro k i s h0 h1 h2
    have e264 : s 264 = m 264 := h2 264 (by omega)
    have e259 : s 259 = m 259 := h2 259 (by omega)
    have hk' : KON s := KON_um hk (fun o hu => h2 o (by unfold uM at hu; simp at hu; omega))
    rw [M_settle_2, if_neg (show ¬ 360 ≤ i by omega), M_trackedLevel_e hk' (by rw [e264]; exact hw.c) h0 h1, Option.bind_some, aI_ok h0 h1, Option.bind_some, jadd_e (by omega) (by omega)]
    simp only [sI_ok h0 h1, Option.bind_some]
    rw [wr_o (show ¬ (259 : Int) = 275 by decide), wr_o (show ¬ (259 : Int) = 272 by decide), e259, e264]
    unfold stM
    by_cases z : tlv (m 264) (m 259 29) i = s 272 i
    · rw [if_neg (fun x => x z), if_pos z]
    · rw [if_pos z, if_neg z]
  · intro k _
    rw [M_settle_2]; rfl
theorem Pl_settle_e {c : Mem} {g : Int → Int} (h1 : SR c 3 g) (h2 : WF g) (h3 : KON c) (h4 : 280 ≤ c 0 0) : Pl_settle c = some (itr (stC (c 221 2) g (c 221 3)) c 360) := by
  have ho : ∀ k : Nat, ∀ o, ¬ (222 ≤ o ∧ o ≤ 225) → itr (stC (c 221 2) g (c 221 3)) c k o = c o := by
    intro k
    induction k with
    | zero => intro o _; rfl
    | succ k ih => intro o x; rw [← ih o x]; exact stC_o x
  obtain ⟨ec, k0, k1, k2, k3⟩ := cna_s h1 (c 221 3)
  have hN := S3.n h1
  have step : ∀ (K : Mem → Int → Option Mem) (N : Nat) (u p : Int) (μ : Mem), (∀ o, ¬ (222 ≤ o ∧ o ≤ 225) → μ o = c o) → 0 ≤ u → u < 40 → 0 ≤ p → p < 9 → Pl_settle_22 K (cna c (c 221 3)) (u + 1) (N + 1) μ p = Pl_settle_22 K (cna c (c 221 3)) (u + 1) N (stC (c 221 2) g (c 221 3) (9 * u + p) μ) (p + 1) := by
    intro K N u p μ hμ u0 u1 p0 p1
    have hS : SR μ 3 g := SR_congr h1 (fun o a b => hμ o (by omega))
    have hK : KON μ := KON_un h3 ⟨fun o hu => hμ o (by unfold uB at hu; simp at hu; omega), by rw [hμ 0 (by omega)]⟩
    have hO : 280 ≤ μ 0 0 := by rw [hμ 0 (by omega)]; exact h4
    have e221 : μ 221 = c 221 := hμ 221 (by omega)
    have ecc : cna μ (c 221 3) = cna c (c 221 3) := by
      obtain ⟨_, a0, a1, a2, a3⟩ := cna_s hS (c 221 3)
      have e3 : μ 3 8 = c 3 8 := by rw [hμ 3 (by omega)]
      have e79 : μ 79 = c 79 := hμ 79 (by omega)
      have nm : ∀ i, 0 ≤ i → i < c 3 8 → μ (μ 79 i) 0 = c (c 79 i) 0 := by
        intro i i0 i1
        obtain ⟨q0, q1, _⟩ := cq_k h1 i0 (by omega)
        rw [e79, hμ _ (by omega)]
      by_cases z1 : cna μ (c 221 3) < cna c (c 221 3)
      · have := a3 (cna μ (c 221 3)) (by omega) (by omega)
        have := k2 (cna μ (c 221 3)) (by omega) z1
        rw [nm _ (by omega) (by omega)] at *
        omega
      · by_cases z2 : cna c (c 221 3) < cna μ (c 221 3)
        · have := k3 (cna c (c 221 3)) (by omega) (by omega)
          have := a2 (cna c (c 221 3)) (by omega) z2
          rw [nm _ (by omega) (by omega)] at this
          omega
        · omega
    have tl := Sh_trackedLevel_e hS h2 hK hO (c 221 3) (u := u + 1) (p := p) (by omega) (by omega) p0 p1
    rw [ecc, show 9 * (u + 1 - 1) + p = 9 * u + p by omega] at tl
    rw [Pl_settle_22, if_neg (show ¬ 9 ≤ p by omega), D_cellOf_e (by omega) (by omega) p0 p1, Option.bind_some, tl, Option.bind_some, show 9 * (u + 1 - 1) + p = 9 * u + p by omega, aI_ok (by omega) (by omega), Option.bind_some, jadd_e (by omega) (by omega), sI_ok (by omega) (by omega), Option.bind_some, Pl_fadeFrom_e (by omega) (by omega), Option.bind_some, wr_o (show ¬ (221 : Int) = 222 by decide), e221]
    unfold stC
    by_cases z : tlv g (c 221 3) (9 * u + p) = μ 222 (9 * u + p)
    · rw [if_pos z, if_pos z]
    · rw [if_neg z, if_neg z]; rfl
  have unit : ∀ (N u : Nat), u < 40 → Pl_settle_14 (cna c (c 221 3)) (N + 1) (itr (stC (c 221 2) g (c 221 3)) c (9 * u)) ((u : Int) + 1) = Pl_settle_14 (cna c (c 221 3)) N (itr (stC (c 221 2) g (c 221 3)) c (9 * (u + 1))) ((u : Int) + 1 + 1) := by
    intro N u hu
    have key : ∀ p : Nat, p ≤ 9 → Pl_settle_22 (Pl_settle_14 (cna c (c 221 3)) N) (cna c (c 221 3)) ((u : Int) + 1) big (itr (stC (c 221 2) g (c 221 3)) c (9 * u)) 0 = Pl_settle_22 (Pl_settle_14 (cna c (c 221 3)) N) (cna c (c 221 3)) ((u : Int) + 1) (big - p) (itr (stC (c 221 2) g (c 221 3)) c (9 * u + p)) p := by
      intro p
      induction p with
      | zero => intro _; rfl
      | succ p ih =>
        intro hp
        obtain ⟨j, hj⟩ : ∃ j, big - p = j + 1 := ⟨big - p - 1, by have := big_ge; omega⟩
        rw [ih (by omega), hj, step _ j u p _ (ho (9 * u + p)) (by omega) (by omega) (by omega) (by omega), show big - (p + 1) = j by omega, show ((p + 1 : Nat) : Int) = (p : Int) + 1 by omega]
        show _ = Pl_settle_22 _ _ _ _ (stC (c 221 2) g (c 221 3) ((9 * u + p : Nat) : Int) (itr (stC (c 221 2) g (c 221 3)) c (9 * u + p))) _
        rw [show ((9 * u + p : Nat) : Int) = 9 * (u : Int) + (p : Int) by omega]
    obtain ⟨j, hj⟩ : ∃ j, big - 9 = j + 1 := ⟨big - 9 - 1, by have := big_ge; omega⟩
    rw [Pl_settle_14, if_neg (show ¬ 40 < (u : Int) + 1 by omega), key 9 (by omega), hj, Pl_settle_22, if_pos (by decide), jadd_e (by omega) (by omega), show 9 * (u + 1) = 9 * u + 9 by omega]
  have all : ∀ u : Nat, u ≤ 40 → Pl_settle_14 (cna c (c 221 3)) big c 1 = Pl_settle_14 (cna c (c 221 3)) (big - u) (itr (stC (c 221 2) g (c 221 3)) c (9 * u)) ((u : Int) + 1) := by
    intro u
    induction u with
    | zero => intro _; rfl
    | succ u ih =>
      intro hu
      obtain ⟨j, hj⟩ : ∃ j, big - u = j + 1 := ⟨big - u - 1, by have := big_ge; omega⟩
      rw [ih (by omega), hj, unit j u (by omega), show big - (u + 1) = j by omega]
      rfl
  unfold Pl_settle
  obtain ⟨j, hj⟩ : ∃ j, big - 40 = j + 1 := ⟨big - 40 - 1, by have := big_ge; omega⟩
  rw [ec, Option.bind_some, all 40 (by omega), hj, Pl_settle_14]
  rfl
theorem settle_op {B : Int} {c m : Mem} (h : INV B c m) : ∃ c' m', Pl_settle c = some c' ∧ M_settle m = some m' ∧ INV B c' m' := by
  obtain ⟨x1, x2, x3, x4, x5, x6, x7, x8⟩ := h.p.K
  obtain ⟨q1, _⟩ := h.p.C
  have hd := Pl_settle_e h.s h.w h.kc h.o
  have hM := M_settle_e h.km h.w
  rw [x6, q1] at hd
  have key : ∀ k : Nat, k ≤ 360 → PR B (itr (stC (m 259 28) (m 264) (m 259 29)) c k) (itr (stM (m 259 28) (m 264) (m 259 29)) m k) ∧ (∀ o, ¬ (222 ≤ o ∧ o ≤ 225) → itr (stC (m 259 28) (m 264) (m 259 29)) c k o = c o) ∧ (∀ o, ¬ (272 ≤ o ∧ o ≤ 275) → itr (stM (m 259 28) (m 264) (m 259 29)) m k o = m o) := by
    intro k
    induction k with
    | zero => intro _; exact ⟨h.p, fun _ _ => rfl, fun _ _ => rfl⟩
    | succ k ih =>
      intro hk
      obtain ⟨p, oc, om⟩ := ih (by omega)
      refine ⟨?_, fun o x => by rw [← oc o x]; exact stC_o x, fun o x => by rw [← om o x]; exact stM_o x⟩
      show PR B (stC (m 259 28) (m 264) (m 259 29) k (itr (stC (m 259 28) (m 264) (m 259 29)) c k)) (stM (m 259 28) (m 264) (m 259 29) k (itr (stM (m 259 28) (m 264) (m 259 29)) m k))
      have e259 := om 259 (by omega)
      generalize itr (stC (m 259 28) (m 264) (m 259 29)) c k = sc at *
      generalize itr (stM (m 259 28) (m 264) (m 259 29)) m k = sm at *
      have i0 : (0 : Int) ≤ k := by omega
      have i1 : (k : Int) < 360 := by omega
      have hG := (p.G k i0 i1).1
      obtain ⟨t0, t1⟩ := tlv_r h.w (n := m 259 29) i0 i1
      unfold stC stM
      rw [hG]
      by_cases z : tlv (m 264) (m 259 29) k = sm 272 k
      · rw [if_pos z, if_pos z]; exact p
      · rw [if_neg z, if_neg z]
        generalize tlv (m 264) (m 259 29) k = t at *
        generalize hi : (k : Int) = i at *
        have ec : fd 222 223 224 225 sc i t t (m 259 28) 0 221 = sc 221 := fd_o (by decide) (by decide) (by decide) (by decide)
        have em : wr (wr (wr sm 272 i t) 275 i 0) 274 i (m 259 28) 259 = sm 259 := by rw [wr_o (by decide), wr_o (by decide), wr_o (by decide)]
        have c2 : ∀ j, fd 222 223 224 225 sc i t t (m 259 28) 0 222 j = if j = i then t else sc 222 j := by intro j; unfold fd wr; simp
        have c3 : ∀ j, fd 222 223 224 225 sc i t t (m 259 28) 0 223 j = if j = i then t else sc 223 j := by intro j; unfold fd wr; simp
        have c4 : ∀ j, fd 222 223 224 225 sc i t t (m 259 28) 0 224 j = if j = i then m 259 28 else sc 224 j := by intro j; unfold fd wr; simp
        have c5 : ∀ j, fd 222 223 224 225 sc i t t (m 259 28) 0 225 j = if j = i then 0 else sc 225 j := by intro j; unfold fd wr; simp
        have d2 : ∀ j, wr (wr (wr sm 272 i t) 275 i 0) 274 i (m 259 28) 272 j = if j = i then t else sm 272 j := by intro j; unfold wr; simp
        have d3 : ∀ j, wr (wr (wr sm 272 i t) 275 i 0) 274 i (m 259 28) 273 j = sm 273 j := by intro j; unfold wr; simp
        have d4 : ∀ j, wr (wr (wr sm 272 i t) 275 i 0) 274 i (m 259 28) 274 j = if j = i then m 259 28 else sm 274 j := by intro j; unfold wr; simp
        have d5 : ∀ j, wr (wr (wr sm 272 i t) 275 i 0) 274 i (m 259 28) 275 j = if j = i then 0 else sm 275 j := by intro j; unfold wr; simp
        refine ⟨?_, ?_, ?_, ?_, ?_⟩
        · intro j j0 j1
          rw [c2, d2]
          split
          · omega
          · exact p.G j j0 j1
        · intro j j0 j1
          rw [c3, d3, d4, d5, em, e259]
          obtain ⟨f1, f2, f3, f4, f5⟩ := p.F j j0 j1
          rw [e259] at f1
          split
          · exact ⟨Or.inr ⟨rfl, Int.le_refl _⟩, f2, f3, t0, t1⟩
          · exact ⟨f1, f2, f3, f4, f5⟩
        · intro j j0 j1
          rw [c4, c5, d4, d5]
          split
          · omega
          · exact p.T j j0 j1
        · unfold PR_K; rw [ec, em]; exact p.K
        · unfold PR_C; rw [ec, em]; exact p.C
  obtain ⟨p, oc, om⟩ := key 360 (by omega)
  refine ⟨_, _, hd, hM, ?_⟩
  exact INVp h (un_Pl_settle hd UN.refl) (um_M_settle hM UM.refl) (fun o b => oc o (by omega)) (fun o _ b => om o b) (fun f _ => by rw [om 259 (by omega)]) p
