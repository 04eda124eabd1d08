-- L3: the class takes a cue
theorem cna_at {c : Mem} {g : Int → Int} (h : SR c 3 g) {k : Int} (k0 : 0 ≤ k) (k1 : k < c 3 8) : cna c (c (c 79 k) 0) = k + 1 := by
  obtain ⟨_, a0, a1, a2, a3⟩ := cna_s h (c (c 79 k) 0)
  by_cases e5 : cna c (c (c 79 k) 0) ≤ k
  · have := a3 k e5 k1; omega
  · by_cases e6 : k + 1 < cna c (c (c 79 k) 0)
    · have := a2 (k + 1) (by omega) e6
      have := S3.o h k (k + 1) k0 (by omega) (by omega)
      omega
    · omega
/-- what stands while a cue is taken -/
def TK (c1 : Mem) (g : Int → Int) (ix : Int) : Prop := SR c1 3 g ∧ WF g ∧ KON c1 ∧ 280 ≤ c1 0 0 ∧ 0 ≤ ix ∧ ix < c1 3 8
theorem TK_m {c1 μ : Mem} {g : Int → Int} {ix : Int} (h : TK c1 g ix) (ho : ∀ o, ¬ (222 ≤ o ∧ o ≤ 225) → μ o = c1 o) : TK μ g ix ∧ μ (μ 79 ix) 0 = c1 (c1 79 ix) 0 ∧ μ 79 ix = c1 79 ix ∧ μ (c1 79 ix + 1) = c1 (c1 79 ix + 1) := by
  obtain ⟨h1, h2, h3, h4, h5, h6⟩ := h
  have hn := S3.n h1
  obtain ⟨q0, q1, q2⟩ := cq_k h1 h5 (by omega)
  have e79 : μ 79 = c1 79 := ho 79 (by omega)
  refine ⟨⟨SR_congr h1 (fun o a b => ho o (by omega)), h2, KON_un h3 ⟨fun o hu => ho o (by unfold uB at hu; simp at hu; omega), by rw [ho 0 (by omega)]⟩, by rw [ho 0 (by omega)]; exact h4, h5, by rw [ho 3 (by omega)]; exact h6⟩, ?_, ?_, ?_⟩
  · rw [e79, ho _ (by omega)]
  · rw [e79]
  · exact ho _ (by omega)
theorem Pl_s {c1 μ : Mem} {g : Int → Int} {ix at_ l6 : Int} (h : TK c1 g ix) (ho : ∀ o, ¬ (222 ≤ o ∧ o ≤ 225) → μ o = c1 o) {K : Mem → Int → Option Mem} {N : Nat} {u p : Int} (u0 : 0 ≤ u) (u1 : u < 40) (p0 : 0 ≤ p) (p1 : p < 9) : Pl_take_73 K ix at_ (c1 79 ix) (u + 1) (9 * u) l6 (N + 1) μ p = Pl_take_73 K ix at_ (c1 79 ix) (u + 1) (9 * u) l6 N (tkm 222 223 224 225 (c1 221 2) g (c1 (c1 79 ix) 0) at_ (rowOf g (c1 (c1 79 ix) 0)) (9 * u + p) μ l6) (p + 1) := by
  obtain ⟨⟨h1, h2, h3, h4, h5, h6⟩, e1, e2, e3⟩ := TK_m h ho
  have hn := S3.n h1
  obtain ⟨q0, q1, q2⟩ := cq_k h1 h5 (by omega)
  rw [e2] at q0 q1 q2
  obtain ⟨_, _, _, _, rt, _⟩ := S3.row h1 h2.n h5 h6
  rw [e1, e2, e3] at rt
  have ec : cna μ (c1 (c1 79 ix) 0) = ix + 1 := by rw [← e1]; exact cna_at h1 h5 h6
  have tl := Sh_trackedLevel_e h1 h2 h3 h4 (c1 (c1 79 ix) 0) (u := u + 1) (p := p) (by omega) (by omega) p0 p1
  rw [ec, show 9 * (u + 1 - 1) + p = 9 * u + p by omega] at tl
  have e221 : μ 221 = c1 221 := ho 221 (by omega)
  have h115 : ∀ (K73 : Mem → Int → Option Mem) (j : Int), Pl_take_115 K K73 μ ix at_ (c1 79 ix) (u + 1) (9 * u) l6 p (tlv g (c1 (c1 79 ix) 0) (9 * u + p)) j = K73 (if tlv g (c1 (c1 79 ix) 0) (9 * u + p) = μ 222 (9 * u + p) then μ else if j = 0 then fd 222 223 224 225 μ (9 * u + p) (tlv g (c1 (c1 79 ix) 0) (9 * u + p)) (was 222 223 224 225 μ (c1 221 2) (9 * u + p)) (jadd (c1 221 2) (g (1356 + 7 * rowOf g (c1 (c1 79 ix) 0)))) (if (9 * u + p) % 9 ≠ 0 then g (1355 + 7 * rowOf g (c1 (c1 79 ix) 0)) else if tlv g (c1 (c1 79 ix) 0) (9 * u + p) ≤ was 222 223 224 225 μ (c1 221 2) (9 * u + p) then g (1354 + 7 * rowOf g (c1 (c1 79 ix) 0)) else g (1353 + 7 * rowOf g (c1 (c1 79 ix) 0))) else fd 222 223 224 225 μ (9 * u + p) (tlv g (c1 (c1 79 ix) 0) (9 * u + p)) (was 222 223 224 225 μ (c1 221 2) (9 * u + p)) (c1 221 2) 0) (p + 1) := by
    intro K73 j
    unfold Pl_take_115 Pl_take_150
    rw [jadd_e (by omega) (by omega), aI_ok (by omega) (by omega), Option.bind_some, jadd_e (by omega) (by omega), Pl_fadeTo_q h4 q0 q1 q2 (by omega) (by omega), Pl_fadeTo_0 (by omega) (by omega), Option.bind_some, Option.bind_some, e221, e3, rt 3 (by omega) (by omega), rt 2 (by omega) (by omega), rt 1 (by omega) (by omega), rt 0 (by omega) (by omega)]
    rw [show 1353 + 7 * rowOf g (c1 (c1 79 ix) 0) + 3 = 1356 + 7 * rowOf g (c1 (c1 79 ix) 0) by omega, show 1353 + 7 * rowOf g (c1 (c1 79 ix) 0) + 2 = 1355 + 7 * rowOf g (c1 (c1 79 ix) 0) by omega, show 1353 + 7 * rowOf g (c1 (c1 79 ix) 0) + 1 = 1354 + 7 * rowOf g (c1 (c1 79 ix) 0) by omega, Int.add_zero]
    by_cases z : tlv g (c1 (c1 79 ix) 0) (9 * u + p) = μ 222 (9 * u + p)
    · rw [if_pos z, if_pos z]
    · rw [if_neg z, if_neg z]
      by_cases z2 : j = 0
      · rw [if_pos z2, if_pos z2]
      · rw [if_neg z2, if_neg z2]
  rw [Pl_take_73, if_neg (show ¬ 9 ≤ p by omega), jadd_e (by omega) (by omega), tl, Option.bind_some]
  simp only [h115]
  have em : (9 * u + p) % 9 = p := by omega
  unfold tkm
  rw [em]
  by_cases z : tlv g (c1 (c1 79 ix) 0) (9 * u + p) = μ 222 (9 * u + p)
  · simp only [if_pos z]
    repeat' split
    all_goals rfl
  · simp only [if_neg z]
    by_cases z2 : at_ = 0
    · rw [if_neg (show ¬ at_ ≠ 0 from fun x => x z2)]
      by_cases z3 : l6 = 0
      · rw [if_pos z3, if_neg (show ¬ (at_ ≠ 0 ∨ (l6 ≠ 0 ∧ p ≠ 0)) by omega)]
        simp
      · rw [if_neg z3]
        by_cases z4 : p = 0
        · rw [if_pos z4, if_neg (show ¬ (at_ ≠ 0 ∨ (l6 ≠ 0 ∧ p ≠ 0)) by omega)]
          simp
        · rw [if_neg z4, if_pos (show at_ ≠ 0 ∨ (l6 ≠ 0 ∧ p ≠ 0) from Or.inr ⟨z3, z4⟩)]
          simp
    · rw [if_pos (show at_ ≠ 0 from z2), if_pos (show at_ ≠ 0 ∨ (l6 ≠ 0 ∧ p ≠ 0) from Or.inl z2)]
      simp
noncomputable def SC (c1 : Mem) (g : Int → Int) (ix at_ : Int) (k : Nat) : Mem × Int := itr (tkS 222 223 224 225 (c1 221 2) g (c1 (c1 79 ix) 0) at_ (rowOf g (c1 (c1 79 ix) 0))) (c1, 0) k
theorem SC_o {c1 : Mem} {g : Int → Int} {ix at_ : Int} : ∀ k o, ¬ (222 ≤ o ∧ o ≤ 225) → (SC c1 g ix at_ k).1 o = c1 o := by
  intro k
  induction k with
  | zero => intro o _; rfl
  | succ k ih =>
    intro o ho
    rw [← ih o ho]
    exact tkm_o (by omega) (by omega) (by omega) (by omega)
theorem Pl_u {c1 : Mem} {g : Int → Int} {ix at_ : Int} (h : TK c1 g ix) (N u : Nat) (u1 : u < 40) : Pl_take_29 ix at_ (c1 79 ix) (N + 1) (SC c1 g ix at_ (9 * u)).1 ((u : Int) + 1) = Pl_take_29 ix at_ (c1 79 ix) N (SC c1 g ix at_ (9 * (u + 1))).1 ((u : Int) + 1 + 1) := by
  have key : ∀ (l6 : Int), l6 = drk 222 223 224 225 (c1 221 2) (9 * (u : Int)) (SC c1 g ix at_ (9 * u)) → ∀ (p : Nat), p ≤ 9 → (1 ≤ p → (SC c1 g ix at_ (9 * u + p)).2 = l6) ∧ Pl_take_73 (Pl_take_29 ix at_ (c1 79 ix) N) ix at_ (c1 79 ix) ((u : Int) + 1) (9 * u) l6 big (SC c1 g ix at_ (9 * u)).1 0 = Pl_take_73 (Pl_take_29 ix at_ (c1 79 ix) N) ix at_ (c1 79 ix) ((u : Int) + 1) (9 * u) l6 (big - p) (SC c1 g ix at_ (9 * u + p)).1 p := by
    intro l6 hl p
    induction p with
    | zero => intro _; exact ⟨fun x => by omega, rfl⟩
    | succ p ih =>
      intro hp
      obtain ⟨i1, i2⟩ := ih (by omega)
      have ed : drk 222 223 224 225 (c1 221 2) ((9 * u + p : Nat) : Int) (SC c1 g ix at_ (9 * u + p)) = l6 := by
        by_cases z : p = 0
        · subst z
          rw [hl]
          rfl
        · unfold drk
          rw [if_neg (show ¬ ((9 * u + p : Nat) : Int) % 9 = 0 by omega)]
          exact i1 (by omega)
      have es : SC c1 g ix at_ (9 * u + (p + 1)) = tkS 222 223 224 225 (c1 221 2) g (c1 (c1 79 ix) 0) at_ (rowOf g (c1 (c1 79 ix) 0)) ((9 * u + p : Nat) : Int) (SC c1 g ix at_ (9 * u + p)) := rfl
      refine ⟨fun _ => by rw [es]; exact ed, ?_⟩
      obtain ⟨j, hj⟩ : ∃ j, big - p = j + 1 := ⟨big - p - 1, by have := big_ge; omega⟩
      rw [i2, hj, Pl_s h (SC_o (9 * u + p)) (by omega) (by omega) (by omega) (by omega), show big - (p + 1) = j by omega, es]
      unfold tkS
      rw [ed, show ((9 * u + p : Nat) : Int) = 9 * (u : Int) + (p : Int) by omega, show ((p + 1 : Nat) : Int) = (p : Int) + 1 by omega]
  have hD : D_cellOf (SC c1 g ix at_ (9 * u)).1 ((u : Int) + 1) 0 = some (9 * (u : Int)) := by
    rw [D_cellOf_e (by omega) (by omega) (by omega) (by omega)]; congr 1; omega
  have fin : ∀ l6, l6 = drk 222 223 224 225 (c1 221 2) (9 * (u : Int)) (SC c1 g ix at_ (9 * u)) → Pl_take_73 (Pl_take_29 ix at_ (c1 79 ix) N) ix at_ (c1 79 ix) ((u : Int) + 1) (9 * u) l6 big (SC c1 g ix at_ (9 * u)).1 0 = Pl_take_29 ix at_ (c1 79 ix) N (SC c1 g ix at_ (9 * (u + 1))).1 ((u : Int) + 1 + 1) := by
    intro l6 hl
    obtain ⟨_, e⟩ := key l6 hl 9 (by omega)
    obtain ⟨j, hj⟩ : ∃ j, big - 9 = j + 1 := ⟨big - 9 - 1, by have := big_ge; omega⟩
    rw [e, hj, Pl_take_73, if_pos (by decide), jadd_e (by omega) (by omega), show 9 * (u + 1) = 9 * u + 9 by omega]
  rw [Pl_take_29, if_neg (show ¬ 40 < (u : Int) + 1 by omega), hD, Option.bind_some, aI_ok (by omega) (by omega), Option.bind_some, Pl_cueLevel_e (by omega) (by omega), Option.bind_some, SC_o (9 * u) 221 (by omega)]
  have ew : clv ((SC c1 g ix at_ (9 * u)).1 222) ((SC c1 g ix at_ (9 * u)).1 223) ((SC c1 g ix at_ (9 * u)).1 224) ((SC c1 g ix at_ (9 * u)).1 225) (c1 221 2) (9 * (u : Int)) = was 222 223 224 225 (SC c1 g ix at_ (9 * u)).1 (c1 221 2) (9 * (u : Int)) := rfl
  rw [ew]
  have hm : (9 * (u : Int)) % 9 = 0 := by omega
  by_cases z : (SC c1 g ix at_ (9 * u)).1 222 (9 * (u : Int)) = 0
  · rw [if_neg (fun x => x z)]
    by_cases z2 : was 222 223 224 225 (SC c1 g ix at_ (9 * u)).1 (c1 221 2) (9 * (u : Int)) = 0
    · rw [if_neg (fun x => x z2)]
      exact fin 1 (by unfold drk; rw [if_pos hm, if_pos ⟨z, z2⟩])
    · rw [if_pos z2]
      exact fin 0 (by unfold drk; rw [if_pos hm, if_neg (fun x => z2 x.2)])
  · rw [if_pos z]
    exact fin 0 (by unfold drk; rw [if_pos hm, if_neg (fun x => z x.1)])
theorem Pl_take_e {c : Mem} {g : Int → Int} {ix at_ : Int} (h : TK c g ix) : Pl_take c ix at_ = some (SC (wr (wr c 221 3 (c (c 79 ix) 0)) 221 4 (c 221 2)) g ix at_ 360).1 := by
  have hn := S3.n h.1
  obtain ⟨h1, h2, h3, h4, h5, h6⟩ := h
  obtain ⟨q0, q1, q2⟩ := cq_k h1 h5 (by omega)
  have ho : ∀ o, ¬ o = 221 → wr (wr c 221 3 (c (c 79 ix) 0)) 221 4 (c 221 2) o = c o := fun o x => by rw [wr_o x, wr_o x]
  unfold Pl_take
  rw [aI_ok h5 (by omega), Option.bind_some, cq_gf h1 h5 (by omega)]
  simp only [Option.bind_some]
  rw [wr_f (show ¬ (2 : Int) = 3 by decide)]
  have hT : TK (wr (wr c 221 3 (c (c 79 ix) 0)) 221 4 (c 221 2)) g ix := ⟨SR_congr h1 (fun o a b => ho o (by omega)), h2, KON_un h3 (UNw (UNw UN.refl (by decide)) (by decide)), by rw [ho 0 (by decide)]; exact h4, h5, by rw [ho 3 (by decide)]; exact h6⟩
  have e79 : wr (wr c 221 3 (c (c 79 ix) 0)) 221 4 (c 221 2) 79 = c 79 := ho 79 (by decide)
  generalize wr (wr c 221 3 (c (c 79 ix) 0)) 221 4 (c 221 2) = c1 at *
  rw [← e79]
  have key : ∀ (u : Nat), u ≤ 40 → Pl_take_29 ix at_ (c1 79 ix) big c1 1 = Pl_take_29 ix at_ (c1 79 ix) (big - u) (SC c1 g ix at_ (9 * u)).1 ((u : Int) + 1) := by
    intro u
    induction u with
    | zero => intro _; rfl
    | succ u ih =>
      intro hu
      obtain ⟨j, hj⟩ : ∃ j, big - u = j + 1 := ⟨big - u - 1, by have := big_ge; omega⟩
      rw [ih (by omega), hj, Pl_u hT j u (by omega), show big - (u + 1) = j by omega]
      rfl
  obtain ⟨j, hj⟩ : ∃ j, big - 40 = j + 1 := ⟨big - 40 - 1, by have := big_ge; omega⟩
  rw [key 40 (by omega), hj, Pl_take_29]
  rfl
theorem fd_PR {B : Int} {c m : Mem} {i t f x T : Int} (h : PR B c m) (i0 : 0 ≤ i) (i1 : i < 360) (t0 : 0 ≤ t) (t1 : t ≤ 1000) (f0 : 0 ≤ f) (f1 : f ≤ 1000) (x0 : 0 ≤ x) (x1 : x ≤ B + 600) (T0 : 0 ≤ T) (T1 : T ≤ 600) : PR B (fd 222 223 224 225 c i t f x T) (fd 272 273 274 275 m i t f x T) := by
  have ec : fd 222 223 224 225 c i t f x T 221 = c 221 := fd_o (by decide) (by decide) (by decide) (by decide)
  have em : fd 272 273 274 275 m i t f x T 259 = m 259 := fd_o (by decide) (by decide) (by decide) (by decide)
  have c2 : ∀ j, fd 222 223 224 225 c i t f x T 222 j = if j = i then t else c 222 j := by intro j; unfold fd wr; simp
  have c3 : ∀ j, fd 222 223 224 225 c i t f x T 223 j = if j = i then f else c 223 j := by intro j; unfold fd wr; simp
  have c4 : ∀ j, fd 222 223 224 225 c i t f x T 224 j = if j = i then x else c 224 j := by intro j; unfold fd wr; simp
  have c5 : ∀ j, fd 222 223 224 225 c i t f x T 225 j = if j = i then T else c 225 j := by intro j; unfold fd wr; simp
  have d2 : ∀ j, fd 272 273 274 275 m i t f x T 272 j = if j = i then t else m 272 j := by intro j; unfold fd wr; simp
  have d3 : ∀ j, fd 272 273 274 275 m i t f x T 273 j = if j = i then f else m 273 j := by intro j; unfold fd wr; simp
  have d4 : ∀ j, fd 272 273 274 275 m i t f x T 274 j = if j = i then x else m 274 j := by intro j; unfold fd wr; simp
  have d5 : ∀ j, fd 272 273 274 275 m i t f x T 275 j = if j = i then T else m 275 j := by intro j; unfold fd wr; simp
  refine ⟨?_, ?_, ?_, ?_, ?_⟩
  · intro j j0 j1
    rw [c2, d2]
    split
    · omega
    · exact h.G j j0 j1
  · intro j j0 j1
    rw [c3, d3, d4, d5, em]
    split
    · exact ⟨Or.inl rfl, f0, f1, f0, f1⟩
    · exact h.F j j0 j1
  · intro j j0 j1
    rw [c4, c5, d4, d5]
    split
    · omega
    · exact h.T j j0 j1
  · unfold PR_K; rw [ec, em]; exact h.K
  · unfold PR_C; rw [ec, em]; exact h.C
theorem tlv_r {g : Int → Int} (hw : WF g) {n i : Int} (i0 : 0 ≤ i) (i1 : i < 360) : 0 ≤ tlv g n i ∧ tlv g n i ≤ 1000 := lev_r hw (trk_val hw.c i0 i1) (by omega) (by omega)
/-- both take a cue: cell by cell -/
theorem tk_PR {B : Int} {c1 m1 : Mem} {g : Int → Int} (hw : WF g) {n at_ r : Int} (h : PR B c1 m1) (r0 : 0 ≤ r) (r1 : r < 30) (hn : 0 < cn g r) : ∀ k : Nat, k ≤ 360 → PR B (itr (tkS 222 223 224 225 (c1 221 2) g n at_ r) (c1, 0) k).1 (itr (tkS 272 273 274 275 (m1 259 28) g n at_ r) (m1, 0) k).1 ∧ (itr (tkS 222 223 224 225 (c1 221 2) g n at_ r) (c1, 0) k).2 = (itr (tkS 272 273 274 275 (m1 259 28) g n at_ r) (m1, 0) k).2 ∧ (itr (tkS 222 223 224 225 (c1 221 2) g n at_ r) (c1, 0) k).1 221 = c1 221 ∧ (itr (tkS 272 273 274 275 (m1 259 28) g n at_ r) (m1, 0) k).1 259 = m1 259 := by
  obtain ⟨k1, k2, k3, k4, k5, k6, k7, k8⟩ := h.K
  obtain ⟨w1, w2, w3, _⟩ := (hw.c r r0 r1).2.2 hn
  have fce : c1 221 2 = m1 259 28 := k6
  intro k
  induction k with
  | zero => intro _; exact ⟨h, rfl, rfl, rfl⟩
  | succ k ih =>
    intro hk
    obtain ⟨p, d, e1, e2⟩ := ih (by omega)
    show PR B (tkS 222 223 224 225 (c1 221 2) g n at_ r k (itr (tkS 222 223 224 225 (c1 221 2) g n at_ r) (c1, 0) k)).1 (tkS 272 273 274 275 (m1 259 28) g n at_ r k (itr (tkS 272 273 274 275 (m1 259 28) g n at_ r) (m1, 0) k)).1 ∧ _
    show _ ∧ (tkS 222 223 224 225 (c1 221 2) g n at_ r k (itr (tkS 222 223 224 225 (c1 221 2) g n at_ r) (c1, 0) k)).2 = (tkS 272 273 274 275 (m1 259 28) g n at_ r k (itr (tkS 272 273 274 275 (m1 259 28) g n at_ r) (m1, 0) k)).2 ∧ (tkS 222 223 224 225 (c1 221 2) g n at_ r k (itr (tkS 222 223 224 225 (c1 221 2) g n at_ r) (c1, 0) k)).1 221 = _ ∧ (tkS 272 273 274 275 (m1 259 28) g n at_ r k (itr (tkS 272 273 274 275 (m1 259 28) g n at_ r) (m1, 0) k)).1 259 = _
    generalize itr (tkS 222 223 224 225 (c1 221 2) g n at_ r) (c1, 0) k = sc at *
    generalize itr (tkS 272 273 274 275 (m1 259 28) g n at_ r) (m1, 0) k = sm at *
    have i0 : (0 : Int) ≤ k := by omega
    have i1 : (k : Int) < 360 := by omega
    have hwas : was 222 223 224 225 sc.1 (c1 221 2) k = was 272 273 274 275 sm.1 (m1 259 28) k := by
      have := clv_eq p i0 i1
      rw [e1, e2] at this
      exact this
    have hwr : 0 ≤ was 272 273 274 275 sm.1 (m1 259 28) k ∧ was 272 273 274 275 sm.1 (m1 259 28) k ≤ 1000 := by
      have := clv_r p i0 i1
      rw [e2] at this
      exact this
    have hG := (p.G k i0 i1).1
    have hd : drk 222 223 224 225 (c1 221 2) k sc = drk 272 273 274 275 (m1 259 28) k sm := by
      unfold drk
      rw [hwas, hG, d]
    obtain ⟨t0, t1⟩ := tlv_r hw (n := n) i0 i1
    unfold tkS
    simp only
    rw [hd]
    refine ⟨?_, rfl, ?_, ?_⟩
    · unfold tkm
      rw [hwas, hG, fce]
      generalize drk 272 273 274 275 (m1 259 28) k sm = dk
      by_cases z : tlv g n k = sm.1 272 k
      · rw [if_pos z, if_pos z]; exact p
      · rw [if_neg z, if_neg z]
        have wj : ∀ j, 1 ≤ j → j ≤ 4 → 0 ≤ g (1352 + 7 * r + j) ∧ g (1352 + 7 * r + j) ≤ 600 := w1
        have w4 := wj 4 (by omega) (by omega)
        have w5 := wj 3 (by omega) (by omega)
        have w6 := wj 2 (by omega) (by omega)
        have w7 := wj 1 (by omega) (by omega)
        rw [show 1352 + 7 * r + 4 = 1356 + 7 * r by omega] at w4
        rw [show 1352 + 7 * r + 3 = 1355 + 7 * r by omega] at w5
        rw [show 1352 + 7 * r + 2 = 1354 + 7 * r by omega] at w6
        rw [show 1352 + 7 * r + 1 = 1353 + 7 * r by omega] at w7
        by_cases z2 : at_ ≠ 0 ∨ (dk ≠ 0 ∧ (k : Int) % 9 ≠ 0)
        · rw [if_pos z2, if_pos z2]
          exact fd_PR p i0 i1 t0 t1 hwr.1 hwr.2 (by omega) (by omega) (by omega) (by omega)
        · rw [if_neg z2, if_neg z2, jadd_e (by omega) (by omega)]
          refine fd_PR p i0 i1 t0 t1 hwr.1 hwr.2 (by omega) (by omega) ?_ ?_
          · repeat' split
            all_goals omega
          · repeat' split
            all_goals omega
    · rw [tkm_o (by decide) (by decide) (by decide) (by decide)]; exact e1
    · rw [tkm_o (by decide) (by decide) (by decide) (by decide)]; exact e2
