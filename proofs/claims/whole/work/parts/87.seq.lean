-- L3: enter: the tokens of a statement
/-- bytes, how many, where the statement begins, how many tokens -/
abbrev Tx := (Int → Int) × Int × Int × Int
def tkP (t : Int → Int) (n s : Int) : Nat → Int
  | 0 => skq t n 6000 s
  | k + 1 => skq t n 6000 (tE t n (tkP t n s k))
def Px (X : Tx) (i : Int) : Int := tkP X.1 X.2.1 X.2.2.1 i.toNat
def Kx (X : Tx) (i : Int) : Int := tK X.1 X.2.1 (Px X i)
def Vx (X : Tx) (i : Int) : Int := tV X.1 X.2.1 (Px X i)
def Cx (X : Tx) (i : Int) : Int := cdK (Kx X i) (Vx X i)
def Ex (X : Tx) (i : Int) : Int := tE X.1 X.2.1 (Px X i)
def TT (X : Tx) (i : Int) : Int := if 0 ≤ i ∧ i < X.2.2.2 ∧ i < 120 then Cx X i else 76
def stp3 (x : Int) : Prop := x = 70 ∨ x = 76 ∨ x = 77
def Sx (X : Tx) (i : Int) : Int := if i = 0 then X.2.2.1 else Ex X (i - 1)
theorem Px_S {X : Tx} {i : Int} (h : 0 ≤ i) : Px X i = skq X.1 X.2.1 6000 (Sx X i) := by
  unfold Sx
  by_cases z : i = 0
  · subst z; rfl
  · rw [if_neg z]
    obtain ⟨k, rfl⟩ : ∃ k : Nat, i = (k : Int) + 1 := ⟨(i - 1).toNat, by omega⟩
    unfold Px Ex Px
    rw [show ((k : Int) + 1).toNat = k + 1 by omega, show ((k : Int) + 1 - 1).toNat = k by omega]
    rfl
theorem Px_r {X : Tx} (n1 : X.2.1 ≤ 6000) (s0 : 0 ≤ X.2.2.1) (s1 : X.2.2.1 ≤ X.2.1) : ∀ k : Nat, 0 ≤ Px X k ∧ Px X k ≤ X.2.1 ∧ 0 ≤ Sx X k ∧ Sx X k ≤ X.2.1 ∧ 0 ≤ Ex X k ∧ Ex X k ≤ X.2.1 := by
  intro k
  have fin : ∀ i, 0 ≤ i → 0 ≤ Sx X i ∧ Sx X i ≤ X.2.1 → 0 ≤ Px X i ∧ Px X i ≤ X.2.1 ∧ 0 ≤ Sx X i ∧ Sx X i ≤ X.2.1 ∧ 0 ≤ Ex X i ∧ Ex X i ≤ X.2.1 := by
    intro i i0 h
    have a := skq_r (t := X.1) (n := X.2.1) 6000 (Sx X i) h.2
    rw [← Px_S i0] at a
    have b := tE_r (t := X.1) a.2.1 (by omega) n1
    unfold Ex
    omega
  induction k with
  | zero => exact fin 0 (by omega) ⟨s0, s1⟩
  | succ k ih =>
    refine fin _ (by omega) ?_
    unfold Sx
    rw [if_neg (by omega), show ((k + 1 : Nat) : Int) - 1 = k by omega]
    omega
theorem Px_x {X : Tx} (n1 : X.2.1 ≤ 6000) (s0 : 0 ≤ X.2.2.1) (s1 : X.2.2.1 ≤ X.2.1) {i : Int} (i0 : 0 ≤ i) : 0 ≤ Px X i ∧ Px X i ≤ X.2.1 ∧ 0 ≤ Sx X i ∧ Sx X i ≤ X.2.1 ∧ 0 ≤ Ex X i ∧ Ex X i ≤ X.2.1 := by
  have := Px_r n1 s0 s1 i.toNat
  rwa [show ((i.toNat : Nat) : Int) = i by omega] at this
def SCN (X : Tx) (c c' : Mem) : Prop := 1 ≤ X.2.2.2 ∧ X.2.2.2 ≤ 121 ∧ c' 250 8 = X.2.2.2 ∧ c' 250 9 = 0 ∧ (∀ i, 0 ≤ i → i < X.2.2.2 → c' 252 i = TT X i ∧ c' 254 i = Px X i ∧ (TT X i = 75 → c' 253 i = Vx X i)) ∧ (∀ i, 0 ≤ i → i < X.2.2.2 - 1 → ¬ stp3 (TT X i)) ∧ stp3 (TT X (X.2.2.2 - 1)) ∧ (¬ TT X (X.2.2.2 - 1) = 76 → c' 250 4 = Ex X (X.2.2.2 - 1)) ∧ (∀ o, ¬ o = 250 → ¬ o = 252 → ¬ o = 253 → ¬ o = 254 → c' o = c o) ∧ (∀ f, ¬ f = 4 → ¬ f = 8 → ¬ f = 9 → c' 250 f = c 250 f)
/-- so far i tokens -/
def SCI (X : Tx) (c : Mem) (i : Int) (μ : Mem) : Prop := μ 250 8 = i ∧ μ 250 9 = 0 ∧ μ 250 4 = Sx X i ∧ (∀ j, 0 ≤ j → j < i → μ 252 j = Cx X j ∧ μ 254 j = Px X j ∧ (Cx X j = 75 → μ 253 j = Vx X j)) ∧ (∀ j, 0 ≤ j → j < i → ¬ stp3 (Cx X j)) ∧ (∀ o, ¬ o = 250 → ¬ o = 252 → ¬ o = 253 → ¬ o = 254 → μ o = c o) ∧ (∀ f, ¬ f = 4 → ¬ f = 8 → ¬ f = 9 → μ 250 f = c 250 f)
theorem adt_p {c : Mem} {code num e : Int} : adt c code num e 250 8 = c 250 8 + 1 ∧ adt c code num e 250 4 = e ∧ adt c code num e 252 (c 250 8) = code ∧ adt c code num e 253 (c 250 8) = num ∧ adt c code num e 254 (c 250 8) = c 250 4 ∧ (∀ j, ¬ j = c 250 8 → adt c code num e 252 j = c 252 j ∧ adt c code num e 253 j = c 253 j ∧ adt c code num e 254 j = c 254 j) ∧ (∀ o, ¬ o = 250 → ¬ o = 252 → ¬ o = 253 → ¬ o = 254 → adt c code num e o = c o) ∧ (∀ f, ¬ f = 4 → ¬ f = 8 → adt c code num e 250 f = c 250 f) := by
  unfold adt
  refine ⟨?_, wr_eq, ?_, ?_, ?_, ?_, ?_, ?_⟩
  · rw [wr_f (by decide), wr_eq]
  · rw [wr_o (by decide), wr_o (by decide), wr_o (by decide), wr_o (by decide), wr_eq]
  · rw [wr_o (by decide), wr_o (by decide), wr_o (by decide), wr_eq]
  · rw [wr_o (by decide), wr_o (by decide), wr_eq]
  · intro j hj
    refine ⟨?_, ?_, ?_⟩
    · rw [wr_o (by decide), wr_o (by decide), wr_o (by decide), wr_o (by decide), wr_f hj]
    · rw [wr_o (by decide), wr_o (by decide), wr_o (by decide), wr_f hj, wr_o (by decide)]
    · rw [wr_o (by decide), wr_o (by decide), wr_f hj, wr_o (by decide), wr_o (by decide)]
  · intro o a b d e; rw [wr_o a, wr_o a, wr_o e, wr_o d, wr_o b]
  · intro f a b; rw [wr_f a, wr_f b, wr_o (by decide), wr_o (by decide), wr_o (by decide)]
theorem cdK_75 {K V : Int} (h : cdK K V = 75) (h1 : K = 1 → 0 ≤ V ∧ V < 70) : K = 2 := by
  unfold cdK at h
  by_cases k0 : K = 0
  · rw [if_pos k0] at h; omega
  · rw [if_neg k0] at h
    by_cases k1 : K = 1
    · rw [if_pos k1] at h
      have := wd_x (h1 k1).1 (h1 k1).2
      omega
    · rw [if_neg k1] at h
      by_cases k2 : K = 2
      · exact k2
      · rw [if_neg k2] at h
        by_cases k3 : K = 3
        · rw [if_pos k3] at h
          repeat' split at h
          all_goals omega
        · rw [if_neg k3] at h; omega
theorem tK_v {t : Int → Int} {n q : Int} (q0 : 0 ≤ q) (q1 : q ≤ n) (hn : n ≤ 6000) : 0 ≤ tK t n q ∧ tK t n q ≤ 4 ∧ (tK t n q = 1 → 0 ≤ tV t n q ∧ tV t n q < 70) ∧ (tK t n q = 2 → 0 ≤ tV t n q ∧ tV t n q ≤ 9999) ∧ (tK t n q = 3 → tV t n q = 59 ∨ tV t n q = 43 ∨ tV t n q = 45 ∨ tV t n q = 61 ∨ tV t n q = 64) := by
  unfold tK tV
  by_cases z : n ≤ q
  · rw [if_pos z]; omega
  · rw [if_neg z]
    by_cases zl : 97 ≤ t q ∧ t q ≤ 122
    · rw [if_pos zl, if_pos zl]
      have := wfd_s (vl (ltl t q (LQ t n q - q).toNat))
      split <;> omega
    · rw [if_neg zl, if_neg zl]
      by_cases zd : 48 ≤ t q ∧ t q ≤ 57
      · rw [if_pos zd, if_pos zd]
        by_cases z4 : DQ t n q - q ≤ 4
        · rw [if_pos z4]
          have rr := rq_r (t := t) (n := n) (lo := 48) (hi := 57) 6000 q (by omega)
          have := nv_r (t := t) (q := q) (DQ t n q - q).toNat (by omega) (fun i a b => rr.2.2.1 i a (by have : DQ t n q = rq t n 48 57 6000 q := rfl; omega))
          omega
        · rw [if_neg z4]; omega
      · rw [if_neg zd, if_neg zd]
        by_cases zs : t q = 59 ∨ t q = 43 ∨ t q = 45 ∨ t q = 61 ∨ t q = 64
        · rw [if_pos zs]; omega
        · rw [if_neg zs]; omega
theorem Rd_scan_x {t : Int → Int} {n s : Int} {c : Mem} (tb : TB c) (h : TPc c t n) (s0 : 0 ≤ s) (s1 : s ≤ n) : ∀ (d N : Nat) (i : Int) (μ : Mem), 0 ≤ i → i + d = 120 → d + 1 < N → SCI (t, n, s, 0) c i μ → ∃ k c', Rd_scan_14 N μ 1 i = some c' ∧ SCN (t, n, s, k) c c' := by
  have h' := h
  obtain ⟨a1, a2, a3, a4, a5⟩ := h'
  intro d
  induction d with
  | zero =>
    intro N i μ i0 e hN hI
    obtain ⟨N, rfl⟩ : ∃ j, N = j + 1 := ⟨N - 1, by omega⟩
    obtain ⟨b1, b2, b3, b4, b5, b6, b7⟩ := hI
    obtain ⟨p1, p2, p3, p4, p5, p6⟩ := Px_x (X := (t, n, s, 0)) a4 s0 s1 (i := 120) (by omega)
    have ei : i = 120 := by omega
    subst ei
    have hT : TPc μ t n := ⟨by rw [b7 2 (by decide) (by decide) (by decide)]; exact a1, by rw [b7 3 (by decide) (by decide) (by decide)]; exact a2, a3, a4, fun j j0 j1 => by rw [b6 2 (by decide) (by decide) (by decide) (by decide)]; exact a5 j j0 j1⟩
    have ek : Rd_skipBlanks μ = some (wr μ 250 4 (Px (t, n, s, 0) 120)) := by
      unfold Rd_skipBlanks
      rw [Rd_skip 6000 big μ _ hT b3 p3 p4 (by have : (t, n, s, 0).2.1 = n := rfl; omega) (by have := big_ge; omega), Px_S (by omega)]
    rw [Rd_scan_14, if_pos (by omega)]
    unfold Rd_scan_63
    rw [if_neg (by decide), ek, Option.bind_some]
    generalize hm : wr μ 250 4 (Px (t, n, s, 0) 120) = μ1
    have f8 : μ1 250 8 = 120 := by rw [← hm, wr_f (by decide)]; exact b1
    have f4 : μ1 250 4 = Px (t, n, s, 0) 120 := by rw [← hm, wr_eq]
    have p2' : Px (t, n, s, 0) 120 ≤ n := p2
    rw [Rd_add (by omega) (by omega) (by omega) (by omega) (by omega), Option.bind_some]
    obtain ⟨q1, q2, q3, q4, q5, q6, q7, q8⟩ := adt_p (c := μ1) (code := 76) (num := 0) (e := μ1 250 4 + 0)
    refine ⟨121, adt μ1 76 0 (μ1 250 4 + 0), rfl, show (1 : Int) ≤ 121 by decide, show (121 : Int) ≤ 121 by decide, by rw [q1, f8]; rfl, by rw [q8 9 (by decide) (by decide), ← hm, wr_f (by decide)]; exact b2, ?_, ?_, Or.inr (Or.inl rfl), fun x => absurd (show TT (t, n, s, 121) 120 = 76 from rfl) x, ?_, ?_⟩
    · intro j j0 j1
      have j1' : j < 121 := j1
      by_cases ej : j = 120
      · subst ej
        rw [← f8, q3, q5, f4, f8]
        refine ⟨rfl, rfl, fun x => ?_⟩
        exact absurd (show (76 : Int) = 75 from x) (by decide)
      · obtain ⟨g1, g2, g3⟩ := q6 j (by omega)
        obtain ⟨r1, r2, r3⟩ := b4 j j0 (by omega)
        rw [g1, g2, g3, ← hm, wr_o (by decide), wr_o (by decide), wr_o (by decide)]
        have et : TT (t, n, s, 121) j = Cx (t, n, s, 0) j := if_pos ⟨j0, j1, by omega⟩
        rw [et]
        exact ⟨r1, r2, r3⟩
    · intro j j0 j1
      have j1' : j < 121 - 1 := j1
      have et : TT (t, n, s, 121) j = Cx (t, n, s, 0) j := if_pos ⟨j0, show j < 121 by omega, by omega⟩
      rw [et]
      exact b5 j j0 (by omega)
    · intro o x y z w
      rw [q7 o x y z w, ← hm, wr_o x, b6 o x y z w]
    · intro f x y z
      rw [q8 f x y, ← hm, wr_f x, b7 f x y z]
  | succ d ih =>
    intro N i μ i0 e hN hI
    obtain ⟨N, rfl⟩ : ∃ j, N = j + 1 := ⟨N - 1, by omega⟩
    have hI' := hI
    obtain ⟨b1, b2, b3, b4, b5, b6, b7⟩ := hI'
    obtain ⟨p1, p2, p3, p4, p5, p6⟩ := Px_x (X := (t, n, s, 0)) a4 s0 s1 (i := i) (by omega)
    have hT : TPc μ t n := ⟨by rw [b7 2 (by decide) (by decide) (by decide)]; exact a1, by rw [b7 3 (by decide) (by decide) (by decide)]; exact a2, a3, a4, fun j j0 j1 => by rw [b6 2 (by decide) (by decide) (by decide) (by decide)]; exact a5 j j0 j1⟩
    have ek : Rd_skipBlanks μ = some (wr μ 250 4 (Px (t, n, s, 0) i)) := by
      unfold Rd_skipBlanks
      rw [Rd_skip 6000 big μ _ hT b3 p3 p4 (by have : (t, n, s, 0).2.1 = n := rfl; omega) (by have := big_ge; omega), Px_S i0]
    rw [Rd_scan_14, if_neg (by omega), if_neg (by decide), ek, Option.bind_some]
    generalize hm : wr μ 250 4 (Px (t, n, s, 0) i) = μ1
    have f8 : μ1 250 8 = i := by rw [← hm, wr_f (by decide)]; exact b1
    have f4 : μ1 250 4 = Px (t, n, s, 0) i := by rw [← hm, wr_eq]
    have p2' : Px (t, n, s, 0) i ≤ n := p2
    have hT1 : TPc μ1 t n := by
      obtain ⟨c1, c2, c3, c4, c5⟩ := hT
      exact ⟨by rw [← hm, wr_f (by decide)]; exact c1, by rw [← hm, wr_f (by decide)]; exact c2, c3, c4, fun j j0 j1 => by rw [← hm, wr_o (by decide)]; exact c5 j j0 j1⟩
    have tb1 : TB μ1 := by
      unfold TB
      rw [← hm, wr_o (by decide), wr_o (by decide), b6 232 (by decide) (by decide) (by decide) (by decide), b6 240 (by decide) (by decide) (by decide) (by decide)]
      exact tb
    have et := Rd_tok tb1 hT1 f4 p1 p2' (by omega) (by omega)
    have eC : cdK (tK t n (Px (t, n, s, 0) i)) (tV t n (Px (t, n, s, 0) i)) = Cx (t, n, s, 0) i := rfl
    have eE : tE t n (Px (t, n, s, 0) i) = Ex (t, n, s, 0) i := rfl
    have eV : tV t n (Px (t, n, s, 0) i) = Vx (t, n, s, 0) i := rfl
    have eK : tK t n (Px (t, n, s, 0) i) = Kx (t, n, s, 0) i := rfl
    rw [eC, eE, eV, eK] at et
    rw [et]
    simp only [Option.bind_some]
    obtain ⟨q1, q2, q3, q4, q5, q6, q7, q8⟩ := adt_p (c := μ1) (code := Cx (t, n, s, 0) i) (num := if Kx (t, n, s, 0) i = 2 then Vx (t, n, s, 0) i else 0) (e := Ex (t, n, s, 0) i)
    generalize hm2 : adt μ1 (Cx (t, n, s, 0) i) (if Kx (t, n, s, 0) i = 2 then Vx (t, n, s, 0) i else 0) (Ex (t, n, s, 0) i) = μ2 at *
    have tv := tK_v (t := t) p1 p2' a4
    have ent : ∀ j, 0 ≤ j → j < i + 1 → μ2 252 j = Cx (t, n, s, 0) j ∧ μ2 254 j = Px (t, n, s, 0) j ∧ (Cx (t, n, s, 0) j = 75 → μ2 253 j = Vx (t, n, s, 0) j) := by
      intro j j0 j1
      by_cases ej : j = i
      · subst ej
        rw [f8] at q3 q4 q5
        refine ⟨q3, by rw [q5, f4], fun x => ?_⟩
        have k2 : Kx (t, n, s, 0) j = 2 := cdK_75 x tv.2.2.1
        rw [q4, if_pos k2]
      · obtain ⟨g1, g2, g3⟩ := q6 j (by omega)
        obtain ⟨r1, r2, r3⟩ := b4 j j0 (by omega)
        rw [g1, g2, g3, ← hm, wr_o (by decide), wr_o (by decide), wr_o (by decide)]
        exact ⟨r1, r2, r3⟩
    have fo : ∀ o, ¬ o = 250 → ¬ o = 252 → ¬ o = 253 → ¬ o = 254 → μ2 o = c o := by
      intro o x y z w
      rw [q7 o x y z w, ← hm, wr_o x, b6 o x y z w]
    have ff : ∀ f, ¬ f = 4 → ¬ f = 8 → ¬ f = 9 → μ2 250 f = c 250 f := by
      intro f x y z
      rw [q8 f x y, ← hm, wr_f x, b7 f x y z]
    have f9 : μ2 250 9 = 0 := by rw [q8 9 (by decide) (by decide), ← hm, wr_f (by decide)]; exact b2
    by_cases hs : stp3 (Cx (t, n, s, 0) i)
    · have stop : ∃ k c', Rd_scan_14 N μ2 0 (jadd i 1) = some c' ∧ SCN (t, n, s, k) c c' := by
        obtain ⟨N, rfl⟩ : ∃ j, N = j + 1 := ⟨N - 1, by omega⟩
        have e63 : Rd_scan_63 μ2 0 = some μ2 := by unfold Rd_scan_63; rw [if_pos rfl]
        have eT : ∀ j, 0 ≤ j → j < i + 1 → TT (t, n, s, i + 1) j = Cx (t, n, s, 0) j := fun j j0 j1 => if_pos ⟨j0, j1, by omega⟩
        have eT2 : TT (t, n, s, i + 1) (i + 1 - 1) = Cx (t, n, s, 0) i := by rw [show i + 1 - 1 = i by omega]; exact eT i i0 (by omega)
        refine ⟨i + 1, μ2, ?_, show 1 ≤ i + 1 by omega, show i + 1 ≤ 121 by omega, by rw [q1, f8], f9, ?_, ?_, ?_, ?_, fo, ff⟩
        · rw [Rd_scan_14, e63]
          split <;> rfl
        · intro j j0 j1
          rw [eT j j0 j1]
          exact ent j j0 j1
        · intro j j0 j1
          have j1' : j < i + 1 - 1 := j1
          rw [eT j j0 (by omega)]
          exact b5 j j0 (by omega)
        · show stp3 (TT (t, n, s, i + 1) (i + 1 - 1))
          rw [eT2]; exact hs
        · intro _
          show _ = Ex (t, n, s, i + 1) (i + 1 - 1)
          rw [show i + 1 - 1 = i by omega, q2]
          rfl
      by_cases z1 : Cx (t, n, s, 0) i = 70
      · rw [if_pos z1]; exact stop
      · rw [if_neg z1]
        by_cases z2 : Cx (t, n, s, 0) i = 76
        · rw [if_pos z2]; exact stop
        · rw [if_neg z2, if_pos (by rcases hs with x | x | x; exact absurd x z1; exact absurd x z2; exact x)]
          exact stop
    · rw [if_neg (fun x => hs (Or.inl x)), if_neg (fun x => hs (Or.inr (Or.inl x))), if_neg (fun x => hs (Or.inr (Or.inr x))), jadd_e (by omega) (by omega)]
      refine ih N (i + 1) μ2 (by omega) (by omega) (by omega) ⟨by rw [q1, f8], f9, ?_, ent, ?_, fo, ff⟩
      · rw [q2]
        unfold Sx
        rw [if_neg (by omega), show i + 1 - 1 = i by omega]
      · intro j j0 j1
        by_cases ej : j = i
        · subst ej; exact hs
        · exact b5 j j0 (by omega)
theorem Rd_scan_e {t : Int → Int} {n s : Int} {c : Mem} (tb : TB c) (h : TPc c t n) (hs : c 250 4 = s) (s0 : 0 ≤ s) (s1 : s ≤ n) : ∃ k c', Rd_scan c = some c' ∧ SCN (t, n, s, k) c c' := by
  have h' := h
  obtain ⟨a1, a2, a3, a4, a5⟩ := h'
  unfold Rd_scan
  simp only [Option.bind_some]
  refine Rd_scan_x tb h s0 s1 120 big 0 _ (by omega) (by omega) (by have := big_ge; omega) ⟨?_, wr_eq, ?_, fun j j0 j1 => by omega, fun j j0 j1 => by omega, ?_, ?_⟩
  · rw [wr_f (by decide), wr_eq]
  · rw [wr_f (by decide), wr_f (by decide)]; exact hs
  · intro o x y z w; rw [wr_o x, wr_o x]
  · intro f x y z; rw [wr_f z, wr_f y]
