-- L3: a show is made: rows of units and cues
def ShR (b x a i : Int) (P : Int → Int → Int) (r j : Int) : Int := if x ≤ r ∧ r < x + 2 * i then (if (r - x) % 2 = 0 ∧ j = 0 then b + r + 1 else 0) else if r = a ∧ 0 ≤ j ∧ j < i then b + x + 2 * j else P r j
/-- one row of units more -/
theorem shRow {μ : Mem} {b x a i : Int} {P : Int → Int → Int} {K : Mem → Option Mem} {n : Int} (hb : SHB b) (i0 : 0 ≤ i) (x0 : 91 ≤ x) (x1 : x + 2 * i + 1 < 127) (x2 : (x - 91) % 2 = 0) (a0 : 0 < a) (a1 : a < 91) (ha : shK a = (125, n)) (i1 : i < n) : ((nw (shM μ b (x - 1 + 2 * i) (ShR b x a i P)) 5 2).bind fun m7 => (some (shM μ b (x - 1 + 2 * i) (ShR b x a i P) 0 0 + 1)).bind fun x9 => if x9 ≠ 0 ∧ kd x9 = 5 then (wRow_init m7 x9).bind fun m12 => (wA m12 (b + a) i x9).bind K else none) = K (shM μ b (x - 1 + 2 * (i + 1)) (ShR b x a (i + 1) P)) := by
  have b3 := (SHB_r hb).1
  have e1 : shK (x - 1 + 2 * i + 1) = (5, 2) := shK_91 (by omega) (by omega) (by omega)
  have e2 : shK (x - 1 + 2 * i + 1 + 1) = (100, 40) := shK_92 (by omega) (by omega) (by omega)
  have k1 := kdB hb (r := x - 1 + 2 * i + 1) (by omega) (by omega) e1
  have ka := kdB hb (r := a) (by omega) (by omega) ha
  have pf5 : ∀ (k f v : Int) (t : Nat) (Q : Int → Int → Int), (t = 0 ∨ t = 1) → x - 1 + 2 * i + 1 ≤ k → pf (shM μ b k Q) 5 f t (b + (x - 1 + 2 * i + 1)) v = some (shM μ b k (fun s j => if s = x - 1 + 2 * i + 1 ∧ j = f then v else Q s j)) := by
    intro k f v t Q ht hk
    unfold pf
    rw [if_pos ⟨k1.1, by omega, fun y => by omega, fun y => by omega⟩, shM_w (by omega) (by omega) hk]
  rw [sh_nw hb (by omega) (by omega) e1 (by decide), Option.bind_some, Option.bind_some, shM_0, show b + (x - 1 + 2 * i) + 1 = b + (x - 1 + 2 * i + 1) by omega, if_pos ⟨by omega, k1.1⟩]
  unfold wRow_init
  rw [if_neg (by omega), sh_nwA hb (by omega) (by omega) e2 (by decide) (by decide), Option.bind_some, pf5 _ _ _ _ _ (Or.inr rfl) (by omega), Option.bind_some, pf5 _ _ _ _ _ (Or.inl rfl) (by omega), Option.bind_some, Option.bind_some, shM_0]
  unfold wA
  rw [if_pos ⟨Or.inr ⟨by omega, by rw [shM_0]; omega, by rw [k1.1]; decide, by rw [k1.1, ka.1]⟩, by omega, i0, by rw [ka.2]; exact i1⟩, Option.bind_some, shM_w (by omega) (by omega) (by omega), show x - 1 + 2 * i + 1 + 1 = x - 1 + 2 * (i + 1) by omega]
  congr 1
  refine shM_c (fun s j s0 s1 => ?_)
  unfold ShR
  repeat' split
  all_goals first | rfl | (exfalso; omega) | omega
def ShC (b i : Int) (P : Int → Int → Int) (r j : Int) : Int := if 127 ≤ r ∧ r < 127 + 3 * i then (if (r - 127) % 3 = 0 ∧ (j = 1 ∨ j = 2) then b + r + j else 0) else if r = 76 ∧ 0 ≤ j ∧ j < i then b + 127 + 3 * j else P r j
theorem shCue {μ : Mem} {b i : Int} {P : Int → Int → Int} {K : Mem → Option Mem} (hb : SHB b) (i0 : 0 ≤ i) (i1 : i < 30) : ((nw (shM μ b (126 + 3 * i) (ShC b i P)) 1 3).bind fun m3 => (some (shM μ b (126 + 3 * i) (ShC b i P) 0 0 + 1)).bind fun x5 => if x5 ≠ 0 ∧ kd x5 = 1 then (wCue_init m3 x5).bind fun m8 => (wA m8 (b + 76) i x5).bind K else none) = K (shM μ b (126 + 3 * (i + 1)) (ShC b (i + 1) P)) := by
  have b3 := (SHB_r hb).1
  have e1 : shK (126 + 3 * i + 1) = (1, 3) := shK_127 (by omega) (by omega)
  have e2 : shK (126 + 3 * i + 1 + 1) = (100, 6) := shK_128 (by omega) (by omega)
  have e3 : shK (126 + 3 * i + 1 + 1 + 1) = (100, 360) := shK_129 (by omega) (by omega)
  have k1 := kdB hb (r := 126 + 3 * i + 1) (by omega) (by omega) e1
  have ka := kdB hb (r := 76) (by omega) (by omega) (K := 121) (n := 30) (by decide +kernel)
  have pf1 : ∀ (k f v : Int) (t : Nat) (Q : Int → Int → Int), (t = 0 ∨ t = 1) → 126 + 3 * i + 1 ≤ k → pf (shM μ b k Q) 1 f t (b + (126 + 3 * i + 1)) v = some (shM μ b k (fun s j => if s = 126 + 3 * i + 1 ∧ j = f then v else Q s j)) := by
    intro k f v t Q ht hk
    unfold pf
    rw [if_pos ⟨k1.1, by omega, fun y => by omega, fun y => by omega⟩, shM_w (by omega) (by omega) hk]
  rw [sh_nw hb (by omega) (by omega) e1 (by decide), Option.bind_some, Option.bind_some, shM_0, show b + (126 + 3 * i) + 1 = b + (126 + 3 * i + 1) by omega, if_pos ⟨by omega, k1.1⟩]
  unfold wCue_init
  rw [if_neg (by omega), pf1 _ _ _ _ _ (Or.inl rfl) (by omega), Option.bind_some, sh_nwA hb (by omega) (by omega) e2 (by decide) (by decide), Option.bind_some, pf1 _ _ _ _ _ (Or.inr rfl) (by omega), Option.bind_some, sh_nwA hb (by omega) (by omega) e3 (by decide) (by decide), Option.bind_some, pf1 _ _ _ _ _ (Or.inr rfl) (by omega), Option.bind_some, Option.bind_some, shM_0, shM_0]
  unfold wA
  rw [if_pos ⟨Or.inr ⟨by omega, by rw [shM_0]; omega, by rw [k1.1]; decide, by rw [k1.1, ka.1]⟩, by omega, i0, by rw [ka.2]; exact i1⟩, Option.bind_some, shM_w (by omega) (by omega) (by omega), show 126 + 3 * i + 1 + 1 + 1 = 126 + 3 * (i + 1) by omega]
  congr 1
  refine shM_c (fun s j s0 s1 => ?_)
  unfold ShC
  repeat' split
  all_goals first | rfl | (exfalso; omega) | omega
/-- all that a new show holds -/
def ShN (b : Int) : Int → Int → Int := ShC b 30 (ShR b 117 75 5 (ShR b 91 43 13 (ShL b)))
theorem shmk {μ : Mem} {b : Int} (hb : SHB b) : wSh_init (shM μ b 0 (ShP b 0)) b = some (shM μ b 216 (ShN b)) := by
  have b3 := (SHB_r hb).1
  have L1 : ShR b 91 43 13 (ShL b) 0 6 = b + 75 := by unfold ShR ShL ShP ShF; simp
  have L2 : ShR b 117 75 5 (ShR b 91 43 13 (ShL b)) 0 7 = b + 76 := by unfold ShR ShL ShP ShF; simp
  have g43 := kdB hb (r := 43) (by omega) (by omega) (K := 125) (n := 13) (by decide +kernel)
  have g75 := kdB hb (r := 75) (by omega) (by omega) (K := 125) (n := 5) (by decide +kernel)
  have r1 : ∀ (d N : Nat) (i : Int), d < N → i + d = 13 → 0 ≤ i → wSh_init_181 b N (shM μ b (91 - 1 + 2 * i) (ShR b 91 43 i (ShL b))) i = wSh_init_211 b big (shM μ b 116 (ShR b 91 43 13 (ShL b))) 0 := by
    intro d
    induction d with
    | zero =>
      intro N i hN hi i0
      obtain ⟨N, rfl⟩ : ∃ j, N = j + 1 := ⟨N - 1, by omega⟩
      obtain rfl : i = 13 := by omega
      have q : ShR b 91 43 13 (ShL b) 0 1 = b + 43 := by unfold ShR ShL ShP ShF; simp
      rw [wSh_init_181, sh_gf hb (by omega), Option.bind_some, q, aln_ok g43.1 g43.2 (Or.inr (Or.inr rfl)), Option.bind_some, if_pos (by decide)]
      rfl
    | succ d ih =>
      intro N i hN hi i0
      obtain ⟨N, rfl⟩ : ∃ j, N = j + 1 := ⟨N - 1, by omega⟩
      have q : ShR b 91 43 i (ShL b) 0 1 = b + 43 := by unfold ShR ShL ShP ShF; rw [if_neg (by omega), if_neg (by omega)]; simp
      rw [wSh_init_181, sh_gf hb (by omega), Option.bind_some, q, aln_ok g43.1 g43.2 (Or.inr (Or.inr rfl)), Option.bind_some, if_neg (by omega), Option.bind_some, shRow (n := 13) hb i0 (by decide) (by omega) (by decide) (by decide) (by decide) (by decide +kernel) (by omega), jadd_e (by omega) (by omega)]
      exact ih N (i + 1) (by omega) (by omega) (by omega)
  have r2 : ∀ (d N : Nat) (i : Int), d < N → i + d = 5 → 0 ≤ i → wSh_init_211 b N (shM μ b (117 - 1 + 2 * i) (ShR b 117 75 i (ShR b 91 43 13 (ShL b)))) i = wSh_init_241 b big (shM μ b 126 (ShR b 117 75 5 (ShR b 91 43 13 (ShL b)))) 0 := by
    intro d
    induction d with
    | zero =>
      intro N i hN hi i0
      obtain ⟨N, rfl⟩ : ∃ j, N = j + 1 := ⟨N - 1, by omega⟩
      obtain rfl : i = 5 := by omega
      have q : ShR b 117 75 5 (ShR b 91 43 13 (ShL b)) 0 6 = b + 75 := by
        unfold ShR
        rw [if_neg (by omega), if_neg (by omega)]
        exact L1
      rw [wSh_init_211, sh_gf hb (by omega), Option.bind_some, q, aln_ok g75.1 g75.2 (Or.inr (Or.inr rfl)), Option.bind_some, if_pos (by decide)]
      rfl
    | succ d ih =>
      intro N i hN hi i0
      obtain ⟨N, rfl⟩ : ∃ j, N = j + 1 := ⟨N - 1, by omega⟩
      have q : ShR b 117 75 i (ShR b 91 43 13 (ShL b)) 0 6 = b + 75 := by
        have L1' := L1
        generalize ShR b 91 43 13 (ShL b) = PP at *
        unfold ShR
        rw [if_neg (by omega), if_neg (by omega)]
        exact L1'
      rw [wSh_init_211, sh_gf hb (by omega), Option.bind_some, q, aln_ok g75.1 g75.2 (Or.inr (Or.inr rfl)), Option.bind_some, if_neg (by omega), Option.bind_some, shRow (n := 5) hb i0 (by decide) (by omega) (by decide) (by decide) (by decide) (by decide +kernel) (by omega), jadd_e (by omega) (by omega)]
      exact ih N (i + 1) (by omega) (by omega) (by omega)
  have r3 : ∀ (d N : Nat) (i : Int), d < N → i + d = 30 → 0 ≤ i → wSh_init_241 b N (shM μ b (126 + 3 * i) (ShC b i (ShR b 117 75 5 (ShR b 91 43 13 (ShL b))))) i = some (shM μ b 216 (ShN b)) := by
    intro d
    induction d with
    | zero =>
      intro N i hN hi i0
      obtain ⟨N, rfl⟩ : ∃ j, N = j + 1 := ⟨N - 1, by omega⟩
      obtain rfl : i = 30 := by omega
      rw [wSh_init_241, if_pos (by decide)]
      rfl
    | succ d ih =>
      intro N i hN hi i0
      obtain ⟨N, rfl⟩ : ∃ j, N = j + 1 := ⟨N - 1, by omega⟩
      have q : ShC b i (ShR b 117 75 5 (ShR b 91 43 13 (ShL b))) 0 7 = b + 76 := by
        have L2' := L2
        generalize ShR b 117 75 5 (ShR b 91 43 13 (ShL b)) = PP at *
        unfold ShC
        rw [if_neg (by omega), if_neg (by omega)]
        exact L2'
      rw [wSh_init_241, if_neg (by omega), sh_gf hb (by omega), Option.bind_some, q, shCue hb i0 (by omega), jadd_e (by omega) (by omega)]
      exact ih N (i + 1) (by omega) (by omega) (by omega)
  have hbig := big_ge
  have z1 : shM μ b 90 (ShL b) = shM μ b (91 - 1 + 2 * 0) (ShR b 91 43 0 (ShL b)) := shM_c (fun s j _ _ => by unfold ShR; rw [if_neg (by omega), if_neg (by omega)])
  have z2 : shM μ b 116 (ShR b 91 43 13 (ShL b)) = shM μ b (117 - 1 + 2 * 0) (ShR b 117 75 0 (ShR b 91 43 13 (ShL b))) := by
    generalize ShR b 91 43 13 (ShL b) = PP
    exact shM_c (fun s j _ _ => by unfold ShR; rw [if_neg (by omega), if_neg (by omega)])
  have z3 : shM μ b 126 (ShR b 117 75 5 (ShR b 91 43 13 (ShL b))) = shM μ b (126 + 3 * 0) (ShC b 0 (ShR b 117 75 5 (ShR b 91 43 13 (ShL b)))) := by
    generalize ShR b 117 75 5 (ShR b 91 43 13 (ShL b)) = PP
    exact shM_c (fun s j _ _ => by unfold ShC; rw [if_neg (by omega), if_neg (by omega)])
  rw [shmk1 hb, z1, r1 13 big 0 (by omega) (by omega) (by omega), z2, r2 5 big 0 (by omega) (by omega) (by omega), z3, r3 30 big 0 (by omega) (by omega) (by omega)]
