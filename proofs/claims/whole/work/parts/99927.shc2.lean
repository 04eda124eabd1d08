-- L3: a show is made: all of it
def ShF (b j : Int) : Int := if j = 0 then b + 1 else if j = 1 then b + 43 else if j = 2 then b + 44 else if j = 3 then b + 58 else if j = 4 then b + 68 else if j = 5 then b + 69 else if j = 6 then b + 75 else if j = 7 then b + 76 else if j = 8 then 0 else if j = 9 then b + 77 else if j = 10 then -1 else if j = 11 then b + 78 else if j = 12 then b + 79 else 0
def ShO (b r j : Int) : Int := if r = 1 ∧ 0 ≤ j ∧ j < 41 then b + 2 + j else if r = 44 ∧ 0 ≤ j ∧ j < 13 then b + 45 + j else if r = 58 ∧ 0 ≤ j ∧ j < 9 then b + 59 + j else if r = 69 ∧ 0 ≤ j ∧ j < 5 then b + 70 + j else if r = 79 ∧ 0 ≤ j ∧ j < 11 then b + 80 + j else 0
def ShP (b f r j : Int) : Int := if r = 0 then (if 0 ≤ j ∧ j < f then ShF b j else 0) else ShO b r j
theorem shF2 {μ : Mem} {b f f' k k' n l : Int} {K : Mem → Option Mem} (hb : SHB b) (k0 : 0 ≤ k) (n0 : 0 ≤ n) (n1 : n ≤ 100) (k1 : k + 1 + n < 217) (l0 : 0 ≤ l) (l1 : l ≤ 1000) (h : shK (k + 1) = (110, n)) (h2 : ∀ r, k + 1 < r → r ≤ k + 1 + n → shK r = (100, l)) (hk : k' = k + 1 + n) (hf : f' = f + 1) (f0 : 0 ≤ f) (hF : ShF b f = b + k + 1) (hx : (k = 0 ∧ n = 41) ∨ (k = 43 ∧ n = 13) ∨ (k = 57 ∧ n = 9) ∨ (k = 68 ∧ n = 5) ∨ (k = 78 ∧ n = 11)) : ((nw2 (shM μ b k (ShP b f)) n l).bind fun m2 => (pf m2 7 f 1 b (shM μ b k (ShP b f) 0 0 + 1)).bind K) = K (shM μ b k' (ShP b f')) := by
  rw [sh_nw2 hb k0 n0 n1 k1 l0 l1 h h2, Option.bind_some, sh_pf hb (by omega) (Or.inr rfl), Option.bind_some, shM_0, ← hF, hk]
  congr 1
  refine shM_c (fun s j s0 s1 => ?_)
  by_cases z : s = 0 ∧ j = f
  · rw [if_pos z]
    unfold ShP
    rw [if_pos z.1, if_pos (by omega), z.2]
  · rw [if_neg z]
    by_cases y : s = 0
    · rw [if_neg (by omega), if_neg (by omega)]
      unfold ShP
      rw [if_pos y, if_pos y]
      by_cases x : 0 ≤ j ∧ j < f
      · rw [if_pos x, if_pos (by omega)]
      · rw [if_neg x, if_neg (by omega)]
    · unfold ShP
      rw [if_neg y, if_neg y]
      unfold ShO
      repeat' split
      all_goals first | rfl | (exfalso; omega) | omega
theorem shFA {μ : Mem} {b f f' k k' n : Int} {Kd : Nat} {K : Mem → Option Mem} (hb : SHB b) (k0 : 0 ≤ k) (k1 : k < 216) (h : shK (k + 1) = (Kd, n)) (n0 : 0 ≤ n) (n1 : n ≤ 200000) (hk : k' = k + 1) (hf : f' = f + 1) (f0 : 0 ≤ f) (hF : ShF b f = b + k + 1) (hx : ¬ k + 1 = 1 ∧ ¬ k + 1 = 44 ∧ ¬ k + 1 = 58 ∧ ¬ k + 1 = 69 ∧ ¬ k + 1 = 79) : ((nwA (shM μ b k (ShP b f)) Kd n).bind fun m2 => (pf m2 7 f 1 b (shM μ b k (ShP b f) 0 0 + 1)).bind K) = K (shM μ b k' (ShP b f')) := by
  rw [sh_nwA hb k0 k1 h n0 n1, Option.bind_some, sh_pf hb (by omega) (Or.inr rfl), Option.bind_some, shM_0, ← hF, hk]
  congr 1
  refine shM_c (fun s j s0 s1 => ?_)
  by_cases z : s = 0 ∧ j = f
  · rw [if_pos z]
    unfold ShP
    rw [if_pos z.1, if_pos (by omega), z.2]
  · rw [if_neg z]
    by_cases y : s = 0
    · rw [if_neg (by omega)]
      unfold ShP
      rw [if_pos y, if_pos y]
      by_cases x : 0 ≤ j ∧ j < f
      · rw [if_pos x, if_pos (by omega)]
      · rw [if_neg x, if_neg (by omega)]
    · unfold ShP
      rw [if_neg y, if_neg y]
      unfold ShO
      repeat' split
      all_goals first | rfl | (exfalso; omega) | omega
theorem shF0 {μ : Mem} {b f f' k v : Int} {K : Mem → Option Mem} (hb : SHB b) (k0 : 0 ≤ k) (hf : f' = f + 1) (f0 : 0 ≤ f) (hF : ShF b f = v) : ((pf (shM μ b k (ShP b f)) 7 f 0 b v).bind K) = K (shM μ b k (ShP b f')) := by
  rw [sh_pf hb k0 (Or.inl rfl), Option.bind_some, ← hF]
  congr 1
  refine shM_c (fun s j s0 s1 => ?_)
  unfold ShP
  by_cases z : s = 0 ∧ j = f
  · rw [if_pos z, if_pos z.1, if_pos (by omega), z.2]
  · rw [if_neg z]
    by_cases y : s = 0
    · rw [if_pos y, if_pos y]
      by_cases x : 0 ≤ j ∧ j < f
      · rw [if_pos x, if_pos (by omega)]
      · rw [if_neg x, if_neg (by omega)]
    · rw [if_neg y, if_neg y]
theorem shG2 {μ : Mem} {b k f x n l : Int} {P : Int → Int → Int} {K : Mem → Option Mem} (hb : SHB b) (k0 : 0 ≤ k) (x0 : 0 ≤ x) (k1 : k < 217) (xk : x + n ≤ k) (n0 : 0 ≤ n) (n1 : n ≤ 100) (l0 : 0 ≤ l) (l1 : l ≤ 1000) (h : shK x = (110, n)) (h2 : ∀ r, x < r → r ≤ x + n → shK r = (100, l)) (hP : ∀ i, 0 ≤ i → i < n → P x i = b + x + 1 + i) (hf : P 0 f = b + x) : ((gf (shM μ b k P) 7 f b).bind fun x50 => (wSh_fillRows (shM μ b k P) x50 (-1)).bind K) = K (shM μ b k (fun s j => if x < s ∧ s ≤ x + n ∧ 0 ≤ j ∧ j < l then -1 else P s j)) := by
  rw [sh_gf hb k0, Option.bind_some, hf, sh_fillR hb x0 k1 xk n0 n1 l0 l1 h h2 hP, Option.bind_some]
theorem shG1 {μ : Mem} {b k f x n : Int} {P : Int → Int → Int} {K : Mem → Option Mem} (hb : SHB b) (x0 : 0 ≤ x) (xk : x ≤ k) (k1 : k < 217) (h : shK x = (100, n)) (n0 : 0 ≤ n) (n1 : n ≤ 1000) (hf : P 0 f = b + x) : ((gf (shM μ b k P) 7 f b).bind fun x70 => (wAr_fill (shM μ b k P) x70 (-1)).bind K) = K (shM μ b k (fun s j => if s = x ∧ 0 ≤ j ∧ j < n then -1 else P s j)) := by
  rw [sh_gf hb (by omega), Option.bind_some, hf, sh_fill hb x0 xk k1 h n0 n1, Option.bind_some]
def ShL (b r j : Int) : Int := if (2 ≤ r ∧ r < 43 ∧ 0 ≤ j ∧ j < 6) ∨ (45 ≤ r ∧ r < 58 ∧ 0 ≤ j ∧ j < 9) ∨ (59 ≤ r ∧ r < 68 ∧ 0 ≤ j ∧ j < 41) ∨ (70 ≤ r ∧ r < 75 ∧ 0 ≤ j ∧ j < 5) ∨ (80 ≤ r ∧ r < 91 ∧ 0 ≤ j ∧ j < 2) ∨ (r = 77 ∧ 0 ≤ j ∧ j < 360) ∨ (r = 78 ∧ 0 ≤ j ∧ j < 201) then -1 else ShP b 13 r j
theorem shmk1 {μ : Mem} {b : Int} (hb : SHB b) : wSh_init (shM μ b 0 (ShP b 0)) b = wSh_init_181 b big (shM μ b 90 (ShL b)) 0 := by
  have b3 := (SHB_r hb).1
  have q2 : ∀ r, (0 : Int) + 1 < r → r ≤ 0 + 1 + 41 → shK r = (100, 6) := fun r x y => shK_2 (by omega) (by omega)
  have q45 : ∀ r, (43 : Int) + 1 < r → r ≤ 43 + 1 + 13 → shK r = (100, 9) := fun r x y => shK_45 (by omega) (by omega)
  have q59 : ∀ r, (57 : Int) + 1 < r → r ≤ 57 + 1 + 9 → shK r = (100, 41) := fun r x y => shK_59 (by omega) (by omega)
  have q70 : ∀ r, (68 : Int) + 1 < r → r ≤ 68 + 1 + 5 → shK r = (100, 5) := fun r x y => shK_70 (by omega) (by omega)
  have q80 : ∀ r, (78 : Int) + 1 < r → r ≤ 78 + 1 + 11 → shK r = (100, 2) := fun r x y => shK_80 (by omega) (by omega)
  unfold wSh_init
  rw [if_neg (by omega)]
  rw [shF2 (k' := 42) (f' := 1) hb (by decide) (by decide) (by decide) (by decide) (by decide) (by decide) (by decide +kernel) q2 (by decide) (by decide) (by decide) (by unfold ShF; rw [if_pos rfl]; omega) (Or.inl ⟨rfl, rfl⟩)]
  rw [shFA (k' := 43) (f' := 2) hb (by decide) (by decide) (by decide +kernel) (by decide) (by decide) (by decide) (by decide) (by decide) (by unfold ShF; simp; omega) (by decide)]
  rw [shF2 (k' := 57) (f' := 3) hb (by decide) (by decide) (by decide) (by decide) (by decide) (by decide) (by decide +kernel) q45 (by decide) (by decide) (by decide) (by unfold ShF; simp; omega) (by decide)]
  rw [shF2 (k' := 67) (f' := 4) hb (by decide) (by decide) (by decide) (by decide) (by decide) (by decide) (by decide +kernel) q59 (by decide) (by decide) (by decide) (by unfold ShF; simp; omega) (by decide)]
  rw [shFA (k' := 68) (f' := 5) hb (by decide) (by decide) (by decide +kernel) (by decide) (by decide) (by decide) (by decide) (by decide) (by unfold ShF; simp; omega) (by decide)]
  rw [shF2 (k' := 74) (f' := 6) hb (by decide) (by decide) (by decide) (by decide) (by decide) (by decide) (by decide +kernel) q70 (by decide) (by decide) (by decide) (by unfold ShF; simp; omega) (by decide)]
  rw [shFA (k' := 75) (f' := 7) hb (by decide) (by decide) (by decide +kernel) (by decide) (by decide) (by decide) (by decide) (by decide) (by unfold ShF; simp; omega) (by decide)]
  rw [shFA (k' := 76) (f' := 8) hb (by decide) (by decide) (by decide +kernel) (by decide) (by decide) (by decide) (by decide) (by decide) (by unfold ShF; simp; omega) (by decide)]
  rw [shF0 (f' := 9) hb (by decide) (by decide) (by decide) (by unfold ShF; simp)]
  rw [shFA (k' := 77) (f' := 10) hb (by decide) (by decide) (by decide +kernel) (by decide) (by decide) (by decide) (by decide) (by decide) (by unfold ShF; simp; omega) (by decide)]
  rw [shF0 (f' := 11) hb (by decide) (by decide) (by decide) (by unfold ShF; simp)]
  rw [shFA (k' := 78) (f' := 12) hb (by decide) (by decide) (by decide +kernel) (by decide) (by decide) (by decide) (by decide) (by decide) (by unfold ShF; simp; omega) (by decide)]
  rw [shF2 (k' := 90) (f' := 13) hb (by decide) (by decide) (by decide) (by decide) (by decide) (by decide) (by decide +kernel) q80 (by decide) (by decide) (by decide) (by unfold ShF; simp; omega) (by decide)]
  rw [shG2 (x := 1) (n := 41) (l := 6) hb (by decide) (by decide) (by decide) (by decide) (by decide) (by decide) (by decide) (by decide) (by decide +kernel) (fun r x y => shK_2 (by omega) (by omega)) (fun i i0 i1 => by unfold ShP ShO; rw [if_neg (by decide), if_pos (by omega)]; omega) (by unfold ShP ShF; simp)]
  rw [shG2 (x := 44) (n := 13) (l := 9) hb (by decide) (by decide) (by decide) (by decide) (by decide) (by decide) (by decide) (by decide) (by decide +kernel) (fun r x y => shK_45 (by omega) (by omega)) (fun i i0 i1 => by rw [if_neg (by omega)]; unfold ShP ShO; rw [if_neg (by decide), if_neg (by omega), if_pos (by omega)]; omega) (by rw [if_neg (by omega)]; unfold ShP ShF; simp)]
  rw [shG2 (x := 58) (n := 9) (l := 41) hb (by decide) (by decide) (by decide) (by decide) (by decide) (by decide) (by decide) (by decide) (by decide +kernel) (fun r x y => shK_59 (by omega) (by omega)) (fun i i0 i1 => by rw [if_neg (by omega), if_neg (by omega)]; unfold ShP ShO; rw [if_neg (by decide), if_neg (by omega), if_neg (by omega), if_pos (by omega)]; omega) (by rw [if_neg (by omega), if_neg (by omega)]; unfold ShP ShF; simp)]
  rw [shG2 (x := 69) (n := 5) (l := 5) hb (by decide) (by decide) (by decide) (by decide) (by decide) (by decide) (by decide) (by decide) (by decide +kernel) (fun r x y => shK_70 (by omega) (by omega)) (fun i i0 i1 => by rw [if_neg (by omega), if_neg (by omega), if_neg (by omega)]; unfold ShP ShO; rw [if_neg (by decide), if_neg (by omega), if_neg (by omega), if_neg (by omega), if_pos (by omega)]; omega) (by rw [if_neg (by omega), if_neg (by omega), if_neg (by omega)]; unfold ShP ShF; simp)]
  rw [shG2 (x := 79) (n := 11) (l := 2) hb (by decide) (by decide) (by decide) (by decide) (by decide) (by decide) (by decide) (by decide) (by decide +kernel) (fun r x y => shK_80 (by omega) (by omega)) (fun i i0 i1 => by rw [if_neg (by omega), if_neg (by omega), if_neg (by omega), if_neg (by omega)]; unfold ShP ShO; rw [if_neg (by decide), if_neg (by omega), if_neg (by omega), if_neg (by omega), if_neg (by omega), if_pos (by omega)]; omega) (by rw [if_neg (by omega), if_neg (by omega), if_neg (by omega), if_neg (by omega)]; unfold ShP ShF; simp)]
  rw [shG1 (x := 77) (n := 360) hb (by decide) (by decide) (by decide) (by decide +kernel) (by decide) (by decide) (by rw [if_neg (by omega), if_neg (by omega), if_neg (by omega), if_neg (by omega), if_neg (by omega)]; unfold ShP ShF; simp)]
  rw [shG1 (x := 78) (n := 201) hb (by decide) (by decide) (by decide) (by decide +kernel) (by decide) (by decide) (by rw [if_neg (by omega), if_neg (by omega), if_neg (by omega), if_neg (by omega), if_neg (by omega), if_neg (by omega)]; unfold ShP ShF; simp)]
  congr 1
  refine shM_c (fun s j s0 s1 => ?_)
  unfold ShL
  repeat' split
  all_goals first | rfl | (exfalso; omega)
