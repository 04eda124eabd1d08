-- L3: a show is made
def shM (μ : Mem) (b k : Int) (P : Int → Int → Int) : Mem := fun o j => if o = 0 ∧ j = 0 then b + k else if b ≤ o ∧ o ≤ b + k then P (o - b) j else μ o j
theorem shM_0 {μ : Mem} {b k : Int} {P : Int → Int → Int} : shM μ b k P 0 0 = b + k := if_pos ⟨rfl, rfl⟩
theorem shM_i {μ : Mem} {b k r j : Int} {P : Int → Int → Int} (b0 : 0 < b) (r0 : 0 ≤ r) (r1 : r ≤ k) : shM μ b k P (b + r) j = P r j := by
  unfold shM
  rw [if_neg (by omega), if_pos (by omega), show b + r - b = r by omega]
theorem shM_o {μ : Mem} {b k o : Int} {P : Int → Int → Int} (h : ¬ (b ≤ o ∧ o ≤ b + k)) (h0 : ¬ o = 0) : shM μ b k P o = μ o := by
  funext j
  unfold shM
  rw [if_neg (fun x => h0 x.1), if_neg h]
theorem shM_c {μ : Mem} {b k : Int} {P Q : Int → Int → Int} (h : ∀ r j, 0 ≤ r → r ≤ k → P r j = Q r j) : shM μ b k P = shM μ b k Q := by
  funext o j
  unfold shM
  by_cases z : o = 0 ∧ j = 0
  · rw [if_pos z, if_pos z]
  · rw [if_neg z, if_neg z]
    by_cases y : b ≤ o ∧ o ≤ b + k
    · rw [if_pos y, if_pos y, h (o - b) j (by omega) (by omega)]
    · rw [if_neg y, if_neg y]
theorem shM_w {μ : Mem} {b k r f v : Int} {P : Int → Int → Int} (b0 : 0 < b) (r0 : 0 ≤ r) (r1 : r ≤ k) : wr (shM μ b k P) (b + r) f v = shM μ b k (fun s j => if s = r ∧ j = f then v else P s j) := by
  funext o j
  unfold wr shM
  dsimp only
  repeat' split
  all_goals first | rfl | (exfalso; omega)
theorem shM_a {μ : Mem} {b k : Int} {P : Int → Int → Int} (b0 : 0 < b) (k0 : 0 ≤ k) : alo (shM μ b k P) = shM μ b (k + 1) (fun s j => if s = k + 1 then 0 else P s j) := by
  funext o j
  unfold alo
  rw [shM_0]
  unfold shM
  dsimp only
  repeat' split
  all_goals first | rfl | (exfalso; omega) | omega
theorem shM_n {μ : Mem} {b k n : Int} {P : Int → Int → Int} (b0 : 0 < b) (k0 : 0 ≤ k) (n0 : 0 ≤ n) : aloN (shM μ b k P) n = shM μ b (k + 1 + n) (fun s j => if s = k + 1 then (if 0 ≤ j ∧ j < n then b + k + 2 + j else 0) else if k + 1 < s then 0 else P s j) := by
  funext o j
  unfold aloN
  rw [shM_0]
  unfold shM
  dsimp only
  repeat' split
  all_goals first | rfl | (exfalso; omega) | omega
theorem kdB {b r n : Int} {K : Nat} (hb : SHB b) (r0 : 0 ≤ r) (r1 : r < 217) (h : shK r = (K, n)) : kd (b + r) = K ∧ ln (b + r) = n := by
  unfold kd ln
  rw [ob_b hb r0 r1, h]
  exact ⟨rfl, rfl⟩
theorem sh_nw {μ : Mem} {b k n : Int} {K : Nat} {P : Int → Int → Int} (hb : SHB b) (k0 : 0 ≤ k) (k1 : k < 216) (h : shK (k + 1) = (K, n)) (n0 : 0 ≤ n) : nw (shM μ b k P) K n = some (shM μ b (k + 1) (fun s j => if s = k + 1 then 0 else P s j)) := by
  have b3 := (SHB_r hb).1
  have e := kdB hb (r := k + 1) (by omega) (by omega) h
  unfold nw
  rw [shM_0, show b + k + 1 = b + (k + 1) by omega, if_pos ⟨e.1, e.2, n0, by omega⟩, shM_a (by omega) k0]
theorem sh_nwA {μ : Mem} {b k n : Int} {K : Nat} {P : Int → Int → Int} (hb : SHB b) (k0 : 0 ≤ k) (k1 : k < 216) (h : shK (k + 1) = (K, n)) (n0 : 0 ≤ n) (n1 : n ≤ 200000) : nwA (shM μ b k P) K n = some (shM μ b (k + 1) (fun s j => if s = k + 1 then 0 else P s j)) := by
  unfold nwA
  rw [if_pos n1, sh_nw hb k0 k1 h n0]
theorem sh_nw2 {μ : Mem} {b k n l : Int} {P : Int → Int → Int} (hb : SHB b) (k0 : 0 ≤ k) (n0 : 0 ≤ n) (n1 : n ≤ 100) (k1 : k + 1 + n < 217) (l0 : 0 ≤ l) (l1 : l ≤ 1000) (h : shK (k + 1) = (110, n)) (h2 : ∀ r, k + 1 < r → r ≤ k + 1 + n → shK r = (100, l)) : nw2 (shM μ b k P) n l = some (shM μ b (k + 1 + n) (fun s j => if s = k + 1 then (if 0 ≤ j ∧ j < n then b + k + 2 + j else 0) else if k + 1 < s then 0 else P s j)) := by
  have b3 := (SHB_r hb).1
  have e := kdB hb (r := k + 1) (by omega) (by omega) h
  have al : ((List.range n.toNat).all fun j => decide (kd (b + k + 2 + (j : Int)) = 100 ∧ ln (b + k + 2 + (j : Int)) = l)) = true := by
    rw [List.all_eq_true]
    intro j hj
    have hj' := List.mem_range.mp hj
    have e2 := kdB hb (r := k + 2 + j) (by omega) (by omega) (h2 (k + 2 + j) (by omega) (by omega))
    rw [show b + k + 2 + (j : Int) = b + (k + 2 + j) by omega]
    exact decide_eq_true e2
  unfold nw2
  rw [shM_0, if_pos ⟨by rw [show b + k + 1 = b + (k + 1) by omega]; exact e.1, by rw [show b + k + 1 = b + (k + 1) by omega]; exact e.2, n0, n1, l0, l1, by omega, al⟩, shM_n (by omega) k0 n0]
theorem sh_pf {μ : Mem} {b k f v : Int} {t : Nat} {P : Int → Int → Int} (hb : SHB b) (k0 : 0 ≤ k) (ht : t = 0 ∨ t = 1) : pf (shM μ b k P) 7 f t b v = some (shM μ b k (fun s j => if s = 0 ∧ j = f then v else P s j)) := by
  have b3 := (SHB_r hb).1
  have e := (kdB hb (r := 0) (by omega) (by omega) (K := 7) (n := 13) (by decide +kernel)).1
  rw [Int.add_zero] at e
  unfold pf
  rw [if_pos ⟨e, by omega, fun x => by omega, fun x => by omega⟩]
  have := shM_w (μ := μ) (b := b) (k := k) (r := 0) (f := f) (v := v) (P := P) (by omega) (by omega) k0
  rw [Int.add_zero] at this
  rw [this]
theorem sh_gf {μ : Mem} {b k f : Int} {P : Int → Int → Int} (hb : SHB b) (k0 : 0 ≤ k) : gf (shM μ b k P) 7 f b = some (P 0 f) := by
  have b3 := (SHB_r hb).1
  have e := (kdB hb (r := 0) (by omega) (by omega) (K := 7) (n := 13) (by decide +kernel)).1
  rw [Int.add_zero] at e
  have i := shM_i (μ := μ) (b := b) (k := k) (r := 0) (j := f) (P := P) (by omega) (by omega) k0
  rw [Int.add_zero] at i
  unfold gf
  rw [if_pos e, i]
theorem sh_fill {μ : Mem} {b k r n v : Int} {P : Int → Int → Int} (hb : SHB b) (r0 : 0 ≤ r) (r1 : r ≤ k) (k1 : k < 217) (h : shK r = (100, n)) (n0 : 0 ≤ n) (n1 : n ≤ 1000) : wAr_fill (shM μ b k P) (b + r) v = some (shM μ b k (fun s j => if s = r ∧ 0 ≤ j ∧ j < n then v else P s j)) := by
  have b3 := (SHB_r hb).1
  have e := kdB hb r0 (by omega) h
  unfold wAr_fill
  rw [aln_ok e.1 e.2 (Or.inl rfl), Option.bind_some]
  have lp : ∀ (d N : Nat) (i : Int), d < N → i + d = n → 0 ≤ i → wAr_fill_5 (b + r) v n N (shM μ b k (fun s j => if s = r ∧ 0 ≤ j ∧ j < i then v else P s j)) i = some (shM μ b k (fun s j => if s = r ∧ 0 ≤ j ∧ j < n then v else P s j)) := by
    intro d
    induction d with
    | zero =>
      intro N i hN hi i0
      obtain ⟨N, rfl⟩ : ∃ j, N = j + 1 := ⟨N - 1, by omega⟩
      obtain rfl : i = n := by omega
      rw [wAr_fill_5, if_pos (Int.le_refl _)]
    | succ d ih =>
      intro N i hN hi i0
      obtain ⟨N, rfl⟩ : ∃ j, N = j + 1 := ⟨N - 1, by omega⟩
      rw [wAr_fill_5, if_neg (by omega), wI_ok e.1 (by omega) i0 (by omega), Option.bind_some, shM_w (by omega) r0 r1, jadd_e (by omega) (by omega), ← ih N (i + 1) (by omega) (by omega) (by omega)]
      congr 1
      refine shM_c (fun s j _ _ => ?_)
      by_cases z : s = r ∧ j = i
      · rw [if_pos z, if_pos (by omega)]
      · rw [if_neg z]
        by_cases y : s = r ∧ 0 ≤ j ∧ j < i
        · rw [if_pos y, if_pos (by omega)]
        · rw [if_neg y, if_neg (by omega)]
  have := lp n.toNat big 0 (by have := big_ge; omega) (by omega) (Int.le_refl _)
  rw [← this]
  congr 1
  exact shM_c (fun s j _ _ => by rw [if_neg (by omega)])
theorem sh_fillR {μ : Mem} {b k x n l v : Int} {P : Int → Int → Int} (hb : SHB b) (x0 : 0 ≤ x) (k1 : k < 217) (xk : x + n ≤ k) (n0 : 0 ≤ n) (n1 : n ≤ 100) (l0 : 0 ≤ l) (l1 : l ≤ 1000) (h : shK x = (110, n)) (h2 : ∀ r, x < r → r ≤ x + n → shK r = (100, l)) (hP : ∀ i, 0 ≤ i → i < n → P x i = b + x + 1 + i) : wSh_fillRows (shM μ b k P) (b + x) v = some (shM μ b k (fun s j => if x < s ∧ s ≤ x + n ∧ 0 ≤ j ∧ j < l then v else P s j)) := by
  have b3 := (SHB_r hb).1
  have e := kdB hb x0 (by omega) h
  unfold wSh_fillRows
  rw [aln_ok e.1 e.2 (Or.inr (Or.inl rfl)), Option.bind_some]
  have lp : ∀ (d N : Nat) (i : Int), d < N → i + d = n → 0 ≤ i → wSh_fillRows_8 v (b + x) n N (shM μ b k (fun s j => if x < s ∧ s ≤ x + i ∧ 0 ≤ j ∧ j < l then v else P s j)) i = some (shM μ b k (fun s j => if x < s ∧ s ≤ x + n ∧ 0 ≤ j ∧ j < l then v else P s j)) := by
    intro d
    induction d with
    | zero =>
      intro N i hN hi i0
      obtain ⟨N, rfl⟩ : ∃ j, N = j + 1 := ⟨N - 1, by omega⟩
      obtain rfl : i = n := by omega
      rw [wSh_fillRows_8, if_pos (Int.le_refl _)]
    | succ d ih =>
      intro N i hN hi i0
      obtain ⟨N, rfl⟩ : ∃ j, N = j + 1 := ⟨N - 1, by omega⟩
      have rd : rdA (shM μ b k (fun s j => if x < s ∧ s ≤ x + i ∧ 0 ≤ j ∧ j < l then v else P s j)) (b + x) i = some (b + (x + 1 + i)) := by
        unfold rdA
        rw [if_pos ⟨Or.inl e.1, by omega, i0, by omega⟩, shM_i (by omega) x0 (by omega), if_neg (by omega), hP i i0 (by omega), show b + x + 1 + i = b + (x + 1 + i) by omega]
      rw [wSh_fillRows_8, if_neg (by omega), rd, Option.bind_some, sh_fill hb (by omega) (by omega) k1 (h2 (x + 1 + i) (by omega) (by omega)) l0 l1, Option.bind_some, jadd_e (by omega) (by omega), ← ih N (i + 1) (by omega) (by omega) (by omega)]
      congr 1
      refine shM_c (fun s j _ _ => ?_)
      by_cases z : s = x + 1 + i ∧ 0 ≤ j ∧ j < l
      · rw [if_pos z, if_pos (by omega)]
      · rw [if_neg z]
        by_cases y : x < s ∧ s ≤ x + i ∧ 0 ≤ j ∧ j < l
        · rw [if_pos y, if_pos (by omega)]
        · rw [if_neg y, if_neg (by omega)]
  have := lp n.toNat big 0 (by have := big_ge; omega) (by omega) (Int.le_refl _)
  rw [← this]
  congr 1
  exact shM_c (fun s j _ _ => by rw [if_neg (by omega)])
