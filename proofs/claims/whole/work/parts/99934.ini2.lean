-- L3: what the constructors make: the player, the statement
theorem nwIn {μ : Mem} {k n : Int} {K : Nat} {G : Mem → Int → Option Mem} (h : μ 0 0 + 1 = k) (hk : kd k = K ∧ ln k = n ∧ 0 ≤ n ∧ 0 < k) : ((nw μ K n).bind fun m => (some (μ 0 0 + 1)).bind fun x => G m x) = G (al k μ) k := by
  unfold nw
  rw [h, if_pos ⟨hk.1, hk.2.1, hk.2.2.1, by omega⟩, Option.bind_some, Option.bind_some, alo_al h]
theorem nwAIn {μ : Mem} {k n : Int} {K : Nat} {G : Mem → Int → Option Mem} (h : μ 0 0 + 1 = k) (hk : kd k = K ∧ ln k = n ∧ 0 ≤ n ∧ n ≤ 200000 ∧ 0 < k) : ((nwA μ K n).bind fun m => (some (μ 0 0 + 1)).bind fun x => G m x) = G (al k μ) k := by
  unfold nwA
  rw [if_pos hk.2.2.2.1]
  exact nwIn h ⟨hk.1, hk.2.1, hk.2.2.1, hk.2.2.2.2⟩
theorem al_0 {μ : Mem} {k : Int} : al k μ 0 0 = k := if_pos ⟨rfl, rfl⟩
theorem al_1 {μ : Mem} {k : Int} (h : 0 < k) : al k μ 0 1 = μ 0 1 := by
  unfold al
  rw [if_neg (by decide), if_neg (by omega)]
theorem al_k {μ : Mem} {k : Int} (h : 0 < k) : al k μ k = fun _ => 0 := by
  funext j
  unfold al
  rw [if_neg (by omega), if_pos rfl]
theorem al_up {μ : Mem} {k : Int} (h : 0 < k) : al k μ = up (al k μ) k (fun _ => 0) := by
  have e := @up_id (al k μ) k
  rw [al_k h] at e
  exact e.symm
/-- two rows of 360 get what the row s says, i by i -/
def pl2 (μ : Mem) (s x y i : Int) : Mem := fun o j => if (o = x ∨ o = y) ∧ 0 ≤ j ∧ j < i then μ s (j % 9) else μ o j
theorem pl2_o {μ : Mem} {s x y i o : Int} (h : ¬ o = x) (h2 : ¬ o = y) : pl2 μ s x y i o = μ o := by
  funext j
  unfold pl2
  rw [if_neg (by omega)]
theorem pl2_i {μ : Mem} {s x y i o j : Int} (h : o = x ∨ o = y) (h0 : 0 ≤ j) (h1 : j < i) : pl2 μ s x y i o j = μ s (j % 9) := if_pos ⟨h, h0, h1⟩
theorem pl2_0 {μ : Mem} {s x y : Int} : pl2 μ s x y 0 = μ := by
  funext o j
  unfold pl2
  rw [if_neg (by omega)]
theorem pl2_s {μ : Mem} {s x y i : Int} (hxy : ¬ x = y) (hs : ¬ s = x) (hs2 : ¬ s = y) (i0 : 0 ≤ i) : wr (wr (pl2 μ s x y i) x i (μ s (i % 9))) y i (μ s (i % 9)) = pl2 μ s x y (i + 1) := by
  funext o j
  unfold wr pl2
  by_cases a : o = y ∧ j = i
  · rw [if_pos a, if_pos (by omega), a.2]
  · rw [if_neg a]
    by_cases b : o = x ∧ j = i
    · rw [if_pos b, if_pos (by omega), b.2]
    · rw [if_neg b]
      by_cases d : (o = x ∨ o = y) ∧ 0 ≤ j ∧ j < i
      · rw [if_pos d, if_pos (by omega)]
      · rw [if_neg d, if_neg (by omega)]
theorem k222 : kd 222 = 100 ∧ ln 222 = 360 := by decide +kernel
theorem k223 : kd 223 = 100 ∧ ln 223 = 360 := by decide +kernel
theorem k221 : kd 221 = 3 := by decide +kernel
theorem pl_72 {μ : Mem} (h6 : μ 221 6 = 222) (h7 : μ 221 7 = 223) : ∀ (d N : Nat) (i : Int), d < N → i + d = 360 → 0 ≤ i → wPl_init_72 221 N (pl2 μ (-1) 222 223 i) i = some (pl2 μ (-1) 222 223 360) := by
  intro d
  induction d with
  | zero =>
    intro N i hN hi i0
    obtain ⟨N, rfl⟩ : ∃ j, N = j + 1 := ⟨N - 1, by omega⟩
    obtain rfl : i = 360 := by omega
    rw [wPl_init_72, if_pos (by decide)]
  | succ d ih =>
    intro N i hN hi i0
    obtain ⟨N, rfl⟩ : ∃ j, N = j + 1 := ⟨N - 1, by omega⟩
    have e1 : gf (pl2 μ (-1) 222 223 i) 3 6 221 = some 222 := by
      unfold gf
      rw [if_pos k221, pl2_o (by decide) (by decide), h6]
    have e2 : aI (pl2 μ (-1) 222 223 i) (-1) 9 (jrem i 9) = some (μ (-1) (i % 9)) := by
      rw [jrem_e i0 (by omega) (by decide) (by decide), aI_ok (by omega) (by omega), pl2_o (by decide) (by decide)]
    have e3 : wI (pl2 μ (-1) 222 223 i) 222 i (μ (-1) (i % 9)) = some (wr (pl2 μ (-1) 222 223 i) 222 i (μ (-1) (i % 9))) := wI_ok k222.1 (by decide) i0 (by rw [k222.2]; omega)
    obtain ⟨m5, em5⟩ : ∃ m5, m5 = wr (pl2 μ (-1) 222 223 i) 222 i (μ (-1) (i % 9)) := ⟨_, rfl⟩
    have f221 : m5 221 = μ 221 := by rw [em5, wr_o (by decide), pl2_o (by decide) (by decide)]
    have e4 : gf m5 3 7 221 = some 223 := by
      unfold gf
      rw [if_pos k221, f221, h7]
    have e5 : gf m5 3 6 221 = some 222 := by
      unfold gf
      rw [if_pos k221, f221, h6]
    have e6 : rdI m5 222 i = some (μ (-1) (i % 9)) := by
      rw [rdI_ok k222.1 i0 (by rw [k222.2]; omega), em5, wr_eq]
    have e7 : wI m5 223 i (μ (-1) (i % 9)) = some (wr m5 223 i (μ (-1) (i % 9))) := wI_ok k223.1 (by decide) i0 (by rw [k223.2]; omega)
    rw [wPl_init_72, if_neg (by omega), e1, Option.bind_some, e2, Option.bind_some, e3, Option.bind_some, ← em5, e4, Option.bind_some, e5, Option.bind_some, e6, Option.bind_some, e7, Option.bind_some, em5, pl2_s (by decide) (by decide) (by decide) i0, jadd_e (by omega) (by omega)]
    exact ih N (i + 1) (by omega) (by omega) (by omega)
theorem mk_Pl {c : Mem} (h0 : c 0 0 = 221) : ∃ c', wPl_init c 221 3 = some c' ∧ c' 0 0 = 225 ∧ c' 0 1 = c 0 1 ∧ (∀ o, ¬ o = 0 → ¬ (221 ≤ o ∧ o ≤ 225) → c' o = c o) ∧ (∀ i, 0 ≤ i → i < 360 → c' 222 i = c (-1) (i % 9)) ∧ (∀ i, 0 ≤ i → i < 360 → c' 223 i = c (-1) (i % 9)) ∧ (∀ j, c' 224 j = 0) ∧ (∀ j, c' 225 j = 0) ∧ c' 221 0 = 3 ∧ c' 221 1 = 0 ∧ c' 221 2 = 0 ∧ c' 221 3 = 0 ∧ c' 221 4 = 0 ∧ c' 221 5 = 0 ∧ c' 221 6 = 222 ∧ c' 221 7 = 223 ∧ c' 221 8 = 224 ∧ c' 221 9 = 225 := by
  have h1 : c 0 0 + 1 = 222 := by omega
  obtain ⟨m, em⟩ : ∃ m, m = wr (wr (al 225 (wr (al 224 (wr (al 223 (wr (al 222 (wr (wr (wr (wr (wr c 221 1 0) 221 2 0) 221 3 0) 221 4 0) 221 5 0)) 221 6 222)) 221 7 223)) 221 8 224)) 221 9 225) 221 0 3 := ⟨_, rfl⟩
  have e6 : m 221 6 = 222 := by rw [em]; rfl
  have e7 : m 221 7 = 223 := by rw [em]; rfl
  have hl := pl_72 e6 e7 360 big 0 b360 (by decide) (Int.le_refl _)
  rw [pl2_0] at hl
  have fr : ∀ o, ¬ o = 0 → ¬ (221 ≤ o ∧ o ≤ 225) → m o = c o := fun o x y => by rw [em, wr_o (by omega), wr_o (by omega), al_o (by omega) (by omega), wr_o (by omega), al_o (by omega) (by omega), wr_o (by omega), al_o (by omega) (by omega), wr_o (by omega), al_o (by omega) (by omega), wr_o (by omega), wr_o (by omega), wr_o (by omega), wr_o (by omega), wr_o (by omega)]
  have n1 : m (-1) = c (-1) := fr (-1) (by decide) (by decide)
  refine ⟨pl2 m (-1) 222 223 360, ?_, ?_, ?_, fun o x y => by rw [pl2_o (by omega) (by omega)]; exact fr o x y, fun i i0 i1 => by rw [pl2_i (Or.inl rfl) i0 i1, n1], fun i i0 i1 => by rw [pl2_i (Or.inr rfl) i0 i1, n1], fun j => ?_, fun j => ?_, ?_, ?_, ?_, ?_, ?_, ?_, ?_, ?_, ?_, ?_⟩
  · unfold wPl_init
    rw [if_neg (by decide), pfb (by decide +kernel) (by decide), pfb (by decide +kernel) (by decide), pfb (by decide +kernel) (by decide), pfb (by decide +kernel) (by decide), pfb (by decide +kernel) (by decide), nwpf (k := 222) (by exact h1) (by decide +kernel) (by decide +kernel), nwpf (k := 223) (by rfl) (by decide +kernel) (by decide +kernel), nwpf (k := 224) (by rfl) (by decide +kernel) (by decide +kernel), nwpf (k := 225) (by rfl) (by decide +kernel) (by decide +kernel), pfb (by decide +kernel) (by decide), ← em]
    exact hl
  all_goals rw [pl2_o (by decide) (by decide), em]
  all_goals rfl
theorem mk_St {c : Mem} (h0 : c 0 0 = 241) : ∃ c', wSt_init c 241 = some c' ∧ c' 0 0 = 249 ∧ c' 0 1 = c 0 1 ∧ (∀ o, ¬ o = 0 → ¬ (241 ≤ o ∧ o ≤ 249) → c' o = c o) ∧ c' 241 2 = 242 ∧ c' 241 3 = 243 ∧ c' 241 4 = 244 ∧ c' 241 5 = 245 ∧ c' 241 7 = 246 ∧ c' 241 9 = 247 ∧ c' 241 11 = 248 ∧ c' 248 0 = 249 := by
  have h1 : c 0 0 + 1 = 242 := by omega
  obtain ⟨m, em⟩ : ∃ m, m = wr (wr (al 247 (wr (wr (al 246 (wr (wr (al 245 (wr (al 244 (wr (al 243 (wr (al 242 (wr (wr c 241 0 (-1)) 241 1 (-1))) 241 2 242)) 241 3 243)) 241 4 244)) 241 5 245) 241 6 0)) 241 7 246) 241 8 0)) 241 9 247) 241 10 0 := ⟨_, rfl⟩
  have m0 : m 0 0 + 1 = 248 := by
    rw [em]
    exact (rfl : (247 : Int) + 1 = 248)
  refine ⟨wr (wr (wr (al 249 (al 248 m)) 248 0 249) 248 1 0) 241 11 248, ?_, rfl, by rw [em]; rfl, fun o x y => by rw [em, wr_o (by omega), wr_o (by omega), wr_o (by omega), al_o (by omega) (by omega), al_o (by omega) (by omega), wr_o (by omega), wr_o (by omega), al_o (by omega) (by omega), wr_o (by omega), wr_o (by omega), al_o (by omega) (by omega), wr_o (by omega), wr_o (by omega), al_o (by omega) (by omega), wr_o (by omega), al_o (by omega) (by omega), wr_o (by omega), al_o (by omega) (by omega), wr_o (by omega), al_o (by omega) (by omega), wr_o (by omega), wr_o (by omega)], by rw [em]; rfl, by rw [em]; rfl, by rw [em]; rfl, by rw [em]; rfl, by rw [em]; rfl, by rw [em]; rfl, by rw [em]; rfl, rfl⟩
  · unfold wSt_init
    rw [if_neg (by decide), pfb (by decide +kernel) (by decide), pfb (by decide +kernel) (by decide), nwpf (k := 242) (by exact h1) (by decide +kernel) (by decide +kernel), nwpf (k := 243) (by rfl) (by decide +kernel) (by decide +kernel), nwpf (k := 244) (by rfl) (by decide +kernel) (by decide +kernel), nwpf (k := 245) (by rfl) (by decide +kernel) (by decide +kernel), pfb (by decide +kernel) (by decide), nwpf (k := 246) (by rfl) (by decide +kernel) (by decide +kernel), pfb (by decide +kernel) (by decide), nwpf (k := 247) (by rfl) (by decide +kernel) (by decide +kernel), pfb (by decide +kernel) (by decide), ← em]
    rw [nwIn m0 (by decide +kernel), if_pos (by decide +kernel)]
    unfold wRow_init
    rw [if_neg (by decide), nwpf (k := 249) (by rfl) (by decide +kernel) (by decide +kernel), pfb (by decide +kernel) (by decide), Option.bind_some, pfb (by decide +kernel) (by decide)]
