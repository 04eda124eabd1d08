-- L3: enter: a word's number, a number, read by the model
def ltl (t : Int → Int) (q : Int) : Nat → List Int
  | 0 => []
  | k + 1 => (t (q + (k : Int)) - 96) :: ltl t q k
def nv (t : Int → Int) (q : Int) : Nat → Int
  | 0 => 0
  | k + 1 => 10 * nv t q k + t (q + (k : Int)) - 48
def wfd (v : Int) : Int := itr (fun w s => if tbl wdT w = v then w else s) (-1) 70
def LQ (t : Int → Int) (n q : Int) : Int := rq t n 97 122 6000 q
def DQ (t : Int → Int) (n q : Int) : Int := rq t n 48 57 6000 q
theorem ltl_len {t : Int → Int} {q : Int} : ∀ k : Nat, (ltl t q k).length = k
  | 0 => rfl
  | k + 1 => by
    show (ltl t q k).length + 1 = k + 1
    rw [ltl_len k]
theorem ltl_mem {t : Int → Int} {q : Int} : ∀ k : Nat, (∀ i, q ≤ i → i < q + k → 97 ≤ t i ∧ t i ≤ 122) → ∀ d ∈ ltl t q k, 1 ≤ d ∧ d ≤ 26
  | 0, _, d, hd => by unfold ltl at hd; exact absurd hd (by simp)
  | k + 1, h, d, hd => by
    unfold ltl at hd
    rcases List.mem_cons.mp hd with e | e
    · have := h (q + k) (by omega) (by omega)
      omega
    · exact ltl_mem k (fun i a b => h i a (by omega)) d e
theorem ltl_ext {t s : Int → Int} {q p : Int} : ∀ k : Nat, ltl t q k = ltl s p k ↔ ∀ j : Int, 0 ≤ j → j < k → t (q + j) = s (p + j)
  | 0 => ⟨fun _ j a b => by omega, fun _ => rfl⟩
  | k + 1 => by
    unfold ltl
    rw [List.cons.injEq, ltl_ext k]
    refine ⟨fun h j a b => ?_, fun h => ⟨?_, fun j a b => h j a (by omega)⟩⟩
    · by_cases e : j = k
      · subst e; omega
      · exact h.2 j a (by omega)
    · have := h k (by omega) (by omega)
      omega
theorem qmul_e {x y : Int} (h : R64 (x * y)) : qmul x y = x * y := by
  unfold qmul; rw [← Int64.ofInt_mul]; exact i64_id h
theorem qadd_e {x y : Int} (h : R64 (x + y)) : qadd x y = x + y := by
  unfold qadd; rw [← Int64.ofInt_add]; exact i64_id h
theorem qcmp_0 {x y : Int} (hx : R64 x) (hy : R64 y) : qcmp x y = 0 ↔ x = y := by
  unfold qcmp lg_cmp
  constructor
  · intro h
    by_cases e : Int64.ofInt x = Int64.ofInt y
    · have := congrArg Int64.toInt e
      rwa [i64_id hx, i64_id hy] at this
    · exfalso
      split at h
      · exact absurd h (by decide)
      · exact absurd h (by decide)
  · intro h
    subst h
    rw [if_neg (Int64.lt_irrefl), if_pos rfl]
    rfl
theorem b70 : 70 < big := Nat.lt_of_lt_of_le (by decide) big_ge
theorem wd_64 : ∀ w ∈ List.range 70, -9223372036854775808 ≤ tbl wdT (w : Int) ∧ tbl wdT (w : Int) < 9223372036854775808 := by decide +kernel
theorem wfd_s (v : Int) : (wfd v = -1 ∧ ∀ w, 0 ≤ w → w < 70 → tbl wdT w ≠ v) ∨ (0 ≤ wfd v ∧ wfd v < 70 ∧ tbl wdT (wfd v) = v) := by
  have h := itr_inv (fun w s => if tbl wdT w = v then w else s) (-1) (fun i s => (s = -1 ∧ ∀ w, 0 ≤ w → w < i → tbl wdT w ≠ v) ∨ (0 ≤ s ∧ s < i ∧ tbl wdT s = v)) (Or.inl ⟨rfl, fun w a b => by omega⟩) (by
    intro k s h
    split
    · rename_i hc
      exact Or.inr ⟨by omega, by omega, hc⟩
    · rename_i hc
      rcases h with ⟨h1, h2⟩ | ⟨h1, h2, h3⟩
      · refine Or.inl ⟨h1, fun w a b => ?_⟩
        by_cases e : w = k
        · subst e; exact hc
        · exact h2 w a (by omega)
      · exact Or.inr ⟨h1, by omega, h3⟩) 70
  exact h
/-- the word's token written at the end -/
noncomputable def wtk (m : Mem) (f : Int) : Option Mem := (sI m 268 122 (m 259 16) (if f < 0 then 4 else 1)).bind fun m1 => sI m1 269 122 (m1 259 16) f
theorem M_rw69 {m : Mem} (hk : ∀ i, 0 ≤ i → i < 70 → m 260 i = tbl wdT i) {v l : Int} (hv : R64 v) (hl : l ≤ 9) : M_readWord_69 m v l big (-1) 0 = wtk m (wfd v) := by
  refine loopZ (fun k s i => M_readWord_69 m v l k s i) (fun w s => if tbl wdT w = v then w else s) (-1) 70 70 rfl ?_ (fun k => ?_) big b70
  · intro k i s i0 i1
    show M_readWord_69 m v l (k + 1) s i = M_readWord_69 m v l k _ (i + 1)
    rw [M_readWord_69, if_neg (show ¬ 69 < i by omega), if_neg (show ¬ 9 < l by omega), aI_ok i0 i1, Option.bind_some, hk i i0 i1, jadd_e (by omega) (by omega)]
    obtain ⟨i', rfl⟩ : ∃ i' : Nat, i = (i' : Int) := ⟨i.toNat, by omega⟩
    have hw : R64 (tbl wdT (i' : Int)) := wd_64 i' (List.mem_range.mpr (by omega))
    by_cases e : tbl wdT (i' : Int) = v
    · rw [if_neg (fun x => x ((qcmp_0 hw hv).mpr e)), if_pos e]
    · rw [if_pos (fun x => e ((qcmp_0 hw hv).mp x)), if_neg e]
  · show M_readWord_69 m v l (k + 1) (wfd v) 70 = wtk m (wfd v)
    rw [M_readWord_69, if_pos (show (69 : Int) < 70 by decide)]
    unfold wtk
    by_cases e : wfd v < 0
    · rw [if_pos e, if_pos e]
      cases sI m 268 122 (m 259 16) 4 with
      | none => rfl
      | some m1 => rw [Option.bind_some, Option.bind_some]; cases sI m1 269 122 (m1 259 16) (wfd v) <;> rfl
    · rw [if_neg e, if_neg e]
      cases sI m 268 122 (m 259 16) 1 with
      | none => rfl
      | some m1 => rw [Option.bind_some, Option.bind_some]; cases sI m1 269 122 (m1 259 16) (wfd v) <;> rfl
theorem itr_const {σ : Type} (s : σ) : ∀ k : Nat, itr (fun _ s => s) s k = s
  | 0 => rfl
  | k + 1 => itr_const s k
theorem M_rw69' {m : Mem} {v l : Int} (hl : 9 < l) : M_readWord_69 m v l big (-1) 0 = wtk m (-1) := by
  refine loopZ (fun k s i => M_readWord_69 m v l k s i) (fun w s => s) (-1) 70 70 rfl ?_ (fun k => ?_) big b70
  · intro k i s i0 i1
    show M_readWord_69 m v l (k + 1) s i = M_readWord_69 m v l k _ (i + 1)
    rw [M_readWord_69, if_neg (show ¬ 69 < i by omega), if_pos hl, jadd_e (by omega) (by omega)]
  · rw [itr_const]
    show M_readWord_69 m v l (k + 1) (-1) 70 = wtk m (-1)
    rw [M_readWord_69, if_pos (show (69 : Int) < 70 by decide)]
    unfold wtk
    rw [if_pos (show (-1 : Int) < 0 by decide), if_pos (show (-1 : Int) < 0 by decide)]
    cases sI m 268 122 (m 259 16) 4 with
    | none => rfl
    | some m1 => rw [Option.bind_some, Option.bind_some]; cases sI m1 269 122 (m1 259 16) (-1) <;> rfl
theorem M_isLetter_e {m : Mem} {x : Int} : M_isLetter m x = some (if 97 ≤ x ∧ x ≤ 122 then 1 else 0) := by
  unfold M_isLetter
  rw [M_in_e, Option.bind_some]
  by_cases z : 97 ≤ x ∧ x ≤ 122
  · rw [if_pos z]; rfl
  · rw [if_neg z]; rfl
theorem M_isDigit_e {m : Mem} {x : Int} : M_isDigit m x = some (if 48 ≤ x ∧ x ≤ 57 then 1 else 0) := by
  unfold M_isDigit
  rw [M_in_e, Option.bind_some]
  by_cases z : 48 ≤ x ∧ x ≤ 57
  · rw [if_pos z]; rfl
  · rw [if_neg z]; rfl
theorem TPm_18 {m : Mem} {t : Int → Int} {n v : Int} (h : TPm m t n) : TPm (wr m 259 18 v) t n := ⟨by rw [wr_f (by decide)]; exact h.1, h.2.1, h.2.2.1, fun i i0 i1 => by rw [wr_o (by decide)]; exact h.2.2.2 i i0 i1⟩
theorem M_rw4 {t : Int → Int} {n q : Int} (q0 : 0 ≤ q) : ∀ (k N : Nat) (m : Mem) (p v : Int), TPm m t n → m 259 18 = p → q ≤ p → p ≤ n → n - p ≤ k → k < N → (∀ i, q ≤ i → i < p → 97 ≤ t i ∧ t i ≤ 122) → (p - q ≤ 9 → v = vl (ltl t q (p - q).toNat)) → ∃ v', M_readWord_4 N m v (p - q) = M_readWord_69 (wr m 259 18 (rq t n 97 122 k p)) v' (rq t n 97 122 k p - q) big (-1) 0 ∧ (rq t n 97 122 k p - q ≤ 9 → v' = vl (ltl t q (rq t n 97 122 k p - q).toNat)) := by
  intro k
  induction k with
  | zero =>
    intro N m p v h hp p0 p1 h1 h2 hl hv
    obtain ⟨N, rfl⟩ : ∃ j, N = j + 1 := ⟨N - 1, by omega⟩
    refine ⟨v, ?_, hv⟩
    show _ = M_readWord_69 (wr m 259 18 p) v (p - q) big (-1) 0
    rw [M_readWord_4, hp, M_byteAt_e h (by omega), Option.bind_some, M_isLetter_e, Option.bind_some, if_neg (show ¬ p < n by omega), if_neg (show ¬ ((97 : Int) ≤ 0 ∧ (0 : Int) ≤ 122) by decide), if_pos rfl, wr_self hp]
  | succ k ih =>
    intro N m p v h hp p0 p1 h1 h2 hl hv
    obtain ⟨N, rfl⟩ : ∃ j, N = j + 1 := ⟨N - 1, by omega⟩
    have hn := h.2.2.1
    rw [M_readWord_4, hp, M_byteAt_e h (by omega), Option.bind_some, M_isLetter_e, Option.bind_some, rq]
    by_cases z : p < n ∧ 97 ≤ t p ∧ t p ≤ 122
    · rw [if_pos z, if_pos z.1, if_pos z.2, if_neg (show ¬ (1 : Int) = 0 by decide)]
      have go : ∀ w, (p + 1 - q ≤ 9 → w = vl (ltl t q (p + 1 - q).toNat)) → ∃ v', M_readWord_46 (M_readWord_4 N) m (p - q) w = M_readWord_69 (wr m 259 18 (rq t n 97 122 k (p + 1))) v' (rq t n 97 122 k (p + 1) - q) big (-1) 0 ∧ (rq t n 97 122 k (p + 1) - q ≤ 9 → v' = vl (ltl t q (rq t n 97 122 k (p + 1) - q).toNat)) := by
        intro w hw
        unfold M_readWord_46
        rw [Option.bind_some, hp, jadd_e (by omega) (by omega), jadd_e (by omega) (by omega), show p - q + 1 = p + 1 - q by omega]
        obtain ⟨v', e1, e2⟩ := ih N (wr m 259 18 (p + 1)) (p + 1) w (TPm_18 h) wr_eq (by omega) (by omega) (by omega) (by omega) (fun i a b => by
          by_cases e : i = p
          · subst e; exact z.2
          · exact hl i a (by omega)) hw
        exact ⟨v', by rw [e1, wr_wr], e2⟩
      by_cases z9 : 9 ≤ p - q
      · rw [if_pos z9]
        exact go v (fun x => by omega)
      · rw [if_neg z9, Option.bind_some]
        refine go _ (fun _ => ?_)
        have e0 := hv (by omega)
        have em : (p + 1 - q).toNat = (p - q).toNat + 1 := by omega
        have ep : q + ((p - q).toNat : Int) = p := by omega
        have hb := vl_b (ltl t q (p - q).toNat) (ltl_mem _ (fun i a b => hl i a (by omega))) (by rw [ltl_len]; omega)
        have h0 := vl_0 (ltl t q (p - q).toNat) (ltl_mem _ (fun i a b => hl i a (by omega)))
        rw [em]
        show qadd (qmul 27 v) (jsub (t p) 96) = 27 * vl (ltl t q (p - q).toNat) + (t (q + ((p - q).toNat : Int)) - 96)
        rw [ep, e0, jsub_e (by omega) (by omega), qmul_e ⟨by omega, by omega⟩, qadd_e ⟨by omega, by omega⟩]
    · rw [if_neg z]
      refine ⟨v, ?_, hv⟩
      rw [wr_self hp]
      by_cases z2 : p < n
      · rw [if_pos z2, if_neg (fun x => z ⟨z2, x⟩), if_pos rfl]
      · rw [if_neg z2, if_neg (show ¬ ((97 : Int) ≤ 0 ∧ (0 : Int) ≤ 122) by decide), if_pos rfl]
theorem nv_r {t : Int → Int} {q : Int} : ∀ k : Nat, k ≤ 4 → (∀ i, q ≤ i → i < q + k → 48 ≤ t i ∧ t i ≤ 57) → 0 ≤ nv t q k ∧ nv t q k ≤ 9999 ∧ (k ≤ 3 → nv t q k ≤ 999) ∧ (k ≤ 2 → nv t q k ≤ 99) ∧ (k ≤ 1 → nv t q k ≤ 9) ∧ (k ≤ 0 → nv t q k ≤ 0)
  | 0, _, _ => by unfold nv; omega
  | k + 1, hk, h => by
    have a := nv_r k (by omega) (fun i a b => h i a (by omega))
    have b := h (q + k) (by omega) (by omega)
    unfold nv
    omega
/-- the number's token written at the end -/
noncomputable def ntk (m : Mem) (l v : Int) : Option Mem := (sI m 268 122 (m 259 16) (if 4 < l then 4 else 2)).bind fun m1 => sI m1 269 122 (m1 259 16) v
theorem M_rn4 {t : Int → Int} {n q : Int} (q0 : 0 ≤ q) : ∀ (k N : Nat) (m : Mem) (p v : Int), TPm m t n → m 259 18 = p → q ≤ p → p ≤ n → n - p ≤ k → k < N → (∀ i, q ≤ i → i < p → 48 ≤ t i ∧ t i ≤ 57) → (p - q ≤ 4 → v = nv t q (p - q).toNat) → ∃ v', M_readNumber_4 N m v (p - q) = ntk (wr m 259 18 (rq t n 48 57 k p)) (rq t n 48 57 k p - q) v' ∧ (rq t n 48 57 k p - q ≤ 4 → v' = nv t q (rq t n 48 57 k p - q).toNat) := by
  intro k
  have fin : ∀ (m : Mem) (l v : Int) (A : Option Mem), (if 4 < l then (sI m 268 122 (m 259 16) 4).bind fun m5 => (sI m5 269 122 (m5 259 16) v).bind fun m8 => some m8 else (sI m 268 122 (m 259 16) 2).bind fun m11 => (sI m11 269 122 (m11 259 16) v).bind fun m14 => some m14) = ntk m l v := by
    intro m l v _
    unfold ntk
    by_cases e : 4 < l
    · rw [if_pos e, if_pos e]
      cases sI m 268 122 (m 259 16) 4 with
      | none => rfl
      | some m1 => rw [Option.bind_some, Option.bind_some]; cases sI m1 269 122 (m1 259 16) v <;> rfl
    · rw [if_neg e, if_neg e]
      cases sI m 268 122 (m 259 16) 2 with
      | none => rfl
      | some m1 => rw [Option.bind_some, Option.bind_some]; cases sI m1 269 122 (m1 259 16) v <;> rfl
  induction k with
  | zero =>
    intro N m p v h hp p0 p1 h1 h2 hl hv
    obtain ⟨N, rfl⟩ : ∃ j, N = j + 1 := ⟨N - 1, by omega⟩
    refine ⟨v, ?_, hv⟩
    show _ = ntk (wr m 259 18 p) (p - q) v
    rw [M_readNumber_4, hp, M_byteAt_e h (by omega), Option.bind_some, M_isDigit_e, Option.bind_some, if_neg (show ¬ p < n by omega), if_neg (show ¬ ((48 : Int) ≤ 0 ∧ (0 : Int) ≤ 57) by decide), if_pos rfl, wr_self hp]
    exact fin m (p - q) v none
  | succ k ih =>
    intro N m p v h hp p0 p1 h1 h2 hl hv
    obtain ⟨N, rfl⟩ : ∃ j, N = j + 1 := ⟨N - 1, by omega⟩
    have hn := h.2.2.1
    rw [M_readNumber_4, hp, M_byteAt_e h (by omega), Option.bind_some, M_isDigit_e, Option.bind_some, rq]
    by_cases z : p < n ∧ 48 ≤ t p ∧ t p ≤ 57
    · rw [if_pos z, if_pos z.1, if_pos z.2, if_neg (show ¬ (1 : Int) = 0 by decide)]
      have go : ∀ w, (p + 1 - q ≤ 4 → w = nv t q (p + 1 - q).toNat) → ∃ v', M_readNumber_43 (M_readNumber_4 N) m (p - q) w = ntk (wr m 259 18 (rq t n 48 57 k (p + 1))) (rq t n 48 57 k (p + 1) - q) v' ∧ (rq t n 48 57 k (p + 1) - q ≤ 4 → v' = nv t q (rq t n 48 57 k (p + 1) - q).toNat) := by
        intro w hw
        unfold M_readNumber_43
        rw [Option.bind_some, hp, jadd_e (by omega) (by omega), jadd_e (by omega) (by omega), show p - q + 1 = p + 1 - q by omega]
        obtain ⟨v', e1, e2⟩ := ih N (wr m 259 18 (p + 1)) (p + 1) w (TPm_18 h) wr_eq (by omega) (by omega) (by omega) (by omega) (fun i a b => by
          by_cases e : i = p
          · subst e; exact z.2
          · exact hl i a (by omega)) hw
        exact ⟨v', by rw [e1, wr_wr], e2⟩
      by_cases z9 : 4 ≤ p - q
      · rw [if_pos z9]
        exact go v (fun x => by omega)
      · rw [if_neg z9, Option.bind_some]
        refine go _ (fun _ => ?_)
        have e0 := hv (by omega)
        have em : (p + 1 - q).toNat = (p - q).toNat + 1 := by omega
        have ep : q + ((p - q).toNat : Int) = p := by omega
        have hb := nv_r (t := t) (q := q) (p - q).toNat (by omega) (fun i a b => hl i a (by omega))
        rw [em]
        show jsub (jadd (jmul 10 v) (t p)) 48 = 10 * nv t q (p - q).toNat + t (q + ((p - q).toNat : Int)) - 48
        rw [ep, e0, jmul_e (by omega) (by omega), jadd_e (by omega) (by omega), jsub_e (by omega) (by omega)]
    · rw [if_neg z]
      refine ⟨v, ?_, hv⟩
      rw [wr_self hp]
      by_cases z2 : p < n
      · rw [if_pos z2, if_neg (fun x => z ⟨z2, x⟩), if_pos rfl]
        exact fin m (p - q) v none
      · rw [if_neg z2, if_neg (show ¬ ((48 : Int) ≤ 0 ∧ (0 : Int) ≤ 57) by decide), if_pos rfl]
        exact fin m (p - q) v none
