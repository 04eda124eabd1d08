-- L3: enter: one token read by both
def isL (x : Int) : Prop := 97 ≤ x ∧ x ≤ 122
def isD (x : Int) : Prop := 48 ≤ x ∧ x ≤ 57
def isS (x : Int) : Prop := x = 59 ∨ x = 43 ∨ x = 45 ∨ x = 61 ∨ x = 64
def tK (t : Int → Int) (n q : Int) : Int := if n ≤ q then 0 else if 97 ≤ t q ∧ t q ≤ 122 then (if LQ t n q - q ≤ 9 ∧ 0 ≤ wfd (vl (ltl t q (LQ t n q - q).toNat)) then 1 else 4) else if 48 ≤ t q ∧ t q ≤ 57 then (if DQ t n q - q ≤ 4 then 2 else 4) else if t q = 59 ∨ t q = 43 ∨ t q = 45 ∨ t q = 61 ∨ t q = 64 then 3 else 4
def tV (t : Int → Int) (n q : Int) : Int := if 97 ≤ t q ∧ t q ≤ 122 then wfd (vl (ltl t q (LQ t n q - q).toNat)) else if 48 ≤ t q ∧ t q ≤ 57 then nv t q (DQ t n q - q).toNat else t q
def tE (t : Int → Int) (n q : Int) : Int := if n ≤ q then q else if 97 ≤ t q ∧ t q ≤ 122 then LQ t n q else if 48 ≤ t q ∧ t q ≤ 57 then DQ t n q else q + 1
def cdK (K V : Int) : Int := if K = 0 then 77 else if K = 1 then tbl piT V else if K = 2 then 75 else if K = 3 then (if V = 59 then 70 else if V = 43 then 71 else if V = 45 then 72 else if V = 61 then 73 else 74) else 76
theorem skq_r {t : Int → Int} {n : Int} : ∀ (k : Nat) (p : Int), p ≤ n → p ≤ skq t n k p ∧ skq t n k p ≤ n ∧ (n - p ≤ k → skq t n k p < n → ¬ (t (skq t n k p) = 10 ∨ t (skq t n k p) = 32)) := by
  intro k
  induction k with
  | zero => intro p h; exact ⟨Int.le_refl _, h, fun a b => by unfold skq at b; omega⟩
  | succ k ih =>
    intro p h
    unfold skq
    by_cases z : p < n ∧ (t p = 10 ∨ t p = 32)
    · rw [if_pos z]
      obtain ⟨a, b, d⟩ := ih (p + 1) (by omega)
      exact ⟨by omega, b, fun x y => d (by omega) y⟩
    · rw [if_neg z]
      exact ⟨Int.le_refl _, h, fun _ y x => z ⟨y, x⟩⟩
theorem tE_r {t : Int → Int} {n q : Int} (h : q ≤ n) (q0 : 0 ≤ q) (hn : n ≤ 6000) : q ≤ tE t n q ∧ tE t n q ≤ n ∧ (q < n → q < tE t n q) := by
  unfold tE LQ DQ
  by_cases z : n ≤ q
  · rw [if_pos z]; omega
  · rw [if_neg z]
    have a := rq_r (t := t) (n := n) (lo := 97) (hi := 122) 6000 q h
    have b := rq_r (t := t) (n := n) (lo := 48) (hi := 57) 6000 q h
    by_cases z2 : 97 ≤ t q ∧ t q ≤ 122
    · rw [if_pos z2]
      refine ⟨a.1, a.2.1, fun _ => ?_⟩
      by_cases e : rq t n 97 122 6000 q = q
      · have := a.2.2.2 (by omega) (by omega)
        rw [e] at this
        exact absurd z2 this
      · omega
    · rw [if_neg z2]
      by_cases z3 : 48 ≤ t q ∧ t q ≤ 57
      · rw [if_pos z3]
        refine ⟨b.1, b.2.1, fun _ => ?_⟩
        by_cases e : rq t n 48 57 6000 q = q
        · have := b.2.2.2 (by omega) (by omega)
          rw [e] at this
          exact absurd z3 this
        · omega
      · rw [if_neg z3]; omega
/-- what the model's read leaves -/
def RDP (m : Mem) (q K V E : Int) (m' : Mem) : Prop := m' 259 18 = E ∧ m' 259 16 = m 259 16 + 1 ∧ m' 268 (m 259 16) = K ∧ (K = 1 ∨ K = 2 ∨ K = 3 → m' 269 (m 259 16) = V) ∧ m' 270 (m 259 16) = q ∧ (∀ j, ¬ j = m 259 16 → m' 268 j = m 268 j ∧ m' 269 j = m 269 j ∧ m' 270 j = m 270 j) ∧ (∀ o, ¬ o = 259 → ¬ o = 268 → ¬ o = 269 → ¬ o = 270 → m' o = m o) ∧ (∀ f, ¬ f = 16 → ¬ f = 18 → m' 259 f = m 259 f)
theorem rd_fin {m : Mem} {q K V W E x : Int} (hV : K = 1 ∨ K = 2 ∨ K = 3 → W = V) : RDP m q K V E (wr (wr (wr (wr (wr (wr (wr m 259 18 q) 270 (m 259 16) q) 269 (m 259 16) x) 259 18 E) 268 (m 259 16) K) 269 (m 259 16) W) 259 16 (m 259 16 + 1)) := by
  refine ⟨?_, wr_eq, ?_, ?_, ?_, ?_, ?_, ?_⟩
  · rw [wr_f (by decide), wr_o (by decide), wr_o (by decide), wr_eq]
  · rw [wr_o (by decide), wr_o (by decide), wr_eq]
  · intro h; rw [wr_o (by decide), wr_eq]; exact hV h
  · rw [wr_o (by decide), wr_o (by decide), wr_o (by decide), wr_o (by decide), wr_o (by decide), wr_eq]
  · intro j hj
    refine ⟨?_, ?_, ?_⟩
    · rw [wr_o (by decide), wr_o (by decide), wr_f hj, wr_o (by decide), wr_o (by decide), wr_o (by decide), wr_o (by decide)]
    · rw [wr_o (by decide), wr_f hj, wr_o (by decide), wr_o (by decide), wr_f hj, wr_o (by decide), wr_o (by decide)]
    · rw [wr_o (by decide), wr_o (by decide), wr_o (by decide), wr_o (by decide), wr_o (by decide), wr_f hj, wr_o (by decide)]
  · intro o a b d e
    rw [wr_o a, wr_o d, wr_o b, wr_o a, wr_o d, wr_o e, wr_o a]
  · intro f a b
    rw [wr_f a, wr_o (by decide), wr_o (by decide), wr_f b, wr_o (by decide), wr_o (by decide), wr_f b]
theorem wr_sw {m : Mem} {o i v p j w : Int} (h : ¬ (o = p ∧ i = j)) : wr (wr m o i v) p j w = wr (wr m p j w) o i v := by
  funext a b
  unfold wr
  by_cases e1 : a = o ∧ b = i
  · rw [if_pos e1, if_neg (show ¬ (a = p ∧ b = j) from fun x => h ⟨by omega, by omega⟩), if_pos e1]
  · rw [if_neg e1]
    by_cases e2 : a = p ∧ b = j
    · rw [if_pos e2, if_neg e1]
    · rw [if_neg e2, if_neg e1]
theorem M_read_e {m : Mem} {t : Int → Int} {n p : Int} (h : TPm m t n) (hk : ∀ i, 0 ≤ i → i < 70 → m 260 i = tbl wdT i) (hp : m 259 18 = p) (p0 : 0 ≤ p) (p1 : p ≤ n) (a0 : 0 ≤ m 259 16) (a1 : m 259 16 < 122) : ∃ m', M_read m = some m' ∧ RDP m (skq t n 6000 p) (tK t n (skq t n 6000 p)) (tV t n (skq t n 6000 p)) (tE t n (skq t n 6000 p)) m' := by
  have hn := h.2.2.1
  obtain ⟨j, ej⟩ := M_skip (t := t) (n := n) 6000 big m p h hp p0 p1 (by omega) (by have := big_ge; omega)
  obtain ⟨q1, q2, q3⟩ := skq_r (t := t) (n := n) 6000 p p1
  generalize hq : skq t n 6000 p = q at *
  have h1 : TPm (wr m 259 18 q) t n := TPm_18 h
  have e18 : wr m 259 18 q 259 18 = q := wr_eq
  have e16 : wr m 259 18 q 259 16 = m 259 16 := wr_f (by decide)
  obtain ⟨x, hx⟩ : ∃ x, x = (if q < n then t q else 0) := ⟨_, rfl⟩
  have hx10 : ¬ x = 10 ∧ ¬ x = 32 := by
    rw [hx]
    by_cases z : q < n
    · rw [if_pos z]
      have := q3 (by omega) z
      omega
    · rw [if_neg z]; omega
  unfold M_read
  rw [ej, M_read_0, e18, M_byteAt_e h1 (by omega), ← hx]
  simp only [Option.bind_some]
  rw [if_neg hx10.1, if_pos hx10.2, e16, sI_ok a0 a1, Option.bind_some, wr_o (show ¬ (259 : Int) = 270 by decide), e16, sI_ok a0 a1, Option.bind_some]
  generalize h10 : wr (wr (wr m 259 18 q) 270 (m 259 16) q) 269 (m 259 16) x = m10
  have f18 : m10 259 18 = q := by rw [← h10, wr_o (by decide), wr_o (by decide), wr_eq]
  have f10 : m10 259 10 = n := by rw [← h10, wr_o (by decide), wr_o (by decide), wr_f (by decide)]; exact h.1
  have f16 : m10 259 16 = m 259 16 := by rw [← h10, wr_o (by decide), wr_o (by decide), wr_f (by decide)]
  have ft : TPm m10 t n := ⟨f10, h.2.1, h.2.2.1, fun i i0 i1 => by rw [← h10, wr_o (by decide), wr_o (by decide), wr_o (by decide)]; exact h.2.2.2 i i0 i1⟩
  have fk : ∀ i, 0 ≤ i → i < 70 → m10 260 i = tbl wdT i := fun i i0 i1 => by rw [← h10, wr_o (by decide), wr_o (by decide), wr_o (by decide)]; exact hk i i0 i1
  rw [f18, f10, f16]
  by_cases z : q < n
  · rw [if_pos z]
    rw [if_pos z] at hx
    rw [M_isLetter_e, Option.bind_some]
    by_cases zl : 97 ≤ x ∧ x ≤ 122
    · rw [if_pos zl, if_neg (show ¬ (1 : Int) = 0 by decide)]
      have kk : tK t n q = if LQ t n q - q ≤ 9 ∧ 0 ≤ wfd (vl (ltl t q (LQ t n q - q).toNat)) then 1 else 4 := by
        unfold tK; rw [if_neg (show ¬ n ≤ q by omega), if_pos (by rw [← hx]; exact zl)]
      have kv : tV t n q = wfd (vl (ltl t q (LQ t n q - q).toNat)) := by
        unfold tV; rw [if_pos (by rw [← hx]; exact zl)]
      have ke : tE t n q = LQ t n q := by
        unfold tE; rw [if_neg (show ¬ n ≤ q by omega), if_pos (by rw [← hx]; exact zl)]
      obtain ⟨v', e1, e2⟩ := M_rw4 (t := t) (n := n) (q := q) (by omega) 6000 big m10 q 0 ft f18 (Int.le_refl _) (by omega) (by omega) (by have := big_ge; omega) (fun i a b => by omega) (fun _ => by rw [show (q - q).toNat = 0 by omega]; rfl)
      have rr := rq_r (t := t) (n := n) (lo := 97) (hi := 122) 6000 q (by omega)
      have eM : M_readWord m10 = M_readWord_69 (wr m10 259 18 (LQ t n q)) v' (LQ t n q - q) big (-1) 0 := by
        unfold M_readWord
        rw [show (0 : Int) = q - q by omega]
        rw [show q - q = 0 by omega] at e1
        rw [show q - q = 0 by omega]
        exact e1
      have g16 : wr m10 259 18 (LQ t n q) 259 16 = m 259 16 := by rw [wr_f (by decide), f16]
      have wt : ∀ f, wtk (wr m10 259 18 (LQ t n q)) f = some (wr (wr (wr m10 259 18 (LQ t n q)) 268 (m 259 16) (if f < 0 then 4 else 1)) 269 (m 259 16) f) := by
        intro f
        unfold wtk
        rw [g16, sI_ok a0 a1, Option.bind_some, wr_o (show ¬ (259 : Int) = 268 by decide), g16, sI_ok a0 a1]
      by_cases z9 : LQ t n q - q ≤ 9
      · have e3 := e2 z9
        have hmm := ltl_mem (t := t) (q := q) (LQ t n q - q).toNat (fun i a b => rr.2.2.1 i a (by have : LQ t n q = rq t n 97 122 6000 q := rfl; omega))
        have v0 := vl_0 _ hmm
        have vb := vl_b _ hmm (by rw [ltl_len]; omega)
        rw [eM, M_rw69 (fun i i0 i1 => by rw [wr_o (by decide)]; exact fk i i0 i1) (by rw [e3]; exact ⟨by show _ ≤ vl (ltl t q (LQ t n q - q).toNat); omega, by show vl (ltl t q (LQ t n q - q).toNat) < _; omega⟩) z9, wt, Option.bind_some, wr_o (show ¬ (259 : Int) = 269 by decide), wr_o (show ¬ (259 : Int) = 268 by decide), g16, jadd_e (by omega) (by omega)]
        refine ⟨_, rfl, ?_⟩
        have e3' : v' = vl (ltl t q (LQ t n q - q).toNat) := e3
        rw [e3']
        have hk1 : (if wfd (vl (ltl t q (LQ t n q - q).toNat)) < 0 then (4 : Int) else 1) = tK t n q := by
          rw [kk]
          by_cases zf : wfd (vl (ltl t q (LQ t n q - q).toNat)) < 0
          · rw [if_pos zf, if_neg (fun a => by have := a.2; omega)]
          · rw [if_neg zf, if_pos ⟨z9, by omega⟩]
        rw [hk1, ke, kv, ← h10]
        exact rd_fin (fun _ => rfl)
      · rw [eM, M_rw69' (by omega), wt, Option.bind_some, wr_o (show ¬ (259 : Int) = 269 by decide), wr_o (show ¬ (259 : Int) = 268 by decide), g16, jadd_e (by omega) (by omega)]
        refine ⟨_, rfl, ?_⟩
        have hk1 : (if (-1 : Int) < 0 then (4 : Int) else 1) = tK t n q := by
          rw [kk, if_pos (by decide), if_neg (fun a => z9 a.1)]
        have hk4 : tK t n q = 4 := by rw [← hk1]; rfl
        rw [hk1, ke, ← h10]
        exact rd_fin (fun a => by omega)
    · rw [if_neg zl, if_pos rfl, M_isDigit_e, Option.bind_some]
      by_cases zd : 48 ≤ x ∧ x ≤ 57
      · rw [if_pos zd, if_neg (show ¬ (1 : Int) = 0 by decide)]
        have kk : tK t n q = if DQ t n q - q ≤ 4 then 2 else 4 := by
          unfold tK; rw [if_neg (show ¬ n ≤ q by omega), if_neg (by rw [← hx]; exact zl), if_pos (by rw [← hx]; exact zd)]
        have kv : tV t n q = nv t q (DQ t n q - q).toNat := by
          unfold tV; rw [if_neg (by rw [← hx]; exact zl), if_pos (by rw [← hx]; exact zd)]
        have ke : tE t n q = DQ t n q := by
          unfold tE; rw [if_neg (show ¬ n ≤ q by omega), if_neg (by rw [← hx]; exact zl), if_pos (by rw [← hx]; exact zd)]
        obtain ⟨v', e1, e2⟩ := M_rn4 (t := t) (n := n) (q := q) (by omega) 6000 big m10 q 0 ft f18 (Int.le_refl _) (by omega) (by omega) (by have := big_ge; omega) (fun i a b => by omega) (fun _ => by rw [show (q - q).toNat = 0 by omega]; rfl)
        have eM : M_readNumber m10 = ntk (wr m10 259 18 (DQ t n q)) (DQ t n q - q) v' := by
          unfold M_readNumber
          rw [show q - q = 0 by omega] at e1
          exact e1
        have g16 : wr m10 259 18 (DQ t n q) 259 16 = m 259 16 := by rw [wr_f (by decide), f16]
        have wt : ntk (wr m10 259 18 (DQ t n q)) (DQ t n q - q) v' = some (wr (wr (wr m10 259 18 (DQ t n q)) 268 (m 259 16) (if 4 < DQ t n q - q then 4 else 2)) 269 (m 259 16) v') := by
          unfold ntk
          rw [g16, sI_ok a0 a1, Option.bind_some, wr_o (show ¬ (259 : Int) = 268 by decide), g16, sI_ok a0 a1]
        rw [eM, wt, Option.bind_some, wr_o (show ¬ (259 : Int) = 269 by decide), wr_o (show ¬ (259 : Int) = 268 by decide), g16, jadd_e (by omega) (by omega)]
        refine ⟨_, rfl, ?_⟩
        have hk1 : (if 4 < DQ t n q - q then (4 : Int) else 2) = tK t n q := by
          rw [kk]
          by_cases z4 : DQ t n q - q ≤ 4
          · rw [if_pos z4, if_neg (by omega)]
          · rw [if_neg z4, if_pos (by omega)]
        rw [hk1, ke, kv, ← h10]
        refine rd_fin (fun a => ?_)
        rw [kk] at a
        by_cases z4 : DQ t n q - q ≤ 4
        · exact e2 z4
        · rw [if_neg z4] at a; omega
      · rw [if_neg zd, if_pos rfl]
        have kv : tV t n q = x := by
          unfold tV; rw [if_neg (by rw [← hx]; exact zl), if_neg (by rw [← hx]; exact zd), hx]
        have ke : tE t n q = q + 1 := by
          unfold tE; rw [if_neg (show ¬ n ≤ q by omega), if_neg (by rw [← hx]; exact zl), if_neg (by rw [← hx]; exact zd)]
        have kk : tK t n q = if x = 59 ∨ x = 43 ∨ x = 45 ∨ x = 61 ∨ x = 64 then 3 else 4 := by
          unfold tK; rw [if_neg (show ¬ n ≤ q by omega), if_neg (by rw [← hx]; exact zl), if_neg (by rw [← hx]; exact zd), hx]
        have go : ∀ K, K = tK t n q → ∃ m', M_read_166 m10 (m 259 16) K = some m' ∧ RDP m q (tK t n q) (tV t n q) (tE t n q) m' := by
          intro K hK
          unfold M_read_166
          rw [sI_ok a0 a1]
          simp only [Option.bind_some]
          rw [wr_o (show ¬ (259 : Int) = 268 by decide), f18, wr_f (show ¬ (16 : Int) = 18 by decide), wr_o (show ¬ (259 : Int) = 268 by decide), f16, jadd_e (by omega) (by omega), jadd_e (by omega) (by omega)]
          refine ⟨_, rfl, ?_⟩
          rw [← hK, ke, kv, ← h10]
          have := rd_fin (m := m) (q := q) (K := K) (V := x) (W := x) (E := q + 1) (x := x) (fun _ => rfl)
          have e : wr (wr (wr (wr (wr (wr (wr m 259 18 q) 270 (m 259 16) q) 269 (m 259 16) x) 259 18 (q + 1)) 268 (m 259 16) K) 269 (m 259 16) x) 259 16 (m 259 16 + 1) = wr (wr (wr (wr (wr (wr m 259 18 q) 270 (m 259 16) q) 269 (m 259 16) x) 268 (m 259 16) K) 259 18 (q + 1)) 259 16 (m 259 16 + 1) := by
            rw [wr_sw (o := 268) (p := 269) (by omega), wr_sw (o := 259) (p := 269) (by omega), wr_wr, wr_sw (o := 259) (i := 18) (p := 268) (by omega)]
          rw [e] at this
          exact this
        by_cases s1 : x = 59
        · rw [if_pos s1]; exact go 3 (by rw [kk, if_pos (by omega)])
        · rw [if_neg s1]
          by_cases s2 : x = 43
          · rw [if_pos s2]; exact go 3 (by rw [kk, if_pos (by omega)])
          · rw [if_neg s2]
            by_cases s3 : x = 45
            · rw [if_pos s3]; exact go 3 (by rw [kk, if_pos (by omega)])
            · rw [if_neg s3]
              by_cases s4 : x = 61
              · rw [if_pos s4]; exact go 3 (by rw [kk, if_pos (by omega)])
              · rw [if_neg s4]
                by_cases s5 : x = 64
                · rw [if_neg (show ¬ x ≠ 64 from fun a => a s5)]; exact go 3 (by rw [kk, if_pos (by omega)])
                · rw [if_pos s5]; exact go 4 (by rw [kk, if_neg (by omega)])
  · rw [if_neg z, sI_ok a0 a1]
    simp only [Option.bind_some]
    rw [wr_o (show ¬ (259 : Int) = 268 by decide), f16, jadd_e (by omega) (by omega)]
    refine ⟨_, rfl, ?_⟩
    have kk : tK t n q = 0 := by unfold tK; rw [if_pos (by omega)]
    have ke : tE t n q = q := by unfold tE; rw [if_pos (by omega)]
    rw [kk, ke, ← h10]
    have := rd_fin (m := m) (q := q) (K := 0) (V := tV t n q) (W := x) (E := q) (x := x) (fun a => by omega)
    have e : wr (wr (wr (wr (wr (wr (wr m 259 18 q) 270 (m 259 16) q) 269 (m 259 16) x) 259 18 q) 268 (m 259 16) 0) 269 (m 259 16) x) 259 16 (m 259 16 + 1) = wr (wr (wr (wr (wr m 259 18 q) 270 (m 259 16) q) 269 (m 259 16) x) 268 (m 259 16) 0) 259 16 (m 259 16 + 1) := by
      rw [wr_sw (o := 268) (p := 269) (by omega), wr_sw (o := 259) (p := 269) (by omega), wr_wr, wr_self (c := wr (wr (wr m 259 18 q) 270 (m 259 16) q) 269 (m 259 16) x) (o := 259) (i := 18) (v := q) (by rw [h10]; exact f18)]
    rw [e] at this
    exact this
