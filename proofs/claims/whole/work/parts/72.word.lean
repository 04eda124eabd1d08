-- L3: words are written by both
/-- the model's word w is the class's word piT w -/
def piT : List Int := [64, 35, 65, 33, 53, 29, 30, 31, 32, 34, 36, 54, 37, 55, 56, 57, 38, 58, 59, 60, 61, 39, 40, 62, 41, 42, 43, 63, 44, 45, 46, 47, 48, 49, 50, 51, 52, 18, 19, 20, 21, 22, 23, 24, 25, 26, 27, 28, 66, 67, 68, 69, 0, 1, 2, 3, 4, 5, 6, 7, 8, 9, 10, 11, 12, 13, 14, 15, 16, 17]
noncomputable def emC : List Int → Mem → Option Mem
  | [], c => some c
  | b :: L, c => (Sv_putByte c b).bind (emC L)
noncomputable def emM : List Int → Mem → Option Mem
  | [], m => some m
  | b :: L, m => (M_write m b).bind (emM L)
theorem list_op {c0 m0 : Mem} : ∀ (L : List Int) (N : Int) (c m : Mem), WV N c0 m0 c m → N + L.length ≤ 1000000000 → (∀ b ∈ L, 0 ≤ b ∧ b ≤ 255) → EM (N + L.length) c0 m0 (emC L c) (emM L m) := by
  intro L
  induction L with
  | nil =>
    intro N c m h _ _
    refine ⟨c, m, rfl, rfl, ?_⟩
    rw [show N + (([] : List Int).length : Int) = N by simp]
    exact h
  | cons b L ih =>
    intro N c m h hN hb
    have el : ((b :: L).length : Int) = (L.length : Int) + 1 := by simp
    rw [el] at hN ⊢
    obtain ⟨b0, b1⟩ := hb b (by simp)
    obtain ⟨c1, m1, e1, e2, e3⟩ := byteE h (by omega) b0 b1
    have r := ih (N + 1) c1 m1 e3 (by omega) (fun x hx => hb x (by simp [hx]))
    rw [show N + 1 + (L.length : Int) = N + ((L.length : Int) + 1) by omega] at r
    unfold emC emM
    rw [e1, e2]
    exact r
-- the class's letters
def clt (w i : Int) : Int := tbl ltT (tbl stT2 w + i)
def cln (w : Int) : Int := tbl stT2 (w + 1) - tbl stT2 w - 1
def TB (c : Mem) : Prop := (∀ i, 0 ≤ i → i < 71 → c 232 i = tbl stT2 i) ∧ (∀ i, 0 ≤ i → i < 380 → c 240 i = tbl ltT i)
theorem TB_b {c c' : Mem} {b : Int} (h : TB c) (e : Sv_putByte c b = some c') : TB c' := by
  have hu := un_Sv_putByte e UN.refl
  unfold TB
  rw [hu.1 232 (by decide), hu.1 240 (by decide)]
  exact h
theorem st_r : ∀ w ∈ List.range 70, 0 ≤ tbl stT2 (w : Int) ∧ tbl stT2 (w : Int) ≤ 379 ∧ 0 ≤ cln (w : Int) ∧ cln (w : Int) ≤ 9 ∧ tbl stT2 (w : Int) + cln (w : Int) ≤ 380 ∧ 0 ≤ tbl stT2 ((w : Int) + 1) ∧ tbl stT2 ((w : Int) + 1) ≤ 380 := by decide +kernel
theorem st_x {w : Int} (w0 : 0 ≤ w) (w1 : w < 70) : 0 ≤ tbl stT2 w ∧ tbl stT2 w ≤ 379 ∧ 0 ≤ cln w ∧ cln w ≤ 9 ∧ tbl stT2 w + cln w ≤ 380 ∧ 0 ≤ tbl stT2 (w + 1) ∧ tbl stT2 (w + 1) ≤ 380 := by
  obtain ⟨w', rfl⟩ : ∃ w' : Nat, w = (w' : Int) := ⟨w.toNat, by omega⟩
  exact st_r w' (List.mem_range.mpr (by omega))
theorem word_C {w : Int} (w0 : 0 ≤ w) (w1 : w < 70) : ∀ (k : Nat) (n : Nat) (i : Int) (c : Mem), TB c → 0 ≤ i → i + k = cln w → k < n → Sv_putWord_15 w (cln w) n c i = emC ((List.range k).map (fun q : Nat => clt w (i + (q : Int)))) c := by
  obtain ⟨s0, s1, s2, s3, s4, s5, s6⟩ := st_x w0 w1
  intro k
  induction k with
  | zero =>
    intro n i c _ i0 e hn
    obtain ⟨n, rfl⟩ : ∃ j, n = j + 1 := ⟨n - 1, by omega⟩
    rw [Sv_putWord_15, if_pos (by omega)]
    rfl
  | succ k ih =>
    intro n i c h i0 e hn
    obtain ⟨n, rfl⟩ : ∃ j, n = j + 1 := ⟨n - 1, by omega⟩
    have el : Wd_letterOf c w i = some (clt w i) := by
      unfold Wd_letterOf clt
      rw [aI_ok w0 (by omega), Option.bind_some, h.1 w w0 (by omega), jadd_e (by omega) (by omega), aI_ok (by omega) (by omega), Option.bind_some, h.2 _ (by omega) (by omega)]
    rw [Sv_putWord_15, if_neg (by omega), el, Option.bind_some, jadd_e (by omega) (by omega), List.range_succ_eq_map, List.map_cons]
    unfold emC
    rw [show i + ((0 : Nat) : Int) = i by omega]
    cases e2 : Sv_putByte c (clt w i) with
    | none => rfl
    | some c1 =>
      rw [Option.bind_some, Option.bind_some, ih n (i + 1) c1 (TB_b h e2) (by omega) (by omega) (by omega), List.map_map]
      congr 1
      apply List.map_congr_left
      intro q _
      simp only [Function.comp]
      congr 1
      omega
-- the model's letters
def hgO : Nat → Int → Int → Option Int
  | 0, _, _ => none
  | n + 1, x, h => if 0 < qcmp (qmul h 27) x then some h else hgO n x (qmul h 27)
def dgO : Nat → Int → Int → Option (List Int)
  | 0, _, _ => none
  | n + 1, x, h => if qcmp h 0 ≤ 0 then some [] else if h = 0 then none else (dgO n x (qdiv h 27)).map (fun L => jadd 96 (q2i (qrem (qdiv x h) 27)) :: L)
theorem dg_M {w : Int} (w0 : 0 ≤ w) (w1 : w < 70) (j : Nat) : ∀ (n : Nat) (h : Int) (m : Mem) (L : List Int), (∀ i, 0 ≤ i → i < 70 → m 260 i = tbl wdT i) → dgO n (tbl wdT w) h = some L → M_writeWord_33 w (n + j) m h = emM L m := by
  intro n
  induction n with
  | zero => intro h m L _ e; exact noneS e
  | succ n ih =>
    intro h m L hm e
    rw [dgO] at e
    rw [show n + 1 + j = n + j + 1 by omega, M_writeWord_33]
    by_cases z : qcmp h 0 ≤ 0
    · rw [if_pos z] at e ⊢
      cases e
      rfl
    · rw [if_neg z] at e ⊢
      obtain ⟨z2, e⟩ := ifNone e
      rw [aI_ok w0 w1, Option.bind_some, hm w w0 w1, if_neg z2]
      cases e3 : dgO n (tbl wdT w) (qdiv h 27) with
      | none => rw [e3] at e; exact noneS e
      | some L2 =>
        rw [e3] at e
        have e4 : jadd 96 (q2i (qrem (qdiv (tbl wdT w) h) 27)) :: L2 = L := Option.some.inj e
        rw [← e4]
        show (M_write m (jadd 96 (q2i (qrem (qdiv (tbl wdT w) h) 27)))).bind _ = (M_write m (jadd 96 (q2i (qrem (qdiv (tbl wdT w) h) 27)))).bind (emM L2)
        cases e5 : M_write m (jadd 96 (q2i (qrem (qdiv (tbl wdT w) h) 27))) with
        | none => rfl
        | some m1 =>
          rw [Option.bind_some, Option.bind_some, Option.bind_some]
          have hu := um_M_write e5 UM.refl
          exact ih _ m1 L2 (fun i a b => by rw [hu 260 (by decide)]; exact hm i a b) e3
theorem hg_M {w : Int} (w0 : 0 ≤ w) (w1 : w < 70) {m : Mem} (hm : ∀ i, 0 ≤ i → i < 70 → m 260 i = tbl wdT i) (j : Nat) : ∀ (n : Nat) (h h2 : Int), hgO n (tbl wdT w) h = some h2 → M_writeWord_6 m w (n + j) h = M_writeWord_33 w big m h2 := by
  intro n
  induction n with
  | zero => intro h h2 e; exact noneS e
  | succ n ih =>
    intro h h2 e
    rw [hgO] at e
    rw [show n + 1 + j = n + j + 1 by omega, M_writeWord_6, aI_ok w0 w1, Option.bind_some, hm w w0 w1]
    by_cases z : 0 < qcmp (qmul h 27) (tbl wdT w)
    · rw [if_pos z] at e ⊢
      cases e
      rfl
    · rw [if_neg z] at e ⊢
      rw [Option.bind_some]
      exact ih _ _ e
theorem word_D : ∀ w ∈ List.range 70, (hgO 12 (tbl wdT (w : Int)) 1).bind (fun h => dgO 12 (tbl wdT (w : Int)) h) = some ((List.range (cln (tbl piT (w : Int))).toNat).map (fun q : Nat => clt (tbl piT (w : Int)) (0 + (q : Int)))) ∧ 0 ≤ tbl piT (w : Int) ∧ tbl piT (w : Int) < 70 ∧ (((List.range (cln (tbl piT (w : Int))).toNat).map (fun q : Nat => clt (tbl piT (w : Int)) (0 + (q : Int)))).all (fun b => decide (0 ≤ b ∧ b ≤ 255))) = true := by decide +kernel
/-- the model's word w, and the class's -/
theorem word_op {N : Int} {c0 m0 c m : Mem} {w : Int} (h : WV N c0 m0 c m) (hc : KON c0) (hm : KON m0) (hN : N + 10 ≤ 1000000000) (w0 : 0 ≤ w) (w1 : w < 70) : EM (N + 10) c0 m0 (Sv_putWord c (tbl piT w)) (M_writeWord m w) := by
  obtain ⟨c1, m1, e1, e2, e3⟩ := blank_op h (by omega)
  obtain ⟨w', rfl⟩ : ∃ w' : Nat, w = (w' : Int) := ⟨w.toNat, by omega⟩
  obtain ⟨d1, p0, p1, d2⟩ := word_D w' (List.mem_range.mpr (by omega))
  obtain ⟨hh, g1, g2⟩ := bindS d1
  obtain ⟨s0, s1, s2, s3, s4, s5, s6⟩ := st_x p0 p1
  have tb : TB c1 := ⟨fun i a b => by rw [e3.c 232 (by decide) (by decide)]; exact hc.sts i a b, fun i a b => by rw [e3.c 240 (by decide) (by decide)]; exact hc.let i a b⟩
  have tm : ∀ i, 0 ≤ i → i < 70 → m1 260 i = tbl wdT i := fun i a b => by rw [e3.m 260 (by decide) (by decide)]; exact hm.wd i a b
  have el : Wd_lengthOf c1 (tbl piT (w' : Int)) = some (cln (tbl piT (w' : Int))) := by
    unfold Wd_lengthOf cln
    rw [jadd_e (by omega) (by omega), aI_ok (by omega) (by omega), Option.bind_some, aI_ok (by omega) (by omega), Option.bind_some, tb.1 _ (by omega) (by omega), tb.1 _ (by omega) (by omega), jsub_e (x := tbl stT2 (tbl piT (w' : Int) + 1)) (by omega) (by omega), jsub_e (by omega) (by omega)]
  unfold Sv_putWord M_writeWord
  rw [e1, e2, Option.bind_some, Option.bind_some, el, Option.bind_some]
  rw [word_C p0 p1 (cln (tbl piT (w' : Int))).toNat big 0 c1 tb (by omega) (by omega) (by have := big_ge; omega)]
  have hM : M_writeWord_6 m1 (w' : Int) big 1 = emM ((List.range (cln (tbl piT (w' : Int))).toNat).map (fun q : Nat => clt (tbl piT (w' : Int)) (0 + (q : Int)))) m1 := by
    have a := hg_M w0 w1 tm (big - 12) 12 1 hh g1
    rw [show 12 + (big - 12) = big by have := big_ge; omega] at a
    have b := dg_M w0 w1 (big - 12) 12 hh m1 _ tm g2
    rw [show 12 + (big - 12) = big by have := big_ge; omega] at b
    rw [a, b]
  rw [hM]
  generalize hL : (List.range (cln (tbl piT (w' : Int))).toNat).map (fun q : Nat => clt (tbl piT (w' : Int)) (0 + (q : Int))) = L at *
  have hl : (L.length : Int) = cln (tbl piT (w' : Int)) := by rw [← hL]; simp; omega
  obtain ⟨a, b, x, y, z⟩ := list_op L (N + 1) c1 m1 e3 (by omega) (fun b hb => by
    have := List.all_eq_true.mp d2 b hb
    simpa using this)
  refine ⟨a, b, x, y, z.t, z.s, ?_, z.a, z.z, z.b, z.c, z.m, z.f⟩
  have := z.n
  omega
