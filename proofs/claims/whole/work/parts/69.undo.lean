-- L3: undo
theorem M_undo_l {m : Mem} (hx : ∀ i, ¬ (0 ≤ i ∧ i < 12943) → m 264 i = 0) (l0 : 0 ≤ m 259 8) (l1 : m 259 8 < 8) : ∃ j, big = j + 12943 + 1 ∧ M_undo_11 big m 0 = M_undo_11 (j + 1) (up m 264 (pastG m 0)) 12943 := by
  have key : ∀ k : Nat, k ≤ 12943 → M_undo_11 big m 0 = M_undo_11 (big - k) (up m 264 (fun j => if 0 ≤ j ∧ j < (k : Int) then m 266 (12943 * m 259 8 + j) else m 264 j)) k := by
    intro k
    induction k with
    | zero =>
      intro _
      have e : (fun j => if 0 ≤ j ∧ j < ((0 : Nat) : Int) then m 266 (12943 * m 259 8 + j) else m 264 j) = m 264 := by
        funext j; rw [if_neg (by omega)]
      rw [e, up_id]
      rfl
    | succ k ih =>
      intro hk
      obtain ⟨n, hn⟩ : ∃ n, big - k = n + 1 := ⟨big - k - 1, by have := big_ge; omega⟩
      rw [ih (by omega), hn, M_undo_11, if_neg (show ¬ 12943 ≤ (k : Int) by omega), show big - (k + 1) = n by omega]
      generalize hs : (fun j => if 0 ≤ j ∧ j < (k : Int) then m 266 (12943 * m 259 8 + j) else m 264 j) = f
      have e266 : up m 264 f 266 = m 266 := up_ne (by decide)
      have e259 : up m 264 f 259 = m 259 := up_ne (by decide)
      rw [e259, jmul_e (by omega) (by omega), jadd_e (x := 12943 * m 259 8) (by omega) (by omega), aI_ok (by omega) (by omega), Option.bind_some, e266, sI_up (by omega) (by omega), Option.bind_some, up_eq, up_up, jadd_e (by omega) (by omega)]
      have e : st1 f (k : Int) (m 266 (12943 * m 259 8 + (k : Int))) = (fun j => if 0 ≤ j ∧ j < ((k + 1 : Nat) : Int) then m 266 (12943 * m 259 8 + j) else m 264 j) := by
        funext j
        unfold st1
        rw [← hs]
        by_cases z : j = k
        · subst z
          rw [if_pos rfl, if_pos (by omega)]
        · rw [if_neg z]
          by_cases z2 : 0 ≤ j ∧ j < (k : Int)
          · show (if 0 ≤ j ∧ j < (k : Int) then _ else _) = _
            rw [if_pos z2, if_pos (by omega)]
          · show (if 0 ≤ j ∧ j < (k : Int) then _ else _) = _
            rw [if_neg z2, if_neg (by omega)]
      rw [e]
      rfl
  refine ⟨big - 12943 - 1, by have := big_ge; omega, ?_⟩
  have h := key 12943 (by omega)
  rw [show big - 12943 = big - 12943 - 1 + 1 by have := big_ge; omega] at h
  rw [h]
  have e : (fun j => if 0 ≤ j ∧ j < ((12943 : Nat) : Int) then m 266 (12943 * m 259 8 + j) else m 264 j) = pastG m 0 := by
    funext j
    unfold pastG
    by_cases z : 0 ≤ j ∧ j < 12943
    · rw [if_pos z]
      show (if 0 ≤ j ∧ j < (12943 : Int) then _ else _) = _
      rw [if_pos z, show (m 259 8 - 0) % 8 = m 259 8 by omega]
    · rw [if_neg z]
      show (if 0 ≤ j ∧ j < (12943 : Int) then _ else _) = _
      rw [if_neg z, hx j z]
  rw [e]
  rfl
theorem op_undo {B : Int} {c m : Mem} (h : INV B c m) : OP B B c m (D_undo c) (M_undo m) := by
  obtain ⟨n1, n2, n3, n4, n5⟩ := h.h.n
  by_cases z : m 259 7 = 0
  · refine ⟨-1, c, m, ?_, ?_, h⟩
    · unfold D_undo
      rw [if_pos (show c 1 6 = 0 by omega)]
    · unfold M_undo
      rw [if_neg (fun x => x z)]
  · obtain ⟨K, K0, K1, K2, K3, K4, K5, K6⟩ := h.h.p
    obtain ⟨j, j0, j1, j2⟩ := K4 (m 259 7 - 1) (by omega) (by omega)
    obtain ⟨s1, s2⟩ := h.h.s 0 (by omega) (by omega)
    rw [show m 259 7 - 1 - 0 = m 259 7 - 1 by omega] at s1
    -- the class
    have w1 : wr c 1 6 (m 259 7 - 1) 1 6 = m 259 7 - 1 := wr_eq
    have wo : ∀ o, ¬ o = 1 → wr c 1 6 (m 259 7 - 1) o = c o := fun o x => wr_o x
    have hb : SHB (c 220 (m 259 7 - 1)) := Or.inr ⟨j, j0, by omega, j2⟩
    have q3 := S3.q h.s
    have i3 := S3.i h.s
    obtain ⟨c2, cc, cs, cf⟩ := copy_op (μ := wr c 1 6 (m 259 7 - 1)) (a := 3) (b := c 220 (m 259 7 - 1)) (g := pastG m 0) (Or.inl rfl) hb (by omega) (by rw [wo 0 (by decide)]; omega) (by rw [wo 0 (by decide)]; omega) (by rw [wo (3 + 76) (by decide)]; exact q3) (by rw [wo (3 + 76) (by decide)]; exact i3) (SR_congr s1 (fun o a b => wo o (by omega))) s2
    -- the model
    obtain ⟨J, hJ, hM1⟩ := M_undo_l h.w.x n4 n5
    have mo : ∀ o, ¬ o = 264 → up m 264 (pastG m 0) o = m o := fun o x => up_ne x
    generalize hm2 : wr (wr (up m 264 (pastG m 0)) 259 8 ((m 259 8 + 7) % 8)) 259 7 (m 259 7 - 1) = m2
    have e264 : m2 264 = pastG m 0 := by rw [← hm2, wr_o (by decide), wr_o (by decide), up_eq]
    have eo : ∀ o, ¬ o = 264 → ¬ o = 259 → m2 o = m o := fun o x y => by rw [← hm2, wr_o y, wr_o y, mo o x]
    have ef : ∀ f, ¬ f = 7 → ¬ f = 8 → m2 259 f = m 259 f := fun f x y => by rw [← hm2, wr_f x, wr_f y, mo 259 (by decide)]
    have e7 : m2 259 7 = m 259 7 - 1 := by rw [← hm2, wr_eq]
    have e8 : m2 259 8 = (m 259 8 + 7) % 8 := by rw [← hm2, wr_f (by decide), wr_eq]
    have hum : UM m m2 := by
      intro o ho
      refine eo o ?_ ?_ <;> (intro e; subst e; exact absurd ho (by decide))
    have hun : UN c c2 := (UNw UN.refl (by decide)).trans (un_Sh_copyFrom cc UN.refl)
    have co : ∀ o, ¬ o = 1 → ¬ (3 ≤ o ∧ o < 220) → c2 o = c o := fun o x y => by rw [cf o (by omega), wo o x]
    have c1 : ∀ f, ¬ f = 6 → c2 1 f = c 1 f := fun f x => by rw [cf 1 (by omega), wr_f x]
    have c16 : c2 1 6 = m 259 7 - 1 := by rw [cf 1 (by omega), w1]
    have hI : INV B c2 m2 := by
      refine ⟨KON_un h.kc hun, KON_um h.km hum, ?_, ?_, ?_, ?_, ?_, ?_, ⟨?_, ?_, ?_, ?_⟩⟩
      · show 280 ≤ c2 0 0
        rw [co 0 (by decide) (by decide)]; exact h.o
      · show SR c2 3 (m2 264)
        rw [e264]; exact cs
      · show WF (m2 264)
        rw [e264]; exact s2
      · exact PR_congr h.p (fun o a b => co o (by omega) (by omega)) (fun o a b => eo o (by omega) (by omega)) (fun f a b => ef f (by omega) (by omega))
      · exact GR_congr h.g (fun o a b => co o (by omega) (by omega)) (fun o a b => eo o (by omega) (by omega)) (fun f a b => ef f (by omega) (by omega))
      · exact TR_congr h.t (fun f a b => c1 f (by omega)) (co 2 (by decide) (by decide)) (fun f a b => ef f (by omega) (by omega)) (eo 267 (by decide) (by decide))
      · unfold HR_n; rw [c16, e7, e8]; omega
      · refine ⟨K, K0, K1, ?_, ?_, ?_, ?_, ?_⟩
        · rw [co 0 (by decide) (by decide)]; exact K2
        · rw [e7]; omega
        · rw [co 220 (by decide) (by decide)]; exact K4
        · rw [co 220 (by decide) (by decide)]; exact K5
        · rw [co 220 (by decide) (by decide)]; exact K6
      · intro k k0 k1
        rw [e7] at k1
        obtain ⟨t1, t2⟩ := h.h.s (k + 1) (by omega) (by omega)
        have eg : pastG m2 k = pastG m (k + 1) := by
          unfold pastG
          rw [e8, eo 266 (by decide) (by decide), show ((m 259 8 + 7) % 8 - k) % 8 = (m 259 8 - (k + 1)) % 8 by omega]
        rw [eg, e7, co 220 (by decide) (by decide), show m 259 7 - 1 - 1 - k = m 259 7 - 1 - (k + 1) by omega]
        obtain ⟨i, i0, i1, i2⟩ := K4 (m 259 7 - 1 - (k + 1)) (by omega) (by omega)
        exact ⟨SR_congr t1 (fun o a b => co o (by omega) (by omega)), t2⟩
      · intro i i0 i1 j j0 j1 hj
        rw [co 220 (by decide) (by decide)] at hj
        have q := h.h.q i i0 i1 j j0 j1 hj
        unfold SHQ at q ⊢
        rw [co (281 + 217 * j + 76) (by omega) (by omega)]
        exact q
    obtain ⟨c', m', d1, d2, d3⟩ := settle_op hI
    refine ⟨1, c', m', ?_, ?_, d3⟩
    · unfold D_undo
      rw [if_neg (show ¬ c 1 6 = 0 by omega), n1, show jsub (m 259 7) 1 = m 259 7 - 1 from jsub_e (by omega) (by omega), aI_ok (by omega) (by omega), Option.bind_some, if_pos (show c 220 (m 259 7 - 1) ≠ 0 by omega), Option.bind_some, w1, aI_ok (by omega) (by omega), Option.bind_some, wo 220 (by decide), cc, Option.bind_some, d1, Option.bind_some]
    · unfold M_undo
      rw [if_pos z, hM1, M_undo_11, if_pos (by decide), Option.bind_some, mo 259 (by decide), show jrem (jsub (jadd (m 259 8) 8) 1) 8 = (m 259 8 + 7) % 8 from by rw [jadd_e (by omega) (by omega), jsub_e (by omega) (by omega), jrem_e (by omega) (by omega) (by omega) (by omega)]; omega]
      rw [wr_f (show ¬ (7 : Int) = 8 by decide), mo 259 (by decide), jsub_e (by omega) (by omega), Option.bind_some, hm2, d2, Option.bind_some]
