-- L3: save
theorem INVt {B : Int} {c m c' m' : Mem} (h : INV B c m) (hu : UN c c') (hm : UM m m') (e1 : ∀ o, ¬ o = 1 → ¬ o = 2 → ¬ (257 ≤ o ∧ o ≤ 258) → c' o = c o) (e2 : c' 1 6 = c 1 6) (e3 : ∀ o, ¬ o = 259 → ¬ o = 267 → ¬ o = 280 → m' o = m o) (e4 : ∀ f, ¬ f = 10 → ¬ f = 39 → ¬ f = 40 → m' 259 f = m 259 f) (t : TR c' m') : INV B c' m' := by
  refine ⟨KON_un h.kc hu, KON_um h.km hm, ?_, ?_, ?_, ?_, ?_, t, ?_⟩
  · show 280 ≤ c' 0 0
    rw [e1 0 (by omega) (by omega) (by omega)]; exact h.o
  · show SR c' 3 (m' 264)
    rw [e3 264 (by omega) (by omega) (by omega)]
    exact SR_congr h.s (fun o a b => e1 o (by omega) (by omega) (by omega))
  · show WF (m' 264)
    rw [e3 264 (by omega) (by omega) (by omega)]; exact h.w
  · exact PR_congr h.p (fun o a b => e1 o (by omega) (by omega) (by omega)) (fun o a b => e3 o (by omega) (by omega) (by omega)) (fun f a b => e4 f (by omega) (by omega) (by omega))
  · exact GR_congr h.g (fun o a b => e1 o (by omega) (by omega) (by omega)) (fun o a b => e3 o (by omega) (by omega) (by omega)) (fun f a b => e4 f (by omega) (by omega) (by omega))
  · exact HR_congr h.h e2 (by rw [e1 0 (by omega) (by omega) (by omega)]) (e1 220 (by omega) (by omega) (by omega)) (fun o a => e1 o (by omega) (by omega) (by omega)) (e4 7 (by omega) (by omega) (by omega)) (e4 8 (by omega) (by omega) (by omega)) (e3 266 (by omega) (by omega) (by omega))
theorem M_254 {m : Mem} (n0 : 0 ≤ m 259 39) (n1 : m 259 39 ≤ 6000) : M_save_254 big m 0 = some (m 259 10, up m 267 (fun j => if 0 ≤ j ∧ j < m 259 39 then m 280 j else m 267 j)) := by
  have key : ∀ k : Nat, (k : Int) ≤ m 259 39 → M_save_254 big m 0 = M_save_254 (big - k) (up m 267 (fun j => if 0 ≤ j ∧ j < (k : Int) then m 280 j else m 267 j)) k := by
    intro k
    induction k with
    | zero =>
      intro _
      have e : (fun j => if 0 ≤ j ∧ j < ((0 : Nat) : Int) then m 280 j else m 267 j) = m 267 := by
        funext j; rw [if_neg (by omega)]
      rw [e, up_id]
      rfl
    | succ k ih =>
      intro hk
      obtain ⟨n, hn⟩ : ∃ n, big - k = n + 1 := ⟨big - k - 1, by have := big_ge; omega⟩
      generalize hs : (fun j => if 0 ≤ j ∧ j < (k : Int) then m 280 j else m 267 j) = f at ih
      have e280 : up m 267 f 280 = m 280 := up_ne (by decide)
      have e259 : up m 267 f 259 = m 259 := up_ne (by decide)
      rw [ih (by omega), hn, M_save_254, e259, if_neg (show ¬ m 259 39 ≤ (k : Int) by omega), show big - (k + 1) = n by omega, aI_ok (by omega) (by omega), Option.bind_some, e280, sI_up (by omega) (by omega), Option.bind_some, up_eq, up_up, jadd_e (by omega) (by omega)]
      have e : st1 f (k : Int) (m 280 (k : Int)) = (fun j => if 0 ≤ j ∧ j < ((k + 1 : Nat) : Int) then m 280 j else m 267 j) := by
        funext j
        unfold st1
        rw [← hs]
        by_cases z : j = k
        · subst z
          rw [if_pos rfl, if_pos (by omega)]
        · rw [if_neg z]
          by_cases z2 : 0 ≤ j ∧ j < (k : Int)
          · show (if 0 ≤ j ∧ j < (k : Int) then _ else _) = _
            rw [if_pos z2, if_pos (by omega)]
          · show (if 0 ≤ j ∧ j < (k : Int) then _ else _) = _
            rw [if_neg z2, if_neg (by omega)]
      rw [e]
      rfl
  obtain ⟨w, hw⟩ : ∃ w : Nat, m 259 39 = (w : Int) := ⟨(m 259 39).toNat, by omega⟩
  rw [hw] at n1 ⊢
  obtain ⟨n, hn⟩ : ∃ n, big - w = n + 1 := ⟨big - w - 1, by have := big_ge; omega⟩
  rw [key w (by omega), hn, M_save_254, up_ne (show ¬ (259 : Int) = 267 by decide), if_pos (by omega)]
theorem op_save {B : Int} {c m : Mem} (h : INV B c m) : OP B B c m (D_save c) (M_save m) := by
  have hn30 := S3.n h.s
  have w0 : WV 0 c m (wr (wr (wr c 257 3 0) 257 4 0) 257 5 0) (wr (wr m 259 39 0) 259 40 0) := by
    have a4 : wr (wr (wr c 257 3 0) 257 4 0) 257 5 0 257 4 = 0 := by rw [wr_f (by decide), wr_eq]
    have a3 : wr (wr (wr c 257 3 0) 257 4 0) 257 5 0 257 3 = 0 := by rw [wr_f (by decide), wr_f (by decide), wr_eq]
    have b39 : wr (wr m 259 39 0) 259 40 0 259 39 = 0 := by rw [wr_f (by decide), wr_eq]
    refine ⟨Or.inl a4, ⟨by rw [wr_eq, wr_eq], Or.inl wr_eq⟩, by rw [b39]; omega, fun _ => ⟨by rw [a3, b39], a4⟩, fun x => by rw [b39] at x; omega, fun i i0 i1 => by rw [b39] at i1; omega, ?_, ?_, ?_⟩
    · intro o x y; rw [wr_o x, wr_o x, wr_o x]
    · intro o x y; rw [wr_o x, wr_o x]
    · intro f x y; rw [wr_f y, wr_f x]
  obtain ⟨c1, m1, x1, y1, w1⟩ := sv_units h w0 (by omega)
  obtain ⟨c2, m2, x2, y2, w2⟩ := sv_groups h w1 (by omega)
  obtain ⟨c3, m3, x3, y3, w3⟩ := sv_pals h w2 (by omega)
  obtain ⟨c4, m4, x4, y4, w4⟩ := sv_subs h w3 (by omega)
  obtain ⟨c5, m5, x5, y5, w5⟩ := sv_waves h w4 (by omega)
  obtain ⟨d, hd⟩ : ∃ d : Nat, c 3 8 = (d : Int) := ⟨(c 3 8).toNat, by omega⟩
  obtain ⟨c6, m6, x6, y6, w6⟩ := sv_cues h d big big 0 _ c5 m5 (by omega) (by omega) (by have := big_ge; omega) (by have := big_ge; omega) w5 (by omega)
  obtain ⟨c7, m7, x7, y7, w7⟩ := sv_parks h w6 (by omega)
  have ab : above (m 264) 0 = if (0 : Int) < c 3 8 then c (c 79 0) 0 else 0 := by
    have c0 : cna c 0 = 0 := by
      obtain ⟨_, a0, a1, a2, a3⟩ := cna_s h.s 0
      by_cases e5 : cna c 0 = 0
      · exact e5
      · have := a2 0 (by omega) (by omega)
        obtain ⟨_, _, q2, _⟩ := S3.row h.s h.w.n (i := 0) (by omega) (by omega)
        omega
    rw [above_c h.s h.w.n 0 (by omega), c0]
  have hC : Sv_write c = some c7 := by
    unfold Sv_write
    simp only [Option.bind_some]
    rw [x1, x2, x3, x4, x5, x6, x7, Option.bind_some]
  have hMM : M_save m = (if m7 259 39 ≤ 6000 then (some (wr m7 259 10 (m7 259 39))).bind fun m1 => M_save_254 big m1 0 else some ((-1), m7)) := by
    unfold M_save
    simp only [Option.bind_some]
    rw [y1, y2, y3, y4, y5, ab, y6, y7]
    simp only [Option.bind_some]
  obtain ⟨n0, n1, n2⟩ := w7.n
  have c1f : ∀ f, c7 1 f = c 1 f := fun f => by rw [w7.c 1 (by omega) (by omega)]
  by_cases z : m7 259 39 ≤ 6000
  · obtain ⟨a1, a2⟩ := w7.a z
    have k258 : kd 258 = 101 ∧ ln 258 = 6000 ∧ kd 2 = 101 ∧ ln 2 = 6000 := by decide +kernel
    have hcD : cD c7 258 0 2 0 (c7 257 3) = some (acp c7 258 0 2 0 (c7 257 3)) := by
      unfold cD
      rw [if_pos (by decide)]
      exact if_pos ⟨Or.inr k258.1, by rw [k258.1, k258.2.2.1], by decide, by decide, by decide, by omega, by rw [k258.2.1]; omega, by rw [k258.2.2.2]; omega, Or.inl (by decide)⟩
    have hd2 : D_save c = some (m7 259 39, wr (acp c7 258 0 2 0 (m7 259 39)) 1 1 (m7 259 39)) := by
      unfold D_save
      rw [hC, Option.bind_some, if_pos a2, hcD, Option.bind_some, acp_o (show ¬ (257 : Int) = 2 by decide), a1, Option.bind_some, wr_eq]
    have e39 : wr m7 259 10 (m7 259 39) 259 39 = m7 259 39 := wr_f (by decide)
    have hM2 : M_save m = some (m7 259 39, up (wr m7 259 10 (m7 259 39)) 267 (fun j => if 0 ≤ j ∧ j < m7 259 39 then m7 280 j else m7 267 j)) := by
      rw [hMM, if_pos z, Option.bind_some, M_254 (by rw [e39]; exact n0) (by rw [e39]; exact z), e39, wr_eq, wr_o (show ¬ (280 : Int) = 259 by decide), wr_o (show ¬ (267 : Int) = 259 by decide)]
    refine ⟨_, _, _, hd2, hM2, ?_⟩
    refine INVt h (un_D_save hd2 UN.refl) (um_M_save hM2 UM.refl) ?_ ?_ ?_ ?_ ?_
    · intro o p q r
      rw [wr_o p, acp_o q, w7.c o (by omega) (by omega)]
    · rw [wr_f (by decide), acp_o (by decide), c1f]
    · intro o p q r
      rw [up_ne q, wr_o p, w7.m o p r]
    · intro f p q r
      rw [up_ne (by decide), wr_f p, w7.f f q r]
    · have em : up (wr m7 259 10 (m7 259 39)) 267 (fun j => if 0 ≤ j ∧ j < m7 259 39 then m7 280 j else m7 267 j) 259 = wr m7 259 10 (m7 259 39) 259 := up_ne (by decide)
      refine ⟨?_, ?_, ?_⟩
      · unfold TR_n; rw [em, wr_eq, wr_eq]; omega
      · intro i i0 i1
        rw [em, wr_eq] at i1
        rw [wr_o (by decide), up_eq, acp_d i0 i1]
        obtain ⟨b1, b2, b3⟩ := w7.b i i0 i1 (by omega)
        show c7 258 i = jb (if 0 ≤ i ∧ i < m7 259 39 then m7 280 i else m7 267 i) ∧ 0 ≤ (if 0 ≤ i ∧ i < m7 259 39 then m7 280 i else m7 267 i) ∧ (if 0 ≤ i ∧ i < m7 259 39 then m7 280 i else m7 267 i) ≤ 255
        rw [if_pos ⟨i0, i1⟩]
        exact ⟨b1, b2, b3⟩
      · unfold TR_f
        rw [em, wr_f (by decide), wr_f (by decide), wr_f (by decide), wr_f (by decide), acp_o (by decide), c1f, c1f, w7.f 11 (by decide) (by decide), w7.f 12 (by decide) (by decide)]
        exact h.t.f
  · obtain ⟨a1, a2⟩ := w7.z (by omega)
    have hd2 : D_save c = some (-1, c7) := by
      unfold D_save
      rw [hC, Option.bind_some, if_neg (by rw [a2]; decide)]
    have hM2 : M_save m = some (-1, m7) := by rw [hMM, if_neg z]
    refine ⟨_, _, _, hd2, hM2, ?_⟩
    refine INVt h (un_D_save hd2 UN.refl) (um_M_save hM2 UM.refl) (fun o p q r => w7.c o (by omega) (by omega)) (c1f 6) (fun o p q r => w7.m o p r) (fun f p q r => w7.f f q r) ?_
    exact TR_congr h.t (fun f _ _ => c1f f) (w7.c 2 (by decide) (by decide)) (fun f a b => w7.f f (by omega) (by omega)) (w7.m 267 (by decide) (by decide))
