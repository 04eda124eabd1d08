-- L3: enter: the class's token is the model's
/-- the token put at the end of the class's row -/
noncomputable def adt (c : Mem) (code num e : Int) : Mem := wr (wr (wr (wr (wr c 252 (c 250 8) code) 253 (c 250 8) num) 254 (c 250 8) (c 250 4)) 250 8 (c 250 8 + 1)) 250 4 e
theorem Rd_add {c : Mem} {code num w : Int} (k0 : 0 ≤ c 250 8) (k1 : c 250 8 < 121) (p0 : 0 ≤ c 250 4) (p1 : c 250 4 + w ≤ 6000) (w0 : 0 ≤ w) : Rd_addToken c code num w = some (code, adt c code num (c 250 4 + w)) := by
  unfold Rd_addToken adt
  rw [sI_ok k0 k1, Option.bind_some, wr_o (show ¬ (250 : Int) = 252 by decide), sI_ok k0 k1, Option.bind_some, wr_o (show ¬ (250 : Int) = 253 by decide), wr_o (show ¬ (250 : Int) = 252 by decide), sI_ok k0 k1]
  simp only [Option.bind_some]
  rw [wr_f (show ¬ (4 : Int) = 8 by decide), wr_o (show ¬ (250 : Int) = 254 by decide), wr_o (show ¬ (250 : Int) = 253 by decide), wr_o (show ¬ (250 : Int) = 252 by decide), jadd_e (by omega) (by omega), jadd_e (by omega) (by omega)]
theorem wd_pi : ∀ w ∈ List.range 70, 0 ≤ tbl piT (w : Int) ∧ tbl piT (w : Int) < 70 ∧ vl (ltl (clt (tbl piT (w : Int))) 0 (cln (tbl piT (w : Int))).toNat) = tbl wdT (w : Int) := by decide +kernel
theorem pi_on : ∀ x ∈ List.range 70, ∃ w ∈ List.range 70, tbl piT (w : Int) = (x : Int) := by decide +kernel
theorem clt_r : ∀ x ∈ List.range 70, ∀ j ∈ List.range (cln (x : Int)).toNat, 97 ≤ clt (x : Int) (j : Int) ∧ clt (x : Int) (j : Int) ≤ 122 := by decide +kernel
theorem clt_x {x j : Int} (x0 : 0 ≤ x) (x1 : x < 70) (j0 : 0 ≤ j) (j1 : j < cln x) : 97 ≤ clt x j ∧ clt x j ≤ 122 := by
  obtain ⟨x', rfl⟩ : ∃ x' : Nat, x = (x' : Int) := ⟨x.toNat, by omega⟩
  obtain ⟨j', rfl⟩ : ∃ j' : Nat, j = (j' : Int) := ⟨j.toNat, by omega⟩
  exact clt_r x' (List.mem_range.mpr (by omega)) j' (List.mem_range.mpr (by omega))
theorem wd_x {w : Int} (w0 : 0 ≤ w) (w1 : w < 70) : 0 ≤ tbl piT w ∧ tbl piT w < 70 ∧ vl (ltl (clt (tbl piT w)) 0 (cln (tbl piT w)).toNat) = tbl wdT w := by
  obtain ⟨w', rfl⟩ : ∃ w' : Nat, w = (w' : Int) := ⟨w.toNat, by omega⟩
  exact wd_pi w' (List.mem_range.mpr (by omega))
/-- the class's find is the model's -/
theorem find_e {c : Mem} {t : Int → Int} {n q len : Int} (tb : TB c) (h : TPc c t n) (q0 : 0 ≤ q) (l0 : 0 ≤ len) (l9 : len ≤ 9) (hn : q + len ≤ n) (hl : ∀ i, q ≤ i → i < q + len → 97 ≤ t i ∧ t i ≤ 122) : Wd_find c 2 q len = some (if 0 ≤ wfd (vl (ltl t q len.toNat)) then tbl piT (wfd (vl (ltl t q len.toNat))) else 76) := by
  obtain ⟨a1, a2, a3, a4, a5⟩ := h
  have hmm := ltl_mem (t := t) (q := q) len.toNat (fun i a b => hl i a (by omega))
  have hc2 : ∀ j, 0 ≤ j → j < len → c 2 (q + j) = t (q + j) := by
    intro j j0 j1
    obtain ⟨b1, b2, b3⟩ := a5 (q + j) (by omega) (by omega)
    have := hl (q + j) (by omega) (by omega)
    rw [b1, jb_v b2 b3, if_pos (by omega)]
  -- a match of x is the value
  have mt : ∀ x, 0 ≤ x → x < 70 → (cln x = len ∧ ∀ j, 0 ≤ j → j < cln x → c 2 (q + j) = clt x j) → vl (ltl (clt x) 0 (cln x).toNat) = vl (ltl t q len.toNat) := by
    intro x x0 x1 ⟨e1, e2⟩
    congr 1
    rw [e1]
    refine ((ltl_ext len.toNat).mpr (fun j j0 j1 => ?_)).symm
    rw [← hc2 j j0 (by omega), e2 j j0 (by omega)]
    congr 1; omega
  have tm : ∀ x, 0 ≤ x → x < 70 → vl (ltl (clt x) 0 (cln x).toNat) = vl (ltl t q len.toNat) → (cln x = len ∧ ∀ j, 0 ≤ j → j < cln x → c 2 (q + j) = clt x j) := by
    intro x x0 x1 e
    obtain ⟨s0, s1, s2, s3, s4, s5, s6⟩ := st_x x0 x1
    have e2 := vl_inj _ _ (ltl_mem _ (fun i a b => clt_x x0 x1 (by omega) (by omega))) hmm e
    have e3 : (cln x).toNat = len.toNat := by
      have := congrArg List.length e2
      rwa [ltl_len, ltl_len] at this
    have e4 : cln x = len := by omega
    refine ⟨e4, fun j j0 j1 => ?_⟩
    rw [e3] at e2
    have := (ltl_ext len.toNat).mp e2 j j0 (by omega)
    rw [hc2 j j0 (by omega), ← this]
    congr 1; omega
  obtain ⟨v, e1, e2⟩ := Wd_fnd tb (p := q) (len := len) q0 (by omega) 70 big 0 (by omega) (by omega) (by have := big_ge; omega)
  have e1' : Wd_find c 2 q len = some v := e1
  rw [e1']
  congr 1
  rcases wfd_s (vl (ltl t q len.toNat)) with ⟨f1, f2⟩ | ⟨f1, f2, f3⟩
  · rw [f1, if_neg (by decide)]
    rcases e2 with ⟨e2, _⟩ | ⟨g0, g1, g2⟩
    · exact e2
    · exfalso
      have := mt v g0 g1 g2
      obtain ⟨v', rfl⟩ : ∃ v' : Nat, v = (v' : Int) := ⟨v.toNat, by omega⟩
      obtain ⟨w, hw, hx⟩ := pi_on v' (List.mem_range.mpr (by omega))
      obtain ⟨d1, d2, d3⟩ := wd_pi w hw
      rw [hx, this] at d3
      exact f2 w (by omega) (by have := List.mem_range.mp hw; omega) d3.symm
  · rw [if_pos f1]
    obtain ⟨d1, d2, d3⟩ := wd_x f1 f2
    rw [f3] at d3
    have hm2 := tm _ d1 d2 d3
    rcases e2 with ⟨_, e3⟩ | ⟨g0, g1, g2⟩
    · exact absurd hm2 (e3 _ d1 d2)
    · have e4 := mt v g0 g1 g2
      obtain ⟨v', rfl⟩ : ∃ v' : Nat, v = (v' : Int) := ⟨v.toNat, by omega⟩
      obtain ⟨w, hw, hx⟩ := pi_on v' (List.mem_range.mpr (by omega))
      have hw' := List.mem_range.mp hw
      obtain ⟨d4, d5, d6⟩ := wd_pi w hw
      rw [hx, e4] at d6
      -- values are distinct
      have inj : ∀ a ∈ List.range 70, ∀ b ∈ List.range 70, tbl wdT (a : Int) = tbl wdT (b : Int) → a = b := by decide +kernel
      obtain ⟨f', hf⟩ : ∃ f' : Nat, wfd (vl (ltl t q len.toNat)) = (f' : Int) := ⟨(wfd (vl (ltl t q len.toNat))).toNat, by omega⟩
      rw [hf] at f3 ⊢
      have := inj w hw f' (List.mem_range.mpr (by omega)) (by rw [← d6, f3])
      rw [← this, hx]
theorem num_x {c : Mem} {t : Int → Int} {n : Int} (h : TPc c t n) (q0 : 0 ≤ c 250 4) {l : Int} (l1 : l ≤ 4) (hn : c 250 4 + l ≤ n) (hl : ∀ i, c 250 4 ≤ i → i < c 250 4 + l → 48 ≤ t i ∧ t i ≤ 57) : ∀ (d N : Nat) (i : Int), 0 ≤ i → i + d = l → d < N → Rd_numberAt_4 c l N (nv t (c 250 4) i.toNat) i = some (nv t (c 250 4) l.toNat) := by
  obtain ⟨a1, a2, a3, a4, a5⟩ := h
  intro d
  induction d with
  | zero =>
    intro N i i0 e hN
    obtain ⟨N, rfl⟩ : ∃ j, N = j + 1 := ⟨N - 1, by omega⟩
    rw [Rd_numberAt_4, if_pos (by omega), show i = l by omega]
  | succ d ih =>
    intro N i i0 e hN
    obtain ⟨N, rfl⟩ : ∃ j, N = j + 1 := ⟨N - 1, by omega⟩
    obtain ⟨b1, b2, b3⟩ := a5 (c 250 4 + i) (by omega) (by omega)
    have hd := hl (c 250 4 + i) (by omega) (by omega)
    have hb := nv_r (t := t) (q := c 250 4) i.toNat (by omega) (fun j a b => hl j a (by omega))
    rw [Rd_numberAt_4, if_neg (by omega), a1, jadd_e (x := c 250 4) (by omega) (by omega), rdB_2 (by omega) (by omega)]
    simp only [Option.bind_some]
    rw [b1, jb_v b2 b3, if_pos (show t (c 250 4 + i) < 128 by omega), jmul_e (by omega) (by omega), jadd_e (by omega) (by omega), jsub_e (by omega) (by omega), jadd_e (x := i) (by omega) (by omega)]
    have e2 : nv t (c 250 4) i.toNat * 10 + t (c 250 4 + i) - 48 = nv t (c 250 4) (i + 1).toNat := by
      rw [show (i + 1).toNat = i.toNat + 1 by omega]
      show _ = 10 * nv t (c 250 4) i.toNat + t (c 250 4 + (i.toNat : Int)) - 48
      rw [show ((i.toNat : Nat) : Int) = i by omega]
      omega
    rw [e2]
    exact ih N (i + 1) (by omega) (by omega) (by omega)
theorem Rd_tok {c : Mem} {t : Int → Int} {n q : Int} (tb : TB c) (h : TPc c t n) (hq : c 250 4 = q) (q0 : 0 ≤ q) (q1 : q ≤ n) (k0 : 0 ≤ c 250 8) (k1 : c 250 8 < 121) : Rd_scanToken c = some (cdK (tK t n q) (tV t n q), adt c (cdK (tK t n q) (tV t n q)) (if tK t n q = 2 then tV t n q else 0) (tE t n q)) := by
  have h' := h
  obtain ⟨a1, a2, a3, a4, a5⟩ := h'
  obtain ⟨r1, r2, r3⟩ := tE_r (t := t) q1 q0 a4
  unfold Rd_scanToken
  rw [hq, a2]
  by_cases z : q < n
  · rw [if_pos z, a1, rdB_2 q0 (by omega), Option.bind_some]
    obtain ⟨b1, b2, b3⟩ := a5 q q0 z
    have jv := jb_v b2 b3
    rw [b1]
    by_cases zl : 97 ≤ t q ∧ t q ≤ 122
    · have kk : tK t n q = if LQ t n q - q ≤ 9 ∧ 0 ≤ wfd (vl (ltl t q (LQ t n q - q).toNat)) then 1 else 4 := by
        unfold tK; rw [if_neg (show ¬ n ≤ q by omega), if_pos zl]
      have kv : tV t n q = wfd (vl (ltl t q (LQ t n q - q).toNat)) := by unfold tV; rw [if_pos zl]
      have ke : tE t n q = LQ t n q := by unfold tE; rw [if_neg (show ¬ n ≤ q by omega), if_pos zl]
      have rr := rq_r (t := t) (n := n) (lo := 97) (hi := 122) 6000 q (by omega)
      have eR : Rd_runLength c 97 122 = some (LQ t n q - q) := by
        unfold Rd_runLength
        rw [Option.bind_some, Rd_run h (by omega) (by omega) (by omega) 6000 big (c 250 4) (Int.le_refl _) (by omega) (by omega) (by have := big_ge; omega), hq]
        rfl
      rw [ke] at r1 r2 r3
      rw [jv, if_pos (show t q < 128 by omega), if_neg (show ¬ t q < 97 by omega), if_neg (show ¬ 122 < t q by omega), eR, Option.bind_some]
      have fin : ∀ x, x = cdK (tK t n q) (tV t n q) → ¬ tK t n q = 2 → Rd_scanToken_78 c (LQ t n q - q) x = some (cdK (tK t n q) (tV t n q), adt c (cdK (tK t n q) (tV t n q)) (if tK t n q = 2 then tV t n q else 0) (tE t n q)) := by
        intro x hx h2
        unfold Rd_scanToken_78
        rw [Rd_add k0 k1 (by omega) (by omega) (by omega), Option.bind_some, hx, if_neg h2, ke, hq, show q + (LQ t n q - q) = LQ t n q by omega]
      by_cases z9 : LQ t n q - q ≤ 9
      · rw [if_pos z9, find_e tb h q0 (by omega) z9 (by omega) (fun i a b => rr.2.2.1 i a (by have : LQ t n q = rq t n 97 122 6000 q := rfl; omega)), Option.bind_some]
        refine fin _ ?_ ?_
        · rw [kk, kv]
          by_cases zf : 0 ≤ wfd (vl (ltl t q (LQ t n q - q).toNat))
          · rw [if_pos zf, if_pos ⟨z9, zf⟩]; rfl
          · rw [if_neg zf, if_neg (fun a => zf a.2)]; rfl
        · rw [kk]; split <;> decide
      · rw [if_neg z9]
        have k4 : tK t n q = 4 := by rw [kk, if_neg (fun a => z9 a.1)]
        refine fin _ ?_ ?_
        · rw [k4]; rfl
        · rw [k4]; decide
    · have e87 : (if jb (t q) < 97 then Rd_scanToken_87 c (jb (t q)) else if 122 < jb (t q) then Rd_scanToken_87 c (jb (t q)) else (Rd_runLength c 97 122).bind fun x3 => if x3 ≤ 9 then (Wd_find c 2 q x3).bind fun x5 => Rd_scanToken_78 c x3 x5 else Rd_scanToken_78 c x3 76) = Rd_scanToken_87 c (jb (t q)) := by
        by_cases z1 : jb (t q) < 97
        · rw [if_pos z1]
        · rw [if_neg z1, if_pos]
          rw [jv] at z1 ⊢
          by_cases z4 : t q < 128
          · rw [if_pos z4] at z1 ⊢; omega
          · rw [if_neg z4] at z1 ⊢; omega
      rw [e87]
      unfold Rd_scanToken_87
      by_cases zd : 48 ≤ t q ∧ t q ≤ 57
      · have kk : tK t n q = if DQ t n q - q ≤ 4 then 2 else 4 := by
          unfold tK; rw [if_neg (show ¬ n ≤ q by omega), if_neg zl, if_pos zd]
        have kv : tV t n q = nv t q (DQ t n q - q).toNat := by unfold tV; rw [if_neg zl, if_pos zd]
        have ke : tE t n q = DQ t n q := by unfold tE; rw [if_neg (show ¬ n ≤ q by omega), if_neg zl, if_pos zd]
        have rr := rq_r (t := t) (n := n) (lo := 48) (hi := 57) 6000 q (by omega)
        have eR : Rd_runLength c 48 57 = some (DQ t n q - q) := by
          unfold Rd_runLength
          rw [Option.bind_some, Rd_run h (by omega) (by omega) (by omega) 6000 big (c 250 4) (Int.le_refl _) (by omega) (by omega) (by have := big_ge; omega), hq]
          rfl
        rw [ke] at r1 r2 r3
        rw [jv, if_pos (show t q < 128 by omega), if_neg (show ¬ t q < 48 by omega), if_neg (show ¬ 57 < t q by omega), eR, Option.bind_some]
        by_cases z4 : DQ t n q - q ≤ 4
        · have k2 : tK t n q = 2 := by rw [kk, if_pos z4]
          have eN : Rd_numberAt c (DQ t n q - q) = some (nv t q (DQ t n q - q).toNat) := by
            have := num_x h (by omega) (l := DQ t n q - q) z4 (by omega) (fun i a b => rr.2.2.1 i (by omega) (by have : DQ t n q = rq t n 48 57 6000 q := rfl; omega)) (DQ t n q - q).toNat big 0 (by omega) (by omega) (by have := big_ge; omega)
            rw [hq] at this
            exact this
          rw [if_pos z4, eN, Option.bind_some, Rd_add k0 k1 (by omega) (by omega) (by omega), Option.bind_some, k2, if_pos rfl, ke, kv, hq, show q + (DQ t n q - q) = DQ t n q by omega]
          rfl
        · have k4 : tK t n q = 4 := by rw [kk, if_neg z4]
          rw [if_neg z4, Rd_add k0 k1 (by omega) (by omega) (by omega), Option.bind_some, k4, if_neg (by decide), ke, hq, show q + (DQ t n q - q) = DQ t n q by omega]
          rfl
      · have kk : tK t n q = if t q = 59 ∨ t q = 43 ∨ t q = 45 ∨ t q = 61 ∨ t q = 64 then 3 else 4 := by
          unfold tK; rw [if_neg (show ¬ n ≤ q by omega), if_neg zl, if_neg zd]
        have kv : tV t n q = t q := by unfold tV; rw [if_neg zl, if_neg zd]
        have ke : tE t n q = q + 1 := by unfold tE; rw [if_neg (show ¬ n ≤ q by omega), if_neg zl, if_neg zd]
        have e135 : (if jb (t q) < 48 then Rd_scanToken_135 c (jb (t q)) else if 57 < jb (t q) then Rd_scanToken_135 c (jb (t q)) else (Rd_runLength c 48 57).bind fun x1 => if x1 ≤ 4 then (Rd_numberAt c x1).bind fun x3 => (Rd_addToken c 75 x3 x1).bind fun p5 => some (p5.1, p5.2) else (Rd_addToken c 76 0 x1).bind fun p8 => some (p8.1, p8.2)) = Rd_scanToken_135 c (jb (t q)) := by
          by_cases z1 : jb (t q) < 48
          · rw [if_pos z1]
          · rw [if_neg z1, if_pos]
            rw [jv] at z1 ⊢
            by_cases z4 : t q < 128
            · rw [if_pos z4] at z1 ⊢; omega
            · rw [if_neg z4] at z1 ⊢; omega
        rw [e135]
        unfold Rd_scanToken_135
        have eS : Rd_codeOfSign c (jb (t q)) = some (cdK (tK t n q) (tV t n q)) := by
          have i43 : jb (t q) = 43 ↔ t q = 43 := jb_is b2 b3 (by omega) (by omega)
          have i45 : jb (t q) = 45 ↔ t q = 45 := jb_is b2 b3 (by omega) (by omega)
          have i59 : jb (t q) = 59 ↔ t q = 59 := jb_is b2 b3 (by omega) (by omega)
          have i61 : jb (t q) = 61 ↔ t q = 61 := jb_is b2 b3 (by omega) (by omega)
          have i64 : jb (t q) = 64 ↔ t q = 64 := jb_is b2 b3 (by omega) (by omega)
          unfold Rd_codeOfSign
          simp only [i43, i45, i59, i61, i64]
          rw [kk, kv]
          by_cases s1 : t q = 43
          · rw [if_pos s1, if_pos (show t q = 59 ∨ t q = 43 ∨ t q = 45 ∨ t q = 61 ∨ t q = 64 by omega), s1]; rfl
          · rw [if_neg s1]
            by_cases s2 : t q = 45
            · rw [if_pos s2, if_pos (show t q = 59 ∨ t q = 43 ∨ t q = 45 ∨ t q = 61 ∨ t q = 64 by omega), s2]; rfl
            · rw [if_neg s2]
              by_cases s3 : t q = 59
              · rw [if_pos s3, if_pos (show t q = 59 ∨ t q = 43 ∨ t q = 45 ∨ t q = 61 ∨ t q = 64 by omega), s3]; rfl
              · rw [if_neg s3]
                by_cases s4 : t q = 61
                · rw [if_pos s4, if_pos (show t q = 59 ∨ t q = 43 ∨ t q = 45 ∨ t q = 61 ∨ t q = 64 by omega), s4]; rfl
                · rw [if_neg s4]
                  by_cases s5 : t q = 64
                  · rw [if_pos s5, if_pos (show t q = 59 ∨ t q = 43 ∨ t q = 45 ∨ t q = 61 ∨ t q = 64 by omega), s5]; rfl
                  · rw [if_neg s5, if_neg (show ¬ (t q = 59 ∨ t q = 43 ∨ t q = 45 ∨ t q = 61 ∨ t q = 64) by omega)]; rfl
        have k2 : ¬ tK t n q = 2 := by rw [kk]; split <;> decide
        rw [eS, Option.bind_some, Rd_add k0 k1 (by omega) (by omega) (by omega), Option.bind_some, if_neg k2, ke, hq]
  · have kk : tK t n q = 0 := by unfold tK; rw [if_pos (by omega)]
    have ke : tE t n q = q := by unfold tE; rw [if_pos (by omega)]
    rw [if_neg z, Rd_add k0 k1 (by omega) (by omega) (by omega), Option.bind_some, kk, ke, if_neg (by decide), hq, show q + 0 = q by omega]
    rfl
