-- L3: the law from its entry to its end, in the functions' world
theorem lws_n {B L : Int} {s : Int → Int} {μ : Mem} (h : LWS B L s μ) : μ 0 0 ≤ 2016 := by
  obtain ⟨K, k0, k1, k2, -⟩ := h.1.h.p
  omega
theorem law_loop2 {L : Int} {s : Int → Int} (hs : ∀ i, 0 ≤ i → i < L → s i < 2147483648) (L0 : 0 ≤ L) (L1 : L ≤ 1000000) : ∀ (k N : Nat) (μ : Mem) (l B : Int), LWS B L s μ → B + 1200 * (k : Int) ≤ 1000000 → 0 ≤ l → L < l + 6 * (k : Int) + 6 → k < N → ∃ μ', L_law_18 N μ l = some (1, μ') ∧ μ' 0 0 ≤ 2016 := by
  intro k
  induction k with
  | zero =>
    intro N μ l B h hB l0 l1 hN
    obtain ⟨N, rfl⟩ : ∃ j, N = j + 1 := ⟨N - 1, by omega⟩
    exact ⟨μ, law_end h.2.2.1 L0 L1 (by omega), lws_n h⟩
  | succ k ih =>
    intro N μ l B h hB l0 l1 hN
    obtain ⟨N, rfl⟩ : ∃ j, N = j + 1 := ⟨N - 1, by omega⟩
    by_cases z : L < l + 6
    · exact ⟨μ, law_end h.2.2.1 L0 L1 z, lws_n h⟩
    · obtain ⟨μ', h1, h2⟩ := law_step (n := N) h hs (by omega) l0 (by omega) L1
      obtain ⟨μ2, h3, h4⟩ := ih N μ' (l + 6) (B + 1200) h1 (by omega) (by omega) (by omega) (by omega)
      exact ⟨μ2, by rw [h2, h3], h4⟩
theorem law_run {c : Mem} {L : Int} (h : PRE c) (hL : c 0 1 = L) (L0 : 0 ≤ L) (L1 : L ≤ 3072) (hs : ∀ i, 0 ≤ i → i < L → c (-7) i < 2147483648) : ∃ μ', Runs 0 cd_0 [some (vA (-7)), none, none, none] [] c (some (vI 1), μ') ∧ μ' 0 0 ≤ 2016 := by
  obtain ⟨d, μ, e1, e2, e3, e4, e5, e6, e7⟩ := start h
  have c0 : c 0 0 = 0 := h.2.1
  have hl : LWS 0 L (c (-7)) μ := ⟨e4, e5, by rw [e6, hL], e7 (-7) (by decide)⟩
  obtain ⟨μ', hμ, hb⟩ := law_loop2 hs L0 (by omega) 512 big μ 0 0 hl (by decide) (by decide) (by omega) (Nat.lt_of_lt_of_le (by decide) big_ge)
  have n1 : nw c 11 15 = some (al 1 c) := by
    unfold nw
    rw [show c 0 0 + 1 = 1 by omega, if_pos (by rw [c0]; decide +kernel), alo_al (show c 0 0 + 1 = 1 by omega)]
  have n2 : nw d 12 41 = some (al 259 d) := by
    unfold nw
    rw [show d 0 0 + 1 = 259 by omega, if_pos (by rw [e2]; decide +kernel), alo_al (show d 0 0 + 1 = 259 by omega)]
  have hr := t_L_law_18 big μ 0 (1, μ') hμ e5
  refine ⟨μ', ?_⟩
  have key : Rn FX 0 cd_0 [some (vA (-7)), none, none, none] [] c (some (vI 1), μ') := by
    refine Rnew rfl n1 ?_
    rw [show c 0 0 + 1 = 1 by omega]
    refine N1 (j := 1) (fun _ => rfl) ?_
    refine CC (vs := [vA 1]) (st := [vA 1]) (r1 := (none, d)) md_1 (ci_special rfl) rfl (clE rfl) (decide_eq_true (show (1 : Int) ≠ 0 ∧ kd 1 = 11 by decide +kernel)) rfl (t_wD_init e1 trivial).1 ?_
    refine Rastore (x := 1) (d := some (vA (-7))) rfl rfl (by decide) ?_
    refine Rnew rfl n2 ?_
    rw [show d 0 0 + 1 = 259 by omega]
    refine N1 (j := 1) (fun _ => rfl) ?_
    refine CC (vs := [vA 259]) (st := [vA 259]) (r1 := (none, μ)) md_183 (ci_special rfl) rfl (clE rfl) (decide_eq_true (show (259 : Int) ≠ 0 ∧ kd 259 = 12 by decide +kernel)) rfl (t_wM_init e3 trivial).1 ?_
    refine Rastore (x := 259) (d := some (vA 1)) rfl rfl (by decide) ?_
    refine N1 (j := 1) (fun _ => rfl) ?_
    refine Ristore (x := 0) (d := some (vA 259)) rfl rfl (by decide) ?_
    exact hr
  exact ⟨key.1, hb⟩
