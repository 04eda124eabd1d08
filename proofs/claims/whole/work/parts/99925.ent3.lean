-- L3: enter
theorem op_enter (hrem : REMP) {B : Int} {c m : Mem} (h : INV B c m) (hF : FX c) : ∃ v c' m', D_enter c = some (v, c') ∧ M_enter m = some (v, m') ∧ INV B c' m' ∧ UN c c' := by
  have tn := h.t.n
  have tt := h.t.t
  have hb := big_ge
  -- the class
  have hO2 : some (wr (wr (wr (wr (wr c 1 2 0) 1 3 (-1)) 250 2 2) 250 3 (m 259 10)) 250 4 0) = Rd_open (wr (wr c 1 2 0) 1 3 (-1)) (m 259 10) := rfl
  have f1 : FX (wr (wr c 1 2 0) 1 3 (-1)) := FXw (FXw hF (by decide +kernel)) (by decide +kernel)
  have f2 := (t_Rd_open hO2.symm f1).2
  have u2 : UN c (wr (wr (wr (wr (wr c 1 2 0) 1 3 (-1)) 250 2 2) 250 3 (m 259 10)) 250 4 0) := UNw (UNw (UNw (UNw (UNw UN.refl uo_1) uo_1) (by decide)) (by decide)) (by decide)
  have eD : D_enter c = D_enter_29 big (wr (wr (wr (wr (wr c 1 2 0) 1 3 (-1)) 250 2 2) 250 3 (m 259 10)) 250 4 0) 0 0 := by
    unfold D_enter
    rw [Option.bind_some, Option.bind_some, wr_f (show ¬ (1 : Int) = 3 by decide), wr_f (show ¬ (1 : Int) = 2 by decide), tn.1, ← hO2, Option.bind_some]
  generalize hc1 : wr (wr (wr (wr (wr c 1 2 0) 1 3 (-1)) 250 2 2) 250 3 (m 259 10)) 250 4 0 = c1 at *
  have co : ∀ o, ¬ o = 1 → ¬ o = 250 → c1 o = c o := fun o a b => by rw [← hc1, wr_o b, wr_o b, wr_o b, wr_o a, wr_o a]
  have c12 : c1 1 2 = 0 := by rw [← hc1, wr_o (by decide), wr_o (by decide), wr_o (by decide), wr_f (by decide), wr_eq]
  have c13 : c1 1 3 = -1 := by rw [← hc1, wr_o (by decide), wr_o (by decide), wr_o (by decide), wr_eq]
  have c16 : c1 1 6 = c 1 6 := by rw [← hc1, wr_o (by decide), wr_o (by decide), wr_o (by decide), wr_f (by decide), wr_f (by decide)]
  have c52 : c1 250 2 = 2 := by rw [← hc1, wr_f (by decide), wr_f (by decide), wr_eq]
  have c53 : c1 250 3 = m 259 10 := by rw [← hc1, wr_f (by decide), wr_eq]
  have c54 : c1 250 4 = 0 := by rw [← hc1, wr_eq]
  -- the model
  have eM : ∃ m1, M_enter m = M_enter_46 big m1 0 1 ∧ (∀ o, ¬ o = 259 → ¬ o = 265 → m1 o = m o) ∧ (∀ f, ¬ f = 11 → ¬ f = 12 → ¬ f = 18 → m1 259 f = m 259 f) ∧ m1 259 11 = 0 ∧ m1 259 12 = -1 ∧ m1 259 18 = 0 ∧ (∀ i, 0 ≤ i → i < 12943 → m1 265 i = m 264 i) := by
    have k := asg (fun N μ i => M_enter_2 N μ i) 265 0 0 12943 (fun i => m 264 i) m (by
      intro N μ i i0 i1 h1 _ _
      show M_enter_2 (N + 1) μ i = M_enter_2 N _ (i + 1)
      rw [M_enter_2, if_neg (by omega), aI_ok i0 i1, Option.bind_some, h1 264 (by decide), sI_up i0 i1, Option.bind_some, jadd_e (by omega) (by omega), show (0 : Int) + i = i by omega]) 12943 (by omega) big (by omega)
    have k' : M_enter_2 big m 0 = _ := k
    obtain ⟨N, hN⟩ : ∃ N, big - 12943 = N + 1 := ⟨big - 12943 - 1, by omega⟩
    unfold M_enter
    rw [k', hN]
    generalize hμ : up m 265 (fun j => if (0 : Int) + 0 ≤ j ∧ j < 0 + 0 + ((12943 : Nat) : Int) then m 264 (j - 0) else m 265 j) = μ
    have μo : ∀ o, ¬ o = 265 → μ o = m o := fun o a => by rw [← hμ, up_ne a]
    refine ⟨wr (wr (wr μ 259 11 0) 259 12 (-1)) 259 18 0, ?_, fun o a b => by rw [wr_o a, wr_o a, wr_o a, μo o b], fun f a b d => by rw [wr_f d, wr_f b, wr_f a, μo 259 (by decide)], by rw [wr_f (by decide), wr_f (by decide), wr_eq], by rw [wr_f (by decide), wr_eq], wr_eq, fun i i0 i1 => ?_⟩
    · show M_enter_2 (N + 1) _ _ = _
      rw [M_enter_2, if_pos (by omega), Option.bind_some, Option.bind_some, Option.bind_some]
    · rw [wr_o (by decide), wr_o (by decide), wr_o (by decide), ← hμ, up_eq, if_pos (by omega), Int.sub_zero]
  obtain ⟨m1, e1, mo, mf, m11, m12, m18, ma⟩ := eM
  have e4 : m1 264 = m 264 := mo 264 (by decide) (by decide)
  have hES : ES B (m 267) (m 259 10) 0 (m 264) 0 c c1 m1 := by
    refine ⟨⟨?_, ?_, ?_, ?_, ?_, ?_, ?_, ?_, ?_, Or.inl ⟨rfl, ?_⟩⟩, u2, f2, ⟨c52, c53, tn.2.1, tn.2.2, ?_⟩, ⟨?_, tn.2.1, tn.2.2, ?_⟩, c54, m18, Int.le_refl _, tn.2.1, m11, m12, ma, fun _ => e4⟩
    · rw [e4]; exact SR_congr h.s (fun o a b => co o (by omega) (by omega))
    · rw [e4]; exact h.w
    · exact PR_congr h.p (fun o a b => co o (by omega) (by omega)) (fun o a b => mo o (by omega) (by omega)) (fun f a b => mf f (by omega) (by omega) (by omega))
    · exact GR_congr h.g (fun o a b => co o (by omega) (by omega)) (fun o a b => mo o (by omega) (by omega)) (fun f a b => mf f (by omega) (by omega) (by omega))
    · exact KON_o h.kc (fun o a => co o (by omega) (by omega))
    · exact KON_o h.km (fun o a => mo o (by omega) (by omega))
    · rw [co 0 (by decide) (by decide)]; exact h.o
    · rw [c12, m11]
    · rw [c13, m12]
    · exact HR_congr h.h c16 (by rw [co 0 (by decide) (by decide)]) (co 220 (by decide) (by decide)) (fun o a => co o (by omega) (by omega)) (mf 7 (by decide) (by decide) (by decide)) (mf 8 (by decide) (by decide) (by decide)) (mo 266 (by decide) (by decide))
    · rw [co 2 (by decide) (by decide)]; exact tt
    · exact mf 10 (by decide) (by decide) (by decide)
    · intro i i0 i1
      rw [mo 267 (by decide) (by decide)]
      have := tt i i0 i1
      exact ⟨rfl, this.2⟩
  obtain ⟨v, c', m', x1, x2, x3, x4⟩ := ent_x hrem (m 259 10).toNat big big 0 0 0 c1 m1 hES (by omega) (by omega) (by omega) (by omega) (by omega) (by omega) (by omega)
  exact ⟨v, c', m', by rw [eD, x1], by rw [e1, x2], x3, x4⟩
