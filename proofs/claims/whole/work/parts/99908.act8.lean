-- L3: enter: values set
theorem KON_o {μ ν : Mem} (h : KON μ) (e : ∀ o, (o < 0 ∨ o = 232 ∨ o = 240 ∨ (260 ≤ o ∧ o ≤ 263)) → ν o = μ o) : KON ν := by
  obtain ⟨h1, h2, h3, h4, h5, h6, h7, h8, h9, h10, h11, h12⟩ := h
  refine ⟨fun i a b => ?_, fun i a b => ?_, fun i a b => ?_, fun i a b => ?_, fun i a b => ?_, fun i a b => ?_, fun i a b => ?_, fun i a b => ?_, fun i a b => ?_, fun i a b => ?_, fun i a b => ?_, fun i a b => ?_⟩
  · rw [e 261 (by omega)]; exact h1 i a b
  · rw [e 262 (by omega)]; exact h2 i a b
  · rw [e 263 (by omega)]; exact h3 i a b
  · rw [e 260 (by omega)]; exact h4 i a b
  · rw [e (-1) (by omega)]; exact h5 i a b
  · rw [e (-2) (by omega)]; exact h6 i a b
  · rw [e (-3) (by omega)]; exact h7 i a b
  · rw [e (-4) (by omega)]; exact h8 i a b
  · rw [e (-5) (by omega)]; exact h9 i a b
  · rw [e (-6) (by omega)]; exact h10 i a b
  · rw [e 232 (by omega)]; exact h11 i a b
  · rw [e 240 (by omega)]; exact h12 i a b
/-- two loops side by side, with the fuel counted -/
theorem loop3 {α β : Type} (F : Nat → Mem → Int → Option α) (G : Nat → Mem → Int → Option β) (R : Int → Mem → Mem → Prop) (s t lo hi : Int) (step : ∀ i c m, lo ≤ i → i < hi → R i c m → ∃ c' m', (∀ n, F (n + 1) c (s + i) = F n c' (s + i + 1)) ∧ (∀ k, G (k + 1) m (t + i) = G k m' (t + i + 1)) ∧ R (i + 1) c' m') : ∀ (d : Nat) (i : Int) (c m : Mem), i + d = hi → lo ≤ i → R i c m → ∃ c' m', (∀ N, F (N + d) c (s + i) = F N c' (s + hi)) ∧ (∀ K, G (K + d) m (t + i) = G K m' (t + hi)) ∧ R hi c' m' := by
  intro d
  induction d with
  | zero =>
    intro i c m e _ hR
    obtain rfl : i = hi := by omega
    exact ⟨c, m, fun _ => rfl, fun _ => rfl, hR⟩
  | succ d ih =>
    intro i c m e hl hR
    obtain ⟨c1, m1, e1, e2, hR1⟩ := step i c m hl (by omega) hR
    obtain ⟨c', m', f1, f2, f3⟩ := ih (i + 1) c1 m1 (by omega) (by omega) hR1
    refine ⟨c', m', fun N => ?_, fun K => ?_, f3⟩
    · rw [← Nat.add_assoc, e1, ← f1, show s + i + 1 = s + (i + 1) by omega]
    · rw [← Nat.add_assoc, e2, ← f2, show t + i + 1 = t + (i + 1) by omega]
def VSR (c0 m0 c m : Mem) : Prop := m = up m0 264 (m 264) ∧ SR c 3 (m 264) ∧ WF (m 264) ∧ (∀ o, ¬ o = 80 → ¬ (130 ≤ o ∧ o < 220) → c o = c0 o) ∧ (∀ i, ¬ (1562 ≤ i ∧ i < 12722) → m 264 i = m0 264 i) ∧ (∀ i, 0 ≤ i → i < 30 → c (c0 79 i) = c0 (c0 79 i))
def TG (c0 m0 : Mem) (kb tg : Int) : Prop := (m0 264 12722 = -1 ∧ kb = -1 ∧ tg = 80) ∨ (0 ≤ kb ∧ kb < c0 3 8 ∧ c0 (c0 79 kb) 0 = m0 264 12722 ∧ 0 < m0 264 12722 ∧ tg = c0 79 kb + 2)
theorem VSR_row {c0 m0 c m : Mem} (h : VSR c0 m0 c m) {n : Int} : rowOf (m 264) n = rowOf (m0 264) n := by
  have e : ∀ r : Int, 0 ≤ r → r < 30 → cn (m 264) r = cn (m0 264) r := fun r a b => h.2.2.2.2.1 _ (by omega)
  unfold rowOf
  have : ∀ k : Nat, k ≤ 30 → itr (fun r s => if 0 < n ∧ cn (m 264) r = n then r else s) (-1) k = itr (fun r s => if 0 < n ∧ cn (m0 264) r = n then r else s) (-1) k := by
    intro k
    induction k with
    | zero => intro _; rfl
    | succ k ih =>
      intro hk
      show (if 0 < n ∧ cn (m 264) (k : Int) = n then (k : Int) else itr _ (-1) k) = (if 0 < n ∧ cn (m0 264) (k : Int) = n then (k : Int) else itr _ (-1) k)
      rw [e k (by omega) (by omega), ih (by omega)]
  exact this 30 (Nat.le_refl _)
theorem WF_hc {g : Int → Int} {f v : Int} (hw : WF g) (f0 : 0 ≤ f) (f1 : f < 360) (hv : VAL v) (hh : 0 ≤ v → hasP (g (6 * (f / 9))) (f % 9)) : WF (st1 g (12362 + f) v) := by
  refine WF_reg hw (lo := 12362) (hi := 12722) (fun i a => st1_ne (by omega)) (h9 := Or.inr (fun i i0 i1 => ?_))
  rw [st1_ne (show ¬ 6 * (i / 9) = 12362 + f by omega)]
  by_cases z : 12362 + i = 12362 + f
  · rw [z, st1_eq]
    obtain rfl : i = f := by omega
    exact ⟨hv, hh⟩
  · rw [st1_ne z]; exact hw.h i i0 i1
theorem SR_hc {c : Mem} {g : Int → Int} {f v : Int} (hs : SR c 3 g) (hw : WF g) (f0 : 0 ≤ f) (f1 : f < 360) : SR (up c 80 (st1 (c 80) f v)) 3 (st1 g (12362 + f) v) := by
  refine SR_reg hs hw (p1 := 80) (olo := 80) (ohi := 80) (lo := 12362) (hi := 12722) (fun o a _ => up_ne a) (fun i a => st1_ne (by omega)) (h8 := Or.inr (fun i i0 i1 => ?_))
  rw [up_eq]
  unfold st1
  by_cases z : i = f
  · rw [if_pos z, if_pos (by omega)]
  · rw [if_neg z, if_neg (by omega)]; exact S3.h hs i i0 i1
/-- a value comes to a unit that has the parameter -/
theorem gvY {c0 m0 c m : Mem} {kb tg u p v : Int} (hV : VSR c0 m0 c m) (hT : TG c0 m0 kb tg) (km : KON m0) (u0 : 0 ≤ u) (u1 : u < 40) (p0 : 0 ≤ p) (p1 : p < 9) (hh : hasP (m0 264 (6 * u)) p) (hv : VAL v) : ∃ c' m', wD c tg (9 * u + p) v = some c' ∧ M_give m u p v = some m' ∧ VSR c0 m0 c' m' := by
  have hrow := fun n => VSR_row hV (n := n)
  obtain ⟨l1, l2, l3, l4, l5, l6⟩ := hV
  have km1 : KON m := KON_o km (fun o a => by rw [l1, up_ne (by omega)])
  have c79 : c 79 = c0 79 := l4 79 (by omega) (by omega)
  have c3 : c 3 = c0 3 := l4 3 (by omega) (by omega)
  have n30 := (S3.n l2).2
  rw [c3] at n30
  have d1 : (9 * u + p) / 9 = u := by omega
  have d2 : (9 * u + p) % 9 = p := by omega
  have hh' : 0 ≤ v → hasP (m 264 (6 * ((9 * u + p) / 9))) ((9 * u + p) % 9) := fun _ => by rw [d1, d2, l5 _ (by omega)]; exact hh
  have eM : M_give m u p v = if 0 ≤ m0 264 12722 then (M_cueRow m (m0 264 12722)).bind fun x5 => M_give_45 m v (9 * u + p) x5 else M_give_45 m v (9 * u + p) (-1) := by
    unfold M_give
    rw [M_has_e km1 l3.u u0 u1 p0 p1, Option.bind_some, l5 (6 * u) (by omega), if_pos (show 0 ≤ m0 264 (6 * u) ∧ jand (jshr (tbl hasT (m0 264 (6 * u))) p) 1 = 1 from hh), if_pos (by decide), jmul_e (by omega) (by omega), jadd_e (by omega) (by omega), Option.bind_some, l5 12722 (by omega)]
  rcases hT with ⟨b1, b2, b3⟩ | ⟨b1, b2, b3, b4, b5⟩
  · rw [eM, if_neg (by omega), b3, wD3 (by decide) (by decide) k80 (by omega) (by omega)]
    unfold M_give_45
    rw [if_neg (by decide), jadd_e (by omega) (by omega), sI_up (by omega) (by omega), Option.bind_some]
    refine ⟨_, _, rfl, rfl, ?_, by rw [up_eq]; exact SR_hc l2 l3 (by omega) (by omega), by rw [up_eq]; exact WF_hc l3 (by omega) (by omega) hv hh', fun o x y => ?_, fun i x => ?_, fun i i0 i1 => ?_⟩
    · rw [up_eq]
      conv => lhs; rw [l1]
      rw [up_eq, up_up]
    · rw [up_ne x, l4 o x y]
    · rw [up_eq, st1_ne (by omega), l5 i x]
    · have := cq_k l2 i0 i1
      rw [c79] at this
      rw [up_ne (by omega), l6 i i0 i1]
  · have q := cq_k l2 b1 (by omega)
    have hr : rowOf (m0 264) (m0 264 12722) = rowOf (m 264) (c (c 79 kb) 0) := by rw [c79, l6 kb b1 (by omega), b3, hrow]
    obtain ⟨r0, r1, _⟩ := S3.row l2 l3.n b1 (show kb < c 3 8 by rw [c3]; exact b2)
    rw [← hr] at r0 r1
    have s := SR_ch (v := v) (f := 9 * u + p) l2 l3 b1 (show kb < c 3 8 by rw [c3]; exact b2) (by omega) (by omega) hr
    rw [c79] at s q
    rw [eM, if_pos (by omega), M_cueRow_e, Option.bind_some, hrow, b5, wCh (by omega) (by omega) (by omega) (by omega) (by omega)]
    unfold M_give_45
    rw [if_pos r0, jmul_e (by omega) (by omega), jadd_e (x := 1562) (by omega) (by omega), jadd_e (by omega) (by omega), sI_up (by omega) (by omega), Option.bind_some]
    refine ⟨_, _, rfl, rfl, ?_, by rw [up_eq]; exact s, by rw [up_eq]; exact WF_ch l3 r0 r1 (by omega) (by omega) hv hh', fun o x y => ?_, fun i x => ?_, fun i i0 i1 => ?_⟩
    · rw [up_eq]
      conv => lhs; rw [l1]
      rw [up_eq, up_up]
    · rw [up_ne (by omega), l4 o x y]
    · rw [up_eq, st1_ne (by omega), l5 i x]
    · have p := cq_k l2 i0 i1
      rw [c79] at p
      rw [up_ne (by omega), l6 i i0 i1]
theorem gvN {c0 m0 c m : Mem} {u p v : Int} (hV : VSR c0 m0 c m) (km : KON m0) (u0 : 0 ≤ u) (u1 : u < 40) (p0 : 0 ≤ p) (p1 : p < 9) (hh : ¬ hasP (m0 264 (6 * u)) p) : M_give m u p v = some m := by
  obtain ⟨l1, l2, l3, l4, l5, l6⟩ := hV
  have km1 : KON m := KON_o km (fun o a => by rw [l1, up_ne (by omega)])
  unfold M_give
  rw [M_has_e km1 l3.u u0 u1 p0 p1, Option.bind_some, l5 (6 * u) (by omega), if_neg (show ¬ (0 ≤ m0 264 (6 * u) ∧ jand (jshr (tbl hasT (m0 264 (6 * u))) p) 1 = 1) from hh), if_neg (fun x => x rfl)]
theorem hasC {c0 m0 c m : Mem} {u p : Int} (hV : VSR c0 m0 c m) (kc : KON c0) (u0 : 0 ≤ u) (u1 : u < 40) : (hasP (m0 264 (6 * u)) p → Sh_has c (u + 1) p = some 1) ∧ (¬ hasP (m0 264 (6 * u)) p → Sh_has c (u + 1) p = some 0) := by
  obtain ⟨l1, l2, l3, l4, l5, l6⟩ := hV
  have kc1 : KON c := KON_o kc (fun o a => l4 o (by omega) (by omega))
  have e := Sh_has_e (p := p) l2 l3 kc1 (u := u + 1) (by omega) (by omega)
  rw [show u + 1 - 1 = u by omega, l5 (6 * u) (by omega)] at e
  exact ⟨fun x => by rw [e, if_pos (show 0 ≤ m0 264 (6 * u) ∧ jand (jshr (tbl hasT (m0 264 (6 * u))) p) 1 = 1 from x)], fun x => by rw [e, if_neg (show ¬ (0 ≤ m0 264 (6 * u) ∧ jand (jshr (tbl hasT (m0 264 (6 * u))) p) 1 = 1) from x)]⟩
theorem cna_VSR {c0 m0 c m : Mem} (h : VSR c0 m0 c m) (hs0 : SR c0 3 (m0 264)) (n : Int) : cna c n = cna c0 n := by
  obtain ⟨l1, l2, l3, l4, l5, l6⟩ := h
  obtain ⟨_, a1, a2, a3, a4⟩ := cna_s l2 n
  obtain ⟨_, b1, b2, b3, b4⟩ := cna_s hs0 n
  have c79 : c 79 = c0 79 := l4 79 (by omega) (by omega)
  have c3 : c 3 = c0 3 := l4 3 (by omega) (by omega)
  have n30 := (S3.n l2).2
  rw [c79] at a3 a4
  rw [c3] at n30 a2 a4
  by_cases z : cna c n < cna c0 n
  · have x := b3 _ a1 z
    have y := a4 _ (Int.le_refl _) (by omega)
    rw [l6 _ a1 (by omega)] at y
    omega
  · by_cases z2 : cna c0 n < cna c n
    · have x := a3 _ b1 z2
      have y := b4 _ (Int.le_refl _) (by omega)
      rw [l6 _ b1 (by omega)] at x
      omega
    · omega
theorem prs {B : Int} {c0 m0 c m : Mem} {kb tg u p : Int} (hp : PR B c0 m0) (hs0 : SR c0 3 (m0 264)) (hO : 280 ≤ c0 0 0) (hV : VSR c0 m0 c m) (hT : TG c0 m0 kb tg) (kc : KON c0) (km : KON m0) (u0 : 0 ≤ u) (u1 : u < 40) (p0 : 0 ≤ p) (p1 : p < 9) : ∃ L, Ed_levelToChange c (u + 1) p kb = some L ∧ M_present m u p = some L ∧ 0 ≤ L ∧ L ≤ 1000 := by
  have hcna := fun n => cna_VSR hV hs0 n
  obtain ⟨l1, l2, l3, l4, l5, l6⟩ := hV
  have kc1 : KON c := KON_o kc (fun o a => l4 o (by omega) (by omega))
  have km1 : KON m := KON_o km (fun o a => by rw [l1, up_ne (by omega)])
  have hp1 : PR B c m := PR_congr hp (fun o a b => l4 o (by omega) (by omega)) (fun o a b => by rw [l1, up_ne (by omega)]) (fun f _ _ => by rw [l1, up_ne (by decide)])
  have hO1 : 280 ≤ c 0 0 := by rw [l4 0 (by omega) (by omega)]; exact hO
  unfold Ed_levelToChange M_present
  rw [jmul_e (by omega) (by omega), jadd_e (x := 9 * u) (by omega) (by omega), Option.bind_some, l5 12722 (by omega)]
  rcases hT with ⟨b1, b2, b3⟩ | ⟨b1, b2, b3, b4, b5⟩
  · obtain ⟨hv1, _⟩ := l3.h (9 * u + p) (by omega) (by omega)
    have hh := S3.h l2 (9 * u + p) (by omega) (by omega)
    rw [if_pos (by omega), if_pos (by omega), D_cellOf_e (by omega) (by omega) p0 p1, Option.bind_some, show 9 * (u + 1 - 1) + p = 9 * u + p by omega, aI_ok (by omega) (by omega), Option.bind_some, hh, jadd_e (by omega) (by omega), aI_ok (by omega) (by omega), Option.bind_some]
    by_cases z : m 264 (12362 + (9 * u + p)) = -1
    · rw [if_neg (fun x => x z), if_pos (by omega), Pl_cueLevel_m hp1 (by omega) (by omega), Option.bind_some, M_cueLevel_e (by omega) (by omega), Option.bind_some]
      exact ⟨_, rfl, rfl, clv_r hp1 (by omega) (by omega)⟩
    · rw [if_pos z, if_neg (by unfold VAL at hv1; omega), Sh_levelFor_e l2 l3 kc1 hv1 p0 p1, Option.bind_some, Option.bind_some, M_levelOf_e km1 hv1 p0 p1, Option.bind_some]
      exact ⟨_, rfl, rfl, lev_r l3 hv1 p0 p1⟩
  · have n30 := (S3.n hs0).2
    have ka := cna_at hs0 b1 b2
    rw [b3] at ka
    rw [if_neg (by omega), if_neg (by omega), jadd_e (by omega) (by omega), ← ka, ← hcna, Sh_trackedLevel_e l2 l3 kc1 hO1 _ (by omega) (by omega) p0 p1, Option.bind_some, show 9 * (u + 1 - 1) + p = 9 * u + p by omega, M_trackedLevel_e km1 l3.c (by omega) (by omega), Option.bind_some]
    exact ⟨_, rfl, rfl, tlv_r l3 (by omega) (by omega)⟩
