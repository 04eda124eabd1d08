-- L3: the byte of a slot
theorem M_width_T {μ : Mem} (hk : KON μ) {k : Int} : ∀ (n : Nat) (a b : Int), M_width_9 μ k n a b = M_width_9 μT k n a b := by
  intro n
  induction n with
  | zero => intro a b; rfl
  | succ n ih =>
    intro a b
    rw [M_width_9, M_width_9, T263 hk, T262 hk]
    simp only [ih]
theorem M_width_up {k : Int} {v : Int} (j : Nat) : ∀ (n : Nat) (a b : Int), M_width_9 μT k n a b = some v → M_width_9 μT k (n + j) a b = some v := by
  intro n
  induction n with
  | zero => intro a b h; exact noneS h
  | succ n ih =>
    intro a b h
    rw [M_width_9] at h
    rw [show n + 1 + j = n + j + 1 by omega, M_width_9]
    revert h
    cases aI μT 263 10 (jadd k 1) with
    | none => exact id
    | some x =>
      simp only [Option.bind_some]
      cases aI μT 262 22 b with
      | none =>
        repeat' split
        all_goals first | exact ih _ _ | exact id
      | some y =>
        simp only [Option.bind_some]
        repeat' split
        all_goals first | exact ih _ _ | exact id
theorem M_width_D : ∀ k ∈ List.range 9, (aI μT 263 10 (k : Int)).bind (fun x => M_width_9 μT (k : Int) 20 0 x) = some (wdK k) := by decide +kernel
theorem M_width_e {μ : Mem} (hk : KON μ) {k : Int} (k0 : 0 ≤ k) (k1 : k < 9) : M_width μ k = some (wdK k) := by
  obtain ⟨k', rfl⟩ : ∃ k' : Nat, k = (k' : Int) := ⟨k.toNat, by omega⟩
  unfold M_width
  simp only [T263 hk, M_width_T hk]
  have h := M_width_D k' (List.mem_range.mpr (by omega))
  obtain ⟨x, e, h⟩ := bindS h
  rw [e, Option.bind_some]
  have := M_width_up (big - 20) 20 _ _ h
  rwa [show 20 + (big - 20) = big by have := big_ge; omega] at this
theorem wdK_r {k : Int} (k0 : 0 ≤ k) (k1 : k < 9) : 1 ≤ wdK k ∧ wdK k ≤ 8 := by
  obtain ⟨k', rfl⟩ : ∃ k' : Nat, k = (k' : Int) := ⟨k.toNat, by omega⟩
  have : ∀ q ∈ List.range 9, 1 ≤ wdK (q : Int) ∧ wdK (q : Int) ≤ 8 := by decide +kernel
  exact this k' (List.mem_range.mpr (by omega))
/-- the walk to the parameter of a slot -/
def wk : Nat → Int → Int → Option (Int × Int)
  | 0, _, _ => none
  | n + 1, l, k => (aI μT 262 22 k).bind fun x => if x < 16 then (if l < 1 then some (k, l) else wk n (jsub l 1) (jadd k 1)) else if l < 2 then some (k, l) else wk n (jsub l 2) (jadd k 1)
def fin1 (v pt : Int) : Int := if pt = 0 then jdiv (jadd (jmul v 255) 500) 1000 else if pt = 1 then jdiv (jdiv (jadd (jmul v 65535) 500) 1000) 256 else jrem (jdiv (jadd (jmul v 65535) 500) 1000) 256
theorem wk_M {μ : Mem} (hk : KON μ) {u k' l' : Int} (j : Nat) : ∀ (n : Nat) (l k : Int), wk n l k = some (k', l') → ∃ x, aI μT 262 22 k' = some x ∧ M_byteOf_18 μ u (n + j) l k = (M_output μ u (jand x 15)).bind fun v => some (fin1 v (if x < 16 then 0 else if l' = 0 then 1 else 2)) := by
  intro n
  induction n with
  | zero => intro l k h; exact noneS h
  | succ n ih =>
    intro l k h
    rw [wk] at h
    obtain ⟨x, e, h⟩ := bindS h
    rw [show n + 1 + j = n + j + 1 by omega, M_byteOf_18]
    unfold M_byteOf_36
    simp only [T262 hk, e, Option.bind_some]
    by_cases e1 : x < 16
    · rw [if_pos e1] at h
      rw [if_pos e1]
      by_cases e2 : l < 1
      · rw [if_pos e2] at h
        rw [if_pos e2]
        have hq := Prod.mk.inj (Option.some.inj h)
        rw [← hq.1, ← hq.2]
        refine ⟨x, e, ?_⟩
        rw [if_pos e1]
        congr 1
        funext v
        rw [if_neg (show ¬ 16 ≤ x by omega)]
        rfl
      · rw [if_neg e2] at h
        rw [if_neg e2, if_pos e1]
        exact ih _ _ h
    · rw [if_neg e1] at h
      rw [if_neg e1]
      by_cases e2 : l < 2
      · rw [if_pos e2] at h
        rw [if_pos e2]
        have hq := Prod.mk.inj (Option.some.inj h)
        rw [← hq.1, ← hq.2]
        refine ⟨x, e, ?_⟩
        rw [if_neg e1]
        congr 1
        funext v
        rw [if_pos (show 16 ≤ x by omega)]
        by_cases e3 : l = 0
        · rw [if_neg (fun x => x e3), if_pos e3]; rfl
        · rw [if_pos e3, if_neg e3]; rfl
      · rw [if_neg e2] at h
        rw [if_neg e2, if_neg e1]
        exact ih _ _ h
theorem wk_D : ∀ k ∈ List.range 9, ∀ q ∈ List.range 8, (q : Int) < wdK (k : Int) → (match (aI μT 263 10 (k : Int)).bind (fun x => wk 12 (q : Int) x) with
    | some r => (match aI μT 262 22 r.1 with
      | some x => decide (jand x 15 = jdiv (tbl layT (8 * (k : Int) + q)) 10 ∧ (if x < 16 then (0 : Int) else if r.2 = 0 then 1 else 2) = jrem (tbl layT (8 * (k : Int) + q)) 10 ∧ 0 ≤ jand x 15 ∧ jand x 15 < 9)
      | none => false)
    | none => false) = true := by decide +kernel
theorem M_byteOf_e {μ : Mem} (hk : KON μ) (hw : WF (μ 264)) {u q : Int} (u0 : 0 ≤ u) (u1 : u < 40) (hp : 0 ≤ μ 264 (6 * u)) (q0 : 0 ≤ q) (q1 : q < wdK (μ 264 (6 * u))) : (0 ≤ jdiv (tbl layT (8 * μ 264 (6 * u) + q)) 10 ∧ jdiv (tbl layT (8 * μ 264 (6 * u) + q)) 10 < 9) ∧ M_byteOf μ u q = (M_output μ u (jdiv (tbl layT (8 * μ 264 (6 * u) + q)) 10)).bind fun v => some (fin1 v (jrem (tbl layT (8 * μ 264 (6 * u) + q)) 10)) := by
  obtain ⟨_, k1, _⟩ := hw.u u u0 u1
  unfold M_byteOf
  rw [jmul_e (by omega) (by omega), aI_ok (by omega) (by omega), Option.bind_some]
  have wr := wdK_r hp (by omega)
  generalize μ 264 (6 * u) = k at *
  obtain ⟨k', rfl⟩ : ∃ k' : Nat, k = (k' : Int) := ⟨k.toNat, by omega⟩
  obtain ⟨q', rfl⟩ : ∃ q' : Nat, q = (q' : Int) := ⟨q.toNat, by omega⟩
  have D := wk_D k' (List.mem_range.mpr (by omega)) q' (List.mem_range.mpr (by omega)) q1
  rw [T263 hk]
  cases e : aI μT 263 10 (k' : Int) with
  | none => rw [e] at D; exact absurd D (by simp)
  | some x =>
    rw [e] at D
    simp only [Option.bind_some] at D
    cases e2 : wk 12 (q' : Int) x with
    | none => rw [e2] at D; exact absurd D (by simp)
    | some r =>
      rw [e2] at D
      obtain ⟨r1, r2⟩ := r
      obtain ⟨y, e3, e4⟩ := wk_M hk (u := u) (big - 12) 12 _ _ e2
      simp only at D
      rw [e3] at D
      simp only [decide_eq_true_eq] at D
      obtain ⟨d1, d2, d3, d4⟩ := D
      rw [show 12 + (big - 12) = big by have := big_ge; omega] at e4
      rw [← d1, ← d2]
      exact ⟨⟨d3, d4⟩, by rw [Option.bind_some]; exact e4⟩
def outA (m : Mem) (u p : Int) : Int := if p = 0 then shw m u else if p = 8 then m 279 u else if p = 4 then (if m 264 (6 * u + 4) = 1 then jsub 1000 (lvA m u (if m 264 (6 * u + 5) = 1 then 5 else 4)) else lvA m u (if m 264 (6 * u + 5) = 1 then 5 else 4)) else if p = 5 then lvA m u (if m 264 (6 * u + 5) = 1 then 4 else 5) else if p = 7 then (if shw m u = 0 then 0 else lvA m u 7) else if m 264 (6 * u) = 5 ∧ 1 ≤ p ∧ p ≤ 3 then jdiv (jmul (lvA m u p) (shw m u)) 1000 else lvA m u p
theorem M_output_e {μ : Mem} (hk : KON μ) (hw : WF (μ 264)) {u p : Int} (u0 : 0 ≤ u) (u1 : u < 40) (hp : 0 ≤ μ 264 (6 * u)) (p0 : 0 ≤ p) (p1 : p < 9) : M_output μ u p = some (outA μ u p) := by
  obtain ⟨_, k1, kp⟩ := hw.u u u0 u1
  obtain ⟨_, _, _, _, _, _, i1, i2⟩ := kp hp
  have lv : ∀ q, 0 ≤ q → q < 9 → M_levelAt μ u q = some (lvA μ u q) := fun q a b => M_levelAt_e hk hw u0 u1 a b
  have b60 : ∀ q, 0 ≤ q → q < 9 → M_output_60 μ u p (μ 264 (6 * u) + 52) u q = some (if p = 0 then shw μ u else if p = 4 ∧ μ 264 (6 * u + 4) = 1 then jsub 1000 (lvA μ u q) else if p = 8 then μ 279 u else if p = 7 then (if shw μ u = 0 then 0 else lvA μ u q) else if μ 264 (6 * u) = 5 ∧ 1 ≤ p ∧ p ≤ 3 then jdiv (jmul (lvA μ u q) (shw μ u)) 1000 else lvA μ u q) := by
    intro q a b
    unfold M_output_60 M_output_102
    rw [lv q a b]
    simp (disch := omega) only [M_shownAt_e hk hw u0 u1 hp, M_in_e, Option.bind_some, bz, jmul_e, jadd_e, aI_ok]
    generalize shw μ u = sw
    generalize lvA μ u q = lq
    repeat' split
    all_goals first | (exfalso; omega) | rfl
  unfold M_output M_output_43
  rw [jmul_e (by omega) (by omega), aI_ok (by omega) (by omega), Option.bind_some, jadd_e (by omega) (by omega), Option.bind_some, jadd_e (by omega) (by omega), aI_ok (by omega) (by omega), Option.bind_some]
  have e94 : jsub 9 4 = 5 := by decide +kernel
  have e95 : jsub 9 5 = 4 := by decide +kernel
  have b4 := b60 4 (by omega) (by omega)
  have b5 := b60 5 (by omega) (by omega)
  have bp := b60 p p0 p1
  unfold outA
  generalize shw μ u = sw at *
  generalize μ 279 u = ps at *
  have hc : p = 0 ∨ p = 1 ∨ p = 2 ∨ p = 3 ∨ p = 4 ∨ p = 5 ∨ p = 6 ∨ p = 7 ∨ p = 8 := by omega
  clear b60
  rcases hc with e | e | e | e | e | e | e | e | e <;> subst e <;> by_cases e1 : μ 264 (6 * u + 5) = 1 <;> by_cases e2 : μ 264 (6 * u + 4) = 1 <;> simp [e1, e2, bp, b4, b5, e94, e95]
theorem Sg_levelInSlot_e {B : Int} {c m : Mem} (h : INV B c m) {u p : Int} (u0 : 0 ≤ u) (u1 : u < 40) (hp : 0 ≤ m 264 (6 * u)) (p0 : 0 ≤ p) (p1 : p < 9) : Sg_levelInSlot c (u + 1) p = some (outA m u p) := by
  obtain ⟨s1, s2⟩ := S3.u h.s u u0 u1
  have lv : ∀ q, 0 ≤ q → q < 9 → Sg_levelOf c (u + 1) q = some (lvA m u q) := fun q a b => Sg_levelOf_e h u0 u1 a b
  have b149 : Sg_levelInSlot_149 c (u + 1) p (6 + u) = some (if m 264 (6 * u) = 5 ∧ 1 ≤ p ∧ p ≤ 3 then jdiv (jmul (lvA m u p) (shw m u)) 1000 else lvA m u p) := by
    unfold Sg_levelInSlot_149 Sg_levelInSlot_179
    rw [lv p p0 p1, rd_pat (by omega) (by omega) (by omega) (by omega), s1, Sg_shownOf_e h u0 u1 hp]
    simp only [Option.bind_some]
    generalize shw m u = sw
    generalize lvA m u p = lq
    repeat' split
    all_goals first | (exfalso; omega) | rfl | (exfalso; simp_all; done)
  unfold Sg_levelInSlot Sg_levelInSlot_80 Sg_levelInSlot_118
  rw [ar_ok (by omega) (by omega), Option.bind_some, show (5 + 1 * (u + 1) : Int) = 6 + u by omega, b149, Sg_shownOf_e h u0 u1 hp, lv 4 (by omega) (by omega), lv 5 (by omega) (by omega), lv 7 (by omega) (by omega)]
  rw [rd_pat (μ := c) (x := 6 + u) (j := 4) (by omega) (by omega) (by omega) (by omega), rd_pat (μ := c) (x := 6 + u) (j := 5) (by omega) (by omega) (by omega) (by omega), aI_ok (by omega) (by omega), s2 hp 4 (by omega) (by omega), s2 hp 5 (by omega) (by omega), h.g.p u u0 u1]
  simp only [Option.bind_some]
  unfold outA
  generalize shw m u = sw
  have hc : p = 0 ∨ p = 1 ∨ p = 2 ∨ p = 3 ∨ p = 4 ∨ p = 5 ∨ p = 6 ∨ p = 7 ∨ p = 8 := by omega
  rcases hc with e | e | e | e | e | e | e | e | e <;> subst e <;> simp
  all_goals (repeat' split)
  all_goals first | rfl | (exfalso; omega) | simp_all
