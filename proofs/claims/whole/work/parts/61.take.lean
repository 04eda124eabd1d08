-- L3: a cue is taken
def fd (a b d e : Int) (μ : Mem) (i t f x T : Int) : Mem := wr (wr (wr (wr μ a i t) b i f) d i x) e i T
def was (a b d e : Int) (μ : Mem) (fc i : Int) : Int := clv (μ a) (μ b) (μ d) (μ e) fc i
def drk (a b d e fc i : Int) (s : Mem × Int) : Int := if i % 9 = 0 then (if s.1 a i = 0 ∧ was a b d e s.1 fc i = 0 then 1 else 0) else s.2
def tkm (a b d e fc : Int) (g : Int → Int) (n at_ r i : Int) (μ : Mem) (dk : Int) : Mem :=
  if tlv g n i = μ a i then μ else if at_ ≠ 0 ∨ (dk ≠ 0 ∧ i % 9 ≠ 0) then fd a b d e μ i (tlv g n i) (was a b d e μ fc i) fc 0 else fd a b d e μ i (tlv g n i) (was a b d e μ fc i) (jadd fc (g (1356 + 7 * r))) (if i % 9 ≠ 0 then g (1355 + 7 * r) else if tlv g n i ≤ was a b d e μ fc i then g (1354 + 7 * r) else g (1353 + 7 * r))
def tkS (a b d e fc : Int) (g : Int → Int) (n at_ r i : Int) (s : Mem × Int) : Mem × Int := (tkm a b d e fc g n at_ r i s.1 (drk a b d e fc i s), drk a b d e fc i s)
theorem fd_o {a b d e : Int} {μ : Mem} {i t f x T o : Int} (h1 : ¬ o = a) (h2 : ¬ o = b) (h3 : ¬ o = d) (h4 : ¬ o = e) : fd a b d e μ i t f x T o = μ o := by
  unfold fd; rw [wr_o h4, wr_o h3, wr_o h2, wr_o h1]
theorem tkm_o {a b d e fc : Int} {g : Int → Int} {n at_ r i : Int} {μ : Mem} {dk o : Int} (h1 : ¬ o = a) (h2 : ¬ o = b) (h3 : ¬ o = d) (h4 : ¬ o = e) : tkm a b d e fc g n at_ r i μ dk o = μ o := by
  unfold tkm
  repeat' split
  · rfl
  · exact fd_o h1 h2 h3 h4
  · exact fd_o h1 h2 h3 h4
  · exact fd_o h1 h2 h3 h4
  · exact fd_o h1 h2 h3 h4
theorem wr4 {μ : Mem} {i was_ t b T : Int} : wr (wr (wr (wr μ 273 i was_) 272 i t) 274 i b) 275 i T = fd 272 273 274 275 μ i t was_ b T := by
  funext o j
  unfold fd wr
  by_cases e1 : o = 272
  · subst e1; simp
  · by_cases e2 : o = 273
    · subst e2; simp
    · simp [e1, e2]
theorem M_t182 {μ m0 : Mem} {n at_ r i d l9 t T w : Int} {K : Mem → Int → Int → Option Mem} (r0 : 0 ≤ r) (r1 : r < 30) (e264 : μ 264 = m0 264) (e259 : μ 259 = m0 259) (hf : jadd (m0 259 28) 0 = m0 259 28) (i0 : 0 ≤ i) (i1 : i < 360) : M_take_182 K μ n at_ (1352 + 7 * r) d i w t l9 T = K (if l9 = 0 then fd 272 273 274 275 μ i t w (jadd (m0 259 28) (m0 264 (1356 + 7 * r))) T else fd 272 273 274 275 μ i t w (m0 259 28) 0) d (i + 1) := by
  unfold M_take_182 M_take_229
  rw [sI_ok i0 i1, Option.bind_some, sI_ok i0 i1, Option.bind_some]
  have a1 : (wr (wr μ 273 i w) 272 i t) 264 = m0 264 := by rw [wr_o (by decide), wr_o (by decide), e264]
  have a2 : (wr (wr μ 273 i w) 272 i t) 259 = m0 259 := by rw [wr_o (by decide), wr_o (by decide), e259]
  rw [jadd_e (x := 1352 + 7 * r) (by omega) (by omega), aI_ok (by omega) (by omega), a1, a2, show 1352 + 7 * r + 4 = 1356 + 7 * r by omega]
  simp only [Option.bind_some]
  simp only [sI_ok i0 i1, Option.bind_some]
  rw [jadd_e (x := i) (by omega) (by omega), hf]
  by_cases z : l9 = 0
  · simp only [if_pos z]; rw [wr4]
  · simp only [if_neg z]; rw [wr4]
theorem M_t138 {μ m0 : Mem} {n at_ r i d l7 l9 t w : Int} {K : Mem → Int → Int → Option Mem} (r0 : 0 ≤ r) (r1 : r < 30) (e264 : μ 264 = m0 264) (e259 : μ 259 = m0 259) (hf : jadd (m0 259 28) 0 = m0 259 28) (i0 : 0 ≤ i) (i1 : i < 360) : M_take_138 K μ n at_ (1352 + 7 * r) d i w l7 t l9 = K (if l9 = 0 then fd 272 273 274 275 μ i t w (jadd (m0 259 28) (m0 264 (1356 + 7 * r))) (if l7 = 0 then m0 264 (1355 + 7 * r) else if t ≤ w then m0 264 (1354 + 7 * r) else m0 264 (1353 + 7 * r)) else fd 272 273 274 275 μ i t w (m0 259 28) 0) d (i + 1) := by
  unfold M_take_138
  have q : ∀ j, 1 ≤ j → j ≤ 3 → aI μ 264 12943 (jadd (1352 + 7 * r) j) = some (m0 264 (1352 + j + 7 * r)) := by
    intro j a b
    rw [jadd_e (by omega) (by omega), aI_ok (by omega) (by omega), e264]
    congr 2
    omega
  rw [q 1 (by omega) (by omega), q 2 (by omega) (by omega), q 3 (by omega) (by omega)]
  simp only [Option.bind_some, M_t182 r0 r1 e264 e259 hf i0 i1]
  by_cases z : l7 = 0
  · rw [if_neg (fun x => x z)]
    simp only [if_pos z]
    rfl
  · rw [if_pos z]
    simp only [if_neg z]
    by_cases z2 : t ≤ w
    · simp only [if_pos z2]; rfl
    · simp only [if_neg z2]; rfl
theorem M_t93 {μ m0 : Mem} (hk : KON μ) (hc : WF_c (μ 264)) {n at_ r i d l7 : Int} {K : Mem → Int → Int → Option Mem} (r0 : 0 ≤ r) (r1 : r < 30) (e264 : μ 264 = m0 264) (e259 : μ 259 = m0 259) (hf : jadd (m0 259 28) 0 = m0 259 28) (i0 : 0 ≤ i) (i1 : i < 360) (hl : l7 = 0 ↔ i % 9 ≠ 0) : M_take_93 K μ n at_ (1352 + 7 * r) i (was 272 273 274 275 μ (m0 259 28) i) l7 d = K (tkm 272 273 274 275 (m0 259 28) (m0 264) n at_ r i μ d) d (i + 1) := by
  unfold M_take_93
  rw [M_trackedLevel_e hk hc i0 i1, Option.bind_some, aI_ok i0 i1, Option.bind_some, e264]
  simp only [M_t138 r0 r1 e264 e259 hf i0 i1]
  rw [jadd_e (x := i) (by omega) (by omega)]
  unfold tkm
  by_cases z1 : tlv (m0 264) n i = μ 272 i
  · rw [if_neg (fun x => x z1), if_pos z1]
  · rw [if_pos z1, if_neg z1]
    by_cases z2 : at_ = 0
    · rw [if_neg (fun x => x z2)]
      by_cases z3 : d = 0
      · rw [if_pos z3, if_neg (show ¬ (at_ ≠ 0 ∨ (d ≠ 0 ∧ i % 9 ≠ 0)) by omega)]
        simp only [if_true]
        by_cases z4 : l7 = 0
        · rw [if_pos z4, if_pos (hl.mp z4)]
        · rw [if_neg z4, if_neg (fun x => z4 (hl.mpr x))]
      · rw [if_neg z3]
        by_cases z4 : l7 = 0
        · rw [if_neg (fun x => x z4), if_pos (show at_ ≠ 0 ∨ (d ≠ 0 ∧ i % 9 ≠ 0) from Or.inr ⟨z3, hl.mp z4⟩)]
          simp
        · rw [if_pos z4, if_neg (show ¬ (at_ ≠ 0 ∨ (d ≠ 0 ∧ i % 9 ≠ 0)) from fun x => by rcases x with x | x; exact x z2; exact z4 (hl.mpr x.2))]
          simp only [if_true]
          rw [if_neg z4, if_neg (fun x => z4 (hl.mpr x))]
    · rw [if_pos z2, if_pos (show at_ ≠ 0 ∨ (d ≠ 0 ∧ i % 9 ≠ 0) from Or.inl z2)]
      simp
theorem M_take_s {μ m0 : Mem} (hk : KON m0) (hw : WF (m0 264)) {n at_ r : Int} (r0 : 0 ≤ r) (r1 : r < 30) (hf : jadd (m0 259 28) 0 = m0 259 28) (ho : ∀ o, ¬ (272 ≤ o ∧ o ≤ 275) → μ o = m0 o) {k : Nat} {dk i : Int} (i0 : 0 ≤ i) (i1 : i < 360) : M_take_32 n at_ (1352 + 7 * r) (k + 1) μ dk i = M_take_32 n at_ (1352 + 7 * r) k (tkS 272 273 274 275 (m0 259 28) (m0 264) n at_ r i (μ, dk)).1 (tkS 272 273 274 275 (m0 259 28) (m0 264) n at_ r i (μ, dk)).2 (i + 1) := by
  have e264 : μ 264 = m0 264 := ho 264 (by omega)
  have e259 : μ 259 = m0 259 := ho 259 (by omega)
  have hk' : KON μ := KON_um hk (fun o hu => ho o (by unfold uM at hu; simp at hu; omega))
  have hc' : WF_c (μ 264) := by rw [e264]; exact hw.c
  rw [M_take_32, if_neg (show ¬ 360 ≤ i by omega), M_cueLevel_e i0 i1, Option.bind_some, jrem_e i0 (by omega) (by omega) (by omega), e259]
  have ew : clv (μ 272) (μ 273) (μ 274) (μ 275) (m0 259 28) i = was 272 273 274 275 μ (m0 259 28) i := rfl
  rw [ew]
  unfold M_take_61 tkS drk
  by_cases z : i % 9 = 0
  · have hl : (1 : Int) = 0 ↔ i % 9 ≠ 0 := ⟨fun x => absurd x (by decide), fun x => absurd z x⟩
    rw [if_neg (fun x => x z), if_neg (show ¬ (1 : Int) = 0 by decide), aI_ok i0 i1, Option.bind_some]
    simp only [M_t93 hk' hc' r0 r1 e264 e259 hf i0 i1 hl, if_pos z]
    by_cases z2 : was 272 273 274 275 μ (m0 259 28) i = 0
    · rw [if_neg (fun x => x z2)]
      by_cases z3 : μ 272 i = 0
      · rw [if_neg (fun x => x z3)]
        simp only [z2, z3, and_self, if_true]
      · rw [if_pos z3]
        simp only [z3, false_and, if_false]
    · rw [if_pos z2]
      simp only [z2, and_false, if_false]
  · have hl : (0 : Int) = 0 ↔ i % 9 ≠ 0 := ⟨fun _ => z, fun _ => rfl⟩
    rw [if_pos z, if_pos rfl, M_t93 hk' hc' r0 r1 e264 e259 hf i0 i1 hl]
    simp only [if_neg z]
theorem M_take_e {m : Mem} (hk : KON m) (hw : WF (m 264)) (hf : jadd (m 259 28) 0 = m 259 28) {n at_ : Int} (hr : 0 ≤ rowOf (m 264) n) : M_take m n at_ = some (itr (tkS 272 273 274 275 (m 259 28) (m 264) n at_ (rowOf (m 264) n)) (wr (wr m 259 29 n) 259 30 (m 259 28), 0) 360).1 := by
  have hr1 : rowOf (m 264) n < 30 := by rcases rowOf_s (m 264) n with h | h <;> omega
  have q1 : (wr (wr m 259 29 n) 259 30 (m 259 28)) 264 = m 264 := by rw [wr_o (by decide), wr_o (by decide)]
  have q2 : (wr (wr m 259 29 n) 259 30 (m 259 28)) 259 28 = m 259 28 := by rw [wr_f (by decide), wr_f (by decide)]
  have q3 : KON (wr (wr m 259 29 n) 259 30 (m 259 28)) := KON_um hk (UMw (UMw UM.refl (by decide)) (by decide))
  unfold M_take
  simp only [Option.bind_some]
  rw [wr_f (show ¬ (28 : Int) = 29 by decide), M_cueRow_e, q1]
  simp only [Option.bind_some]
  rw [jmul_e (by omega) (by omega), jadd_e (by omega) (by omega)]
  generalize wr (wr m 259 29 n) 259 30 (m 259 28) = m1 at *
  rw [← q1] at hw hr hr1 ⊢
  rw [← q2] at hf ⊢
  refine loopY (fun k s i => M_take_32 n at_ (1352 + 7 * rowOf (m1 264) n) k s.1 s.2 i) (tkS 272 273 274 275 (m1 259 28) (m1 264) n at_ (rowOf (m1 264) n)) (m1, 0) 360 360 rfl (fun i s => ∀ o, ¬ (272 ≤ o ∧ o ≤ 275) → s.1 o = m1 o) (fun o _ => rfl) ?_ ?_ ?_ big b360
  · intro i s h0 h1 h2 o ho
    rw [← h2 o ho]
    exact tkm_o (by omega) (by omega) (by omega) (by omega)
  · intro k i s h0 h1 h2
    exact M_take_s q3 hw hr hr1 hf h2 h0 h1
  · intro k _
    rw [M_take_32]; rfl
theorem fd_re {μ : Mem} {i t f x T y z : Int} : wr (wr (fd 222 223 224 225 μ i t f x T) 224 i y) 225 i z = fd 222 223 224 225 μ i t f y z := by
  funext o j
  unfold fd wr
  by_cases e : o = 224
  · subst e
    simp
    split <;> rfl
  · by_cases e2 : o = 225
    · subst e2
      simp
      split <;> rfl
    · simp [e, e2]
theorem Pl_fadeFrom_e {c : Mem} {i f T : Int} (i0 : 0 ≤ i) (i1 : i < 360) : Pl_fadeFrom c i f T = some (wr (wr (wr c 223 i f) 224 i (c 221 2)) 225 i T) := by
  unfold Pl_fadeFrom
  simp only [sI_ok i0 i1, Option.bind_some]
  rw [wr_o (show ¬ (221 : Int) = 223 by decide)]
theorem Pl_fadeTo_0 {c : Mem} {i t : Int} (i0 : 0 ≤ i) (i1 : i < 360) : Pl_fadeTo c i t 0 = some (fd 222 223 224 225 c i t (was 222 223 224 225 c (c 221 2) i) (c 221 2) 0) := by
  unfold Pl_fadeTo
  rw [Pl_cueLevel_e i0 i1, Option.bind_some, sI_ok i0 i1, Option.bind_some, Pl_fadeFrom_e i0 i1, Option.bind_some, if_pos rfl, wr_o (show ¬ (221 : Int) = 222 by decide)]
  rfl
theorem Pl_fadeTo_q {c : Mem} {i t q : Int} (hO : 280 ≤ c 0 0) (h0 : 130 ≤ q) (h1 : q < 220) (h2 : (q - 130) % 3 = 0) (i0 : 0 ≤ i) (i1 : i < 360) : Pl_fadeTo c i t q = some (fd 222 223 224 225 c i t (was 222 223 224 225 c (c 221 2) i) (jadd (c 221 2) (c (q + 1) 3)) (if i % 9 ≠ 0 then c (q + 1) 2 else if t ≤ was 222 223 224 225 c (c 221 2) i then c (q + 1) 1 else c (q + 1) 0)) := by
  have ew : clv (c 222) (c 223) (c 224) (c 225) (c 221 2) i = was 222 223 224 225 c (c 221 2) i := rfl
  unfold Pl_fadeTo
  rw [Pl_cueLevel_e i0 i1, Option.bind_some, sI_ok i0 i1, Option.bind_some, Pl_fadeFrom_e i0 i1, Option.bind_some, if_neg (show ¬ q = 0 by omega), wr_o (show ¬ (221 : Int) = 222 by decide), ew]
  generalize was 222 223 224 225 c (c 221 2) i = w
  have e1 : wr (wr (wr (wr c 222 i t) 223 i w) 224 i (c 221 2)) 225 i 0 = fd 222 223 224 225 c i t w (c 221 2) 0 := rfl
  rw [e1]
  have ho : ∀ o, ¬ (222 ≤ o ∧ o ≤ 225) → fd 222 223 224 225 c i t w (c 221 2) 0 o = c o := fun o h => fd_o (by omega) (by omega) (by omega) (by omega)
  have hO2 : 280 ≤ fd 222 223 224 225 c i t w (c 221 2) 0 0 0 := by rw [ho 0 (by omega)]; exact hO
  have hq : ∀ m : Mem, 280 ≤ m 0 0 → gO m 1 1 q = some (q + 1) := fun m hm => if_pos ⟨kd_cue h0 h1 h2, by omega, by omega⟩
  have hr : ∀ (m : Mem) (j : Int), 0 ≤ j → j < 6 → rdI m (q + 1) j = some (m (q + 1) j) := fun m j a b => rd_tim (by omega) (by omega) (by omega) a b
  have b37 : ∀ k, 0 ≤ k → k < 6 → Pl_fadeTo_37 (fd 222 223 224 225 c i t w (c 221 2) 0) i q k = some (fd 222 223 224 225 c i t w (jadd (c 221 2) (c (q + 1) 3)) (if i % 9 ≠ 0 then c (q + 1) 2 else c (q + 1) k)) := by
    intro k k0 k1
    unfold Pl_fadeTo_37
    rw [hq _ hO2, Option.bind_some, hr _ 3 (by omega) (by omega), Option.bind_some, sI_ok i0 i1, Option.bind_some, ho (q + 1) (by omega), ho 221 (by omega)]
    have ho2 : ∀ o, ¬ (222 ≤ o ∧ o ≤ 225) → wr (fd 222 223 224 225 c i t w (c 221 2) 0) 224 i (jadd (c 221 2) (c (q + 1) 3)) o = c o := fun o h => by rw [wr_o (by omega), ho o h]
    rw [hq _ (by rw [ho2 0 (by omega)]; exact hO), Option.bind_some, jrem_e i0 (by omega) (by omega) (by omega), hr _ 2 (by omega) (by omega), hr _ k k0 k1, ho2 (q + 1) (by omega)]
    simp only [Option.bind_some, sI_ok i0 i1, fd_re]
    split <;> rfl
  rw [b37 1 (by omega) (by omega), b37 0 (by omega) (by omega)]
  by_cases z : i % 9 = 0
  · simp only [ne_eq, z, not_true, if_false]
    split <;> rfl
  · simp only [ne_eq, z, not_false_iff, if_true]
    split <;> rfl
