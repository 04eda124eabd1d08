-- L3: what the class finds of cues
theorem cq_k {c : Mem} {g : Int → Int} (h : SR c 3 g) {i : Int} (i0 : 0 ≤ i) (i1 : i < 30) : 130 ≤ c 79 i ∧ c 79 i < 220 ∧ (c 79 i - 130) % 3 = 0 := by
  obtain ⟨t, t0, t1, e⟩ := S3.q h i i0 i1
  omega
theorem cq_gf {c m : Mem} {g : Int → Int} (h : SR c 3 g) {i : Int} (i0 : 0 ≤ i) (i1 : i < 30) : gf m 1 0 (c 79 i) = some (m (c 79 i) 0) := by
  obtain ⟨a, b, d⟩ := cq_k h i0 i1
  exact gf_c (kd_cue a b d)
theorem cq_g2 {c m : Mem} {g : Int → Int} (h : SR c 3 g) (hO : 280 ≤ m 0 0) {i : Int} (i0 : 0 ≤ i) (i1 : i < 30) : gO m 1 2 (c 79 i) = some (c 79 i + 2) := by
  obtain ⟨a, b, d⟩ := cq_k h i0 i1
  exact if_pos ⟨kd_cue a b d, by omega, by omega⟩
theorem cq_g1 {c m : Mem} {g : Int → Int} (h : SR c 3 g) (hO : 280 ≤ m 0 0) {i : Int} (i0 : 0 ≤ i) (i1 : i < 30) : gO m 1 1 (c 79 i) = some (c 79 i + 1) := by
  obtain ⟨a, b, d⟩ := cq_k h i0 i1
  exact if_pos ⟨kd_cue a b d, by omega, by omega⟩
theorem cq_r2 {c m : Mem} {g : Int → Int} (h : SR c 3 g) {i f : Int} (i0 : 0 ≤ i) (i1 : i < 30) (f0 : 0 ≤ f) (f1 : f < 360) : rdI m (c 79 i + 2) f = some (m (c 79 i + 2) f) := by
  obtain ⟨a, b, d⟩ := cq_k h i0 i1
  exact rd_chg (by omega) (by omega) (by omega) f0 f1
theorem cq_r1 {c m : Mem} {g : Int → Int} (h : SR c 3 g) {i f : Int} (i0 : 0 ≤ i) (i1 : i < 30) (f0 : 0 ≤ f) (f1 : f < 6) : rdI m (c 79 i + 1) f = some (m (c 79 i + 1) f) := by
  obtain ⟨a, b, d⟩ := cq_k h i0 i1
  exact rd_tim (by omega) (by omega) (by omega) f0 f1
/-- the class's i-th cue is a row of the model -/
theorem S3.row {c : Mem} {g : Int → Int} (h : SR c 3 g) (hn : WF_n g) {i : Int} (i0 : 0 ≤ i) (i1 : i < c 3 8) : 0 ≤ rowOf g (c (c 79 i) 0) ∧ rowOf g (c (c 79 i) 0) < 30 ∧ 0 < c (c 79 i) 0 ∧ cn g (rowOf g (c (c 79 i) 0)) = c (c 79 i) 0 ∧ (∀ j, 0 ≤ j → j < 6 → c (c 79 i + 1) j = g (1353 + 7 * rowOf g (c (c 79 i) 0) + j)) ∧ (∀ f, 0 ≤ f → f < 360 → c (c 79 i + 2) f = g (1562 + 360 * rowOf g (c (c 79 i) 0) + f)) := by
  obtain ⟨r, r0, r1, r2, r3, r4, r5⟩ := S3.c h i i0 i1
  rw [r3, rowOf_at hn r0 r1 r2]
  exact ⟨r0, r1, r2, rfl, r4, r5⟩
noncomputable def cna (c : Mem) (n : Int) : Int := (Sh_countNotAbove c n).getD 0
theorem cna_x {c : Mem} {g : Int → Int} (h : SR c 3 g) (n : Int) : ∀ (N : Nat) (k : Int), 0 ≤ k → k ≤ c 3 8 → c 3 8 - k < N → (∀ i, 0 ≤ i → i < k → c (c 79 i) 0 ≤ n) → ∃ v, Sh_countNotAbove_2 c n N k = some v ∧ 0 ≤ v ∧ v ≤ c 3 8 ∧ (∀ i, 0 ≤ i → i < v → c (c 79 i) 0 ≤ n) ∧ (∀ i, v ≤ i → i < c 3 8 → n < c (c 79 i) 0) := by
  intro N
  induction N with
  | zero => intro k _ _ h3; omega
  | succ N ih =>
    intro k k0 k1 k2 hk
    have hn := S3.n h
    rw [Sh_countNotAbove_2]
    by_cases e : c 3 8 ≤ k
    · rw [if_pos e]
      exact ⟨k, rfl, k0, k1, hk, fun i a b => by omega⟩
    · rw [if_neg e]
      simp (disch := omega) only [aI_ok, Option.bind_some, cq_gf h, jadd_e]
      by_cases e2 : n < c (c 79 k) 0
      · rw [if_pos e2]
        refine ⟨k, rfl, k0, k1, hk, fun i a b => ?_⟩
        by_cases e3 : i = k
        · rw [e3]; exact e2
        · have := S3.o h k i k0 (by omega) b; omega
      · rw [if_neg e2]
        refine ih (k + 1) (by omega) (by omega) (by omega) (fun i a b => ?_)
        by_cases e3 : i = k
        · rw [e3]; omega
        · exact hk i a (by omega)
theorem cna_s {c : Mem} {g : Int → Int} (h : SR c 3 g) (n : Int) : Sh_countNotAbove c n = some (cna c n) ∧ 0 ≤ cna c n ∧ cna c n ≤ c 3 8 ∧ (∀ i, 0 ≤ i → i < cna c n → c (c 79 i) 0 ≤ n) ∧ (∀ i, cna c n ≤ i → i < c 3 8 → n < c (c 79 i) 0) := by
  have hn := S3.n h
  obtain ⟨v, e, r⟩ := cna_x h n big 0 (by omega) (by omega) (by have := big_ge; omega) (fun i a b => by omega)
  have e2 : Sh_countNotAbove c n = some v := e
  have e3 : cna c n = v := by unfold cna; rw [e2]; rfl
  rw [e3]
  exact ⟨e2, r⟩
theorem cna_e {c : Mem} {g : Int → Int} (h : SR c 3 g) {n : Int} : Sh_countNotAbove c n = some (cna c n) := (cna_s h n).1
/-- the place of a number -/
noncomputable def cix (c : Mem) (n : Int) : Int := if 0 < cna c n ∧ c (c 79 (cna c n - 1)) 0 = n then cna c n - 1 else -1
theorem cix_e {c : Mem} {g : Int → Int} (h : SR c 3 g) {n : Int} : Sh_indexOf c n = some (cix c n) := by
  obtain ⟨e, k0, k1, _, _⟩ := cna_s h n
  have hn := S3.n h
  unfold Sh_indexOf cix
  rw [e, Option.bind_some]
  simp (disch := omega) only [jsub_e, Option.bind_some]
  by_cases z : cna c n - 1 < 0
  · rw [if_pos z, if_neg (by omega)]
  · rw [if_neg z]
    simp (disch := omega) only [aI_ok, Option.bind_some, cq_gf h]
    repeat' split
    all_goals first | rfl | (exfalso; omega)
theorem cix_s {c : Mem} {g : Int → Int} (h : SR c 3 g) (n : Int) : (cix c n = -1 ∧ ∀ i, 0 ≤ i → i < c 3 8 → c (c 79 i) 0 ≠ n) ∨ (0 ≤ cix c n ∧ cix c n < c 3 8 ∧ c (c 79 (cix c n)) 0 = n ∧ cna c n = cix c n + 1) := by
  obtain ⟨e, k0, k1, k2, k3⟩ := cna_s h n
  unfold cix
  split
  · rename_i e2
    exact Or.inr ⟨by omega, by omega, e2.2, by omega⟩
  · rename_i e2
    refine Or.inl ⟨rfl, fun i i0 i1 i2 => ?_⟩
    by_cases z : i < cna c n
    · by_cases z2 : i = cna c n - 1
      · exact e2 ⟨by omega, by rw [← z2]; exact i2⟩
      · have := S3.o h i (cna c n - 1) i0 (by omega) (by omega)
        have := k2 (cna c n - 1) (by omega) (by omega)
        omega
    · have := k3 i (by omega) i1
      omega
/-- there in the class as in the model -/
theorem cix_row {c : Mem} {g : Int → Int} (h : SR c 3 g) (hn : WF_n g) (n : Int) (hp : 0 < n) : (cix c n < 0 ↔ rowOf g n < 0) := by
  rcases cix_s h n with ⟨e, e2⟩ | ⟨e0, e1, e2, _⟩
  · rcases rowOf_s g n with ⟨r, _⟩ | ⟨r0, r1, r2, r3⟩
    · omega
    · obtain ⟨i, i0, i1, i2⟩ := S3.r h _ r0 r1 (by omega)
      exact absurd (i2.trans r3) (e2 i i0 i1)
  · obtain ⟨r0, _⟩ := S3.row h hn e0 e1
    rw [e2] at r0
    omega
theorem cix_pos {c : Mem} {g : Int → Int} (h : SR c 3 g) (hn : WF_n g) {n : Int} (hp : n ≤ 0) : cix c n = -1 := by
  rcases cix_s h n with ⟨e, e2⟩ | ⟨e0, e1, e2, _⟩
  · exact e
  · obtain ⟨_, _, r, _⟩ := S3.row h hn e0 e1
    omega
theorem upTo_c {c : Mem} {g : Int → Int} (h : SR c 3 g) (hn : WF_n g) (n : Int) : upTo g n = if cna c n = 0 then 0 else c (c 79 (cna c n - 1)) 0 := by
  obtain ⟨e, k0, k1, k2, k3⟩ := cna_s h n
  rcases upTo_s g n with ⟨a, b⟩ | ⟨a, ⟨r, r0, r1, r2, r3⟩, b⟩
  · rw [a]
    split
    · rfl
    · exfalso
      obtain ⟨q0, q1, q2, q3, _⟩ := S3.row h hn (i := cna c n - 1) (by omega) (by omega)
      have := b _ q0 q1 (by rw [q3]; exact k2 _ (by omega) (by omega))
      omega
  · obtain ⟨i, i0, i1, i2⟩ := S3.r h r r0 r1 (by omega)
    have hi : i < cna c n := by
      by_cases z : i < cna c n
      · exact z
      · have := k3 i (by omega) i1; omega
    rw [if_neg (by omega)]
    obtain ⟨q0, q1, q2, q3, _⟩ := S3.row h hn (i := cna c n - 1) (by omega) (by omega)
    have h1 := b _ q0 q1 (by rw [q3]; exact k2 _ (by omega) (by omega))
    by_cases z : i = cna c n - 1
    · rw [← z]; omega
    · have := S3.o h i (cna c n - 1) i0 (by omega) (by omega); omega
theorem above_c {c : Mem} {g : Int → Int} (h : SR c 3 g) (hn : WF_n g) (n : Int) (n0 : 0 ≤ n) : above g n = if cna c n < c 3 8 then c (c 79 (cna c n)) 0 else 0 := by
  obtain ⟨e, k0, k1, k2, k3⟩ := cna_s h n
  rcases above_s g n n0 with ⟨a, b⟩ | ⟨a, ⟨r, r0, r1, r2, r3⟩, b⟩
  · rw [a]
    split
    · exfalso
      rename_i z
      obtain ⟨q0, q1, q2, q3, _⟩ := S3.row h hn (i := cna c n) (by omega) (by omega)
      have := b _ q0 q1
      rw [q3] at this
      exact this (k3 _ (by omega) z)
    · rfl
  · obtain ⟨i, i0, i1, i2⟩ := S3.r h r r0 r1 (by omega)
    have hi : cna c n ≤ i := by
      by_cases z : cna c n ≤ i
      · exact z
      · have := k2 i i0 (by omega); omega
    rw [if_pos (by omega)]
    obtain ⟨q0, q1, q2, q3, _⟩ := S3.row h hn (i := cna c n) (by omega) (by omega)
    have h1 := b _ q0 q1 (by rw [q3]; exact k3 _ (by omega) (by omega))
    by_cases z : i = cna c n
    · rw [← z]; omega
    · have := S3.o h (cna c n) i (by omega) (by omega) (by omega); omega
noncomputable def oix (c : Mem) (k f : Int) : Int := (Sh_originIndex c k f).getD 0
theorem oix_x {c : Mem} {g : Int → Int} (h : SR c 3 g) (hO : 280 ≤ c 0 0) {f : Int} (f0 : 0 ≤ f) (f1 : f < 360) (K : Int) (hK : K ≤ 30) : ∀ (N : Nat) (k : Int), -1 ≤ k → k < K → k + 1 < N → (∀ i, k < i → i < K → c (c 79 i + 2) f = -1) → ∃ v, Sh_originIndex_4 c f N k = some v ∧ -1 ≤ v ∧ v < K ∧ (0 ≤ v → c (c 79 v + 2) f ≠ -1) ∧ (∀ i, v < i → i < K → c (c 79 i + 2) f = -1) := by
  intro N
  induction N with
  | zero => intro k _ _ h3; omega
  | succ N ih =>
    intro k k0 k1 k2 hk
    rw [Sh_originIndex_4]
    by_cases e : k < 0
    · rw [if_pos e]
      exact ⟨-1, rfl, by omega, by omega, fun a => by omega, fun i a b => hk i (by omega) b⟩
    · rw [if_neg e]
      simp (disch := omega) only [aI_ok, Option.bind_some, cq_g2 h hO, cq_r2 h, jadd_e]
      by_cases e2 : c (c 79 k + 2) f = -1
      · rw [if_pos e2]
        refine ih (k + -1) (by omega) (by omega) (by omega) (fun i a b => ?_)
        by_cases e3 : i = k
        · rw [e3]; exact e2
        · exact hk i (by omega) b
      · rw [if_neg e2]
        exact ⟨k, rfl, by omega, by omega, fun _ => e2, hk⟩
theorem oix_s {c : Mem} {g : Int → Int} (h : SR c 3 g) (hO : 280 ≤ c 0 0) {f : Int} (f0 : 0 ≤ f) (f1 : f < 360) {K : Int} (K0 : 0 ≤ K) (hK : K ≤ 30) : Sh_originIndex c K f = some (oix c K f) ∧ -1 ≤ oix c K f ∧ (oix c K f < K) ∧ (0 ≤ oix c K f → c (c 79 (oix c K f) + 2) f ≠ -1) ∧ (∀ i, oix c K f < i → i < K → c (c 79 i + 2) f = -1) := by
  obtain ⟨v, e, r⟩ := oix_x h hO f0 f1 K hK big (K - 1) (by omega) (by omega) (by have := big_ge; omega) (fun i a b => by omega)
  have e2 : Sh_originIndex c K f = some v := by
    unfold Sh_originIndex
    simp (disch := omega) only [jsub_e, Option.bind_some]
    exact e
  have e3 : oix c K f = v := by unfold oix; rw [e2]; rfl
  rw [e3]
  exact ⟨e2, r⟩
/-- what is tracked in a number -/
theorem trk_c {c : Mem} {g : Int → Int} (h : SR c 3 g) (hw : WF g) (hO : 280 ≤ c 0 0) (n : Int) {f : Int} (f0 : 0 ≤ f) (f1 : f < 360) : (orig g n f = if oix c (cna c n) f < 0 then 0 else c (c 79 (oix c (cna c n) f)) 0) ∧ Sh_trackedValue c (cna c n) f = some (trk g n f) := by
  obtain ⟨e, k0, k1, k2, k3⟩ := cna_s h n
  have hN := S3.n h
  obtain ⟨e1, o0, o1, o2, o3⟩ := oix_s h hO f0 f1 k0 (by omega)
  have val : ∀ i, 0 ≤ i → i < c 3 8 → VAL (c (c 79 i + 2) f) := by
    intro i i0 i1
    obtain ⟨q0, q1, q2, q3, q4, q5⟩ := S3.row h hw.n i0 i1
    rw [q5 f f0 f1]
    exact (((hw.c _ q0 q1).2.2 (by omega)).2.2.2.2 f f0 f1).1
  have key : orig g n f = if oix c (cna c n) f < 0 then 0 else c (c 79 (oix c (cna c n) f)) 0 := by
    rcases orig_s g n f with ⟨a, b⟩ | ⟨a, ⟨r, r0, r1, r2, r3, r4⟩, b⟩
    · rw [a]
      split
      · rfl
      · exfalso
        obtain ⟨q0, q1, q2, q3, q4, q5⟩ := S3.row h hw.n (i := oix c (cna c n) f) (by omega) (by omega)
        have v := val (oix c (cna c n) f) (by omega) (by omega)
        have ne := o2 (by omega)
        have := b _ q0 q1 (by rw [q3]; exact k2 _ (by omega) (by omega)) (by rw [← q5 f f0 f1]; rcases v with v | v | v <;> omega)
        omega
    · obtain ⟨i, i0, i1, i2⟩ := S3.r h r r0 r1 (by omega)
      obtain ⟨p0, p1, p2, p3, p4, p5⟩ := S3.row h hw.n i0 i1
      have er : rowOf g (c (c 79 i) 0) = r := by rw [i2]; exact rowOf_at hw.n r0 r1 (by omega)
      have hi : i < cna c n := by
        by_cases z : i < cna c n
        · exact z
        · have := k3 i (by omega) i1; omega
      have hc : c (c 79 i + 2) f ≠ -1 := by rw [p5 f f0 f1, er]; omega
      have hi2 : i ≤ oix c (cna c n) f := by
        by_cases z : i ≤ oix c (cna c n) f
        · exact z
        · exact absurd (o3 i (by omega) hi) hc
      rw [if_neg (by omega)]
      obtain ⟨q0, q1, q2, q3, q4, q5⟩ := S3.row h hw.n (i := oix c (cna c n) f) (by omega) (by omega)
      have v := val (oix c (cna c n) f) (by omega) (by omega)
      have ne := o2 (by omega)
      have h1 := b _ q0 q1 (by rw [q3]; exact k2 _ (by omega) (by omega)) (by rw [← q5 f f0 f1]; rcases v with v | v | v <;> omega)
      by_cases z : i = oix c (cna c n) f
      · rw [← z]; omega
      · have := S3.o h i (oix c (cna c n) f) i0 (by omega) (by omega); omega
  refine ⟨key, ?_⟩
  unfold Sh_trackedValue trk
  rw [e1, Option.bind_some, key]
  by_cases z : oix c (cna c n) f < 0
  · rw [if_pos z, if_pos rfl, if_neg (by omega)]
  · rw [if_neg z, if_pos (by omega)]
    obtain ⟨q0, q1, q2, q3, q4, q5⟩ := S3.row h hw.n (i := oix c (cna c n) f) (by omega) (by omega)
    rw [if_neg (by omega)]
    simp (disch := omega) only [aI_ok, Option.bind_some, cq_g2 h hO, cq_r2 h, q5]
