-- L2: runs to an end with enough fuel, whatever the fuel
def Runs (k : Nat) (c : Cd) (L : LV) (st : List SV) (μ : Mem) (r : Res) : Prop := ∃ N : Nat, ∀ n, N ≤ n → run n k c L st μ = some r
def RunM (k : Nat) (vs : List SV) (μ : Mem) (r : Res) : Prop := Runs k (codeOf k) (padL (miL (mi k)) (entL vs)) [] μ r
theorem Runs.some {k : Nat} {c : Cd} {L : LV} {st : List SV} {μ : Mem} {r : Res} (h : Runs k c L st μ r) : ∃ n, run n k c L st μ = some r := ⟨h.choose, h.choose_spec _ (Nat.le_refl _)⟩
/-- one step that goes on at one place -/
theorem R1 {k pc : Nat} {i : Instr} {c c' : Cd} {L L' : LV} {st st' : List SV} {μ μ' : Mem} {r : Res} (e : ∀ rec : Rec, stp rec k i c L st μ = rec k c' L' st' μ') (h : Runs k c' L' st' μ' r) : Runs k ((pc, i) :: c) L st μ r := by
  obtain ⟨N, hN⟩ := h
  refine ⟨N + 1, fun n hn => ?_⟩
  obtain ⟨m, rfl⟩ : ∃ m, n = m + 1 := ⟨n - 1, by omega⟩
  show stp (run m) k i c L st μ = some r
  rw [e]
  exact hN m (by omega)
/-- one step that ends -/
theorem R0 {k pc : Nat} {i : Instr} {c : Cd} {L : LV} {st : List SV} {μ : Mem} {r : Res} (e : ∀ rec : Rec, stp rec k i c L st μ = some r) : Runs k ((pc, i) :: c) L st μ r := by
  refine ⟨1, fun n hn => ?_⟩
  obtain ⟨m, rfl⟩ : ∃ m, n = m + 1 := ⟨n - 1, by omega⟩
  exact e (run m)
/-- a call -/
theorem RC {k k' pc : Nat} {i : Instr} {c : Cd} {L : LV} {vs st : List SV} {μ : Mem} {r1 r : Res} (e : ∀ rec : Rec, stp rec k i c L (vs.reverse ++ st) μ = callK rec k' k c L (vs.reverse ++ st) μ) (hn : vs.length = miN (mi k')) (hc : cats st ≤ 8) (hv : rcvOK (miV (mi k')) vs = true) (hl : (entL vs).length ≤ miL (mi k')) (h1 : RunM k' vs μ r1) (h : Runs k c L (r1.1.toList ++ st) r1.2 r) : Runs k ((pc, i) :: c) L (vs.reverse ++ st) μ r := by
  obtain ⟨N1, h1⟩ := h1
  obtain ⟨N, hN⟩ := h
  refine ⟨N + N1 + 1, fun n hn2 => ?_⟩
  obtain ⟨m, rfl⟩ : ∃ m, n = m + 1 := ⟨n - 1, by omega⟩
  show stp (run m) k i c L (vs.reverse ++ st) μ = some r
  rw [e]
  unfold callK
  have e1 : (vs.reverse ++ st).take (miN (mi k')) = vs.reverse := by rw [← hn, ← List.length_reverse, List.take_left]
  have e2 : (vs.reverse ++ st).drop (miN (mi k')) = st := by rw [← hn, ← List.length_reverse, List.drop_left]
  rw [e1, e2, List.reverse_reverse, if_pos ⟨by rw [List.length_append, List.length_reverse, hn]; omega, hc, hv, hl⟩, h1 m (by omega)]
  exact hN m (by omega)
