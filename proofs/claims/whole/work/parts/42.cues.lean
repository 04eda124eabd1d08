-- L3: the cues of a row of numbers (the model's lay of a show), and what the model finds of them
def cn (g : Int → Int) (r : Int) : Int := g (1352 + 7 * r)
def rowOf (g : Int → Int) (n : Int) : Int := itr (fun r s => if 0 < n ∧ cn g r = n then r else s) (-1) 30
def above (g : Int → Int) (n : Int) : Int := itr (fun r s => if n < cn g r ∧ (s = 0 ∨ cn g r < s) then cn g r else s) 0 30
def upTo (g : Int → Int) (n : Int) : Int := itr (fun r s => if cn g r ≤ n ∧ s < cn g r then cn g r else s) 0 30
def cuesN (g : Int → Int) : Int := itr (fun r s => if 0 < cn g r then s + 1 else s) 0 30
def orig (g : Int → Int) (n i : Int) : Int := itr (fun r s => if cn g r ≤ n ∧ s < cn g r ∧ 0 ≤ g (1562 + 360 * r + i) then cn g r else s) 0 30
theorem M_cueNumber_e {μ : Mem} {r : Int} (h0 : 0 ≤ r) (h1 : r < 30) : M_cueNumber μ r = some (cn (μ 264) r) := by
  unfold M_cueNumber cn
  simp (disch := omega) only [jadd_e, jmul_e, aI_ok, Option.bind_some]
theorem M_cueRow_e {μ : Mem} {n : Int} : M_cueRow μ n = some (rowOf (μ 264) n) := by
  unfold M_cueRow
  have h := loopT (fun k s i => M_cueRow_4 μ n k s i) (fun r s => if 0 < n ∧ cn (μ 264) r = n then r else s) (-1) 30 (by
    intro k i s h0 h1
    show M_cueRow_4 μ n (k + 1) s i = _
    rw [M_cueRow_4]
    simp (disch := omega) only [M_cueNumber_e, Option.bind_some, jadd_e]
    split <;> split <;> try omega
    all_goals (try split) <;> (try split) <;> first | rfl | omega | (simp_all; try omega)) big (big_le (by decide))
  rw [h]
  obtain ⟨j, hj⟩ : ∃ j, big - 30 = j + 1 := ⟨199969, rfl⟩
  rw [hj]
  show M_cueRow_4 μ n (j + 1) _ _ = _
  rw [M_cueRow_4]
  simp only [Nat.cast_ofNat, Int.le_refl, if_true]
  rfl
