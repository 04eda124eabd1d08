-- L3: what the constructors make (printed by wip/gen/emitini.py)
/-- object k is made, empty -/
def al (k : Int) (μ : Mem) : Mem := fun a j => if a = 0 ∧ j = 0 then k else if a = k then 0 else μ a j
theorem al_o {μ : Mem} {k a : Int} (h0 : ¬ a = 0) (h1 : ¬ a = k) : al k μ a = μ a := by
  funext j
  unfold al
  rw [if_neg (fun x => h0 x.1), if_neg h1]
theorem alo_al {μ : Mem} {k : Int} (h : μ 0 0 + 1 = k) : alo μ = al k μ := by
  unfold alo al
  rw [h]
theorem nwpf {μ : Mem} {k n a f : Int} {K C : Nat} {F : Mem → Option Mem} (h : μ 0 0 + 1 = k) (hk : kd k = K ∧ ln k = n ∧ 0 ≤ n ∧ n ≤ 200000 ∧ 0 < k) (ha : kd a = C ∧ 0 < a) : ((nwA μ K n).bind fun m => (pf m C f 1 a (μ 0 0 + 1)).bind F) = F (wr (al k μ) a f k) := by
  unfold nwA nw pf
  rw [if_pos hk.2.2.2.1, h, if_pos ⟨hk.1, hk.2.1, hk.2.2.1, by omega⟩, Option.bind_some, if_pos ⟨ha.1, ha.2, fun x => by omega, fun x => by omega⟩, Option.bind_some, alo_al h]
theorem pfb {μ : Mem} {a f v : Int} {t C : Nat} {F : Mem → Option Mem} (ha : kd a = C ∧ 0 < a) (ht : t < 2 ∨ (t = 2 ∧ (v = 0 ∨ v = 1))) : ((pf μ C f t a v).bind F) = F (wr μ a f v) := by
  unfold pf
  rw [if_pos ⟨ha.1, ha.2, fun x => by omega, fun x => by omega⟩, Option.bind_some]
theorem mk_Ch {c : Mem} (h0 : c 0 0 = 255) : ∃ c', wCh_init c 255 3 221 = some c' ∧ c' 0 0 = 255 ∧ c' 0 1 = c 0 1 ∧ (∀ o, ¬ o = 0 → ¬ (255 ≤ o ∧ o ≤ 255) → c' o = c o) ∧ c' 255 0 = 3 ∧ c' 255 1 = 221 ∧ c' 255 2 = (-1) := by
  have h1 : c 0 0 + 1 = 256 := by omega
  refine ⟨(wr (wr (wr c 255 2 (-1)) 255 0 3) 255 1 221), ?_, ?_, rfl, fun o x y => by rw [wr_o (by omega), wr_o (by omega), wr_o (by omega)], rfl, rfl, rfl⟩
  · unfold wCh_init
    rw [if_neg (by decide), pfb (by decide +kernel) (by decide), pfb (by decide +kernel) (by decide), pfb (by decide +kernel) (by decide)]
  · exact h0
theorem mk_Ed {c : Mem} (h0 : c 0 0 = 256) : ∃ c', wEd_init c 256 3 221 226 = some c' ∧ c' 0 0 = 256 ∧ c' 0 1 = c 0 1 ∧ (∀ o, ¬ o = 0 → ¬ (256 ≤ o ∧ o ≤ 256) → c' o = c o) ∧ c' 256 0 = 3 ∧ c' 256 1 = 221 ∧ c' 256 2 = 226 := by
  have h1 : c 0 0 + 1 = 257 := by omega
  refine ⟨(wr (wr (wr c 256 0 3) 256 1 221) 256 2 226), ?_, ?_, rfl, fun o x y => by rw [wr_o (by omega), wr_o (by omega), wr_o (by omega)], rfl, rfl, rfl⟩
  · unfold wEd_init
    rw [if_neg (by decide), pfb (by decide +kernel) (by decide), pfb (by decide +kernel) (by decide), pfb (by decide +kernel) (by decide)]
  · exact h0
theorem mk_Sv {c : Mem} (h0 : c 0 0 = 257) : ∃ c', wSv_init c 257 3 231 = some c' ∧ c' 0 0 = 258 ∧ c' 0 1 = c 0 1 ∧ (∀ o, ¬ o = 0 → ¬ (257 ≤ o ∧ o ≤ 258) → c' o = c o) ∧ (∀ j, c' 258 j = 0) ∧ c' 257 0 = 3 ∧ c' 257 1 = 231 ∧ c' 257 2 = 258 ∧ c' 257 3 = 0 ∧ c' 257 4 = 0 ∧ c' 257 5 = 0 := by
  have h1 : c 0 0 + 1 = 258 := by omega
  refine ⟨(wr (wr (wr (wr (wr (wr (al 258 c) 257 2 258) 257 3 0) 257 4 0) 257 5 0) 257 0 3) 257 1 231), ?_, rfl, rfl, fun o x y => by rw [wr_o (by omega), wr_o (by omega), wr_o (by omega), wr_o (by omega), wr_o (by omega), wr_o (by omega), al_o (by omega) (by omega)], fun j => rfl, rfl, rfl, rfl, rfl, rfl, rfl⟩
  · unfold wSv_init
    rw [if_neg (by decide), nwpf (k := 258) h1 (by decide +kernel) (by decide +kernel), pfb (by decide +kernel) (by decide), pfb (by decide +kernel) (by decide), pfb (by decide +kernel) (by decide), pfb (by decide +kernel) (by decide), pfb (by decide +kernel) (by decide)]
theorem mk_Rd {c : Mem} (h0 : c 0 0 = 250) : ∃ c', wRd_init c 250 231 241 = some c' ∧ c' 0 0 = 254 ∧ c' 0 1 = c 0 1 ∧ (∀ o, ¬ o = 0 → ¬ (250 ≤ o ∧ o ≤ 254) → c' o = c o) ∧ (∀ j, c' 251 j = 0) ∧ (∀ j, c' 252 j = 0) ∧ (∀ j, c' 253 j = 0) ∧ (∀ j, c' 254 j = 0) ∧ c' 250 0 = 231 ∧ c' 250 1 = 241 ∧ c' 250 2 = 251 ∧ c' 250 3 = 0 ∧ c' 250 4 = 0 ∧ c' 250 5 = 252 ∧ c' 250 6 = 253 ∧ c' 250 7 = 254 ∧ c' 250 8 = 0 ∧ c' 250 9 = 0 := by
  have h1 : c 0 0 + 1 = 251 := by omega
  refine ⟨(wr (wr (wr (wr (wr (al 254 (wr (al 253 (wr (al 252 (wr (wr (wr (al 251 c) 250 2 251) 250 3 0) 250 4 0)) 250 5 252)) 250 6 253)) 250 7 254) 250 8 0) 250 9 0) 250 0 231) 250 1 241), ?_, rfl, rfl, fun o x y => by rw [wr_o (by omega), wr_o (by omega), wr_o (by omega), wr_o (by omega), wr_o (by omega), al_o (by omega) (by omega), wr_o (by omega), al_o (by omega) (by omega), wr_o (by omega), al_o (by omega) (by omega), wr_o (by omega), wr_o (by omega), wr_o (by omega), al_o (by omega) (by omega)], fun j => rfl, fun j => rfl, fun j => rfl, fun j => rfl, rfl, rfl, rfl, rfl, rfl, rfl, rfl, rfl, rfl, rfl⟩
  · unfold wRd_init
    rw [if_neg (by decide), nwpf (k := 251) h1 (by decide +kernel) (by decide +kernel), pfb (by decide +kernel) (by decide), pfb (by decide +kernel) (by decide), nwpf (k := 252) (by rfl) (by decide +kernel) (by decide +kernel), nwpf (k := 253) (by rfl) (by decide +kernel) (by decide +kernel), nwpf (k := 254) (by rfl) (by decide +kernel) (by decide +kernel), pfb (by decide +kernel) (by decide), pfb (by decide +kernel) (by decide), pfb (by decide +kernel) (by decide), pfb (by decide +kernel) (by decide)]
theorem mk_Sg {c : Mem} (h0 : c 0 0 = 226) : ∃ c', wSg_init c 226 3 221 = some c' ∧ c' 0 0 = 230 ∧ c' 0 1 = c 0 1 ∧ (∀ o, ¬ o = 0 → ¬ (226 ≤ o ∧ o ≤ 230) → c' o = c o) ∧ (∀ j, c' 227 j = 0) ∧ (∀ j, c' 228 j = 0) ∧ (∀ j, c' 229 j = 0) ∧ (∀ j, c' 230 j = 0) ∧ c' 226 0 = 3 ∧ c' 226 1 = 221 ∧ c' 226 2 = 227 ∧ c' 226 3 = 228 ∧ c' 226 4 = 1000 ∧ c' 226 5 = 0 ∧ c' 226 6 = 229 ∧ c' 226 7 = 230 := by
  have h1 : c 0 0 + 1 = 227 := by omega
  refine ⟨(wr (wr (wr (al 230 (wr (al 229 (wr (wr (wr (al 228 (wr (al 227 c) 226 2 227)) 226 3 228) 226 4 1000) 226 5 0)) 226 6 229)) 226 7 230) 226 0 3) 226 1 221), ?_, rfl, rfl, fun o x y => by rw [wr_o (by omega), wr_o (by omega), wr_o (by omega), al_o (by omega) (by omega), wr_o (by omega), al_o (by omega) (by omega), wr_o (by omega), wr_o (by omega), wr_o (by omega), al_o (by omega) (by omega), wr_o (by omega), al_o (by omega) (by omega)], fun j => rfl, fun j => rfl, fun j => rfl, fun j => rfl, rfl, rfl, rfl, rfl, rfl, rfl, rfl, rfl⟩
  · unfold wSg_init
    rw [if_neg (by decide), nwpf (k := 227) h1 (by decide +kernel) (by decide +kernel), nwpf (k := 228) (by rfl) (by decide +kernel) (by decide +kernel), pfb (by decide +kernel) (by decide), pfb (by decide +kernel) (by decide), nwpf (k := 229) (by rfl) (by decide +kernel) (by decide +kernel), nwpf (k := 230) (by rfl) (by decide +kernel) (by decide +kernel), pfb (by decide +kernel) (by decide), pfb (by decide +kernel) (by decide)]
