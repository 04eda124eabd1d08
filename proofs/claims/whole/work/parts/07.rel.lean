-- how the small machine's values and memory stand for the machine's
def rfv (adr : Int → Nat) (x : Int) : Value := if x = 0 then .null else .ref (adr x)
def rfo (adr : Int → Nat) (x : Int) : Option Nat := if x = 0 then none else some (adr x)
theorem rfo_rf (adr : Int → Nat) (x : Int) : va_rf (rfo adr x) = rfv adr x := by
  unfold rfo rfv
  split <;> rfl
def tv (adr : Int → Nat) : SV → Value
  | .inl x => .int (Int32.ofInt x)
  | .inr (.inl x) => .long (Int64.ofInt x)
  | .inr (.inr x) => rfv adr x
def R32 (x : Int) : Prop := -2147483648 ≤ x ∧ x < 2147483648
def R64 (x : Int) : Prop := -9223372036854775808 ≤ x ∧ x < 9223372036854775808
def okv (n : Int) : SV → Prop
  | .inl x => R32 x
  | .inr (.inl x) => R64 x
  | .inr (.inr x) => x ≤ n
theorem i32_id {x : Int} (h : R32 x) : (Int32.ofInt x).toInt = x := by
  obtain ⟨h1, h2⟩ := h
  rw [Int32.toInt_ofInt]
  exact Int.bmod_eq_of_le (by simpa using h1) (by simpa using h2)
theorem i64_id {x : Int} (h : R64 x) : (Int64.ofInt x).toInt = x := by
  obtain ⟨h1, h2⟩ := h
  rw [Int64.toInt_ofInt]
  exact Int.bmod_eq_of_le (by simpa using h1) (by simpa using h2)
theorem i32_r (i : Int32) : R32 i.toInt := ⟨by have := Int32.le_toInt i; simpa using this, by have := Int32.toInt_lt i; simpa using this⟩
theorem i64_r (i : Int64) : R64 i.toInt := ⟨by have := Int64.le_toInt i; simpa using this, by have := Int64.toInt_lt i; simpa using this⟩
theorem i32_of (i : Int32) : Int32.ofInt i.toInt = i := Int32.ofInt_toInt i
theorem i64_of (i : Int64) : Int64.ofInt i.toInt = i := Int64.ofInt_toInt i
theorem i32_lt {x y : Int} (hx : R32 x) (hy : R32 y) : Int32.ofInt x < Int32.ofInt y ↔ x < y := by
  rw [Int32.lt_iff_toInt_lt, i32_id hx, i32_id hy]
theorem i32_le {x y : Int} (hx : R32 x) (hy : R32 y) : Int32.ofInt x ≤ Int32.ofInt y ↔ x ≤ y := by
  rw [Int32.le_iff_toInt_le, i32_id hx, i32_id hy]
theorem i32_eq {x y : Int} (hx : R32 x) (hy : R32 y) : Int32.ofInt x = Int32.ofInt y ↔ x = y := by
  constructor
  · intro h
    rw [← i32_id hx, ← i32_id hy, h]
  · rintro rfl; rfl
theorem r32_0 : R32 0 := ⟨by decide, by decide⟩
theorem i32_zero : Int32.ofInt 0 = 0 := rfl
theorem i32_eq0 {x : Int} (hx : R32 x) : Int32.ofInt x = 0 ↔ x = 0 := i32_eq hx r32_0
theorem i32_lt0 {x : Int} (hx : R32 x) : Int32.ofInt x < 0 ↔ x < 0 := i32_lt hx r32_0
theorem i32_clamp {x : Int} (hx : R32 x) (h0 : 0 ≤ x) : (Int32.ofInt x).toNatClampNeg = x.toNat := by
  show (Int32.ofInt x).toInt.toNat = _
  rw [i32_id hx]
theorem i32_in {x : Int} {n : Nat} (hx : R32 x) (h0 : 0 ≤ x) (h1 : x < (n : Int)) : vp_in (Int32.ofInt x) n := by
  unfold vp_in
  rw [i32_lt0 hx, i32_clamp hx h0]
  omega
-- the memory as a world
def fval (adr : Int → Nat) (t : Nat) (x : Int) : Value := if t = 1 then rfv adr x else .int (Int32.ofInt x)
def acon (adr : Int → Nat) (k : Nat) (f : Int → Int) : (Nat → Int32) ⊕ (Nat → Int64) ⊕ (Nat → UInt32) ⊕ (Nat → UInt64) ⊕ (Nat → Option Nat) :=
  if k = 104 then .inr (.inl fun j => Int64.ofInt (f j)) else if k < 110 then .inl fun j => Int32.ofInt (f j) else .inr (.inr (.inr (.inr fun j => rfo adr (f j))))
def cellE (tc : Nat → ClassId) (adr : Int → Nat) (o : Int) (f : Int → Int) : va_E :=
  if kd o < 50 then .inr (kd o, (List.range (ln o).toNat).map fun j => fval adr (ft (kd o) j) (f j)) else .inl (tc (kd o), (ln o).toNat, acon adr (kd o) f)
def wsOf (tc : Nat → ClassId) (adr : Int → Nat) (μ : Mem) : va_W := (List.range (μ 0 0).toNat).map fun (i : Nat) => (adr ((i : Int) + 1), cellE tc adr ((i : Int) + 1) (μ ((i : Int) + 1)))
def rng (n : Int) (k : Nat) (j x : Int) : Prop :=
  if k < 50 then (if ft k j.toNat = 1 then x ≤ n else if ft k j.toNat = 2 then x = 0 ∨ x = 1 else if ft k j.toNat = 3 then -128 ≤ x ∧ x ≤ 127 else R32 x)
  else if k = 101 then -128 ≤ x ∧ x ≤ 127 else if k = 102 then x = 0 ∨ x = 1 else if k = 103 then 0 ≤ x ∧ x ≤ 65535 else if k = 104 then R64 x else if k < 110 then R32 x else x ≤ n
def RG (X : Int → Int → Int) (Lx : Int) (μ : Mem) : Prop := 0 ≤ μ 0 0 ∧ (∀ o j, 0 < o → o ≤ μ 0 0 → rng (μ 0 0) (kd o) j (μ o j)) ∧ (∀ o j, o < 0 → μ o j = X o j) ∧ μ 0 1 = Lx
theorem wsOf_at {tc : Nat → ClassId} {adr : Int → Nat} {μ : Mem} {o : Int} (h0 : 0 < o) (h1 : o ≤ μ 0 0) : (wsOf tc adr μ)[(o - 1).toNat]? = some (adr o, cellE tc adr o (μ o)) := by
  unfold wsOf
  rw [List.getElem?_map, List.getElem?_range (by omega)]
  simp only [Option.map_some]
  rw [show (((o - 1).toNat : Nat) : Int) + 1 = o by omega]
theorem wr_same (μ : Mem) (o i v : Int) : wr μ o i v o i = v := by unfold wr; simp
theorem wr_obj {μ : Mem} {o i v a : Int} (h : a ≠ o) : wr μ o i v a = μ a := by
  funext j
  unfold wr
  simp [h]
theorem wr_idx {μ : Mem} {o i v a j : Int} (h : j ≠ i) : wr μ o i v a j = μ a j := by unfold wr; simp [h]
theorem wsOf_set {tc : Nat → ClassId} {adr : Int → Nat} {μ : Mem} {o : Int} (h0 : 0 < o) (h1 : o ≤ μ 0 0) (μ' : Mem) (hn : μ' 0 0 = μ 0 0) (ho : ∀ a, a ≠ o → μ' a = μ a) :
    (wsOf tc adr μ).set (o - 1).toNat (adr o, cellE tc adr o (μ' o)) = wsOf tc adr μ' := by
  apply List.ext_getElem?
  intro i
  by_cases hi : i = (o - 1).toNat
  · subst hi
    rw [List.getElem?_set_self (by unfold wsOf; simp; omega), wsOf_at (μ := μ') h0 (by omega)]
  · rw [List.getElem?_set_ne (Ne.symm hi)]
    unfold wsOf
    rw [List.getElem?_map, List.getElem?_map, hn]
    by_cases hl : i < (μ 0 0).toNat
    · rw [List.getElem?_range hl]
      simp only [Option.map_some]
      rw [ho ((i : Int) + 1) (by omega)]
    · rw [List.getElem?_eq_none (by simp; omega)]
      rfl
