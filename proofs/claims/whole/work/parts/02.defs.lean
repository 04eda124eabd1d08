-- the small machine: values, memory, operations (the verifier's own)
abbrev SV : Type := Int ⊕ (Int ⊕ Int)
abbrev vI (x : Int) : SV := Sum.inl x
abbrev vJ (x : Int) : SV := Sum.inr (Sum.inl x)
abbrev vA (x : Int) : SV := Sum.inr (Sum.inr x)
abbrev Mem : Type := Int → Int → Int
abbrev Cd : Type := List (Nat × Instr)
abbrev LV : Type := List (Option SV)
abbrev Res : Type := Option SV × Mem
-- name, bytes, maxLocals, return type, owner, frames, locals' room, arguments, receiver's kind, return code, code
abbrev MI : Type := MethodName × ByteArray × Nat × Option FieldType × Nat × Nat × Nat × Nat × Nat × Nat × Cd
abbrev miY (x : MI) : MethodName := x.1
abbrev miB (x : MI) : ByteArray := x.2.1
abbrev miL (x : MI) : Nat := x.2.2.1
abbrev miR (x : MI) : Option FieldType := x.2.2.2.1
abbrev miO (x : MI) : Nat := x.2.2.2.2.1
abbrev miF (x : MI) : Nat := x.2.2.2.2.2.1
abbrev miW (x : MI) : Nat := x.2.2.2.2.2.2.1
abbrev miN (x : MI) : Nat := x.2.2.2.2.2.2.2.1
abbrev miV (x : MI) : Nat := x.2.2.2.2.2.2.2.2.1
abbrev miT (x : MI) : Nat := x.2.2.2.2.2.2.2.2.2.1
abbrev miC (x : MI) : Cd := x.2.2.2.2.2.2.2.2.2.2
def cat1 : SV → Nat
  | .inr (.inl _) => 2
  | _ => 1
def cats (st : List SV) : Nat := (st.map cat1).sum
def entL : List SV → LV
  | [] => []
  | .inr (.inl x) :: r => some (vJ x) :: none :: entL r
  | .inl x :: r => some (vI x) :: entL r
  | .inr (.inr x) :: r => some (vA x) :: entL r
def padL (n : Nat) (L : LV) : LV := L ++ List.replicate (n - L.length) none
def noL (L : LV) (j : Nat) : Bool := match j with
  | 0 => true
  | j + 1 => match L[j]? with
    | some (some (.inr (.inl _))) => false
    | _ => true
def wr (μ : Mem) (o i v : Int) : Mem := fun a j => if a = o ∧ j = i then v else μ a j
def alo (μ : Mem) : Mem := fun a j => if a = 0 ∧ j = 0 then μ 0 0 + 1 else if a = μ 0 0 + 1 then 0 else μ a j
def aloN (μ : Mem) (n : Int) : Mem := fun a j => if a = 0 ∧ j = 0 then μ 0 0 + 1 + n else if a = μ 0 0 + 1 then (if 0 ≤ j ∧ j < n then μ 0 0 + 2 + j else 0) else if μ 0 0 + 1 < a ∧ a ≤ μ 0 0 + 1 + n then 0 else μ a j
def acp (μ : Mem) (s sp d dp n : Int) : Mem := fun a j => if a = d ∧ dp ≤ j ∧ j < dp + n then μ s (sp + (j - dp)) else μ a j
def jadd (x y : Int) : Int := (Int32.ofInt x + Int32.ofInt y).toInt
def jsub (x y : Int) : Int := (Int32.ofInt x - Int32.ofInt y).toInt
def jmul (x y : Int) : Int := (Int32.ofInt x * Int32.ofInt y).toInt
def jdiv (x y : Int) : Int := (Int32.ofInt x / Int32.ofInt y).toInt
def jrem (x y : Int) : Int := (Int32.ofInt x - Int32.ofInt x / Int32.ofInt y * Int32.ofInt y).toInt
def jneg (x : Int) : Int := (-Int32.ofInt x).toInt
def jshl (x y : Int) : Int := (Int32.ofInt x <<< (Int32.ofInt y &&& 31)).toInt
def jshr (x y : Int) : Int := (Int32.ofInt x >>> (Int32.ofInt y &&& 31)).toInt
def jushr (x y : Int) : Int := ((Int32.ofInt x).toUInt32 >>> ((Int32.ofInt y).toUInt32 &&& Int32.toUInt32 31)).toInt32.toInt
def jand (x y : Int) : Int := (Int32.ofInt x &&& Int32.ofInt y).toInt
def jor (x y : Int) : Int := (Int32.ofInt x ||| Int32.ofInt y).toInt
def jb (x : Int) : Int := ((Int32.ofInt x).toInt8.toInt32).toInt
def jc (x : Int) : Int := ((Int32.ofInt x).toUInt32 % 65536).toInt32.toInt
def jz (x : Int) : Int := (vp_nar .boolean (Int32.ofInt x)).toInt
def qadd (x y : Int) : Int := (Int64.ofInt x + Int64.ofInt y).toInt
def qmul (x y : Int) : Int := (Int64.ofInt x * Int64.ofInt y).toInt
def qdiv (x y : Int) : Int := (Int64.ofInt x / Int64.ofInt y).toInt
def qrem (x y : Int) : Int := (Int64.ofInt x - Int64.ofInt x / Int64.ofInt y * Int64.ofInt y).toInt
def qcmp (x y : Int) : Int := (lg_cmp (Int64.ofInt x) (Int64.ofInt y)).toInt
def q2i (x : Int) : Int := (Int64.ofInt x).toInt32.toInt
def cmpB (c : Jvm.ClassFile.Cond) (x y : Int) : Bool := match c with
  | .eq => decide (x = y)
  | .ne => decide (x ≠ y)
  | .lt => decide (x < y)
  | .ge => decide (y ≤ x)
  | .gt => decide (y < x)
  | .le => decide (x ≤ y)
