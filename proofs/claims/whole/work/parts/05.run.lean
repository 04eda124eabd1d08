-- the small machine's steps
def rdI (μ : Mem) (o i : Int) : Option Int := if (kd o = 100 ∧ 0 ≤ i ∧ i < ln o) ∨ (kd o = 99 ∧ 0 ≤ i ∧ i < μ 0 1) then some (μ o i) else none
def rdB (μ : Mem) (o i : Int) : Option Int := if (kd o = 101 ∨ kd o = 102) ∧ 0 ≤ i ∧ i < ln o then some (μ o i) else none
def rdC (μ : Mem) (o i : Int) : Option Int := if kd o = 103 ∧ 0 < o ∧ 0 ≤ i ∧ i < ln o then some (μ o i) else none
def rdJ (μ : Mem) (o i : Int) : Option Int := if kd o = 104 ∧ 0 < o ∧ 0 ≤ i ∧ i < ln o then some (μ o i) else none
def rdA (μ : Mem) (o i : Int) : Option Int := if (kd o = 110 ∨ kd o = 121 ∨ kd o = 125 ∨ kd o = 127) ∧ 0 < o ∧ 0 ≤ i ∧ i < ln o then some (μ o i) else none
def wI (μ : Mem) (o i v : Int) : Option Mem := if kd o = 100 ∧ 0 < o ∧ 0 ≤ i ∧ i < ln o then some (wr μ o i v) else none
def wB (μ : Mem) (o i v : Int) : Option Mem := if (kd o = 101 ∨ kd o = 102) ∧ 0 < o ∧ 0 ≤ i ∧ i < ln o then some (wr μ o i (if kd o = 101 then jb v else jz v)) else none
def wC (μ : Mem) (o i v : Int) : Option Mem := if kd o = 103 ∧ 0 < o ∧ 0 ≤ i ∧ i < ln o then some (wr μ o i (jc v)) else none
def wJ (μ : Mem) (o i v : Int) : Option Mem := if kd o = 104 ∧ 0 < o ∧ 0 ≤ i ∧ i < ln o then some (wr μ o i v) else none
def wA (μ : Mem) (o i v : Int) : Option Mem := if (v = 0 ∧ (kd o = 121 ∨ kd o = 125 ∨ kd o = 127) ∨ 0 < v ∧ v ≤ μ 0 0 ∧ kd v < 13 ∧ kd o = 120 + kd v) ∧ 0 < o ∧ 0 ≤ i ∧ i < ln o then some (wr μ o i v) else none
def aln (μ : Mem) (o : Int) : Option Int := if kd o = 99 then some (μ 0 1) else if kd o = 100 ∨ kd o = 101 ∨ kd o = 102 ∨ kd o = 103 ∨ kd o = 104 ∨ kd o = 110 ∨ kd o = 121 ∨ kd o = 125 ∨ kd o = 127 then some (ln o) else none
def gf (μ : Mem) (c : Nat) (f : Int) (o : Int) : Option Int := if kd o = c then some (μ o f) else none
def pf (μ : Mem) (c : Nat) (f : Int) (t : Nat) (o v : Int) : Option Mem := if kd o = c ∧ 0 < o ∧ (t = 2 → v = 0 ∨ v = 1) ∧ (t = 3 → -128 ≤ v ∧ v ≤ 127) then some (wr μ o f v) else none
def nw (μ : Mem) (k : Nat) (n : Int) : Option Mem := if kd (μ 0 0 + 1) = k ∧ ln (μ 0 0 + 1) = n ∧ 0 ≤ n ∧ 0 ≤ μ 0 0 then some (alo μ) else none
/-- rows of rows of ints: n rows of m -/
def nw2 (μ : Mem) (n m : Int) : Option Mem := if kd (μ 0 0 + 1) = 110 ∧ ln (μ 0 0 + 1) = n ∧ 0 ≤ n ∧ n ≤ 100 ∧ 0 ≤ m ∧ m ≤ 1000 ∧ 0 ≤ μ 0 0 ∧ (List.range n.toNat).all (fun j => decide (kd (μ 0 0 + 2 + (j : Int)) = 100 ∧ ln (μ 0 0 + 2 + (j : Int)) = m)) = true then some (aloN μ n) else none
def cpA (μ : Mem) (s sp d dp n : Int) : Option Mem := if (kd s = 100 ∨ kd s = 101) ∧ kd d = kd s ∧ 0 < d ∧ 0 ≤ sp ∧ 0 ≤ dp ∧ 0 ≤ n ∧ sp + n ≤ ln s ∧ dp + n ≤ ln d ∧ (0 < s ∨ kd s = 101) then some (acp μ s sp d dp n) else none
def rok (t : Nat) (x : Int) : Bool := match t with
  | 1 => true
  | 2 => decide (x = 0 ∨ x = 1)
  | 3 => decide (-128 ≤ x ∧ x ≤ 127)
  | _ => false
def rcvOK (v : Nat) (args : List SV) : Bool := if v = 99 then true else match args with
  | .inr (.inr o) :: _ => decide (o ≠ 0 ∧ kd o = v)
  | _ => false
abbrev Rec : Type := Nat → Cd → LV → List SV → Mem → Option Res
def bin2 (rec : Rec) (f : Int → Int → Int) (k : Nat) (c : Cd) (L : LV) (st : List SV) (μ : Mem) : Option Res := match st with
  | .inl y :: .inl x :: st => rec k c L (vI (f x y) :: st) μ
  | _ => none
def bin4 (rec : Rec) (f : Int → Int → Int) (k : Nat) (c : Cd) (L : LV) (st : List SV) (μ : Mem) : Option Res := match st with
  | .inr (.inl y) :: .inr (.inl x) :: st => rec k c L (vJ (f x y) :: st) μ
  | _ => none
def una (rec : Rec) (f : Int → Int) (k : Nat) (c : Cd) (L : LV) (st : List SV) (μ : Mem) : Option Res := match st with
  | .inl x :: st => rec k c L (vI (f x) :: st) μ
  | _ => none
def callK (rec : Rec) (k' : Nat) (k : Nat) (c : Cd) (L : LV) (st : List SV) (μ : Mem) : Option Res :=
  if miN (mi k') ≤ st.length ∧ cats (st.drop (miN (mi k'))) ≤ 8 ∧ rcvOK (miV (mi k')) (st.take (miN (mi k'))).reverse = true ∧ (entL (st.take (miN (mi k'))).reverse).length ≤ miL (mi k') then
    (rec k' (codeOf k') (padL (miL (mi k')) (entL (st.take (miN (mi k'))).reverse)) [] μ).bind fun r => rec k c L (r.1.toList ++ st.drop (miN (mi k'))) r.2
  else none
def prim (rec : Rec) (k' : Nat) (k : Nat) (c : Cd) (L : LV) (st : List SV) (μ : Mem) : Option Res := match k', st with
  | 1000, .inl y :: .inl x :: st => if cats st ≤ 8 then rec k c L (vI (if x < y then y else x) :: st) μ else none
  | 1001, .inl y :: .inl x :: st => if cats st ≤ 8 then rec k c L (vI (if y < x then y else x) :: st) μ else none
  | 1002, .inl x :: st => if cats st ≤ 8 then rec k c L (vI (if 0 ≤ x then x else jsub 0 x) :: st) μ else none
  | 1003, .inl n :: .inl dp :: .inr (.inr d) :: .inl sp :: .inr (.inr s) :: st => if cats st ≤ 8 then (cpA μ s sp d dp n).bind fun μ => rec k c L st μ else none
  | 1004, .inr (.inr o) :: st => if cats st ≤ 8 ∧ o ≠ 0 then rec k c L st μ else none
  | _, _ => none
def stp (rec : Rec) (k : Nat) (i : Instr) (c : Cd) (L : LV) (st : List SV) (μ : Mem) : Option Res := match i with
  | .iconst v => rec k c L (vI v :: st) μ
  | .sipush v => rec k c L (vJ v :: st) μ
  | .aconst_null => rec k c L (vA 0 :: st) μ
  | .ldc j => rec k c L (vA (-(10 + (j : Int))) :: st) μ
  | .iload j => match L[j]? with
    | some (some (.inl x)) => rec k c L (vI x :: st) μ
    | _ => none
  | .lload j => match L[j]? with
    | some (some (.inr (.inl x))) => rec k c L (vJ x :: st) μ
    | _ => none
  | .aload j => match L[j]? with
    | some (some (.inr (.inr x))) => rec k c L (vA x :: st) μ
    | _ => none
  | .istore j => match st with
    | .inl x :: st => if j < L.length ∧ noL L j = true then rec k c (L.set j (some (vI x))) st μ else none
    | _ => none
  | .astore j => match st with
    | .inr (.inr x) :: st => if j < L.length ∧ noL L j = true then rec k c (L.set j (some (vA x))) st μ else none
    | _ => none
  | .lstore j => match st with
    | .inr (.inl x) :: st => if j + 1 < L.length ∧ noL L j = true then rec k c ((L.set j (some (vJ x))).set (j + 1) none) st μ else none
    | _ => none
  | .iinc j n => match L[j]? with
    | some (some (.inl x)) => if j < L.length ∧ noL L j = true then rec k c (L.set j (some (vI (jadd x n)))) st μ else none
    | _ => none
  | .iadd => bin2 rec jadd k c L st μ
  | .isub => bin2 rec jsub k c L st μ
  | .imul => bin2 rec jmul k c L st μ
  | .iand => bin2 rec jand k c L st μ
  | .ior => bin2 rec jor k c L st μ
  | .ishl => bin2 rec jshl k c L st μ
  | .ishr => bin2 rec jshr k c L st μ
  | .iushr => bin2 rec jushr k c L st μ
  | .idiv => match st with
    | .inl y :: .inl x :: st => if y = 0 then none else rec k c L (vI (jdiv x y) :: st) μ
    | _ => none
  | .irem => match st with
    | .inl y :: .inl x :: st => if y = 0 then none else rec k c L (vI (jrem x y) :: st) μ
    | _ => none
  | .ldiv => match st with
    | .inr (.inl y) :: .inr (.inl x) :: st => if y = 0 then none else rec k c L (vJ (qdiv x y) :: st) μ
    | _ => none
  | .lrem => match st with
    | .inr (.inl y) :: .inr (.inl x) :: st => if y = 0 then none else rec k c L (vJ (qrem x y) :: st) μ
    | _ => none
  | .ladd => bin4 rec qadd k c L st μ
  | .lmul => bin4 rec qmul k c L st μ
  | .lcmp => match st with
    | .inr (.inl y) :: .inr (.inl x) :: st => rec k c L (vI (qcmp x y) :: st) μ
    | _ => none
  | .ineg => una rec jneg k c L st μ
  | .i2b => una rec jb k c L st μ
  | .i2c => una rec jc k c L st μ
  | .i2l => match st with
    | .inl x :: st => rec k c L (vJ x :: st) μ
    | _ => none
  | .l2i => match st with
    | .inr (.inl x) :: st => rec k c L (vI (q2i x) :: st) μ
    | _ => none
  | .pop => match st with
    | .inl _ :: st => rec k c L st μ
    | .inr (.inr _) :: st => rec k c L st μ
    | _ => none
  | .dup => match st with
    | .inl x :: st => rec k c L (vI x :: vI x :: st) μ
    | .inr (.inr x) :: st => rec k c L (vA x :: vA x :: st) μ
    | _ => none
  | .dup2 => match st with
    | .inl x :: .inr (.inr y) :: st => rec k c L (vI x :: vA y :: vI x :: vA y :: st) μ
    | _ => none
  | .goto t => rec k (jmp k t) L st μ
  | .ifCond cc t => match st with
    | .inl x :: st => if cmpB cc x 0 = true then rec k (jmp k t) L st μ else rec k c L st μ
    | _ => none
  | .if_icmp cc t => match st with
    | .inl y :: .inl x :: st => if cmpB cc x y = true then rec k (jmp k t) L st μ else rec k c L st μ
    | _ => none
  | .ifnull t => match st with
    | .inr (.inr o) :: st => if o = 0 then rec k (jmp k t) L st μ else rec k c L st μ
    | _ => none
  | .ifnonnull t => match st with
    | .inr (.inr o) :: st => if o = 0 then rec k c L st μ else rec k (jmp k t) L st μ
    | _ => none
  | .tableswitch d lo hi ts => match st with
    | .inl x :: st => if lo ≤ x ∧ x ≤ hi then rec k (jmp k (ts.toList.getD (x - lo).toNat 0)) L st μ else rec k (jmp k d) L st μ
    | _ => none
  | .lookupswitch d ps => match st with
    | .inl x :: st => rec k (jmp k (((ps.toList.find? (fun q => q.1 == x)).map (fun q => q.2)).getD d)) L st μ
    | _ => none
  | .getfield n => match st with
    | .inr (.inr o) :: st => (gf μ (n / 512) ((n / 8 % 64 : Nat) : Int) o).bind fun x => rec k c L ((if n % 8 = 1 then vA x else vI x) :: st) μ
    | _ => none
  | .putfield n => match st with
    | .inl x :: .inr (.inr o) :: st => if n % 8 = 1 then none else (pf μ (n / 512) ((n / 8 % 64 : Nat) : Int) (n % 8) o x).bind fun μ => rec k c L st μ
    | .inr (.inr x) :: .inr (.inr o) :: st => if n % 8 = 1 then (pf μ (n / 512) ((n / 8 % 64 : Nat) : Int) 1 o x).bind fun μ => rec k c L st μ else none
    | _ => none
  | .getstatic j => if j < 6 then rec k c L (vA (-(j : Int) - 1) :: st) μ else rec k c L (vI 1 :: st) μ
  | .iaload => match st with
    | .inl i :: .inr (.inr o) :: st => (rdI μ o i).bind fun x => rec k c L (vI x :: st) μ
    | _ => none
  | .baload => match st with
    | .inl i :: .inr (.inr o) :: st => (rdB μ o i).bind fun x => rec k c L (vI x :: st) μ
    | _ => none
  | .caload => match st with
    | .inl i :: .inr (.inr o) :: st => (rdC μ o i).bind fun x => rec k c L (vI x :: st) μ
    | _ => none
  | .laload => match st with
    | .inl i :: .inr (.inr o) :: st => (rdJ μ o i).bind fun x => rec k c L (vJ x :: st) μ
    | _ => none
  | .aaload => match st with
    | .inl i :: .inr (.inr o) :: st => (rdA μ o i).bind fun x => rec k c L (vA x :: st) μ
    | _ => none
  | .iastore => match st with
    | .inl x :: .inl i :: .inr (.inr o) :: st => (wI μ o i x).bind fun μ => rec k c L st μ
    | _ => none
  | .bastore => match st with
    | .inl x :: .inl i :: .inr (.inr o) :: st => (wB μ o i x).bind fun μ => rec k c L st μ
    | _ => none
  | .castore => match st with
    | .inl x :: .inl i :: .inr (.inr o) :: st => (wC μ o i x).bind fun μ => rec k c L st μ
    | _ => none
  | .lastore => match st with
    | .inr (.inl x) :: .inl i :: .inr (.inr o) :: st => (wJ μ o i x).bind fun μ => rec k c L st μ
    | _ => none
  | .aastore => match st with
    | .inr (.inr x) :: .inl i :: .inr (.inr o) :: st => (wA μ o i x).bind fun μ => rec k c L st μ
    | _ => none
  | .arraylength => match st with
    | .inr (.inr o) :: st => (aln μ o).bind fun x => rec k c L (vI x :: st) μ
    | _ => none
  | .new ci => (nw μ ci (((cls.getD ci ("", F_0, 0)).2.2 : Nat) : Int)).bind fun μ1 => rec k c L (vA (μ 0 0 + 1) :: st) μ1
  | .newarray t => match st with
    | .inl n :: st => if n ≤ 200000 then (nw μ (match t with | .int => 100 | .byte => 101 | .boolean => 102 | .char => 103 | .long => 104 | _ => 998) n).bind fun μ1 => rec k c L (vA (μ 0 0 + 1) :: st) μ1 else none
    | _ => none
  | .anewarray ci => match st with
    | .inl n :: st => if n ≤ 200000 then (nw μ (120 + ci) n).bind fun μ1 => rec k c L (vA (μ 0 0 + 1) :: st) μ1 else none
    | _ => none
  | .multianewarray _ _ => match st with
    | .inl m :: .inl n :: st => (nw2 μ n m).bind fun μ1 => rec k c L (vA (μ 0 0 + 1) :: st) μ1
    | _ => none
  | .invokevirtual k' => callK rec k' k c L st μ
  | .invokespecial k' => if k' < 1000 then callK rec k' k c L st μ else prim rec k' k c L st μ
  | .invokestatic k' => if k' < 1000 then callK rec k' k c L st μ else prim rec k' k c L st μ
  | .ireturn => match st with
    | [.inl x] => if rok (miT (mi k)) x = true then some (some (vI x), μ) else none
    | _ => none
  | .areturn => match st with
    | [.inr (.inr x)] => if miT (mi k) = 5 then some (some (vA x), μ) else none
    | _ => none
  | .return_ => match st with
    | [] => if miT (mi k) = 0 then some (none, μ) else none
    | _ => none
  | _ => none
def run : Nat → Rec
  | 0, _, _, _, _, _ => none
  | _ + 1, _, [], _, _, _ => none
  | n + 1, k, q :: c, L, st, μ => stp (run n) k q.2 c L st μ
-- the check of a method's resolved code against its bytes
def dcd (b : ByteArray) (pc : Nat) (raw : Instr) (len nx : Nat) : Bool := decide (decode b pc = .ok (raw, len)) && (nx == pc + len)
def locC (b : ByteArray) (pc nx j : Nat) (mk : Nat → Instr) (mk4 : Fin 4 → Instr) : Bool := dcd b pc (mk j) 2 nx || (decide (j < 4) && dcd b pc (mk4 (Fin.ofNat 4 j)) 1 nx)
def fldC (c n : Nat) (b : ByteArray) (pc nx : Nat) (mk : Nat → Instr) : Bool := fldT.any fun e => e.1 == c && e.2.2.1 == n && dcd b pc (mk e.2.1) 3 nx
def invC (c k' w : Nat) (b : ByteArray) (pc nx : Nat) (mk : Nat → Instr) : Bool := invT.any fun e => e.1 == c && e.2.2.1 == w && e.2.2.2.1 == k' && dcd b pc (mk e.2.1) 3 nx
def clsC (c k' : Nat) (b : ByteArray) (pc nx len : Nat) (mk : Nat → Instr) : Bool := clsT.any fun e => e.1 == c && e.2.2.1 == k' && dcd b pc (mk e.2.1) len nx
def okI (c : Nat) (b : ByteArray) (pc : Nat) (i : Instr) (nx : Nat) : Bool := match i with
  | .iconst v => dcd b pc (.iconst v) 1 nx || (decide (-128 ≤ v ∧ v ≤ 127) && dcd b pc (.bipush v) 2 nx) || (decide (-32768 ≤ v ∧ v ≤ 32767) && dcd b pc (.sipush v) 3 nx) || (kT.any fun e => e.1 == c && e.2.2.1 == v && decide (-2147483648 ≤ v ∧ v ≤ 2147483647) && (dcd b pc (.ldc e.2.1) 2 nx || dcd b pc (.ldc_w e.2.1) 3 nx))
  | .sipush v => (decide (v = 0) && dcd b pc (.lconst 0) 1 nx) || (decide (v = 1) && dcd b pc (.lconst 1) 1 nx) || (kT.any fun e => e.1 == c && e.2.2.1 == v && decide (-9223372036854775808 ≤ v ∧ v ≤ 9223372036854775807) && dcd b pc (.ldc2_w e.2.1) 3 nx)
  | .iload j => locC b pc nx j .iload .iload_n
  | .lload j => locC b pc nx j .lload .lload_n
  | .aload j => locC b pc nx j .aload .aload_n
  | .istore j => locC b pc nx j .istore .istore_n
  | .lstore j => locC b pc nx j .lstore .lstore_n
  | .astore j => locC b pc nx j .astore .astore_n
  | .iinc j n => dcd b pc (.iinc j n) 3 nx
  | .goto t => decide (0 ≤ t) && dcd b pc (.goto (t - pc)) 3 (pc + 3)
  | .ifCond cc t => decide (0 ≤ t) && dcd b pc (.ifCond cc (t - pc)) 3 nx
  | .if_icmp cc t => decide (0 ≤ t) && dcd b pc (.if_icmp cc (t - pc)) 3 nx
  | .ifnull t => decide (0 ≤ t) && dcd b pc (.ifnull (t - pc)) 3 nx
  | .ifnonnull t => decide (0 ≤ t) && dcd b pc (.ifnonnull (t - pc)) 3 nx
  | .tableswitch d lo hi ts => decide (0 ≤ d) && ts.toList.all (fun t => decide (0 ≤ t)) && decide (ts.toList.length = (hi - lo + 1).toNat) && dcd b pc (.tableswitch (d - pc) lo hi (ts.map (fun t => t - (pc : Int)))) (match decode b pc with | .ok (_, n) => n | _ => 0) (pc + (match decode b pc with | .ok (_, n) => n | _ => 0))
  | .lookupswitch d ps => decide (0 ≤ d) && ps.toList.all (fun t => decide (0 ≤ t.2)) && ((ps.map (fun t => (t.1, t.2 - (pc : Int)))).toList.zip ((ps.map (fun t => (t.1, t.2 - (pc : Int)))).toList.drop 1)).all (fun (a, next) => a.1 < next.1) && dcd b pc (.lookupswitch (d - pc) (ps.map (fun t => (t.1, t.2 - (pc : Int))))) (match decode b pc with | .ok (_, n) => n | _ => 0) (pc + (match decode b pc with | .ok (_, n) => n | _ => 0))
  | .getfield n => fldC c n b pc nx .getfield
  | .putfield n => fldC c n b pc nx .putfield
  | .getstatic j => stT.any fun e => e.1 == c && e.2.2.1 == j && dcd b pc (.getstatic e.2.1) 3 nx
  | .ldc j => strT.any fun e => e.1 == c && e.2.2.1 == j && dcd b pc (.ldc e.2.1) 2 nx
  | .new ci => clsC c ci b pc nx 3 .new
  | .anewarray ci => clsC c ci b pc nx 3 .anewarray
  | .multianewarray _ _ => clsC c 100 b pc nx 4 (fun i => .multianewarray i 2)
  | .invokevirtual k' => invC c k' 0 b pc nx .invokevirtual
  | .invokespecial k' => invC c k' 1 b pc nx .invokespecial
  | .invokestatic k' => invC c k' 2 b pc nx .invokestatic
  | .newarray t => dcd b pc (.newarray t) 2 nx
  | .ireturn => dcd b pc .ireturn 1 (pc + 1)
  | .areturn => dcd b pc .areturn 1 (pc + 1)
  | .return_ => dcd b pc .return_ 1 (pc + 1)
  | .nop => true
  | i => dcd b pc i 1 nx
/-- the i-th instruction of a code against the bytes -/
def chkAt (c : Nat) (b : ByteArray) (cd : Cd) (i : Nat) : Bool := match cd.drop i with
  | [] => false
  | [q] => okI c b q.1 q.2 (q.1 + 1000)
  | q :: q2 :: _ => okI c b q.1 q.2 q2.1
def chkP (x : MI) (s n : Nat) : Bool := (List.range n).all fun j => chkAt (miO x) (miB x) (miC x) (s + j)
def chkH (x : MI) : Bool := decide (plainName (miY x).cls = true) && decide (((miC x).head?.map (fun q => q.1)).getD 1 = 0)
def chkM (x : MI) : Prop := (∀ i, i < (miC x).length → chkAt (miO x) (miB x) (miC x) i = true) ∧ chkH x = true
theorem chkM_1 {x : MI} (h : (chkP x 0 (miC x).length && chkH x) = true) : chkM x := by
  rw [Bool.and_eq_true] at h
  refine ⟨fun i hi => ?_, h.2⟩
  have h1 := List.all_eq_true.mp h.1 i (List.mem_range.mpr hi)
  rwa [Nat.zero_add] at h1
theorem chkP_in {x : MI} {s n i : Nat} (h : chkP x s n = true) (h1 : s ≤ i) (h2 : i < s + n) : chkAt (miO x) (miB x) (miC x) i = true := by
  have h3 := List.all_eq_true.mp h (i - s) (List.mem_range.mpr (by omega))
  rwa [show s + (i - s) = i by omega] at h3
