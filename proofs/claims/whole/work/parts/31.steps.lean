-- L2: steps of runs, for the printed theorems; reads and writes with plain guards
theorem big_x : ∃ n : Nat, 200000 ≤ n := ⟨200000, Nat.le_refl _⟩
/-- fuel; its value is hidden, so that nothing reckons with it -/
noncomputable def big : Nat := Classical.choose big_x
theorem big_ge : 200000 ≤ big := Classical.choose_spec big_x
abbrev Tr (_ : Mem) : Prop := True
def Rn (Φ : Mem → Prop) (k : Nat) (c : Cd) (L : LV) (st : List SV) (μ : Mem) (r : Res) : Prop := Runs k c L st μ r ∧ Φ r.2
/-- j steps at once -/
def stps : Nat → Rec → Rec
  | 0, f, k, c, L, st, μ => f k c L st μ
  | _ + 1, _, _, [], _, _, _ => none
  | j + 1, f, k, q :: c, L, st, μ => stp (stps j f) k q.2 c L st μ
theorem run_stps : ∀ (j n k : Nat) (c : Cd) (L : LV) (st : List SV) (μ : Mem), run (n + j) k c L st μ = stps j (run n) k c L st μ
  | 0, _, _, _, _, _, _ => rfl
  | j + 1, n, k, [], L, st, μ => rfl
  | j + 1, n, k, q :: c, L, st, μ => by
    show stp (run (n + j)) k q.2 c L st μ = stp (stps j (run n)) k q.2 c L st μ
    have e : run (n + j) = stps j (run n) := by
      funext k c L st μ
      exact run_stps j n k c L st μ
    rw [e]
theorem N1 {Φ : Mem → Prop} {j k : Nat} {c c' : Cd} {L L' : LV} {st st' : List SV} {μ μ' : Mem} {r : Res} (e : ∀ rec : Rec, stps j rec k c L st μ = rec k c' L' st' μ') (h : Rn Φ k c' L' st' μ' r) : Rn Φ k c L st μ r := by
  refine ⟨?_, h.2⟩
  obtain ⟨N, hN⟩ := h.1
  refine ⟨N + j, fun n hn => ?_⟩
  obtain ⟨m, rfl⟩ : ∃ m, n = m + j := ⟨n - j, by omega⟩
  rw [run_stps, e]
  exact hN m (by omega)
theorem S1 {Φ : Mem → Prop} {k pc : Nat} {i : Instr} {c c' : Cd} {L L' : LV} {st st' : List SV} {μ μ' : Mem} {r : Res} (e : ∀ rec : Rec, stp rec k i c L st μ = rec k c' L' st' μ') (h : Rn Φ k c' L' st' μ' r) : Rn Φ k ((pc, i) :: c) L st μ r := ⟨R1 e h.1, h.2⟩
-- what a function says
theorem bindS {α β : Type} {o : Option α} {f : α → Option β} {r : β} (h : o.bind f = some r) : ∃ x, o = some x ∧ f x = some r := by
  cases o with
  | none => exact absurd h (by simp)
  | some x => exact ⟨x, rfl, h⟩
theorem noneS {α : Type} {r : α} {P : Prop} (h : (none : Option α) = some r) : P := absurd h (by simp)
theorem ifT {α : Type} {p : Prop} {d : Decidable p} {a b r : α} (hp : p) (h : @ite α p d a b = r) : a = r := by rwa [if_pos hp] at h
theorem ifF {α : Type} {p : Prop} {d : Decidable p} {a b r : α} (hp : ¬ p) (h : @ite α p d a b = r) : b = r := by rwa [if_neg hp] at h
theorem ifNone {α : Type} {p : Prop} {d : Decidable p} {b : Option α} {r : α} (h : @ite (Option α) p d none b = some r) : ¬ p ∧ b = some r := by
  by_cases hp : p
  · rw [if_pos hp] at h; exact noneS h
  · rw [if_neg hp] at h; exact ⟨hp, h⟩
theorem ifSome {α : Type} {p : Prop} {d : Decidable p} {a : Option α} {r : α} (h : @ite (Option α) p d a none = some r) : p ∧ a = some r := by
  by_cases hp : p
  · rw [if_pos hp] at h; exact ⟨hp, h⟩
  · rw [if_neg hp] at h; exact noneS h
theorem RE {Φ : Mem → Prop} {k : Nat} {c : Cd} {L : LV} {st : List SV} {μ : Mem} {r : Res} {e x : Int} (h1 : some e = some x) (h : Rn Φ k c L (vI x :: st) μ r) : Rn Φ k c L (vI e :: st) μ r := by cases h1; exact h
theorem REA {Φ : Mem → Prop} {k : Nat} {c : Cd} {L : LV} {st : List SV} {μ : Mem} {r : Res} {e x : Int} (h1 : some e = some x) (h : Rn Φ k c L (vA x :: st) μ r) : Rn Φ k c L (vA e :: st) μ r := by cases h1; exact h
theorem REJ {Φ : Mem → Prop} {k : Nat} {c : Cd} {L : LV} {st : List SV} {μ : Mem} {r : Res} {e x : Int} (h1 : some e = some x) (h : Rn Φ k c L (vJ x :: st) μ r) : Rn Φ k c L (vJ e :: st) μ r := by cases h1; exact h
-- dead places of the row of locals
def noJ (d : Option SV) : Bool := match d with
  | some (.inr (.inl _)) => false
  | _ => true
theorem noL_s {L : LV} {j : Nat} {d : Option SV} (hL : L[j]? = some d) (h : noJ d = true) : noL L (j + 1) = true := by
  show (match L[j]? with | some (some (.inr (.inl _))) => false | _ => true) = true
  rw [hL]
  unfold noJ at h
  split at h
  · exact absurd h (by simp)
  · rename_i x
    split
    · rename_i y e
      exact absurd (Option.some.inj e) (x y)
    · rfl
theorem Ristore {Φ : Mem → Prop} {k pc j : Nat} {c : Cd} {L : LV} {st : List SV} {μ : Mem} {r : Res} {x : Int} {d : Option SV} (hL : L[j]? = some d) (hd : noJ d = true) (hj : j + 1 < L.length) (h : Rn Φ k c (L.set (j + 1) (some (vI x))) st μ r) : Rn Φ k ((pc, .istore (j + 1)) :: c) L (vI x :: st) μ r :=
  S1 (fun _ => if_pos ⟨hj, noL_s hL hd⟩) h
theorem Rastore {Φ : Mem → Prop} {k pc j : Nat} {c : Cd} {L : LV} {st : List SV} {μ : Mem} {r : Res} {x : Int} {d : Option SV} (hL : L[j]? = some d) (hd : noJ d = true) (hj : j + 1 < L.length) (h : Rn Φ k c (L.set (j + 1) (some (vA x))) st μ r) : Rn Φ k ((pc, .astore (j + 1)) :: c) L (vA x :: st) μ r :=
  S1 (fun _ => if_pos ⟨hj, noL_s hL hd⟩) h
theorem Rlstore {Φ : Mem → Prop} {k pc j : Nat} {c : Cd} {L : LV} {st : List SV} {μ : Mem} {r : Res} {x : Int} {d : Option SV} (hL : L[j]? = some d) (hd : noJ d = true) (hj : j + 1 + 1 < L.length) (h : Rn Φ k c ((L.set (j + 1) (some (vJ x))).set (j + 1 + 1) none) st μ r) : Rn Φ k ((pc, .lstore (j + 1)) :: c) L (vJ x :: st) μ r :=
  S1 (fun _ => if_pos ⟨hj, noL_s hL hd⟩) h
theorem Riinc {Φ : Mem → Prop} {k pc j : Nat} {n : Int} {c : Cd} {L : LV} {st : List SV} {μ : Mem} {r : Res} {x : Int} {d : Option SV} (hx : L[j + 1]? = some (some (vI x))) (hL : L[j]? = some d) (hd : noJ d = true) (hj : j + 1 < L.length) (h : Rn Φ k c (L.set (j + 1) (some (vI (jadd x n)))) st μ r) : Rn Φ k ((pc, .iinc (j + 1) n) :: c) L st μ r :=
  S1 (fun rec => by
    show (match L[j + 1]? with
      | some (some (.inl x)) => if j + 1 < L.length ∧ noL L (j + 1) = true then rec k c (L.set (j + 1) (some (vI (jadd x n)))) st μ else none
      | _ => none) = _
    rw [hx]
    exact if_pos ⟨hj, noL_s hL hd⟩) h
theorem Ridiv {Φ : Mem → Prop} {k pc : Nat} {c : Cd} {L : LV} {st : List SV} {μ : Mem} {r : Res} {x y : Int} (hy : ¬ y = 0) (h : Rn Φ k c L (vI (jdiv x y) :: st) μ r) : Rn Φ k ((pc, .idiv) :: c) L (vI y :: vI x :: st) μ r := S1 (fun _ => if_neg hy) h
theorem Rirem {Φ : Mem → Prop} {k pc : Nat} {c : Cd} {L : LV} {st : List SV} {μ : Mem} {r : Res} {x y : Int} (hy : ¬ y = 0) (h : Rn Φ k c L (vI (jrem x y) :: st) μ r) : Rn Φ k ((pc, .irem) :: c) L (vI y :: vI x :: st) μ r := S1 (fun _ => if_neg hy) h
theorem Rldiv {Φ : Mem → Prop} {k pc : Nat} {c : Cd} {L : LV} {st : List SV} {μ : Mem} {r : Res} {x y : Int} (hy : ¬ y = 0) (h : Rn Φ k c L (vJ (qdiv x y) :: st) μ r) : Rn Φ k ((pc, .ldiv) :: c) L (vJ y :: vJ x :: st) μ r := S1 (fun _ => if_neg hy) h
theorem Rlrem {Φ : Mem → Prop} {k pc : Nat} {c : Cd} {L : LV} {st : List SV} {μ : Mem} {r : Res} {x y : Int} (hy : ¬ y = 0) (h : Rn Φ k c L (vJ (qrem x y) :: st) μ r) : Rn Φ k ((pc, .lrem) :: c) L (vJ y :: vJ x :: st) μ r := S1 (fun _ => if_neg hy) h
-- jumps
theorem Rgo {Φ : Mem → Prop} {k pc : Nat} {t : Int} {c cj : Cd} {L : LV} {st : List SV} {μ : Mem} {r : Res} (hj : jmp k t = cj) (h : Rn Φ k cj L st μ r) : Rn Φ k ((pc, .goto t) :: c) L st μ r := S1 (fun _ => rfl) (hj ▸ h)
theorem Rit {Φ : Mem → Prop} {k pc : Nat} {t : Int} {cc : Jvm.ClassFile.Cond} {c cj : Cd} {L : LV} {st : List SV} {μ : Mem} {r : Res} {x y : Int} (hc : cmpB cc x y = true) (hj : jmp k t = cj) (h : Rn Φ k cj L st μ r) : Rn Φ k ((pc, .if_icmp cc t) :: c) L (vI y :: vI x :: st) μ r := S1 (fun _ => if_pos hc) (hj ▸ h)
theorem Rif {Φ : Mem → Prop} {k pc : Nat} {t : Int} {cc : Jvm.ClassFile.Cond} {c : Cd} {L : LV} {st : List SV} {μ : Mem} {r : Res} {x y : Int} (hc : ¬ cmpB cc x y = true) (h : Rn Φ k c L st μ r) : Rn Φ k ((pc, .if_icmp cc t) :: c) L (vI y :: vI x :: st) μ r := S1 (fun _ => if_neg hc) h
theorem Rzt {Φ : Mem → Prop} {k pc : Nat} {t : Int} {cc : Jvm.ClassFile.Cond} {c cj : Cd} {L : LV} {st : List SV} {μ : Mem} {r : Res} {x : Int} (hc : cmpB cc x 0 = true) (hj : jmp k t = cj) (h : Rn Φ k cj L st μ r) : Rn Φ k ((pc, .ifCond cc t) :: c) L (vI x :: st) μ r := S1 (fun _ => if_pos hc) (hj ▸ h)
theorem Rzf {Φ : Mem → Prop} {k pc : Nat} {t : Int} {cc : Jvm.ClassFile.Cond} {c : Cd} {L : LV} {st : List SV} {μ : Mem} {r : Res} {x : Int} (hc : ¬ cmpB cc x 0 = true) (h : Rn Φ k c L st μ r) : Rn Φ k ((pc, .ifCond cc t) :: c) L (vI x :: st) μ r := S1 (fun _ => if_neg hc) h
theorem Rnt {Φ : Mem → Prop} {k pc : Nat} {t : Int} {c cj : Cd} {L : LV} {st : List SV} {μ : Mem} {r : Res} {o : Int} (hc : o = 0) (hj : jmp k t = cj) (h : Rn Φ k cj L st μ r) : Rn Φ k ((pc, .ifnull t) :: c) L (vA o :: st) μ r := S1 (fun _ => if_pos hc) (hj ▸ h)
theorem Rnf {Φ : Mem → Prop} {k pc : Nat} {t : Int} {c : Cd} {L : LV} {st : List SV} {μ : Mem} {r : Res} {o : Int} (hc : ¬ o = 0) (h : Rn Φ k c L st μ r) : Rn Φ k ((pc, .ifnull t) :: c) L (vA o :: st) μ r := S1 (fun _ => if_neg hc) h
theorem Rmt {Φ : Mem → Prop} {k pc : Nat} {t : Int} {c cj : Cd} {L : LV} {st : List SV} {μ : Mem} {r : Res} {o : Int} (hc : o ≠ 0) (hj : jmp k t = cj) (h : Rn Φ k cj L st μ r) : Rn Φ k ((pc, .ifnonnull t) :: c) L (vA o :: st) μ r := S1 (fun _ => if_neg hc) (hj ▸ h)
theorem Rmf {Φ : Mem → Prop} {k pc : Nat} {t : Int} {c : Cd} {L : LV} {st : List SV} {μ : Mem} {r : Res} {o : Int} (hc : ¬ o ≠ 0) (h : Rn Φ k c L st μ r) : Rn Φ k ((pc, .ifnonnull t) :: c) L (vA o :: st) μ r := S1 (fun _ => if_pos (Classical.byContradiction hc)) h
theorem cmpeq {x y : Int} (h : x = y) : cmpB .eq x y = true := decide_eq_true h
theorem cmpne {x y : Int} (h : x ≠ y) : cmpB .ne x y = true := decide_eq_true h
theorem cmplt {x y : Int} (h : x < y) : cmpB .lt x y = true := decide_eq_true h
theorem cmpge {x y : Int} (h : y ≤ x) : cmpB .ge x y = true := decide_eq_true h
theorem cmpgt {x y : Int} (h : y < x) : cmpB .gt x y = true := decide_eq_true h
theorem cmple {x y : Int} (h : x ≤ y) : cmpB .le x y = true := decide_eq_true h
theorem cmneq {x y : Int} (h : ¬ x = y) : ¬ cmpB .eq x y = true := fun e => h (of_decide_eq_true e)
theorem cmnne {x y : Int} (h : ¬ x ≠ y) : ¬ cmpB .ne x y = true := fun e => h (of_decide_eq_true e)
theorem cmnlt {x y : Int} (h : ¬ x < y) : ¬ cmpB .lt x y = true := fun e => h (of_decide_eq_true e)
theorem cmnge {x y : Int} (h : ¬ y ≤ x) : ¬ cmpB .ge x y = true := fun e => h (of_decide_eq_true e)
theorem cmngt {x y : Int} (h : ¬ y < x) : ¬ cmpB .gt x y = true := fun e => h (of_decide_eq_true e)
theorem cmnle {x y : Int} (h : ¬ x ≤ y) : ¬ cmpB .le x y = true := fun e => h (of_decide_eq_true e)
theorem Rsw {Φ : Mem → Prop} {k pc : Nat} {i : Instr} {t v x : Int} {c cj : Cd} {L : LV} {st : List SV} {μ : Mem} {r : Res} (hx : x = v) (e : ∀ rec : Rec, stp rec k i c L (vI v :: st) μ = rec k (jmp k t) L st μ) (hj : jmp k t = cj) (h : Rn Φ k cj L st μ r) : Rn Φ k ((pc, i) :: c) L (vI x :: st) μ r := by
  cases hx
  exact S1 e (hj ▸ h)
theorem Rswt {Φ : Mem → Prop} {k pc : Nat} {d lo hi x : Int} {ts : Array Int} {c cj : Cd} {L : LV} {st : List SV} {μ : Mem} {r : Res} (hx : ¬ (lo ≤ x ∧ x ≤ hi)) (hj : jmp k d = cj) (h : Rn Φ k cj L st μ r) : Rn Φ k ((pc, .tableswitch d lo hi ts) :: c) L (vI x :: st) μ r := S1 (fun _ => if_neg hx) (hj ▸ h)
theorem Rswl {Φ : Mem → Prop} {k pc : Nat} {d x : Int} {ps : Array (Int × Int)} {c cj : Cd} {L : LV} {st : List SV} {μ : Mem} {r : Res} (hx : ps.toList.find? (fun q => q.1 == x) = none) (hj : jmp k d = cj) (h : Rn Φ k cj L st μ r) : Rn Φ k ((pc, .lookupswitch d ps) :: c) L (vI x :: st) μ r := by
  refine S1 (fun rec => ?_) (hj ▸ h)
  show rec k (jmp k (((ps.toList.find? (fun q => q.1 == x)).map (fun q => q.2)).getD d)) L st μ = _
  rw [hx]
  rfl
-- reads
def aI (μ : Mem) (o n i : Int) : Option Int := if 0 ≤ i ∧ i < n then some (μ o i) else none
def sI (μ : Mem) (o n i v : Int) : Option Mem := if 0 ≤ i ∧ i < n then some (wr μ o i v) else none
def ar (b n s i : Int) : Option Int := if 0 ≤ i ∧ i < n then some (b + s * i) else none
def gO (μ : Mem) (c : Nat) (d o : Int) : Option Int := if kd o = c ∧ 0 < o ∧ o ≤ μ 0 0 then some (o + d) else none
def r2 (μ : Mem) (a i : Int) : Option Int := if kd a = 110 ∧ 0 < a ∧ a ≤ μ 0 0 ∧ 0 ≤ i ∧ i < ln a then some (a + 1 + i) else none
def rR (μ : Mem) (a i : Int) : Option Int := if kd a = 125 ∧ 0 < a ∧ a ≤ μ 0 0 ∧ 0 ≤ i ∧ i < ln a then some (if ln a = 13 then a + 48 + 2 * i else a + 42 + 2 * i) else none
def pz (μ : Mem) (o f v : Int) : Option Mem := if v = 0 ∨ v = 1 then some (wr μ o f v) else none
def nwA (μ : Mem) (k : Nat) (n : Int) : Option Mem := if n ≤ 200000 then nw μ k n else none
def mxI (x y : Int) : Int := if x < y then y else x
def mnI (x y : Int) : Int := if y < x then y else x
def abI (x : Int) : Int := if 0 ≤ x then x else jsub 0 x
theorem aI_c {μ : Mem} {o n i : Int} (h : decide (0 ≤ i ∧ i < n) = true) : aI μ o n i = some (μ o i) := if_pos (of_decide_eq_true h)
theorem gf_c {μ : Mem} {c : Nat} {f o : Int} (h : kd o = c) : gf μ c f o = some (μ o f) := if_pos h
theorem gf_v {μ : Mem} {c : Nat} {f o v : Int} (h : kd o = c) (hv : μ o f = v) : gf μ c f o = some v := by rw [gf_c h, hv]
theorem RgI {Φ : Mem → Prop} {k pc n : Nat} {c : Cd} {L : LV} {st : List SV} {μ : Mem} {r : Res} {o x : Int} (hn : (n % 8 == 1) = false) (hx : gf μ (n / 512) ((n / 8 % 64 : Nat) : Int) o = some x) (h : Rn Φ k c L (vI x :: st) μ r) : Rn Φ k ((pc, .getfield n) :: c) L (vA o :: st) μ r := by
  refine S1 (fun rec => ?_) h
  show (gf μ (n / 512) ((n / 8 % 64 : Nat) : Int) o).bind (fun x => rec k c L ((if n % 8 = 1 then vA x else vI x) :: st) μ) = _
  rw [hx, Option.bind_some, if_neg (by simpa using hn)]
theorem RgA {Φ : Mem → Prop} {k pc n : Nat} {c : Cd} {L : LV} {st : List SV} {μ : Mem} {r : Res} {o x : Int} (hn : (n % 8 == 1) = true) (hx : gf μ (n / 512) ((n / 8 % 64 : Nat) : Int) o = some x) (h : Rn Φ k c L (vA x :: st) μ r) : Rn Φ k ((pc, .getfield n) :: c) L (vA o :: st) μ r := by
  refine S1 (fun rec => ?_) h
  show (gf μ (n / 512) ((n / 8 % 64 : Nat) : Int) o).bind (fun x => rec k c L ((if n % 8 = 1 then vA x else vI x) :: st) μ) = _
  rw [hx, Option.bind_some, if_pos (by simpa using hn)]
theorem RpI {Φ : Mem → Prop} {k pc n : Nat} {c : Cd} {L : LV} {st : List SV} {μ m : Mem} {r : Res} {o x : Int} (hn : (n % 8 == 1) = false) (hx : pf μ (n / 512) ((n / 8 % 64 : Nat) : Int) (n % 8) o x = some m) (h : Rn Φ k c L st m r) : Rn Φ k ((pc, .putfield n) :: c) L (vI x :: vA o :: st) μ r := by
  refine S1 (fun rec => ?_) h
  show (if n % 8 = 1 then none else (pf μ (n / 512) ((n / 8 % 64 : Nat) : Int) (n % 8) o x).bind fun μ => rec k c L st μ) = _
  rw [if_neg (by simpa using hn), hx, Option.bind_some]
theorem RpA {Φ : Mem → Prop} {k pc n : Nat} {c : Cd} {L : LV} {st : List SV} {μ m : Mem} {r : Res} {o x : Int} (hn : (n % 8 == 1) = true) (hx : pf μ (n / 512) ((n / 8 % 64 : Nat) : Int) 1 o x = some m) (h : Rn Φ k c L st m r) : Rn Φ k ((pc, .putfield n) :: c) L (vA x :: vA o :: st) μ r := by
  refine S1 (fun rec => ?_) h
  show (if n % 8 = 1 then (pf μ (n / 512) ((n / 8 % 64 : Nat) : Int) 1 o x).bind (fun μ => rec k c L st μ) else none) = _
  rw [if_pos (by simpa using hn), hx, Option.bind_some]
theorem pf_0 {μ m : Mem} {c : Nat} {f o v : Int} (h : kd o = c) (ho : 0 < o) (hx : some (wr μ o f v) = some m) : pf μ c f 0 o v = some m := by
  rw [← hx]; exact if_pos ⟨h, ho, fun e => absurd e (by decide), fun e => absurd e (by decide)⟩
theorem pf_1 {μ m : Mem} {c : Nat} {f o v : Int} (h : kd o = c) (ho : 0 < o) (hx : some (wr μ o f v) = some m) : pf μ c f 1 o v = some m := by
  rw [← hx]; exact if_pos ⟨h, ho, fun e => absurd e (by decide), fun e => absurd e (by decide)⟩
theorem pf_z {μ m : Mem} {c : Nat} {f o v : Int} (h : kd o = c) (ho : 0 < o) (hx : pz μ o f v = some m) : pf μ c f 2 o v = some m := by
  obtain ⟨hv, hx⟩ := ifSome hx
  rw [← hx]; exact if_pos ⟨h, ho, fun _ => hv, fun e => absurd e (by decide)⟩
theorem pf_2 {μ m : Mem} {c : Nat} {f o v : Int} (h : kd o = c) (ho : 0 < o) (hv : decide (v = 0 ∨ v = 1) = true) (hx : some (wr μ o f v) = some m) : pf μ c f 2 o v = some m := by
  rw [← hx]; exact if_pos ⟨h, ho, fun _ => of_decide_eq_true hv, fun e => absurd e (by decide)⟩
theorem RaI {Φ : Mem → Prop} {k pc : Nat} {c : Cd} {L : LV} {st : List SV} {μ : Mem} {r : Res} {o i x : Int} (hx : rdI μ o i = some x) (h : Rn Φ k c L (vI x :: st) μ r) : Rn Φ k ((pc, .iaload) :: c) L (vI i :: vA o :: st) μ r := S1 (fun rec => by show (rdI μ o i).bind _ = _; rw [hx]; rfl) h
theorem RaB {Φ : Mem → Prop} {k pc : Nat} {c : Cd} {L : LV} {st : List SV} {μ : Mem} {r : Res} {o i x : Int} (hx : rdB μ o i = some x) (h : Rn Φ k c L (vI x :: st) μ r) : Rn Φ k ((pc, .baload) :: c) L (vI i :: vA o :: st) μ r := S1 (fun rec => by show (rdB μ o i).bind _ = _; rw [hx]; rfl) h
theorem RaC {Φ : Mem → Prop} {k pc : Nat} {c : Cd} {L : LV} {st : List SV} {μ : Mem} {r : Res} {o i x : Int} (hx : rdC μ o i = some x) (h : Rn Φ k c L (vI x :: st) μ r) : Rn Φ k ((pc, .caload) :: c) L (vI i :: vA o :: st) μ r := S1 (fun rec => by show (rdC μ o i).bind _ = _; rw [hx]; rfl) h
theorem RaJ {Φ : Mem → Prop} {k pc : Nat} {c : Cd} {L : LV} {st : List SV} {μ : Mem} {r : Res} {o i x : Int} (hx : rdJ μ o i = some x) (h : Rn Φ k c L (vJ x :: st) μ r) : Rn Φ k ((pc, .laload) :: c) L (vI i :: vA o :: st) μ r := S1 (fun rec => by show (rdJ μ o i).bind _ = _; rw [hx]; rfl) h
theorem RaA {Φ : Mem → Prop} {k pc : Nat} {c : Cd} {L : LV} {st : List SV} {μ : Mem} {r : Res} {o i x : Int} (hx : rdA μ o i = some x) (h : Rn Φ k c L (vA x :: st) μ r) : Rn Φ k ((pc, .aaload) :: c) L (vI i :: vA o :: st) μ r := S1 (fun rec => by show (rdA μ o i).bind _ = _; rw [hx]; rfl) h
theorem RsI {Φ : Mem → Prop} {k pc : Nat} {c : Cd} {L : LV} {st : List SV} {μ m : Mem} {r : Res} {o i x : Int} (hx : wI μ o i x = some m) (h : Rn Φ k c L st m r) : Rn Φ k ((pc, .iastore) :: c) L (vI x :: vI i :: vA o :: st) μ r := S1 (fun rec => by show (wI μ o i x).bind _ = _; rw [hx]; rfl) h
theorem RsB {Φ : Mem → Prop} {k pc : Nat} {c : Cd} {L : LV} {st : List SV} {μ m : Mem} {r : Res} {o i x : Int} (hx : wB μ o i x = some m) (h : Rn Φ k c L st m r) : Rn Φ k ((pc, .bastore) :: c) L (vI x :: vI i :: vA o :: st) μ r := S1 (fun rec => by show (wB μ o i x).bind _ = _; rw [hx]; rfl) h
theorem RsC {Φ : Mem → Prop} {k pc : Nat} {c : Cd} {L : LV} {st : List SV} {μ m : Mem} {r : Res} {o i x : Int} (hx : wC μ o i x = some m) (h : Rn Φ k c L st m r) : Rn Φ k ((pc, .castore) :: c) L (vI x :: vI i :: vA o :: st) μ r := S1 (fun rec => by show (wC μ o i x).bind _ = _; rw [hx]; rfl) h
theorem RsJ {Φ : Mem → Prop} {k pc : Nat} {c : Cd} {L : LV} {st : List SV} {μ m : Mem} {r : Res} {o i x : Int} (hx : wJ μ o i x = some m) (h : Rn Φ k c L st m r) : Rn Φ k ((pc, .lastore) :: c) L (vJ x :: vI i :: vA o :: st) μ r := S1 (fun rec => by show (wJ μ o i x).bind _ = _; rw [hx]; rfl) h
theorem RsA {Φ : Mem → Prop} {k pc : Nat} {c : Cd} {L : LV} {st : List SV} {μ m : Mem} {r : Res} {o i x : Int} (hx : wA μ o i x = some m) (h : Rn Φ k c L st m r) : Rn Φ k ((pc, .aastore) :: c) L (vA x :: vI i :: vA o :: st) μ r := S1 (fun rec => by show (wA μ o i x).bind _ = _; rw [hx]; rfl) h
theorem RaL {Φ : Mem → Prop} {k pc : Nat} {c : Cd} {L : LV} {st : List SV} {μ : Mem} {r : Res} {o x : Int} (hx : aln μ o = some x) (h : Rn Φ k c L (vI x :: st) μ r) : Rn Φ k ((pc, .arraylength) :: c) L (vA o :: st) μ r := S1 (fun rec => by show (aln μ o).bind _ = _; rw [hx]; rfl) h
theorem Rnew {Φ : Mem → Prop} {k pc ci : Nat} {n : Int} {c : Cd} {L : LV} {st : List SV} {μ m : Mem} {r : Res} (hn : (((cls.getD ci ("", F_0, 0)).2.2 : Nat) : Int) = n) (hx : nw μ ci n = some m) (h : Rn Φ k c L (vA (μ 0 0 + 1) :: st) m r) : Rn Φ k ((pc, .new ci) :: c) L st μ r := S1 (fun rec => by show (nw μ ci (((cls.getD ci ("", F_0, 0)).2.2 : Nat) : Int)).bind _ = _; rw [hn, hx]; rfl) h
def akd (t : Jvm.ClassFile.ArrayType) : Nat := match t with | .int => 100 | .byte => 101 | .boolean => 102 | .char => 103 | .long => 104 | _ => 998
theorem Rnewa {Φ : Mem → Prop} {k pc K : Nat} {t : Jvm.ClassFile.ArrayType} {n : Int} {c : Cd} {L : LV} {st : List SV} {μ m : Mem} {r : Res} (ht : akd t = K) (hx : nwA μ K n = some m) (h : Rn Φ k c L (vA (μ 0 0 + 1) :: st) m r) : Rn Φ k ((pc, .newarray t) :: c) L (vI n :: st) μ r := by
  obtain ⟨hn, hx⟩ := ifSome hx
  refine S1 (fun rec => ?_) h
  show (if n ≤ 200000 then (nw μ (akd t) n).bind (fun μ1 => rec k c L (vA (μ 0 0 + 1) :: st) μ1) else none) = _
  rw [if_pos hn, ht, hx]; rfl
theorem Rnewr {Φ : Mem → Prop} {k pc ci : Nat} {n : Int} {c : Cd} {L : LV} {st : List SV} {μ m : Mem} {r : Res} (hx : nwA μ (120 + ci) n = some m) (h : Rn Φ k c L (vA (μ 0 0 + 1) :: st) m r) : Rn Φ k ((pc, .anewarray ci) :: c) L (vI n :: st) μ r := by
  obtain ⟨hn, hx⟩ := ifSome hx
  refine S1 (fun rec => ?_) h
  show (if n ≤ 200000 then (nw μ (120 + ci) n).bind _ else none) = _
  rw [if_pos hn, hx]; rfl
theorem Rnew2 {Φ : Mem → Prop} {k pc a b : Nat} {n q : Int} {c : Cd} {L : LV} {st : List SV} {μ m : Mem} {r : Res} (hx : nw2 μ n q = some m) (h : Rn Φ k c L (vA (μ 0 0 + 1) :: st) m r) : Rn Φ k ((pc, .multianewarray a b) :: c) L (vI q :: vI n :: st) μ r := S1 (fun rec => by show (nw2 μ n q).bind _ = _; rw [hx]; rfl) h
-- calls
theorem clE {st : List SV} (h : Nat.ble (cats st) 8 = true) : cats st ≤ 8 := Nat.le_of_ble_eq_true h
theorem rcE {o : Int} {v : Nat} (h : kd o = v) (ho : decide (o ≠ 0) = true) : o ≠ 0 ∧ kd o = v := ⟨of_decide_eq_true ho, h⟩
theorem ci_virtual {k k' : Nat} {c : Cd} {L : LV} {st : List SV} {μ : Mem} (rec : Rec) : stp rec k (.invokevirtual k') c L st μ = callK rec k' k c L st μ := rfl
theorem ci_special {k k' : Nat} {c : Cd} {L : LV} {st : List SV} {μ : Mem} (hk : Nat.blt k' 1000 = true) (rec : Rec) : stp rec k (.invokespecial k') c L st μ = callK rec k' k c L st μ := if_pos (Nat.le_of_ble_eq_true hk)
theorem ci_static {k k' : Nat} {c : Cd} {L : LV} {st : List SV} {μ : Mem} (hk : Nat.blt k' 1000 = true) (rec : Rec) : stp rec k (.invokestatic k') c L st μ = callK rec k' k c L st μ := if_pos (Nat.le_of_ble_eq_true hk)
/-- a call of a method whose facts are known -/
theorem CC {Φ : Mem → Prop} {k k' pc : Nat} {i : Instr} {c : Cd} {L : LV} {vs st : List SV} {μ : Mem} {r1 r : Res} {m : MI} (hm : mi k' = m) (e : ∀ rec : Rec, stp rec k i c L (vs.reverse ++ st) μ = callK rec k' k c L (vs.reverse ++ st) μ) (hn : vs.length = miN m) (hc : cats st ≤ 8) (hv : rcvOK (miV m) vs = true) (hl : Nat.ble (entL vs).length (miL m) = true) (h1 : RunM k' vs μ r1) (h : Rn Φ k c L (r1.1.toList ++ st) r1.2 r) : Rn Φ k ((pc, i) :: c) L (vs.reverse ++ st) μ r :=
  ⟨RC e (hm ▸ hn) hc (hm ▸ hv) (hm ▸ Nat.le_of_ble_eq_true hl) h1 h.1, h.2⟩
theorem Rmax {Φ : Mem → Prop} {k pc : Nat} {c : Cd} {L : LV} {st : List SV} {μ : Mem} {r : Res} {x y : Int} (hc : cats st ≤ 8) (h : Rn Φ k c L (vI (mxI x y) :: st) μ r) : Rn Φ k ((pc, .invokestatic 1000) :: c) L (vI y :: vI x :: st) μ r := S1 (fun _ => if_pos hc) h
theorem Rmin {Φ : Mem → Prop} {k pc : Nat} {c : Cd} {L : LV} {st : List SV} {μ : Mem} {r : Res} {x y : Int} (hc : cats st ≤ 8) (h : Rn Φ k c L (vI (mnI x y) :: st) μ r) : Rn Φ k ((pc, .invokestatic 1001) :: c) L (vI y :: vI x :: st) μ r := S1 (fun _ => if_pos hc) h
theorem Rabs {Φ : Mem → Prop} {k pc : Nat} {c : Cd} {L : LV} {st : List SV} {μ : Mem} {r : Res} {x : Int} (hc : cats st ≤ 8) (h : Rn Φ k c L (vI (abI x) :: st) μ r) : Rn Φ k ((pc, .invokestatic 1002) :: c) L (vI x :: st) μ r := S1 (fun _ => if_pos hc) h
theorem Rcp {Φ : Mem → Prop} {k pc : Nat} {c : Cd} {L : LV} {st : List SV} {μ m : Mem} {r : Res} {s sp d dp n : Int} (hc : cats st ≤ 8) (hx : cpA μ s sp d dp n = some m) (h : Rn Φ k c L st m r) : Rn Φ k ((pc, .invokestatic 1003) :: c) L (vI n :: vI dp :: vA d :: vI sp :: vA s :: st) μ r := S1 (fun rec => by
  show (if cats st ≤ 8 then (cpA μ s sp d dp n).bind fun μ => rec k c L st μ else none) = _
  rw [if_pos hc, hx]; rfl) h
theorem Robj {Φ : Mem → Prop} {k pc : Nat} {c : Cd} {L : LV} {st : List SV} {μ : Mem} {r : Res} {o : Int} (hc : cats st ≤ 8) (ho : o ≠ 0) (h : Rn Φ k c L st μ r) : Rn Φ k ((pc, .invokespecial 1004) :: c) L (vA o :: st) μ r := S1 (fun _ => if_pos ⟨hc, ho⟩) h
-- ends
theorem rokz {x : Int} (h : x = 0 ∨ x = 1) : rok 2 x = true := decide_eq_true h
theorem Rri {Φ : Mem → Prop} {k pc : Nat} {t : Nat} {c : Cd} {L : LV} {μ : Mem} {x : Int} (ht : miT (mi k) = t) (hr : rok t x = true) (hF : Φ μ) : Rn Φ k ((pc, .ireturn) :: c) L [vI x] μ (some (vI x), μ) := ⟨R0 (fun _ => if_pos (ht ▸ hr)), hF⟩
theorem Rra {Φ : Mem → Prop} {k pc : Nat} {c : Cd} {L : LV} {μ : Mem} {x : Int} (ht : miT (mi k) = 5) (hF : Φ μ) : Rn Φ k ((pc, .areturn) :: c) L [vA x] μ (some (vA x), μ) := ⟨R0 (fun _ => if_pos ht), hF⟩
theorem Rrv {Φ : Mem → Prop} {k pc : Nat} {c : Cd} {L : LV} {μ : Mem} (ht : miT (mi k) = 0) (hF : Φ μ) : Rn Φ k ((pc, .return_) :: c) L [] μ (none, μ) := ⟨R0 (fun _ => if_pos ht), hF⟩
theorem beqF {x v : Int} (h : ¬ x = v) : (v == x) = false := by
  rw [beq_eq_false_iff_ne]
  exact fun e => h e.symm
theorem RMm {Φ : Mem → Prop} {k : Nat} {m : MI} {c : Cd} {L : LV} {vs : List SV} {μ : Mem} {r : Res} (hm : mi k = m) (hc : miC m = c) (hL : padL (miL m) (entL vs) = L) (h : Rn Φ k c L [] μ r) : RunM k vs μ r ∧ Φ r.2 := by
  refine ⟨?_, h.2⟩
  have e1 : codeOf k = c := by unfold codeOf; rw [hm, hc]
  show Runs k (codeOf k) (padL (miL (mi k)) (entL vs)) [] μ r
  rw [e1, hm, hL]
  exact h.1
-- objects that the class's methods never write
def uB (o : Int) : Bool := decide (o < 0) || (decide (231 ≤ o) && decide (o ≤ 240)) || (decide (259 ≤ o) && decide (o ≤ 280))
def wD (μ : Mem) (x i v : Int) : Option Mem := if uB x = false then wI μ x i v else none
def cD (μ : Mem) (s sp d dp n : Int) : Option Mem := if uB d = false then cpA μ s sp d dp n else none
theorem wD_1 {μ m : Mem} {x i v : Int} (h : wD μ x i v = some m) : wI μ x i v = some m := (ifSome h).2
theorem cD_1 {μ m : Mem} {s sp d dp n : Int} (h : cD μ s sp d dp n = some m) : cpA μ s sp d dp n = some m := (ifSome h).2
