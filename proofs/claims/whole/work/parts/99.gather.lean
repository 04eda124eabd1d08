-- L3: enter: a set's units gathered by both
def thruP (g : Int → Int) (more a st : Int) (r : RW) (k : Nat) : RW := itr (fun i r => if g (6 * (a + st * i)) < 0 then r else putP r (a + st * i) more) r k
def grpP (g : Int → Int) (more k : Int) (r : RW) (n : Nat) : RW := itr (fun i r => putP r (g (241 + 41 * k + i)) more) r n
def moreT (tm : Q4) : Int := if tm.1 = 71 then 1 else 0
def dirT (tm : Q4) : Int := if tm.2.2.1 ≤ tm.2.2.2 then 1 else -1
def lenT (tm : Q4) : Nat := (if tm.2.2.1 ≤ tm.2.2.2 then tm.2.2.2 - tm.2.2.1 + 1 else tm.2.2.1 - tm.2.2.2 + 1).toNat
def termP (g : Int → Int) (r : RW) (tm : Q4) : RW := if tm.2.1 = 0 then thruP g (moreT tm) 0 1 r 40 else if tm.2.1 = 1 then grpP g (moreT tm) (tm.2.2.1 - 1) r (g (240 + 41 * (tm.2.2.1 - 1))).toNat else if tm.2.1 = 2 then putP r (tm.2.2.1 - 1) (moreT tm) else thruP g (moreT tm) (tm.2.2.1 - 1) (dirT tm) r (lenT tm)
def gathP (g : Int → Int) (r : RW) (L : List Q4) : RW := L.foldl (termP g) r
def TOK (tm : Q4) : Prop := tm.2.1 = 0 ∨ (tm.2.1 = 1 ∧ 1 ≤ tm.2.2.1 ∧ tm.2.2.1 ≤ 12) ∨ (tm.2.1 = 2 ∧ 1 ≤ tm.2.2.1 ∧ tm.2.2.1 ≤ 40) ∨ (tm.2.1 = 3 ∧ 1 ≤ tm.2.2.1 ∧ tm.2.2.1 ≤ 40 ∧ 1 ≤ tm.2.2.2 ∧ tm.2.2.2 ≤ 40)
theorem thru_k {g : Int → Int} {more a st : Int} {r : RW} {K : Nat} (hr : ∀ i : Int, 0 ≤ i → i < K → 0 ≤ a + st * i ∧ a + st * i < 40) (h : ROK r) : ∀ k : Nat, k ≤ K → ROK (thruP g more a st r k) := by
  intro k
  induction k with
  | zero => intro _; exact h
  | succ k ih =>
    intro hk
    have h1 := ih (by omega)
    have h2 := hr k (by omega) (by omega)
    show ROK (if g (6 * (a + st * (k : Int))) < 0 then thruP g more a st r k else putP (thruP g more a st r k) (a + st * (k : Int)) more)
    split
    · exact h1
    · exact putP_k h1 h2.1 h2.2
theorem grp_k {g : Int → Int} {more k : Int} {r : RW} {K : Nat} (hr : ∀ i : Int, 0 ≤ i → i < K → 0 ≤ g (241 + 41 * k + i) ∧ g (241 + 41 * k + i) < 40) (h : ROK r) : ∀ n : Nat, n ≤ K → ROK (grpP g more k r n) := by
  intro n
  induction n with
  | zero => intro _; exact h
  | succ n ih =>
    intro hn
    have h2 := hr n (by omega) (by omega)
    exact putP_k (ih (by omega)) h2.1 h2.2
theorem len_r {tm : Q4} (h : tm.2.1 = 3 ∧ 1 ≤ tm.2.2.1 ∧ tm.2.2.1 ≤ 40 ∧ 1 ≤ tm.2.2.2 ∧ tm.2.2.2 ≤ 40) : (∀ i : Int, 0 ≤ i → i < lenT tm → 0 ≤ tm.2.2.1 - 1 + dirT tm * i ∧ tm.2.2.1 - 1 + dirT tm * i < 40) ∧ 1 ≤ lenT tm ∧ lenT tm ≤ 40 := by
  unfold lenT dirT
  by_cases z : tm.2.2.1 ≤ tm.2.2.2
  · rw [if_pos z, if_pos z]
    refine ⟨fun i i0 i1 => ?_, by omega, by omega⟩
    omega
  · rw [if_neg z, if_neg z]
    refine ⟨fun i i0 i1 => ?_, by omega, by omega⟩
    omega
theorem termP_k {g : Int → Int} (hw : WF g) {r : RW} {tm : Q4} (h : ROK r) (ht : TOK tm) : ROK (termP g r tm) := by
  unfold termP
  rcases ht with z | z | z | z
  · rw [if_pos z]
    exact thru_k (K := 40) (fun i i0 i1 => by omega) h 40 (by omega)
  · rw [if_neg (by omega), if_pos z.1]
    obtain ⟨w1, w2, w3, _⟩ := hw.g (tm.2.2.1 - 1) (by omega) (by omega)
    exact grp_k (K := (g (240 + 41 * (tm.2.2.1 - 1))).toNat) (fun i i0 i1 => w3 i i0 (by omega)) h _ (Nat.le_refl _)
  · rw [if_neg (by omega), if_neg (by omega), if_pos z.1]
    exact putP_k h (by omega) (by omega)
  · rw [if_neg (by omega), if_neg (by omega), if_neg (by omega)]
    exact thru_k (K := lenT tm) (len_r z).1 h _ (Nat.le_refl _)
/-- the class's memory but for the statement's units -/
def GF (cB c : Mem) : Prop := (∀ p, ¬ p = 248 → ¬ p = 249 → c p = cB p) ∧ (∀ f, ¬ f = 1 → c 248 f = cB 248 f)
theorem GF_s {cB c : Mem} {g : Int → Int} (h : GF cB c) (hs : SR cB 3 g) (hO : 280 ≤ cB 0 0) : SR c 3 g ∧ 280 ≤ c 0 0 := by
  refine ⟨SR_congr hs (fun o a b => h.1 o (by omega) (by omega)), ?_⟩
  rw [h.1 0 (by decide) (by decide)]; exact hO
theorem gU_g {cB c : Mem} {g : Int → Int} {r : RW} {u more : Int} (hG : GF cB c) (hs : SR cB 3 g) (hO : 280 ≤ cB 0 0) (h : ROK r) (hc : CR c 248 r) (u0 : 0 ≤ u) (u1 : u < 40) : ∃ c', Ch_gatherUnit c more (u + 1) = some c' ∧ CR c' 248 (putP r u more) ∧ GF cB c' := by
  obtain ⟨c', e1, e2, e3, e4⟩ := gU_c (more := more) (GF_s hG hs hO).2 h hc u0 u1
  exact ⟨c', e1, e2, fun p a b => by rw [e3 p a b, hG.1 p a b], fun f a => by rw [e4 f a, hG.2 f a]⟩
theorem thru_c {cB : Mem} {g : Int → Int} {more a st : Int} {r : RW} {K : Nat} (hs : SR cB 3 g) (hw : WF g) (hO : 280 ≤ cB 0 0) (hK : K ≤ 40) (a0 : 0 ≤ a) (a1 : a < 40) (hst : st = 1 ∨ st = -1) (hr : ∀ i : Int, 0 ≤ i → i < K → 0 ≤ a + st * i ∧ a + st * i < 40) (h : ROK r) : ∀ (d N i : Nat) (c : Mem), i + d = K → d < N → GF cB c → CR c 248 (thruP g more a st r i) → ∃ c', Ch_gatherThru_25 more (a + 1) st ((K : Int) - 1) N c i = some c' ∧ GF cB c' ∧ CR c' 248 (thruP g more a st r K) := by
  intro d
  induction d with
  | zero =>
    intro N i c e hN hG hC
    obtain ⟨N, rfl⟩ : ∃ j, N = j + 1 := ⟨N - 1, by omega⟩
    have : i = K := by omega
    subst this
    rw [Ch_gatherThru_25, if_pos (by omega)]
    exact ⟨c, rfl, hG, hC⟩
  | succ d ih =>
    intro N i c e hN hG hC
    obtain ⟨N, rfl⟩ : ∃ j, N = j + 1 := ⟨N - 1, by omega⟩
    have hri := hr i (by omega) (by omega)
    have ROKi := thru_k (g := g) (more := more) hr h i (by omega)
    obtain ⟨s1, s2⟩ := GF_s hG hs hO
    have eu : jadd (a + 1) (jmul (i : Int) st) = a + st * i + 1 := by
      have em : (i : Int) * st = st * i := Int.mul_comm _ _
      rcases hst with rfl | rfl
      · rw [jmul_e (by omega) (by omega), jadd_e (by omega) (by omega)]; omega
      · rw [jmul_e (by omega) (by omega), jadd_e (by omega) (by omega)]; omega
    rw [Ch_gatherThru_25, if_neg (by omega), Option.bind_some, eu, Sh_isPatched_e s1 hw (by omega) (by omega), Option.bind_some, show a + st * (i : Int) + 1 - 1 = a + st * i by omega, jadd_e (x := (i : Int)) (by omega) (by omega)]
    have nx : thruP g more a st r (i + 1) = if g (6 * (a + st * (i : Int))) < 0 then thruP g more a st r i else putP (thruP g more a st r i) (a + st * (i : Int)) more := rfl
    by_cases z : g (6 * (a + st * (i : Int))) < 0
    · rw [if_pos z, if_pos rfl]
      exact ih N (i + 1) c (by omega) (by omega) hG (by rw [nx, if_pos z]; exact hC)
    · rw [if_neg z, if_neg (by decide)]
      obtain ⟨c', e1, e2, e3⟩ := gU_g (more := more) hG hs hO ROKi hC hri.1 hri.2
      rw [e1, Option.bind_some]
      exact ih N (i + 1) c' (by omega) (by omega) e3 (by rw [nx, if_neg z]; exact e2)
theorem gthru_c {cB c : Mem} {g : Int → Int} {more a b : Int} {r : RW} (hs : SR cB 3 g) (hw : WF g) (hO : 280 ≤ cB 0 0) (a0 : 1 ≤ a) (a1 : a ≤ 40) (b0 : 1 ≤ b) (b1 : b ≤ 40) (h : ROK r) (hG : GF cB c) (hC : CR c 248 r) : ∃ c', Ch_gatherThru c more a b = some c' ∧ GF cB c' ∧ CR c' 248 (thruP g more (a - 1) (if a ≤ b then 1 else -1) r (if a ≤ b then b - a + 1 else a - b + 1).toNat) := by
  unfold Ch_gatherThru Ch_gatherThru_11
  by_cases z : a ≤ b
  · rw [if_pos z, if_pos z, if_pos z, Option.bind_some, jsub_e (by omega) (by omega)]
    unfold abI
    rw [if_pos (by omega)]
    have := thru_c (more := more) (a := a - 1) (st := 1) (K := (b - a + 1).toNat) hs hw hO (by omega) (by omega) (by omega) (Or.inl rfl) (fun i i0 i1 => by omega) h (b - a + 1).toNat big 0 c (by omega) (by have := big_ge; omega) hG hC
    rw [show (((b - a + 1).toNat : Nat) : Int) - 1 = b - a by omega, show a - 1 + 1 = a by omega] at this
    exact this
  · rw [if_neg z, if_neg z, if_neg z, Option.bind_some, jsub_e (by omega) (by omega)]
    unfold abI
    rw [if_neg (by omega), jsub_e (by omega) (by omega)]
    have := thru_c (more := more) (a := a - 1) (st := -1) (K := (a - b + 1).toNat) hs hw hO (by omega) (by omega) (by omega) (Or.inr rfl) (fun i i0 i1 => by omega) h (a - b + 1).toNat big 0 c (by omega) (by have := big_ge; omega) hG hC
    rw [show (((a - b + 1).toNat : Nat) : Int) - 1 = 0 - (b - a) by omega, show a - 1 + 1 = a by omega] at this
    exact this
theorem grp_c {cB : Mem} {g : Int → Int} {more k : Int} {r : RW} (hs : SR cB 3 g) (hw : WF g) (hO : 280 ≤ cB 0 0) (k0 : 0 ≤ k) (k1 : k < 12) (h : ROK r) {F : Mem → Int → Option Mem} {l4 : Int} : ∀ (d N i : Nat) (c : Mem), i + d = (g (240 + 41 * k)).toNat → d < N → GF cB c → CR c 248 (grpP g more k r i) → ∃ c', Ch_gather_116 F l4 more (96 + 2 * k) N c i = F c' (jadd l4 1) ∧ GF cB c' ∧ CR c' 248 (grpP g more k r (g (240 + 41 * k)).toNat) := by
  obtain ⟨w1, w2, w3, _⟩ := hw.g k k0 k1
  obtain ⟨x1, x2⟩ := S3.g hs k k0 k1
  have kk : kd (96 + 2 * k) = 5 := kd_row (by omega) (by omega) (by omega)
  intro d
  induction d with
  | zero =>
    intro N i c e hN hG hC
    obtain ⟨N, rfl⟩ : ∃ j, N = j + 1 := ⟨N - 1, by omega⟩
    have : i = (g (240 + 41 * k)).toNat := by omega
    subst this
    rw [Ch_gather_116]
    unfold gf
    rw [if_pos kk, Option.bind_some, hG.1 _ (by omega) (by omega), x1, if_pos (by omega)]
    exact ⟨c, rfl, hG, hC⟩
  | succ d ih =>
    intro N i c e hN hG hC
    obtain ⟨N, rfl⟩ : ∃ j, N = j + 1 := ⟨N - 1, by omega⟩
    have w3i := w3 i (by omega) (by omega)
    have w3i' : 0 ≤ g (241 + 41 * k + (i : Int)) ∧ g (241 + 41 * k + (i : Int)) < 40 := w3i
    have ROKi := grp_k (g := g) (more := more) (k := k) (K := (g (240 + 41 * k)).toNat) (fun i i0 i1 => w3 i i0 (by omega)) h i (by omega)
    have e0 : c 0 0 = cB 0 0 := by rw [hG.1 0 (by decide) (by decide)]
    obtain ⟨c', e1, e2, e3⟩ := gU_g (more := more) hG hs hO ROKi hC w3i'.1 w3i'.2
    rw [Ch_gather_116]
    unfold gf gO
    rw [if_pos kk, Option.bind_some, hG.1 _ (by omega) (by omega), x1, if_neg (by omega), if_pos ⟨kk, by omega, by omega⟩, Option.bind_some, rd_row (by omega) (by omega) (by omega) (by omega) (by omega), Option.bind_some, hG.1 _ (by omega) (by omega), show 96 + 2 * k + 1 = 97 + 2 * k by omega, x2 i (by omega) (by omega), e1, Option.bind_some, jadd_e (x := (i : Int)) (by omega) (by omega)]
    exact ih N (i + 1) c' (by omega) (by omega) e3 e2
theorem term_c {cB c : Mem} {g : Int → Int} {r : RW} {tm : Q4} {F : Mem → Int → Option Mem} {i : Nat} (hs : SR cB 3 g) (hw : WF g) (hO : 280 ≤ cB 0 0) (h : ROK r) (ht : TOK tm) (hG : GF cB c) (hC : CR c 248 r) (i1 : i < 120) (hq : cB 246 (4 * i) = tm.1 ∧ cB 246 (4 * i + 1) = tm.2.1 ∧ cB 246 (4 * i + 2) = tm.2.2.1 ∧ cB 246 (4 * i + 3) = tm.2.2.2) : ∃ c', Ch_gather_46 F c i (4 * i) (moreT tm) = F c' ((i : Int) + 1) ∧ GF cB c' ∧ CR c' 248 (termP g r tm) := by
  obtain ⟨q1, q2, q3, q4⟩ := hq
  have e246 : c 246 = cB 246 := hG.1 246 (by decide) (by decide)
  unfold Ch_gather_46 termP
  rw [jadd_e (x := 4 * (i : Int)) (y := 2) (by omega) (by omega), jadd_e (x := 4 * (i : Int)) (y := 1) (by omega) (by omega), jadd_e (x := 4 * (i : Int)) (y := 3) (by omega) (by omega), aI_ok (by omega) (by omega), Option.bind_some, aI_ok (by omega) (by omega), Option.bind_some, e246, q2, q3, jadd_e (x := (i : Int)) (y := 1) (by omega) (by omega)]
  rcases ht with z | z | z | z
  · rw [if_pos z, if_pos z]
    obtain ⟨c', e1, e2, e3⟩ := gthru_c (more := moreT tm) (a := 1) (b := 40) hs hw hO (by decide) (by decide) (by decide) (by decide) h hG hC
    rw [e1, Option.bind_some]
    exact ⟨c', rfl, e2, e3⟩
  · rw [if_neg (show ¬ tm.2.1 = 0 by omega), if_neg (show ¬ tm.2.1 = 0 by omega), if_pos z.1, if_pos z.1, ar_ok (by omega) (by omega), Option.bind_some]
    obtain ⟨c', e1, e2, e3⟩ := grp_c (more := moreT tm) (k := tm.2.2.1 - 1) (F := F) (l4 := (i : Int)) hs hw hO (by omega) (by omega) h (g (240 + 41 * (tm.2.2.1 - 1))).toNat big 0 c (by omega) (by
      obtain ⟨w1, w2, _⟩ := hw.g (tm.2.2.1 - 1) (by omega) (by omega)
      have := big_ge; omega) hG hC
    rw [show 96 + 2 * (tm.2.2.1 - 1) = 94 + 2 * tm.2.2.1 by omega, jadd_e (by omega) (by omega)] at e1
    exact ⟨c', e1, e2, e3⟩
  · rw [if_neg (show ¬ tm.2.1 = 0 by omega), if_neg (show ¬ tm.2.1 = 0 by omega), if_neg (show ¬ tm.2.1 = 1 by omega), if_neg (show ¬ tm.2.1 = 1 by omega), if_pos z.1, if_pos z.1]
    obtain ⟨c', e1, e2, e3⟩ := gU_g (u := tm.2.2.1 - 1) (more := moreT tm) hG hs hO h hC (by omega) (by omega)
    rw [show tm.2.2.1 - 1 + 1 = tm.2.2.1 by omega] at e1
    rw [e1, Option.bind_some]
    exact ⟨c', rfl, e3, e2⟩
  · rw [if_neg (show ¬ tm.2.1 = 0 by omega), if_neg (show ¬ tm.2.1 = 0 by omega), if_neg (show ¬ tm.2.1 = 1 by omega), if_neg (show ¬ tm.2.1 = 1 by omega), if_neg (show ¬ tm.2.1 = 2 by omega), if_neg (show ¬ tm.2.1 = 2 by omega), aI_ok (by omega) (by omega), Option.bind_some, e246, q4]
    obtain ⟨c', e1, e2, e3⟩ := gthru_c (more := moreT tm) (a := tm.2.2.1) (b := tm.2.2.2) hs hw hO (by omega) (by omega) (by omega) (by omega) h hG hC
    rw [e1, Option.bind_some]
    exact ⟨c', rfl, e2, e3⟩
theorem gath_c {cB : Mem} {g : Int → Int} {TL : List Q4} (hs : SR cB 3 g) (hw : WF g) (hO : 280 ≤ cB 0 0) (hQ : QUD cB 8 246 TL) (hl : TL.length ≤ 120) : ∀ (L : List Q4) (i N : Nat) (c : Mem) (r : RW), TL.drop i = L → L.length < N → GF cB c → CR c 248 r → ROK r → (∀ tm ∈ L, TOK tm) → ∃ c', Ch_gather_17 N c i = some c' ∧ GF cB c' ∧ CR c' 248 (gathP g r L) ∧ ROK (gathP g r L) := by
  intro L
  induction L with
  | nil =>
    intro i N c r hd hN hG hC h _
    obtain ⟨N, rfl⟩ : ∃ j, N = j + 1 := ⟨N - 1, by omega⟩
    have := List.drop_eq_nil_iff.mp hd
    rw [Ch_gather_17, hG.1 241 (by decide) (by decide), hQ.1, if_pos (by omega)]
    exact ⟨c, rfl, hG, hC, h⟩
  | cons tm L ih =>
    intro i N c r hd hN hG hC h ht
    obtain ⟨N, rfl⟩ : ∃ j, N = j + 1 := ⟨N - 1, by omega⟩
    have hi : TL[i]? = some tm := by
      have e := congrArg (fun l => l[0]?) hd
      have e2 : (TL.drop i)[0]? = some tm := e
      rw [List.getElem?_drop] at e2
      exact e2
    have hd2 : TL.drop (i + 1) = L := by
      have e := congrArg List.tail hd
      rw [List.tail_drop] at e
      exact e
    have il : i < TL.length := by
      by_cases y : i < TL.length
      · exact y
      · rw [List.getElem?_eq_none (by omega)] at hi; exact absurd hi (by simp)
    have q := hQ.2 i tm hi
    have ht0 := ht tm (by simp)
    obtain ⟨c', e1, e2, e3⟩ := term_c (F := Ch_gather_17 N) hs hw hO h ht0 hG hC (by omega) q
    have key : Ch_gather_17 (N + 1) c i = Ch_gather_17 N c' ((i : Int) + 1) := by
      rw [Ch_gather_17, hG.1 241 (by decide) (by decide), hQ.1, if_neg (by omega), Option.bind_some, jmul_e (by omega) (by omega), show (i : Int) * 4 = 4 * i by omega, aI_ok (by omega) (by omega), Option.bind_some, hG.1 246 (by decide) (by decide), q.1]
      unfold moreT at e1
      by_cases z : tm.1 = 71
      · rw [if_neg (fun x => x z)]
        rw [if_pos z] at e1
        exact e1
      · rw [if_pos z]
        rw [if_neg z] at e1
        exact e1
    rw [key]
    have := ih (i + 1) N c' (termP g r tm) hd2 (by simp at hN; omega) e2 e3 (termP_k hw h ht0) (fun x hx => ht x (by simp [hx]))
    exact this
def r00 : RW := (0, fun _ => 0)
theorem gather_c {cB : Mem} {g : Int → Int} {TL : List Q4} (hs : SR cB 3 g) (hw : WF g) (hO : 280 ≤ cB 0 0) (hQ : QUD cB 8 246 TL) (hl : TL.length ≤ 120) (ht : ∀ tm ∈ TL, TOK tm) (f0 : Int → Int) : ∃ c', Ch_gather cB = some c' ∧ GF cB c' ∧ CR c' 248 (gathP g (0, f0) TL) ∧ ROK (gathP g (0, f0) TL) := by
  unfold Ch_gather Row_clear
  simp only [Option.bind_some]
  refine gath_c hs hw hO hQ hl TL 0 big (wr cB 248 1 0) (0, f0) rfl (by have := big_ge; omega) ⟨fun p a b => wr_o a, fun f a => wr_f a⟩ ⟨wr_eq, fun i i0 i1 => by have : i < 0 := i1; omega⟩ ⟨show (0 : Int) ≤ 0 by decide, show (0 : Int) ≤ 40 by decide, fun i i0 i1 => by have : i < 0 := i1; omega, fun i j i0 ij j1 => by have : j < 0 := j1; omega⟩ ht
