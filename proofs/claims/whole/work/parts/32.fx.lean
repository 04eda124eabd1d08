-- L2: references that never change (printed by wip/gen/emit32.py; proofs by hand)
def fxT : List (Int × Int × Int) := [(1, 0, 2), (1, 4, 3), (1, 5, 220), (1, 7, 221), (1, 8, 226), (1, 9, 231), (1, 10, 241), (1, 11, 250), (1, 12, 255), (1, 13, 256), (1, 14, 257), (221, 0, 3), (221, 6, 222), (221, 7, 223), (221, 8, 224), (221, 9, 225), (226, 0, 3), (226, 1, 221), (226, 2, 227), (226, 3, 228), (226, 6, 229), (226, 7, 230), (231, 0, 240), (231, 1, 232), (241, 2, 242), (241, 3, 243), (241, 4, 244), (241, 5, 245), (241, 7, 246), (241, 9, 247), (241, 11, 248), (250, 0, 231), (250, 1, 241), (250, 5, 252), (250, 6, 253), (250, 7, 254), (255, 0, 3), (255, 1, 221), (256, 0, 3), (256, 1, 221), (256, 2, 226), (257, 0, 3), (257, 1, 231), (257, 2, 258), (259, 0, 260), (259, 1, 261), (259, 2, 262), (259, 3, 263), (259, 4, 264), (259, 5, 265), (259, 6, 266), (259, 9, 267), (259, 13, 268), (259, 14, 269), (259, 15, 270), (259, 20, 271), (259, 23, 272), (259, 24, 273), (259, 25, 274), (259, 26, 275), (259, 32, 276), (259, 33, 277), (259, 36, 278), (259, 37, 279), (259, 38, 280)]
def shT : List (Int × Int) := [(0, 1), (1, 43), (2, 44), (3, 58), (4, 68), (5, 69), (6, 75), (7, 76), (9, 77), (11, 78), (12, 79)]
def fxL : List (Nat × Int) := [(0, 0), (0, 1), (1, 1), (1, 2), (2, 0), (2, 1), (2, 2), (3, 0), (3, 6), (3, 7), (3, 8), (3, 9), (4, 0), (4, 1), (4, 5), (4, 6), (4, 7), (5, 0), (6, 0), (6, 1), (6, 2), (7, 0), (7, 1), (7, 2), (7, 3), (7, 4), (7, 5), (7, 6), (7, 7), (7, 9), (7, 11), (7, 12), (8, 0), (8, 1), (8, 2), (8, 3), (8, 6), (8, 7), (9, 2), (9, 3), (9, 4), (9, 5), (9, 7), (9, 9), (9, 11), (10, 0), (10, 1), (11, 0), (11, 4), (11, 5), (11, 7), (11, 8), (11, 9), (11, 10), (11, 11), (11, 12), (11, 13), (11, 14), (12, 0), (12, 1), (12, 2), (12, 3), (12, 4), (12, 5), (12, 6), (12, 9), (12, 13), (12, 14), (12, 15), (12, 20), (12, 23), (12, 24), (12, 25), (12, 26), (12, 32), (12, 33), (12, 36), (12, 37), (12, 38)]
def fxF (c : Nat) (i : Int) : Bool := fxL.any (fun p => p.1 == c && p.2 == i) || c == 110 || c == 125 || c == 999
def fxK (c : Nat) : Bool := c == 100 || c == 101 || c == 102 || c == 103 || c == 104 || c == 121 || c == 127
theorem rokb {x : Int} (h : -128 ≤ x ∧ x ≤ 127) : rok 3 x = true := decide_eq_true h
def FX (μ : Mem) : Prop := (∀ p ∈ fxT, μ p.1 p.2.1 = p.2.2) ∧ 280 ≤ μ 0 0 ∧ (∀ o : Int, 0 < o → o ≤ μ 0 0 → (kd o = 5 → μ o 0 = o + 1) ∧ (kd o = 1 → μ o 1 = o + 1 ∧ μ o 2 = o + 2) ∧ (kd o = 7 → ∀ q ∈ shT, μ o q.1 = o + q.2) ∧ (kd o = 110 → ∀ i, 0 ≤ i → i < ln o → μ o i = o + 1 + i) ∧ (kd o = 125 → ∀ i, 0 ≤ i → i < ln o → μ o i = (if ln o = 13 then o + 48 + 2 * i else o + 42 + 2 * i)))
theorem wr_ne {μ : Mem} {o i v a j : Int} (h : ¬ (a = o ∧ j = i)) : wr μ o i v a j = μ a j := if_neg h
theorem wr_eq {μ : Mem} {o i v : Int} : wr μ o i v o i = v := if_pos ⟨rfl, rfl⟩
theorem fxT_F : ∀ p ∈ fxT, fxF (kd p.1) p.2.1 = true := by decide +kernel
theorem shT_F : ∀ q ∈ shT, fxF 7 q.1 = true := by decide +kernel
theorem FXw {μ : Mem} {o i v : Int} (h : FX μ) (hs : fxF (kd o) i = false) : FX (wr μ o i v) := by
  have g : ∀ a j, fxF (kd a) j = true → wr μ o i v a j = μ a j := by
    intro a j ha
    refine wr_ne ?_
    rintro ⟨rfl, rfl⟩
    rw [hs] at ha
    exact absurd ha (by decide)
  have g0 : wr μ o i v 0 0 = μ 0 0 := g 0 0 (by decide +kernel)
  refine ⟨fun p hp => ?_, ?_, fun a h1 h2 => ?_⟩
  · rw [g _ _ (fxT_F p hp)]; exact h.1 p hp
  · rw [g0]; exact h.2.1
  · rw [g0] at h2
    have k := h.2.2 a h1 h2
    refine ⟨fun e => ?_, fun e => ⟨?_, ?_⟩, fun e q hq => ?_, fun e j j1 j2 => ?_, fun e j j1 j2 => ?_⟩
    · rw [g a 0 (by rw [e]; decide +kernel)]; exact k.1 e
    · rw [g a 1 (by rw [e]; decide +kernel)]; exact (k.2.1 e).1
    · rw [g a 2 (by rw [e]; decide +kernel)]; exact (k.2.1 e).2
    · rw [g a q.1 (by rw [e]; exact shT_F q hq)]; exact k.2.2.1 e q hq
    · rw [g a j (by rw [e]; unfold fxF; simp)]; exact k.2.2.2.1 e j j1 j2
    · rw [g a j (by rw [e]; unfold fxF; simp)]; exact k.2.2.2.2 e j j1 j2
theorem fxK_F {c : Nat} {i : Int} (h : fxK c = true) : fxF c i = false := by
  unfold fxK at h
  simp only [Bool.or_eq_true, beq_iff_eq] at h
  rcases h with (((((h | h) | h) | h) | h) | h) | h <;> subst h <;> unfold fxF fxL <;> simp
theorem FXk {μ : Mem} {o i v : Int} (h : FX μ) (hk : fxK (kd o) = true) : FX (wr μ o i v) := FXw h (fxK_F hk)
theorem fxP {μ m : Mem} {o f v : Int} (h : FX μ) (h1 : fxF (kd o) f = false) (hx : some (wr μ o f v) = some m) : FX m := by cases hx; exact FXw h h1
theorem fxPz {μ m : Mem} {o f v : Int} (h : FX μ) (h1 : fxF (kd o) f = false) (hx : pz μ o f v = some m) : FX m := fxP h h1 (ifSome hx).2
theorem fxPf {μ m : Mem} {c t : Nat} {o f v : Int} (h : FX μ) (h1 : fxF c f = false) (hx : pf μ c f t o v = some m) : FX m := by
  obtain ⟨hc, hx⟩ := ifSome hx
  exact fxP h (by rw [hc.1]; exact h1) hx
theorem fxS {μ m : Mem} {o n i v : Int} (h : FX μ) (hk : fxK (kd o) = true) (hx : sI μ o n i v = some m) : FX m := by
  obtain ⟨_, hx⟩ := ifSome hx
  cases hx
  exact FXk h hk
theorem fxwI {μ m : Mem} {o i v : Int} (h : FX μ) (hx : wI μ o i v = some m) : FX m := by
  obtain ⟨hc, hx⟩ := ifSome hx
  cases hx
  exact FXk h (by rw [hc.1]; rfl)
theorem fxwB {μ m : Mem} {o i v : Int} (h : FX μ) (hx : wB μ o i v = some m) : FX m := by
  obtain ⟨hc, hx⟩ := ifSome hx
  cases hx
  exact FXk h (by rcases hc.1 with e | e <;> rw [e] <;> rfl)
theorem fxwA {μ m : Mem} {o i v : Int} (h : FX μ) (hk : fxK (kd o) = true) (hx : wA μ o i v = some m) : FX m := by
  obtain ⟨_, hx⟩ := ifSome hx
  cases hx
  exact FXk h hk
theorem FXacp {μ : Mem} {s sp d dp n : Int} (h : FX μ) (hk : fxK (kd d) = true) : FX (acp μ s sp d dp n) := by
  have g : ∀ a j, fxF (kd a) j = true → acp μ s sp d dp n a j = μ a j := by
    intro a j ha
    refine if_neg ?_
    rintro ⟨rfl, _⟩
    rw [fxK_F hk] at ha
    exact absurd ha (by decide)
  have g0 : acp μ s sp d dp n 0 0 = μ 0 0 := g 0 0 (by decide +kernel)
  refine ⟨fun p hp => ?_, ?_, fun a h1 h2 => ?_⟩
  · rw [g _ _ (fxT_F p hp)]; exact h.1 p hp
  · rw [g0]; exact h.2.1
  · rw [g0] at h2
    have k := h.2.2 a h1 h2
    refine ⟨fun e => ?_, fun e => ⟨?_, ?_⟩, fun e q hq => ?_, fun e j j1 j2 => ?_, fun e j j1 j2 => ?_⟩
    · rw [g a 0 (by rw [e]; decide +kernel)]; exact k.1 e
    · rw [g a 1 (by rw [e]; decide +kernel)]; exact (k.2.1 e).1
    · rw [g a 2 (by rw [e]; decide +kernel)]; exact (k.2.1 e).2
    · rw [g a q.1 (by rw [e]; exact shT_F q hq)]; exact k.2.2.1 e q hq
    · rw [g a j (by rw [e]; unfold fxF; simp)]; exact k.2.2.2.1 e j j1 j2
    · rw [g a j (by rw [e]; unfold fxF; simp)]; exact k.2.2.2.2 e j j1 j2
theorem fxcp {μ m : Mem} {s sp d dp n : Int} (h : FX μ) (hx : cpA μ s sp d dp n = some m) : FX m := by
  obtain ⟨hc, hx⟩ := ifSome hx
  cases hx
  exact FXacp h (by rw [hc.2.1]; rcases hc.1 with e | e <;> rw [e] <;> rfl)
noncomputable def gFX (μ : Mem) : Option Unit := @ite _ (FX μ) (Classical.propDecidable _) (some ()) none
theorem gFX_1 {μ : Mem} {u : Unit} (h : gFX μ = some u) : FX μ := (ifSome h).1
theorem fxO_5_0 {μ : Mem} {o x : Int} (hF : FX μ) (h : gO μ 5 1 o = some x) : gf μ 5 0 o = some x := by
  obtain ⟨hc, h⟩ := ifSome h
  rw [← h, gf_v hc.1 ((hF.2.2 o hc.2.1 hc.2.2).1 hc.1)]
theorem fxO_1_1 {μ : Mem} {o x : Int} (hF : FX μ) (h : gO μ 1 1 o = some x) : gf μ 1 1 o = some x := by
  obtain ⟨hc, h⟩ := ifSome h
  rw [← h, gf_v hc.1 ((hF.2.2 o hc.2.1 hc.2.2).2.1 hc.1).1]
theorem fxO_1_2 {μ : Mem} {o x : Int} (hF : FX μ) (h : gO μ 1 2 o = some x) : gf μ 1 2 o = some x := by
  obtain ⟨hc, h⟩ := ifSome h
  rw [← h, gf_v hc.1 ((hF.2.2 o hc.2.1 hc.2.2).2.1 hc.1).2]
theorem fxO_7 {μ : Mem} {o x f d : Int} (hF : FX μ) (hd : (f, d) ∈ shT) (h : gO μ 7 d o = some x) : gf μ 7 f o = some x := by
  obtain ⟨hc, h⟩ := ifSome h
  rw [← h, gf_v hc.1 ((hF.2.2 o hc.2.1 hc.2.2).2.2.1 hc.1 (f, d) hd)]
theorem fxO_7_0 {μ : Mem} {o x : Int} (hF : FX μ) (h : gO μ 7 1 o = some x) : gf μ 7 0 o = some x := fxO_7 hF (by decide) h
theorem fxO_7_1 {μ : Mem} {o x : Int} (hF : FX μ) (h : gO μ 7 43 o = some x) : gf μ 7 1 o = some x := fxO_7 hF (by decide) h
theorem fxO_7_2 {μ : Mem} {o x : Int} (hF : FX μ) (h : gO μ 7 44 o = some x) : gf μ 7 2 o = some x := fxO_7 hF (by decide) h
theorem fxO_7_3 {μ : Mem} {o x : Int} (hF : FX μ) (h : gO μ 7 58 o = some x) : gf μ 7 3 o = some x := fxO_7 hF (by decide) h
theorem fxO_7_4 {μ : Mem} {o x : Int} (hF : FX μ) (h : gO μ 7 68 o = some x) : gf μ 7 4 o = some x := fxO_7 hF (by decide) h
theorem fxO_7_5 {μ : Mem} {o x : Int} (hF : FX μ) (h : gO μ 7 69 o = some x) : gf μ 7 5 o = some x := fxO_7 hF (by decide) h
theorem fxO_7_6 {μ : Mem} {o x : Int} (hF : FX μ) (h : gO μ 7 75 o = some x) : gf μ 7 6 o = some x := fxO_7 hF (by decide) h
theorem fxO_7_7 {μ : Mem} {o x : Int} (hF : FX μ) (h : gO μ 7 76 o = some x) : gf μ 7 7 o = some x := fxO_7 hF (by decide) h
theorem fxO_7_9 {μ : Mem} {o x : Int} (hF : FX μ) (h : gO μ 7 77 o = some x) : gf μ 7 9 o = some x := fxO_7 hF (by decide) h
theorem fxO_7_11 {μ : Mem} {o x : Int} (hF : FX μ) (h : gO μ 7 78 o = some x) : gf μ 7 11 o = some x := fxO_7 hF (by decide) h
theorem fxO_7_12 {μ : Mem} {o x : Int} (hF : FX μ) (h : gO μ 7 79 o = some x) : gf μ 7 12 o = some x := fxO_7 hF (by decide) h
theorem fxA2 {μ : Mem} {a i x : Int} (hF : FX μ) (h : r2 μ a i = some x) : rdA μ a i = some x := by
  obtain ⟨hc, h⟩ := ifSome h
  rw [← h, ← (hF.2.2 a hc.2.1 hc.2.2.1).2.2.2.1 hc.1 i hc.2.2.2.1 hc.2.2.2.2]
  exact if_pos ⟨Or.inl hc.1, hc.2.1, hc.2.2.2.1, hc.2.2.2.2⟩
theorem fxAR {μ : Mem} {a i x : Int} (hF : FX μ) (h : rR μ a i = some x) : rdA μ a i = some x := by
  obtain ⟨hc, h⟩ := ifSome h
  rw [← h, ← (hF.2.2 a hc.2.1 hc.2.2.1).2.2.2.2 hc.1 i hc.2.2.2.1 hc.2.2.2.2]
  exact if_pos ⟨Or.inr (Or.inr (Or.inl hc.1)), hc.2.1, hc.2.2.2.1, hc.2.2.2.2⟩
theorem fxr2 {μ : Mem} {a i x n : Int} (hF : FX μ) (hk : kd a = 110) (hl : ln a = n) (h0 : 0 < a) (h1 : a ≤ 280) (h : (if 0 ≤ i ∧ i < n then some (a + 1 + i) else none) = some x) : rdA μ a i = some x := by
  obtain ⟨hi, h⟩ := ifSome h
  refine fxA2 hF ?_
  rw [← h]
  exact if_pos ⟨hk, h0, Int.le_trans h1 hF.2.1, hi.1, by rw [hl]; exact hi.2⟩
theorem fxrR {μ : Mem} {a i x n b : Int} (hF : FX μ) (hk : kd a = 125) (hl : ln a = n) (h0 : 0 < a) (h1 : a ≤ 280) (hb : b = if n = 13 then a + 48 else a + 42) (h : ar b n 2 i = some x) : rdA μ a i = some x := by
  obtain ⟨hi, h⟩ := ifSome h
  refine fxAR hF ?_
  rw [← h, hb]
  refine (if_pos ⟨hk, h0, Int.le_trans h1 hF.2.1, hi.1, by rw [hl]; exact hi.2⟩).trans ?_
  rw [hl]
  by_cases e : n = 13
  · rw [if_pos e, if_pos e]
  · rw [if_neg e, if_neg e]
theorem fx_1_0 {μ : Mem} (h : FX μ) : μ 1 0 = 2 := h.1 (1, 0, 2) (by decide)
theorem fx_1_4 {μ : Mem} (h : FX μ) : μ 1 4 = 3 := h.1 (1, 4, 3) (by decide)
theorem fx_1_5 {μ : Mem} (h : FX μ) : μ 1 5 = 220 := h.1 (1, 5, 220) (by decide)
theorem fx_1_7 {μ : Mem} (h : FX μ) : μ 1 7 = 221 := h.1 (1, 7, 221) (by decide)
theorem fx_1_8 {μ : Mem} (h : FX μ) : μ 1 8 = 226 := h.1 (1, 8, 226) (by decide)
theorem fx_1_10 {μ : Mem} (h : FX μ) : μ 1 10 = 241 := h.1 (1, 10, 241) (by decide)
theorem fx_1_11 {μ : Mem} (h : FX μ) : μ 1 11 = 250 := h.1 (1, 11, 250) (by decide)
theorem fx_1_12 {μ : Mem} (h : FX μ) : μ 1 12 = 255 := h.1 (1, 12, 255) (by decide)
theorem fx_1_13 {μ : Mem} (h : FX μ) : μ 1 13 = 256 := h.1 (1, 13, 256) (by decide)
theorem fx_1_14 {μ : Mem} (h : FX μ) : μ 1 14 = 257 := h.1 (1, 14, 257) (by decide)
theorem fx_3_0 {μ : Mem} (h : FX μ) : μ 3 0 = 4 := (h.2.2 3 (by decide) (Int.le_trans (by decide) h.2.1)).2.2.1 (by decide +kernel) (0, 1) (by decide)
theorem fx_3_1 {μ : Mem} (h : FX μ) : μ 3 1 = 46 := (h.2.2 3 (by decide) (Int.le_trans (by decide) h.2.1)).2.2.1 (by decide +kernel) (1, 43) (by decide)
theorem fx_3_2 {μ : Mem} (h : FX μ) : μ 3 2 = 47 := (h.2.2 3 (by decide) (Int.le_trans (by decide) h.2.1)).2.2.1 (by decide +kernel) (2, 44) (by decide)
theorem fx_3_3 {μ : Mem} (h : FX μ) : μ 3 3 = 61 := (h.2.2 3 (by decide) (Int.le_trans (by decide) h.2.1)).2.2.1 (by decide +kernel) (3, 58) (by decide)
theorem fx_3_4 {μ : Mem} (h : FX μ) : μ 3 4 = 71 := (h.2.2 3 (by decide) (Int.le_trans (by decide) h.2.1)).2.2.1 (by decide +kernel) (4, 68) (by decide)
theorem fx_3_5 {μ : Mem} (h : FX μ) : μ 3 5 = 72 := (h.2.2 3 (by decide) (Int.le_trans (by decide) h.2.1)).2.2.1 (by decide +kernel) (5, 69) (by decide)
theorem fx_3_6 {μ : Mem} (h : FX μ) : μ 3 6 = 78 := (h.2.2 3 (by decide) (Int.le_trans (by decide) h.2.1)).2.2.1 (by decide +kernel) (6, 75) (by decide)
theorem fx_3_7 {μ : Mem} (h : FX μ) : μ 3 7 = 79 := (h.2.2 3 (by decide) (Int.le_trans (by decide) h.2.1)).2.2.1 (by decide +kernel) (7, 76) (by decide)
theorem fx_3_9 {μ : Mem} (h : FX μ) : μ 3 9 = 80 := (h.2.2 3 (by decide) (Int.le_trans (by decide) h.2.1)).2.2.1 (by decide +kernel) (9, 77) (by decide)
theorem fx_3_11 {μ : Mem} (h : FX μ) : μ 3 11 = 81 := (h.2.2 3 (by decide) (Int.le_trans (by decide) h.2.1)).2.2.1 (by decide +kernel) (11, 78) (by decide)
theorem fx_3_12 {μ : Mem} (h : FX μ) : μ 3 12 = 82 := (h.2.2 3 (by decide) (Int.le_trans (by decide) h.2.1)).2.2.1 (by decide +kernel) (12, 79) (by decide)
theorem fx_221_0 {μ : Mem} (h : FX μ) : μ 221 0 = 3 := h.1 (221, 0, 3) (by decide)
theorem fx_221_6 {μ : Mem} (h : FX μ) : μ 221 6 = 222 := h.1 (221, 6, 222) (by decide)
theorem fx_221_7 {μ : Mem} (h : FX μ) : μ 221 7 = 223 := h.1 (221, 7, 223) (by decide)
theorem fx_221_8 {μ : Mem} (h : FX μ) : μ 221 8 = 224 := h.1 (221, 8, 224) (by decide)
theorem fx_221_9 {μ : Mem} (h : FX μ) : μ 221 9 = 225 := h.1 (221, 9, 225) (by decide)
theorem fx_226_0 {μ : Mem} (h : FX μ) : μ 226 0 = 3 := h.1 (226, 0, 3) (by decide)
theorem fx_226_1 {μ : Mem} (h : FX μ) : μ 226 1 = 221 := h.1 (226, 1, 221) (by decide)
theorem fx_226_2 {μ : Mem} (h : FX μ) : μ 226 2 = 227 := h.1 (226, 2, 227) (by decide)
theorem fx_226_3 {μ : Mem} (h : FX μ) : μ 226 3 = 228 := h.1 (226, 3, 228) (by decide)
theorem fx_226_6 {μ : Mem} (h : FX μ) : μ 226 6 = 229 := h.1 (226, 6, 229) (by decide)
theorem fx_226_7 {μ : Mem} (h : FX μ) : μ 226 7 = 230 := h.1 (226, 7, 230) (by decide)
theorem fx_231_0 {μ : Mem} (h : FX μ) : μ 231 0 = 240 := h.1 (231, 0, 240) (by decide)
theorem fx_231_1 {μ : Mem} (h : FX μ) : μ 231 1 = 232 := h.1 (231, 1, 232) (by decide)
theorem fx_241_2 {μ : Mem} (h : FX μ) : μ 241 2 = 242 := h.1 (241, 2, 242) (by decide)
theorem fx_241_3 {μ : Mem} (h : FX μ) : μ 241 3 = 243 := h.1 (241, 3, 243) (by decide)
theorem fx_241_4 {μ : Mem} (h : FX μ) : μ 241 4 = 244 := h.1 (241, 4, 244) (by decide)
theorem fx_241_5 {μ : Mem} (h : FX μ) : μ 241 5 = 245 := h.1 (241, 5, 245) (by decide)
theorem fx_241_7 {μ : Mem} (h : FX μ) : μ 241 7 = 246 := h.1 (241, 7, 246) (by decide)
theorem fx_241_9 {μ : Mem} (h : FX μ) : μ 241 9 = 247 := h.1 (241, 9, 247) (by decide)
theorem fx_241_11 {μ : Mem} (h : FX μ) : μ 241 11 = 248 := h.1 (241, 11, 248) (by decide)
theorem fx_248_0 {μ : Mem} (h : FX μ) : μ 248 0 = 249 := (h.2.2 248 (by decide) (Int.le_trans (by decide) h.2.1)).1 (by decide +kernel)
theorem fx_250_0 {μ : Mem} (h : FX μ) : μ 250 0 = 231 := h.1 (250, 0, 231) (by decide)
theorem fx_250_1 {μ : Mem} (h : FX μ) : μ 250 1 = 241 := h.1 (250, 1, 241) (by decide)
theorem fx_250_5 {μ : Mem} (h : FX μ) : μ 250 5 = 252 := h.1 (250, 5, 252) (by decide)
theorem fx_250_6 {μ : Mem} (h : FX μ) : μ 250 6 = 253 := h.1 (250, 6, 253) (by decide)
theorem fx_250_7 {μ : Mem} (h : FX μ) : μ 250 7 = 254 := h.1 (250, 7, 254) (by decide)
theorem fx_255_0 {μ : Mem} (h : FX μ) : μ 255 0 = 3 := h.1 (255, 0, 3) (by decide)
theorem fx_255_1 {μ : Mem} (h : FX μ) : μ 255 1 = 221 := h.1 (255, 1, 221) (by decide)
theorem fx_256_0 {μ : Mem} (h : FX μ) : μ 256 0 = 3 := h.1 (256, 0, 3) (by decide)
theorem fx_256_1 {μ : Mem} (h : FX μ) : μ 256 1 = 221 := h.1 (256, 1, 221) (by decide)
theorem fx_256_2 {μ : Mem} (h : FX μ) : μ 256 2 = 226 := h.1 (256, 2, 226) (by decide)
theorem fx_257_0 {μ : Mem} (h : FX μ) : μ 257 0 = 3 := h.1 (257, 0, 3) (by decide)
theorem fx_257_1 {μ : Mem} (h : FX μ) : μ 257 1 = 231 := h.1 (257, 1, 231) (by decide)
theorem fx_257_2 {μ : Mem} (h : FX μ) : μ 257 2 = 258 := h.1 (257, 2, 258) (by decide)
theorem fx_259_0 {μ : Mem} (h : FX μ) : μ 259 0 = 260 := h.1 (259, 0, 260) (by decide)
theorem fx_259_1 {μ : Mem} (h : FX μ) : μ 259 1 = 261 := h.1 (259, 1, 261) (by decide)
theorem fx_259_2 {μ : Mem} (h : FX μ) : μ 259 2 = 262 := h.1 (259, 2, 262) (by decide)
theorem fx_259_3 {μ : Mem} (h : FX μ) : μ 259 3 = 263 := h.1 (259, 3, 263) (by decide)
theorem fx_259_4 {μ : Mem} (h : FX μ) : μ 259 4 = 264 := h.1 (259, 4, 264) (by decide)
theorem fx_259_5 {μ : Mem} (h : FX μ) : μ 259 5 = 265 := h.1 (259, 5, 265) (by decide)
theorem fx_259_6 {μ : Mem} (h : FX μ) : μ 259 6 = 266 := h.1 (259, 6, 266) (by decide)
theorem fx_259_9 {μ : Mem} (h : FX μ) : μ 259 9 = 267 := h.1 (259, 9, 267) (by decide)
theorem fx_259_13 {μ : Mem} (h : FX μ) : μ 259 13 = 268 := h.1 (259, 13, 268) (by decide)
theorem fx_259_14 {μ : Mem} (h : FX μ) : μ 259 14 = 269 := h.1 (259, 14, 269) (by decide)
theorem fx_259_15 {μ : Mem} (h : FX μ) : μ 259 15 = 270 := h.1 (259, 15, 270) (by decide)
theorem fx_259_20 {μ : Mem} (h : FX μ) : μ 259 20 = 271 := h.1 (259, 20, 271) (by decide)
theorem fx_259_23 {μ : Mem} (h : FX μ) : μ 259 23 = 272 := h.1 (259, 23, 272) (by decide)
theorem fx_259_24 {μ : Mem} (h : FX μ) : μ 259 24 = 273 := h.1 (259, 24, 273) (by decide)
theorem fx_259_25 {μ : Mem} (h : FX μ) : μ 259 25 = 274 := h.1 (259, 25, 274) (by decide)
theorem fx_259_26 {μ : Mem} (h : FX μ) : μ 259 26 = 275 := h.1 (259, 26, 275) (by decide)
theorem fx_259_32 {μ : Mem} (h : FX μ) : μ 259 32 = 276 := h.1 (259, 32, 276) (by decide)
theorem fx_259_33 {μ : Mem} (h : FX μ) : μ 259 33 = 277 := h.1 (259, 33, 277) (by decide)
theorem fx_259_36 {μ : Mem} (h : FX μ) : μ 259 36 = 278 := h.1 (259, 36, 278) (by decide)
theorem fx_259_37 {μ : Mem} (h : FX μ) : μ 259 37 = 279 := h.1 (259, 37, 279) (by decide)
theorem fx_259_38 {μ : Mem} (h : FX μ) : μ 259 38 = 280 := h.1 (259, 38, 280) (by decide)
