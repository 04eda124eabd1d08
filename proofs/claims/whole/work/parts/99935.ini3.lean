-- L3: what the constructors make: the words
theorem pfc {μ : Mem} {a f v : Int} {C : Nat} {F : Mem → Option Mem} (ha : kd a = C ∧ 0 < a) (hv : -128 ≤ v ∧ v ≤ 127) : ((pf μ C f 3 a v).bind F) = F (wr μ a f v) := by
  unfold pf
  rw [if_pos ⟨ha.1, ha.2, fun x => absurd x (by decide), fun _ => hv⟩, Option.bind_some]
theorem alnB {μ : Mem} {o : Int} (h : kd o = 101 ∨ kd o = 103) : aln μ o = some (ln o) := by
  unfold aln
  rw [if_neg (by omega), if_pos (by omega)]
theorem acq_o {μ : Mem} {s sp d dp n o : Int} (h : ¬ o = d) : acp μ s sp d dp n o = μ o := by
  funext j
  unfold acp
  rw [if_neg (fun x => h x.1)]
theorem acq_i {μ : Mem} {s d dp n j : Int} (h0 : dp ≤ j) (h1 : j < dp + n) : acp μ s 0 d dp n d j = μ s (j - dp) := by
  unfold acp
  rw [if_pos ⟨rfl, h0, h1⟩, Int.zero_add]
theorem acq_n {μ : Mem} {s d dp n j : Int} (h : ¬ (dp ≤ j ∧ j < dp + n)) : acp μ s 0 d dp n d j = μ d j := by
  unfold acp
  rw [if_neg (fun x => h x.2)]
theorem jshr0 {x : Int} (h : R32 x) : jshr x 0 = x := by
  have e : Int32.ofInt 0 &&& 31 = 0 := by decide
  unfold jshr
  rw [e, Int32.shiftRight_zero]
  exact i32_id h
theorem jshl0 {x : Int} (h : R32 x) : jshl x 0 = x := by
  have e : Int32.ofInt 0 &&& 31 = 0 := by decide
  unfold jshl
  rw [e, Int32.shiftLeft_zero]
  exact i32_id h
theorem k233 : kd 233 = 13 := by decide +kernel
/-- the builder holds the first q letters in b -/
def BU (c : Mem) (b q : Int) : Prop := c 233 0 = b ∧ c 233 1 = 0 ∧ c 233 3 = q ∧ (∀ j, 0 ≤ j → j < q → c b j = tbl ltT j)
/-- the text s lies in v, its letters are those from q on -/
def TX (c : Mem) (s v q : Int) : Prop := kd s = 14 ∧ s < 0 ∧ v < 0 ∧ kd v = 101 ∧ ln v ≤ 1000 ∧ c s 0 = v ∧ c s 1 = 0 ∧ (∀ j, 0 ≤ j → j < ln v → c v j = tbl ltT (q + j))
theorem tx_len {c : Mem} {s v q : Int} (h : TX c s v q) : wJ_length_348 c s = some (ln v) := by
  obtain ⟨h1, h2, h3, h4, h5, h6, h7, h8⟩ := h
  have hn := ln_nn v
  unfold wJ_length_348 wJ_coder
  rw [gf_v h1 h6, Option.bind_some, alnB (Or.inl h4), Option.bind_some, if_pos ⟨by omega, h1⟩, if_neg (by decide), gf_v h1 h7, Option.bind_some, if_pos (by decide), Option.bind_some, jshr0 ⟨by omega, by omega⟩]
theorem tx_put {c : Mem} {s v q b : Int} (h : TX c s v q) (hb : BU c b q) (b0 : 0 < b) (bk : kd b = 101) (hn : q + ln v ≤ ln b) (q0 : 0 ≤ q) (q1 : q ≤ 1000) : wJ_putStringAt c 233 q s = some (acp c v 0 b q (ln v)) := by
  obtain ⟨h1, h2, h3, h4, h5, h6, h7, h8⟩ := h
  obtain ⟨g1, g2, g3, g4⟩ := hb
  have hln := ln_nn v
  unfold wJ_putStringAt wJ_inflateIfNeededFor wJ_getBytes wJ_coder
  rw [if_pos ⟨by decide, k233⟩, if_neg (by decide), gf_v k233 g2, Option.bind_some, if_pos ⟨by omega, h1⟩, if_neg (by decide), gf_v h1 h7, Option.bind_some, if_pos (by decide), Option.bind_some, if_pos rfl, Option.bind_some, gf_v k233 g1, Option.bind_some, Option.bind_some, if_pos ⟨by omega, h1⟩, if_pos ⟨by omega, h1⟩, Option.bind_some, if_neg (fun x => x rfl), gf_v h1 h6, Option.bind_some, Option.bind_some, alnB (Or.inl h4), Option.bind_some, jshl0 ⟨by omega, by omega⟩]
  unfold cpA
  rw [if_pos ⟨Or.inr h4, by rw [bk, h4], b0, Int.le_refl _, q0, hln, by omega, hn, Or.inr h4⟩]
  rfl
theorem tx_end {c : Mem} {s v q b : Int} (h : TX c s v q) (hb : BU c b q) (b3 : ¬ b = 233) (bv : 0 < b) (q0 : 0 ≤ q) : BU (wr (acp c v 0 b q (ln v)) 233 3 (q + ln v)) b (q + ln v) := by
  obtain ⟨h1, h2, h3, h4, h5, h6, h7, h8⟩ := h
  obtain ⟨g1, g2, g3, g4⟩ := hb
  refine ⟨?_, ?_, wr_eq, fun j j0 j1 => ?_⟩
  · rw [wr_f (by decide), acq_o (by omega), g1]
  · rw [wr_f (by decide), acq_o (by omega), g2]
  · rw [wr_o b3]
    by_cases z : q ≤ j
    · rw [acq_i z j1, h8 _ (by omega) (by omega), show q + (j - q) = j by omega]
    · rw [acq_n (by omega), g4 j j0 (by omega)]
/-- a text is put behind; the row is large enough -/
theorem ap_fit {c : Mem} {s v q b : Int} (h : TX c s v q) (hb : BU c b q) (b0 : 0 < b) (bk : kd b = 101) (hn : q + ln v ≤ ln b) (b1 : ln b ≤ 1000) (q0 : 0 ≤ q) (q1 : q ≤ 1000) : ∃ c', wJ_append_346 c 233 s = some (233, c') ∧ c' 0 0 = c 0 0 ∧ c' 0 1 = c 0 1 ∧ (∀ o, ¬ o = 233 → ¬ o = b → c' o = c o) ∧ BU c' b (q + ln v) := by
  have hk : ¬ b = 233 := by
    intro e
    rw [e, k233] at bk
    exact absurd bk (by decide)
  have hln := ln_nn v
  have hl := tx_len h
  have hp := tx_put h hb b0 bk hn q0 q1
  refine ⟨wr (acp c v 0 b q (ln v)) 233 3 (q + ln v), ?_, ?_, ?_, fun o x y => by rw [wr_o x, acq_o y], tx_end h hb hk b0 q0⟩
  · have h2 := h
    obtain ⟨h1, h2, h3, h4, h5, h6, h7, h8⟩ := h2
    obtain ⟨g1, g2, g3, g4⟩ := hb
    have e1 : wJ_ensureCapacityInternal c 233 (q + ln v) = some c := by
      unfold wJ_ensureCapacityInternal
      rw [gf_v k233 g1, Option.bind_some, alnB (Or.inl bk), Option.bind_some, gf_v k233 g2, Option.bind_some, Option.bind_some, jshr0 ⟨by omega, by omega⟩, jsub_e (by omega) (by omega), if_pos (by omega)]
    have g5 : gf (acp c v 0 b q (ln v)) 13 3 233 = some q := by rw [gf_c k233, acq_o (by omega), g3]
    unfold wJ_append_346 wJ_append_347
    rw [if_pos ⟨by decide, k233⟩, if_pos (show s ≠ 0 by omega), if_pos ⟨by omega, h1⟩, hl, Option.bind_some, gf_v k233 g3, Option.bind_some, if_pos ⟨by decide, k233⟩, jadd_e (by omega) (by omega), e1, Option.bind_some, gf_v k233 g3, Option.bind_some, if_pos ⟨by decide, k233⟩, hp, Option.bind_some, g5, Option.bind_some, jadd_e (by omega) (by omega)]
    unfold pf
    rw [if_pos ⟨k233, by decide, fun x => absurd x (by decide), fun x => absurd x (by decide)⟩]
    rfl
  · rw [wr_o (by decide), acq_o (by omega)]
  · rw [wr_o (by decide), acq_o (by omega)]
/-- the row grows -/
theorem ap_grow {c : Mem} {b k n nb q r : Int} (hb : BU c b q) (b0 : 0 < b) (bk : kd b = 101) (bl : ln b = nb) (nb1 : nb ≤ 1000) (nb0 : 0 ≤ nb) (hq : q ≤ nb) (h0 : c 0 0 + 1 = k) (kk : kd k = 101 ∧ ln k = n ∧ 0 ≤ n ∧ n ≤ 200000 ∧ 0 < k) (hr : nb < r) (hn : nb + (if r - nb < nb + 2 then nb + 2 else r - nb) = n) (hbk : ¬ b = k) (n1 : n ≤ 1000) : ∃ c', wJ_ensureCapacityInternal c 233 r = some c' ∧ c' 0 0 = k ∧ c' 0 1 = c 0 1 ∧ (∀ o, ¬ o = 0 → ¬ o = 233 → ¬ o = k → c' o = c o) ∧ BU c' k q := by
  obtain ⟨g1, g2, g3, g4⟩ := hb
  have n2 : nb < n ∧ r ≤ n := by
    by_cases z : r - nb < nb + 2
    · rw [if_pos z] at hn; omega
    · rw [if_neg z] at hn; omega
  have r1 : r ≤ 1000 := by omega
  have k3 : ¬ k = 233 := by
    intro e
    rw [e, k233] at kk
    exact absurd kk.1 (by decide)
  have b3 : ¬ b = 233 := by
    intro e
    rw [e, k233] at bk
    exact absurd bk (by decide)
  have e1 : wJ_newCapacity c 233 r = some n := by
    have j1 : jshl 2 0 = 2 := by decide
    unfold wJ_newCapacity wJ_newLength mxI
    rw [gf_v k233 g1, Option.bind_some, alnB (Or.inl bk), Option.bind_some, gf_v k233 g2, Option.bind_some, Option.bind_some, Option.bind_some, Option.bind_some, jshl0 (x := r) ⟨by omega, by omega⟩, bl, jsub_e (by omega) (by omega), j1, jadd_e (show -2147483648 ≤ nb + 2 by omega) (by omega), jadd_e (by rw [hn]; omega) (by rw [hn]; omega), hn, Option.bind_some, if_neg (show ¬ n ≤ 0 by omega), if_neg (show ¬ 2147483639 < n by omega), Option.bind_some, if_pos (show n ≠ 2147483647 by omega), Option.bind_some, jshr0 ⟨by omega, by omega⟩]
  have e2 : wAr_copyOf c b n = some (k, acp (al k c) b 0 k 0 nb) := by
    unfold wAr_copyOf
    rw [alnB (Or.inl bk), Option.bind_some, bl, if_pos (show n ≠ nb by omega)]
    unfold nwA nw
    rw [if_pos kk.2.2.2.1, h0, if_pos ⟨kk.1, kk.2.1, kk.2.2.1, by omega⟩, Option.bind_some, Option.bind_some, alnB (Or.inl bk), Option.bind_some, alo_al h0, bl]
    have e3 : mnI nb n = nb := by
      unfold mnI
      rw [if_neg (by omega)]
    rw [e3]
    unfold cpA
    rw [if_pos ⟨Or.inr bk, by rw [bk, kk.1], kk.2.2.2.2, Int.le_refl _, Int.le_refl _, nb0, by omega, by rw [kk.2.1]; omega, Or.inl b0⟩]
    rfl
  have kb : ¬ k = 0 := by omega
  refine ⟨wr (acp (al k c) b 0 k 0 nb) 233 0 k, ?_, ?_, ?_, fun o x y z => by rw [wr_o y, acq_o z, al_o x z], ?_, ?_, ?_, fun j j0 j1 => ?_⟩
  · unfold wJ_ensureCapacityInternal
    rw [gf_v k233 g1, Option.bind_some, alnB (Or.inl bk), Option.bind_some, gf_v k233 g2, Option.bind_some, Option.bind_some, bl, jshr0 ⟨by omega, by omega⟩, jsub_e (by omega) (by omega), if_neg (by omega), Option.bind_some, if_pos ⟨by decide, k233⟩, e1, Option.bind_some, Option.bind_some, jshl0 ⟨by omega, by omega⟩, e2, Option.bind_some]
    unfold pf
    rw [if_pos ⟨k233, by decide, fun x => absurd x (by decide), fun x => absurd x (by decide)⟩]
    rfl
  · rw [wr_o (by decide), acq_o (by omega), al_0]
  · rw [wr_o (by decide), acq_o (by omega), al_1 (by omega)]
  · exact wr_eq
  · rw [wr_f (by decide), acq_o (by omega), al_o (by decide) (by omega), g2]
  · rw [wr_f (by decide), acq_o (by omega), al_o (by decide) (by omega), g3]
  · rw [wr_o k3, acq_i j0 (by omega), al_o (by omega) hbk, show j - 0 = j by omega, g4 j j0 j1]
theorem TX_c {c d : Mem} {s v q : Int} (h : TX c s v q) (e1 : d s = c s) (e2 : d v = c v) : TX d s v q := by
  obtain ⟨h1, h2, h3, h4, h5, h6, h7, h8⟩ := h
  exact ⟨h1, h2, h3, h4, h5, by rw [e1]; exact h6, by rw [e1]; exact h7, by rw [e2]; exact h8⟩
/-- a text is put behind; the row grows -/
theorem ap_new {c : Mem} {s v q b k n nb : Int} (h : TX c s v q) (hb : BU c b q) (b0 : 0 < b) (bk : kd b = 101) (bl : ln b = nb) (nb1 : nb ≤ 1000) (nb0 : 0 ≤ nb) (hq : q ≤ nb) (q0 : 0 ≤ q) (h0 : c 0 0 + 1 = k) (kk : kd k = 101 ∧ ln k = n ∧ 0 ≤ n ∧ n ≤ 200000 ∧ 0 < k) (hr : nb < q + ln v) (hn : nb + (if q + ln v - nb < nb + 2 then nb + 2 else q + ln v - nb) = n) (hbk : ¬ b = k) (n1 : n ≤ 1000) : ∃ c', wJ_append_346 c 233 s = some (233, c') ∧ c' 0 0 = k ∧ c' 0 1 = c 0 1 ∧ (∀ o, ¬ o = 0 → ¬ o = 233 → ¬ o = k → c' o = c o) ∧ BU c' k (q + ln v) := by
  have hln := ln_nn v
  have k3 : ¬ k = 233 := by
    intro e
    rw [e, k233] at kk
    exact absurd kk.1 (by decide)
  obtain ⟨d, d1, d2, d3, d4, d5⟩ := ap_grow hb b0 bk bl nb1 nb0 hq h0 kk hr hn hbk n1
  have rn : q + ln v ≤ n := by
    by_cases z : q + ln v - nb < nb + 2
    · rw [if_pos z] at hn; omega
    · rw [if_neg z] at hn; omega
  have sv : s < 0 ∧ v < 0 ∧ kd s = 14 := ⟨h.2.1, h.2.2.1, h.1⟩
  have hd : TX d s v q := TX_c h (d4 s (by omega) (by omega) (by omega)) (d4 v (by omega) (by omega) (by omega))
  have hp := tx_put hd d5 kk.2.2.2.2 kk.1 (by rw [kk.2.1]; exact rn) q0 (by omega)
  have hl := tx_len h
  refine ⟨wr (acp d v 0 k q (ln v)) 233 3 (q + ln v), ?_, ?_, ?_, fun o x y z => by rw [wr_o y, acq_o z, d4 o x y z], tx_end hd d5 k3 kk.2.2.2.2 q0⟩
  · have g3 := hb.2.2.1
    have g3' := d5.2.2.1
    have g5 : gf (acp d v 0 k q (ln v)) 13 3 233 = some q := by rw [gf_c k233, acq_o (by omega), g3']
    unfold wJ_append_346 wJ_append_347
    rw [if_pos ⟨by decide, k233⟩, if_pos (show s ≠ 0 by omega), if_pos ⟨by omega, sv.2.2⟩, hl, Option.bind_some, gf_v k233 g3, Option.bind_some, if_pos ⟨by decide, k233⟩, jadd_e (by omega) (by omega), d1, Option.bind_some, gf_v k233 g3', Option.bind_some, if_pos ⟨by decide, k233⟩, hp, Option.bind_some, g5, Option.bind_some, jadd_e (by omega) (by omega)]
    unfold pf
    rw [if_pos ⟨k233, by decide, fun x => absurd x (by decide), fun x => absurd x (by decide)⟩]
    rfl
  · rw [wr_o (by decide), acq_o (by omega), d2]
  · rw [wr_o (by decide), acq_o (by omega), d3]
