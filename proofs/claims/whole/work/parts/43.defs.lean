-- L3: what is known of a show: the row of numbers g (the model's lay) and the class's objects
def tbl (l : List Int) (i : Int) : Int := l.getD i.toNat 0
def hmT : List Int := [0, 1000, 1000, 1000, 500, 500, 0, 1000, 0]
def hasT : List Int := [1, 1, 1, 1, 15, 15, 113, 241, 257]
def sokT : List Int := [1, 2, 1, 1, 4, 3, 7, 8, 2]
def layT : List Int := [0, 0, 0, 0, 0, 0, 0, 0, 1, 2, 0, 0, 0, 0, 0, 0, 0, 0, 0, 0, 0, 0, 0, 0, 0, 0, 0, 0, 0, 0, 0, 0, 0, 10, 20, 30, 0, 0, 0, 0, 10, 20, 30, 0, 0, 0, 0, 0, 1, 2, 41, 42, 51, 52, 60, 0, 1, 2, 41, 42, 51, 52, 60, 70, 0, 80, 0, 0, 0, 0, 0, 0]
def leaT : List Int := [0, 1, 1, 1, 1, 1, 1, 1, 1, 1, 1, 1, 0, 0, 0, 0, 1, 1, 1, 0, 0, 0, 0]
def greT : List Int := [9999, 40, 40, 40, 12, 12, 12, 8, 4, 10, 200, 200, 255, 1000, 3, 600, 999, 999, 999, 9999, 9999, 9999, 9999]
def wdT : List Int := [1065, 4085899, 399999, 8537408, 47, 6564179, 2021387, 137017514, 390787, 8345252375, 6219567563, 286880, 14420, 459818, 22726, 5061310453, 454037, 381245, 355568, 281490259, 419, 2759, 261008005, 305800, 309910109, 60293219, 70441, 555, 1310105, 8338025072, 1306021, 243356, 1834209, 10376624, 316154, 309083375, 3094274, 13901, 318611, 388708, 583, 90302, 267413, 2232979, 94310429, 243146, 388609, 6683990, 133743, 131638, 168755, 7051790291, 237292, 125042, 453937, 9673153, 400619, 146957, 161140, 386066, 266497038, 3172, 13261, 4078175, 48686, 11705, 400565, 12384399, 190531, 365565]
def soT : List Int := [0, 16, 0, 0, 0, 1, 2, 3, 1, 2, 3, 16, 20, 21, 6, 16, 20, 21, 6, 7, 0, 8]
def sfT : List Int := [0, 1, 2, 3, 4, 8, 11, 15, 20, 22]
def stT2 : List Int := [0, 5, 10, 15, 21, 26, 31, 36, 41, 48, 52, 56, 62, 67, 71, 76, 82, 87, 92, 96, 101, 106, 109, 114, 119, 125, 132, 137, 142, 148, 154, 160, 167, 172, 178, 186, 192, 200, 204, 209, 213, 220, 227, 234, 239, 245, 253, 259, 264, 270, 276, 281, 288, 294, 297, 302, 307, 312, 320, 325, 330, 337, 340, 345, 348, 352, 357, 362, 367, 372, 380]
def ltT : List Int := [108, 97, 109, 112, 32, 102, 105, 110, 101, 32, 119, 97, 114, 109, 32, 114, 101, 108, 97, 121, 32, 116, 105, 110, 116, 32, 103, 108, 111, 119, 32, 104, 101, 97, 100, 32, 115, 112, 111, 116, 32, 114, 111, 108, 108, 101, 114, 32, 100, 105, 109, 32, 114, 101, 100, 32, 103, 114, 101, 101, 110, 32, 98, 108, 117, 101, 32, 112, 97, 110, 32, 116, 105, 108, 116, 32, 119, 104, 101, 101, 108, 32, 105, 114, 105, 115, 32, 114, 111, 108, 108, 32, 115, 97, 119, 32, 112, 101, 97, 107, 32, 115, 116, 101, 112, 32, 117, 112, 32, 100, 111, 119, 110, 32, 109, 111, 118, 101, 32, 100, 101, 108, 97, 121, 32, 102, 111, 108, 108, 111, 119, 32, 108, 105, 110, 107, 32, 115, 116, 97, 121, 32, 108, 111, 111, 115, 101, 32, 108, 105, 109, 105, 116, 32, 99, 117, 114, 118, 101, 32, 105, 110, 118, 101, 114, 116, 32, 115, 119, 97, 112, 32, 112, 97, 116, 99, 104, 32, 117, 110, 112, 97, 116, 99, 104, 32, 103, 114, 111, 117, 112, 32, 112, 97, 108, 101, 116, 116, 101, 32, 115, 117, 98, 32, 119, 97, 118, 101, 32, 99, 117, 101, 32, 114, 101, 99, 111, 114, 100, 32, 117, 112, 100, 97, 116, 101, 32, 100, 101, 108, 101, 116, 101, 32, 99, 111, 112, 121, 32, 98, 108, 111, 99, 107, 32, 117, 110, 98, 108, 111, 99, 107, 32, 98, 108, 105, 110, 100, 32, 108, 105, 118, 101, 32, 99, 108, 101, 97, 114, 32, 115, 110, 101, 97, 107, 32, 112, 97, 114, 107, 32, 117, 110, 112, 97, 114, 107, 32, 101, 118, 101, 110, 116, 32, 97, 116, 32, 110, 111, 110, 101, 32, 119, 105, 116, 104, 32, 97, 100, 100, 115, 32, 109, 97, 115, 116, 101, 114, 115, 32, 115, 105, 122, 101, 32, 114, 97, 116, 101, 32, 115, 112, 114, 101, 97, 100, 32, 111, 110, 32, 111, 110, 108, 121, 32, 116, 111, 32, 97, 108, 108, 32, 116, 104, 114, 117, 32, 102, 117, 108, 108, 32, 102, 114, 111, 109, 32, 104, 111, 109, 101, 32, 114, 101, 108, 101, 97, 115, 101, 32]
def KON_hm (μ : Mem) : Prop := ∀ i : Int, 0 ≤ i → i < 9 → μ 261 i = tbl hmT i
def KON_so (μ : Mem) : Prop := ∀ i : Int, 0 ≤ i → i < 22 → μ 262 i = tbl soT i
def KON_sf (μ : Mem) : Prop := ∀ i : Int, 0 ≤ i → i < 10 → μ 263 i = tbl sfT i
def KON_wd (μ : Mem) : Prop := ∀ i : Int, 0 ≤ i → i < 70 → μ 260 i = tbl wdT i
def KON_home (μ : Mem) : Prop := ∀ i : Int, 0 ≤ i → i < 9 → μ (-1) i = tbl hmT i
def KON_has (μ : Mem) : Prop := ∀ i : Int, 0 ≤ i → i < 9 → μ (-2) i = tbl hasT i
def KON_sok (μ : Mem) : Prop := ∀ i : Int, 0 ≤ i → i < 9 → μ (-3) i = tbl sokT i
def KON_lay (μ : Mem) : Prop := ∀ i : Int, 0 ≤ i → i < 72 → μ (-4) i = tbl layT i
def KON_lea (μ : Mem) : Prop := ∀ i : Int, 0 ≤ i → i < 23 → μ (-5) i = tbl leaT i
def KON_gre (μ : Mem) : Prop := ∀ i : Int, 0 ≤ i → i < 23 → μ (-6) i = tbl greT i
def KON_sts (μ : Mem) : Prop := ∀ i : Int, 0 ≤ i → i < 71 → μ 232 i = tbl stT2 i
def KON_let (μ : Mem) : Prop := ∀ i : Int, 0 ≤ i → i < 380 → μ 240 i = tbl ltT i
def KON (μ : Mem) : Prop := KON_hm μ ∧ KON_so μ ∧ KON_sf μ ∧ KON_wd μ ∧ KON_home μ ∧ KON_has μ ∧ KON_sok μ ∧ KON_lay μ ∧ KON_lea μ ∧ KON_gre μ ∧ KON_sts μ ∧ KON_let μ
theorem KON.hm {μ : Mem} (h : KON μ) : KON_hm μ := h.1
theorem KON.so {μ : Mem} (h : KON μ) : KON_so μ := h.2.1
theorem KON.sf {μ : Mem} (h : KON μ) : KON_sf μ := h.2.2.1
theorem KON.wd {μ : Mem} (h : KON μ) : KON_wd μ := h.2.2.2.1
theorem KON.home {μ : Mem} (h : KON μ) : KON_home μ := h.2.2.2.2.1
theorem KON.has {μ : Mem} (h : KON μ) : KON_has μ := h.2.2.2.2.2.1
theorem KON.sok {μ : Mem} (h : KON μ) : KON_sok μ := h.2.2.2.2.2.2.1
theorem KON.lay {μ : Mem} (h : KON μ) : KON_lay μ := h.2.2.2.2.2.2.2.1
theorem KON.lea {μ : Mem} (h : KON μ) : KON_lea μ := h.2.2.2.2.2.2.2.2.1
theorem KON.gre {μ : Mem} (h : KON μ) : KON_gre μ := h.2.2.2.2.2.2.2.2.2.1
theorem KON.sts {μ : Mem} (h : KON μ) : KON_sts μ := h.2.2.2.2.2.2.2.2.2.2.1
theorem KON.let {μ : Mem} (h : KON μ) : KON_let μ := h.2.2.2.2.2.2.2.2.2.2.2
def VAL (v : Int) : Prop := v = -1 ∨ (0 ≤ v ∧ v ≤ 1000) ∨ (2001 ≤ v ∧ v ≤ 2012)
def wdK (k : Int) : Int := tbl sokT k
def hasP (k p : Int) : Prop := 0 ≤ k ∧ jand (jshr (tbl hasT k) p) 1 = 1
def RowOK (f : Int → Int) (n : Int) : Prop := 0 ≤ n ∧ n ≤ 40 ∧ (∀ i, 0 ≤ i → i < n → 0 ≤ f i ∧ f i < 40) ∧ (∀ i j, 0 ≤ i → i < j → j < n → f i ≠ f j)
def WF_u (g : Int → Int) : Prop := ∀ u, 0 ≤ u → u < 40 → -1 ≤ g (6 * u) ∧ g (6 * u) ≤ 8 ∧ (0 ≤ g (6 * u) → 1 ≤ g (6 * u + 1) ∧ g (6 * u + 1) + wdK (g (6 * u)) ≤ 201 ∧ 0 ≤ g (6 * u + 2) ∧ g (6 * u + 2) ≤ 1000 ∧ 0 ≤ g (6 * u + 3) ∧ g (6 * u + 3) ≤ 3 ∧ (g (6 * u + 4) = 0 ∨ g (6 * u + 4) = 1) ∧ (g (6 * u + 5) = 0 ∨ g (6 * u + 5) = 1))
def WF_d (g : Int → Int) : Prop := ∀ u v, 0 ≤ u → u < 40 → 0 ≤ v → v < 40 → u ≠ v → 0 ≤ g (6 * u) → 0 ≤ g (6 * v) → g (6 * u + 1) + wdK (g (6 * u)) ≤ g (6 * v + 1) ∨ g (6 * v + 1) + wdK (g (6 * v)) ≤ g (6 * u + 1)
def WF_g (g : Int → Int) : Prop := ∀ k, 0 ≤ k → k < 12 → RowOK (fun i => g (241 + 41 * k + i)) (g (240 + 41 * k))
def WF_p (g : Int → Int) : Prop := ∀ k p, 0 ≤ k → k < 12 → 0 ≤ p → p < 9 → -1 ≤ g (732 + 9 * k + p) ∧ g (732 + 9 * k + p) ≤ 1000
def WF_s (g : Int → Int) : Prop := ∀ s u, 0 ≤ s → s < 8 → 0 ≤ u → u < 40 → -1 ≤ g (840 + 40 * s + u) ∧ g (840 + 40 * s + u) ≤ 1000
def WF_m (g : Int → Int) : Prop := ∀ s, 0 ≤ s → s < 8 → g (1160 + s) = 0 ∨ g (1160 + s) = 1
def WF_w (g : Int → Int) : Prop := ∀ w, 0 ≤ w → w < 4 → -1 ≤ g (1168 + 46 * w) ∧ g (1168 + 46 * w) ≤ 2 ∧ (0 ≤ g (1168 + 46 * w) → 0 ≤ g (1169 + 46 * w) ∧ g (1169 + 46 * w) ≤ 8 ∧ 0 ≤ g (1170 + 46 * w) ∧ g (1170 + 46 * w) ≤ 1000 ∧ 0 ≤ g (1171 + 46 * w) ∧ g (1171 + 46 * w) ≤ 1000 ∧ 0 ≤ g (1172 + 46 * w) ∧ g (1172 + 46 * w) ≤ 1000 ∧ 1 ≤ g (1173 + 46 * w) ∧ RowOK (fun i => g (1174 + 46 * w + i)) (g (1173 + 46 * w)))
def WF_c (g : Int → Int) : Prop := ∀ r, 0 ≤ r → r < 30 → 0 ≤ cn g r ∧ cn g r ≤ 999 ∧ (0 < cn g r → (∀ j, 1 ≤ j → j ≤ 4 → 0 ≤ g (1352 + 7 * r + j) ∧ g (1352 + 7 * r + j) ≤ 600) ∧ -1 ≤ g (1357 + 7 * r) ∧ g (1357 + 7 * r) ≤ 600 ∧ (g (1358 + 7 * r) = -1 ∨ 1 ≤ g (1358 + 7 * r) ∧ g (1358 + 7 * r) ≤ 999) ∧ (∀ i, 0 ≤ i → i < 360 → VAL (g (1562 + 360 * r + i)) ∧ (0 ≤ g (1562 + 360 * r + i) → hasP (g (6 * (i / 9))) (i % 9))))
def WF_n (g : Int → Int) : Prop := ∀ r q, 0 ≤ r → r < 30 → 0 ≤ q → q < 30 → cn g r = cn g q → 0 < cn g r → r = q
def WF_h (g : Int → Int) : Prop := ∀ i, 0 ≤ i → i < 360 → VAL (g (12362 + i)) ∧ (0 ≤ g (12362 + i) → hasP (g (6 * (i / 9))) (i % 9))
def WF_b (g : Int → Int) : Prop := g 12722 = -1 ∨ (1 ≤ g 12722 ∧ g 12722 ≤ 999 ∧ ∃ r, 0 ≤ r ∧ r < 30 ∧ cn g r = g 12722)
def WF_k (g : Int → Int) : Prop := ∀ k, 0 ≤ k → k < 200 → -1 ≤ g (12723 + k) ∧ g (12723 + k) ≤ 255
def WF_x (g : Int → Int) : Prop := ∀ i, ¬ (0 ≤ i ∧ i < 12943) → g i = 0
def WF_e (g : Int → Int) : Prop := ∀ e, 0 ≤ e → e < 10 → (g (12923 + 2 * e) = -1 ∧ g (12924 + 2 * e) = -1) ∨ (0 ≤ g (12923 + 2 * e) ∧ g (12923 + 2 * e) ≤ 9999 ∧ 1 ≤ g (12924 + 2 * e) ∧ g (12924 + 2 * e) ≤ 999)
def WF (g : Int → Int) : Prop := WF_u g ∧ WF_d g ∧ WF_g g ∧ WF_p g ∧ WF_s g ∧ WF_m g ∧ WF_w g ∧ WF_c g ∧ WF_n g ∧ WF_h g ∧ WF_b g ∧ WF_k g ∧ WF_x g ∧ WF_e g
theorem WF.u {g : Int → Int} (h : WF g) : WF_u g := h.1
theorem WF.d {g : Int → Int} (h : WF g) : WF_d g := h.2.1
theorem WF.g {g : Int → Int} (h : WF g) : WF_g g := h.2.2.1
theorem WF.p {g : Int → Int} (h : WF g) : WF_p g := h.2.2.2.1
theorem WF.s {g : Int → Int} (h : WF g) : WF_s g := h.2.2.2.2.1
theorem WF.m {g : Int → Int} (h : WF g) : WF_m g := h.2.2.2.2.2.1
theorem WF.w {g : Int → Int} (h : WF g) : WF_w g := h.2.2.2.2.2.2.1
theorem WF.c {g : Int → Int} (h : WF g) : WF_c g := h.2.2.2.2.2.2.2.1
theorem WF.n {g : Int → Int} (h : WF g) : WF_n g := h.2.2.2.2.2.2.2.2.1
theorem WF.h {g : Int → Int} (h : WF g) : WF_h g := h.2.2.2.2.2.2.2.2.2.1
theorem WF.b {g : Int → Int} (h : WF g) : WF_b g := h.2.2.2.2.2.2.2.2.2.2.1
theorem WF.k {g : Int → Int} (h : WF g) : WF_k g := h.2.2.2.2.2.2.2.2.2.2.2.1
theorem WF.x {g : Int → Int} (h : WF g) : WF_x g := h.2.2.2.2.2.2.2.2.2.2.2.2.1
theorem WF.e {g : Int → Int} (h : WF g) : WF_e g := h.2.2.2.2.2.2.2.2.2.2.2.2.2
/-- the i-th cue's object; its number -/
def cq (c : Mem) (b i : Int) : Int := c (b + 76) i
def cnu (c : Mem) (b i : Int) : Int := c (c (b + 76) i) 0
def SR_u (c : Mem) (b : Int) (g : Int → Int) : Prop := ∀ u, 0 ≤ u → u < 40 → c (b + 3 + u) 0 = g (6 * u) ∧ (0 ≤ g (6 * u) → ∀ j, 1 ≤ j → j ≤ 5 → c (b + 3 + u) j = g (6 * u + j))
def SR_g (c : Mem) (b : Int) (g : Int → Int) : Prop := ∀ k, 0 ≤ k → k < 12 → c (b + 93 + 2 * k) 1 = g (240 + 41 * k) ∧ (∀ i, 0 ≤ i → i < g (240 + 41 * k) → c (b + 94 + 2 * k) i = g (241 + 41 * k + i) + 1)
def SR_p (c : Mem) (b : Int) (g : Int → Int) : Prop := ∀ k p, 0 ≤ k → k < 12 → 0 ≤ p → p < 9 → c (b + 46 + k) p = g (732 + 9 * k + p)
def SR_s (c : Mem) (b : Int) (g : Int → Int) : Prop := ∀ s u, 0 ≤ s → s < 8 → 0 ≤ u → u < 40 → c (b + 60 + s) (u + 1) = g (840 + 40 * s + u)
def SR_m (c : Mem) (b : Int) (g : Int → Int) : Prop := ∀ s, 0 ≤ s → s < 8 → c (b + 68) (s + 1) = g (1160 + s)
def SR_w (c : Mem) (b : Int) (g : Int → Int) : Prop := ∀ w, 0 ≤ w → w < 4 → c (b + 71 + w) 0 = g (1168 + 46 * w) ∧ (0 ≤ g (1168 + 46 * w) → (∀ j, 1 ≤ j → j ≤ 4 → c (b + 71 + w) j = g (1168 + 46 * w + j)) ∧ c (b + 119 + 2 * w) 1 = g (1173 + 46 * w) ∧ (∀ i, 0 ≤ i → i < g (1173 + 46 * w) → c (b + 120 + 2 * w) i = g (1174 + 46 * w + i) + 1)) ∧ (g (1168 + 46 * w) < 0 → (∀ j, 1 ≤ j → j ≤ 4 → c (b + 71 + w) j = -1) ∧ c (b + 119 + 2 * w) 1 = 0)
def SR_q (c : Mem) (b : Int) (g : Int → Int) : Prop := ∀ i, 0 ≤ i → i < 30 → ∃ t, 0 ≤ t ∧ t < 30 ∧ c (b + 76) i = b + 127 + 3 * t
def SR_i (c : Mem) (b : Int) (g : Int → Int) : Prop := ∀ i j, 0 ≤ i → i < j → j < 30 → c (b + 76) i ≠ c (b + 76) j
def SR_n (c : Mem) (b : Int) (g : Int → Int) : Prop := 0 ≤ c b 8 ∧ c b 8 ≤ 30
def SR_o (c : Mem) (b : Int) (g : Int → Int) : Prop := ∀ i j, 0 ≤ i → i < j → j < c b 8 → cnu c b i < cnu c b j
def SR_c (c : Mem) (b : Int) (g : Int → Int) : Prop := ∀ i, 0 ≤ i → i < c b 8 → ∃ r, 0 ≤ r ∧ r < 30 ∧ 0 < cn g r ∧ cnu c b i = cn g r ∧ (∀ j, 0 ≤ j → j < 6 → c (cq c b i + 1) j = g (1353 + 7 * r + j)) ∧ (∀ f, 0 ≤ f → f < 360 → c (cq c b i + 2) f = g (1562 + 360 * r + f))
def SR_r (c : Mem) (b : Int) (g : Int → Int) : Prop := ∀ r, 0 ≤ r → r < 30 → 0 < cn g r → ∃ i, 0 ≤ i ∧ i < c b 8 ∧ cnu c b i = cn g r
def SR_h (c : Mem) (b : Int) (g : Int → Int) : Prop := ∀ i, 0 ≤ i → i < 360 → c (b + 77) i = g (12362 + i)
def SR_b (c : Mem) (b : Int) (g : Int → Int) : Prop := c b 10 = g 12722
def SR_k (c : Mem) (b : Int) (g : Int → Int) : Prop := ∀ k, 0 ≤ k → k < 200 → c (b + 78) (k + 1) = g (12723 + k)
def SR_e (c : Mem) (b : Int) (g : Int → Int) : Prop := ∀ e j, 0 ≤ e → e < 10 → 0 ≤ j → j < 2 → c (b + 81 + e) j = g (12923 + 2 * e + j)
def SR_z (c : Mem) (b : Int) (g : Int → Int) : Prop := c (b + 91) 1 = 0 ∧ c (b + 117) 1 = 0
def SR (c : Mem) (b : Int) (g : Int → Int) : Prop := SR_u c b g ∧ SR_g c b g ∧ SR_p c b g ∧ SR_s c b g ∧ SR_m c b g ∧ SR_w c b g ∧ SR_q c b g ∧ SR_i c b g ∧ SR_n c b g ∧ SR_o c b g ∧ SR_c c b g ∧ SR_r c b g ∧ SR_h c b g ∧ SR_b c b g ∧ SR_k c b g ∧ SR_e c b g ∧ SR_z c b g
theorem SR.u {c : Mem} {b : Int} {g : Int → Int} (h : SR c b g) : SR_u c b g := h.1
theorem SR.g {c : Mem} {b : Int} {g : Int → Int} (h : SR c b g) : SR_g c b g := h.2.1
theorem SR.p {c : Mem} {b : Int} {g : Int → Int} (h : SR c b g) : SR_p c b g := h.2.2.1
theorem SR.s {c : Mem} {b : Int} {g : Int → Int} (h : SR c b g) : SR_s c b g := h.2.2.2.1
theorem SR.m {c : Mem} {b : Int} {g : Int → Int} (h : SR c b g) : SR_m c b g := h.2.2.2.2.1
theorem SR.w {c : Mem} {b : Int} {g : Int → Int} (h : SR c b g) : SR_w c b g := h.2.2.2.2.2.1
theorem SR.q {c : Mem} {b : Int} {g : Int → Int} (h : SR c b g) : SR_q c b g := h.2.2.2.2.2.2.1
theorem SR.i {c : Mem} {b : Int} {g : Int → Int} (h : SR c b g) : SR_i c b g := h.2.2.2.2.2.2.2.1
theorem SR.n {c : Mem} {b : Int} {g : Int → Int} (h : SR c b g) : SR_n c b g := h.2.2.2.2.2.2.2.2.1
theorem SR.o {c : Mem} {b : Int} {g : Int → Int} (h : SR c b g) : SR_o c b g := h.2.2.2.2.2.2.2.2.2.1
theorem SR.c {c : Mem} {b : Int} {g : Int → Int} (h : SR c b g) : SR_c c b g := h.2.2.2.2.2.2.2.2.2.2.1
theorem SR.r {c : Mem} {b : Int} {g : Int → Int} (h : SR c b g) : SR_r c b g := h.2.2.2.2.2.2.2.2.2.2.2.1
theorem SR.h {c : Mem} {b : Int} {g : Int → Int} (h : SR c b g) : SR_h c b g := h.2.2.2.2.2.2.2.2.2.2.2.2.1
theorem SR.b {c : Mem} {b : Int} {g : Int → Int} (h : SR c b g) : SR_b c b g := h.2.2.2.2.2.2.2.2.2.2.2.2.2.1
theorem SR.k {c : Mem} {b : Int} {g : Int → Int} (h : SR c b g) : SR_k c b g := h.2.2.2.2.2.2.2.2.2.2.2.2.2.2.1
theorem SR.e {c : Mem} {b : Int} {g : Int → Int} (h : SR c b g) : SR_e c b g := h.2.2.2.2.2.2.2.2.2.2.2.2.2.2.2.1
theorem SR.z {c : Mem} {b : Int} {g : Int → Int} (h : SR c b g) : SR_z c b g := h.2.2.2.2.2.2.2.2.2.2.2.2.2.2.2.2
theorem S3.u {c : Mem} {g : Int → Int} (h : SR c 3 g) : ∀ u, 0 ≤ u → u < 40 → c (6 + u) 0 = g (6 * u) ∧ (0 ≤ g (6 * u) → ∀ j, 1 ≤ j → j ≤ 5 → c (6 + u) j = g (6 * u + j)) := h.u
theorem S3.g {c : Mem} {g : Int → Int} (h : SR c 3 g) : ∀ k, 0 ≤ k → k < 12 → c (96 + 2 * k) 1 = g (240 + 41 * k) ∧ (∀ i, 0 ≤ i → i < g (240 + 41 * k) → c (97 + 2 * k) i = g (241 + 41 * k + i) + 1) := h.g
theorem S3.p {c : Mem} {g : Int → Int} (h : SR c 3 g) : ∀ k p, 0 ≤ k → k < 12 → 0 ≤ p → p < 9 → c (49 + k) p = g (732 + 9 * k + p) := h.p
theorem S3.s {c : Mem} {g : Int → Int} (h : SR c 3 g) : ∀ s u, 0 ≤ s → s < 8 → 0 ≤ u → u < 40 → c (63 + s) (u + 1) = g (840 + 40 * s + u) := h.s
theorem S3.m {c : Mem} {g : Int → Int} (h : SR c 3 g) : ∀ s, 0 ≤ s → s < 8 → c 71 (s + 1) = g (1160 + s) := h.m
theorem S3.w {c : Mem} {g : Int → Int} (h : SR c 3 g) : ∀ w, 0 ≤ w → w < 4 → c (74 + w) 0 = g (1168 + 46 * w) ∧ (0 ≤ g (1168 + 46 * w) → (∀ j, 1 ≤ j → j ≤ 4 → c (74 + w) j = g (1168 + 46 * w + j)) ∧ c (122 + 2 * w) 1 = g (1173 + 46 * w) ∧ (∀ i, 0 ≤ i → i < g (1173 + 46 * w) → c (123 + 2 * w) i = g (1174 + 46 * w + i) + 1)) ∧ (g (1168 + 46 * w) < 0 → (∀ j, 1 ≤ j → j ≤ 4 → c (74 + w) j = -1) ∧ c (122 + 2 * w) 1 = 0) := h.w
theorem S3.q {c : Mem} {g : Int → Int} (h : SR c 3 g) : ∀ i, 0 ≤ i → i < 30 → ∃ t, 0 ≤ t ∧ t < 30 ∧ c 79 i = 130 + 3 * t := h.q
theorem S3.i {c : Mem} {g : Int → Int} (h : SR c 3 g) : ∀ i j, 0 ≤ i → i < j → j < 30 → c 79 i ≠ c 79 j := h.i
theorem S3.n {c : Mem} {g : Int → Int} (h : SR c 3 g) : 0 ≤ c 3 8 ∧ c 3 8 ≤ 30 := h.n
theorem S3.o {c : Mem} {g : Int → Int} (h : SR c 3 g) : ∀ i j, 0 ≤ i → i < j → j < c 3 8 → c (c 79 i) 0 < c (c 79 j) 0 := h.o
theorem S3.c {c : Mem} {g : Int → Int} (h : SR c 3 g) : ∀ i, 0 ≤ i → i < c 3 8 → ∃ r, 0 ≤ r ∧ r < 30 ∧ 0 < cn g r ∧ c (c 79 i) 0 = cn g r ∧ (∀ j, 0 ≤ j → j < 6 → c (c 79 i + 1) j = g (1353 + 7 * r + j)) ∧ (∀ f, 0 ≤ f → f < 360 → c (c 79 i + 2) f = g (1562 + 360 * r + f)) := h.c
theorem S3.r {c : Mem} {g : Int → Int} (h : SR c 3 g) : ∀ r, 0 ≤ r → r < 30 → 0 < cn g r → ∃ i, 0 ≤ i ∧ i < c 3 8 ∧ c (c 79 i) 0 = cn g r := h.r
theorem S3.h {c : Mem} {g : Int → Int} (h : SR c 3 g) : ∀ i, 0 ≤ i → i < 360 → c 80 i = g (12362 + i) := h.h
theorem S3.b {c : Mem} {g : Int → Int} (h : SR c 3 g) : c 3 10 = g 12722 := h.b
theorem S3.k {c : Mem} {g : Int → Int} (h : SR c 3 g) : ∀ k, 0 ≤ k → k < 200 → c 81 (k + 1) = g (12723 + k) := h.k
theorem S3.e {c : Mem} {g : Int → Int} (h : SR c 3 g) : ∀ e j, 0 ≤ e → e < 10 → 0 ≤ j → j < 2 → c (84 + e) j = g (12923 + 2 * e + j) := h.e
theorem S3.z {c : Mem} {g : Int → Int} (h : SR c 3 g) : c (94) 1 = 0 ∧ c (120) 1 = 0 := h.z
