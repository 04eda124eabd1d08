-- L3: the invariant: the class's objects in c, the model's in m; B bounds the clocks
def PR_G (B : Int) (c m : Mem) : Prop := ∀ i, 0 ≤ i → i < 360 → c 222 i = m 272 i ∧ 0 ≤ m 272 i ∧ m 272 i ≤ 1000
def PR_F (B : Int) (c m : Mem) : Prop := ∀ i, 0 ≤ i → i < 360 → (c 223 i = m 273 i ∨ (m 275 i = 0 ∧ m 274 i ≤ m 259 28)) ∧ 0 ≤ m 273 i ∧ m 273 i ≤ 1000 ∧ 0 ≤ c 223 i ∧ c 223 i ≤ 1000
def PR_T (B : Int) (c m : Mem) : Prop := ∀ i, 0 ≤ i → i < 360 → c 224 i = m 274 i ∧ 0 ≤ m 274 i ∧ m 274 i ≤ B + 600 ∧ c 225 i = m 275 i ∧ 0 ≤ m 275 i ∧ m 275 i ≤ 600
def PR_K (B : Int) (c m : Mem) : Prop := 0 ≤ B ∧ B ≤ 1000000 ∧ c 221 1 = m 259 27 ∧ 0 ≤ m 259 27 ∧ m 259 27 ≤ B ∧ c 221 2 = m 259 28 ∧ 0 ≤ m 259 28 ∧ m 259 28 ≤ B
def PR_C (B : Int) (c m : Mem) : Prop := c 221 3 = m 259 29 ∧ 0 ≤ m 259 29 ∧ m 259 29 ≤ 999 ∧ c 221 4 = m 259 30 ∧ 0 ≤ m 259 30 ∧ m 259 30 ≤ B ∧ c 221 5 = m 259 31 ∧ (m 259 31 = 0 ∨ m 259 31 = 1)
def PR (B : Int) (c m : Mem) : Prop := PR_G B c m ∧ PR_F B c m ∧ PR_T B c m ∧ PR_K B c m ∧ PR_C B c m
theorem PR.G {B : Int} {c m : Mem} (h : PR B c m) : ∀ i, 0 ≤ i → i < 360 → c 222 i = m 272 i ∧ 0 ≤ m 272 i ∧ m 272 i ≤ 1000 := h.1
theorem PR.F {B : Int} {c m : Mem} (h : PR B c m) : ∀ i, 0 ≤ i → i < 360 → (c 223 i = m 273 i ∨ (m 275 i = 0 ∧ m 274 i ≤ m 259 28)) ∧ 0 ≤ m 273 i ∧ m 273 i ≤ 1000 ∧ 0 ≤ c 223 i ∧ c 223 i ≤ 1000 := h.2.1
theorem PR.T {B : Int} {c m : Mem} (h : PR B c m) : ∀ i, 0 ≤ i → i < 360 → c 224 i = m 274 i ∧ 0 ≤ m 274 i ∧ m 274 i ≤ B + 600 ∧ c 225 i = m 275 i ∧ 0 ≤ m 275 i ∧ m 275 i ≤ 600 := h.2.2.1
theorem PR.K {B : Int} {c m : Mem} (h : PR B c m) : 0 ≤ B ∧ B ≤ 1000000 ∧ c 221 1 = m 259 27 ∧ 0 ≤ m 259 27 ∧ m 259 27 ≤ B ∧ c 221 2 = m 259 28 ∧ 0 ≤ m 259 28 ∧ m 259 28 ≤ B := h.2.2.2.1
theorem PR.C {B : Int} {c m : Mem} (h : PR B c m) : c 221 3 = m 259 29 ∧ 0 ≤ m 259 29 ∧ m 259 29 ≤ 999 ∧ c 221 4 = m 259 30 ∧ 0 ≤ m 259 30 ∧ m 259 30 ≤ B ∧ c 221 5 = m 259 31 ∧ (m 259 31 = 0 ∨ m 259 31 = 1) := h.2.2.2.2
def GR_f (c m : Mem) : Prop := ∀ s, 0 ≤ s → s < 8 → c 227 (s + 1) = m 276 s ∧ 0 ≤ m 276 s ∧ m 276 s ≤ 1000
def GR_b (c m : Mem) : Prop := ∀ s, 0 ≤ s → s < 8 → c 228 (s + 1) = m 277 s ∧ (m 277 s = 0 ∨ m 277 s = 1)
def GR_g (c m : Mem) : Prop := c 226 4 = m 259 34 ∧ 0 ≤ m 259 34 ∧ m 259 34 ≤ 1000
def GR_k (c m : Mem) : Prop := c 226 5 = m 259 35 ∧ (m 259 35 = 0 ∨ m 259 35 = 1)
def GR_r (c m : Mem) : Prop := ∀ w, 0 ≤ w → w < 4 → c 229 (w + 1) = m 278 w ∧ (m 278 w = 0 ∨ m 278 w = 1)
def GR_p (c m : Mem) : Prop := ∀ u, 0 ≤ u → u < 40 → c 230 (u + 1) = m 279 u
def GR (c m : Mem) : Prop := GR_f c m ∧ GR_b c m ∧ GR_g c m ∧ GR_k c m ∧ GR_r c m ∧ GR_p c m
theorem GR.f {c m : Mem} (h : GR c m) : ∀ s, 0 ≤ s → s < 8 → c 227 (s + 1) = m 276 s ∧ 0 ≤ m 276 s ∧ m 276 s ≤ 1000 := h.1
theorem GR.b {c m : Mem} (h : GR c m) : ∀ s, 0 ≤ s → s < 8 → c 228 (s + 1) = m 277 s ∧ (m 277 s = 0 ∨ m 277 s = 1) := h.2.1
theorem GR.g {c m : Mem} (h : GR c m) : c 226 4 = m 259 34 ∧ 0 ≤ m 259 34 ∧ m 259 34 ≤ 1000 := h.2.2.1
theorem GR.k {c m : Mem} (h : GR c m) : c 226 5 = m 259 35 ∧ (m 259 35 = 0 ∨ m 259 35 = 1) := h.2.2.2.1
theorem GR.r {c m : Mem} (h : GR c m) : ∀ w, 0 ≤ w → w < 4 → c 229 (w + 1) = m 278 w ∧ (m 278 w = 0 ∨ m 278 w = 1) := h.2.2.2.2.1
theorem GR.p {c m : Mem} (h : GR c m) : ∀ u, 0 ≤ u → u < 40 → c 230 (u + 1) = m 279 u := h.2.2.2.2.2
def TR_n (c m : Mem) : Prop := c 1 1 = m 259 10 ∧ 0 ≤ m 259 10 ∧ m 259 10 ≤ 6000
def TR_t (c m : Mem) : Prop := ∀ i, 0 ≤ i → i < m 259 10 → c 2 i = jb (m 267 i) ∧ 0 ≤ m 267 i ∧ m 267 i ≤ 255
def TR_f (c m : Mem) : Prop := c 1 2 = m 259 11 ∧ c 1 3 = m 259 12
def TR (c m : Mem) : Prop := TR_n c m ∧ TR_t c m ∧ TR_f c m
theorem TR.n {c m : Mem} (h : TR c m) : c 1 1 = m 259 10 ∧ 0 ≤ m 259 10 ∧ m 259 10 ≤ 6000 := h.1
theorem TR.t {c m : Mem} (h : TR c m) : ∀ i, 0 ≤ i → i < m 259 10 → c 2 i = jb (m 267 i) ∧ 0 ≤ m 267 i ∧ m 267 i ≤ 255 := h.2.1
theorem TR.f {c m : Mem} (h : TR c m) : c 1 2 = m 259 11 ∧ c 1 3 = m 259 12 := h.2.2
def pastG (m : Mem) (k : Int) : Int → Int := fun i => if 0 ≤ i ∧ i < 12943 then m 266 (12943 * ((m 259 8 - k) % 8) + i) else 0
def HR_n (c m : Mem) : Prop := c 1 6 = m 259 7 ∧ 0 ≤ m 259 7 ∧ m 259 7 ≤ 8 ∧ 0 ≤ m 259 8 ∧ m 259 8 < 8
def HR_p (c m : Mem) : Prop := ∃ K, 0 ≤ K ∧ K ≤ 8 ∧ c 0 0 = 280 + 217 * K ∧ m 259 7 ≤ K ∧ (∀ i, 0 ≤ i → i < K → ∃ j, 0 ≤ j ∧ j < K ∧ c 220 i = 281 + 217 * j) ∧ (∀ i j, 0 ≤ i → i < j → j < K → c 220 i ≠ c 220 j) ∧ (∀ i, K ≤ i → i < 8 → c 220 i = 0)
def HR_s (c m : Mem) : Prop := ∀ k, 0 ≤ k → k < m 259 7 → SR c (c 220 (m 259 7 - 1 - k)) (pastG m k) ∧ WF (pastG m k)
/-- a show's row of cues is whole, whatever it holds -/
def SHQ (c : Mem) (a : Int) : Prop := (∀ i, 0 ≤ i → i < 30 → ∃ t, 0 ≤ t ∧ t < 30 ∧ c (a + 76) i = a + 127 + 3 * t) ∧ (∀ i j, 0 ≤ i → i < j → j < 30 → c (a + 76) i ≠ c (a + 76) j)
def HR_q (c m : Mem) : Prop := ∀ i, 0 ≤ i → i < 8 → ∀ j, 0 ≤ j → j < 8 → c 220 i = 281 + 217 * j → SHQ c (281 + 217 * j)
def HR (c m : Mem) : Prop := HR_n c m ∧ HR_p c m ∧ HR_s c m ∧ HR_q c m
theorem HR.n {c m : Mem} (h : HR c m) : c 1 6 = m 259 7 ∧ 0 ≤ m 259 7 ∧ m 259 7 ≤ 8 ∧ 0 ≤ m 259 8 ∧ m 259 8 < 8 := h.1
theorem HR.p {c m : Mem} (h : HR c m) : ∃ K, 0 ≤ K ∧ K ≤ 8 ∧ c 0 0 = 280 + 217 * K ∧ m 259 7 ≤ K ∧ (∀ i, 0 ≤ i → i < K → ∃ j, 0 ≤ j ∧ j < K ∧ c 220 i = 281 + 217 * j) ∧ (∀ i j, 0 ≤ i → i < j → j < K → c 220 i ≠ c 220 j) ∧ (∀ i, K ≤ i → i < 8 → c 220 i = 0) := h.2.1
theorem HR.s {c m : Mem} (h : HR c m) : ∀ k, 0 ≤ k → k < m 259 7 → SR c (c 220 (m 259 7 - 1 - k)) (pastG m k) ∧ WF (pastG m k) := h.2.2.1
theorem HR.q {c m : Mem} (h : HR c m) : ∀ i, 0 ≤ i → i < 8 → ∀ j, 0 ≤ j → j < 8 → c 220 i = 281 + 217 * j → SHQ c (281 + 217 * j) := h.2.2.2
def INV_kc (B : Int) (c m : Mem) : Prop := KON c
def INV_km (B : Int) (c m : Mem) : Prop := KON m
def INV_o (B : Int) (c m : Mem) : Prop := 280 ≤ c 0 0
def INV_s (B : Int) (c m : Mem) : Prop := SR c 3 (m 264)
def INV_w (B : Int) (c m : Mem) : Prop := WF (m 264)
def INV_p (B : Int) (c m : Mem) : Prop := PR B c m
def INV_g (B : Int) (c m : Mem) : Prop := GR c m
def INV_t (B : Int) (c m : Mem) : Prop := TR c m
def INV_h (B : Int) (c m : Mem) : Prop := HR c m
def INV (B : Int) (c m : Mem) : Prop := INV_kc B c m ∧ INV_km B c m ∧ INV_o B c m ∧ INV_s B c m ∧ INV_w B c m ∧ INV_p B c m ∧ INV_g B c m ∧ INV_t B c m ∧ INV_h B c m
theorem INV.kc {B : Int} {c m : Mem} (h : INV B c m) : KON c := h.1
theorem INV.km {B : Int} {c m : Mem} (h : INV B c m) : KON m := h.2.1
theorem INV.o {B : Int} {c m : Mem} (h : INV B c m) : 280 ≤ c 0 0 := h.2.2.1
theorem INV.s {B : Int} {c m : Mem} (h : INV B c m) : SR c 3 (m 264) := h.2.2.2.1
theorem INV.w {B : Int} {c m : Mem} (h : INV B c m) : WF (m 264) := h.2.2.2.2.1
theorem INV.p {B : Int} {c m : Mem} (h : INV B c m) : PR B c m := h.2.2.2.2.2.1
theorem INV.g {B : Int} {c m : Mem} (h : INV B c m) : GR c m := h.2.2.2.2.2.2.1
theorem INV.t {B : Int} {c m : Mem} (h : INV B c m) : TR c m := h.2.2.2.2.2.2.2.1
theorem INV.h {B : Int} {c m : Mem} (h : INV B c m) : HR c m := h.2.2.2.2.2.2.2.2
