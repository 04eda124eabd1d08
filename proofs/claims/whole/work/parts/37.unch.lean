-- objects that the class's methods never write (printed by wip/gen/emit37.py)
def UN (μ0 μ : Mem) : Prop := (∀ o, uB o = true → μ o = μ0 o) ∧ μ 0 1 = μ0 0 1
theorem UN.refl {μ : Mem} : UN μ μ := ⟨fun _ _ => rfl, rfl⟩
theorem UN.trans {μ0 μ1 μ2 : Mem} (h1 : UN μ0 μ1) (h2 : UN μ1 μ2) : UN μ0 μ2 := ⟨fun o ho => (h2.1 o ho).trans (h1.1 o ho), h2.2.trans h1.2⟩
theorem UNw {μ0 μ : Mem} {o i v : Int} (h : UN μ0 μ) (hu : uB o = false ∧ 0 < o) : UN μ0 (wr μ o i v) := by
  refine ⟨fun a ha => ?_, ?_⟩
  · rw [← h.1 a ha]
    funext j
    refine wr_ne ?_
    rintro ⟨rfl, _⟩
    rw [hu.1] at ha
    exact absurd ha (by decide)
  · rw [← h.2]
    exact wr_ne (fun e => by omega)
theorem UNP {μ0 μ m : Mem} {o f v : Int} (h : UN μ0 μ) (hu : uB o = false ∧ 0 < o) (hx : some (wr μ o f v) = some m) : UN μ0 m := by cases hx; exact UNw h hu
theorem UNPz {μ0 μ m : Mem} {o f v : Int} (h : UN μ0 μ) (hu : uB o = false ∧ 0 < o) (hx : pz μ o f v = some m) : UN μ0 m := UNP h hu (ifSome hx).2
theorem UNS {μ0 μ m : Mem} {o n i v : Int} (h : UN μ0 μ) (hu : uB o = false ∧ 0 < o) (hx : sI μ o n i v = some m) : UN μ0 m := UNP h hu (ifSome hx).2
theorem UNA {μ0 μ m : Mem} {o i v : Int} (h : UN μ0 μ) (hu : uB o = false ∧ 0 < o) (hx : wA μ o i v = some m) : UN μ0 m := UNP h hu (ifSome hx).2
theorem UND {μ0 μ m : Mem} {o i v : Int} (h : UN μ0 μ) (hx : wD μ o i v = some m) : UN μ0 m := by
  obtain ⟨hu, hx⟩ := ifSome hx
  obtain ⟨hc, hx⟩ := ifSome hx
  exact UNP h ⟨hu, hc.2.1⟩ hx
theorem UNC {μ0 μ m : Mem} {s sp d dp n : Int} (h : UN μ0 μ) (hx : cD μ s sp d dp n = some m) : UN μ0 m := by
  obtain ⟨hu, hx⟩ := ifSome hx
  obtain ⟨hc, hx⟩ := ifSome hx
  cases hx
  refine ⟨fun a ha => ?_, ?_⟩
  · rw [← h.1 a ha]
    funext j
    refine if_neg ?_
    rintro ⟨rfl, _⟩
    rw [hu] at ha
    exact absurd ha (by decide)
  · rw [← h.2]
    exact if_neg (fun e => by have := e.1; have := hc.2.2.1; omega)
theorem uB_k {o : Int} (h0 : 0 < o) (hk : kd o = 5 ∨ kd o = 1 ∨ kd o = 7) : uB o = false := by
  by_cases e : uB o = false
  · exact e
  · exfalso
    have e2 : uB o = true := by simpa using e
    unfold uB at e2
    simp only [Bool.or_eq_true, Bool.and_eq_true, decide_eq_true_eq] at e2
    have r : (231 ≤ o ∧ o ≤ 240) ∨ (259 ≤ o ∧ o ≤ 280) := by omega
    obtain ⟨o', rfl⟩ : ∃ o' : Nat, o = (o' : Int) := ⟨o.toNat, by omega⟩
    have D : ∀ q ∈ List.range 281, (231 ≤ q ∧ q ≤ 240 ∨ 259 ≤ q ∧ q ≤ 280) → ¬ (kd (q : Int) = 5 ∨ kd (q : Int) = 1 ∨ kd (q : Int) = 7) := by decide +kernel
    exact D o' (List.mem_range.mpr (by omega)) (by omega) hk
theorem UNPf {μ0 μ m : Mem} {c t : Nat} {o f v : Int} (h : UN μ0 μ) (hc : (c == 5 || c == 1 || c == 7) = true) (hx : pf μ c f t o v = some m) : UN μ0 m := by
  obtain ⟨hp, hx⟩ := ifSome hx
  have hk : kd o = 5 ∨ kd o = 1 ∨ kd o = 7 := by
    rw [hp.1]
    simp only [Bool.or_eq_true, beq_iff_eq] at hc
    omega
  exact UNP h ⟨uB_k hp.2.1 hk, hp.2.1⟩ hx
theorem uo_1 : uB 1 = false ∧ 0 < (1 : Int) := by decide
theorem uo_2 : uB 2 = false ∧ 0 < (2 : Int) := by decide
theorem uo_3 : uB 3 = false ∧ 0 < (3 : Int) := by decide
theorem uo_71 : uB 71 = false ∧ 0 < (71 : Int) := by decide
theorem uo_79 : uB 79 = false ∧ 0 < (79 : Int) := by decide
theorem uo_80 : uB 80 = false ∧ 0 < (80 : Int) := by decide
theorem uo_81 : uB 81 = false ∧ 0 < (81 : Int) := by decide
theorem uo_221 : uB 221 = false ∧ 0 < (221 : Int) := by decide
theorem uo_222 : uB 222 = false ∧ 0 < (222 : Int) := by decide
theorem uo_223 : uB 223 = false ∧ 0 < (223 : Int) := by decide
theorem uo_224 : uB 224 = false ∧ 0 < (224 : Int) := by decide
theorem uo_225 : uB 225 = false ∧ 0 < (225 : Int) := by decide
theorem uo_226 : uB 226 = false ∧ 0 < (226 : Int) := by decide
theorem uo_227 : uB 227 = false ∧ 0 < (227 : Int) := by decide
theorem uo_228 : uB 228 = false ∧ 0 < (228 : Int) := by decide
theorem uo_229 : uB 229 = false ∧ 0 < (229 : Int) := by decide
theorem uo_230 : uB 230 = false ∧ 0 < (230 : Int) := by decide
theorem uo_241 : uB 241 = false ∧ 0 < (241 : Int) := by decide
theorem uo_242 : uB 242 = false ∧ 0 < (242 : Int) := by decide
theorem uo_243 : uB 243 = false ∧ 0 < (243 : Int) := by decide
theorem uo_244 : uB 244 = false ∧ 0 < (244 : Int) := by decide
theorem uo_245 : uB 245 = false ∧ 0 < (245 : Int) := by decide
theorem uo_246 : uB 246 = false ∧ 0 < (246 : Int) := by decide
theorem uo_247 : uB 247 = false ∧ 0 < (247 : Int) := by decide
theorem uo_248 : uB 248 = false ∧ 0 < (248 : Int) := by decide
theorem uo_249 : uB 249 = false ∧ 0 < (249 : Int) := by decide
theorem uo_250 : uB 250 = false ∧ 0 < (250 : Int) := by decide
theorem uo_252 : uB 252 = false ∧ 0 < (252 : Int) := by decide
theorem uo_253 : uB 253 = false ∧ 0 < (253 : Int) := by decide
theorem uo_254 : uB 254 = false ∧ 0 < (254 : Int) := by decide
theorem uo_255 : uB 255 = false ∧ 0 < (255 : Int) := by decide
theorem uo_257 : uB 257 = false ∧ 0 < (257 : Int) := by decide
theorem uo_258 : uB 258 = false ∧ 0 < (258 : Int) := by decide
theorem un_D_putNumber_3 {μ0 : Mem}  {l1 : Int}  : ∀ {n : Nat} {μ : Mem} {l2 : Int} {r : Mem}, D_putNumber_3 l1 n μ l2 = some r → UN μ0 μ → UN μ0 r := by
  intro n
  induction n with
  | zero =>
    intro μ l2 r h
    exact noneS h
  | succ n ih =>
    intro μ l2 r h hF
    rw [D_putNumber_3] at h
    by_cases c7 : l2 < 0
    · replace h := ifT c7 h
      replace h := Option.some.inj h
      subst h
      exact hF
    · replace h := ifF c7 h
      obtain ⟨m1, h2, h⟩ := bindS h
      have hF3 := UNS hF uo_2 h2
      obtain ⟨m4, h5, h⟩ := bindS h
      have hF6 := UNP hF3 uo_1 h5
      exact ih h hF6
theorem un_D_putNumber {μ0 μ : Mem}  {a1 : Int} {r : Mem}  (h : D_putNumber μ a1 = some r) (hF : UN μ0 μ) : UN μ0 r := by
  unfold D_putNumber at h
  exact un_D_putNumber_3 h hF
theorem un_D_feed {μ0 μ : Mem}  {a1 : Int} {a2 : Int} {a3 : Int} {a4 : Int} {a5 : Int} {r : Int × Mem}  (h : D_feed μ a1 a2 a3 a4 a5 = some r) (hF : UN μ0 μ) : UN μ0 r.2 := by
  unfold D_feed at h
  by_cases c16 : (jadd (μ 1 1) 20) ≤ 6000
  · replace h := ifT c16 h
    obtain ⟨m1, h2, h⟩ := bindS h
    have hF3 := un_D_putNumber h2 hF
    obtain ⟨m4, h5, h⟩ := bindS h
    have hF6 := un_D_putNumber h5 hF3
    obtain ⟨m7, h8, h⟩ := bindS h
    have hF9 := un_D_putNumber h8 hF6
    obtain ⟨m10, h11, h⟩ := bindS h
    have hF12 := un_D_putNumber h11 hF9
    obtain ⟨m13, h14, h⟩ := bindS h
    have hF15 := un_D_putNumber h14 hF12
    replace h := Option.some.inj h
    subst h
    exact hF15
  · replace h := ifF c16 h
    replace h := Option.some.inj h
    subst h
    exact hF
theorem un_D_end {μ0 μ : Mem}  {a1 : Int} {r : Int × Mem}  (h : D_end μ a1 = some r) (hF : UN μ0 μ) : UN μ0 r.2 := by
  unfold D_end at h
  by_cases c5 : a1 < 0
  · replace h := ifT c5 h
    replace h := Option.some.inj h
    subst h
    exact hF
  · replace h := ifF c5 h
    by_cases c4 : a1 ≤ (μ 1 1)
    · replace h := ifT c4 h
      obtain ⟨m1, h2, h⟩ := bindS h
      have hF3 := UNP hF uo_1 h2
      replace h := Option.some.inj h
      subst h
      exact hF3
    · replace h := ifF c4 h
      replace h := Option.some.inj h
      subst h
      exact hF
theorem un_Rd_open {μ0 μ : Mem}  {a2 : Int} {r : Mem}  (h : Rd_open μ a2 = some r) (hF : UN μ0 μ) : UN μ0 r := by
  unfold Rd_open at h
  obtain ⟨m1, h2, h⟩ := bindS h
  have hF3 := UNP hF uo_250 h2
  obtain ⟨m4, h5, h⟩ := bindS h
  have hF6 := UNP hF3 uo_250 h5
  obtain ⟨m7, h8, h⟩ := bindS h
  have hF9 := UNP hF6 uo_250 h8
  replace h := Option.some.inj h
  subst h
  exact hF9
theorem un_Rd_skipBlanks_39 {μ0 μ : Mem} {K0 : Mem → Option (Mem)}  {r : Mem} (hK0 : ∀ {μ : Mem} {r : Mem}, K0 μ = some r → UN μ0 μ → UN μ0 r) (h : Rd_skipBlanks_39 K0 μ = some r) (hF : UN μ0 μ) : UN μ0 r := by
  unfold Rd_skipBlanks_39 at h
  obtain ⟨m1, h2, h⟩ := bindS h
  have hF3 := UNP hF uo_250 h2
  exact hK0 h hF3
theorem un_Rd_skipBlanks_0 {μ0 : Mem}    : ∀ {n : Nat} {μ : Mem} {r : Mem}, Rd_skipBlanks_0 n μ = some r → UN μ0 μ → UN μ0 r := by
  intro n
  induction n with
  | zero =>
    intro μ r h
    exact noneS h
  | succ n ih =>
    intro μ r h hF
    rw [Rd_skipBlanks_0] at h
    by_cases c7 : (μ 250 3) ≤ (μ 250 4)
    · replace h := ifT c7 h
      replace h := Option.some.inj h
      subst h
      exact hF
    · replace h := ifF c7 h
      obtain ⟨x1, h2, h⟩ := bindS h
      by_cases c6 : x1 = 32
      · replace h := ifT c6 h
        exact un_Rd_skipBlanks_39 ih h hF
      · replace h := ifF c6 h
        obtain ⟨x3, h4, h⟩ := bindS h
        by_cases c5 : x3 ≠ 10
        · replace h := ifT c5 h
          replace h := Option.some.inj h
          subst h
          exact hF
        · replace h := ifF c5 h
          exact un_Rd_skipBlanks_39 ih h hF
theorem un_Rd_skipBlanks {μ0 μ : Mem}  {r : Mem} (h : Rd_skipBlanks μ = some r) (hF : UN μ0 μ) : UN μ0 r := un_Rd_skipBlanks_0 h hF
theorem un_Rd_addToken {μ0 μ : Mem}  {a1 : Int} {a2 : Int} {a3 : Int} {r : Int × Mem}  (h : Rd_addToken μ a1 a2 a3 = some r) (hF : UN μ0 μ) : UN μ0 r.2 := by
  unfold Rd_addToken at h
  obtain ⟨m1, h2, h⟩ := bindS h
  have hF3 := UNS hF uo_252 h2
  obtain ⟨m4, h5, h⟩ := bindS h
  have hF6 := UNS hF3 uo_253 h5
  obtain ⟨m7, h8, h⟩ := bindS h
  have hF9 := UNS hF6 uo_254 h8
  obtain ⟨m10, h11, h⟩ := bindS h
  have hF12 := UNP hF9 uo_250 h11
  obtain ⟨m13, h14, h⟩ := bindS h
  have hF15 := UNP hF12 uo_250 h14
  replace h := Option.some.inj h
  subst h
  exact hF15
theorem un_Rd_scanToken_78 {μ0 μ : Mem}  {l2 : Int} {s0 : Int} {r : Int × Mem}  (h : Rd_scanToken_78 μ l2 s0 = some r) (hF : UN μ0 μ) : UN μ0 r.2 := by
  unfold Rd_scanToken_78 at h
  obtain ⟨p1, h2, h⟩ := bindS h
  have hF3 := un_Rd_addToken h2 hF
  replace h := Option.some.inj h
  subst h
  exact hF3
theorem un_Rd_scanToken_135 {μ0 μ : Mem}  {l1 : Int} {r : Int × Mem}  (h : Rd_scanToken_135 μ l1 = some r) (hF : UN μ0 μ) : UN μ0 r.2 := by
  unfold Rd_scanToken_135 at h
  obtain ⟨x1, h2, h⟩ := bindS h
  obtain ⟨p3, h4, h⟩ := bindS h
  have hF5 := un_Rd_addToken h4 hF
  replace h := Option.some.inj h
  subst h
  exact hF5
theorem un_Rd_scanToken_87 {μ0 μ : Mem}  {l1 : Int} {r : Int × Mem}  (h : Rd_scanToken_87 μ l1 = some r) (hF : UN μ0 μ) : UN μ0 r.2 := by
  unfold Rd_scanToken_87 at h
  by_cases c13 : l1 < 48
  · replace h := ifT c13 h
    exact un_Rd_scanToken_135 h hF
  · replace h := ifF c13 h
    by_cases c12 : 57 < l1
    · replace h := ifT c12 h
      exact un_Rd_scanToken_135 h hF
    · replace h := ifF c12 h
      obtain ⟨x1, h2, h⟩ := bindS h
      by_cases c11 : x1 ≤ 4
      · replace h := ifT c11 h
        obtain ⟨x3, h4, h⟩ := bindS h
        obtain ⟨p5, h6, h⟩ := bindS h
        have hF7 := un_Rd_addToken h6 hF
        replace h := Option.some.inj h
        subst h
        exact hF7
      · replace h := ifF c11 h
        obtain ⟨p8, h9, h⟩ := bindS h
        have hF10 := un_Rd_addToken h9 hF
        replace h := Option.some.inj h
        subst h
        exact hF10
theorem un_Rd_scanToken {μ0 μ : Mem}   {r : Int × Mem}  (h : Rd_scanToken μ = some r) (hF : UN μ0 μ) : UN μ0 r.2 := by
  unfold Rd_scanToken at h
  by_cases c13 : (μ 250 4) < (μ 250 3)
  · replace h := ifT c13 h
    obtain ⟨x1, h2, h⟩ := bindS h
    by_cases c9 : x1 < 97
    · replace h := ifT c9 h
      exact un_Rd_scanToken_87 h hF
    · replace h := ifF c9 h
      by_cases c8 : 122 < x1
      · replace h := ifT c8 h
        exact un_Rd_scanToken_87 h hF
      · replace h := ifF c8 h
        obtain ⟨x3, h4, h⟩ := bindS h
        by_cases c7 : x3 ≤ 9
        · replace h := ifT c7 h
          obtain ⟨x5, h6, h⟩ := bindS h
          exact un_Rd_scanToken_78 h hF
        · replace h := ifF c7 h
          exact un_Rd_scanToken_78 h hF
  · replace h := ifF c13 h
    obtain ⟨p10, h11, h⟩ := bindS h
    have hF12 := un_Rd_addToken h11 hF
    replace h := Option.some.inj h
    subst h
    exact hF12
theorem un_Rd_scan_63 {μ0 μ : Mem}  {l1 : Int} {r : Mem}  (h : Rd_scan_63 μ l1 = some r) (hF : UN μ0 μ) : UN μ0 r := by
  unfold Rd_scan_63 at h
  by_cases c7 : l1 = 0
  · replace h := ifT c7 h
    replace h := Option.some.inj h
    subst h
    exact hF
  · replace h := ifF c7 h
    obtain ⟨m1, h2, h⟩ := bindS h
    have hF3 := un_Rd_skipBlanks h2 hF
    obtain ⟨p4, h5, h⟩ := bindS h
    have hF6 := un_Rd_addToken h5 hF3
    replace h := Option.some.inj h
    subst h
    exact hF6
theorem un_Rd_scan_14 {μ0 : Mem}    : ∀ {n : Nat} {μ : Mem} {l1 : Int} {l2 : Int} {r : Mem}, Rd_scan_14 n μ l1 l2 = some r → UN μ0 μ → UN μ0 r := by
  intro n
  induction n with
  | zero =>
    intro μ l1 l2 r h
    exact noneS h
  | succ n ih =>
    intro μ l1 l2 r h hF
    rw [Rd_scan_14] at h
    by_cases c13 : 120 ≤ l2
    · replace h := ifT c13 h
      exact un_Rd_scan_63 h hF
    · replace h := ifF c13 h
      by_cases c12 : l1 = 0
      · replace h := ifT c12 h
        exact un_Rd_scan_63 h hF
      · replace h := ifF c12 h
        obtain ⟨m1, h2, h⟩ := bindS h
        have hF3 := un_Rd_skipBlanks h2 hF
        obtain ⟨p4, h5, h⟩ := bindS h
        have hF6 := un_Rd_scanToken h5 hF3
        obtain ⟨x7, h8, h⟩ := bindS h
        by_cases c11 : x7 = 70
        · replace h := ifT c11 h
          exact ih h hF6
        · replace h := ifF c11 h
          by_cases c10 : x7 = 76
          · replace h := ifT c10 h
            exact ih h hF6
          · replace h := ifF c10 h
            by_cases c9 : x7 = 77
            · replace h := ifT c9 h
              exact ih h hF6
            · replace h := ifF c9 h
              exact ih h hF6
theorem un_Rd_scan {μ0 μ : Mem}   {r : Mem}  (h : Rd_scan μ = some r) (hF : UN μ0 μ) : UN μ0 r := by
  unfold Rd_scan at h
  obtain ⟨m1, h2, h⟩ := bindS h
  have hF3 := UNP hF uo_250 h2
  obtain ⟨m4, h5, h⟩ := bindS h
  have hF6 := UNP hF3 uo_250 h5
  exact un_Rd_scan_14 h hF6
theorem un_Row_clear {μ0 μ : Mem}   {r : Mem}  (h : Row_clear μ = some r) (hF : UN μ0 μ) : UN μ0 r := by
  unfold Row_clear at h
  obtain ⟨m1, h2, h⟩ := bindS h
  have hF3 := UNP hF uo_248 h2
  replace h := Option.some.inj h
  subst h
  exact hF3
theorem un_Ar_fill_5 {μ0 : Mem}  {l0 : Int} {l1 : Int} {l3 : Int}  : ∀ {n : Nat} {μ : Mem} {l2 : Int} {r : Mem}, Ar_fill_5 l0 l1 l3 n μ l2 = some r → UN μ0 μ → UN μ0 r := by
  intro n
  induction n with
  | zero =>
    intro μ l2 r h
    exact noneS h
  | succ n ih =>
    intro μ l2 r h hF
    rw [Ar_fill_5] at h
    by_cases c4 : l3 ≤ l2
    · replace h := ifT c4 h
      replace h := Option.some.inj h
      subst h
      exact hF
    · replace h := ifF c4 h
      obtain ⟨m1, h2, h⟩ := bindS h
      have hF3 := UND hF h2
      exact ih h hF3
theorem un_Ar_fill {μ0 μ : Mem}  {a0 : Int} {a1 : Int} {r : Mem}  (h : Ar_fill μ a0 a1 = some r) (hF : UN μ0 μ) : UN μ0 r := by
  unfold Ar_fill at h
  obtain ⟨x1, h2, h⟩ := bindS h
  exact un_Ar_fill_5 h hF
theorem un_St_begin {μ0 μ : Mem}   {r : Mem}  (h : St_begin μ = some r) (hF : UN μ0 μ) : UN μ0 r := by
  unfold St_begin at h
  obtain ⟨m1, h2, h⟩ := bindS h
  have hF3 := UNP hF uo_241 h2
  obtain ⟨m4, h5, h⟩ := bindS h
  have hF6 := UNP hF3 uo_241 h5
  obtain ⟨m7, h8, h⟩ := bindS h
  have hF9 := un_Ar_fill h8 hF6
  obtain ⟨m10, h11, h⟩ := bindS h
  have hF12 := UNP hF9 uo_241 h11
  obtain ⟨m13, h14, h⟩ := bindS h
  have hF15 := UNP hF12 uo_241 h14
  obtain ⟨m16, h17, h⟩ := bindS h
  have hF18 := UNP hF15 uo_241 h17
  obtain ⟨m19, h20, h⟩ := bindS h
  have hF21 := un_Row_clear h20 hF18
  replace h := Option.some.inj h
  subst h
  exact hF21
theorem un_Rd_pass {μ0 μ : Mem}  {a1 : Int} {r : Int × Mem}  (h : Rd_pass μ a1 = some r) (hF : UN μ0 μ) : UN μ0 r.2 := by
  unfold Rd_pass at h
  obtain ⟨x1, h2, h⟩ := bindS h
  by_cases c6 : x1 = a1
  · replace h := ifT c6 h
    obtain ⟨m3, h4, h⟩ := bindS h
    have hF5 := UNP hF uo_250 h4
    replace h := Option.some.inj h
    subst h
    exact hF5
  · replace h := ifF c6 h
    replace h := Option.some.inj h
    subst h
    exact hF
theorem un_St_addTerm {μ0 μ : Mem}  {a1 : Int} {a2 : Int} {a3 : Int} {a4 : Int} {r : Mem}  (h : St_addTerm μ a1 a2 a3 a4 = some r) (hF : UN μ0 μ) : UN μ0 r := by
  unfold St_addTerm at h
  by_cases c18 : 120 ≤ (μ 241 8)
  · replace h := ifT c18 h
    replace h := Option.some.inj h
    subst h
    exact hF
  · replace h := ifF c18 h
    obtain ⟨x1, h2, h⟩ := bindS h
    obtain ⟨m3, h4, h⟩ := bindS h
    have hF5 := UNS hF uo_246 h4
    obtain ⟨m6, h7, h⟩ := bindS h
    have hF8 := UNS hF5 uo_246 h7
    obtain ⟨m9, h10, h⟩ := bindS h
    have hF11 := UNS hF8 uo_246 h10
    obtain ⟨m12, h13, h⟩ := bindS h
    have hF14 := UNS hF11 uo_246 h13
    obtain ⟨m15, h16, h⟩ := bindS h
    have hF17 := UNP hF14 uo_241 h16
    replace h := Option.some.inj h
    subst h
    exact hF17
theorem un_St_addItem {μ0 μ : Mem}  {a1 : Int} {a2 : Int} {a3 : Int} {r : Mem}  (h : St_addItem μ a1 a2 a3 = some r) (hF : UN μ0 μ) : UN μ0 r := by
  unfold St_addItem at h
  by_cases c13 : 240 ≤ (μ 241 6)
  · replace h := ifT c13 h
    replace h := Option.some.inj h
    subst h
    exact hF
  · replace h := ifF c13 h
    obtain ⟨m1, h2, h⟩ := bindS h
    have hF3 := UNS hF uo_243 h2
    obtain ⟨m4, h5, h⟩ := bindS h
    have hF6 := UNS hF3 uo_244 h5
    obtain ⟨m7, h8, h⟩ := bindS h
    have hF9 := UNS hF6 uo_245 h8
    obtain ⟨m10, h11, h⟩ := bindS h
    have hF12 := UNP hF9 uo_241 h11
    replace h := Option.some.inj h
    subst h
    exact hF12
theorem un_Rd_passNumber {μ0 μ : Mem}  {a1 : Int} {r : Int × Mem}  (h : Rd_passNumber μ a1 = some r) (hF : UN μ0 μ) : UN μ0 r.2 := by
  unfold Rd_passNumber at h
  obtain ⟨x1, h2, h⟩ := bindS h
  by_cases c13 : x1 = 75
  · replace h := ifT c13 h
    obtain ⟨x3, h4, h⟩ := bindS h
    obtain ⟨x5, h6, h⟩ := bindS h
    obtain ⟨m7, h8, h⟩ := bindS h
    have hF9 := un_St_addItem h8 hF
    obtain ⟨m10, h11, h⟩ := bindS h
    have hF12 := UNP hF9 uo_250 h11
    replace h := Option.some.inj h
    subst h
    exact hF12
  · replace h := ifF c13 h
    replace h := Option.some.inj h
    subst h
    exact hF
theorem un_Rd_readTerm_79 {μ0 μ : Mem}  {l1 : Int} {l2 : Int} {s1 : Int} {r : Int × Mem}  (h : Rd_readTerm_79 μ l1 l2 s1 = some r) (hF : UN μ0 μ) : UN μ0 r.2 := by
  unfold Rd_readTerm_79 at h
  obtain ⟨p1, h2, h⟩ := bindS h
  have hF3 := un_Rd_passNumber h2 hF
  by_cases c24 : p1.1 ≠ 0
  · replace h := ifT c24 h
    obtain ⟨x4, h5, h⟩ := bindS h
    by_cases c23 : l2 ≠ 0
    · replace h := ifT c23 h
      obtain ⟨m6, h7, h⟩ := bindS h
      have hF8 := UNP hF3 uo_250 h7
      obtain ⟨p9, h10, h⟩ := bindS h
      have hF11 := un_Rd_passNumber h10 hF8
      obtain ⟨x12, h13, h⟩ := bindS h
      obtain ⟨x14, h15, h⟩ := bindS h
      obtain ⟨m16, h17, h⟩ := bindS h
      have hF18 := un_St_addTerm h17 hF11
      obtain ⟨h19, h⟩ := ifSome h
      replace h := Option.some.inj h
      subst h
      exact hF18
    · replace h := ifF c23 h
      obtain ⟨m20, h21, h⟩ := bindS h
      have hF22 := un_St_addTerm h21 hF3
      replace h := Option.some.inj h
      subst h
      exact hF22
  · replace h := ifF c24 h
    replace h := Option.some.inj h
    subst h
    exact hF3
theorem un_Rd_readTerm_68 {μ0 μ : Mem}  {l1 : Int} {s0 : Int} {r : Int × Mem}  (h : Rd_readTerm_68 μ l1 s0 = some r) (hF : UN μ0 μ) : UN μ0 r.2 := by
  unfold Rd_readTerm_68 at h
  by_cases c1 : s0 = 0
  · replace h := ifT c1 h
    exact un_Rd_readTerm_79 h hF
  · replace h := ifF c1 h
    exact un_Rd_readTerm_79 h hF
theorem un_Rd_readTerm {μ0 μ : Mem}  {a1 : Int} {r : Int × Mem}  (h : Rd_readTerm μ a1 = some r) (hF : UN μ0 μ) : UN μ0 r.2 := by
  unfold Rd_readTerm at h
  obtain ⟨p1, h2, h⟩ := bindS h
  have hF3 := un_Rd_pass h2 hF
  by_cases c25 : p1.1 = 0
  · replace h := ifT c25 h
    obtain ⟨p4, h5, h⟩ := bindS h
    have hF6 := un_Rd_pass h5 hF3
    by_cases c21 : p4.1 = 0
    · replace h := ifT c21 h
      obtain ⟨x7, h8, h⟩ := bindS h
      by_cases c9 : x7 ≠ 65
      · replace h := ifT c9 h
        exact un_Rd_readTerm_68 h hF6
      · replace h := ifF c9 h
        exact un_Rd_readTerm_68 h hF6
    · replace h := ifF c21 h
      obtain ⟨p10, h11, h⟩ := bindS h
      have hF12 := un_Rd_passNumber h11 hF6
      obtain ⟨x13, h14, h⟩ := bindS h
      obtain ⟨x15, h16, h⟩ := bindS h
      obtain ⟨m17, h18, h⟩ := bindS h
      have hF19 := un_St_addTerm h18 hF12
      obtain ⟨h20, h⟩ := ifSome h
      replace h := Option.some.inj h
      subst h
      exact hF19
  · replace h := ifF c25 h
    obtain ⟨m22, h23, h⟩ := bindS h
    have hF24 := un_St_addTerm h23 hF3
    replace h := Option.some.inj h
    subst h
    exact hF24
theorem un_Rd_readSet_57 {μ0 μ : Mem} {K10 : Mem → Int → Int → Option (Int × Mem)} {l1 : Int} {l2 : Int} {l3 : Int} {r : Int × Mem} (hK10 : ∀ {μ : Mem} {l2 : Int} {l3 : Int} {r : Int × Mem}, K10 μ l2 l3 = some r → UN μ0 μ → UN μ0 r.2) (h : Rd_readSet_57 K10 μ l1 l2 l3 = some r) (hF : UN μ0 μ) : UN μ0 r.2 := by
  unfold Rd_readSet_57 at h
  obtain ⟨m1, h2, h⟩ := bindS h
  have hF3 := UNP hF uo_250 h2
  exact hK10 h hF3
theorem un_Rd_readSet_10 {μ0 : Mem}  {l1 : Int}  : ∀ {n : Nat} {μ : Mem} {l2 : Int} {l3 : Int} {r : Int × Mem}, Rd_readSet_10 l1 n μ l2 l3 = some r → UN μ0 μ → UN μ0 r.2 := by
  intro n
  induction n with
  | zero =>
    intro μ l2 l3 r h
    exact noneS h
  | succ n ih =>
    intro μ l2 l3 r h hF
    rw [Rd_readSet_10] at h
    by_cases c12 : 120 ≤ l3
    · replace h := ifT c12 h
      replace h := Option.some.inj h
      subst h
      exact hF
    · replace h := ifF c12 h
      obtain ⟨p1, h2, h⟩ := bindS h
      have hF3 := un_Rd_readTerm h2 hF
      by_cases c11 : p1.1 ≠ 0
      · replace h := ifT c11 h
        obtain ⟨x4, h5, h⟩ := bindS h
        by_cases c10 : x4 = 71
        · replace h := ifT c10 h
          exact un_Rd_readSet_57 ih h hF3
        · replace h := ifF c10 h
          by_cases c9 : x4 = 72
          · replace h := ifT c9 h
            exact un_Rd_readSet_57 ih h hF3
          · replace h := ifF c9 h
            obtain ⟨m6, h7, h⟩ := bindS h
            have hF8 := un_St_addItem h7 hF3
            replace h := Option.some.inj h
            subst h
            exact hF8
      · replace h := ifF c11 h
        replace h := Option.some.inj h
        subst h
        exact hF3
theorem un_Rd_readSet {μ0 μ : Mem}   {r : Int × Mem}  (h : Rd_readSet μ = some r) (hF : UN μ0 μ) : UN μ0 r.2 := by
  unfold Rd_readSet at h
  obtain ⟨x1, h2, h⟩ := bindS h
  exact un_Rd_readSet_10 h hF
theorem un_St_addWhat {μ0 μ : Mem}  {a1 : Int} {a2 : Int} {a3 : Int} {a4 : Int} {r : Mem}  (h : St_addWhat μ a1 a2 a3 a4 = some r) (hF : UN μ0 μ) : UN μ0 r := by
  unfold St_addWhat at h
  by_cases c18 : 120 ≤ (μ 241 10)
  · replace h := ifT c18 h
    replace h := Option.some.inj h
    subst h
    exact hF
  · replace h := ifF c18 h
    obtain ⟨x1, h2, h⟩ := bindS h
    obtain ⟨m3, h4, h⟩ := bindS h
    have hF5 := UNS hF uo_247 h4
    obtain ⟨m6, h7, h⟩ := bindS h
    have hF8 := UNS hF5 uo_247 h7
    obtain ⟨m9, h10, h⟩ := bindS h
    have hF11 := UNS hF8 uo_247 h10
    obtain ⟨m12, h13, h⟩ := bindS h
    have hF14 := UNS hF11 uo_247 h13
    obtain ⟨m15, h16, h⟩ := bindS h
    have hF17 := UNP hF14 uo_241 h16
    replace h := Option.some.inj h
    subst h
    exact hF17
theorem un_Rd_readParameterWhat_119 {μ0 μ : Mem}  {l3 : Int} {s1 : Int} {s2 : Int} {s3 : Int} {r : Int × Mem}  (h : Rd_readParameterWhat_119 μ l3 s1 s2 s3 = some r) (hF : UN μ0 μ) : UN μ0 r.2 := by
  unfold Rd_readParameterWhat_119 at h
  obtain ⟨m1, h2, h⟩ := bindS h
  have hF3 := un_St_addWhat h2 hF
  obtain ⟨h4, h⟩ := ifSome h
  replace h := Option.some.inj h
  subst h
  exact hF3
theorem un_Rd_readParameterWhat_78 {μ0 μ : Mem}  {l1 : Int} {l2 : Int} {r : Int × Mem}  (h : Rd_readParameterWhat_78 μ l1 l2 = some r) (hF : UN μ0 μ) : UN μ0 r.2 := by
  unfold Rd_readParameterWhat_78 at h
  obtain ⟨m1, h2, h⟩ := bindS h
  have hF3 := UNP hF uo_250 h2
  obtain ⟨p4, h5, h⟩ := bindS h
  have hF6 := un_Rd_passNumber h5 hF3
  obtain ⟨x7, h8, h⟩ := bindS h
  by_cases c13 : l2 ≠ 71
  · replace h := ifT c13 h
    obtain ⟨x9, h10, h⟩ := bindS h
    exact un_Rd_readParameterWhat_119 h hF6
  · replace h := ifF c13 h
    obtain ⟨x11, h12, h⟩ := bindS h
    exact un_Rd_readParameterWhat_119 h hF6
theorem un_Rd_readParameterWhat {μ0 μ : Mem}  {a1 : Int} {r : Int × Mem}  (h : Rd_readParameterWhat μ a1 = some r) (hF : UN μ0 μ) : UN μ0 r.2 := by
  unfold Rd_readParameterWhat at h
  obtain ⟨p1, h2, h⟩ := bindS h
  have hF3 := un_Rd_pass h2 hF
  by_cases c50 : p1.1 = 0
  · replace h := ifT c50 h
    obtain ⟨p4, h5, h⟩ := bindS h
    have hF6 := un_Rd_pass h5 hF3
    by_cases c46 : p4.1 = 0
    · replace h := ifT c46 h
      obtain ⟨x7, h8, h⟩ := bindS h
      by_cases c34 : x7 = 71
      · replace h := ifT c34 h
        exact un_Rd_readParameterWhat_78 h hF6
      · replace h := ifF c34 h
        by_cases c33 : x7 ≠ 72
        · replace h := ifT c33 h
          obtain ⟨p9, h10, h⟩ := bindS h
          have hF11 := un_Rd_passNumber h10 hF6
          by_cases c32 : p9.1 ≠ 0
          · replace h := ifT c32 h
            obtain ⟨x12, h13, h⟩ := bindS h
            obtain ⟨p14, h15, h⟩ := bindS h
            have hF16 := un_Rd_pass h15 hF11
            by_cases c31 : p14.1 ≠ 0
            · replace h := ifT c31 h
              obtain ⟨p17, h18, h⟩ := bindS h
              have hF19 := un_Rd_passNumber h18 hF16
              obtain ⟨x20, h21, h⟩ := bindS h
              obtain ⟨x22, h23, h⟩ := bindS h
              obtain ⟨m24, h25, h⟩ := bindS h
              have hF26 := un_St_addWhat h25 hF19
              obtain ⟨h27, h⟩ := ifSome h
              replace h := Option.some.inj h
              subst h
              exact hF26
            · replace h := ifF c31 h
              obtain ⟨m28, h29, h⟩ := bindS h
              have hF30 := un_St_addWhat h29 hF16
              replace h := Option.some.inj h
              subst h
              exact hF30
          · replace h := ifF c32 h
            replace h := Option.some.inj h
            subst h
            exact hF11
        · replace h := ifF c33 h
          exact un_Rd_readParameterWhat_78 h hF6
    · replace h := ifF c46 h
      obtain ⟨p35, h36, h⟩ := bindS h
      have hF37 := un_Rd_passNumber h36 hF6
      obtain ⟨x38, h39, h⟩ := bindS h
      obtain ⟨x40, h41, h⟩ := bindS h
      obtain ⟨m42, h43, h⟩ := bindS h
      have hF44 := un_St_addWhat h43 hF37
      obtain ⟨h45, h⟩ := ifSome h
      replace h := Option.some.inj h
      subst h
      exact hF44
  · replace h := ifF c50 h
    obtain ⟨m47, h48, h⟩ := bindS h
    have hF49 := un_St_addWhat h48 hF3
    replace h := Option.some.inj h
    subst h
    exact hF49
theorem un_Rd_readWhats_59 {μ0 μ : Mem} {K2 : Mem → Int → Option (Int × Mem)} {l1 : Int} {r : Int × Mem} (hK2 : ∀ {μ : Mem} {l1 : Int} {r : Int × Mem}, K2 μ l1 = some r → UN μ0 μ → UN μ0 r.2) (h : Rd_readWhats_59 K2 μ l1 = some r) (hF : UN μ0 μ) : UN μ0 r.2 := by
  unfold Rd_readWhats_59 at h
  obtain ⟨p1, h2, h⟩ := bindS h
  have hF3 := un_Rd_pass h2 hF
  by_cases c28 : p1.1 = 0
  · replace h := ifT c28 h
    obtain ⟨p4, h5, h⟩ := bindS h
    have hF6 := un_Rd_pass h5 hF3
    by_cases c18 : p4.1 = 0
    · replace h := ifT c18 h
      obtain ⟨p7, h8, h⟩ := bindS h
      have hF9 := un_Rd_pass h8 hF6
      by_cases c14 : p7.1 = 0
      · replace h := ifT c14 h
        by_cases c10 : l1 ≤ 0
        · replace h := ifT c10 h
          replace h := Option.some.inj h
          subst h
          exact hF9
        · replace h := ifF c10 h
          replace h := Option.some.inj h
          subst h
          exact hF9
      · replace h := ifF c14 h
        obtain ⟨m11, h12, h⟩ := bindS h
        have hF13 := un_St_addWhat h12 hF9
        exact hK2 h hF13
    · replace h := ifF c18 h
      obtain ⟨m15, h16, h⟩ := bindS h
      have hF17 := un_St_addWhat h16 hF6
      exact hK2 h hF17
  · replace h := ifF c28 h
    obtain ⟨p19, h20, h⟩ := bindS h
    have hF21 := un_Rd_passNumber h20 hF3
    by_cases c27 : p19.1 ≠ 0
    · replace h := ifT c27 h
      obtain ⟨x22, h23, h⟩ := bindS h
      obtain ⟨m24, h25, h⟩ := bindS h
      have hF26 := un_St_addWhat h25 hF21
      exact hK2 h hF26
    · replace h := ifF c27 h
      replace h := Option.some.inj h
      subst h
      exact hF21
theorem un_Rd_readWhats_28 {μ0 μ : Mem} {K2 : Mem → Int → Option (Int × Mem)} {l1 : Int} {s0 : Int} {r : Int × Mem} (hK2 : ∀ {μ : Mem} {l1 : Int} {r : Int × Mem}, K2 μ l1 = some r → UN μ0 μ → UN μ0 r.2) (h : Rd_readWhats_28 K2 μ l1 s0 = some r) (hF : UN μ0 μ) : UN μ0 r.2 := by
  unfold Rd_readWhats_28 at h
  by_cases c9 : s0 < 0
  · replace h := ifT c9 h
    exact un_Rd_readWhats_59 hK2 h hF
  · replace h := ifF c9 h
    by_cases c8 : 9 ≤ s0
    · replace h := ifT c8 h
      exact un_Rd_readWhats_59 hK2 h hF
    · replace h := ifF c8 h
      obtain ⟨m1, h2, h⟩ := bindS h
      have hF3 := UNP hF uo_250 h2
      obtain ⟨p4, h5, h⟩ := bindS h
      have hF6 := un_Rd_readParameterWhat h5 hF3
      by_cases c7 : p4.1 ≠ 0
      · replace h := ifT c7 h
        exact hK2 h hF6
      · replace h := ifF c7 h
        replace h := Option.some.inj h
        subst h
        exact hF6
theorem un_Rd_readWhats_2 {μ0 : Mem}    : ∀ {n : Nat} {μ : Mem} {l1 : Int} {r : Int × Mem}, Rd_readWhats_2 n μ l1 = some r → UN μ0 μ → UN μ0 r.2 := by
  intro n
  induction n with
  | zero =>
    intro μ l1 r h
    exact noneS h
  | succ n ih =>
    intro μ l1 r h hF
    rw [Rd_readWhats_2] at h
    by_cases c4 : 120 ≤ l1
    · replace h := ifT c4 h
      replace h := Option.some.inj h
      subst h
      exact hF
    · replace h := ifF c4 h
      obtain ⟨x1, h2, h⟩ := bindS h
      by_cases c3 : x1 ≠ 74
      · replace h := ifT c3 h
        exact un_Rd_readWhats_28 ih h hF
      · replace h := ifF c3 h
        exact un_Rd_readWhats_28 ih h hF
theorem un_Rd_readWhats {μ0 μ : Mem}   {r : Int × Mem}  (h : Rd_readWhats μ = some r) (hF : UN μ0 μ) : UN μ0 r.2 := by
  unfold Rd_readWhats at h
  exact un_Rd_readWhats_2 h hF
theorem un_Rd_tellNumber {μ0 μ : Mem}  {a1 : Int} {a2 : Int} {r : Int × Mem}  (h : Rd_tellNumber μ a1 a2 = some r) (hF : UN μ0 μ) : UN μ0 r.2 := by
  unfold Rd_tellNumber at h
  obtain ⟨p1, h2, h⟩ := bindS h
  have hF3 := un_Rd_passNumber h2 hF
  by_cases c9 : p1.1 ≠ 0
  · replace h := ifT c9 h
    obtain ⟨x4, h5, h⟩ := bindS h
    obtain ⟨m6, h7, h⟩ := bindS h
    have hF8 := UNS hF3 uo_242 h7
    replace h := Option.some.inj h
    subst h
    exact hF8
  · replace h := ifF c9 h
    replace h := Option.some.inj h
    subst h
    exact hF3
theorem un_Rd_tellWord {μ0 μ : Mem}  {a1 : Int} {a2 : Int} {a3 : Int} {r : Int × Mem}  (h : Rd_tellWord μ a1 a2 a3 = some r) (hF : UN μ0 μ) : UN μ0 r.2 := by
  unfold Rd_tellWord at h
  obtain ⟨x1, h2, h⟩ := bindS h
  obtain ⟨x3, h4, h⟩ := bindS h
  by_cases c12 : x3 < 0
  · replace h := ifT c12 h
    replace h := Option.some.inj h
    subst h
    exact hF
  · replace h := ifF c12 h
    by_cases c11 : x3 < a3
    · replace h := ifT c11 h
      obtain ⟨m5, h6, h⟩ := bindS h
      have hF7 := UNS hF uo_242 h6
      obtain ⟨m8, h9, h⟩ := bindS h
      have hF10 := UNP hF7 uo_250 h9
      replace h := Option.some.inj h
      subst h
      exact hF10
    · replace h := ifF c11 h
      replace h := Option.some.inj h
      subst h
      exact hF
theorem un_Rd_readPatch_148 {μ0 μ : Mem} {K56 : Mem → Int → Option (Int × Mem)} {l2 : Int} {s1 : Int} {s2 : Int} {r : Int × Mem} (hK56 : ∀ {μ : Mem} {l2 : Int} {r : Int × Mem}, K56 μ l2 = some r → UN μ0 μ → UN μ0 r.2) (h : Rd_readPatch_148 K56 μ l2 s1 s2 = some r) (hF : UN μ0 μ) : UN μ0 r.2 := by
  unfold Rd_readPatch_148 at h
  obtain ⟨p1, h2, h⟩ := bindS h
  have hF3 := un_Rd_tellNumber h2 hF
  by_cases c4 : p1.1 ≠ 0
  · replace h := ifT c4 h
    exact hK56 h hF3
  · replace h := ifF c4 h
    replace h := Option.some.inj h
    subst h
    exact hF3
theorem un_Rd_readPatch_56 {μ0 : Mem}    : ∀ {n : Nat} {μ : Mem} {l2 : Int} {r : Int × Mem}, Rd_readPatch_56 n μ l2 = some r → UN μ0 μ → UN μ0 r.2 := by
  intro n
  induction n with
  | zero =>
    intro μ l2 r h
    exact noneS h
  | succ n ih =>
    intro μ l2 r h hF
    rw [Rd_readPatch_56] at h
    by_cases c18 : 120 ≤ l2
    · replace h := ifT c18 h
      replace h := Option.some.inj h
      subst h
      exact hF
    · replace h := ifF c18 h
      obtain ⟨x1, h2, h⟩ := bindS h
      by_cases c17 : x1 < 29
      · replace h := ifT c17 h
        replace h := Option.some.inj h
        subst h
        exact hF
      · replace h := ifF c17 h
        by_cases c16 : x1 ≤ 32
        · replace h := ifT c16 h
          obtain ⟨x3, h4, h⟩ := bindS h
          obtain ⟨x5, h6, h⟩ := bindS h
          by_cases c15 : x5 = 0
          · replace h := ifT c15 h
            obtain ⟨m7, h8, h⟩ := bindS h
            have hF9 := UNP hF uo_250 h8
            by_cases c14 : x1 < 31
            · replace h := ifT c14 h
              by_cases c10 : x1 ≠ 29
              · replace h := ifT c10 h
                exact un_Rd_readPatch_148 ih h hF9
              · replace h := ifF c10 h
                exact un_Rd_readPatch_148 ih h hF9
            · replace h := ifF c14 h
              obtain ⟨m11, h12, h⟩ := bindS h
              have hF13 := UNS hF9 uo_242 h12
              exact ih h hF13
          · replace h := ifF c15 h
            replace h := Option.some.inj h
            subst h
            exact hF
        · replace h := ifF c16 h
          replace h := Option.some.inj h
          subst h
          exact hF
theorem un_Rd_readPatch_47 {μ0 μ : Mem}  {s0 : Int} {r : Int × Mem}  (h : Rd_readPatch_47 μ s0 = some r) (hF : UN μ0 μ) : UN μ0 r.2 := by
  unfold Rd_readPatch_47 at h
  by_cases c1 : s0 ≠ 0
  · replace h := ifT c1 h
    exact un_Rd_readPatch_56 h hF
  · replace h := ifF c1 h
    replace h := Option.some.inj h
    subst h
    exact hF
theorem un_Rd_readPatch {μ0 μ : Mem}   {r : Int × Mem}  (h : Rd_readPatch μ = some r) (hF : UN μ0 μ) : UN μ0 r.2 := by
  unfold Rd_readPatch at h
  obtain ⟨p1, h2, h⟩ := bindS h
  have hF3 := un_Rd_tellNumber h2 hF
  by_cases c16 : p1.1 = 0
  · replace h := ifT c16 h
    exact un_Rd_readPatch_47 h hF3
  · replace h := ifF c16 h
    obtain ⟨p4, h5, h⟩ := bindS h
    have hF6 := un_Rd_tellWord h5 hF3
    by_cases c15 : p4.1 = 0
    · replace h := ifT c15 h
      exact un_Rd_readPatch_47 h hF6
    · replace h := ifF c15 h
      obtain ⟨p7, h8, h⟩ := bindS h
      have hF9 := un_Rd_pass h8 hF6
      by_cases c14 : p7.1 = 0
      · replace h := ifT c14 h
        exact un_Rd_readPatch_47 h hF9
      · replace h := ifF c14 h
        obtain ⟨p10, h11, h⟩ := bindS h
        have hF12 := un_Rd_tellNumber h11 hF9
        by_cases c13 : p10.1 = 0
        · replace h := ifT c13 h
          exact un_Rd_readPatch_47 h hF12
        · replace h := ifF c13 h
          exact un_Rd_readPatch_47 h hF12
theorem un_Rd_passOption {μ0 μ : Mem}  {a1 : Int} {r : Int × Mem}  (h : Rd_passOption μ a1 = some r) (hF : UN μ0 μ) : UN μ0 r.2 := by
  unfold Rd_passOption at h
  obtain ⟨p1, h2, h⟩ := bindS h
  have hF3 := un_Rd_pass h2 hF
  by_cases c7 : p1.1 ≠ 0
  · replace h := ifT c7 h
    obtain ⟨m4, h5, h⟩ := bindS h
    have hF6 := UNP hF3 uo_241 h5
    replace h := Option.some.inj h
    subst h
    exact hF6
  · replace h := ifF c7 h
    replace h := Option.some.inj h
    subst h
    exact hF3
theorem un_Rd_readPalette_38 {μ0 μ : Mem}  {l1 : Int} {r : Int × Mem}  (h : Rd_readPalette_38 μ l1 = some r) (hF : UN μ0 μ) : UN μ0 r.2 := by
  unfold Rd_readPalette_38 at h
  by_cases c1 : l1 ≤ 0
  · replace h := ifT c1 h
    replace h := Option.some.inj h
    subst h
    exact hF
  · replace h := ifF c1 h
    replace h := Option.some.inj h
    subst h
    exact hF
theorem un_Rd_readPalette_13 {μ0 : Mem}    : ∀ {n : Nat} {μ : Mem} {l1 : Int} {r : Int × Mem}, Rd_readPalette_13 n μ l1 = some r → UN μ0 μ → UN μ0 r.2 := by
  intro n
  induction n with
  | zero =>
    intro μ l1 r h
    exact noneS h
  | succ n ih =>
    intro μ l1 r h hF
    rw [Rd_readPalette_13] at h
    by_cases c17 : 120 ≤ l1
    · replace h := ifT c17 h
      replace h := Option.some.inj h
      subst h
      exact hF
    · replace h := ifF c17 h
      obtain ⟨x1, h2, h⟩ := bindS h
      obtain ⟨x3, h4, h⟩ := bindS h
      by_cases c16 : x3 < 0
      · replace h := ifT c16 h
        exact un_Rd_readPalette_38 h hF
      · replace h := ifF c16 h
        by_cases c15 : x3 < 9
        · replace h := ifT c15 h
          obtain ⟨x5, h6, h⟩ := bindS h
          by_cases c14 : x5 = 0
          · replace h := ifT c14 h
            obtain ⟨m7, h8, h⟩ := bindS h
            have hF9 := UNP hF uo_250 h8
            obtain ⟨p10, h11, h⟩ := bindS h
            have hF12 := un_Rd_tellNumber h11 hF9
            by_cases c13 : p10.1 ≠ 0
            · replace h := ifT c13 h
              exact ih h hF12
            · replace h := ifF c13 h
              replace h := Option.some.inj h
              subst h
              exact hF12
          · replace h := ifF c14 h
            replace h := Option.some.inj h
            subst h
            exact hF
        · replace h := ifF c15 h
          exact un_Rd_readPalette_38 h hF
theorem un_Rd_readPalette {μ0 μ : Mem}   {r : Int × Mem}  (h : Rd_readPalette μ = some r) (hF : UN μ0 μ) : UN μ0 r.2 := by
  unfold Rd_readPalette at h
  obtain ⟨p1, h2, h⟩ := bindS h
  have hF3 := un_Rd_passOption h2 hF
  by_cases c4 : p1.1 = 0
  · replace h := ifT c4 h
    exact un_Rd_readPalette_13 h hF3
  · replace h := ifF c4 h
    replace h := Option.some.inj h
    subst h
    exact hF3
theorem un_Rd_readSub {μ0 μ : Mem}   {r : Int × Mem}  (h : Rd_readSub μ = some r) (hF : UN μ0 μ) : UN μ0 r.2 := by
  unfold Rd_readSub at h
  obtain ⟨p1, h2, h⟩ := bindS h
  have hF3 := un_Rd_passOption h2 hF
  by_cases c28 : p1.1 = 0
  · replace h := ifT c28 h
    obtain ⟨p4, h5, h⟩ := bindS h
    have hF6 := un_Rd_passOption h5 hF3
    by_cases c15 : p4.1 ≠ 0
    · replace h := ifT c15 h
      replace h := Option.some.inj h
      subst h
      exact hF6
    · replace h := ifF c15 h
      obtain ⟨p7, h8, h⟩ := bindS h
      have hF9 := un_Rd_passOption h8 hF6
      by_cases c14 : p7.1 ≠ 0
      · replace h := ifT c14 h
        replace h := Option.some.inj h
        subst h
        exact hF9
      · replace h := ifF c14 h
        obtain ⟨p10, h11, h⟩ := bindS h
        have hF12 := un_Rd_passOption h11 hF9
        by_cases c13 : p10.1 = 0
        · replace h := ifT c13 h
          replace h := Option.some.inj h
          subst h
          exact hF12
        · replace h := ifF c13 h
          replace h := Option.some.inj h
          subst h
          exact hF12
  · replace h := ifF c28 h
    obtain ⟨p16, h17, h⟩ := bindS h
    have hF18 := un_Rd_readSet h17 hF3
    by_cases c27 : p16.1 = 0
    · replace h := ifT c27 h
      replace h := Option.some.inj h
      subst h
      exact hF18
    · replace h := ifF c27 h
      obtain ⟨p19, h20, h⟩ := bindS h
      have hF21 := un_Rd_pass h20 hF18
      by_cases c26 : p19.1 = 0
      · replace h := ifT c26 h
        replace h := Option.some.inj h
        subst h
        exact hF21
      · replace h := ifF c26 h
        obtain ⟨p22, h23, h⟩ := bindS h
        have hF24 := un_Rd_tellNumber h23 hF21
        by_cases c25 : p22.1 = 0
        · replace h := ifT c25 h
          replace h := Option.some.inj h
          subst h
          exact hF24
        · replace h := ifF c25 h
          replace h := Option.some.inj h
          subst h
          exact hF24
theorem un_Rd_readWave {μ0 μ : Mem}   {r : Int × Mem}  (h : Rd_readWave μ = some r) (hF : UN μ0 μ) : UN μ0 r.2 := by
  unfold Rd_readWave at h
  obtain ⟨p1, h2, h⟩ := bindS h
  have hF3 := un_Rd_passOption h2 hF
  by_cases c44 : p1.1 = 0
  · replace h := ifT c44 h
    obtain ⟨p4, h5, h⟩ := bindS h
    have hF6 := un_Rd_tellWord h5 hF3
    by_cases c43 : p4.1 = 0
    · replace h := ifT c43 h
      replace h := Option.some.inj h
      subst h
      exact hF6
    · replace h := ifF c43 h
      obtain ⟨p7, h8, h⟩ := bindS h
      have hF9 := un_Rd_tellWord h8 hF6
      by_cases c42 : p7.1 = 0
      · replace h := ifT c42 h
        replace h := Option.some.inj h
        subst h
        exact hF9
      · replace h := ifF c42 h
        obtain ⟨p10, h11, h⟩ := bindS h
        have hF12 := un_Rd_pass h11 hF9
        by_cases c41 : p10.1 = 0
        · replace h := ifT c41 h
          replace h := Option.some.inj h
          subst h
          exact hF12
        · replace h := ifF c41 h
          obtain ⟨p13, h14, h⟩ := bindS h
          have hF15 := un_Rd_tellNumber h14 hF12
          by_cases c40 : p13.1 = 0
          · replace h := ifT c40 h
            replace h := Option.some.inj h
            subst h
            exact hF15
          · replace h := ifF c40 h
            obtain ⟨p16, h17, h⟩ := bindS h
            have hF18 := un_Rd_pass h17 hF15
            by_cases c39 : p16.1 = 0
            · replace h := ifT c39 h
              replace h := Option.some.inj h
              subst h
              exact hF18
            · replace h := ifF c39 h
              obtain ⟨p19, h20, h⟩ := bindS h
              have hF21 := un_Rd_tellNumber h20 hF18
              by_cases c38 : p19.1 = 0
              · replace h := ifT c38 h
                replace h := Option.some.inj h
                subst h
                exact hF21
              · replace h := ifF c38 h
                obtain ⟨p22, h23, h⟩ := bindS h
                have hF24 := un_Rd_pass h23 hF21
                by_cases c37 : p22.1 = 0
                · replace h := ifT c37 h
                  replace h := Option.some.inj h
                  subst h
                  exact hF24
                · replace h := ifF c37 h
                  obtain ⟨p25, h26, h⟩ := bindS h
                  have hF27 := un_Rd_tellNumber h26 hF24
                  by_cases c36 : p25.1 = 0
                  · replace h := ifT c36 h
                    replace h := Option.some.inj h
                    subst h
                    exact hF27
                  · replace h := ifF c36 h
                    obtain ⟨p28, h29, h⟩ := bindS h
                    have hF30 := un_Rd_pass h29 hF27
                    by_cases c35 : p28.1 = 0
                    · replace h := ifT c35 h
                      replace h := Option.some.inj h
                      subst h
                      exact hF30
                    · replace h := ifF c35 h
                      obtain ⟨p31, h32, h⟩ := bindS h
                      have hF33 := un_Rd_readSet h32 hF30
                      by_cases c34 : p31.1 = 0
                      · replace h := ifT c34 h
                        replace h := Option.some.inj h
                        subst h
                        exact hF33
                      · replace h := ifF c34 h
                        replace h := Option.some.inj h
                        subst h
                        exact hF33
  · replace h := ifF c44 h
    replace h := Option.some.inj h
    subst h
    exact hF3
theorem un_Rd_readTimes_105 {μ0 μ : Mem} {K2 : Mem → Int → Option (Int × Mem)} {l1 : Int} {s1 : Int} {s2 : Int} {r : Int × Mem} (hK2 : ∀ {μ : Mem} {l1 : Int} {r : Int × Mem}, K2 μ l1 = some r → UN μ0 μ → UN μ0 r.2) (h : Rd_readTimes_105 K2 μ l1 s1 s2 = some r) (hF : UN μ0 μ) : UN μ0 r.2 := by
  unfold Rd_readTimes_105 at h
  obtain ⟨p1, h2, h⟩ := bindS h
  have hF3 := un_Rd_tellNumber h2 hF
  by_cases c4 : p1.1 ≠ 0
  · replace h := ifT c4 h
    exact hK2 h hF3
  · replace h := ifF c4 h
    replace h := Option.some.inj h
    subst h
    exact hF3
theorem un_Rd_readTimes_47 {μ0 μ : Mem} {K2 : Mem → Int → Option (Int × Mem)} {l1 : Int} {l2 : Int} {s0 : Int} {r : Int × Mem} (hK2 : ∀ {μ : Mem} {l1 : Int} {r : Int × Mem}, K2 μ l1 = some r → UN μ0 μ → UN μ0 r.2) (h : Rd_readTimes_47 K2 μ l1 l2 s0 = some r) (hF : UN μ0 μ) : UN μ0 r.2 := by
  unfold Rd_readTimes_47 at h
  obtain ⟨x1, h2, h⟩ := bindS h
  by_cases c11 : x1 = 0
  · replace h := ifT c11 h
    obtain ⟨m3, h4, h⟩ := bindS h
    have hF5 := UNP hF uo_250 h4
    by_cases c10 : l2 < 27
    · replace h := ifT c10 h
      by_cases c6 : l2 ≠ 26
      · replace h := ifT c6 h
        exact un_Rd_readTimes_105 hK2 h hF5
      · replace h := ifF c6 h
        exact un_Rd_readTimes_105 hK2 h hF5
    · replace h := ifF c10 h
      obtain ⟨m7, h8, h⟩ := bindS h
      have hF9 := UNS hF5 uo_242 h8
      exact hK2 h hF9
  · replace h := ifF c11 h
    replace h := Option.some.inj h
    subst h
    exact hF
theorem un_Rd_readTimes_2 {μ0 : Mem}    : ∀ {n : Nat} {μ : Mem} {l1 : Int} {r : Int × Mem}, Rd_readTimes_2 n μ l1 = some r → UN μ0 μ → UN μ0 r.2 := by
  intro n
  induction n with
  | zero =>
    intro μ l1 r h
    exact noneS h
  | succ n ih =>
    intro μ l1 r h hF
    rw [Rd_readTimes_2] at h
    by_cases c6 : 120 ≤ l1
    · replace h := ifT c6 h
      replace h := Option.some.inj h
      subst h
      exact hF
    · replace h := ifF c6 h
      obtain ⟨x1, h2, h⟩ := bindS h
      by_cases c5 : x1 < 21
      · replace h := ifT c5 h
        replace h := Option.some.inj h
        subst h
        exact hF
      · replace h := ifF c5 h
        by_cases c4 : x1 ≤ 28
        · replace h := ifT c4 h
          by_cases c3 : 27 ≤ x1
          · replace h := ifT c3 h
            exact un_Rd_readTimes_47 ih h hF
          · replace h := ifF c3 h
            exact un_Rd_readTimes_47 ih h hF
        · replace h := ifF c4 h
          replace h := Option.some.inj h
          subst h
          exact hF
theorem un_Rd_readTimes {μ0 μ : Mem}   {r : Int × Mem}  (h : Rd_readTimes μ = some r) (hF : UN μ0 μ) : UN μ0 r.2 := by
  unfold Rd_readTimes at h
  exact un_Rd_readTimes_2 h hF
theorem un_Rd_readThing {μ0 μ : Mem}  {a1 : Int} {r : Int × Mem}  (h : Rd_readThing μ a1 = some r) (hF : UN μ0 μ) : UN μ0 r.2 := by
  unfold Rd_readThing at h
  by_cases c5 : a1 = 33
  · replace h := ifT c5 h
    obtain ⟨p1, h2, h⟩ := bindS h
    have hF3 := un_Rd_readPatch h2 hF
    obtain ⟨h4, h⟩ := ifSome h
    replace h := Option.some.inj h
    subst h
    exact hF3
  replace h := ifF c5 h
  by_cases c10 : a1 = 34
  · replace h := ifT c10 h
    obtain ⟨p6, h7, h⟩ := bindS h
    have hF8 := un_Rd_readSet h7 hF
    obtain ⟨h9, h⟩ := ifSome h
    replace h := Option.some.inj h
    subst h
    exact hF8
  replace h := ifF c10 h
  by_cases c23 : a1 = 35
  · replace h := ifT c23 h
    obtain ⟨p11, h12, h⟩ := bindS h
    have hF13 := un_Rd_tellNumber h12 hF
    by_cases c22 : p11.1 = 0
    · replace h := ifT c22 h
      replace h := Option.some.inj h
      subst h
      exact hF13
    · replace h := ifF c22 h
      obtain ⟨p14, h15, h⟩ := bindS h
      have hF16 := un_Rd_pass h15 hF13
      by_cases c21 : p14.1 = 0
      · replace h := ifT c21 h
        replace h := Option.some.inj h
        subst h
        exact hF16
      · replace h := ifF c21 h
        obtain ⟨p17, h18, h⟩ := bindS h
        have hF19 := un_Rd_readSet h18 hF16
        by_cases c20 : p17.1 = 0
        · replace h := ifT c20 h
          replace h := Option.some.inj h
          subst h
          exact hF19
        · replace h := ifF c20 h
          replace h := Option.some.inj h
          subst h
          exact hF19
  replace h := ifF c23 h
  by_cases c36 : a1 = 36
  · replace h := ifT c36 h
    obtain ⟨p24, h25, h⟩ := bindS h
    have hF26 := un_Rd_tellNumber h25 hF
    by_cases c35 : p24.1 = 0
    · replace h := ifT c35 h
      replace h := Option.some.inj h
      subst h
      exact hF26
    · replace h := ifF c35 h
      obtain ⟨p27, h28, h⟩ := bindS h
      have hF29 := un_Rd_pass h28 hF26
      by_cases c34 : p27.1 = 0
      · replace h := ifT c34 h
        replace h := Option.some.inj h
        subst h
        exact hF29
      · replace h := ifF c34 h
        obtain ⟨p30, h31, h⟩ := bindS h
        have hF32 := un_Rd_readPalette h31 hF29
        by_cases c33 : p30.1 = 0
        · replace h := ifT c33 h
          replace h := Option.some.inj h
          subst h
          exact hF32
        · replace h := ifF c33 h
          replace h := Option.some.inj h
          subst h
          exact hF32
  replace h := ifF c36 h
  by_cases c45 : a1 = 37
  · replace h := ifT c45 h
    obtain ⟨p37, h38, h⟩ := bindS h
    have hF39 := un_Rd_tellNumber h38 hF
    by_cases c44 : p37.1 = 0
    · replace h := ifT c44 h
      replace h := Option.some.inj h
      subst h
      exact hF39
    · replace h := ifF c44 h
      obtain ⟨p40, h41, h⟩ := bindS h
      have hF42 := un_Rd_readSub h41 hF39
      by_cases c43 : p40.1 = 0
      · replace h := ifT c43 h
        replace h := Option.some.inj h
        subst h
        exact hF42
      · replace h := ifF c43 h
        replace h := Option.some.inj h
        subst h
        exact hF42
  replace h := ifF c45 h
  by_cases c58 : a1 = 38
  · replace h := ifT c58 h
    obtain ⟨p46, h47, h⟩ := bindS h
    have hF48 := un_Rd_tellNumber h47 hF
    by_cases c57 : p46.1 = 0
    · replace h := ifT c57 h
      replace h := Option.some.inj h
      subst h
      exact hF48
    · replace h := ifF c57 h
      obtain ⟨p49, h50, h⟩ := bindS h
      have hF51 := un_Rd_pass h50 hF48
      by_cases c56 : p49.1 = 0
      · replace h := ifT c56 h
        replace h := Option.some.inj h
        subst h
        exact hF51
      · replace h := ifF c56 h
        obtain ⟨p52, h53, h⟩ := bindS h
        have hF54 := un_Rd_readWave h53 hF51
        by_cases c55 : p52.1 = 0
        · replace h := ifT c55 h
          replace h := Option.some.inj h
          subst h
          exact hF54
        · replace h := ifF c55 h
          replace h := Option.some.inj h
          subst h
          exact hF54
  replace h := ifF c58 h
  by_cases c67 : a1 = 39
  · replace h := ifT c67 h
    obtain ⟨p59, h60, h⟩ := bindS h
    have hF61 := un_Rd_tellNumber h60 hF
    by_cases c66 : p59.1 = 0
    · replace h := ifT c66 h
      replace h := Option.some.inj h
      subst h
      exact hF61
    · replace h := ifF c66 h
      obtain ⟨p62, h63, h⟩ := bindS h
      have hF64 := un_Rd_readTimes h63 hF61
      by_cases c65 : p62.1 = 0
      · replace h := ifT c65 h
        replace h := Option.some.inj h
        subst h
        exact hF64
      · replace h := ifF c65 h
        replace h := Option.some.inj h
        subst h
        exact hF64
  replace h := ifF c67 h
  replace h := Option.some.inj h
  subst h
  exact hF
theorem un_Rd_readRecord {μ0 μ : Mem}   {r : Int × Mem}  (h : Rd_readRecord μ = some r) (hF : UN μ0 μ) : UN μ0 r.2 := by
  unfold Rd_readRecord at h
  obtain ⟨p1, h2, h⟩ := bindS h
  have hF3 := un_Rd_tellNumber h2 hF
  by_cases c11 : p1.1 ≠ 0
  · replace h := ifT c11 h
    obtain ⟨p4, h5, h⟩ := bindS h
    have hF6 := un_Rd_passOption h5 hF3
    obtain ⟨p7, h8, h⟩ := bindS h
    have hF9 := un_Rd_readTimes h8 hF6
    obtain ⟨h10, h⟩ := ifSome h
    replace h := Option.some.inj h
    subst h
    exact hF9
  · replace h := ifF c11 h
    replace h := Option.some.inj h
    subst h
    exact hF3
theorem un_Rd_readEvent {μ0 μ : Mem}   {r : Int × Mem}  (h : Rd_readEvent μ = some r) (hF : UN μ0 μ) : UN μ0 r.2 := by
  unfold Rd_readEvent at h
  obtain ⟨p1, h2, h⟩ := bindS h
  have hF3 := un_Rd_passOption h2 hF
  by_cases c16 : p1.1 = 0
  · replace h := ifT c16 h
    obtain ⟨p4, h5, h⟩ := bindS h
    have hF6 := un_Rd_tellNumber h5 hF3
    by_cases c15 : p4.1 = 0
    · replace h := ifT c15 h
      replace h := Option.some.inj h
      subst h
      exact hF6
    · replace h := ifF c15 h
      obtain ⟨p7, h8, h⟩ := bindS h
      have hF9 := un_Rd_pass h8 hF6
      by_cases c14 : p7.1 = 0
      · replace h := ifT c14 h
        replace h := Option.some.inj h
        subst h
        exact hF9
      · replace h := ifF c14 h
        obtain ⟨p10, h11, h⟩ := bindS h
        have hF12 := un_Rd_tellNumber h11 hF9
        by_cases c13 : p10.1 = 0
        · replace h := ifT c13 h
          replace h := Option.some.inj h
          subst h
          exact hF12
        · replace h := ifF c13 h
          replace h := Option.some.inj h
          subst h
          exact hF12
  · replace h := ifF c16 h
    replace h := Option.some.inj h
    subst h
    exact hF3
theorem un_Rd_readDeed_138 {μ0 μ : Mem}   {r : Int × Mem}  (h : Rd_readDeed_138 μ = some r) (hF : UN μ0 μ) : UN μ0 r.2 := by
  unfold Rd_readDeed_138 at h
  obtain ⟨p1, h2, h⟩ := bindS h
  have hF3 := un_Rd_tellNumber h2 hF
  obtain ⟨h4, h⟩ := ifSome h
  replace h := Option.some.inj h
  subst h
  exact hF3
theorem un_Rd_readDeed_52 {μ0 μ : Mem}  {l1 : Int} {l2 : Int} {r : Int × Mem}  (h : Rd_readDeed_52 μ l1 l2 = some r) (hF : UN μ0 μ) : UN μ0 r.2 := by
  unfold Rd_readDeed_52 at h
  by_cases c5 : l1 = 40
  · replace h := ifT c5 h
    obtain ⟨p1, h2, h⟩ := bindS h
    have hF3 := un_Rd_readRecord h2 hF
    obtain ⟨h4, h⟩ := ifSome h
    replace h := Option.some.inj h
    subst h
    exact hF3
  replace h := ifF c5 h
  by_cases c9 : l1 = 41
  · replace h := ifT c9 h
    obtain ⟨m6, h7, h⟩ := bindS h
    have hF8 := un_St_addItem h7 hF
    replace h := Option.some.inj h
    subst h
    exact hF8
  replace h := ifF c9 h
  by_cases c10 : l1 = 42
  · replace h := ifT c10 h
    exact un_Rd_readDeed_138 h hF
  replace h := ifF c10 h
  by_cases c23 : l1 = 43
  · replace h := ifT c23 h
    obtain ⟨p11, h12, h⟩ := bindS h
    have hF13 := un_Rd_tellNumber h12 hF
    by_cases c22 : p11.1 = 0
    · replace h := ifT c22 h
      replace h := Option.some.inj h
      subst h
      exact hF13
    · replace h := ifF c22 h
      obtain ⟨p14, h15, h⟩ := bindS h
      have hF16 := un_Rd_pass h15 hF13
      by_cases c21 : p14.1 = 0
      · replace h := ifT c21 h
        replace h := Option.some.inj h
        subst h
        exact hF16
      · replace h := ifF c21 h
        obtain ⟨p17, h18, h⟩ := bindS h
        have hF19 := un_Rd_tellNumber h18 hF16
        by_cases c20 : p17.1 = 0
        · replace h := ifT c20 h
          replace h := Option.some.inj h
          subst h
          exact hF19
        · replace h := ifF c20 h
          replace h := Option.some.inj h
          subst h
          exact hF19
  replace h := ifF c23 h
  by_cases c24 : l1 = 44
  · replace h := ifT c24 h
    exact un_Rd_readDeed_138 h hF
  replace h := ifF c24 h
  by_cases c25 : l1 = 45
  · replace h := ifT c25 h
    exact un_Rd_readDeed_138 h hF
  replace h := ifF c25 h
  by_cases c26 : l1 = 46
  · replace h := ifT c26 h
    exact un_Rd_readDeed_138 h hF
  replace h := ifF c26 h
  by_cases c27 : l1 = 47
  · replace h := ifT c27 h
    replace h := Option.some.inj h
    subst h
    exact hF
  replace h := ifF c27 h
  by_cases c28 : l1 = 48
  · replace h := ifT c28 h
    replace h := Option.some.inj h
    subst h
    exact hF
  replace h := ifF c28 h
  by_cases c33 : l1 = 49
  · replace h := ifT c33 h
    obtain ⟨p29, h30, h⟩ := bindS h
    have hF31 := un_Rd_tellNumber h30 hF
    obtain ⟨h32, h⟩ := ifSome h
    replace h := Option.some.inj h
    subst h
    exact hF31
  replace h := ifF c33 h
  by_cases c46 : l1 = 50
  · replace h := ifT c46 h
    obtain ⟨p34, h35, h⟩ := bindS h
    have hF36 := un_Rd_tellNumber h35 hF
    by_cases c45 : p34.1 = 0
    · replace h := ifT c45 h
      replace h := Option.some.inj h
      subst h
      exact hF36
    · replace h := ifF c45 h
      obtain ⟨p37, h38, h⟩ := bindS h
      have hF39 := un_Rd_pass h38 hF36
      by_cases c44 : p37.1 = 0
      · replace h := ifT c44 h
        replace h := Option.some.inj h
        subst h
        exact hF39
      · replace h := ifF c44 h
        obtain ⟨p40, h41, h⟩ := bindS h
        have hF42 := un_Rd_tellNumber h41 hF39
        by_cases c43 : p40.1 = 0
        · replace h := ifT c43 h
          replace h := Option.some.inj h
          subst h
          exact hF42
        · replace h := ifF c43 h
          replace h := Option.some.inj h
          subst h
          exact hF42
  replace h := ifF c46 h
  by_cases c55 : l1 = 51
  · replace h := ifT c55 h
    obtain ⟨p47, h48, h⟩ := bindS h
    have hF49 := un_Rd_passOption h48 hF
    by_cases c54 : p47.1 ≠ 0
    · replace h := ifT c54 h
      replace h := Option.some.inj h
      subst h
      exact hF49
    · replace h := ifF c54 h
      obtain ⟨p50, h51, h⟩ := bindS h
      have hF52 := un_Rd_tellNumber h51 hF49
      by_cases c53 : p50.1 = 0
      · replace h := ifT c53 h
        replace h := Option.some.inj h
        subst h
        exact hF52
      · replace h := ifF c53 h
        replace h := Option.some.inj h
        subst h
        exact hF52
  replace h := ifF c55 h
  by_cases c68 : l1 = 52
  · replace h := ifT c68 h
    obtain ⟨p56, h57, h⟩ := bindS h
    have hF58 := un_Rd_tellNumber h57 hF
    by_cases c67 : p56.1 = 0
    · replace h := ifT c67 h
      replace h := Option.some.inj h
      subst h
      exact hF58
    · replace h := ifF c67 h
      obtain ⟨p59, h60, h⟩ := bindS h
      have hF61 := un_Rd_pass h60 hF58
      by_cases c66 : p59.1 = 0
      · replace h := ifT c66 h
        replace h := Option.some.inj h
        subst h
        exact hF61
      · replace h := ifF c66 h
        obtain ⟨p62, h63, h⟩ := bindS h
        have hF64 := un_Rd_readEvent h63 hF61
        by_cases c65 : p62.1 = 0
        · replace h := ifT c65 h
          replace h := Option.some.inj h
          subst h
          exact hF64
        · replace h := ifF c65 h
          replace h := Option.some.inj h
          subst h
          exact hF64
  replace h := ifF c68 h
  replace h := Option.some.inj h
  subst h
  exact hF
theorem un_Rd_readDeed_41 {μ0 μ : Mem}  {l1 : Int} {l2 : Int} {r : Int × Mem}  (h : Rd_readDeed_41 μ l1 l2 = some r) (hF : UN μ0 μ) : UN μ0 r.2 := by
  unfold Rd_readDeed_41 at h
  obtain ⟨m1, h2, h⟩ := bindS h
  have hF3 := un_St_addItem h2 hF
  exact un_Rd_readDeed_52 h hF3
theorem un_Rd_readDeed_22 {μ0 μ : Mem}  {l1 : Int} {s0 : Int} {r : Int × Mem}  (h : Rd_readDeed_22 μ l1 s0 = some r) (hF : UN μ0 μ) : UN μ0 r.2 := by
  unfold Rd_readDeed_22 at h
  by_cases c3 : l1 = 40
  · replace h := ifT c3 h
    exact un_Rd_readDeed_41 h hF
  · replace h := ifF c3 h
    by_cases c2 : l1 = 41
    · replace h := ifT c2 h
      exact un_Rd_readDeed_41 h hF
    · replace h := ifF c2 h
      by_cases c1 : l1 ≠ 49
      · replace h := ifT c1 h
        exact un_Rd_readDeed_52 h hF
      · replace h := ifF c1 h
        exact un_Rd_readDeed_41 h hF
theorem un_Rd_readDeed {μ0 μ : Mem}  {a1 : Int} {r : Int × Mem}  (h : Rd_readDeed μ a1 = some r) (hF : UN μ0 μ) : UN μ0 r.2 := by
  unfold Rd_readDeed at h
  by_cases c3 : (μ 250 9) ≤ 0
  · replace h := ifT c3 h
    exact un_Rd_readDeed_22 h hF
  · replace h := ifF c3 h
    obtain ⟨x1, h2, h⟩ := bindS h
    exact un_Rd_readDeed_22 h hF
theorem un_Rd_readStatement_67 {μ0 μ : Mem}   {r : Int × Mem}  (h : Rd_readStatement_67 μ = some r) (hF : UN μ0 μ) : UN μ0 r.2 := by
  unfold Rd_readStatement_67 at h
  obtain ⟨m1, h2, h⟩ := bindS h
  have hF3 := UNP hF uo_241 h2
  obtain ⟨p4, h5, h⟩ := bindS h
  have hF6 := un_Rd_readSet h5 hF3
  by_cases c15 : p4.1 = 0
  · replace h := ifT c15 h
    replace h := Option.some.inj h
    subst h
    exact hF6
  · replace h := ifF c15 h
    obtain ⟨p7, h8, h⟩ := bindS h
    have hF9 := un_Rd_readWhats h8 hF6
    by_cases c14 : p7.1 = 0
    · replace h := ifT c14 h
      replace h := Option.some.inj h
      subst h
      exact hF9
    · replace h := ifF c14 h
      obtain ⟨p10, h11, h⟩ := bindS h
      have hF12 := un_Rd_pass h11 hF9
      by_cases c13 : p10.1 = 0
      · replace h := ifT c13 h
        replace h := Option.some.inj h
        subst h
        exact hF12
      · replace h := ifF c13 h
        replace h := Option.some.inj h
        subst h
        exact hF12
theorem un_Rd_readStatement_156 {μ0 μ : Mem}  {s0 : Int} {r : Int × Mem}  (h : Rd_readStatement_156 μ s0 = some r) (hF : UN μ0 μ) : UN μ0 r.2 := by
  unfold Rd_readStatement_156 at h
  by_cases c5 : s0 = 0
  · replace h := ifT c5 h
    replace h := Option.some.inj h
    subst h
    exact hF
  · replace h := ifF c5 h
    obtain ⟨p1, h2, h⟩ := bindS h
    have hF3 := un_Rd_pass h2 hF
    by_cases c4 : p1.1 = 0
    · replace h := ifT c4 h
      replace h := Option.some.inj h
      subst h
      exact hF3
    · replace h := ifF c4 h
      replace h := Option.some.inj h
      subst h
      exact hF3
theorem un_Rd_readStatement_105 {μ0 μ : Mem}  {l1 : Int} {r : Int × Mem}  (h : Rd_readStatement_105 μ l1 = some r) (hF : UN μ0 μ) : UN μ0 r.2 := by
  unfold Rd_readStatement_105 at h
  by_cases c15 : l1 < 33
  · replace h := ifT c15 h
    replace h := Option.some.inj h
    subst h
    exact hF
  · replace h := ifF c15 h
    by_cases c14 : l1 ≤ 52
    · replace h := ifT c14 h
      obtain ⟨m1, h2, h⟩ := bindS h
      have hF3 := UNP hF uo_241 h2
      obtain ⟨m4, h5, h⟩ := bindS h
      have hF6 := UNP hF3 uo_250 h5
      by_cases c13 : 39 < l1
      · replace h := ifT c13 h
        obtain ⟨p7, h8, h⟩ := bindS h
        have hF9 := un_Rd_readDeed h8 hF6
        exact un_Rd_readStatement_156 h hF9
      · replace h := ifF c13 h
        obtain ⟨p10, h11, h⟩ := bindS h
        have hF12 := un_Rd_readThing h11 hF6
        exact un_Rd_readStatement_156 h hF12
    · replace h := ifF c14 h
      replace h := Option.some.inj h
      subst h
      exact hF
theorem un_Rd_readStatement_44 {μ0 μ : Mem}  {l1 : Int} {s0 : Int} {r : Int × Mem}  (h : Rd_readStatement_44 μ l1 s0 = some r) (hF : UN μ0 μ) : UN μ0 r.2 := by
  unfold Rd_readStatement_44 at h
  by_cases c4 : l1 = 75
  · replace h := ifT c4 h
    exact un_Rd_readStatement_67 h hF
  · replace h := ifF c4 h
    by_cases c3 : l1 = 64
    · replace h := ifT c3 h
      exact un_Rd_readStatement_67 h hF
    · replace h := ifF c3 h
      by_cases c2 : l1 ≠ 35
      · replace h := ifT c2 h
        exact un_Rd_readStatement_105 h hF
      · replace h := ifF c2 h
        by_cases c1 : s0 ≠ 0
        · replace h := ifT c1 h
          exact un_Rd_readStatement_105 h hF
        · replace h := ifF c1 h
          exact un_Rd_readStatement_67 h hF
theorem un_Rd_readStatement {μ0 μ : Mem}   {r : Int × Mem}  (h : Rd_readStatement μ = some r) (hF : UN μ0 μ) : UN μ0 r.2 := by
  unfold Rd_readStatement at h
  obtain ⟨m1, h2, h⟩ := bindS h
  have hF3 := un_St_begin h2 hF
  obtain ⟨x4, h5, h⟩ := bindS h
  by_cases c12 : x4 ≠ 35
  · replace h := ifT c12 h
    exact un_Rd_readStatement_44 h hF3
  · replace h := ifF c12 h
    obtain ⟨x6, h7, h⟩ := bindS h
    by_cases c11 : x6 ≠ 75
    · replace h := ifT c11 h
      exact un_Rd_readStatement_44 h hF3
    · replace h := ifF c11 h
      obtain ⟨x8, h9, h⟩ := bindS h
      by_cases c10 : x8 ≠ 73
      · replace h := ifT c10 h
        exact un_Rd_readStatement_44 h hF3
      · replace h := ifF c10 h
        exact un_Rd_readStatement_44 h hF3
theorem un_Row_add {μ0 μ : Mem}  {a1 : Int} {r : Mem}  (h : Row_add μ a1 = some r) (hF : UN μ0 μ) : UN μ0 r := by
  unfold Row_add at h
  by_cases c10 : 40 ≤ (μ 248 1)
  · replace h := ifT c10 h
    replace h := Option.some.inj h
    subst h
    exact hF
  · replace h := ifF c10 h
    obtain ⟨x1, h2, h⟩ := bindS h
    by_cases c9 : 0 ≤ x1
    · replace h := ifT c9 h
      replace h := Option.some.inj h
      subst h
      exact hF
    · replace h := ifF c9 h
      obtain ⟨m3, h4, h⟩ := bindS h
      have hF5 := UNS hF uo_249 h4
      obtain ⟨m6, h7, h⟩ := bindS h
      have hF8 := UNP hF5 uo_248 h7
      replace h := Option.some.inj h
      subst h
      exact hF8
theorem un_Row_remove_23 {μ0 : Mem}  {l0 : Int}  : ∀ {n : Nat} {μ : Mem} {l3 : Int} {r : Mem}, Row_remove_23 l0 n μ l3 = some r → UN μ0 μ → UN μ0 r := by
  intro n
  induction n with
  | zero =>
    intro μ l3 r h
    exact noneS h
  | succ n ih =>
    intro μ l3 r h hF
    rw [Row_remove_23] at h
    obtain ⟨x1, h2, h⟩ := bindS h
    by_cases c12 : x1 ≤ l3
    · replace h := ifT c12 h
      replace h := Option.some.inj h
      subst h
      exact hF
    · replace h := ifF c12 h
      obtain ⟨x3, h4, h⟩ := bindS h
      obtain ⟨x5, h6, h⟩ := bindS h
      obtain ⟨x7, h8, h⟩ := bindS h
      obtain ⟨m9, h10, h⟩ := bindS h
      have hF11 := UND hF h10
      exact ih h hF11
theorem un_Row_remove {μ0 μ : Mem}  {a0 : Int} {a1 : Int} {r : Mem}  (h : Row_remove μ a0 a1 = some r) (hF : UN μ0 μ) : UN μ0 r := by
  unfold Row_remove at h
  obtain ⟨h1, h⟩ := ifSome h
  obtain ⟨x2, h3, h⟩ := bindS h
  by_cases c9 : 0 ≤ x2
  · replace h := ifT c9 h
    obtain ⟨x4, h5, h⟩ := bindS h
    obtain ⟨m6, h7, h⟩ := bindS h
    have hF8 := UNPf hF rfl h7
    exact un_Row_remove_23 h hF8
  · replace h := ifF c9 h
    replace h := Option.some.inj h
    subst h
    exact hF
theorem un_Ch_gatherUnit {μ0 μ : Mem}  {a1 : Int} {a2 : Int} {r : Mem}  (h : Ch_gatherUnit μ a1 a2 = some r) (hF : UN μ0 μ) : UN μ0 r := by
  unfold Ch_gatherUnit at h
  by_cases c7 : a1 = 0
  · replace h := ifT c7 h
    obtain ⟨m1, h2, h⟩ := bindS h
    have hF3 := un_Row_remove h2 hF
    replace h := Option.some.inj h
    subst h
    exact hF3
  · replace h := ifF c7 h
    obtain ⟨m4, h5, h⟩ := bindS h
    have hF6 := un_Row_add h5 hF
    replace h := Option.some.inj h
    subst h
    exact hF6
theorem un_Ch_gatherThru_25 {μ0 : Mem}  {l2 : Int} {l3 : Int} {l5 : Int} {l6 : Int}  : ∀ {n : Nat} {μ : Mem} {l7 : Int} {r : Mem}, Ch_gatherThru_25 l2 l3 l5 l6 n μ l7 = some r → UN μ0 μ → UN μ0 r := by
  intro n
  induction n with
  | zero =>
    intro μ l7 r h
    exact noneS h
  | succ n ih =>
    intro μ l7 r h hF
    rw [Ch_gatherThru_25] at h
    by_cases c9 : l6 < l7
    · replace h := ifT c9 h
      replace h := Option.some.inj h
      subst h
      exact hF
    · replace h := ifF c9 h
      obtain ⟨x1, h2, h⟩ := bindS h
      obtain ⟨x3, h4, h⟩ := bindS h
      by_cases c8 : x3 = 0
      · replace h := ifT c8 h
        exact ih h hF
      · replace h := ifF c8 h
        obtain ⟨m5, h6, h⟩ := bindS h
        have hF7 := un_Ch_gatherUnit h6 hF
        exact ih h hF7
theorem un_Ch_gatherThru_11 {μ0 μ : Mem}  {l2 : Int} {l3 : Int} {l4 : Int} {s0 : Int} {r : Mem}  (h : Ch_gatherThru_11 μ l2 l3 l4 s0 = some r) (hF : UN μ0 μ) : UN μ0 r := by
  unfold Ch_gatherThru_11 at h
  obtain ⟨x1, h2, h⟩ := bindS h
  exact un_Ch_gatherThru_25 h hF
theorem un_Ch_gatherThru {μ0 μ : Mem}  {a2 : Int} {a3 : Int} {a4 : Int} {r : Mem}  (h : Ch_gatherThru μ a2 a3 a4 = some r) (hF : UN μ0 μ) : UN μ0 r := by
  unfold Ch_gatherThru at h
  by_cases c1 : a3 ≤ a4
  · replace h := ifT c1 h
    exact un_Ch_gatherThru_11 h hF
  · replace h := ifF c1 h
    exact un_Ch_gatherThru_11 h hF
theorem un_Ch_gather_116 {μ0 : Mem} {K17 : Mem → Int → Option (Mem)} {l4 : Int} {l6 : Int} {l8 : Int} (hK17 : ∀ {μ : Mem} {l4 : Int} {r : Mem}, K17 μ l4 = some r → UN μ0 μ → UN μ0 r) : ∀ {n : Nat} {μ : Mem} {l9 : Int} {r : Mem}, Ch_gather_116 K17 l4 l6 l8 n μ l9 = some r → UN μ0 μ → UN μ0 r := by
  intro n
  induction n with
  | zero =>
    intro μ l9 r h
    exact noneS h
  | succ n ih =>
    intro μ l9 r h hF
    rw [Ch_gather_116] at h
    obtain ⟨x1, h2, h⟩ := bindS h
    by_cases c10 : x1 ≤ l9
    · replace h := ifT c10 h
      exact hK17 h hF
    · replace h := ifF c10 h
      obtain ⟨x3, h4, h⟩ := bindS h
      obtain ⟨x5, h6, h⟩ := bindS h
      obtain ⟨m7, h8, h⟩ := bindS h
      have hF9 := un_Ch_gatherUnit h8 hF
      exact ih h hF9
theorem un_Ch_gather_46 {μ0 μ : Mem} {K17 : Mem → Int → Option (Mem)} {l4 : Int} {l5 : Int} {s0 : Int} {r : Mem} (hK17 : ∀ {μ : Mem} {l4 : Int} {r : Mem}, K17 μ l4 = some r → UN μ0 μ → UN μ0 r) (h : Ch_gather_46 K17 μ l4 l5 s0 = some r) (hF : UN μ0 μ) : UN μ0 r := by
  unfold Ch_gather_46 at h
  obtain ⟨x1, h2, h⟩ := bindS h
  obtain ⟨x3, h4, h⟩ := bindS h
  by_cases c8 : x3 = 0
  · replace h := ifT c8 h
    obtain ⟨m5, h6, h⟩ := bindS h
    have hF7 := un_Ch_gatherThru h6 hF
    exact hK17 h hF7
  replace h := ifF c8 h
  by_cases c11 : x3 = 1
  · replace h := ifT c11 h
    obtain ⟨o9, h10, h⟩ := bindS h
    exact un_Ch_gather_116 hK17 h hF
  replace h := ifF c11 h
  by_cases c15 : x3 = 2
  · replace h := ifT c15 h
    obtain ⟨m12, h13, h⟩ := bindS h
    have hF14 := un_Ch_gatherUnit h13 hF
    exact hK17 h hF14
  replace h := ifF c15 h
  obtain ⟨x16, h17, h⟩ := bindS h
  obtain ⟨m18, h19, h⟩ := bindS h
  have hF20 := un_Ch_gatherThru h19 hF
  exact hK17 h hF20
theorem un_Ch_gather_17 {μ0 : Mem}    : ∀ {n : Nat} {μ : Mem} {l4 : Int} {r : Mem}, Ch_gather_17 n μ l4 = some r → UN μ0 μ → UN μ0 r := by
  intro n
  induction n with
  | zero =>
    intro μ l4 r h
    exact noneS h
  | succ n ih =>
    intro μ l4 r h hF
    rw [Ch_gather_17] at h
    by_cases c6 : (μ 241 8) ≤ l4
    · replace h := ifT c6 h
      replace h := Option.some.inj h
      subst h
      exact hF
    · replace h := ifF c6 h
      obtain ⟨x1, h2, h⟩ := bindS h
      obtain ⟨x3, h4, h⟩ := bindS h
      by_cases c5 : x3 ≠ 71
      · replace h := ifT c5 h
        exact un_Ch_gather_46 ih h hF
      · replace h := ifF c5 h
        exact un_Ch_gather_46 ih h hF
theorem un_Ch_gather {μ0 μ : Mem}   {r : Mem}  (h : Ch_gather μ = some r) (hF : UN μ0 μ) : UN μ0 r := by
  unfold Ch_gather at h
  obtain ⟨m1, h2, h⟩ := bindS h
  have hF3 := un_Row_clear h2 hF
  exact un_Ch_gather_17 h hF3
theorem un_Ch_faultOf {μ0 μ : Mem}  {a2 : Int} {a3 : Int} {r : Int × Mem}  (h : Ch_faultOf μ a2 a3 = some r) (hF : UN μ0 μ) : UN μ0 r.2 := by
  unfold Ch_faultOf at h
  by_cases c66 : a2 < 0
  · replace h := ifT c66 h
    replace h := Option.some.inj h
    subst h
    exact hF
  · replace h := ifF c66 h
    by_cases c65 : 23 ≤ a2
    · replace h := ifT c65 h
      replace h := Option.some.inj h
      subst h
      exact hF
    · replace h := ifF c65 h
      obtain ⟨x1, h2, h⟩ := bindS h
      by_cases c64 : a3 < x1
      · replace h := ifT c64 h
        replace h := Option.some.inj h
        subst h
        exact hF
      · replace h := ifF c64 h
        obtain ⟨x3, h4, h⟩ := bindS h
        by_cases c63 : a3 ≤ x3
        · replace h := ifT c63 h
          by_cases c8 : a2 = 2
          · replace h := ifT c8 h
            obtain ⟨x5, h6, h⟩ := bindS h
            by_cases c7 : x5 = 0
            · replace h := ifT c7 h
              replace h := Option.some.inj h
              subst h
              exact hF
            · replace h := ifF c7 h
              replace h := Option.some.inj h
              subst h
              exact hF
          replace h := ifF c8 h
          by_cases c12 : a2 = 3
          · replace h := ifT c12 h
            obtain ⟨x9, h10, h⟩ := bindS h
            by_cases c11 : x9 = 0
            · replace h := ifT c11 h
              replace h := Option.some.inj h
              subst h
              exact hF
            · replace h := ifF c11 h
              replace h := Option.some.inj h
              subst h
              exact hF
          replace h := ifF c12 h
          by_cases c13 : a2 = 4
          · replace h := ifT c13 h
            replace h := Option.some.inj h
            subst h
            exact hF
          replace h := ifF c13 h
          by_cases c19 : a2 = 5
          · replace h := ifT c19 h
            obtain ⟨o14, h15, h⟩ := bindS h
            obtain ⟨x16, h17, h⟩ := bindS h
            by_cases c18 : x16 ≤ 0
            · replace h := ifT c18 h
              replace h := Option.some.inj h
              subst h
              exact hF
            · replace h := ifF c18 h
              replace h := Option.some.inj h
              subst h
              exact hF
          replace h := ifF c19 h
          by_cases c20 : a2 = 6
          · replace h := ifT c20 h
            replace h := Option.some.inj h
            subst h
            exact hF
          replace h := ifF c20 h
          by_cases c21 : a2 = 7
          · replace h := ifT c21 h
            replace h := Option.some.inj h
            subst h
            exact hF
          replace h := ifF c21 h
          by_cases c22 : a2 = 8
          · replace h := ifT c22 h
            replace h := Option.some.inj h
            subst h
            exact hF
          replace h := ifF c22 h
          by_cases c23 : a2 = 9
          · replace h := ifT c23 h
            replace h := Option.some.inj h
            subst h
            exact hF
          replace h := ifF c23 h
          by_cases c24 : a2 = 10
          · replace h := ifT c24 h
            replace h := Option.some.inj h
            subst h
            exact hF
          replace h := ifF c24 h
          by_cases c28 : a2 = 11
          · replace h := ifT c28 h
            obtain ⟨x25, h26, h⟩ := bindS h
            by_cases c27 : x25 = 0
            · replace h := ifT c27 h
              replace h := Option.some.inj h
              subst h
              exact hF
            · replace h := ifF c27 h
              replace h := Option.some.inj h
              subst h
              exact hF
          replace h := ifF c28 h
          by_cases c29 : a2 = 12
          · replace h := ifT c29 h
            replace h := Option.some.inj h
            subst h
            exact hF
          replace h := ifF c29 h
          by_cases c30 : a2 = 13
          · replace h := ifT c30 h
            replace h := Option.some.inj h
            subst h
            exact hF
          replace h := ifF c30 h
          by_cases c31 : a2 = 14
          · replace h := ifT c31 h
            replace h := Option.some.inj h
            subst h
            exact hF
          replace h := ifF c31 h
          by_cases c32 : a2 = 15
          · replace h := ifT c32 h
            replace h := Option.some.inj h
            subst h
            exact hF
          replace h := ifF c32 h
          by_cases c33 : a2 = 16
          · replace h := ifT c33 h
            replace h := Option.some.inj h
            subst h
            exact hF
          replace h := ifF c33 h
          by_cases c39 : a2 = 17
          · replace h := ifT c39 h
            obtain ⟨x34, h35, h⟩ := bindS h
            by_cases c38 : x34 < 0
            · replace h := ifT c38 h
              obtain ⟨x36, h37, h⟩ := bindS h
              replace h := Option.some.inj h
              subst h
              exact hF
            · replace h := ifF c38 h
              replace h := Option.some.inj h
              subst h
              exact hF
          replace h := ifF c39 h
          by_cases c45 : a2 = 18
          · replace h := ifT c45 h
            obtain ⟨x40, h41, h⟩ := bindS h
            by_cases c44 : x40 < 0
            · replace h := ifT c44 h
              obtain ⟨x42, h43, h⟩ := bindS h
              replace h := Option.some.inj h
              subst h
              exact hF
            · replace h := ifF c44 h
              replace h := Option.some.inj h
              subst h
              exact hF
          replace h := ifF c45 h
          by_cases c49 : a2 = 19
          · replace h := ifT c49 h
            obtain ⟨x46, h47, h⟩ := bindS h
            by_cases c48 : x46 < 0
            · replace h := ifT c48 h
              replace h := Option.some.inj h
              subst h
              exact hF
            · replace h := ifF c48 h
              replace h := Option.some.inj h
              subst h
              exact hF
          replace h := ifF c49 h
          by_cases c54 : a2 = 20
          · replace h := ifT c54 h
            obtain ⟨m50, h51, h⟩ := bindS h
            have hF52 := un_Ch_gather h51 hF
            by_cases c53 : (m50 248 1) ≤ 0
            · replace h := ifT c53 h
              replace h := Option.some.inj h
              subst h
              exact hF52
            · replace h := ifF c53 h
              replace h := Option.some.inj h
              subst h
              exact hF52
          replace h := ifF c54 h
          by_cases c58 : a2 = 21
          · replace h := ifT c58 h
            obtain ⟨x55, h56, h⟩ := bindS h
            by_cases c57 : x55 ≤ 0
            · replace h := ifT c57 h
              replace h := Option.some.inj h
              subst h
              exact hF
            · replace h := ifF c57 h
              replace h := Option.some.inj h
              subst h
              exact hF
          replace h := ifF c58 h
          by_cases c62 : a2 = 22
          · replace h := ifT c62 h
            obtain ⟨x59, h60, h⟩ := bindS h
            by_cases c61 : x59 ≤ 0
            · replace h := ifT c61 h
              replace h := Option.some.inj h
              subst h
              exact hF
            · replace h := ifF c61 h
              replace h := Option.some.inj h
              subst h
              exact hF
          replace h := ifF c62 h
          replace h := Option.some.inj h
          subst h
          exact hF
        · replace h := ifF c63 h
          replace h := Option.some.inj h
          subst h
          exact hF
theorem un_Ch_firstFault_2 {μ0 : Mem}    : ∀ {n : Nat} {μ : Mem} {l2 : Int} {r : Int × Mem}, Ch_firstFault_2 n μ l2 = some r → UN μ0 μ → UN μ0 r.2 := by
  intro n
  induction n with
  | zero =>
    intro μ l2 r h
    exact noneS h
  | succ n ih =>
    intro μ l2 r h hF
    rw [Ch_firstFault_2] at h
    by_cases c16 : (μ 241 6) ≤ l2
    · replace h := ifT c16 h
      replace h := Option.some.inj h
      subst h
      exact hF
    · replace h := ifF c16 h
      obtain ⟨x1, h2, h⟩ := bindS h
      obtain ⟨x3, h4, h⟩ := bindS h
      obtain ⟨p5, h6, h⟩ := bindS h
      have hF7 := un_Ch_faultOf h6 hF
      obtain ⟨x8, h9, h⟩ := bindS h
      by_cases c15 : x8 = 0
      · replace h := ifT c15 h
        exact ih h hF7
      · replace h := ifF c15 h
        obtain ⟨x10, h11, h⟩ := bindS h
        obtain ⟨m12, h13, h⟩ := bindS h
        have hF14 := UNP hF7 uo_255 h13
        replace h := Option.some.inj h
        subst h
        exact hF14
theorem un_Ch_firstFault {μ0 μ : Mem}   {r : Int × Mem}  (h : Ch_firstFault μ = some r) (hF : UN μ0 μ) : UN μ0 r.2 := by
  unfold Ch_firstFault at h
  exact un_Ch_firstFault_2 h hF
theorem un_Sh_copyRows_2 {μ0 : Mem}  {l0 : Int} {l1 : Int}  : ∀ {n : Nat} {μ : Mem} {l2 : Int} {r : Mem}, Sh_copyRows_2 l0 l1 n μ l2 = some r → UN μ0 μ → UN μ0 r := by
  intro n
  induction n with
  | zero =>
    intro μ l2 r h
    exact noneS h
  | succ n ih =>
    intro μ l2 r h hF
    rw [Sh_copyRows_2] at h
    obtain ⟨x1, h2, h⟩ := bindS h
    by_cases c21 : x1 ≤ l2
    · replace h := ifT c21 h
      replace h := Option.some.inj h
      subst h
      exact hF
    · replace h := ifF c21 h
      obtain ⟨x3, h4, h⟩ := bindS h
      by_cases c20 : x3 ≤ l2
      · replace h := ifT c20 h
        replace h := Option.some.inj h
        subst h
        exact hF
      · replace h := ifF c20 h
        obtain ⟨o5, h6, h⟩ := bindS h
        obtain ⟨o7, h8, h⟩ := bindS h
        obtain ⟨o9, h10, h⟩ := bindS h
        obtain ⟨x11, h12, h⟩ := bindS h
        obtain ⟨o13, h14, h⟩ := bindS h
        obtain ⟨x15, h16, h⟩ := bindS h
        obtain ⟨m17, h18, h⟩ := bindS h
        have hF19 := UNC hF h18
        exact ih h hF19
theorem un_Sh_copyRows {μ0 μ : Mem}  {a0 : Int} {a1 : Int} {r : Mem}  (h : Sh_copyRows μ a0 a1 = some r) (hF : UN μ0 μ) : UN μ0 r := by
  unfold Sh_copyRows at h
  exact un_Sh_copyRows_2 h hF
theorem un_Row_copyFrom {μ0 μ : Mem}  {a0 : Int} {a1 : Int} {r : Mem}  (h : Row_copyFrom μ a0 a1 = some r) (hF : UN μ0 μ) : UN μ0 r := by
  unfold Row_copyFrom at h
  obtain ⟨x1, h2, h⟩ := bindS h
  obtain ⟨x3, h4, h⟩ := bindS h
  obtain ⟨x5, h6, h⟩ := bindS h
  obtain ⟨m7, h8, h⟩ := bindS h
  have hF9 := UNC hF h8
  obtain ⟨x10, h11, h⟩ := bindS h
  obtain ⟨m12, h13, h⟩ := bindS h
  have hF14 := UNPf hF9 rfl h13
  replace h := Option.some.inj h
  subst h
  exact hF14
theorem un_Cue_copyFrom {μ0 μ : Mem}  {a0 : Int} {a1 : Int} {r : Mem}  (h : Cue_copyFrom μ a0 a1 = some r) (hF : UN μ0 μ) : UN μ0 r := by
  unfold Cue_copyFrom at h
  obtain ⟨x1, h2, h⟩ := bindS h
  obtain ⟨m3, h4, h⟩ := bindS h
  have hF5 := UNPf hF rfl h4
  obtain ⟨x6, h7, h⟩ := bindS h
  obtain ⟨x8, h9, h⟩ := bindS h
  obtain ⟨m10, h11, h⟩ := bindS h
  have hF12 := UNC hF5 h11
  obtain ⟨x13, h14, h⟩ := bindS h
  obtain ⟨x15, h16, h⟩ := bindS h
  obtain ⟨m17, h18, h⟩ := bindS h
  have hF19 := UNC hF12 h18
  replace h := Option.some.inj h
  subst h
  exact hF19
theorem un_Sh_copyFrom_173 {μ0 : Mem}  {l0 : Int} {l1 : Int}  : ∀ {n : Nat} {μ : Mem} {l2 : Int} {r : Mem}, Sh_copyFrom_173 l0 l1 n μ l2 = some r → UN μ0 μ → UN μ0 r := by
  intro n
  induction n with
  | zero =>
    intro μ l2 r h
    exact noneS h
  | succ n ih =>
    intro μ l2 r h hF
    rw [Sh_copyFrom_173] at h
    obtain ⟨x1, h2, h⟩ := bindS h
    by_cases c25 : x1 ≤ l2
    · replace h := ifT c25 h
      obtain ⟨x3, h4, h⟩ := bindS h
      obtain ⟨m5, h6, h⟩ := bindS h
      have hF7 := UNPf hF rfl h6
      obtain ⟨x8, h9, h⟩ := bindS h
      obtain ⟨m10, h11, h⟩ := bindS h
      have hF12 := UNPf hF7 rfl h11
      replace h := Option.some.inj h
      subst h
      exact hF12
    · replace h := ifF c25 h
      obtain ⟨x13, h14, h⟩ := bindS h
      obtain ⟨x15, h16, h⟩ := bindS h
      obtain ⟨x17, h18, h⟩ := bindS h
      obtain ⟨x19, h20, h⟩ := bindS h
      obtain ⟨h21, h⟩ := ifSome h
      obtain ⟨m22, h23, h⟩ := bindS h
      have hF24 := un_Cue_copyFrom h23 hF
      exact ih h hF24
theorem un_Sh_copyFrom_141 {μ0 : Mem}  {l0 : Int} {l1 : Int}  : ∀ {n : Nat} {μ : Mem} {l2 : Int} {r : Mem}, Sh_copyFrom_141 l0 l1 n μ l2 = some r → UN μ0 μ → UN μ0 r := by
  intro n
  induction n with
  | zero =>
    intro μ l2 r h
    exact noneS h
  | succ n ih =>
    intro μ l2 r h hF
    rw [Sh_copyFrom_141] at h
    obtain ⟨x1, h2, h⟩ := bindS h
    obtain ⟨x3, h4, h⟩ := bindS h
    by_cases c17 : x3 ≤ l2
    · replace h := ifT c17 h
      exact un_Sh_copyFrom_173 h hF
    · replace h := ifF c17 h
      obtain ⟨x5, h6, h⟩ := bindS h
      obtain ⟨o7, h8, h⟩ := bindS h
      obtain ⟨x9, h10, h⟩ := bindS h
      obtain ⟨o11, h12, h⟩ := bindS h
      obtain ⟨h13, h⟩ := ifSome h
      obtain ⟨m14, h15, h⟩ := bindS h
      have hF16 := un_Row_copyFrom h15 hF
      exact ih h hF16
theorem un_Sh_copyFrom_109 {μ0 : Mem}  {l0 : Int} {l1 : Int}  : ∀ {n : Nat} {μ : Mem} {l2 : Int} {r : Mem}, Sh_copyFrom_109 l0 l1 n μ l2 = some r → UN μ0 μ → UN μ0 r := by
  intro n
  induction n with
  | zero =>
    intro μ l2 r h
    exact noneS h
  | succ n ih =>
    intro μ l2 r h hF
    rw [Sh_copyFrom_109] at h
    obtain ⟨x1, h2, h⟩ := bindS h
    obtain ⟨x3, h4, h⟩ := bindS h
    by_cases c17 : x3 ≤ l2
    · replace h := ifT c17 h
      exact un_Sh_copyFrom_141 h hF
    · replace h := ifF c17 h
      obtain ⟨x5, h6, h⟩ := bindS h
      obtain ⟨o7, h8, h⟩ := bindS h
      obtain ⟨x9, h10, h⟩ := bindS h
      obtain ⟨o11, h12, h⟩ := bindS h
      obtain ⟨h13, h⟩ := ifSome h
      obtain ⟨m14, h15, h⟩ := bindS h
      have hF16 := un_Row_copyFrom h15 hF
      exact ih h hF16
theorem un_Sh_copyFrom {μ0 μ : Mem}  {a0 : Int} {a1 : Int} {r : Mem}  (h : Sh_copyFrom μ a0 a1 = some r) (hF : UN μ0 μ) : UN μ0 r := by
  unfold Sh_copyFrom at h
  obtain ⟨x1, h2, h⟩ := bindS h
  obtain ⟨x3, h4, h⟩ := bindS h
  obtain ⟨m5, h6, h⟩ := bindS h
  have hF7 := un_Sh_copyRows h6 hF
  obtain ⟨x8, h9, h⟩ := bindS h
  obtain ⟨x10, h11, h⟩ := bindS h
  obtain ⟨m12, h13, h⟩ := bindS h
  have hF14 := un_Sh_copyRows h13 hF7
  obtain ⟨x15, h16, h⟩ := bindS h
  obtain ⟨x17, h18, h⟩ := bindS h
  obtain ⟨m19, h20, h⟩ := bindS h
  have hF21 := un_Sh_copyRows h20 hF14
  obtain ⟨x22, h23, h⟩ := bindS h
  obtain ⟨x24, h25, h⟩ := bindS h
  obtain ⟨m26, h27, h⟩ := bindS h
  have hF28 := un_Sh_copyRows h27 hF21
  obtain ⟨x29, h30, h⟩ := bindS h
  obtain ⟨x31, h32, h⟩ := bindS h
  obtain ⟨m33, h34, h⟩ := bindS h
  have hF35 := un_Sh_copyRows h34 hF28
  obtain ⟨x36, h37, h⟩ := bindS h
  obtain ⟨x38, h39, h⟩ := bindS h
  obtain ⟨x40, h41, h⟩ := bindS h
  obtain ⟨x42, h43, h⟩ := bindS h
  obtain ⟨m44, h45, h⟩ := bindS h
  have hF46 := UNC hF35 h45
  obtain ⟨x47, h48, h⟩ := bindS h
  obtain ⟨x49, h50, h⟩ := bindS h
  obtain ⟨m51, h52, h⟩ := bindS h
  have hF53 := UNC hF46 h52
  obtain ⟨x54, h55, h⟩ := bindS h
  obtain ⟨x56, h57, h⟩ := bindS h
  obtain ⟨x58, h59, h⟩ := bindS h
  obtain ⟨x60, h61, h⟩ := bindS h
  obtain ⟨m62, h63, h⟩ := bindS h
  have hF64 := UNC hF53 h63
  exact un_Sh_copyFrom_109 h hF64
theorem un_Ed_setOne {μ0 μ : Mem}  {a2 : Int} {a3 : Int} {a4 : Int} {a5 : Int} {r : Mem}  (h : Ed_setOne μ a2 a3 a4 a5 = some r) (hF : UN μ0 μ) : UN μ0 r := by
  unfold Ed_setOne at h
  obtain ⟨x1, h2, h⟩ := bindS h
  obtain ⟨x3, h4, h⟩ := bindS h
  obtain ⟨x5, h6, h⟩ := bindS h
  by_cases c35 : x5 ≠ 0
  · replace h := ifT c35 h
    obtain ⟨x7, h8, h⟩ := bindS h
    obtain ⟨x9, h10, h⟩ := bindS h
    obtain ⟨x11, h12, h⟩ := bindS h
    by_cases c16 : x11 = 0
    · replace h := ifT c16 h
      obtain ⟨m13, h14, h⟩ := bindS h
      have hF15 := UND hF h14
      replace h := Option.some.inj h
      subst h
      exact hF15
    replace h := ifF c16 h
    by_cases c29 : x11 = 1
    · replace h := ifT c29 h
      obtain ⟨x17, h18, h⟩ := bindS h
      by_cases c28 : 1 ≤ x17
      · replace h := ifT c28 h
        obtain ⟨x19, h20, h⟩ := bindS h
        obtain ⟨h21, h⟩ := ifNone h
        obtain ⟨m22, h23, h⟩ := bindS h
        have hF24 := UND hF h23
        replace h := Option.some.inj h
        subst h
        exact hF24
      · replace h := ifF c28 h
        obtain ⟨m25, h26, h⟩ := bindS h
        have hF27 := UND hF h26
        replace h := Option.some.inj h
        subst h
        exact hF27
    replace h := ifF c29 h
    obtain ⟨x30, h31, h⟩ := bindS h
    obtain ⟨m32, h33, h⟩ := bindS h
    have hF34 := UND hF h33
    replace h := Option.some.inj h
    subst h
    exact hF34
  · replace h := ifF c35 h
    replace h := Option.some.inj h
    subst h
    exact hF
theorem un_Ed_setAll_21 {μ0 : Mem}  {l3 : Int} {l4 : Int} {l5 : Int} {l6 : Int}  : ∀ {n : Nat} {μ : Mem} {l7 : Int} {r : Mem}, Ed_setAll_21 l3 l4 l5 l6 n μ l7 = some r → UN μ0 μ → UN μ0 r := by
  intro n
  induction n with
  | zero =>
    intro μ l7 r h
    exact noneS h
  | succ n ih =>
    intro μ l7 r h hF
    rw [Ed_setAll_21] at h
    by_cases c24 : 9 ≤ l7
    · replace h := ifT c24 h
      replace h := Option.some.inj h
      subst h
      exact hF
    · replace h := ifF c24 h
      obtain ⟨x1, h2, h⟩ := bindS h
      by_cases c23 : x1 = 0
      · replace h := ifT c23 h
        exact ih h hF
      · replace h := ifF c23 h
        obtain ⟨x3, h4, h⟩ := bindS h
        by_cases c22 : l5 ≠ 4
        · replace h := ifT c22 h
          by_cases c16 : l5 ≠ 5
          · replace h := ifT c16 h
            obtain ⟨o5, h6, h⟩ := bindS h
            obtain ⟨x7, h8, h⟩ := bindS h
            by_cases c12 : x7 = (-1)
            · replace h := ifT c12 h
              exact ih h hF
            · replace h := ifF c12 h
              obtain ⟨m9, h10, h⟩ := bindS h
              have hF11 := UND hF h10
              exact ih h hF11
          · replace h := ifF c16 h
            obtain ⟨m13, h14, h⟩ := bindS h
            have hF15 := UND hF h14
            exact ih h hF15
        · replace h := ifF c22 h
          obtain ⟨x17, h18, h⟩ := bindS h
          obtain ⟨m19, h20, h⟩ := bindS h
          have hF21 := UND hF h20
          exact ih h hF21
theorem un_Ed_setAll {μ0 μ : Mem}  {a2 : Int} {a3 : Int} {a4 : Int} {r : Mem}  (h : Ed_setAll μ a2 a3 a4 = some r) (hF : UN μ0 μ) : UN μ0 r := by
  unfold Ed_setAll at h
  obtain ⟨x1, h2, h⟩ := bindS h
  obtain ⟨x3, h4, h⟩ := bindS h
  exact un_Ed_setAll_21 h hF
theorem un_Ed_setValues_84 {μ0 : Mem} {K66 : Mem → Int → Option (Mem)} {l2 : Int} {l3 : Int} {l5 : Int} {l6 : Int} (hK66 : ∀ {μ : Mem} {l5 : Int} {r : Mem}, K66 μ l5 = some r → UN μ0 μ → UN μ0 r) : ∀ {n : Nat} {μ : Mem} {l7 : Int} {r : Mem}, Ed_setValues_84 K66 l2 l3 l5 l6 n μ l7 = some r → UN μ0 μ → UN μ0 r := by
  intro n
  induction n with
  | zero =>
    intro μ l7 r h
    exact noneS h
  | succ n ih =>
    intro μ l7 r h hF
    rw [Ed_setValues_84] at h
    by_cases c12 : (μ 248 1) ≤ l7
    · replace h := ifT c12 h
      exact hK66 h hF
    · replace h := ifF c12 h
      obtain ⟨x1, h2, h⟩ := bindS h
      by_cases c11 : 2 < x1
      · replace h := ifT c11 h
        obtain ⟨x3, h4, h⟩ := bindS h
        obtain ⟨m5, h6, h⟩ := bindS h
        have hF7 := un_Ed_setAll h6 hF
        exact ih h hF7
      · replace h := ifF c11 h
        obtain ⟨m8, h9, h⟩ := bindS h
        have hF10 := un_Ed_setOne h9 hF
        exact ih h hF10
theorem un_Ed_setValues_66 {μ0 : Mem}  {l2 : Int} {l3 : Int}  : ∀ {n : Nat} {μ : Mem} {l5 : Int} {r : Mem}, Ed_setValues_66 l2 l3 n μ l5 = some r → UN μ0 μ → UN μ0 r := by
  intro n
  induction n with
  | zero =>
    intro μ l5 r h
    exact noneS h
  | succ n ih =>
    intro μ l5 r h hF
    rw [Ed_setValues_66] at h
    by_cases c3 : (μ 241 10) ≤ l5
    · replace h := ifT c3 h
      replace h := Option.some.inj h
      subst h
      exact hF
    · replace h := ifF c3 h
      obtain ⟨x1, h2, h⟩ := bindS h
      exact un_Ed_setValues_84 ih h hF
theorem un_Ed_setValues_56 {μ0 μ : Mem}  {l2 : Int} {s0 : Int} {r : Mem}  (h : Ed_setValues_56 μ l2 s0 = some r) (hF : UN μ0 μ) : UN μ0 r := by
  unfold Ed_setValues_56 at h
  exact un_Ed_setValues_66 h hF
theorem un_Ed_setValues_29 {μ0 μ : Mem}  {s0 : Int} {r : Mem}  (h : Ed_setValues_29 μ s0 = some r) (hF : UN μ0 μ) : UN μ0 r := by
  unfold Ed_setValues_29 at h
  by_cases c5 : 0 ≤ s0
  · replace h := ifT c5 h
    obtain ⟨x1, h2, h⟩ := bindS h
    obtain ⟨x3, h4, h⟩ := bindS h
    exact un_Ed_setValues_56 h hF
  · replace h := ifF c5 h
    exact un_Ed_setValues_56 h hF
theorem un_Ed_setValues {μ0 μ : Mem}   {r : Mem}  (h : Ed_setValues μ = some r) (hF : UN μ0 μ) : UN μ0 r := by
  unfold Ed_setValues at h
  by_cases c3 : (μ 3 10) ≠ (-1)
  · replace h := ifT c3 h
    obtain ⟨x1, h2, h⟩ := bindS h
    exact un_Ed_setValues_29 h hF
  · replace h := ifF c3 h
    exact un_Ed_setValues_29 h hF
theorem un_Ed_patchUnit {μ0 μ : Mem}  {a2 : Int} {r : Mem}  (h : Ed_patchUnit μ a2 = some r) (hF : UN μ0 μ) : UN μ0 r := by
  unfold Ed_patchUnit at h
  obtain ⟨o1, h2, h⟩ := bindS h
  obtain ⟨m3, h4, h⟩ := bindS h
  have hF5 := UND hF h4
  obtain ⟨m6, h7, h⟩ := bindS h
  have hF8 := UND hF5 h7
  obtain ⟨x9, h10, h⟩ := bindS h
  obtain ⟨m11, h12, h⟩ := bindS h
  have hF13 := UND hF8 h12
  obtain ⟨x14, h15, h⟩ := bindS h
  obtain ⟨m16, h17, h⟩ := bindS h
  have hF18 := UND hF13 h17
  obtain ⟨x19, h20, h⟩ := bindS h
  obtain ⟨m21, h22, h⟩ := bindS h
  have hF23 := UND hF18 h22
  obtain ⟨x24, h25, h⟩ := bindS h
  obtain ⟨m26, h27, h⟩ := bindS h
  have hF28 := UND hF23 h27
  obtain ⟨m29, h30, h⟩ := bindS h
  have hF31 := UNS hF28 uo_230 h30
  replace h := Option.some.inj h
  subst h
  exact hF31
theorem un_Ed_unpatchUnit_147 {μ0 : Mem} {K122 : Mem → Int → Option (Mem)} {l1 : Int} {l2 : Int} {l3 : Int} (hK122 : ∀ {μ : Mem} {l2 : Int} {r : Mem}, K122 μ l2 = some r → UN μ0 μ → UN μ0 r) : ∀ {n : Nat} {μ : Mem} {l4 : Int} {r : Mem}, Ed_unpatchUnit_147 K122 l1 l2 l3 n μ l4 = some r → UN μ0 μ → UN μ0 r := by
  intro n
  induction n with
  | zero =>
    intro μ l4 r h
    exact noneS h
  | succ n ih =>
    intro μ l4 r h hF
    rw [Ed_unpatchUnit_147] at h
    by_cases c8 : (μ 3 8) ≤ l4
    · replace h := ifT c8 h
      exact hK122 h hF
    · replace h := ifF c8 h
      obtain ⟨x1, h2, h⟩ := bindS h
      obtain ⟨x3, h4, h⟩ := bindS h
      obtain ⟨m5, h6, h⟩ := bindS h
      have hF7 := UND hF h6
      exact ih h hF7
theorem un_Ed_unpatchUnit_122 {μ0 : Mem}  {l1 : Int}  : ∀ {n : Nat} {μ : Mem} {l2 : Int} {r : Mem}, Ed_unpatchUnit_122 l1 n μ l2 = some r → UN μ0 μ → UN μ0 r := by
  intro n
  induction n with
  | zero =>
    intro μ l2 r h
    exact noneS h
  | succ n ih =>
    intro μ l2 r h hF
    rw [Ed_unpatchUnit_122] at h
    by_cases c6 : 9 ≤ l2
    · replace h := ifT c6 h
      replace h := Option.some.inj h
      subst h
      exact hF
    · replace h := ifF c6 h
      obtain ⟨x1, h2, h⟩ := bindS h
      obtain ⟨m3, h4, h⟩ := bindS h
      have hF5 := UNS hF uo_80 h4
      exact un_Ed_unpatchUnit_147 ih h hF5
theorem un_Ed_unpatchUnit_68 {μ0 : Mem}  {l1 : Int}  : ∀ {n : Nat} {μ : Mem} {l2 : Int} {r : Mem}, Ed_unpatchUnit_68 l1 n μ l2 = some r → UN μ0 μ → UN μ0 r := by
  intro n
  induction n with
  | zero =>
    intro μ l2 r h
    exact noneS h
  | succ n ih =>
    intro μ l2 r h hF
    rw [Ed_unpatchUnit_68] at h
    by_cases c17 : 4 < l2
    · replace h := ifT c17 h
      exact un_Ed_unpatchUnit_122 h hF
    · replace h := ifF c17 h
      obtain ⟨o1, h2, h⟩ := bindS h
      obtain ⟨h3, h⟩ := ifSome h
      obtain ⟨m4, h5, h⟩ := bindS h
      have hF6 := un_Row_remove h5 hF
      obtain ⟨o7, h8, h⟩ := bindS h
      obtain ⟨x9, h10, h⟩ := bindS h
      by_cases c16 : x9 ≠ 0
      · replace h := ifT c16 h
        exact ih h hF6
      · replace h := ifF c16 h
        obtain ⟨o11, h12, h⟩ := bindS h
        obtain ⟨m13, h14, h⟩ := bindS h
        have hF15 := un_Ar_fill h14 hF6
        exact ih h hF15
theorem un_Ed_unpatchUnit_42 {μ0 : Mem}  {l1 : Int}  : ∀ {n : Nat} {μ : Mem} {l2 : Int} {r : Mem}, Ed_unpatchUnit_42 l1 n μ l2 = some r → UN μ0 μ → UN μ0 r := by
  intro n
  induction n with
  | zero =>
    intro μ l2 r h
    exact noneS h
  | succ n ih =>
    intro μ l2 r h hF
    rw [Ed_unpatchUnit_42] at h
    by_cases c6 : 8 < l2
    · replace h := ifT c6 h
      exact un_Ed_unpatchUnit_68 h hF
    · replace h := ifF c6 h
      obtain ⟨o1, h2, h⟩ := bindS h
      obtain ⟨m3, h4, h⟩ := bindS h
      have hF5 := UND hF h4
      exact ih h hF5
theorem un_Ed_unpatchUnit_15 {μ0 : Mem}  {l1 : Int}  : ∀ {n : Nat} {μ : Mem} {l2 : Int} {r : Mem}, Ed_unpatchUnit_15 l1 n μ l2 = some r → UN μ0 μ → UN μ0 r := by
  intro n
  induction n with
  | zero =>
    intro μ l2 r h
    exact noneS h
  | succ n ih =>
    intro μ l2 r h hF
    rw [Ed_unpatchUnit_15] at h
    by_cases c7 : 12 < l2
    · replace h := ifT c7 h
      exact un_Ed_unpatchUnit_42 h hF
    · replace h := ifF c7 h
      obtain ⟨o1, h2, h⟩ := bindS h
      obtain ⟨h3, h⟩ := ifSome h
      obtain ⟨m4, h5, h⟩ := bindS h
      have hF6 := un_Row_remove h5 hF
      exact ih h hF6
theorem un_Ed_unpatchUnit {μ0 μ : Mem}  {a1 : Int} {r : Mem}  (h : Ed_unpatchUnit μ a1 = some r) (hF : UN μ0 μ) : UN μ0 r := by
  unfold Ed_unpatchUnit at h
  obtain ⟨o1, h2, h⟩ := bindS h
  obtain ⟨m3, h4, h⟩ := bindS h
  have hF5 := un_Ar_fill h4 hF
  exact un_Ed_unpatchUnit_15 h hF5
theorem un_Ed_makePalette_2 {μ0 : Mem}  {l2 : Int}  : ∀ {n : Nat} {μ : Mem} {l3 : Int} {r : Mem}, Ed_makePalette_2 l2 n μ l3 = some r → UN μ0 μ → UN μ0 r := by
  intro n
  induction n with
  | zero =>
    intro μ l3 r h
    exact noneS h
  | succ n ih =>
    intro μ l3 r h hF
    rw [Ed_makePalette_2] at h
    by_cases c6 : 9 ≤ l3
    · replace h := ifT c6 h
      replace h := Option.some.inj h
      subst h
      exact hF
    · replace h := ifF c6 h
      obtain ⟨x1, h2, h⟩ := bindS h
      obtain ⟨m3, h4, h⟩ := bindS h
      have hF5 := UND hF h4
      exact ih h hF5
theorem un_Ed_makePalette {μ0 μ : Mem}  {a2 : Int} {r : Mem}  (h : Ed_makePalette μ a2 = some r) (hF : UN μ0 μ) : UN μ0 r := by
  unfold Ed_makePalette at h
  exact un_Ed_makePalette_2 h hF
theorem un_Ed_makeSub_50 {μ0 : Mem}  {l2 : Int}  : ∀ {n : Nat} {μ : Mem} {l3 : Int} {r : Mem}, Ed_makeSub_50 l2 n μ l3 = some r → UN μ0 μ → UN μ0 r := by
  intro n
  induction n with
  | zero =>
    intro μ l3 r h
    exact noneS h
  | succ n ih =>
    intro μ l3 r h hF
    rw [Ed_makeSub_50] at h
    by_cases c8 : (μ 248 1) ≤ l3
    · replace h := ifT c8 h
      replace h := Option.some.inj h
      subst h
      exact hF
    · replace h := ifF c8 h
      obtain ⟨o1, h2, h⟩ := bindS h
      obtain ⟨x3, h4, h⟩ := bindS h
      obtain ⟨m5, h6, h⟩ := bindS h
      have hF7 := UND hF h6
      exact ih h hF7
theorem un_Ed_makeSub {μ0 μ : Mem}  {a2 : Int} {r : Mem}  (h : Ed_makeSub μ a2 = some r) (hF : UN μ0 μ) : UN μ0 r := by
  unfold Ed_makeSub at h
  obtain ⟨x1, h2, h⟩ := bindS h
  by_cases c8 : x1 = 54
  · replace h := ifT c8 h
    obtain ⟨o3, h4, h⟩ := bindS h
    obtain ⟨m5, h6, h⟩ := bindS h
    have hF7 := un_Ar_fill h6 hF
    replace h := Option.some.inj h
    subst h
    exact hF7
  replace h := ifF c8 h
  by_cases c9 : x1 = 55
  · replace h := ifT c9 h
    exact un_Ed_makeSub_50 h hF
  replace h := ifF c9 h
  by_cases c16 : (μ 241 1) ≠ 57
  · replace h := ifT c16 h
    obtain ⟨m10, h11, h⟩ := bindS h
    have hF12 := UNS hF uo_71 h11
    replace h := Option.some.inj h
    subst h
    exact hF12
  · replace h := ifF c16 h
    obtain ⟨m13, h14, h⟩ := bindS h
    have hF15 := UNS hF uo_71 h14
    replace h := Option.some.inj h
    subst h
    exact hF15
theorem un_Ed_makeWave_2 {μ0 : Mem}  {l2 : Int}  : ∀ {n : Nat} {μ : Mem} {l3 : Int} {r : Mem}, Ed_makeWave_2 l2 n μ l3 = some r → UN μ0 μ → UN μ0 r := by
  intro n
  induction n with
  | zero =>
    intro μ l3 r h
    exact noneS h
  | succ n ih =>
    intro μ l3 r h hF
    rw [Ed_makeWave_2] at h
    by_cases c14 : 5 ≤ l3
    · replace h := ifT c14 h
      obtain ⟨o1, h2, h⟩ := bindS h
      obtain ⟨h3, h⟩ := ifSome h
      obtain ⟨m4, h5, h⟩ := bindS h
      have hF6 := un_Row_copyFrom h5 hF
      replace h := Option.some.inj h
      subst h
      exact hF6
    · replace h := ifF c14 h
      obtain ⟨o7, h8, h⟩ := bindS h
      obtain ⟨x9, h10, h⟩ := bindS h
      obtain ⟨m11, h12, h⟩ := bindS h
      have hF13 := UND hF h12
      exact ih h hF13
theorem un_Ed_makeWave {μ0 μ : Mem}  {a2 : Int} {r : Mem}  (h : Ed_makeWave μ a2 = some r) (hF : UN μ0 μ) : UN μ0 r := by
  unfold Ed_makeWave at h
  exact un_Ed_makeWave_2 h hF
theorem un_Ed_unparkSlots {μ0 μ : Mem}  {a2 : Int} {r : Mem}  (h : Ed_unparkSlots μ a2 = some r) (hF : UN μ0 μ) : UN μ0 r := by
  unfold Ed_unparkSlots at h
  by_cases c7 : (μ 241 1) ≠ 64
  · replace h := ifT c7 h
    obtain ⟨m1, h2, h⟩ := bindS h
    have hF3 := UNS hF uo_81 h2
    replace h := Option.some.inj h
    subst h
    exact hF3
  · replace h := ifF c7 h
    obtain ⟨m4, h5, h⟩ := bindS h
    have hF6 := un_Ar_fill h5 hF
    replace h := Option.some.inj h
    subst h
    exact hF6
theorem un_Ed_makeEvent {μ0 μ : Mem}  {a2 : Int} {r : Mem}  (h : Ed_makeEvent μ a2 = some r) (hF : UN μ0 μ) : UN μ0 r := by
  unfold Ed_makeEvent at h
  obtain ⟨x1, h2, h⟩ := bindS h
  obtain ⟨m3, h4, h⟩ := bindS h
  have hF5 := UND hF h4
  obtain ⟨x6, h7, h⟩ := bindS h
  obtain ⟨m8, h9, h⟩ := bindS h
  have hF10 := UND hF5 h9
  replace h := Option.some.inj h
  subst h
  exact hF10
theorem un_Cue_begin {μ0 μ : Mem}  {a0 : Int} {a1 : Int} {r : Mem}  (h : Cue_begin μ a0 a1 = some r) (hF : UN μ0 μ) : UN μ0 r := by
  unfold Cue_begin at h
  obtain ⟨m1, h2, h⟩ := bindS h
  have hF3 := UNPf hF rfl h2
  obtain ⟨x4, h5, h⟩ := bindS h
  obtain ⟨m6, h7, h⟩ := bindS h
  have hF8 := un_Ar_fill h7 hF3
  obtain ⟨x9, h10, h⟩ := bindS h
  obtain ⟨m11, h12, h⟩ := bindS h
  have hF13 := UND hF8 h12
  obtain ⟨x14, h15, h⟩ := bindS h
  obtain ⟨m16, h17, h⟩ := bindS h
  have hF18 := UND hF13 h17
  obtain ⟨x19, h20, h⟩ := bindS h
  obtain ⟨m21, h22, h⟩ := bindS h
  have hF23 := un_Ar_fill h22 hF18
  replace h := Option.some.inj h
  subst h
  exact hF23
theorem un_Sh_bringCue_56 {μ0 : Mem}  {l1 : Int} {l2 : Int} {l3 : Int}  : ∀ {n : Nat} {μ : Mem} {l4 : Int} {r : Int × Mem}, Sh_bringCue_56 l1 l2 l3 n μ l4 = some r → UN μ0 μ → UN μ0 r.2 := by
  intro n
  induction n with
  | zero =>
    intro μ l4 r h
    exact noneS h
  | succ n ih =>
    intro μ l4 r h hF
    rw [Sh_bringCue_56] at h
    by_cases c16 : l4 ≤ l2
    · replace h := ifT c16 h
      obtain ⟨m1, h2, h⟩ := bindS h
      have hF3 := UNA hF uo_79 h2
      obtain ⟨m4, h5, h⟩ := bindS h
      have hF6 := UNP hF3 uo_3 h5
      obtain ⟨h7, h⟩ := ifSome h
      obtain ⟨m8, h9, h⟩ := bindS h
      have hF10 := un_Cue_begin h9 hF6
      replace h := Option.some.inj h
      subst h
      exact hF10
    · replace h := ifF c16 h
      obtain ⟨x11, h12, h⟩ := bindS h
      obtain ⟨m13, h14, h⟩ := bindS h
      have hF15 := UNA hF uo_79 h14
      exact ih h hF15
theorem un_Sh_bringCue_29 {μ0 μ : Mem}  {l1 : Int} {l2 : Int} {r : Int × Mem}  (h : Sh_bringCue_29 μ l1 l2 = some r) (hF : UN μ0 μ) : UN μ0 r.2 := by
  unfold Sh_bringCue_29 at h
  by_cases c5 : (μ 3 8) < 30
  · replace h := ifT c5 h
    obtain ⟨x1, h2, h⟩ := bindS h
    obtain ⟨x3, h4, h⟩ := bindS h
    exact un_Sh_bringCue_56 h hF
  · replace h := ifF c5 h
    replace h := Option.some.inj h
    subst h
    exact hF
theorem un_Sh_bringCue {μ0 μ : Mem}  {a1 : Int} {r : Int × Mem}  (h : Sh_bringCue μ a1 = some r) (hF : UN μ0 μ) : UN μ0 r.2 := by
  unfold Sh_bringCue at h
  obtain ⟨x1, h2, h⟩ := bindS h
  by_cases c8 : x1 ≤ 0
  · replace h := ifT c8 h
    exact un_Sh_bringCue_29 h hF
  · replace h := ifF c8 h
    obtain ⟨x3, h4, h⟩ := bindS h
    obtain ⟨x5, h6, h⟩ := bindS h
    by_cases c7 : x5 ≠ a1
    · replace h := ifT c7 h
      exact un_Sh_bringCue_29 h hF
    · replace h := ifF c7 h
      replace h := Option.some.inj h
      subst h
      exact hF
theorem un_Ed_bringCue_30 {μ0 : Mem}  {l3 : Int} {l4 : Int}  : ∀ {n : Nat} {μ : Mem} {l5 : Int} {r : Int × Mem}, Ed_bringCue_30 l3 l4 n μ l5 = some r → UN μ0 μ → UN μ0 r.2 := by
  intro n
  induction n with
  | zero =>
    intro μ l5 r h
    exact noneS h
  | succ n ih =>
    intro μ l5 r h hF
    rw [Ed_bringCue_30] at h
    by_cases c8 : 6 ≤ l5
    · replace h := ifT c8 h
      replace h := Option.some.inj h
      subst h
      exact hF
    · replace h := ifF c8 h
      obtain ⟨x1, h2, h⟩ := bindS h
      obtain ⟨x3, h4, h⟩ := bindS h
      obtain ⟨m5, h6, h⟩ := bindS h
      have hF7 := UND hF h6
      exact ih h hF7
theorem un_Ed_bringCue {μ0 μ : Mem}  {a2 : Int} {r : Int × Mem}  (h : Ed_bringCue μ a2 = some r) (hF : UN μ0 μ) : UN μ0 r.2 := by
  unfold Ed_bringCue at h
  obtain ⟨p1, h2, h⟩ := bindS h
  have hF3 := un_Sh_bringCue h2 hF
  obtain ⟨x4, h5, h⟩ := bindS h
  by_cases c10 : x4 < 0
  · replace h := ifT c10 h
    replace h := Option.some.inj h
    subst h
    exact hF3
  · replace h := ifF c10 h
    obtain ⟨x6, h7, h⟩ := bindS h
    obtain ⟨x8, h9, h⟩ := bindS h
    exact un_Ed_bringCue_30 h hF3
theorem un_Ed_keepTracked {μ0 μ : Mem}  {a1 : Int} {a2 : Int} {r : Mem}  (h : Ed_keepTracked μ a1 a2 = some r) (hF : UN μ0 μ) : UN μ0 r := by
  unfold Ed_keepTracked at h
  obtain ⟨x1, h2, h⟩ := bindS h
  obtain ⟨x3, h4, h⟩ := bindS h
  obtain ⟨x5, h6, h⟩ := bindS h
  by_cases c18 : x5 ≠ (-1)
  · replace h := ifT c18 h
    replace h := Option.some.inj h
    subst h
    exact hF
  · replace h := ifF c18 h
    obtain ⟨x7, h8, h⟩ := bindS h
    by_cases c17 : x7 ≠ (-1)
    · replace h := ifT c17 h
      obtain ⟨m9, h10, h⟩ := bindS h
      have hF11 := UND hF h10
      replace h := Option.some.inj h
      subst h
      exact hF11
    · replace h := ifF c17 h
      obtain ⟨x12, h13, h⟩ := bindS h
      obtain ⟨m14, h15, h⟩ := bindS h
      have hF16 := UND hF h15
      replace h := Option.some.inj h
      subst h
      exact hF16
theorem un_Ed_recordCue_80 {μ0 μ : Mem} {K44 : Mem → Int → Option (Mem)} {l3 : Int} {l4 : Int} {l5 : Int} {r : Mem} (hK44 : ∀ {μ : Mem} {l5 : Int} {r : Mem}, K44 μ l5 = some r → UN μ0 μ → UN μ0 r) (h : Ed_recordCue_80 K44 μ l3 l4 l5 = some r) (hF : UN μ0 μ) : UN μ0 r := by
  unfold Ed_recordCue_80 at h
  obtain ⟨x1, h2, h⟩ := bindS h
  obtain ⟨x3, h4, h⟩ := bindS h
  obtain ⟨x5, h6, h⟩ := bindS h
  obtain ⟨m7, h8, h⟩ := bindS h
  have hF9 := UND hF h8
  exact hK44 h hF9
theorem un_Ed_recordCue_44 {μ0 : Mem}  {l3 : Int} {l4 : Int}  : ∀ {n : Nat} {μ : Mem} {l5 : Int} {r : Mem}, Ed_recordCue_44 l3 l4 n μ l5 = some r → UN μ0 μ → UN μ0 r := by
  intro n
  induction n with
  | zero =>
    intro μ l5 r h
    exact noneS h
  | succ n ih =>
    intro μ l5 r h hF
    rw [Ed_recordCue_44] at h
    by_cases c8 : 360 ≤ l5
    · replace h := ifT c8 h
      replace h := Option.some.inj h
      subst h
      exact hF
    · replace h := ifF c8 h
      obtain ⟨x1, h2, h⟩ := bindS h
      by_cases c7 : x1 = (-1)
      · replace h := ifT c7 h
        exact ih h hF
      · replace h := ifF c7 h
        by_cases c6 : l4 = 0
        · replace h := ifT c6 h
          exact un_Ed_recordCue_80 ih h hF
        · replace h := ifF c6 h
          obtain ⟨m3, h4, h⟩ := bindS h
          have hF5 := un_Ed_keepTracked h4 hF
          exact un_Ed_recordCue_80 ih h hF5
theorem un_Ed_recordCue {μ0 μ : Mem}  {a2 : Int} {r : Mem}  (h : Ed_recordCue μ a2 = some r) (hF : UN μ0 μ) : UN μ0 r := by
  unfold Ed_recordCue at h
  obtain ⟨p1, h2, h⟩ := bindS h
  have hF3 := un_Ed_bringCue h2 hF
  obtain ⟨x4, h5, h⟩ := bindS h
  by_cases c8 : 0 ≤ x4
  · replace h := ifT c8 h
    by_cases c7 : (p1.2 241 1) ≠ 62
    · replace h := ifT c7 h
      exact un_Ed_recordCue_44 h hF3
    · replace h := ifF c7 h
      by_cases c6 : (p1.2 3 8) ≤ (jadd x4 1)
      · replace h := ifT c6 h
        exact un_Ed_recordCue_44 h hF3
      · replace h := ifF c6 h
        exact un_Ed_recordCue_44 h hF3
  · replace h := ifF c8 h
    replace h := Option.some.inj h
    subst h
    exact hF3
theorem un_Ed_updateCues_69 {μ0 μ : Mem} {K17 : Mem → Int → Option (Mem)} {l1 : Int} {l2 : Int} {s1 : Int} {r : Mem} (hK17 : ∀ {μ : Mem} {l2 : Int} {r : Mem}, K17 μ l2 = some r → UN μ0 μ → UN μ0 r) (h : Ed_updateCues_69 K17 μ l1 l2 s1 = some r) (hF : UN μ0 μ) : UN μ0 r := by
  unfold Ed_updateCues_69 at h
  obtain ⟨x1, h2, h⟩ := bindS h
  obtain ⟨x3, h4, h⟩ := bindS h
  obtain ⟨x5, h6, h⟩ := bindS h
  obtain ⟨m7, h8, h⟩ := bindS h
  have hF9 := UND hF h8
  exact hK17 h hF9
theorem un_Ed_updateCues_17 {μ0 : Mem}  {l1 : Int}  : ∀ {n : Nat} {μ : Mem} {l2 : Int} {r : Mem}, Ed_updateCues_17 l1 n μ l2 = some r → UN μ0 μ → UN μ0 r := by
  intro n
  induction n with
  | zero =>
    intro μ l2 r h
    exact noneS h
  | succ n ih =>
    intro μ l2 r h hF
    rw [Ed_updateCues_17] at h
    by_cases c11 : 360 ≤ l2
    · replace h := ifT c11 h
      obtain ⟨m1, h2, h⟩ := bindS h
      have hF3 := un_Ar_fill h2 hF
      replace h := Option.some.inj h
      subst h
      exact hF3
    · replace h := ifF c11 h
      obtain ⟨x4, h5, h⟩ := bindS h
      by_cases c10 : x4 = (-1)
      · replace h := ifT c10 h
        exact ih h hF
      · replace h := ifF c10 h
        by_cases c9 : l1 ≤ 0
        · replace h := ifT c9 h
          exact ih h hF
        · replace h := ifF c9 h
          obtain ⟨x6, h7, h⟩ := bindS h
          by_cases c8 : 0 ≤ x6
          · replace h := ifT c8 h
            exact un_Ed_updateCues_69 ih h hF
          · replace h := ifF c8 h
            exact un_Ed_updateCues_69 ih h hF
theorem un_Ed_updateCues {μ0 μ : Mem}   {r : Mem}  (h : Ed_updateCues μ = some r) (hF : UN μ0 μ) : UN μ0 r := by
  unfold Ed_updateCues at h
  obtain ⟨x1, h2, h⟩ := bindS h
  exact un_Ed_updateCues_17 h hF
theorem un_Sh_removeCue_11 {μ0 : Mem}  {l2 : Int}  : ∀ {n : Nat} {μ : Mem} {l3 : Int} {r : Mem}, Sh_removeCue_11 l2 n μ l3 = some r → UN μ0 μ → UN μ0 r := by
  intro n
  induction n with
  | zero =>
    intro μ l3 r h
    exact noneS h
  | succ n ih =>
    intro μ l3 r h hF
    rw [Sh_removeCue_11] at h
    by_cases c12 : (μ 3 8) ≤ l3
    · replace h := ifT c12 h
      obtain ⟨m1, h2, h⟩ := bindS h
      have hF3 := UNP hF uo_3 h2
      obtain ⟨m4, h5, h⟩ := bindS h
      have hF6 := UNA hF3 uo_79 h5
      replace h := Option.some.inj h
      subst h
      exact hF6
    · replace h := ifF c12 h
      obtain ⟨x7, h8, h⟩ := bindS h
      obtain ⟨m9, h10, h⟩ := bindS h
      have hF11 := UNA hF uo_79 h10
      exact ih h hF11
theorem un_Sh_removeCue {μ0 μ : Mem}  {a1 : Int} {r : Mem}  (h : Sh_removeCue μ a1 = some r) (hF : UN μ0 μ) : UN μ0 r := by
  unfold Sh_removeCue at h
  obtain ⟨x1, h2, h⟩ := bindS h
  obtain ⟨x3, h4, h⟩ := bindS h
  exact un_Sh_removeCue_11 h hF
theorem un_Ed_deleteCue_21 {μ0 μ : Mem}  {l1 : Int} {r : Mem}  (h : Ed_deleteCue_21 μ l1 = some r) (hF : UN μ0 μ) : UN μ0 r := by
  unfold Ed_deleteCue_21 at h
  by_cases c4 : (μ 3 10) ≠ l1
  · replace h := ifT c4 h
    replace h := Option.some.inj h
    subst h
    exact hF
  · replace h := ifF c4 h
    obtain ⟨m1, h2, h⟩ := bindS h
    have hF3 := UNP hF uo_3 h2
    replace h := Option.some.inj h
    subst h
    exact hF3
theorem un_Ed_deleteCue {μ0 μ : Mem}  {a1 : Int} {r : Mem}  (h : Ed_deleteCue μ a1 = some r) (hF : UN μ0 μ) : UN μ0 r := by
  unfold Ed_deleteCue at h
  obtain ⟨x1, h2, h⟩ := bindS h
  by_cases c6 : x1 < 0
  · replace h := ifT c6 h
    exact un_Ed_deleteCue_21 h hF
  · replace h := ifF c6 h
    obtain ⟨m3, h4, h⟩ := bindS h
    have hF5 := un_Sh_removeCue h4 hF
    exact un_Ed_deleteCue_21 h hF5
theorem un_Ed_copyCue {μ0 μ : Mem}  {a1 : Int} {a2 : Int} {r : Mem}  (h : Ed_copyCue μ a1 a2 = some r) (hF : UN μ0 μ) : UN μ0 r := by
  unfold Ed_copyCue at h
  obtain ⟨p1, h2, h⟩ := bindS h
  have hF3 := un_Sh_bringCue h2 hF
  obtain ⟨x4, h5, h⟩ := bindS h
  obtain ⟨x6, h7, h⟩ := bindS h
  by_cases c22 : x6 < 0
  · replace h := ifT c22 h
    replace h := Option.some.inj h
    subst h
    exact hF3
  · replace h := ifF c22 h
    by_cases c21 : x4 < 0
    · replace h := ifT c21 h
      replace h := Option.some.inj h
      subst h
      exact hF3
    · replace h := ifF c21 h
      obtain ⟨x8, h9, h⟩ := bindS h
      obtain ⟨x10, h11, h⟩ := bindS h
      obtain ⟨h12, h⟩ := ifSome h
      obtain ⟨m13, h14, h⟩ := bindS h
      have hF15 := un_Cue_copyFrom h14 hF3
      obtain ⟨x16, h17, h⟩ := bindS h
      obtain ⟨m18, h19, h⟩ := bindS h
      have hF20 := UNPf hF15 rfl h19
      replace h := Option.some.inj h
      subst h
      exact hF20
theorem un_Ed_blockCue_20 {μ0 : Mem}  {l1 : Int} {l2 : Int}  : ∀ {n : Nat} {μ : Mem} {l3 : Int} {r : Mem}, Ed_blockCue_20 l1 l2 n μ l3 = some r → UN μ0 μ → UN μ0 r := by
  intro n
  induction n with
  | zero =>
    intro μ l3 r h
    exact noneS h
  | succ n ih =>
    intro μ l3 r h hF
    rw [Ed_blockCue_20] at h
    by_cases c9 : 360 ≤ l3
    · replace h := ifT c9 h
      replace h := Option.some.inj h
      subst h
      exact hF
    · replace h := ifF c9 h
      obtain ⟨x1, h2, h⟩ := bindS h
      by_cases c8 : x1 ≠ (-1)
      · replace h := ifT c8 h
        exact ih h hF
      · replace h := ifF c8 h
        obtain ⟨x3, h4, h⟩ := bindS h
        obtain ⟨m5, h6, h⟩ := bindS h
        have hF7 := UND hF h6
        exact ih h hF7
theorem un_Ed_blockCue {μ0 μ : Mem}  {a1 : Int} {r : Mem}  (h : Ed_blockCue μ a1 = some r) (hF : UN μ0 μ) : UN μ0 r := by
  unfold Ed_blockCue at h
  by_cases c5 : 0 ≤ a1
  · replace h := ifT c5 h
    obtain ⟨x1, h2, h⟩ := bindS h
    obtain ⟨x3, h4, h⟩ := bindS h
    exact un_Ed_blockCue_20 h hF
  · replace h := ifF c5 h
    replace h := Option.some.inj h
    subst h
    exact hF
theorem un_Ed_unblockCue_21 {μ0 : Mem}  {l1 : Int} {l2 : Int}  : ∀ {n : Nat} {μ : Mem} {l3 : Int} {r : Mem}, Ed_unblockCue_21 l1 l2 n μ l3 = some r → UN μ0 μ → UN μ0 r := by
  intro n
  induction n with
  | zero =>
    intro μ l3 r h
    exact noneS h
  | succ n ih =>
    intro μ l3 r h hF
    rw [Ed_unblockCue_21] at h
    by_cases c9 : 360 ≤ l3
    · replace h := ifT c9 h
      replace h := Option.some.inj h
      subst h
      exact hF
    · replace h := ifF c9 h
      obtain ⟨x1, h2, h⟩ := bindS h
      obtain ⟨x3, h4, h⟩ := bindS h
      by_cases c8 : x1 ≠ x3
      · replace h := ifT c8 h
        exact ih h hF
      · replace h := ifF c8 h
        obtain ⟨m5, h6, h⟩ := bindS h
        have hF7 := UND hF h6
        exact ih h hF7
theorem un_Ed_unblockCue {μ0 μ : Mem}  {a1 : Int} {r : Mem}  (h : Ed_unblockCue μ a1 = some r) (hF : UN μ0 μ) : UN μ0 r := by
  unfold Ed_unblockCue at h
  by_cases c5 : 1 ≤ a1
  · replace h := ifT c5 h
    obtain ⟨x1, h2, h⟩ := bindS h
    obtain ⟨x3, h4, h⟩ := bindS h
    exact un_Ed_unblockCue_21 h hF
  · replace h := ifF c5 h
    replace h := Option.some.inj h
    subst h
    exact hF
theorem un_Pl_fadeFrom {μ0 μ : Mem}  {a1 : Int} {a2 : Int} {a3 : Int} {r : Mem}  (h : Pl_fadeFrom μ a1 a2 a3 = some r) (hF : UN μ0 μ) : UN μ0 r := by
  unfold Pl_fadeFrom at h
  obtain ⟨m1, h2, h⟩ := bindS h
  have hF3 := UNS hF uo_223 h2
  obtain ⟨m4, h5, h⟩ := bindS h
  have hF6 := UNS hF3 uo_224 h5
  obtain ⟨m7, h8, h⟩ := bindS h
  have hF9 := UNS hF6 uo_225 h8
  replace h := Option.some.inj h
  subst h
  exact hF9
theorem un_Ed_sneakAway_2 {μ0 : Mem}  {l1 : Int}  : ∀ {n : Nat} {μ : Mem} {l2 : Int} {r : Mem}, Ed_sneakAway_2 l1 n μ l2 = some r → UN μ0 μ → UN μ0 r := by
  intro n
  induction n with
  | zero =>
    intro μ l2 r h
    exact noneS h
  | succ n ih =>
    intro μ l2 r h hF
    rw [Ed_sneakAway_2] at h
    by_cases c12 : 360 ≤ l2
    · replace h := ifT c12 h
      obtain ⟨m1, h2, h⟩ := bindS h
      have hF3 := un_Ar_fill h2 hF
      replace h := Option.some.inj h
      subst h
      exact hF3
    · replace h := ifF c12 h
      obtain ⟨x4, h5, h⟩ := bindS h
      by_cases c11 : x4 = (-1)
      · replace h := ifT c11 h
        exact ih h hF
      · replace h := ifF c11 h
        obtain ⟨x6, h7, h⟩ := bindS h
        obtain ⟨m8, h9, h⟩ := bindS h
        have hF10 := un_Pl_fadeFrom h9 hF
        exact ih h hF10
theorem un_Ed_sneakAway {μ0 μ : Mem}  {a1 : Int} {r : Mem}  (h : Ed_sneakAway μ a1 = some r) (hF : UN μ0 μ) : UN μ0 r := by
  unfold Ed_sneakAway at h
  exact un_Ed_sneakAway_2 h hF
theorem un_Ed_performOnCues {μ0 μ : Mem}  {a2 : Int} {r : Mem}  (h : Ed_performOnCues μ a2 = some r) (hF : UN μ0 μ) : UN μ0 r := by
  unfold Ed_performOnCues at h
  obtain ⟨x1, h2, h⟩ := bindS h
  by_cases c6 : x1 = 39
  · replace h := ifT c6 h
    obtain ⟨p3, h4, h⟩ := bindS h
    have hF5 := un_Ed_bringCue h4 hF
    replace h := Option.some.inj h
    subst h
    exact hF5
  replace h := ifF c6 h
  by_cases c10 : x1 = 40
  · replace h := ifT c10 h
    obtain ⟨m7, h8, h⟩ := bindS h
    have hF9 := un_Ed_recordCue h8 hF
    replace h := Option.some.inj h
    subst h
    exact hF9
  replace h := ifF c10 h
  by_cases c14 : x1 = 41
  · replace h := ifT c14 h
    obtain ⟨m11, h12, h⟩ := bindS h
    have hF13 := un_Ed_updateCues h12 hF
    replace h := Option.some.inj h
    subst h
    exact hF13
  replace h := ifF c14 h
  by_cases c18 : x1 = 42
  · replace h := ifT c18 h
    obtain ⟨m15, h16, h⟩ := bindS h
    have hF17 := un_Ed_deleteCue h16 hF
    replace h := Option.some.inj h
    subst h
    exact hF17
  replace h := ifF c18 h
  by_cases c22 : x1 = 43
  · replace h := ifT c22 h
    obtain ⟨m19, h20, h⟩ := bindS h
    have hF21 := un_Ed_copyCue h20 hF
    replace h := Option.some.inj h
    subst h
    exact hF21
  replace h := ifF c22 h
  by_cases c28 : x1 = 44
  · replace h := ifT c28 h
    obtain ⟨x23, h24, h⟩ := bindS h
    obtain ⟨m25, h26, h⟩ := bindS h
    have hF27 := un_Ed_blockCue h26 hF
    replace h := Option.some.inj h
    subst h
    exact hF27
  replace h := ifF c28 h
  by_cases c34 : x1 = 45
  · replace h := ifT c34 h
    obtain ⟨x29, h30, h⟩ := bindS h
    obtain ⟨m31, h32, h⟩ := bindS h
    have hF33 := un_Ed_unblockCue h32 hF
    replace h := Option.some.inj h
    subst h
    exact hF33
  replace h := ifF c34 h
  by_cases c38 : x1 = 46
  · replace h := ifT c38 h
    obtain ⟨m35, h36, h⟩ := bindS h
    have hF37 := UNP hF uo_3 h36
    replace h := Option.some.inj h
    subst h
    exact hF37
  replace h := ifF c38 h
  by_cases c42 : x1 = 47
  · replace h := ifT c42 h
    obtain ⟨m39, h40, h⟩ := bindS h
    have hF41 := UNP hF uo_3 h40
    replace h := Option.some.inj h
    subst h
    exact hF41
  replace h := ifF c42 h
  by_cases c46 : x1 = 48
  · replace h := ifT c46 h
    obtain ⟨m43, h44, h⟩ := bindS h
    have hF45 := un_Ar_fill h44 hF
    replace h := Option.some.inj h
    subst h
    exact hF45
  replace h := ifF c46 h
  by_cases c50 : x1 = 49
  · replace h := ifT c50 h
    obtain ⟨m47, h48, h⟩ := bindS h
    have hF49 := un_Ed_sneakAway h48 hF
    replace h := Option.some.inj h
    subst h
    exact hF49
  replace h := ifF c50 h
  replace h := Option.some.inj h
  subst h
  exact hF
theorem un_Ed_perform_123 {μ0 : Mem}    : ∀ {n : Nat} {μ : Mem} {l3 : Int} {r : Mem}, Ed_perform_123 n μ l3 = some r → UN μ0 μ → UN μ0 r := by
  intro n
  induction n with
  | zero =>
    intro μ l3 r h
    exact noneS h
  | succ n ih =>
    intro μ l3 r h hF
    rw [Ed_perform_123] at h
    by_cases c6 : (μ 248 1) ≤ l3
    · replace h := ifT c6 h
      replace h := Option.some.inj h
      subst h
      exact hF
    · replace h := ifF c6 h
      obtain ⟨x1, h2, h⟩ := bindS h
      obtain ⟨m3, h4, h⟩ := bindS h
      have hF5 := un_Ed_unpatchUnit h4 hF
      exact ih h hF5
theorem un_Ed_perform {μ0 μ : Mem}   {r : Mem}  (h : Ed_perform μ = some r) (hF : UN μ0 μ) : UN μ0 r := by
  unfold Ed_perform at h
  obtain ⟨x1, h2, h⟩ := bindS h
  obtain ⟨x3, h4, h⟩ := bindS h
  by_cases c8 : x3 = 33
  · replace h := ifT c8 h
    obtain ⟨m5, h6, h⟩ := bindS h
    have hF7 := un_Ed_patchUnit h6 hF
    replace h := Option.some.inj h
    subst h
    exact hF7
  replace h := ifF c8 h
  by_cases c9 : x3 = 34
  · replace h := ifT c9 h
    exact un_Ed_perform_123 h hF
  replace h := ifF c9 h
  by_cases c16 : x3 = 35
  · replace h := ifT c16 h
    obtain ⟨o10, h11, h⟩ := bindS h
    obtain ⟨h12, h⟩ := ifSome h
    obtain ⟨m13, h14, h⟩ := bindS h
    have hF15 := un_Row_copyFrom h14 hF
    replace h := Option.some.inj h
    subst h
    exact hF15
  replace h := ifF c16 h
  by_cases c22 : x3 = 36
  · replace h := ifT c22 h
    obtain ⟨o17, h18, h⟩ := bindS h
    obtain ⟨m19, h20, h⟩ := bindS h
    have hF21 := un_Ed_makePalette h20 hF
    replace h := Option.some.inj h
    subst h
    exact hF21
  replace h := ifF c22 h
  by_cases c26 : x3 = 37
  · replace h := ifT c26 h
    obtain ⟨m23, h24, h⟩ := bindS h
    have hF25 := un_Ed_makeSub h24 hF
    replace h := Option.some.inj h
    subst h
    exact hF25
  replace h := ifF c26 h
  by_cases c30 : x3 = 38
  · replace h := ifT c30 h
    obtain ⟨m27, h28, h⟩ := bindS h
    have hF29 := un_Ed_makeWave h28 hF
    replace h := Option.some.inj h
    subst h
    exact hF29
  replace h := ifF c30 h
  by_cases c34 : x3 = 50
  · replace h := ifT c34 h
    obtain ⟨m31, h32, h⟩ := bindS h
    have hF33 := UNS hF uo_81 h32
    replace h := Option.some.inj h
    subst h
    exact hF33
  replace h := ifF c34 h
  by_cases c38 : x3 = 51
  · replace h := ifT c38 h
    obtain ⟨m35, h36, h⟩ := bindS h
    have hF37 := un_Ed_unparkSlots h36 hF
    replace h := Option.some.inj h
    subst h
    exact hF37
  replace h := ifF c38 h
  by_cases c44 : x3 = 52
  · replace h := ifT c44 h
    obtain ⟨o39, h40, h⟩ := bindS h
    obtain ⟨m41, h42, h⟩ := bindS h
    have hF43 := un_Ed_makeEvent h42 hF
    replace h := Option.some.inj h
    subst h
    exact hF43
  replace h := ifF c44 h
  by_cases c48 : x3 = 78
  · replace h := ifT c48 h
    obtain ⟨m45, h46, h⟩ := bindS h
    have hF47 := un_Ed_setValues h46 hF
    replace h := Option.some.inj h
    subst h
    exact hF47
  replace h := ifF c48 h
  obtain ⟨m49, h50, h⟩ := bindS h
  have hF51 := un_Ed_performOnCues h50 hF
  replace h := Option.some.inj h
  subst h
  exact hF51
theorem un_Pl_settle_22 {μ0 : Mem} {K14 : Mem → Int → Option (Mem)} {l1 : Int} {l2 : Int} (hK14 : ∀ {μ : Mem} {l2 : Int} {r : Mem}, K14 μ l2 = some r → UN μ0 μ → UN μ0 r) : ∀ {n : Nat} {μ : Mem} {l3 : Int} {r : Mem}, Pl_settle_22 K14 l1 l2 n μ l3 = some r → UN μ0 μ → UN μ0 r := by
  intro n
  induction n with
  | zero =>
    intro μ l3 r h
    exact noneS h
  | succ n ih =>
    intro μ l3 r h hF
    rw [Pl_settle_22] at h
    by_cases c14 : 9 ≤ l3
    · replace h := ifT c14 h
      exact hK14 h hF
    · replace h := ifF c14 h
      obtain ⟨x1, h2, h⟩ := bindS h
      obtain ⟨x3, h4, h⟩ := bindS h
      obtain ⟨x5, h6, h⟩ := bindS h
      by_cases c13 : x3 = x5
      · replace h := ifT c13 h
        exact ih h hF
      · replace h := ifF c13 h
        obtain ⟨m7, h8, h⟩ := bindS h
        have hF9 := UNS hF uo_222 h8
        obtain ⟨m10, h11, h⟩ := bindS h
        have hF12 := un_Pl_fadeFrom h11 hF9
        exact ih h hF12
theorem un_Pl_settle_14 {μ0 : Mem}  {l1 : Int}  : ∀ {n : Nat} {μ : Mem} {l2 : Int} {r : Mem}, Pl_settle_14 l1 n μ l2 = some r → UN μ0 μ → UN μ0 r := by
  intro n
  induction n with
  | zero =>
    intro μ l2 r h
    exact noneS h
  | succ n ih =>
    intro μ l2 r h hF
    rw [Pl_settle_14] at h
    by_cases c1 : 40 < l2
    · replace h := ifT c1 h
      replace h := Option.some.inj h
      subst h
      exact hF
    · replace h := ifF c1 h
      exact un_Pl_settle_22 ih h hF
theorem un_Pl_settle {μ0 μ : Mem}   {r : Mem}  (h : Pl_settle μ = some r) (hF : UN μ0 μ) : UN μ0 r := by
  unfold Pl_settle at h
  obtain ⟨x1, h2, h⟩ := bindS h
  exact un_Pl_settle_14 h hF
theorem un_D_undo {μ0 μ : Mem}   {r : Int × Mem}  (h : D_undo μ = some r) (hF : UN μ0 μ) : UN μ0 r.2 := by
  unfold D_undo at h
  by_cases c15 : (μ 1 6) = 0
  · replace h := ifT c15 h
    replace h := Option.some.inj h
    subst h
    exact hF
  · replace h := ifF c15 h
    obtain ⟨x1, h2, h⟩ := bindS h
    by_cases c14 : x1 ≠ 0
    · replace h := ifT c14 h
      obtain ⟨m3, h4, h⟩ := bindS h
      have hF5 := UNP hF uo_1 h4
      obtain ⟨x6, h7, h⟩ := bindS h
      obtain ⟨m8, h9, h⟩ := bindS h
      have hF10 := un_Sh_copyFrom h9 hF5
      obtain ⟨m11, h12, h⟩ := bindS h
      have hF13 := un_Pl_settle h12 hF10
      replace h := Option.some.inj h
      subst h
      exact hF13
    · replace h := ifF c14 h
      replace h := Option.some.inj h
      subst h
      exact hF
theorem un_Sv_putByte {μ0 μ : Mem}  {a1 : Int} {r : Mem}  (h : Sv_putByte μ a1 = some r) (hF : UN μ0 μ) : UN μ0 r := by
  unfold Sv_putByte at h
  by_cases c10 : (μ 257 3) < 6000
  · replace h := ifT c10 h
    obtain ⟨m1, h2, h⟩ := bindS h
    have hF3 := UNS hF uo_258 h2
    obtain ⟨m4, h5, h⟩ := bindS h
    have hF6 := UNP hF3 uo_257 h5
    replace h := Option.some.inj h
    subst h
    exact hF6
  · replace h := ifF c10 h
    obtain ⟨m7, h8, h⟩ := bindS h
    have hF9 := UNP hF uo_257 h8
    replace h := Option.some.inj h
    subst h
    exact hF9
theorem un_Sv_putBlankIfNeeded {μ0 μ : Mem}   {r : Mem}  (h : Sv_putBlankIfNeeded μ = some r) (hF : UN μ0 μ) : UN μ0 r := by
  unfold Sv_putBlankIfNeeded at h
  by_cases c10 : (μ 257 5) = 0
  · replace h := ifT c10 h
    obtain ⟨m1, h2, h⟩ := bindS h
    have hF3 := UNP hF uo_257 h2
    replace h := Option.some.inj h
    subst h
    exact hF3
  · replace h := ifF c10 h
    obtain ⟨m4, h5, h⟩ := bindS h
    have hF6 := un_Sv_putByte h5 hF
    obtain ⟨m7, h8, h⟩ := bindS h
    have hF9 := UNP hF6 uo_257 h8
    replace h := Option.some.inj h
    subst h
    exact hF9
theorem un_Sv_putWord_15 {μ0 : Mem}  {l1 : Int} {l2 : Int}  : ∀ {n : Nat} {μ : Mem} {l3 : Int} {r : Mem}, Sv_putWord_15 l1 l2 n μ l3 = some r → UN μ0 μ → UN μ0 r := by
  intro n
  induction n with
  | zero =>
    intro μ l3 r h
    exact noneS h
  | succ n ih =>
    intro μ l3 r h hF
    rw [Sv_putWord_15] at h
    by_cases c6 : l2 ≤ l3
    · replace h := ifT c6 h
      replace h := Option.some.inj h
      subst h
      exact hF
    · replace h := ifF c6 h
      obtain ⟨x1, h2, h⟩ := bindS h
      obtain ⟨m3, h4, h⟩ := bindS h
      have hF5 := un_Sv_putByte h4 hF
      exact ih h hF5
theorem un_Sv_putWord {μ0 μ : Mem}  {a1 : Int} {r : Mem}  (h : Sv_putWord μ a1 = some r) (hF : UN μ0 μ) : UN μ0 r := by
  unfold Sv_putWord at h
  obtain ⟨m1, h2, h⟩ := bindS h
  have hF3 := un_Sv_putBlankIfNeeded h2 hF
  obtain ⟨x4, h5, h⟩ := bindS h
  exact un_Sv_putWord_15 h hF3
theorem un_Sv_putNumber_36 {μ0 μ : Mem} {K10 : Mem → Int → Int → Option (Mem)} {l1 : Int} {l3 : Int} {l4 : Int} {r : Mem} (hK10 : ∀ {μ : Mem} {l2 : Int} {l3 : Int} {r : Mem}, K10 μ l2 l3 = some r → UN μ0 μ → UN μ0 r) (h : Sv_putNumber_36 K10 μ l1 l3 l4 = some r) (hF : UN μ0 μ) : UN μ0 r := by
  unfold Sv_putNumber_36 at h
  obtain ⟨m1, h2, h⟩ := bindS h
  have hF3 := un_Sv_putByte h2 hF
  obtain ⟨x4, h5, h⟩ := bindS h
  exact hK10 h hF3
theorem un_Sv_putNumber_10 {μ0 : Mem}  {l1 : Int}  : ∀ {n : Nat} {μ : Mem} {l2 : Int} {l3 : Int} {r : Mem}, Sv_putNumber_10 l1 n μ l2 l3 = some r → UN μ0 μ → UN μ0 r := by
  intro n
  induction n with
  | zero =>
    intro μ l2 l3 r h
    exact noneS h
  | succ n ih =>
    intro μ l2 l3 r h hF
    rw [Sv_putNumber_10] at h
    by_cases c9 : l3 ≤ 0
    · replace h := ifT c9 h
      replace h := Option.some.inj h
      subst h
      exact hF
    · replace h := ifF c9 h
      obtain ⟨h1, h⟩ := ifNone h
      obtain ⟨x2, h3, h⟩ := bindS h
      by_cases c8 : l2 ≠ 0
      · replace h := ifT c8 h
        exact un_Sv_putNumber_36 ih h hF
      · replace h := ifF c8 h
        by_cases c7 : 0 < x2
        · replace h := ifT c7 h
          exact un_Sv_putNumber_36 ih h hF
        · replace h := ifF c7 h
          by_cases c6 : l3 ≠ 1
          · replace h := ifT c6 h
            obtain ⟨x4, h5, h⟩ := bindS h
            exact ih h hF
          · replace h := ifF c6 h
            exact un_Sv_putNumber_36 ih h hF
theorem un_Sv_putNumber {μ0 μ : Mem}  {a1 : Int} {r : Mem}  (h : Sv_putNumber μ a1 = some r) (hF : UN μ0 μ) : UN μ0 r := by
  unfold Sv_putNumber at h
  obtain ⟨m1, h2, h⟩ := bindS h
  have hF3 := un_Sv_putBlankIfNeeded h2 hF
  exact un_Sv_putNumber_10 h hF3
theorem un_Sv_writeHead {μ0 μ : Mem}  {a1 : Int} {a2 : Int} {r : Mem}  (h : Sv_writeHead μ a1 a2 = some r) (hF : UN μ0 μ) : UN μ0 r := by
  unfold Sv_writeHead at h
  obtain ⟨m1, h2, h⟩ := bindS h
  have hF3 := un_Sv_putWord h2 hF
  obtain ⟨m4, h5, h⟩ := bindS h
  have hF6 := un_Sv_putNumber h5 hF3
  replace h := Option.some.inj h
  subst h
  exact hF6
theorem un_Sv_putPair {μ0 μ : Mem}  {a1 : Int} {a2 : Int} {r : Mem}  (h : Sv_putPair μ a1 a2 = some r) (hF : UN μ0 μ) : UN μ0 r := by
  unfold Sv_putPair at h
  obtain ⟨m1, h2, h⟩ := bindS h
  have hF3 := un_Sv_putWord h2 hF
  obtain ⟨m4, h5, h⟩ := bindS h
  have hF6 := un_Sv_putNumber h5 hF3
  replace h := Option.some.inj h
  subst h
  exact hF6
theorem un_Sv_putSign {μ0 μ : Mem}  {a1 : Int} {r : Mem}  (h : Sv_putSign μ a1 = some r) (hF : UN μ0 μ) : UN μ0 r := by
  unfold Sv_putSign at h
  obtain ⟨m1, h2, h⟩ := bindS h
  have hF3 := un_Sv_putByte h2 hF
  obtain ⟨m4, h5, h⟩ := bindS h
  have hF6 := UNP hF3 uo_257 h5
  replace h := Option.some.inj h
  subst h
  exact hF6
theorem un_Sv_close {μ0 μ : Mem}   {r : Mem}  (h : Sv_close μ = some r) (hF : UN μ0 μ) : UN μ0 r := by
  unfold Sv_close at h
  obtain ⟨m1, h2, h⟩ := bindS h
  have hF3 := un_Sv_putSign h2 hF
  obtain ⟨m4, h5, h⟩ := bindS h
  have hF6 := un_Sv_putByte h5 hF3
  replace h := Option.some.inj h
  subst h
  exact hF6
theorem un_Sv_writePatch_82 {μ0 μ : Mem}   {r : Mem}  (h : Sv_writePatch_82 μ = some r) (hF : UN μ0 μ) : UN μ0 r := by
  unfold Sv_writePatch_82 at h
  obtain ⟨m1, h2, h⟩ := bindS h
  have hF3 := un_Sv_close h2 hF
  replace h := Option.some.inj h
  subst h
  exact hF3
theorem un_Sv_writePatch_69 {μ0 μ : Mem}  {l2 : Int} {r : Mem}  (h : Sv_writePatch_69 μ l2 = some r) (hF : UN μ0 μ) : UN μ0 r := by
  unfold Sv_writePatch_69 at h
  obtain ⟨x1, h2, h⟩ := bindS h
  by_cases c6 : x1 ≠ 1
  · replace h := ifT c6 h
    exact un_Sv_writePatch_82 h hF
  · replace h := ifF c6 h
    obtain ⟨m3, h4, h⟩ := bindS h
    have hF5 := un_Sv_putWord h4 hF
    exact un_Sv_writePatch_82 h hF5
theorem un_Sv_writePatch_56 {μ0 μ : Mem}  {l2 : Int} {r : Mem}  (h : Sv_writePatch_56 μ l2 = some r) (hF : UN μ0 μ) : UN μ0 r := by
  unfold Sv_writePatch_56 at h
  obtain ⟨x1, h2, h⟩ := bindS h
  by_cases c6 : x1 ≠ 1
  · replace h := ifT c6 h
    exact un_Sv_writePatch_69 h hF
  · replace h := ifF c6 h
    obtain ⟨m3, h4, h⟩ := bindS h
    have hF5 := un_Sv_putWord h4 hF
    exact un_Sv_writePatch_69 h hF5
theorem un_Sv_writePatch_41 {μ0 μ : Mem}  {l2 : Int} {r : Mem}  (h : Sv_writePatch_41 μ l2 = some r) (hF : UN μ0 μ) : UN μ0 r := by
  unfold Sv_writePatch_41 at h
  obtain ⟨x1, h2, h⟩ := bindS h
  by_cases c8 : x1 = 0
  · replace h := ifT c8 h
    exact un_Sv_writePatch_56 h hF
  · replace h := ifF c8 h
    obtain ⟨x3, h4, h⟩ := bindS h
    obtain ⟨m5, h6, h⟩ := bindS h
    have hF7 := un_Sv_putPair h6 hF
    exact un_Sv_writePatch_56 h hF7
theorem un_Sv_writePatch {μ0 μ : Mem}  {a1 : Int} {a2 : Int} {r : Mem}  (h : Sv_writePatch μ a1 a2 = some r) (hF : UN μ0 μ) : UN μ0 r := by
  unfold Sv_writePatch at h
  obtain ⟨m1, h2, h⟩ := bindS h
  have hF3 := un_Sv_writeHead h2 hF
  obtain ⟨x4, h5, h⟩ := bindS h
  obtain ⟨m6, h7, h⟩ := bindS h
  have hF8 := un_Sv_putWord h7 hF3
  obtain ⟨x9, h10, h⟩ := bindS h
  obtain ⟨m11, h12, h⟩ := bindS h
  have hF13 := un_Sv_putPair h12 hF8
  obtain ⟨x14, h15, h⟩ := bindS h
  by_cases c21 : x14 = 1000
  · replace h := ifT c21 h
    exact un_Sv_writePatch_41 h hF13
  · replace h := ifF c21 h
    obtain ⟨x16, h17, h⟩ := bindS h
    obtain ⟨m18, h19, h⟩ := bindS h
    have hF20 := un_Sv_putPair h19 hF13
    exact un_Sv_writePatch_41 h hF20
theorem un_Sv_putUnits_20 {μ0 μ : Mem} {K2 : Mem → Int → Option (Mem)} {l1 : Int} {l2 : Int} {r : Mem} (hK2 : ∀ {μ : Mem} {l2 : Int} {r : Mem}, K2 μ l2 = some r → UN μ0 μ → UN μ0 r) (h : Sv_putUnits_20 K2 μ l1 l2 = some r) (hF : UN μ0 μ) : UN μ0 r := by
  unfold Sv_putUnits_20 at h
  obtain ⟨x1, h2, h⟩ := bindS h
  obtain ⟨x3, h4, h⟩ := bindS h
  obtain ⟨m5, h6, h⟩ := bindS h
  have hF7 := un_Sv_putNumber h6 hF
  exact hK2 h hF7
theorem un_Sv_putUnits_2 {μ0 : Mem}  {l1 : Int}  : ∀ {n : Nat} {μ : Mem} {l2 : Int} {r : Mem}, Sv_putUnits_2 l1 n μ l2 = some r → UN μ0 μ → UN μ0 r := by
  intro n
  induction n with
  | zero =>
    intro μ l2 r h
    exact noneS h
  | succ n ih =>
    intro μ l2 r h hF
    rw [Sv_putUnits_2] at h
    obtain ⟨x1, h2, h⟩ := bindS h
    by_cases c7 : x1 ≤ l2
    · replace h := ifT c7 h
      replace h := Option.some.inj h
      subst h
      exact hF
    · replace h := ifF c7 h
      by_cases c6 : l2 ≤ 0
      · replace h := ifT c6 h
        exact un_Sv_putUnits_20 ih h hF
      · replace h := ifF c6 h
        obtain ⟨m3, h4, h⟩ := bindS h
        have hF5 := un_Sv_putSign h4 hF
        exact un_Sv_putUnits_20 ih h hF5
theorem un_Sv_putUnits {μ0 μ : Mem}  {a1 : Int} {r : Mem}  (h : Sv_putUnits μ a1 = some r) (hF : UN μ0 μ) : UN μ0 r := by
  unfold Sv_putUnits at h
  exact un_Sv_putUnits_2 h hF
theorem un_Sv_writePalette_15 {μ0 : Mem}  {l1 : Int}  : ∀ {n : Nat} {μ : Mem} {l2 : Int} {r : Mem}, Sv_writePalette_15 l1 n μ l2 = some r → UN μ0 μ → UN μ0 r := by
  intro n
  induction n with
  | zero =>
    intro μ l2 r h
    exact noneS h
  | succ n ih =>
    intro μ l2 r h hF
    rw [Sv_writePalette_15] at h
    by_cases c16 : 9 ≤ l2
    · replace h := ifT c16 h
      obtain ⟨m1, h2, h⟩ := bindS h
      have hF3 := un_Sv_close h2 hF
      replace h := Option.some.inj h
      subst h
      exact hF3
    · replace h := ifF c16 h
      obtain ⟨o4, h5, h⟩ := bindS h
      obtain ⟨x6, h7, h⟩ := bindS h
      by_cases c15 : x6 = (-1)
      · replace h := ifT c15 h
        exact ih h hF
      · replace h := ifF c15 h
        obtain ⟨o8, h9, h⟩ := bindS h
        obtain ⟨x10, h11, h⟩ := bindS h
        obtain ⟨m12, h13, h⟩ := bindS h
        have hF14 := un_Sv_putPair h13 hF
        exact ih h hF14
theorem un_Sv_writePalette {μ0 μ : Mem}  {a1 : Int} {r : Mem}  (h : Sv_writePalette μ a1 = some r) (hF : UN μ0 μ) : UN μ0 r := by
  unfold Sv_writePalette at h
  obtain ⟨m1, h2, h⟩ := bindS h
  have hF3 := un_Sv_writeHead h2 hF
  obtain ⟨m4, h5, h⟩ := bindS h
  have hF6 := un_Sv_putSign h5 hF3
  exact un_Sv_writePalette_15 h hF6
theorem un_Sv_writeSub_32 {μ0 : Mem}  {l1 : Int}  : ∀ {n : Nat} {μ : Mem} {l2 : Int} {r : Mem}, Sv_writeSub_32 l1 n μ l2 = some r → UN μ0 μ → UN μ0 r := by
  intro n
  induction n with
  | zero =>
    intro μ l2 r h
    exact noneS h
  | succ n ih =>
    intro μ l2 r h hF
    rw [Sv_writeSub_32] at h
    by_cases c25 : 40 < l2
    · replace h := ifT c25 h
      replace h := Option.some.inj h
      subst h
      exact hF
    · replace h := ifF c25 h
      obtain ⟨o1, h2, h⟩ := bindS h
      obtain ⟨x3, h4, h⟩ := bindS h
      by_cases c24 : x3 = (-1)
      · replace h := ifT c24 h
        exact ih h hF
      · replace h := ifF c24 h
        obtain ⟨m5, h6, h⟩ := bindS h
        have hF7 := un_Sv_writeHead h6 hF
        obtain ⟨m8, h9, h⟩ := bindS h
        have hF10 := un_Sv_putPair h9 hF7
        obtain ⟨m11, h12, h⟩ := bindS h
        have hF13 := un_Sv_putSign h12 hF10
        obtain ⟨o14, h15, h⟩ := bindS h
        obtain ⟨x16, h17, h⟩ := bindS h
        obtain ⟨m18, h19, h⟩ := bindS h
        have hF20 := un_Sv_putNumber h19 hF13
        obtain ⟨m21, h22, h⟩ := bindS h
        have hF23 := un_Sv_close h22 hF20
        exact ih h hF23
theorem un_Sv_writeSub {μ0 μ : Mem}  {a1 : Int} {r : Mem}  (h : Sv_writeSub μ a1 = some r) (hF : UN μ0 μ) : UN μ0 r := by
  unfold Sv_writeSub at h
  obtain ⟨x1, h2, h⟩ := bindS h
  by_cases c12 : x1 ≠ 1
  · replace h := ifT c12 h
    exact un_Sv_writeSub_32 h hF
  · replace h := ifF c12 h
    obtain ⟨m3, h4, h⟩ := bindS h
    have hF5 := un_Sv_writeHead h4 hF
    obtain ⟨m6, h7, h⟩ := bindS h
    have hF8 := un_Sv_putWord h7 hF5
    obtain ⟨m9, h10, h⟩ := bindS h
    have hF11 := un_Sv_close h10 hF8
    exact un_Sv_writeSub_32 h hF11
theorem un_Sv_writeWave {μ0 μ : Mem}  {a1 : Int} {a2 : Int} {r : Mem}  (h : Sv_writeWave μ a1 a2 = some r) (hF : UN μ0 μ) : UN μ0 r := by
  unfold Sv_writeWave at h
  obtain ⟨m1, h2, h⟩ := bindS h
  have hF3 := un_Sv_writeHead h2 hF
  obtain ⟨m4, h5, h⟩ := bindS h
  have hF6 := un_Sv_putSign h5 hF3
  obtain ⟨x7, h8, h⟩ := bindS h
  obtain ⟨m9, h10, h⟩ := bindS h
  have hF11 := un_Sv_putWord h10 hF6
  obtain ⟨x12, h13, h⟩ := bindS h
  obtain ⟨m14, h15, h⟩ := bindS h
  have hF16 := un_Sv_putWord h15 hF11
  obtain ⟨x17, h18, h⟩ := bindS h
  obtain ⟨m19, h20, h⟩ := bindS h
  have hF21 := un_Sv_putPair h20 hF16
  obtain ⟨x22, h23, h⟩ := bindS h
  obtain ⟨m24, h25, h⟩ := bindS h
  have hF26 := un_Sv_putPair h25 hF21
  obtain ⟨x27, h28, h⟩ := bindS h
  obtain ⟨m29, h30, h⟩ := bindS h
  have hF31 := un_Sv_putPair h30 hF26
  obtain ⟨m32, h33, h⟩ := bindS h
  have hF34 := un_Sv_putWord h33 hF31
  obtain ⟨o35, h36, h⟩ := bindS h
  obtain ⟨m37, h38, h⟩ := bindS h
  have hF39 := un_Sv_putUnits h38 hF34
  obtain ⟨m40, h41, h⟩ := bindS h
  have hF42 := un_Sv_close h41 hF39
  replace h := Option.some.inj h
  subst h
  exact hF42
theorem un_Sv_writeChanges_39 {μ0 μ : Mem} {K5 : Mem → Int → Int → Option (Mem)} {l1 : Int} {l2 : Int} {l3 : Int} {l4 : Int} {l5 : Int} {r : Mem} (hK5 : ∀ {μ : Mem} {l3 : Int} {l4 : Int} {r : Mem}, K5 μ l3 l4 = some r → UN μ0 μ → UN μ0 r) (h : Sv_writeChanges_39 K5 μ l1 l2 l3 l4 l5 = some r) (hF : UN μ0 μ) : UN μ0 r := by
  unfold Sv_writeChanges_39 at h
  obtain ⟨m1, h2, h⟩ := bindS h
  have hF3 := un_Sv_putWord h2 hF
  by_cases c10 : l5 < 2000
  · replace h := ifT c10 h
    obtain ⟨m4, h5, h⟩ := bindS h
    have hF6 := un_Sv_putNumber h5 hF3
    exact hK5 h hF6
  · replace h := ifF c10 h
    obtain ⟨m7, h8, h⟩ := bindS h
    have hF9 := un_Sv_putPair h8 hF3
    exact hK5 h hF9
theorem un_Sv_writeChanges_5 {μ0 : Mem}  {l1 : Int} {l2 : Int}  : ∀ {n : Nat} {μ : Mem} {l3 : Int} {l4 : Int} {r : Mem}, Sv_writeChanges_5 l1 l2 n μ l3 l4 = some r → UN μ0 μ → UN μ0 r := by
  intro n
  induction n with
  | zero =>
    intro μ l3 l4 r h
    exact noneS h
  | succ n ih =>
    intro μ l3 l4 r h hF
    rw [Sv_writeChanges_5] at h
    by_cases c14 : 9 ≤ l4
    · replace h := ifT c14 h
      by_cases c4 : l3 = 0
      · replace h := ifT c4 h
        replace h := Option.some.inj h
        subst h
        exact hF
      · replace h := ifF c4 h
        obtain ⟨m1, h2, h⟩ := bindS h
        have hF3 := un_Sv_close h2 hF
        replace h := Option.some.inj h
        subst h
        exact hF3
    · replace h := ifF c14 h
      obtain ⟨x5, h6, h⟩ := bindS h
      obtain ⟨x7, h8, h⟩ := bindS h
      by_cases c13 : x7 = (-1)
      · replace h := ifT c13 h
        exact ih h hF
      · replace h := ifF c13 h
        by_cases c12 : l3 ≠ 0
        · replace h := ifT c12 h
          exact un_Sv_writeChanges_39 ih h hF
        · replace h := ifF c12 h
          obtain ⟨m9, h10, h⟩ := bindS h
          have hF11 := un_Sv_putNumber h10 hF
          exact un_Sv_writeChanges_39 ih h hF11
theorem un_Sv_writeChanges {μ0 μ : Mem}  {a1 : Int} {a2 : Int} {r : Mem}  (h : Sv_writeChanges μ a1 a2 = some r) (hF : UN μ0 μ) : UN μ0 r := by
  unfold Sv_writeChanges at h
  exact un_Sv_writeChanges_5 h hF
theorem un_Sv_writeCue_34 {μ0 μ : Mem} {K12 : Mem → Int → Option (Mem)} {l1 : Int} {l2 : Int} {s0 : Int} {s1 : Int} {r : Mem} (hK12 : ∀ {μ : Mem} {l2 : Int} {r : Mem}, K12 μ l2 = some r → UN μ0 μ → UN μ0 r) (h : Sv_writeCue_34 K12 μ l1 l2 s0 s1 = some r) (hF : UN μ0 μ) : UN μ0 r := by
  unfold Sv_writeCue_34 at h
  by_cases c8 : s0 = s1
  · replace h := ifT c8 h
    exact hK12 h hF
  · replace h := ifF c8 h
    obtain ⟨x1, h2, h⟩ := bindS h
    obtain ⟨x3, h4, h⟩ := bindS h
    obtain ⟨m5, h6, h⟩ := bindS h
    have hF7 := un_Sv_putPair h6 hF
    exact hK12 h hF7
theorem un_Sv_writeCue_88 {μ0 : Mem}  {l1 : Int}  : ∀ {n : Nat} {μ : Mem} {l2 : Int} {r : Mem}, Sv_writeCue_88 l1 n μ l2 = some r → UN μ0 μ → UN μ0 r := by
  intro n
  induction n with
  | zero =>
    intro μ l2 r h
    exact noneS h
  | succ n ih =>
    intro μ l2 r h hF
    rw [Sv_writeCue_88] at h
    by_cases c12 : 40 < l2
    · replace h := ifT c12 h
      obtain ⟨m1, h2, h⟩ := bindS h
      have hF3 := un_Sv_putWord h2 hF
      obtain ⟨m4, h5, h⟩ := bindS h
      have hF6 := un_Sv_close h5 hF3
      replace h := Option.some.inj h
      subst h
      exact hF6
    · replace h := ifF c12 h
      obtain ⟨x7, h8, h⟩ := bindS h
      obtain ⟨m9, h10, h⟩ := bindS h
      have hF11 := un_Sv_writeChanges h10 hF
      exact ih h hF11
theorem un_Sv_writeCue_12 {μ0 : Mem}  {l1 : Int}  : ∀ {n : Nat} {μ : Mem} {l2 : Int} {r : Mem}, Sv_writeCue_12 l1 n μ l2 = some r → UN μ0 μ → UN μ0 r := by
  intro n
  induction n with
  | zero =>
    intro μ l2 r h
    exact noneS h
  | succ n ih =>
    intro μ l2 r h hF
    rw [Sv_writeCue_12] at h
    by_cases c22 : 6 ≤ l2
    · replace h := ifT c22 h
      obtain ⟨m1, h2, h⟩ := bindS h
      have hF3 := un_Sv_close h2 hF
      obtain ⟨x4, h5, h⟩ := bindS h
      obtain ⟨x6, h7, h⟩ := bindS h
      by_cases c16 : x6 ≠ 0
      · replace h := ifT c16 h
        obtain ⟨x8, h9, h⟩ := bindS h
        obtain ⟨m10, h11, h⟩ := bindS h
        have hF12 := un_Sv_writeHead h11 hF3
        obtain ⟨m13, h14, h⟩ := bindS h
        have hF15 := un_Sv_close h14 hF12
        exact un_Sv_writeCue_88 h hF15
      · replace h := ifF c16 h
        replace h := Option.some.inj h
        subst h
        exact hF3
    · replace h := ifF c22 h
      obtain ⟨x17, h18, h⟩ := bindS h
      obtain ⟨x19, h20, h⟩ := bindS h
      by_cases c21 : 4 ≤ l2
      · replace h := ifT c21 h
        exact un_Sv_writeCue_34 ih h hF
      · replace h := ifF c21 h
        exact un_Sv_writeCue_34 ih h hF
theorem un_Sv_writeCue {μ0 μ : Mem}  {a1 : Int} {r : Mem}  (h : Sv_writeCue μ a1 = some r) (hF : UN μ0 μ) : UN μ0 r := by
  unfold Sv_writeCue at h
  obtain ⟨x1, h2, h⟩ := bindS h
  obtain ⟨m3, h4, h⟩ := bindS h
  have hF5 := un_Sv_writeHead h4 hF
  exact un_Sv_writeCue_12 h hF5
theorem un_Sv_writeParksAndEvents_60 {μ0 : Mem}    : ∀ {n : Nat} {μ : Mem} {l1 : Int} {r : Mem}, Sv_writeParksAndEvents_60 n μ l1 = some r → UN μ0 μ → UN μ0 r := by
  intro n
  induction n with
  | zero =>
    intro μ l1 r h
    exact noneS h
  | succ n ih =>
    intro μ l1 r h hF
    rw [Sv_writeParksAndEvents_60] at h
    by_cases c29 : 10 < l1
    · replace h := ifT c29 h
      replace h := Option.some.inj h
      subst h
      exact hF
    · replace h := ifF c29 h
      obtain ⟨o1, h2, h⟩ := bindS h
      obtain ⟨x3, h4, h⟩ := bindS h
      by_cases c28 : x3 = (-1)
      · replace h := ifT c28 h
        exact ih h hF
      · replace h := ifF c28 h
        obtain ⟨m5, h6, h⟩ := bindS h
        have hF7 := un_Sv_writeHead h6 hF
        obtain ⟨m8, h9, h⟩ := bindS h
        have hF10 := un_Sv_putSign h9 hF7
        obtain ⟨o11, h12, h⟩ := bindS h
        obtain ⟨x13, h14, h⟩ := bindS h
        obtain ⟨m15, h16, h⟩ := bindS h
        have hF17 := un_Sv_putNumber h16 hF10
        obtain ⟨o18, h19, h⟩ := bindS h
        obtain ⟨x20, h21, h⟩ := bindS h
        obtain ⟨m22, h23, h⟩ := bindS h
        have hF24 := un_Sv_putPair h23 hF17
        obtain ⟨m25, h26, h⟩ := bindS h
        have hF27 := un_Sv_close h26 hF24
        exact ih h hF27
theorem un_Sv_writeParksAndEvents_2 {μ0 : Mem}    : ∀ {n : Nat} {μ : Mem} {l1 : Int} {r : Mem}, Sv_writeParksAndEvents_2 n μ l1 = some r → UN μ0 μ → UN μ0 r := by
  intro n
  induction n with
  | zero =>
    intro μ l1 r h
    exact noneS h
  | succ n ih =>
    intro μ l1 r h hF
    rw [Sv_writeParksAndEvents_2] at h
    by_cases c18 : 200 < l1
    · replace h := ifT c18 h
      exact un_Sv_writeParksAndEvents_60 h hF
    · replace h := ifF c18 h
      obtain ⟨x1, h2, h⟩ := bindS h
      by_cases c17 : x1 = (-1)
      · replace h := ifT c17 h
        exact ih h hF
      · replace h := ifF c17 h
        obtain ⟨m3, h4, h⟩ := bindS h
        have hF5 := un_Sv_writeHead h4 hF
        obtain ⟨m6, h7, h⟩ := bindS h
        have hF8 := un_Sv_putSign h7 hF5
        obtain ⟨x9, h10, h⟩ := bindS h
        obtain ⟨m11, h12, h⟩ := bindS h
        have hF13 := un_Sv_putNumber h12 hF8
        obtain ⟨m14, h15, h⟩ := bindS h
        have hF16 := un_Sv_close h15 hF13
        exact ih h hF16
theorem un_Sv_writeParksAndEvents {μ0 μ : Mem}   {r : Mem}  (h : Sv_writeParksAndEvents μ = some r) (hF : UN μ0 μ) : UN μ0 r := by
  unfold Sv_writeParksAndEvents at h
  exact un_Sv_writeParksAndEvents_2 h hF
theorem un_Sv_write_210 {μ0 : Mem}    : ∀ {n : Nat} {μ : Mem} {l1 : Int} {r : Mem}, Sv_write_210 n μ l1 = some r → UN μ0 μ → UN μ0 r := by
  intro n
  induction n with
  | zero =>
    intro μ l1 r h
    exact noneS h
  | succ n ih =>
    intro μ l1 r h hF
    rw [Sv_write_210] at h
    by_cases c9 : (μ 3 8) ≤ l1
    · replace h := ifT c9 h
      obtain ⟨m1, h2, h⟩ := bindS h
      have hF3 := un_Sv_writeParksAndEvents h2 hF
      replace h := Option.some.inj h
      subst h
      exact hF3
    · replace h := ifF c9 h
      obtain ⟨x4, h5, h⟩ := bindS h
      obtain ⟨m6, h7, h⟩ := bindS h
      have hF8 := un_Sv_writeCue h7 hF
      exact ih h hF8
theorem un_Sv_write_168 {μ0 : Mem}    : ∀ {n : Nat} {μ : Mem} {l1 : Int} {r : Mem}, Sv_write_168 n μ l1 = some r → UN μ0 μ → UN μ0 r := by
  intro n
  induction n with
  | zero =>
    intro μ l1 r h
    exact noneS h
  | succ n ih =>
    intro μ l1 r h hF
    rw [Sv_write_168] at h
    by_cases c11 : 4 < l1
    · replace h := ifT c11 h
      exact un_Sv_write_210 h hF
    · replace h := ifF c11 h
      obtain ⟨o1, h2, h⟩ := bindS h
      obtain ⟨x3, h4, h⟩ := bindS h
      by_cases c10 : x3 = (-1)
      · replace h := ifT c10 h
        exact ih h hF
      · replace h := ifF c10 h
        obtain ⟨o5, h6, h⟩ := bindS h
        obtain ⟨m7, h8, h⟩ := bindS h
        have hF9 := un_Sv_writeWave h8 hF
        exact ih h hF9
theorem un_Sv_write_149 {μ0 : Mem}    : ∀ {n : Nat} {μ : Mem} {l1 : Int} {r : Mem}, Sv_write_149 n μ l1 = some r → UN μ0 μ → UN μ0 r := by
  intro n
  induction n with
  | zero =>
    intro μ l1 r h
    exact noneS h
  | succ n ih =>
    intro μ l1 r h hF
    rw [Sv_write_149] at h
    by_cases c4 : 8 < l1
    · replace h := ifT c4 h
      exact un_Sv_write_168 h hF
    · replace h := ifF c4 h
      obtain ⟨m1, h2, h⟩ := bindS h
      have hF3 := un_Sv_writeSub h2 hF
      exact ih h hF3
theorem un_Sv_write_115 {μ0 : Mem}    : ∀ {n : Nat} {μ : Mem} {l1 : Int} {r : Mem}, Sv_write_115 n μ l1 = some r → UN μ0 μ → UN μ0 r := by
  intro n
  induction n with
  | zero =>
    intro μ l1 r h
    exact noneS h
  | succ n ih =>
    intro μ l1 r h hF
    rw [Sv_write_115] at h
    by_cases c9 : 12 < l1
    · replace h := ifT c9 h
      exact un_Sv_write_149 h hF
    · replace h := ifF c9 h
      obtain ⟨o1, h2, h⟩ := bindS h
      obtain ⟨x3, h4, h⟩ := bindS h
      by_cases c8 : x3 ≤ 0
      · replace h := ifT c8 h
        exact ih h hF
      · replace h := ifF c8 h
        obtain ⟨m5, h6, h⟩ := bindS h
        have hF7 := un_Sv_writePalette h6 hF
        exact ih h hF7
theorem un_Sv_write_56 {μ0 : Mem}    : ∀ {n : Nat} {μ : Mem} {l1 : Int} {r : Mem}, Sv_write_56 n μ l1 = some r → UN μ0 μ → UN μ0 r := by
  intro n
  induction n with
  | zero =>
    intro μ l1 r h
    exact noneS h
  | succ n ih =>
    intro μ l1 r h hF
    rw [Sv_write_56] at h
    by_cases c20 : 12 < l1
    · replace h := ifT c20 h
      exact un_Sv_write_115 h hF
    · replace h := ifF c20 h
      obtain ⟨o1, h2, h⟩ := bindS h
      obtain ⟨x3, h4, h⟩ := bindS h
      by_cases c19 : x3 ≤ 0
      · replace h := ifT c19 h
        exact ih h hF
      · replace h := ifF c19 h
        obtain ⟨m5, h6, h⟩ := bindS h
        have hF7 := un_Sv_writeHead h6 hF
        obtain ⟨m8, h9, h⟩ := bindS h
        have hF10 := un_Sv_putSign h9 hF7
        obtain ⟨o11, h12, h⟩ := bindS h
        obtain ⟨m13, h14, h⟩ := bindS h
        have hF15 := un_Sv_putUnits h14 hF10
        obtain ⟨m16, h17, h⟩ := bindS h
        have hF18 := un_Sv_close h17 hF15
        exact ih h hF18
theorem un_Sv_write_17 {μ0 : Mem}    : ∀ {n : Nat} {μ : Mem} {l1 : Int} {r : Mem}, Sv_write_17 n μ l1 = some r → UN μ0 μ → UN μ0 r := by
  intro n
  induction n with
  | zero =>
    intro μ l1 r h
    exact noneS h
  | succ n ih =>
    intro μ l1 r h hF
    rw [Sv_write_17] at h
    by_cases c9 : 40 < l1
    · replace h := ifT c9 h
      exact un_Sv_write_56 h hF
    · replace h := ifF c9 h
      obtain ⟨x1, h2, h⟩ := bindS h
      by_cases c8 : x1 = 0
      · replace h := ifT c8 h
        exact ih h hF
      · replace h := ifF c8 h
        obtain ⟨o3, h4, h⟩ := bindS h
        obtain ⟨m5, h6, h⟩ := bindS h
        have hF7 := un_Sv_writePatch h6 hF
        exact ih h hF7
theorem un_Sv_write {μ0 μ : Mem}   {r : Mem}  (h : Sv_write μ = some r) (hF : UN μ0 μ) : UN μ0 r := by
  unfold Sv_write at h
  obtain ⟨m1, h2, h⟩ := bindS h
  have hF3 := UNP hF uo_257 h2
  obtain ⟨m4, h5, h⟩ := bindS h
  have hF6 := UNP hF3 uo_257 h5
  obtain ⟨m7, h8, h⟩ := bindS h
  have hF9 := UNP hF6 uo_257 h8
  exact un_Sv_write_17 h hF9
theorem un_D_save {μ0 μ : Mem}   {r : Int × Mem}  (h : D_save μ = some r) (hF : UN μ0 μ) : UN μ0 r.2 := by
  unfold D_save at h
  obtain ⟨m1, h2, h⟩ := bindS h
  have hF3 := un_Sv_write h2 hF
  by_cases c10 : (m1 257 4) = 0
  · replace h := ifT c10 h
    obtain ⟨m4, h5, h⟩ := bindS h
    have hF6 := UNC hF3 h5
    obtain ⟨m7, h8, h⟩ := bindS h
    have hF9 := UNP hF6 uo_1 h8
    replace h := Option.some.inj h
    subst h
    exact hF9
  · replace h := ifF c10 h
    replace h := Option.some.inj h
    subst h
    exact hF3
theorem un_Pl_fadeTo_37 {μ0 μ : Mem}  {l1 : Int} {l3 : Int} {s0 : Int} {r : Mem}  (h : Pl_fadeTo_37 μ l1 l3 s0 = some r) (hF : UN μ0 μ) : UN μ0 r := by
  unfold Pl_fadeTo_37 at h
  obtain ⟨x1, h2, h⟩ := bindS h
  obtain ⟨x3, h4, h⟩ := bindS h
  obtain ⟨m5, h6, h⟩ := bindS h
  have hF7 := UNS hF uo_224 h6
  obtain ⟨x8, h9, h⟩ := bindS h
  by_cases c20 : (jrem l1 9) ≠ 0
  · replace h := ifT c20 h
    obtain ⟨x10, h11, h⟩ := bindS h
    obtain ⟨m12, h13, h⟩ := bindS h
    have hF14 := UNS hF7 uo_225 h13
    replace h := Option.some.inj h
    subst h
    exact hF14
  · replace h := ifF c20 h
    obtain ⟨x15, h16, h⟩ := bindS h
    obtain ⟨m17, h18, h⟩ := bindS h
    have hF19 := UNS hF7 uo_225 h18
    replace h := Option.some.inj h
    subst h
    exact hF19
theorem un_Pl_fadeTo {μ0 μ : Mem}  {a1 : Int} {a2 : Int} {a3 : Int} {r : Mem}  (h : Pl_fadeTo μ a1 a2 a3 = some r) (hF : UN μ0 μ) : UN μ0 r := by
  unfold Pl_fadeTo at h
  obtain ⟨x1, h2, h⟩ := bindS h
  obtain ⟨m3, h4, h⟩ := bindS h
  have hF5 := UNS hF uo_222 h4
  obtain ⟨m6, h7, h⟩ := bindS h
  have hF8 := un_Pl_fadeFrom h7 hF5
  by_cases c10 : a3 = 0
  · replace h := ifT c10 h
    replace h := Option.some.inj h
    subst h
    exact hF8
  · replace h := ifF c10 h
    by_cases c9 : a2 ≤ x1
    · replace h := ifT c9 h
      exact un_Pl_fadeTo_37 h hF8
    · replace h := ifF c9 h
      exact un_Pl_fadeTo_37 h hF8
theorem un_Pl_take_150 {μ0 μ : Mem} {K29 : Mem → Int → Option (Mem)} {K73 : Mem → Int → Option (Mem)} {l1 : Int} {l2 : Int} {l3 : Int} {l4 : Int} {l5 : Int} {l6 : Int} {l7 : Int} {s1 : Int} {s2 : Int} {s3 : Int} {r : Mem} (hK29 : ∀ {μ : Mem} {l4 : Int} {r : Mem}, K29 μ l4 = some r → UN μ0 μ → UN μ0 r) (hK73 : ∀ {μ : Mem} {l7 : Int} {r : Mem}, K73 μ l7 = some r → UN μ0 μ → UN μ0 r) (h : Pl_take_150 K29 K73 μ l1 l2 l3 l4 l5 l6 l7 s1 s2 s3 = some r) (hF : UN μ0 μ) : UN μ0 r := by
  unfold Pl_take_150 at h
  obtain ⟨m1, h2, h⟩ := bindS h
  have hF3 := un_Pl_fadeTo h2 hF
  exact hK73 h hF3
theorem un_Pl_take_115 {μ0 μ : Mem} {K29 : Mem → Int → Option (Mem)} {K73 : Mem → Int → Option (Mem)} {l1 : Int} {l2 : Int} {l3 : Int} {l4 : Int} {l5 : Int} {l6 : Int} {l7 : Int} {l8 : Int} {s0 : Int} {r : Mem} (hK29 : ∀ {μ : Mem} {l4 : Int} {r : Mem}, K29 μ l4 = some r → UN μ0 μ → UN μ0 r) (hK73 : ∀ {μ : Mem} {l7 : Int} {r : Mem}, K73 μ l7 = some r → UN μ0 μ → UN μ0 r) (h : Pl_take_115 K29 K73 μ l1 l2 l3 l4 l5 l6 l7 l8 s0 = some r) (hF : UN μ0 μ) : UN μ0 r := by
  unfold Pl_take_115 at h
  obtain ⟨x1, h2, h⟩ := bindS h
  by_cases c4 : l8 = x1
  · replace h := ifT c4 h
    exact hK73 h hF
  · replace h := ifF c4 h
    by_cases c3 : s0 = 0
    · replace h := ifT c3 h
      exact un_Pl_take_150 hK29 hK73 h hF
    · replace h := ifF c3 h
      exact un_Pl_take_150 hK29 hK73 h hF
theorem un_Pl_take_73 {μ0 : Mem} {K29 : Mem → Int → Option (Mem)} {l1 : Int} {l2 : Int} {l3 : Int} {l4 : Int} {l5 : Int} {l6 : Int} (hK29 : ∀ {μ : Mem} {l4 : Int} {r : Mem}, K29 μ l4 = some r → UN μ0 μ → UN μ0 r) : ∀ {n : Nat} {μ : Mem} {l7 : Int} {r : Mem}, Pl_take_73 K29 l1 l2 l3 l4 l5 l6 n μ l7 = some r → UN μ0 μ → UN μ0 r := by
  intro n
  induction n with
  | zero =>
    intro μ l7 r h
    exact noneS h
  | succ n ih =>
    intro μ l7 r h hF
    rw [Pl_take_73] at h
    by_cases c6 : 9 ≤ l7
    · replace h := ifT c6 h
      exact hK29 h hF
    · replace h := ifF c6 h
      obtain ⟨x1, h2, h⟩ := bindS h
      by_cases c5 : l2 ≠ 0
      · replace h := ifT c5 h
        exact un_Pl_take_115 hK29 ih h hF
      · replace h := ifF c5 h
        by_cases c4 : l6 = 0
        · replace h := ifT c4 h
          exact un_Pl_take_115 hK29 ih h hF
        · replace h := ifF c4 h
          by_cases c3 : l7 = 0
          · replace h := ifT c3 h
            exact un_Pl_take_115 hK29 ih h hF
          · replace h := ifF c3 h
            exact un_Pl_take_115 hK29 ih h hF
theorem un_Pl_take_29 {μ0 : Mem}  {l1 : Int} {l2 : Int} {l3 : Int}  : ∀ {n : Nat} {μ : Mem} {l4 : Int} {r : Mem}, Pl_take_29 l1 l2 l3 n μ l4 = some r → UN μ0 μ → UN μ0 r := by
  intro n
  induction n with
  | zero =>
    intro μ l4 r h
    exact noneS h
  | succ n ih =>
    intro μ l4 r h hF
    rw [Pl_take_29] at h
    by_cases c9 : 40 < l4
    · replace h := ifT c9 h
      replace h := Option.some.inj h
      subst h
      exact hF
    · replace h := ifF c9 h
      obtain ⟨x1, h2, h⟩ := bindS h
      obtain ⟨x3, h4, h⟩ := bindS h
      by_cases c8 : x3 ≠ 0
      · replace h := ifT c8 h
        exact un_Pl_take_73 ih h hF
      · replace h := ifF c8 h
        obtain ⟨x5, h6, h⟩ := bindS h
        by_cases c7 : x5 ≠ 0
        · replace h := ifT c7 h
          exact un_Pl_take_73 ih h hF
        · replace h := ifF c7 h
          exact un_Pl_take_73 ih h hF
theorem un_Pl_take {μ0 μ : Mem}  {a1 : Int} {a2 : Int} {r : Mem}  (h : Pl_take μ a1 a2 = some r) (hF : UN μ0 μ) : UN μ0 r := by
  unfold Pl_take at h
  obtain ⟨x1, h2, h⟩ := bindS h
  obtain ⟨x3, h4, h⟩ := bindS h
  obtain ⟨m5, h6, h⟩ := bindS h
  have hF7 := UNP hF uo_221 h6
  obtain ⟨m8, h9, h⟩ := bindS h
  have hF10 := UNP hF7 uo_221 h9
  exact un_Pl_take_29 h hF10
theorem un_Pl_followCurrent_2 {μ0 : Mem}    : ∀ {n : Nat} {μ : Mem} {l1 : Int} {r : Mem}, Pl_followCurrent_2 n μ l1 = some r → UN μ0 μ → UN μ0 r := by
  intro n
  induction n with
  | zero =>
    intro μ l1 r h
    exact noneS h
  | succ n ih =>
    intro μ l1 r h hF
    rw [Pl_followCurrent_2] at h
    by_cases c18 : 30 ≤ l1
    · replace h := ifT c18 h
      replace h := Option.some.inj h
      subst h
      exact hF
    · replace h := ifF c18 h
      obtain ⟨x1, h2, h⟩ := bindS h
      by_cases c17 : 0 ≤ x1
      · replace h := ifT c17 h
        obtain ⟨x3, h4, h⟩ := bindS h
        obtain ⟨x5, h6, h⟩ := bindS h
        obtain ⟨x7, h8, h⟩ := bindS h
        obtain ⟨x9, h10, h⟩ := bindS h
        by_cases c16 : x7 = (-1)
        · replace h := ifT c16 h
          replace h := Option.some.inj h
          subst h
          exact hF
        · replace h := ifF c16 h
          by_cases c15 : (μ 221 2) ≠ (jadd (μ 221 4) x7)
          · replace h := ifT c15 h
            replace h := Option.some.inj h
            subst h
            exact hF
          · replace h := ifF c15 h
            by_cases c14 : 0 ≤ x9
            · replace h := ifT c14 h
              obtain ⟨m11, h12, h⟩ := bindS h
              have hF13 := un_Pl_take h12 hF
              exact ih h hF13
            · replace h := ifF c14 h
              replace h := Option.some.inj h
              subst h
              exact hF
      · replace h := ifF c17 h
        replace h := Option.some.inj h
        subst h
        exact hF
theorem un_Pl_followCurrent {μ0 μ : Mem}   {r : Mem}  (h : Pl_followCurrent μ = some r) (hF : UN μ0 μ) : UN μ0 r := by
  unfold Pl_followCurrent at h
  exact un_Pl_followCurrent_2 h hF
theorem un_Pl_takeAndFollow {μ0 μ : Mem}  {a1 : Int} {a2 : Int} {r : Int × Mem}  (h : Pl_takeAndFollow μ a1 a2 = some r) (hF : UN μ0 μ) : UN μ0 r.2 := by
  unfold Pl_takeAndFollow at h
  by_cases c8 : a1 < 0
  · replace h := ifT c8 h
    replace h := Option.some.inj h
    subst h
    exact hF
  · replace h := ifF c8 h
    by_cases c7 : a1 < (μ 3 8)
    · replace h := ifT c7 h
      obtain ⟨m1, h2, h⟩ := bindS h
      have hF3 := un_Pl_take h2 hF
      obtain ⟨m4, h5, h⟩ := bindS h
      have hF6 := un_Pl_followCurrent h5 hF3
      replace h := Option.some.inj h
      subst h
      exact hF6
    · replace h := ifF c7 h
      replace h := Option.some.inj h
      subst h
      exact hF
theorem un_D_go {μ0 μ : Mem}   {r : Int × Mem}  (h : D_go μ = some r) (hF : UN μ0 μ) : UN μ0 r.2 := by
  unfold D_go at h
  obtain ⟨x1, h2, h⟩ := bindS h
  obtain ⟨p3, h4, h⟩ := bindS h
  have hF5 := un_Pl_takeAndFollow h4 hF
  by_cases c6 : p3.1 = 0
  · replace h := ifT c6 h
    replace h := Option.some.inj h
    subst h
    exact hF5
  · replace h := ifF c6 h
    replace h := Option.some.inj h
    subst h
    exact hF5
theorem un_D_back {μ0 μ : Mem}   {r : Int × Mem}  (h : D_back μ = some r) (hF : UN μ0 μ) : UN μ0 r.2 := by
  unfold D_back at h
  obtain ⟨x1, h2, h⟩ := bindS h
  obtain ⟨x3, h4, h⟩ := bindS h
  obtain ⟨p5, h6, h⟩ := bindS h
  have hF7 := un_Pl_takeAndFollow h6 hF
  by_cases c8 : p5.1 = 0
  · replace h := ifT c8 h
    replace h := Option.some.inj h
    subst h
    exact hF7
  · replace h := ifF c8 h
    replace h := Option.some.inj h
    subst h
    exact hF7
theorem un_D_jump {μ0 μ : Mem}  {a1 : Int} {r : Int × Mem}  (h : D_jump μ a1 = some r) (hF : UN μ0 μ) : UN μ0 r.2 := by
  unfold D_jump at h
  obtain ⟨x1, h2, h⟩ := bindS h
  obtain ⟨p3, h4, h⟩ := bindS h
  have hF5 := un_Pl_takeAndFollow h4 hF
  by_cases c6 : p3.1 = 0
  · replace h := ifT c6 h
    replace h := Option.some.inj h
    subst h
    exact hF5
  · replace h := ifF c6 h
    replace h := Option.some.inj h
    subst h
    exact hF5
theorem un_D_hold {μ0 μ : Mem}  {a1 : Int} {r : Int × Mem}  (h : D_hold μ a1 = some r) (hF : UN μ0 μ) : UN μ0 r.2 := by
  unfold D_hold at h
  obtain ⟨x1, h2, h⟩ := bindS h
  obtain ⟨m3, h4, h⟩ := bindS h
  have hF5 := UNPz hF uo_221 h4
  obtain ⟨h6, h⟩ := ifSome h
  replace h := Option.some.inj h
  subst h
  exact hF5
theorem un_Pl_tick_12 {μ0 : Mem}    : ∀ {n : Nat} {μ : Mem} {l1 : Int} {r : Mem}, Pl_tick_12 n μ l1 = some r → UN μ0 μ → UN μ0 r := by
  intro n
  induction n with
  | zero =>
    intro μ l1 r h
    exact noneS h
  | succ n ih =>
    intro μ l1 r h hF
    rw [Pl_tick_12] at h
    by_cases c22 : 10 < l1
    · replace h := ifT c22 h
      by_cases c7 : (μ 221 5) ≠ 0
      · replace h := ifT c7 h
        replace h := Option.some.inj h
        subst h
        exact hF
      · replace h := ifF c7 h
        obtain ⟨m1, h2, h⟩ := bindS h
        have hF3 := UNP hF uo_221 h2
        obtain ⟨m4, h5, h⟩ := bindS h
        have hF6 := un_Pl_followCurrent h5 hF3
        replace h := Option.some.inj h
        subst h
        exact hF6
    · replace h := ifF c22 h
      obtain ⟨o8, h9, h⟩ := bindS h
      obtain ⟨x10, h11, h⟩ := bindS h
      by_cases c21 : x10 ≠ (μ 221 1)
      · replace h := ifT c21 h
        exact ih h hF
      · replace h := ifF c21 h
        obtain ⟨o12, h13, h⟩ := bindS h
        obtain ⟨x14, h15, h⟩ := bindS h
        obtain ⟨x16, h17, h⟩ := bindS h
        obtain ⟨p18, h19, h⟩ := bindS h
        have hF20 := un_Pl_takeAndFollow h19 hF
        exact ih h hF20
theorem un_Pl_tick {μ0 μ : Mem}   {r : Mem}  (h : Pl_tick μ = some r) (hF : UN μ0 μ) : UN μ0 r := by
  unfold Pl_tick at h
  obtain ⟨m1, h2, h⟩ := bindS h
  have hF3 := UNP hF uo_221 h2
  exact un_Pl_tick_12 h hF3
theorem un_Sg_moveRollers_2 {μ0 : Mem}    : ∀ {n : Nat} {μ : Mem} {l1 : Int} {r : Mem}, Sg_moveRollers_2 n μ l1 = some r → UN μ0 μ → UN μ0 r := by
  intro n
  induction n with
  | zero =>
    intro μ l1 r h
    exact noneS h
  | succ n ih =>
    intro μ l1 r h hF
    rw [Sg_moveRollers_2] at h
    by_cases c17 : 40 < l1
    · replace h := ifT c17 h
      replace h := Option.some.inj h
      subst h
      exact hF
    · replace h := ifF c17 h
      obtain ⟨o1, h2, h⟩ := bindS h
      obtain ⟨x3, h4, h⟩ := bindS h
      by_cases c16 : x3 ≠ 8
      · replace h := ifT c16 h
        exact ih h hF
      · replace h := ifF c16 h
        obtain ⟨x5, h6, h⟩ := bindS h
        obtain ⟨x7, h8, h⟩ := bindS h
        obtain ⟨x9, h10, h⟩ := bindS h
        obtain ⟨x11, h12, h⟩ := bindS h
        obtain ⟨m13, h14, h⟩ := bindS h
        have hF15 := UNS hF uo_230 h14
        exact ih h hF15
theorem un_Sg_moveRollers {μ0 μ : Mem}   {r : Mem}  (h : Sg_moveRollers μ = some r) (hF : UN μ0 μ) : UN μ0 r := by
  unfold Sg_moveRollers at h
  exact un_Sg_moveRollers_2 h hF
theorem un_D_advance_16 {μ0 : Mem}  {l1 : Int}  : ∀ {n : Nat} {μ : Mem} {l2 : Int} {r : Int × Mem}, D_advance_16 l1 n μ l2 = some r → UN μ0 μ → UN μ0 r.2 := by
  intro n
  induction n with
  | zero =>
    intro μ l2 r h
    exact noneS h
  | succ n ih =>
    intro μ l2 r h hF
    rw [D_advance_16] at h
    by_cases c7 : l1 ≤ l2
    · replace h := ifT c7 h
      replace h := Option.some.inj h
      subst h
      exact hF
    · replace h := ifF c7 h
      obtain ⟨m1, h2, h⟩ := bindS h
      have hF3 := un_Pl_tick h2 hF
      obtain ⟨m4, h5, h⟩ := bindS h
      have hF6 := un_Sg_moveRollers h5 hF3
      exact ih h hF6
theorem un_D_advance {μ0 μ : Mem}  {a1 : Int} {r : Int × Mem}  (h : D_advance μ a1 = some r) (hF : UN μ0 μ) : UN μ0 r.2 := by
  unfold D_advance at h
  by_cases c2 : a1 < 0
  · replace h := ifT c2 h
    replace h := Option.some.inj h
    subst h
    exact hF
  · replace h := ifF c2 h
    by_cases c1 : a1 ≤ 600
    · replace h := ifT c1 h
      exact un_D_advance_16 h hF
    · replace h := ifF c1 h
      replace h := Option.some.inj h
      subst h
      exact hF
theorem un_D_fader {μ0 μ : Mem}  {a1 : Int} {a2 : Int} {r : Int × Mem}  (h : D_fader μ a1 a2 = some r) (hF : UN μ0 μ) : UN μ0 r.2 := by
  unfold D_fader at h
  obtain ⟨x1, h2, h⟩ := bindS h
  by_cases c11 : x1 ≠ 0
  · replace h := ifT c11 h
    obtain ⟨x3, h4, h⟩ := bindS h
    by_cases c10 : x3 ≠ 0
    · replace h := ifT c10 h
      obtain ⟨x5, h6, h⟩ := bindS h
      obtain ⟨m7, h8, h⟩ := bindS h
      have hF9 := UNS hF uo_227 h8
      replace h := Option.some.inj h
      subst h
      exact hF9
    · replace h := ifF c10 h
      replace h := Option.some.inj h
      subst h
      exact hF
  · replace h := ifF c11 h
    replace h := Option.some.inj h
    subst h
    exact hF
theorem un_D_bump_29 {μ0 μ : Mem}  {l1 : Int} {l2 : Int} {s0 : Int} {r : Int × Mem}  (h : D_bump_29 μ l1 l2 s0 = some r) (hF : UN μ0 μ) : UN μ0 r.2 := by
  unfold D_bump_29 at h
  obtain ⟨m1, h2, h⟩ := bindS h
  have hF3 := UNS hF uo_228 h2
  replace h := Option.some.inj h
  subst h
  exact hF3
theorem un_D_bump {μ0 μ : Mem}  {a1 : Int} {a2 : Int} {r : Int × Mem}  (h : D_bump μ a1 a2 = some r) (hF : UN μ0 μ) : UN μ0 r.2 := by
  unfold D_bump at h
  obtain ⟨x1, h2, h⟩ := bindS h
  by_cases c6 : x1 ≠ 0
  · replace h := ifT c6 h
    obtain ⟨x3, h4, h⟩ := bindS h
    by_cases c5 : x3 = 0
    · replace h := ifT c5 h
      exact un_D_bump_29 h hF
    · replace h := ifF c5 h
      exact un_D_bump_29 h hF
  · replace h := ifF c6 h
    replace h := Option.some.inj h
    subst h
    exact hF
theorem un_D_grand {μ0 μ : Mem}  {a1 : Int} {r : Int × Mem}  (h : D_grand μ a1 = some r) (hF : UN μ0 μ) : UN μ0 r.2 := by
  unfold D_grand at h
  obtain ⟨x1, h2, h⟩ := bindS h
  by_cases c8 : x1 ≠ 0
  · replace h := ifT c8 h
    obtain ⟨x3, h4, h⟩ := bindS h
    obtain ⟨m5, h6, h⟩ := bindS h
    have hF7 := UNP hF uo_226 h6
    replace h := Option.some.inj h
    subst h
    exact hF7
  · replace h := ifF c8 h
    replace h := Option.some.inj h
    subst h
    exact hF
theorem un_D_black {μ0 μ : Mem}  {a1 : Int} {r : Int × Mem}  (h : D_black μ a1 = some r) (hF : UN μ0 μ) : UN μ0 r.2 := by
  unfold D_black at h
  obtain ⟨x1, h2, h⟩ := bindS h
  obtain ⟨m3, h4, h⟩ := bindS h
  have hF5 := UNPz hF uo_226 h4
  obtain ⟨h6, h⟩ := ifSome h
  replace h := Option.some.inj h
  subst h
  exact hF5
theorem un_D_run_28 {μ0 μ : Mem}  {l1 : Int} {l2 : Int} {s0 : Int} {r : Int × Mem}  (h : D_run_28 μ l1 l2 s0 = some r) (hF : UN μ0 μ) : UN μ0 r.2 := by
  unfold D_run_28 at h
  obtain ⟨m1, h2, h⟩ := bindS h
  have hF3 := UNS hF uo_229 h2
  replace h := Option.some.inj h
  subst h
  exact hF3
theorem un_D_run {μ0 μ : Mem}  {a1 : Int} {a2 : Int} {r : Int × Mem}  (h : D_run μ a1 a2 = some r) (hF : UN μ0 μ) : UN μ0 r.2 := by
  unfold D_run at h
  obtain ⟨x1, h2, h⟩ := bindS h
  by_cases c6 : x1 ≠ 0
  · replace h := ifT c6 h
    obtain ⟨x3, h4, h⟩ := bindS h
    by_cases c5 : x3 = 0
    · replace h := ifT c5 h
      exact un_D_run_28 h hF
    · replace h := ifF c5 h
      exact un_D_run_28 h hF
  · replace h := ifF c6 h
    replace h := Option.some.inj h
    subst h
    exact hF
