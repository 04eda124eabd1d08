-- objects that the model's methods never write (printed by wip/gen/emit38.py)
def uM (o : Int) : Bool := !(o == 259 || (decide (264 ≤ o) && decide (o ≤ 280)))
def UM (μ0 μ : Mem) : Prop := ∀ o, uM o = true → μ o = μ0 o
theorem UM.refl {μ : Mem} : UM μ μ := fun _ _ => rfl
theorem UMw {μ0 μ : Mem} {o i v : Int} (h : UM μ0 μ) (hu : uM o = false) : UM μ0 (wr μ o i v) := by
  intro a ha
  rw [← h a ha]
  funext j
  refine wr_ne ?_
  rintro ⟨rfl, _⟩
  rw [hu] at ha
  exact absurd ha (by decide)
theorem UMP {μ0 μ m : Mem} {o f v : Int} (h : UM μ0 μ) (hu : uM o = false) (hx : some (wr μ o f v) = some m) : UM μ0 m := by cases hx; exact UMw h hu
theorem UMPz {μ0 μ m : Mem} {o f v : Int} (h : UM μ0 μ) (hu : uM o = false) (hx : pz μ o f v = some m) : UM μ0 m := UMP h hu (ifSome hx).2
theorem UMS {μ0 μ m : Mem} {o n i v : Int} (h : UM μ0 μ) (hu : uM o = false) (hx : sI μ o n i v = some m) : UM μ0 m := UMP h hu (ifSome hx).2
theorem ux_259 : uM 259 = false := by decide
theorem ux_264 : uM 264 = false := by decide
theorem ux_265 : uM 265 = false := by decide
theorem ux_266 : uM 266 = false := by decide
theorem ux_267 : uM 267 = false := by decide
theorem ux_268 : uM 268 = false := by decide
theorem ux_269 : uM 269 = false := by decide
theorem ux_270 : uM 270 = false := by decide
theorem ux_271 : uM 271 = false := by decide
theorem ux_272 : uM 272 = false := by decide
theorem ux_273 : uM 273 = false := by decide
theorem ux_274 : uM 274 = false := by decide
theorem ux_275 : uM 275 = false := by decide
theorem ux_276 : uM 276 = false := by decide
theorem ux_277 : uM 277 = false := by decide
theorem ux_278 : uM 278 = false := by decide
theorem ux_279 : uM 279 = false := by decide
theorem ux_280 : uM 280 = false := by decide
theorem um_M_fourBytes_3 {μ0 : Mem}  {l1 : Int}  : ∀ {n : Nat} {μ : Mem} {l2 : Int} {r : Mem}, M_fourBytes_3 l1 n μ l2 = some r → UM μ0 μ → UM μ0 r := by
  intro n
  induction n with
  | zero =>
    intro μ l2 r h
    exact noneS h
  | succ n ih =>
    intro μ l2 r h hF
    rw [M_fourBytes_3] at h
    by_cases c7 : l2 < 0
    · replace h := ifT c7 h
      replace h := Option.some.inj h
      subst h
      exact hF
    · replace h := ifF c7 h
      obtain ⟨m1, h2, h⟩ := bindS h
      have hF3 := UMS hF ux_267 h2
      obtain ⟨m4, h5, h⟩ := bindS h
      have hF6 := UMP hF3 ux_259 h5
      exact ih h hF6
theorem um_M_fourBytes {μ0 μ : Mem}  {a1 : Int} {r : Mem}  (h : M_fourBytes μ a1 = some r) (hF : UM μ0 μ) : UM μ0 r := by
  unfold M_fourBytes at h
  exact um_M_fourBytes_3 h hF
theorem um_M_feed {μ0 μ : Mem}  {a1 : Int} {a2 : Int} {a3 : Int} {a4 : Int} {a5 : Int} {r : Int × Mem}  (h : M_feed μ a1 a2 a3 a4 a5 = some r) (hF : UM μ0 μ) : UM μ0 r.2 := by
  unfold M_feed at h
  by_cases c16 : (jadd (μ 259 10) 20) ≤ 6000
  · replace h := ifT c16 h
    obtain ⟨m1, h2, h⟩ := bindS h
    have hF3 := um_M_fourBytes h2 hF
    obtain ⟨m4, h5, h⟩ := bindS h
    have hF6 := um_M_fourBytes h5 hF3
    obtain ⟨m7, h8, h⟩ := bindS h
    have hF9 := um_M_fourBytes h8 hF6
    obtain ⟨m10, h11, h⟩ := bindS h
    have hF12 := um_M_fourBytes h11 hF9
    obtain ⟨m13, h14, h⟩ := bindS h
    have hF15 := um_M_fourBytes h14 hF12
    replace h := Option.some.inj h
    subst h
    exact hF15
  · replace h := ifF c16 h
    replace h := Option.some.inj h
    subst h
    exact hF
theorem um_M_end {μ0 μ : Mem}  {a1 : Int} {r : Int × Mem}  (h : M_end μ a1 = some r) (hF : UM μ0 μ) : UM μ0 r.2 := by
  unfold M_end at h
  obtain ⟨x1, h2, h⟩ := bindS h
  by_cases c6 : x1 ≠ 0
  · replace h := ifT c6 h
    obtain ⟨m3, h4, h⟩ := bindS h
    have hF5 := UMP hF ux_259 h4
    replace h := Option.some.inj h
    subst h
    exact hF5
  · replace h := ifF c6 h
    replace h := Option.some.inj h
    subst h
    exact hF
theorem um_M_readWord_46 {μ0 μ : Mem} {K4 : Mem → Int → Int → Option (Mem)} {l3 : Int} {s0 : Int} {r : Mem} (hK4 : ∀ {μ : Mem} {l1 : Int} {l3 : Int} {r : Mem}, K4 μ l1 l3 = some r → UM μ0 μ → UM μ0 r) (h : M_readWord_46 K4 μ l3 s0 = some r) (hF : UM μ0 μ) : UM μ0 r := by
  unfold M_readWord_46 at h
  obtain ⟨m1, h2, h⟩ := bindS h
  have hF3 := UMP hF ux_259 h2
  exact hK4 h hF3
theorem um_M_readWord_69 {μ0 μ : Mem}  {l1 : Int} {l3 : Int}  : ∀ {n : Nat} {l4 : Int} {l5 : Int} {r : Mem}, M_readWord_69 μ l1 l3 n l4 l5 = some r → UM μ0 μ → UM μ0 r := by
  intro n
  induction n with
  | zero =>
    intro l4 l5 r h
    exact noneS h
  | succ n ih =>
    intro l4 l5 r h hF
    rw [M_readWord_69] at h
    by_cases c18 : 69 < l5
    · replace h := ifT c18 h
      by_cases c13 : l4 < 0
      · replace h := ifT c13 h
        obtain ⟨m1, h2, h⟩ := bindS h
        have hF3 := UMS hF ux_268 h2
        obtain ⟨m4, h5, h⟩ := bindS h
        have hF6 := UMS hF3 ux_269 h5
        replace h := Option.some.inj h
        subst h
        exact hF6
      · replace h := ifF c13 h
        obtain ⟨m7, h8, h⟩ := bindS h
        have hF9 := UMS hF ux_268 h8
        obtain ⟨m10, h11, h⟩ := bindS h
        have hF12 := UMS hF9 ux_269 h11
        replace h := Option.some.inj h
        subst h
        exact hF12
    · replace h := ifF c18 h
      by_cases c17 : 9 < l3
      · replace h := ifT c17 h
        exact ih h hF
      · replace h := ifF c17 h
        obtain ⟨x14, h15, h⟩ := bindS h
        by_cases c16 : (qcmp x14 l1) ≠ 0
        · replace h := ifT c16 h
          exact ih h hF
        · replace h := ifF c16 h
          exact ih h hF
theorem um_M_readWord_4 {μ0 : Mem}    : ∀ {n : Nat} {μ : Mem} {l1 : Int} {l3 : Int} {r : Mem}, M_readWord_4 n μ l1 l3 = some r → UM μ0 μ → UM μ0 r := by
  intro n
  induction n with
  | zero =>
    intro μ l1 l3 r h
    exact noneS h
  | succ n ih =>
    intro μ l1 l3 r h hF
    rw [M_readWord_4] at h
    obtain ⟨x1, h2, h⟩ := bindS h
    obtain ⟨x3, h4, h⟩ := bindS h
    by_cases c8 : x3 = 0
    · replace h := ifT c8 h
      exact um_M_readWord_69 h hF
    · replace h := ifF c8 h
      by_cases c7 : 9 ≤ l3
      · replace h := ifT c7 h
        exact um_M_readWord_46 ih h hF
      · replace h := ifF c7 h
        obtain ⟨x5, h6, h⟩ := bindS h
        exact um_M_readWord_46 ih h hF
theorem um_M_readWord {μ0 μ : Mem}   {r : Mem}  (h : M_readWord μ = some r) (hF : UM μ0 μ) : UM μ0 r := by
  unfold M_readWord at h
  exact um_M_readWord_4 h hF
theorem um_M_readNumber_43 {μ0 μ : Mem} {K4 : Mem → Int → Int → Option (Mem)} {l2 : Int} {s0 : Int} {r : Mem} (hK4 : ∀ {μ : Mem} {l1 : Int} {l2 : Int} {r : Mem}, K4 μ l1 l2 = some r → UM μ0 μ → UM μ0 r) (h : M_readNumber_43 K4 μ l2 s0 = some r) (hF : UM μ0 μ) : UM μ0 r := by
  unfold M_readNumber_43 at h
  obtain ⟨m1, h2, h⟩ := bindS h
  have hF3 := UMP hF ux_259 h2
  exact hK4 h hF3
theorem um_M_readNumber_4 {μ0 : Mem}    : ∀ {n : Nat} {μ : Mem} {l1 : Int} {l2 : Int} {r : Mem}, M_readNumber_4 n μ l1 l2 = some r → UM μ0 μ → UM μ0 r := by
  intro n
  induction n with
  | zero =>
    intro μ l1 l2 r h
    exact noneS h
  | succ n ih =>
    intro μ l1 l2 r h hF
    rw [M_readNumber_4] at h
    obtain ⟨x1, h2, h⟩ := bindS h
    obtain ⟨x3, h4, h⟩ := bindS h
    by_cases c21 : x3 = 0
    · replace h := ifT c21 h
      by_cases c17 : 4 < l2
      · replace h := ifT c17 h
        obtain ⟨m5, h6, h⟩ := bindS h
        have hF7 := UMS hF ux_268 h6
        obtain ⟨m8, h9, h⟩ := bindS h
        have hF10 := UMS hF7 ux_269 h9
        replace h := Option.some.inj h
        subst h
        exact hF10
      · replace h := ifF c17 h
        obtain ⟨m11, h12, h⟩ := bindS h
        have hF13 := UMS hF ux_268 h12
        obtain ⟨m14, h15, h⟩ := bindS h
        have hF16 := UMS hF13 ux_269 h15
        replace h := Option.some.inj h
        subst h
        exact hF16
    · replace h := ifF c21 h
      by_cases c20 : 4 ≤ l2
      · replace h := ifT c20 h
        exact um_M_readNumber_43 ih h hF
      · replace h := ifF c20 h
        obtain ⟨x18, h19, h⟩ := bindS h
        exact um_M_readNumber_43 ih h hF
theorem um_M_readNumber {μ0 μ : Mem}   {r : Mem}  (h : M_readNumber μ = some r) (hF : UM μ0 μ) : UM μ0 r := by
  unfold M_readNumber at h
  exact um_M_readNumber_4 h hF
theorem um_M_read_26 {μ0 μ : Mem} {K0 : Mem → Option (Mem)}  {r : Mem} (hK0 : ∀ {μ : Mem} {r : Mem}, K0 μ = some r → UM μ0 μ → UM μ0 r) (h : M_read_26 K0 μ = some r) (hF : UM μ0 μ) : UM μ0 r := by
  unfold M_read_26 at h
  obtain ⟨m1, h2, h⟩ := bindS h
  have hF3 := UMP hF ux_259 h2
  exact hK0 h hF3
theorem um_M_read_166 {μ0 μ : Mem}  {s1 : Int} {s2 : Int} {r : Mem}  (h : M_read_166 μ s1 s2 = some r) (hF : UM μ0 μ) : UM μ0 r := by
  unfold M_read_166 at h
  obtain ⟨m1, h2, h⟩ := bindS h
  have hF3 := UMS hF ux_268 h2
  obtain ⟨m4, h5, h⟩ := bindS h
  have hF6 := UMP hF3 ux_259 h5
  obtain ⟨m7, h8, h⟩ := bindS h
  have hF9 := UMP hF6 ux_259 h8
  replace h := Option.some.inj h
  subst h
  exact hF9
theorem um_M_read_0 {μ0 : Mem}    : ∀ {n : Nat} {μ : Mem} {r : Mem}, M_read_0 n μ = some r → UM μ0 μ → UM μ0 r := by
  intro n
  induction n with
  | zero =>
    intro μ r h
    exact noneS h
  | succ n ih =>
    intro μ r h hF
    rw [M_read_0] at h
    obtain ⟨x1, h2, h⟩ := bindS h
    by_cases c44 : x1 = 10
    · replace h := ifT c44 h
      exact um_M_read_26 ih h hF
    · replace h := ifF c44 h
      obtain ⟨x3, h4, h⟩ := bindS h
      by_cases c43 : x3 ≠ 32
      · replace h := ifT c43 h
        obtain ⟨x5, h6, h⟩ := bindS h
        obtain ⟨m7, h8, h⟩ := bindS h
        have hF9 := UMS hF ux_270 h8
        obtain ⟨m10, h11, h⟩ := bindS h
        have hF12 := UMS hF9 ux_269 h11
        by_cases c42 : (m10 259 18) < (m10 259 10)
        · replace h := ifT c42 h
          obtain ⟨x13, h14, h⟩ := bindS h
          by_cases c35 : x13 = 0
          · replace h := ifT c35 h
            obtain ⟨x15, h16, h⟩ := bindS h
            by_cases c28 : x15 = 0
            · replace h := ifT c28 h
              by_cases c21 : x5 = 59
              · replace h := ifT c21 h
                exact um_M_read_166 h hF12
              · replace h := ifF c21 h
                by_cases c20 : x5 = 43
                · replace h := ifT c20 h
                  exact um_M_read_166 h hF12
                · replace h := ifF c20 h
                  by_cases c19 : x5 = 45
                  · replace h := ifT c19 h
                    exact um_M_read_166 h hF12
                  · replace h := ifF c19 h
                    by_cases c18 : x5 = 61
                    · replace h := ifT c18 h
                      exact um_M_read_166 h hF12
                    · replace h := ifF c18 h
                      by_cases c17 : x5 ≠ 64
                      · replace h := ifT c17 h
                        exact um_M_read_166 h hF12
                      · replace h := ifF c17 h
                        exact um_M_read_166 h hF12
            · replace h := ifF c28 h
              obtain ⟨m22, h23, h⟩ := bindS h
              have hF24 := um_M_readNumber h23 hF12
              obtain ⟨m25, h26, h⟩ := bindS h
              have hF27 := UMP hF24 ux_259 h26
              replace h := Option.some.inj h
              subst h
              exact hF27
          · replace h := ifF c35 h
            obtain ⟨m29, h30, h⟩ := bindS h
            have hF31 := um_M_readWord h30 hF12
            obtain ⟨m32, h33, h⟩ := bindS h
            have hF34 := UMP hF31 ux_259 h33
            replace h := Option.some.inj h
            subst h
            exact hF34
        · replace h := ifF c42 h
          obtain ⟨m36, h37, h⟩ := bindS h
          have hF38 := UMS hF12 ux_268 h37
          obtain ⟨m39, h40, h⟩ := bindS h
          have hF41 := UMP hF38 ux_259 h40
          replace h := Option.some.inj h
          subst h
          exact hF41
      · replace h := ifF c43 h
        exact um_M_read_26 ih h hF
theorem um_M_read {μ0 μ : Mem}  {r : Mem} (h : M_read μ = some r) (hF : UM μ0 μ) : UM μ0 r := um_M_read_0 h hF
theorem um_M_fail {μ0 μ : Mem}   {r : Mem}  (h : M_fail μ = some r) (hF : UM μ0 μ) : UM μ0 r := by
  unfold M_fail at h
  by_cases c15 : (μ 259 19) ≠ 0
  · replace h := ifT c15 h
    obtain ⟨m1, h2, h⟩ := bindS h
    have hF3 := UMP hF ux_259 h2
    replace h := Option.some.inj h
    subst h
    exact hF3
  · replace h := ifF c15 h
    obtain ⟨m4, h5, h⟩ := bindS h
    have hF6 := UMP hF ux_259 h5
    obtain ⟨x7, h8, h⟩ := bindS h
    obtain ⟨m9, h10, h⟩ := bindS h
    have hF11 := UMP hF6 ux_259 h10
    obtain ⟨m12, h13, h⟩ := bindS h
    have hF14 := UMP hF11 ux_259 h13
    replace h := Option.some.inj h
    subst h
    exact hF14
theorem um_M_next {μ0 μ : Mem}   {r : Mem}  (h : M_next μ = some r) (hF : UM μ0 μ) : UM μ0 r := by
  unfold M_next at h
  obtain ⟨m1, h2, h⟩ := bindS h
  have hF3 := UMP hF ux_259 h2
  obtain ⟨m4, h5, h⟩ := bindS h
  have hF6 := um_M_read h5 hF3
  by_cases c10 : (m4 259 17) ≠ 120
  · replace h := ifT c10 h
    replace h := Option.some.inj h
    subst h
    exact hF6
  · replace h := ifF c10 h
    obtain ⟨m7, h8, h⟩ := bindS h
    have hF9 := um_M_fail h8 hF6
    replace h := Option.some.inj h
    subst h
    exact hF9
theorem um_M_need {μ0 μ : Mem}  {a1 : Int} {r : Mem}  (h : M_need μ a1 = some r) (hF : UM μ0 μ) : UM μ0 r := by
  unfold M_need at h
  by_cases c7 : a1 = 0
  · replace h := ifT c7 h
    obtain ⟨m1, h2, h⟩ := bindS h
    have hF3 := um_M_fail h2 hF
    replace h := Option.some.inj h
    subst h
    exact hF3
  · replace h := ifF c7 h
    obtain ⟨m4, h5, h⟩ := bindS h
    have hF6 := um_M_next h5 hF
    replace h := Option.some.inj h
    subst h
    exact hF6
theorem um_M_number {μ0 μ : Mem}   {r : Mem}  (h : M_number μ = some r) (hF : UM μ0 μ) : UM μ0 r := by
  unfold M_number at h
  obtain ⟨x1, h2, h⟩ := bindS h
  obtain ⟨m3, h4, h⟩ := bindS h
  have hF5 := um_M_need h4 hF
  replace h := Option.some.inj h
  subst h
  exact hF5
theorem um_M_word {μ0 μ : Mem}  {a1 : Int} {r : Mem}  (h : M_word μ a1 = some r) (hF : UM μ0 μ) : UM μ0 r := by
  unfold M_word at h
  obtain ⟨x1, h2, h⟩ := bindS h
  obtain ⟨m3, h4, h⟩ := bindS h
  have hF5 := um_M_need h4 hF
  replace h := Option.some.inj h
  subst h
  exact hF5
theorem um_M_options_70 {μ0 μ : Mem} {K3 : Mem → Int → Option (Mem)} {l1 : Int} {l2 : Int} {l3 : Int} {l4 : Int} {l5 : Int} {s0 : Int} {s1 : Int} {r : Mem} (hK3 : ∀ {μ : Mem} {l4 : Int} {r : Mem}, K3 μ l4 = some r → UM μ0 μ → UM μ0 r) (h : M_options_70 K3 μ l1 l2 l3 l4 l5 s0 s1 = some r) (hF : UM μ0 μ) : UM μ0 r := by
  unfold M_options_70 at h
  obtain ⟨x1, h2, h⟩ := bindS h
  by_cases c15 : (jand l4 x1) = 0
  · replace h := ifT c15 h
    obtain ⟨x3, h4, h⟩ := bindS h
    obtain ⟨m5, h6, h⟩ := bindS h
    have hF7 := um_M_next h6 hF
    by_cases c11 : l3 ≤ l5
    · replace h := ifT c11 h
      exact hK3 h hF7
    · replace h := ifF c11 h
      obtain ⟨m8, h9, h⟩ := bindS h
      have hF10 := um_M_number h9 hF7
      exact hK3 h hF10
  · replace h := ifF c15 h
    obtain ⟨m12, h13, h⟩ := bindS h
    have hF14 := um_M_fail h13 hF
    exact hK3 h hF14
theorem um_M_options_3 {μ0 : Mem}  {l1 : Int} {l2 : Int} {l3 : Int}  : ∀ {n : Nat} {μ : Mem} {l4 : Int} {r : Mem}, M_options_3 l1 l2 l3 n μ l4 = some r → UM μ0 μ → UM μ0 r := by
  intro n
  induction n with
  | zero =>
    intro μ l4 r h
    exact noneS h
  | succ n ih =>
    intro μ l4 r h hF
    rw [M_options_3] at h
    obtain ⟨x1, h2, h⟩ := bindS h
    by_cases c13 : x1 = 0
    · replace h := ifT c13 h
      replace h := Option.some.inj h
      subst h
      exact hF
    · replace h := ifF c13 h
      obtain ⟨x3, h4, h⟩ := bindS h
      obtain ⟨x5, h6, h⟩ := bindS h
      obtain ⟨x7, h8, h⟩ := bindS h
      by_cases c12 : x7 ≠ 46
      · replace h := ifT c12 h
        obtain ⟨x9, h10, h⟩ := bindS h
        by_cases c11 : x9 ≠ 47
        · replace h := ifT c11 h
          exact um_M_options_70 ih h hF
        · replace h := ifF c11 h
          exact um_M_options_70 ih h hF
      · replace h := ifF c12 h
        exact um_M_options_70 ih h hF
theorem um_M_options {μ0 μ : Mem}  {a1 : Int} {a2 : Int} {a3 : Int} {r : Mem}  (h : M_options μ a1 a2 a3 = some r) (hF : UM μ0 μ) : UM μ0 r := by
  unfold M_options at h
  exact um_M_options_3 h hF
theorem um_M_term {μ0 μ : Mem}   {r : Mem}  (h : M_term μ = some r) (hF : UM μ0 μ) : UM μ0 r := by
  unfold M_term at h
  obtain ⟨x1, h2, h⟩ := bindS h
  by_cases c27 : x1 = 0
  · replace h := ifT c27 h
    obtain ⟨x3, h4, h⟩ := bindS h
    by_cases c23 : x3 = 0
    · replace h := ifT c23 h
      obtain ⟨m5, h6, h⟩ := bindS h
      have hF7 := um_M_number h6 hF
      obtain ⟨x8, h9, h⟩ := bindS h
      by_cases c16 : x8 = 0
      · replace h := ifT c16 h
        replace h := Option.some.inj h
        subst h
        exact hF7
      · replace h := ifF c16 h
        obtain ⟨m10, h11, h⟩ := bindS h
        have hF12 := um_M_next h11 hF7
        obtain ⟨m13, h14, h⟩ := bindS h
        have hF15 := um_M_number h14 hF12
        replace h := Option.some.inj h
        subst h
        exact hF15
    · replace h := ifF c23 h
      obtain ⟨m17, h18, h⟩ := bindS h
      have hF19 := um_M_next h18 hF
      obtain ⟨m20, h21, h⟩ := bindS h
      have hF22 := um_M_number h21 hF19
      replace h := Option.some.inj h
      subst h
      exact hF22
  · replace h := ifF c27 h
    obtain ⟨m24, h25, h⟩ := bindS h
    have hF26 := um_M_next h25 hF
    replace h := Option.some.inj h
    subst h
    exact hF26
theorem um_M_moreTerms_18 {μ0 μ : Mem} {K0 : Mem → Option (Mem)}  {r : Mem} (hK0 : ∀ {μ : Mem} {r : Mem}, K0 μ = some r → UM μ0 μ → UM μ0 r) (h : M_moreTerms_18 K0 μ = some r) (hF : UM μ0 μ) : UM μ0 r := by
  unfold M_moreTerms_18 at h
  obtain ⟨m1, h2, h⟩ := bindS h
  have hF3 := um_M_next h2 hF
  obtain ⟨m4, h5, h⟩ := bindS h
  have hF6 := um_M_term h5 hF3
  exact hK0 h hF6
theorem um_M_moreTerms_0 {μ0 : Mem}    : ∀ {n : Nat} {μ : Mem} {r : Mem}, M_moreTerms_0 n μ = some r → UM μ0 μ → UM μ0 r := by
  intro n
  induction n with
  | zero =>
    intro μ r h
    exact noneS h
  | succ n ih =>
    intro μ r h hF
    rw [M_moreTerms_0] at h
    obtain ⟨x1, h2, h⟩ := bindS h
    by_cases c6 : x1 ≠ 0
    · replace h := ifT c6 h
      exact um_M_moreTerms_18 ih h hF
    · replace h := ifF c6 h
      obtain ⟨x3, h4, h⟩ := bindS h
      by_cases c5 : x3 = 0
      · replace h := ifT c5 h
        replace h := Option.some.inj h
        subst h
        exact hF
      · replace h := ifF c5 h
        exact um_M_moreTerms_18 ih h hF
theorem um_M_moreTerms {μ0 μ : Mem}  {r : Mem} (h : M_moreTerms μ = some r) (hF : UM μ0 μ) : UM μ0 r := um_M_moreTerms_0 h hF
theorem um_M_set {μ0 μ : Mem}   {r : Mem}  (h : M_set μ = some r) (hF : UM μ0 μ) : UM μ0 r := by
  unfold M_set at h
  obtain ⟨m1, h2, h⟩ := bindS h
  have hF3 := um_M_term h2 hF
  obtain ⟨m4, h5, h⟩ := bindS h
  have hF6 := um_M_moreTerms h5 hF3
  replace h := Option.some.inj h
  subst h
  exact hF6
theorem um_M_amount_43 {μ0 μ : Mem}   {r : Mem}  (h : M_amount_43 μ = some r) (hF : UM μ0 μ) : UM μ0 r := by
  unfold M_amount_43 at h
  obtain ⟨m1, h2, h⟩ := bindS h
  have hF3 := um_M_next h2 hF
  obtain ⟨m4, h5, h⟩ := bindS h
  have hF6 := um_M_number h5 hF3
  replace h := Option.some.inj h
  subst h
  exact hF6
theorem um_M_amount {μ0 μ : Mem}   {r : Mem}  (h : M_amount μ = some r) (hF : UM μ0 μ) : UM μ0 r := by
  unfold M_amount at h
  obtain ⟨x1, h2, h⟩ := bindS h
  by_cases c27 : x1 = 0
  · replace h := ifT c27 h
    obtain ⟨x3, h4, h⟩ := bindS h
    by_cases c23 : x3 ≠ 0
    · replace h := ifT c23 h
      exact um_M_amount_43 h hF
    · replace h := ifF c23 h
      obtain ⟨x5, h6, h⟩ := bindS h
      by_cases c22 : x5 ≠ 0
      · replace h := ifT c22 h
        exact um_M_amount_43 h hF
      · replace h := ifF c22 h
        obtain ⟨x7, h8, h⟩ := bindS h
        by_cases c21 : x7 = 0
        · replace h := ifT c21 h
          obtain ⟨m9, h10, h⟩ := bindS h
          have hF11 := um_M_number h10 hF
          obtain ⟨x12, h13, h⟩ := bindS h
          by_cases c20 : x12 = 0
          · replace h := ifT c20 h
            replace h := Option.some.inj h
            subst h
            exact hF11
          · replace h := ifF c20 h
            obtain ⟨m14, h15, h⟩ := bindS h
            have hF16 := um_M_next h15 hF11
            obtain ⟨m17, h18, h⟩ := bindS h
            have hF19 := um_M_number h18 hF16
            replace h := Option.some.inj h
            subst h
            exact hF19
        · replace h := ifF c21 h
          exact um_M_amount_43 h hF
  · replace h := ifF c27 h
    obtain ⟨m24, h25, h⟩ := bindS h
    have hF26 := um_M_next h25 hF
    replace h := Option.some.inj h
    subst h
    exact hF26
theorem um_M_whats_63 {μ0 μ : Mem} {K11 : Mem → Option (Mem)} {l2 : Int} {r : Mem} (hK11 : ∀ {μ : Mem} {r : Mem}, K11 μ = some r → UM μ0 μ → UM μ0 r) (h : M_whats_63 K11 μ l2 = some r) (hF : UM μ0 μ) : UM μ0 r := by
  unfold M_whats_63 at h
  by_cases c4 : l2 = 0
  · replace h := ifT c4 h
    exact hK11 h hF
  · replace h := ifF c4 h
    obtain ⟨m1, h2, h⟩ := bindS h
    have hF3 := um_M_number h2 hF
    exact hK11 h hF3
theorem um_M_whats_43 {μ0 μ : Mem} {K11 : Mem → Option (Mem)} {s0 : Int} {r : Mem} (hK11 : ∀ {μ : Mem} {r : Mem}, K11 μ = some r → UM μ0 μ → UM μ0 r) (h : M_whats_43 K11 μ s0 = some r) (hF : UM μ0 μ) : UM μ0 r := by
  unfold M_whats_43 at h
  obtain ⟨x1, h2, h⟩ := bindS h
  obtain ⟨m3, h4, h⟩ := bindS h
  have hF5 := um_M_next h4 hF
  by_cases c9 : s0 = 0
  · replace h := ifT c9 h
    exact um_M_whats_63 hK11 h hF5
  · replace h := ifF c9 h
    obtain ⟨m6, h7, h⟩ := bindS h
    have hF8 := um_M_amount h7 hF5
    exact um_M_whats_63 hK11 h hF8
theorem um_M_whats_11 {μ0 : Mem}    : ∀ {n : Nat} {μ : Mem} {r : Mem}, M_whats_11 n μ = some r → UM μ0 μ → UM μ0 r := by
  intro n
  induction n with
  | zero =>
    intro μ r h
    exact noneS h
  | succ n ih =>
    intro μ r h hF
    rw [M_whats_11] at h
    obtain ⟨x1, h2, h⟩ := bindS h
    by_cases c9 : x1 = 0
    · replace h := ifT c9 h
      replace h := Option.some.inj h
      subst h
      exact hF
    · replace h := ifF c9 h
      obtain ⟨x3, h4, h⟩ := bindS h
      by_cases c8 : x3 ≠ 0
      · replace h := ifT c8 h
        exact um_M_whats_43 ih h hF
      · replace h := ifF c8 h
        obtain ⟨x5, h6, h⟩ := bindS h
        by_cases c7 : x5 = 0
        · replace h := ifT c7 h
          exact um_M_whats_43 ih h hF
        · replace h := ifF c7 h
          exact um_M_whats_43 ih h hF
theorem um_M_whats {μ0 μ : Mem}   {r : Mem}  (h : M_whats μ = some r) (hF : UM μ0 μ) : UM μ0 r := by
  unfold M_whats at h
  obtain ⟨x1, h2, h⟩ := bindS h
  by_cases c6 : x1 ≠ 0
  · replace h := ifT c6 h
    exact um_M_whats_11 h hF
  · replace h := ifF c6 h
    obtain ⟨m3, h4, h⟩ := bindS h
    have hF5 := um_M_fail h4 hF
    exact um_M_whats_11 h hF5
theorem um_M_groupOrSet {μ0 μ : Mem}   {r : Mem}  (h : M_groupOrSet μ = some r) (hF : UM μ0 μ) : UM μ0 r := by
  unfold M_groupOrSet at h
  obtain ⟨m1, h2, h⟩ := bindS h
  have hF3 := um_M_next h2 hF
  obtain ⟨m4, h5, h⟩ := bindS h
  have hF6 := um_M_number h5 hF3
  obtain ⟨x7, h8, h⟩ := bindS h
  by_cases c21 : x7 = 0
  · replace h := ifT c21 h
    obtain ⟨m9, h10, h⟩ := bindS h
    have hF11 := um_M_moreTerms h10 hF6
    obtain ⟨m12, h13, h⟩ := bindS h
    have hF14 := um_M_whats h13 hF11
    replace h := Option.some.inj h
    subst h
    exact hF14
  · replace h := ifF c21 h
    obtain ⟨m15, h16, h⟩ := bindS h
    have hF17 := um_M_next h16 hF6
    obtain ⟨m18, h19, h⟩ := bindS h
    have hF20 := um_M_set h19 hF17
    replace h := Option.some.inj h
    subst h
    exact hF20
theorem um_M_sign {μ0 μ : Mem}  {a1 : Int} {r : Mem}  (h : M_sign μ a1 = some r) (hF : UM μ0 μ) : UM μ0 r := by
  unfold M_sign at h
  obtain ⟨x1, h2, h⟩ := bindS h
  obtain ⟨m3, h4, h⟩ := bindS h
  have hF5 := um_M_need h4 hF
  replace h := Option.some.inj h
  subst h
  exact hF5
theorem um_M_levels_31 {μ0 μ : Mem}   {r : Mem}  (h : M_levels_31 μ = some r) (hF : UM μ0 μ) : UM μ0 r := by
  unfold M_levels_31 at h
  obtain ⟨m1, h2, h⟩ := bindS h
  have hF3 := um_M_options h2 hF
  replace h := Option.some.inj h
  subst h
  exact hF3
theorem um_M_levels {μ0 μ : Mem}   {r : Mem}  (h : M_levels μ = some r) (hF : UM μ0 μ) : UM μ0 r := by
  unfold M_levels at h
  obtain ⟨x1, h2, h⟩ := bindS h
  by_cases c12 : x1 = 0
  · replace h := ifT c12 h
    obtain ⟨x3, h4, h⟩ := bindS h
    by_cases c8 : x3 ≠ 0
    · replace h := ifT c8 h
      exact um_M_levels_31 h hF
    · replace h := ifF c8 h
      obtain ⟨m5, h6, h⟩ := bindS h
      have hF7 := um_M_fail h6 hF
      exact um_M_levels_31 h hF7
  · replace h := ifF c12 h
    obtain ⟨m9, h10, h⟩ := bindS h
    have hF11 := um_M_next h10 hF
    replace h := Option.some.inj h
    subst h
    exact hF11
theorem um_M_subs_20 {μ0 μ : Mem}   {r : Mem}  (h : M_subs_20 μ = some r) (hF : UM μ0 μ) : UM μ0 r := by
  unfold M_subs_20 at h
  obtain ⟨m1, h2, h⟩ := bindS h
  have hF3 := um_M_next h2 hF
  replace h := Option.some.inj h
  subst h
  exact hF3
theorem um_M_subs {μ0 μ : Mem}   {r : Mem}  (h : M_subs μ = some r) (hF : UM μ0 μ) : UM μ0 r := by
  unfold M_subs at h
  obtain ⟨x1, h2, h⟩ := bindS h
  by_cases c18 : x1 ≠ 0
  · replace h := ifT c18 h
    exact um_M_subs_20 h hF
  · replace h := ifF c18 h
    obtain ⟨x3, h4, h⟩ := bindS h
    by_cases c17 : x3 = 0
    · replace h := ifT c17 h
      obtain ⟨m5, h6, h⟩ := bindS h
      have hF7 := um_M_word h6 hF
      obtain ⟨m8, h9, h⟩ := bindS h
      have hF10 := um_M_set h9 hF7
      obtain ⟨m11, h12, h⟩ := bindS h
      have hF13 := um_M_sign h12 hF10
      obtain ⟨m14, h15, h⟩ := bindS h
      have hF16 := um_M_number h15 hF13
      replace h := Option.some.inj h
      subst h
      exact hF16
    · replace h := ifF c17 h
      exact um_M_subs_20 h hF
theorem um_M_parameter {μ0 μ : Mem}   {r : Mem}  (h : M_parameter μ = some r) (hF : UM μ0 μ) : UM μ0 r := by
  unfold M_parameter at h
  obtain ⟨x1, h2, h⟩ := bindS h
  obtain ⟨m3, h4, h⟩ := bindS h
  have hF5 := um_M_need h4 hF
  replace h := Option.some.inj h
  subst h
  exact hF5
theorem um_M_waves {μ0 μ : Mem}   {r : Mem}  (h : M_waves μ = some r) (hF : UM μ0 μ) : UM μ0 r := by
  unfold M_waves at h
  obtain ⟨x1, h2, h⟩ := bindS h
  by_cases c38 : x1 = 0
  · replace h := ifT c38 h
    obtain ⟨x3, h4, h⟩ := bindS h
    obtain ⟨m5, h6, h⟩ := bindS h
    have hF7 := um_M_need h6 hF
    obtain ⟨m8, h9, h⟩ := bindS h
    have hF10 := um_M_parameter h9 hF7
    obtain ⟨m11, h12, h⟩ := bindS h
    have hF13 := um_M_word h12 hF10
    obtain ⟨m14, h15, h⟩ := bindS h
    have hF16 := um_M_number h15 hF13
    obtain ⟨m17, h18, h⟩ := bindS h
    have hF19 := um_M_word h18 hF16
    obtain ⟨m20, h21, h⟩ := bindS h
    have hF22 := um_M_number h21 hF19
    obtain ⟨m23, h24, h⟩ := bindS h
    have hF25 := um_M_word h24 hF22
    obtain ⟨m26, h27, h⟩ := bindS h
    have hF28 := um_M_number h27 hF25
    obtain ⟨m29, h30, h⟩ := bindS h
    have hF31 := um_M_word h30 hF28
    obtain ⟨m32, h33, h⟩ := bindS h
    have hF34 := um_M_set h33 hF31
    replace h := Option.some.inj h
    subst h
    exact hF34
  · replace h := ifF c38 h
    obtain ⟨m35, h36, h⟩ := bindS h
    have hF37 := um_M_next h36 hF
    replace h := Option.some.inj h
    subst h
    exact hF37
theorem um_M_times {μ0 μ : Mem}   {r : Mem}  (h : M_times μ = some r) (hF : UM μ0 μ) : UM μ0 r := by
  unfold M_times at h
  obtain ⟨m1, h2, h⟩ := bindS h
  have hF3 := um_M_options h2 hF
  replace h := Option.some.inj h
  subst h
  exact hF3
theorem um_M_otherStatement_74 {μ0 μ : Mem}  {s1 : Int} {r : Mem}  (h : M_otherStatement_74 μ s1 = some r) (hF : UM μ0 μ) : UM μ0 r := by
  unfold M_otherStatement_74 at h
  obtain ⟨m1, h2, h⟩ := bindS h
  have hF3 := um_M_need h2 hF
  replace h := Option.some.inj h
  subst h
  exact hF3
theorem um_M_otherStatement {μ0 μ : Mem}  {a1 : Int} {r : Mem}  (h : M_otherStatement μ a1 = some r) (hF : UM μ0 μ) : UM μ0 r := by
  unfold M_otherStatement at h
  by_cases c13 : a1 = 34
  · replace h := ifT c13 h
    obtain ⟨m1, h2, h⟩ := bindS h
    have hF3 := um_M_next h2 hF
    obtain ⟨m4, h5, h⟩ := bindS h
    have hF6 := um_M_number h5 hF3
    obtain ⟨m7, h8, h⟩ := bindS h
    have hF9 := um_M_sign h8 hF6
    obtain ⟨m10, h11, h⟩ := bindS h
    have hF12 := um_M_number h11 hF9
    replace h := Option.some.inj h
    subst h
    exact hF12
  replace h := ifF c13 h
  by_cases c23 : a1 = 35
  · replace h := ifT c23 h
    obtain ⟨m14, h15, h⟩ := bindS h
    have hF16 := um_M_next h15 hF
    obtain ⟨x17, h18, h⟩ := bindS h
    by_cases c22 : x17 ≠ 0
    · replace h := ifT c22 h
      exact um_M_otherStatement_74 h hF16
    · replace h := ifF c22 h
      obtain ⟨x19, h20, h⟩ := bindS h
      by_cases c21 : x19 = 0
      · replace h := ifT c21 h
        exact um_M_otherStatement_74 h hF16
      · replace h := ifF c21 h
        exact um_M_otherStatement_74 h hF16
  replace h := ifF c23 h
  by_cases c48 : a1 = 36
  · replace h := ifT c48 h
    obtain ⟨m24, h25, h⟩ := bindS h
    have hF26 := um_M_next h25 hF
    obtain ⟨m27, h28, h⟩ := bindS h
    have hF29 := um_M_number h28 hF26
    obtain ⟨m30, h31, h⟩ := bindS h
    have hF32 := um_M_sign h31 hF29
    obtain ⟨x33, h34, h⟩ := bindS h
    by_cases c47 : x33 = 0
    · replace h := ifT c47 h
      obtain ⟨m35, h36, h⟩ := bindS h
      have hF37 := um_M_number h36 hF32
      obtain ⟨m38, h39, h⟩ := bindS h
      have hF40 := um_M_word h39 hF37
      obtain ⟨m41, h42, h⟩ := bindS h
      have hF43 := um_M_number h42 hF40
      replace h := Option.some.inj h
      subst h
      exact hF43
    · replace h := ifF c47 h
      obtain ⟨m44, h45, h⟩ := bindS h
      have hF46 := um_M_next h45 hF32
      replace h := Option.some.inj h
      subst h
      exact hF46
  replace h := ifF c48 h
  obtain ⟨m49, h50, h⟩ := bindS h
  have hF51 := um_M_set h50 hF
  obtain ⟨m52, h53, h⟩ := bindS h
  have hF54 := um_M_whats h53 hF51
  replace h := Option.some.inj h
  subst h
  exact hF54
theorem um_M_cueStatement_95 {μ0 μ : Mem}   {r : Mem}  (h : M_cueStatement_95 μ = some r) (hF : UM μ0 μ) : UM μ0 r := by
  unfold M_cueStatement_95 at h
  obtain ⟨m1, h2, h⟩ := bindS h
  have hF3 := um_M_times h2 hF
  replace h := Option.some.inj h
  subst h
  exact hF3
theorem um_M_cueStatement_68 {μ0 μ : Mem}  {l1 : Int} {r : Mem}  (h : M_cueStatement_68 μ l1 = some r) (hF : UM μ0 μ) : UM μ0 r := by
  unfold M_cueStatement_68 at h
  obtain ⟨m1, h2, h⟩ := bindS h
  have hF3 := um_M_next h2 hF
  obtain ⟨m4, h5, h⟩ := bindS h
  have hF6 := um_M_number h5 hF3
  by_cases c13 : l1 ≠ 22
  · replace h := ifT c13 h
    exact um_M_cueStatement_95 h hF6
  · replace h := ifF c13 h
    obtain ⟨x7, h8, h⟩ := bindS h
    by_cases c12 : x7 = 0
    · replace h := ifT c12 h
      exact um_M_cueStatement_95 h hF6
    · replace h := ifF c12 h
      obtain ⟨m9, h10, h⟩ := bindS h
      have hF11 := um_M_next h10 hF6
      exact um_M_cueStatement_95 h hF11
theorem um_M_cueStatement_102 {μ0 μ : Mem}   {r : Mem}  (h : M_cueStatement_102 μ = some r) (hF : UM μ0 μ) : UM μ0 r := by
  unfold M_cueStatement_102 at h
  obtain ⟨m1, h2, h⟩ := bindS h
  have hF3 := um_M_next h2 hF
  replace h := Option.some.inj h
  subst h
  exact hF3
theorem um_M_cueStatement_109 {μ0 μ : Mem}   {r : Mem}  (h : M_cueStatement_109 μ = some r) (hF : UM μ0 μ) : UM μ0 r := by
  unfold M_cueStatement_109 at h
  obtain ⟨m1, h2, h⟩ := bindS h
  have hF3 := um_M_next h2 hF
  obtain ⟨m4, h5, h⟩ := bindS h
  have hF6 := um_M_number h5 hF3
  replace h := Option.some.inj h
  subst h
  exact hF6
theorem um_M_cueStatement_141 {μ0 μ : Mem}  {l1 : Int} {r : Mem}  (h : M_cueStatement_141 μ l1 = some r) (hF : UM μ0 μ) : UM μ0 r := by
  unfold M_cueStatement_141 at h
  obtain ⟨m1, h2, h⟩ := bindS h
  have hF3 := um_M_otherStatement h2 hF
  replace h := Option.some.inj h
  subst h
  exact hF3
theorem um_M_cueStatement {μ0 μ : Mem}  {a1 : Int} {r : Mem}  (h : M_cueStatement μ a1 = some r) (hF : UM μ0 μ) : UM μ0 r := by
  unfold M_cueStatement at h
  by_cases c1 : a1 = 21
  · replace h := ifT c1 h
    exact um_M_cueStatement_68 h hF
  replace h := ifF c1 h
  by_cases c2 : a1 = 22
  · replace h := ifT c2 h
    exact um_M_cueStatement_68 h hF
  replace h := ifF c2 h
  by_cases c3 : a1 = 23
  · replace h := ifT c3 h
    exact um_M_cueStatement_141 h hF
  replace h := ifF c3 h
  by_cases c4 : a1 = 24
  · replace h := ifT c4 h
    exact um_M_cueStatement_102 h hF
  replace h := ifF c4 h
  by_cases c5 : a1 = 25
  · replace h := ifT c5 h
    exact um_M_cueStatement_109 h hF
  replace h := ifF c5 h
  by_cases c18 : a1 = 26
  · replace h := ifT c18 h
    obtain ⟨m6, h7, h⟩ := bindS h
    have hF8 := um_M_next h7 hF
    obtain ⟨m9, h10, h⟩ := bindS h
    have hF11 := um_M_number h10 hF8
    obtain ⟨m12, h13, h⟩ := bindS h
    have hF14 := um_M_word h13 hF11
    obtain ⟨m15, h16, h⟩ := bindS h
    have hF17 := um_M_number h16 hF14
    replace h := Option.some.inj h
    subst h
    exact hF17
  replace h := ifF c18 h
  by_cases c19 : a1 = 27
  · replace h := ifT c19 h
    exact um_M_cueStatement_141 h hF
  replace h := ifF c19 h
  by_cases c20 : a1 = 28
  · replace h := ifT c20 h
    exact um_M_cueStatement_109 h hF
  replace h := ifF c20 h
  by_cases c21 : a1 = 29
  · replace h := ifT c21 h
    exact um_M_cueStatement_109 h hF
  replace h := ifF c21 h
  by_cases c22 : a1 = 30
  · replace h := ifT c22 h
    exact um_M_cueStatement_109 h hF
  replace h := ifF c22 h
  by_cases c23 : a1 = 31
  · replace h := ifT c23 h
    exact um_M_cueStatement_102 h hF
  replace h := ifF c23 h
  by_cases c24 : a1 = 32
  · replace h := ifT c24 h
    exact um_M_cueStatement_102 h hF
  replace h := ifF c24 h
  by_cases c25 : a1 = 33
  · replace h := ifT c25 h
    exact um_M_cueStatement_109 h hF
  replace h := ifF c25 h
  exact um_M_cueStatement_141 h hF
theorem um_M_statement_220 {μ0 μ : Mem}   {r : Mem}  (h : M_statement_220 μ = some r) (hF : UM μ0 μ) : UM μ0 r := by
  unfold M_statement_220 at h
  obtain ⟨x1, h2, h⟩ := bindS h
  by_cases c6 : x1 ≠ 0
  · replace h := ifT c6 h
    replace h := Option.some.inj h
    subst h
    exact hF
  · replace h := ifF c6 h
    obtain ⟨m3, h4, h⟩ := bindS h
    have hF5 := um_M_fail h4 hF
    replace h := Option.some.inj h
    subst h
    exact hF5
theorem um_M_statement_215 {μ0 μ : Mem}  {l1 : Int} {r : Mem}  (h : M_statement_215 μ l1 = some r) (hF : UM μ0 μ) : UM μ0 r := by
  unfold M_statement_215 at h
  obtain ⟨m1, h2, h⟩ := bindS h
  have hF3 := um_M_cueStatement h2 hF
  exact um_M_statement_220 h hF3
theorem um_M_statement_20 {μ0 μ : Mem}  {s0 : Int} {r : Mem}  (h : M_statement_20 μ s0 = some r) (hF : UM μ0 μ) : UM μ0 r := by
  unfold M_statement_20 at h
  by_cases c4 : s0 = 1
  · replace h := ifT c4 h
    obtain ⟨m1, h2, h⟩ := bindS h
    have hF3 := um_M_groupOrSet h2 hF
    exact um_M_statement_220 h hF3
  replace h := ifF c4 h
  by_cases c5 : s0 = 2
  · replace h := ifT c5 h
    exact um_M_statement_215 h hF
  replace h := ifF c5 h
  by_cases c26 : s0 = 3
  · replace h := ifT c26 h
    obtain ⟨m6, h7, h⟩ := bindS h
    have hF8 := um_M_next h7 hF
    obtain ⟨m9, h10, h⟩ := bindS h
    have hF11 := um_M_number h10 hF8
    obtain ⟨x12, h13, h⟩ := bindS h
    obtain ⟨m14, h15, h⟩ := bindS h
    have hF16 := um_M_need h15 hF11
    obtain ⟨m17, h18, h⟩ := bindS h
    have hF19 := um_M_word h18 hF16
    obtain ⟨m20, h21, h⟩ := bindS h
    have hF22 := um_M_number h21 hF19
    obtain ⟨m23, h24, h⟩ := bindS h
    have hF25 := um_M_options h24 hF22
    exact um_M_statement_220 h hF25
  replace h := ifF c26 h
  by_cases c27 : s0 = 4
  · replace h := ifT c27 h
    exact um_M_statement_215 h hF
  replace h := ifF c27 h
  by_cases c28 : s0 = 5
  · replace h := ifT c28 h
    exact um_M_statement_215 h hF
  replace h := ifF c28 h
  by_cases c29 : s0 = 6
  · replace h := ifT c29 h
    exact um_M_statement_215 h hF
  replace h := ifF c29 h
  by_cases c30 : s0 = 7
  · replace h := ifT c30 h
    exact um_M_statement_215 h hF
  replace h := ifF c30 h
  by_cases c31 : s0 = 8
  · replace h := ifT c31 h
    exact um_M_statement_215 h hF
  replace h := ifF c31 h
  by_cases c38 : s0 = 9
  · replace h := ifT c38 h
    obtain ⟨m32, h33, h⟩ := bindS h
    have hF34 := um_M_next h33 hF
    obtain ⟨m35, h36, h⟩ := bindS h
    have hF37 := um_M_set h36 hF34
    exact um_M_statement_220 h hF37
  replace h := ifF c38 h
  by_cases c51 : s0 = 10
  · replace h := ifT c51 h
    obtain ⟨m39, h40, h⟩ := bindS h
    have hF41 := um_M_next h40 hF
    obtain ⟨m42, h43, h⟩ := bindS h
    have hF44 := um_M_number h43 hF41
    obtain ⟨m45, h46, h⟩ := bindS h
    have hF47 := um_M_sign h46 hF44
    obtain ⟨m48, h49, h⟩ := bindS h
    have hF50 := um_M_levels h49 hF47
    exact um_M_statement_220 h hF50
  replace h := ifF c51 h
  by_cases c52 : s0 = 11
  · replace h := ifT c52 h
    exact um_M_statement_215 h hF
  replace h := ifF c52 h
  by_cases c62 : s0 = 12
  · replace h := ifT c62 h
    obtain ⟨m53, h54, h⟩ := bindS h
    have hF55 := um_M_next h54 hF
    obtain ⟨m56, h57, h⟩ := bindS h
    have hF58 := um_M_number h57 hF55
    obtain ⟨m59, h60, h⟩ := bindS h
    have hF61 := um_M_subs h60 hF58
    exact um_M_statement_220 h hF61
  replace h := ifF c62 h
  by_cases c63 : s0 = 13
  · replace h := ifT c63 h
    exact um_M_statement_215 h hF
  replace h := ifF c63 h
  by_cases c64 : s0 = 14
  · replace h := ifT c64 h
    exact um_M_statement_215 h hF
  replace h := ifF c64 h
  by_cases c65 : s0 = 15
  · replace h := ifT c65 h
    exact um_M_statement_215 h hF
  replace h := ifF c65 h
  by_cases c78 : s0 = 16
  · replace h := ifT c78 h
    obtain ⟨m66, h67, h⟩ := bindS h
    have hF68 := um_M_next h67 hF
    obtain ⟨m69, h70, h⟩ := bindS h
    have hF71 := um_M_number h70 hF68
    obtain ⟨m72, h73, h⟩ := bindS h
    have hF74 := um_M_sign h73 hF71
    obtain ⟨m75, h76, h⟩ := bindS h
    have hF77 := um_M_waves h76 hF74
    exact um_M_statement_220 h hF77
  replace h := ifF c78 h
  exact um_M_statement_215 h hF
theorem um_M_statement {μ0 μ : Mem}   {r : Mem}  (h : M_statement μ = some r) (hF : UM μ0 μ) : UM μ0 r := by
  unfold M_statement at h
  by_cases c1 : (μ 268 0) ≠ 1
  · replace h := ifT c1 h
    exact um_M_statement_20 h hF
  · replace h := ifF c1 h
    exact um_M_statement_20 h hF
theorem um_M_refuse {μ0 μ : Mem}  {a1 : Int} {a2 : Int} {a3 : Int} {r : Mem}  (h : M_refuse μ a1 a2 a3 = some r) (hF : UM μ0 μ) : UM μ0 r := by
  unfold M_refuse at h
  by_cases c10 : a1 = 0
  · replace h := ifT c10 h
    replace h := Option.some.inj h
    subst h
    exact hF
  · replace h := ifF c10 h
    by_cases c9 : (μ 259 11) ≤ 0
    · replace h := ifT c9 h
      obtain ⟨m1, h2, h⟩ := bindS h
      have hF3 := UMP hF ux_259 h2
      obtain ⟨x4, h5, h⟩ := bindS h
      obtain ⟨m6, h7, h⟩ := bindS h
      have hF8 := UMP hF3 ux_259 h7
      replace h := Option.some.inj h
      subst h
      exact hF8
    · replace h := ifF c9 h
      replace h := Option.some.inj h
      subst h
      exact hF
theorem um_M_bounds_20 {μ0 μ : Mem}  {l1 : Int} {s1 : Int} {r : Mem}  (h : M_bounds_20 μ l1 s1 = some r) (hF : UM μ0 μ) : UM μ0 r := by
  unfold M_bounds_20 at h
  obtain ⟨m1, h2, h⟩ := bindS h
  have hF3 := um_M_refuse h2 hF
  replace h := Option.some.inj h
  subst h
  exact hF3
theorem um_M_bounds {μ0 μ : Mem}  {a1 : Int} {a2 : Int} {a3 : Int} {r : Mem}  (h : M_bounds μ a1 a2 a3 = some r) (hF : UM μ0 μ) : UM μ0 r := by
  unfold M_bounds at h
  obtain ⟨x1, h2, h⟩ := bindS h
  obtain ⟨x3, h4, h⟩ := bindS h
  by_cases c5 : x3 ≠ 0
  · replace h := ifT c5 h
    exact um_M_bounds_20 h hF
  · replace h := ifF c5 h
    exact um_M_bounds_20 h hF
theorem um_M_checkPatch_222 {μ0 μ : Mem} {K189 : Mem → Int → Option (Mem)} {l4 : Int} {r : Mem} (hK189 : ∀ {μ : Mem} {l4 : Int} {r : Mem}, K189 μ l4 = some r → UM μ0 μ → UM μ0 r) (h : M_checkPatch_222 K189 μ l4 = some r) (hF : UM μ0 μ) : UM μ0 r := by
  unfold M_checkPatch_222 at h
  obtain ⟨x1, h2, h⟩ := bindS h
  by_cases c6 : x1 = 0
  · replace h := ifT c6 h
    exact hK189 h hF
  · replace h := ifF c6 h
    obtain ⟨m3, h4, h⟩ := bindS h
    have hF5 := um_M_bounds h4 hF
    exact hK189 h hF5
theorem um_M_checkPatch_189 {μ0 : Mem}    : ∀ {n : Nat} {μ : Mem} {l4 : Int} {r : Mem}, M_checkPatch_189 n μ l4 = some r → UM μ0 μ → UM μ0 r := by
  intro n
  induction n with
  | zero =>
    intro μ l4 r h
    exact noneS h
  | succ n ih =>
    intro μ l4 r h hF
    rw [M_checkPatch_189] at h
    obtain ⟨x1, h2, h⟩ := bindS h
    by_cases c9 : x1 ≠ 0
    · replace h := ifT c9 h
      replace h := Option.some.inj h
      subst h
      exact hF
    · replace h := ifF c9 h
      obtain ⟨x3, h4, h⟩ := bindS h
      by_cases c8 : x3 = 0
      · replace h := ifT c8 h
        exact um_M_checkPatch_222 ih h hF
      · replace h := ifF c8 h
        obtain ⟨m5, h6, h⟩ := bindS h
        have hF7 := um_M_bounds h6 hF
        exact um_M_checkPatch_222 ih h hF7
theorem um_M_checkPatch_181 {μ0 μ : Mem}  {s1 : Int} {r : Mem}  (h : M_checkPatch_181 μ s1 = some r) (hF : UM μ0 μ) : UM μ0 r := by
  unfold M_checkPatch_181 at h
  obtain ⟨m1, h2, h⟩ := bindS h
  have hF3 := um_M_refuse h2 hF
  exact um_M_checkPatch_189 h hF3
theorem um_M_checkPatch_92 {μ0 μ : Mem}  {l1 : Int} {l2 : Int}  : ∀ {n : Nat} {l3 : Int} {l4 : Int} {r : Mem}, M_checkPatch_92 μ l1 l2 n l3 l4 = some r → UM μ0 μ → UM μ0 r := by
  intro n
  induction n with
  | zero =>
    intro l3 l4 r h
    exact noneS h
  | succ n ih =>
    intro l3 l4 r h hF
    rw [M_checkPatch_92] at h
    by_cases c16 : 40 ≤ l4
    · replace h := ifT c16 h
      by_cases c1 : l3 ≠ 0
      · replace h := ifT c1 h
        exact um_M_checkPatch_181 h hF
      · replace h := ifF c1 h
        exact um_M_checkPatch_181 h hF
    · replace h := ifF c16 h
      by_cases c15 : l3 = 0
      · replace h := ifT c15 h
        exact ih h hF
      · replace h := ifF c15 h
        obtain ⟨x2, h3, h⟩ := bindS h
        by_cases c14 : x2 = 0
        · replace h := ifT c14 h
          exact ih h hF
        · replace h := ifF c14 h
          obtain ⟨x4, h5, h⟩ := bindS h
          by_cases c13 : l2 < x4
          · replace h := ifT c13 h
            exact ih h hF
          · replace h := ifF c13 h
            obtain ⟨x6, h7, h⟩ := bindS h
            obtain ⟨x8, h9, h⟩ := bindS h
            obtain ⟨x10, h11, h⟩ := bindS h
            by_cases c12 : l1 < (jadd x6 x10)
            · replace h := ifT c12 h
              exact ih h hF
            · replace h := ifF c12 h
              exact ih h hF
theorem um_M_checkPatch_36 {μ0 μ : Mem}  {s1 : Int} {r : Mem}  (h : M_checkPatch_36 μ s1 = some r) (hF : UM μ0 μ) : UM μ0 r := by
  unfold M_checkPatch_36 at h
  obtain ⟨m1, h2, h⟩ := bindS h
  have hF3 := um_M_refuse h2 hF
  obtain ⟨m4, h5, h⟩ := bindS h
  have hF6 := um_M_bounds h5 hF3
  obtain ⟨x7, h8, h⟩ := bindS h
  obtain ⟨x9, h10, h⟩ := bindS h
  obtain ⟨x11, h12, h⟩ := bindS h
  by_cases c13 : 200 < x11
  · replace h := ifT c13 h
    exact um_M_checkPatch_92 h hF6
  · replace h := ifF c13 h
    exact um_M_checkPatch_92 h hF6
theorem um_M_checkPatch {μ0 μ : Mem}   {r : Mem}  (h : M_checkPatch μ = some r) (hF : UM μ0 μ) : UM μ0 r := by
  unfold M_checkPatch at h
  obtain ⟨m1, h2, h⟩ := bindS h
  have hF3 := um_M_bounds h2 hF
  by_cases c7 : (m1 259 11) ≠ 0
  · replace h := ifT c7 h
    exact um_M_checkPatch_36 h hF3
  · replace h := ifF c7 h
    obtain ⟨x4, h5, h⟩ := bindS h
    by_cases c6 : x4 = 0
    · replace h := ifT c6 h
      exact um_M_checkPatch_36 h hF3
    · replace h := ifF c6 h
      exact um_M_checkPatch_36 h hF3
theorem um_M_put_80 {μ0 : Mem}    : ∀ {n : Nat} {μ : Mem} {l4 : Int} {r : Mem}, M_put_80 n μ l4 = some r → UM μ0 μ → UM μ0 r := by
  intro n
  induction n with
  | zero =>
    intro μ l4 r h
    exact noneS h
  | succ n ih =>
    intro μ l4 r h hF
    rw [M_put_80] at h
    by_cases c9 : (μ 259 21) ≤ (jadd l4 1)
    · replace h := ifT c9 h
      obtain ⟨m1, h2, h⟩ := bindS h
      have hF3 := UMP hF ux_259 h2
      replace h := Option.some.inj h
      subst h
      exact hF3
    · replace h := ifF c9 h
      obtain ⟨x4, h5, h⟩ := bindS h
      obtain ⟨m6, h7, h⟩ := bindS h
      have hF8 := UMS hF ux_271 h7
      exact ih h hF8
theorem um_M_put_69 {μ0 μ : Mem}  {l2 : Int} {l3 : Int} {r : Mem}  (h : M_put_69 μ l2 l3 = some r) (hF : UM μ0 μ) : UM μ0 r := by
  unfold M_put_69 at h
  by_cases c2 : l2 ≠ 0
  · replace h := ifT c2 h
    replace h := Option.some.inj h
    subst h
    exact hF
  · replace h := ifF c2 h
    by_cases c1 : l3 < 0
    · replace h := ifT c1 h
      replace h := Option.some.inj h
      subst h
      exact hF
    · replace h := ifF c1 h
      exact um_M_put_80 h hF
theorem um_M_put_5 {μ0 μ : Mem}  {l1 : Int} {l2 : Int}  : ∀ {n : Nat} {l3 : Int} {l4 : Int} {r : Mem}, M_put_5 μ l1 l2 n l3 l4 = some r → UM μ0 μ → UM μ0 r := by
  intro n
  induction n with
  | zero =>
    intro l3 l4 r h
    exact noneS h
  | succ n ih =>
    intro l3 l4 r h hF
    rw [M_put_5] at h
    by_cases c12 : (μ 259 21) ≤ l4
    · replace h := ifT c12 h
      by_cases c8 : l2 = 0
      · replace h := ifT c8 h
        exact um_M_put_69 h hF
      · replace h := ifF c8 h
        by_cases c7 : 0 ≤ l3
        · replace h := ifT c7 h
          exact um_M_put_69 h hF
        · replace h := ifF c7 h
          obtain ⟨m1, h2, h⟩ := bindS h
          have hF3 := UMS hF ux_271 h2
          obtain ⟨m4, h5, h⟩ := bindS h
          have hF6 := UMP hF3 ux_259 h5
          replace h := Option.some.inj h
          subst h
          exact hF6
    · replace h := ifF c12 h
      obtain ⟨x9, h10, h⟩ := bindS h
      by_cases c11 : x9 ≠ l1
      · replace h := ifT c11 h
        exact ih h hF
      · replace h := ifF c11 h
        exact ih h hF
theorem um_M_put {μ0 μ : Mem}  {a1 : Int} {a2 : Int} {r : Mem}  (h : M_put μ a1 a2 = some r) (hF : UM μ0 μ) : UM μ0 r := by
  unfold M_put at h
  exact um_M_put_5 h hF
theorem um_M_groupAt_55 {μ0 : Mem}  {l2 : Int} {l3 : Int}  : ∀ {n : Nat} {μ : Mem} {l4 : Int} {r : Mem}, M_groupAt_55 l2 l3 n μ l4 = some r → UM μ0 μ → UM μ0 r := by
  intro n
  induction n with
  | zero =>
    intro μ l4 r h
    exact noneS h
  | succ n ih =>
    intro μ l4 r h hF
    rw [M_groupAt_55] at h
    obtain ⟨x1, h2, h⟩ := bindS h
    by_cases c8 : x1 < l4
    · replace h := ifT c8 h
      replace h := Option.some.inj h
      subst h
      exact hF
    · replace h := ifF c8 h
      obtain ⟨x3, h4, h⟩ := bindS h
      obtain ⟨m5, h6, h⟩ := bindS h
      have hF7 := um_M_put h6 hF
      exact ih h hF7
theorem um_M_groupAt_47 {μ0 μ : Mem}  {l1 : Int} {l2 : Int} {l3 : Int} {s1 : Int} {r : Mem}  (h : M_groupAt_47 μ l1 l2 l3 s1 = some r) (hF : UM μ0 μ) : UM μ0 r := by
  unfold M_groupAt_47 at h
  obtain ⟨m1, h2, h⟩ := bindS h
  have hF3 := um_M_refuse h2 hF
  exact um_M_groupAt_55 h hF3
theorem um_M_groupAt {μ0 μ : Mem}  {a1 : Int} {a2 : Int} {r : Mem}  (h : M_groupAt μ a1 a2 = some r) (hF : UM μ0 μ) : UM μ0 r := by
  unfold M_groupAt at h
  obtain ⟨m1, h2, h⟩ := bindS h
  have hF3 := um_M_bounds h2 hF
  by_cases c11 : (m1 259 11) ≤ 0
  · replace h := ifT c11 h
    obtain ⟨x4, h5, h⟩ := bindS h
    obtain ⟨x6, h7, h⟩ := bindS h
    obtain ⟨x8, h9, h⟩ := bindS h
    by_cases c10 : x8 ≠ 0
    · replace h := ifT c10 h
      exact um_M_groupAt_47 h hF3
    · replace h := ifF c10 h
      exact um_M_groupAt_47 h hF3
  · replace h := ifF c11 h
    replace h := Option.some.inj h
    subst h
    exact hF3
theorem um_M_through_15 {μ0 : Mem}  {l2 : Int} {l3 : Int} {l4 : Int}  : ∀ {n : Nat} {μ : Mem} {l5 : Int} {r : Mem}, M_through_15 l2 l3 l4 n μ l5 = some r → UM μ0 μ → UM μ0 r := by
  intro n
  induction n with
  | zero =>
    intro μ l5 r h
    exact noneS h
  | succ n ih =>
    intro μ l5 r h hF
    rw [M_through_15] at h
    by_cases c11 : l5 = (jadd l2 l4)
    · replace h := ifT c11 h
      replace h := Option.some.inj h
      subst h
      exact hF
    · replace h := ifF c11 h
      obtain ⟨x1, h2, h⟩ := bindS h
      by_cases c10 : x1 = 0
      · replace h := ifT c10 h
        obtain ⟨x3, h4, h⟩ := bindS h
        exact ih h hF
      · replace h := ifF c10 h
        obtain ⟨m5, h6, h⟩ := bindS h
        have hF7 := um_M_put h6 hF
        obtain ⟨x8, h9, h⟩ := bindS h
        exact ih h hF7
theorem um_M_through {μ0 μ : Mem}  {a1 : Int} {a2 : Int} {a3 : Int} {r : Mem}  (h : M_through μ a1 a2 a3 = some r) (hF : UM μ0 μ) : UM μ0 r := by
  unfold M_through at h
  by_cases c1 : a2 < a1
  · replace h := ifT c1 h
    exact um_M_through_15 h hF
  · replace h := ifF c1 h
    exact um_M_through_15 h hF
theorem um_M_termAt_11 {μ0 : Mem}  {l1 : Int} {l2 : Int}  : ∀ {n : Nat} {μ : Mem} {l3 : Int} {r : Int × Mem}, M_termAt_11 l1 l2 n μ l3 = some r → UM μ0 μ → UM μ0 r.2 := by
  intro n
  induction n with
  | zero =>
    intro μ l3 r h
    exact noneS h
  | succ n ih =>
    intro μ l3 r h hF
    rw [M_termAt_11] at h
    by_cases c7 : 40 ≤ l3
    · replace h := ifT c7 h
      replace h := Option.some.inj h
      subst h
      exact hF
    · replace h := ifF c7 h
      obtain ⟨x1, h2, h⟩ := bindS h
      by_cases c6 : x1 = 0
      · replace h := ifT c6 h
        exact ih h hF
      · replace h := ifF c6 h
        obtain ⟨m3, h4, h⟩ := bindS h
        have hF5 := um_M_put h4 hF
        exact ih h hF5
theorem um_M_termAt_109 {μ0 μ : Mem}  {l1 : Int} {l2 : Int} {s1 : Int} {r : Int × Mem}  (h : M_termAt_109 μ l1 l2 s1 = some r) (hF : UM μ0 μ) : UM μ0 r.2 := by
  unfold M_termAt_109 at h
  obtain ⟨m1, h2, h⟩ := bindS h
  have hF3 := um_M_refuse h2 hF
  by_cases c9 : (m1 259 11) ≠ 0
  · replace h := ifT c9 h
    replace h := Option.some.inj h
    subst h
    exact hF3
  · replace h := ifF c9 h
    obtain ⟨x4, h5, h⟩ := bindS h
    obtain ⟨m6, h7, h⟩ := bindS h
    have hF8 := um_M_put h7 hF3
    replace h := Option.some.inj h
    subst h
    exact hF8
theorem um_M_termAt {μ0 μ : Mem}  {a1 : Int} {a2 : Int} {r : Int × Mem}  (h : M_termAt μ a1 a2 = some r) (hF : UM μ0 μ) : UM μ0 r.2 := by
  unfold M_termAt at h
  obtain ⟨x1, h2, h⟩ := bindS h
  by_cases c32 : x1 = 0
  · replace h := ifT c32 h
    obtain ⟨x3, h4, h⟩ := bindS h
    by_cases c31 : x3 = 0
    · replace h := ifT c31 h
      obtain ⟨m5, h6, h⟩ := bindS h
      have hF7 := um_M_bounds h6 hF
      obtain ⟨x8, h9, h⟩ := bindS h
      by_cases c27 : x8 ≠ 0
      · replace h := ifT c27 h
        obtain ⟨m10, h11, h⟩ := bindS h
        have hF12 := um_M_bounds h11 hF7
        by_cases c20 : (m10 259 11) ≠ 0
        · replace h := ifT c20 h
          replace h := Option.some.inj h
          subst h
          exact hF12
        · replace h := ifF c20 h
          obtain ⟨x13, h14, h⟩ := bindS h
          obtain ⟨x15, h16, h⟩ := bindS h
          obtain ⟨m17, h18, h⟩ := bindS h
          have hF19 := um_M_through h18 hF12
          replace h := Option.some.inj h
          subst h
          exact hF19
      · replace h := ifF c27 h
        by_cases c26 : (m5 259 11) ≠ 0
        · replace h := ifT c26 h
          exact um_M_termAt_109 h hF7
        · replace h := ifF c26 h
          obtain ⟨x21, h22, h⟩ := bindS h
          obtain ⟨x23, h24, h⟩ := bindS h
          by_cases c25 : x23 ≠ 0
          · replace h := ifT c25 h
            exact um_M_termAt_109 h hF7
          · replace h := ifF c25 h
            exact um_M_termAt_109 h hF7
    · replace h := ifF c31 h
      obtain ⟨m28, h29, h⟩ := bindS h
      have hF30 := um_M_groupAt h29 hF
      replace h := Option.some.inj h
      subst h
      exact hF30
  · replace h := ifF c32 h
    exact um_M_termAt_11 h hF
theorem um_M_gather_32 {μ0 μ : Mem} {K12 : Mem → Int → Option (Mem)} {l1 : Int} {l2 : Int} {r : Mem} (hK12 : ∀ {μ : Mem} {l2 : Int} {r : Mem}, K12 μ l2 = some r → UM μ0 μ → UM μ0 r) (h : M_gather_32 K12 μ l1 l2 = some r) (hF : UM μ0 μ) : UM μ0 r := by
  unfold M_gather_32 at h
  obtain ⟨x1, h2, h⟩ := bindS h
  obtain ⟨p3, h4, h⟩ := bindS h
  have hF5 := um_M_termAt h4 hF
  obtain ⟨x6, h7, h⟩ := bindS h
  exact hK12 h hF5
theorem um_M_gather_63 {μ0 μ : Mem}  {l1 : Int} {l2 : Int} {s1 : Int} {r : Mem}  (h : M_gather_63 μ l1 l2 s1 = some r) (hF : UM μ0 μ) : UM μ0 r := by
  unfold M_gather_63 at h
  obtain ⟨m1, h2, h⟩ := bindS h
  have hF3 := um_M_refuse h2 hF
  obtain ⟨m4, h5, h⟩ := bindS h
  have hF6 := UMP hF3 ux_259 h5
  replace h := Option.some.inj h
  subst h
  exact hF6
theorem um_M_gather_12 {μ0 : Mem}  {l1 : Int}  : ∀ {n : Nat} {μ : Mem} {l2 : Int} {r : Mem}, M_gather_12 l1 n μ l2 = some r → UM μ0 μ → UM μ0 r := by
  intro n
  induction n with
  | zero =>
    intro μ l2 r h
    exact noneS h
  | succ n ih =>
    intro μ l2 r h hF
    rw [M_gather_12] at h
    obtain ⟨x1, h2, h⟩ := bindS h
    by_cases c7 : x1 ≠ 0
    · replace h := ifT c7 h
      exact um_M_gather_32 ih h hF
    · replace h := ifF c7 h
      obtain ⟨x3, h4, h⟩ := bindS h
      by_cases c6 : x3 = 0
      · replace h := ifT c6 h
        by_cases c5 : (μ 259 21) ≠ 0
        · replace h := ifT c5 h
          exact um_M_gather_63 h hF
        · replace h := ifF c5 h
          exact um_M_gather_63 h hF
      · replace h := ifF c6 h
        exact um_M_gather_32 ih h hF
theorem um_M_gather {μ0 μ : Mem}  {a1 : Int} {r : Mem}  (h : M_gather μ a1 = some r) (hF : UM μ0 μ) : UM μ0 r := by
  unfold M_gather at h
  obtain ⟨m1, h2, h⟩ := bindS h
  have hF3 := UMP hF ux_259 h2
  obtain ⟨p4, h5, h⟩ := bindS h
  have hF6 := um_M_termAt h5 hF3
  obtain ⟨x7, h8, h⟩ := bindS h
  exact um_M_gather_12 h hF6
theorem um_M_checkSet_40 {μ0 μ : Mem} {K10 : Mem → Int → Option (Mem)} {l1 : Int} {r : Mem} (hK10 : ∀ {μ : Mem} {l1 : Int} {r : Mem}, K10 μ l1 = some r → UM μ0 μ → UM μ0 r) (h : M_checkSet_40 K10 μ l1 = some r) (hF : UM μ0 μ) : UM μ0 r := by
  unfold M_checkSet_40 at h
  obtain ⟨m1, h2, h⟩ := bindS h
  have hF3 := um_M_bounds h2 hF
  exact hK10 h hF3
theorem um_M_checkSet_10 {μ0 : Mem}    : ∀ {n : Nat} {μ : Mem} {l1 : Int} {r : Mem}, M_checkSet_10 n μ l1 = some r → UM μ0 μ → UM μ0 r := by
  intro n
  induction n with
  | zero =>
    intro μ l1 r h
    exact noneS h
  | succ n ih =>
    intro μ l1 r h hF
    rw [M_checkSet_10] at h
    obtain ⟨x1, h2, h⟩ := bindS h
    by_cases c15 : x1 ≠ 0
    · replace h := ifT c15 h
      replace h := Option.some.inj h
      subst h
      exact hF
    · replace h := ifF c15 h
      obtain ⟨x3, h4, h⟩ := bindS h
      by_cases c14 : x3 ≠ 0
      · replace h := ifT c14 h
        exact um_M_checkSet_40 ih h hF
      · replace h := ifF c14 h
        obtain ⟨x5, h6, h⟩ := bindS h
        by_cases c13 : x5 = 0
        · replace h := ifT c13 h
          obtain ⟨x7, h8, h⟩ := bindS h
          by_cases c12 : x7 ≠ 2
          · replace h := ifT c12 h
            exact ih h hF
          · replace h := ifF c12 h
            obtain ⟨m9, h10, h⟩ := bindS h
            have hF11 := um_M_bounds h10 hF
            exact ih h hF11
        · replace h := ifF c13 h
          exact um_M_checkSet_40 ih h hF
theorem um_M_checkSet {μ0 μ : Mem}   {r : Mem}  (h : M_checkSet μ = some r) (hF : UM μ0 μ) : UM μ0 r := by
  unfold M_checkSet at h
  obtain ⟨m1, h2, h⟩ := bindS h
  have hF3 := um_M_gather h2 hF
  obtain ⟨x4, h5, h⟩ := bindS h
  exact um_M_checkSet_10 h hF3
theorem um_M_checkNumber_37 {μ0 μ : Mem}  {l1 : Int} {s1 : Int} {r : Mem}  (h : M_checkNumber_37 μ l1 s1 = some r) (hF : UM μ0 μ) : UM μ0 r := by
  unfold M_checkNumber_37 at h
  obtain ⟨m1, h2, h⟩ := bindS h
  have hF3 := um_M_refuse h2 hF
  replace h := Option.some.inj h
  subst h
  exact hF3
theorem um_M_checkNumber {μ0 μ : Mem}  {a1 : Int} {r : Mem}  (h : M_checkNumber μ a1 = some r) (hF : UM μ0 μ) : UM μ0 r := by
  unfold M_checkNumber at h
  obtain ⟨m1, h2, h⟩ := bindS h
  have hF3 := um_M_bounds h2 hF
  obtain ⟨x4, h5, h⟩ := bindS h
  obtain ⟨x6, h7, h⟩ := bindS h
  by_cases c11 : 0 ≤ x6
  · replace h := ifT c11 h
    exact um_M_checkNumber_37 h hF3
  · replace h := ifF c11 h
    obtain ⟨x8, h9, h⟩ := bindS h
    by_cases c10 : x8 ≠ 30
    · replace h := ifT c10 h
      exact um_M_checkNumber_37 h hF3
    · replace h := ifF c10 h
      exact um_M_checkNumber_37 h hF3
theorem um_M_checkTimes_56 {μ0 μ : Mem} {K2 : Mem → Int → Option (Mem)} {l2 : Int} {s1 : Int} {s2 : Int} {s3 : Int} {r : Mem} (hK2 : ∀ {μ : Mem} {l2 : Int} {r : Mem}, K2 μ l2 = some r → UM μ0 μ → UM μ0 r) (h : M_checkTimes_56 K2 μ l2 s1 s2 s3 = some r) (hF : UM μ0 μ) : UM μ0 r := by
  unfold M_checkTimes_56 at h
  obtain ⟨m1, h2, h⟩ := bindS h
  have hF3 := um_M_bounds h2 hF
  exact hK2 h hF3
theorem um_M_checkTimes_43 {μ0 μ : Mem} {K2 : Mem → Int → Option (Mem)} {l2 : Int} {l3 : Int} {s1 : Int} {s2 : Int} {r : Mem} (hK2 : ∀ {μ : Mem} {l2 : Int} {r : Mem}, K2 μ l2 = some r → UM μ0 μ → UM μ0 r) (h : M_checkTimes_43 K2 μ l2 l3 s1 s2 = some r) (hF : UM μ0 μ) : UM μ0 r := by
  unfold M_checkTimes_43 at h
  by_cases c1 : l3 = 0
  · replace h := ifT c1 h
    exact um_M_checkTimes_56 hK2 h hF
  · replace h := ifF c1 h
    exact um_M_checkTimes_56 hK2 h hF
theorem um_M_checkTimes_2 {μ0 : Mem}    : ∀ {n : Nat} {μ : Mem} {l2 : Int} {r : Mem}, M_checkTimes_2 n μ l2 = some r → UM μ0 μ → UM μ0 r := by
  intro n
  induction n with
  | zero =>
    intro μ l2 r h
    exact noneS h
  | succ n ih =>
    intro μ l2 r h hF
    rw [M_checkTimes_2] at h
    obtain ⟨x1, h2, h⟩ := bindS h
    by_cases c9 : x1 ≠ 0
    · replace h := ifT c9 h
      replace h := Option.some.inj h
      subst h
      exact hF
    · replace h := ifF c9 h
      obtain ⟨x3, h4, h⟩ := bindS h
      obtain ⟨x5, h6, h⟩ := bindS h
      by_cases c8 : x5 ≠ 2
      · replace h := ifT c8 h
        exact ih h hF
      · replace h := ifF c8 h
        by_cases c7 : x3 = 0
        · replace h := ifT c7 h
          exact um_M_checkTimes_43 ih h hF
        · replace h := ifF c7 h
          exact um_M_checkTimes_43 ih h hF
theorem um_M_checkTimes {μ0 μ : Mem}  {a1 : Int} {r : Mem}  (h : M_checkTimes μ a1 = some r) (hF : UM μ0 μ) : UM μ0 r := by
  unfold M_checkTimes at h
  exact um_M_checkTimes_2 h hF
theorem um_M_checkOther_45 {μ0 μ : Mem}  {s1 : Int} {r : Mem}  (h : M_checkOther_45 μ s1 = some r) (hF : UM μ0 μ) : UM μ0 r := by
  unfold M_checkOther_45 at h
  obtain ⟨m1, h2, h⟩ := bindS h
  have hF3 := um_M_refuse h2 hF
  obtain ⟨m4, h5, h⟩ := bindS h
  have hF6 := um_M_bounds h5 hF3
  replace h := Option.some.inj h
  subst h
  exact hF6
theorem um_M_checkOther {μ0 μ : Mem}  {a1 : Int} {r : Mem}  (h : M_checkOther μ a1 = some r) (hF : UM μ0 μ) : UM μ0 r := by
  unfold M_checkOther at h
  by_cases c4 : a1 = 33
  · replace h := ifT c4 h
    obtain ⟨x1, h2, h⟩ := bindS h
    by_cases c3 : x1 ≠ 0
    · replace h := ifT c3 h
      exact um_M_checkOther_45 h hF
    · replace h := ifF c3 h
      exact um_M_checkOther_45 h hF
  replace h := ifF c4 h
  by_cases c11 : a1 = 34
  · replace h := ifT c11 h
    obtain ⟨m5, h6, h⟩ := bindS h
    have hF7 := um_M_bounds h6 hF
    obtain ⟨m8, h9, h⟩ := bindS h
    have hF10 := um_M_bounds h9 hF7
    replace h := Option.some.inj h
    subst h
    exact hF10
  replace h := ifF c11 h
  by_cases c16 : a1 = 35
  · replace h := ifT c16 h
    by_cases c15 : (μ 268 1) ≠ 2
    · replace h := ifT c15 h
      replace h := Option.some.inj h
      subst h
      exact hF
    · replace h := ifF c15 h
      obtain ⟨m12, h13, h⟩ := bindS h
      have hF14 := um_M_bounds h13 hF
      replace h := Option.some.inj h
      subst h
      exact hF14
  replace h := ifF c16 h
  by_cases c26 : a1 = 36
  · replace h := ifT c26 h
    obtain ⟨m17, h18, h⟩ := bindS h
    have hF19 := um_M_bounds h18 hF
    obtain ⟨x20, h21, h⟩ := bindS h
    by_cases c25 : x20 ≠ 0
    · replace h := ifT c25 h
      replace h := Option.some.inj h
      subst h
      exact hF19
    · replace h := ifF c25 h
      obtain ⟨m22, h23, h⟩ := bindS h
      have hF24 := um_M_bounds h23 hF19
      replace h := Option.some.inj h
      subst h
      exact hF24
  replace h := ifF c26 h
  obtain ⟨m27, h28, h⟩ := bindS h
  have hF29 := um_M_checkSet h28 hF
  replace h := Option.some.inj h
  subst h
  exact hF29
theorem um_M_checkCue_90 {μ0 μ : Mem}  {s1 : Int} {r : Mem}  (h : M_checkCue_90 μ s1 = some r) (hF : UM μ0 μ) : UM μ0 r := by
  unfold M_checkCue_90 at h
  obtain ⟨m1, h2, h⟩ := bindS h
  have hF3 := um_M_refuse h2 hF
  obtain ⟨m4, h5, h⟩ := bindS h
  have hF6 := um_M_checkNumber h5 hF3
  obtain ⟨m7, h8, h⟩ := bindS h
  have hF9 := um_M_checkTimes h8 hF6
  replace h := Option.some.inj h
  subst h
  exact hF9
theorem um_M_checkCue_152 {μ0 μ : Mem}  {s1 : Int} {r : Mem}  (h : M_checkCue_152 μ s1 = some r) (hF : UM μ0 μ) : UM μ0 r := by
  unfold M_checkCue_152 at h
  obtain ⟨m1, h2, h⟩ := bindS h
  have hF3 := um_M_refuse h2 hF
  replace h := Option.some.inj h
  subst h
  exact hF3
theorem um_M_checkCue_122 {μ0 μ : Mem}  {s1 : Int} {r : Mem}  (h : M_checkCue_122 μ s1 = some r) (hF : UM μ0 μ) : UM μ0 r := by
  unfold M_checkCue_122 at h
  obtain ⟨m1, h2, h⟩ := bindS h
  have hF3 := um_M_refuse h2 hF
  by_cases c7 : (m1 259 29) = 0
  · replace h := ifT c7 h
    exact um_M_checkCue_152 h hF3
  · replace h := ifF c7 h
    obtain ⟨x4, h5, h⟩ := bindS h
    by_cases c6 : x4 ≠ 0
    · replace h := ifT c6 h
      exact um_M_checkCue_152 h hF3
    · replace h := ifF c6 h
      exact um_M_checkCue_152 h hF3
theorem um_M_checkCue_180 {μ0 μ : Mem}  {s1 : Int} {r : Mem}  (h : M_checkCue_180 μ s1 = some r) (hF : UM μ0 μ) : UM μ0 r := by
  unfold M_checkCue_180 at h
  obtain ⟨m1, h2, h⟩ := bindS h
  have hF3 := um_M_refuse h2 hF
  replace h := Option.some.inj h
  subst h
  exact hF3
theorem um_M_checkCue_161 {μ0 μ : Mem}   {r : Mem}  (h : M_checkCue_161 μ = some r) (hF : UM μ0 μ) : UM μ0 r := by
  unfold M_checkCue_161 at h
  obtain ⟨x1, h2, h⟩ := bindS h
  by_cases c3 : 0 ≤ x1
  · replace h := ifT c3 h
    exact um_M_checkCue_180 h hF
  · replace h := ifF c3 h
    exact um_M_checkCue_180 h hF
theorem um_M_checkCue_261 {μ0 μ : Mem}  {s1 : Int} {r : Mem}  (h : M_checkCue_261 μ s1 = some r) (hF : UM μ0 μ) : UM μ0 r := by
  unfold M_checkCue_261 at h
  obtain ⟨m1, h2, h⟩ := bindS h
  have hF3 := um_M_refuse h2 hF
  replace h := Option.some.inj h
  subst h
  exact hF3
theorem um_M_checkCue_240 {μ0 μ : Mem}  {s1 : Int} {r : Mem}  (h : M_checkCue_240 μ s1 = some r) (hF : UM μ0 μ) : UM μ0 r := by
  unfold M_checkCue_240 at h
  obtain ⟨m1, h2, h⟩ := bindS h
  have hF3 := um_M_refuse h2 hF
  obtain ⟨x4, h5, h⟩ := bindS h
  by_cases c6 : x4 ≠ 30
  · replace h := ifT c6 h
    exact um_M_checkCue_261 h hF3
  · replace h := ifF c6 h
    exact um_M_checkCue_261 h hF3
theorem um_M_checkCue_207 {μ0 μ : Mem}  {s1 : Int} {r : Mem}  (h : M_checkCue_207 μ s1 = some r) (hF : UM μ0 μ) : UM μ0 r := by
  unfold M_checkCue_207 at h
  obtain ⟨m1, h2, h⟩ := bindS h
  have hF3 := um_M_refuse h2 hF
  obtain ⟨m4, h5, h⟩ := bindS h
  have hF6 := um_M_bounds h5 hF3
  obtain ⟨x7, h8, h⟩ := bindS h
  by_cases c9 : x7 < 0
  · replace h := ifT c9 h
    exact um_M_checkCue_240 h hF6
  · replace h := ifF c9 h
    exact um_M_checkCue_240 h hF6
theorem um_M_checkCue_272 {μ0 μ : Mem}  {l1 : Int} {r : Mem}  (h : M_checkCue_272 μ l1 = some r) (hF : UM μ0 μ) : UM μ0 r := by
  unfold M_checkCue_272 at h
  obtain ⟨m1, h2, h⟩ := bindS h
  have hF3 := um_M_checkOther h2 hF
  replace h := Option.some.inj h
  subst h
  exact hF3
theorem um_M_checkCue {μ0 μ : Mem}  {a1 : Int} {r : Mem}  (h : M_checkCue μ a1 = some r) (hF : UM μ0 μ) : UM μ0 r := by
  unfold M_checkCue at h
  by_cases c7 : a1 = 21
  · replace h := ifT c7 h
    obtain ⟨m1, h2, h⟩ := bindS h
    have hF3 := um_M_checkNumber h2 hF
    obtain ⟨m4, h5, h⟩ := bindS h
    have hF6 := um_M_checkTimes h5 hF3
    replace h := Option.some.inj h
    subst h
    exact hF6
  replace h := ifF c7 h
  by_cases c11 : a1 = 22
  · replace h := ifT c11 h
    obtain ⟨x8, h9, h⟩ := bindS h
    by_cases c10 : x8 ≠ 0
    · replace h := ifT c10 h
      exact um_M_checkCue_90 h hF
    · replace h := ifF c10 h
      exact um_M_checkCue_90 h hF
  replace h := ifF c11 h
  by_cases c12 : a1 = 23
  · replace h := ifT c12 h
    exact um_M_checkCue_272 h hF
  replace h := ifF c12 h
  by_cases c16 : a1 = 24
  · replace h := ifT c16 h
    obtain ⟨x13, h14, h⟩ := bindS h
    by_cases c15 : x13 ≠ 0
    · replace h := ifT c15 h
      exact um_M_checkCue_122 h hF
    · replace h := ifF c15 h
      exact um_M_checkCue_122 h hF
  replace h := ifF c16 h
  by_cases c17 : a1 = 25
  · replace h := ifT c17 h
    exact um_M_checkCue_161 h hF
  replace h := ifF c17 h
  by_cases c21 : a1 = 26
  · replace h := ifT c21 h
    obtain ⟨x18, h19, h⟩ := bindS h
    by_cases c20 : 0 ≤ x18
    · replace h := ifT c20 h
      exact um_M_checkCue_207 h hF
    · replace h := ifF c20 h
      exact um_M_checkCue_207 h hF
  replace h := ifF c21 h
  by_cases c22 : a1 = 27
  · replace h := ifT c22 h
    exact um_M_checkCue_272 h hF
  replace h := ifF c22 h
  by_cases c23 : a1 = 28
  · replace h := ifT c23 h
    exact um_M_checkCue_161 h hF
  replace h := ifF c23 h
  by_cases c24 : a1 = 29
  · replace h := ifT c24 h
    exact um_M_checkCue_161 h hF
  replace h := ifF c24 h
  by_cases c25 : a1 = 30
  · replace h := ifT c25 h
    exact um_M_checkCue_161 h hF
  replace h := ifF c25 h
  by_cases c26 : a1 = 31
  · replace h := ifT c26 h
    replace h := Option.some.inj h
    subst h
    exact hF
  replace h := ifF c26 h
  by_cases c27 : a1 = 32
  · replace h := ifT c27 h
    replace h := Option.some.inj h
    subst h
    exact hF
  replace h := ifF c27 h
  exact um_M_checkCue_272 h hF
theorem um_M_check_158 {μ0 : Mem}    : ∀ {n : Nat} {μ : Mem} {l2 : Int} {r : Mem}, M_check_158 n μ l2 = some r → UM μ0 μ → UM μ0 r := by
  intro n
  induction n with
  | zero =>
    intro μ l2 r h
    exact noneS h
  | succ n ih =>
    intro μ l2 r h hF
    rw [M_check_158] at h
    obtain ⟨x1, h2, h⟩ := bindS h
    by_cases c6 : x1 = 0
    · replace h := ifT c6 h
      replace h := Option.some.inj h
      subst h
      exact hF
    · replace h := ifF c6 h
      obtain ⟨m3, h4, h⟩ := bindS h
      have hF5 := um_M_bounds h4 hF
      exact ih h hF5
theorem um_M_check_267 {μ0 μ : Mem}   {r : Mem}  (h : M_check_267 μ = some r) (hF : UM μ0 μ) : UM μ0 r := by
  unfold M_check_267 at h
  obtain ⟨x1, h2, h⟩ := bindS h
  by_cases c6 : x1 ≠ 0
  · replace h := ifT c6 h
    replace h := Option.some.inj h
    subst h
    exact hF
  · replace h := ifF c6 h
    obtain ⟨m3, h4, h⟩ := bindS h
    have hF5 := um_M_gather h4 hF
    replace h := Option.some.inj h
    subst h
    exact hF5
theorem um_M_check_236 {μ0 : Mem}    : ∀ {n : Nat} {μ : Mem} {l2 : Int} {r : Mem}, M_check_236 n μ l2 = some r → UM μ0 μ → UM μ0 r := by
  intro n
  induction n with
  | zero =>
    intro μ l2 r h
    exact noneS h
  | succ n ih =>
    intro μ l2 r h hF
    rw [M_check_236] at h
    by_cases c7 : 10 < l2
    · replace h := ifT c7 h
      exact um_M_check_267 h hF
    · replace h := ifF c7 h
      obtain ⟨x1, h2, h⟩ := bindS h
      by_cases c6 : x1 ≠ 0
      · replace h := ifT c6 h
        exact um_M_check_267 h hF
      · replace h := ifF c6 h
        obtain ⟨m3, h4, h⟩ := bindS h
        have hF5 := um_M_bounds h4 hF
        exact ih h hF5
theorem um_M_check_286 {μ0 μ : Mem}  {l1 : Int} {r : Mem}  (h : M_check_286 μ l1 = some r) (hF : UM μ0 μ) : UM μ0 r := by
  unfold M_check_286 at h
  obtain ⟨m1, h2, h⟩ := bindS h
  have hF3 := um_M_checkCue h2 hF
  replace h := Option.some.inj h
  subst h
  exact hF3
theorem um_M_check_20 {μ0 μ : Mem}  {s0 : Int} {r : Mem}  (h : M_check_20 μ s0 = some r) (hF : UM μ0 μ) : UM μ0 r := by
  unfold M_check_20 at h
  by_cases c13 : s0 = 1
  · replace h := ifT c13 h
    obtain ⟨x1, h2, h⟩ := bindS h
    by_cases c12 : x1 = 0
    · replace h := ifT c12 h
      obtain ⟨m3, h4, h⟩ := bindS h
      have hF5 := um_M_checkSet h4 hF
      replace h := Option.some.inj h
      subst h
      exact hF5
    · replace h := ifF c12 h
      obtain ⟨m6, h7, h⟩ := bindS h
      have hF8 := um_M_bounds h7 hF
      obtain ⟨m9, h10, h⟩ := bindS h
      have hF11 := um_M_gather h10 hF8
      replace h := Option.some.inj h
      subst h
      exact hF11
  replace h := ifF c13 h
  by_cases c14 : s0 = 2
  · replace h := ifT c14 h
    exact um_M_check_286 h hF
  replace h := ifF c14 h
  by_cases c18 : s0 = 3
  · replace h := ifT c18 h
    obtain ⟨m15, h16, h⟩ := bindS h
    have hF17 := um_M_checkPatch h16 hF
    replace h := Option.some.inj h
    subst h
    exact hF17
  replace h := ifF c18 h
  by_cases c19 : s0 = 4
  · replace h := ifT c19 h
    exact um_M_check_286 h hF
  replace h := ifF c19 h
  by_cases c20 : s0 = 5
  · replace h := ifT c20 h
    exact um_M_check_286 h hF
  replace h := ifF c20 h
  by_cases c21 : s0 = 6
  · replace h := ifT c21 h
    exact um_M_check_286 h hF
  replace h := ifF c21 h
  by_cases c22 : s0 = 7
  · replace h := ifT c22 h
    exact um_M_check_286 h hF
  replace h := ifF c22 h
  by_cases c23 : s0 = 8
  · replace h := ifT c23 h
    exact um_M_check_286 h hF
  replace h := ifF c23 h
  by_cases c27 : s0 = 9
  · replace h := ifT c27 h
    obtain ⟨m24, h25, h⟩ := bindS h
    have hF26 := um_M_gather h25 hF
    replace h := Option.some.inj h
    subst h
    exact hF26
  replace h := ifF c27 h
  by_cases c31 : s0 = 10
  · replace h := ifT c31 h
    obtain ⟨m28, h29, h⟩ := bindS h
    have hF30 := um_M_bounds h29 hF
    exact um_M_check_158 h hF30
  replace h := ifF c31 h
  by_cases c32 : s0 = 11
  · replace h := ifT c32 h
    exact um_M_check_286 h hF
  replace h := ifF c32 h
  by_cases c45 : s0 = 12
  · replace h := ifT c45 h
    obtain ⟨m33, h34, h⟩ := bindS h
    have hF35 := um_M_bounds h34 hF
    obtain ⟨x36, h37, h⟩ := bindS h
    by_cases c44 : x36 = 0
    · replace h := ifT c44 h
      replace h := Option.some.inj h
      subst h
      exact hF35
    · replace h := ifF c44 h
      obtain ⟨m38, h39, h⟩ := bindS h
      have hF40 := um_M_gather h39 hF35
      obtain ⟨m41, h42, h⟩ := bindS h
      have hF43 := um_M_bounds h42 hF40
      replace h := Option.some.inj h
      subst h
      exact hF43
  replace h := ifF c45 h
  by_cases c46 : s0 = 13
  · replace h := ifT c46 h
    exact um_M_check_286 h hF
  replace h := ifF c46 h
  by_cases c47 : s0 = 14
  · replace h := ifT c47 h
    exact um_M_check_286 h hF
  replace h := ifF c47 h
  by_cases c48 : s0 = 15
  · replace h := ifT c48 h
    exact um_M_check_286 h hF
  replace h := ifF c48 h
  by_cases c52 : s0 = 16
  · replace h := ifT c52 h
    obtain ⟨m49, h50, h⟩ := bindS h
    have hF51 := um_M_bounds h50 hF
    exact um_M_check_236 h hF51
  replace h := ifF c52 h
  exact um_M_check_286 h hF
theorem um_M_check {μ0 μ : Mem}   {r : Mem}  (h : M_check μ = some r) (hF : UM μ0 μ) : UM μ0 r := by
  unfold M_check at h
  by_cases c1 : (μ 268 0) ≠ 1
  · replace h := ifT c1 h
    exact um_M_check_20 h hF
  · replace h := ifF c1 h
    exact um_M_check_20 h hF
theorem um_M_patch_161 {μ0 μ : Mem} {K81 : Mem → Int → Option (Mem)} {l1 : Int} {l2 : Int} {r : Mem} (hK81 : ∀ {μ : Mem} {l2 : Int} {r : Mem}, K81 μ l2 = some r → UM μ0 μ → UM μ0 r) (h : M_patch_161 K81 μ l1 l2 = some r) (hF : UM μ0 μ) : UM μ0 r := by
  unfold M_patch_161 at h
  obtain ⟨x1, h2, h⟩ := bindS h
  by_cases c6 : x1 = 0
  · replace h := ifT c6 h
    exact hK81 h hF
  · replace h := ifF c6 h
    obtain ⟨m3, h4, h⟩ := bindS h
    have hF5 := UMS hF ux_264 h4
    exact hK81 h hF5
theorem um_M_patch_142 {μ0 μ : Mem} {K81 : Mem → Int → Option (Mem)} {l1 : Int} {l2 : Int} {r : Mem} (hK81 : ∀ {μ : Mem} {l2 : Int} {r : Mem}, K81 μ l2 = some r → UM μ0 μ → UM μ0 r) (h : M_patch_142 K81 μ l1 l2 = some r) (hF : UM μ0 μ) : UM μ0 r := by
  unfold M_patch_142 at h
  obtain ⟨x1, h2, h⟩ := bindS h
  by_cases c6 : x1 = 0
  · replace h := ifT c6 h
    exact um_M_patch_161 hK81 h hF
  · replace h := ifF c6 h
    obtain ⟨m3, h4, h⟩ := bindS h
    have hF5 := UMS hF ux_264 h4
    exact um_M_patch_161 hK81 h hF5
theorem um_M_patch_116 {μ0 μ : Mem} {K81 : Mem → Int → Option (Mem)} {l1 : Int} {l2 : Int} {r : Mem} (hK81 : ∀ {μ : Mem} {l2 : Int} {r : Mem}, K81 μ l2 = some r → UM μ0 μ → UM μ0 r) (h : M_patch_116 K81 μ l1 l2 = some r) (hF : UM μ0 μ) : UM μ0 r := by
  unfold M_patch_116 at h
  obtain ⟨x1, h2, h⟩ := bindS h
  by_cases c8 : x1 = 0
  · replace h := ifT c8 h
    exact um_M_patch_142 hK81 h hF
  · replace h := ifF c8 h
    obtain ⟨x3, h4, h⟩ := bindS h
    obtain ⟨m5, h6, h⟩ := bindS h
    have hF7 := UMS hF ux_264 h6
    exact um_M_patch_142 hK81 h hF7
theorem um_M_patch_81 {μ0 : Mem}  {l1 : Int}  : ∀ {n : Nat} {μ : Mem} {l2 : Int} {r : Mem}, M_patch_81 l1 n μ l2 = some r → UM μ0 μ → UM μ0 r := by
  intro n
  induction n with
  | zero =>
    intro μ l2 r h
    exact noneS h
  | succ n ih =>
    intro μ l2 r h hF
    rw [M_patch_81] at h
    obtain ⟨x1, h2, h⟩ := bindS h
    by_cases c14 : x1 ≠ 0
    · replace h := ifT c14 h
      obtain ⟨m3, h4, h⟩ := bindS h
      have hF5 := UMS hF ux_279 h4
      replace h := Option.some.inj h
      subst h
      exact hF5
    · replace h := ifF c14 h
      obtain ⟨x6, h7, h⟩ := bindS h
      by_cases c13 : x6 = 0
      · replace h := ifT c13 h
        exact um_M_patch_116 ih h hF
      · replace h := ifF c13 h
        obtain ⟨x8, h9, h⟩ := bindS h
        obtain ⟨m10, h11, h⟩ := bindS h
        have hF12 := UMS hF ux_264 h11
        exact um_M_patch_116 ih h hF12
theorem um_M_patch {μ0 μ : Mem}   {r : Mem}  (h : M_patch μ = some r) (hF : UM μ0 μ) : UM μ0 r := by
  unfold M_patch at h
  obtain ⟨x1, h2, h⟩ := bindS h
  obtain ⟨m3, h4, h⟩ := bindS h
  have hF5 := UMS hF ux_264 h4
  obtain ⟨m6, h7, h⟩ := bindS h
  have hF8 := UMS hF5 ux_264 h7
  obtain ⟨m9, h10, h⟩ := bindS h
  have hF11 := UMS hF8 ux_264 h10
  obtain ⟨m12, h13, h⟩ := bindS h
  have hF14 := UMS hF11 ux_264 h13
  obtain ⟨m15, h16, h⟩ := bindS h
  have hF17 := UMS hF14 ux_264 h16
  obtain ⟨m18, h19, h⟩ := bindS h
  have hF20 := UMS hF17 ux_264 h19
  exact um_M_patch_81 h hF20
theorem um_M_takeAway_13 {μ0 : Mem}  {l1 : Int} {l2 : Int} {l4 : Int}  : ∀ {n : Nat} {μ : Mem} {l3 : Int} {l5 : Int} {r : Mem}, M_takeAway_13 l1 l2 l4 n μ l3 l5 = some r → UM μ0 μ → UM μ0 r := by
  intro n
  induction n with
  | zero =>
    intro μ l3 l5 r h
    exact noneS h
  | succ n ih =>
    intro μ l3 l5 r h hF
    rw [M_takeAway_13] at h
    by_cases c10 : l4 < l5
    · replace h := ifT c10 h
      obtain ⟨m1, h2, h⟩ := bindS h
      have hF3 := UMS hF ux_264 h2
      replace h := Option.some.inj h
      subst h
      exact hF3
    · replace h := ifF c10 h
      obtain ⟨x4, h5, h⟩ := bindS h
      by_cases c9 : x4 ≠ l2
      · replace h := ifT c9 h
        obtain ⟨m6, h7, h⟩ := bindS h
        have hF8 := UMS hF ux_264 h7
        exact ih h hF8
      · replace h := ifF c9 h
        exact ih h hF
theorem um_M_takeAway {μ0 μ : Mem}  {a1 : Int} {a2 : Int} {r : Mem}  (h : M_takeAway μ a1 a2 = some r) (hF : UM μ0 μ) : UM μ0 r := by
  unfold M_takeAway at h
  obtain ⟨x1, h2, h⟩ := bindS h
  exact um_M_takeAway_13 h hF
theorem um_M_unpatch_100 {μ0 μ : Mem} {K69 : Mem → Int → Option (Mem)} {l1 : Int} {l2 : Int} {l3 : Int} {r : Mem} (hK69 : ∀ {μ : Mem} {l2 : Int} {r : Mem}, K69 μ l2 = some r → UM μ0 μ → UM μ0 r) (h : M_unpatch_100 K69 μ l1 l2 l3 = some r) (hF : UM μ0 μ) : UM μ0 r := by
  unfold M_unpatch_100 at h
  obtain ⟨x1, h2, h⟩ := bindS h
  by_cases c9 : x1 < 0
  · replace h := ifT c9 h
    exact hK69 h hF
  · replace h := ifF c9 h
    obtain ⟨x3, h4, h⟩ := bindS h
    by_cases c8 : x3 ≠ 0
    · replace h := ifT c8 h
      exact hK69 h hF
    · replace h := ifF c8 h
      obtain ⟨m5, h6, h⟩ := bindS h
      have hF7 := UMS hF ux_264 h6
      exact hK69 h hF7
theorem um_M_unpatch_143 {μ0 : Mem} {K135 : Mem → Int → Option (Mem)} {l1 : Int} {l2 : Int} (hK135 : ∀ {μ : Mem} {l2 : Int} {r : Mem}, K135 μ l2 = some r → UM μ0 μ → UM μ0 r) : ∀ {n : Nat} {μ : Mem} {l3 : Int} {r : Mem}, M_unpatch_143 K135 l1 l2 n μ l3 = some r → UM μ0 μ → UM μ0 r := by
  intro n
  induction n with
  | zero =>
    intro μ l3 r h
    exact noneS h
  | succ n ih =>
    intro μ l3 r h hF
    rw [M_unpatch_143] at h
    by_cases c7 : 30 ≤ l3
    · replace h := ifT c7 h
      obtain ⟨m1, h2, h⟩ := bindS h
      have hF3 := UMS hF ux_264 h2
      exact hK135 h hF3
    · replace h := ifF c7 h
      obtain ⟨m4, h5, h⟩ := bindS h
      have hF6 := UMS hF ux_264 h5
      exact ih h hF6
theorem um_M_unpatch_135 {μ0 : Mem}  {l1 : Int}  : ∀ {n : Nat} {μ : Mem} {l2 : Int} {r : Mem}, M_unpatch_135 l1 n μ l2 = some r → UM μ0 μ → UM μ0 r := by
  intro n
  induction n with
  | zero =>
    intro μ l2 r h
    exact noneS h
  | succ n ih =>
    intro μ l2 r h hF
    rw [M_unpatch_135] at h
    by_cases c1 : 9 ≤ l2
    · replace h := ifT c1 h
      replace h := Option.some.inj h
      subst h
      exact hF
    · replace h := ifF c1 h
      exact um_M_unpatch_143 ih h hF
theorem um_M_unpatch_69 {μ0 : Mem}  {l1 : Int}  : ∀ {n : Nat} {μ : Mem} {l2 : Int} {r : Mem}, M_unpatch_69 l1 n μ l2 = some r → UM μ0 μ → UM μ0 r := by
  intro n
  induction n with
  | zero =>
    intro μ l2 r h
    exact noneS h
  | succ n ih =>
    intro μ l2 r h hF
    rw [M_unpatch_69] at h
    by_cases c9 : 4 ≤ l2
    · replace h := ifT c9 h
      exact um_M_unpatch_135 h hF
    · replace h := ifF c9 h
      obtain ⟨x1, h2, h⟩ := bindS h
      obtain ⟨x3, h4, h⟩ := bindS h
      by_cases c8 : x3 < 0
      · replace h := ifT c8 h
        exact um_M_unpatch_100 ih h hF
      · replace h := ifF c8 h
        obtain ⟨m5, h6, h⟩ := bindS h
        have hF7 := um_M_takeAway h6 hF
        exact um_M_unpatch_100 ih h hF7
theorem um_M_unpatch_39 {μ0 : Mem}  {l1 : Int}  : ∀ {n : Nat} {μ : Mem} {l2 : Int} {r : Mem}, M_unpatch_39 l1 n μ l2 = some r → UM μ0 μ → UM μ0 r := by
  intro n
  induction n with
  | zero =>
    intro μ l2 r h
    exact noneS h
  | succ n ih =>
    intro μ l2 r h hF
    rw [M_unpatch_39] at h
    by_cases c4 : 8 ≤ l2
    · replace h := ifT c4 h
      exact um_M_unpatch_69 h hF
    · replace h := ifF c4 h
      obtain ⟨m1, h2, h⟩ := bindS h
      have hF3 := UMS hF ux_264 h2
      exact ih h hF3
theorem um_M_unpatch_12 {μ0 : Mem}  {l1 : Int}  : ∀ {n : Nat} {μ : Mem} {l2 : Int} {r : Mem}, M_unpatch_12 l1 n μ l2 = some r → UM μ0 μ → UM μ0 r := by
  intro n
  induction n with
  | zero =>
    intro μ l2 r h
    exact noneS h
  | succ n ih =>
    intro μ l2 r h hF
    rw [M_unpatch_12] at h
    by_cases c4 : 12 ≤ l2
    · replace h := ifT c4 h
      exact um_M_unpatch_39 h hF
    · replace h := ifF c4 h
      obtain ⟨m1, h2, h⟩ := bindS h
      have hF3 := um_M_takeAway h2 hF
      exact ih h hF3
theorem um_M_unpatch {μ0 μ : Mem}  {a1 : Int} {r : Mem}  (h : M_unpatch μ a1 = some r) (hF : UM μ0 μ) : UM μ0 r := by
  unfold M_unpatch at h
  obtain ⟨m1, h2, h⟩ := bindS h
  have hF3 := UMS hF ux_264 h2
  exact um_M_unpatch_12 h hF3
theorem um_M_makeGroup_12 {μ0 : Mem}  {l1 : Int}  : ∀ {n : Nat} {μ : Mem} {l2 : Int} {r : Mem}, M_makeGroup_12 l1 n μ l2 = some r → UM μ0 μ → UM μ0 r := by
  intro n
  induction n with
  | zero =>
    intro μ l2 r h
    exact noneS h
  | succ n ih =>
    intro μ l2 r h hF
    rw [M_makeGroup_12] at h
    by_cases c6 : (μ 259 21) ≤ l2
    · replace h := ifT c6 h
      replace h := Option.some.inj h
      subst h
      exact hF
    · replace h := ifF c6 h
      obtain ⟨x1, h2, h⟩ := bindS h
      obtain ⟨m3, h4, h⟩ := bindS h
      have hF5 := UMS hF ux_264 h4
      exact ih h hF5
theorem um_M_makeGroup {μ0 μ : Mem}  {a1 : Int} {r : Mem}  (h : M_makeGroup μ a1 = some r) (hF : UM μ0 μ) : UM μ0 r := by
  unfold M_makeGroup at h
  obtain ⟨m1, h2, h⟩ := bindS h
  have hF3 := UMS hF ux_264 h2
  exact um_M_makeGroup_12 h hF3
theorem um_M_give_45 {μ0 μ : Mem}  {l3 : Int} {l4 : Int} {s0 : Int} {r : Mem}  (h : M_give_45 μ l3 l4 s0 = some r) (hF : UM μ0 μ) : UM μ0 r := by
  unfold M_give_45 at h
  by_cases c7 : 0 ≤ s0
  · replace h := ifT c7 h
    obtain ⟨m1, h2, h⟩ := bindS h
    have hF3 := UMS hF ux_264 h2
    replace h := Option.some.inj h
    subst h
    exact hF3
  · replace h := ifF c7 h
    obtain ⟨m4, h5, h⟩ := bindS h
    have hF6 := UMS hF ux_264 h5
    replace h := Option.some.inj h
    subst h
    exact hF6
theorem um_M_give {μ0 μ : Mem}  {a1 : Int} {a2 : Int} {a3 : Int} {r : Mem}  (h : M_give μ a1 a2 a3 = some r) (hF : UM μ0 μ) : UM μ0 r := by
  unfold M_give at h
  obtain ⟨x1, h2, h⟩ := bindS h
  by_cases c8 : x1 ≠ 0
  · replace h := ifT c8 h
    obtain ⟨x3, h4, h⟩ := bindS h
    by_cases c7 : 0 ≤ (μ 264 12722)
    · replace h := ifT c7 h
      obtain ⟨x5, h6, h⟩ := bindS h
      exact um_M_give_45 h hF
    · replace h := ifF c7 h
      exact um_M_give_45 h hF
  · replace h := ifF c8 h
    replace h := Option.some.inj h
    subst h
    exact hF
theorem um_M_parameterValues_222 {μ0 μ : Mem} {K105 : Mem → Int → Option (Int × Mem)} {l1 : Int} {l2 : Int} {l4 : Int} {l5 : Int} {l6 : Int} {l7 : Int} {l8 : Int} {l9 : Int} {l10 : Int} {r : Int × Mem} (hK105 : ∀ {μ : Mem} {l9 : Int} {r : Int × Mem}, K105 μ l9 = some r → UM μ0 μ → UM μ0 r.2) (h : M_parameterValues_222 K105 μ l1 l2 l4 l5 l6 l7 l8 l9 l10 = some r) (hF : UM μ0 μ) : UM μ0 r.2 := by
  unfold M_parameterValues_222 at h
  obtain ⟨x1, h2, h⟩ := bindS h
  obtain ⟨m3, h4, h⟩ := bindS h
  have hF5 := um_M_give h4 hF
  exact hK105 h hF5
theorem um_M_parameterValues_196 {μ0 μ : Mem} {K105 : Mem → Int → Option (Int × Mem)} {l1 : Int} {l2 : Int} {l4 : Int} {l5 : Int} {l6 : Int} {l7 : Int} {l8 : Int} {l9 : Int} {l10 : Int} {r : Int × Mem} (hK105 : ∀ {μ : Mem} {l9 : Int} {r : Int × Mem}, K105 μ l9 = some r → UM μ0 μ → UM μ0 r.2) (h : M_parameterValues_196 K105 μ l1 l2 l4 l5 l6 l7 l8 l9 l10 = some r) (hF : UM μ0 μ) : UM μ0 r.2 := by
  unfold M_parameterValues_196 at h
  by_cases c7 : l6 = 0
  · replace h := ifT c7 h
    exact um_M_parameterValues_222 hK105 h hF
  · replace h := ifF c7 h
    obtain ⟨x1, h2, h⟩ := bindS h
    obtain ⟨x3, h4, h⟩ := bindS h
    obtain ⟨x5, h6, h⟩ := bindS h
    exact um_M_parameterValues_222 hK105 h hF
theorem um_M_parameterValues_168 {μ0 μ : Mem} {K105 : Mem → Int → Option (Int × Mem)} {l1 : Int} {l2 : Int} {l4 : Int} {l5 : Int} {l6 : Int} {l7 : Int} {l8 : Int} {l9 : Int} {l10 : Int} {r : Int × Mem} (hK105 : ∀ {μ : Mem} {l9 : Int} {r : Int × Mem}, K105 μ l9 = some r → UM μ0 μ → UM μ0 r.2) (h : M_parameterValues_168 K105 μ l1 l2 l4 l5 l6 l7 l8 l9 l10 = some r) (hF : UM μ0 μ) : UM μ0 r.2 := by
  unfold M_parameterValues_168 at h
  by_cases c7 : l5 = 0
  · replace h := ifT c7 h
    exact um_M_parameterValues_196 hK105 h hF
  · replace h := ifF c7 h
    obtain ⟨x1, h2, h⟩ := bindS h
    obtain ⟨x3, h4, h⟩ := bindS h
    obtain ⟨x5, h6, h⟩ := bindS h
    exact um_M_parameterValues_196 hK105 h hF
theorem um_M_parameterValues_130 {μ0 μ : Mem} {K105 : Mem → Int → Option (Int × Mem)} {l1 : Int} {l2 : Int} {l4 : Int} {l5 : Int} {l6 : Int} {l7 : Int} {l8 : Int} {l9 : Int} {s0 : Int} {r : Int × Mem} (hK105 : ∀ {μ : Mem} {l9 : Int} {r : Int × Mem}, K105 μ l9 = some r → UM μ0 μ → UM μ0 r.2) (h : M_parameterValues_130 K105 μ l1 l2 l4 l5 l6 l7 l8 l9 s0 = some r) (hF : UM μ0 μ) : UM μ0 r.2 := by
  unfold M_parameterValues_130 at h
  by_cases c6 : l8 = 0
  · replace h := ifT c6 h
    exact um_M_parameterValues_168 hK105 h hF
  · replace h := ifF c6 h
    by_cases c5 : (μ 259 21) ≤ 1
    · replace h := ifT c5 h
      exact um_M_parameterValues_168 hK105 h hF
    · replace h := ifF c5 h
      obtain ⟨x1, h2, h⟩ := bindS h
      obtain ⟨x3, h4, h⟩ := bindS h
      exact um_M_parameterValues_168 hK105 h hF
theorem um_M_parameterValues_105 {μ0 : Mem}  {l1 : Int} {l2 : Int} {l4 : Int} {l5 : Int} {l6 : Int} {l7 : Int} {l8 : Int}  : ∀ {n : Nat} {μ : Mem} {l9 : Int} {r : Int × Mem}, M_parameterValues_105 l1 l2 l4 l5 l6 l7 l8 n μ l9 = some r → UM μ0 μ → UM μ0 r.2 := by
  intro n
  induction n with
  | zero =>
    intro μ l9 r h
    exact noneS h
  | succ n ih =>
    intro μ l9 r h hF
    rw [M_parameterValues_105] at h
    by_cases c6 : (μ 259 21) ≤ l9
    · replace h := ifT c6 h
      by_cases c4 : l8 = 0
      · replace h := ifT c4 h
        by_cases c3 : l4 ≠ 0
        · replace h := ifT c3 h
          replace h := Option.some.inj h
          subst h
          exact hF
        · replace h := ifF c3 h
          by_cases c2 : l5 ≠ 0
          · replace h := ifT c2 h
            replace h := Option.some.inj h
            subst h
            exact hF
          · replace h := ifF c2 h
            by_cases c1 : l6 = 0
            · replace h := ifT c1 h
              replace h := Option.some.inj h
              subst h
              exact hF
            · replace h := ifF c1 h
              replace h := Option.some.inj h
              subst h
              exact hF
      · replace h := ifF c4 h
        replace h := Option.some.inj h
        subst h
        exact hF
    · replace h := ifF c6 h
      by_cases c5 : l4 = 0
      · replace h := ifT c5 h
        exact um_M_parameterValues_130 ih h hF
      · replace h := ifF c5 h
        exact um_M_parameterValues_130 ih h hF
theorem um_M_parameterValues_72 {μ0 μ : Mem}  {l1 : Int} {l2 : Int} {l4 : Int} {l5 : Int} {l6 : Int} {s0 : Int} {r : Int × Mem}  (h : M_parameterValues_72 μ l1 l2 l4 l5 l6 s0 = some r) (hF : UM μ0 μ) : UM μ0 r.2 := by
  unfold M_parameterValues_72 at h
  obtain ⟨x1, h2, h⟩ := bindS h
  by_cases c6 : x1 ≠ 2
  · replace h := ifT c6 h
    exact um_M_parameterValues_105 h hF
  · replace h := ifF c6 h
    obtain ⟨x3, h4, h⟩ := bindS h
    by_cases c5 : x3 = 0
    · replace h := ifT c5 h
      exact um_M_parameterValues_105 h hF
    · replace h := ifF c5 h
      exact um_M_parameterValues_105 h hF
theorem um_M_parameterValues {μ0 μ : Mem}  {a1 : Int} {a2 : Int} {r : Int × Mem}  (h : M_parameterValues μ a1 a2 = some r) (hF : UM μ0 μ) : UM μ0 r.2 := by
  unfold M_parameterValues at h
  obtain ⟨x1, h2, h⟩ := bindS h
  obtain ⟨x3, h4, h⟩ := bindS h
  obtain ⟨x5, h6, h⟩ := bindS h
  obtain ⟨x7, h8, h⟩ := bindS h
  by_cases c16 : x1 = 0
  · replace h := ifT c16 h
    obtain ⟨x9, h10, h⟩ := bindS h
    by_cases c15 : x9 ≠ 2
    · replace h := ifT c15 h
      obtain ⟨x11, h12, h⟩ := bindS h
      exact um_M_parameterValues_72 h hF
    · replace h := ifF c15 h
      obtain ⟨x13, h14, h⟩ := bindS h
      exact um_M_parameterValues_72 h hF
  · replace h := ifF c16 h
    exact um_M_parameterValues_72 h hF
theorem um_M_paletteValues_2 {μ0 : Mem}  {l1 : Int}  : ∀ {n : Nat} {μ : Mem} {l2 : Int} {r : Mem}, M_paletteValues_2 l1 n μ l2 = some r → UM μ0 μ → UM μ0 r := by
  intro n
  induction n with
  | zero =>
    intro μ l2 r h
    exact noneS h
  | succ n ih =>
    intro μ l2 r h hF
    rw [M_paletteValues_2] at h
    by_cases c11 : (jmul (μ 259 21) 9) ≤ l2
    · replace h := ifT c11 h
      replace h := Option.some.inj h
      subst h
      exact hF
    · replace h := ifF c11 h
      obtain ⟨x1, h2, h⟩ := bindS h
      obtain ⟨x3, h4, h⟩ := bindS h
      by_cases c10 : x3 < 0
      · replace h := ifT c10 h
        exact ih h hF
      · replace h := ifF c10 h
        obtain ⟨x5, h6, h⟩ := bindS h
        obtain ⟨m7, h8, h⟩ := bindS h
        have hF9 := um_M_give h8 hF
        exact ih h hF9
theorem um_M_paletteValues {μ0 μ : Mem}  {a1 : Int} {r : Mem}  (h : M_paletteValues μ a1 = some r) (hF : UM μ0 μ) : UM μ0 r := by
  unfold M_paletteValues at h
  exact um_M_paletteValues_2 h hF
theorem um_M_values_117 {μ0 μ : Mem} {K5 : Mem → Int → Option (Mem)} {K69 : Mem → Int → Option (Mem)} {l1 : Int} {l2 : Int} {s1 : Int} {s2 : Int} {s3 : Int} {r : Mem} (hK5 : ∀ {μ : Mem} {l1 : Int} {r : Mem}, K5 μ l1 = some r → UM μ0 μ → UM μ0 r) (hK69 : ∀ {μ : Mem} {l2 : Int} {r : Mem}, K69 μ l2 = some r → UM μ0 μ → UM μ0 r) (h : M_values_117 K5 K69 μ l1 l2 s1 s2 s3 = some r) (hF : UM μ0 μ) : UM μ0 r := by
  unfold M_values_117 at h
  obtain ⟨m1, h2, h⟩ := bindS h
  have hF3 := um_M_give h2 hF
  exact hK69 h hF3
theorem um_M_values_69 {μ0 : Mem} {K5 : Mem → Int → Option (Mem)} {l1 : Int} (hK5 : ∀ {μ : Mem} {l1 : Int} {r : Mem}, K5 μ l1 = some r → UM μ0 μ → UM μ0 r) : ∀ {n : Nat} {μ : Mem} {l2 : Int} {r : Mem}, M_values_69 K5 l1 n μ l2 = some r → UM μ0 μ → UM μ0 r := by
  intro n
  induction n with
  | zero =>
    intro μ l2 r h
    exact noneS h
  | succ n ih =>
    intro μ l2 r h hF
    rw [M_values_69] at h
    by_cases c8 : (jmul (μ 259 21) 9) ≤ l2
    · replace h := ifT c8 h
      exact hK5 h hF
    · replace h := ifF c8 h
      obtain ⟨x1, h2, h⟩ := bindS h
      obtain ⟨x3, h4, h⟩ := bindS h
      by_cases c7 : x3 = 0
      · replace h := ifT c7 h
        exact um_M_values_117 hK5 ih h hF
      · replace h := ifF c7 h
        obtain ⟨x5, h6, h⟩ := bindS h
        exact um_M_values_117 hK5 ih h hF
theorem um_M_values_5 {μ0 : Mem}    : ∀ {n : Nat} {μ : Mem} {l1 : Int} {r : Mem}, M_values_5 n μ l1 = some r → UM μ0 μ → UM μ0 r := by
  intro n
  induction n with
  | zero =>
    intro μ l1 r h
    exact noneS h
  | succ n ih =>
    intro μ l1 r h hF
    rw [M_values_5] at h
    obtain ⟨x1, h2, h⟩ := bindS h
    by_cases c21 : x1 ≠ 0
    · replace h := ifT c21 h
      replace h := Option.some.inj h
      subst h
      exact hF
    · replace h := ifF c21 h
      obtain ⟨x3, h4, h⟩ := bindS h
      by_cases c20 : x3 = 0
      · replace h := ifT c20 h
        obtain ⟨x5, h6, h⟩ := bindS h
        by_cases c12 : x5 = 0
        · replace h := ifT c12 h
          exact um_M_values_69 ih h hF
        · replace h := ifF c12 h
          obtain ⟨x7, h8, h⟩ := bindS h
          obtain ⟨m9, h10, h⟩ := bindS h
          have hF11 := um_M_paletteValues h10 hF
          exact ih h hF11
      · replace h := ifF c20 h
        obtain ⟨x13, h14, h⟩ := bindS h
        obtain ⟨p15, h16, h⟩ := bindS h
        have hF17 := um_M_parameterValues h16 hF
        obtain ⟨x18, h19, h⟩ := bindS h
        exact ih h hF17
theorem um_M_values {μ0 μ : Mem}   {r : Mem}  (h : M_values μ = some r) (hF : UM μ0 μ) : UM μ0 r := by
  unfold M_values at h
  obtain ⟨x1, h2, h⟩ := bindS h
  exact um_M_values_5 h hF
theorem um_M_makePalette_25 {μ0 : Mem}  {l1 : Int}  : ∀ {n : Nat} {μ : Mem} {l2 : Int} {r : Mem}, M_makePalette_25 l1 n μ l2 = some r → UM μ0 μ → UM μ0 r := by
  intro n
  induction n with
  | zero =>
    intro μ l2 r h
    exact noneS h
  | succ n ih =>
    intro μ l2 r h hF
    rw [M_makePalette_25] at h
    obtain ⟨x1, h2, h⟩ := bindS h
    by_cases c10 : x1 = 0
    · replace h := ifT c10 h
      replace h := Option.some.inj h
      subst h
      exact hF
    · replace h := ifF c10 h
      obtain ⟨x3, h4, h⟩ := bindS h
      obtain ⟨x5, h6, h⟩ := bindS h
      obtain ⟨m7, h8, h⟩ := bindS h
      have hF9 := UMS hF ux_264 h8
      exact ih h hF9
theorem um_M_makePalette_2 {μ0 : Mem}  {l1 : Int}  : ∀ {n : Nat} {μ : Mem} {l2 : Int} {r : Mem}, M_makePalette_2 l1 n μ l2 = some r → UM μ0 μ → UM μ0 r := by
  intro n
  induction n with
  | zero =>
    intro μ l2 r h
    exact noneS h
  | succ n ih =>
    intro μ l2 r h hF
    rw [M_makePalette_2] at h
    by_cases c4 : 9 ≤ l2
    · replace h := ifT c4 h
      exact um_M_makePalette_25 h hF
    · replace h := ifF c4 h
      obtain ⟨m1, h2, h⟩ := bindS h
      have hF3 := UMS hF ux_264 h2
      exact ih h hF3
theorem um_M_makePalette {μ0 μ : Mem}  {a1 : Int} {r : Mem}  (h : M_makePalette μ a1 = some r) (hF : UM μ0 μ) : UM μ0 r := by
  unfold M_makePalette at h
  exact um_M_makePalette_2 h hF
theorem um_M_makeSub_86 {μ0 : Mem}  {l2 : Int}  : ∀ {n : Nat} {μ : Mem} {l3 : Int} {r : Mem}, M_makeSub_86 l2 n μ l3 = some r → UM μ0 μ → UM μ0 r := by
  intro n
  induction n with
  | zero =>
    intro μ l3 r h
    exact noneS h
  | succ n ih =>
    intro μ l3 r h hF
    rw [M_makeSub_86] at h
    by_cases c11 : (μ 259 21) ≤ l3
    · replace h := ifT c11 h
      replace h := Option.some.inj h
      subst h
      exact hF
    · replace h := ifF c11 h
      obtain ⟨x1, h2, h⟩ := bindS h
      by_cases c10 : x1 = 0
      · replace h := ifT c10 h
        replace h := Option.some.inj h
        subst h
        exact hF
      · replace h := ifF c10 h
        obtain ⟨x3, h4, h⟩ := bindS h
        obtain ⟨x5, h6, h⟩ := bindS h
        obtain ⟨m7, h8, h⟩ := bindS h
        have hF9 := UMS hF ux_264 h8
        exact ih h hF9
theorem um_M_makeSub_53 {μ0 : Mem}  {l2 : Int}  : ∀ {n : Nat} {μ : Mem} {l3 : Int} {r : Mem}, M_makeSub_53 l2 n μ l3 = some r → UM μ0 μ → UM μ0 r := by
  intro n
  induction n with
  | zero =>
    intro μ l3 r h
    exact noneS h
  | succ n ih =>
    intro μ l3 r h hF
    rw [M_makeSub_53] at h
    by_cases c7 : 40 ≤ l3
    · replace h := ifT c7 h
      exact um_M_makeSub_86 h hF
    · replace h := ifF c7 h
      obtain ⟨x1, h2, h⟩ := bindS h
      by_cases c6 : x1 = 0
      · replace h := ifT c6 h
        exact um_M_makeSub_86 h hF
      · replace h := ifF c6 h
        obtain ⟨m3, h4, h⟩ := bindS h
        have hF5 := UMS hF ux_264 h4
        exact ih h hF5
theorem um_M_makeSub_30 {μ0 μ : Mem}  {l1 : Int} {l2 : Int} {r : Mem}  (h : M_makeSub_30 μ l1 l2 = some r) (hF : UM μ0 μ) : UM μ0 r := by
  unfold M_makeSub_30 at h
  obtain ⟨x1, h2, h⟩ := bindS h
  by_cases c6 : x1 = 0
  · replace h := ifT c6 h
    exact um_M_makeSub_53 h hF
  · replace h := ifF c6 h
    obtain ⟨m3, h4, h⟩ := bindS h
    have hF5 := UMS hF ux_264 h4
    exact um_M_makeSub_53 h hF5
theorem um_M_makeSub {μ0 μ : Mem}  {a1 : Int} {r : Mem}  (h : M_makeSub μ a1 = some r) (hF : UM μ0 μ) : UM μ0 r := by
  unfold M_makeSub at h
  obtain ⟨x1, h2, h⟩ := bindS h
  obtain ⟨x3, h4, h⟩ := bindS h
  by_cases c8 : x3 = 0
  · replace h := ifT c8 h
    exact um_M_makeSub_30 h hF
  · replace h := ifF c8 h
    obtain ⟨m5, h6, h⟩ := bindS h
    have hF7 := UMS hF ux_264 h6
    exact um_M_makeSub_30 h hF7
theorem um_M_makeWave {μ0 μ : Mem}  {a1 : Int} {r : Mem}  (h : M_makeWave μ a1 = some r) (hF : UM μ0 μ) : UM μ0 r := by
  unfold M_makeWave at h
  obtain ⟨m1, h2, h⟩ := bindS h
  have hF3 := UMS hF ux_264 h2
  obtain ⟨x4, h5, h⟩ := bindS h
  by_cases c24 : x4 = 0
  · replace h := ifT c24 h
    obtain ⟨m6, h7, h⟩ := bindS h
    have hF8 := UMS hF3 ux_264 h7
    obtain ⟨m9, h10, h⟩ := bindS h
    have hF11 := UMS hF8 ux_264 h10
    obtain ⟨m12, h13, h⟩ := bindS h
    have hF14 := UMS hF11 ux_264 h13
    obtain ⟨m15, h16, h⟩ := bindS h
    have hF17 := UMS hF14 ux_264 h16
    obtain ⟨m18, h19, h⟩ := bindS h
    have hF20 := UMS hF17 ux_264 h19
    obtain ⟨m21, h22, h⟩ := bindS h
    have hF23 := um_M_makeGroup h22 hF20
    replace h := Option.some.inj h
    subst h
    exact hF23
  · replace h := ifF c24 h
    replace h := Option.some.inj h
    subst h
    exact hF3
theorem um_M_makeCue_106 {μ0 : Mem}  {l2 : Int}  : ∀ {n : Nat} {μ : Mem} {l3 : Int} {r : Int × Mem}, M_makeCue_106 l2 n μ l3 = some r → UM μ0 μ → UM μ0 r.2 := by
  intro n
  induction n with
  | zero =>
    intro μ l3 r h
    exact noneS h
  | succ n ih =>
    intro μ l3 r h hF
    rw [M_makeCue_106] at h
    by_cases c4 : 360 ≤ l3
    · replace h := ifT c4 h
      replace h := Option.some.inj h
      subst h
      exact hF
    · replace h := ifF c4 h
      obtain ⟨m1, h2, h⟩ := bindS h
      have hF3 := UMS hF ux_264 h2
      exact ih h hF3
theorem um_M_makeCue_30 {μ0 : Mem}  {l1 : Int} {l2 : Int}  : ∀ {n : Nat} {μ : Mem} {l3 : Int} {r : Int × Mem}, M_makeCue_30 l1 l2 n μ l3 = some r → UM μ0 μ → UM μ0 r.2 := by
  intro n
  induction n with
  | zero =>
    intro μ l3 r h
    exact noneS h
  | succ n ih =>
    intro μ l3 r h hF
    rw [M_makeCue_30] at h
    by_cases c13 : 5 ≤ l3
    · replace h := ifT c13 h
      obtain ⟨m1, h2, h⟩ := bindS h
      have hF3 := UMS hF ux_264 h2
      obtain ⟨m4, h5, h⟩ := bindS h
      have hF6 := UMS hF3 ux_264 h5
      obtain ⟨m7, h8, h⟩ := bindS h
      have hF9 := UMS hF6 ux_264 h8
      exact um_M_makeCue_106 h hF9
    · replace h := ifF c13 h
      obtain ⟨m10, h11, h⟩ := bindS h
      have hF12 := UMS hF ux_264 h11
      exact ih h hF12
theorem um_M_makeCue_14 {μ0 μ : Mem}  {l1 : Int}  : ∀ {n : Nat} {l2 : Int} {r : Int × Mem}, M_makeCue_14 μ l1 n l2 = some r → UM μ0 μ → UM μ0 r.2 := by
  intro n
  induction n with
  | zero =>
    intro l2 r h
    exact noneS h
  | succ n ih =>
    intro l2 r h hF
    rw [M_makeCue_14] at h
    obtain ⟨x1, h2, h⟩ := bindS h
    by_cases c3 : x1 ≤ 0
    · replace h := ifT c3 h
      exact um_M_makeCue_30 h hF
    · replace h := ifF c3 h
      exact ih h hF
theorem um_M_makeCue {μ0 μ : Mem}  {a1 : Int} {r : Int × Mem}  (h : M_makeCue μ a1 = some r) (hF : UM μ0 μ) : UM μ0 r.2 := by
  unfold M_makeCue at h
  obtain ⟨x1, h2, h⟩ := bindS h
  by_cases c3 : x1 < 0
  · replace h := ifT c3 h
    exact um_M_makeCue_14 h hF
  · replace h := ifF c3 h
    replace h := Option.some.inj h
    subst h
    exact hF
theorem um_M_setTimes_2 {μ0 : Mem}  {l1 : Int}  : ∀ {n : Nat} {μ : Mem} {l3 : Int} {r : Mem}, M_setTimes_2 l1 n μ l3 = some r → UM μ0 μ → UM μ0 r := by
  intro n
  induction n with
  | zero =>
    intro μ l3 r h
    exact noneS h
  | succ n ih =>
    intro μ l3 r h hF
    rw [M_setTimes_2] at h
    obtain ⟨x1, h2, h⟩ := bindS h
    by_cases c28 : x1 ≠ 0
    · replace h := ifT c28 h
      replace h := Option.some.inj h
      subst h
      exact hF
    · replace h := ifF c28 h
      obtain ⟨x3, h4, h⟩ := bindS h
      by_cases c27 : x3 = 0
      · replace h := ifT c27 h
        obtain ⟨x5, h6, h⟩ := bindS h
        by_cases c23 : x5 = 0
        · replace h := ifT c23 h
          obtain ⟨x7, h8, h⟩ := bindS h
          by_cases c19 : x7 ≠ 1
          · replace h := ifT c19 h
            exact ih h hF
          · replace h := ifF c19 h
            obtain ⟨x9, h10, h⟩ := bindS h
            by_cases c18 : x9 = 23
            · replace h := ifT c18 h
              exact ih h hF
            · replace h := ifF c18 h
              obtain ⟨x11, h12, h⟩ := bindS h
              obtain ⟨x13, h14, h⟩ := bindS h
              obtain ⟨m15, h16, h⟩ := bindS h
              have hF17 := UMS hF ux_264 h16
              exact ih h hF17
        · replace h := ifF c23 h
          obtain ⟨m20, h21, h⟩ := bindS h
          have hF22 := UMS hF ux_264 h21
          exact ih h hF22
      · replace h := ifF c27 h
        obtain ⟨m24, h25, h⟩ := bindS h
        have hF26 := UMS hF ux_264 h25
        exact ih h hF26
theorem um_M_setTimes {μ0 μ : Mem}  {a1 : Int} {a2 : Int} {r : Mem}  (h : M_setTimes μ a1 a2 = some r) (hF : UM μ0 μ) : UM μ0 r := by
  unfold M_setTimes at h
  exact um_M_setTimes_2 h hF
theorem um_M_record_135 {μ0 : Mem}  {l3 : Int}  : ∀ {n : Nat} {μ : Mem} {l4 : Int} {r : Mem}, M_record_135 l3 n μ l4 = some r → UM μ0 μ → UM μ0 r := by
  intro n
  induction n with
  | zero =>
    intro μ l4 r h
    exact noneS h
  | succ n ih =>
    intro μ l4 r h hF
    rw [M_record_135] at h
    by_cases c9 : 360 ≤ l4
    · replace h := ifT c9 h
      replace h := Option.some.inj h
      subst h
      exact hF
    · replace h := ifF c9 h
      obtain ⟨x1, h2, h⟩ := bindS h
      by_cases c8 : x1 < 0
      · replace h := ifT c8 h
        exact ih h hF
      · replace h := ifF c8 h
        obtain ⟨x3, h4, h⟩ := bindS h
        obtain ⟨m5, h6, h⟩ := bindS h
        have hF7 := UMS hF ux_264 h6
        exact ih h hF7
theorem um_M_record_120 {μ0 μ : Mem}  {l1 : Int} {r : Mem}  (h : M_record_120 μ l1 = some r) (hF : UM μ0 μ) : UM μ0 r := by
  unfold M_record_120 at h
  obtain ⟨p1, h2, h⟩ := bindS h
  have hF3 := um_M_makeCue h2 hF
  obtain ⟨x4, h5, h⟩ := bindS h
  obtain ⟨m6, h7, h⟩ := bindS h
  have hF8 := um_M_setTimes h7 hF3
  exact um_M_record_135 h hF8
theorem um_M_record_26 {μ0 : Mem}  {l1 : Int} {l2 : Int}  : ∀ {n : Nat} {μ : Mem} {l3 : Int} {r : Mem}, M_record_26 l1 l2 n μ l3 = some r → UM μ0 μ → UM μ0 r := by
  intro n
  induction n with
  | zero =>
    intro μ l3 r h
    exact noneS h
  | succ n ih =>
    intro μ l3 r h hF
    rw [M_record_26] at h
    by_cases c23 : 360 ≤ l3
    · replace h := ifT c23 h
      exact um_M_record_120 h hF
    · replace h := ifF c23 h
      by_cases c22 : l2 < 0
      · replace h := ifT c22 h
        exact um_M_record_120 h hF
      · replace h := ifF c22 h
        obtain ⟨x1, h2, h⟩ := bindS h
        obtain ⟨x3, h4, h⟩ := bindS h
        by_cases c21 : x3 < 0
        · replace h := ifT c21 h
          exact ih h hF
        · replace h := ifF c21 h
          obtain ⟨x5, h6, h⟩ := bindS h
          by_cases c20 : x5 < 0
          · replace h := ifT c20 h
            obtain ⟨x7, h8, h⟩ := bindS h
            obtain ⟨x9, h10, h⟩ := bindS h
            by_cases c19 : 0 ≤ x9
            · replace h := ifT c19 h
              obtain ⟨m11, h12, h⟩ := bindS h
              have hF13 := UMS hF ux_264 h12
              exact ih h hF13
            · replace h := ifF c19 h
              obtain ⟨x14, h15, h⟩ := bindS h
              obtain ⟨m16, h17, h⟩ := bindS h
              have hF18 := UMS hF ux_264 h17
              exact ih h hF18
          · replace h := ifF c20 h
            exact ih h hF
theorem um_M_record {μ0 μ : Mem}  {a1 : Int} {r : Mem}  (h : M_record μ a1 = some r) (hF : UM μ0 μ) : UM μ0 r := by
  unfold M_record at h
  obtain ⟨x1, h2, h⟩ := bindS h
  by_cases c7 : x1 = 0
  · replace h := ifT c7 h
    exact um_M_record_26 h hF
  · replace h := ifF c7 h
    obtain ⟨x3, h4, h⟩ := bindS h
    obtain ⟨x5, h6, h⟩ := bindS h
    exact um_M_record_26 h hF
theorem um_M_clear_2 {μ0 : Mem}    : ∀ {n : Nat} {μ : Mem} {l1 : Int} {r : Mem}, M_clear_2 n μ l1 = some r → UM μ0 μ → UM μ0 r := by
  intro n
  induction n with
  | zero =>
    intro μ l1 r h
    exact noneS h
  | succ n ih =>
    intro μ l1 r h hF
    rw [M_clear_2] at h
    by_cases c4 : 360 ≤ l1
    · replace h := ifT c4 h
      replace h := Option.some.inj h
      subst h
      exact hF
    · replace h := ifF c4 h
      obtain ⟨m1, h2, h⟩ := bindS h
      have hF3 := UMS hF ux_264 h2
      exact ih h hF3
theorem um_M_clear {μ0 μ : Mem}   {r : Mem}  (h : M_clear μ = some r) (hF : UM μ0 μ) : UM μ0 r := by
  unfold M_clear at h
  exact um_M_clear_2 h hF
theorem um_M_update_64 {μ0 μ : Mem} {K11 : Mem → Int → Option (Mem)} {l1 : Int} {l2 : Int} {s1 : Int} {s2 : Int} {s4 : Int} {r : Mem} (hK11 : ∀ {μ : Mem} {l2 : Int} {r : Mem}, K11 μ l2 = some r → UM μ0 μ → UM μ0 r) (h : M_update_64 K11 μ l1 l2 s1 s2 s4 = some r) (hF : UM μ0 μ) : UM μ0 r := by
  unfold M_update_64 at h
  obtain ⟨x1, h2, h⟩ := bindS h
  obtain ⟨x3, h4, h⟩ := bindS h
  obtain ⟨m5, h6, h⟩ := bindS h
  have hF7 := UMS hF ux_264 h6
  exact hK11 h hF7
theorem um_M_update_11 {μ0 : Mem}  {l1 : Int}  : ∀ {n : Nat} {μ : Mem} {l2 : Int} {r : Mem}, M_update_11 l1 n μ l2 = some r → UM μ0 μ → UM μ0 r := by
  intro n
  induction n with
  | zero =>
    intro μ l2 r h
    exact noneS h
  | succ n ih =>
    intro μ l2 r h hF
    rw [M_update_11] at h
    by_cases c10 : 360 ≤ l2
    · replace h := ifT c10 h
      obtain ⟨m1, h2, h⟩ := bindS h
      have hF3 := um_M_clear h2 hF
      replace h := Option.some.inj h
      subst h
      exact hF3
    · replace h := ifF c10 h
      obtain ⟨x4, h5, h⟩ := bindS h
      by_cases c9 : 0 ≤ x4
      · replace h := ifT c9 h
        obtain ⟨x6, h7, h⟩ := bindS h
        by_cases c8 : x6 ≠ 0
        · replace h := ifT c8 h
          exact um_M_update_64 ih h hF
        · replace h := ifF c8 h
          exact um_M_update_64 ih h hF
      · replace h := ifF c9 h
        exact ih h hF
theorem um_M_update {μ0 μ : Mem}   {r : Mem}  (h : M_update μ = some r) (hF : UM μ0 μ) : UM μ0 r := by
  unfold M_update at h
  obtain ⟨x1, h2, h⟩ := bindS h
  exact um_M_update_11 h hF
theorem um_M_deleteCue {μ0 μ : Mem}  {a1 : Int} {r : Mem}  (h : M_deleteCue μ a1 = some r) (hF : UM μ0 μ) : UM μ0 r := by
  unfold M_deleteCue at h
  obtain ⟨x1, h2, h⟩ := bindS h
  obtain ⟨m3, h4, h⟩ := bindS h
  have hF5 := UMS hF ux_264 h4
  by_cases c9 : (m3 264 12722) ≠ a1
  · replace h := ifT c9 h
    replace h := Option.some.inj h
    subst h
    exact hF5
  · replace h := ifF c9 h
    obtain ⟨m6, h7, h⟩ := bindS h
    have hF8 := UMS hF5 ux_264 h7
    replace h := Option.some.inj h
    subst h
    exact hF8
theorem um_M_copyCue_46 {μ0 : Mem}  {l1 : Int} {l2 : Int}  : ∀ {n : Nat} {μ : Mem} {l3 : Int} {r : Mem}, M_copyCue_46 l1 l2 n μ l3 = some r → UM μ0 μ → UM μ0 r := by
  intro n
  induction n with
  | zero =>
    intro μ l3 r h
    exact noneS h
  | succ n ih =>
    intro μ l3 r h hF
    rw [M_copyCue_46] at h
    by_cases c6 : 360 ≤ l3
    · replace h := ifT c6 h
      replace h := Option.some.inj h
      subst h
      exact hF
    · replace h := ifF c6 h
      obtain ⟨x1, h2, h⟩ := bindS h
      obtain ⟨m3, h4, h⟩ := bindS h
      have hF5 := UMS hF ux_264 h4
      exact ih h hF5
theorem um_M_copyCue_2 {μ0 : Mem}  {l1 : Int} {l2 : Int}  : ∀ {n : Nat} {μ : Mem} {l3 : Int} {r : Mem}, M_copyCue_2 l1 l2 n μ l3 = some r → UM μ0 μ → UM μ0 r := by
  intro n
  induction n with
  | zero =>
    intro μ l3 r h
    exact noneS h
  | succ n ih =>
    intro μ l3 r h hF
    rw [M_copyCue_2] at h
    by_cases c6 : 7 ≤ l3
    · replace h := ifT c6 h
      exact um_M_copyCue_46 h hF
    · replace h := ifF c6 h
      obtain ⟨x1, h2, h⟩ := bindS h
      obtain ⟨m3, h4, h⟩ := bindS h
      have hF5 := UMS hF ux_264 h4
      exact ih h hF5
theorem um_M_copyCue {μ0 μ : Mem}  {a1 : Int} {a2 : Int} {r : Mem}  (h : M_copyCue μ a1 a2 = some r) (hF : UM μ0 μ) : UM μ0 r := by
  unfold M_copyCue at h
  exact um_M_copyCue_2 h hF
theorem um_M_block_8 {μ0 : Mem}  {l1 : Int} {l2 : Int}  : ∀ {n : Nat} {μ : Mem} {l3 : Int} {r : Mem}, M_block_8 l1 l2 n μ l3 = some r → UM μ0 μ → UM μ0 r := by
  intro n
  induction n with
  | zero =>
    intro μ l3 r h
    exact noneS h
  | succ n ih =>
    intro μ l3 r h hF
    rw [M_block_8] at h
    by_cases c9 : 360 ≤ l3
    · replace h := ifT c9 h
      replace h := Option.some.inj h
      subst h
      exact hF
    · replace h := ifF c9 h
      obtain ⟨x1, h2, h⟩ := bindS h
      by_cases c8 : 0 ≤ x1
      · replace h := ifT c8 h
        exact ih h hF
      · replace h := ifF c8 h
        obtain ⟨x3, h4, h⟩ := bindS h
        obtain ⟨m5, h6, h⟩ := bindS h
        have hF7 := UMS hF ux_264 h6
        exact ih h hF7
theorem um_M_block {μ0 μ : Mem}  {a1 : Int} {r : Mem}  (h : M_block μ a1 = some r) (hF : UM μ0 μ) : UM μ0 r := by
  unfold M_block at h
  obtain ⟨x1, h2, h⟩ := bindS h
  exact um_M_block_8 h hF
theorem um_M_unblock_17 {μ0 : Mem}  {l2 : Int} {l3 : Int}  : ∀ {n : Nat} {μ : Mem} {l4 : Int} {r : Mem}, M_unblock_17 l2 l3 n μ l4 = some r → UM μ0 μ → UM μ0 r := by
  intro n
  induction n with
  | zero =>
    intro μ l4 r h
    exact noneS h
  | succ n ih =>
    intro μ l4 r h hF
    rw [M_unblock_17] at h
    by_cases c13 : 360 ≤ l4
    · replace h := ifT c13 h
      replace h := Option.some.inj h
      subst h
      exact hF
    · replace h := ifF c13 h
      by_cases c12 : l2 ≤ 0
      · replace h := ifT c12 h
        replace h := Option.some.inj h
        subst h
        exact hF
      · replace h := ifF c12 h
        obtain ⟨x1, h2, h⟩ := bindS h
        by_cases c11 : x1 < 0
        · replace h := ifT c11 h
          exact ih h hF
        · replace h := ifF c11 h
          obtain ⟨x3, h4, h⟩ := bindS h
          obtain ⟨x5, h6, h⟩ := bindS h
          by_cases c10 : x3 ≠ x5
          · replace h := ifT c10 h
            exact ih h hF
          · replace h := ifF c10 h
            obtain ⟨m7, h8, h⟩ := bindS h
            have hF9 := UMS hF ux_264 h8
            exact ih h hF9
theorem um_M_unblock {μ0 μ : Mem}  {a1 : Int} {a2 : Int} {r : Mem}  (h : M_unblock μ a1 a2 = some r) (hF : UM μ0 μ) : UM μ0 r := by
  unfold M_unblock at h
  obtain ⟨x1, h2, h⟩ := bindS h
  obtain ⟨x3, h4, h⟩ := bindS h
  exact um_M_unblock_17 h hF
theorem um_M_sneak_2 {μ0 : Mem}  {l1 : Int}  : ∀ {n : Nat} {μ : Mem} {l2 : Int} {r : Mem}, M_sneak_2 l1 n μ l2 = some r → UM μ0 μ → UM μ0 r := by
  intro n
  induction n with
  | zero =>
    intro μ l2 r h
    exact noneS h
  | succ n ih =>
    intro μ l2 r h hF
    rw [M_sneak_2] at h
    by_cases c20 : 360 ≤ l2
    · replace h := ifT c20 h
      obtain ⟨m1, h2, h⟩ := bindS h
      have hF3 := um_M_clear h2 hF
      replace h := Option.some.inj h
      subst h
      exact hF3
    · replace h := ifF c20 h
      obtain ⟨x4, h5, h⟩ := bindS h
      by_cases c19 : 0 ≤ x4
      · replace h := ifT c19 h
        obtain ⟨x6, h7, h⟩ := bindS h
        obtain ⟨x8, h9, h⟩ := bindS h
        obtain ⟨m10, h11, h⟩ := bindS h
        have hF12 := UMS hF ux_273 h11
        obtain ⟨m13, h14, h⟩ := bindS h
        have hF15 := UMS hF12 ux_274 h14
        obtain ⟨m16, h17, h⟩ := bindS h
        have hF18 := UMS hF15 ux_275 h17
        exact ih h hF18
      · replace h := ifF c19 h
        exact ih h hF
theorem um_M_sneak {μ0 μ : Mem}  {a1 : Int} {r : Mem}  (h : M_sneak μ a1 = some r) (hF : UM μ0 μ) : UM μ0 r := by
  unfold M_sneak at h
  exact um_M_sneak_2 h hF
theorem um_M_actOther_86 {μ0 μ : Mem} {K63 : Mem → Int → Option (Mem)} {l2 : Int} {l3 : Int} {r : Mem} (hK63 : ∀ {μ : Mem} {l3 : Int} {r : Mem}, K63 μ l3 = some r → UM μ0 μ → UM μ0 r) (h : M_actOther_86 K63 μ l2 l3 = some r) (hF : UM μ0 μ) : UM μ0 r := by
  unfold M_actOther_86 at h
  obtain ⟨m1, h2, h⟩ := bindS h
  have hF3 := UMS hF ux_264 h2
  exact hK63 h hF3
theorem um_M_actOther_63 {μ0 : Mem}  {l2 : Int}  : ∀ {n : Nat} {μ : Mem} {l3 : Int} {r : Mem}, M_actOther_63 l2 n μ l3 = some r → UM μ0 μ → UM μ0 r := by
  intro n
  induction n with
  | zero =>
    intro μ l3 r h
    exact noneS h
  | succ n ih =>
    intro μ l3 r h hF
    rw [M_actOther_63] at h
    by_cases c5 : 200 ≤ l3
    · replace h := ifT c5 h
      replace h := Option.some.inj h
      subst h
      exact hF
    · replace h := ifF c5 h
      obtain ⟨x1, h2, h⟩ := bindS h
      by_cases c4 : x1 ≠ 0
      · replace h := ifT c4 h
        exact um_M_actOther_86 ih h hF
      · replace h := ifF c4 h
        by_cases c3 : l3 ≠ (jsub l2 1)
        · replace h := ifT c3 h
          exact ih h hF
        · replace h := ifF c3 h
          exact um_M_actOther_86 ih h hF
theorem um_M_actOther_139 {μ0 μ : Mem}  {l2 : Int} {s1 : Int} {s2 : Int} {r : Mem}  (h : M_actOther_139 μ l2 s1 s2 = some r) (hF : UM μ0 μ) : UM μ0 r := by
  unfold M_actOther_139 at h
  obtain ⟨m1, h2, h⟩ := bindS h
  have hF3 := UMS hF ux_264 h2
  obtain ⟨x4, h5, h⟩ := bindS h
  by_cases c12 : x4 = 0
  · replace h := ifT c12 h
    obtain ⟨m6, h7, h⟩ := bindS h
    have hF8 := UMS hF3 ux_264 h7
    replace h := Option.some.inj h
    subst h
    exact hF8
  · replace h := ifF c12 h
    obtain ⟨m9, h10, h⟩ := bindS h
    have hF11 := UMS hF3 ux_264 h10
    replace h := Option.some.inj h
    subst h
    exact hF11
theorem um_M_actOther {μ0 μ : Mem}  {a1 : Int} {a2 : Int} {r : Mem}  (h : M_actOther μ a1 a2 = some r) (hF : UM μ0 μ) : UM μ0 r := by
  unfold M_actOther at h
  by_cases c4 : a1 = 33
  · replace h := ifT c4 h
    obtain ⟨m1, h2, h⟩ := bindS h
    have hF3 := um_M_sneak h2 hF
    replace h := Option.some.inj h
    subst h
    exact hF3
  replace h := ifF c4 h
  by_cases c8 : a1 = 34
  · replace h := ifT c8 h
    obtain ⟨m5, h6, h⟩ := bindS h
    have hF7 := UMS hF ux_264 h6
    replace h := Option.some.inj h
    subst h
    exact hF7
  replace h := ifF c8 h
  by_cases c9 : a1 = 35
  · replace h := ifT c9 h
    exact um_M_actOther_63 h hF
  replace h := ifF c9 h
  by_cases c13 : a1 = 36
  · replace h := ifT c13 h
    obtain ⟨x10, h11, h⟩ := bindS h
    by_cases c12 : x10 = 0
    · replace h := ifT c12 h
      exact um_M_actOther_139 h hF
    · replace h := ifF c12 h
      exact um_M_actOther_139 h hF
  replace h := ifF c13 h
  obtain ⟨m14, h15, h⟩ := bindS h
  have hF16 := um_M_values h15 hF
  replace h := Option.some.inj h
  subst h
  exact hF16
theorem um_M_actCue_184 {μ0 μ : Mem}  {l1 : Int} {l2 : Int} {r : Mem}  (h : M_actCue_184 μ l1 l2 = some r) (hF : UM μ0 μ) : UM μ0 r := by
  unfold M_actCue_184 at h
  obtain ⟨m1, h2, h⟩ := bindS h
  have hF3 := um_M_actOther h2 hF
  replace h := Option.some.inj h
  subst h
  exact hF3
theorem um_M_actCue {μ0 μ : Mem}  {a1 : Int} {r : Mem}  (h : M_actCue μ a1 = some r) (hF : UM μ0 μ) : UM μ0 r := by
  unfold M_actCue at h
  obtain ⟨x1, h2, h⟩ := bindS h
  by_cases c9 : a1 = 21
  · replace h := ifT c9 h
    obtain ⟨p3, h4, h⟩ := bindS h
    have hF5 := um_M_makeCue h4 hF
    obtain ⟨m6, h7, h⟩ := bindS h
    have hF8 := um_M_setTimes h7 hF5
    replace h := Option.some.inj h
    subst h
    exact hF8
  replace h := ifF c9 h
  by_cases c13 : a1 = 22
  · replace h := ifT c13 h
    obtain ⟨m10, h11, h⟩ := bindS h
    have hF12 := um_M_record h11 hF
    replace h := Option.some.inj h
    subst h
    exact hF12
  replace h := ifF c13 h
  by_cases c14 : a1 = 23
  · replace h := ifT c14 h
    exact um_M_actCue_184 h hF
  replace h := ifF c14 h
  by_cases c18 : a1 = 24
  · replace h := ifT c18 h
    obtain ⟨m15, h16, h⟩ := bindS h
    have hF17 := um_M_update h16 hF
    replace h := Option.some.inj h
    subst h
    exact hF17
  replace h := ifF c18 h
  by_cases c22 : a1 = 25
  · replace h := ifT c22 h
    obtain ⟨m19, h20, h⟩ := bindS h
    have hF21 := um_M_deleteCue h20 hF
    replace h := Option.some.inj h
    subst h
    exact hF21
  replace h := ifF c22 h
  by_cases c31 : a1 = 26
  · replace h := ifT c31 h
    obtain ⟨x23, h24, h⟩ := bindS h
    obtain ⟨p25, h26, h⟩ := bindS h
    have hF27 := um_M_makeCue h26 hF
    obtain ⟨m28, h29, h⟩ := bindS h
    have hF30 := um_M_copyCue h29 hF27
    replace h := Option.some.inj h
    subst h
    exact hF30
  replace h := ifF c31 h
  by_cases c32 : a1 = 27
  · replace h := ifT c32 h
    exact um_M_actCue_184 h hF
  replace h := ifF c32 h
  by_cases c36 : a1 = 28
  · replace h := ifT c36 h
    obtain ⟨m33, h34, h⟩ := bindS h
    have hF35 := um_M_block h34 hF
    replace h := Option.some.inj h
    subst h
    exact hF35
  replace h := ifF c36 h
  by_cases c42 : a1 = 29
  · replace h := ifT c42 h
    obtain ⟨x37, h38, h⟩ := bindS h
    obtain ⟨m39, h40, h⟩ := bindS h
    have hF41 := um_M_unblock h40 hF
    replace h := Option.some.inj h
    subst h
    exact hF41
  replace h := ifF c42 h
  by_cases c46 : a1 = 30
  · replace h := ifT c46 h
    obtain ⟨m43, h44, h⟩ := bindS h
    have hF45 := UMS hF ux_264 h44
    replace h := Option.some.inj h
    subst h
    exact hF45
  replace h := ifF c46 h
  by_cases c50 : a1 = 31
  · replace h := ifT c50 h
    obtain ⟨m47, h48, h⟩ := bindS h
    have hF49 := UMS hF ux_264 h48
    replace h := Option.some.inj h
    subst h
    exact hF49
  replace h := ifF c50 h
  by_cases c54 : a1 = 32
  · replace h := ifT c54 h
    obtain ⟨m51, h52, h⟩ := bindS h
    have hF53 := um_M_clear h52 hF
    replace h := Option.some.inj h
    subst h
    exact hF53
  replace h := ifF c54 h
  exact um_M_actCue_184 h hF
theorem um_M_act_109 {μ0 : Mem}    : ∀ {n : Nat} {μ : Mem} {l2 : Int} {r : Mem}, M_act_109 n μ l2 = some r → UM μ0 μ → UM μ0 r := by
  intro n
  induction n with
  | zero =>
    intro μ l2 r h
    exact noneS h
  | succ n ih =>
    intro μ l2 r h hF
    rw [M_act_109] at h
    by_cases c6 : (μ 259 21) ≤ l2
    · replace h := ifT c6 h
      replace h := Option.some.inj h
      subst h
      exact hF
    · replace h := ifF c6 h
      obtain ⟨x1, h2, h⟩ := bindS h
      obtain ⟨m3, h4, h⟩ := bindS h
      have hF5 := um_M_unpatch h4 hF
      exact ih h hF5
theorem um_M_act_234 {μ0 μ : Mem}  {l1 : Int} {r : Mem}  (h : M_act_234 μ l1 = some r) (hF : UM μ0 μ) : UM μ0 r := by
  unfold M_act_234 at h
  obtain ⟨m1, h2, h⟩ := bindS h
  have hF3 := um_M_actCue h2 hF
  replace h := Option.some.inj h
  subst h
  exact hF3
theorem um_M_act_20 {μ0 μ : Mem}  {s0 : Int} {r : Mem}  (h : M_act_20 μ s0 = some r) (hF : UM μ0 μ) : UM μ0 r := by
  unfold M_act_20 at h
  by_cases c10 : s0 = 1
  · replace h := ifT c10 h
    obtain ⟨x1, h2, h⟩ := bindS h
    by_cases c9 : x1 = 0
    · replace h := ifT c9 h
      obtain ⟨m3, h4, h⟩ := bindS h
      have hF5 := um_M_values h4 hF
      replace h := Option.some.inj h
      subst h
      exact hF5
    · replace h := ifF c9 h
      obtain ⟨m6, h7, h⟩ := bindS h
      have hF8 := um_M_makeGroup h7 hF
      replace h := Option.some.inj h
      subst h
      exact hF8
  replace h := ifF c10 h
  by_cases c11 : s0 = 2
  · replace h := ifT c11 h
    exact um_M_act_234 h hF
  replace h := ifF c11 h
  by_cases c15 : s0 = 3
  · replace h := ifT c15 h
    obtain ⟨m12, h13, h⟩ := bindS h
    have hF14 := um_M_patch h13 hF
    replace h := Option.some.inj h
    subst h
    exact hF14
  replace h := ifF c15 h
  by_cases c16 : s0 = 4
  · replace h := ifT c16 h
    exact um_M_act_234 h hF
  replace h := ifF c16 h
  by_cases c17 : s0 = 5
  · replace h := ifT c17 h
    exact um_M_act_234 h hF
  replace h := ifF c17 h
  by_cases c18 : s0 = 6
  · replace h := ifT c18 h
    exact um_M_act_234 h hF
  replace h := ifF c18 h
  by_cases c19 : s0 = 7
  · replace h := ifT c19 h
    exact um_M_act_234 h hF
  replace h := ifF c19 h
  by_cases c20 : s0 = 8
  · replace h := ifT c20 h
    exact um_M_act_234 h hF
  replace h := ifF c20 h
  by_cases c21 : s0 = 9
  · replace h := ifT c21 h
    exact um_M_act_109 h hF
  replace h := ifF c21 h
  by_cases c25 : s0 = 10
  · replace h := ifT c25 h
    obtain ⟨m22, h23, h⟩ := bindS h
    have hF24 := um_M_makePalette h23 hF
    replace h := Option.some.inj h
    subst h
    exact hF24
  replace h := ifF c25 h
  by_cases c26 : s0 = 11
  · replace h := ifT c26 h
    exact um_M_act_234 h hF
  replace h := ifF c26 h
  by_cases c30 : s0 = 12
  · replace h := ifT c30 h
    obtain ⟨m27, h28, h⟩ := bindS h
    have hF29 := um_M_makeSub h28 hF
    replace h := Option.some.inj h
    subst h
    exact hF29
  replace h := ifF c30 h
  by_cases c31 : s0 = 13
  · replace h := ifT c31 h
    exact um_M_act_234 h hF
  replace h := ifF c31 h
  by_cases c32 : s0 = 14
  · replace h := ifT c32 h
    exact um_M_act_234 h hF
  replace h := ifF c32 h
  by_cases c33 : s0 = 15
  · replace h := ifT c33 h
    exact um_M_act_234 h hF
  replace h := ifF c33 h
  by_cases c37 : s0 = 16
  · replace h := ifT c37 h
    obtain ⟨m34, h35, h⟩ := bindS h
    have hF36 := um_M_makeWave h35 hF
    replace h := Option.some.inj h
    subst h
    exact hF36
  replace h := ifF c37 h
  exact um_M_act_234 h hF
theorem um_M_act {μ0 μ : Mem}   {r : Mem}  (h : M_act μ = some r) (hF : UM μ0 μ) : UM μ0 r := by
  unfold M_act at h
  by_cases c1 : (μ 268 0) ≠ 1
  · replace h := ifT c1 h
    exact um_M_act_20 h hF
  · replace h := ifF c1 h
    exact um_M_act_20 h hF
theorem um_M_keepAhead_39 {μ0 : Mem}    : ∀ {n : Nat} {μ : Mem} {l1 : Int} {r : Mem}, M_keepAhead_39 n μ l1 = some r → UM μ0 μ → UM μ0 r := by
  intro n
  induction n with
  | zero =>
    intro μ l1 r h
    exact noneS h
  | succ n ih =>
    intro μ l1 r h hF
    rw [M_keepAhead_39] at h
    by_cases c6 : 12943 ≤ l1
    · replace h := ifT c6 h
      replace h := Option.some.inj h
      subst h
      exact hF
    · replace h := ifF c6 h
      obtain ⟨x1, h2, h⟩ := bindS h
      obtain ⟨m3, h4, h⟩ := bindS h
      have hF5 := UMS hF ux_266 h4
      exact ih h hF5
theorem um_M_keepAhead {μ0 μ : Mem}   {r : Mem}  (h : M_keepAhead μ = some r) (hF : UM μ0 μ) : UM μ0 r := by
  unfold M_keepAhead at h
  obtain ⟨m1, h2, h⟩ := bindS h
  have hF3 := UMP hF ux_259 h2
  by_cases c10 : 8 ≤ (m1 259 7)
  · replace h := ifT c10 h
    obtain ⟨m4, h5, h⟩ := bindS h
    have hF6 := UMP hF3 ux_259 h5
    exact um_M_keepAhead_39 h hF6
  · replace h := ifF c10 h
    obtain ⟨m7, h8, h⟩ := bindS h
    have hF9 := UMP hF3 ux_259 h8
    exact um_M_keepAhead_39 h hF9
theorem um_M_settle_2 {μ0 : Mem}    : ∀ {n : Nat} {μ : Mem} {l1 : Int} {r : Mem}, M_settle_2 n μ l1 = some r → UM μ0 μ → UM μ0 r := by
  intro n
  induction n with
  | zero =>
    intro μ l1 r h
    exact noneS h
  | succ n ih =>
    intro μ l1 r h hF
    rw [M_settle_2] at h
    by_cases c15 : 360 ≤ l1
    · replace h := ifT c15 h
      replace h := Option.some.inj h
      subst h
      exact hF
    · replace h := ifF c15 h
      obtain ⟨x1, h2, h⟩ := bindS h
      obtain ⟨x3, h4, h⟩ := bindS h
      by_cases c14 : x1 ≠ x3
      · replace h := ifT c14 h
        obtain ⟨m5, h6, h⟩ := bindS h
        have hF7 := UMS hF ux_272 h6
        obtain ⟨m8, h9, h⟩ := bindS h
        have hF10 := UMS hF7 ux_275 h9
        obtain ⟨m11, h12, h⟩ := bindS h
        have hF13 := UMS hF10 ux_274 h12
        exact ih h hF13
      · replace h := ifF c14 h
        exact ih h hF
theorem um_M_settle {μ0 μ : Mem}   {r : Mem}  (h : M_settle μ = some r) (hF : UM μ0 μ) : UM μ0 r := by
  unfold M_settle at h
  exact um_M_settle_2 h hF
theorem um_M_enter_124 {μ0 μ : Mem} {K46 : Mem → Int → Int → Option (Int × Mem)} {l1 : Int} {l2 : Int} {r : Int × Mem} (hK46 : ∀ {μ : Mem} {l1 : Int} {l2 : Int} {r : Int × Mem}, K46 μ l1 l2 = some r → UM μ0 μ → UM μ0 r.2) (h : M_enter_124 K46 μ l1 l2 = some r) (hF : UM μ0 μ) : UM μ0 r.2 := by
  unfold M_enter_124 at h
  by_cases c5 : l2 = 0
  · replace h := ifT c5 h
    obtain ⟨x1, h2, h⟩ := bindS h
    exact hK46 h hF
  · replace h := ifF c5 h
    obtain ⟨x3, h4, h⟩ := bindS h
    exact hK46 h hF
theorem um_M_enter_115 {μ0 μ : Mem} {K46 : Mem → Int → Int → Option (Int × Mem)} {l1 : Int} {s0 : Int} {r : Int × Mem} (hK46 : ∀ {μ : Mem} {l1 : Int} {l2 : Int} {r : Int × Mem}, K46 μ l1 l2 = some r → UM μ0 μ → UM μ0 r.2) (h : M_enter_115 K46 μ l1 s0 = some r) (hF : UM μ0 μ) : UM μ0 r.2 := by
  unfold M_enter_115 at h
  by_cases c4 : s0 = 0
  · replace h := ifT c4 h
    exact um_M_enter_124 hK46 h hF
  · replace h := ifF c4 h
    obtain ⟨m1, h2, h⟩ := bindS h
    have hF3 := um_M_act h2 hF
    exact um_M_enter_124 hK46 h hF3
theorem um_M_enter_103 {μ0 μ : Mem} {K46 : Mem → Int → Int → Option (Int × Mem)} {l1 : Int} {r : Int × Mem} (hK46 : ∀ {μ : Mem} {l1 : Int} {l2 : Int} {r : Int × Mem}, K46 μ l1 l2 = some r → UM μ0 μ → UM μ0 r.2) (h : M_enter_103 K46 μ l1 = some r) (hF : UM μ0 μ) : UM μ0 r.2 := by
  unfold M_enter_103 at h
  by_cases c1 : (μ 259 11) ≠ 0
  · replace h := ifT c1 h
    exact um_M_enter_115 hK46 h hF
  · replace h := ifF c1 h
    exact um_M_enter_115 hK46 h hF
theorem um_M_enter_83 {μ0 μ : Mem} {K46 : Mem → Int → Int → Option (Int × Mem)} {l1 : Int} {s0 : Int} {r : Int × Mem} (hK46 : ∀ {μ : Mem} {l1 : Int} {l2 : Int} {r : Int × Mem}, K46 μ l1 l2 = some r → UM μ0 μ → UM μ0 r.2) (h : M_enter_83 K46 μ l1 s0 = some r) (hF : UM μ0 μ) : UM μ0 r.2 := by
  unfold M_enter_83 at h
  by_cases c8 : s0 = 0
  · replace h := ifT c8 h
    exact hK46 h hF
  · replace h := ifF c8 h
    obtain ⟨m1, h2, h⟩ := bindS h
    have hF3 := um_M_statement h2 hF
    by_cases c7 : (m1 259 19) ≠ 0
    · replace h := ifT c7 h
      exact um_M_enter_103 hK46 h hF3
    · replace h := ifF c7 h
      obtain ⟨m4, h5, h⟩ := bindS h
      have hF6 := um_M_check h5 hF3
      exact um_M_enter_103 hK46 h hF6
theorem um_M_enter_152 {μ0 μ : Mem}  {l1 : Int} {r : Int × Mem}  (h : M_enter_152 μ l1 = some r) (hF : UM μ0 μ) : UM μ0 r.2 := by
  unfold M_enter_152 at h
  obtain ⟨m1, h2, h⟩ := bindS h
  have hF3 := um_M_settle h2 hF
  replace h := Option.some.inj h
  subst h
  exact hF3
theorem um_M_enter_46 {μ0 : Mem}    : ∀ {n : Nat} {μ : Mem} {l1 : Int} {l2 : Int} {r : Int × Mem}, M_enter_46 n μ l1 l2 = some r → UM μ0 μ → UM μ0 r.2 := by
  intro n
  induction n with
  | zero =>
    intro μ l1 l2 r h
    exact noneS h
  | succ n ih =>
    intro μ l1 l2 r h hF
    rw [M_enter_46] at h
    by_cases c21 : l2 = 0
    · replace h := ifT c21 h
      obtain ⟨m1, h2, h⟩ := bindS h
      have hF3 := UMP hF ux_259 h2
      by_cases c7 : l1 ≤ 0
      · replace h := ifT c7 h
        exact um_M_enter_152 h hF3
      · replace h := ifF c7 h
        obtain ⟨m4, h5, h⟩ := bindS h
        have hF6 := um_M_keepAhead h5 hF3
        exact um_M_enter_152 h hF6
    · replace h := ifF c21 h
      obtain ⟨m8, h9, h⟩ := bindS h
      have hF10 := UMP hF ux_259 h9
      obtain ⟨m11, h12, h⟩ := bindS h
      have hF13 := UMP hF10 ux_259 h12
      obtain ⟨m14, h15, h⟩ := bindS h
      have hF16 := UMP hF13 ux_259 h15
      obtain ⟨m17, h18, h⟩ := bindS h
      have hF19 := um_M_read h18 hF16
      by_cases c20 : (m17 268 0) = 0
      · replace h := ifT c20 h
        exact um_M_enter_83 ih h hF19
      · replace h := ifF c20 h
        exact um_M_enter_83 ih h hF19
theorem um_M_enter_2 {μ0 : Mem}    : ∀ {n : Nat} {μ : Mem} {l1 : Int} {r : Int × Mem}, M_enter_2 n μ l1 = some r → UM μ0 μ → UM μ0 r.2 := by
  intro n
  induction n with
  | zero =>
    intro μ l1 r h
    exact noneS h
  | succ n ih =>
    intro μ l1 r h hF
    rw [M_enter_2] at h
    by_cases c15 : 12943 ≤ l1
    · replace h := ifT c15 h
      obtain ⟨m1, h2, h⟩ := bindS h
      have hF3 := UMP hF ux_259 h2
      obtain ⟨m4, h5, h⟩ := bindS h
      have hF6 := UMP hF3 ux_259 h5
      obtain ⟨m7, h8, h⟩ := bindS h
      have hF9 := UMP hF6 ux_259 h8
      exact um_M_enter_46 h hF9
    · replace h := ifF c15 h
      obtain ⟨x10, h11, h⟩ := bindS h
      obtain ⟨m12, h13, h⟩ := bindS h
      have hF14 := UMS hF ux_265 h13
      exact ih h hF14
theorem um_M_enter {μ0 μ : Mem}   {r : Int × Mem}  (h : M_enter μ = some r) (hF : UM μ0 μ) : UM μ0 r.2 := by
  unfold M_enter at h
  exact um_M_enter_2 h hF
theorem um_M_undo_11 {μ0 : Mem}    : ∀ {n : Nat} {μ : Mem} {l1 : Int} {r : Int × Mem}, M_undo_11 n μ l1 = some r → UM μ0 μ → UM μ0 r.2 := by
  intro n
  induction n with
  | zero =>
    intro μ l1 r h
    exact noneS h
  | succ n ih =>
    intro μ l1 r h hF
    rw [M_undo_11] at h
    by_cases c15 : 12943 ≤ l1
    · replace h := ifT c15 h
      obtain ⟨m1, h2, h⟩ := bindS h
      have hF3 := UMP hF ux_259 h2
      obtain ⟨m4, h5, h⟩ := bindS h
      have hF6 := UMP hF3 ux_259 h5
      obtain ⟨m7, h8, h⟩ := bindS h
      have hF9 := um_M_settle h8 hF6
      replace h := Option.some.inj h
      subst h
      exact hF9
    · replace h := ifF c15 h
      obtain ⟨x10, h11, h⟩ := bindS h
      obtain ⟨m12, h13, h⟩ := bindS h
      have hF14 := UMS hF ux_264 h13
      exact ih h hF14
theorem um_M_undo {μ0 μ : Mem}   {r : Int × Mem}  (h : M_undo μ = some r) (hF : UM μ0 μ) : UM μ0 r.2 := by
  unfold M_undo at h
  by_cases c1 : (μ 259 7) ≠ 0
  · replace h := ifT c1 h
    exact um_M_undo_11 h hF
  · replace h := ifF c1 h
    replace h := Option.some.inj h
    subst h
    exact hF
theorem um_M_take_229 {μ0 μ : Mem} {K32 : Mem → Int → Int → Option (Mem)} {l1 : Int} {l2 : Int} {l3 : Int} {l4 : Int} {l5 : Int} {l9 : Int} {l10 : Int} {s1 : Int} {s2 : Int} {s3 : Int} {r : Mem} (hK32 : ∀ {μ : Mem} {l4 : Int} {l5 : Int} {r : Mem}, K32 μ l4 l5 = some r → UM μ0 μ → UM μ0 r) (h : M_take_229 K32 μ l1 l2 l3 l4 l5 l9 l10 s1 s2 s3 = some r) (hF : UM μ0 μ) : UM μ0 r := by
  unfold M_take_229 at h
  obtain ⟨m1, h2, h⟩ := bindS h
  have hF3 := UMS hF ux_274 h2
  by_cases c10 : l9 = 0
  · replace h := ifT c10 h
    obtain ⟨m4, h5, h⟩ := bindS h
    have hF6 := UMS hF3 ux_275 h5
    exact hK32 h hF6
  · replace h := ifF c10 h
    obtain ⟨m7, h8, h⟩ := bindS h
    have hF9 := UMS hF3 ux_275 h8
    exact hK32 h hF9
theorem um_M_take_182 {μ0 μ : Mem} {K32 : Mem → Int → Int → Option (Mem)} {l1 : Int} {l2 : Int} {l3 : Int} {l4 : Int} {l5 : Int} {l6 : Int} {l8 : Int} {l9 : Int} {s0 : Int} {r : Mem} (hK32 : ∀ {μ : Mem} {l4 : Int} {l5 : Int} {r : Mem}, K32 μ l4 l5 = some r → UM μ0 μ → UM μ0 r) (h : M_take_182 K32 μ l1 l2 l3 l4 l5 l6 l8 l9 s0 = some r) (hF : UM μ0 μ) : UM μ0 r := by
  unfold M_take_182 at h
  obtain ⟨m1, h2, h⟩ := bindS h
  have hF3 := UMS hF ux_273 h2
  obtain ⟨m4, h5, h⟩ := bindS h
  have hF6 := UMS hF3 ux_272 h5
  by_cases c9 : l9 = 0
  · replace h := ifT c9 h
    obtain ⟨x7, h8, h⟩ := bindS h
    exact um_M_take_229 hK32 h hF6
  · replace h := ifF c9 h
    exact um_M_take_229 hK32 h hF6
theorem um_M_take_138 {μ0 μ : Mem} {K32 : Mem → Int → Int → Option (Mem)} {l1 : Int} {l2 : Int} {l3 : Int} {l4 : Int} {l5 : Int} {l6 : Int} {l7 : Int} {l8 : Int} {s0 : Int} {r : Mem} (hK32 : ∀ {μ : Mem} {l4 : Int} {l5 : Int} {r : Mem}, K32 μ l4 l5 = some r → UM μ0 μ → UM μ0 r) (h : M_take_138 K32 μ l1 l2 l3 l4 l5 l6 l7 l8 s0 = some r) (hF : UM μ0 μ) : UM μ0 r := by
  unfold M_take_138 at h
  by_cases c8 : l7 ≠ 0
  · replace h := ifT c8 h
    by_cases c5 : l8 ≤ l6
    · replace h := ifT c5 h
      obtain ⟨x1, h2, h⟩ := bindS h
      exact um_M_take_182 hK32 h hF
    · replace h := ifF c5 h
      obtain ⟨x3, h4, h⟩ := bindS h
      exact um_M_take_182 hK32 h hF
  · replace h := ifF c8 h
    obtain ⟨x6, h7, h⟩ := bindS h
    exact um_M_take_182 hK32 h hF
theorem um_M_take_93 {μ0 μ : Mem} {K32 : Mem → Int → Int → Option (Mem)} {l1 : Int} {l2 : Int} {l3 : Int} {l5 : Int} {l6 : Int} {l7 : Int} {s0 : Int} {r : Mem} (hK32 : ∀ {μ : Mem} {l4 : Int} {l5 : Int} {r : Mem}, K32 μ l4 l5 = some r → UM μ0 μ → UM μ0 r) (h : M_take_93 K32 μ l1 l2 l3 l5 l6 l7 s0 = some r) (hF : UM μ0 μ) : UM μ0 r := by
  unfold M_take_93 at h
  obtain ⟨x1, h2, h⟩ := bindS h
  obtain ⟨x3, h4, h⟩ := bindS h
  by_cases c8 : x1 ≠ x3
  · replace h := ifT c8 h
    by_cases c7 : l2 ≠ 0
    · replace h := ifT c7 h
      exact um_M_take_138 hK32 h hF
    · replace h := ifF c7 h
      by_cases c6 : s0 = 0
      · replace h := ifT c6 h
        exact um_M_take_138 hK32 h hF
      · replace h := ifF c6 h
        by_cases c5 : l7 ≠ 0
        · replace h := ifT c5 h
          exact um_M_take_138 hK32 h hF
        · replace h := ifF c5 h
          exact um_M_take_138 hK32 h hF
  · replace h := ifF c8 h
    exact hK32 h hF
theorem um_M_take_61 {μ0 μ : Mem} {K32 : Mem → Int → Int → Option (Mem)} {l1 : Int} {l2 : Int} {l3 : Int} {l4 : Int} {l5 : Int} {l6 : Int} {s0 : Int} {r : Mem} (hK32 : ∀ {μ : Mem} {l4 : Int} {l5 : Int} {r : Mem}, K32 μ l4 l5 = some r → UM μ0 μ → UM μ0 r) (h : M_take_61 K32 μ l1 l2 l3 l4 l5 l6 s0 = some r) (hF : UM μ0 μ) : UM μ0 r := by
  unfold M_take_61 at h
  by_cases c5 : s0 = 0
  · replace h := ifT c5 h
    exact um_M_take_93 hK32 h hF
  · replace h := ifF c5 h
    by_cases c4 : l6 ≠ 0
    · replace h := ifT c4 h
      exact um_M_take_93 hK32 h hF
    · replace h := ifF c4 h
      obtain ⟨x1, h2, h⟩ := bindS h
      by_cases c3 : x1 ≠ 0
      · replace h := ifT c3 h
        exact um_M_take_93 hK32 h hF
      · replace h := ifF c3 h
        exact um_M_take_93 hK32 h hF
theorem um_M_take_32 {μ0 : Mem}  {l1 : Int} {l2 : Int} {l3 : Int}  : ∀ {n : Nat} {μ : Mem} {l4 : Int} {l5 : Int} {r : Mem}, M_take_32 l1 l2 l3 n μ l4 l5 = some r → UM μ0 μ → UM μ0 r := by
  intro n
  induction n with
  | zero =>
    intro μ l4 l5 r h
    exact noneS h
  | succ n ih =>
    intro μ l4 l5 r h hF
    rw [M_take_32] at h
    by_cases c4 : 360 ≤ l5
    · replace h := ifT c4 h
      replace h := Option.some.inj h
      subst h
      exact hF
    · replace h := ifF c4 h
      obtain ⟨x1, h2, h⟩ := bindS h
      by_cases c3 : (jrem l5 9) ≠ 0
      · replace h := ifT c3 h
        exact um_M_take_61 ih h hF
      · replace h := ifF c3 h
        exact um_M_take_61 ih h hF
theorem um_M_take {μ0 μ : Mem}  {a1 : Int} {a2 : Int} {r : Mem}  (h : M_take μ a1 a2 = some r) (hF : UM μ0 μ) : UM μ0 r := by
  unfold M_take at h
  obtain ⟨m1, h2, h⟩ := bindS h
  have hF3 := UMP hF ux_259 h2
  obtain ⟨m4, h5, h⟩ := bindS h
  have hF6 := UMP hF3 ux_259 h5
  obtain ⟨x7, h8, h⟩ := bindS h
  obtain ⟨x9, h10, h⟩ := bindS h
  exact um_M_take_32 h hF6
theorem um_M_follow_99 {μ0 μ : Mem} {K21 : Mem → Int → Int → Int → Option (Mem)} {l2 : Int} {l3 : Int} {r : Mem} (hK21 : ∀ {μ : Mem} {l1 : Int} {l2 : Int} {l3 : Int} {r : Mem}, K21 μ l1 l2 l3 = some r → UM μ0 μ → UM μ0 r) (h : M_follow_99 K21 μ l2 l3 = some r) (hF : UM μ0 μ) : UM μ0 r := by
  unfold M_follow_99 at h
  obtain ⟨x1, h2, h⟩ := bindS h
  exact hK21 h hF
theorem um_M_follow_87 {μ0 μ : Mem} {K21 : Mem → Int → Int → Int → Option (Mem)} {l3 : Int} {l5 : Int} {s0 : Int} {r : Mem} (hK21 : ∀ {μ : Mem} {l1 : Int} {l2 : Int} {l3 : Int} {r : Mem}, K21 μ l1 l2 l3 = some r → UM μ0 μ → UM μ0 r) (h : M_follow_87 K21 μ l3 l5 s0 = some r) (hF : UM μ0 μ) : UM μ0 r := by
  unfold M_follow_87 at h
  by_cases c4 : s0 = 0
  · replace h := ifT c4 h
    exact um_M_follow_99 hK21 h hF
  · replace h := ifF c4 h
    obtain ⟨m1, h2, h⟩ := bindS h
    have hF3 := um_M_take h2 hF
    exact um_M_follow_99 hK21 h hF3
theorem um_M_follow_21 {μ0 : Mem}    : ∀ {n : Nat} {μ : Mem} {l1 : Int} {l2 : Int} {l3 : Int} {r : Mem}, M_follow_21 n μ l1 l2 l3 = some r → UM μ0 μ → UM μ0 r := by
  intro n
  induction n with
  | zero =>
    intro μ l1 l2 l3 r h
    exact noneS h
  | succ n ih =>
    intro μ l1 l2 l3 r h hF
    rw [M_follow_21] at h
    by_cases c9 : 30 ≤ l3
    · replace h := ifT c9 h
      replace h := Option.some.inj h
      subst h
      exact hF
    · replace h := ifF c9 h
      by_cases c8 : l2 = 0
      · replace h := ifT c8 h
        replace h := Option.some.inj h
        subst h
        exact hF
      · replace h := ifF c8 h
        obtain ⟨x1, h2, h⟩ := bindS h
        obtain ⟨x3, h4, h⟩ := bindS h
        by_cases c7 : x1 < 0
        · replace h := ifT c7 h
          exact um_M_follow_87 ih h hF
        · replace h := ifF c7 h
          by_cases c6 : (μ 259 28) ≠ (jadd (μ 259 30) x1)
          · replace h := ifT c6 h
            exact um_M_follow_87 ih h hF
          · replace h := ifF c6 h
            by_cases c5 : x3 ≤ 0
            · replace h := ifT c5 h
              exact um_M_follow_87 ih h hF
            · replace h := ifF c5 h
              exact um_M_follow_87 ih h hF
theorem um_M_follow {μ0 μ : Mem}   {r : Mem}  (h : M_follow μ = some r) (hF : UM μ0 μ) : UM μ0 r := by
  unfold M_follow at h
  obtain ⟨x1, h2, h⟩ := bindS h
  by_cases c3 : x1 < 0
  · replace h := ifT c3 h
    exact um_M_follow_21 h hF
  · replace h := ifF c3 h
    exact um_M_follow_21 h hF
theorem um_M_taken {μ0 μ : Mem}  {a1 : Int} {a2 : Int} {r : Int × Mem}  (h : M_taken μ a1 a2 = some r) (hF : UM μ0 μ) : UM μ0 r.2 := by
  unfold M_taken at h
  by_cases c7 : a1 ≠ 0
  · replace h := ifT c7 h
    obtain ⟨m1, h2, h⟩ := bindS h
    have hF3 := um_M_take h2 hF
    obtain ⟨m4, h5, h⟩ := bindS h
    have hF6 := um_M_follow h5 hF3
    replace h := Option.some.inj h
    subst h
    exact hF6
  · replace h := ifF c7 h
    replace h := Option.some.inj h
    subst h
    exact hF
theorem um_M_go {μ0 μ : Mem}   {r : Int × Mem}  (h : M_go μ = some r) (hF : UM μ0 μ) : UM μ0 r.2 := by
  unfold M_go at h
  obtain ⟨x1, h2, h⟩ := bindS h
  obtain ⟨p3, h4, h⟩ := bindS h
  have hF5 := um_M_taken h4 hF
  replace h := Option.some.inj h
  subst h
  exact hF5
theorem um_M_back {μ0 μ : Mem}   {r : Int × Mem}  (h : M_back μ = some r) (hF : UM μ0 μ) : UM μ0 r.2 := by
  unfold M_back at h
  obtain ⟨x1, h2, h⟩ := bindS h
  obtain ⟨p3, h4, h⟩ := bindS h
  have hF5 := um_M_taken h4 hF
  replace h := Option.some.inj h
  subst h
  exact hF5
theorem um_M_jump {μ0 μ : Mem}  {a1 : Int} {r : Int × Mem}  (h : M_jump μ a1 = some r) (hF : UM μ0 μ) : UM μ0 r.2 := by
  unfold M_jump at h
  obtain ⟨x1, h2, h⟩ := bindS h
  by_cases c6 : 0 ≤ x1
  · replace h := ifT c6 h
    obtain ⟨p3, h4, h⟩ := bindS h
    have hF5 := um_M_taken h4 hF
    replace h := Option.some.inj h
    subst h
    exact hF5
  · replace h := ifF c6 h
    replace h := Option.some.inj h
    subst h
    exact hF
theorem um_M_hold {μ0 μ : Mem}  {a1 : Int} {r : Int × Mem}  (h : M_hold μ a1 = some r) (hF : UM μ0 μ) : UM μ0 r.2 := by
  unfold M_hold at h
  obtain ⟨x1, h2, h⟩ := bindS h
  obtain ⟨m3, h4, h⟩ := bindS h
  have hF5 := UMPz hF ux_259 h4
  obtain ⟨h6, h⟩ := ifSome h
  replace h := Option.some.inj h
  subst h
  exact hF5
theorem um_M_roll {μ0 μ : Mem}  {a1 : Int} {r : Mem}  (h : M_roll μ a1 = some r) (hF : UM μ0 μ) : UM μ0 r := by
  unfold M_roll at h
  obtain ⟨x1, h2, h⟩ := bindS h
  obtain ⟨x3, h4, h⟩ := bindS h
  obtain ⟨x5, h6, h⟩ := bindS h
  obtain ⟨x7, h8, h⟩ := bindS h
  by_cases c19 : x5 ≤ 40
  · replace h := ifT c19 h
    by_cases c15 : (-40) ≤ x5
    · replace h := ifT c15 h
      obtain ⟨m9, h10, h⟩ := bindS h
      have hF11 := UMS hF ux_279 h10
      replace h := Option.some.inj h
      subst h
      exact hF11
    · replace h := ifF c15 h
      obtain ⟨m12, h13, h⟩ := bindS h
      have hF14 := UMS hF ux_279 h13
      replace h := Option.some.inj h
      subst h
      exact hF14
  · replace h := ifF c19 h
    obtain ⟨m16, h17, h⟩ := bindS h
    have hF18 := UMS hF ux_279 h17
    replace h := Option.some.inj h
    subst h
    exact hF18
theorem um_M_advance_113 {μ0 : Mem} {K16 : Mem → Int → Option (Int × Mem)} {l1 : Int} {l2 : Int} (hK16 : ∀ {μ : Mem} {l2 : Int} {r : Int × Mem}, K16 μ l2 = some r → UM μ0 μ → UM μ0 r.2) : ∀ {n : Nat} {μ : Mem} {l3 : Int} {r : Int × Mem}, M_advance_113 K16 l1 l2 n μ l3 = some r → UM μ0 μ → UM μ0 r.2 := by
  intro n
  induction n with
  | zero =>
    intro μ l3 r h
    exact noneS h
  | succ n ih =>
    intro μ l3 r h hF
    rw [M_advance_113] at h
    by_cases c7 : 40 ≤ l3
    · replace h := ifT c7 h
      exact hK16 h hF
    · replace h := ifF c7 h
      obtain ⟨x1, h2, h⟩ := bindS h
      by_cases c6 : x1 ≠ 8
      · replace h := ifT c6 h
        exact ih h hF
      · replace h := ifF c6 h
        obtain ⟨m3, h4, h⟩ := bindS h
        have hF5 := um_M_roll h4 hF
        exact ih h hF5
theorem um_M_advance_35 {μ0 : Mem} {K16 : Mem → Int → Option (Int × Mem)} {l1 : Int} {l2 : Int} (hK16 : ∀ {μ : Mem} {l2 : Int} {r : Int × Mem}, K16 μ l2 = some r → UM μ0 μ → UM μ0 r.2) : ∀ {n : Nat} {μ : Mem} {l3 : Int} {r : Int × Mem}, M_advance_35 K16 l1 l2 n μ l3 = some r → UM μ0 μ → UM μ0 r.2 := by
  intro n
  induction n with
  | zero =>
    intro μ l3 r h
    exact noneS h
  | succ n ih =>
    intro μ l3 r h hF
    rw [M_advance_35] at h
    by_cases c21 : 12943 ≤ l3
    · replace h := ifT c21 h
      by_cases c7 : (μ 259 31) ≠ 0
      · replace h := ifT c7 h
        exact um_M_advance_113 hK16 h hF
      · replace h := ifF c7 h
        obtain ⟨m1, h2, h⟩ := bindS h
        have hF3 := UMP hF ux_259 h2
        obtain ⟨m4, h5, h⟩ := bindS h
        have hF6 := um_M_follow h5 hF3
        exact um_M_advance_113 hK16 h hF6
    · replace h := ifF c21 h
      obtain ⟨x8, h9, h⟩ := bindS h
      by_cases c20 : x8 ≠ (μ 259 27)
      · replace h := ifT c20 h
        exact ih h hF
      · replace h := ifF c20 h
        obtain ⟨x10, h11, h⟩ := bindS h
        obtain ⟨x12, h13, h⟩ := bindS h
        by_cases c19 : x12 < 0
        · replace h := ifT c19 h
          exact ih h hF
        · replace h := ifF c19 h
          obtain ⟨x14, h15, h⟩ := bindS h
          obtain ⟨p16, h17, h⟩ := bindS h
          have hF18 := um_M_taken h17 hF
          exact ih h hF18
theorem um_M_advance_16 {μ0 : Mem}  {l1 : Int}  : ∀ {n : Nat} {μ : Mem} {l2 : Int} {r : Int × Mem}, M_advance_16 l1 n μ l2 = some r → UM μ0 μ → UM μ0 r.2 := by
  intro n
  induction n with
  | zero =>
    intro μ l2 r h
    exact noneS h
  | succ n ih =>
    intro μ l2 r h hF
    rw [M_advance_16] at h
    by_cases c4 : l1 ≤ l2
    · replace h := ifT c4 h
      replace h := Option.some.inj h
      subst h
      exact hF
    · replace h := ifF c4 h
      obtain ⟨m1, h2, h⟩ := bindS h
      have hF3 := UMP hF ux_259 h2
      exact um_M_advance_35 ih h hF3
theorem um_M_advance {μ0 μ : Mem}  {a1 : Int} {r : Int × Mem}  (h : M_advance μ a1 = some r) (hF : UM μ0 μ) : UM μ0 r.2 := by
  unfold M_advance at h
  obtain ⟨x1, h2, h⟩ := bindS h
  by_cases c3 : x1 ≠ 0
  · replace h := ifT c3 h
    exact um_M_advance_16 h hF
  · replace h := ifF c3 h
    replace h := Option.some.inj h
    subst h
    exact hF
theorem um_M_fader {μ0 μ : Mem}  {a1 : Int} {a2 : Int} {r : Int × Mem}  (h : M_fader μ a1 a2 = some r) (hF : UM μ0 μ) : UM μ0 r.2 := by
  unfold M_fader at h
  obtain ⟨x1, h2, h⟩ := bindS h
  by_cases c11 : x1 ≠ 0
  · replace h := ifT c11 h
    obtain ⟨x3, h4, h⟩ := bindS h
    by_cases c10 : x3 ≠ 0
    · replace h := ifT c10 h
      obtain ⟨x5, h6, h⟩ := bindS h
      obtain ⟨m7, h8, h⟩ := bindS h
      have hF9 := UMS hF ux_276 h8
      replace h := Option.some.inj h
      subst h
      exact hF9
    · replace h := ifF c10 h
      replace h := Option.some.inj h
      subst h
      exact hF
  · replace h := ifF c11 h
    replace h := Option.some.inj h
    subst h
    exact hF
theorem um_M_bump {μ0 μ : Mem}  {a1 : Int} {a2 : Int} {r : Int × Mem}  (h : M_bump μ a1 a2 = some r) (hF : UM μ0 μ) : UM μ0 r.2 := by
  unfold M_bump at h
  obtain ⟨x1, h2, h⟩ := bindS h
  by_cases c9 : x1 ≠ 0
  · replace h := ifT c9 h
    obtain ⟨x3, h4, h⟩ := bindS h
    obtain ⟨m5, h6, h⟩ := bindS h
    have hF7 := UMS hF ux_277 h6
    by_cases c8 : x3 = 0
    · replace h := ifT c8 h
      replace h := Option.some.inj h
      subst h
      exact hF7
    · replace h := ifF c8 h
      replace h := Option.some.inj h
      subst h
      exact hF7
  · replace h := ifF c9 h
    replace h := Option.some.inj h
    subst h
    exact hF
theorem um_M_grand {μ0 μ : Mem}  {a1 : Int} {r : Int × Mem}  (h : M_grand μ a1 = some r) (hF : UM μ0 μ) : UM μ0 r.2 := by
  unfold M_grand at h
  obtain ⟨x1, h2, h⟩ := bindS h
  by_cases c8 : x1 ≠ 0
  · replace h := ifT c8 h
    obtain ⟨x3, h4, h⟩ := bindS h
    obtain ⟨m5, h6, h⟩ := bindS h
    have hF7 := UMP hF ux_259 h6
    replace h := Option.some.inj h
    subst h
    exact hF7
  · replace h := ifF c8 h
    replace h := Option.some.inj h
    subst h
    exact hF
theorem um_M_black {μ0 μ : Mem}  {a1 : Int} {r : Int × Mem}  (h : M_black μ a1 = some r) (hF : UM μ0 μ) : UM μ0 r.2 := by
  unfold M_black at h
  obtain ⟨x1, h2, h⟩ := bindS h
  obtain ⟨m3, h4, h⟩ := bindS h
  have hF5 := UMPz hF ux_259 h4
  obtain ⟨h6, h⟩ := ifSome h
  replace h := Option.some.inj h
  subst h
  exact hF5
theorem um_M_run {μ0 μ : Mem}  {a1 : Int} {a2 : Int} {r : Int × Mem}  (h : M_run μ a1 a2 = some r) (hF : UM μ0 μ) : UM μ0 r.2 := by
  unfold M_run at h
  obtain ⟨x1, h2, h⟩ := bindS h
  by_cases c9 : x1 ≠ 0
  · replace h := ifT c9 h
    obtain ⟨x3, h4, h⟩ := bindS h
    obtain ⟨m5, h6, h⟩ := bindS h
    have hF7 := UMS hF ux_278 h6
    by_cases c8 : x3 = 0
    · replace h := ifT c8 h
      replace h := Option.some.inj h
      subst h
      exact hF7
    · replace h := ifF c8 h
      replace h := Option.some.inj h
      subst h
      exact hF7
  · replace h := ifF c9 h
    replace h := Option.some.inj h
    subst h
    exact hF
theorem um_M_write {μ0 μ : Mem}  {a1 : Int} {r : Mem}  (h : M_write μ a1 = some r) (hF : UM μ0 μ) : UM μ0 r := by
  unfold M_write at h
  by_cases c10 : 6000 ≤ (μ 259 39)
  · replace h := ifT c10 h
    obtain ⟨m1, h2, h⟩ := bindS h
    have hF3 := UMP hF ux_259 h2
    replace h := Option.some.inj h
    subst h
    exact hF3
  · replace h := ifF c10 h
    obtain ⟨m4, h5, h⟩ := bindS h
    have hF6 := UMS hF ux_280 h5
    obtain ⟨m7, h8, h⟩ := bindS h
    have hF9 := UMP hF6 ux_259 h8
    replace h := Option.some.inj h
    subst h
    exact hF9
theorem um_M_solid {μ0 μ : Mem}   {r : Mem}  (h : M_solid μ = some r) (hF : UM μ0 μ) : UM μ0 r := by
  unfold M_solid at h
  by_cases c10 : (μ 259 40) = 0
  · replace h := ifT c10 h
    obtain ⟨m1, h2, h⟩ := bindS h
    have hF3 := UMP hF ux_259 h2
    replace h := Option.some.inj h
    subst h
    exact hF3
  · replace h := ifF c10 h
    obtain ⟨m4, h5, h⟩ := bindS h
    have hF6 := um_M_write h5 hF
    obtain ⟨m7, h8, h⟩ := bindS h
    have hF9 := UMP hF6 ux_259 h8
    replace h := Option.some.inj h
    subst h
    exact hF9
theorem um_M_writeWord_33 {μ0 : Mem}  {l1 : Int}  : ∀ {n : Nat} {μ : Mem} {l4 : Int} {r : Mem}, M_writeWord_33 l1 n μ l4 = some r → UM μ0 μ → UM μ0 r := by
  intro n
  induction n with
  | zero =>
    intro μ l4 r h
    exact noneS h
  | succ n ih =>
    intro μ l4 r h hF
    rw [M_writeWord_33] at h
    by_cases c9 : (qcmp l4 0) ≤ 0
    · replace h := ifT c9 h
      replace h := Option.some.inj h
      subst h
      exact hF
    · replace h := ifF c9 h
      obtain ⟨x1, h2, h⟩ := bindS h
      obtain ⟨h3, h⟩ := ifNone h
      obtain ⟨m4, h5, h⟩ := bindS h
      have hF6 := um_M_write h5 hF
      obtain ⟨x7, h8, h⟩ := bindS h
      exact ih h hF6
theorem um_M_writeWord_6 {μ0 μ : Mem}  {l1 : Int}  : ∀ {n : Nat} {l2 : Int} {r : Mem}, M_writeWord_6 μ l1 n l2 = some r → UM μ0 μ → UM μ0 r := by
  intro n
  induction n with
  | zero =>
    intro l2 r h
    exact noneS h
  | succ n ih =>
    intro l2 r h hF
    rw [M_writeWord_6] at h
    obtain ⟨x1, h2, h⟩ := bindS h
    by_cases c5 : 0 < (qcmp (qmul l2 27) x1)
    · replace h := ifT c5 h
      exact um_M_writeWord_33 h hF
    · replace h := ifF c5 h
      obtain ⟨x3, h4, h⟩ := bindS h
      exact ih h hF
theorem um_M_writeWord {μ0 μ : Mem}  {a1 : Int} {r : Mem}  (h : M_writeWord μ a1 = some r) (hF : UM μ0 μ) : UM μ0 r := by
  unfold M_writeWord at h
  obtain ⟨m1, h2, h⟩ := bindS h
  have hF3 := um_M_solid h2 hF
  exact um_M_writeWord_6 h hF3
theorem um_M_writeNumber_24 {μ0 : Mem}  {l1 : Int}  : ∀ {n : Nat} {μ : Mem} {l3 : Int} {r : Mem}, M_writeNumber_24 l1 n μ l3 = some r → UM μ0 μ → UM μ0 r := by
  intro n
  induction n with
  | zero =>
    intro μ l3 r h
    exact noneS h
  | succ n ih =>
    intro μ l3 r h hF
    rw [M_writeNumber_24] at h
    by_cases c7 : l3 ≤ 0
    · replace h := ifT c7 h
      replace h := Option.some.inj h
      subst h
      exact hF
    · replace h := ifF c7 h
      obtain ⟨h1, h⟩ := ifNone h
      obtain ⟨m2, h3, h⟩ := bindS h
      have hF4 := um_M_write h3 hF
      obtain ⟨x5, h6, h⟩ := bindS h
      exact ih h hF4
theorem um_M_writeNumber_6 {μ0 μ : Mem}  {l1 : Int}  : ∀ {n : Nat} {l2 : Int} {r : Mem}, M_writeNumber_6 μ l1 n l2 = some r → UM μ0 μ → UM μ0 r := by
  intro n
  induction n with
  | zero =>
    intro l2 r h
    exact noneS h
  | succ n ih =>
    intro l2 r h hF
    rw [M_writeNumber_6] at h
    by_cases c3 : l1 < (jmul l2 10)
    · replace h := ifT c3 h
      exact um_M_writeNumber_24 h hF
    · replace h := ifF c3 h
      obtain ⟨x1, h2, h⟩ := bindS h
      exact ih h hF
theorem um_M_writeNumber {μ0 μ : Mem}  {a1 : Int} {r : Mem}  (h : M_writeNumber μ a1 = some r) (hF : UM μ0 μ) : UM μ0 r := by
  unfold M_writeNumber at h
  obtain ⟨m1, h2, h⟩ := bindS h
  have hF3 := um_M_solid h2 hF
  exact um_M_writeNumber_6 h hF3
theorem um_M_pair {μ0 μ : Mem}  {a1 : Int} {a2 : Int} {r : Mem}  (h : M_pair μ a1 a2 = some r) (hF : UM μ0 μ) : UM μ0 r := by
  unfold M_pair at h
  obtain ⟨m1, h2, h⟩ := bindS h
  have hF3 := um_M_writeWord h2 hF
  obtain ⟨m4, h5, h⟩ := bindS h
  have hF6 := um_M_writeNumber h5 hF3
  replace h := Option.some.inj h
  subst h
  exact hF6
theorem um_M_writeSign {μ0 μ : Mem}  {a1 : Int} {r : Mem}  (h : M_writeSign μ a1 = some r) (hF : UM μ0 μ) : UM μ0 r := by
  unfold M_writeSign at h
  obtain ⟨m1, h2, h⟩ := bindS h
  have hF3 := um_M_write h2 hF
  obtain ⟨m4, h5, h⟩ := bindS h
  have hF6 := UMP hF3 ux_259 h5
  replace h := Option.some.inj h
  subst h
  exact hF6
theorem um_M_ends {μ0 μ : Mem}   {r : Mem}  (h : M_ends μ = some r) (hF : UM μ0 μ) : UM μ0 r := by
  unfold M_ends at h
  obtain ⟨m1, h2, h⟩ := bindS h
  have hF3 := um_M_writeSign h2 hF
  obtain ⟨m4, h5, h⟩ := bindS h
  have hF6 := um_M_write h5 hF3
  replace h := Option.some.inj h
  subst h
  exact hF6
theorem um_M_savePatch_127 {μ0 μ : Mem}   {r : Mem}  (h : M_savePatch_127 μ = some r) (hF : UM μ0 μ) : UM μ0 r := by
  unfold M_savePatch_127 at h
  obtain ⟨m1, h2, h⟩ := bindS h
  have hF3 := um_M_ends h2 hF
  replace h := Option.some.inj h
  subst h
  exact hF3
theorem um_M_savePatch_109 {μ0 μ : Mem}  {l2 : Int} {r : Mem}  (h : M_savePatch_109 μ l2 = some r) (hF : UM μ0 μ) : UM μ0 r := by
  unfold M_savePatch_109 at h
  obtain ⟨x1, h2, h⟩ := bindS h
  by_cases c6 : x1 ≠ 1
  · replace h := ifT c6 h
    exact um_M_savePatch_127 h hF
  · replace h := ifF c6 h
    obtain ⟨m3, h4, h⟩ := bindS h
    have hF5 := um_M_writeWord h4 hF
    exact um_M_savePatch_127 h hF5
theorem um_M_savePatch_91 {μ0 μ : Mem}  {l2 : Int} {r : Mem}  (h : M_savePatch_91 μ l2 = some r) (hF : UM μ0 μ) : UM μ0 r := by
  unfold M_savePatch_91 at h
  obtain ⟨x1, h2, h⟩ := bindS h
  by_cases c6 : x1 ≠ 1
  · replace h := ifT c6 h
    exact um_M_savePatch_109 h hF
  · replace h := ifF c6 h
    obtain ⟨m3, h4, h⟩ := bindS h
    have hF5 := um_M_writeWord h4 hF
    exact um_M_savePatch_109 h hF5
theorem um_M_savePatch_66 {μ0 μ : Mem}  {l2 : Int} {r : Mem}  (h : M_savePatch_66 μ l2 = some r) (hF : UM μ0 μ) : UM μ0 r := by
  unfold M_savePatch_66 at h
  obtain ⟨x1, h2, h⟩ := bindS h
  by_cases c8 : x1 = 0
  · replace h := ifT c8 h
    exact um_M_savePatch_91 h hF
  · replace h := ifF c8 h
    obtain ⟨x3, h4, h⟩ := bindS h
    obtain ⟨m5, h6, h⟩ := bindS h
    have hF7 := um_M_pair h6 hF
    exact um_M_savePatch_91 h hF7
theorem um_M_savePatch {μ0 μ : Mem}  {a1 : Int} {r : Mem}  (h : M_savePatch μ a1 = some r) (hF : UM μ0 μ) : UM μ0 r := by
  unfold M_savePatch at h
  obtain ⟨x1, h2, h⟩ := bindS h
  obtain ⟨m3, h4, h⟩ := bindS h
  have hF5 := um_M_pair h4 hF
  obtain ⟨x6, h7, h⟩ := bindS h
  obtain ⟨m8, h9, h⟩ := bindS h
  have hF10 := um_M_writeWord h9 hF5
  obtain ⟨x11, h12, h⟩ := bindS h
  obtain ⟨m13, h14, h⟩ := bindS h
  have hF15 := um_M_pair h14 hF10
  obtain ⟨x16, h17, h⟩ := bindS h
  by_cases c23 : x16 = 1000
  · replace h := ifT c23 h
    exact um_M_savePatch_66 h hF15
  · replace h := ifF c23 h
    obtain ⟨x18, h19, h⟩ := bindS h
    obtain ⟨m20, h21, h⟩ := bindS h
    have hF22 := um_M_pair h21 hF15
    exact um_M_savePatch_66 h hF22
theorem um_M_units_23 {μ0 μ : Mem} {K2 : Mem → Int → Option (Mem)} {l1 : Int} {l2 : Int} {r : Mem} (hK2 : ∀ {μ : Mem} {l2 : Int} {r : Mem}, K2 μ l2 = some r → UM μ0 μ → UM μ0 r) (h : M_units_23 K2 μ l1 l2 = some r) (hF : UM μ0 μ) : UM μ0 r := by
  unfold M_units_23 at h
  obtain ⟨x1, h2, h⟩ := bindS h
  obtain ⟨m3, h4, h⟩ := bindS h
  have hF5 := um_M_writeNumber h4 hF
  exact hK2 h hF5
theorem um_M_units_2 {μ0 : Mem}  {l1 : Int}  : ∀ {n : Nat} {μ : Mem} {l2 : Int} {r : Mem}, M_units_2 l1 n μ l2 = some r → UM μ0 μ → UM μ0 r := by
  intro n
  induction n with
  | zero =>
    intro μ l2 r h
    exact noneS h
  | succ n ih =>
    intro μ l2 r h hF
    rw [M_units_2] at h
    obtain ⟨x1, h2, h⟩ := bindS h
    by_cases c7 : x1 < l2
    · replace h := ifT c7 h
      replace h := Option.some.inj h
      subst h
      exact hF
    · replace h := ifF c7 h
      by_cases c6 : l2 ≤ 1
      · replace h := ifT c6 h
        exact um_M_units_23 ih h hF
      · replace h := ifF c6 h
        obtain ⟨m3, h4, h⟩ := bindS h
        have hF5 := um_M_writeSign h4 hF
        exact um_M_units_23 ih h hF5
theorem um_M_units {μ0 μ : Mem}  {a1 : Int} {r : Mem}  (h : M_units μ a1 = some r) (hF : UM μ0 μ) : UM μ0 r := by
  unfold M_units at h
  exact um_M_units_2 h hF
theorem um_M_savePalette_35 {μ0 : Mem}  {l2 : Int}  : ∀ {n : Nat} {μ : Mem} {l3 : Int} {r : Mem}, M_savePalette_35 l2 n μ l3 = some r → UM μ0 μ → UM μ0 r := by
  intro n
  induction n with
  | zero =>
    intro μ l3 r h
    exact noneS h
  | succ n ih =>
    intro μ l3 r h hF
    rw [M_savePalette_35] at h
    by_cases c12 : 9 ≤ l3
    · replace h := ifT c12 h
      obtain ⟨m1, h2, h⟩ := bindS h
      have hF3 := um_M_ends h2 hF
      replace h := Option.some.inj h
      subst h
      exact hF3
    · replace h := ifF c12 h
      obtain ⟨x4, h5, h⟩ := bindS h
      by_cases c11 : x4 < 0
      · replace h := ifT c11 h
        exact ih h hF
      · replace h := ifF c11 h
        obtain ⟨x6, h7, h⟩ := bindS h
        obtain ⟨m8, h9, h⟩ := bindS h
        have hF10 := um_M_pair h9 hF
        exact ih h hF10
theorem um_M_savePalette {μ0 μ : Mem}  {a1 : Int} {r : Mem}  (h : M_savePalette μ a1 = some r) (hF : UM μ0 μ) : UM μ0 r := by
  unfold M_savePalette at h
  obtain ⟨x1, h2, h⟩ := bindS h
  obtain ⟨x3, h4, h⟩ := bindS h
  by_cases c11 : x3 ≠ 0
  · replace h := ifT c11 h
    obtain ⟨m5, h6, h⟩ := bindS h
    have hF7 := um_M_pair h6 hF
    obtain ⟨m8, h9, h⟩ := bindS h
    have hF10 := um_M_writeSign h9 hF7
    exact um_M_savePalette_35 h hF10
  · replace h := ifF c11 h
    replace h := Option.some.inj h
    subst h
    exact hF
theorem um_M_saveSubs_35 {μ0 : Mem}  {l1 : Int}  : ∀ {n : Nat} {μ : Mem} {l2 : Int} {r : Mem}, M_saveSubs_35 l1 n μ l2 = some r → UM μ0 μ → UM μ0 r := by
  intro n
  induction n with
  | zero =>
    intro μ l2 r h
    exact noneS h
  | succ n ih =>
    intro μ l2 r h hF
    rw [M_saveSubs_35] at h
    by_cases c19 : 40 ≤ l2
    · replace h := ifT c19 h
      replace h := Option.some.inj h
      subst h
      exact hF
    · replace h := ifF c19 h
      obtain ⟨x1, h2, h⟩ := bindS h
      by_cases c18 : 0 ≤ x1
      · replace h := ifT c18 h
        obtain ⟨m3, h4, h⟩ := bindS h
        have hF5 := um_M_pair h4 hF
        obtain ⟨m6, h7, h⟩ := bindS h
        have hF8 := um_M_pair h7 hF5
        obtain ⟨m9, h10, h⟩ := bindS h
        have hF11 := um_M_writeSign h10 hF8
        obtain ⟨m12, h13, h⟩ := bindS h
        have hF14 := um_M_writeNumber h13 hF11
        obtain ⟨m15, h16, h⟩ := bindS h
        have hF17 := um_M_ends h16 hF14
        exact ih h hF17
      · replace h := ifF c18 h
        exact ih h hF
theorem um_M_saveSubs {μ0 μ : Mem}  {a1 : Int} {r : Mem}  (h : M_saveSubs μ a1 = some r) (hF : UM μ0 μ) : UM μ0 r := by
  unfold M_saveSubs at h
  obtain ⟨x1, h2, h⟩ := bindS h
  by_cases c12 : x1 ≠ 1
  · replace h := ifT c12 h
    exact um_M_saveSubs_35 h hF
  · replace h := ifF c12 h
    obtain ⟨m3, h4, h⟩ := bindS h
    have hF5 := um_M_pair h4 hF
    obtain ⟨m6, h7, h⟩ := bindS h
    have hF8 := um_M_writeWord h7 hF5
    obtain ⟨m9, h10, h⟩ := bindS h
    have hF11 := um_M_ends h10 hF8
    exact um_M_saveSubs_35 h hF11
theorem um_M_saveWave {μ0 μ : Mem}  {a1 : Int} {r : Mem}  (h : M_saveWave μ a1 = some r) (hF : UM μ0 μ) : UM μ0 r := by
  unfold M_saveWave at h
  obtain ⟨x1, h2, h⟩ := bindS h
  obtain ⟨m3, h4, h⟩ := bindS h
  have hF5 := um_M_pair h4 hF
  obtain ⟨m6, h7, h⟩ := bindS h
  have hF8 := um_M_writeSign h7 hF5
  obtain ⟨x9, h10, h⟩ := bindS h
  obtain ⟨m11, h12, h⟩ := bindS h
  have hF13 := um_M_writeWord h12 hF8
  obtain ⟨x14, h15, h⟩ := bindS h
  obtain ⟨m16, h17, h⟩ := bindS h
  have hF18 := um_M_writeWord h17 hF13
  obtain ⟨x19, h20, h⟩ := bindS h
  obtain ⟨m21, h22, h⟩ := bindS h
  have hF23 := um_M_pair h22 hF18
  obtain ⟨x24, h25, h⟩ := bindS h
  obtain ⟨m26, h27, h⟩ := bindS h
  have hF28 := um_M_pair h27 hF23
  obtain ⟨x29, h30, h⟩ := bindS h
  obtain ⟨m31, h32, h⟩ := bindS h
  have hF33 := um_M_pair h32 hF28
  obtain ⟨m34, h35, h⟩ := bindS h
  have hF36 := um_M_writeWord h35 hF33
  obtain ⟨m37, h38, h⟩ := bindS h
  have hF39 := um_M_units h38 hF36
  obtain ⟨m40, h41, h⟩ := bindS h
  have hF42 := um_M_ends h41 hF39
  replace h := Option.some.inj h
  subst h
  exact hF42
theorem um_M_saveChanges_9 {μ0 : Mem}  {l2 : Int}  : ∀ {n : Nat} {μ : Mem} {l3 : Int} {r : Mem}, M_saveChanges_9 l2 n μ l3 = some r → UM μ0 μ → UM μ0 r := by
  intro n
  induction n with
  | zero =>
    intro μ l3 r h
    exact noneS h
  | succ n ih =>
    intro μ l3 r h hF
    rw [M_saveChanges_9] at h
    by_cases c17 : 9 ≤ l3
    · replace h := ifT c17 h
      obtain ⟨m1, h2, h⟩ := bindS h
      have hF3 := um_M_ends h2 hF
      replace h := Option.some.inj h
      subst h
      exact hF3
    · replace h := ifF c17 h
      obtain ⟨x4, h5, h⟩ := bindS h
      by_cases c16 : 0 ≤ x4
      · replace h := ifT c16 h
        obtain ⟨m6, h7, h⟩ := bindS h
        have hF8 := um_M_writeWord h7 hF
        by_cases c15 : x4 < 2000
        · replace h := ifT c15 h
          obtain ⟨m9, h10, h⟩ := bindS h
          have hF11 := um_M_writeNumber h10 hF8
          exact ih h hF11
        · replace h := ifF c15 h
          obtain ⟨m12, h13, h⟩ := bindS h
          have hF14 := um_M_pair h13 hF8
          exact ih h hF14
      · replace h := ifF c16 h
        exact ih h hF
theorem um_M_saveChanges {μ0 μ : Mem}  {a1 : Int} {a2 : Int} {r : Mem}  (h : M_saveChanges μ a1 a2 = some r) (hF : UM μ0 μ) : UM μ0 r := by
  unfold M_saveChanges at h
  obtain ⟨m1, h2, h⟩ := bindS h
  have hF3 := um_M_writeNumber h2 hF
  exact um_M_saveChanges_9 h hF3
theorem um_M_saveCue_177 {μ0 : Mem}  {l3 : Int}  : ∀ {n : Nat} {μ : Mem} {l4 : Int} {r : Mem}, M_saveCue_177 l3 n μ l4 = some r → UM μ0 μ → UM μ0 r := by
  intro n
  induction n with
  | zero =>
    intro μ l4 r h
    exact noneS h
  | succ n ih =>
    intro μ l4 r h hF
    rw [M_saveCue_177] at h
    by_cases c13 : 40 ≤ l4
    · replace h := ifT c13 h
      obtain ⟨m1, h2, h⟩ := bindS h
      have hF3 := um_M_writeWord h2 hF
      obtain ⟨m4, h5, h⟩ := bindS h
      have hF6 := um_M_ends h5 hF3
      replace h := Option.some.inj h
      subst h
      exact hF6
    · replace h := ifF c13 h
      obtain ⟨x7, h8, h⟩ := bindS h
      by_cases c12 : x7 ≤ 0
      · replace h := ifT c12 h
        exact ih h hF
      · replace h := ifF c12 h
        obtain ⟨m9, h10, h⟩ := bindS h
        have hF11 := um_M_saveChanges h10 hF
        exact ih h hF11
theorem um_M_saveCue_140 {μ0 μ : Mem}  {l1 : Int} {l2 : Int} {r : Mem}  (h : M_saveCue_140 μ l1 l2 = some r) (hF : UM μ0 μ) : UM μ0 r := by
  unfold M_saveCue_140 at h
  obtain ⟨m1, h2, h⟩ := bindS h
  have hF3 := um_M_ends h2 hF
  obtain ⟨x4, h5, h⟩ := bindS h
  obtain ⟨x6, h7, h⟩ := bindS h
  by_cases c14 : x6 ≠ 0
  · replace h := ifT c14 h
    obtain ⟨m8, h9, h⟩ := bindS h
    have hF10 := um_M_pair h9 hF3
    obtain ⟨m11, h12, h⟩ := bindS h
    have hF13 := um_M_ends h12 hF10
    exact um_M_saveCue_177 h hF13
  · replace h := ifF c14 h
    replace h := Option.some.inj h
    subst h
    exact hF3
theorem um_M_saveCue_99 {μ0 μ : Mem}  {l1 : Int} {l2 : Int} {r : Mem}  (h : M_saveCue_99 μ l1 l2 = some r) (hF : UM μ0 μ) : UM μ0 r := by
  unfold M_saveCue_99 at h
  obtain ⟨x1, h2, h⟩ := bindS h
  by_cases c8 : x1 < 0
  · replace h := ifT c8 h
    exact um_M_saveCue_140 h hF
  · replace h := ifF c8 h
    obtain ⟨x3, h4, h⟩ := bindS h
    obtain ⟨m5, h6, h⟩ := bindS h
    have hF7 := um_M_pair h6 hF
    exact um_M_saveCue_140 h hF7
theorem um_M_saveCue_15 {μ0 : Mem}  {l1 : Int} {l2 : Int}  : ∀ {n : Nat} {μ : Mem} {l3 : Int} {r : Mem}, M_saveCue_15 l1 l2 n μ l3 = some r → UM μ0 μ → UM μ0 r := by
  intro n
  induction n with
  | zero =>
    intro μ l3 r h
    exact noneS h
  | succ n ih =>
    intro μ l3 r h hF
    rw [M_saveCue_15] at h
    by_cases c15 : 4 ≤ l3
    · replace h := ifT c15 h
      obtain ⟨x1, h2, h⟩ := bindS h
      by_cases c8 : x1 < 0
      · replace h := ifT c8 h
        exact um_M_saveCue_99 h hF
      · replace h := ifF c8 h
        obtain ⟨x3, h4, h⟩ := bindS h
        obtain ⟨m5, h6, h⟩ := bindS h
        have hF7 := um_M_pair h6 hF
        exact um_M_saveCue_99 h hF7
    · replace h := ifF c15 h
      obtain ⟨x9, h10, h⟩ := bindS h
      by_cases c14 : x9 ≤ 0
      · replace h := ifT c14 h
        exact ih h hF
      · replace h := ifF c14 h
        obtain ⟨m11, h12, h⟩ := bindS h
        have hF13 := um_M_pair h12 hF
        exact ih h hF13
theorem um_M_saveCue {μ0 μ : Mem}  {a1 : Int} {r : Mem}  (h : M_saveCue μ a1 = some r) (hF : UM μ0 μ) : UM μ0 r := by
  unfold M_saveCue at h
  obtain ⟨x1, h2, h⟩ := bindS h
  obtain ⟨m3, h4, h⟩ := bindS h
  have hF5 := um_M_pair h4 hF
  exact um_M_saveCue_15 h hF5
theorem um_M_savePark {μ0 μ : Mem}  {a1 : Int} {r : Mem}  (h : M_savePark μ a1 = some r) (hF : UM μ0 μ) : UM μ0 r := by
  unfold M_savePark at h
  obtain ⟨x1, h2, h⟩ := bindS h
  by_cases c17 : 0 ≤ x1
  · replace h := ifT c17 h
    obtain ⟨m3, h4, h⟩ := bindS h
    have hF5 := um_M_pair h4 hF
    obtain ⟨m6, h7, h⟩ := bindS h
    have hF8 := um_M_writeSign h7 hF5
    obtain ⟨x9, h10, h⟩ := bindS h
    obtain ⟨m11, h12, h⟩ := bindS h
    have hF13 := um_M_writeNumber h12 hF8
    obtain ⟨m14, h15, h⟩ := bindS h
    have hF16 := um_M_ends h15 hF13
    replace h := Option.some.inj h
    subst h
    exact hF16
  · replace h := ifF c17 h
    replace h := Option.some.inj h
    subst h
    exact hF
theorem um_M_saveEvent {μ0 μ : Mem}  {a1 : Int} {r : Mem}  (h : M_saveEvent μ a1 = some r) (hF : UM μ0 μ) : UM μ0 r := by
  unfold M_saveEvent at h
  obtain ⟨x1, h2, h⟩ := bindS h
  by_cases c22 : 0 ≤ x1
  · replace h := ifT c22 h
    obtain ⟨m3, h4, h⟩ := bindS h
    have hF5 := um_M_pair h4 hF
    obtain ⟨m6, h7, h⟩ := bindS h
    have hF8 := um_M_writeSign h7 hF5
    obtain ⟨x9, h10, h⟩ := bindS h
    obtain ⟨m11, h12, h⟩ := bindS h
    have hF13 := um_M_writeNumber h12 hF8
    obtain ⟨x14, h15, h⟩ := bindS h
    obtain ⟨m16, h17, h⟩ := bindS h
    have hF18 := um_M_pair h17 hF13
    obtain ⟨m19, h20, h⟩ := bindS h
    have hF21 := um_M_ends h20 hF18
    replace h := Option.some.inj h
    subst h
    exact hF21
  · replace h := ifF c22 h
    replace h := Option.some.inj h
    subst h
    exact hF
theorem um_M_save_254 {μ0 : Mem}    : ∀ {n : Nat} {μ : Mem} {l1 : Int} {r : Int × Mem}, M_save_254 n μ l1 = some r → UM μ0 μ → UM μ0 r.2 := by
  intro n
  induction n with
  | zero =>
    intro μ l1 r h
    exact noneS h
  | succ n ih =>
    intro μ l1 r h hF
    rw [M_save_254] at h
    by_cases c6 : (μ 259 39) ≤ l1
    · replace h := ifT c6 h
      replace h := Option.some.inj h
      subst h
      exact hF
    · replace h := ifF c6 h
      obtain ⟨x1, h2, h⟩ := bindS h
      obtain ⟨m3, h4, h⟩ := bindS h
      have hF5 := UMS hF ux_267 h4
      exact ih h hF5
theorem um_M_save_215 {μ0 : Mem}    : ∀ {n : Nat} {μ : Mem} {l1 : Int} {r : Int × Mem}, M_save_215 n μ l1 = some r → UM μ0 μ → UM μ0 r.2 := by
  intro n
  induction n with
  | zero =>
    intro μ l1 r h
    exact noneS h
  | succ n ih =>
    intro μ l1 r h hF
    rw [M_save_215] at h
    by_cases c8 : 10 ≤ l1
    · replace h := ifT c8 h
      by_cases c4 : (μ 259 39) ≤ 6000
      · replace h := ifT c4 h
        obtain ⟨m1, h2, h⟩ := bindS h
        have hF3 := UMP hF ux_259 h2
        exact um_M_save_254 h hF3
      · replace h := ifF c4 h
        replace h := Option.some.inj h
        subst h
        exact hF
    · replace h := ifF c8 h
      obtain ⟨m5, h6, h⟩ := bindS h
      have hF7 := um_M_saveEvent h6 hF
      exact ih h hF7
theorem um_M_save_195 {μ0 : Mem}    : ∀ {n : Nat} {μ : Mem} {l1 : Int} {r : Int × Mem}, M_save_195 n μ l1 = some r → UM μ0 μ → UM μ0 r.2 := by
  intro n
  induction n with
  | zero =>
    intro μ l1 r h
    exact noneS h
  | succ n ih =>
    intro μ l1 r h hF
    rw [M_save_195] at h
    by_cases c4 : 200 ≤ l1
    · replace h := ifT c4 h
      exact um_M_save_215 h hF
    · replace h := ifF c4 h
      obtain ⟨m1, h2, h⟩ := bindS h
      have hF3 := um_M_savePark h2 hF
      exact ih h hF3
theorem um_M_save_175 {μ0 : Mem}    : ∀ {n : Nat} {μ : Mem} {l1 : Int} {r : Int × Mem}, M_save_175 n μ l1 = some r → UM μ0 μ → UM μ0 r.2 := by
  intro n
  induction n with
  | zero =>
    intro μ l1 r h
    exact noneS h
  | succ n ih =>
    intro μ l1 r h hF
    rw [M_save_175] at h
    by_cases c6 : l1 ≤ 0
    · replace h := ifT c6 h
      exact um_M_save_195 h hF
    · replace h := ifF c6 h
      obtain ⟨m1, h2, h⟩ := bindS h
      have hF3 := um_M_saveCue h2 hF
      obtain ⟨x4, h5, h⟩ := bindS h
      exact ih h hF3
theorem um_M_save_137 {μ0 : Mem}    : ∀ {n : Nat} {μ : Mem} {l1 : Int} {r : Int × Mem}, M_save_137 n μ l1 = some r → UM μ0 μ → UM μ0 r.2 := by
  intro n
  induction n with
  | zero =>
    intro μ l1 r h
    exact noneS h
  | succ n ih =>
    intro μ l1 r h hF
    rw [M_save_137] at h
    by_cases c9 : 4 ≤ l1
    · replace h := ifT c9 h
      obtain ⟨x1, h2, h⟩ := bindS h
      exact um_M_save_175 h hF
    · replace h := ifF c9 h
      obtain ⟨x3, h4, h⟩ := bindS h
      by_cases c8 : x3 < 0
      · replace h := ifT c8 h
        exact ih h hF
      · replace h := ifF c8 h
        obtain ⟨m5, h6, h⟩ := bindS h
        have hF7 := um_M_saveWave h6 hF
        exact ih h hF7
theorem um_M_save_118 {μ0 : Mem}    : ∀ {n : Nat} {μ : Mem} {l1 : Int} {r : Int × Mem}, M_save_118 n μ l1 = some r → UM μ0 μ → UM μ0 r.2 := by
  intro n
  induction n with
  | zero =>
    intro μ l1 r h
    exact noneS h
  | succ n ih =>
    intro μ l1 r h hF
    rw [M_save_118] at h
    by_cases c4 : 8 ≤ l1
    · replace h := ifT c4 h
      exact um_M_save_137 h hF
    · replace h := ifF c4 h
      obtain ⟨m1, h2, h⟩ := bindS h
      have hF3 := um_M_saveSubs h2 hF
      exact ih h hF3
theorem um_M_save_99 {μ0 : Mem}    : ∀ {n : Nat} {μ : Mem} {l1 : Int} {r : Int × Mem}, M_save_99 n μ l1 = some r → UM μ0 μ → UM μ0 r.2 := by
  intro n
  induction n with
  | zero =>
    intro μ l1 r h
    exact noneS h
  | succ n ih =>
    intro μ l1 r h hF
    rw [M_save_99] at h
    by_cases c4 : 12 ≤ l1
    · replace h := ifT c4 h
      exact um_M_save_118 h hF
    · replace h := ifF c4 h
      obtain ⟨m1, h2, h⟩ := bindS h
      have hF3 := um_M_savePalette h2 hF
      exact ih h hF3
theorem um_M_save_39 {μ0 : Mem}    : ∀ {n : Nat} {μ : Mem} {l1 : Int} {r : Int × Mem}, M_save_39 n μ l1 = some r → UM μ0 μ → UM μ0 r.2 := by
  intro n
  induction n with
  | zero =>
    intro μ l1 r h
    exact noneS h
  | succ n ih =>
    intro μ l1 r h hF
    rw [M_save_39] at h
    by_cases c16 : 12 ≤ l1
    · replace h := ifT c16 h
      exact um_M_save_99 h hF
    · replace h := ifF c16 h
      obtain ⟨x1, h2, h⟩ := bindS h
      by_cases c15 : x1 ≤ 0
      · replace h := ifT c15 h
        exact ih h hF
      · replace h := ifF c15 h
        obtain ⟨m3, h4, h⟩ := bindS h
        have hF5 := um_M_pair h4 hF
        obtain ⟨m6, h7, h⟩ := bindS h
        have hF8 := um_M_writeSign h7 hF5
        obtain ⟨m9, h10, h⟩ := bindS h
        have hF11 := um_M_units h10 hF8
        obtain ⟨m12, h13, h⟩ := bindS h
        have hF14 := um_M_ends h13 hF11
        exact ih h hF14
theorem um_M_save_12 {μ0 : Mem}    : ∀ {n : Nat} {μ : Mem} {l1 : Int} {r : Int × Mem}, M_save_12 n μ l1 = some r → UM μ0 μ → UM μ0 r.2 := by
  intro n
  induction n with
  | zero =>
    intro μ l1 r h
    exact noneS h
  | succ n ih =>
    intro μ l1 r h hF
    rw [M_save_12] at h
    by_cases c7 : 40 ≤ l1
    · replace h := ifT c7 h
      exact um_M_save_39 h hF
    · replace h := ifF c7 h
      obtain ⟨x1, h2, h⟩ := bindS h
      by_cases c6 : x1 = 0
      · replace h := ifT c6 h
        exact ih h hF
      · replace h := ifF c6 h
        obtain ⟨m3, h4, h⟩ := bindS h
        have hF5 := um_M_savePatch h4 hF
        exact ih h hF5
theorem um_M_save {μ0 μ : Mem}   {r : Int × Mem}  (h : M_save μ = some r) (hF : UM μ0 μ) : UM μ0 r.2 := by
  unfold M_save at h
  obtain ⟨m1, h2, h⟩ := bindS h
  have hF3 := UMP hF ux_259 h2
  obtain ⟨m4, h5, h⟩ := bindS h
  have hF6 := UMP hF3 ux_259 h5
  exact um_M_save_12 h hF6
