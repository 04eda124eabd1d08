-- L3: calls that change little
theorem wr_o {c : Mem} {a i v o : Int} (h : ¬ o = a) : wr c a i v o = c o := funext fun _ => wr_ne (fun e => h e.1)
theorem wr_f {c : Mem} {a i v j : Int} (h : ¬ j = i) : wr c a i v a j = c a j := wr_ne (fun e => h e.2)
theorem PR_congr {B : Int} {c m c' m' : Mem} (h : PR B c m) (e1 : ∀ o, 221 ≤ o → o ≤ 225 → c' o = c o) (e2 : ∀ o, 272 ≤ o → o ≤ 275 → m' o = m o) (e3 : ∀ f, 27 ≤ f → f ≤ 31 → m' 259 f = m 259 f) : PR B c' m' := by
  have h2 := h
  unfold PR PR_G PR_F PR_T PR_K PR_C at h2 ⊢
  rw [e1 221 (by omega) (by omega), e1 222 (by omega) (by omega), e1 223 (by omega) (by omega), e1 224 (by omega) (by omega), e1 225 (by omega) (by omega), e2 272 (by omega) (by omega), e2 273 (by omega) (by omega), e2 274 (by omega) (by omega), e2 275 (by omega) (by omega), e3 27 (by omega) (by omega), e3 28 (by omega) (by omega), e3 29 (by omega) (by omega), e3 30 (by omega) (by omega), e3 31 (by omega) (by omega)]
  exact h2
theorem GR_congr {c m c' m' : Mem} (h : GR c m) (e1 : ∀ o, 226 ≤ o → o ≤ 230 → c' o = c o) (e2 : ∀ o, 276 ≤ o → o ≤ 279 → m' o = m o) (e3 : ∀ f, 34 ≤ f → f ≤ 35 → m' 259 f = m 259 f) : GR c' m' := by
  have h2 := h
  unfold GR GR_f GR_b GR_g GR_k GR_r GR_p at h2 ⊢
  rw [e1 226 (by omega) (by omega), e1 227 (by omega) (by omega), e1 228 (by omega) (by omega), e1 229 (by omega) (by omega), e1 230 (by omega) (by omega), e2 276 (by omega) (by omega), e2 277 (by omega) (by omega), e2 278 (by omega) (by omega), e2 279 (by omega) (by omega), e3 34 (by omega) (by omega), e3 35 (by omega) (by omega)]
  exact h2
theorem TR_congr {c m c' m' : Mem} (h : TR c m) (e1 : ∀ f, 1 ≤ f → f ≤ 3 → c' 1 f = c 1 f) (e2 : c' 2 = c 2) (e3 : ∀ f, 10 ≤ f → f ≤ 12 → m' 259 f = m 259 f) (e4 : m' 267 = m 267) : TR c' m' := by
  have h2 := h
  unfold TR TR_n TR_t TR_f at h2 ⊢
  rw [e1 1 (by omega) (by omega), e1 2 (by omega) (by omega), e1 3 (by omega) (by omega), e2, e3 10 (by omega) (by omega), e3 11 (by omega) (by omega), e3 12 (by omega) (by omega), e4]
  exact h2
theorem HR_congr {c m c' m' : Mem} (h : HR c m) (e1 : c' 1 6 = c 1 6) (e2 : c' 0 0 = c 0 0) (e3 : c' 220 = c 220) (e4 : ∀ o, 281 ≤ o → c' o = c o) (e5 : m' 259 7 = m 259 7) (e6 : m' 259 8 = m 259 8) (e7 : m' 266 = m 266) : HR c' m' := by
  refine ⟨?_, ?_, ?_, ?_⟩
  · have := h.n
    unfold HR_n
    rw [e1, e5, e6]; exact this
  · have := h.p
    unfold HR_p
    rw [e2, e3, e5]; exact this
  · intro k k0 k1
    rw [e5] at k1
    obtain ⟨a, b⟩ := h.s k k0 k1
    have e : pastG m' k = pastG m k := by unfold pastG; rw [e6, e7]
    rw [e, e3, e5]
    refine ⟨SR_congr a (fun o o1 o2 => e4 o ?_), b⟩
    obtain ⟨K, K0, K1, K2, K3, K4, _⟩ := h.p
    obtain ⟨j, j0, j1, j2⟩ := K4 (m 259 7 - 1 - k) (by omega) (by omega)
    omega
  · intro i i0 i1 j j0 j1 hj
    rw [e3] at hj
    have q := h.q i i0 i1 j j0 j1 hj
    unfold SHQ at q ⊢
    rw [e4 (281 + 217 * j + 76) (by omega)]
    exact q
/-- nothing of the show, the player and the past changes -/
theorem INVg {B : Int} {c m c' m' : Mem} (h : INV B c m) (hu : UN c c') (hm : UM m m') (e1 : ∀ o, ¬ o = 1 → ¬ o = 2 → ¬ (226 ≤ o ∧ o ≤ 230) → c' o = c o) (e2 : c' 1 6 = c 1 6) (e3 : ∀ o, ¬ o = 259 → ¬ o = 267 → ¬ (276 ≤ o ∧ o ≤ 279) → m' o = m o) (e4 : ∀ f, (27 ≤ f ∧ f ≤ 31 ∨ f = 7 ∨ f = 8) → m' 259 f = m 259 f) (g : GR c' m') (t : TR c' m') : INV B c' m' := by
  refine ⟨KON_un h.kc hu, KON_um h.km hm, ?_, ?_, ?_, ?_, g, t, ?_⟩
  · show 280 ≤ c' 0 0
    rw [e1 0 (by omega) (by omega) (by omega)]; exact h.o
  · show SR c' 3 (m' 264)
    rw [e3 264 (by omega) (by omega) (by omega)]
    exact SR_congr h.s (fun o a b => e1 o (by omega) (by omega) (by omega))
  · show WF (m' 264)
    rw [e3 264 (by omega) (by omega) (by omega)]; exact h.w
  · exact PR_congr h.p (fun o a b => e1 o (by omega) (by omega) (by omega)) (fun o a b => e3 o (by omega) (by omega) (by omega)) (fun f a b => e4 f (by omega))
  · exact HR_congr h.h e2 (by rw [e1 0 (by omega) (by omega) (by omega)]) (e1 220 (by omega) (by omega) (by omega)) (fun o a => e1 o (by omega) (by omega) (by omega)) (e4 7 (by omega)) (e4 8 (by omega)) (e3 266 (by omega) (by omega) (by omega))
def OP (B B' : Int) (c m : Mem) (D M : Option (Int × Mem)) : Prop := ∃ v c' m', D = some (v, c') ∧ M = some (v, m') ∧ INV B' c' m'
theorem jz01 {x : Int} (h : x = 0 ∨ x = 1) : jz x = x := by rcases h with rfl | rfl <;> decide +kernel
theorem op_fader {B : Int} {c m : Mem} (h : INV B c m) (s l : Int) : OP B B c m (D_fader c s l) (M_fader m s l) := by
  by_cases z : 1 ≤ s ∧ s ≤ 8
  · by_cases z2 : 0 ≤ l ∧ l ≤ 1000
    · have hd : D_fader c s l = some (c 227 s, wr c 227 s l) := by
        unfold D_fader
        (simp only [D_isIn_e, D_isLevel_e, Option.bind_some, bn]); (simp only [if_pos z, if_pos z2])
        simp (disch := omega) only [aI_ok, sI_ok, Option.bind_some]
      have hM : M_fader m s l = some (m 276 (s - 1), wr m 276 (s - 1) l) := by
        unfold M_fader
        (simp only [M_in_e, Option.bind_some, bn]); (simp only [if_pos z, if_pos z2])
        simp (disch := omega) only [jsub_e, aI_ok, sI_ok, Option.bind_some]
      have e := (h.g.f (s - 1) (by omega) (by omega)).1
      rw [show s - 1 + 1 = s by omega] at e
      refine ⟨_, _, _, hd, by rw [hM, e], ?_⟩
      refine INVg h (un_D_fader hd UN.refl) (um_M_fader hM UM.refl) (fun o a b d => wr_o (by omega)) (by rw [wr_o (by decide)]) (fun o a b d => wr_o (by omega)) (fun f _ => by rw [wr_o (by decide)]) ?_ ?_
      · refine ⟨?_, ?_, ?_, ?_, ?_, ?_⟩
        · intro q q0 q1
          obtain ⟨a, b, d⟩ := h.g.f q q0 q1
          by_cases e2 : q = s - 1
          · subst e2
            rw [show s - 1 + 1 = s by omega, wr_eq, wr_eq]; omega
          · rw [wr_f (by omega), wr_f (by omega)]; exact ⟨a, b, d⟩
        · intro q q0 q1; rw [wr_o (by decide), wr_o (by decide)]; exact h.g.b q q0 q1
        · show (wr c 227 s l) 226 4 = _ ∧ _
          rw [wr_o (by decide), wr_o (by decide)]; exact h.g.g
        · show (wr c 227 s l) 226 5 = _ ∧ _
          rw [wr_o (by decide), wr_o (by decide)]; exact h.g.k
        · intro q q0 q1; rw [wr_o (by decide), wr_o (by decide)]; exact h.g.r q q0 q1
        · intro q q0 q1; rw [wr_o (by decide), wr_o (by decide)]; exact h.g.p q q0 q1
      · exact TR_congr h.t (fun f _ _ => by rw [wr_o (by decide)]) (wr_o (by decide)) (fun f _ _ => by rw [wr_o (by decide)]) (wr_o (by decide))
    · refine ⟨-4, c, m, ?_, ?_, h⟩
      · unfold D_fader; (simp only [D_isIn_e, D_isLevel_e, Option.bind_some, bn]); (simp only [if_pos z, if_neg z2])
      · unfold M_fader; (simp only [M_in_e, Option.bind_some, bn]); (simp only [if_pos z, if_neg z2])
  · refine ⟨-2, c, m, ?_, ?_, h⟩
    · unfold D_fader; (simp only [D_isIn_e, Option.bind_some, bn]); (simp only [if_neg z])
    · unfold M_fader; (simp only [M_in_e, Option.bind_some, bn]); (simp only [if_neg z])
theorem op_bump {B : Int} {c m : Mem} (h : INV B c m) (s l : Int) (hl : l = 0 ∨ l = 1) : OP B B c m (D_bump c s l) (M_bump m s l) := by
  by_cases z : 1 ≤ s ∧ s ≤ 8
  · have hd : D_bump c s l = some (if c 228 s = 0 then 0 else 1, wr c 228 s l) := by
      unfold D_bump D_bump_29
      (simp only [D_isIn_e, Option.bind_some, bn]); (simp only [if_pos z, jz01 hl])
      simp (disch := omega) only [aI_ok, sI_ok, Option.bind_some]
      split <;> rfl
    have hM : M_bump m s l = some (if m 277 (s - 1) = 0 then 0 else 1, wr m 277 (s - 1) l) := by
      unfold M_bump
      (simp only [M_in_e, Option.bind_some, bn]); (simp only [if_pos z, jz01 hl])
      simp (disch := omega) only [jsub_e, aI_ok, sI_ok, Option.bind_some]
      split <;> rfl
    have e := (h.g.b (s - 1) (by omega) (by omega)).1
    rw [show s - 1 + 1 = s by omega] at e
    refine ⟨_, _, _, hd, by rw [hM, e], ?_⟩
    refine INVg h (un_D_bump hd UN.refl) (um_M_bump hM UM.refl) (fun o a b d => wr_o (by omega)) (by rw [wr_o (by decide)]) (fun o a b d => wr_o (by omega)) (fun f _ => by rw [wr_o (by decide)]) ?_ ?_
    · refine ⟨?_, ?_, ?_, ?_, ?_, ?_⟩
      · intro q q0 q1; rw [wr_o (by decide), wr_o (by decide)]; exact h.g.f q q0 q1
      · intro q q0 q1
        have a := h.g.b q q0 q1
        by_cases e2 : q = s - 1
        · subst e2
          rw [show s - 1 + 1 = s by omega, wr_eq, wr_eq]; exact ⟨rfl, hl⟩
        · rw [wr_f (by omega), wr_f (by omega)]; exact a
      · show (wr c 228 s l) 226 4 = _ ∧ _
        rw [wr_o (by decide), wr_o (by decide)]; exact h.g.g
      · show (wr c 228 s l) 226 5 = _ ∧ _
        rw [wr_o (by decide), wr_o (by decide)]; exact h.g.k
      · intro q q0 q1; rw [wr_o (by decide), wr_o (by decide)]; exact h.g.r q q0 q1
      · intro q q0 q1; rw [wr_o (by decide), wr_o (by decide)]; exact h.g.p q q0 q1
    · exact TR_congr h.t (fun f _ _ => by rw [wr_o (by decide)]) (wr_o (by decide)) (fun f _ _ => by rw [wr_o (by decide)]) (wr_o (by decide))
  · refine ⟨-2, c, m, ?_, ?_, h⟩
    · unfold D_bump; (simp only [D_isIn_e, Option.bind_some, bn]); (simp only [if_neg z])
    · unfold M_bump; (simp only [M_in_e, Option.bind_some, bn]); (simp only [if_neg z])
theorem op_run {B : Int} {c m : Mem} (h : INV B c m) (s l : Int) (hl : l = 0 ∨ l = 1) : OP B B c m (D_run c s l) (M_run m s l) := by
  by_cases z : 1 ≤ s ∧ s ≤ 4
  · have hd : D_run c s l = some (if c 229 s = 0 then 0 else 1, wr c 229 s l) := by
      unfold D_run D_run_28
      (simp only [D_isIn_e, Option.bind_some, bn]); (simp only [if_pos z, jz01 hl])
      simp (disch := omega) only [aI_ok, sI_ok, Option.bind_some]
      split <;> rfl
    have hM : M_run m s l = some (if m 278 (s - 1) = 0 then 0 else 1, wr m 278 (s - 1) l) := by
      unfold M_run
      (simp only [M_in_e, Option.bind_some, bn]); (simp only [if_pos z, jz01 hl])
      simp (disch := omega) only [jsub_e, aI_ok, sI_ok, Option.bind_some]
      split <;> rfl
    have e := (h.g.r (s - 1) (by omega) (by omega)).1
    rw [show s - 1 + 1 = s by omega] at e
    refine ⟨_, _, _, hd, by rw [hM, e], ?_⟩
    refine INVg h (un_D_run hd UN.refl) (um_M_run hM UM.refl) (fun o a b d => wr_o (by omega)) (by rw [wr_o (by decide)]) (fun o a b d => wr_o (by omega)) (fun f _ => by rw [wr_o (by decide)]) ?_ ?_
    · refine ⟨?_, ?_, ?_, ?_, ?_, ?_⟩
      · intro q q0 q1; rw [wr_o (by decide), wr_o (by decide)]; exact h.g.f q q0 q1
      · intro q q0 q1; rw [wr_o (by decide), wr_o (by decide)]; exact h.g.b q q0 q1
      · show (wr c 229 s l) 226 4 = _ ∧ _
        rw [wr_o (by decide), wr_o (by decide)]; exact h.g.g
      · show (wr c 229 s l) 226 5 = _ ∧ _
        rw [wr_o (by decide), wr_o (by decide)]; exact h.g.k
      · intro q q0 q1
        have a := h.g.r q q0 q1
        by_cases e2 : q = s - 1
        · subst e2
          rw [show s - 1 + 1 = s by omega, wr_eq, wr_eq]; exact ⟨rfl, hl⟩
        · rw [wr_f (by omega), wr_f (by omega)]; exact a
      · intro q q0 q1; rw [wr_o (by decide), wr_o (by decide)]; exact h.g.p q q0 q1
    · exact TR_congr h.t (fun f _ _ => by rw [wr_o (by decide)]) (wr_o (by decide)) (fun f _ _ => by rw [wr_o (by decide)]) (wr_o (by decide))
  · refine ⟨-2, c, m, ?_, ?_, h⟩
    · unfold D_run; (simp only [D_isIn_e, Option.bind_some, bn]); (simp only [if_neg z])
    · unfold M_run; (simp only [M_in_e, Option.bind_some, bn]); (simp only [if_neg z])
theorem op_grand {B : Int} {c m : Mem} (h : INV B c m) (l : Int) : OP B B c m (D_grand c l) (M_grand m l) := by
  by_cases z : 0 ≤ l ∧ l ≤ 1000
  · have hd : D_grand c l = some (c 226 4, wr c 226 4 l) := by
      unfold D_grand
      (simp only [D_isLevel_e, Option.bind_some, bn]); (simp only [if_pos z])
    have hM : M_grand m l = some (m 259 34, wr m 259 34 l) := by
      unfold M_grand
      (simp only [M_in_e, Option.bind_some, bn]); (simp only [if_pos z])
    refine ⟨_, _, _, hd, by rw [hM, (h.g.g).1], ?_⟩
    refine INVg h (un_D_grand hd UN.refl) (um_M_grand hM UM.refl) (fun o a b d => wr_o (by omega)) (by rw [wr_o (by decide)]) (fun o a b d => wr_o (by omega)) (fun f hf => wr_f (by omega)) ?_ ?_
    · refine ⟨?_, ?_, ?_, ?_, ?_, ?_⟩
      · intro q q0 q1; rw [wr_o (by decide), wr_o (by decide)]; exact h.g.f q q0 q1
      · intro q q0 q1; rw [wr_o (by decide), wr_o (by decide)]; exact h.g.b q q0 q1
      · show (wr c 226 4 l) 226 4 = (wr m 259 34 l) 259 34 ∧ _
        rw [wr_eq, wr_eq]; exact ⟨rfl, z⟩
      · show (wr c 226 4 l) 226 5 = (wr m 259 34 l) 259 35 ∧ _
        rw [wr_f (by decide), wr_f (by decide)]; exact h.g.k
      · intro q q0 q1; rw [wr_o (by decide), wr_o (by decide)]; exact h.g.r q q0 q1
      · intro q q0 q1; rw [wr_o (by decide), wr_o (by decide)]; exact h.g.p q q0 q1
    · exact TR_congr h.t (fun f _ _ => by rw [wr_o (by decide)]) (wr_o (by decide)) (fun f _ _ => wr_f (by omega)) (wr_o (by decide))
  · refine ⟨-4, c, m, ?_, ?_, h⟩
    · unfold D_grand; (simp only [D_isLevel_e, Option.bind_some, bn]); (simp only [if_neg z])
    · unfold M_grand; (simp only [M_in_e, Option.bind_some, bn]); (simp only [if_neg z])
theorem op_black {B : Int} {c m : Mem} (h : INV B c m) (l : Int) (hl : l = 0 ∨ l = 1) : OP B B c m (D_black c l) (M_black m l) := by
  obtain ⟨k1, k2⟩ := h.g.k
  have hd : D_black c l = some (c 226 5, wr c 226 5 l) := by
    unfold D_black pz
    rw [if_pos hl]
    simp only [Option.bind_some]
    rw [if_pos (by rw [k1]; exact k2)]
  have hM : M_black m l = some (m 259 35, wr m 259 35 l) := by
    unfold M_black pz
    rw [if_pos hl]
    simp only [Option.bind_some]
    rw [if_pos k2]
  refine ⟨_, _, _, hd, by rw [hM, k1], ?_⟩
  refine INVg h (un_D_black hd UN.refl) (um_M_black hM UM.refl) (fun o a b d => wr_o (by omega)) (by rw [wr_o (by decide)]) (fun o a b d => wr_o (by omega)) (fun f hf => wr_f (by omega)) ?_ ?_
  · refine ⟨?_, ?_, ?_, ?_, ?_, ?_⟩
    · intro q q0 q1; rw [wr_o (by decide), wr_o (by decide)]; exact h.g.f q q0 q1
    · intro q q0 q1; rw [wr_o (by decide), wr_o (by decide)]; exact h.g.b q q0 q1
    · show (wr c 226 5 l) 226 4 = (wr m 259 35 l) 259 34 ∧ _
      rw [wr_f (by decide), wr_f (by decide)]; exact h.g.g
    · show (wr c 226 5 l) 226 5 = (wr m 259 35 l) 259 35 ∧ _
      rw [wr_eq, wr_eq]; exact ⟨rfl, hl⟩
    · intro q q0 q1; rw [wr_o (by decide), wr_o (by decide)]; exact h.g.r q q0 q1
    · intro q q0 q1; rw [wr_o (by decide), wr_o (by decide)]; exact h.g.p q q0 q1
  · exact TR_congr h.t (fun f _ _ => by rw [wr_o (by decide)]) (wr_o (by decide)) (fun f _ _ => wr_f (by omega)) (wr_o (by decide))
