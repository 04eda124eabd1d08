-- L3: enter: what both do of a statement
theorem act_rel {B : Int} {X : Tx} {A op vb e : Int} {m0 c m : Mem} {I : List It3} {TL WL : List Q4} {td td' : Int → Int} {r : RW} (E : AE B X A m0 c m) (hsh : SHAPE X td A vb I TL WL td' op) (td0 : ∀ j, 0 ≤ j → j < 12 → td j = -2) (htd : c 242 = td') (hop : c 241 1 = op) (hv : c 241 0 = vb) (hQ : QUD c 10 247 WL) (hl : WL.length ≤ 120) (hF : ∀ x ∈ I, ¬ x.1 = 20 → fitem (m 264) (m 259 29) (td' 11) x = 0) (hU : UNI X c m TL vb e r) : ACT B c m (Ed_perform c) (M_act m) := by
  have row : ∀ k e' its, SETP X TL k e' its → CR c 248 r ∧ ROK r := by
    intro k e' its hS
    rcases hU.2.2.2 with ⟨a, _⟩ | ⟨a, b, _⟩
    · exact absurd a (SETP_n hS)
    · exact ⟨a, b⟩
  rcases hsh with ⟨v, t, h⟩ | ⟨v, t, h⟩ | ⟨v, t, h⟩ | ⟨v, t, h⟩ | ⟨v, t, h⟩ | ⟨v, t, h⟩ | ⟨v, t, h⟩ | ⟨v, t, h⟩ | ⟨v, t, h⟩ | ⟨v, t, h⟩ | ⟨v, t, h⟩ | ⟨v, t, h⟩ | ⟨v, t, h⟩ | ⟨v, t, h⟩ | ⟨v, t, h⟩ | ⟨v, t, h⟩ | ⟨v, t, h⟩
  · subst v; exact ac33 E t hv htd td0 h hF
  · subst v
    obtain ⟨_, _, _, its, _, hS⟩ := h
    exact ac34 (e := e) (TL := TL) E t hv (row _ _ _ hS).1 (row _ _ _ hS).2 hU.1 hU.2.1
  · subst v
    have h' := h
    obtain ⟨_, _, _, _, _, its, _, hS⟩ := h'
    exact ac35 E t hv htd h hF (row _ _ _ hS).1 (row _ _ _ hS).2 hU.1 hU.2.1
  · subst v; exact ac36 E t hv htd td0 h hF
  · subst v; exact ac37 E t hv hop htd h hF hU
  · subst v; exact ac38 E t hv htd td0 h hF hU
  · subst v; exact ac39 E t hv htd td0 h hF
  · subst v; exact ac40 E t hv hop htd td0 h hF
  · subst v; exact ac41 E t hv h hF
  · rcases v with v | v | v | v
    · subst v; exact ac42 E t hv htd h hF
    · subst v; exact ac44 E t hv htd h hF
    · subst v; exact ac45 E t hv htd h hF
    · subst v; exact ac46 E t hv htd h hF
  · subst v; exact ac43 E t hv htd h hF
  · rcases v with v | v
    · subst v; exact ac47 E t hv
    · subst v; exact ac48 E t hv
  · subst v; exact ac49 E t hv htd h hF
  · subst v; exact ac50 E t hv htd h hF
  · subst v; exact ac51 E t hv hop htd h hF
  · subst v; exact ac52 E t hv htd td0 h hF
  · subst v; exact ac78 E t hv h hF hU hQ hl
