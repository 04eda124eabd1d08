-- L3: levels
def sbv (m : Mem) (s u : Int) : Int := jdiv (jmul (m 264 (840 + 40 * s + u)) (if m 277 s = 0 then m 276 s else 1000)) 1000
def sbs (m : Mem) (u s l : Int) : Int := if 0 ≤ m 264 (840 + 40 * s + u) ∧ m 264 (1160 + s) = 0 then mxI l (sbv m s u) else l
def plM (f : Int → Int) (n u : Int) : Int := itr (fun q s => if f q = u then q else s) (-1) n.toNat
def phs (m : Mem) (w k : Int) : Int := q2i (qrem (qadd (qmul (m 259 27) (m 264 (1171 + 46 * w))) (jdiv (jmul k (m 264 (1172 + 46 * w))) (m 264 (1173 + 46 * w)))) 1000)
def adf (m : Mem) (w f : Int) : Int := if m 264 (1168 + 46 * w) = 2 then (if f < 500 then 0 else m 264 (1170 + 46 * w)) else jdiv (jmul (m 264 (1170 + 46 * w)) (if m 264 (1168 + 46 * w) = 0 then f else if f < 500 then jmul 2 f else jsub 2000 (jmul 2 f))) 1000
def adw (m : Mem) (w u : Int) : Int := if plM (fun i => m 264 (1174 + 46 * w + i)) (m 264 (1173 + 46 * w)) u < 0 then 0 else adf m w (phs m w (plM (fun i => m 264 (1174 + 46 * w + i)) (m 264 (1173 + 46 * w)) u))
def wvs (m : Mem) (u p w l : Int) : Int := if m 278 w ≠ 0 ∧ 0 ≤ m 264 (1168 + 46 * w) ∧ m 264 (1169 + 46 * w) = p then mnI 1000 (jadd l (adw m w u)) else l
def lv0 (m : Mem) (u p : Int) : Int := if m 264 (12362 + (9 * u + p)) < 0 then clv (m 272) (m 273) (m 274) (m 275) (m 259 28) (9 * u + p) else lev (m 264) (m 264 (12362 + (9 * u + p))) p
def lv1 (m : Mem) (u p : Int) : Int := if p = 0 ∧ m 264 (12362 + (9 * u + p)) < 0 then itr (sbs m u) (lv0 m u p) 8 else lv0 m u p
def lvA (m : Mem) (u p : Int) : Int := itr (wvs m u p) (lv1 m u p) 4
theorem plM_s (f : Int → Int) (n u : Int) (n0 : 0 ≤ n) : (plM f n u = -1 ∧ ∀ i, 0 ≤ i → i < n → f i ≠ u) ∨ (0 ≤ plM f n u ∧ plM f n u < n ∧ f (plM f n u) = u) := by
  have h := itr_inv (fun q s => if f q = u then q else s) (-1) (fun i s => (s = -1 ∧ ∀ r, 0 ≤ r → r < i → f r ≠ u) ∨ (0 ≤ s ∧ s < i ∧ f s = u)) (Or.inl ⟨rfl, fun r h1 h2 => by omega⟩) (by
    intro k s h
    split
    · rename_i hc
      exact Or.inr ⟨by omega, by omega, hc⟩
    · rename_i hc
      rcases h with ⟨h1, h2⟩ | ⟨h1, h2, h3⟩
      · refine Or.inl ⟨h1, fun r r0 r1 => ?_⟩
        by_cases e : r = k
        · subst e; exact hc
        · exact h2 r r0 (by omega)
      · exact Or.inr ⟨h1, by omega, h3⟩) n.toNat
  rw [show ((n.toNat : Nat) : Int) = n by omega] at h
  exact h
theorem M_added_e {μ : Mem} (hw : WF (μ 264)) {w u : Int} (w0 : 0 ≤ w) (w1 : w < 4) (hs : 0 ≤ μ 264 (1168 + 46 * w)) : M_added μ (1168 + 46 * w) u = some (adw μ w u) := by
  obtain ⟨_, v1, v2⟩ := hw.w w w0 w1
  obtain ⟨_, _, _, _, _, _, _, _, n0, nr⟩ := v2 hs
  obtain ⟨_, n1, _, _⟩ := nr
  unfold M_added
  simp (disch := omega) only [jadd_e, aI_ok, Option.bind_some]
  rw [show 1168 + 46 * w + 5 = 1173 + 46 * w by omega]
  refine loopZ (fun k s i => M_added_15 μ (1168 + 46 * w) u (μ 264 (1173 + 46 * w)) k s i) (fun q s => if μ 264 (1174 + 46 * w + q) = u then q else s) (-1) (μ 264 (1173 + 46 * w)).toNat (μ 264 (1173 + 46 * w)) (by omega) ?_ ?_ big (by have := big_ge; omega)
  · intro k i s h0 h1
    rw [M_added_15, if_neg (show ¬ μ 264 (1173 + 46 * w) ≤ i by omega)]
    simp (disch := omega) only [jadd_e, aI_ok, Option.bind_some]
    rw [show 1168 + 46 * w + 6 + i = 1174 + 46 * w + i by omega]
    by_cases e : μ 264 (1174 + 46 * w + i) = u
    · rw [if_neg (fun x => x e), if_pos e]
    · rw [if_pos e, if_neg e]
  · intro k
    show M_added_15 μ (1168 + 46 * w) u (μ 264 (1173 + 46 * w)) (k + 1) (plM (fun i => μ 264 (1174 + 46 * w + i)) (μ 264 (1173 + 46 * w)) u) (μ 264 (1173 + 46 * w)) = _
    rw [M_added_15, if_pos (Int.le_refl _)]
    unfold adw adf phs M_added_137
    generalize plM (fun i => μ 264 (1174 + 46 * w + i)) (μ 264 (1173 + 46 * w)) u = pl
    simp (disch := omega) only [jadd_e, aI_ok, Option.bind_some]
    rw [show 1168 + 46 * w + 3 = 1171 + 46 * w by omega, show 1168 + 46 * w + 4 = 1172 + 46 * w by omega, show 1168 + 46 * w + 2 = 1170 + 46 * w by omega]
    generalize q2i (qrem (qadd (qmul (μ 259 27) (μ 264 (1171 + 46 * w))) (jdiv (jmul pl (μ 264 (1172 + 46 * w))) (μ 264 (1173 + 46 * w)))) 1000) = ph
    repeat' split
    all_goals first | (exfalso; omega) | rfl
theorem Row_placeOf_e {c : Mem} {f : Int → Int} {o u n : Int} (hO : 280 ≤ c 0 0) (h0 : 94 ≤ o) (h1 : o < 130) (h2 : (o - 94) % 2 = 0) (hn : c o 1 = n) (hr : RowOK f n) (hf : ∀ i, 0 ≤ i → i < n → c (o + 1) i = f i + 1) : Row_placeOf c o (u + 1) = some (plM f n u) := by
  obtain ⟨n0, n1, _, nd⟩ := hr
  have key : ∀ (N : Nat) (i : Int), 0 ≤ i → i ≤ n → n - i < N → (∀ j, 0 ≤ j → j < i → f j ≠ u) → Row_placeOf_2 c o (u + 1) N i = some (plM f n u) := by
    intro N
    induction N with
    | zero => intro i _ _ h; omega
    | succ N ih =>
      intro i i0 i1 i2 hi
      rw [Row_placeOf_2, gf_c (kd_row h0 h1 h2), hn, Option.bind_some]
      by_cases e : n ≤ i
      · rw [if_pos e]
        rcases plM_s f n u n0 with ⟨a, _⟩ | ⟨a, b, d⟩
        · rw [a]
        · exact absurd d (hi _ a (by omega))
      · rw [if_neg e, show gO c 5 1 o = some (o + 1) from if_pos ⟨kd_row h0 h1 h2, by omega, by omega⟩]
        simp (disch := omega) only [Option.bind_some, rd_row, jadd_e]
        rw [hf i i0 (by omega)]
        by_cases e2 : f i = u
        · rw [if_neg (show ¬ f i + 1 ≠ u + 1 by omega)]
          rcases plM_s f n u n0 with ⟨_, b⟩ | ⟨a, b, d⟩
          · exact absurd e2 (b i i0 (by omega))
          · congr 1
            by_cases e3 : i = plM f n u
            · exact e3
            · exfalso
              by_cases e4 : i < plM f n u
              · exact nd _ _ i0 e4 b (e2.trans d.symm)
              · exact nd _ _ a (by omega) (by omega) (d.trans e2.symm)
        · rw [if_pos (show f i + 1 ≠ u + 1 by omega)]
          refine ih (i + 1) (by omega) (by omega) (by omega) (fun j j0 j1 => ?_)
          by_cases e5 : j = i
          · rw [e5]; exact e2
          · exact hi j j0 (by omega)
  exact key big 0 (by omega) (by omega) (by have := big_ge; omega) (fun j j0 j1 => by omega)
theorem Sg_addedBy_e {B : Int} {c m : Mem} (h : INV B c m) {w u : Int} (w0 : 0 ≤ w) (w1 : w < 4) (hs : 0 ≤ m 264 (1168 + 46 * w)) : Sg_addedBy c (w + 1) (u + 1) = some (adw m w u) := by
  obtain ⟨_, v1, v2⟩ := h.w.w w w0 w1
  obtain ⟨_, _, _, _, _, _, _, _, n0, nr⟩ := v2 hs
  obtain ⟨s1, s2, _⟩ := S3.w h.s w w0 w1
  obtain ⟨t1, t2, t3⟩ := s2 hs
  have nr2 := nr
  obtain ⟨_, n1, _, _⟩ := nr2
  have hr : (122 + 2 * w : Int) ≠ 0 ∧ kd (122 + 2 * w) = 5 := ⟨by omega, kd_row (by omega) (by omega) (by omega)⟩
  unfold Sg_addedBy
  rw [ar_ok (by omega) (by omega), Option.bind_some, show (120 + 2 * (w + 1) : Int) = 122 + 2 * w by omega, if_pos hr]
  rw [Row_placeOf_e h.o (by omega) (by omega) (by omega) t2 nr (fun i a b => by rw [show (122 + 2 * w + 1 : Int) = 123 + 2 * w by omega]; exact t3 i a b), Option.bind_some]
  rw [gf_c hr.2, t2]
  simp (disch := omega) only [ar_ok, Option.bind_some, rd_wav]
  rw [show (73 + 1 * (w + 1) : Int) = 74 + w by omega, s1, t1 2 (by omega) (by omega), t1 3 (by omega) (by omega), t1 4 (by omega) (by omega)]
  rw [show 1168 + 46 * w + 3 = 1171 + 46 * w by omega, show 1168 + 46 * w + 4 = 1172 + 46 * w by omega, show 1168 + 46 * w + 2 = 1170 + 46 * w by omega, (h.p.K).2.2.1]
  unfold adw adf phs
  generalize plM (fun i => m 264 (1174 + 46 * w + i)) (m 264 (1173 + 46 * w)) u = pl
  generalize q2i (qrem (qadd (qmul (m 259 27) (m 264 (1171 + 46 * w))) (jdiv (jmul pl (m 264 (1172 + 46 * w))) (m 264 (1173 + 46 * w)))) 1000) = ph
  repeat' split
  all_goals first | (exfalso; omega) | rfl
