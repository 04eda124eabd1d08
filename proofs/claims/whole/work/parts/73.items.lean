-- L3: what the text is made of
theorem EMb {N1 N2 : Int} {c0 m0 : Mem} {D M : Option Mem} {F G : Mem → Option Mem} (h : EM N1 c0 m0 D M) (k : ∀ c m, WV N1 c0 m0 c m → EM N2 c0 m0 (F c) (G m)) : EM N2 c0 m0 (D.bind F) (M.bind G) := by
  obtain ⟨c, m, e1, e2, e3⟩ := h
  rw [e1, e2]
  exact k c m e3
theorem EMs {N : Int} {c0 m0 c m : Mem} (h : WV N c0 m0 c m) : EM N c0 m0 (some c) (some m) := ⟨c, m, rfl, rfl, h⟩
theorem WVw {N N' : Int} {c0 m0 c m : Mem} (h : WV N c0 m0 c m) (h1 : N ≤ N') (h2 : N' ≤ 1000000000) : WV N' c0 m0 c m := ⟨h.t, h.s, by have := h.n; omega, h.a, h.z, h.b, h.c, h.m, h.f⟩
theorem EMw {N N' : Int} {c0 m0 : Mem} {D M : Option Mem} (h : EM N c0 m0 D M) (h1 : N ≤ N') (h2 : N' ≤ 1000000000) : EM N' c0 m0 D M := by
  obtain ⟨c, m, e1, e2, e3⟩ := h
  exact ⟨c, m, e1, e2, WVw e3 h1 h2⟩
theorem wordE {N : Int} {c0 m0 c m : Mem} {w wc : Int} (h : WV N c0 m0 c m) (hc : KON c0) (hm : KON m0) (hN : N + 10 ≤ 1000000000) (w0 : 0 ≤ w) (w1 : w < 70) (e : tbl piT w = wc) : EM (N + 10) c0 m0 (Sv_putWord c wc) (M_writeWord m w) := by
  rw [← e]; exact word_op h hc hm hN w0 w1
theorem pairE {N : Int} {c0 m0 c m : Mem} {w wc v : Int} (h : WV N c0 m0 c m) (hc : KON c0) (hm : KON m0) (hN : N + 15 ≤ 1000000000) (w0 : 0 ≤ w) (w1 : w < 70) (e : tbl piT w = wc) (v0 : 0 ≤ v) (v1 : v ≤ 9999) : EM (N + 15) c0 m0 (Sv_putPair c wc v) (M_pair m w v) := by
  unfold Sv_putPair M_pair
  refine EMb (wordE h hc hm (by omega) w0 w1 e) (fun c m h => ?_)
  have r := number_op (v := v) h (by omega) v0 v1
  rw [show N + 10 + 5 = N + 15 by omega] at r
  exact EMb r (fun c m h => EMs h)
theorem headE {N : Int} {c0 m0 c m : Mem} {w wc v : Int} (h : WV N c0 m0 c m) (hc : KON c0) (hm : KON m0) (hN : N + 15 ≤ 1000000000) (w0 : 0 ≤ w) (w1 : w < 70) (e : tbl piT w = wc) (v0 : 0 ≤ v) (v1 : v ≤ 9999) : EM (N + 15) c0 m0 (Sv_writeHead c wc v) (M_pair m w v) := by
  unfold Sv_writeHead M_pair
  refine EMb (wordE h hc hm (by omega) w0 w1 e) (fun c m h => ?_)
  have r := number_op (v := v) h (by omega) v0 v1
  rw [show N + 10 + 5 = N + 15 by omega] at r
  exact EMb r (fun c m h => EMs h)
theorem pi_kind : ∀ k ∈ List.range 9, tbl piT (52 + (k : Int)) = (k : Int) := by decide +kernel
theorem pi_par : ∀ k ∈ List.range 9, tbl piT (61 + (k : Int)) = 9 + (k : Int) := by decide +kernel
theorem pi_shape : ∀ k ∈ List.range 3, tbl piT (37 + (k : Int)) = 18 + (k : Int) := by decide +kernel
theorem pi_up : ∀ k ∈ List.range 6, tbl piT (40 + (k : Int)) = 21 + (k : Int) := by decide +kernel
theorem piX {a b n : Int} (L : ∀ k ∈ List.range n.toNat, tbl piT (a + (k : Int)) = b + (k : Int)) {k : Int} (k0 : 0 ≤ k) (k1 : k < n) : tbl piT (a + k) = b + k := by
  obtain ⟨k', rfl⟩ : ∃ k' : Nat, k = (k' : Int) := ⟨k.toNat, by omega⟩
  exact L k' (List.mem_range.mpr (by omega))
theorem pi_k {k : Int} (k0 : 0 ≤ k) (k1 : k < 9) : tbl piT (52 + k) = k := by
  obtain ⟨k', rfl⟩ : ∃ k' : Nat, k = (k' : Int) := ⟨k.toNat, by omega⟩
  exact pi_kind k' (List.mem_range.mpr (by omega))
theorem patch_op {B N : Int} {c0 m0 c m : Mem} (hI : INV B c0 m0) (h : WV N c0 m0 c m) (hN : N + 100 ≤ 1000000000) {u : Int} (u0 : 0 ≤ u) (u1 : u < 40) (hp : 0 ≤ m0 264 (6 * u)) : EM (N + 100) c0 m0 (Sv_writePatch c (u + 1) (6 + u)) (M_savePatch m u) := by
  obtain ⟨s1, s2⟩ := S3.u hI.s u u0 u1
  obtain ⟨_, k1, kp⟩ := hI.w.u u u0 u1
  obtain ⟨x1, x2, x3, x4, x5, x6, x7, x8⟩ := kp hp
  have wd := wdK_r hp (by omega)
  have rc : ∀ (c : Mem) (m : Mem) (N : Int) (j : Int), WV N c0 m0 c m → 1 ≤ j → j ≤ 5 → rdI c (6 + u) j = some (m0 264 (6 * u + j)) ∧ aI m 264 12943 (jadd (6 * u) j) = some (m0 264 (6 * u + j)) := by
    intro c m N j h j0 j1
    refine ⟨?_, ?_⟩
    · rw [rd_pat (by omega) (by omega) (by omega) (by omega), h.c (6 + u) (by omega) (by omega), s2 hp j j0 j1]
    · rw [jadd_e (by omega) (by omega), aI_ok (by omega) (by omega), h.m 264 (by omega) (by omega)]
  have r0 : ∀ (c : Mem) (m : Mem) (N : Int), WV N c0 m0 c m → rdI c (6 + u) 0 = some (m0 264 (6 * u)) ∧ aI m 264 12943 (6 * u) = some (m0 264 (6 * u)) := by
    intro c m N h
    refine ⟨?_, ?_⟩
    · rw [rd_pat (by omega) (by omega) (by omega) (by omega), h.c (6 + u) (by omega) (by omega), s1]
    · rw [aI_ok (by omega) (by omega), h.m 264 (by omega) (by omega)]
  -- the ends, from behind
  have h82 : ∀ (c m : Mem) (N : Int), WV N c0 m0 c m → N + 2 ≤ 1000000000 → EM (N + 2) c0 m0 (Sv_writePatch_82 c) (M_savePatch_127 m) := by
    intro c m N h hN
    unfold Sv_writePatch_82 M_savePatch_127
    exact EMb (close_op h hN) (fun c m h => EMs h)
  have h69 : ∀ (c m : Mem) (N : Int), WV N c0 m0 c m → N + 12 ≤ 1000000000 → EM (N + 12) c0 m0 (Sv_writePatch_69 c (6 + u)) (M_savePatch_109 m (6 * u)) := by
    intro c m N h hN
    obtain ⟨a1, a2⟩ := rc c m N 5 h (by omega) (by omega)
    unfold Sv_writePatch_69 M_savePatch_109
    rw [a1, a2, Option.bind_some, Option.bind_some]
    by_cases z : m0 264 (6 * u + 5) = 1
    · rw [if_neg (fun x => x z), if_neg (fun x => x z)]
      refine EMb (wordE h hI.kc hI.km (by omega) (w := 8) (by omega) (by omega) (by decide)) (fun c m h => ?_)
      exact EMw (h82 c m _ h (by omega)) (by omega) hN
    · rw [if_pos z, if_pos z]
      exact EMw (h82 c m N h (by omega)) (by omega) hN
  have h56 : ∀ (c m : Mem) (N : Int), WV N c0 m0 c m → N + 22 ≤ 1000000000 → EM (N + 22) c0 m0 (Sv_writePatch_56 c (6 + u)) (M_savePatch_91 m (6 * u)) := by
    intro c m N h hN
    obtain ⟨a1, a2⟩ := rc c m N 4 h (by omega) (by omega)
    unfold Sv_writePatch_56 M_savePatch_91
    rw [a1, a2, Option.bind_some, Option.bind_some]
    by_cases z : m0 264 (6 * u + 4) = 1
    · rw [if_neg (fun x => x z), if_neg (fun x => x z)]
      refine EMb (wordE h hI.kc hI.km (by omega) (w := 7) (by omega) (by omega) (by decide)) (fun c m h => ?_)
      exact EMw (h69 c m _ h (by omega)) (by omega) hN
    · rw [if_pos z, if_pos z]
      exact EMw (h69 c m N h (by omega)) (by omega) hN
  have h41 : ∀ (c m : Mem) (N : Int), WV N c0 m0 c m → N + 40 ≤ 1000000000 → EM (N + 40) c0 m0 (Sv_writePatch_41 c (6 + u)) (M_savePatch_66 m (6 * u)) := by
    intro c m N h hN
    obtain ⟨a1, a2⟩ := rc c m N 3 h (by omega) (by omega)
    unfold Sv_writePatch_41 M_savePatch_66
    rw [a1, a2, Option.bind_some, Option.bind_some, Option.bind_some, Option.bind_some]
    by_cases z : m0 264 (6 * u + 3) = 0
    · rw [if_pos z, if_pos z]
      exact EMw (h56 c m N h (by omega)) (by omega) hN
    · rw [if_neg z, if_neg z]
      refine EMb (pairE h hI.kc hI.km (by omega) (w := 6) (by omega) (by omega) (by decide) x5 (by omega)) (fun c m h => ?_)
      exact EMw (h56 c m _ h (by omega)) (by omega) hN
  unfold Sv_writePatch M_savePatch
  rw [jmul_e (by omega) (by omega), Option.bind_some, jadd_e (x := u) (by omega) (by omega)]
  refine EMb (headE h hI.kc hI.km (by omega) (w := 3) (by omega) (by omega) (by decide) (by omega) (by omega)) (fun c m h => ?_)
  obtain ⟨a1, a2⟩ := r0 c m _ h
  rw [a1, a2, Option.bind_some, Option.bind_some, jadd_e (x := 52) (by omega) (by omega)]
  refine EMb (wordE h hI.kc hI.km (by omega) (w := 52 + m0 264 (6 * u)) (by omega) (by omega) (pi_k hp (by omega))) (fun c m h => ?_)
  obtain ⟨a1, a2⟩ := rc c m _ 1 h (by omega) (by omega)
  rw [a1, a2, Option.bind_some, Option.bind_some]
  refine EMb (pairE h hI.kc hI.km (by omega) (w := 4) (by omega) (by omega) (by decide) (by omega) (by omega)) (fun c m h => ?_)
  obtain ⟨a1, a2⟩ := rc c m _ 2 h (by omega) (by omega)
  rw [a1, a2, Option.bind_some, Option.bind_some, Option.bind_some, Option.bind_some]
  by_cases z : m0 264 (6 * u + 2) = 1000
  · rw [if_pos z, if_pos z]
    exact EMw (h41 c m _ h (by omega)) (by omega) hN
  · rw [if_neg z, if_neg z]
    refine EMb (pairE h hI.kc hI.km (by omega) (w := 5) (by omega) (by omega) (by decide) x3 (by omega)) (fun c m h => ?_)
    exact EMw (h41 c m _ h (by omega)) (by omega) hN
