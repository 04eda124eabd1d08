-- L3: hold, end, feed
theorem INVp {B B' : Int} {c m c' m' : Mem} (h : INV B c m) (hu : UN c c') (hm : UM m m') (e1 : ∀ o, ¬ (221 ≤ o ∧ o ≤ 225) → c' o = c o) (e3 : ∀ o, ¬ o = 259 → ¬ (272 ≤ o ∧ o ≤ 275) → m' o = m o) (e4 : ∀ f, ¬ (27 ≤ f ∧ f ≤ 31) → m' 259 f = m 259 f) (p : PR B' c' m') : INV B' c' m' := by
  refine ⟨KON_un h.kc hu, KON_um h.km hm, ?_, ?_, ?_, p, ?_, ?_, ?_⟩
  · show 280 ≤ c' 0 0
    rw [e1 0 (by omega)]; exact h.o
  · show SR c' 3 (m' 264)
    rw [e3 264 (by omega) (by omega)]
    exact SR_congr h.s (fun o a b => e1 o (by omega))
  · show WF (m' 264)
    rw [e3 264 (by omega) (by omega)]; exact h.w
  · exact GR_congr h.g (fun o a b => e1 o (by omega)) (fun o a b => e3 o (by omega) (by omega)) (fun f a b => e4 f (by omega))
  · exact TR_congr h.t (fun f _ _ => by rw [e1 1 (by omega)]) (e1 2 (by omega)) (fun f _ _ => e4 f (by omega)) (e3 267 (by omega) (by omega))
  · exact HR_congr h.h (by rw [e1 1 (by omega)]) (by rw [e1 0 (by omega)]) (e1 220 (by omega)) (fun o a => e1 o (by omega)) (e4 7 (by omega)) (e4 8 (by omega)) (e3 266 (by omega) (by omega))
theorem op_hold {B : Int} {c m : Mem} (h : INV B c m) (l : Int) (hl : l = 0 ∨ l = 1) : OP B B c m (D_hold c l) (M_hold m l) := by
  obtain ⟨c1, c2, c3, c4, c5, c6, k1, k2⟩ := h.p.C
  have hd : D_hold c l = some (c 221 5, wr c 221 5 l) := by
    unfold D_hold pz
    rw [if_pos hl]
    simp only [Option.bind_some]
    rw [if_pos (by rw [k1]; exact k2)]
  have hM : M_hold m l = some (m 259 31, wr m 259 31 l) := by
    unfold M_hold pz
    rw [if_pos hl]
    simp only [Option.bind_some]
    rw [if_pos k2]
  refine ⟨_, _, _, hd, by rw [hM, k1], ?_⟩
  refine INVp h (un_D_hold hd UN.refl) (um_M_hold hM UM.refl) (fun o a => wr_o (by omega)) (fun o a b => wr_o a) (fun f hf => wr_f (by omega)) ?_
  refine ⟨?_, ?_, ?_, ?_, ?_⟩
  · intro i a b; rw [wr_o (by decide), wr_o (by decide)]; exact h.p.G i a b
  · intro i a b; rw [wr_o (by decide), wr_o (by decide), wr_o (by decide), wr_o (by decide), wr_f (by decide)]; exact h.p.F i a b
  · intro i a b; rw [wr_o (by decide), wr_o (by decide), wr_o (by decide), wr_o (by decide)]; exact h.p.T i a b
  · unfold PR_K; rw [wr_f (by decide), wr_f (by decide), wr_f (by decide), wr_f (by decide)]; exact h.p.K
  · unfold PR_C; rw [wr_f (by decide), wr_f (by decide), wr_f (by decide), wr_f (by decide), wr_eq, wr_eq]; exact ⟨c1, c2, c3, c4, c5, c6, rfl, hl⟩
theorem op_end {B : Int} {c m : Mem} (h : INV B c m) (n : Int) : OP B B c m (D_end c n) (M_end m n) := by
  obtain ⟨e1, e2, e3⟩ := h.t.n
  by_cases z : 0 ≤ n ∧ n ≤ m 259 10
  · have hd : D_end c n = some (n, wr c 1 1 n) := by
      unfold D_end
      rw [if_neg (show ¬ n < 0 by omega), if_pos (show n ≤ c 1 1 by omega)]
      rfl
    have hM : M_end m n = some (n, wr m 259 10 n) := by
      unfold M_end
      simp only [M_in_e, Option.bind_some, bn]
      rw [if_pos z]
    refine ⟨_, _, _, hd, hM, ?_⟩
    refine INVg h (un_D_end hd UN.refl) (um_M_end hM UM.refl) (fun o a b d => wr_o (by omega)) (wr_f (by decide)) (fun o a b d => wr_o (by omega)) (fun f hf => wr_f (by omega)) ?_ ?_
    · exact GR_congr h.g (fun o _ _ => wr_o (by omega)) (fun o _ _ => wr_o (by omega)) (fun f _ _ => wr_f (by omega))
    · refine ⟨?_, ?_, ?_⟩
      · unfold TR_n; rw [wr_eq, wr_eq]; omega
      · intro i i0 i1
        rw [wr_eq] at i1
        rw [wr_o (by decide), wr_o (by decide)]
        exact h.t.t i i0 (by omega)
      · unfold TR_f; rw [wr_f (by decide), wr_f (by decide), wr_f (by decide), wr_f (by decide)]; exact h.t.f
  · refine ⟨-1, c, m, ?_, ?_, h⟩
    · unfold D_end
      rw [e1]
      repeat' split
      all_goals first | (exfalso; omega) | rfl
    · unfold M_end
      simp only [M_in_e, Option.bind_some, bn]
      rw [if_neg z]
theorem i8_24 (v : Int32) : ((v.toUInt32 >>> (24 : UInt32)).toInt32).toInt8 = ((v >>> (24 : Int32)) &&& 255).toInt8 := by
  apply Int8.toBitVec_inj.mp
  ext i hi
  have h255 : ∀ j (hj : j < 8), (255#8)[j] = true := by decide
  simp [BitVec.getElem_signExtend, BitVec.getLsbD_sshiftRight, h255 i hi, show i < 32 by omega, show 24 + i < 32 by omega, BitVec.getElem_sshiftRight]
theorem i8_16 (v : Int32) : ((v.toUInt32 >>> (16 : UInt32)).toInt32).toInt8 = ((v >>> (16 : Int32)) &&& 255).toInt8 := by
  apply Int8.toBitVec_inj.mp
  ext i hi
  have h255 : ∀ j (hj : j < 8), (255#8)[j] = true := by decide
  simp [BitVec.getElem_signExtend, BitVec.getLsbD_sshiftRight, h255 i hi, show i < 32 by omega, show 16 + i < 32 by omega, BitVec.getElem_sshiftRight]
theorem i8_8 (v : Int32) : ((v.toUInt32 >>> (8 : UInt32)).toInt32).toInt8 = ((v >>> (8 : Int32)) &&& 255).toInt8 := by
  apply Int8.toBitVec_inj.mp
  ext i hi
  have h255 : ∀ j (hj : j < 8), (255#8)[j] = true := by decide
  simp [BitVec.getElem_signExtend, BitVec.getLsbD_sshiftRight, h255 i hi, show i < 32 by omega, show 8 + i < 32 by omega, BitVec.getElem_sshiftRight]
theorem i8_0 (v : Int32) : ((v.toUInt32 >>> (0 : UInt32)).toInt32).toInt8 = ((v >>> (0 : Int32)) &&& 255).toInt8 := by
  apply Int8.toBitVec_inj.mp
  ext i hi
  have h255 : ∀ j (hj : j < 8), (255#8)[j] = true := by decide
  simp [BitVec.getElem_signExtend, BitVec.getLsbD_sshiftRight, h255 i hi, show i < 32 by omega, show 0 + i < 32 by omega]
theorem jand_r {x : Int} : 0 ≤ jand x 255 ∧ jand x 255 ≤ 255 := by
  have e : jand x 255 = ((Int32.ofInt x).toBitVec &&& 255#32).toInt := rfl
  have h1 : ((Int32.ofInt x).toBitVec &&& 255#32).toNat ≤ 255 := by
    rw [BitVec.toNat_and]
    exact Nat.and_le_right
  have h2 : ((Int32.ofInt x).toBitVec &&& 255#32).toInt = (((Int32.ofInt x).toBitVec &&& 255#32).toNat : Int) := BitVec.toInt_eq_toNat_of_lt (by omega)
  rw [e, h2]
  omega
theorem jb_24 {v k : Int} (hk : k = 24 ∨ k = 16 ∨ k = 8 ∨ k = 0) : jb (jb (jushr v k)) = jb (jand (jshr v k) 255) := by
  have idem : ∀ x : Int, jb (jb x) = jb x := by
    intro x
    unfold jb
    rw [i32_of]
    simp
  rw [idem]
  unfold jb jushr jand jshr
  rw [i32_of, i32_of, i32_of]
  rcases hk with e | e | e | e <;> subst e
  · exact congrArg (fun z : Int8 => z.toInt32.toInt) (i8_24 (Int32.ofInt v))
  · exact congrArg (fun z : Int8 => z.toInt32.toInt) (i8_16 (Int32.ofInt v))
  · exact congrArg (fun z : Int8 => z.toInt32.toInt) (i8_8 (Int32.ofInt v))
  · exact congrArg (fun z : Int8 => z.toInt32.toInt) (i8_0 (Int32.ofInt v))
def TF (c c' : Mem) : Prop := (∀ o, ¬ o = 1 → ¬ o = 2 → c' o = c o) ∧ (∀ f, ¬ f = 1 → c' 1 f = c 1 f)
def MF (m m' : Mem) : Prop := (∀ o, ¬ o = 259 → ¬ o = 267 → m' o = m o) ∧ (∀ f, ¬ f = 10 → m' 259 f = m 259 f)
theorem TF.trans {a b c : Mem} (h1 : TF a b) (h2 : TF b c) : TF a c := ⟨fun o x y => (h2.1 o x y).trans (h1.1 o x y), fun f x => (h2.2 f x).trans (h1.2 f x)⟩
theorem MF.trans {a b c : Mem} (h1 : MF a b) (h2 : MF b c) : MF a c := ⟨fun o x y => (h2.1 o x y).trans (h1.1 o x y), fun f x => (h2.2 f x).trans (h1.2 f x)⟩
def pc1 (c : Mem) (b : Int) : Mem := wr (wr c 2 (c 1 1) b) 1 1 (c 1 1 + 1)
def pm1 (m : Mem) (b : Int) : Mem := wr (wr m 267 (m 259 10) b) 259 10 (m 259 10 + 1)
theorem put1 {c m : Mem} {b : Int} (h : TR c m) (hn : m 259 10 < 6000) (b0 : 0 ≤ b) (b1 : b ≤ 255) : TR (pc1 c (jb b)) (pm1 m b) ∧ TF c (pc1 c (jb b)) ∧ MF m (pm1 m b) ∧ (pm1 m b) 259 10 = m 259 10 + 1 ∧ (pc1 c (jb b)) 1 1 = c 1 1 + 1 := by
  obtain ⟨e1, e2, e3⟩ := h.n
  obtain ⟨e4, e5⟩ := h.f
  refine ⟨⟨?_, ?_, ?_⟩, ⟨?_, ?_⟩, ⟨?_, ?_⟩, ?_, ?_⟩
  · unfold TR_n pc1 pm1; rw [wr_eq, wr_eq]; omega
  · intro i i0 i1
    unfold pm1 at i1
    rw [wr_eq] at i1
    have eA : pc1 c (jb b) 2 = wr c 2 (c 1 1) (jb b) 2 := wr_o (by decide)
    have eB : pm1 m b 267 = wr m 267 (m 259 10) b 267 := wr_o (by decide)
    rw [eA, eB]
    by_cases e : i = m 259 10
    · subst e
      rw [e1, wr_eq, wr_eq]
      exact ⟨rfl, b0, b1⟩
    · rw [wr_f (by omega), wr_f (by omega)]
      exact h.t i i0 (by omega)
  · unfold TR_f pc1 pm1
    rw [wr_f (by decide), wr_f (by decide), wr_f (by decide), wr_f (by decide), wr_o (by decide), wr_o (by decide)]
    exact ⟨e4, e5⟩
  · intro o x y; unfold pc1; rw [wr_o x, wr_o y]
  · intro f x; unfold pc1; rw [wr_f x, wr_o (by decide)]
  · intro o x y; unfold pm1; rw [wr_o x, wr_o y]
  · intro f x; unfold pm1; rw [wr_f x, wr_o (by decide)]
  · unfold pm1; rw [wr_eq]
  · unfold pc1; rw [wr_eq]
theorem D_p1 {c : Mem} {v k : Int} {n : Nat} (h0 : 0 ≤ c 1 1) (h1 : c 1 1 < 6000) (k0 : 0 ≤ k) (k1 : k ≤ 24) : D_putNumber_3 v (n + 1) c k = D_putNumber_3 v n (pc1 c (jb (jb (jushr v k)))) (k + -8) := by
  rw [D_putNumber_3, if_neg (show ¬ k < 0 by omega), sI_ok h0 h1]
  simp only [Option.bind_some]
  rw [wr_o (by decide), jadd_e (by omega) (by omega), jadd_e (by omega) (by omega)]
  rfl
theorem M_p1 {m : Mem} {v k : Int} {n : Nat} (h0 : 0 ≤ m 259 10) (h1 : m 259 10 < 6000) (k0 : 0 ≤ k) (k1 : k ≤ 24) : M_fourBytes_3 v (n + 1) m k = M_fourBytes_3 v n (pm1 m (jand (jshr v k) 255)) (k + -8) := by
  rw [M_fourBytes_3, if_neg (show ¬ k < 0 by omega), sI_ok h0 h1]
  simp only [Option.bind_some]
  rw [wr_o (by decide), jadd_e (by omega) (by omega), jadd_e (by omega) (by omega)]
  rfl
theorem put4 {c m : Mem} {v : Int} (h : TR c m) (hn : m 259 10 + 4 ≤ 6000) : ∃ c' m', D_putNumber c v = some c' ∧ M_fourBytes m v = some m' ∧ TR c' m' ∧ TF c c' ∧ MF m m' ∧ m' 259 10 = m 259 10 + 4 := by
  obtain ⟨j, hj⟩ : ∃ j, big = j + 1 + 1 + 1 + 1 + 1 := ⟨big - 5, by have := big_ge; omega⟩
  obtain ⟨e1, e2, e3⟩ := h.n
  unfold D_putNumber M_fourBytes
  rw [hj]
  obtain ⟨t1, f1, g1, n1, p1⟩ := put1 h (b := jand (jshr v 24) 255) (by omega) jand_r.1 jand_r.2
  rw [D_p1 (by omega) (by omega) (by omega) (by omega), M_p1 (by omega) (by omega) (by omega) (by omega), jb_24 (Or.inl rfl)]
  generalize pc1 c (jb (jand (jshr v 24) 255)) = c1 at *
  generalize pm1 m (jand (jshr v 24) 255) = m1 at *
  obtain ⟨t2, f2, g2, n2, p2⟩ := put1 t1 (b := jand (jshr v (24 + -8)) 255) (by omega) jand_r.1 jand_r.2
  rw [D_p1 (by omega) (by omega) (by omega) (by omega), M_p1 (by omega) (by omega) (by omega) (by omega), jb_24 (k := 24 + -8) (Or.inr (Or.inl (by decide)))]
  generalize pc1 c1 (jb (jand (jshr v (24 + -8)) 255)) = c2 at *
  generalize pm1 m1 (jand (jshr v (24 + -8)) 255) = m2 at *
  obtain ⟨t3, f3, g3, n3, p3⟩ := put1 t2 (b := jand (jshr v (24 + -8 + -8)) 255) (by omega) jand_r.1 jand_r.2
  rw [D_p1 (by omega) (by omega) (by omega) (by omega), M_p1 (by omega) (by omega) (by omega) (by omega), jb_24 (k := 24 + -8 + -8) (Or.inr (Or.inr (Or.inl (by decide))))]
  generalize pc1 c2 (jb (jand (jshr v (24 + -8 + -8)) 255)) = c3 at *
  generalize pm1 m2 (jand (jshr v (24 + -8 + -8)) 255) = m3 at *
  obtain ⟨t4, f4, g4, n4, p4⟩ := put1 t3 (b := jand (jshr v (24 + -8 + -8 + -8)) 255) (by omega) jand_r.1 jand_r.2
  rw [D_p1 (by omega) (by omega) (by omega) (by omega), M_p1 (by omega) (by omega) (by omega) (by omega), jb_24 (k := 24 + -8 + -8 + -8) (Or.inr (Or.inr (Or.inr (by decide))))]
  generalize pc1 c3 (jb (jand (jshr v (24 + -8 + -8 + -8)) 255)) = c4 at *
  generalize pm1 m3 (jand (jshr v (24 + -8 + -8 + -8)) 255) = m4 at *
  refine ⟨c4, m4, ?_, ?_, t4, ((f1.trans f2).trans f3).trans f4, ((g1.trans g2).trans g3).trans g4, by omega⟩
  · rw [D_putNumber_3]; rfl
  · rw [M_fourBytes_3]; rfl
theorem op_feed {B : Int} {c m : Mem} (h : INV B c m) (a1 a2 a3 a4 a5 : Int) : OP B B c m (D_feed c a1 a2 a3 a4 a5) (M_feed m a1 a2 a3 a4 a5) := by
  obtain ⟨e1, e2, e3⟩ := h.t.n
  by_cases z : m 259 10 + 20 ≤ 6000
  · obtain ⟨c1, m1, d1, q1, t1, f1, g1, n1⟩ := put4 (v := a1) h.t (by omega)
    obtain ⟨c2, m2, d2, q2, t2, f2, g2, n2⟩ := put4 (v := a2) t1 (by omega)
    obtain ⟨c3, m3, d3, q3, t3, f3, g3, n3⟩ := put4 (v := a3) t2 (by omega)
    obtain ⟨c4, m4, d4, q4, t4, f4, g4, n4⟩ := put4 (v := a4) t3 (by omega)
    obtain ⟨c5, m5, d5, q5, t5, f5, g5, n5⟩ := put4 (v := a5) t4 (by omega)
    have hd : D_feed c a1 a2 a3 a4 a5 = some (c5 1 1, c5) := by
      unfold D_feed
      rw [jadd_e (by omega) (by omega), if_pos (show c 1 1 + 20 ≤ 6000 by omega), d1, Option.bind_some, d2, Option.bind_some, d3, Option.bind_some, d4, Option.bind_some, d5, Option.bind_some]
    have hM : M_feed m a1 a2 a3 a4 a5 = some (m5 259 10, m5) := by
      unfold M_feed
      rw [jadd_e (by omega) (by omega), if_pos z, q1, Option.bind_some, q2, Option.bind_some, q3, Option.bind_some, q4, Option.bind_some, q5, Option.bind_some]
    have hf := (((f1.trans f2).trans f3).trans f4).trans f5
    have hg := (((g1.trans g2).trans g3).trans g4).trans g5
    refine ⟨_, _, _, hd, by rw [hM, (t5.n).1], ?_⟩
    refine INVg h (un_D_feed hd UN.refl) (um_M_feed hM UM.refl) (fun o a b d => hf.1 o a b) (hf.2 6 (by decide)) (fun o a b d => hg.1 o a b) (fun f hf2 => hg.2 f (by omega)) ?_ t5
    exact GR_congr h.g (fun o _ _ => hf.1 o (by omega) (by omega)) (fun o _ _ => hg.1 o (by omega) (by omega)) (fun f _ _ => hg.2 f (by omega))
  · refine ⟨-1, c, m, ?_, ?_, h⟩
    · unfold D_feed
      rw [jadd_e (by omega) (by omega), if_neg (by omega)]
    · unfold M_feed
      rw [jadd_e (by omega) (by omega), if_neg z]
