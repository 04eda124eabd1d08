-- L3: what the constructors make: the desk
theorem mk_Sh {c : Mem} (h0 : c 0 0 + 1 = 3) : wSh_init (al 3 c) 3 = some (shM c 3 216 (ShN 3)) := by
  rw [← alo_al h0, alo_sh h0 (by decide)]
  exact shmk (Or.inl rfl)
theorem shM_1 {μ : Mem} {b k : Int} {P : Int → Int → Int} (b0 : 0 < b) : shM μ b k P 0 1 = μ 0 1 := by
  unfold shM
  rw [if_neg (by decide), if_neg (by omega)]
theorem kD : kd 1 = 11 := by decide +kernel
theorem mk_D {c : Mem} (hT : TXT c) (h0 : c 0 0 = 1) : ∃ c', wD_init c 1 = some c' ∧ c' 0 0 = 258 ∧ c' 0 1 = c 0 1 ∧ (∀ o, o < 0 → c' o = c o) ∧ (∀ o, 258 < o → c' o = c o)
    ∧ (c' 1 0 = 2 ∧ c' 1 1 = 0 ∧ c' 1 2 = 0 ∧ c' 1 3 = -1 ∧ c' 1 4 = 3 ∧ c' 1 5 = 220 ∧ c' 1 6 = 0 ∧ c' 1 7 = 221 ∧ c' 1 8 = 226 ∧ c' 1 9 = 231 ∧ c' 1 10 = 241 ∧ c' 1 11 = 250 ∧ c' 1 12 = 255 ∧ c' 1 13 = 256 ∧ c' 1 14 = 257)
    ∧ (∀ o, 3 ≤ o → o < 220 → c' o = shM c 3 216 (ShN 3) o)
    ∧ (∀ j, c' 220 j = 0)
    ∧ ((∀ i, 0 ≤ i → i < 360 → c' 222 i = c (-1) (i % 9)) ∧ (∀ i, 0 ≤ i → i < 360 → c' 223 i = c (-1) (i % 9)) ∧ (∀ j, c' 224 j = 0) ∧ (∀ j, c' 225 j = 0) ∧ c' 221 0 = 3 ∧ c' 221 1 = 0 ∧ c' 221 2 = 0 ∧ c' 221 3 = 0 ∧ c' 221 4 = 0 ∧ c' 221 5 = 0 ∧ c' 221 6 = 222 ∧ c' 221 7 = 223 ∧ c' 221 8 = 224 ∧ c' 221 9 = 225)
    ∧ ((∀ j, c' 227 j = 0) ∧ (∀ j, c' 228 j = 0) ∧ (∀ j, c' 229 j = 0) ∧ (∀ j, c' 230 j = 0) ∧ c' 226 0 = 3 ∧ c' 226 1 = 221 ∧ c' 226 2 = 227 ∧ c' 226 3 = 228 ∧ c' 226 4 = 1000 ∧ c' 226 5 = 0 ∧ c' 226 6 = 229 ∧ c' 226 7 = 230)
    ∧ (c' 231 0 = 240 ∧ c' 231 1 = 232 ∧ KON_sts c' ∧ KON_let c')
    ∧ (c' 241 2 = 242 ∧ c' 241 3 = 243 ∧ c' 241 4 = 244 ∧ c' 241 5 = 245 ∧ c' 241 7 = 246 ∧ c' 241 9 = 247 ∧ c' 241 11 = 248 ∧ c' 248 0 = 249)
    ∧ (c' 250 0 = 231 ∧ c' 250 1 = 241 ∧ c' 250 5 = 252 ∧ c' 250 6 = 253 ∧ c' 250 7 = 254)
    ∧ (c' 255 0 = 3 ∧ c' 255 1 = 221)
    ∧ (c' 256 0 = 3 ∧ c' 256 1 = 221 ∧ c' 256 2 = 226)
    ∧ (c' 257 0 = 3 ∧ c' 257 1 = 231 ∧ c' 257 2 = 258) := by
  -- the tape
  obtain ⟨m1, em1⟩ : ∃ m, m = wr (wr (wr (wr (al 2 c) 1 0 2) 1 1 0) 1 2 0) 1 3 (-1) := ⟨_, rfl⟩
  have a0 : m1 0 0 = 2 := by rw [em1]; rfl
  have a1 : m1 0 1 = c 0 1 := by rw [em1]; rfl
  have ao : ∀ o, ¬ o = 0 → ¬ o = 1 → ¬ o = 2 → m1 o = c o := fun o x y z => by rw [em1, wr_o y, wr_o y, wr_o y, wr_o y, al_o x z]
  -- the show
  have sh := mk_Sh (c := m1) (by omega)
  have es : ∀ o, 3 ≤ o → o < 220 → shM m1 3 216 (ShN 3) o = shM c 3 216 (ShN 3) o := by
    intro o x y
    obtain ⟨r, rfl⟩ : ∃ r, o = 3 + r := ⟨o - 3, by omega⟩
    funext j
    rw [shM_i (by decide) (by omega) (by omega), shM_i (by decide) (by omega) (by omega)]
  obtain ⟨n1, en1⟩ : ∃ n1, n1 = shM m1 3 216 (ShN 3) := ⟨_, rfl⟩
  rw [← en1] at sh es
  have s0 : n1 0 0 = 219 := by
    have := @shM_0 m1 3 216 (ShN 3)
    rw [en1]
    omega
  have s1 : n1 0 1 = c 0 1 := by rw [en1, shM_1 (by decide), a1]
  have so : ∀ o, ¬ o = 0 → ¬ (3 ≤ o ∧ o ≤ 219) → n1 o = m1 o := fun o x y => by rw [en1, shM_o (by omega) x]
  obtain ⟨m2, em2⟩ : ∃ m, m = wr (wr (al 220 (wr n1 1 4 3)) 1 5 220) 1 6 0 := ⟨_, rfl⟩
  have b0 : m2 0 0 = 220 := by rw [em2]; rfl
  have b1 : m2 0 1 = c 0 1 := by rw [em2, wr_o (by decide), wr_o (by decide), al_1 (by decide), wr_o (by decide), s1]
  have bo : ∀ o, ¬ o = 0 → ¬ o = 1 → ¬ o = 220 → m2 o = n1 o := fun o x y z => by rw [em2, wr_o y, wr_o y, al_o x z, wr_o y]
  have b220 : ∀ j, m2 220 j = 0 := fun j => by rw [em2, wr_o (by decide), wr_o (by decide), al_k (by decide)]
  have bf : ∀ j, ¬ j = 4 → ¬ j = 5 → ¬ j = 6 → m2 1 j = m1 1 j := fun j x y z => by rw [em2, wr_f z, wr_f y, al_o (by decide) (by decide), wr_f x, so 1 (by decide) (by decide)]
  have b14 : m2 1 4 = 3 := by rw [em2]; rfl
  -- the player
  obtain ⟨p, pe, p0, p1, po, pv⟩ := mk_Pl (c := al 221 m2) al_0
  rw [al_1 (by decide), b1] at p1
  rw [al_o (show ¬ (-1 : Int) = 0 by decide) (show ¬ (-1 : Int) = 221 by decide), bo (-1) (by decide) (by decide) (by decide), so (-1) (by decide) (by decide), ao (-1) (by decide) (by decide) (by decide)] at pv
  have pp : ∀ o, ¬ o = 0 → ¬ (221 ≤ o ∧ o ≤ 225) → p o = m2 o := fun o x y => by rw [po o x y, al_o x (by omega)]
  obtain ⟨m3, em3⟩ : ∃ m, m = wr p 1 7 221 := ⟨_, rfl⟩
  have c0 : m3 0 0 = 225 := by rw [em3, wr_o (by decide), p0]
  have c14 : m3 1 4 = 3 := by rw [em3, wr_f (by decide), pp 1 (by decide) (by decide), b14]
  have c17 : m3 1 7 = 221 := by rw [em3, wr_eq]
  -- the stage
  obtain ⟨q, qe, q0, q1, qo, qv⟩ := mk_Sg (c := al 226 m3) al_0
  rw [al_1 (by decide), em3, wr_o (by decide), p1] at q1
  have qq : ∀ o, ¬ o = 0 → ¬ (226 ≤ o ∧ o ≤ 230) → q o = m3 o := fun o x y => by rw [qo o x y, al_o x (by omega)]
  obtain ⟨m4, em4⟩ : ∃ m, m = wr q 1 8 226 := ⟨_, rfl⟩
  have d0 : m4 0 0 = 230 := by rw [em4, wr_o (by decide), q0]
  have m4o : ∀ o, ¬ o = 0 → ¬ o = 1 → ¬ (226 ≤ o ∧ o ≤ 230) → m4 o = m3 o := fun o x y z => by rw [em4, wr_o y, qq o x z]
  have m3o : ∀ o, ¬ o = 0 → ¬ o = 1 → ¬ (221 ≤ o ∧ o ≤ 225) → m3 o = m2 o := fun o x y z => by rw [em3, wr_o y, pp o x z]
  have m2n : ∀ o, o < 0 → m2 o = c o := fun o x => by rw [bo o (by omega) (by omega) (by omega), so o (by omega) (by omega), ao o (by omega) (by omega) (by omega)]
  have m4n : ∀ o, o < 0 → m4 o = c o := fun o x => by rw [m4o o (by omega) (by omega) (by omega), m3o o (by omega) (by omega) (by omega), m2n o x]
  -- the words
  obtain ⟨w, we, w0, w1, wo, wv⟩ := mk_Wd (c := al 231 m4) (TXT_c hT (fun o x => by rw [al_o (by omega) (by omega)]; exact m4n o x)) al_0
  rw [al_1 (by decide), em4, wr_o (by decide), q1] at w1
  have ww : ∀ o, ¬ o = 0 → ¬ (231 ≤ o ∧ o ≤ 240) → w o = m4 o := fun o x y => by rw [wo o x y, al_o x (by omega)]
  obtain ⟨m5, em5⟩ : ∃ m, m = wr w 1 9 231 := ⟨_, rfl⟩
  have e0 : m5 0 0 = 240 := by rw [em5, wr_o (by decide), w0]
  -- the statement
  obtain ⟨t, te, t0, t1, to, tv⟩ := mk_St (c := al 241 m5) al_0
  rw [al_1 (by decide), em5, wr_o (by decide), w1] at t1
  have tt : ∀ o, ¬ o = 0 → ¬ (241 ≤ o ∧ o ≤ 249) → t o = m5 o := fun o x y => by rw [to o x y, al_o x (by omega)]
  obtain ⟨m6, em6⟩ : ∃ m, m = wr t 1 10 241 := ⟨_, rfl⟩
  have f0 : m6 0 0 = 249 := by rw [em6, wr_o (by decide), t0]
  have f9 : m6 1 9 = 231 := by rw [em6, wr_f (by decide), tt 1 (by decide) (by decide), em5, wr_eq]
  have f10 : m6 1 10 = 241 := by rw [em6, wr_eq]
  -- the reader
  obtain ⟨r, re, r0, r1, ro, rv⟩ := mk_Rd (c := al 250 m6) al_0
  rw [al_1 (by decide), em6, wr_o (by decide), t1] at r1
  have rr : ∀ o, ¬ o = 0 → ¬ (250 ≤ o ∧ o ≤ 254) → r o = m6 o := fun o x y => by rw [ro o x y, al_o x (by omega)]
  obtain ⟨m7, em7⟩ : ∃ m, m = wr r 1 11 250 := ⟨_, rfl⟩
  have g0 : m7 0 0 = 254 := by rw [em7, wr_o (by decide), r0]
  have m1f : ∀ j, ¬ j = 7 → ¬ j = 8 → ¬ j = 9 → ¬ j = 10 → ¬ j = 11 → m7 1 j = m2 1 j := fun j x7 x8 x9 x10 x11 => by rw [em7, wr_f x11, rr 1 (by decide) (by decide), em6, wr_f x10, tt 1 (by decide) (by decide), em5, wr_f x9, ww 1 (by decide) (by decide), em4, wr_f x8, qq 1 (by decide) (by decide), em3, wr_f x7, pp 1 (by decide) (by decide)]
  have g4 : m7 1 4 = 3 := by rw [m1f 4 (by decide) (by decide) (by decide) (by decide) (by decide), b14]
  have g7 : m7 1 7 = 221 := by rw [em7, wr_f (by decide), rr 1 (by decide) (by decide), em6, wr_f (by decide), tt 1 (by decide) (by decide), em5, wr_f (by decide), ww 1 (by decide) (by decide), em4, wr_f (by decide), qq 1 (by decide) (by decide), c17]
  have g8 : m7 1 8 = 226 := by rw [em7, wr_f (by decide), rr 1 (by decide) (by decide), em6, wr_f (by decide), tt 1 (by decide) (by decide), em5, wr_f (by decide), ww 1 (by decide) (by decide), em4, wr_eq]
  have g9 : m7 1 9 = 231 := by rw [em7, wr_f (by decide), rr 1 (by decide) (by decide), f9]
  have g10 : m7 1 10 = 241 := by rw [em7, wr_f (by decide), rr 1 (by decide) (by decide), f10]
  have g11 : m7 1 11 = 250 := by rw [em7, wr_eq]
  -- the checker
  obtain ⟨x, xe, x0, x1, xo, xv⟩ := mk_Ch (c := al 255 m7) al_0
  rw [al_1 (by decide), em7, wr_o (by decide), r1] at x1
  have xx : ∀ o, ¬ o = 0 → ¬ (255 ≤ o ∧ o ≤ 255) → x o = m7 o := fun o y z => by rw [xo o y z, al_o y (by omega)]
  obtain ⟨m8, em8⟩ : ∃ m, m = wr x 1 12 255 := ⟨_, rfl⟩
  have h00 : m8 0 0 = 255 := by rw [em8, wr_o (by decide), x0]
  have h1f : ∀ j, ¬ j = 12 → m8 1 j = m7 1 j := fun j y => by rw [em8, wr_f y, xx 1 (by decide) (by decide)]
  -- the editor
  obtain ⟨y, ye, y0, y1, yo, yv⟩ := mk_Ed (c := al 256 m8) al_0
  rw [al_1 (by decide), em8, wr_o (by decide), x1] at y1
  have yy : ∀ o, ¬ o = 0 → ¬ (256 ≤ o ∧ o ≤ 256) → y o = m8 o := fun o u v => by rw [yo o u v, al_o u (by omega)]
  obtain ⟨m9, em9⟩ : ∃ m, m = wr y 1 13 256 := ⟨_, rfl⟩
  have i00 : m9 0 0 = 256 := by rw [em9, wr_o (by decide), y0]
  have i1f : ∀ j, ¬ j = 12 → ¬ j = 13 → m9 1 j = m7 1 j := fun j u v => by rw [em9, wr_f v, yy 1 (by decide) (by decide), h1f j u]
  -- the saver
  obtain ⟨z, ze, z0, z1, zo, zv⟩ := mk_Sv (c := al 257 m9) al_0
  rw [al_1 (by decide), em9, wr_o (by decide), y1] at z1
  have zz : ∀ o, ¬ o = 0 → ¬ (257 ≤ o ∧ o ≤ 258) → z o = m9 o := fun o u v => by rw [zo o u v, al_o u (by omega)]
  obtain ⟨e, ee⟩ : ∃ m, m = wr z 1 14 257 := ⟨_, rfl⟩
  have l9 : ∀ o, ¬ o = 0 → ¬ o = 1 → ¬ (257 ≤ o ∧ o ≤ 258) → e o = m9 o := fun o u v s => by rw [ee, wr_o v, zz o u s]
  have l8 : ∀ o, ¬ o = 0 → ¬ o = 1 → ¬ (256 ≤ o ∧ o ≤ 258) → e o = m8 o := fun o u v s => by rw [l9 o u v (by omega), em9, wr_o v, yy o u (by omega)]
  have l7 : ∀ o, ¬ o = 0 → ¬ o = 1 → ¬ (255 ≤ o ∧ o ≤ 258) → e o = m7 o := fun o u v s => by rw [l8 o u v (by omega), em8, wr_o v, xx o u (by omega)]
  have l6 : ∀ o, ¬ o = 0 → ¬ o = 1 → ¬ (250 ≤ o ∧ o ≤ 258) → e o = m6 o := fun o u v s => by rw [l7 o u v (by omega), em7, wr_o v, rr o u (by omega)]
  have l5 : ∀ o, ¬ o = 0 → ¬ o = 1 → ¬ (241 ≤ o ∧ o ≤ 258) → e o = m5 o := fun o u v s => by rw [l6 o u v (by omega), em6, wr_o v, tt o u (by omega)]
  have l4 : ∀ o, ¬ o = 0 → ¬ o = 1 → ¬ (231 ≤ o ∧ o ≤ 258) → e o = m4 o := fun o u v s => by rw [l5 o u v (by omega), em5, wr_o v, ww o u (by omega)]
  have l3 : ∀ o, ¬ o = 0 → ¬ o = 1 → ¬ (226 ≤ o ∧ o ≤ 258) → e o = m3 o := fun o u v s => by rw [l4 o u v (by omega), m4o o u v (by omega)]
  have l2 : ∀ o, ¬ o = 0 → ¬ o = 1 → ¬ (221 ≤ o ∧ o ≤ 258) → e o = m2 o := fun o u v s => by rw [l3 o u v (by omega), m3o o u v (by omega)]
  have l1 : ∀ o, ¬ o = 0 → ¬ o = 1 → ¬ (220 ≤ o ∧ o ≤ 258) → e o = n1 o := fun o u v s => by rw [l2 o u v (by omega), bo o u v (by omega)]
  have l0 : ∀ o, ¬ o = 0 → ¬ (1 ≤ o ∧ o ≤ 258) → e o = c o := fun o u v => by rw [l1 o u (by omega) (by omega), so o u (by omega), ao o u (by omega) (by omega)]
  have k1f : ∀ j, ¬ j = 12 → ¬ j = 13 → ¬ j = 14 → e 1 j = m7 1 j := fun j u v s => by rw [ee, wr_f s, zz 1 (by decide) (by decide), i1f j u v]
  have k1b : ∀ j, 0 ≤ j → j < 4 → e 1 j = m1 1 j := fun j u v => by rw [k1f j (by omega) (by omega) (by omega), m1f j (by omega) (by omega) (by omega) (by omega) (by omega), bf j (by omega) (by omega) (by omega)]
  have kP : ∀ j, e 221 j = p 221 j ∧ e 222 j = p 222 j ∧ e 223 j = p 223 j ∧ e 224 j = p 224 j ∧ e 225 j = p 225 j := fun j => by
    refine ⟨?_, ?_, ?_, ?_, ?_⟩
    all_goals rw [l3 _ (by decide) (by decide) (by decide), em3, wr_o (by decide)]
  have kQ : ∀ j, e 226 j = q 226 j ∧ e 227 j = q 227 j ∧ e 228 j = q 228 j ∧ e 229 j = q 229 j ∧ e 230 j = q 230 j := fun j => by
    refine ⟨?_, ?_, ?_, ?_, ?_⟩
    all_goals rw [l4 _ (by decide) (by decide) (by decide), em4, wr_o (by decide)]
  have kW : ∀ o, 231 ≤ o → o ≤ 240 → e o = w o := fun o u v => by rw [l5 o (by omega) (by omega) (by omega), em5, wr_o (by omega)]
  have kT : ∀ o, 241 ≤ o → o ≤ 249 → e o = t o := fun o u v => by rw [l6 o (by omega) (by omega) (by omega), em6, wr_o (by omega)]
  have kR : e 250 = r 250 := by rw [l7 250 (by decide) (by decide) (by decide), em7, wr_o (by decide)]
  have kX : e 255 = x 255 := by rw [l8 255 (by decide) (by decide) (by decide), em8, wr_o (by decide)]
  have kY : e 256 = y 256 := by rw [l9 256 (by decide) (by decide) (by decide), em9, wr_o (by decide)]
  have kZ : e 257 = z 257 := by rw [ee, wr_o (by decide)]
  refine ⟨e, ?_, by rw [ee, wr_o (by decide), z0], by rw [ee, wr_o (by decide), z1], fun o u => l0 o (by omega) (by omega), fun o u => l0 o (by omega) (by omega), ⟨?_, ?_, ?_, ?_, ?_, ?_, ?_, ?_, ?_, ?_, ?_, ?_, ?_, ?_, ?_⟩, fun o u v => by rw [l1 o (by omega) (by omega) (by omega), es o u v], fun j => by rw [l2 220 (by decide) (by decide) (by decide), b220], ?_, ?_, ?_, ?_, ?_, ?_, ?_, ?_⟩
  · unfold wD_init
    have gD : ∀ (m : Mem) (f v : Int), m 1 f = v → gf m 11 f 1 = some v := fun m f v h => gf_v kD h
    have gA : ∀ (m : Mem) (k f v : Int), ¬ k = 0 → ¬ k = 1 → m 1 f = v → gf (al k m) 11 f 1 = some v := fun m k f v h1 h2 h => gf_v kD (by rw [al_o (by decide) (fun x => h2 x.symm)]; exact h)
    rw [if_neg (by decide), nwpf (k := 2) (by omega) (by decide +kernel) (by decide +kernel), pfb ⟨kD, by decide⟩ (by decide), pfb ⟨kD, by decide⟩ (by decide), pfb ⟨kD, by decide⟩ (by decide), ← em1, nwIn (k := 3) (by omega) (by decide +kernel), if_pos (by decide +kernel), sh, Option.bind_some, pfb ⟨kD, by decide⟩ (by decide), nwpf (k := 220) (by rw [wr_o (by decide)]; omega) (by decide +kernel) (by decide +kernel), pfb ⟨kD, by decide⟩ (by decide), ← em2]
    rw [nwIn (k := 221) (by omega) (by decide +kernel), gA m2 221 4 3 (by decide) (by decide) b14, Option.bind_some, if_pos (by decide +kernel), pe, Option.bind_some, pfb ⟨kD, by decide⟩ (by decide), ← em3]
    rw [nwIn (k := 226) (by omega) (by decide +kernel), gA m3 226 4 3 (by decide) (by decide) c14, Option.bind_some, gA m3 226 7 221 (by decide) (by decide) c17, Option.bind_some, if_pos (by decide +kernel), qe, Option.bind_some, pfb ⟨kD, by decide⟩ (by decide), ← em4]
    rw [nwIn (k := 231) (by omega) (by decide +kernel), if_pos (by decide +kernel), we, Option.bind_some, pfb ⟨kD, by decide⟩ (by decide), ← em5]
    rw [nwIn (k := 241) (by omega) (by decide +kernel), if_pos (by decide +kernel), te, Option.bind_some, pfb ⟨kD, by decide⟩ (by decide), ← em6]
    rw [nwIn (k := 250) (by omega) (by decide +kernel), gA m6 250 9 231 (by decide) (by decide) f9, Option.bind_some, gA m6 250 10 241 (by decide) (by decide) f10, Option.bind_some, if_pos (by decide +kernel), re, Option.bind_some, pfb ⟨kD, by decide⟩ (by decide), ← em7]
    rw [nwIn (k := 255) (by omega) (by decide +kernel), gA m7 255 4 3 (by decide) (by decide) g4, Option.bind_some, gA m7 255 7 221 (by decide) (by decide) g7, Option.bind_some, if_pos (by decide +kernel), xe, Option.bind_some, pfb ⟨kD, by decide⟩ (by decide), ← em8]
    rw [nwIn (k := 256) (by omega) (by decide +kernel), gA m8 256 4 3 (by decide) (by decide) (by rw [h1f 4 (by decide), g4]), Option.bind_some, gA m8 256 7 221 (by decide) (by decide) (by rw [h1f 7 (by decide), g7]), Option.bind_some, gA m8 256 8 226 (by decide) (by decide) (by rw [h1f 8 (by decide), g8]), Option.bind_some, if_pos (by decide +kernel), ye, Option.bind_some, pfb ⟨kD, by decide⟩ (by decide), ← em9]
    rw [nwIn (k := 257) (by omega) (by decide +kernel), gA m9 257 4 3 (by decide) (by decide) (by rw [i1f 4 (by decide) (by decide), g4]), Option.bind_some, gA m9 257 9 231 (by decide) (by decide) (by rw [i1f 9 (by decide) (by decide), g9]), Option.bind_some, if_pos (by decide +kernel), ze, Option.bind_some, pfb ⟨kD, by decide⟩ (by decide), ← ee]
  · rw [k1b 0 (by decide) (by decide), em1]; rfl
  · rw [k1b 1 (by decide) (by decide), em1]; rfl
  · rw [k1b 2 (by decide) (by decide), em1]; rfl
  · rw [k1b 3 (by decide) (by decide), em1]; rfl
  · rw [k1f 4 (by decide) (by decide) (by decide), g4]
  · rw [k1f 5 (by decide) (by decide) (by decide), m1f 5 (by decide) (by decide) (by decide) (by decide) (by decide), em2]; rfl
  · rw [k1f 6 (by decide) (by decide) (by decide), m1f 6 (by decide) (by decide) (by decide) (by decide) (by decide), em2]; rfl
  · rw [k1f 7 (by decide) (by decide) (by decide), g7]
  · rw [k1f 8 (by decide) (by decide) (by decide), g8]
  · rw [k1f 9 (by decide) (by decide) (by decide), g9]
  · rw [k1f 10 (by decide) (by decide) (by decide), g10]
  · rw [k1f 11 (by decide) (by decide) (by decide), g11]
  · rw [ee, wr_f (by decide), zz 1 (by decide) (by decide), em9, wr_f (by decide), yy 1 (by decide) (by decide), em8, wr_eq]
  · rw [ee, wr_f (by decide), zz 1 (by decide) (by decide), em9, wr_eq]
  · rw [ee, wr_eq]
  · obtain ⟨v1, v2, v3, v4, v5⟩ := pv
    refine ⟨fun i i0 i1 => by rw [(kP i).2.1, v1 i i0 i1], fun i i0 i1 => by rw [(kP i).2.2.1, v2 i i0 i1], fun j => by rw [(kP j).2.2.2.1, v3], fun j => by rw [(kP j).2.2.2.2, v4], ?_⟩
    simp only [(kP _).1]
    exact v5
  · obtain ⟨v1, v2, v3, v4, v5⟩ := qv
    refine ⟨fun j => by rw [(kQ j).2.1, v1], fun j => by rw [(kQ j).2.2.1, v2], fun j => by rw [(kQ j).2.2.2.1, v3], fun j => by rw [(kQ j).2.2.2.2, v4], ?_⟩
    simp only [(kQ _).1]
    exact v5
  · obtain ⟨v1, v2, v3, v4⟩ := wv
    exact ⟨by rw [kW 231 (by decide) (by decide), v1], by rw [kW 231 (by decide) (by decide), v2], fun i i0 i1 => by rw [kW 232 (by decide) (by decide)]; exact v3 i i0 i1, fun i i0 i1 => by rw [kW 240 (by decide) (by decide)]; exact v4 i i0 i1⟩
  · rw [kT 241 (by decide) (by decide), kT 248 (by decide) (by decide)]
    exact tv
  · obtain ⟨_, _, _, _, v1, v2, _, _, _, v3, v4, v5, _⟩ := rv
    rw [kR]
    exact ⟨v1, v2, v3, v4, v5⟩
  · rw [kX]
    exact ⟨xv.1, xv.2.1⟩
  · rw [kY]
    exact yv
  · obtain ⟨_, v1, v2, v3, _⟩ := zv
    rw [kZ]
    exact ⟨v1, v2, v3⟩
