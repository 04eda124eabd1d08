-- L3: enter: statement by statement
def ES (B : Int) (t : Int → Int) (n s : Int) (g0 : Int → Int) (dn : Int) (cB c m : Mem) : Prop := EXS B dn c m ∧ UN cB c ∧ FX c ∧ TPc c t n ∧ TPm m t n ∧ c 250 4 = s ∧ m 259 18 = s ∧ 0 ≤ s ∧ s ≤ n ∧ m 259 11 = 0 ∧ m 259 12 = -1 ∧ (∀ i, 0 ≤ i → i < 12943 → m 265 i = g0 i) ∧ (dn = 0 → m 264 = g0)
theorem EXS_c {B dn : Int} {c m c' m' : Mem} (h : EXS B dn c m) (co : ∀ o, (o < 241 ∨ 256 ≤ o) → ¬ o = 1 → c' o = c o) (c1 : c' 1 6 = c 1 6) (mo : ∀ o, ¬ o = 259 → ¬ (268 ≤ o ∧ o ≤ 271) → m' o = m o) (mf : ∀ f, (f = 7 ∨ f = 8 ∨ 27 ≤ f) → m' 259 f = m 259 f) (e2 : c' 1 2 = m' 259 11) (e3 : c' 1 3 = m' 259 12) : EXS B dn c' m' := by
  obtain ⟨h1, h2, h3, h4, h5, h6, h7, h8, h9, h10⟩ := h
  have e4 : m' 264 = m 264 := mo 264 (by decide) (by decide)
  refine ⟨by rw [e4]; exact SR_congr h1 (fun o a b => co o (by omega) (by omega)), by rw [e4]; exact h2, PR_congr h3 (fun o a b => co o (by omega) (by omega)) (fun o a b => mo o (by omega) (by omega)) (fun f a b => mf f (by omega)), GR_congr h4 (fun o a b => co o (by omega) (by omega)) (fun o a b => mo o (by omega) (by omega)) (fun f a b => mf f (by omega)), KON_o h5 (fun o a => co o (by omega) (by omega)), KON_o h6 (fun o a => mo o (by omega) (by omega)), by rw [co 0 (by omega) (by decide)]; exact h7, e2, e3, HRd_c h10 c1 (by rw [co 0 (by omega) (by decide)]) (co 220 (by omega) (by decide)) (fun o a => co o (by omega) (by omega)) (mf 7 (by omega)) (mf 8 (by omega)) (mo 266 (by decide) (by decide)) (mo 265 (by decide) (by decide))⟩
theorem TPc_c {c c' : Mem} {t : Int → Int} {n : Int} (h : TPc c t n) (e2 : c' 2 = c 2) (e5 : ∀ f, f = 2 ∨ f = 3 → c' 250 f = c 250 f) : TPc c' t n := by
  obtain ⟨a, b, d, e, k⟩ := h
  refine ⟨by rw [e5 2 (Or.inl rfl)]; exact a, by rw [e5 3 (Or.inr rfl)]; exact b, d, e, ?_⟩
  rw [e2]; exact k
theorem ent_x (hrem : REMP) {B : Int} {t : Int → Int} {n : Int} {g0 : Int → Int} {cB : Mem} : ∀ (d N1 N2 : Nat) (l2 s dn : Int) (c m : Mem), ES B t n s g0 dn cB c m → n - s ≤ d → d + 1 < N1 → d + 2 < N2 → 0 ≤ l2 → l2 ≤ s → 0 ≤ dn → dn ≤ l2 → ∃ v c' m', D_enter_29 N1 c dn l2 = some (v, c') ∧ M_enter_46 N2 m dn 1 = some (v, m') ∧ INV B c' m' ∧ UN cB c' := by
  intro d
  induction d with
  | zero => ?_
  | succ d ih => ?_
  all_goals
    intro N1 N2 l2 s dn c m hE hd hN1 hN2 l0 ls d0 dl
    obtain ⟨a, rfl⟩ : ∃ a, N1 = a + 1 := ⟨N1 - 1, by omega⟩
    obtain ⟨b, rfl⟩ : ∃ b, N2 = b + 1 + 1 := ⟨N2 - 2, by omega⟩
    obtain ⟨hX0, hUN, hFX, hTc, hTm, es, em, s0, s1, m11, m12, hah, hg0⟩ := hE
    have hX0' := hX0
    obtain ⟨hs, hw, hp, hg, kc, km, hO, c2_, c3_, hH⟩ := hX0
    have n6 : n ≤ 6000 := hTm.2.2.1
    obtain ⟨k, c', sc, hSC⟩ := Rd_scan_e (t := t) (n := n) (s := s) (c := c) ⟨kc.sts, kc.let⟩ hTc es s0 s1
    obtain ⟨q1, q2, q3, q4, q5, q6, q7, q8, q9, q10⟩ := hSC
    generalize hXX : ((t, n, s, k) : Tx) = X at *
    have X1 : X.1 = t := by rw [← hXX]
    have X2 : X.2.1 = n := by rw [← hXX]
    have X3 : X.2.2.1 = s := by rw [← hXX]
    have hX : XO X m := ⟨by rw [X1, X2]; exact hTm, km.wd, by rw [X3]; exact s0, by rw [X3, X2]; exact s1, q1, q2, q6, q7⟩
    have fxs : FX c' := (t_Rd_scan sc hFX).2
    have unS : UN cB c' := un_Rd_scan sc hUN
    obtain ⟨m17, r1, hS⟩ := mread0 (m := wr (wr (wr m 259 16 0) 259 17 0) 259 19 0) hX (by rw [wr_f (by decide), wr_f (by decide), wr_eq]) (by rw [wr_f (by decide), wr_eq]) (by rw [wr_f (by decide), wr_f (by decide), wr_f (by decide), em, X3]) wr_eq (fun o x _ _ _ => by rw [wr_o x, wr_o x, wr_o x]) (fun f x => by rw [wr_f (by omega), wr_f (by omega), wr_f (by omega)])
    obtain ⟨_, _, u17, u16, u18, u19, utk, uo, uf⟩ := hS
    have hS' : MS X m m17 0 := ⟨by decide, by decide, u17, u16, u18, u19, utk, uo, uf⟩
    have mK : m17 268 0 = Kx X 0 := (utk 0 (by decide) (by decide)).1
    have tc := TT_c hX (a := 0) (by decide) (by omega) (by decide)
    have em46 : M_enter_46 (b + 1 + 1) m dn 1 = if Kx X 0 = 0 then M_enter_46 (b + 1) m17 dn 0 else (M_statement m17).bind fun m1 => if m1 259 19 ≠ 0 then M_enter_103 (M_enter_46 (b + 1)) m1 dn else (M_check m1).bind fun m4 => M_enter_103 (M_enter_46 (b + 1)) m4 dn := by
      rw [M_enter_46, if_neg (show ¬ (1 : Int) = 0 by decide), Option.bind_some, Option.bind_some, Option.bind_some, r1, Option.bind_some, mK]
      unfold M_enter_83
      rw [if_pos (show (0 : Int) = 0 from rfl), if_neg (show ¬ (1 : Int) = 0 by decide)]
    have ex17 : EXS B dn c' m17 := EXS_c hX0' (fun o x y => q9 o (by omega) (by omega) (by omega) (by omega)) (by rw [q9 1 (by decide) (by decide) (by decide) (by decide)]) (fun o x y => uo o x (by omega) (by omega) (by omega)) (fun f x => uf f (by omega)) (by rw [q9 1 (by decide) (by decide) (by decide) (by decide), uf 11 (by omega)]; exact c2_) (by rw [q9 1 (by decide) (by decide) (by decide) (by decide), uf 12 (by omega)]; exact c3_)
    by_cases lim : 6000 ≤ l2
    · have Kz : Kx X 0 = 0 := by
        have pp := (Px_m (X := X) (by omega) (by omega) (by omega) 0).1
        have : Px X ((0 : Nat) : Int) = Px X 0 := rfl
        unfold Kx tK
        rw [if_pos (by omega)]
      have exc : EXS B dn c m17 := EXS_c hX0' (fun _ _ _ => rfl) rfl (fun o x y => uo o x (by omega) (by omega) (by omega)) (fun f x => uf f (by omega)) (by rw [uf 11 (by omega)]; exact c2_) (by rw [uf 12 (by omega)]; exact c3_)
      obtain ⟨c4, m4, e1, e2, e3⟩ := ex_op d0 exc
      refine ⟨dn, c4, m4, ?_, ?_, e3, un152 e1 hUN⟩
      · rw [D_enter_29, if_pos lim, e1]
      · rw [em46, if_pos Kz, e2]
    · have c52 : c' 252 0 = TT X 0 := (q5 0 (by decide) (by omega)).1
      by_cases ov : TT X 0 = 77
      · have Kz : Kx X 0 = 0 := by omega
        obtain ⟨c4, m4, e1, e2, e3⟩ := ex_op d0 ex17
        refine ⟨dn, c4, m4, ?_, ?_, e3, un152 e1 unS⟩
        · rw [D_enter_29, if_neg lim, sc, Option.bind_some]
          unfold Rd_isOver
          rw [c52, if_neg (fun x => x ov), Option.bind_some, if_neg (by decide), e1]
        · rw [em46, if_pos Kz, e2]
      · have Kz : ¬ Kx X 0 = 0 := by
          intro x
          have : TT X 0 = 77 := by omega
          exact ov this
        have eD : D_enter_29 (a + 1) c dn l2 = (Rd_readStatement c').bind fun p6 => if p6.1 = 0 then D_enter_82 (D_enter_29 a) p6.2 dn l2 1 else (Ch_firstFault p6.2).bind fun p9 => D_enter_82 (D_enter_29 a) p9.2 dn l2 p9.1 := by
          rw [D_enter_29, if_neg lim, sc, Option.bind_some]
          unfold Rd_isOver
          rw [c52, if_pos ov, Option.bind_some, if_pos rfl]
        rw [if_neg Kz] at em46
        obtain ⟨c0, hB, hC, hR⟩ := stmt_rel hX q3 q4 q5 hS'
        obtain ⟨w1, w2, w3, w4, w5, w6, w7, w8, w9, w10⟩ := hB
        rcases hR with ⟨cS, mS, A, vb, I, TL, WL, td', op, eR, eM, tA, hSh, hCS, hMS⟩ | ⟨cS, mS, f, eR, eM, hCF, hMB⟩
        · -- it was read
          have fxr : FX (wr cS 250 9 (A + 1)) := (t_Rd_readStatement eR fxs).2
          have unR : UN cB (wr cS 250 9 (A + 1)) := un_Rd_readStatement eR unS
          obtain ⟨⟨v1, v2, v3, v4, v5⟩, hITM, hQT, hQW, vtd, vop, vvb⟩ := hCS
          obtain ⟨A0, A1, x17, x16, x18, x19, xtk, xo, xf⟩ := hMS
          have hln := SH_len A1 hSh
          generalize hcR : wr cS 250 9 (A + 1) = cR at *
          have R5 : ∀ f, ¬ f = 9 → cR 250 f = c' 250 f := fun f x => by rw [← hcR, wr_f x, v4 f x, w1]
          have Ro : ∀ o, ¬ (241 ≤ o ∧ o ≤ 248) → ¬ o = 250 → cR o = c' o := fun o x y => by rw [← hcR, wr_o y, v5 o (by omega) y, w2 o (by omega) (by omega) (by omega)]
          have Ro2 : ∀ o, (o < 241 ∨ 255 ≤ o) → cR o = c o := fun o x => by rw [Ro o (by omega) (by omega), q9 o (by omega) (by omega) (by omega) (by omega)]
          have R8 : cR 248 = c0 248 := by rw [← hcR, wr_o (by decide), v5 248 (by omega) (by decide)]
          have Rs : ∀ o, 241 ≤ o → o ≤ 247 → cR o = cS o := fun o x y => by rw [← hcR, wr_o (by omega)]
          have rITM : ITM cR I := by
            unfold ITM
            rw [Rs 241 (by decide) (by decide), Rs 243 (by decide) (by decide), Rs 244 (by decide) (by decide), Rs 245 (by decide) (by decide)]
            exact hITM
          have rQT : QUD cR 8 246 TL := by
            unfold QUD
            rw [Rs 241 (by decide) (by decide), Rs 246 (by decide) (by decide)]
            exact hQT
          have rQW : QUD cR 10 247 WL := by
            unfold QUD
            rw [Rs 241 (by decide) (by decide), Rs 247 (by decide) (by decide)]
            exact hQW
          have r242 : cR 242 = td' := by rw [Rs 242 (by decide) (by decide)]; exact vtd
          have e264 : mS 264 = m 264 := xo 264 (by decide) (by decide) (by decide) (by decide)
          have hsR : SR cR 3 (mS 264) := by rw [e264]; exact SR_congr hs (fun o x y => Ro2 o (by omega))
          have hwR : WF (mS 264) := by rw [e264]; exact hw
          have kcR : KON cR := KON_o kc (fun o x => Ro2 o (by omega))
          have kmR : KON mS := KON_o km (fun o x => xo o (by omega) (by omega) (by omega) (by omega))
          have hOR : 280 ≤ cR 0 0 := by rw [Ro2 0 (by omega)]; exact hO
          have hcur : cR 221 3 = mS 259 29 := by rw [Ro2 221 (by omega), xf 29 (by omega)]; exact hp.C.1
          have cur0 : 0 ≤ mS 259 29 := by rw [xf 29 (by omega)]; exact hp.C.2.1
          have hTS : MTK X A mS := by
            refine ⟨v3, A1, xtk⟩
          have gsm : gst mS (0, -1) (mS 259 21, mS 271) = mS := by
            refine (gst_x (m := mS) (m' := mS) rfl rfl ?_ ?_ (fun _ _ _ => rfl) (fun _ _ _ _ => rfl)).symm
            · show mS 259 11 = 0
              rw [xf 11 (by omega)]; exact m11
            · show mS 259 12 = -1
              rw [xf 12 (by omega)]; exact m12
          have hck := chk_rel (X := X) (c := cR) (m := mS) (cur := mS 259 29) (kn := td' 11) (vb := vb) (r := (mS 259 21, mS 271)) (I := I) (TL := TL) hsR hwR kcR hOR hcur cur0 (by rw [r242]) rITM hln.1 rQT hln.2.1 (chk_m hX hTS tA A0 hwR kmR hSh)
          rw [gsm] at hck
          have eD2 : D_enter_29 (a + 1) c dn l2 = (Ch_firstFault cR).bind fun p9 => D_enter_82 (D_enter_29 a) p9.2 dn l2 p9.1 := by
            rw [eD, eR, Option.bind_some]
            exact if_neg (show ¬ (1 : Int) = 0 by decide)
          have eM2 : M_enter_46 (b + 1 + 1) m dn 1 = (M_check mS).bind fun m4 => M_enter_103 (M_enter_46 (b + 1)) m4 dn := by
            rw [em46, eM, Option.bind_some, x19, if_neg (fun x => x rfl)]
          rcases hck with ⟨ff, pp, c3, e, r', k1, k2, k3, k4, k5⟩ | ⟨c3, e, r', k1, k2, k3, k4, k5⟩
          · -- it was refused
            have p := gst_p (m := wr mS 259 22 e) (s := (ff, pp)) (r := r')
            obtain ⟨p1, p2, p3, p4, p5, p6⟩ := p
            generalize hmG : gst (wr mS 259 22 e) (ff, pp) r' = mG at *
            have mGo : ∀ o, ¬ o = 259 → ¬ (268 ≤ o ∧ o ≤ 271) → mG o = m o := fun o x y => by rw [p5 o x (by omega), wr_o x, xo o x (by omega) (by omega) (by omega)]
            have mGf : ∀ f, (f = 7 ∨ f = 8 ∨ 27 ≤ f) → mG 259 f = m 259 f := fun f x => by rw [p6 f (by omega) (by omega) (by omega), wr_f (by omega), xf f (by omega)]
            have exF : EXS B dn (wr (wr (wr c3 255 2 pp) 1 2 ff) 1 3 pp) mG := EXS_c hX0' (fun o x y => by rw [wr_o y, wr_o y, wr_o (by omega), k2.1 o (by omega) (by omega), Ro2 o (by omega)]) (by rw [wr_f (by decide), wr_f (by decide), wr_o (by decide), k2.1 1 (by decide) (by decide), Ro2 1 (by omega)]) mGo mGf (by rw [wr_f (by decide), wr_eq]; exact p3.symm) (by rw [wr_eq]; exact p4.symm)
            obtain ⟨c4, m4, e1, e2, e3⟩ := ex_op d0 exF
            refine ⟨dn, c4, m4, ?_, ?_, e3, un152 e1 (UNw (UNw (un_Ch_firstFault k1 unR) uo_1) uo_1)⟩
            · rw [eD2, k1, Option.bind_some]
              show D_enter_82 (D_enter_29 a) (wr c3 255 2 pp) dn l2 ff = _
              unfold D_enter_82
              rw [Option.bind_some, wr_eq, if_neg k3, if_pos k4, Option.bind_some, wr_o (show ¬ (255 : Int) = 1 by decide), wr_eq, e1]
            · rw [eM2, k5, Option.bind_some]
              unfold M_enter_103
              rw [p3]
              show (if ff ≠ 0 then _ else _) = _
              rw [if_pos k3]
              unfold M_enter_115 M_enter_124
              rw [if_pos rfl, if_pos rfl, jadd_e (by omega) (by omega), Option.bind_some, Int.add_zero, e2]
          · -- it is done
            have p := gst_p (m := wr mS 259 22 e) (s := (0, -1)) (r := r')
            obtain ⟨p1, p2, p3, p4, p5, p6⟩ := p
            have hTG : MTK X A (gst (wr mS 259 22 e) (0, -1) r') := MTK_g (MTK_22 hTS)
            generalize hmG : gst (wr mS 259 22 e) (0, -1) r' = mG at *
            have mGo : ∀ o, ¬ o = 259 → ¬ (268 ≤ o ∧ o ≤ 271) → mG o = m o := fun o x y => by rw [p5 o x (by omega), wr_o x, xo o x (by omega) (by omega) (by omega)]
            have mGf : ∀ f, ¬ (16 ≤ f ∧ f ≤ 19) → ¬ f = 21 → ¬ f = 22 → ¬ f = 11 → ¬ f = 12 → mG 259 f = m 259 f := fun f x y z v w => by rw [p6 f y v w, wr_f z, xf f x]
            have mG11 : mG 259 11 = 0 := p3
            have mG12 : mG 259 12 = -1 := p4
            have mG22 : mG 259 22 = e := by rw [p6 22 (by decide) (by decide) (by decide), wr_eq]
            have mG18 : mG 259 18 = Ex X A := by rw [p6 18 (by decide) (by decide) (by decide), wr_f (by decide)]; exact x18
            have mG264 : mG 264 = m 264 := mGo 264 (by decide) (by decide)
            have ff0 := (t_Ch_firstFault k1 fxr).2
            have ff1 : FX c3 := ff0
            have c3o : ∀ o, (o < 241 ∨ 255 ≤ o) → c3 o = c o := fun o x => by rw [k2.1 o (by omega) (by omega), Ro2 o x]
            have c12 : wr c3 1 2 0 = c3 := wr_self (by rw [c3o 1 (by omega), c2_, m11])
            have exG : EXS B dn c3 mG := EXS_c hX0' (fun o x y => c3o o (by omega)) (by rw [c3o 1 (by omega)]) mGo (fun f x => mGf f (by omega) (by omega) (by omega) (by omega) (by omega)) (by rw [c3o 1 (by omega), mG11, c2_, m11]) (by rw [c3o 1 (by omega), mG12, c3_, m12])
            -- the class remembers
            have hrm : ∃ c4, (if dn ≠ 0 then some c3 else D_remember c3) = some c4 ∧ FX c4 ∧ (∀ o, ¬ o = 0 → ¬ o = 1 → ¬ o = 220 → o < 281 → c4 o = c3 o) ∧ (∀ f, ¬ f = 6 → c4 1 f = c3 1 f) ∧ 280 ≤ c4 0 0 ∧ c4 0 1 = c3 0 1 ∧ HR c4 (kA mG) ∧ 0 ≤ mG 259 8 ∧ mG 259 8 < 8 ∧ 0 ≤ mG 259 7 ∧ mG 259 7 ≤ 8 := by
              have hHG := exG.2.2.2.2.2.2.2.2.2
              rcases hHG with ⟨y, hh⟩ | ⟨y, hh, yy⟩
              · rw [if_neg (fun x => x y)]
                obtain ⟨c4, z1, z2, z3, z4, z5, z6⟩ := hrem c3 mG hh exG.1 exG.2.1 ff1 exG.2.2.2.2.2.2.1 (fun i i0 i1 => by rw [mGo 265 (by decide) (by decide), hah i i0 i1, mG264, hg0 y])
                have hn := hh.n
                exact ⟨c4, z1, (t_D_remember z1 ff1).2, z3, z4, z5, z6, z2, by omega, by omega, by omega, by omega⟩
              · rw [if_pos (show dn ≠ 0 by omega)]
                exact ⟨c3, rfl, ff1, fun _ _ _ _ _ => rfl, fun _ _ => rfl, exG.2.2.2.2.2.2.1, rfl, hh, yy⟩
            obtain ⟨c4, z1, z2, z3, z4, z5, z01, z6, z7⟩ := hrm
            have s4 : SR c4 3 (mG 264) := SR_congr exG.1 (fun o x y => z3 o (by omega) (by omega) (by omega) (by omega))
            have hAE : AE B X A m c4 mG := ⟨hX, hTG, tA, A0, s4, exG.2.1, PR_congr exG.2.2.1 (fun o x y => z3 o (by omega) (by omega) (by omega) (by omega)) (fun _ _ _ => rfl) (fun _ _ _ => rfl), GR_congr exG.2.2.2.1 (fun o x y => z3 o (by omega) (by omega) (by omega) (by omega)) (fun _ _ _ => rfl) (fun _ _ _ => rfl), KON_o exG.2.2.2.2.1 (fun o x => z3 o (by omega) (by omega) (by omega) (by omega)), exG.2.2.2.2.2.1, z5⟩
            have c4s : ∀ o, 241 ≤ o → o ≤ 247 → c4 o = cR o := fun o x y => by rw [z3 o (by omega) (by omega) (by omega) (by omega), k2.1 o (by omega) (by omega)]
            have hU : UNI X c4 mG TL vb e r' := by
              refine ⟨p1, p2, mG22, ?_⟩
              rcases k5 with ⟨tl, ec⟩ | ⟨y1, y2, y3, y4⟩
              · refine Or.inl ⟨tl, ?_⟩
                rw [z3 248 (by decide) (by decide) (by decide) (by decide), ec, R8]
                exact w9
              · refine Or.inr ⟨⟨?_, fun i i0 i1 => ?_⟩, y2, y3, y4⟩
                · rw [z3 248 (by decide) (by decide) (by decide) (by decide)]; exact y1.1
                · rw [z3 (248 + 1) (by decide) (by decide) (by decide) (by decide)]; exact y1.2 i i0 i1
            obtain ⟨c5, m5, a1, a2, a3, a4, a5, a6, a7, a8⟩ := act_rel hAE hSh w8 (by rw [c4s 242 (by decide) (by decide)]; exact r242) (by rw [c4s 241 (by decide) (by decide), Rs 241 (by decide) (by decide)]; exact vop) (by rw [c4s 241 (by decide) (by decide), Rs 241 (by decide) (by decide)]; exact vvb) (by
              unfold QUD
              rw [c4s 241 (by decide) (by decide), c4s 247 (by decide) (by decide)]
              exact rQW) hln.2.2 (by
              have e29 : mG 259 29 = mS 259 29 := by rw [p6 29 (by decide) (by decide) (by decide), wr_f (by decide)]
              rw [mG264, ← e264, e29]
              exact k4) hU
            have f5 : FX c5 := (t_Ed_perform a1 z2).2
            have un5 : UN cB c5 := un_Ed_perform a1 (un_o (un_Ch_firstFault k1 unR) z3 z01)
            have c5o : ∀ o, (o = 2 ∨ (231 ≤ o ∧ o < 281)) → c5 o = c3 o := fun o x => by rw [a7 o (by omega) (by omega) (by omega), z3 o (by omega) (by omega) (by omega) (by omega)]
            have sA : c' 250 4 = Ex X A := by
              have Ak : A = X.2.2.2 - 1 := by
                by_cases y : A < X.2.2.2 - 1
                · exact absurd (Or.inl tA) (q6 A A0 y)
                · omega
              rw [Ak] at tA ⊢
              exact q8 (by omega)
            have pxn : Px X A < X.2.1 := by
              have tcA := TT_c hX (a := A) A0 v3 A1
              have KA : ¬ Kx X A = 0 := by omega
              by_cases y : X.2.1 ≤ Px X A
              · exfalso
                apply KA
                unfold Kx tK
                rw [if_pos y]
              · omega
            have sgt := Ex_m (X := X) (by omega) (by omega) (by omega) A0 pxn
            have sle := (Px_x (X := X) (by omega) (by omega) (by omega) A0).2.2.2.2.2
            have c250 : ∀ f, ¬ f = 9 → c5 250 f = c' 250 f := fun f x => by rw [c5o 250 (by omega), k2.1 250 (by decide) (by decide), R5 f x]
            have hES : ES B t n (Ex X A) g0 (dn + 1) cB c5 m5 := by
              refine ⟨⟨a3, a4, a5, a6, ?_, ?_, ?_, ?_, ?_, Or.inr ⟨by omega, ?_, ?_⟩⟩, un5, f5, ?_, ?_, ?_, ?_, by omega, by omega, ?_, ?_, ?_, fun x => by omega⟩
              · exact KON_o hAE.2.2.2.2.2.2.2.2.1 (fun o x => a7 o (by omega) (by omega) (by omega))
              · exact KON_o exG.2.2.2.2.2.1 (fun o x => a8 o (by omega) (by omega) (by omega))
              · rw [a7 0 (by omega) (by omega) (by omega)]; exact z5
              · rw [a7 1 (by omega) (by omega) (by omega), z4 2 (by decide), c3o 1 (by omega), a8 259 (by decide) (by omega) (by decide), mG11, c2_, m11]
              · rw [a7 1 (by omega) (by omega) (by omega), z4 3 (by decide), c3o 1 (by omega), a8 259 (by decide) (by omega) (by decide), mG12, c3_, m12]
              · exact HR_k z6 (by rw [a7 1 (by omega) (by omega) (by omega)]) (by rw [a7 0 (by omega) (by omega) (by omega)]) (a7 220 (by omega) (by omega) (by omega)) (fun o x => a7 o (by omega) (by omega) (by omega)) (by rw [a8 259 (by decide) (by omega) (by decide)]) (by rw [a8 259 (by decide) (by omega) (by decide)]) (a8 266 (by decide) (by omega) (by decide)) (a8 265 (by decide) (by omega) (by decide))
              · rw [a8 259 (by decide) (by omega) (by decide)]; exact z7
              · exact TPc_c hTc (by rw [c5o 2 (by omega), c3o 2 (by omega)]) (fun f x => by rw [c250 f (by omega), q10 f (by omega) (by omega) (by omega)])
              · obtain ⟨y1, y2, y3, y4⟩ := hTm
                refine ⟨?_, y2, y3, ?_⟩
                · rw [a8 259 (by decide) (by omega) (by decide), mGf 10 (by omega) (by omega) (by omega) (by omega) (by omega)]; exact y1
                · rw [a8 267 (by decide) (by omega) (by decide), mGo 267 (by decide) (by decide)]; exact y4
              · rw [c250 4 (by decide), sA]
              · rw [a8 259 (by decide) (by omega) (by decide), mG18]
              · rw [a8 259 (by decide) (by omega) (by decide), mG11]
              · rw [a8 259 (by decide) (by omega) (by decide), mG12]
              · intro i i0 i1
                rw [a8 265 (by decide) (by omega) (by decide), mGo 265 (by decide) (by decide)]
                exact hah i i0 i1
            have eD3 : D_enter_29 (a + 1) c dn l2 = D_enter_29 a c5 (dn + 1) (l2 + 1) := by
              rw [eD2, k1, Option.bind_some]
              show D_enter_82 (D_enter_29 a) c3 dn l2 0 = _
              unfold D_enter_82 D_enter_132
              rw [c12, Option.bind_some, if_pos (by rw [c3o 1 (by omega), c2_, m11]), jadd_e (x := dn) (by omega) (by omega), jadd_e (x := l2) (by omega) (by omega)]
              by_cases y : dn ≠ 0
              · rw [if_pos y] at z1 ⊢
                rw [Option.some.inj z1, a1, Option.bind_some]
              · rw [if_neg y] at z1 ⊢
                rw [z1, Option.bind_some, a1, Option.bind_some]
            have eM3 : M_enter_46 (b + 1 + 1) m dn 1 = M_enter_46 (b + 1) m5 (dn + 1) 1 := by
              rw [eM2, k3, Option.bind_some]
              unfold M_enter_103
              rw [mG11, if_neg (fun x => x rfl)]
              unfold M_enter_115
              rw [if_neg (show ¬ (1 : Int) = 0 by decide), a2, Option.bind_some]
              unfold M_enter_124
              rw [if_neg (show ¬ (1 : Int) = 0 by decide), jadd_e (by omega) (by omega), Option.bind_some]
            rw [eD3, eM3]
            first
              | exact ih a (b + 1) (l2 + 1) (Ex X A) (dn + 1) c5 m5 hES (by omega) (by omega) (by omega) (by omega) (by omega) (by omega) (by omega)
              | (exfalso; omega)
        · -- it could not be read
          obtain ⟨v1, v2, v3, v4, v5⟩ := hCF
          obtain ⟨y1, y2, y3, y4, y5⟩ := hMB
          have cso : ∀ o, (o < 241 ∨ 256 ≤ o) → cS o = c o := fun o x => by rw [v5 o (by omega) (by omega), w2 o (by omega) (by omega) (by omega), q9 o (by omega) (by omega) (by omega) (by omega)]
          have exF : EXS B dn (wr (wr cS 1 2 1) 1 3 (Px X f)) mS := EXS_c hX0' (fun o x y => by rw [wr_o y, wr_o y, cso o x]) (by rw [wr_f (by decide), wr_f (by decide), cso 1 (by omega)]) (fun o x y => y4 o x (by omega) (by omega) (by omega)) (fun f x => y5 f (by omega) (by omega) (by omega)) (by rw [wr_f (by decide), wr_eq, y2]) (by rw [wr_eq, y3])
          obtain ⟨c4, m4, e1, e2, e3⟩ := ex_op d0 exF
          refine ⟨dn, c4, m4, ?_, ?_, e3, un152 e1 (UNw (UNw (un_Rd_readStatement eR unS) uo_1) uo_1)⟩
          · rw [eD, eR, Option.bind_some]
            show (if (0 : Int) = 0 then D_enter_82 (D_enter_29 a) cS dn l2 1 else _) = _
            rw [if_pos rfl]
            unfold D_enter_82
            rw [Option.bind_some, wr_eq, if_neg (by decide), if_neg (fun x => x rfl), rplace, cPl ⟨v1, v2, v3, v4, v5⟩ hC, Option.bind_some, Option.bind_some, e1]
          · rw [em46, eM, Option.bind_some, y1, if_pos (by decide)]
            unfold M_enter_103
            rw [y2, if_pos (by decide)]
            unfold M_enter_115 M_enter_124
            rw [if_pos rfl, if_pos rfl, jadd_e (by omega) (by omega), Option.bind_some, Int.add_zero, e2]
