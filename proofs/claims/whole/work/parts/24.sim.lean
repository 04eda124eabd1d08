-- the simulation whole (the links of kinds 6 and 7, and rows of rows, are told apart)
theorem s_virt {P : Par} {n k pc k' : Nat} {c : Cd} {L : LV} {st : List SV} {μ : Mem} {r : Res} (ih : IHn P n) (hs : Sfx k ((pc, .invokevirtual k') :: c)) (h : stp (run n) k (.invokevirtual k') c L st μ = some r) : SIM P k ((pc, .invokevirtual k') :: c) L st μ r := by
  simp only [stp] at h
  obtain ⟨vs, rest, r1, rfl, hlen, hcat, hrcv, hent, hv1, hv2⟩ := callK_spec h
  intro p l e R s m args below meth c0 H locs cells slots ls adr Qc mc ms C hW hL hS hR hq
  obtain ⟨e2, he, q1, q2, q3, hd, hn⟩ := invC_spec (okI_at hs (run_ne hv2))
  have hkk := (inv_kinds e2 he).1 q2
  by_cases h6 : e2.2.2.2.2.1 = 6 ∨ e2.2.2.2.2.1 = 8 ∨ e2.2.2.2.2.1 = 10
  · exact c_six ih hs hv1 hv2 hlen hcat hrcv hent he q1 q3 hd hn h6 C hW hL hS hR hq
  · exact c_virt ih hs hv1 hv2 hlen hcat hrcv hent he q1 q3 hd hn (by omega) C hW hL hS hR hq
theorem s_stat {P : Par} {n k pc k' : Nat} {c : Cd} {L : LV} {st : List SV} {μ : Mem} {r : Res} (ih : IHn P n) (hs : Sfx k ((pc, .invokestatic k') :: c)) (h : stp (run n) k (.invokestatic k') c L st μ = some r) : SIM P k ((pc, .invokestatic k') :: c) L st μ r := by
  simp only [stp] at h
  split at h
  · rename_i hlt
    obtain ⟨vs, rest, r1, rfl, hlen, hcat, hrcv, hent, hv1, hv2⟩ := callK_spec h
    intro p l e R s m args below meth c0 H locs cells slots ls adr Qc mc ms C hW hL hS hR hq
    obtain ⟨e2, he, q1, q2, q3, hd, hn⟩ := invC_spec (okI_at hs (run_ne hv2))
    have hkk := (inv_kinds e2 he).2.1 q2
    have h9 := (inv_kinds e2 he).2.2.2
    exact c_stat ih hs hlt hv1 hv2 hlen hcat hent he q1 q3 hd hn (by omega) C hW hL hS hR hq
  · rename_i hlt
    exact s_prim ih hs (Or.inl rfl) hlt h
theorem s_spec {P : Par} {n k pc k' : Nat} {c : Cd} {L : LV} {st : List SV} {μ : Mem} {r : Res} (ih : IHn P n) (hs : Sfx k ((pc, .invokespecial k') :: c)) (h : stp (run n) k (.invokespecial k') c L st μ = some r) : SIM P k ((pc, .invokespecial k') :: c) L st μ r := by
  simp only [stp] at h
  split at h
  · rename_i hlt
    obtain ⟨vs, rest, r1, rfl, hlen, hcat, hrcv, hent, hv1, hv2⟩ := callK_spec h
    intro p l e R s m args below meth c0 H locs cells slots ls adr Qc mc ms C hW hL hS hR hq
    obtain ⟨e2, he, q1, q2, q3, hd, hn⟩ := invC_spec (okI_at hs (run_ne hv2))
    have hkk := (inv_kinds e2 he).2.2.1 q2
    have h9 := (inv_kinds e2 he).2.2.2
    by_cases h7 : e2.2.2.2.2.1 = 7
    · exact c_seven ih hs hlt hv1 hv2 hlen hcat hrcv hent he q1 q3 hd hn h7 C hW hL hS hR hq
    · exact c_init ih hs hlt hv1 hv2 hlen hcat hrcv hent he q1 q3 hd hn (by omega) C hW hL hS hR hq
  · rename_i hlt
    exact s_prim ih hs (Or.inr rfl) hlt h
/-- THE SIMULATION -/
theorem sim (P : Par) : ∀ n, IHn P n
  | 0 => fun k c L st μ r h _ => by simp [run] at h
  | n + 1 => fun k c L st μ r h hs => by
    have ih := sim P n
    cases c with
    | nil => simp [run] at h
    | cons q c =>
      obtain ⟨pc, i⟩ := q
      have h : stp (run n) k i c L st μ = some r := h
      cases i
      all_goals first
        | exact s_iconst ih hs h
        | exact s_sipush ih hs h
        | exact s_aconst_null ih hs h
        | exact s_ldc ih hs h
        | exact s_iload ih hs h
        | exact s_lload ih hs h
        | exact s_aload ih hs h
        | exact s_istore ih hs h
        | exact s_lstore ih hs h
        | exact s_astore ih hs h
        | exact s_iinc ih hs h
        | exact s_iadd ih hs h
        | exact s_isub ih hs h
        | exact s_imul ih hs h
        | exact s_iand ih hs h
        | exact s_ior ih hs h
        | exact s_ishl ih hs h
        | exact s_ishr ih hs h
        | exact s_iushr ih hs h
        | exact s_idiv ih hs h
        | exact s_irem ih hs h
        | exact s_ldiv ih hs h
        | exact s_lrem ih hs h
        | exact s_ladd ih hs h
        | exact s_lmul ih hs h
        | exact s_lcmp ih hs h
        | exact s_ineg ih hs h
        | exact s_i2b ih hs h
        | exact s_i2c ih hs h
        | exact s_i2l ih hs h
        | exact s_l2i ih hs h
        | exact s_pop ih hs h
        | exact s_dup ih hs h
        | exact s_dup2 ih hs h
        | exact s_goto ih hs h
        | exact s_ifCond ih hs h
        | exact s_if_icmp ih hs h
        | exact s_ifnull ih hs h
        | exact s_ifnonnull ih hs h
        | exact s_tableswitch ih hs h
        | exact s_lookupswitch ih hs h
        | exact s_getfield ih hs h
        | exact s_putfield ih hs h
        | exact s_getstatic ih hs h
        | exact s_iaload ih hs h
        | exact s_baload ih hs h
        | exact s_caload ih hs h
        | exact s_laload ih hs h
        | exact s_aaload ih hs h
        | exact s_iastore ih hs h
        | exact s_bastore ih hs h
        | exact s_castore ih hs h
        | exact s_lastore ih hs h
        | exact s_aastore ih hs h
        | exact s_arraylength ih hs h
        | exact s_new ih hs h
        | exact s_newarray ih hs h
        | exact s_anewarray ih hs h
        | exact s_multi ih hs h
        | exact s_virt ih hs h
        | exact s_spec ih hs h
        | exact s_stat ih hs h
        | exact s_ireturn ih hs h
        | exact s_areturn ih hs h
        | exact s_return ih hs h
        | (cases h; done)
