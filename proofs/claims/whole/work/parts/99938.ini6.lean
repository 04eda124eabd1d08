-- L3: what the constructors make: the model (printed by wip/gen/emitmod.py)
theorem wJu {μ : Mem} {o i v : Int} {g : Int → Int} {F : Mem → Option Mem} (h : kd o = 104 ∧ 0 < o ∧ 0 ≤ i ∧ i < ln o) : ((wJ (up μ o g) o i v).bind F) = F (up μ o (st1 g i v)) := by
  unfold wJ
  rw [if_pos h, Option.bind_some, wr_st1, up_eq, up_up]
theorem wIu {μ : Mem} {o i v : Int} {g : Int → Int} {F : Mem → Option Mem} (h : kd o = 100 ∧ 0 < o ∧ 0 ≤ i ∧ i < ln o) : ((wI (up μ o g) o i v).bind F) = F (up μ o (st1 g i v)) := by
  unfold wI
  rw [if_pos h, Option.bind_some, wr_st1, up_eq, up_up]
theorem nwAu {μ : Mem} {k n : Int} {K : Nat} {G : Mem → Int → Option Mem} (h : μ 0 0 + 1 = k) (hk : kd k = K ∧ ln k = n ∧ 0 ≤ n ∧ n ≤ 200000 ∧ 0 < k) : ((nwA μ K n).bind fun m => (some (μ 0 0 + 1)).bind fun x => G m x) = G (up (al k μ) k (fun _ => 0)) k := by
  rw [← al_up hk.2.2.2.2]
  exact nwAIn h hk
def wdC : Int → Int := (st1 (st1 (st1 (st1 (st1 (st1 (st1 (st1 (st1 (st1 (st1 (st1 (st1 (st1 (st1 (st1 (st1 (st1 (st1 (st1 (st1 (st1 (st1 (st1 (st1 (st1 (st1 (st1 (st1 (st1 (st1 (st1 (st1 (st1 (st1 (st1 (st1 (st1 (st1 (st1 (st1 (st1 (st1 (st1 (st1 (st1 (st1 (st1 (st1 (st1 (st1 (st1 (st1 (st1 (st1 (st1 (st1 (st1 (st1 (st1 (st1 (st1 (st1 (st1 (st1 (st1 (st1 (st1 (st1 (st1 (fun _ => 0) 0 1065) 1 4085899) 2 399999) 3 8537408) 4 47) 5 6564179) 6 2021387) 7 137017514) 8 390787) 9 8345252375) 10 6219567563) 11 286880) 12 14420) 13 459818) 14 22726) 15 5061310453) 16 454037) 17 381245) 18 355568) 19 281490259) 20 419) 21 2759) 22 261008005) 23 305800) 24 309910109) 25 60293219) 26 70441) 27 555) 28 1310105) 29 8338025072) 30 1306021) 31 243356) 32 1834209) 33 10376624) 34 316154) 35 309083375) 36 3094274) 37 13901) 38 318611) 39 388708) 40 583) 41 90302) 42 267413) 43 2232979) 44 94310429) 45 243146) 46 388609) 47 6683990) 48 133743) 49 131638) 50 168755) 51 7051790291) 52 237292) 53 125042) 54 453937) 55 9673153) 56 400619) 57 146957) 58 161140) 59 386066) 60 266497038) 61 3172) 62 13261) 63 4078175) 64 48686) 65 11705) 66 400565) 67 12384399) 68 190531) 69 365565)
theorem wdC_n : ∀ n : Nat, n < 70 → wdC (n : Int) = tbl wdT (n : Int) := by decide +kernel
theorem wdC_i {i : Int} (i0 : 0 ≤ i) (i1 : i < 70) : wdC i = tbl wdT i := by
  obtain ⟨n, rfl⟩ : ∃ n : Nat, i = (n : Int) := ⟨i.toNat, by omega⟩
  exact wdC_n n (by omega)
def hmC : Int → Int := (st1 (st1 (st1 (st1 (st1 (st1 (st1 (st1 (st1 (fun _ => 0) 0 0) 1 1000) 2 1000) 3 1000) 4 500) 5 500) 6 0) 7 1000) 8 0)
theorem hmC_n : ∀ n : Nat, n < 9 → hmC (n : Int) = tbl hmT (n : Int) := by decide +kernel
theorem hmC_i {i : Int} (i0 : 0 ≤ i) (i1 : i < 9) : hmC i = tbl hmT i := by
  obtain ⟨n, rfl⟩ : ∃ n : Nat, i = (n : Int) := ⟨i.toNat, by omega⟩
  exact hmC_n n (by omega)
def soC : Int → Int := (st1 (st1 (st1 (st1 (st1 (st1 (st1 (st1 (st1 (st1 (st1 (st1 (st1 (st1 (st1 (st1 (st1 (st1 (st1 (st1 (st1 (st1 (fun _ => 0) 0 0) 1 16) 2 0) 3 0) 4 0) 5 1) 6 2) 7 3) 8 1) 9 2) 10 3) 11 16) 12 20) 13 21) 14 6) 15 16) 16 20) 17 21) 18 6) 19 7) 20 0) 21 8)
theorem soC_n : ∀ n : Nat, n < 22 → soC (n : Int) = tbl soT (n : Int) := by decide +kernel
theorem soC_i {i : Int} (i0 : 0 ≤ i) (i1 : i < 22) : soC i = tbl soT i := by
  obtain ⟨n, rfl⟩ : ∃ n : Nat, i = (n : Int) := ⟨i.toNat, by omega⟩
  exact soC_n n (by omega)
def sfC : Int → Int := (st1 (st1 (st1 (st1 (st1 (st1 (st1 (st1 (st1 (st1 (fun _ => 0) 0 0) 1 1) 2 2) 3 3) 4 4) 5 8) 6 11) 7 15) 8 20) 9 22)
theorem sfC_n : ∀ n : Nat, n < 10 → sfC (n : Int) = tbl sfT (n : Int) := by decide +kernel
theorem sfC_i {i : Int} (i0 : 0 ≤ i) (i1 : i < 10) : sfC i = tbl sfT i := by
  obtain ⟨n, rfl⟩ : ∃ n : Nat, i = (n : Int) := ⟨i.toNat, by omega⟩
  exact sfC_n n (by omega)
theorem k259 : kd 259 = 12 := by decide +kernel
def mT (c : Mem) : Mem := (wr (up (al 263 (wr (up (al 262 (wr (up (al 261 (wr (up (al 260 c) 260 wdC) 259 0 260)) 261 hmC) 259 1 261)) 262 soC) 259 2 262)) 263 sfC) 259 3 263)
def mL (m : Mem) : Mem := (wr (al 280 (wr (al 279 (wr (al 278 (wr (wr (al 277 (wr (al 276 (wr (al 275 (wr (al 274 (wr (al 273 (wr (al 272 (wr (al 271 (wr (al 270 (wr (al 269 (wr (al 268 (wr (wr (al 267 (wr (al 266 (wr (al 265 (wr (al 264 m) 259 4 264)) 259 5 265)) 259 6 266)) 259 9 267) 259 12 (-1))) 259 13 268)) 259 14 269)) 259 15 270)) 259 20 271)) 259 23 272)) 259 24 273)) 259 25 274)) 259 26 275)) 259 32 276)) 259 33 277) 259 34 1000)) 259 36 278)) 259 37 279)) 259 38 280)
theorem mT_o {c : Mem} {o : Int} (x : ¬ o = 0) (y : ¬ (259 ≤ o ∧ o ≤ 263)) : mT c o = c o := by
  unfold mT
  rw [wr_o (by omega), up_ne (by omega), al_o (by omega) (by omega), wr_o (by omega), up_ne (by omega), al_o (by omega) (by omega), wr_o (by omega), up_ne (by omega), al_o (by omega) (by omega), wr_o (by omega), up_ne (by omega), al_o (by omega) (by omega)]
theorem mL_o {m : Mem} {o : Int} (x : ¬ o = 0) (y : ¬ (o = 259 ∨ 264 ≤ o ∧ o ≤ 280)) : mL m o = m o := by
  unfold mL
  rw [wr_o (by omega), al_o (by omega) (by omega), wr_o (by omega), al_o (by omega) (by omega), wr_o (by omega), al_o (by omega) (by omega), wr_o (by omega), wr_o (by omega), al_o (by omega) (by omega), wr_o (by omega), al_o (by omega) (by omega), wr_o (by omega), al_o (by omega) (by omega), wr_o (by omega), al_o (by omega) (by omega), wr_o (by omega), al_o (by omega) (by omega), wr_o (by omega), al_o (by omega) (by omega), wr_o (by omega), al_o (by omega) (by omega), wr_o (by omega), al_o (by omega) (by omega), wr_o (by omega), al_o (by omega) (by omega), wr_o (by omega), al_o (by omega) (by omega), wr_o (by omega), wr_o (by omega), al_o (by omega) (by omega), wr_o (by omega), al_o (by omega) (by omega), wr_o (by omega), al_o (by omega) (by omega), wr_o (by omega), al_o (by omega) (by omega)]
theorem mT_260 {c : Mem} : mT c 260 = wdC := by
  unfold mT
  rw [wr_o (by decide), up_ne (by decide), al_o (by decide) (by decide), wr_o (by decide), up_ne (by decide), al_o (by decide) (by decide), wr_o (by decide), up_ne (by decide), al_o (by decide) (by decide), wr_o (by decide), up_eq]
theorem mT_261 {c : Mem} : mT c 261 = hmC := by
  unfold mT
  rw [wr_o (by decide), up_ne (by decide), al_o (by decide) (by decide), wr_o (by decide), up_ne (by decide), al_o (by decide) (by decide), wr_o (by decide), up_eq]
theorem mT_262 {c : Mem} : mT c 262 = soC := by
  unfold mT
  rw [wr_o (by decide), up_ne (by decide), al_o (by decide) (by decide), wr_o (by decide), up_eq]
theorem mT_263 {c : Mem} : mT c 263 = sfC := by
  unfold mT
  rw [wr_o (by decide), up_eq]
theorem mT_0 {c : Mem} : mT c 0 0 = 263 := rfl
theorem mT_1 {c : Mem} : mT c 0 1 = c 0 1 := rfl
theorem mL_0 {c : Mem} : mL c 0 0 = 280 := rfl
theorem mL_1 {c : Mem} : mL c 0 1 = c 0 1 := rfl
theorem mL_z {c : Mem} {o j : Int} (h0 : 264 ≤ o) (h1 : o ≤ 280) : mL c o j = 0 := by
  have h : o = 264 ∨ o = 265 ∨ o = 266 ∨ o = 267 ∨ o = 268 ∨ o = 269 ∨ o = 270 ∨ o = 271 ∨ o = 272 ∨ o = 273 ∨ o = 274 ∨ o = 275 ∨ o = 276 ∨ o = 277 ∨ o = 278 ∨ o = 279 ∨ o = 280 := by omega
  rcases h with rfl | rfl | rfl | rfl | rfl | rfl | rfl | rfl | rfl | rfl | rfl | rfl | rfl | rfl | rfl | rfl | rfl
  all_goals rfl
theorem mF_0 {c : Mem} : mL (mT c) 259 0 = 260 := rfl
theorem mF_1 {c : Mem} : mL (mT c) 259 1 = 261 := rfl
theorem mF_2 {c : Mem} : mL (mT c) 259 2 = 262 := rfl
theorem mF_3 {c : Mem} : mL (mT c) 259 3 = 263 := rfl
theorem mF_4 {c : Mem} : mL (mT c) 259 4 = 264 := rfl
theorem mF_5 {c : Mem} : mL (mT c) 259 5 = 265 := rfl
theorem mF_6 {c : Mem} : mL (mT c) 259 6 = 266 := rfl
theorem mF_9 {c : Mem} : mL (mT c) 259 9 = 267 := rfl
theorem mF_12 {c : Mem} : mL (mT c) 259 12 = (-1) := rfl
theorem mF_13 {c : Mem} : mL (mT c) 259 13 = 268 := rfl
theorem mF_14 {c : Mem} : mL (mT c) 259 14 = 269 := rfl
theorem mF_15 {c : Mem} : mL (mT c) 259 15 = 270 := rfl
theorem mF_20 {c : Mem} : mL (mT c) 259 20 = 271 := rfl
theorem mF_23 {c : Mem} : mL (mT c) 259 23 = 272 := rfl
theorem mF_24 {c : Mem} : mL (mT c) 259 24 = 273 := rfl
theorem mF_25 {c : Mem} : mL (mT c) 259 25 = 274 := rfl
theorem mF_26 {c : Mem} : mL (mT c) 259 26 = 275 := rfl
theorem mF_32 {c : Mem} : mL (mT c) 259 32 = 276 := rfl
theorem mF_33 {c : Mem} : mL (mT c) 259 33 = 277 := rfl
theorem mF_34 {c : Mem} : mL (mT c) 259 34 = 1000 := rfl
theorem mF_36 {c : Mem} : mL (mT c) 259 36 = 278 := rfl
theorem mF_37 {c : Mem} : mL (mT c) 259 37 = 279 := rfl
theorem mF_38 {c : Mem} : mL (mT c) 259 38 = 280 := rfl
theorem mF_7 {c : Mem} (h : ∀ j, c 259 j = 0) : mL (mT c) 259 7 = 0 := h 7
theorem mF_8 {c : Mem} (h : ∀ j, c 259 j = 0) : mL (mT c) 259 8 = 0 := h 8
theorem mF_10 {c : Mem} (h : ∀ j, c 259 j = 0) : mL (mT c) 259 10 = 0 := h 10
theorem mF_11 {c : Mem} (h : ∀ j, c 259 j = 0) : mL (mT c) 259 11 = 0 := h 11
theorem mF_16 {c : Mem} (h : ∀ j, c 259 j = 0) : mL (mT c) 259 16 = 0 := h 16
theorem mF_17 {c : Mem} (h : ∀ j, c 259 j = 0) : mL (mT c) 259 17 = 0 := h 17
theorem mF_18 {c : Mem} (h : ∀ j, c 259 j = 0) : mL (mT c) 259 18 = 0 := h 18
theorem mF_19 {c : Mem} (h : ∀ j, c 259 j = 0) : mL (mT c) 259 19 = 0 := h 19
theorem mF_21 {c : Mem} (h : ∀ j, c 259 j = 0) : mL (mT c) 259 21 = 0 := h 21
theorem mF_22 {c : Mem} (h : ∀ j, c 259 j = 0) : mL (mT c) 259 22 = 0 := h 22
theorem mF_27 {c : Mem} (h : ∀ j, c 259 j = 0) : mL (mT c) 259 27 = 0 := h 27
theorem mF_28 {c : Mem} (h : ∀ j, c 259 j = 0) : mL (mT c) 259 28 = 0 := h 28
theorem mF_29 {c : Mem} (h : ∀ j, c 259 j = 0) : mL (mT c) 259 29 = 0 := h 29
theorem mF_30 {c : Mem} (h : ∀ j, c 259 j = 0) : mL (mT c) 259 30 = 0 := h 30
theorem mF_31 {c : Mem} (h : ∀ j, c 259 j = 0) : mL (mT c) 259 31 = 0 := h 31
theorem mF_35 {c : Mem} (h : ∀ j, c 259 j = 0) : mL (mT c) 259 35 = 0 := h 35
theorem mk_M1 {c : Mem} (h0 : c 0 0 = 259) : wM_init c 259 = wM_init_892 259 big (mL (mT c)) 0 := by
  have h1 : c 0 0 + 1 = 260 := by omega
  have hm0 : mT c 0 0 + 1 = 264 := by have := @mT_0 c; omega
  unfold wM_init
  rw [if_neg (by decide), nwAu (k := 260) h1 (by decide +kernel), wJu (by decide +kernel), wJu (by decide +kernel), wJu (by decide +kernel), wJu (by decide +kernel), wJu (by decide +kernel), wJu (by decide +kernel), wJu (by decide +kernel), wJu (by decide +kernel), wJu (by decide +kernel), wJu (by decide +kernel), wJu (by decide +kernel), wJu (by decide +kernel), wJu (by decide +kernel), wJu (by decide +kernel), wJu (by decide +kernel), wJu (by decide +kernel), wJu (by decide +kernel), wJu (by decide +kernel), wJu (by decide +kernel), wJu (by decide +kernel), wJu (by decide +kernel), wJu (by decide +kernel), wJu (by decide +kernel), wJu (by decide +kernel), wJu (by decide +kernel), wJu (by decide +kernel), wJu (by decide +kernel), wJu (by decide +kernel), wJu (by decide +kernel), wJu (by decide +kernel), wJu (by decide +kernel), wJu (by decide +kernel), wJu (by decide +kernel), wJu (by decide +kernel), wJu (by decide +kernel), wJu (by decide +kernel), wJu (by decide +kernel), wJu (by decide +kernel), wJu (by decide +kernel), wJu (by decide +kernel), wJu (by decide +kernel), wJu (by decide +kernel), wJu (by decide +kernel), wJu (by decide +kernel), wJu (by decide +kernel), wJu (by decide +kernel), wJu (by decide +kernel), wJu (by decide +kernel), wJu (by decide +kernel), wJu (by decide +kernel), wJu (by decide +kernel), wJu (by decide +kernel), wJu (by decide +kernel), wJu (by decide +kernel), wJu (by decide +kernel), wJu (by decide +kernel), wJu (by decide +kernel), wJu (by decide +kernel), wJu (by decide +kernel), wJu (by decide +kernel), wJu (by decide +kernel), wJu (by decide +kernel), wJu (by decide +kernel), wJu (by decide +kernel), wJu (by decide +kernel), wJu (by decide +kernel), wJu (by decide +kernel), wJu (by decide +kernel), wJu (by decide +kernel), wJu (by decide +kernel), show (st1 (st1 (st1 (st1 (st1 (st1 (st1 (st1 (st1 (st1 (st1 (st1 (st1 (st1 (st1 (st1 (st1 (st1 (st1 (st1 (st1 (st1 (st1 (st1 (st1 (st1 (st1 (st1 (st1 (st1 (st1 (st1 (st1 (st1 (st1 (st1 (st1 (st1 (st1 (st1 (st1 (st1 (st1 (st1 (st1 (st1 (st1 (st1 (st1 (st1 (st1 (st1 (st1 (st1 (st1 (st1 (st1 (st1 (st1 (st1 (st1 (st1 (st1 (st1 (st1 (st1 (st1 (st1 (st1 (st1 (fun _ => 0) 0 1065) 1 4085899) 2 399999) 3 8537408) 4 47) 5 6564179) 6 2021387) 7 137017514) 8 390787) 9 8345252375) 10 6219567563) 11 286880) 12 14420) 13 459818) 14 22726) 15 5061310453) 16 454037) 17 381245) 18 355568) 19 281490259) 20 419) 21 2759) 22 261008005) 23 305800) 24 309910109) 25 60293219) 26 70441) 27 555) 28 1310105) 29 8338025072) 30 1306021) 31 243356) 32 1834209) 33 10376624) 34 316154) 35 309083375) 36 3094274) 37 13901) 38 318611) 39 388708) 40 583) 41 90302) 42 267413) 43 2232979) 44 94310429) 45 243146) 46 388609) 47 6683990) 48 133743) 49 131638) 50 168755) 51 7051790291) 52 237292) 53 125042) 54 453937) 55 9673153) 56 400619) 57 146957) 58 161140) 59 386066) 60 266497038) 61 3172) 62 13261) 63 4078175) 64 48686) 65 11705) 66 400565) 67 12384399) 68 190531) 69 365565) = wdC from rfl, pfb ⟨k259, by decide⟩ (by decide), nwAu (k := 261) (by rfl) (by decide +kernel), wIu (by decide +kernel), wIu (by decide +kernel), wIu (by decide +kernel), wIu (by decide +kernel), wIu (by decide +kernel), wIu (by decide +kernel), wIu (by decide +kernel), wIu (by decide +kernel), wIu (by decide +kernel), show (st1 (st1 (st1 (st1 (st1 (st1 (st1 (st1 (st1 (fun _ => 0) 0 0) 1 1000) 2 1000) 3 1000) 4 500) 5 500) 6 0) 7 1000) 8 0) = hmC from rfl, pfb ⟨k259, by decide⟩ (by decide), nwAu (k := 262) (by rfl) (by decide +kernel), wIu (by decide +kernel), wIu (by decide +kernel), wIu (by decide +kernel), wIu (by decide +kernel), wIu (by decide +kernel), wIu (by decide +kernel), wIu (by decide +kernel), wIu (by decide +kernel), wIu (by decide +kernel), wIu (by decide +kernel), wIu (by decide +kernel), wIu (by decide +kernel), wIu (by decide +kernel), wIu (by decide +kernel), wIu (by decide +kernel), wIu (by decide +kernel), wIu (by decide +kernel), wIu (by decide +kernel), wIu (by decide +kernel), wIu (by decide +kernel), wIu (by decide +kernel), wIu (by decide +kernel), show (st1 (st1 (st1 (st1 (st1 (st1 (st1 (st1 (st1 (st1 (st1 (st1 (st1 (st1 (st1 (st1 (st1 (st1 (st1 (st1 (st1 (st1 (fun _ => 0) 0 0) 1 16) 2 0) 3 0) 4 0) 5 1) 6 2) 7 3) 8 1) 9 2) 10 3) 11 16) 12 20) 13 21) 14 6) 15 16) 16 20) 17 21) 18 6) 19 7) 20 0) 21 8) = soC from rfl, pfb ⟨k259, by decide⟩ (by decide), nwAu (k := 263) (by rfl) (by decide +kernel), wIu (by decide +kernel), wIu (by decide +kernel), wIu (by decide +kernel), wIu (by decide +kernel), wIu (by decide +kernel), wIu (by decide +kernel), wIu (by decide +kernel), wIu (by decide +kernel), wIu (by decide +kernel), wIu (by decide +kernel), show (st1 (st1 (st1 (st1 (st1 (st1 (st1 (st1 (st1 (st1 (fun _ => 0) 0 0) 1 1) 2 2) 3 3) 4 4) 5 8) 6 11) 7 15) 8 20) 9 22) = sfC from rfl, pfb ⟨k259, by decide⟩ (by decide)]
  rw [show (wr (up (al 263 (wr (up (al 262 (wr (up (al 261 (wr (up (al 260 c) 260 wdC) 259 0 260)) 261 hmC) 259 1 261)) 262 soC) 259 2 262)) 263 sfC) 259 3 263) = mT c from rfl]
  rw [nwpf (k := 264) hm0 (by decide +kernel) (by decide +kernel), nwpf (k := 265) (by rfl) (by decide +kernel) (by decide +kernel), nwpf (k := 266) (by rfl) (by decide +kernel) (by decide +kernel), nwpf (k := 267) (by rfl) (by decide +kernel) (by decide +kernel), pfb ⟨k259, by decide⟩ (by decide), nwpf (k := 268) (by rfl) (by decide +kernel) (by decide +kernel), nwpf (k := 269) (by rfl) (by decide +kernel) (by decide +kernel), nwpf (k := 270) (by rfl) (by decide +kernel) (by decide +kernel), nwpf (k := 271) (by rfl) (by decide +kernel) (by decide +kernel), nwpf (k := 272) (by rfl) (by decide +kernel) (by decide +kernel), nwpf (k := 273) (by rfl) (by decide +kernel) (by decide +kernel), nwpf (k := 274) (by rfl) (by decide +kernel) (by decide +kernel), nwpf (k := 275) (by rfl) (by decide +kernel) (by decide +kernel), nwpf (k := 276) (by rfl) (by decide +kernel) (by decide +kernel), nwpf (k := 277) (by rfl) (by decide +kernel) (by decide +kernel), pfb ⟨k259, by decide⟩ (by decide), nwpf (k := 278) (by rfl) (by decide +kernel) (by decide +kernel), nwpf (k := 279) (by rfl) (by decide +kernel) (by decide +kernel), nwpf (k := 280) (by rfl) (by decide +kernel) (by decide +kernel)]
  rfl
/-- the model's row of numbers as it is being filled -/
def gI (a b d e j : Int) : Int := if (0 ≤ j ∧ j < 6 * a ∧ j % 6 = 0) ∨ (732 ≤ j ∧ j < b) ∨ (1168 ≤ j ∧ j < 1168 + 46 * d ∧ (j - 1168) % 46 = 0) ∨ (1562 ≤ j ∧ j < e) then -1 else 0
theorem k264 : kd 264 = 100 ∧ ln 264 = 12943 := by decide +kernel
theorem gI_w {μ : Mem} (h4 : μ 259 4 = 264) {a b d e a' b' d' e' i : Int} {F : Mem → Option Mem} (h0 : 0 ≤ i) (h1 : i < 12943) (h : st1 (gI a b d e) i (-1) = gI a' b' d' e') : ((gf (up μ 264 (gI a b d e)) 12 4 259).bind fun x1 => (wI (up μ 264 (gI a b d e)) x1 i (-1)).bind F) = F (up μ 264 (gI a' b' d' e')) := by
  rw [gf_c k259, Option.bind_some, up_ne (by decide), h4, wIu ⟨k264.1, by decide, h0, by rw [k264.2]; exact h1⟩, h]
theorem mo_892 {μ : Mem} (h4 : μ 259 4 = 264) : ∀ (d N : Nat) (i : Int), d < N → i + d = 40 → 0 ≤ i → wM_init_892 259 N (up μ 264 (gI i 732 0 1562)) i = wM_init_918 259 big (up μ 264 (gI 40 732 0 1562)) 732 := by
  intro d
  induction d with
  | zero =>
    intro N i hN hi i0
    obtain ⟨N, rfl⟩ : ∃ j, N = j + 1 := ⟨N - 1, by omega⟩
    obtain rfl : i = 40 := by omega
    rw [wM_init_892, if_pos (by decide)]
  | succ d ih =>
    intro N i hN hi i0
    obtain ⟨N, rfl⟩ : ∃ j, N = j + 1 := ⟨N - 1, by omega⟩
    have e : st1 (gI i 732 0 1562) (6 * i) (-1) = gI (i + 1) 732 0 1562 := by
      funext j
      unfold st1 gI
      by_cases y : j = 6 * i
      · rw [if_pos y, if_pos (by omega)]
      · rw [if_neg y]
        by_cases x : (0 ≤ j ∧ j < 6 * i ∧ j % 6 = 0) ∨ (732 ≤ j ∧ j < 732) ∨ (1168 ≤ j ∧ j < 1168 + 46 * 0 ∧ (j - 1168) % 46 = 0) ∨ (1562 ≤ j ∧ j < 1562)
        · rw [if_pos x, if_pos (by omega)]
        · rw [if_neg x, if_neg (by omega)]
    rw [wM_init_892, if_neg (by omega), jmul_e (by omega) (by omega), gI_w h4 (by omega) (by omega) e, jadd_e (by omega) (by omega)]
    exact ih N (i + 1) (by omega) (by omega) (by omega)
theorem mo_918 {μ : Mem} (h4 : μ 259 4 = 264) : ∀ (d N : Nat) (i : Int), d < N → i + d = 1160 → 732 ≤ i → wM_init_918 259 N (up μ 264 (gI 40 i 0 1562)) i = wM_init_940 259 big (up μ 264 (gI 40 1160 0 1562)) 0 := by
  intro d
  induction d with
  | zero =>
    intro N i hN hi i0
    obtain ⟨N, rfl⟩ : ∃ j, N = j + 1 := ⟨N - 1, by omega⟩
    obtain rfl : i = 1160 := by omega
    rw [wM_init_918, if_pos (by decide)]
  | succ d ih =>
    intro N i hN hi i0
    obtain ⟨N, rfl⟩ : ∃ j, N = j + 1 := ⟨N - 1, by omega⟩
    have e : st1 (gI 40 i 0 1562) i (-1) = gI 40 (i + 1) 0 1562 := by
      funext j
      unfold st1 gI
      by_cases y : j = i
      · rw [if_pos y, if_pos (by omega)]
      · rw [if_neg y]
        by_cases x : (0 ≤ j ∧ j < 6 * 40 ∧ j % 6 = 0) ∨ (732 ≤ j ∧ j < i) ∨ (1168 ≤ j ∧ j < 1168 + 46 * 0 ∧ (j - 1168) % 46 = 0) ∨ (1562 ≤ j ∧ j < 1562)
        · rw [if_pos x, if_pos (by omega)]
        · rw [if_neg x, if_neg (by omega)]
    rw [wM_init_918, if_neg (by omega), gI_w h4 (by omega) (by omega) e, jadd_e (by omega) (by omega)]
    exact ih N (i + 1) (by omega) (by omega) (by omega)
theorem mo_940 {μ : Mem} (h4 : μ 259 4 = 264) : ∀ (d N : Nat) (i : Int), d < N → i + d = 4 → 0 ≤ i → wM_init_940 259 N (up μ 264 (gI 40 1160 i 1562)) i = wM_init_969 259 big (up μ 264 (gI 40 1160 4 1562)) 1562 := by
  intro d
  induction d with
  | zero =>
    intro N i hN hi i0
    obtain ⟨N, rfl⟩ : ∃ j, N = j + 1 := ⟨N - 1, by omega⟩
    obtain rfl : i = 4 := by omega
    rw [wM_init_940, if_pos (by decide)]
  | succ d ih =>
    intro N i hN hi i0
    obtain ⟨N, rfl⟩ : ∃ j, N = j + 1 := ⟨N - 1, by omega⟩
    have e : st1 (gI 40 1160 i 1562) (1168 + 46 * i) (-1) = gI 40 1160 (i + 1) 1562 := by
      funext j
      unfold st1 gI
      by_cases y : j = 1168 + 46 * i
      · rw [if_pos y, if_pos (by omega)]
      · rw [if_neg y]
        by_cases x : (0 ≤ j ∧ j < 6 * 40 ∧ j % 6 = 0) ∨ (732 ≤ j ∧ j < 1160) ∨ (1168 ≤ j ∧ j < 1168 + 46 * i ∧ (j - 1168) % 46 = 0) ∨ (1562 ≤ j ∧ j < 1562)
        · rw [if_pos x, if_pos (by omega)]
        · rw [if_neg x, if_neg (by omega)]
    rw [wM_init_940, if_neg (by omega), jmul_e (by omega) (by omega), jadd_e (show -2147483648 ≤ 1168 + 46 * i by omega) (by omega), gI_w h4 (by omega) (by omega) e, jadd_e (by omega) (by omega)]
    exact ih N (i + 1) (by omega) (by omega) (by omega)
theorem mo_969 {μ : Mem} (h4 : μ 259 4 = 264) : ∀ (d N : Nat) (i : Int), d < N → i + d = 12943 → 1562 ≤ i → wM_init_969 259 N (up μ 264 (gI 40 1160 4 i)) i = wM_init_991 259 big (up μ 264 (gI 40 1160 4 12943)) 0 := by
  intro d
  induction d with
  | zero =>
    intro N i hN hi i0
    obtain ⟨N, rfl⟩ : ∃ j, N = j + 1 := ⟨N - 1, by omega⟩
    obtain rfl : i = 12943 := by omega
    rw [wM_init_969, if_pos (by decide)]
  | succ d ih =>
    intro N i hN hi i0
    obtain ⟨N, rfl⟩ : ∃ j, N = j + 1 := ⟨N - 1, by omega⟩
    have e : st1 (gI 40 1160 4 i) i (-1) = gI 40 1160 4 (i + 1) := by
      funext j
      unfold st1 gI
      by_cases y : j = i
      · rw [if_pos y, if_pos (by omega)]
      · rw [if_neg y]
        by_cases x : (0 ≤ j ∧ j < 6 * 40 ∧ j % 6 = 0) ∨ (732 ≤ j ∧ j < 1160) ∨ (1168 ≤ j ∧ j < 1168 + 46 * 4 ∧ (j - 1168) % 46 = 0) ∨ (1562 ≤ j ∧ j < i)
        · rw [if_pos x, if_pos (by omega)]
        · rw [if_neg x, if_neg (by omega)]
    rw [wM_init_969, if_neg (by omega), gI_w h4 (by omega) (by omega) e, jadd_e (by omega) (by omega)]
    exact ih N (i + 1) (by omega) (by omega) (by omega)
theorem k272 : kd 272 = 100 ∧ ln 272 = 360 := by decide +kernel
theorem k273 : kd 273 = 100 ∧ ln 273 = 360 := by decide +kernel
theorem k261 : kd 261 = 100 ∧ ln 261 = 9 := by decide +kernel
theorem mo_991 {μ : Mem} (h1 : μ 259 1 = 261) (h6 : μ 259 23 = 272) (h7 : μ 259 24 = 273) : ∀ (d N : Nat) (i : Int), d < N → i + d = 360 → 0 ≤ i → wM_init_991 259 N (pl2 μ 261 272 273 i) i = some (pl2 μ 261 272 273 360) := by
  intro d
  induction d with
  | zero =>
    intro N i hN hi i0
    obtain ⟨N, rfl⟩ : ∃ j, N = j + 1 := ⟨N - 1, by omega⟩
    obtain rfl : i = 360 := by omega
    rw [wM_init_991, if_pos (by decide)]
  | succ d ih =>
    intro N i hN hi i0
    obtain ⟨N, rfl⟩ : ∃ j, N = j + 1 := ⟨N - 1, by omega⟩
    have e1 : gf (pl2 μ 261 272 273 i) 12 23 259 = some 272 := by rw [gf_c k259, pl2_o (by decide) (by decide), h6]
    have e0 : gf (pl2 μ 261 272 273 i) 12 1 259 = some 261 := by rw [gf_c k259, pl2_o (by decide) (by decide), h1]
    have e2 : rdI (pl2 μ 261 272 273 i) 261 (jrem i 9) = some (μ 261 (i % 9)) := by
      rw [jrem_e i0 (by omega) (by decide) (by decide), rdI_ok k261.1 (by omega) (by rw [k261.2]; omega), pl2_o (by decide) (by decide)]
    have e3 : wI (pl2 μ 261 272 273 i) 272 i (μ 261 (i % 9)) = some (wr (pl2 μ 261 272 273 i) 272 i (μ 261 (i % 9))) := wI_ok k272.1 (by decide) i0 (by rw [k272.2]; omega)
    obtain ⟨m5, em5⟩ : ∃ m5, m5 = wr (pl2 μ 261 272 273 i) 272 i (μ 261 (i % 9)) := ⟨_, rfl⟩
    have f259 : m5 259 = μ 259 := by rw [em5, wr_o (by decide), pl2_o (by decide) (by decide)]
    have e4 : gf m5 12 24 259 = some 273 := by rw [gf_c k259, f259, h7]
    have e5 : gf m5 12 23 259 = some 272 := by rw [gf_c k259, f259, h6]
    have e6 : rdI m5 272 i = some (μ 261 (i % 9)) := by
      rw [rdI_ok k272.1 i0 (by rw [k272.2]; omega), em5, wr_eq]
    have e7 : wI m5 273 i (μ 261 (i % 9)) = some (wr m5 273 i (μ 261 (i % 9))) := wI_ok k273.1 (by decide) i0 (by rw [k273.2]; omega)
    rw [wM_init_991, if_neg (by omega), e1, Option.bind_some, e0, Option.bind_some, e2, Option.bind_some, e3, Option.bind_some, ← em5, e4, Option.bind_some, e5, Option.bind_some, e6, Option.bind_some, e7, Option.bind_some, em5, pl2_s (by decide) (by decide) (by decide) i0, jadd_e (by omega) (by omega)]
    exact ih N (i + 1) (by omega) (by omega) (by omega)
/-- the model's row of numbers at first -/
def g0 : Int → Int := gI 40 1160 4 12943
def mM (c : Mem) : Mem := pl2 (up (mL (mT c)) 264 g0) 261 272 273 360
theorem mk_M {c : Mem} (h0 : c 0 0 = 259) : wM_init c 259 = some (mM c) := by
  rw [mk_M1 h0]
  obtain ⟨m, em⟩ : ∃ m, m = mL (mT c) := ⟨_, rfl⟩
  have h4 : m 259 4 = 264 := by rw [em]; exact mF_4
  have hz : m = up m 264 (gI 0 732 0 1562) := by
    have e : m 264 = gI 0 732 0 1562 := by
      funext j
      rw [em, mL_z (by decide) (by decide)]
      unfold gI
      rw [if_neg (by omega)]
    rw [← e, up_id]
  have a1 := mo_892 h4 40 big 0 b40 (by decide) (Int.le_refl _)
  have a2 := mo_918 h4 428 big 732 (Nat.lt_of_lt_of_le (by decide) big_ge) (by decide) (Int.le_refl _)
  have a3 := mo_940 h4 4 big 0 (Nat.lt_of_lt_of_le (by decide) big_ge) (by decide) (Int.le_refl _)
  have a4 := mo_969 h4 11381 big 1562 (Nat.lt_of_lt_of_le (by decide) big_ge) (by decide) (Int.le_refl _)
  have a5 := mo_991 (μ := up m 264 g0) (by rw [up_ne (by decide), em]; exact mF_1) (by rw [up_ne (by decide), em]; exact mF_23) (by rw [up_ne (by decide), em]; exact mF_24) 360 big 0 b360 (by decide) (Int.le_refl _)
  rw [pl2_0] at a5
  rw [← em]
  unfold mM
  rw [← em, ← a5]
  exact (congrArg (fun x => wM_init_892 259 big x 0) hz).trans (a1.trans (a2.trans (a3.trans a4)))
theorem mM_o {c : Mem} {o : Int} (x : ¬ o = 0) (y : ¬ (259 ≤ o ∧ o ≤ 280)) : mM c o = c o := by
  unfold mM
  rw [pl2_o (by omega) (by omega), up_ne (by omega), mL_o x (by omega), mT_o x (by omega)]
theorem mM_0 {c : Mem} : mM c 0 0 = 280 := by
  unfold mM
  rw [pl2_o (by decide) (by decide), up_ne (by decide)]
  exact mL_0
theorem mM_1 {c : Mem} : mM c 0 1 = c 0 1 := by
  unfold mM
  rw [pl2_o (by decide) (by decide), up_ne (by decide), mL_1, mT_1]
theorem mM_259 {c : Mem} : mM c 259 = mL (mT c) 259 := by
  unfold mM
  rw [pl2_o (by decide) (by decide), up_ne (by decide)]
theorem mM_t {c : Mem} {o : Int} (h0 : 260 ≤ o) (h1 : o ≤ 263) : mM c o = mT c o := by
  unfold mM
  rw [pl2_o (by omega) (by omega), up_ne (by omega), mL_o (by omega) (by omega)]
theorem mM_264 {c : Mem} : mM c 264 = g0 := by
  unfold mM
  rw [pl2_o (by decide) (by decide), up_eq]
theorem mM_z {c : Mem} {o j : Int} (h0 : 265 ≤ o) (h1 : o ≤ 280) (h2 : ¬ o = 272) (h3 : ¬ o = 273) : mM c o j = 0 := by
  unfold mM
  rw [pl2_o h2 h3, up_ne (by omega), mL_z (by omega) h1]
theorem mM_g {c : Mem} {o j : Int} (h : o = 272 ∨ o = 273) (h0 : 0 ≤ j) (h1 : j < 360) : mM c o j = tbl hmT (j % 9) := by
  unfold mM
  rw [pl2_i h h0 h1, up_ne (by decide), mL_o (by decide) (by decide), mT_261, hmC_i (by omega) (by omega)]
