-- L2: facts of objects and methods (printed by wip/gen/emit32.py)
theorem kd_82 : kd 82 = 110 := by decide +kernel
theorem ln_82 : ln 82 = 11 := by decide +kernel
theorem kd_78 : kd 78 = 125 := by decide +kernel
theorem ln_78 : ln 78 = 5 := by decide +kernel
theorem kd_72 : kd 72 = 110 := by decide +kernel
theorem ln_72 : ln 72 = 5 := by decide +kernel
theorem kd_61 : kd 61 = 110 := by decide +kernel
theorem ln_61 : ln 61 = 9 := by decide +kernel
theorem kd_47 : kd 47 = 110 := by decide +kernel
theorem ln_47 : ln 47 = 13 := by decide +kernel
theorem kd_46 : kd 46 = 125 := by decide +kernel
theorem ln_46 : ln 46 = 13 := by decide +kernel
theorem kd_4 : kd 4 = 110 := by decide +kernel
theorem ln_4 : ln 4 = 41 := by decide +kernel
theorem kd_n6 : kd (-6) = 100 := by decide +kernel
theorem ln_n6 : ln (-6) = 23 := by decide +kernel
theorem ka_n6 : fxK (kd (-6)) = true := by decide +kernel
theorem kd_n5 : kd (-5) = 100 := by decide +kernel
theorem ln_n5 : ln (-5) = 23 := by decide +kernel
theorem ka_n5 : fxK (kd (-5)) = true := by decide +kernel
theorem kd_n4 : kd (-4) = 100 := by decide +kernel
theorem ln_n4 : ln (-4) = 72 := by decide +kernel
theorem ka_n4 : fxK (kd (-4)) = true := by decide +kernel
theorem kd_n3 : kd (-3) = 100 := by decide +kernel
theorem ln_n3 : ln (-3) = 9 := by decide +kernel
theorem ka_n3 : fxK (kd (-3)) = true := by decide +kernel
theorem kd_n2 : kd (-2) = 100 := by decide +kernel
theorem ln_n2 : ln (-2) = 9 := by decide +kernel
theorem ka_n2 : fxK (kd (-2)) = true := by decide +kernel
theorem kd_n1 : kd (-1) = 100 := by decide +kernel
theorem ln_n1 : ln (-1) = 9 := by decide +kernel
theorem ka_n1 : fxK (kd (-1)) = true := by decide +kernel
theorem kd_1 : kd 1 = 11 := by decide +kernel
theorem kd_2 : kd 2 = 101 := by decide +kernel
theorem ln_2 : ln 2 = 6000 := by decide +kernel
theorem ka_2 : fxK (kd 2) = true := by decide +kernel
theorem kd_3 : kd 3 = 7 := by decide +kernel
theorem kd_71 : kd 71 = 100 := by decide +kernel
theorem ln_71 : ln 71 = 9 := by decide +kernel
theorem ka_71 : fxK (kd 71) = true := by decide +kernel
theorem kd_79 : kd 79 = 121 := by decide +kernel
theorem ln_79 : ln 79 = 30 := by decide +kernel
theorem ka_79 : fxK (kd 79) = true := by decide +kernel
theorem kd_80 : kd 80 = 100 := by decide +kernel
theorem ln_80 : ln 80 = 360 := by decide +kernel
theorem ka_80 : fxK (kd 80) = true := by decide +kernel
theorem kd_81 : kd 81 = 100 := by decide +kernel
theorem ln_81 : ln 81 = 201 := by decide +kernel
theorem ka_81 : fxK (kd 81) = true := by decide +kernel
theorem kd_220 : kd 220 = 127 := by decide +kernel
theorem ln_220 : ln 220 = 8 := by decide +kernel
theorem ka_220 : fxK (kd 220) = true := by decide +kernel
theorem kd_221 : kd 221 = 3 := by decide +kernel
theorem kd_222 : kd 222 = 100 := by decide +kernel
theorem ln_222 : ln 222 = 360 := by decide +kernel
theorem ka_222 : fxK (kd 222) = true := by decide +kernel
theorem kd_223 : kd 223 = 100 := by decide +kernel
theorem ln_223 : ln 223 = 360 := by decide +kernel
theorem ka_223 : fxK (kd 223) = true := by decide +kernel
theorem kd_224 : kd 224 = 100 := by decide +kernel
theorem ln_224 : ln 224 = 360 := by decide +kernel
theorem ka_224 : fxK (kd 224) = true := by decide +kernel
theorem kd_225 : kd 225 = 100 := by decide +kernel
theorem ln_225 : ln 225 = 360 := by decide +kernel
theorem ka_225 : fxK (kd 225) = true := by decide +kernel
theorem kd_226 : kd 226 = 8 := by decide +kernel
theorem kd_227 : kd 227 = 100 := by decide +kernel
theorem ln_227 : ln 227 = 9 := by decide +kernel
theorem ka_227 : fxK (kd 227) = true := by decide +kernel
theorem kd_228 : kd 228 = 102 := by decide +kernel
theorem ln_228 : ln 228 = 9 := by decide +kernel
theorem ka_228 : fxK (kd 228) = true := by decide +kernel
theorem kd_229 : kd 229 = 102 := by decide +kernel
theorem ln_229 : ln 229 = 5 := by decide +kernel
theorem ka_229 : fxK (kd 229) = true := by decide +kernel
theorem kd_230 : kd 230 = 100 := by decide +kernel
theorem ln_230 : ln 230 = 41 := by decide +kernel
theorem ka_230 : fxK (kd 230) = true := by decide +kernel
theorem kd_231 : kd 231 = 10 := by decide +kernel
theorem kd_232 : kd 232 = 100 := by decide +kernel
theorem ln_232 : ln 232 = 71 := by decide +kernel
theorem ka_232 : fxK (kd 232) = true := by decide +kernel
theorem kd_240 : kd 240 = 103 := by decide +kernel
theorem ln_240 : ln 240 = 380 := by decide +kernel
theorem ka_240 : fxK (kd 240) = true := by decide +kernel
theorem kd_241 : kd 241 = 9 := by decide +kernel
theorem kd_242 : kd 242 = 100 := by decide +kernel
theorem ln_242 : ln 242 = 12 := by decide +kernel
theorem ka_242 : fxK (kd 242) = true := by decide +kernel
theorem kd_243 : kd 243 = 100 := by decide +kernel
theorem ln_243 : ln 243 = 240 := by decide +kernel
theorem ka_243 : fxK (kd 243) = true := by decide +kernel
theorem kd_244 : kd 244 = 100 := by decide +kernel
theorem ln_244 : ln 244 = 240 := by decide +kernel
theorem ka_244 : fxK (kd 244) = true := by decide +kernel
theorem kd_245 : kd 245 = 100 := by decide +kernel
theorem ln_245 : ln 245 = 240 := by decide +kernel
theorem ka_245 : fxK (kd 245) = true := by decide +kernel
theorem kd_246 : kd 246 = 100 := by decide +kernel
theorem ln_246 : ln 246 = 480 := by decide +kernel
theorem ka_246 : fxK (kd 246) = true := by decide +kernel
theorem kd_247 : kd 247 = 100 := by decide +kernel
theorem ln_247 : ln 247 = 480 := by decide +kernel
theorem ka_247 : fxK (kd 247) = true := by decide +kernel
theorem kd_248 : kd 248 = 5 := by decide +kernel
theorem kd_249 : kd 249 = 100 := by decide +kernel
theorem ln_249 : ln 249 = 40 := by decide +kernel
theorem ka_249 : fxK (kd 249) = true := by decide +kernel
theorem kd_250 : kd 250 = 4 := by decide +kernel
theorem kd_252 : kd 252 = 100 := by decide +kernel
theorem ln_252 : ln 252 = 121 := by decide +kernel
theorem ka_252 : fxK (kd 252) = true := by decide +kernel
theorem kd_253 : kd 253 = 100 := by decide +kernel
theorem ln_253 : ln 253 = 121 := by decide +kernel
theorem ka_253 : fxK (kd 253) = true := by decide +kernel
theorem kd_254 : kd 254 = 100 := by decide +kernel
theorem ln_254 : ln 254 = 121 := by decide +kernel
theorem ka_254 : fxK (kd 254) = true := by decide +kernel
theorem kd_255 : kd 255 = 0 := by decide +kernel
theorem kd_256 : kd 256 = 2 := by decide +kernel
theorem kd_257 : kd 257 = 6 := by decide +kernel
theorem kd_258 : kd 258 = 101 := by decide +kernel
theorem ln_258 : ln 258 = 6000 := by decide +kernel
theorem ka_258 : fxK (kd 258) = true := by decide +kernel
theorem kd_259 : kd 259 = 12 := by decide +kernel
theorem kd_260 : kd 260 = 104 := by decide +kernel
theorem ln_260 : ln 260 = 70 := by decide +kernel
theorem ka_260 : fxK (kd 260) = true := by decide +kernel
theorem kd_261 : kd 261 = 100 := by decide +kernel
theorem ln_261 : ln 261 = 9 := by decide +kernel
theorem ka_261 : fxK (kd 261) = true := by decide +kernel
theorem kd_262 : kd 262 = 100 := by decide +kernel
theorem ln_262 : ln 262 = 22 := by decide +kernel
theorem ka_262 : fxK (kd 262) = true := by decide +kernel
theorem kd_263 : kd 263 = 100 := by decide +kernel
theorem ln_263 : ln 263 = 10 := by decide +kernel
theorem ka_263 : fxK (kd 263) = true := by decide +kernel
theorem kd_264 : kd 264 = 100 := by decide +kernel
theorem ln_264 : ln 264 = 12943 := by decide +kernel
theorem ka_264 : fxK (kd 264) = true := by decide +kernel
theorem kd_265 : kd 265 = 100 := by decide +kernel
theorem ln_265 : ln 265 = 12943 := by decide +kernel
theorem ka_265 : fxK (kd 265) = true := by decide +kernel
theorem kd_266 : kd 266 = 100 := by decide +kernel
theorem ln_266 : ln 266 = 103544 := by decide +kernel
theorem ka_266 : fxK (kd 266) = true := by decide +kernel
theorem kd_267 : kd 267 = 100 := by decide +kernel
theorem ln_267 : ln 267 = 6000 := by decide +kernel
theorem ka_267 : fxK (kd 267) = true := by decide +kernel
theorem kd_268 : kd 268 = 100 := by decide +kernel
theorem ln_268 : ln 268 = 122 := by decide +kernel
theorem ka_268 : fxK (kd 268) = true := by decide +kernel
theorem kd_269 : kd 269 = 100 := by decide +kernel
theorem ln_269 : ln 269 = 122 := by decide +kernel
theorem ka_269 : fxK (kd 269) = true := by decide +kernel
theorem kd_270 : kd 270 = 100 := by decide +kernel
theorem ln_270 : ln 270 = 122 := by decide +kernel
theorem ka_270 : fxK (kd 270) = true := by decide +kernel
theorem kd_271 : kd 271 = 100 := by decide +kernel
theorem ln_271 : ln 271 = 40 := by decide +kernel
theorem ka_271 : fxK (kd 271) = true := by decide +kernel
theorem kd_272 : kd 272 = 100 := by decide +kernel
theorem ln_272 : ln 272 = 360 := by decide +kernel
theorem ka_272 : fxK (kd 272) = true := by decide +kernel
theorem kd_273 : kd 273 = 100 := by decide +kernel
theorem ln_273 : ln 273 = 360 := by decide +kernel
theorem ka_273 : fxK (kd 273) = true := by decide +kernel
theorem kd_274 : kd 274 = 100 := by decide +kernel
theorem ln_274 : ln 274 = 360 := by decide +kernel
theorem ka_274 : fxK (kd 274) = true := by decide +kernel
theorem kd_275 : kd 275 = 100 := by decide +kernel
theorem ln_275 : ln 275 = 360 := by decide +kernel
theorem ka_275 : fxK (kd 275) = true := by decide +kernel
theorem kd_276 : kd 276 = 100 := by decide +kernel
theorem ln_276 : ln 276 = 8 := by decide +kernel
theorem ka_276 : fxK (kd 276) = true := by decide +kernel
theorem kd_277 : kd 277 = 102 := by decide +kernel
theorem ln_277 : ln 277 = 8 := by decide +kernel
theorem ka_277 : fxK (kd 277) = true := by decide +kernel
theorem kd_278 : kd 278 = 102 := by decide +kernel
theorem ln_278 : ln 278 = 4 := by decide +kernel
theorem ka_278 : fxK (kd 278) = true := by decide +kernel
theorem kd_279 : kd 279 = 100 := by decide +kernel
theorem ln_279 : ln 279 = 40 := by decide +kernel
theorem ka_279 : fxK (kd 279) = true := by decide +kernel
theorem kd_280 : kd 280 = 100 := by decide +kernel
theorem ln_280 : ln 280 = 6000 := by decide +kernel
theorem ka_280 : fxK (kd 280) = true := by decide +kernel
theorem al_80 {μ : Mem} : aln μ 80 = some 360 := by unfold aln; rw [kd_80, ln_80]; rfl
theorem al_242 {μ : Mem} : aln μ 242 = some 12 := by unfold aln; rw [kd_242, ln_242]; rfl
theorem al_243 {μ : Mem} : aln μ 243 = some 240 := by unfold aln; rw [kd_243, ln_243]; rfl
theorem rI_n6 {μ : Mem} {i x : Int} (h : aI μ (-6) 23 i = some x) : rdI μ (-6) i = some x := by
  obtain ⟨hi, h⟩ := ifSome h
  rw [← h]
  exact if_pos (Or.inl ⟨kd_n6, hi.1, by rw [ln_n6]; exact hi.2⟩)
theorem rI_n5 {μ : Mem} {i x : Int} (h : aI μ (-5) 23 i = some x) : rdI μ (-5) i = some x := by
  obtain ⟨hi, h⟩ := ifSome h
  rw [← h]
  exact if_pos (Or.inl ⟨kd_n5, hi.1, by rw [ln_n5]; exact hi.2⟩)
theorem rI_n4 {μ : Mem} {i x : Int} (h : aI μ (-4) 72 i = some x) : rdI μ (-4) i = some x := by
  obtain ⟨hi, h⟩ := ifSome h
  rw [← h]
  exact if_pos (Or.inl ⟨kd_n4, hi.1, by rw [ln_n4]; exact hi.2⟩)
theorem rI_n3 {μ : Mem} {i x : Int} (h : aI μ (-3) 9 i = some x) : rdI μ (-3) i = some x := by
  obtain ⟨hi, h⟩ := ifSome h
  rw [← h]
  exact if_pos (Or.inl ⟨kd_n3, hi.1, by rw [ln_n3]; exact hi.2⟩)
theorem rI_n2 {μ : Mem} {i x : Int} (h : aI μ (-2) 9 i = some x) : rdI μ (-2) i = some x := by
  obtain ⟨hi, h⟩ := ifSome h
  rw [← h]
  exact if_pos (Or.inl ⟨kd_n2, hi.1, by rw [ln_n2]; exact hi.2⟩)
theorem rI_n1 {μ : Mem} {i x : Int} (h : aI μ (-1) 9 i = some x) : rdI μ (-1) i = some x := by
  obtain ⟨hi, h⟩ := ifSome h
  rw [← h]
  exact if_pos (Or.inl ⟨kd_n1, hi.1, by rw [ln_n1]; exact hi.2⟩)
theorem rB_2 {μ : Mem} {i x : Int} (h : aI μ 2 6000 i = some x) : rdB μ 2 i = some x := by
  obtain ⟨hi, h⟩ := ifSome h
  rw [← h]
  exact if_pos ⟨Or.inl kd_2, hi.1, by rw [ln_2]; exact hi.2⟩
theorem rI_71 {μ : Mem} {i x : Int} (h : aI μ 71 9 i = some x) : rdI μ 71 i = some x := by
  obtain ⟨hi, h⟩ := ifSome h
  rw [← h]
  exact if_pos (Or.inl ⟨kd_71, hi.1, by rw [ln_71]; exact hi.2⟩)
theorem rA_79 {μ : Mem} {i x : Int} (h : aI μ 79 30 i = some x) : rdA μ 79 i = some x := by
  obtain ⟨hi, h⟩ := ifSome h
  rw [← h]
  exact if_pos ⟨by rw [kd_79]; decide, by decide, hi.1, by rw [ln_79]; exact hi.2⟩
theorem rI_80 {μ : Mem} {i x : Int} (h : aI μ 80 360 i = some x) : rdI μ 80 i = some x := by
  obtain ⟨hi, h⟩ := ifSome h
  rw [← h]
  exact if_pos (Or.inl ⟨kd_80, hi.1, by rw [ln_80]; exact hi.2⟩)
theorem rI_81 {μ : Mem} {i x : Int} (h : aI μ 81 201 i = some x) : rdI μ 81 i = some x := by
  obtain ⟨hi, h⟩ := ifSome h
  rw [← h]
  exact if_pos (Or.inl ⟨kd_81, hi.1, by rw [ln_81]; exact hi.2⟩)
theorem rA_220 {μ : Mem} {i x : Int} (h : aI μ 220 8 i = some x) : rdA μ 220 i = some x := by
  obtain ⟨hi, h⟩ := ifSome h
  rw [← h]
  exact if_pos ⟨by rw [kd_220]; decide, by decide, hi.1, by rw [ln_220]; exact hi.2⟩
theorem rI_222 {μ : Mem} {i x : Int} (h : aI μ 222 360 i = some x) : rdI μ 222 i = some x := by
  obtain ⟨hi, h⟩ := ifSome h
  rw [← h]
  exact if_pos (Or.inl ⟨kd_222, hi.1, by rw [ln_222]; exact hi.2⟩)
theorem rI_223 {μ : Mem} {i x : Int} (h : aI μ 223 360 i = some x) : rdI μ 223 i = some x := by
  obtain ⟨hi, h⟩ := ifSome h
  rw [← h]
  exact if_pos (Or.inl ⟨kd_223, hi.1, by rw [ln_223]; exact hi.2⟩)
theorem rI_224 {μ : Mem} {i x : Int} (h : aI μ 224 360 i = some x) : rdI μ 224 i = some x := by
  obtain ⟨hi, h⟩ := ifSome h
  rw [← h]
  exact if_pos (Or.inl ⟨kd_224, hi.1, by rw [ln_224]; exact hi.2⟩)
theorem rI_225 {μ : Mem} {i x : Int} (h : aI μ 225 360 i = some x) : rdI μ 225 i = some x := by
  obtain ⟨hi, h⟩ := ifSome h
  rw [← h]
  exact if_pos (Or.inl ⟨kd_225, hi.1, by rw [ln_225]; exact hi.2⟩)
theorem rI_227 {μ : Mem} {i x : Int} (h : aI μ 227 9 i = some x) : rdI μ 227 i = some x := by
  obtain ⟨hi, h⟩ := ifSome h
  rw [← h]
  exact if_pos (Or.inl ⟨kd_227, hi.1, by rw [ln_227]; exact hi.2⟩)
theorem rB_228 {μ : Mem} {i x : Int} (h : aI μ 228 9 i = some x) : rdB μ 228 i = some x := by
  obtain ⟨hi, h⟩ := ifSome h
  rw [← h]
  exact if_pos ⟨Or.inr kd_228, hi.1, by rw [ln_228]; exact hi.2⟩
theorem rB_229 {μ : Mem} {i x : Int} (h : aI μ 229 5 i = some x) : rdB μ 229 i = some x := by
  obtain ⟨hi, h⟩ := ifSome h
  rw [← h]
  exact if_pos ⟨Or.inr kd_229, hi.1, by rw [ln_229]; exact hi.2⟩
theorem rI_230 {μ : Mem} {i x : Int} (h : aI μ 230 41 i = some x) : rdI μ 230 i = some x := by
  obtain ⟨hi, h⟩ := ifSome h
  rw [← h]
  exact if_pos (Or.inl ⟨kd_230, hi.1, by rw [ln_230]; exact hi.2⟩)
theorem rI_232 {μ : Mem} {i x : Int} (h : aI μ 232 71 i = some x) : rdI μ 232 i = some x := by
  obtain ⟨hi, h⟩ := ifSome h
  rw [← h]
  exact if_pos (Or.inl ⟨kd_232, hi.1, by rw [ln_232]; exact hi.2⟩)
theorem rC_240 {μ : Mem} {i x : Int} (h : aI μ 240 380 i = some x) : rdC μ 240 i = some x := by
  obtain ⟨hi, h⟩ := ifSome h
  rw [← h]
  exact if_pos ⟨kd_240, by decide, hi.1, by rw [ln_240]; exact hi.2⟩
theorem rI_242 {μ : Mem} {i x : Int} (h : aI μ 242 12 i = some x) : rdI μ 242 i = some x := by
  obtain ⟨hi, h⟩ := ifSome h
  rw [← h]
  exact if_pos (Or.inl ⟨kd_242, hi.1, by rw [ln_242]; exact hi.2⟩)
theorem rI_243 {μ : Mem} {i x : Int} (h : aI μ 243 240 i = some x) : rdI μ 243 i = some x := by
  obtain ⟨hi, h⟩ := ifSome h
  rw [← h]
  exact if_pos (Or.inl ⟨kd_243, hi.1, by rw [ln_243]; exact hi.2⟩)
theorem rI_244 {μ : Mem} {i x : Int} (h : aI μ 244 240 i = some x) : rdI μ 244 i = some x := by
  obtain ⟨hi, h⟩ := ifSome h
  rw [← h]
  exact if_pos (Or.inl ⟨kd_244, hi.1, by rw [ln_244]; exact hi.2⟩)
theorem rI_245 {μ : Mem} {i x : Int} (h : aI μ 245 240 i = some x) : rdI μ 245 i = some x := by
  obtain ⟨hi, h⟩ := ifSome h
  rw [← h]
  exact if_pos (Or.inl ⟨kd_245, hi.1, by rw [ln_245]; exact hi.2⟩)
theorem rI_246 {μ : Mem} {i x : Int} (h : aI μ 246 480 i = some x) : rdI μ 246 i = some x := by
  obtain ⟨hi, h⟩ := ifSome h
  rw [← h]
  exact if_pos (Or.inl ⟨kd_246, hi.1, by rw [ln_246]; exact hi.2⟩)
theorem rI_247 {μ : Mem} {i x : Int} (h : aI μ 247 480 i = some x) : rdI μ 247 i = some x := by
  obtain ⟨hi, h⟩ := ifSome h
  rw [← h]
  exact if_pos (Or.inl ⟨kd_247, hi.1, by rw [ln_247]; exact hi.2⟩)
theorem rI_249 {μ : Mem} {i x : Int} (h : aI μ 249 40 i = some x) : rdI μ 249 i = some x := by
  obtain ⟨hi, h⟩ := ifSome h
  rw [← h]
  exact if_pos (Or.inl ⟨kd_249, hi.1, by rw [ln_249]; exact hi.2⟩)
theorem rI_252 {μ : Mem} {i x : Int} (h : aI μ 252 121 i = some x) : rdI μ 252 i = some x := by
  obtain ⟨hi, h⟩ := ifSome h
  rw [← h]
  exact if_pos (Or.inl ⟨kd_252, hi.1, by rw [ln_252]; exact hi.2⟩)
theorem rI_253 {μ : Mem} {i x : Int} (h : aI μ 253 121 i = some x) : rdI μ 253 i = some x := by
  obtain ⟨hi, h⟩ := ifSome h
  rw [← h]
  exact if_pos (Or.inl ⟨kd_253, hi.1, by rw [ln_253]; exact hi.2⟩)
theorem rI_254 {μ : Mem} {i x : Int} (h : aI μ 254 121 i = some x) : rdI μ 254 i = some x := by
  obtain ⟨hi, h⟩ := ifSome h
  rw [← h]
  exact if_pos (Or.inl ⟨kd_254, hi.1, by rw [ln_254]; exact hi.2⟩)
theorem rJ_260 {μ : Mem} {i x : Int} (h : aI μ 260 70 i = some x) : rdJ μ 260 i = some x := by
  obtain ⟨hi, h⟩ := ifSome h
  rw [← h]
  exact if_pos ⟨kd_260, by decide, hi.1, by rw [ln_260]; exact hi.2⟩
theorem rI_261 {μ : Mem} {i x : Int} (h : aI μ 261 9 i = some x) : rdI μ 261 i = some x := by
  obtain ⟨hi, h⟩ := ifSome h
  rw [← h]
  exact if_pos (Or.inl ⟨kd_261, hi.1, by rw [ln_261]; exact hi.2⟩)
theorem rI_262 {μ : Mem} {i x : Int} (h : aI μ 262 22 i = some x) : rdI μ 262 i = some x := by
  obtain ⟨hi, h⟩ := ifSome h
  rw [← h]
  exact if_pos (Or.inl ⟨kd_262, hi.1, by rw [ln_262]; exact hi.2⟩)
theorem rI_263 {μ : Mem} {i x : Int} (h : aI μ 263 10 i = some x) : rdI μ 263 i = some x := by
  obtain ⟨hi, h⟩ := ifSome h
  rw [← h]
  exact if_pos (Or.inl ⟨kd_263, hi.1, by rw [ln_263]; exact hi.2⟩)
theorem rI_264 {μ : Mem} {i x : Int} (h : aI μ 264 12943 i = some x) : rdI μ 264 i = some x := by
  obtain ⟨hi, h⟩ := ifSome h
  rw [← h]
  exact if_pos (Or.inl ⟨kd_264, hi.1, by rw [ln_264]; exact hi.2⟩)
theorem rI_265 {μ : Mem} {i x : Int} (h : aI μ 265 12943 i = some x) : rdI μ 265 i = some x := by
  obtain ⟨hi, h⟩ := ifSome h
  rw [← h]
  exact if_pos (Or.inl ⟨kd_265, hi.1, by rw [ln_265]; exact hi.2⟩)
theorem rI_266 {μ : Mem} {i x : Int} (h : aI μ 266 103544 i = some x) : rdI μ 266 i = some x := by
  obtain ⟨hi, h⟩ := ifSome h
  rw [← h]
  exact if_pos (Or.inl ⟨kd_266, hi.1, by rw [ln_266]; exact hi.2⟩)
theorem rI_267 {μ : Mem} {i x : Int} (h : aI μ 267 6000 i = some x) : rdI μ 267 i = some x := by
  obtain ⟨hi, h⟩ := ifSome h
  rw [← h]
  exact if_pos (Or.inl ⟨kd_267, hi.1, by rw [ln_267]; exact hi.2⟩)
theorem rI_268 {μ : Mem} {i x : Int} (h : aI μ 268 122 i = some x) : rdI μ 268 i = some x := by
  obtain ⟨hi, h⟩ := ifSome h
  rw [← h]
  exact if_pos (Or.inl ⟨kd_268, hi.1, by rw [ln_268]; exact hi.2⟩)
theorem rI_269 {μ : Mem} {i x : Int} (h : aI μ 269 122 i = some x) : rdI μ 269 i = some x := by
  obtain ⟨hi, h⟩ := ifSome h
  rw [← h]
  exact if_pos (Or.inl ⟨kd_269, hi.1, by rw [ln_269]; exact hi.2⟩)
theorem rI_270 {μ : Mem} {i x : Int} (h : aI μ 270 122 i = some x) : rdI μ 270 i = some x := by
  obtain ⟨hi, h⟩ := ifSome h
  rw [← h]
  exact if_pos (Or.inl ⟨kd_270, hi.1, by rw [ln_270]; exact hi.2⟩)
theorem rI_271 {μ : Mem} {i x : Int} (h : aI μ 271 40 i = some x) : rdI μ 271 i = some x := by
  obtain ⟨hi, h⟩ := ifSome h
  rw [← h]
  exact if_pos (Or.inl ⟨kd_271, hi.1, by rw [ln_271]; exact hi.2⟩)
theorem rI_272 {μ : Mem} {i x : Int} (h : aI μ 272 360 i = some x) : rdI μ 272 i = some x := by
  obtain ⟨hi, h⟩ := ifSome h
  rw [← h]
  exact if_pos (Or.inl ⟨kd_272, hi.1, by rw [ln_272]; exact hi.2⟩)
theorem rI_273 {μ : Mem} {i x : Int} (h : aI μ 273 360 i = some x) : rdI μ 273 i = some x := by
  obtain ⟨hi, h⟩ := ifSome h
  rw [← h]
  exact if_pos (Or.inl ⟨kd_273, hi.1, by rw [ln_273]; exact hi.2⟩)
theorem rI_274 {μ : Mem} {i x : Int} (h : aI μ 274 360 i = some x) : rdI μ 274 i = some x := by
  obtain ⟨hi, h⟩ := ifSome h
  rw [← h]
  exact if_pos (Or.inl ⟨kd_274, hi.1, by rw [ln_274]; exact hi.2⟩)
theorem rI_275 {μ : Mem} {i x : Int} (h : aI μ 275 360 i = some x) : rdI μ 275 i = some x := by
  obtain ⟨hi, h⟩ := ifSome h
  rw [← h]
  exact if_pos (Or.inl ⟨kd_275, hi.1, by rw [ln_275]; exact hi.2⟩)
theorem rI_276 {μ : Mem} {i x : Int} (h : aI μ 276 8 i = some x) : rdI μ 276 i = some x := by
  obtain ⟨hi, h⟩ := ifSome h
  rw [← h]
  exact if_pos (Or.inl ⟨kd_276, hi.1, by rw [ln_276]; exact hi.2⟩)
theorem rB_277 {μ : Mem} {i x : Int} (h : aI μ 277 8 i = some x) : rdB μ 277 i = some x := by
  obtain ⟨hi, h⟩ := ifSome h
  rw [← h]
  exact if_pos ⟨Or.inr kd_277, hi.1, by rw [ln_277]; exact hi.2⟩
theorem rB_278 {μ : Mem} {i x : Int} (h : aI μ 278 4 i = some x) : rdB μ 278 i = some x := by
  obtain ⟨hi, h⟩ := ifSome h
  rw [← h]
  exact if_pos ⟨Or.inr kd_278, hi.1, by rw [ln_278]; exact hi.2⟩
theorem rI_279 {μ : Mem} {i x : Int} (h : aI μ 279 40 i = some x) : rdI μ 279 i = some x := by
  obtain ⟨hi, h⟩ := ifSome h
  rw [← h]
  exact if_pos (Or.inl ⟨kd_279, hi.1, by rw [ln_279]; exact hi.2⟩)
theorem rI_280 {μ : Mem} {i x : Int} (h : aI μ 280 6000 i = some x) : rdI μ 280 i = some x := by
  obtain ⟨hi, h⟩ := ifSome h
  rw [← h]
  exact if_pos (Or.inl ⟨kd_280, hi.1, by rw [ln_280]; exact hi.2⟩)
theorem wB_2 {μ m : Mem} {i v : Int} (h : sI μ 2 6000 i (jb v) = some m) : wB μ 2 i v = some m := by
  obtain ⟨hi, h⟩ := ifSome h
  have e : wB μ 2 i v = some (wr μ 2 i (if kd 2 = 101 then jb v else jz v)) := if_pos ⟨Or.inl kd_2, by decide, hi.1, by rw [ln_2]; exact hi.2⟩
  rw [e, ← h, if_pos kd_2]
theorem wI_71 {μ m : Mem} {i v : Int} (h : sI μ 71 9 i v = some m) : wI μ 71 i v = some m := by
  obtain ⟨hi, h⟩ := ifSome h
  rw [← h]
  exact if_pos ⟨kd_71, by decide, hi.1, by rw [ln_71]; exact hi.2⟩
theorem wI_80 {μ m : Mem} {i v : Int} (h : sI μ 80 360 i v = some m) : wI μ 80 i v = some m := by
  obtain ⟨hi, h⟩ := ifSome h
  rw [← h]
  exact if_pos ⟨kd_80, by decide, hi.1, by rw [ln_80]; exact hi.2⟩
theorem wI_81 {μ m : Mem} {i v : Int} (h : sI μ 81 201 i v = some m) : wI μ 81 i v = some m := by
  obtain ⟨hi, h⟩ := ifSome h
  rw [← h]
  exact if_pos ⟨kd_81, by decide, hi.1, by rw [ln_81]; exact hi.2⟩
theorem wI_222 {μ m : Mem} {i v : Int} (h : sI μ 222 360 i v = some m) : wI μ 222 i v = some m := by
  obtain ⟨hi, h⟩ := ifSome h
  rw [← h]
  exact if_pos ⟨kd_222, by decide, hi.1, by rw [ln_222]; exact hi.2⟩
theorem wI_223 {μ m : Mem} {i v : Int} (h : sI μ 223 360 i v = some m) : wI μ 223 i v = some m := by
  obtain ⟨hi, h⟩ := ifSome h
  rw [← h]
  exact if_pos ⟨kd_223, by decide, hi.1, by rw [ln_223]; exact hi.2⟩
theorem wI_224 {μ m : Mem} {i v : Int} (h : sI μ 224 360 i v = some m) : wI μ 224 i v = some m := by
  obtain ⟨hi, h⟩ := ifSome h
  rw [← h]
  exact if_pos ⟨kd_224, by decide, hi.1, by rw [ln_224]; exact hi.2⟩
theorem wI_225 {μ m : Mem} {i v : Int} (h : sI μ 225 360 i v = some m) : wI μ 225 i v = some m := by
  obtain ⟨hi, h⟩ := ifSome h
  rw [← h]
  exact if_pos ⟨kd_225, by decide, hi.1, by rw [ln_225]; exact hi.2⟩
theorem wI_227 {μ m : Mem} {i v : Int} (h : sI μ 227 9 i v = some m) : wI μ 227 i v = some m := by
  obtain ⟨hi, h⟩ := ifSome h
  rw [← h]
  exact if_pos ⟨kd_227, by decide, hi.1, by rw [ln_227]; exact hi.2⟩
theorem wB_228 {μ m : Mem} {i v : Int} (h : sI μ 228 9 i (jz v) = some m) : wB μ 228 i v = some m := by
  obtain ⟨hi, h⟩ := ifSome h
  have e : wB μ 228 i v = some (wr μ 228 i (if kd 228 = 101 then jb v else jz v)) := if_pos ⟨Or.inr kd_228, by decide, hi.1, by rw [ln_228]; exact hi.2⟩
  rw [e, ← h, if_neg (by rw [kd_228]; decide)]
theorem wB_229 {μ m : Mem} {i v : Int} (h : sI μ 229 5 i (jz v) = some m) : wB μ 229 i v = some m := by
  obtain ⟨hi, h⟩ := ifSome h
  have e : wB μ 229 i v = some (wr μ 229 i (if kd 229 = 101 then jb v else jz v)) := if_pos ⟨Or.inr kd_229, by decide, hi.1, by rw [ln_229]; exact hi.2⟩
  rw [e, ← h, if_neg (by rw [kd_229]; decide)]
theorem wI_230 {μ m : Mem} {i v : Int} (h : sI μ 230 41 i v = some m) : wI μ 230 i v = some m := by
  obtain ⟨hi, h⟩ := ifSome h
  rw [← h]
  exact if_pos ⟨kd_230, by decide, hi.1, by rw [ln_230]; exact hi.2⟩
theorem wI_242 {μ m : Mem} {i v : Int} (h : sI μ 242 12 i v = some m) : wI μ 242 i v = some m := by
  obtain ⟨hi, h⟩ := ifSome h
  rw [← h]
  exact if_pos ⟨kd_242, by decide, hi.1, by rw [ln_242]; exact hi.2⟩
theorem wI_243 {μ m : Mem} {i v : Int} (h : sI μ 243 240 i v = some m) : wI μ 243 i v = some m := by
  obtain ⟨hi, h⟩ := ifSome h
  rw [← h]
  exact if_pos ⟨kd_243, by decide, hi.1, by rw [ln_243]; exact hi.2⟩
theorem wI_244 {μ m : Mem} {i v : Int} (h : sI μ 244 240 i v = some m) : wI μ 244 i v = some m := by
  obtain ⟨hi, h⟩ := ifSome h
  rw [← h]
  exact if_pos ⟨kd_244, by decide, hi.1, by rw [ln_244]; exact hi.2⟩
theorem wI_245 {μ m : Mem} {i v : Int} (h : sI μ 245 240 i v = some m) : wI μ 245 i v = some m := by
  obtain ⟨hi, h⟩ := ifSome h
  rw [← h]
  exact if_pos ⟨kd_245, by decide, hi.1, by rw [ln_245]; exact hi.2⟩
theorem wI_246 {μ m : Mem} {i v : Int} (h : sI μ 246 480 i v = some m) : wI μ 246 i v = some m := by
  obtain ⟨hi, h⟩ := ifSome h
  rw [← h]
  exact if_pos ⟨kd_246, by decide, hi.1, by rw [ln_246]; exact hi.2⟩
theorem wI_247 {μ m : Mem} {i v : Int} (h : sI μ 247 480 i v = some m) : wI μ 247 i v = some m := by
  obtain ⟨hi, h⟩ := ifSome h
  rw [← h]
  exact if_pos ⟨kd_247, by decide, hi.1, by rw [ln_247]; exact hi.2⟩
theorem wI_249 {μ m : Mem} {i v : Int} (h : sI μ 249 40 i v = some m) : wI μ 249 i v = some m := by
  obtain ⟨hi, h⟩ := ifSome h
  rw [← h]
  exact if_pos ⟨kd_249, by decide, hi.1, by rw [ln_249]; exact hi.2⟩
theorem wI_252 {μ m : Mem} {i v : Int} (h : sI μ 252 121 i v = some m) : wI μ 252 i v = some m := by
  obtain ⟨hi, h⟩ := ifSome h
  rw [← h]
  exact if_pos ⟨kd_252, by decide, hi.1, by rw [ln_252]; exact hi.2⟩
theorem wI_253 {μ m : Mem} {i v : Int} (h : sI μ 253 121 i v = some m) : wI μ 253 i v = some m := by
  obtain ⟨hi, h⟩ := ifSome h
  rw [← h]
  exact if_pos ⟨kd_253, by decide, hi.1, by rw [ln_253]; exact hi.2⟩
theorem wI_254 {μ m : Mem} {i v : Int} (h : sI μ 254 121 i v = some m) : wI μ 254 i v = some m := by
  obtain ⟨hi, h⟩ := ifSome h
  rw [← h]
  exact if_pos ⟨kd_254, by decide, hi.1, by rw [ln_254]; exact hi.2⟩
theorem wB_258 {μ m : Mem} {i v : Int} (h : sI μ 258 6000 i (jb v) = some m) : wB μ 258 i v = some m := by
  obtain ⟨hi, h⟩ := ifSome h
  have e : wB μ 258 i v = some (wr μ 258 i (if kd 258 = 101 then jb v else jz v)) := if_pos ⟨Or.inl kd_258, by decide, hi.1, by rw [ln_258]; exact hi.2⟩
  rw [e, ← h, if_pos kd_258]
theorem wI_264 {μ m : Mem} {i v : Int} (h : sI μ 264 12943 i v = some m) : wI μ 264 i v = some m := by
  obtain ⟨hi, h⟩ := ifSome h
  rw [← h]
  exact if_pos ⟨kd_264, by decide, hi.1, by rw [ln_264]; exact hi.2⟩
theorem wI_265 {μ m : Mem} {i v : Int} (h : sI μ 265 12943 i v = some m) : wI μ 265 i v = some m := by
  obtain ⟨hi, h⟩ := ifSome h
  rw [← h]
  exact if_pos ⟨kd_265, by decide, hi.1, by rw [ln_265]; exact hi.2⟩
theorem wI_266 {μ m : Mem} {i v : Int} (h : sI μ 266 103544 i v = some m) : wI μ 266 i v = some m := by
  obtain ⟨hi, h⟩ := ifSome h
  rw [← h]
  exact if_pos ⟨kd_266, by decide, hi.1, by rw [ln_266]; exact hi.2⟩
theorem wI_267 {μ m : Mem} {i v : Int} (h : sI μ 267 6000 i v = some m) : wI μ 267 i v = some m := by
  obtain ⟨hi, h⟩ := ifSome h
  rw [← h]
  exact if_pos ⟨kd_267, by decide, hi.1, by rw [ln_267]; exact hi.2⟩
theorem wI_268 {μ m : Mem} {i v : Int} (h : sI μ 268 122 i v = some m) : wI μ 268 i v = some m := by
  obtain ⟨hi, h⟩ := ifSome h
  rw [← h]
  exact if_pos ⟨kd_268, by decide, hi.1, by rw [ln_268]; exact hi.2⟩
theorem wI_269 {μ m : Mem} {i v : Int} (h : sI μ 269 122 i v = some m) : wI μ 269 i v = some m := by
  obtain ⟨hi, h⟩ := ifSome h
  rw [← h]
  exact if_pos ⟨kd_269, by decide, hi.1, by rw [ln_269]; exact hi.2⟩
theorem wI_270 {μ m : Mem} {i v : Int} (h : sI μ 270 122 i v = some m) : wI μ 270 i v = some m := by
  obtain ⟨hi, h⟩ := ifSome h
  rw [← h]
  exact if_pos ⟨kd_270, by decide, hi.1, by rw [ln_270]; exact hi.2⟩
theorem wI_271 {μ m : Mem} {i v : Int} (h : sI μ 271 40 i v = some m) : wI μ 271 i v = some m := by
  obtain ⟨hi, h⟩ := ifSome h
  rw [← h]
  exact if_pos ⟨kd_271, by decide, hi.1, by rw [ln_271]; exact hi.2⟩
theorem wI_272 {μ m : Mem} {i v : Int} (h : sI μ 272 360 i v = some m) : wI μ 272 i v = some m := by
  obtain ⟨hi, h⟩ := ifSome h
  rw [← h]
  exact if_pos ⟨kd_272, by decide, hi.1, by rw [ln_272]; exact hi.2⟩
theorem wI_273 {μ m : Mem} {i v : Int} (h : sI μ 273 360 i v = some m) : wI μ 273 i v = some m := by
  obtain ⟨hi, h⟩ := ifSome h
  rw [← h]
  exact if_pos ⟨kd_273, by decide, hi.1, by rw [ln_273]; exact hi.2⟩
theorem wI_274 {μ m : Mem} {i v : Int} (h : sI μ 274 360 i v = some m) : wI μ 274 i v = some m := by
  obtain ⟨hi, h⟩ := ifSome h
  rw [← h]
  exact if_pos ⟨kd_274, by decide, hi.1, by rw [ln_274]; exact hi.2⟩
theorem wI_275 {μ m : Mem} {i v : Int} (h : sI μ 275 360 i v = some m) : wI μ 275 i v = some m := by
  obtain ⟨hi, h⟩ := ifSome h
  rw [← h]
  exact if_pos ⟨kd_275, by decide, hi.1, by rw [ln_275]; exact hi.2⟩
theorem wI_276 {μ m : Mem} {i v : Int} (h : sI μ 276 8 i v = some m) : wI μ 276 i v = some m := by
  obtain ⟨hi, h⟩ := ifSome h
  rw [← h]
  exact if_pos ⟨kd_276, by decide, hi.1, by rw [ln_276]; exact hi.2⟩
theorem wB_277 {μ m : Mem} {i v : Int} (h : sI μ 277 8 i (jz v) = some m) : wB μ 277 i v = some m := by
  obtain ⟨hi, h⟩ := ifSome h
  have e : wB μ 277 i v = some (wr μ 277 i (if kd 277 = 101 then jb v else jz v)) := if_pos ⟨Or.inr kd_277, by decide, hi.1, by rw [ln_277]; exact hi.2⟩
  rw [e, ← h, if_neg (by rw [kd_277]; decide)]
theorem wB_278 {μ m : Mem} {i v : Int} (h : sI μ 278 4 i (jz v) = some m) : wB μ 278 i v = some m := by
  obtain ⟨hi, h⟩ := ifSome h
  have e : wB μ 278 i v = some (wr μ 278 i (if kd 278 = 101 then jb v else jz v)) := if_pos ⟨Or.inr kd_278, by decide, hi.1, by rw [ln_278]; exact hi.2⟩
  rw [e, ← h, if_neg (by rw [kd_278]; decide)]
theorem wI_279 {μ m : Mem} {i v : Int} (h : sI μ 279 40 i v = some m) : wI μ 279 i v = some m := by
  obtain ⟨hi, h⟩ := ifSome h
  rw [← h]
  exact if_pos ⟨kd_279, by decide, hi.1, by rw [ln_279]; exact hi.2⟩
theorem wI_280 {μ m : Mem} {i v : Int} (h : sI μ 280 6000 i v = some m) : wI μ 280 i v = some m := by
  obtain ⟨hi, h⟩ := ifSome h
  rw [← h]
  exact if_pos ⟨kd_280, by decide, hi.1, by rw [ln_280]; exact hi.2⟩
theorem ff_1_1 : fxF (kd 1) 1 = false := by decide +kernel
theorem ff_1_2 : fxF (kd 1) 2 = false := by decide +kernel
theorem ff_1_3 : fxF (kd 1) 3 = false := by decide +kernel
theorem ff_1_6 : fxF (kd 1) 6 = false := by decide +kernel
theorem ff_3_8 : fxF (kd 3) 8 = false := by decide +kernel
theorem ff_3_10 : fxF (kd 3) 10 = false := by decide +kernel
theorem ff_221_1 : fxF (kd 221) 1 = false := by decide +kernel
theorem ff_221_2 : fxF (kd 221) 2 = false := by decide +kernel
theorem ff_221_3 : fxF (kd 221) 3 = false := by decide +kernel
theorem ff_221_4 : fxF (kd 221) 4 = false := by decide +kernel
theorem ff_221_5 : fxF (kd 221) 5 = false := by decide +kernel
theorem ff_226_4 : fxF (kd 226) 4 = false := by decide +kernel
theorem ff_226_5 : fxF (kd 226) 5 = false := by decide +kernel
theorem ff_241_0 : fxF (kd 241) 0 = false := by decide +kernel
theorem ff_241_1 : fxF (kd 241) 1 = false := by decide +kernel
theorem ff_241_6 : fxF (kd 241) 6 = false := by decide +kernel
theorem ff_241_8 : fxF (kd 241) 8 = false := by decide +kernel
theorem ff_241_10 : fxF (kd 241) 10 = false := by decide +kernel
theorem ff_248_1 : fxF (kd 248) 1 = false := by decide +kernel
theorem ff_250_2 : fxF (kd 250) 2 = false := by decide +kernel
theorem ff_250_3 : fxF (kd 250) 3 = false := by decide +kernel
theorem ff_250_4 : fxF (kd 250) 4 = false := by decide +kernel
theorem ff_250_8 : fxF (kd 250) 8 = false := by decide +kernel
theorem ff_250_9 : fxF (kd 250) 9 = false := by decide +kernel
theorem ff_255_2 : fxF (kd 255) 2 = false := by decide +kernel
theorem ff_257_3 : fxF (kd 257) 3 = false := by decide +kernel
theorem ff_257_4 : fxF (kd 257) 4 = false := by decide +kernel
theorem ff_257_5 : fxF (kd 257) 5 = false := by decide +kernel
theorem ff_259_7 : fxF (kd 259) 7 = false := by decide +kernel
theorem ff_259_8 : fxF (kd 259) 8 = false := by decide +kernel
theorem ff_259_10 : fxF (kd 259) 10 = false := by decide +kernel
theorem ff_259_11 : fxF (kd 259) 11 = false := by decide +kernel
theorem ff_259_12 : fxF (kd 259) 12 = false := by decide +kernel
theorem ff_259_16 : fxF (kd 259) 16 = false := by decide +kernel
theorem ff_259_17 : fxF (kd 259) 17 = false := by decide +kernel
theorem ff_259_18 : fxF (kd 259) 18 = false := by decide +kernel
theorem ff_259_19 : fxF (kd 259) 19 = false := by decide +kernel
theorem ff_259_21 : fxF (kd 259) 21 = false := by decide +kernel
theorem ff_259_22 : fxF (kd 259) 22 = false := by decide +kernel
theorem ff_259_27 : fxF (kd 259) 27 = false := by decide +kernel
theorem ff_259_28 : fxF (kd 259) 28 = false := by decide +kernel
theorem ff_259_29 : fxF (kd 259) 29 = false := by decide +kernel
theorem ff_259_30 : fxF (kd 259) 30 = false := by decide +kernel
theorem ff_259_31 : fxF (kd 259) 31 = false := by decide +kernel
theorem ff_259_34 : fxF (kd 259) 34 = false := by decide +kernel
theorem ff_259_35 : fxF (kd 259) 35 = false := by decide +kernel
theorem ff_259_39 : fxF (kd 259) 39 = false := by decide +kernel
theorem ff_259_40 : fxF (kd 259) 40 = false := by decide +kernel
theorem fxA_4 {μ : Mem} {i x : Int} (hF : FX μ) (h : ar 5 41 1 i = some x) : rdA μ 4 i = some x := fxr2 hF kd_4 ln_4 (by decide) (by decide) (by rw [← h]; unfold ar; simp only [Int.one_mul]; rfl)
theorem fxA_46 {μ : Mem} {i x : Int} (hF : FX μ) (h : ar 94 13 2 i = some x) : rdA μ 46 i = some x := fxrR hF kd_46 ln_46 (by decide) (by decide) (by decide) h
theorem fxA_47 {μ : Mem} {i x : Int} (hF : FX μ) (h : ar 48 13 1 i = some x) : rdA μ 47 i = some x := fxr2 hF kd_47 ln_47 (by decide) (by decide) (by rw [← h]; unfold ar; simp only [Int.one_mul]; rfl)
theorem fxA_61 {μ : Mem} {i x : Int} (hF : FX μ) (h : ar 62 9 1 i = some x) : rdA μ 61 i = some x := fxr2 hF kd_61 ln_61 (by decide) (by decide) (by rw [← h]; unfold ar; simp only [Int.one_mul]; rfl)
theorem fxA_72 {μ : Mem} {i x : Int} (hF : FX μ) (h : ar 73 5 1 i = some x) : rdA μ 72 i = some x := fxr2 hF kd_72 ln_72 (by decide) (by decide) (by rw [← h]; unfold ar; simp only [Int.one_mul]; rfl)
theorem fxA_78 {μ : Mem} {i x : Int} (hF : FX μ) (h : ar 120 5 2 i = some x) : rdA μ 78 i = some x := fxrR hF kd_78 ln_78 (by decide) (by decide) (by decide) h
theorem fxA_82 {μ : Mem} {i x : Int} (hF : FX μ) (h : ar 83 11 1 i = some x) : rdA μ 82 i = some x := fxr2 hF kd_82 ln_82 (by decide) (by decide) (by rw [← h]; unfold ar; simp only [Int.one_mul]; rfl)
theorem md_0 : mi 0 = m_0 := by rfl
theorem md_1 : mi 1 = m_1 := by rfl
theorem md_2 : mi 2 = m_2 := by rfl
theorem md_3 : mi 3 = m_3 := by rfl
theorem md_4 : mi 4 = m_4 := by rfl
theorem md_5 : mi 5 = m_5 := by rfl
theorem md_6 : mi 6 = m_6 := by rfl
theorem md_7 : mi 7 = m_7 := by rfl
theorem md_8 : mi 8 = m_8 := by rfl
theorem md_9 : mi 9 = m_9 := by rfl
theorem md_10 : mi 10 = m_10 := by rfl
theorem md_11 : mi 11 = m_11 := by rfl
theorem md_12 : mi 12 = m_12 := by rfl
theorem md_13 : mi 13 = m_13 := by rfl
theorem md_14 : mi 14 = m_14 := by rfl
theorem md_15 : mi 15 = m_15 := by rfl
theorem md_16 : mi 16 = m_16 := by rfl
theorem md_17 : mi 17 = m_17 := by rfl
theorem md_18 : mi 18 = m_18 := by rfl
theorem md_19 : mi 19 = m_19 := by rfl
theorem md_20 : mi 20 = m_20 := by rfl
theorem md_21 : mi 21 = m_21 := by rfl
theorem md_22 : mi 22 = m_22 := by rfl
theorem md_23 : mi 23 = m_23 := by rfl
theorem md_24 : mi 24 = m_24 := by rfl
theorem md_25 : mi 25 = m_25 := by rfl
theorem md_26 : mi 26 = m_26 := by rfl
theorem md_27 : mi 27 = m_27 := by rfl
theorem md_28 : mi 28 = m_28 := by rfl
theorem md_29 : mi 29 = m_29 := by rfl
theorem md_30 : mi 30 = m_30 := by rfl
theorem md_31 : mi 31 = m_31 := by rfl
theorem md_32 : mi 32 = m_32 := by rfl
theorem md_33 : mi 33 = m_33 := by rfl
theorem md_34 : mi 34 = m_34 := by rfl
theorem md_35 : mi 35 = m_35 := by rfl
theorem md_36 : mi 36 = m_36 := by rfl
theorem md_37 : mi 37 = m_37 := by rfl
theorem md_38 : mi 38 = m_38 := by rfl
theorem md_39 : mi 39 = m_39 := by rfl
theorem md_40 : mi 40 = m_40 := by rfl
theorem md_41 : mi 41 = m_41 := by rfl
theorem md_42 : mi 42 = m_42 := by rfl
theorem md_43 : mi 43 = m_43 := by rfl
theorem md_44 : mi 44 = m_44 := by rfl
theorem md_45 : mi 45 = m_45 := by rfl
theorem md_46 : mi 46 = m_46 := by rfl
theorem md_47 : mi 47 = m_47 := by rfl
theorem md_48 : mi 48 = m_48 := by rfl
theorem md_49 : mi 49 = m_49 := by rfl
theorem md_50 : mi 50 = m_50 := by rfl
theorem md_51 : mi 51 = m_51 := by rfl
theorem md_52 : mi 52 = m_52 := by rfl
theorem md_53 : mi 53 = m_53 := by rfl
theorem md_54 : mi 54 = m_54 := by rfl
theorem md_55 : mi 55 = m_55 := by rfl
theorem md_56 : mi 56 = m_56 := by rfl
theorem md_57 : mi 57 = m_57 := by rfl
theorem md_58 : mi 58 = m_58 := by rfl
theorem md_59 : mi 59 = m_59 := by rfl
theorem md_60 : mi 60 = m_60 := by rfl
theorem md_61 : mi 61 = m_61 := by rfl
theorem md_62 : mi 62 = m_62 := by rfl
theorem md_63 : mi 63 = m_63 := by rfl
theorem md_64 : mi 64 = m_64 := by rfl
theorem md_65 : mi 65 = m_65 := by rfl
theorem md_66 : mi 66 = m_66 := by rfl
theorem md_67 : mi 67 = m_67 := by rfl
theorem md_68 : mi 68 = m_68 := by rfl
theorem md_69 : mi 69 = m_69 := by rfl
theorem md_70 : mi 70 = m_70 := by rfl
theorem md_71 : mi 71 = m_71 := by rfl
theorem md_72 : mi 72 = m_72 := by rfl
theorem md_73 : mi 73 = m_73 := by rfl
theorem md_74 : mi 74 = m_74 := by rfl
theorem md_75 : mi 75 = m_75 := by rfl
theorem md_76 : mi 76 = m_76 := by rfl
theorem md_77 : mi 77 = m_77 := by rfl
theorem md_78 : mi 78 = m_78 := by rfl
theorem md_79 : mi 79 = m_79 := by rfl
theorem md_80 : mi 80 = m_80 := by rfl
theorem md_81 : mi 81 = m_81 := by rfl
theorem md_82 : mi 82 = m_82 := by rfl
theorem md_83 : mi 83 = m_83 := by rfl
theorem md_84 : mi 84 = m_84 := by rfl
theorem md_85 : mi 85 = m_85 := by rfl
theorem md_86 : mi 86 = m_86 := by rfl
theorem md_87 : mi 87 = m_87 := by rfl
theorem md_88 : mi 88 = m_88 := by rfl
theorem md_89 : mi 89 = m_89 := by rfl
theorem md_90 : mi 90 = m_90 := by rfl
theorem md_91 : mi 91 = m_91 := by rfl
theorem md_92 : mi 92 = m_92 := by rfl
theorem md_93 : mi 93 = m_93 := by rfl
theorem md_94 : mi 94 = m_94 := by rfl
theorem md_95 : mi 95 = m_95 := by rfl
theorem md_96 : mi 96 = m_96 := by rfl
theorem md_97 : mi 97 = m_97 := by rfl
theorem md_98 : mi 98 = m_98 := by rfl
theorem md_99 : mi 99 = m_99 := by rfl
theorem md_100 : mi 100 = m_100 := by rfl
theorem md_101 : mi 101 = m_101 := by rfl
theorem md_102 : mi 102 = m_102 := by rfl
theorem md_103 : mi 103 = m_103 := by rfl
theorem md_104 : mi 104 = m_104 := by rfl
theorem md_105 : mi 105 = m_105 := by rfl
theorem md_106 : mi 106 = m_106 := by rfl
theorem md_107 : mi 107 = m_107 := by rfl
theorem md_108 : mi 108 = m_108 := by rfl
theorem md_109 : mi 109 = m_109 := by rfl
theorem md_110 : mi 110 = m_110 := by rfl
theorem md_111 : mi 111 = m_111 := by rfl
theorem md_112 : mi 112 = m_112 := by rfl
theorem md_113 : mi 113 = m_113 := by rfl
theorem md_114 : mi 114 = m_114 := by rfl
theorem md_115 : mi 115 = m_115 := by rfl
theorem md_116 : mi 116 = m_116 := by rfl
theorem md_117 : mi 117 = m_117 := by rfl
theorem md_118 : mi 118 = m_118 := by rfl
theorem md_119 : mi 119 = m_119 := by rfl
theorem md_120 : mi 120 = m_120 := by rfl
theorem md_121 : mi 121 = m_121 := by rfl
theorem md_122 : mi 122 = m_122 := by rfl
theorem md_123 : mi 123 = m_123 := by rfl
theorem md_124 : mi 124 = m_124 := by rfl
theorem md_125 : mi 125 = m_125 := by rfl
theorem md_126 : mi 126 = m_126 := by rfl
theorem md_127 : mi 127 = m_127 := by rfl
theorem md_128 : mi 128 = m_128 := by rfl
theorem md_129 : mi 129 = m_129 := by rfl
theorem md_130 : mi 130 = m_130 := by rfl
theorem md_131 : mi 131 = m_131 := by rfl
theorem md_132 : mi 132 = m_132 := by rfl
theorem md_133 : mi 133 = m_133 := by rfl
theorem md_134 : mi 134 = m_134 := by rfl
theorem md_135 : mi 135 = m_135 := by rfl
theorem md_136 : mi 136 = m_136 := by rfl
theorem md_137 : mi 137 = m_137 := by rfl
theorem md_138 : mi 138 = m_138 := by rfl
theorem md_139 : mi 139 = m_139 := by rfl
theorem md_140 : mi 140 = m_140 := by rfl
theorem md_141 : mi 141 = m_141 := by rfl
theorem md_142 : mi 142 = m_142 := by rfl
theorem md_143 : mi 143 = m_143 := by rfl
theorem md_144 : mi 144 = m_144 := by rfl
theorem md_145 : mi 145 = m_145 := by rfl
theorem md_146 : mi 146 = m_146 := by rfl
theorem md_147 : mi 147 = m_147 := by rfl
theorem md_148 : mi 148 = m_148 := by rfl
theorem md_149 : mi 149 = m_149 := by rfl
theorem md_150 : mi 150 = m_150 := by rfl
theorem md_151 : mi 151 = m_151 := by rfl
theorem md_152 : mi 152 = m_152 := by rfl
theorem md_153 : mi 153 = m_153 := by rfl
theorem md_154 : mi 154 = m_154 := by rfl
theorem md_155 : mi 155 = m_155 := by rfl
theorem md_156 : mi 156 = m_156 := by rfl
theorem md_157 : mi 157 = m_157 := by rfl
theorem md_158 : mi 158 = m_158 := by rfl
theorem md_159 : mi 159 = m_159 := by rfl
theorem md_160 : mi 160 = m_160 := by rfl
theorem md_161 : mi 161 = m_161 := by rfl
theorem md_162 : mi 162 = m_162 := by rfl
theorem md_163 : mi 163 = m_163 := by rfl
theorem md_164 : mi 164 = m_164 := by rfl
theorem md_165 : mi 165 = m_165 := by rfl
theorem md_166 : mi 166 = m_166 := by rfl
theorem md_167 : mi 167 = m_167 := by rfl
theorem md_168 : mi 168 = m_168 := by rfl
theorem md_169 : mi 169 = m_169 := by rfl
theorem md_170 : mi 170 = m_170 := by rfl
theorem md_171 : mi 171 = m_171 := by rfl
theorem md_172 : mi 172 = m_172 := by rfl
theorem md_173 : mi 173 = m_173 := by rfl
theorem md_174 : mi 174 = m_174 := by rfl
theorem md_175 : mi 175 = m_175 := by rfl
theorem md_176 : mi 176 = m_176 := by rfl
theorem md_177 : mi 177 = m_177 := by rfl
theorem md_178 : mi 178 = m_178 := by rfl
theorem md_179 : mi 179 = m_179 := by rfl
theorem md_180 : mi 180 = m_180 := by rfl
theorem md_181 : mi 181 = m_181 := by rfl
theorem md_182 : mi 182 = m_182 := by rfl
theorem md_183 : mi 183 = m_183 := by rfl
theorem md_184 : mi 184 = m_184 := by rfl
theorem md_185 : mi 185 = m_185 := by rfl
theorem md_186 : mi 186 = m_186 := by rfl
theorem md_187 : mi 187 = m_187 := by rfl
theorem md_188 : mi 188 = m_188 := by rfl
theorem md_189 : mi 189 = m_189 := by rfl
theorem md_190 : mi 190 = m_190 := by rfl
theorem md_191 : mi 191 = m_191 := by rfl
theorem md_192 : mi 192 = m_192 := by rfl
theorem md_193 : mi 193 = m_193 := by rfl
theorem md_194 : mi 194 = m_194 := by rfl
theorem md_195 : mi 195 = m_195 := by rfl
theorem md_196 : mi 196 = m_196 := by rfl
theorem md_197 : mi 197 = m_197 := by rfl
theorem md_198 : mi 198 = m_198 := by rfl
theorem md_199 : mi 199 = m_199 := by rfl
theorem md_200 : mi 200 = m_200 := by rfl
theorem md_201 : mi 201 = m_201 := by rfl
theorem md_202 : mi 202 = m_202 := by rfl
theorem md_203 : mi 203 = m_203 := by rfl
theorem md_204 : mi 204 = m_204 := by rfl
theorem md_205 : mi 205 = m_205 := by rfl
theorem md_206 : mi 206 = m_206 := by rfl
theorem md_207 : mi 207 = m_207 := by rfl
theorem md_208 : mi 208 = m_208 := by rfl
theorem md_209 : mi 209 = m_209 := by rfl
theorem md_210 : mi 210 = m_210 := by rfl
theorem md_211 : mi 211 = m_211 := by rfl
theorem md_212 : mi 212 = m_212 := by rfl
theorem md_213 : mi 213 = m_213 := by rfl
theorem md_214 : mi 214 = m_214 := by rfl
theorem md_215 : mi 215 = m_215 := by rfl
theorem md_216 : mi 216 = m_216 := by rfl
theorem md_217 : mi 217 = m_217 := by rfl
theorem md_218 : mi 218 = m_218 := by rfl
theorem md_219 : mi 219 = m_219 := by rfl
theorem md_220 : mi 220 = m_220 := by rfl
theorem md_221 : mi 221 = m_221 := by rfl
theorem md_222 : mi 222 = m_222 := by rfl
theorem md_223 : mi 223 = m_223 := by rfl
theorem md_224 : mi 224 = m_224 := by rfl
theorem md_225 : mi 225 = m_225 := by rfl
theorem md_226 : mi 226 = m_226 := by rfl
theorem md_227 : mi 227 = m_227 := by rfl
theorem md_228 : mi 228 = m_228 := by rfl
theorem md_229 : mi 229 = m_229 := by rfl
theorem md_230 : mi 230 = m_230 := by rfl
theorem md_231 : mi 231 = m_231 := by rfl
theorem md_232 : mi 232 = m_232 := by rfl
theorem md_233 : mi 233 = m_233 := by rfl
theorem md_234 : mi 234 = m_234 := by rfl
theorem md_235 : mi 235 = m_235 := by rfl
theorem md_236 : mi 236 = m_236 := by rfl
theorem md_237 : mi 237 = m_237 := by rfl
theorem md_238 : mi 238 = m_238 := by rfl
theorem md_239 : mi 239 = m_239 := by rfl
theorem md_240 : mi 240 = m_240 := by rfl
theorem md_241 : mi 241 = m_241 := by rfl
theorem md_242 : mi 242 = m_242 := by rfl
theorem md_243 : mi 243 = m_243 := by rfl
theorem md_244 : mi 244 = m_244 := by rfl
theorem md_245 : mi 245 = m_245 := by rfl
theorem md_246 : mi 246 = m_246 := by rfl
theorem md_247 : mi 247 = m_247 := by rfl
theorem md_248 : mi 248 = m_248 := by rfl
theorem md_249 : mi 249 = m_249 := by rfl
theorem md_250 : mi 250 = m_250 := by rfl
theorem md_251 : mi 251 = m_251 := by rfl
theorem md_252 : mi 252 = m_252 := by rfl
theorem md_253 : mi 253 = m_253 := by rfl
theorem md_254 : mi 254 = m_254 := by rfl
theorem md_255 : mi 255 = m_255 := by rfl
theorem md_256 : mi 256 = m_256 := by rfl
theorem md_257 : mi 257 = m_257 := by rfl
theorem md_258 : mi 258 = m_258 := by rfl
theorem md_259 : mi 259 = m_259 := by rfl
theorem md_260 : mi 260 = m_260 := by rfl
theorem md_261 : mi 261 = m_261 := by rfl
theorem md_262 : mi 262 = m_262 := by rfl
theorem md_263 : mi 263 = m_263 := by rfl
theorem md_264 : mi 264 = m_264 := by rfl
theorem md_265 : mi 265 = m_265 := by rfl
theorem md_266 : mi 266 = m_266 := by rfl
theorem md_267 : mi 267 = m_267 := by rfl
theorem md_268 : mi 268 = m_268 := by rfl
theorem md_269 : mi 269 = m_269 := by rfl
theorem md_270 : mi 270 = m_270 := by rfl
theorem md_271 : mi 271 = m_271 := by rfl
theorem md_272 : mi 272 = m_272 := by rfl
theorem md_273 : mi 273 = m_273 := by rfl
theorem md_274 : mi 274 = m_274 := by rfl
theorem md_275 : mi 275 = m_275 := by rfl
theorem md_276 : mi 276 = m_276 := by rfl
theorem md_277 : mi 277 = m_277 := by rfl
theorem md_278 : mi 278 = m_278 := by rfl
theorem md_279 : mi 279 = m_279 := by rfl
theorem md_280 : mi 280 = m_280 := by rfl
theorem md_281 : mi 281 = m_281 := by rfl
theorem md_282 : mi 282 = m_282 := by rfl
theorem md_283 : mi 283 = m_283 := by rfl
theorem md_284 : mi 284 = m_284 := by rfl
theorem md_285 : mi 285 = m_285 := by rfl
theorem md_286 : mi 286 = m_286 := by rfl
theorem md_287 : mi 287 = m_287 := by rfl
theorem md_288 : mi 288 = m_288 := by rfl
theorem md_289 : mi 289 = m_289 := by rfl
theorem md_290 : mi 290 = m_290 := by rfl
theorem md_291 : mi 291 = m_291 := by rfl
theorem md_292 : mi 292 = m_292 := by rfl
theorem md_293 : mi 293 = m_293 := by rfl
theorem md_294 : mi 294 = m_294 := by rfl
theorem md_295 : mi 295 = m_295 := by rfl
theorem md_296 : mi 296 = m_296 := by rfl
theorem md_297 : mi 297 = m_297 := by rfl
theorem md_298 : mi 298 = m_298 := by rfl
theorem md_299 : mi 299 = m_299 := by rfl
theorem md_300 : mi 300 = m_300 := by rfl
theorem md_301 : mi 301 = m_301 := by rfl
theorem md_302 : mi 302 = m_302 := by rfl
theorem md_303 : mi 303 = m_303 := by rfl
theorem md_304 : mi 304 = m_304 := by rfl
theorem md_305 : mi 305 = m_305 := by rfl
theorem md_306 : mi 306 = m_306 := by rfl
theorem md_307 : mi 307 = m_307 := by rfl
theorem md_308 : mi 308 = m_308 := by rfl
theorem md_309 : mi 309 = m_309 := by rfl
theorem md_310 : mi 310 = m_310 := by rfl
theorem md_311 : mi 311 = m_311 := by rfl
theorem md_312 : mi 312 = m_312 := by rfl
theorem md_313 : mi 313 = m_313 := by rfl
theorem md_314 : mi 314 = m_314 := by rfl
theorem md_315 : mi 315 = m_315 := by rfl
theorem md_316 : mi 316 = m_316 := by rfl
theorem md_317 : mi 317 = m_317 := by rfl
theorem md_318 : mi 318 = m_318 := by rfl
theorem md_319 : mi 319 = m_319 := by rfl
theorem md_320 : mi 320 = m_320 := by rfl
theorem md_321 : mi 321 = m_321 := by rfl
theorem md_322 : mi 322 = m_322 := by rfl
theorem md_323 : mi 323 = m_323 := by rfl
theorem md_324 : mi 324 = m_324 := by rfl
theorem md_325 : mi 325 = m_325 := by rfl
theorem md_326 : mi 326 = m_326 := by rfl
theorem md_327 : mi 327 = m_327 := by rfl
theorem md_328 : mi 328 = m_328 := by rfl
theorem md_329 : mi 329 = m_329 := by rfl
theorem md_330 : mi 330 = m_330 := by rfl
theorem md_331 : mi 331 = m_331 := by rfl
theorem md_332 : mi 332 = m_332 := by rfl
theorem md_333 : mi 333 = m_333 := by rfl
theorem md_334 : mi 334 = m_334 := by rfl
theorem md_335 : mi 335 = m_335 := by rfl
theorem md_336 : mi 336 = m_336 := by rfl
theorem md_337 : mi 337 = m_337 := by rfl
theorem md_338 : mi 338 = m_338 := by rfl
theorem md_339 : mi 339 = m_339 := by rfl
theorem md_340 : mi 340 = m_340 := by rfl
theorem md_341 : mi 341 = m_341 := by rfl
theorem md_342 : mi 342 = m_342 := by rfl
theorem md_343 : mi 343 = m_343 := by rfl
theorem md_344 : mi 344 = m_344 := by rfl
theorem md_345 : mi 345 = m_345 := by rfl
theorem md_346 : mi 346 = m_346 := by rfl
theorem md_347 : mi 347 = m_347 := by rfl
theorem md_348 : mi 348 = m_348 := by rfl
theorem md_349 : mi 349 = m_349 := by rfl
theorem md_350 : mi 350 = m_350 := by rfl
theorem md_351 : mi 351 = m_351 := by rfl
theorem md_352 : mi 352 = m_352 := by rfl
theorem md_353 : mi 353 = m_353 := by rfl
theorem md_354 : mi 354 = m_354 := by rfl
theorem md_355 : mi 355 = m_355 := by rfl
theorem md_356 : mi 356 = m_356 := by rfl
theorem md_357 : mi 357 = m_357 := by rfl
theorem md_358 : mi 358 = m_358 := by rfl
theorem md_359 : mi 359 = m_359 := by rfl
theorem md_360 : mi 360 = m_360 := by rfl
theorem md_361 : mi 361 = m_361 := by rfl
theorem md_362 : mi 362 = m_362 := by rfl
theorem md_363 : mi 363 = m_363 := by rfl
theorem md_364 : mi 364 = m_364 := by rfl
theorem md_365 : mi 365 = m_365 := by rfl
theorem md_366 : mi 366 = m_366 := by rfl
theorem md_367 : mi 367 = m_367 := by rfl
theorem md_368 : mi 368 = m_368 := by rfl
theorem md_369 : mi 369 = m_369 := by rfl
theorem md_370 : mi 370 = m_370 := by rfl
theorem mt_0 : miT (mi 0) = 2 := by rw [md_0]; rfl
theorem mt_1 : miT (mi 1) = 0 := by rw [md_1]; rfl
theorem mt_2 : miT (mi 2) = 0 := by rw [md_2]; rfl
theorem mt_3 : miT (mi 3) = 0 := by rw [md_3]; rfl
theorem mt_4 : miT (mi 4) = 0 := by rw [md_4]; rfl
theorem mt_5 : miT (mi 5) = 0 := by rw [md_5]; rfl
theorem mt_6 : miT (mi 6) = 0 := by rw [md_6]; rfl
theorem mt_7 : miT (mi 7) = 0 := by rw [md_7]; rfl
theorem mt_8 : miT (mi 8) = 0 := by rw [md_8]; rfl
theorem mt_9 : miT (mi 9) = 0 := by rw [md_9]; rfl
theorem mt_10 : miT (mi 10) = 0 := by rw [md_10]; rfl
theorem mt_11 : miT (mi 11) = 0 := by rw [md_11]; rfl
theorem mt_12 : miT (mi 12) = 0 := by rw [md_12]; rfl
theorem mt_13 : miT (mi 13) = 0 := by rw [md_13]; rfl
theorem mt_14 : miT (mi 14) = 1 := by rw [md_14]; rfl
theorem mt_15 : miT (mi 15) = 0 := by rw [md_15]; rfl
theorem mt_16 : miT (mi 16) = 1 := by rw [md_16]; rfl
theorem mt_17 : miT (mi 17) = 1 := by rw [md_17]; rfl
theorem mt_18 : miT (mi 18) = 0 := by rw [md_18]; rfl
theorem mt_19 : miT (mi 19) = 0 := by rw [md_19]; rfl
theorem mt_20 : miT (mi 20) = 0 := by rw [md_20]; rfl
theorem mt_21 : miT (mi 21) = 1 := by rw [md_21]; rfl
theorem mt_22 : miT (mi 22) = 1 := by rw [md_22]; rfl
theorem mt_23 : miT (mi 23) = 1 := by rw [md_23]; rfl
theorem mt_24 : miT (mi 24) = 1 := by rw [md_24]; rfl
theorem mt_25 : miT (mi 25) = 1 := by rw [md_25]; rfl
theorem mt_26 : miT (mi 26) = 2 := by rw [md_26]; rfl
theorem mt_27 : miT (mi 27) = 1 := by rw [md_27]; rfl
theorem mt_28 : miT (mi 28) = 1 := by rw [md_28]; rfl
theorem mt_29 : miT (mi 29) = 1 := by rw [md_29]; rfl
theorem mt_30 : miT (mi 30) = 2 := by rw [md_30]; rfl
theorem mt_31 : miT (mi 31) = 2 := by rw [md_31]; rfl
theorem mt_32 : miT (mi 32) = 0 := by rw [md_32]; rfl
theorem mt_33 : miT (mi 33) = 0 := by rw [md_33]; rfl
theorem mt_34 : miT (mi 34) = 1 := by rw [md_34]; rfl
theorem mt_35 : miT (mi 35) = 2 := by rw [md_35]; rfl
theorem mt_36 : miT (mi 36) = 1 := by rw [md_36]; rfl
theorem mt_37 : miT (mi 37) = 2 := by rw [md_37]; rfl
theorem mt_38 : miT (mi 38) = 2 := by rw [md_38]; rfl
theorem mt_39 : miT (mi 39) = 0 := by rw [md_39]; rfl
theorem mt_40 : miT (mi 40) = 2 := by rw [md_40]; rfl
theorem mt_41 : miT (mi 41) = 0 := by rw [md_41]; rfl
theorem mt_42 : miT (mi 42) = 1 := by rw [md_42]; rfl
theorem mt_43 : miT (mi 43) = 2 := by rw [md_43]; rfl
theorem mt_44 : miT (mi 44) = 2 := by rw [md_44]; rfl
theorem mt_45 : miT (mi 45) = 0 := by rw [md_45]; rfl
theorem mt_46 : miT (mi 46) = 2 := by rw [md_46]; rfl
theorem mt_47 : miT (mi 47) = 2 := by rw [md_47]; rfl
theorem mt_48 : miT (mi 48) = 2 := by rw [md_48]; rfl
theorem mt_49 : miT (mi 49) = 2 := by rw [md_49]; rfl
theorem mt_50 : miT (mi 50) = 2 := by rw [md_50]; rfl
theorem mt_51 : miT (mi 51) = 2 := by rw [md_51]; rfl
theorem mt_52 : miT (mi 52) = 2 := by rw [md_52]; rfl
theorem mt_53 : miT (mi 53) = 2 := by rw [md_53]; rfl
theorem mt_54 : miT (mi 54) = 2 := by rw [md_54]; rfl
theorem mt_55 : miT (mi 55) = 2 := by rw [md_55]; rfl
theorem mt_56 : miT (mi 56) = 2 := by rw [md_56]; rfl
theorem mt_57 : miT (mi 57) = 2 := by rw [md_57]; rfl
theorem mt_58 : miT (mi 58) = 2 := by rw [md_58]; rfl
theorem mt_59 : miT (mi 59) = 1 := by rw [md_59]; rfl
theorem mt_60 : miT (mi 60) = 1 := by rw [md_60]; rfl
theorem mt_61 : miT (mi 61) = 2 := by rw [md_61]; rfl
theorem mt_62 : miT (mi 62) = 2 := by rw [md_62]; rfl
theorem mt_63 : miT (mi 63) = 1 := by rw [md_63]; rfl
theorem mt_64 : miT (mi 64) = 1 := by rw [md_64]; rfl
theorem mt_65 : miT (mi 65) = 1 := by rw [md_65]; rfl
theorem mt_66 : miT (mi 66) = 1 := by rw [md_66]; rfl
theorem mt_67 : miT (mi 67) = 0 := by rw [md_67]; rfl
theorem mt_68 : miT (mi 68) = 0 := by rw [md_68]; rfl
theorem mt_69 : miT (mi 69) = 0 := by rw [md_69]; rfl
theorem mt_70 : miT (mi 70) = 0 := by rw [md_70]; rfl
theorem mt_71 : miT (mi 71) = 1 := by rw [md_71]; rfl
theorem mt_72 : miT (mi 72) = 0 := by rw [md_72]; rfl
theorem mt_73 : miT (mi 73) = 1 := by rw [md_73]; rfl
theorem mt_74 : miT (mi 74) = 0 := by rw [md_74]; rfl
theorem mt_75 : miT (mi 75) = 0 := by rw [md_75]; rfl
theorem mt_76 : miT (mi 76) = 0 := by rw [md_76]; rfl
theorem mt_77 : miT (mi 77) = 0 := by rw [md_77]; rfl
theorem mt_78 : miT (mi 78) = 0 := by rw [md_78]; rfl
theorem mt_79 : miT (mi 79) = 0 := by rw [md_79]; rfl
theorem mt_80 : miT (mi 80) = 0 := by rw [md_80]; rfl
theorem mt_81 : miT (mi 81) = 0 := by rw [md_81]; rfl
theorem mt_82 : miT (mi 82) = 2 := by rw [md_82]; rfl
theorem mt_83 : miT (mi 83) = 1 := by rw [md_83]; rfl
theorem mt_84 : miT (mi 84) = 1 := by rw [md_84]; rfl
theorem mt_85 : miT (mi 85) = 1 := by rw [md_85]; rfl
theorem mt_86 : miT (mi 86) = 1 := by rw [md_86]; rfl
theorem mt_87 : miT (mi 87) = 1 := by rw [md_87]; rfl
theorem mt_88 : miT (mi 88) = 1 := by rw [md_88]; rfl
theorem mt_89 : miT (mi 89) = 1 := by rw [md_89]; rfl
theorem mt_90 : miT (mi 90) = 0 := by rw [md_90]; rfl
theorem mt_91 : miT (mi 91) = 0 := by rw [md_91]; rfl
theorem mt_92 : miT (mi 92) = 1 := by rw [md_92]; rfl
theorem mt_93 : miT (mi 93) = 0 := by rw [md_93]; rfl
theorem mt_94 : miT (mi 94) = 0 := by rw [md_94]; rfl
theorem mt_95 : miT (mi 95) = 0 := by rw [md_95]; rfl
theorem mt_96 : miT (mi 96) = 0 := by rw [md_96]; rfl
theorem mt_97 : miT (mi 97) = 0 := by rw [md_97]; rfl
theorem mt_98 : miT (mi 98) = 0 := by rw [md_98]; rfl
theorem mt_99 : miT (mi 99) = 0 := by rw [md_99]; rfl
theorem mt_100 : miT (mi 100) = 1 := by rw [md_100]; rfl
theorem mt_101 : miT (mi 101) = 1 := by rw [md_101]; rfl
theorem mt_102 : miT (mi 102) = 0 := by rw [md_102]; rfl
theorem mt_103 : miT (mi 103) = 0 := by rw [md_103]; rfl
theorem mt_104 : miT (mi 104) = 0 := by rw [md_104]; rfl
theorem mt_105 : miT (mi 105) = 0 := by rw [md_105]; rfl
theorem mt_106 : miT (mi 106) = 0 := by rw [md_106]; rfl
theorem mt_107 : miT (mi 107) = 0 := by rw [md_107]; rfl
theorem mt_108 : miT (mi 108) = 0 := by rw [md_108]; rfl
theorem mt_109 : miT (mi 109) = 0 := by rw [md_109]; rfl
theorem mt_110 : miT (mi 110) = 0 := by rw [md_110]; rfl
theorem mt_111 : miT (mi 111) = 0 := by rw [md_111]; rfl
theorem mt_112 : miT (mi 112) = 0 := by rw [md_112]; rfl
theorem mt_113 : miT (mi 113) = 0 := by rw [md_113]; rfl
theorem mt_114 : miT (mi 114) = 1 := by rw [md_114]; rfl
theorem mt_115 : miT (mi 115) = 1 := by rw [md_115]; rfl
theorem mt_116 : miT (mi 116) = 1 := by rw [md_116]; rfl
theorem mt_117 : miT (mi 117) = 0 := by rw [md_117]; rfl
theorem mt_118 : miT (mi 118) = 0 := by rw [md_118]; rfl
theorem mt_119 : miT (mi 119) = 0 := by rw [md_119]; rfl
theorem mt_120 : miT (mi 120) = 0 := by rw [md_120]; rfl
theorem mt_121 : miT (mi 121) = 0 := by rw [md_121]; rfl
theorem mt_122 : miT (mi 122) = 0 := by rw [md_122]; rfl
theorem mt_123 : miT (mi 123) = 0 := by rw [md_123]; rfl
theorem mt_124 : miT (mi 124) = 0 := by rw [md_124]; rfl
theorem mt_125 : miT (mi 125) = 0 := by rw [md_125]; rfl
theorem mt_126 : miT (mi 126) = 0 := by rw [md_126]; rfl
theorem mt_127 : miT (mi 127) = 0 := by rw [md_127]; rfl
theorem mt_128 : miT (mi 128) = 0 := by rw [md_128]; rfl
theorem mt_129 : miT (mi 129) = 0 := by rw [md_129]; rfl
theorem mt_130 : miT (mi 130) = 0 := by rw [md_130]; rfl
theorem mt_131 : miT (mi 131) = 0 := by rw [md_131]; rfl
theorem mt_132 : miT (mi 132) = 0 := by rw [md_132]; rfl
theorem mt_133 : miT (mi 133) = 0 := by rw [md_133]; rfl
theorem mt_134 : miT (mi 134) = 1 := by rw [md_134]; rfl
theorem mt_135 : miT (mi 135) = 1 := by rw [md_135]; rfl
theorem mt_136 : miT (mi 136) = 1 := by rw [md_136]; rfl
theorem mt_137 : miT (mi 137) = 2 := by rw [md_137]; rfl
theorem mt_138 : miT (mi 138) = 0 := by rw [md_138]; rfl
theorem mt_139 : miT (mi 139) = 0 := by rw [md_139]; rfl
theorem mt_140 : miT (mi 140) = 0 := by rw [md_140]; rfl
theorem mt_141 : miT (mi 141) = 1 := by rw [md_141]; rfl
theorem mt_142 : miT (mi 142) = 1 := by rw [md_142]; rfl
theorem mt_143 : miT (mi 143) = 2 := by rw [md_143]; rfl
theorem mt_144 : miT (mi 144) = 1 := by rw [md_144]; rfl
theorem mt_145 : miT (mi 145) = 0 := by rw [md_145]; rfl
theorem mt_146 : miT (mi 146) = 0 := by rw [md_146]; rfl
theorem mt_147 : miT (mi 147) = 1 := by rw [md_147]; rfl
theorem mt_148 : miT (mi 148) = 1 := by rw [md_148]; rfl
theorem mt_149 : miT (mi 149) = 1 := by rw [md_149]; rfl
theorem mt_150 : miT (mi 150) = 1 := by rw [md_150]; rfl
theorem mt_151 : miT (mi 151) = 1 := by rw [md_151]; rfl
theorem mt_152 : miT (mi 152) = 2 := by rw [md_152]; rfl
theorem mt_153 : miT (mi 153) = 2 := by rw [md_153]; rfl
theorem mt_154 : miT (mi 154) = 1 := by rw [md_154]; rfl
theorem mt_155 : miT (mi 155) = 1 := by rw [md_155]; rfl
theorem mt_156 : miT (mi 156) = 2 := by rw [md_156]; rfl
theorem mt_157 : miT (mi 157) = 1 := by rw [md_157]; rfl
theorem mt_158 : miT (mi 158) = 1 := by rw [md_158]; rfl
theorem mt_159 : miT (mi 159) = 1 := by rw [md_159]; rfl
theorem mt_160 : miT (mi 160) = 1 := by rw [md_160]; rfl
theorem mt_161 : miT (mi 161) = 1 := by rw [md_161]; rfl
theorem mt_162 : miT (mi 162) = 1 := by rw [md_162]; rfl
theorem mt_163 : miT (mi 163) = 1 := by rw [md_163]; rfl
theorem mt_164 : miT (mi 164) = 2 := by rw [md_164]; rfl
theorem mt_165 : miT (mi 165) = 1 := by rw [md_165]; rfl
theorem mt_166 : miT (mi 166) = 1 := by rw [md_166]; rfl
theorem mt_167 : miT (mi 167) = 1 := by rw [md_167]; rfl
theorem mt_168 : miT (mi 168) = 1 := by rw [md_168]; rfl
theorem mt_169 : miT (mi 169) = 1 := by rw [md_169]; rfl
theorem mt_170 : miT (mi 170) = 1 := by rw [md_170]; rfl
theorem mt_171 : miT (mi 171) = 1 := by rw [md_171]; rfl
theorem mt_172 : miT (mi 172) = 1 := by rw [md_172]; rfl
theorem mt_173 : miT (mi 173) = 1 := by rw [md_173]; rfl
theorem mt_174 : miT (mi 174) = 1 := by rw [md_174]; rfl
theorem mt_175 : miT (mi 175) = 1 := by rw [md_175]; rfl
theorem mt_176 : miT (mi 176) = 1 := by rw [md_176]; rfl
theorem mt_177 : miT (mi 177) = 1 := by rw [md_177]; rfl
theorem mt_178 : miT (mi 178) = 1 := by rw [md_178]; rfl
theorem mt_179 : miT (mi 179) = 1 := by rw [md_179]; rfl
theorem mt_180 : miT (mi 180) = 1 := by rw [md_180]; rfl
theorem mt_181 : miT (mi 181) = 1 := by rw [md_181]; rfl
theorem mt_182 : miT (mi 182) = 1 := by rw [md_182]; rfl
theorem mt_183 : miT (mi 183) = 0 := by rw [md_183]; rfl
theorem mt_184 : miT (mi 184) = 1 := by rw [md_184]; rfl
theorem mt_185 : miT (mi 185) = 0 := by rw [md_185]; rfl
theorem mt_186 : miT (mi 186) = 1 := by rw [md_186]; rfl
theorem mt_187 : miT (mi 187) = 2 := by rw [md_187]; rfl
theorem mt_188 : miT (mi 188) = 1 := by rw [md_188]; rfl
theorem mt_189 : miT (mi 189) = 1 := by rw [md_189]; rfl
theorem mt_190 : miT (mi 190) = 1 := by rw [md_190]; rfl
theorem mt_191 : miT (mi 191) = 0 := by rw [md_191]; rfl
theorem mt_192 : miT (mi 192) = 1 := by rw [md_192]; rfl
theorem mt_193 : miT (mi 193) = 2 := by rw [md_193]; rfl
theorem mt_194 : miT (mi 194) = 0 := by rw [md_194]; rfl
theorem mt_195 : miT (mi 195) = 2 := by rw [md_195]; rfl
theorem mt_196 : miT (mi 196) = 0 := by rw [md_196]; rfl
theorem mt_197 : miT (mi 197) = 0 := by rw [md_197]; rfl
theorem mt_198 : miT (mi 198) = 0 := by rw [md_198]; rfl
theorem mt_199 : miT (mi 199) = 0 := by rw [md_199]; rfl
theorem mt_200 : miT (mi 200) = 0 := by rw [md_200]; rfl
theorem mt_201 : miT (mi 201) = 2 := by rw [md_201]; rfl
theorem mt_202 : miT (mi 202) = 0 := by rw [md_202]; rfl
theorem mt_203 : miT (mi 203) = 2 := by rw [md_203]; rfl
theorem mt_204 : miT (mi 204) = 0 := by rw [md_204]; rfl
theorem mt_205 : miT (mi 205) = 2 := by rw [md_205]; rfl
theorem mt_206 : miT (mi 206) = 0 := by rw [md_206]; rfl
theorem mt_207 : miT (mi 207) = 0 := by rw [md_207]; rfl
theorem mt_208 : miT (mi 208) = 0 := by rw [md_208]; rfl
theorem mt_209 : miT (mi 209) = 0 := by rw [md_209]; rfl
theorem mt_210 : miT (mi 210) = 2 := by rw [md_210]; rfl
theorem mt_211 : miT (mi 211) = 0 := by rw [md_211]; rfl
theorem mt_212 : miT (mi 212) = 0 := by rw [md_212]; rfl
theorem mt_213 : miT (mi 213) = 2 := by rw [md_213]; rfl
theorem mt_214 : miT (mi 214) = 0 := by rw [md_214]; rfl
theorem mt_215 : miT (mi 215) = 0 := by rw [md_215]; rfl
theorem mt_216 : miT (mi 216) = 0 := by rw [md_216]; rfl
theorem mt_217 : miT (mi 217) = 0 := by rw [md_217]; rfl
theorem mt_218 : miT (mi 218) = 0 := by rw [md_218]; rfl
theorem mt_219 : miT (mi 219) = 0 := by rw [md_219]; rfl
theorem mt_220 : miT (mi 220) = 0 := by rw [md_220]; rfl
theorem mt_221 : miT (mi 221) = 0 := by rw [md_221]; rfl
theorem mt_222 : miT (mi 222) = 0 := by rw [md_222]; rfl
theorem mt_223 : miT (mi 223) = 0 := by rw [md_223]; rfl
theorem mt_224 : miT (mi 224) = 0 := by rw [md_224]; rfl
theorem mt_225 : miT (mi 225) = 0 := by rw [md_225]; rfl
theorem mt_226 : miT (mi 226) = 0 := by rw [md_226]; rfl
theorem mt_227 : miT (mi 227) = 2 := by rw [md_227]; rfl
theorem mt_228 : miT (mi 228) = 1 := by rw [md_228]; rfl
theorem mt_229 : miT (mi 229) = 2 := by rw [md_229]; rfl
theorem mt_230 : miT (mi 230) = 2 := by rw [md_230]; rfl
theorem mt_231 : miT (mi 231) = 0 := by rw [md_231]; rfl
theorem mt_232 : miT (mi 232) = 1 := by rw [md_232]; rfl
theorem mt_233 : miT (mi 233) = 0 := by rw [md_233]; rfl
theorem mt_234 : miT (mi 234) = 0 := by rw [md_234]; rfl
theorem mt_235 : miT (mi 235) = 0 := by rw [md_235]; rfl
theorem mt_236 : miT (mi 236) = 0 := by rw [md_236]; rfl
theorem mt_237 : miT (mi 237) = 2 := by rw [md_237]; rfl
theorem mt_238 : miT (mi 238) = 0 := by rw [md_238]; rfl
theorem mt_239 : miT (mi 239) = 0 := by rw [md_239]; rfl
theorem mt_240 : miT (mi 240) = 1 := by rw [md_240]; rfl
theorem mt_241 : miT (mi 241) = 1 := by rw [md_241]; rfl
theorem mt_242 : miT (mi 242) = 1 := by rw [md_242]; rfl
theorem mt_243 : miT (mi 243) = 0 := by rw [md_243]; rfl
theorem mt_244 : miT (mi 244) = 2 := by rw [md_244]; rfl
theorem mt_245 : miT (mi 245) = 1 := by rw [md_245]; rfl
theorem mt_246 : miT (mi 246) = 0 := by rw [md_246]; rfl
theorem mt_247 : miT (mi 247) = 0 := by rw [md_247]; rfl
theorem mt_248 : miT (mi 248) = 0 := by rw [md_248]; rfl
theorem mt_249 : miT (mi 249) = 0 := by rw [md_249]; rfl
theorem mt_250 : miT (mi 250) = 0 := by rw [md_250]; rfl
theorem mt_251 : miT (mi 251) = 0 := by rw [md_251]; rfl
theorem mt_252 : miT (mi 252) = 0 := by rw [md_252]; rfl
theorem mt_253 : miT (mi 253) = 1 := by rw [md_253]; rfl
theorem mt_254 : miT (mi 254) = 1 := by rw [md_254]; rfl
theorem mt_255 : miT (mi 255) = 1 := by rw [md_255]; rfl
theorem mt_256 : miT (mi 256) = 1 := by rw [md_256]; rfl
theorem mt_257 : miT (mi 257) = 1 := by rw [md_257]; rfl
theorem mt_258 : miT (mi 258) = 1 := by rw [md_258]; rfl
theorem mt_259 : miT (mi 259) = 1 := by rw [md_259]; rfl
theorem mt_260 : miT (mi 260) = 1 := by rw [md_260]; rfl
theorem mt_261 : miT (mi 261) = 1 := by rw [md_261]; rfl
theorem mt_262 : miT (mi 262) = 0 := by rw [md_262]; rfl
theorem mt_263 : miT (mi 263) = 2 := by rw [md_263]; rfl
theorem mt_264 : miT (mi 264) = 0 := by rw [md_264]; rfl
theorem mt_265 : miT (mi 265) = 0 := by rw [md_265]; rfl
theorem mt_266 : miT (mi 266) = 0 := by rw [md_266]; rfl
theorem mt_267 : miT (mi 267) = 0 := by rw [md_267]; rfl
theorem mt_268 : miT (mi 268) = 0 := by rw [md_268]; rfl
theorem mt_269 : miT (mi 269) = 1 := by rw [md_269]; rfl
theorem mt_270 : miT (mi 270) = 0 := by rw [md_270]; rfl
theorem mt_271 : miT (mi 271) = 0 := by rw [md_271]; rfl
theorem mt_272 : miT (mi 272) = 1 := by rw [md_272]; rfl
theorem mt_273 : miT (mi 273) = 0 := by rw [md_273]; rfl
theorem mt_274 : miT (mi 274) = 0 := by rw [md_274]; rfl
theorem mt_275 : miT (mi 275) = 0 := by rw [md_275]; rfl
theorem mt_276 : miT (mi 276) = 0 := by rw [md_276]; rfl
theorem mt_277 : miT (mi 277) = 0 := by rw [md_277]; rfl
theorem mt_278 : miT (mi 278) = 0 := by rw [md_278]; rfl
theorem mt_279 : miT (mi 279) = 0 := by rw [md_279]; rfl
theorem mt_280 : miT (mi 280) = 0 := by rw [md_280]; rfl
theorem mt_281 : miT (mi 281) = 0 := by rw [md_281]; rfl
theorem mt_282 : miT (mi 282) = 0 := by rw [md_282]; rfl
theorem mt_283 : miT (mi 283) = 1 := by rw [md_283]; rfl
theorem mt_284 : miT (mi 284) = 1 := by rw [md_284]; rfl
theorem mt_285 : miT (mi 285) = 1 := by rw [md_285]; rfl
theorem mt_286 : miT (mi 286) = 1 := by rw [md_286]; rfl
theorem mt_287 : miT (mi 287) = 0 := by rw [md_287]; rfl
theorem mt_288 : miT (mi 288) = 0 := by rw [md_288]; rfl
theorem mt_289 : miT (mi 289) = 1 := by rw [md_289]; rfl
theorem mt_290 : miT (mi 290) = 1 := by rw [md_290]; rfl
theorem mt_291 : miT (mi 291) = 2 := by rw [md_291]; rfl
theorem mt_292 : miT (mi 292) = 1 := by rw [md_292]; rfl
theorem mt_293 : miT (mi 293) = 0 := by rw [md_293]; rfl
theorem mt_294 : miT (mi 294) = 1 := by rw [md_294]; rfl
theorem mt_295 : miT (mi 295) = 1 := by rw [md_295]; rfl
theorem mt_296 : miT (mi 296) = 1 := by rw [md_296]; rfl
theorem mt_297 : miT (mi 297) = 1 := by rw [md_297]; rfl
theorem mt_298 : miT (mi 298) = 1 := by rw [md_298]; rfl
theorem mt_299 : miT (mi 299) = 2 := by rw [md_299]; rfl
theorem mt_300 : miT (mi 300) = 1 := by rw [md_300]; rfl
theorem mt_301 : miT (mi 301) = 1 := by rw [md_301]; rfl
theorem mt_302 : miT (mi 302) = 2 := by rw [md_302]; rfl
theorem mt_303 : miT (mi 303) = 1 := by rw [md_303]; rfl
theorem mt_304 : miT (mi 304) = 1 := by rw [md_304]; rfl
theorem mt_305 : miT (mi 305) = 1 := by rw [md_305]; rfl
theorem mt_306 : miT (mi 306) = 1 := by rw [md_306]; rfl
theorem mt_307 : miT (mi 307) = 1 := by rw [md_307]; rfl
theorem mt_308 : miT (mi 308) = 1 := by rw [md_308]; rfl
theorem mt_309 : miT (mi 309) = 2 := by rw [md_309]; rfl
theorem mt_310 : miT (mi 310) = 1 := by rw [md_310]; rfl
theorem mt_311 : miT (mi 311) = 1 := by rw [md_311]; rfl
theorem mt_312 : miT (mi 312) = 1 := by rw [md_312]; rfl
theorem mt_313 : miT (mi 313) = 1 := by rw [md_313]; rfl
theorem mt_314 : miT (mi 314) = 1 := by rw [md_314]; rfl
theorem mt_315 : miT (mi 315) = 1 := by rw [md_315]; rfl
theorem mt_316 : miT (mi 316) = 1 := by rw [md_316]; rfl
theorem mt_317 : miT (mi 317) = 1 := by rw [md_317]; rfl
theorem mt_318 : miT (mi 318) = 1 := by rw [md_318]; rfl
theorem mt_319 : miT (mi 319) = 1 := by rw [md_319]; rfl
theorem mt_320 : miT (mi 320) = 1 := by rw [md_320]; rfl
theorem mt_321 : miT (mi 321) = 1 := by rw [md_321]; rfl
theorem mt_322 : miT (mi 322) = 1 := by rw [md_322]; rfl
theorem mt_323 : miT (mi 323) = 1 := by rw [md_323]; rfl
theorem mt_324 : miT (mi 324) = 1 := by rw [md_324]; rfl
theorem mt_325 : miT (mi 325) = 1 := by rw [md_325]; rfl
theorem mt_326 : miT (mi 326) = 0 := by rw [md_326]; rfl
theorem mt_327 : miT (mi 327) = 0 := by rw [md_327]; rfl
theorem mt_328 : miT (mi 328) = 0 := by rw [md_328]; rfl
theorem mt_329 : miT (mi 329) = 0 := by rw [md_329]; rfl
theorem mt_330 : miT (mi 330) = 0 := by rw [md_330]; rfl
theorem mt_331 : miT (mi 331) = 0 := by rw [md_331]; rfl
theorem mt_332 : miT (mi 332) = 0 := by rw [md_332]; rfl
theorem mt_333 : miT (mi 333) = 0 := by rw [md_333]; rfl
theorem mt_334 : miT (mi 334) = 0 := by rw [md_334]; rfl
theorem mt_335 : miT (mi 335) = 0 := by rw [md_335]; rfl
theorem mt_336 : miT (mi 336) = 1 := by rw [md_336]; rfl
theorem mt_337 : miT (mi 337) = 0 := by rw [md_337]; rfl
theorem mt_338 : miT (mi 338) = 0 := by rw [md_338]; rfl
theorem mt_339 : miT (mi 339) = 0 := by rw [md_339]; rfl
theorem mt_340 : miT (mi 340) = 0 := by rw [md_340]; rfl
theorem mt_341 : miT (mi 341) = 0 := by rw [md_341]; rfl
theorem mt_342 : miT (mi 342) = 0 := by rw [md_342]; rfl
theorem mt_343 : miT (mi 343) = 0 := by rw [md_343]; rfl
theorem mt_344 : miT (mi 344) = 0 := by rw [md_344]; rfl
theorem mt_345 : miT (mi 345) = 0 := by rw [md_345]; rfl
theorem mt_346 : miT (mi 346) = 5 := by rw [md_346]; rfl
theorem mt_347 : miT (mi 347) = 5 := by rw [md_347]; rfl
theorem mt_348 : miT (mi 348) = 1 := by rw [md_348]; rfl
theorem mt_349 : miT (mi 349) = 3 := by rw [md_349]; rfl
theorem mt_350 : miT (mi 350) = 0 := by rw [md_350]; rfl
theorem mt_351 : miT (mi 351) = 1 := by rw [md_351]; rfl
theorem mt_352 : miT (mi 352) = 1 := by rw [md_352]; rfl
theorem mt_353 : miT (mi 353) = 5 := by rw [md_353]; rfl
theorem mt_354 : miT (mi 354) = 0 := by rw [md_354]; rfl
theorem mt_355 : miT (mi 355) = 0 := by rw [md_355]; rfl
theorem mt_356 : miT (mi 356) = 1 := by rw [md_356]; rfl
theorem mt_357 : miT (mi 357) = 0 := by rw [md_357]; rfl
theorem mt_358 : miT (mi 358) = 5 := by rw [md_358]; rfl
theorem mt_359 : miT (mi 359) = 0 := by rw [md_359]; rfl
theorem mt_360 : miT (mi 360) = 0 := by rw [md_360]; rfl
theorem mt_361 : miT (mi 361) = 5 := by rw [md_361]; rfl
theorem mt_362 : miT (mi 362) = 1 := by rw [md_362]; rfl
theorem mt_363 : miT (mi 363) = 2 := by rw [md_363]; rfl
theorem mt_364 : miT (mi 364) = 5 := by rw [md_364]; rfl
theorem mt_365 : miT (mi 365) = 5 := by rw [md_365]; rfl
theorem mt_366 : miT (mi 366) = 5 := by rw [md_366]; rfl
theorem mt_367 : miT (mi 367) = 2 := by rw [md_367]; rfl
theorem mt_368 : miT (mi 368) = 5 := by rw [md_368]; rfl
theorem mt_369 : miT (mi 369) = 0 := by rw [md_369]; rfl
theorem mt_370 : miT (mi 370) = 0 := by rw [md_370]; rfl
set_option maxRecDepth 20000 in
theorem jm_0_18 : jmp 0 18 = bl_0_18 := by unfold jmp codeOf; rw [md_0]; rfl
set_option maxRecDepth 20000 in
theorem jm_0_184 : jmp 0 184 = bl_0_184 := by unfold jmp codeOf; rw [md_0]; rfl
set_option maxRecDepth 20000 in
theorem jm_0_247 : jmp 0 247 = bl_0_247 := by unfold jmp codeOf; rw [md_0]; rfl
set_option maxRecDepth 20000 in
theorem jm_0_270 : jmp 0 270 = bl_0_270 := by unfold jmp codeOf; rw [md_0]; rfl
set_option maxRecDepth 20000 in
theorem jm_0_283 : jmp 0 283 = bl_0_283 := by unfold jmp codeOf; rw [md_0]; rfl
set_option maxRecDepth 20000 in
theorem jm_0_306 : jmp 0 306 = bl_0_306 := by unfold jmp codeOf; rw [md_0]; rfl
set_option maxRecDepth 20000 in
theorem jm_0_319 : jmp 0 319 = bl_0_319 := by unfold jmp codeOf; rw [md_0]; rfl
set_option maxRecDepth 20000 in
theorem jm_0_332 : jmp 0 332 = bl_0_332 := by unfold jmp codeOf; rw [md_0]; rfl
set_option maxRecDepth 20000 in
theorem jm_0_355 : jmp 0 355 = bl_0_355 := by unfold jmp codeOf; rw [md_0]; rfl
set_option maxRecDepth 20000 in
theorem jm_0_368 : jmp 0 368 = bl_0_368 := by unfold jmp codeOf; rw [md_0]; rfl
set_option maxRecDepth 20000 in
theorem jm_0_381 : jmp 0 381 = bl_0_381 := by unfold jmp codeOf; rw [md_0]; rfl
set_option maxRecDepth 20000 in
theorem jm_0_404 : jmp 0 404 = bl_0_404 := by unfold jmp codeOf; rw [md_0]; rfl
set_option maxRecDepth 20000 in
theorem jm_0_417 : jmp 0 417 = bl_0_417 := by unfold jmp codeOf; rw [md_0]; rfl
set_option maxRecDepth 20000 in
theorem jm_0_418 : jmp 0 418 = bl_0_418 := by unfold jmp codeOf; rw [md_0]; rfl
set_option maxRecDepth 20000 in
theorem jm_0_434 : jmp 0 434 = bl_0_434 := by unfold jmp codeOf; rw [md_0]; rfl
set_option maxRecDepth 20000 in
theorem jm_0_435 : jmp 0 435 = bl_0_435 := by unfold jmp codeOf; rw [md_0]; rfl
set_option maxRecDepth 20000 in
theorem jm_0_443 : jmp 0 443 = bl_0_443 := by unfold jmp codeOf; rw [md_0]; rfl
set_option maxRecDepth 20000 in
theorem jm_0_466 : jmp 0 466 = bl_0_466 := by unfold jmp codeOf; rw [md_0]; rfl
set_option maxRecDepth 20000 in
theorem jm_0_499 : jmp 0 499 = bl_0_499 := by unfold jmp codeOf; rw [md_0]; rfl
set_option maxRecDepth 20000 in
theorem jm_0_517 : jmp 0 517 = bl_0_517 := by unfold jmp codeOf; rw [md_0]; rfl
set_option maxRecDepth 20000 in
theorem jm_0_518 : jmp 0 518 = bl_0_518 := by unfold jmp codeOf; rw [md_0]; rfl
set_option maxRecDepth 20000 in
theorem jm_0_539 : jmp 0 539 = bl_0_539 := by unfold jmp codeOf; rw [md_0]; rfl
set_option maxRecDepth 20000 in
theorem jm_0_540 : jmp 0 540 = bl_0_540 := by unfold jmp codeOf; rw [md_0]; rfl
set_option maxRecDepth 20000 in
theorem jm_0_548 : jmp 0 548 = bl_0_548 := by unfold jmp codeOf; rw [md_0]; rfl
set_option maxRecDepth 20000 in
theorem jm_0_571 : jmp 0 571 = bl_0_571 := by unfold jmp codeOf; rw [md_0]; rfl
set_option maxRecDepth 20000 in
theorem jm_0_584 : jmp 0 584 = bl_0_584 := by unfold jmp codeOf; rw [md_0]; rfl
set_option maxRecDepth 20000 in
theorem jm_0_585 : jmp 0 585 = bl_0_585 := by unfold jmp codeOf; rw [md_0]; rfl
set_option maxRecDepth 20000 in
theorem jm_0_601 : jmp 0 601 = bl_0_601 := by unfold jmp codeOf; rw [md_0]; rfl
set_option maxRecDepth 20000 in
theorem jm_0_602 : jmp 0 602 = bl_0_602 := by unfold jmp codeOf; rw [md_0]; rfl
set_option maxRecDepth 20000 in
theorem jm_0_610 : jmp 0 610 = bl_0_610 := by unfold jmp codeOf; rw [md_0]; rfl
set_option maxRecDepth 20000 in
theorem jm_0_628 : jmp 0 628 = bl_0_628 := by unfold jmp codeOf; rw [md_0]; rfl
set_option maxRecDepth 20000 in
theorem jm_0_629 : jmp 0 629 = bl_0_629 := by unfold jmp codeOf; rw [md_0]; rfl
set_option maxRecDepth 20000 in
theorem jm_0_650 : jmp 0 650 = bl_0_650 := by unfold jmp codeOf; rw [md_0]; rfl
set_option maxRecDepth 20000 in
theorem jm_0_651 : jmp 0 651 = bl_0_651 := by unfold jmp codeOf; rw [md_0]; rfl
set_option maxRecDepth 20000 in
theorem jm_0_659 : jmp 0 659 = bl_0_659 := by unfold jmp codeOf; rw [md_0]; rfl
set_option maxRecDepth 20000 in
theorem jm_0_682 : jmp 0 682 = bl_0_682 := by unfold jmp codeOf; rw [md_0]; rfl
set_option maxRecDepth 20000 in
theorem jm_0_715 : jmp 0 715 = bl_0_715 := by unfold jmp codeOf; rw [md_0]; rfl
set_option maxRecDepth 20000 in
theorem jm_0_738 : jmp 0 738 = bl_0_738 := by unfold jmp codeOf; rw [md_0]; rfl
set_option maxRecDepth 20000 in
theorem jm_0_781 : jmp 0 781 = bl_0_781 := by unfold jmp codeOf; rw [md_0]; rfl
set_option maxRecDepth 20000 in
theorem jm_0_824 : jmp 0 824 = bl_0_824 := by unfold jmp codeOf; rw [md_0]; rfl
set_option maxRecDepth 20000 in
theorem jm_0_867 : jmp 0 867 = bl_0_867 := by unfold jmp codeOf; rw [md_0]; rfl
set_option maxRecDepth 20000 in
theorem jm_0_900 : jmp 0 900 = bl_0_900 := by unfold jmp codeOf; rw [md_0]; rfl
set_option maxRecDepth 20000 in
theorem jm_0_933 : jmp 0 933 = bl_0_933 := by unfold jmp codeOf; rw [md_0]; rfl
set_option maxRecDepth 20000 in
theorem jm_0_966 : jmp 0 966 = bl_0_966 := by unfold jmp codeOf; rw [md_0]; rfl
set_option maxRecDepth 20000 in
theorem jm_0_999 : jmp 0 999 = bl_0_999 := by unfold jmp codeOf; rw [md_0]; rfl
set_option maxRecDepth 20000 in
theorem jm_0_1032 : jmp 0 1032 = bl_0_1032 := by unfold jmp codeOf; rw [md_0]; rfl
set_option maxRecDepth 20000 in
theorem jm_0_1065 : jmp 0 1065 = bl_0_1065 := by unfold jmp codeOf; rw [md_0]; rfl
set_option maxRecDepth 20000 in
theorem jm_0_1088 : jmp 0 1088 = bl_0_1088 := by unfold jmp codeOf; rw [md_0]; rfl
set_option maxRecDepth 20000 in
theorem jm_0_1111 : jmp 0 1111 = bl_0_1111 := by unfold jmp codeOf; rw [md_0]; rfl
set_option maxRecDepth 20000 in
theorem jm_0_1144 : jmp 0 1144 = bl_0_1144 := by unfold jmp codeOf; rw [md_0]; rfl
set_option maxRecDepth 20000 in
theorem jm_0_1177 : jmp 0 1177 = bl_0_1177 := by unfold jmp codeOf; rw [md_0]; rfl
set_option maxRecDepth 20000 in
theorem jm_0_1200 : jmp 0 1200 = bl_0_1200 := by unfold jmp codeOf; rw [md_0]; rfl
set_option maxRecDepth 20000 in
theorem jm_0_1206 : jmp 0 1206 = bl_0_1206 := by unfold jmp codeOf; rw [md_0]; rfl
theorem jm_2_181 : jmp 2 181 = bl_2_181 := by unfold jmp codeOf; rw [md_2]; rfl
theorem jm_2_209 : jmp 2 209 = bl_2_209 := by unfold jmp codeOf; rw [md_2]; rfl
theorem jm_2_211 : jmp 2 211 = bl_2_211 := by unfold jmp codeOf; rw [md_2]; rfl
theorem jm_2_239 : jmp 2 239 = bl_2_239 := by unfold jmp codeOf; rw [md_2]; rfl
theorem jm_2_241 : jmp 2 241 = bl_2_241 := by unfold jmp codeOf; rw [md_2]; rfl
theorem jm_2_266 : jmp 2 266 = bl_2_266 := by unfold jmp codeOf; rw [md_2]; rfl
theorem jm_3_8 : jmp 3 8 = bl_3_8 := by unfold jmp codeOf; rw [md_3]; rfl
theorem jm_3_32 : jmp 3 32 = bl_3_32 := by unfold jmp codeOf; rw [md_3]; rfl
theorem jm_6_72 : jmp 6 72 = bl_6_72 := by unfold jmp codeOf; rw [md_6]; rfl
theorem jm_6_111 : jmp 6 111 = bl_6_111 := by unfold jmp codeOf; rw [md_6]; rfl
theorem jm_8_63 : jmp 8 63 = bl_8_63 := by unfold jmp codeOf; rw [md_8]; rfl
theorem jm_8_101 : jmp 8 101 = bl_8_101 := by unfold jmp codeOf; rw [md_8]; rfl
theorem jm_8_107 : jmp 8 107 = bl_8_107 := by unfold jmp codeOf; rw [md_8]; rfl
theorem jm_14_15 : jmp 14 15 = bl_14_15 := by unfold jmp codeOf; rw [md_14]; rfl
theorem jm_15_3 : jmp 15 3 = bl_15_3 := by unfold jmp codeOf; rw [md_15]; rfl
theorem jm_15_36 : jmp 15 36 = bl_15_36 := by unfold jmp codeOf; rw [md_15]; rfl
theorem jm_16_12 : jmp 16 12 = bl_16_12 := by unfold jmp codeOf; rw [md_16]; rfl
theorem jm_16_14 : jmp 16 14 = bl_16_14 := by unfold jmp codeOf; rw [md_16]; rfl
theorem jm_17_29 : jmp 17 29 = bl_17_29 := by unfold jmp codeOf; rw [md_17]; rfl
theorem jm_17_56 : jmp 17 56 = bl_17_56 := by unfold jmp codeOf; rw [md_17]; rfl
theorem jm_17_81 : jmp 17 81 = bl_17_81 := by unfold jmp codeOf; rw [md_17]; rfl
theorem jm_17_82 : jmp 17 82 = bl_17_82 := by unfold jmp codeOf; rw [md_17]; rfl
theorem jm_17_111 : jmp 17 111 = bl_17_111 := by unfold jmp codeOf; rw [md_17]; rfl
theorem jm_17_118 : jmp 17 118 = bl_17_118 := by unfold jmp codeOf; rw [md_17]; rfl
theorem jm_17_124 : jmp 17 124 = bl_17_124 := by unfold jmp codeOf; rw [md_17]; rfl
theorem jm_17_132 : jmp 17 132 = bl_17_132 := by unfold jmp codeOf; rw [md_17]; rfl
theorem jm_17_152 : jmp 17 152 = bl_17_152 := by unfold jmp codeOf; rw [md_17]; rfl
theorem jm_19_14 : jmp 19 14 = bl_19_14 := by unfold jmp codeOf; rw [md_19]; rfl
theorem jm_19_55 : jmp 19 55 = bl_19_55 := by unfold jmp codeOf; rw [md_19]; rfl
theorem jm_19_56 : jmp 19 56 = bl_19_56 := by unfold jmp codeOf; rw [md_19]; rfl
theorem jm_19_63 : jmp 19 63 = bl_19_63 := by unfold jmp codeOf; rw [md_19]; rfl
theorem jm_19_80 : jmp 19 80 = bl_19_80 := by unfold jmp codeOf; rw [md_19]; rfl
theorem jm_20_0 : jmp 20 0 = cd_20 := by unfold jmp codeOf; rw [md_20]; rfl
theorem jm_20_39 : jmp 20 39 = bl_20_39 := by unfold jmp codeOf; rw [md_20]; rfl
theorem jm_20_52 : jmp 20 52 = bl_20_52 := by unfold jmp codeOf; rw [md_20]; rfl
theorem jm_21_20 : jmp 21 20 = bl_21_20 := by unfold jmp codeOf; rw [md_21]; rfl
theorem jm_21_62 : jmp 21 62 = bl_21_62 := by unfold jmp codeOf; rw [md_21]; rfl
theorem jm_21_78 : jmp 21 78 = bl_21_78 := by unfold jmp codeOf; rw [md_21]; rfl
theorem jm_21_87 : jmp 21 87 = bl_21_87 := by unfold jmp codeOf; rw [md_21]; rfl
theorem jm_21_122 : jmp 21 122 = bl_21_122 := by unfold jmp codeOf; rw [md_21]; rfl
theorem jm_21_135 : jmp 21 135 = bl_21_135 := by unfold jmp codeOf; rw [md_21]; rfl
theorem jm_23_5 : jmp 23 5 = bl_23_5 := by unfold jmp codeOf; rw [md_23]; rfl
theorem jm_23_39 : jmp 23 39 = bl_23_39 := by unfold jmp codeOf; rw [md_23]; rfl
theorem jm_24_3 : jmp 24 3 = bl_24_3 := by unfold jmp codeOf; rw [md_24]; rfl
theorem jm_24_34 : jmp 24 34 = bl_24_34 := by unfold jmp codeOf; rw [md_24]; rfl
theorem jm_24_40 : jmp 24 40 = bl_24_40 := by unfold jmp codeOf; rw [md_24]; rfl
theorem jm_26_10 : jmp 26 10 = bl_26_10 := by unfold jmp codeOf; rw [md_26]; rfl
theorem jm_26_35 : jmp 26 35 = bl_26_35 := by unfold jmp codeOf; rw [md_26]; rfl
theorem jm_26_41 : jmp 26 41 = bl_26_41 := by unfold jmp codeOf; rw [md_26]; rfl
theorem jm_28_4 : jmp 28 4 = bl_28_4 := by unfold jmp codeOf; rw [md_28]; rfl
theorem jm_28_35 : jmp 28 35 = bl_28_35 := by unfold jmp codeOf; rw [md_28]; rfl
theorem jm_29_52 : jmp 29 52 = bl_29_52 := by unfold jmp codeOf; rw [md_29]; rfl
theorem jm_29_55 : jmp 29 55 = bl_29_55 := by unfold jmp codeOf; rw [md_29]; rfl
theorem jm_29_58 : jmp 29 58 = bl_29_58 := by unfold jmp codeOf; rw [md_29]; rfl
theorem jm_29_61 : jmp 29 61 = bl_29_61 := by unfold jmp codeOf; rw [md_29]; rfl
theorem jm_29_64 : jmp 29 64 = bl_29_64 := by unfold jmp codeOf; rw [md_29]; rfl
theorem jm_29_67 : jmp 29 67 = bl_29_67 := by unfold jmp codeOf; rw [md_29]; rfl
theorem jm_30_15 : jmp 30 15 = bl_30_15 := by unfold jmp codeOf; rw [md_30]; rfl
theorem jm_30_16 : jmp 30 16 = bl_30_16 := by unfold jmp codeOf; rw [md_30]; rfl
theorem jm_31_43 : jmp 31 43 = bl_31_43 := by unfold jmp codeOf; rw [md_31]; rfl
theorem jm_31_44 : jmp 31 44 = bl_31_44 := by unfold jmp codeOf; rw [md_31]; rfl
theorem jm_31_67 : jmp 31 67 = bl_31_67 := by unfold jmp codeOf; rw [md_31]; rfl
theorem jm_31_103 : jmp 31 103 = bl_31_103 := by unfold jmp codeOf; rw [md_31]; rfl
theorem jm_31_104 : jmp 31 104 = bl_31_104 := by unfold jmp codeOf; rw [md_31]; rfl
theorem jm_31_105 : jmp 31 105 = bl_31_105 := by unfold jmp codeOf; rw [md_31]; rfl
theorem jm_31_117 : jmp 31 117 = bl_31_117 := by unfold jmp codeOf; rw [md_31]; rfl
theorem jm_31_119 : jmp 31 119 = bl_31_119 := by unfold jmp codeOf; rw [md_31]; rfl
theorem jm_31_151 : jmp 31 151 = bl_31_151 := by unfold jmp codeOf; rw [md_31]; rfl
theorem jm_31_156 : jmp 31 156 = bl_31_156 := by unfold jmp codeOf; rw [md_31]; rfl
theorem jm_31_174 : jmp 31 174 = bl_31_174 := by unfold jmp codeOf; rw [md_31]; rfl
theorem jm_31_175 : jmp 31 175 = bl_31_175 := by unfold jmp codeOf; rw [md_31]; rfl
theorem jm_34_27 : jmp 34 27 = bl_34_27 := by unfold jmp codeOf; rw [md_34]; rfl
theorem jm_34_29 : jmp 34 29 = bl_34_29 := by unfold jmp codeOf; rw [md_34]; rfl
theorem jm_35_10 : jmp 35 10 = bl_35_10 := by unfold jmp codeOf; rw [md_35]; rfl
theorem jm_35_26 : jmp 35 26 = bl_35_26 := by unfold jmp codeOf; rw [md_35]; rfl
theorem jm_35_57 : jmp 35 57 = bl_35_57 := by unfold jmp codeOf; rw [md_35]; rfl
theorem jm_35_73 : jmp 35 73 = bl_35_73 := by unfold jmp codeOf; rw [md_35]; rfl
theorem jm_36_23 : jmp 36 23 = bl_36_23 := by unfold jmp codeOf; rw [md_36]; rfl
theorem jm_36_27 : jmp 36 27 = bl_36_27 := by unfold jmp codeOf; rw [md_36]; rfl
theorem jm_37_22 : jmp 37 22 = bl_37_22 := by unfold jmp codeOf; rw [md_37]; rfl
theorem jm_37_53 : jmp 37 53 = bl_37_53 := by unfold jmp codeOf; rw [md_37]; rfl
theorem jm_37_67 : jmp 37 67 = bl_37_67 := by unfold jmp codeOf; rw [md_37]; rfl
theorem jm_37_68 : jmp 37 68 = bl_37_68 := by unfold jmp codeOf; rw [md_37]; rfl
theorem jm_37_78 : jmp 37 78 = bl_37_78 := by unfold jmp codeOf; rw [md_37]; rfl
theorem jm_37_79 : jmp 37 79 = bl_37_79 := by unfold jmp codeOf; rw [md_37]; rfl
theorem jm_37_87 : jmp 37 87 = bl_37_87 := by unfold jmp codeOf; rw [md_37]; rfl
theorem jm_37_109 : jmp 37 109 = bl_37_109 := by unfold jmp codeOf; rw [md_37]; rfl
theorem jm_38_11 : jmp 38 11 = bl_38_11 := by unfold jmp codeOf; rw [md_38]; rfl
theorem jm_39_66 : jmp 39 66 = bl_39_66 := by unfold jmp codeOf; rw [md_39]; rfl
theorem jm_40_12 : jmp 40 12 = bl_40_12 := by unfold jmp codeOf; rw [md_40]; rfl
theorem jm_41_52 : jmp 41 52 = bl_41_52 := by unfold jmp codeOf; rw [md_41]; rfl
theorem jm_42_21 : jmp 42 21 = bl_42_21 := by unfold jmp codeOf; rw [md_42]; rfl
theorem jm_42_22 : jmp 42 22 = bl_42_22 := by unfold jmp codeOf; rw [md_42]; rfl
theorem jm_43_2 : jmp 43 2 = bl_43_2 := by unfold jmp codeOf; rw [md_43]; rfl
theorem jm_43_24 : jmp 43 24 = bl_43_24 := by unfold jmp codeOf; rw [md_43]; rfl
theorem jm_43_28 : jmp 43 28 = bl_43_28 := by unfold jmp codeOf; rw [md_43]; rfl
theorem jm_43_59 : jmp 43 59 = bl_43_59 := by unfold jmp codeOf; rw [md_43]; rfl
theorem jm_43_79 : jmp 43 79 = bl_43_79 := by unfold jmp codeOf; rw [md_43]; rfl
theorem jm_43_96 : jmp 43 96 = bl_43_96 := by unfold jmp codeOf; rw [md_43]; rfl
theorem jm_43_119 : jmp 43 119 = bl_43_119 := by unfold jmp codeOf; rw [md_43]; rfl
theorem jm_43_142 : jmp 43 142 = bl_43_142 := by unfold jmp codeOf; rw [md_43]; rfl
theorem jm_43_150 : jmp 43 150 = bl_43_150 := by unfold jmp codeOf; rw [md_43]; rfl
theorem jm_43_151 : jmp 43 151 = bl_43_151 := by unfold jmp codeOf; rw [md_43]; rfl
theorem jm_43_152 : jmp 43 152 = bl_43_152 := by unfold jmp codeOf; rw [md_43]; rfl
theorem jm_43_158 : jmp 43 158 = bl_43_158 := by unfold jmp codeOf; rw [md_43]; rfl
theorem jm_44_24 : jmp 44 24 = bl_44_24 := by unfold jmp codeOf; rw [md_44]; rfl
theorem jm_44_60 : jmp 44 60 = bl_44_60 := by unfold jmp codeOf; rw [md_44]; rfl
theorem jm_44_78 : jmp 44 78 = bl_44_78 := by unfold jmp codeOf; rw [md_44]; rfl
theorem jm_44_114 : jmp 44 114 = bl_44_114 := by unfold jmp codeOf; rw [md_44]; rfl
theorem jm_44_119 : jmp 44 119 = bl_44_119 := by unfold jmp codeOf; rw [md_44]; rfl
theorem jm_44_125 : jmp 44 125 = bl_44_125 := by unfold jmp codeOf; rw [md_44]; rfl
theorem jm_44_136 : jmp 44 136 = bl_44_136 := by unfold jmp codeOf; rw [md_44]; rfl
theorem jm_44_163 : jmp 44 163 = bl_44_163 := by unfold jmp codeOf; rw [md_44]; rfl
theorem jm_45_66 : jmp 45 66 = bl_45_66 := by unfold jmp codeOf; rw [md_45]; rfl
theorem jm_46_44 : jmp 46 44 = bl_46_44 := by unfold jmp codeOf; rw [md_46]; rfl
theorem jm_46_49 : jmp 46 49 = bl_46_49 := by unfold jmp codeOf; rw [md_46]; rfl
theorem jm_46_54 : jmp 46 54 = bl_46_54 := by unfold jmp codeOf; rw [md_46]; rfl
theorem jm_46_84 : jmp 46 84 = bl_46_84 := by unfold jmp codeOf; rw [md_46]; rfl
theorem jm_46_85 : jmp 46 85 = bl_46_85 := by unfold jmp codeOf; rw [md_46]; rfl
theorem jm_46_86 : jmp 46 86 = bl_46_86 := by unfold jmp codeOf; rw [md_46]; rfl
theorem jm_46_117 : jmp 46 117 = bl_46_117 := by unfold jmp codeOf; rw [md_46]; rfl
theorem jm_46_118 : jmp 46 118 = bl_46_118 := by unfold jmp codeOf; rw [md_46]; rfl
theorem jm_46_119 : jmp 46 119 = bl_46_119 := by unfold jmp codeOf; rw [md_46]; rfl
theorem jm_46_141 : jmp 46 141 = bl_46_141 := by unfold jmp codeOf; rw [md_46]; rfl
theorem jm_46_142 : jmp 46 142 = bl_46_142 := by unfold jmp codeOf; rw [md_46]; rfl
theorem jm_46_143 : jmp 46 143 = bl_46_143 := by unfold jmp codeOf; rw [md_46]; rfl
theorem jm_46_174 : jmp 46 174 = bl_46_174 := by unfold jmp codeOf; rw [md_46]; rfl
theorem jm_46_175 : jmp 46 175 = bl_46_175 := by unfold jmp codeOf; rw [md_46]; rfl
theorem jm_46_176 : jmp 46 176 = bl_46_176 := by unfold jmp codeOf; rw [md_46]; rfl
theorem jm_46_198 : jmp 46 198 = bl_46_198 := by unfold jmp codeOf; rw [md_46]; rfl
theorem jm_46_199 : jmp 46 199 = bl_46_199 := by unfold jmp codeOf; rw [md_46]; rfl
theorem jm_46_200 : jmp 46 200 = bl_46_200 := by unfold jmp codeOf; rw [md_46]; rfl
theorem jm_47_46 : jmp 47 46 = bl_47_46 := by unfold jmp codeOf; rw [md_47]; rfl
theorem jm_47_47 : jmp 47 47 = bl_47_47 := by unfold jmp codeOf; rw [md_47]; rfl
theorem jm_47_54 : jmp 47 54 = bl_47_54 := by unfold jmp codeOf; rw [md_47]; rfl
theorem jm_47_56 : jmp 47 56 = bl_47_56 := by unfold jmp codeOf; rw [md_47]; rfl
theorem jm_47_80 : jmp 47 80 = bl_47_80 := by unfold jmp codeOf; rw [md_47]; rfl
theorem jm_47_82 : jmp 47 82 = bl_47_82 := by unfold jmp codeOf; rw [md_47]; rfl
theorem jm_47_102 : jmp 47 102 = bl_47_102 := by unfold jmp codeOf; rw [md_47]; rfl
theorem jm_47_132 : jmp 47 132 = bl_47_132 := by unfold jmp codeOf; rw [md_47]; rfl
theorem jm_47_146 : jmp 47 146 = bl_47_146 := by unfold jmp codeOf; rw [md_47]; rfl
theorem jm_47_148 : jmp 47 148 = bl_47_148 := by unfold jmp codeOf; rw [md_47]; rfl
theorem jm_47_156 : jmp 47 156 = bl_47_156 := by unfold jmp codeOf; rw [md_47]; rfl
theorem jm_47_162 : jmp 47 162 = bl_47_162 := by unfold jmp codeOf; rw [md_47]; rfl
theorem jm_48_10 : jmp 48 10 = bl_48_10 := by unfold jmp codeOf; rw [md_48]; rfl
theorem jm_49_20 : jmp 49 20 = bl_49_20 := by unfold jmp codeOf; rw [md_49]; rfl
theorem jm_49_22 : jmp 49 22 = bl_49_22 := by unfold jmp codeOf; rw [md_49]; rfl
theorem jm_50_15 : jmp 50 15 = bl_50_15 := by unfold jmp codeOf; rw [md_50]; rfl
theorem jm_50_16 : jmp 50 16 = bl_50_16 := by unfold jmp codeOf; rw [md_50]; rfl
theorem jm_51_11 : jmp 51 11 = bl_51_11 := by unfold jmp codeOf; rw [md_51]; rfl
theorem jm_51_13 : jmp 51 13 = bl_51_13 := by unfold jmp codeOf; rw [md_51]; rfl
theorem jm_51_38 : jmp 51 38 = bl_51_38 := by unfold jmp codeOf; rw [md_51]; rfl
theorem jm_51_46 : jmp 51 46 = bl_51_46 := by unfold jmp codeOf; rw [md_51]; rfl
theorem jm_51_47 : jmp 51 47 = bl_51_47 := by unfold jmp codeOf; rw [md_51]; rfl
theorem jm_51_48 : jmp 51 48 = bl_51_48 := by unfold jmp codeOf; rw [md_51]; rfl
theorem jm_51_61 : jmp 51 61 = bl_51_61 := by unfold jmp codeOf; rw [md_51]; rfl
theorem jm_51_83 : jmp 51 83 = bl_51_83 := by unfold jmp codeOf; rw [md_51]; rfl
theorem jm_51_89 : jmp 51 89 = bl_51_89 := by unfold jmp codeOf; rw [md_51]; rfl
theorem jm_52_10 : jmp 52 10 = bl_52_10 := by unfold jmp codeOf; rw [md_52]; rfl
theorem jm_53_40 : jmp 53 40 = bl_53_40 := by unfold jmp codeOf; rw [md_53]; rfl
theorem jm_53_41 : jmp 53 41 = bl_53_41 := by unfold jmp codeOf; rw [md_53]; rfl
theorem jm_53_42 : jmp 53 42 = bl_53_42 := by unfold jmp codeOf; rw [md_53]; rfl
theorem jm_53_69 : jmp 53 69 = bl_53_69 := by unfold jmp codeOf; rw [md_53]; rfl
theorem jm_53_73 : jmp 53 73 = bl_53_73 := by unfold jmp codeOf; rw [md_53]; rfl
theorem jm_53_74 : jmp 53 74 = bl_53_74 := by unfold jmp codeOf; rw [md_53]; rfl
theorem jm_54_11 : jmp 54 11 = bl_54_11 := by unfold jmp codeOf; rw [md_54]; rfl
theorem jm_54_111 : jmp 54 111 = bl_54_111 := by unfold jmp codeOf; rw [md_54]; rfl
theorem jm_54_112 : jmp 54 112 = bl_54_112 := by unfold jmp codeOf; rw [md_54]; rfl
theorem jm_55_2 : jmp 55 2 = bl_55_2 := by unfold jmp codeOf; rw [md_55]; rfl
theorem jm_55_26 : jmp 55 26 = bl_55_26 := by unfold jmp codeOf; rw [md_55]; rfl
theorem jm_55_28 : jmp 55 28 = bl_55_28 := by unfold jmp codeOf; rw [md_55]; rfl
theorem jm_55_41 : jmp 55 41 = bl_55_41 := by unfold jmp codeOf; rw [md_55]; rfl
theorem jm_55_47 : jmp 55 47 = bl_55_47 := by unfold jmp codeOf; rw [md_55]; rfl
theorem jm_55_61 : jmp 55 61 = bl_55_61 := by unfold jmp codeOf; rw [md_55]; rfl
theorem jm_55_90 : jmp 55 90 = bl_55_90 := by unfold jmp codeOf; rw [md_55]; rfl
theorem jm_55_103 : jmp 55 103 = bl_55_103 := by unfold jmp codeOf; rw [md_55]; rfl
theorem jm_55_105 : jmp 55 105 = bl_55_105 := by unfold jmp codeOf; rw [md_55]; rfl
theorem jm_55_113 : jmp 55 113 = bl_55_113 := by unfold jmp codeOf; rw [md_55]; rfl
theorem jm_55_119 : jmp 55 119 = bl_55_119 := by unfold jmp codeOf; rw [md_55]; rfl
theorem jm_56_21 : jmp 56 21 = bl_56_21 := by unfold jmp codeOf; rw [md_56]; rfl
theorem jm_56_22 : jmp 56 22 = bl_56_22 := by unfold jmp codeOf; rw [md_56]; rfl
theorem jm_56_41 : jmp 56 41 = bl_56_41 := by unfold jmp codeOf; rw [md_56]; rfl
theorem jm_56_52 : jmp 56 52 = bl_56_52 := by unfold jmp codeOf; rw [md_56]; rfl
theorem jm_56_120 : jmp 56 120 = bl_56_120 := by unfold jmp codeOf; rw [md_56]; rfl
theorem jm_56_125 : jmp 56 125 = bl_56_125 := by unfold jmp codeOf; rw [md_56]; rfl
theorem jm_56_138 : jmp 56 138 = bl_56_138 := by unfold jmp codeOf; rw [md_56]; rfl
theorem jm_56_147 : jmp 56 147 = bl_56_147 := by unfold jmp codeOf; rw [md_56]; rfl
theorem jm_56_182 : jmp 56 182 = bl_56_182 := by unfold jmp codeOf; rw [md_56]; rfl
theorem jm_56_183 : jmp 56 183 = bl_56_183 := by unfold jmp codeOf; rw [md_56]; rfl
theorem jm_56_184 : jmp 56 184 = bl_56_184 := by unfold jmp codeOf; rw [md_56]; rfl
theorem jm_56_186 : jmp 56 186 = bl_56_186 := by unfold jmp codeOf; rw [md_56]; rfl
theorem jm_56_195 : jmp 56 195 = bl_56_195 := by unfold jmp codeOf; rw [md_56]; rfl
theorem jm_56_230 : jmp 56 230 = bl_56_230 := by unfold jmp codeOf; rw [md_56]; rfl
theorem jm_56_231 : jmp 56 231 = bl_56_231 := by unfold jmp codeOf; rw [md_56]; rfl
theorem jm_56_232 : jmp 56 232 = bl_56_232 := by unfold jmp codeOf; rw [md_56]; rfl
theorem jm_56_252 : jmp 56 252 = bl_56_252 := by unfold jmp codeOf; rw [md_56]; rfl
theorem jm_56_256 : jmp 56 256 = bl_56_256 := by unfold jmp codeOf; rw [md_56]; rfl
theorem jm_56_257 : jmp 56 257 = bl_56_257 := by unfold jmp codeOf; rw [md_56]; rfl
theorem jm_56_258 : jmp 56 258 = bl_56_258 := by unfold jmp codeOf; rw [md_56]; rfl
theorem jm_56_289 : jmp 56 289 = bl_56_289 := by unfold jmp codeOf; rw [md_56]; rfl
theorem jm_56_290 : jmp 56 290 = bl_56_290 := by unfold jmp codeOf; rw [md_56]; rfl
theorem jm_56_291 : jmp 56 291 = bl_56_291 := by unfold jmp codeOf; rw [md_56]; rfl
theorem jm_57_13 : jmp 57 13 = bl_57_13 := by unfold jmp codeOf; rw [md_57]; rfl
theorem jm_58_11 : jmp 58 11 = bl_58_11 := by unfold jmp codeOf; rw [md_58]; rfl
theorem jm_58_45 : jmp 58 45 = bl_58_45 := by unfold jmp codeOf; rw [md_58]; rfl
theorem jm_58_46 : jmp 58 46 = bl_58_46 := by unfold jmp codeOf; rw [md_58]; rfl
theorem jm_59_2 : jmp 59 2 = bl_59_2 := by unfold jmp codeOf; rw [md_59]; rfl
theorem jm_59_44 : jmp 59 44 = bl_59_44 := by unfold jmp codeOf; rw [md_59]; rfl
theorem jm_59_50 : jmp 59 50 = bl_59_50 := by unfold jmp codeOf; rw [md_59]; rfl
theorem jm_60_28 : jmp 60 28 = bl_60_28 := by unfold jmp codeOf; rw [md_60]; rfl
theorem jm_60_30 : jmp 60 30 = bl_60_30 := by unfold jmp codeOf; rw [md_60]; rfl
theorem jm_60_128 : jmp 60 128 = bl_60_128 := by unfold jmp codeOf; rw [md_60]; rfl
theorem jm_60_143 : jmp 60 143 = bl_60_143 := by unfold jmp codeOf; rw [md_60]; rfl
theorem jm_60_144 : jmp 60 144 = bl_60_144 := by unfold jmp codeOf; rw [md_60]; rfl
theorem jm_60_145 : jmp 60 145 = bl_60_145 := by unfold jmp codeOf; rw [md_60]; rfl
theorem jm_60_161 : jmp 60 161 = bl_60_161 := by unfold jmp codeOf; rw [md_60]; rfl
theorem jm_60_162 : jmp 60 162 = bl_60_162 := by unfold jmp codeOf; rw [md_60]; rfl
theorem jm_60_163 : jmp 60 163 = bl_60_163 := by unfold jmp codeOf; rw [md_60]; rfl
theorem jm_60_182 : jmp 60 182 = bl_60_182 := by unfold jmp codeOf; rw [md_60]; rfl
theorem jm_60_183 : jmp 60 183 = bl_60_183 := by unfold jmp codeOf; rw [md_60]; rfl
theorem jm_60_184 : jmp 60 184 = bl_60_184 := by unfold jmp codeOf; rw [md_60]; rfl
theorem jm_60_203 : jmp 60 203 = bl_60_203 := by unfold jmp codeOf; rw [md_60]; rfl
theorem jm_60_204 : jmp 60 204 = bl_60_204 := by unfold jmp codeOf; rw [md_60]; rfl
theorem jm_60_205 : jmp 60 205 = bl_60_205 := by unfold jmp codeOf; rw [md_60]; rfl
theorem jm_60_220 : jmp 60 220 = bl_60_220 := by unfold jmp codeOf; rw [md_60]; rfl
theorem jm_60_224 : jmp 60 224 = bl_60_224 := by unfold jmp codeOf; rw [md_60]; rfl
theorem jm_60_225 : jmp 60 225 = bl_60_225 := by unfold jmp codeOf; rw [md_60]; rfl
theorem jm_60_241 : jmp 60 241 = bl_60_241 := by unfold jmp codeOf; rw [md_60]; rfl
theorem jm_60_245 : jmp 60 245 = bl_60_245 := by unfold jmp codeOf; rw [md_60]; rfl
theorem jm_60_246 : jmp 60 246 = bl_60_246 := by unfold jmp codeOf; rw [md_60]; rfl
theorem jm_60_261 : jmp 60 261 = bl_60_261 := by unfold jmp codeOf; rw [md_60]; rfl
theorem jm_60_262 : jmp 60 262 = bl_60_262 := by unfold jmp codeOf; rw [md_60]; rfl
theorem jm_60_263 : jmp 60 263 = bl_60_263 := by unfold jmp codeOf; rw [md_60]; rfl
theorem jm_60_282 : jmp 60 282 = bl_60_282 := by unfold jmp codeOf; rw [md_60]; rfl
theorem jm_60_284 : jmp 60 284 = bl_60_284 := by unfold jmp codeOf; rw [md_60]; rfl
theorem jm_60_285 : jmp 60 285 = bl_60_285 := by unfold jmp codeOf; rw [md_60]; rfl
theorem jm_60_302 : jmp 60 302 = bl_60_302 := by unfold jmp codeOf; rw [md_60]; rfl
theorem jm_60_304 : jmp 60 304 = bl_60_304 := by unfold jmp codeOf; rw [md_60]; rfl
theorem jm_60_305 : jmp 60 305 = bl_60_305 := by unfold jmp codeOf; rw [md_60]; rfl
theorem jm_60_326 : jmp 60 326 = bl_60_326 := by unfold jmp codeOf; rw [md_60]; rfl
theorem jm_60_328 : jmp 60 328 = bl_60_328 := by unfold jmp codeOf; rw [md_60]; rfl
theorem jm_60_329 : jmp 60 329 = bl_60_329 := by unfold jmp codeOf; rw [md_60]; rfl
theorem jm_61_16 : jmp 61 16 = bl_61_16 := by unfold jmp codeOf; rw [md_61]; rfl
theorem jm_61_17 : jmp 61 17 = bl_61_17 := by unfold jmp codeOf; rw [md_61]; rfl
theorem jm_62_25 : jmp 62 25 = bl_62_25 := by unfold jmp codeOf; rw [md_62]; rfl
theorem jm_62_27 : jmp 62 27 = bl_62_27 := by unfold jmp codeOf; rw [md_62]; rfl
theorem jm_62_29 : jmp 62 29 = bl_62_29 := by unfold jmp codeOf; rw [md_62]; rfl
theorem jm_62_53 : jmp 62 53 = bl_62_53 := by unfold jmp codeOf; rw [md_62]; rfl
theorem jm_62_59 : jmp 62 59 = bl_62_59 := by unfold jmp codeOf; rw [md_62]; rfl
theorem jm_63_2 : jmp 63 2 = bl_63_2 := by unfold jmp codeOf; rw [md_63]; rfl
theorem jm_63_49 : jmp 63 49 = bl_63_49 := by unfold jmp codeOf; rw [md_63]; rfl
theorem jm_63_55 : jmp 63 55 = bl_63_55 := by unfold jmp codeOf; rw [md_63]; rfl
theorem jm_64_29 : jmp 64 29 = bl_64_29 := by unfold jmp codeOf; rw [md_64]; rfl
theorem jm_64_30 : jmp 64 30 = bl_64_30 := by unfold jmp codeOf; rw [md_64]; rfl
theorem jm_65_2 : jmp 65 2 = bl_65_2 := by unfold jmp codeOf; rw [md_65]; rfl
theorem jm_65_29 : jmp 65 29 = bl_65_29 := by unfold jmp codeOf; rw [md_65]; rfl
theorem jm_66_16 : jmp 66 16 = bl_66_16 := by unfold jmp codeOf; rw [md_66]; rfl
theorem jm_66_17 : jmp 66 17 = bl_66_17 := by unfold jmp codeOf; rw [md_66]; rfl
theorem jm_67_17 : jmp 67 17 = bl_67_17 := by unfold jmp codeOf; rw [md_67]; rfl
theorem jm_67_45 : jmp 67 45 = bl_67_45 := by unfold jmp codeOf; rw [md_67]; rfl
theorem jm_67_46 : jmp 67 46 = bl_67_46 := by unfold jmp codeOf; rw [md_67]; rfl
theorem jm_67_88 : jmp 67 88 = bl_67_88 := by unfold jmp codeOf; rw [md_67]; rfl
theorem jm_67_101 : jmp 67 101 = bl_67_101 := by unfold jmp codeOf; rw [md_67]; rfl
theorem jm_67_116 : jmp 67 116 = bl_67_116 := by unfold jmp codeOf; rw [md_67]; rfl
theorem jm_67_146 : jmp 67 146 = bl_67_146 := by unfold jmp codeOf; rw [md_67]; rfl
theorem jm_67_149 : jmp 67 149 = bl_67_149 := by unfold jmp codeOf; rw [md_67]; rfl
theorem jm_67_160 : jmp 67 160 = bl_67_160 := by unfold jmp codeOf; rw [md_67]; rfl
theorem jm_67_175 : jmp 67 175 = bl_67_175 := by unfold jmp codeOf; rw [md_67]; rfl
theorem jm_67_181 : jmp 67 181 = bl_67_181 := by unfold jmp codeOf; rw [md_67]; rfl
theorem jm_68_10 : jmp 68 10 = bl_68_10 := by unfold jmp codeOf; rw [md_68]; rfl
theorem jm_68_11 : jmp 68 11 = bl_68_11 := by unfold jmp codeOf; rw [md_68]; rfl
theorem jm_68_25 : jmp 68 25 = bl_68_25 := by unfold jmp codeOf; rw [md_68]; rfl
theorem jm_68_60 : jmp 68 60 = bl_68_60 := by unfold jmp codeOf; rw [md_68]; rfl
theorem jm_68_66 : jmp 68 66 = bl_68_66 := by unfold jmp codeOf; rw [md_68]; rfl
theorem jm_69_12 : jmp 69 12 = bl_69_12 := by unfold jmp codeOf; rw [md_69]; rfl
theorem jm_69_17 : jmp 69 17 = bl_69_17 := by unfold jmp codeOf; rw [md_69]; rfl
theorem jm_70_37 : jmp 70 37 = bl_70_37 := by unfold jmp codeOf; rw [md_70]; rfl
theorem jm_71_2 : jmp 71 2 = bl_71_2 := by unfold jmp codeOf; rw [md_71]; rfl
theorem jm_71_22 : jmp 71 22 = bl_71_22 := by unfold jmp codeOf; rw [md_71]; rfl
theorem jm_71_28 : jmp 71 28 = bl_71_28 := by unfold jmp codeOf; rw [md_71]; rfl
theorem jm_72_11 : jmp 72 11 = bl_72_11 := by unfold jmp codeOf; rw [md_72]; rfl
theorem jm_72_23 : jmp 72 23 = bl_72_23 := by unfold jmp codeOf; rw [md_72]; rfl
theorem jm_72_51 : jmp 72 51 = bl_72_51 := by unfold jmp codeOf; rw [md_72]; rfl
theorem jm_73_10 : jmp 73 10 = bl_73_10 := by unfold jmp codeOf; rw [md_73]; rfl
theorem jm_73_31 : jmp 73 31 = bl_73_31 := by unfold jmp codeOf; rw [md_73]; rfl
theorem jm_73_37 : jmp 73 37 = bl_73_37 := by unfold jmp codeOf; rw [md_73]; rfl
theorem jm_74_18 : jmp 74 18 = bl_74_18 := by unfold jmp codeOf; rw [md_74]; rfl
theorem jm_74_44 : jmp 74 44 = bl_74_44 := by unfold jmp codeOf; rw [md_74]; rfl
theorem jm_74_64 : jmp 74 64 = bl_74_64 := by unfold jmp codeOf; rw [md_74]; rfl
theorem jm_74_92 : jmp 74 92 = bl_74_92 := by unfold jmp codeOf; rw [md_74]; rfl
theorem jm_75_109 : jmp 75 109 = bl_75_109 := by unfold jmp codeOf; rw [md_75]; rfl
theorem jm_75_139 : jmp 75 139 = bl_75_139 := by unfold jmp codeOf; rw [md_75]; rfl
theorem jm_75_141 : jmp 75 141 = bl_75_141 := by unfold jmp codeOf; rw [md_75]; rfl
theorem jm_75_171 : jmp 75 171 = bl_75_171 := by unfold jmp codeOf; rw [md_75]; rfl
theorem jm_75_173 : jmp 75 173 = bl_75_173 := by unfold jmp codeOf; rw [md_75]; rfl
theorem jm_75_202 : jmp 75 202 = bl_75_202 := by unfold jmp codeOf; rw [md_75]; rfl
theorem jm_76_2 : jmp 76 2 = bl_76_2 := by unfold jmp codeOf; rw [md_76]; rfl
theorem jm_76_42 : jmp 76 42 = bl_76_42 := by unfold jmp codeOf; rw [md_76]; rfl
theorem jm_79_104 : jmp 79 104 = bl_79_104 := by unfold jmp codeOf; rw [md_79]; rfl
theorem jm_79_112 : jmp 79 112 = bl_79_112 := by unfold jmp codeOf; rw [md_79]; rfl
theorem jm_79_121 : jmp 79 121 = bl_79_121 := by unfold jmp codeOf; rw [md_79]; rfl
theorem jm_79_123 : jmp 79 123 = bl_79_123 := by unfold jmp codeOf; rw [md_79]; rfl
theorem jm_79_153 : jmp 79 153 = bl_79_153 := by unfold jmp codeOf; rw [md_79]; rfl
theorem jm_79_156 : jmp 79 156 = bl_79_156 := by unfold jmp codeOf; rw [md_79]; rfl
theorem jm_79_175 : jmp 79 175 = bl_79_175 := by unfold jmp codeOf; rw [md_79]; rfl
theorem jm_79_192 : jmp 79 192 = bl_79_192 := by unfold jmp codeOf; rw [md_79]; rfl
theorem jm_79_201 : jmp 79 201 = bl_79_201 := by unfold jmp codeOf; rw [md_79]; rfl
theorem jm_79_210 : jmp 79 210 = bl_79_210 := by unfold jmp codeOf; rw [md_79]; rfl
theorem jm_79_229 : jmp 79 229 = bl_79_229 := by unfold jmp codeOf; rw [md_79]; rfl
theorem jm_79_238 : jmp 79 238 = bl_79_238 := by unfold jmp codeOf; rw [md_79]; rfl
theorem jm_79_255 : jmp 79 255 = bl_79_255 := by unfold jmp codeOf; rw [md_79]; rfl
theorem jm_79_261 : jmp 79 261 = bl_79_261 := by unfold jmp codeOf; rw [md_79]; rfl
theorem jm_80_15 : jmp 80 15 = bl_80_15 := by unfold jmp codeOf; rw [md_80]; rfl
theorem jm_80_29 : jmp 80 29 = bl_80_29 := by unfold jmp codeOf; rw [md_80]; rfl
theorem jm_80_44 : jmp 80 44 = bl_80_44 := by unfold jmp codeOf; rw [md_80]; rfl
theorem jm_80_56 : jmp 80 56 = bl_80_56 := by unfold jmp codeOf; rw [md_80]; rfl
theorem jm_80_66 : jmp 80 66 = bl_80_66 := by unfold jmp codeOf; rw [md_80]; rfl
theorem jm_80_84 : jmp 80 84 = bl_80_84 := by unfold jmp codeOf; rw [md_80]; rfl
theorem jm_80_119 : jmp 80 119 = bl_80_119 := by unfold jmp codeOf; rw [md_80]; rfl
theorem jm_80_135 : jmp 80 135 = bl_80_135 := by unfold jmp codeOf; rw [md_80]; rfl
theorem jm_80_141 : jmp 80 141 = bl_80_141 := by unfold jmp codeOf; rw [md_80]; rfl
theorem jm_80_147 : jmp 80 147 = bl_80_147 := by unfold jmp codeOf; rw [md_80]; rfl
theorem jm_81_36 : jmp 81 36 = bl_81_36 := by unfold jmp codeOf; rw [md_81]; rfl
theorem jm_81_88 : jmp 81 88 = bl_81_88 := by unfold jmp codeOf; rw [md_81]; rfl
theorem jm_81_98 : jmp 81 98 = bl_81_98 := by unfold jmp codeOf; rw [md_81]; rfl
theorem jm_81_124 : jmp 81 124 = bl_81_124 := by unfold jmp codeOf; rw [md_81]; rfl
theorem jm_81_143 : jmp 81 143 = bl_81_143 := by unfold jmp codeOf; rw [md_81]; rfl
theorem jm_81_147 : jmp 81 147 = bl_81_147 := by unfold jmp codeOf; rw [md_81]; rfl
theorem jm_81_179 : jmp 81 179 = bl_81_179 := by unfold jmp codeOf; rw [md_81]; rfl
theorem jm_82_36 : jmp 82 36 = bl_82_36 := by unfold jmp codeOf; rw [md_82]; rfl
theorem jm_82_37 : jmp 82 37 = bl_82_37 := by unfold jmp codeOf; rw [md_82]; rfl
theorem jm_84_17 : jmp 84 17 = bl_84_17 := by unfold jmp codeOf; rw [md_84]; rfl
theorem jm_84_54 : jmp 84 54 = bl_84_54 := by unfold jmp codeOf; rw [md_84]; rfl
theorem jm_84_64 : jmp 84 64 = bl_84_64 := by unfold jmp codeOf; rw [md_84]; rfl
theorem jm_85_15 : jmp 85 15 = bl_85_15 := by unfold jmp codeOf; rw [md_85]; rfl
theorem jm_86_15 : jmp 86 15 = bl_86_15 := by unfold jmp codeOf; rw [md_86]; rfl
theorem jm_86_26 : jmp 86 26 = bl_86_26 := by unfold jmp codeOf; rw [md_86]; rfl
theorem jm_87_4 : jmp 87 4 = bl_87_4 := by unfold jmp codeOf; rw [md_87]; rfl
theorem jm_87_25 : jmp 87 25 = bl_87_25 := by unfold jmp codeOf; rw [md_87]; rfl
theorem jm_87_31 : jmp 87 31 = bl_87_31 := by unfold jmp codeOf; rw [md_87]; rfl
theorem jm_88_29 : jmp 88 29 = bl_88_29 := by unfold jmp codeOf; rw [md_88]; rfl
theorem jm_88_42 : jmp 88 42 = bl_88_42 := by unfold jmp codeOf; rw [md_88]; rfl
theorem jm_88_43 : jmp 88 43 = bl_88_43 := by unfold jmp codeOf; rw [md_88]; rfl
theorem jm_89_23 : jmp 89 23 = bl_89_23 := by unfold jmp codeOf; rw [md_89]; rfl
theorem jm_89_40 : jmp 89 40 = bl_89_40 := by unfold jmp codeOf; rw [md_89]; rfl
theorem jm_90_21 : jmp 90 21 = bl_90_21 := by unfold jmp codeOf; rw [md_90]; rfl
theorem jm_90_69 : jmp 90 69 = bl_90_69 := by unfold jmp codeOf; rw [md_90]; rfl
theorem jm_90_84 : jmp 90 84 = bl_90_84 := by unfold jmp codeOf; rw [md_90]; rfl
theorem jm_90_112 : jmp 90 112 = bl_90_112 := by unfold jmp codeOf; rw [md_90]; rfl
theorem jm_90_118 : jmp 90 118 = bl_90_118 := by unfold jmp codeOf; rw [md_90]; rfl
theorem jm_92_17 : jmp 92 17 = bl_92_17 := by unfold jmp codeOf; rw [md_92]; rfl
theorem jm_92_18 : jmp 92 18 = bl_92_18 := by unfold jmp codeOf; rw [md_92]; rfl
theorem jm_93_15 : jmp 93 15 = bl_93_15 := by unfold jmp codeOf; rw [md_93]; rfl
theorem jm_93_40 : jmp 93 40 = bl_93_40 := by unfold jmp codeOf; rw [md_93]; rfl
theorem jm_93_42 : jmp 93 42 = bl_93_42 := by unfold jmp codeOf; rw [md_93]; rfl
theorem jm_93_66 : jmp 93 66 = bl_93_66 := by unfold jmp codeOf; rw [md_93]; rfl
theorem jm_93_68 : jmp 93 68 = bl_93_68 := by unfold jmp codeOf; rw [md_93]; rfl
theorem jm_93_114 : jmp 93 114 = bl_93_114 := by unfold jmp codeOf; rw [md_93]; rfl
theorem jm_93_120 : jmp 93 120 = bl_93_120 := by unfold jmp codeOf; rw [md_93]; rfl
theorem jm_93_122 : jmp 93 122 = bl_93_122 := by unfold jmp codeOf; rw [md_93]; rfl
theorem jm_93_147 : jmp 93 147 = bl_93_147 := by unfold jmp codeOf; rw [md_93]; rfl
theorem jm_93_181 : jmp 93 181 = bl_93_181 := by unfold jmp codeOf; rw [md_93]; rfl
theorem jm_93_187 : jmp 93 187 = bl_93_187 := by unfold jmp codeOf; rw [md_93]; rfl
theorem jm_94_2 : jmp 94 2 = bl_94_2 := by unfold jmp codeOf; rw [md_94]; rfl
theorem jm_94_23 : jmp 94 23 = bl_94_23 := by unfold jmp codeOf; rw [md_94]; rfl
theorem jm_95_32 : jmp 95 32 = bl_95_32 := by unfold jmp codeOf; rw [md_95]; rfl
theorem jm_95_48 : jmp 95 48 = bl_95_48 := by unfold jmp codeOf; rw [md_95]; rfl
theorem jm_95_50 : jmp 95 50 = bl_95_50 := by unfold jmp codeOf; rw [md_95]; rfl
theorem jm_95_93 : jmp 95 93 = bl_95_93 := by unfold jmp codeOf; rw [md_95]; rfl
theorem jm_95_96 : jmp 95 96 = bl_95_96 := by unfold jmp codeOf; rw [md_95]; rfl
theorem jm_95_117 : jmp 95 117 = bl_95_117 := by unfold jmp codeOf; rw [md_95]; rfl
theorem jm_95_118 : jmp 95 118 = bl_95_118 := by unfold jmp codeOf; rw [md_95]; rfl
theorem jm_95_119 : jmp 95 119 = bl_95_119 := by unfold jmp codeOf; rw [md_95]; rfl
theorem jm_96_2 : jmp 96 2 = bl_96_2 := by unfold jmp codeOf; rw [md_96]; rfl
theorem jm_96_30 : jmp 96 30 = bl_96_30 := by unfold jmp codeOf; rw [md_96]; rfl
theorem jm_97_23 : jmp 97 23 = bl_97_23 := by unfold jmp codeOf; rw [md_97]; rfl
theorem jm_97_33 : jmp 97 33 = bl_97_33 := by unfold jmp codeOf; rw [md_97]; rfl
theorem jm_99_64 : jmp 99 64 = bl_99_64 := by unfold jmp codeOf; rw [md_99]; rfl
theorem jm_99_74 : jmp 99 74 = bl_99_74 := by unfold jmp codeOf; rw [md_99]; rfl
theorem jm_99_83 : jmp 99 83 = bl_99_83 := by unfold jmp codeOf; rw [md_99]; rfl
theorem jm_99_90 : jmp 99 90 = bl_99_90 := by unfold jmp codeOf; rw [md_99]; rfl
theorem jm_99_98 : jmp 99 98 = bl_99_98 := by unfold jmp codeOf; rw [md_99]; rfl
theorem jm_99_113 : jmp 99 113 = bl_99_113 := by unfold jmp codeOf; rw [md_99]; rfl
theorem jm_99_128 : jmp 99 128 = bl_99_128 := by unfold jmp codeOf; rw [md_99]; rfl
theorem jm_99_143 : jmp 99 143 = bl_99_143 := by unfold jmp codeOf; rw [md_99]; rfl
theorem jm_99_154 : jmp 99 154 = bl_99_154 := by unfold jmp codeOf; rw [md_99]; rfl
theorem jm_99_165 : jmp 99 165 = bl_99_165 := by unfold jmp codeOf; rw [md_99]; rfl
theorem jm_99_179 : jmp 99 179 = bl_99_179 := by unfold jmp codeOf; rw [md_99]; rfl
theorem jm_99_187 : jmp 99 187 = bl_99_187 := by unfold jmp codeOf; rw [md_99]; rfl
theorem jm_100_30 : jmp 100 30 = bl_100_30 := by unfold jmp codeOf; rw [md_100]; rfl
theorem jm_100_59 : jmp 100 59 = bl_100_59 := by unfold jmp codeOf; rw [md_100]; rfl
theorem jm_101_29 : jmp 101 29 = bl_101_29 := by unfold jmp codeOf; rw [md_101]; rfl
theorem jm_101_40 : jmp 101 40 = bl_101_40 := by unfold jmp codeOf; rw [md_101]; rfl
theorem jm_101_56 : jmp 101 56 = bl_101_56 := by unfold jmp codeOf; rw [md_101]; rfl
theorem jm_101_84 : jmp 101 84 = bl_101_84 := by unfold jmp codeOf; rw [md_101]; rfl
theorem jm_103_12 : jmp 103 12 = bl_103_12 := by unfold jmp codeOf; rw [md_103]; rfl
theorem jm_103_38 : jmp 103 38 = bl_103_38 := by unfold jmp codeOf; rw [md_103]; rfl
theorem jm_103_39 : jmp 103 39 = bl_103_39 := by unfold jmp codeOf; rw [md_103]; rfl
theorem jm_103_44 : jmp 103 44 = bl_103_44 := by unfold jmp codeOf; rw [md_103]; rfl
theorem jm_103_80 : jmp 103 80 = bl_103_80 := by unfold jmp codeOf; rw [md_103]; rfl
theorem jm_103_105 : jmp 103 105 = bl_103_105 := by unfold jmp codeOf; rw [md_103]; rfl
theorem jm_103_111 : jmp 103 111 = bl_103_111 := by unfold jmp codeOf; rw [md_103]; rfl
theorem jm_104_50 : jmp 104 50 = bl_104_50 := by unfold jmp codeOf; rw [md_104]; rfl
theorem jm_104_52 : jmp 104 52 = bl_104_52 := by unfold jmp codeOf; rw [md_104]; rfl
theorem jm_104_53 : jmp 104 53 = bl_104_53 := by unfold jmp codeOf; rw [md_104]; rfl
theorem jm_105_17 : jmp 105 17 = bl_105_17 := by unfold jmp codeOf; rw [md_105]; rfl
theorem jm_105_68 : jmp 105 68 = bl_105_68 := by unfold jmp codeOf; rw [md_105]; rfl
theorem jm_105_69 : jmp 105 69 = bl_105_69 := by unfold jmp codeOf; rw [md_105]; rfl
theorem jm_105_84 : jmp 105 84 = bl_105_84 := by unfold jmp codeOf; rw [md_105]; rfl
theorem jm_105_90 : jmp 105 90 = bl_105_90 := by unfold jmp codeOf; rw [md_105]; rfl
theorem jm_106_21 : jmp 106 21 = bl_106_21 := by unfold jmp codeOf; rw [md_106]; rfl
theorem jm_106_40 : jmp 106 40 = bl_106_40 := by unfold jmp codeOf; rw [md_106]; rfl
theorem jm_107_11 : jmp 107 11 = bl_107_11 := by unfold jmp codeOf; rw [md_107]; rfl
theorem jm_107_39 : jmp 107 39 = bl_107_39 := by unfold jmp codeOf; rw [md_107]; rfl
theorem jm_108_63 : jmp 108 63 = bl_108_63 := by unfold jmp codeOf; rw [md_108]; rfl
theorem jm_109_5 : jmp 109 5 = bl_109_5 := by unfold jmp codeOf; rw [md_109]; rfl
theorem jm_109_20 : jmp 109 20 = bl_109_20 := by unfold jmp codeOf; rw [md_109]; rfl
theorem jm_109_46 : jmp 109 46 = bl_109_46 := by unfold jmp codeOf; rw [md_109]; rfl
theorem jm_109_52 : jmp 109 52 = bl_109_52 := by unfold jmp codeOf; rw [md_109]; rfl
theorem jm_110_6 : jmp 110 6 = bl_110_6 := by unfold jmp codeOf; rw [md_110]; rfl
theorem jm_110_21 : jmp 110 21 = bl_110_21 := by unfold jmp codeOf; rw [md_110]; rfl
theorem jm_110_47 : jmp 110 47 = bl_110_47 := by unfold jmp codeOf; rw [md_110]; rfl
theorem jm_110_53 : jmp 110 53 = bl_110_53 := by unfold jmp codeOf; rw [md_110]; rfl
theorem jm_111_2 : jmp 111 2 = bl_111_2 := by unfold jmp codeOf; rw [md_111]; rfl
theorem jm_111_45 : jmp 111 45 = bl_111_45 := by unfold jmp codeOf; rw [md_111]; rfl
theorem jm_111_51 : jmp 111 51 = bl_111_51 := by unfold jmp codeOf; rw [md_111]; rfl
theorem jm_113_14 : jmp 113 14 = bl_113_14 := by unfold jmp codeOf; rw [md_113]; rfl
theorem jm_113_22 : jmp 113 22 = bl_113_22 := by unfold jmp codeOf; rw [md_113]; rfl
theorem jm_113_77 : jmp 113 77 = bl_113_77 := by unfold jmp codeOf; rw [md_113]; rfl
theorem jm_113_83 : jmp 113 83 = bl_113_83 := by unfold jmp codeOf; rw [md_113]; rfl
theorem jm_113_89 : jmp 113 89 = bl_113_89 := by unfold jmp codeOf; rw [md_113]; rfl
theorem jm_114_9 : jmp 114 9 = bl_114_9 := by unfold jmp codeOf; rw [md_114]; rfl
theorem jm_114_21 : jmp 114 21 = bl_114_21 := by unfold jmp codeOf; rw [md_114]; rfl
theorem jm_114_22 : jmp 114 22 = bl_114_22 := by unfold jmp codeOf; rw [md_114]; rfl
theorem jm_115_21 : jmp 115 21 = bl_115_21 := by unfold jmp codeOf; rw [md_115]; rfl
theorem jm_115_23 : jmp 115 23 = bl_115_23 := by unfold jmp codeOf; rw [md_115]; rfl
theorem jm_116_19 : jmp 116 19 = bl_116_19 := by unfold jmp codeOf; rw [md_116]; rfl
theorem jm_117_17 : jmp 117 17 = bl_117_17 := by unfold jmp codeOf; rw [md_117]; rfl
theorem jm_117_48 : jmp 117 48 = bl_117_48 := by unfold jmp codeOf; rw [md_117]; rfl
theorem jm_117_54 : jmp 117 54 = bl_117_54 := by unfold jmp codeOf; rw [md_117]; rfl
theorem jm_117_56 : jmp 117 56 = bl_117_56 := by unfold jmp codeOf; rw [md_117]; rfl
theorem jm_117_107 : jmp 117 107 = bl_117_107 := by unfold jmp codeOf; rw [md_117]; rfl
theorem jm_117_113 : jmp 117 113 = bl_117_113 := by unfold jmp codeOf; rw [md_117]; rfl
theorem jm_117_115 : jmp 117 115 = bl_117_115 := by unfold jmp codeOf; rw [md_117]; rfl
theorem jm_117_141 : jmp 117 141 = bl_117_141 := by unfold jmp codeOf; rw [md_117]; rfl
theorem jm_117_147 : jmp 117 147 = bl_117_147 := by unfold jmp codeOf; rw [md_117]; rfl
theorem jm_117_149 : jmp 117 149 = bl_117_149 := by unfold jmp codeOf; rw [md_117]; rfl
theorem jm_117_166 : jmp 117 166 = bl_117_166 := by unfold jmp codeOf; rw [md_117]; rfl
theorem jm_117_168 : jmp 117 168 = bl_117_168 := by unfold jmp codeOf; rw [md_117]; rfl
theorem jm_117_202 : jmp 117 202 = bl_117_202 := by unfold jmp codeOf; rw [md_117]; rfl
theorem jm_117_208 : jmp 117 208 = bl_117_208 := by unfold jmp codeOf; rw [md_117]; rfl
theorem jm_117_210 : jmp 117 210 = bl_117_210 := by unfold jmp codeOf; rw [md_117]; rfl
theorem jm_117_240 : jmp 117 240 = bl_117_240 := by unfold jmp codeOf; rw [md_117]; rfl
theorem jm_118_41 : jmp 118 41 = bl_118_41 := by unfold jmp codeOf; rw [md_118]; rfl
theorem jm_118_56 : jmp 118 56 = bl_118_56 := by unfold jmp codeOf; rw [md_118]; rfl
theorem jm_118_69 : jmp 118 69 = bl_118_69 := by unfold jmp codeOf; rw [md_118]; rfl
theorem jm_118_82 : jmp 118 82 = bl_118_82 := by unfold jmp codeOf; rw [md_118]; rfl
theorem jm_120_15 : jmp 120 15 = bl_120_15 := by unfold jmp codeOf; rw [md_120]; rfl
theorem jm_120_39 : jmp 120 39 = bl_120_39 := by unfold jmp codeOf; rw [md_120]; rfl
theorem jm_121_13 : jmp 121 13 = bl_121_13 := by unfold jmp codeOf; rw [md_121]; rfl
theorem jm_122_16 : jmp 122 16 = bl_122_16 := by unfold jmp codeOf; rw [md_122]; rfl
theorem jm_123_10 : jmp 123 10 = bl_123_10 := by unfold jmp codeOf; rw [md_123]; rfl
theorem jm_123_36 : jmp 123 36 = bl_123_36 := by unfold jmp codeOf; rw [md_123]; rfl
theorem jm_123_47 : jmp 123 47 = bl_123_47 := by unfold jmp codeOf; rw [md_123]; rfl
theorem jm_123_55 : jmp 123 55 = bl_123_55 := by unfold jmp codeOf; rw [md_123]; rfl
theorem jm_127_2 : jmp 127 2 = bl_127_2 := by unfold jmp codeOf; rw [md_127]; rfl
theorem jm_127_20 : jmp 127 20 = bl_127_20 := by unfold jmp codeOf; rw [md_127]; rfl
theorem jm_127_36 : jmp 127 36 = bl_127_36 := by unfold jmp codeOf; rw [md_127]; rfl
theorem jm_128_15 : jmp 128 15 = bl_128_15 := by unfold jmp codeOf; rw [md_128]; rfl
theorem jm_128_55 : jmp 128 55 = bl_128_55 := by unfold jmp codeOf; rw [md_128]; rfl
theorem jm_128_61 : jmp 128 61 = bl_128_61 := by unfold jmp codeOf; rw [md_128]; rfl
theorem jm_129_30 : jmp 129 30 = bl_129_30 := by unfold jmp codeOf; rw [md_129]; rfl
theorem jm_129_32 : jmp 129 32 = bl_129_32 := by unfold jmp codeOf; rw [md_129]; rfl
theorem jm_129_92 : jmp 129 92 = bl_129_92 := by unfold jmp codeOf; rw [md_129]; rfl
theorem jm_129_98 : jmp 129 98 = bl_129_98 := by unfold jmp codeOf; rw [md_129]; rfl
theorem jm_131_12 : jmp 131 12 = bl_131_12 := by unfold jmp codeOf; rw [md_131]; rfl
theorem jm_131_33 : jmp 131 33 = bl_131_33 := by unfold jmp codeOf; rw [md_131]; rfl
theorem jm_131_34 : jmp 131 34 = bl_131_34 := by unfold jmp codeOf; rw [md_131]; rfl
theorem jm_131_51 : jmp 131 51 = bl_131_51 := by unfold jmp codeOf; rw [md_131]; rfl
theorem jm_131_57 : jmp 131 57 = bl_131_57 := by unfold jmp codeOf; rw [md_131]; rfl
theorem jm_131_72 : jmp 131 72 = bl_131_72 := by unfold jmp codeOf; rw [md_131]; rfl
theorem jm_131_88 : jmp 131 88 = bl_131_88 := by unfold jmp codeOf; rw [md_131]; rfl
theorem jm_131_109 : jmp 131 109 = bl_131_109 := by unfold jmp codeOf; rw [md_131]; rfl
theorem jm_132_5 : jmp 132 5 = bl_132_5 := by unfold jmp codeOf; rw [md_132]; rfl
theorem jm_132_39 : jmp 132 39 = bl_132_39 := by unfold jmp codeOf; rw [md_132]; rfl
theorem jm_132_71 : jmp 132 71 = bl_132_71 := by unfold jmp codeOf; rw [md_132]; rfl
theorem jm_132_77 : jmp 132 77 = bl_132_77 := by unfold jmp codeOf; rw [md_132]; rfl
theorem jm_132_83 : jmp 132 83 = bl_132_83 := by unfold jmp codeOf; rw [md_132]; rfl
theorem jm_132_91 : jmp 132 91 = bl_132_91 := by unfold jmp codeOf; rw [md_132]; rfl
theorem jm_133_2 : jmp 133 2 = bl_133_2 := by unfold jmp codeOf; rw [md_133]; rfl
theorem jm_133_52 : jmp 133 52 = bl_133_52 := by unfold jmp codeOf; rw [md_133]; rfl
theorem jm_133_58 : jmp 133 58 = bl_133_58 := by unfold jmp codeOf; rw [md_133]; rfl
theorem jm_133_60 : jmp 133 60 = bl_133_60 := by unfold jmp codeOf; rw [md_133]; rfl
theorem jm_133_130 : jmp 133 130 = bl_133_130 := by unfold jmp codeOf; rw [md_133]; rfl
theorem jm_133_136 : jmp 133 136 = bl_133_136 := by unfold jmp codeOf; rw [md_133]; rfl
theorem jm_134_25 : jmp 134 25 = bl_134_25 := by unfold jmp codeOf; rw [md_134]; rfl
theorem jm_134_26 : jmp 134 26 = bl_134_26 := by unfold jmp codeOf; rw [md_134]; rfl
theorem jm_135_28 : jmp 135 28 = bl_135_28 := by unfold jmp codeOf; rw [md_135]; rfl
theorem jm_135_29 : jmp 135 29 = bl_135_29 := by unfold jmp codeOf; rw [md_135]; rfl
theorem jm_136_40 : jmp 136 40 = bl_136_40 := by unfold jmp codeOf; rw [md_136]; rfl
theorem jm_136_48 : jmp 136 48 = bl_136_48 := by unfold jmp codeOf; rw [md_136]; rfl
theorem jm_136_55 : jmp 136 55 = bl_136_55 := by unfold jmp codeOf; rw [md_136]; rfl
theorem jm_136_82 : jmp 136 82 = bl_136_82 := by unfold jmp codeOf; rw [md_136]; rfl
theorem jm_136_83 : jmp 136 83 = bl_136_83 := by unfold jmp codeOf; rw [md_136]; rfl
theorem jm_137_15 : jmp 137 15 = bl_137_15 := by unfold jmp codeOf; rw [md_137]; rfl
theorem jm_137_17 : jmp 137 17 = bl_137_17 := by unfold jmp codeOf; rw [md_137]; rfl
theorem jm_138_29 : jmp 138 29 = bl_138_29 := by unfold jmp codeOf; rw [md_138]; rfl
theorem jm_138_67 : jmp 138 67 = bl_138_67 := by unfold jmp codeOf; rw [md_138]; rfl
theorem jm_138_68 : jmp 138 68 = bl_138_68 := by unfold jmp codeOf; rw [md_138]; rfl
theorem jm_138_73 : jmp 138 73 = bl_138_73 := by unfold jmp codeOf; rw [md_138]; rfl
theorem jm_138_110 : jmp 138 110 = bl_138_110 := by unfold jmp codeOf; rw [md_138]; rfl
theorem jm_138_114 : jmp 138 114 = bl_138_114 := by unfold jmp codeOf; rw [md_138]; rfl
theorem jm_138_115 : jmp 138 115 = bl_138_115 := by unfold jmp codeOf; rw [md_138]; rfl
theorem jm_138_149 : jmp 138 149 = bl_138_149 := by unfold jmp codeOf; rw [md_138]; rfl
theorem jm_138_150 : jmp 138 150 = bl_138_150 := by unfold jmp codeOf; rw [md_138]; rfl
theorem jm_138_153 : jmp 138 153 = bl_138_153 := by unfold jmp codeOf; rw [md_138]; rfl
theorem jm_138_159 : jmp 138 159 = bl_138_159 := by unfold jmp codeOf; rw [md_138]; rfl
theorem jm_138_165 : jmp 138 165 = bl_138_165 := by unfold jmp codeOf; rw [md_138]; rfl
theorem jm_139_36 : jmp 139 36 = bl_139_36 := by unfold jmp codeOf; rw [md_139]; rfl
theorem jm_139_37 : jmp 139 37 = bl_139_37 := by unfold jmp codeOf; rw [md_139]; rfl
theorem jm_139_77 : jmp 139 77 = bl_139_77 := by unfold jmp codeOf; rw [md_139]; rfl
theorem jm_139_78 : jmp 139 78 = bl_139_78 := by unfold jmp codeOf; rw [md_139]; rfl
theorem jm_139_80 : jmp 139 80 = bl_139_80 := by unfold jmp codeOf; rw [md_139]; rfl
theorem jm_140_2 : jmp 140 2 = bl_140_2 := by unfold jmp codeOf; rw [md_140]; rfl
theorem jm_140_25 : jmp 140 25 = bl_140_25 := by unfold jmp codeOf; rw [md_140]; rfl
theorem jm_140_69 : jmp 140 69 = bl_140_69 := by unfold jmp codeOf; rw [md_140]; rfl
theorem jm_140_70 : jmp 140 70 = bl_140_70 := by unfold jmp codeOf; rw [md_140]; rfl
theorem jm_140_83 : jmp 140 83 = bl_140_83 := by unfold jmp codeOf; rw [md_140]; rfl
theorem jm_141_41 : jmp 141 41 = bl_141_41 := by unfold jmp codeOf; rw [md_141]; rfl
theorem jm_141_42 : jmp 141 42 = bl_141_42 := by unfold jmp codeOf; rw [md_141]; rfl
theorem jm_142_29 : jmp 142 29 = bl_142_29 := by unfold jmp codeOf; rw [md_142]; rfl
theorem jm_142_31 : jmp 142 31 = bl_142_31 := by unfold jmp codeOf; rw [md_142]; rfl
theorem jm_144_11 : jmp 144 11 = bl_144_11 := by unfold jmp codeOf; rw [md_144]; rfl
theorem jm_144_14 : jmp 144 14 = bl_144_14 := by unfold jmp codeOf; rw [md_144]; rfl
theorem jm_144_16 : jmp 144 16 = bl_144_16 := by unfold jmp codeOf; rw [md_144]; rfl
theorem jm_144_41 : jmp 144 41 = bl_144_41 := by unfold jmp codeOf; rw [md_144]; rfl
theorem jm_145_12 : jmp 145 12 = bl_145_12 := by unfold jmp codeOf; rw [md_145]; rfl
theorem jm_145_60 : jmp 145 60 = bl_145_60 := by unfold jmp codeOf; rw [md_145]; rfl
theorem jm_145_66 : jmp 145 66 = bl_145_66 := by unfold jmp codeOf; rw [md_145]; rfl
theorem jm_145_87 : jmp 145 87 = bl_145_87 := by unfold jmp codeOf; rw [md_145]; rfl
theorem jm_146_2 : jmp 146 2 = bl_146_2 := by unfold jmp codeOf; rw [md_146]; rfl
theorem jm_146_59 : jmp 146 59 = bl_146_59 := by unfold jmp codeOf; rw [md_146]; rfl
theorem jm_146_65 : jmp 146 65 = bl_146_65 := by unfold jmp codeOf; rw [md_146]; rfl
theorem jm_147_34 : jmp 147 34 = bl_147_34 := by unfold jmp codeOf; rw [md_147]; rfl
theorem jm_147_44 : jmp 147 44 = bl_147_44 := by unfold jmp codeOf; rw [md_147]; rfl
theorem jm_147_68 : jmp 147 68 = bl_147_68 := by unfold jmp codeOf; rw [md_147]; rfl
theorem jm_147_71 : jmp 147 71 = bl_147_71 := by unfold jmp codeOf; rw [md_147]; rfl
theorem jm_147_137 : jmp 147 137 = bl_147_137 := by unfold jmp codeOf; rw [md_147]; rfl
theorem jm_147_143 : jmp 147 143 = bl_147_143 := by unfold jmp codeOf; rw [md_147]; rfl
theorem jm_148_4 : jmp 148 4 = bl_148_4 := by unfold jmp codeOf; rw [md_148]; rfl
theorem jm_148_63 : jmp 148 63 = bl_148_63 := by unfold jmp codeOf; rw [md_148]; rfl
theorem jm_148_69 : jmp 148 69 = bl_148_69 := by unfold jmp codeOf; rw [md_148]; rfl
theorem jm_149_15 : jmp 149 15 = bl_149_15 := by unfold jmp codeOf; rw [md_149]; rfl
theorem jm_149_21 : jmp 149 21 = bl_149_21 := by unfold jmp codeOf; rw [md_149]; rfl
theorem jm_150_29 : jmp 150 29 = bl_150_29 := by unfold jmp codeOf; rw [md_150]; rfl
theorem jm_150_31 : jmp 150 31 = bl_150_31 := by unfold jmp codeOf; rw [md_150]; rfl
theorem jm_150_100 : jmp 150 100 = bl_150_100 := by unfold jmp codeOf; rw [md_150]; rfl
theorem jm_150_127 : jmp 150 127 = bl_150_127 := by unfold jmp codeOf; rw [md_150]; rfl
theorem jm_150_135 : jmp 150 135 = bl_150_135 := by unfold jmp codeOf; rw [md_150]; rfl
theorem jm_150_141 : jmp 150 141 = bl_150_141 := by unfold jmp codeOf; rw [md_150]; rfl
theorem jm_150_156 : jmp 150 156 = bl_150_156 := by unfold jmp codeOf; rw [md_150]; rfl
theorem jm_150_157 : jmp 150 157 = bl_150_157 := by unfold jmp codeOf; rw [md_150]; rfl
theorem jm_151_12 : jmp 151 12 = bl_151_12 := by unfold jmp codeOf; rw [md_151]; rfl
theorem jm_151_22 : jmp 151 22 = bl_151_22 := by unfold jmp codeOf; rw [md_151]; rfl
theorem jm_152_14 : jmp 152 14 = bl_152_14 := by unfold jmp codeOf; rw [md_152]; rfl
theorem jm_152_15 : jmp 152 15 = bl_152_15 := by unfold jmp codeOf; rw [md_152]; rfl
theorem jm_153_15 : jmp 153 15 = bl_153_15 := by unfold jmp codeOf; rw [md_153]; rfl
theorem jm_153_16 : jmp 153 16 = bl_153_16 := by unfold jmp codeOf; rw [md_153]; rfl
theorem jm_154_12 : jmp 154 12 = bl_154_12 := by unfold jmp codeOf; rw [md_154]; rfl
theorem jm_154_28 : jmp 154 28 = bl_154_28 := by unfold jmp codeOf; rw [md_154]; rfl
theorem jm_154_29 : jmp 154 29 = bl_154_29 := by unfold jmp codeOf; rw [md_154]; rfl
theorem jm_155_10 : jmp 155 10 = bl_155_10 := by unfold jmp codeOf; rw [md_155]; rfl
theorem jm_157_11 : jmp 157 11 = bl_157_11 := by unfold jmp codeOf; rw [md_157]; rfl
theorem jm_157_27 : jmp 157 27 = bl_157_27 := by unfold jmp codeOf; rw [md_157]; rfl
theorem jm_157_28 : jmp 157 28 = bl_157_28 := by unfold jmp codeOf; rw [md_157]; rfl
theorem jm_158_21 : jmp 158 21 = bl_158_21 := by unfold jmp codeOf; rw [md_158]; rfl
theorem jm_158_23 : jmp 158 23 = bl_158_23 := by unfold jmp codeOf; rw [md_158]; rfl
theorem jm_159_23 : jmp 159 23 = bl_159_23 := by unfold jmp codeOf; rw [md_159]; rfl
theorem jm_159_38 : jmp 159 38 = bl_159_38 := by unfold jmp codeOf; rw [md_159]; rfl
theorem jm_159_113 : jmp 159 113 = bl_159_113 := by unfold jmp codeOf; rw [md_159]; rfl
theorem jm_159_143 : jmp 159 143 = bl_159_143 := by unfold jmp codeOf; rw [md_159]; rfl
theorem jm_159_149 : jmp 159 149 = bl_159_149 := by unfold jmp codeOf; rw [md_159]; rfl
theorem jm_160_60 : jmp 160 60 = bl_160_60 := by unfold jmp codeOf; rw [md_160]; rfl
theorem jm_160_66 : jmp 160 66 = bl_160_66 := by unfold jmp codeOf; rw [md_160]; rfl
theorem jm_160_79 : jmp 160 79 = bl_160_79 := by unfold jmp codeOf; rw [md_160]; rfl
theorem jm_160_80 : jmp 160 80 = bl_160_80 := by unfold jmp codeOf; rw [md_160]; rfl
theorem jm_160_101 : jmp 160 101 = bl_160_101 := by unfold jmp codeOf; rw [md_160]; rfl
theorem jm_160_103 : jmp 160 103 = bl_160_103 := by unfold jmp codeOf; rw [md_160]; rfl
theorem jm_160_104 : jmp 160 104 = bl_160_104 := by unfold jmp codeOf; rw [md_160]; rfl
theorem jm_160_117 : jmp 160 117 = bl_160_117 := by unfold jmp codeOf; rw [md_160]; rfl
theorem jm_160_118 : jmp 160 118 = bl_160_118 := by unfold jmp codeOf; rw [md_160]; rfl
theorem jm_160_122 : jmp 160 122 = bl_160_122 := by unfold jmp codeOf; rw [md_160]; rfl
theorem jm_160_134 : jmp 160 134 = bl_160_134 := by unfold jmp codeOf; rw [md_160]; rfl
theorem jm_160_141 : jmp 160 141 = bl_160_141 := by unfold jmp codeOf; rw [md_160]; rfl
theorem jm_160_142 : jmp 160 142 = bl_160_142 := by unfold jmp codeOf; rw [md_160]; rfl
theorem jm_160_149 : jmp 160 149 = bl_160_149 := by unfold jmp codeOf; rw [md_160]; rfl
theorem jm_160_178 : jmp 160 178 = bl_160_178 := by unfold jmp codeOf; rw [md_160]; rfl
theorem jm_160_179 : jmp 160 179 = bl_160_179 := by unfold jmp codeOf; rw [md_160]; rfl
theorem jm_160_201 : jmp 160 201 = bl_160_201 := by unfold jmp codeOf; rw [md_160]; rfl
theorem jm_160_203 : jmp 160 203 = bl_160_203 := by unfold jmp codeOf; rw [md_160]; rfl
theorem jm_161_18 : jmp 161 18 = bl_161_18 := by unfold jmp codeOf; rw [md_161]; rfl
theorem jm_161_64 : jmp 161 64 = bl_161_64 := by unfold jmp codeOf; rw [md_161]; rfl
theorem jm_161_70 : jmp 161 70 = bl_161_70 := by unfold jmp codeOf; rw [md_161]; rfl
theorem jm_161_79 : jmp 161 79 = bl_161_79 := by unfold jmp codeOf; rw [md_161]; rfl
theorem jm_161_148 : jmp 161 148 = bl_161_148 := by unfold jmp codeOf; rw [md_161]; rfl
theorem jm_161_159 : jmp 161 159 = bl_161_159 := by unfold jmp codeOf; rw [md_161]; rfl
theorem jm_161_165 : jmp 161 165 = bl_161_165 := by unfold jmp codeOf; rw [md_161]; rfl
theorem jm_161_166 : jmp 161 166 = bl_161_166 := by unfold jmp codeOf; rw [md_161]; rfl
theorem jm_161_179 : jmp 161 179 = bl_161_179 := by unfold jmp codeOf; rw [md_161]; rfl
theorem jm_161_180 : jmp 161 180 = bl_161_180 := by unfold jmp codeOf; rw [md_161]; rfl
theorem jm_161_181 : jmp 161 181 = bl_161_181 := by unfold jmp codeOf; rw [md_161]; rfl
theorem jm_162_28 : jmp 162 28 = bl_162_28 := by unfold jmp codeOf; rw [md_162]; rfl
theorem jm_162_36 : jmp 162 36 = bl_162_36 := by unfold jmp codeOf; rw [md_162]; rfl
theorem jm_162_48 : jmp 162 48 = bl_162_48 := by unfold jmp codeOf; rw [md_162]; rfl
theorem jm_162_58 : jmp 162 58 = bl_162_58 := by unfold jmp codeOf; rw [md_162]; rfl
theorem jm_162_59 : jmp 162 59 = bl_162_59 := by unfold jmp codeOf; rw [md_162]; rfl
theorem jm_162_60 : jmp 162 60 = bl_162_60 := by unfold jmp codeOf; rw [md_162]; rfl
theorem jm_163_20 : jmp 163 20 = bl_163_20 := by unfold jmp codeOf; rw [md_163]; rfl
theorem jm_163_23 : jmp 163 23 = bl_163_23 := by unfold jmp codeOf; rw [md_163]; rfl
theorem jm_164_23 : jmp 164 23 = bl_164_23 := by unfold jmp codeOf; rw [md_164]; rfl
theorem jm_164_24 : jmp 164 24 = bl_164_24 := by unfold jmp codeOf; rw [md_164]; rfl
theorem jm_165_31 : jmp 165 31 = bl_165_31 := by unfold jmp codeOf; rw [md_165]; rfl
theorem jm_165_33 : jmp 165 33 = bl_165_33 := by unfold jmp codeOf; rw [md_165]; rfl
theorem jm_166_19 : jmp 166 19 = bl_166_19 := by unfold jmp codeOf; rw [md_166]; rfl
theorem jm_166_22 : jmp 166 22 = bl_166_22 := by unfold jmp codeOf; rw [md_166]; rfl
theorem jm_167_19 : jmp 167 19 = bl_167_19 := by unfold jmp codeOf; rw [md_167]; rfl
theorem jm_167_22 : jmp 167 22 = bl_167_22 := by unfold jmp codeOf; rw [md_167]; rfl
theorem jm_167_53 : jmp 167 53 = bl_167_53 := by unfold jmp codeOf; rw [md_167]; rfl
theorem jm_167_66 : jmp 167 66 = bl_167_66 := by unfold jmp codeOf; rw [md_167]; rfl
theorem jm_168_23 : jmp 168 23 = bl_168_23 := by unfold jmp codeOf; rw [md_168]; rfl
theorem jm_168_26 : jmp 168 26 = bl_168_26 := by unfold jmp codeOf; rw [md_168]; rfl
theorem jm_169_24 : jmp 169 24 = bl_169_24 := by unfold jmp codeOf; rw [md_169]; rfl
theorem jm_169_26 : jmp 169 26 = bl_169_26 := by unfold jmp codeOf; rw [md_169]; rfl
theorem jm_170_15 : jmp 170 15 = bl_170_15 := by unfold jmp codeOf; rw [md_170]; rfl
theorem jm_170_17 : jmp 170 17 = bl_170_17 := by unfold jmp codeOf; rw [md_170]; rfl
theorem jm_170_76 : jmp 170 76 = bl_170_76 := by unfold jmp codeOf; rw [md_170]; rfl
theorem jm_170_81 : jmp 170 81 = bl_170_81 := by unfold jmp codeOf; rw [md_170]; rfl
theorem jm_170_90 : jmp 170 90 = bl_170_90 := by unfold jmp codeOf; rw [md_170]; rfl
theorem jm_170_98 : jmp 170 98 = bl_170_98 := by unfold jmp codeOf; rw [md_170]; rfl
theorem jm_170_105 : jmp 170 105 = bl_170_105 := by unfold jmp codeOf; rw [md_170]; rfl
theorem jm_171_30 : jmp 171 30 = bl_171_30 := by unfold jmp codeOf; rw [md_171]; rfl
theorem jm_171_32 : jmp 171 32 = bl_171_32 := by unfold jmp codeOf; rw [md_171]; rfl
theorem jm_171_50 : jmp 171 50 = bl_171_50 := by unfold jmp codeOf; rw [md_171]; rfl
theorem jm_171_61 : jmp 171 61 = bl_171_61 := by unfold jmp codeOf; rw [md_171]; rfl
theorem jm_172_25 : jmp 172 25 = bl_172_25 := by unfold jmp codeOf; rw [md_172]; rfl
theorem jm_172_26 : jmp 172 26 = bl_172_26 := by unfold jmp codeOf; rw [md_172]; rfl
theorem jm_173_21 : jmp 173 21 = bl_173_21 := by unfold jmp codeOf; rw [md_173]; rfl
theorem jm_173_22 : jmp 173 22 = bl_173_22 := by unfold jmp codeOf; rw [md_173]; rfl
theorem jm_174_23 : jmp 174 23 = bl_174_23 := by unfold jmp codeOf; rw [md_174]; rfl
theorem jm_174_24 : jmp 174 24 = bl_174_24 := by unfold jmp codeOf; rw [md_174]; rfl
theorem jm_174_43 : jmp 174 43 = bl_174_43 := by unfold jmp codeOf; rw [md_174]; rfl
theorem jm_174_44 : jmp 174 44 = bl_174_44 := by unfold jmp codeOf; rw [md_174]; rfl
theorem jm_175_32 : jmp 175 32 = bl_175_32 := by unfold jmp codeOf; rw [md_175]; rfl
theorem jm_175_33 : jmp 175 33 = bl_175_33 := by unfold jmp codeOf; rw [md_175]; rfl
theorem jm_176_21 : jmp 176 21 = bl_176_21 := by unfold jmp codeOf; rw [md_176]; rfl
theorem jm_176_23 : jmp 176 23 = bl_176_23 := by unfold jmp codeOf; rw [md_176]; rfl
theorem jm_177_22 : jmp 177 22 = bl_177_22 := by unfold jmp codeOf; rw [md_177]; rfl
theorem jm_177_23 : jmp 177 23 = bl_177_23 := by unfold jmp codeOf; rw [md_177]; rfl
theorem jm_178_32 : jmp 178 32 = bl_178_32 := by unfold jmp codeOf; rw [md_178]; rfl
theorem jm_178_33 : jmp 178 33 = bl_178_33 := by unfold jmp codeOf; rw [md_178]; rfl
theorem jm_179_12 : jmp 179 12 = bl_179_12 := by unfold jmp codeOf; rw [md_179]; rfl
theorem jm_179_14 : jmp 179 14 = bl_179_14 := by unfold jmp codeOf; rw [md_179]; rfl
theorem jm_179_33 : jmp 179 33 = bl_179_33 := by unfold jmp codeOf; rw [md_179]; rfl
theorem jm_179_48 : jmp 179 48 = bl_179_48 := by unfold jmp codeOf; rw [md_179]; rfl
theorem jm_180_56 : jmp 180 56 = bl_180_56 := by unfold jmp codeOf; rw [md_180]; rfl
theorem jm_180_64 : jmp 180 64 = bl_180_64 := by unfold jmp codeOf; rw [md_180]; rfl
theorem jm_180_72 : jmp 180 72 = bl_180_72 := by unfold jmp codeOf; rw [md_180]; rfl
theorem jm_180_80 : jmp 180 80 = bl_180_80 := by unfold jmp codeOf; rw [md_180]; rfl
theorem jm_180_88 : jmp 180 88 = bl_180_88 := by unfold jmp codeOf; rw [md_180]; rfl
theorem jm_180_96 : jmp 180 96 = bl_180_96 := by unfold jmp codeOf; rw [md_180]; rfl
theorem jm_180_101 : jmp 180 101 = bl_180_101 := by unfold jmp codeOf; rw [md_180]; rfl
theorem jm_180_109 : jmp 180 109 = bl_180_109 := by unfold jmp codeOf; rw [md_180]; rfl
theorem jm_180_120 : jmp 180 120 = bl_180_120 := by unfold jmp codeOf; rw [md_180]; rfl
theorem jm_180_128 : jmp 180 128 = bl_180_128 := by unfold jmp codeOf; rw [md_180]; rfl
theorem jm_180_133 : jmp 180 133 = bl_180_133 := by unfold jmp codeOf; rw [md_180]; rfl
theorem jm_181_4 : jmp 181 4 = bl_181_4 := by unfold jmp codeOf; rw [md_181]; rfl
theorem jm_181_21 : jmp 181 21 = bl_181_21 := by unfold jmp codeOf; rw [md_181]; rfl
theorem jm_181_27 : jmp 181 27 = bl_181_27 := by unfold jmp codeOf; rw [md_181]; rfl
theorem jm_182_4 : jmp 182 4 = bl_182_4 := by unfold jmp codeOf; rw [md_182]; rfl
theorem jm_182_28 : jmp 182 28 = bl_182_28 := by unfold jmp codeOf; rw [md_182]; rfl
theorem jm_182_34 : jmp 182 34 = bl_182_34 := by unfold jmp codeOf; rw [md_182]; rfl
set_option maxRecDepth 20000 in
theorem jm_183_892 : jmp 183 892 = bl_183_892 := by unfold jmp codeOf; rw [md_183]; rfl
set_option maxRecDepth 20000 in
theorem jm_183_914 : jmp 183 914 = bl_183_914 := by unfold jmp codeOf; rw [md_183]; rfl
set_option maxRecDepth 20000 in
theorem jm_183_918 : jmp 183 918 = bl_183_918 := by unfold jmp codeOf; rw [md_183]; rfl
set_option maxRecDepth 20000 in
theorem jm_183_938 : jmp 183 938 = bl_183_938 := by unfold jmp codeOf; rw [md_183]; rfl
set_option maxRecDepth 20000 in
theorem jm_183_940 : jmp 183 940 = bl_183_940 := by unfold jmp codeOf; rw [md_183]; rfl
set_option maxRecDepth 20000 in
theorem jm_183_965 : jmp 183 965 = bl_183_965 := by unfold jmp codeOf; rw [md_183]; rfl
set_option maxRecDepth 20000 in
theorem jm_183_969 : jmp 183 969 = bl_183_969 := by unfold jmp codeOf; rw [md_183]; rfl
set_option maxRecDepth 20000 in
theorem jm_183_989 : jmp 183 989 = bl_183_989 := by unfold jmp codeOf; rw [md_183]; rfl
set_option maxRecDepth 20000 in
theorem jm_183_991 : jmp 183 991 = bl_183_991 := by unfold jmp codeOf; rw [md_183]; rfl
set_option maxRecDepth 20000 in
theorem jm_183_1031 : jmp 183 1031 = bl_183_1031 := by unfold jmp codeOf; rw [md_183]; rfl
theorem jm_184_15 : jmp 184 15 = bl_184_15 := by unfold jmp codeOf; rw [md_184]; rfl
theorem jm_185_3 : jmp 185 3 = bl_185_3 := by unfold jmp codeOf; rw [md_185]; rfl
theorem jm_185_39 : jmp 185 39 = bl_185_39 := by unfold jmp codeOf; rw [md_185]; rfl
theorem jm_186_14 : jmp 186 14 = bl_186_14 := by unfold jmp codeOf; rw [md_186]; rfl
theorem jm_187_14 : jmp 187 14 = bl_187_14 := by unfold jmp codeOf; rw [md_187]; rfl
theorem jm_187_15 : jmp 187 15 = bl_187_15 := by unfold jmp codeOf; rw [md_187]; rfl
theorem jm_188_23 : jmp 188 23 = bl_188_23 := by unfold jmp codeOf; rw [md_188]; rfl
theorem jm_188_24 : jmp 188 24 = bl_188_24 := by unfold jmp codeOf; rw [md_188]; rfl
theorem jm_189_11 : jmp 189 11 = bl_189_11 := by unfold jmp codeOf; rw [md_189]; rfl
theorem jm_189_23 : jmp 189 23 = bl_189_23 := by unfold jmp codeOf; rw [md_189]; rfl
theorem jm_189_24 : jmp 189 24 = bl_189_24 := by unfold jmp codeOf; rw [md_189]; rfl
theorem jm_190_2 : jmp 190 2 = bl_190_2 := by unfold jmp codeOf; rw [md_190]; rfl
theorem jm_190_27 : jmp 190 27 = bl_190_27 := by unfold jmp codeOf; rw [md_190]; rfl
theorem jm_190_46 : jmp 190 46 = bl_190_46 := by unfold jmp codeOf; rw [md_190]; rfl
theorem jm_190_82 : jmp 190 82 = bl_190_82 := by unfold jmp codeOf; rw [md_190]; rfl
theorem jm_190_83 : jmp 190 83 = bl_190_83 := by unfold jmp codeOf; rw [md_190]; rfl
theorem jm_190_103 : jmp 190 103 = bl_190_103 := by unfold jmp codeOf; rw [md_190]; rfl
theorem jm_190_114 : jmp 190 114 = bl_190_114 := by unfold jmp codeOf; rw [md_190]; rfl
theorem jm_190_115 : jmp 190 115 = bl_190_115 := by unfold jmp codeOf; rw [md_190]; rfl
theorem jm_190_124 : jmp 190 124 = bl_190_124 := by unfold jmp codeOf; rw [md_190]; rfl
theorem jm_190_133 : jmp 190 133 = bl_190_133 := by unfold jmp codeOf; rw [md_190]; rfl
theorem jm_190_134 : jmp 190 134 = bl_190_134 := by unfold jmp codeOf; rw [md_190]; rfl
theorem jm_190_139 : jmp 190 139 = bl_190_139 := by unfold jmp codeOf; rw [md_190]; rfl
theorem jm_190_152 : jmp 190 152 = bl_190_152 := by unfold jmp codeOf; rw [md_190]; rfl
theorem jm_191_0 : jmp 191 0 = cd_191 := by unfold jmp codeOf; rw [md_191]; rfl
theorem jm_191_26 : jmp 191 26 = bl_191_26 := by unfold jmp codeOf; rw [md_191]; rfl
theorem jm_191_39 : jmp 191 39 = bl_191_39 := by unfold jmp codeOf; rw [md_191]; rfl
theorem jm_191_95 : jmp 191 95 = bl_191_95 := by unfold jmp codeOf; rw [md_191]; rfl
theorem jm_191_109 : jmp 191 109 = bl_191_109 := by unfold jmp codeOf; rw [md_191]; rfl
theorem jm_191_123 : jmp 191 123 = bl_191_123 := by unfold jmp codeOf; rw [md_191]; rfl
theorem jm_191_161 : jmp 191 161 = bl_191_161 := by unfold jmp codeOf; rw [md_191]; rfl
theorem jm_191_165 : jmp 191 165 = bl_191_165 := by unfold jmp codeOf; rw [md_191]; rfl
theorem jm_191_166 : jmp 191 166 = bl_191_166 := by unfold jmp codeOf; rw [md_191]; rfl
theorem jm_191_177 : jmp 191 177 = bl_191_177 := by unfold jmp codeOf; rw [md_191]; rfl
theorem jm_192_17 : jmp 192 17 = bl_192_17 := by unfold jmp codeOf; rw [md_192]; rfl
theorem jm_192_18 : jmp 192 18 = bl_192_18 := by unfold jmp codeOf; rw [md_192]; rfl
theorem jm_194_4 : jmp 194 4 = bl_194_4 := by unfold jmp codeOf; rw [md_194]; rfl
theorem jm_194_45 : jmp 194 45 = bl_194_45 := by unfold jmp codeOf; rw [md_194]; rfl
theorem jm_194_46 : jmp 194 46 = bl_194_46 := by unfold jmp codeOf; rw [md_194]; rfl
theorem jm_194_63 : jmp 194 63 = bl_194_63 := by unfold jmp codeOf; rw [md_194]; rfl
theorem jm_194_69 : jmp 194 69 = bl_194_69 := by unfold jmp codeOf; rw [md_194]; rfl
theorem jm_194_99 : jmp 194 99 = bl_194_99 := by unfold jmp codeOf; rw [md_194]; rfl
theorem jm_194_101 : jmp 194 101 = bl_194_101 := by unfold jmp codeOf; rw [md_194]; rfl
theorem jm_194_109 : jmp 194 109 = bl_194_109 := by unfold jmp codeOf; rw [md_194]; rfl
theorem jm_194_126 : jmp 194 126 = bl_194_126 := by unfold jmp codeOf; rw [md_194]; rfl
theorem jm_194_127 : jmp 194 127 = bl_194_127 := by unfold jmp codeOf; rw [md_194]; rfl
theorem jm_196_4 : jmp 196 4 = bl_196_4 := by unfold jmp codeOf; rw [md_196]; rfl
theorem jm_196_42 : jmp 196 42 = bl_196_42 := by unfold jmp codeOf; rw [md_196]; rfl
theorem jm_196_43 : jmp 196 43 = bl_196_43 := by unfold jmp codeOf; rw [md_196]; rfl
theorem jm_196_60 : jmp 196 60 = bl_196_60 := by unfold jmp codeOf; rw [md_196]; rfl
theorem jm_196_77 : jmp 196 77 = bl_196_77 := by unfold jmp codeOf; rw [md_196]; rfl
theorem jm_196_78 : jmp 196 78 = bl_196_78 := by unfold jmp codeOf; rw [md_196]; rfl
theorem jm_197_19 : jmp 197 19 = bl_197_19 := by unfold jmp codeOf; rw [md_197]; rfl
theorem jm_197_20 : jmp 197 20 = bl_197_20 := by unfold jmp codeOf; rw [md_197]; rfl
theorem jm_197_100 : jmp 197 100 = bl_197_100 := by unfold jmp codeOf; rw [md_197]; rfl
theorem jm_197_140 : jmp 197 140 = bl_197_140 := by unfold jmp codeOf; rw [md_197]; rfl
theorem jm_197_151 : jmp 197 151 = bl_197_151 := by unfold jmp codeOf; rw [md_197]; rfl
theorem jm_197_158 : jmp 197 158 = bl_197_158 := by unfold jmp codeOf; rw [md_197]; rfl
theorem jm_197_179 : jmp 197 179 = bl_197_179 := by unfold jmp codeOf; rw [md_197]; rfl
theorem jm_197_194 : jmp 197 194 = bl_197_194 := by unfold jmp codeOf; rw [md_197]; rfl
theorem jm_197_215 : jmp 197 215 = bl_197_215 := by unfold jmp codeOf; rw [md_197]; rfl
theorem jm_197_220 : jmp 197 220 = bl_197_220 := by unfold jmp codeOf; rw [md_197]; rfl
theorem jm_197_233 : jmp 197 233 = bl_197_233 := by unfold jmp codeOf; rw [md_197]; rfl
theorem jm_198_27 : jmp 198 27 = bl_198_27 := by unfold jmp codeOf; rw [md_198]; rfl
theorem jm_199_25 : jmp 199 25 = bl_199_25 := by unfold jmp codeOf; rw [md_199]; rfl
theorem jm_201_24 : jmp 201 24 = bl_201_24 := by unfold jmp codeOf; rw [md_201]; rfl
theorem jm_201_25 : jmp 201 25 = bl_201_25 := by unfold jmp codeOf; rw [md_201]; rfl
theorem jm_202_11 : jmp 202 11 = bl_202_11 := by unfold jmp codeOf; rw [md_202]; rfl
theorem jm_202_15 : jmp 202 15 = bl_202_15 := by unfold jmp codeOf; rw [md_202]; rfl
theorem jm_203_41 : jmp 203 41 = bl_203_41 := by unfold jmp codeOf; rw [md_203]; rfl
theorem jm_203_42 : jmp 203 42 = bl_203_42 := by unfold jmp codeOf; rw [md_203]; rfl
theorem jm_205_37 : jmp 205 37 = bl_205_37 := by unfold jmp codeOf; rw [md_205]; rfl
theorem jm_205_38 : jmp 205 38 = bl_205_38 := by unfold jmp codeOf; rw [md_205]; rfl
theorem jm_206_3 : jmp 206 3 = bl_206_3 := by unfold jmp codeOf; rw [md_206]; rfl
theorem jm_206_47 : jmp 206 47 = bl_206_47 := by unfold jmp codeOf; rw [md_206]; rfl
theorem jm_206_68 : jmp 206 68 = bl_206_68 := by unfold jmp codeOf; rw [md_206]; rfl
theorem jm_206_70 : jmp 206 70 = bl_206_70 := by unfold jmp codeOf; rw [md_206]; rfl
theorem jm_206_88 : jmp 206 88 = bl_206_88 := by unfold jmp codeOf; rw [md_206]; rfl
theorem jm_206_109 : jmp 206 109 = bl_206_109 := by unfold jmp codeOf; rw [md_206]; rfl
theorem jm_206_112 : jmp 206 112 = bl_206_112 := by unfold jmp codeOf; rw [md_206]; rfl
theorem jm_208_15 : jmp 208 15 = bl_208_15 := by unfold jmp codeOf; rw [md_208]; rfl
theorem jm_208_34 : jmp 208 34 = bl_208_34 := by unfold jmp codeOf; rw [md_208]; rfl
theorem jm_208_54 : jmp 208 54 = bl_208_54 := by unfold jmp codeOf; rw [md_208]; rfl
theorem jm_209_0 : jmp 209 0 = cd_209 := by unfold jmp codeOf; rw [md_209]; rfl
theorem jm_209_18 : jmp 209 18 = bl_209_18 := by unfold jmp codeOf; rw [md_209]; rfl
theorem jm_209_29 : jmp 209 29 = bl_209_29 := by unfold jmp codeOf; rw [md_209]; rfl
theorem jm_210_37 : jmp 210 37 = bl_210_37 := by unfold jmp codeOf; rw [md_210]; rfl
theorem jm_210_38 : jmp 210 38 = bl_210_38 := by unfold jmp codeOf; rw [md_210]; rfl
theorem jm_211_28 : jmp 211 28 = bl_211_28 := by unfold jmp codeOf; rw [md_211]; rfl
theorem jm_211_36 : jmp 211 36 = bl_211_36 := by unfold jmp codeOf; rw [md_211]; rfl
theorem jm_212_11 : jmp 212 11 = bl_212_11 := by unfold jmp codeOf; rw [md_212]; rfl
theorem jm_212_38 : jmp 212 38 = bl_212_38 := by unfold jmp codeOf; rw [md_212]; rfl
theorem jm_212_42 : jmp 212 42 = bl_212_42 := by unfold jmp codeOf; rw [md_212]; rfl
theorem jm_212_43 : jmp 212 43 = bl_212_43 := by unfold jmp codeOf; rw [md_212]; rfl
theorem jm_212_63 : jmp 212 63 = bl_212_63 := by unfold jmp codeOf; rw [md_212]; rfl
theorem jm_212_71 : jmp 212 71 = bl_212_71 := by unfold jmp codeOf; rw [md_212]; rfl
theorem jm_212_74 : jmp 212 74 = bl_212_74 := by unfold jmp codeOf; rw [md_212]; rfl
theorem jm_213_47 : jmp 213 47 = bl_213_47 := by unfold jmp codeOf; rw [md_213]; rfl
theorem jm_213_51 : jmp 213 51 = bl_213_51 := by unfold jmp codeOf; rw [md_213]; rfl
theorem jm_213_52 : jmp 213 52 = bl_213_52 := by unfold jmp codeOf; rw [md_213]; rfl
theorem jm_214_16 : jmp 214 16 = bl_214_16 := by unfold jmp codeOf; rw [md_214]; rfl
theorem jm_214_43 : jmp 214 43 = bl_214_43 := by unfold jmp codeOf; rw [md_214]; rfl
theorem jm_214_54 : jmp 214 54 = bl_214_54 := by unfold jmp codeOf; rw [md_214]; rfl
theorem jm_214_74 : jmp 214 74 = bl_214_74 := by unfold jmp codeOf; rw [md_214]; rfl
theorem jm_216_16 : jmp 216 16 = bl_216_16 := by unfold jmp codeOf; rw [md_216]; rfl
theorem jm_216_31 : jmp 216 31 = bl_216_31 := by unfold jmp codeOf; rw [md_216]; rfl
theorem jm_216_41 : jmp 216 41 = bl_216_41 := by unfold jmp codeOf; rw [md_216]; rfl
theorem jm_217_20 : jmp 217 20 = bl_217_20 := by unfold jmp codeOf; rw [md_217]; rfl
theorem jm_217_27 : jmp 217 27 = bl_217_27 := by unfold jmp codeOf; rw [md_217]; rfl
theorem jm_217_47 : jmp 217 47 = bl_217_47 := by unfold jmp codeOf; rw [md_217]; rfl
theorem jm_218_16 : jmp 218 16 = bl_218_16 := by unfold jmp codeOf; rw [md_218]; rfl
theorem jm_218_72 : jmp 218 72 = bl_218_72 := by unfold jmp codeOf; rw [md_218]; rfl
theorem jm_220_68 : jmp 220 68 = bl_220_68 := by unfold jmp codeOf; rw [md_220]; rfl
theorem jm_220_95 : jmp 220 95 = bl_220_95 := by unfold jmp codeOf; rw [md_220]; rfl
theorem jm_220_102 : jmp 220 102 = bl_220_102 := by unfold jmp codeOf; rw [md_220]; rfl
theorem jm_220_109 : jmp 220 109 = bl_220_109 := by unfold jmp codeOf; rw [md_220]; rfl
theorem jm_220_120 : jmp 220 120 = bl_220_120 := by unfold jmp codeOf; rw [md_220]; rfl
theorem jm_220_141 : jmp 220 141 = bl_220_141 := by unfold jmp codeOf; rw [md_220]; rfl
theorem jm_220_146 : jmp 220 146 = bl_220_146 := by unfold jmp codeOf; rw [md_220]; rfl
theorem jm_222_28 : jmp 222 28 = bl_222_28 := by unfold jmp codeOf; rw [md_222]; rfl
theorem jm_222_49 : jmp 222 49 = bl_222_49 := by unfold jmp codeOf; rw [md_222]; rfl
theorem jm_222_69 : jmp 222 69 = bl_222_69 := by unfold jmp codeOf; rw [md_222]; rfl
theorem jm_222_73 : jmp 222 73 = bl_222_73 := by unfold jmp codeOf; rw [md_222]; rfl
theorem jm_222_74 : jmp 222 74 = bl_222_74 := by unfold jmp codeOf; rw [md_222]; rfl
theorem jm_222_80 : jmp 222 80 = bl_222_80 := by unfold jmp codeOf; rw [md_222]; rfl
theorem jm_222_110 : jmp 222 110 = bl_222_110 := by unfold jmp codeOf; rw [md_222]; rfl
theorem jm_222_127 : jmp 222 127 = bl_222_127 := by unfold jmp codeOf; rw [md_222]; rfl
theorem jm_222_135 : jmp 222 135 = bl_222_135 := by unfold jmp codeOf; rw [md_222]; rfl
theorem jm_223_19 : jmp 223 19 = bl_223_19 := by unfold jmp codeOf; rw [md_223]; rfl
theorem jm_223_20 : jmp 223 20 = bl_223_20 := by unfold jmp codeOf; rw [md_223]; rfl
theorem jm_223_100 : jmp 223 100 = bl_223_100 := by unfold jmp codeOf; rw [md_223]; rfl
theorem jm_223_107 : jmp 223 107 = bl_223_107 := by unfold jmp codeOf; rw [md_223]; rfl
theorem jm_223_115 : jmp 223 115 = bl_223_115 := by unfold jmp codeOf; rw [md_223]; rfl
theorem jm_223_141 : jmp 223 141 = bl_223_141 := by unfold jmp codeOf; rw [md_223]; rfl
theorem jm_223_148 : jmp 223 148 = bl_223_148 := by unfold jmp codeOf; rw [md_223]; rfl
theorem jm_223_158 : jmp 223 158 = bl_223_158 := by unfold jmp codeOf; rw [md_223]; rfl
theorem jm_223_183 : jmp 223 183 = bl_223_183 := by unfold jmp codeOf; rw [md_223]; rfl
theorem jm_223_186 : jmp 223 186 = bl_223_186 := by unfold jmp codeOf; rw [md_223]; rfl
theorem jm_223_226 : jmp 223 226 = bl_223_226 := by unfold jmp codeOf; rw [md_223]; rfl
theorem jm_223_236 : jmp 223 236 = bl_223_236 := by unfold jmp codeOf; rw [md_223]; rfl
theorem jm_223_267 : jmp 223 267 = bl_223_267 := by unfold jmp codeOf; rw [md_223]; rfl
theorem jm_223_286 : jmp 223 286 = bl_223_286 := by unfold jmp codeOf; rw [md_223]; rfl
theorem jm_223_291 : jmp 223 291 = bl_223_291 := by unfold jmp codeOf; rw [md_223]; rfl
theorem jm_224_35 : jmp 224 35 = bl_224_35 := by unfold jmp codeOf; rw [md_224]; rfl
theorem jm_224_36 : jmp 224 36 = bl_224_36 := by unfold jmp codeOf; rw [md_224]; rfl
theorem jm_224_87 : jmp 224 87 = bl_224_87 := by unfold jmp codeOf; rw [md_224]; rfl
theorem jm_224_88 : jmp 224 88 = bl_224_88 := by unfold jmp codeOf; rw [md_224]; rfl
theorem jm_224_92 : jmp 224 92 = bl_224_92 := by unfold jmp codeOf; rw [md_224]; rfl
theorem jm_224_159 : jmp 224 159 = bl_224_159 := by unfold jmp codeOf; rw [md_224]; rfl
theorem jm_224_163 : jmp 224 163 = bl_224_163 := by unfold jmp codeOf; rw [md_224]; rfl
theorem jm_224_164 : jmp 224 164 = bl_224_164 := by unfold jmp codeOf; rw [md_224]; rfl
theorem jm_224_171 : jmp 224 171 = bl_224_171 := by unfold jmp codeOf; rw [md_224]; rfl
theorem jm_224_180 : jmp 224 180 = bl_224_180 := by unfold jmp codeOf; rw [md_224]; rfl
theorem jm_224_181 : jmp 224 181 = bl_224_181 := by unfold jmp codeOf; rw [md_224]; rfl
theorem jm_224_189 : jmp 224 189 = bl_224_189 := by unfold jmp codeOf; rw [md_224]; rfl
theorem jm_224_222 : jmp 224 222 = bl_224_222 := by unfold jmp codeOf; rw [md_224]; rfl
theorem jm_224_243 : jmp 224 243 = bl_224_243 := by unfold jmp codeOf; rw [md_224]; rfl
theorem jm_224_249 : jmp 224 249 = bl_224_249 := by unfold jmp codeOf; rw [md_224]; rfl
theorem jm_225_19 : jmp 225 19 = bl_225_19 := by unfold jmp codeOf; rw [md_225]; rfl
theorem jm_225_20 : jmp 225 20 = bl_225_20 := by unfold jmp codeOf; rw [md_225]; rfl
theorem jm_226_11 : jmp 226 11 = bl_226_11 := by unfold jmp codeOf; rw [md_226]; rfl
theorem jm_226_12 : jmp 226 12 = bl_226_12 := by unfold jmp codeOf; rw [md_226]; rfl
theorem jm_227_16 : jmp 227 16 = bl_227_16 := by unfold jmp codeOf; rw [md_227]; rfl
theorem jm_227_17 : jmp 227 17 = bl_227_17 := by unfold jmp codeOf; rw [md_227]; rfl
theorem jm_228_9 : jmp 228 9 = bl_228_9 := by unfold jmp codeOf; rw [md_228]; rfl
theorem jm_228_37 : jmp 228 37 = bl_228_37 := by unfold jmp codeOf; rw [md_228]; rfl
theorem jm_228_38 : jmp 228 38 = bl_228_38 := by unfold jmp codeOf; rw [md_228]; rfl
theorem jm_228_46 : jmp 228 46 = bl_228_46 := by unfold jmp codeOf; rw [md_228]; rfl
theorem jm_229_24 : jmp 229 24 = bl_229_24 := by unfold jmp codeOf; rw [md_229]; rfl
theorem jm_229_25 : jmp 229 25 = bl_229_25 := by unfold jmp codeOf; rw [md_229]; rfl
theorem jm_230_24 : jmp 230 24 = bl_230_24 := by unfold jmp codeOf; rw [md_230]; rfl
theorem jm_230_25 : jmp 230 25 = bl_230_25 := by unfold jmp codeOf; rw [md_230]; rfl
theorem jm_231_12 : jmp 231 12 = bl_231_12 := by unfold jmp codeOf; rw [md_231]; rfl
theorem jm_231_32 : jmp 231 32 = bl_231_32 := by unfold jmp codeOf; rw [md_231]; rfl
theorem jm_231_50 : jmp 231 50 = bl_231_50 := by unfold jmp codeOf; rw [md_231]; rfl
theorem jm_231_62 : jmp 231 62 = bl_231_62 := by unfold jmp codeOf; rw [md_231]; rfl
theorem jm_231_63 : jmp 231 63 = bl_231_63 := by unfold jmp codeOf; rw [md_231]; rfl
theorem jm_232_11 : jmp 232 11 = bl_232_11 := by unfold jmp codeOf; rw [md_232]; rfl
theorem jm_232_31 : jmp 232 31 = bl_232_31 := by unfold jmp codeOf; rw [md_232]; rfl
theorem jm_232_37 : jmp 232 37 = bl_232_37 := by unfold jmp codeOf; rw [md_232]; rfl
theorem jm_232_41 : jmp 232 41 = bl_232_41 := by unfold jmp codeOf; rw [md_232]; rfl
theorem jm_232_62 : jmp 232 62 = bl_232_62 := by unfold jmp codeOf; rw [md_232]; rfl
theorem jm_232_108 : jmp 232 108 = bl_232_108 := by unfold jmp codeOf; rw [md_232]; rfl
theorem jm_232_109 : jmp 232 109 = bl_232_109 := by unfold jmp codeOf; rw [md_232]; rfl
theorem jm_232_134 : jmp 232 134 = bl_232_134 := by unfold jmp codeOf; rw [md_232]; rfl
theorem jm_232_138 : jmp 232 138 = bl_232_138 := by unfold jmp codeOf; rw [md_232]; rfl
theorem jm_232_178 : jmp 232 178 = bl_232_178 := by unfold jmp codeOf; rw [md_232]; rfl
theorem jm_233_5 : jmp 233 5 = bl_233_5 := by unfold jmp codeOf; rw [md_233]; rfl
theorem jm_233_30 : jmp 233 30 = bl_233_30 := by unfold jmp codeOf; rw [md_233]; rfl
theorem jm_233_31 : jmp 233 31 = bl_233_31 := by unfold jmp codeOf; rw [md_233]; rfl
theorem jm_233_38 : jmp 233 38 = bl_233_38 := by unfold jmp codeOf; rw [md_233]; rfl
theorem jm_233_69 : jmp 233 69 = bl_233_69 := by unfold jmp codeOf; rw [md_233]; rfl
theorem jm_233_80 : jmp 233 80 = bl_233_80 := by unfold jmp codeOf; rw [md_233]; rfl
theorem jm_233_113 : jmp 233 113 = bl_233_113 := by unfold jmp codeOf; rw [md_233]; rfl
theorem jm_233_123 : jmp 233 123 = bl_233_123 := by unfold jmp codeOf; rw [md_233]; rfl
theorem jm_234_16 : jmp 234 16 = bl_234_16 := by unfold jmp codeOf; rw [md_234]; rfl
theorem jm_234_46 : jmp 234 46 = bl_234_46 := by unfold jmp codeOf; rw [md_234]; rfl
theorem jm_234_47 : jmp 234 47 = bl_234_47 := by unfold jmp codeOf; rw [md_234]; rfl
theorem jm_234_55 : jmp 234 55 = bl_234_55 := by unfold jmp codeOf; rw [md_234]; rfl
theorem jm_234_86 : jmp 234 86 = bl_234_86 := by unfold jmp codeOf; rw [md_234]; rfl
theorem jm_235_9 : jmp 235 9 = bl_235_9 := by unfold jmp codeOf; rw [md_235]; rfl
theorem jm_235_10 : jmp 235 10 = bl_235_10 := by unfold jmp codeOf; rw [md_235]; rfl
theorem jm_235_15 : jmp 235 15 = bl_235_15 := by unfold jmp codeOf; rw [md_235]; rfl
theorem jm_235_40 : jmp 235 40 = bl_235_40 := by unfold jmp codeOf; rw [md_235]; rfl
theorem jm_235_50 : jmp 235 50 = bl_235_50 := by unfold jmp codeOf; rw [md_235]; rfl
theorem jm_236_10 : jmp 236 10 = bl_236_10 := by unfold jmp codeOf; rw [md_236]; rfl
theorem jm_236_40 : jmp 236 40 = bl_236_40 := by unfold jmp codeOf; rw [md_236]; rfl
theorem jm_236_56 : jmp 236 56 = bl_236_56 := by unfold jmp codeOf; rw [md_236]; rfl
theorem jm_236_75 : jmp 236 75 = bl_236_75 := by unfold jmp codeOf; rw [md_236]; rfl
theorem jm_236_81 : jmp 236 81 = bl_236_81 := by unfold jmp codeOf; rw [md_236]; rfl
theorem jm_237_36 : jmp 237 36 = bl_237_36 := by unfold jmp codeOf; rw [md_237]; rfl
theorem jm_237_40 : jmp 237 40 = bl_237_40 := by unfold jmp codeOf; rw [md_237]; rfl
theorem jm_237_41 : jmp 237 41 = bl_237_41 := by unfold jmp codeOf; rw [md_237]; rfl
theorem jm_238_64 : jmp 238 64 = bl_238_64 := by unfold jmp codeOf; rw [md_238]; rfl
theorem jm_238_77 : jmp 238 77 = bl_238_77 := by unfold jmp codeOf; rw [md_238]; rfl
theorem jm_238_89 : jmp 238 89 = bl_238_89 := by unfold jmp codeOf; rw [md_238]; rfl
theorem jm_238_90 : jmp 238 90 = bl_238_90 := by unfold jmp codeOf; rw [md_238]; rfl
theorem jm_238_109 : jmp 238 109 = bl_238_109 := by unfold jmp codeOf; rw [md_238]; rfl
theorem jm_238_121 : jmp 238 121 = bl_238_121 := by unfold jmp codeOf; rw [md_238]; rfl
theorem jm_238_122 : jmp 238 122 = bl_238_122 := by unfold jmp codeOf; rw [md_238]; rfl
theorem jm_238_147 : jmp 238 147 = bl_238_147 := by unfold jmp codeOf; rw [md_238]; rfl
theorem jm_238_151 : jmp 238 151 = bl_238_151 := by unfold jmp codeOf; rw [md_238]; rfl
theorem jm_238_152 : jmp 238 152 = bl_238_152 := by unfold jmp codeOf; rw [md_238]; rfl
theorem jm_238_161 : jmp 238 161 = bl_238_161 := by unfold jmp codeOf; rw [md_238]; rfl
theorem jm_238_179 : jmp 238 179 = bl_238_179 := by unfold jmp codeOf; rw [md_238]; rfl
theorem jm_238_180 : jmp 238 180 = bl_238_180 := by unfold jmp codeOf; rw [md_238]; rfl
theorem jm_238_188 : jmp 238 188 = bl_238_188 := by unfold jmp codeOf; rw [md_238]; rfl
theorem jm_238_206 : jmp 238 206 = bl_238_206 := by unfold jmp codeOf; rw [md_238]; rfl
theorem jm_238_207 : jmp 238 207 = bl_238_207 := by unfold jmp codeOf; rw [md_238]; rfl
theorem jm_238_239 : jmp 238 239 = bl_238_239 := by unfold jmp codeOf; rw [md_238]; rfl
theorem jm_238_240 : jmp 238 240 = bl_238_240 := by unfold jmp codeOf; rw [md_238]; rfl
theorem jm_238_260 : jmp 238 260 = bl_238_260 := by unfold jmp codeOf; rw [md_238]; rfl
theorem jm_238_261 : jmp 238 261 = bl_238_261 := by unfold jmp codeOf; rw [md_238]; rfl
theorem jm_238_269 : jmp 238 269 = bl_238_269 := by unfold jmp codeOf; rw [md_238]; rfl
theorem jm_238_272 : jmp 238 272 = bl_238_272 := by unfold jmp codeOf; rw [md_238]; rfl
theorem jm_238_277 : jmp 238 277 = bl_238_277 := by unfold jmp codeOf; rw [md_238]; rfl
theorem jm_239_36 : jmp 239 36 = bl_239_36 := by unfold jmp codeOf; rw [md_239]; rfl
theorem jm_239_37 : jmp 239 37 = bl_239_37 := by unfold jmp codeOf; rw [md_239]; rfl
theorem jm_240_4 : jmp 240 4 = bl_240_4 := by unfold jmp codeOf; rw [md_240]; rfl
theorem jm_240_27 : jmp 240 27 = bl_240_27 := by unfold jmp codeOf; rw [md_240]; rfl
theorem jm_240_28 : jmp 240 28 = bl_240_28 := by unfold jmp codeOf; rw [md_240]; rfl
theorem jm_240_35 : jmp 240 35 = bl_240_35 := by unfold jmp codeOf; rw [md_240]; rfl
theorem jm_242_4 : jmp 242 4 = bl_242_4 := by unfold jmp codeOf; rw [md_242]; rfl
theorem jm_242_23 : jmp 242 23 = bl_242_23 := by unfold jmp codeOf; rw [md_242]; rfl
theorem jm_242_24 : jmp 242 24 = bl_242_24 := by unfold jmp codeOf; rw [md_242]; rfl
theorem jm_242_32 : jmp 242 32 = bl_242_32 := by unfold jmp codeOf; rw [md_242]; rfl
theorem jm_243_2 : jmp 243 2 = bl_243_2 := by unfold jmp codeOf; rw [md_243]; rfl
theorem jm_243_42 : jmp 243 42 = bl_243_42 := by unfold jmp codeOf; rw [md_243]; rfl
theorem jm_243_43 : jmp 243 43 = bl_243_43 := by unfold jmp codeOf; rw [md_243]; rfl
theorem jm_243_53 : jmp 243 53 = bl_243_53 := by unfold jmp codeOf; rw [md_243]; rfl
theorem jm_243_56 : jmp 243 56 = bl_243_56 := by unfold jmp codeOf; rw [md_243]; rfl
theorem jm_243_59 : jmp 243 59 = bl_243_59 := by unfold jmp codeOf; rw [md_243]; rfl
theorem jm_243_65 : jmp 243 65 = bl_243_65 := by unfold jmp codeOf; rw [md_243]; rfl
theorem jm_244_4 : jmp 244 4 = bl_244_4 := by unfold jmp codeOf; rw [md_244]; rfl
theorem jm_244_28 : jmp 244 28 = bl_244_28 := by unfold jmp codeOf; rw [md_244]; rfl
theorem jm_244_32 : jmp 244 32 = bl_244_32 := by unfold jmp codeOf; rw [md_244]; rfl
theorem jm_244_33 : jmp 244 33 = bl_244_33 := by unfold jmp codeOf; rw [md_244]; rfl
theorem jm_244_40 : jmp 244 40 = bl_244_40 := by unfold jmp codeOf; rw [md_244]; rfl
theorem jm_245_4 : jmp 245 4 = bl_245_4 := by unfold jmp codeOf; rw [md_245]; rfl
theorem jm_245_34 : jmp 245 34 = bl_245_34 := by unfold jmp codeOf; rw [md_245]; rfl
theorem jm_245_35 : jmp 245 35 = bl_245_35 := by unfold jmp codeOf; rw [md_245]; rfl
theorem jm_245_42 : jmp 245 42 = bl_245_42 := by unfold jmp codeOf; rw [md_245]; rfl
theorem jm_246_32 : jmp 246 32 = bl_246_32 := by unfold jmp codeOf; rw [md_246]; rfl
theorem jm_246_44 : jmp 246 44 = bl_246_44 := by unfold jmp codeOf; rw [md_246]; rfl
theorem jm_246_45 : jmp 246 45 = bl_246_45 := by unfold jmp codeOf; rw [md_246]; rfl
theorem jm_246_63 : jmp 246 63 = bl_246_63 := by unfold jmp codeOf; rw [md_246]; rfl
theorem jm_246_84 : jmp 246 84 = bl_246_84 := by unfold jmp codeOf; rw [md_246]; rfl
theorem jm_246_106 : jmp 246 106 = bl_246_106 := by unfold jmp codeOf; rw [md_246]; rfl
theorem jm_246_136 : jmp 246 136 = bl_246_136 := by unfold jmp codeOf; rw [md_246]; rfl
theorem jm_246_140 : jmp 246 140 = bl_246_140 := by unfold jmp codeOf; rw [md_246]; rfl
theorem jm_247_19 : jmp 247 19 = bl_247_19 := by unfold jmp codeOf; rw [md_247]; rfl
theorem jm_247_20 : jmp 247 20 = bl_247_20 := by unfold jmp codeOf; rw [md_247]; rfl
theorem jm_247_100 : jmp 247 100 = bl_247_100 := by unfold jmp codeOf; rw [md_247]; rfl
theorem jm_247_107 : jmp 247 107 = bl_247_107 := by unfold jmp codeOf; rw [md_247]; rfl
theorem jm_247_109 : jmp 247 109 = bl_247_109 := by unfold jmp codeOf; rw [md_247]; rfl
theorem jm_247_133 : jmp 247 133 = bl_247_133 := by unfold jmp codeOf; rw [md_247]; rfl
theorem jm_247_136 : jmp 247 136 = bl_247_136 := by unfold jmp codeOf; rw [md_247]; rfl
theorem jm_247_168 : jmp 247 168 = bl_247_168 := by unfold jmp codeOf; rw [md_247]; rfl
theorem jm_247_175 : jmp 247 175 = bl_247_175 := by unfold jmp codeOf; rw [md_247]; rfl
theorem jm_247_197 : jmp 247 197 = bl_247_197 := by unfold jmp codeOf; rw [md_247]; rfl
theorem jm_247_212 : jmp 247 212 = bl_247_212 := by unfold jmp codeOf; rw [md_247]; rfl
theorem jm_247_234 : jmp 247 234 = bl_247_234 := by unfold jmp codeOf; rw [md_247]; rfl
theorem jm_247_239 : jmp 247 239 = bl_247_239 := by unfold jmp codeOf; rw [md_247]; rfl
theorem jm_248_81 : jmp 248 81 = bl_248_81 := by unfold jmp codeOf; rw [md_248]; rfl
theorem jm_248_116 : jmp 248 116 = bl_248_116 := by unfold jmp codeOf; rw [md_248]; rfl
theorem jm_248_142 : jmp 248 142 = bl_248_142 := by unfold jmp codeOf; rw [md_248]; rfl
theorem jm_248_161 : jmp 248 161 = bl_248_161 := by unfold jmp codeOf; rw [md_248]; rfl
theorem jm_248_180 : jmp 248 180 = bl_248_180 := by unfold jmp codeOf; rw [md_248]; rfl
theorem jm_248_186 : jmp 248 186 = bl_248_186 := by unfold jmp codeOf; rw [md_248]; rfl
theorem jm_249_12 : jmp 249 12 = bl_249_12 := by unfold jmp codeOf; rw [md_249]; rfl
theorem jm_249_37 : jmp 249 37 = bl_249_37 := by unfold jmp codeOf; rw [md_249]; rfl
theorem jm_249_39 : jmp 249 39 = bl_249_39 := by unfold jmp codeOf; rw [md_249]; rfl
theorem jm_249_67 : jmp 249 67 = bl_249_67 := by unfold jmp codeOf; rw [md_249]; rfl
theorem jm_249_69 : jmp 249 69 = bl_249_69 := by unfold jmp codeOf; rw [md_249]; rfl
theorem jm_249_100 : jmp 249 100 = bl_249_100 := by unfold jmp codeOf; rw [md_249]; rfl
theorem jm_249_127 : jmp 249 127 = bl_249_127 := by unfold jmp codeOf; rw [md_249]; rfl
theorem jm_249_133 : jmp 249 133 = bl_249_133 := by unfold jmp codeOf; rw [md_249]; rfl
theorem jm_249_135 : jmp 249 135 = bl_249_135 := by unfold jmp codeOf; rw [md_249]; rfl
theorem jm_249_143 : jmp 249 143 = bl_249_143 := by unfold jmp codeOf; rw [md_249]; rfl
theorem jm_249_177 : jmp 249 177 = bl_249_177 := by unfold jmp codeOf; rw [md_249]; rfl
theorem jm_249_199 : jmp 249 199 = bl_249_199 := by unfold jmp codeOf; rw [md_249]; rfl
theorem jm_250_13 : jmp 250 13 = bl_250_13 := by unfold jmp codeOf; rw [md_250]; rfl
theorem jm_250_40 : jmp 250 40 = bl_250_40 := by unfold jmp codeOf; rw [md_250]; rfl
theorem jm_250_53 : jmp 250 53 = bl_250_53 := by unfold jmp codeOf; rw [md_250]; rfl
theorem jm_250_59 : jmp 250 59 = bl_250_59 := by unfold jmp codeOf; rw [md_250]; rfl
theorem jm_251_12 : jmp 251 12 = bl_251_12 := by unfold jmp codeOf; rw [md_251]; rfl
theorem jm_251_42 : jmp 251 42 = bl_251_42 := by unfold jmp codeOf; rw [md_251]; rfl
theorem jm_252_5 : jmp 252 5 = bl_252_5 := by unfold jmp codeOf; rw [md_252]; rfl
theorem jm_252_39 : jmp 252 39 = bl_252_39 := by unfold jmp codeOf; rw [md_252]; rfl
theorem jm_252_67 : jmp 252 67 = bl_252_67 := by unfold jmp codeOf; rw [md_252]; rfl
theorem jm_252_69 : jmp 252 69 = bl_252_69 := by unfold jmp codeOf; rw [md_252]; rfl
theorem jm_252_116 : jmp 252 116 = bl_252_116 := by unfold jmp codeOf; rw [md_252]; rfl
theorem jm_252_117 : jmp 252 117 = bl_252_117 := by unfold jmp codeOf; rw [md_252]; rfl
theorem jm_252_126 : jmp 252 126 = bl_252_126 := by unfold jmp codeOf; rw [md_252]; rfl
theorem jm_252_132 : jmp 252 132 = bl_252_132 := by unfold jmp codeOf; rw [md_252]; rfl
theorem jm_253_22 : jmp 253 22 = bl_253_22 := by unfold jmp codeOf; rw [md_253]; rfl
theorem jm_253_23 : jmp 253 23 = bl_253_23 := by unfold jmp codeOf; rw [md_253]; rfl
theorem jm_254_45 : jmp 254 45 = bl_254_45 := by unfold jmp codeOf; rw [md_254]; rfl
theorem jm_254_64 : jmp 254 64 = bl_254_64 := by unfold jmp codeOf; rw [md_254]; rfl
theorem jm_254_72 : jmp 254 72 = bl_254_72 := by unfold jmp codeOf; rw [md_254]; rfl
theorem jm_254_99 : jmp 254 99 = bl_254_99 := by unfold jmp codeOf; rw [md_254]; rfl
theorem jm_254_100 : jmp 254 100 = bl_254_100 := by unfold jmp codeOf; rw [md_254]; rfl
theorem jm_254_105 : jmp 254 105 = bl_254_105 := by unfold jmp codeOf; rw [md_254]; rfl
theorem jm_254_128 : jmp 254 128 = bl_254_128 := by unfold jmp codeOf; rw [md_254]; rfl
theorem jm_254_130 : jmp 254 130 = bl_254_130 := by unfold jmp codeOf; rw [md_254]; rfl
theorem jm_254_168 : jmp 254 168 = bl_254_168 := by unfold jmp codeOf; rw [md_254]; rfl
theorem jm_254_196 : jmp 254 196 = bl_254_196 := by unfold jmp codeOf; rw [md_254]; rfl
theorem jm_254_222 : jmp 254 222 = bl_254_222 := by unfold jmp codeOf; rw [md_254]; rfl
theorem jm_254_242 : jmp 254 242 = bl_254_242 := by unfold jmp codeOf; rw [md_254]; rfl
theorem jm_254_253 : jmp 254 253 = bl_254_253 := by unfold jmp codeOf; rw [md_254]; rfl
theorem jm_254_268 : jmp 254 268 = bl_254_268 := by unfold jmp codeOf; rw [md_254]; rfl
theorem jm_254_274 : jmp 254 274 = bl_254_274 := by unfold jmp codeOf; rw [md_254]; rfl
theorem jm_254_277 : jmp 254 277 = bl_254_277 := by unfold jmp codeOf; rw [md_254]; rfl
theorem jm_256_32 : jmp 256 32 = bl_256_32 := by unfold jmp codeOf; rw [md_256]; rfl
theorem jm_256_63 : jmp 256 63 = bl_256_63 := by unfold jmp codeOf; rw [md_256]; rfl
theorem jm_256_68 : jmp 256 68 = bl_256_68 := by unfold jmp codeOf; rw [md_256]; rfl
theorem jm_258_15 : jmp 258 15 = bl_258_15 := by unfold jmp codeOf; rw [md_258]; rfl
theorem jm_258_35 : jmp 258 35 = bl_258_35 := by unfold jmp codeOf; rw [md_258]; rfl
theorem jm_259_5 : jmp 259 5 = bl_259_5 := by unfold jmp codeOf; rw [md_259]; rfl
theorem jm_259_57 : jmp 259 57 = bl_259_57 := by unfold jmp codeOf; rw [md_259]; rfl
theorem jm_259_58 : jmp 259 58 = bl_259_58 := by unfold jmp codeOf; rw [md_259]; rfl
theorem jm_259_65 : jmp 259 65 = bl_259_65 := by unfold jmp codeOf; rw [md_259]; rfl
theorem jm_260_20 : jmp 260 20 = bl_260_20 := by unfold jmp codeOf; rw [md_260]; rfl
theorem jm_260_21 : jmp 260 21 = bl_260_21 := by unfold jmp codeOf; rw [md_260]; rfl
theorem jm_260_22 : jmp 260 22 = bl_260_22 := by unfold jmp codeOf; rw [md_260]; rfl
theorem jm_260_57 : jmp 260 57 = bl_260_57 := by unfold jmp codeOf; rw [md_260]; rfl
theorem jm_260_58 : jmp 260 58 = bl_260_58 := by unfold jmp codeOf; rw [md_260]; rfl
theorem jm_261_25 : jmp 261 25 = bl_261_25 := by unfold jmp codeOf; rw [md_261]; rfl
theorem jm_261_44 : jmp 261 44 = bl_261_44 := by unfold jmp codeOf; rw [md_261]; rfl
theorem jm_261_66 : jmp 261 66 = bl_261_66 := by unfold jmp codeOf; rw [md_261]; rfl
theorem jm_262_10 : jmp 262 10 = bl_262_10 := by unfold jmp codeOf; rw [md_262]; rfl
theorem jm_262_33 : jmp 262 33 = bl_262_33 := by unfold jmp codeOf; rw [md_262]; rfl
theorem jm_262_45 : jmp 262 45 = bl_262_45 := by unfold jmp codeOf; rw [md_262]; rfl
theorem jm_262_67 : jmp 262 67 = bl_262_67 := by unfold jmp codeOf; rw [md_262]; rfl
theorem jm_262_86 : jmp 262 86 = bl_262_86 := by unfold jmp codeOf; rw [md_262]; rfl
theorem jm_263_22 : jmp 263 22 = bl_263_22 := by unfold jmp codeOf; rw [md_263]; rfl
theorem jm_263_23 : jmp 263 23 = bl_263_23 := by unfold jmp codeOf; rw [md_263]; rfl
theorem jm_263_33 : jmp 263 33 = bl_263_33 := by unfold jmp codeOf; rw [md_263]; rfl
theorem jm_263_39 : jmp 263 39 = bl_263_39 := by unfold jmp codeOf; rw [md_263]; rfl
theorem jm_263_41 : jmp 263 41 = bl_263_41 := by unfold jmp codeOf; rw [md_263]; rfl
theorem jm_263_77 : jmp 263 77 = bl_263_77 := by unfold jmp codeOf; rw [md_263]; rfl
theorem jm_263_81 : jmp 263 81 = bl_263_81 := by unfold jmp codeOf; rw [md_263]; rfl
theorem jm_263_82 : jmp 263 82 = bl_263_82 := by unfold jmp codeOf; rw [md_263]; rfl
theorem jm_263_90 : jmp 263 90 = bl_263_90 := by unfold jmp codeOf; rw [md_263]; rfl
theorem jm_264_2 : jmp 264 2 = bl_264_2 := by unfold jmp codeOf; rw [md_264]; rfl
theorem jm_264_57 : jmp 264 57 = bl_264_57 := by unfold jmp codeOf; rw [md_264]; rfl
theorem jm_264_63 : jmp 264 63 = bl_264_63 := by unfold jmp codeOf; rw [md_264]; rfl
theorem jm_265_2 : jmp 265 2 = bl_265_2 := by unfold jmp codeOf; rw [md_265]; rfl
theorem jm_265_23 : jmp 265 23 = bl_265_23 := by unfold jmp codeOf; rw [md_265]; rfl
theorem jm_265_25 : jmp 265 25 = bl_265_25 := by unfold jmp codeOf; rw [md_265]; rfl
theorem jm_265_59 : jmp 265 59 = bl_265_59 := by unfold jmp codeOf; rw [md_265]; rfl
theorem jm_266_30 : jmp 266 30 = bl_266_30 := by unfold jmp codeOf; rw [md_266]; rfl
theorem jm_266_51 : jmp 266 51 = bl_266_51 := by unfold jmp codeOf; rw [md_266]; rfl
theorem jm_266_53 : jmp 266 53 = bl_266_53 := by unfold jmp codeOf; rw [md_266]; rfl
theorem jm_266_84 : jmp 266 84 = bl_266_84 := by unfold jmp codeOf; rw [md_266]; rfl
theorem jm_266_86 : jmp 266 86 = bl_266_86 := by unfold jmp codeOf; rw [md_266]; rfl
theorem jm_266_134 : jmp 266 134 = bl_266_134 := by unfold jmp codeOf; rw [md_266]; rfl
theorem jm_267_18 : jmp 267 18 = bl_267_18 := by unfold jmp codeOf; rw [md_267]; rfl
theorem jm_268_72 : jmp 268 72 = bl_268_72 := by unfold jmp codeOf; rw [md_268]; rfl
theorem jm_268_85 : jmp 268 85 = bl_268_85 := by unfold jmp codeOf; rw [md_268]; rfl
theorem jm_268_93 : jmp 268 93 = bl_268_93 := by unfold jmp codeOf; rw [md_268]; rfl
theorem jm_268_100 : jmp 268 100 = bl_268_100 := by unfold jmp codeOf; rw [md_268]; rfl
theorem jm_268_108 : jmp 268 108 = bl_268_108 := by unfold jmp codeOf; rw [md_268]; rfl
theorem jm_268_130 : jmp 268 130 = bl_268_130 := by unfold jmp codeOf; rw [md_268]; rfl
theorem jm_268_138 : jmp 268 138 = bl_268_138 := by unfold jmp codeOf; rw [md_268]; rfl
theorem jm_268_153 : jmp 268 153 = bl_268_153 := by unfold jmp codeOf; rw [md_268]; rfl
theorem jm_268_165 : jmp 268 165 = bl_268_165 := by unfold jmp codeOf; rw [md_268]; rfl
theorem jm_268_177 : jmp 268 177 = bl_268_177 := by unfold jmp codeOf; rw [md_268]; rfl
theorem jm_268_184 : jmp 268 184 = bl_268_184 := by unfold jmp codeOf; rw [md_268]; rfl
theorem jm_268_190 : jmp 268 190 = bl_268_190 := by unfold jmp codeOf; rw [md_268]; rfl
theorem jm_269_12 : jmp 269 12 = bl_269_12 := by unfold jmp codeOf; rw [md_269]; rfl
theorem jm_269_14 : jmp 269 14 = bl_269_14 := by unfold jmp codeOf; rw [md_269]; rfl
theorem jm_269_28 : jmp 269 28 = bl_269_28 := by unfold jmp codeOf; rw [md_269]; rfl
theorem jm_269_30 : jmp 269 30 = bl_269_30 := by unfold jmp codeOf; rw [md_269]; rfl
theorem jm_269_57 : jmp 269 57 = bl_269_57 := by unfold jmp codeOf; rw [md_269]; rfl
theorem jm_269_106 : jmp 269 106 = bl_269_106 := by unfold jmp codeOf; rw [md_269]; rfl
theorem jm_269_136 : jmp 269 136 = bl_269_136 := by unfold jmp codeOf; rw [md_269]; rfl
theorem jm_270_2 : jmp 270 2 = bl_270_2 := by unfold jmp codeOf; rw [md_270]; rfl
theorem jm_270_41 : jmp 270 41 = bl_270_41 := by unfold jmp codeOf; rw [md_270]; rfl
theorem jm_270_71 : jmp 270 71 = bl_270_71 := by unfold jmp codeOf; rw [md_270]; rfl
theorem jm_270_125 : jmp 270 125 = bl_270_125 := by unfold jmp codeOf; rw [md_270]; rfl
theorem jm_270_131 : jmp 270 131 = bl_270_131 := by unfold jmp codeOf; rw [md_270]; rfl
theorem jm_271_22 : jmp 271 22 = bl_271_22 := by unfold jmp codeOf; rw [md_271]; rfl
theorem jm_271_23 : jmp 271 23 = bl_271_23 := by unfold jmp codeOf; rw [md_271]; rfl
theorem jm_271_26 : jmp 271 26 = bl_271_26 := by unfold jmp codeOf; rw [md_271]; rfl
theorem jm_271_76 : jmp 271 76 = bl_271_76 := by unfold jmp codeOf; rw [md_271]; rfl
theorem jm_271_111 : jmp 271 111 = bl_271_111 := by unfold jmp codeOf; rw [md_271]; rfl
theorem jm_271_113 : jmp 271 113 = bl_271_113 := by unfold jmp codeOf; rw [md_271]; rfl
theorem jm_271_114 : jmp 271 114 = bl_271_114 := by unfold jmp codeOf; rw [md_271]; rfl
theorem jm_271_120 : jmp 271 120 = bl_271_120 := by unfold jmp codeOf; rw [md_271]; rfl
theorem jm_271_135 : jmp 271 135 = bl_271_135 := by unfold jmp codeOf; rw [md_271]; rfl
theorem jm_271_185 : jmp 271 185 = bl_271_185 := by unfold jmp codeOf; rw [md_271]; rfl
theorem jm_271_191 : jmp 271 191 = bl_271_191 := by unfold jmp codeOf; rw [md_271]; rfl
theorem jm_272_4 : jmp 272 4 = bl_272_4 := by unfold jmp codeOf; rw [md_272]; rfl
theorem jm_272_33 : jmp 272 33 = bl_272_33 := by unfold jmp codeOf; rw [md_272]; rfl
theorem jm_272_38 : jmp 272 38 = bl_272_38 := by unfold jmp codeOf; rw [md_272]; rfl
theorem jm_272_39 : jmp 272 39 = bl_272_39 := by unfold jmp codeOf; rw [md_272]; rfl
theorem jm_272_46 : jmp 272 46 = bl_272_46 := by unfold jmp codeOf; rw [md_272]; rfl
theorem jm_273_11 : jmp 273 11 = bl_273_11 := by unfold jmp codeOf; rw [md_273]; rfl
theorem jm_273_34 : jmp 273 34 = bl_273_34 := by unfold jmp codeOf; rw [md_273]; rfl
theorem jm_273_63 : jmp 273 63 = bl_273_63 := by unfold jmp codeOf; rw [md_273]; rfl
theorem jm_273_64 : jmp 273 64 = bl_273_64 := by unfold jmp codeOf; rw [md_273]; rfl
theorem jm_273_82 : jmp 273 82 = bl_273_82 := by unfold jmp codeOf; rw [md_273]; rfl
theorem jm_273_88 : jmp 273 88 = bl_273_88 := by unfold jmp codeOf; rw [md_273]; rfl
theorem jm_274_2 : jmp 274 2 = bl_274_2 := by unfold jmp codeOf; rw [md_274]; rfl
theorem jm_274_26 : jmp 274 26 = bl_274_26 := by unfold jmp codeOf; rw [md_274]; rfl
theorem jm_275_39 : jmp 275 39 = bl_275_39 := by unfold jmp codeOf; rw [md_275]; rfl
theorem jm_276_2 : jmp 276 2 = bl_276_2 := by unfold jmp codeOf; rw [md_276]; rfl
theorem jm_276_44 : jmp 276 44 = bl_276_44 := by unfold jmp codeOf; rw [md_276]; rfl
theorem jm_276_46 : jmp 276 46 = bl_276_46 := by unfold jmp codeOf; rw [md_276]; rfl
theorem jm_276_91 : jmp 276 91 = bl_276_91 := by unfold jmp codeOf; rw [md_276]; rfl
theorem jm_277_8 : jmp 277 8 = bl_277_8 := by unfold jmp codeOf; rw [md_277]; rfl
theorem jm_277_56 : jmp 277 56 = bl_277_56 := by unfold jmp codeOf; rw [md_277]; rfl
theorem jm_277_62 : jmp 277 62 = bl_277_62 := by unfold jmp codeOf; rw [md_277]; rfl
theorem jm_278_17 : jmp 278 17 = bl_278_17 := by unfold jmp codeOf; rw [md_278]; rfl
theorem jm_278_70 : jmp 278 70 = bl_278_70 := by unfold jmp codeOf; rw [md_278]; rfl
theorem jm_278_76 : jmp 278 76 = bl_278_76 := by unfold jmp codeOf; rw [md_278]; rfl
theorem jm_279_32 : jmp 279 32 = bl_279_32 := by unfold jmp codeOf; rw [md_279]; rfl
theorem jm_279_40 : jmp 279 40 = bl_279_40 := by unfold jmp codeOf; rw [md_279]; rfl
theorem jm_279_61 : jmp 279 61 = bl_279_61 := by unfold jmp codeOf; rw [md_279]; rfl
theorem jm_279_63 : jmp 279 63 = bl_279_63 := by unfold jmp codeOf; rw [md_279]; rfl
theorem jm_279_86 : jmp 279 86 = bl_279_86 := by unfold jmp codeOf; rw [md_279]; rfl
theorem jm_279_97 : jmp 279 97 = bl_279_97 := by unfold jmp codeOf; rw [md_279]; rfl
theorem jm_279_103 : jmp 279 103 = bl_279_103 := by unfold jmp codeOf; rw [md_279]; rfl
theorem jm_279_106 : jmp 279 106 = bl_279_106 := by unfold jmp codeOf; rw [md_279]; rfl
theorem jm_279_133 : jmp 279 133 = bl_279_133 := by unfold jmp codeOf; rw [md_279]; rfl
theorem jm_279_139 : jmp 279 139 = bl_279_139 := by unfold jmp codeOf; rw [md_279]; rfl
theorem jm_279_169 : jmp 279 169 = bl_279_169 := by unfold jmp codeOf; rw [md_279]; rfl
theorem jm_279_175 : jmp 279 175 = bl_279_175 := by unfold jmp codeOf; rw [md_279]; rfl
theorem jm_279_179 : jmp 279 179 = bl_279_179 := by unfold jmp codeOf; rw [md_279]; rfl
theorem jm_279_183 : jmp 279 183 = bl_279_183 := by unfold jmp codeOf; rw [md_279]; rfl
theorem jm_280_2 : jmp 280 2 = bl_280_2 := by unfold jmp codeOf; rw [md_280]; rfl
theorem jm_280_25 : jmp 280 25 = bl_280_25 := by unfold jmp codeOf; rw [md_280]; rfl
theorem jm_280_66 : jmp 280 66 = bl_280_66 := by unfold jmp codeOf; rw [md_280]; rfl
theorem jm_280_72 : jmp 280 72 = bl_280_72 := by unfold jmp codeOf; rw [md_280]; rfl
theorem jm_281_32 : jmp 281 32 = bl_281_32 := by unfold jmp codeOf; rw [md_281]; rfl
theorem jm_281_34 : jmp 281 34 = bl_281_34 := by unfold jmp codeOf; rw [md_281]; rfl
theorem jm_281_39 : jmp 281 39 = bl_281_39 := by unfold jmp codeOf; rw [md_281]; rfl
theorem jm_281_73 : jmp 281 73 = bl_281_73 := by unfold jmp codeOf; rw [md_281]; rfl
theorem jm_282_2 : jmp 282 2 = bl_282_2 := by unfold jmp codeOf; rw [md_282]; rfl
theorem jm_282_32 : jmp 282 32 = bl_282_32 := by unfold jmp codeOf; rw [md_282]; rfl
theorem jm_282_56 : jmp 282 56 = bl_282_56 := by unfold jmp codeOf; rw [md_282]; rfl
theorem jm_282_62 : jmp 282 62 = bl_282_62 := by unfold jmp codeOf; rw [md_282]; rfl
theorem jm_283_9 : jmp 283 9 = bl_283_9 := by unfold jmp codeOf; rw [md_283]; rfl
theorem jm_283_11 : jmp 283 11 = bl_283_11 := by unfold jmp codeOf; rw [md_283]; rfl
theorem jm_283_45 : jmp 283 45 = bl_283_45 := by unfold jmp codeOf; rw [md_283]; rfl
theorem jm_285_14 : jmp 285 14 = bl_285_14 := by unfold jmp codeOf; rw [md_285]; rfl
theorem jm_285_30 : jmp 285 30 = bl_285_30 := by unfold jmp codeOf; rw [md_285]; rfl
theorem jm_285_47 : jmp 285 47 = bl_285_47 := by unfold jmp codeOf; rw [md_285]; rfl
theorem jm_285_52 : jmp 285 52 = bl_285_52 := by unfold jmp codeOf; rw [md_285]; rfl
theorem jm_286_6 : jmp 286 6 = bl_286_6 := by unfold jmp codeOf; rw [md_286]; rfl
theorem jm_287_32 : jmp 287 32 = bl_287_32 := by unfold jmp codeOf; rw [md_287]; rfl
theorem jm_287_60 : jmp 287 60 = bl_287_60 := by unfold jmp codeOf; rw [md_287]; rfl
theorem jm_287_61 : jmp 287 61 = bl_287_61 := by unfold jmp codeOf; rw [md_287]; rfl
theorem jm_287_87 : jmp 287 87 = bl_287_87 := by unfold jmp codeOf; rw [md_287]; rfl
theorem jm_287_91 : jmp 287 91 = bl_287_91 := by unfold jmp codeOf; rw [md_287]; rfl
theorem jm_287_93 : jmp 287 93 = bl_287_93 := by unfold jmp codeOf; rw [md_287]; rfl
theorem jm_287_119 : jmp 287 119 = bl_287_119 := by unfold jmp codeOf; rw [md_287]; rfl
theorem jm_287_133 : jmp 287 133 = bl_287_133 := by unfold jmp codeOf; rw [md_287]; rfl
theorem jm_287_137 : jmp 287 137 = bl_287_137 := by unfold jmp codeOf; rw [md_287]; rfl
theorem jm_287_138 : jmp 287 138 = bl_287_138 := by unfold jmp codeOf; rw [md_287]; rfl
theorem jm_287_156 : jmp 287 156 = bl_287_156 := by unfold jmp codeOf; rw [md_287]; rfl
theorem jm_287_174 : jmp 287 174 = bl_287_174 := by unfold jmp codeOf; rw [md_287]; rfl
theorem jm_287_182 : jmp 287 182 = bl_287_182 := by unfold jmp codeOf; rw [md_287]; rfl
theorem jm_287_221 : jmp 287 221 = bl_287_221 := by unfold jmp codeOf; rw [md_287]; rfl
theorem jm_287_229 : jmp 287 229 = bl_287_229 := by unfold jmp codeOf; rw [md_287]; rfl
theorem jm_287_246 : jmp 287 246 = bl_287_246 := by unfold jmp codeOf; rw [md_287]; rfl
theorem jm_287_248 : jmp 287 248 = bl_287_248 := by unfold jmp codeOf; rw [md_287]; rfl
theorem jm_287_249 : jmp 287 249 = bl_287_249 := by unfold jmp codeOf; rw [md_287]; rfl
theorem jm_287_255 : jmp 287 255 = bl_287_255 := by unfold jmp codeOf; rw [md_287]; rfl
theorem jm_288_17 : jmp 288 17 = bl_288_17 := by unfold jmp codeOf; rw [md_288]; rfl
theorem jm_288_18 : jmp 288 18 = bl_288_18 := by unfold jmp codeOf; rw [md_288]; rfl
theorem jm_288_21 : jmp 288 21 = bl_288_21 := by unfold jmp codeOf; rw [md_288]; rfl
theorem jm_288_86 : jmp 288 86 = bl_288_86 := by unfold jmp codeOf; rw [md_288]; rfl
theorem jm_288_87 : jmp 288 87 = bl_288_87 := by unfold jmp codeOf; rw [md_288]; rfl
theorem jm_288_99 : jmp 288 99 = bl_288_99 := by unfold jmp codeOf; rw [md_288]; rfl
theorem jm_288_114 : jmp 288 114 = bl_288_114 := by unfold jmp codeOf; rw [md_288]; rfl
theorem jm_290_13 : jmp 290 13 = bl_290_13 := by unfold jmp codeOf; rw [md_290]; rfl
theorem jm_290_19 : jmp 290 19 = bl_290_19 := by unfold jmp codeOf; rw [md_290]; rfl
theorem jm_292_14 : jmp 292 14 = bl_292_14 := by unfold jmp codeOf; rw [md_292]; rfl
theorem jm_292_16 : jmp 292 16 = bl_292_16 := by unfold jmp codeOf; rw [md_292]; rfl
theorem jm_292_35 : jmp 292 35 = bl_292_35 := by unfold jmp codeOf; rw [md_292]; rfl
theorem jm_292_84 : jmp 292 84 = bl_292_84 := by unfold jmp codeOf; rw [md_292]; rfl
theorem jm_292_90 : jmp 292 90 = bl_292_90 := by unfold jmp codeOf; rw [md_292]; rfl
theorem jm_292_111 : jmp 292 111 = bl_292_111 := by unfold jmp codeOf; rw [md_292]; rfl
theorem jm_292_113 : jmp 292 113 = bl_292_113 := by unfold jmp codeOf; rw [md_292]; rfl
theorem jm_292_138 : jmp 292 138 = bl_292_138 := by unfold jmp codeOf; rw [md_292]; rfl
theorem jm_292_144 : jmp 292 144 = bl_292_144 := by unfold jmp codeOf; rw [md_292]; rfl
theorem jm_292_150 : jmp 292 150 = bl_292_150 := by unfold jmp codeOf; rw [md_292]; rfl
theorem jm_293_33 : jmp 293 33 = bl_293_33 := by unfold jmp codeOf; rw [md_293]; rfl
theorem jm_293_44 : jmp 293 44 = bl_293_44 := by unfold jmp codeOf; rw [md_293]; rfl
theorem jm_293_45 : jmp 293 45 = bl_293_45 := by unfold jmp codeOf; rw [md_293]; rfl
theorem jm_294_34 : jmp 294 34 = bl_294_34 := by unfold jmp codeOf; rw [md_294]; rfl
theorem jm_294_39 : jmp 294 39 = bl_294_39 := by unfold jmp codeOf; rw [md_294]; rfl
theorem jm_294_44 : jmp 294 44 = bl_294_44 := by unfold jmp codeOf; rw [md_294]; rfl
theorem jm_294_94 : jmp 294 94 = bl_294_94 := by unfold jmp codeOf; rw [md_294]; rfl
theorem jm_294_101 : jmp 294 101 = bl_294_101 := by unfold jmp codeOf; rw [md_294]; rfl
theorem jm_294_139 : jmp 294 139 = bl_294_139 := by unfold jmp codeOf; rw [md_294]; rfl
theorem jm_294_141 : jmp 294 141 = bl_294_141 := by unfold jmp codeOf; rw [md_294]; rfl
theorem jm_294_149 : jmp 294 149 = bl_294_149 := by unfold jmp codeOf; rw [md_294]; rfl
theorem jm_294_152 : jmp 294 152 = bl_294_152 := by unfold jmp codeOf; rw [md_294]; rfl
theorem jm_294_220 : jmp 294 220 = bl_294_220 := by unfold jmp codeOf; rw [md_294]; rfl
theorem jm_294_226 : jmp 294 226 = bl_294_226 := by unfold jmp codeOf; rw [md_294]; rfl
theorem jm_295_15 : jmp 295 15 = bl_295_15 := by unfold jmp codeOf; rw [md_295]; rfl
theorem jm_295_42 : jmp 295 42 = bl_295_42 := by unfold jmp codeOf; rw [md_295]; rfl
theorem jm_295_44 : jmp 295 44 = bl_295_44 := by unfold jmp codeOf; rw [md_295]; rfl
theorem jm_295_52 : jmp 295 52 = bl_295_52 := by unfold jmp codeOf; rw [md_295]; rfl
theorem jm_295_59 : jmp 295 59 = bl_295_59 := by unfold jmp codeOf; rw [md_295]; rfl
theorem jm_295_114 : jmp 295 114 = bl_295_114 := by unfold jmp codeOf; rw [md_295]; rfl
theorem jm_295_129 : jmp 295 129 = bl_295_129 := by unfold jmp codeOf; rw [md_295]; rfl
theorem jm_295_137 : jmp 295 137 = bl_295_137 := by unfold jmp codeOf; rw [md_295]; rfl
theorem jm_295_168 : jmp 295 168 = bl_295_168 := by unfold jmp codeOf; rw [md_295]; rfl
theorem jm_295_172 : jmp 295 172 = bl_295_172 := by unfold jmp codeOf; rw [md_295]; rfl
theorem jm_295_187 : jmp 295 187 = bl_295_187 := by unfold jmp codeOf; rw [md_295]; rfl
theorem jm_296_13 : jmp 296 13 = bl_296_13 := by unfold jmp codeOf; rw [md_296]; rfl
theorem jm_296_27 : jmp 296 27 = bl_296_27 := by unfold jmp codeOf; rw [md_296]; rfl
theorem jm_297_13 : jmp 297 13 = bl_297_13 := by unfold jmp codeOf; rw [md_297]; rfl
theorem jm_297_39 : jmp 297 39 = bl_297_39 := by unfold jmp codeOf; rw [md_297]; rfl
theorem jm_297_40 : jmp 297 40 = bl_297_40 := by unfold jmp codeOf; rw [md_297]; rfl
theorem jm_298_14 : jmp 298 14 = bl_298_14 := by unfold jmp codeOf; rw [md_298]; rfl
theorem jm_300_12 : jmp 300 12 = bl_300_12 := by unfold jmp codeOf; rw [md_300]; rfl
theorem jm_300_38 : jmp 300 38 = bl_300_38 := by unfold jmp codeOf; rw [md_300]; rfl
theorem jm_300_39 : jmp 300 39 = bl_300_39 := by unfold jmp codeOf; rw [md_300]; rfl
theorem jm_301_40 : jmp 301 40 = bl_301_40 := by unfold jmp codeOf; rw [md_301]; rfl
theorem jm_301_42 : jmp 301 42 = bl_301_42 := by unfold jmp codeOf; rw [md_301]; rfl
theorem jm_302_24 : jmp 302 24 = bl_302_24 := by unfold jmp codeOf; rw [md_302]; rfl
theorem jm_302_25 : jmp 302 25 = bl_302_25 := by unfold jmp codeOf; rw [md_302]; rfl
theorem jm_303_18 : jmp 303 18 = bl_303_18 := by unfold jmp codeOf; rw [md_303]; rfl
theorem jm_303_20 : jmp 303 20 = bl_303_20 := by unfold jmp codeOf; rw [md_303]; rfl
theorem jm_304_18 : jmp 304 18 = bl_304_18 := by unfold jmp codeOf; rw [md_304]; rfl
theorem jm_304_72 : jmp 304 72 = bl_304_72 := by unfold jmp codeOf; rw [md_304]; rfl
theorem jm_304_78 : jmp 304 78 = bl_304_78 := by unfold jmp codeOf; rw [md_304]; rfl
theorem jm_304_84 : jmp 304 84 = bl_304_84 := by unfold jmp codeOf; rw [md_304]; rfl
theorem jm_304_90 : jmp 304 90 = bl_304_90 := by unfold jmp codeOf; rw [md_304]; rfl
theorem jm_304_101 : jmp 304 101 = bl_304_101 := by unfold jmp codeOf; rw [md_304]; rfl
theorem jm_304_116 : jmp 304 116 = bl_304_116 := by unfold jmp codeOf; rw [md_304]; rfl
theorem jm_304_137 : jmp 304 137 = bl_304_137 := by unfold jmp codeOf; rw [md_304]; rfl
theorem jm_304_152 : jmp 304 152 = bl_304_152 := by unfold jmp codeOf; rw [md_304]; rfl
theorem jm_304_171 : jmp 304 171 = bl_304_171 := by unfold jmp codeOf; rw [md_304]; rfl
theorem jm_304_181 : jmp 304 181 = bl_304_181 := by unfold jmp codeOf; rw [md_304]; rfl
theorem jm_304_182 : jmp 304 182 = bl_304_182 := by unfold jmp codeOf; rw [md_304]; rfl
theorem jm_304_215 : jmp 304 215 = bl_304_215 := by unfold jmp codeOf; rw [md_304]; rfl
theorem jm_304_221 : jmp 304 221 = bl_304_221 := by unfold jmp codeOf; rw [md_304]; rfl
theorem jm_304_222 : jmp 304 222 = bl_304_222 := by unfold jmp codeOf; rw [md_304]; rfl
theorem jm_304_242 : jmp 304 242 = bl_304_242 := by unfold jmp codeOf; rw [md_304]; rfl
theorem jm_304_246 : jmp 304 246 = bl_304_246 := by unfold jmp codeOf; rw [md_304]; rfl
theorem jm_304_247 : jmp 304 247 = bl_304_247 := by unfold jmp codeOf; rw [md_304]; rfl
theorem jm_305_14 : jmp 305 14 = bl_305_14 := by unfold jmp codeOf; rw [md_305]; rfl
theorem jm_305_42 : jmp 305 42 = bl_305_42 := by unfold jmp codeOf; rw [md_305]; rfl
theorem jm_305_46 : jmp 305 46 = bl_305_46 := by unfold jmp codeOf; rw [md_305]; rfl
theorem jm_305_114 : jmp 305 114 = bl_305_114 := by unfold jmp codeOf; rw [md_305]; rfl
theorem jm_305_120 : jmp 305 120 = bl_305_120 := by unfold jmp codeOf; rw [md_305]; rfl
theorem jm_306_18 : jmp 306 18 = bl_306_18 := by unfold jmp codeOf; rw [md_306]; rfl
theorem jm_306_35 : jmp 306 35 = bl_306_35 := by unfold jmp codeOf; rw [md_306]; rfl
theorem jm_306_36 : jmp 306 36 = bl_306_36 := by unfold jmp codeOf; rw [md_306]; rfl
theorem jm_306_56 : jmp 306 56 = bl_306_56 := by unfold jmp codeOf; rw [md_306]; rfl
theorem jm_306_57 : jmp 306 57 = bl_306_57 := by unfold jmp codeOf; rw [md_306]; rfl
theorem jm_306_65 : jmp 306 65 = bl_306_65 := by unfold jmp codeOf; rw [md_306]; rfl
theorem jm_306_109 : jmp 306 109 = bl_306_109 := by unfold jmp codeOf; rw [md_306]; rfl
theorem jm_306_138 : jmp 306 138 = bl_306_138 := by unfold jmp codeOf; rw [md_306]; rfl
theorem jm_306_144 : jmp 306 144 = bl_306_144 := by unfold jmp codeOf; rw [md_306]; rfl
theorem jm_307_38 : jmp 307 38 = bl_307_38 := by unfold jmp codeOf; rw [md_307]; rfl
theorem jm_307_42 : jmp 307 42 = bl_307_42 := by unfold jmp codeOf; rw [md_307]; rfl
theorem jm_307_43 : jmp 307 43 = bl_307_43 := by unfold jmp codeOf; rw [md_307]; rfl
theorem jm_307_59 : jmp 307 59 = bl_307_59 := by unfold jmp codeOf; rw [md_307]; rfl
theorem jm_307_60 : jmp 307 60 = bl_307_60 := by unfold jmp codeOf; rw [md_307]; rfl
theorem jm_307_75 : jmp 307 75 = bl_307_75 := by unfold jmp codeOf; rw [md_307]; rfl
theorem jm_307_102 : jmp 307 102 = bl_307_102 := by unfold jmp codeOf; rw [md_307]; rfl
theorem jm_307_115 : jmp 307 115 = bl_307_115 := by unfold jmp codeOf; rw [md_307]; rfl
theorem jm_307_133 : jmp 307 133 = bl_307_133 := by unfold jmp codeOf; rw [md_307]; rfl
theorem jm_307_135 : jmp 307 135 = bl_307_135 := by unfold jmp codeOf; rw [md_307]; rfl
theorem jm_307_136 : jmp 307 136 = bl_307_136 := by unfold jmp codeOf; rw [md_307]; rfl
theorem jm_307_166 : jmp 307 166 = bl_307_166 := by unfold jmp codeOf; rw [md_307]; rfl
theorem jm_307_168 : jmp 307 168 = bl_307_168 := by unfold jmp codeOf; rw [md_307]; rfl
theorem jm_308_32 : jmp 308 32 = bl_308_32 := by unfold jmp codeOf; rw [md_308]; rfl
theorem jm_308_34 : jmp 308 34 = bl_308_34 := by unfold jmp codeOf; rw [md_308]; rfl
theorem jm_309_24 : jmp 309 24 = bl_309_24 := by unfold jmp codeOf; rw [md_309]; rfl
theorem jm_309_25 : jmp 309 25 = bl_309_25 := by unfold jmp codeOf; rw [md_309]; rfl
theorem jm_311_32 : jmp 311 32 = bl_311_32 := by unfold jmp codeOf; rw [md_311]; rfl
theorem jm_311_34 : jmp 311 34 = bl_311_34 := by unfold jmp codeOf; rw [md_311]; rfl
theorem jm_312_44 : jmp 312 44 = bl_312_44 := by unfold jmp codeOf; rw [md_312]; rfl
theorem jm_312_46 : jmp 312 46 = bl_312_46 := by unfold jmp codeOf; rw [md_312]; rfl
theorem jm_313_25 : jmp 313 25 = bl_313_25 := by unfold jmp codeOf; rw [md_313]; rfl
theorem jm_313_27 : jmp 313 27 = bl_313_27 := by unfold jmp codeOf; rw [md_313]; rfl
theorem jm_314_24 : jmp 314 24 = bl_314_24 := by unfold jmp codeOf; rw [md_314]; rfl
theorem jm_314_26 : jmp 314 26 = bl_314_26 := by unfold jmp codeOf; rw [md_314]; rfl
theorem jm_314_35 : jmp 314 35 = bl_314_35 := by unfold jmp codeOf; rw [md_314]; rfl
theorem jm_314_53 : jmp 314 53 = bl_314_53 := by unfold jmp codeOf; rw [md_314]; rfl
theorem jm_314_81 : jmp 314 81 = bl_314_81 := by unfold jmp codeOf; rw [md_314]; rfl
theorem jm_314_104 : jmp 314 104 = bl_314_104 := by unfold jmp codeOf; rw [md_314]; rfl
theorem jm_314_106 : jmp 314 106 = bl_314_106 := by unfold jmp codeOf; rw [md_314]; rfl
theorem jm_315_4 : jmp 315 4 = bl_315_4 := by unfold jmp codeOf; rw [md_315]; rfl
theorem jm_315_27 : jmp 315 27 = bl_315_27 := by unfold jmp codeOf; rw [md_315]; rfl
theorem jm_315_28 : jmp 315 28 = bl_315_28 := by unfold jmp codeOf; rw [md_315]; rfl
theorem jm_315_36 : jmp 315 36 = bl_315_36 := by unfold jmp codeOf; rw [md_315]; rfl
theorem jm_316_18 : jmp 316 18 = bl_316_18 := by unfold jmp codeOf; rw [md_316]; rfl
theorem jm_316_20 : jmp 316 20 = bl_316_20 := by unfold jmp codeOf; rw [md_316]; rfl
theorem jm_316_42 : jmp 316 42 = bl_316_42 := by unfold jmp codeOf; rw [md_316]; rfl
theorem jm_316_50 : jmp 316 50 = bl_316_50 := by unfold jmp codeOf; rw [md_316]; rfl
theorem jm_317_12 : jmp 317 12 = bl_317_12 := by unfold jmp codeOf; rw [md_317]; rfl
theorem jm_317_54 : jmp 317 54 = bl_317_54 := by unfold jmp codeOf; rw [md_317]; rfl
theorem jm_317_55 : jmp 317 55 = bl_317_55 := by unfold jmp codeOf; rw [md_317]; rfl
theorem jm_318_40 : jmp 318 40 = bl_318_40 := by unfold jmp codeOf; rw [md_318]; rfl
theorem jm_318_41 : jmp 318 41 = bl_318_41 := by unfold jmp codeOf; rw [md_318]; rfl
theorem jm_319_42 : jmp 319 42 = bl_319_42 := by unfold jmp codeOf; rw [md_319]; rfl
theorem jm_319_43 : jmp 319 43 = bl_319_43 := by unfold jmp codeOf; rw [md_319]; rfl
theorem jm_320_25 : jmp 320 25 = bl_320_25 := by unfold jmp codeOf; rw [md_320]; rfl
theorem jm_320_27 : jmp 320 27 = bl_320_27 := by unfold jmp codeOf; rw [md_320]; rfl
theorem jm_321_26 : jmp 321 26 = bl_321_26 := by unfold jmp codeOf; rw [md_321]; rfl
theorem jm_321_27 : jmp 321 27 = bl_321_27 := by unfold jmp codeOf; rw [md_321]; rfl
theorem jm_322_38 : jmp 322 38 = bl_322_38 := by unfold jmp codeOf; rw [md_322]; rfl
theorem jm_322_39 : jmp 322 39 = bl_322_39 := by unfold jmp codeOf; rw [md_322]; rfl
theorem jm_323_13 : jmp 323 13 = bl_323_13 := by unfold jmp codeOf; rw [md_323]; rfl
theorem jm_323_15 : jmp 323 15 = bl_323_15 := by unfold jmp codeOf; rw [md_323]; rfl
theorem jm_323_37 : jmp 323 37 = bl_323_37 := by unfold jmp codeOf; rw [md_323]; rfl
theorem jm_323_51 : jmp 323 51 = bl_323_51 := by unfold jmp codeOf; rw [md_323]; rfl
theorem jm_323_80 : jmp 323 80 = bl_323_80 := by unfold jmp codeOf; rw [md_323]; rfl
theorem jm_323_81 : jmp 323 81 = bl_323_81 := by unfold jmp codeOf; rw [md_323]; rfl
theorem jm_324_56 : jmp 324 56 = bl_324_56 := by unfold jmp codeOf; rw [md_324]; rfl
theorem jm_324_61 : jmp 324 61 = bl_324_61 := by unfold jmp codeOf; rw [md_324]; rfl
theorem jm_324_66 : jmp 324 66 = bl_324_66 := by unfold jmp codeOf; rw [md_324]; rfl
theorem jm_324_71 : jmp 324 71 = bl_324_71 := by unfold jmp codeOf; rw [md_324]; rfl
theorem jm_324_76 : jmp 324 76 = bl_324_76 := by unfold jmp codeOf; rw [md_324]; rfl
theorem jm_324_78 : jmp 324 78 = bl_324_78 := by unfold jmp codeOf; rw [md_324]; rfl
theorem jm_324_97 : jmp 324 97 = bl_324_97 := by unfold jmp codeOf; rw [md_324]; rfl
theorem jm_324_98 : jmp 324 98 = bl_324_98 := by unfold jmp codeOf; rw [md_324]; rfl
theorem jm_324_106 : jmp 324 106 = bl_324_106 := by unfold jmp codeOf; rw [md_324]; rfl
theorem jm_324_108 : jmp 324 108 = bl_324_108 := by unfold jmp codeOf; rw [md_324]; rfl
theorem jm_324_113 : jmp 324 113 = bl_324_113 := by unfold jmp codeOf; rw [md_324]; rfl
theorem jm_324_122 : jmp 324 122 = bl_324_122 := by unfold jmp codeOf; rw [md_324]; rfl
theorem jm_324_130 : jmp 324 130 = bl_324_130 := by unfold jmp codeOf; rw [md_324]; rfl
theorem jm_324_132 : jmp 324 132 = bl_324_132 := by unfold jmp codeOf; rw [md_324]; rfl
theorem jm_324_158 : jmp 324 158 = bl_324_158 := by unfold jmp codeOf; rw [md_324]; rfl
theorem jm_324_159 : jmp 324 159 = bl_324_159 := by unfold jmp codeOf; rw [md_324]; rfl
theorem jm_324_167 : jmp 324 167 = bl_324_167 := by unfold jmp codeOf; rw [md_324]; rfl
theorem jm_324_169 : jmp 324 169 = bl_324_169 := by unfold jmp codeOf; rw [md_324]; rfl
theorem jm_324_174 : jmp 324 174 = bl_324_174 := by unfold jmp codeOf; rw [md_324]; rfl
theorem jm_325_12 : jmp 325 12 = bl_325_12 := by unfold jmp codeOf; rw [md_325]; rfl
theorem jm_325_31 : jmp 325 31 = bl_325_31 := by unfold jmp codeOf; rw [md_325]; rfl
theorem jm_325_37 : jmp 325 37 = bl_325_37 := by unfold jmp codeOf; rw [md_325]; rfl
theorem jm_325_39 : jmp 325 39 = bl_325_39 := by unfold jmp codeOf; rw [md_325]; rfl
theorem jm_325_91 : jmp 325 91 = bl_325_91 := by unfold jmp codeOf; rw [md_325]; rfl
theorem jm_325_97 : jmp 325 97 = bl_325_97 := by unfold jmp codeOf; rw [md_325]; rfl
theorem jm_325_99 : jmp 325 99 = bl_325_99 := by unfold jmp codeOf; rw [md_325]; rfl
theorem jm_325_116 : jmp 325 116 = bl_325_116 := by unfold jmp codeOf; rw [md_325]; rfl
theorem jm_325_118 : jmp 325 118 = bl_325_118 := by unfold jmp codeOf; rw [md_325]; rfl
theorem jm_325_135 : jmp 325 135 = bl_325_135 := by unfold jmp codeOf; rw [md_325]; rfl
theorem jm_325_137 : jmp 325 137 = bl_325_137 := by unfold jmp codeOf; rw [md_325]; rfl
theorem jm_325_163 : jmp 325 163 = bl_325_163 := by unfold jmp codeOf; rw [md_325]; rfl
theorem jm_325_169 : jmp 325 169 = bl_325_169 := by unfold jmp codeOf; rw [md_325]; rfl
theorem jm_325_175 : jmp 325 175 = bl_325_175 := by unfold jmp codeOf; rw [md_325]; rfl
theorem jm_325_193 : jmp 325 193 = bl_325_193 := by unfold jmp codeOf; rw [md_325]; rfl
theorem jm_325_195 : jmp 325 195 = bl_325_195 := by unfold jmp codeOf; rw [md_325]; rfl
theorem jm_325_213 : jmp 325 213 = bl_325_213 := by unfold jmp codeOf; rw [md_325]; rfl
theorem jm_325_215 : jmp 325 215 = bl_325_215 := by unfold jmp codeOf; rw [md_325]; rfl
theorem jm_325_232 : jmp 325 232 = bl_325_232 := by unfold jmp codeOf; rw [md_325]; rfl
theorem jm_325_244 : jmp 325 244 = bl_325_244 := by unfold jmp codeOf; rw [md_325]; rfl
theorem jm_325_254 : jmp 325 254 = bl_325_254 := by unfold jmp codeOf; rw [md_325]; rfl
theorem jm_325_280 : jmp 325 280 = bl_325_280 := by unfold jmp codeOf; rw [md_325]; rfl
theorem jm_326_66 : jmp 326 66 = bl_326_66 := by unfold jmp codeOf; rw [md_326]; rfl
theorem jm_326_91 : jmp 326 91 = bl_326_91 := by unfold jmp codeOf; rw [md_326]; rfl
theorem jm_326_109 : jmp 326 109 = bl_326_109 := by unfold jmp codeOf; rw [md_326]; rfl
theorem jm_326_127 : jmp 326 127 = bl_326_127 := by unfold jmp codeOf; rw [md_326]; rfl
theorem jm_328_6 : jmp 328 6 = bl_328_6 := by unfold jmp codeOf; rw [md_328]; rfl
theorem jm_328_30 : jmp 328 30 = bl_328_30 := by unfold jmp codeOf; rw [md_328]; rfl
theorem jm_328_33 : jmp 328 33 = bl_328_33 := by unfold jmp codeOf; rw [md_328]; rfl
theorem jm_328_72 : jmp 328 72 = bl_328_72 := by unfold jmp codeOf; rw [md_328]; rfl
theorem jm_329_13 : jmp 329 13 = bl_329_13 := by unfold jmp codeOf; rw [md_329]; rfl
theorem jm_330_20 : jmp 330 20 = bl_330_20 := by unfold jmp codeOf; rw [md_330]; rfl
theorem jm_331_6 : jmp 331 6 = bl_331_6 := by unfold jmp codeOf; rw [md_331]; rfl
theorem jm_331_22 : jmp 331 22 = bl_331_22 := by unfold jmp codeOf; rw [md_331]; rfl
theorem jm_331_24 : jmp 331 24 = bl_331_24 := by unfold jmp codeOf; rw [md_331]; rfl
theorem jm_331_49 : jmp 331 49 = bl_331_49 := by unfold jmp codeOf; rw [md_331]; rfl
theorem jm_334_2 : jmp 334 2 = bl_334_2 := by unfold jmp codeOf; rw [md_334]; rfl
theorem jm_334_23 : jmp 334 23 = bl_334_23 := by unfold jmp codeOf; rw [md_334]; rfl
theorem jm_334_43 : jmp 334 43 = bl_334_43 := by unfold jmp codeOf; rw [md_334]; rfl
theorem jm_335_18 : jmp 335 18 = bl_335_18 := by unfold jmp codeOf; rw [md_335]; rfl
theorem jm_335_35 : jmp 335 35 = bl_335_35 := by unfold jmp codeOf; rw [md_335]; rfl
theorem jm_335_68 : jmp 335 68 = bl_335_68 := by unfold jmp codeOf; rw [md_335]; rfl
theorem jm_335_74 : jmp 335 74 = bl_335_74 := by unfold jmp codeOf; rw [md_335]; rfl
theorem jm_336_4 : jmp 336 4 = bl_336_4 := by unfold jmp codeOf; rw [md_336]; rfl
theorem jm_336_26 : jmp 336 26 = bl_336_26 := by unfold jmp codeOf; rw [md_336]; rfl
theorem jm_336_27 : jmp 336 27 = bl_336_27 := by unfold jmp codeOf; rw [md_336]; rfl
theorem jm_336_35 : jmp 336 35 = bl_336_35 := by unfold jmp codeOf; rw [md_336]; rfl
theorem jm_337_33 : jmp 337 33 = bl_337_33 := by unfold jmp codeOf; rw [md_337]; rfl
theorem jm_337_35 : jmp 337 35 = bl_337_35 := by unfold jmp codeOf; rw [md_337]; rfl
theorem jm_337_64 : jmp 337 64 = bl_337_64 := by unfold jmp codeOf; rw [md_337]; rfl
theorem jm_337_97 : jmp 337 97 = bl_337_97 := by unfold jmp codeOf; rw [md_337]; rfl
theorem jm_337_103 : jmp 337 103 = bl_337_103 := by unfold jmp codeOf; rw [md_337]; rfl
theorem jm_339_15 : jmp 339 15 = bl_339_15 := by unfold jmp codeOf; rw [md_339]; rfl
theorem jm_339_54 : jmp 339 54 = bl_339_54 := by unfold jmp codeOf; rw [md_339]; rfl
theorem jm_339_60 : jmp 339 60 = bl_339_60 := by unfold jmp codeOf; rw [md_339]; rfl
theorem jm_339_99 : jmp 339 99 = bl_339_99 := by unfold jmp codeOf; rw [md_339]; rfl
theorem jm_339_140 : jmp 339 140 = bl_339_140 := by unfold jmp codeOf; rw [md_339]; rfl
theorem jm_339_163 : jmp 339 163 = bl_339_163 := by unfold jmp codeOf; rw [md_339]; rfl
theorem jm_339_177 : jmp 339 177 = bl_339_177 := by unfold jmp codeOf; rw [md_339]; rfl
theorem jm_339_211 : jmp 339 211 = bl_339_211 := by unfold jmp codeOf; rw [md_339]; rfl
theorem jm_339_217 : jmp 339 217 = bl_339_217 := by unfold jmp codeOf; rw [md_339]; rfl
theorem jm_340_9 : jmp 340 9 = bl_340_9 := by unfold jmp codeOf; rw [md_340]; rfl
theorem jm_340_33 : jmp 340 33 = bl_340_33 := by unfold jmp codeOf; rw [md_340]; rfl
theorem jm_340_64 : jmp 340 64 = bl_340_64 := by unfold jmp codeOf; rw [md_340]; rfl
theorem jm_340_70 : jmp 340 70 = bl_340_70 := by unfold jmp codeOf; rw [md_340]; rfl
theorem jm_340_76 : jmp 340 76 = bl_340_76 := by unfold jmp codeOf; rw [md_340]; rfl
theorem jm_341_14 : jmp 341 14 = bl_341_14 := by unfold jmp codeOf; rw [md_341]; rfl
theorem jm_342_16 : jmp 342 16 = bl_342_16 := by unfold jmp codeOf; rw [md_342]; rfl
theorem jm_343_5 : jmp 343 5 = bl_343_5 := by unfold jmp codeOf; rw [md_343]; rfl
theorem jm_343_20 : jmp 343 20 = bl_343_20 := by unfold jmp codeOf; rw [md_343]; rfl
theorem jm_345_25 : jmp 345 25 = bl_345_25 := by unfold jmp codeOf; rw [md_345]; rfl
theorem jm_345_38 : jmp 345 38 = bl_345_38 := by unfold jmp codeOf; rw [md_345]; rfl
theorem jm_347_9 : jmp 347 9 = bl_347_9 := by unfold jmp codeOf; rw [md_347]; rfl
theorem jm_349_13 : jmp 349 13 = bl_349_13 := by unfold jmp codeOf; rw [md_349]; rfl
theorem jm_349_14 : jmp 349 14 = bl_349_14 := by unfold jmp codeOf; rw [md_349]; rfl
theorem jm_350_38 : jmp 350 38 = bl_350_38 := by unfold jmp codeOf; rw [md_350]; rfl
theorem jm_351_51 : jmp 351 51 = bl_351_51 := by unfold jmp codeOf; rw [md_351]; rfl
theorem jm_352_21 : jmp 352 21 = bl_352_21 := by unfold jmp codeOf; rw [md_352]; rfl
theorem jm_353_14 : jmp 353 14 = bl_353_14 := by unfold jmp codeOf; rw [md_353]; rfl
theorem jm_355_21 : jmp 355 21 = bl_355_21 := by unfold jmp codeOf; rw [md_355]; rfl
theorem jm_357_28 : jmp 357 28 = bl_357_28 := by unfold jmp codeOf; rw [md_357]; rfl
theorem jm_357_43 : jmp 357 43 = bl_357_43 := by unfold jmp codeOf; rw [md_357]; rfl
theorem jm_360_41 : jmp 360 41 = bl_360_41 := by unfold jmp codeOf; rw [md_360]; rfl
theorem jm_360_79 : jmp 360 79 = bl_360_79 := by unfold jmp codeOf; rw [md_360]; rfl
theorem jm_360_97 : jmp 360 97 = bl_360_97 := by unfold jmp codeOf; rw [md_360]; rfl
theorem jm_363_17 : jmp 363 17 = bl_363_17 := by unfold jmp codeOf; rw [md_363]; rfl
theorem jm_363_18 : jmp 363 18 = bl_363_18 := by unfold jmp codeOf; rw [md_363]; rfl
theorem jm_364_10 : jmp 364 10 = bl_364_10 := by unfold jmp codeOf; rw [md_364]; rfl
theorem jm_364_17 : jmp 364 17 = bl_364_17 := by unfold jmp codeOf; rw [md_364]; rfl
theorem jm_366_17 : jmp 366 17 = bl_366_17 := by unfold jmp codeOf; rw [md_366]; rfl
theorem jm_366_24 : jmp 366 24 = bl_366_24 := by unfold jmp codeOf; rw [md_366]; rfl
theorem jm_367_17 : jmp 367 17 = bl_367_17 := by unfold jmp codeOf; rw [md_367]; rfl
theorem jm_367_18 : jmp 367 18 = bl_367_18 := by unfold jmp codeOf; rw [md_367]; rfl
theorem jm_369_3 : jmp 369 3 = bl_369_3 := by unfold jmp codeOf; rw [md_369]; rfl
theorem jm_369_33 : jmp 369 33 = bl_369_33 := by unfold jmp codeOf; rw [md_369]; rfl
theorem jm_370_37 : jmp 370 37 = bl_370_37 := by unfold jmp codeOf; rw [md_370]; rfl
theorem RC_2 {Φ : Mem → Prop} {k pc : Nat} {i : Instr} {c : Cd} {L : LV} {st : List SV} {μ : Mem} {r1 r : Res} {x0 : Int} (e : ∀ rec : Rec, stp rec k i c L (vA x0 :: st) μ = callK rec 2 k c L (vA x0 :: st) μ) (hc : cats st ≤ 8) (hv : x0 ≠ 0 ∧ kd x0 = 7) (h1 : RunM 2 [vA x0] μ r1) (h : Rn Φ k c L (r1.1.toList ++ st) r1.2 r) : Rn Φ k ((pc, i) :: c) L (vA x0 :: st) μ r := CC (vs := [vA x0]) md_2 e rfl hc (decide_eq_true hv) rfl h1 h
theorem RC_3 {Φ : Mem → Prop} {k pc : Nat} {i : Instr} {c : Cd} {L : LV} {st : List SV} {μ : Mem} {r1 r : Res} {x0 x1 : Int} (e : ∀ rec : Rec, stp rec k i c L (vI x1 :: vA x0 :: st) μ = callK rec 3 k c L (vI x1 :: vA x0 :: st) μ) (hc : cats st ≤ 8) (h1 : RunM 3 [vA x0, vI x1] μ r1) (h : Rn Φ k c L (r1.1.toList ++ st) r1.2 r) : Rn Φ k ((pc, i) :: c) L (vI x1 :: vA x0 :: st) μ r := CC (vs := [vA x0, vI x1]) md_3 e rfl hc rfl rfl h1 h
theorem RC_4 {Φ : Mem → Prop} {k pc : Nat} {i : Instr} {c : Cd} {L : LV} {st : List SV} {μ : Mem} {r1 r : Res} {x0 : Int} (e : ∀ rec : Rec, stp rec k i c L (vA x0 :: st) μ = callK rec 4 k c L (vA x0 :: st) μ) (hc : cats st ≤ 8) (hv : x0 ≠ 0 ∧ kd x0 = 5) (h1 : RunM 4 [vA x0] μ r1) (h : Rn Φ k c L (r1.1.toList ++ st) r1.2 r) : Rn Φ k ((pc, i) :: c) L (vA x0 :: st) μ r := CC (vs := [vA x0]) md_4 e rfl hc (decide_eq_true hv) rfl h1 h
theorem RC_5 {Φ : Mem → Prop} {k pc : Nat} {i : Instr} {c : Cd} {L : LV} {st : List SV} {μ : Mem} {r1 r : Res} {x0 : Int} (e : ∀ rec : Rec, stp rec k i c L (vA x0 :: st) μ = callK rec 5 k c L (vA x0 :: st) μ) (hc : cats st ≤ 8) (hv : x0 ≠ 0 ∧ kd x0 = 1) (h1 : RunM 5 [vA x0] μ r1) (h : Rn Φ k c L (r1.1.toList ++ st) r1.2 r) : Rn Φ k ((pc, i) :: c) L (vA x0 :: st) μ r := CC (vs := [vA x0]) md_5 e rfl hc (decide_eq_true hv) rfl h1 h
theorem RC_6 {Φ : Mem → Prop} {k pc : Nat} {i : Instr} {c : Cd} {L : LV} {st : List SV} {μ : Mem} {r1 r : Res} {x0 x1 : Int} (e : ∀ rec : Rec, stp rec k i c L (vA x1 :: vA x0 :: st) μ = callK rec 6 k c L (vA x1 :: vA x0 :: st) μ) (hc : cats st ≤ 8) (hv : x0 ≠ 0 ∧ kd x0 = 3) (h1 : RunM 6 [vA x0, vA x1] μ r1) (h : Rn Φ k c L (r1.1.toList ++ st) r1.2 r) : Rn Φ k ((pc, i) :: c) L (vA x1 :: vA x0 :: st) μ r := CC (vs := [vA x0, vA x1]) md_6 e rfl hc (decide_eq_true hv) rfl h1 h
theorem RC_7 {Φ : Mem → Prop} {k pc : Nat} {i : Instr} {c : Cd} {L : LV} {st : List SV} {μ : Mem} {r1 r : Res} {x0 x1 x2 : Int} (e : ∀ rec : Rec, stp rec k i c L (vA x2 :: vA x1 :: vA x0 :: st) μ = callK rec 7 k c L (vA x2 :: vA x1 :: vA x0 :: st) μ) (hc : cats st ≤ 8) (hv : x0 ≠ 0 ∧ kd x0 = 8) (h1 : RunM 7 [vA x0, vA x1, vA x2] μ r1) (h : Rn Φ k c L (r1.1.toList ++ st) r1.2 r) : Rn Φ k ((pc, i) :: c) L (vA x2 :: vA x1 :: vA x0 :: st) μ r := CC (vs := [vA x0, vA x1, vA x2]) md_7 e rfl hc (decide_eq_true hv) rfl h1 h
theorem RC_8 {Φ : Mem → Prop} {k pc : Nat} {i : Instr} {c : Cd} {L : LV} {st : List SV} {μ : Mem} {r1 r : Res} {x0 : Int} (e : ∀ rec : Rec, stp rec k i c L (vA x0 :: st) μ = callK rec 8 k c L (vA x0 :: st) μ) (hc : cats st ≤ 8) (hv : x0 ≠ 0 ∧ kd x0 = 10) (h1 : RunM 8 [vA x0] μ r1) (h : Rn Φ k c L (r1.1.toList ++ st) r1.2 r) : Rn Φ k ((pc, i) :: c) L (vA x0 :: st) μ r := CC (vs := [vA x0]) md_8 e rfl hc (decide_eq_true hv) rfl h1 h
theorem RC_9 {Φ : Mem → Prop} {k pc : Nat} {i : Instr} {c : Cd} {L : LV} {st : List SV} {μ : Mem} {r1 r : Res} {x0 : Int} (e : ∀ rec : Rec, stp rec k i c L (vA x0 :: st) μ = callK rec 9 k c L (vA x0 :: st) μ) (hc : cats st ≤ 8) (hv : x0 ≠ 0 ∧ kd x0 = 9) (h1 : RunM 9 [vA x0] μ r1) (h : Rn Φ k c L (r1.1.toList ++ st) r1.2 r) : Rn Φ k ((pc, i) :: c) L (vA x0 :: st) μ r := CC (vs := [vA x0]) md_9 e rfl hc (decide_eq_true hv) rfl h1 h
theorem RC_10 {Φ : Mem → Prop} {k pc : Nat} {i : Instr} {c : Cd} {L : LV} {st : List SV} {μ : Mem} {r1 r : Res} {x0 x1 x2 : Int} (e : ∀ rec : Rec, stp rec k i c L (vA x2 :: vA x1 :: vA x0 :: st) μ = callK rec 10 k c L (vA x2 :: vA x1 :: vA x0 :: st) μ) (hc : cats st ≤ 8) (hv : x0 ≠ 0 ∧ kd x0 = 4) (h1 : RunM 10 [vA x0, vA x1, vA x2] μ r1) (h : Rn Φ k c L (r1.1.toList ++ st) r1.2 r) : Rn Φ k ((pc, i) :: c) L (vA x2 :: vA x1 :: vA x0 :: st) μ r := CC (vs := [vA x0, vA x1, vA x2]) md_10 e rfl hc (decide_eq_true hv) rfl h1 h
theorem RC_11 {Φ : Mem → Prop} {k pc : Nat} {i : Instr} {c : Cd} {L : LV} {st : List SV} {μ : Mem} {r1 r : Res} {x0 x1 x2 : Int} (e : ∀ rec : Rec, stp rec k i c L (vA x2 :: vA x1 :: vA x0 :: st) μ = callK rec 11 k c L (vA x2 :: vA x1 :: vA x0 :: st) μ) (hc : cats st ≤ 8) (hv : x0 ≠ 0 ∧ kd x0 = 0) (h1 : RunM 11 [vA x0, vA x1, vA x2] μ r1) (h : Rn Φ k c L (r1.1.toList ++ st) r1.2 r) : Rn Φ k ((pc, i) :: c) L (vA x2 :: vA x1 :: vA x0 :: st) μ r := CC (vs := [vA x0, vA x1, vA x2]) md_11 e rfl hc (decide_eq_true hv) rfl h1 h
theorem RC_12 {Φ : Mem → Prop} {k pc : Nat} {i : Instr} {c : Cd} {L : LV} {st : List SV} {μ : Mem} {r1 r : Res} {x0 x1 x2 x3 : Int} (e : ∀ rec : Rec, stp rec k i c L (vA x3 :: vA x2 :: vA x1 :: vA x0 :: st) μ = callK rec 12 k c L (vA x3 :: vA x2 :: vA x1 :: vA x0 :: st) μ) (hc : cats st ≤ 8) (hv : x0 ≠ 0 ∧ kd x0 = 2) (h1 : RunM 12 [vA x0, vA x1, vA x2, vA x3] μ r1) (h : Rn Φ k c L (r1.1.toList ++ st) r1.2 r) : Rn Φ k ((pc, i) :: c) L (vA x3 :: vA x2 :: vA x1 :: vA x0 :: st) μ r := CC (vs := [vA x0, vA x1, vA x2, vA x3]) md_12 e rfl hc (decide_eq_true hv) rfl h1 h
theorem RC_13 {Φ : Mem → Prop} {k pc : Nat} {i : Instr} {c : Cd} {L : LV} {st : List SV} {μ : Mem} {r1 r : Res} {x0 x1 x2 : Int} (e : ∀ rec : Rec, stp rec k i c L (vA x2 :: vA x1 :: vA x0 :: st) μ = callK rec 13 k c L (vA x2 :: vA x1 :: vA x0 :: st) μ) (hc : cats st ≤ 8) (hv : x0 ≠ 0 ∧ kd x0 = 6) (h1 : RunM 13 [vA x0, vA x1, vA x2] μ r1) (h : Rn Φ k c L (r1.1.toList ++ st) r1.2 r) : Rn Φ k ((pc, i) :: c) L (vA x2 :: vA x1 :: vA x0 :: st) μ r := CC (vs := [vA x0, vA x1, vA x2]) md_13 e rfl hc (decide_eq_true hv) rfl h1 h
theorem RC_14 {Φ : Mem → Prop} {k pc : Nat} {i : Instr} {c : Cd} {L : LV} {st : List SV} {μ : Mem} {r1 r : Res} {x0 x1 x2 x3 x4 x5 : Int} (e : ∀ rec : Rec, stp rec k i c L (vI x5 :: vI x4 :: vI x3 :: vI x2 :: vI x1 :: vA x0 :: st) μ = callK rec 14 k c L (vI x5 :: vI x4 :: vI x3 :: vI x2 :: vI x1 :: vA x0 :: st) μ) (hc : cats st ≤ 8) (hv : x0 ≠ 0 ∧ kd x0 = 11) (h1 : RunM 14 [vA x0, vI x1, vI x2, vI x3, vI x4, vI x5] μ r1) (h : Rn Φ k c L (r1.1.toList ++ st) r1.2 r) : Rn Φ k ((pc, i) :: c) L (vI x5 :: vI x4 :: vI x3 :: vI x2 :: vI x1 :: vA x0 :: st) μ r := CC (vs := [vA x0, vI x1, vI x2, vI x3, vI x4, vI x5]) md_14 e rfl hc (decide_eq_true hv) rfl h1 h
theorem RC_15 {Φ : Mem → Prop} {k pc : Nat} {i : Instr} {c : Cd} {L : LV} {st : List SV} {μ : Mem} {r1 r : Res} {x0 x1 : Int} (e : ∀ rec : Rec, stp rec k i c L (vI x1 :: vA x0 :: st) μ = callK rec 15 k c L (vI x1 :: vA x0 :: st) μ) (hc : cats st ≤ 8) (hv : x0 ≠ 0 ∧ kd x0 = 11) (h1 : RunM 15 [vA x0, vI x1] μ r1) (h : Rn Φ k c L (r1.1.toList ++ st) r1.2 r) : Rn Φ k ((pc, i) :: c) L (vI x1 :: vA x0 :: st) μ r := CC (vs := [vA x0, vI x1]) md_15 e rfl hc (decide_eq_true hv) rfl h1 h
theorem RC_16 {Φ : Mem → Prop} {k pc : Nat} {i : Instr} {c : Cd} {L : LV} {st : List SV} {μ : Mem} {r1 r : Res} {x0 x1 : Int} (e : ∀ rec : Rec, stp rec k i c L (vI x1 :: vA x0 :: st) μ = callK rec 16 k c L (vI x1 :: vA x0 :: st) μ) (hc : cats st ≤ 8) (hv : x0 ≠ 0 ∧ kd x0 = 11) (h1 : RunM 16 [vA x0, vI x1] μ r1) (h : Rn Φ k c L (r1.1.toList ++ st) r1.2 r) : Rn Φ k ((pc, i) :: c) L (vI x1 :: vA x0 :: st) μ r := CC (vs := [vA x0, vI x1]) md_16 e rfl hc (decide_eq_true hv) rfl h1 h
theorem RC_17 {Φ : Mem → Prop} {k pc : Nat} {i : Instr} {c : Cd} {L : LV} {st : List SV} {μ : Mem} {r1 r : Res} {x0 : Int} (e : ∀ rec : Rec, stp rec k i c L (vA x0 :: st) μ = callK rec 17 k c L (vA x0 :: st) μ) (hc : cats st ≤ 8) (hv : x0 ≠ 0 ∧ kd x0 = 11) (h1 : RunM 17 [vA x0] μ r1) (h : Rn Φ k c L (r1.1.toList ++ st) r1.2 r) : Rn Φ k ((pc, i) :: c) L (vA x0 :: st) μ r := CC (vs := [vA x0]) md_17 e rfl hc (decide_eq_true hv) rfl h1 h
theorem RC_18 {Φ : Mem → Prop} {k pc : Nat} {i : Instr} {c : Cd} {L : LV} {st : List SV} {μ : Mem} {r1 r : Res} {x0 x1 x2 : Int} (e : ∀ rec : Rec, stp rec k i c L (vI x2 :: vA x1 :: vA x0 :: st) μ = callK rec 18 k c L (vI x2 :: vA x1 :: vA x0 :: st) μ) (hc : cats st ≤ 8) (hv : x0 ≠ 0 ∧ kd x0 = 4) (h1 : RunM 18 [vA x0, vA x1, vI x2] μ r1) (h : Rn Φ k c L (r1.1.toList ++ st) r1.2 r) : Rn Φ k ((pc, i) :: c) L (vI x2 :: vA x1 :: vA x0 :: st) μ r := CC (vs := [vA x0, vA x1, vI x2]) md_18 e rfl hc (decide_eq_true hv) rfl h1 h
theorem RC_19 {Φ : Mem → Prop} {k pc : Nat} {i : Instr} {c : Cd} {L : LV} {st : List SV} {μ : Mem} {r1 r : Res} {x0 : Int} (e : ∀ rec : Rec, stp rec k i c L (vA x0 :: st) μ = callK rec 19 k c L (vA x0 :: st) μ) (hc : cats st ≤ 8) (hv : x0 ≠ 0 ∧ kd x0 = 4) (h1 : RunM 19 [vA x0] μ r1) (h : Rn Φ k c L (r1.1.toList ++ st) r1.2 r) : Rn Φ k ((pc, i) :: c) L (vA x0 :: st) μ r := CC (vs := [vA x0]) md_19 e rfl hc (decide_eq_true hv) rfl h1 h
theorem RC_20 {Φ : Mem → Prop} {k pc : Nat} {i : Instr} {c : Cd} {L : LV} {st : List SV} {μ : Mem} {r1 r : Res} {x0 : Int} (e : ∀ rec : Rec, stp rec k i c L (vA x0 :: st) μ = callK rec 20 k c L (vA x0 :: st) μ) (hc : cats st ≤ 8) (hv : x0 ≠ 0 ∧ kd x0 = 4) (h1 : RunM 20 [vA x0] μ r1) (h : Rn Φ k c L (r1.1.toList ++ st) r1.2 r) : Rn Φ k ((pc, i) :: c) L (vA x0 :: st) μ r := CC (vs := [vA x0]) md_20 e rfl hc (decide_eq_true hv) rfl h1 h
theorem RC_21 {Φ : Mem → Prop} {k pc : Nat} {i : Instr} {c : Cd} {L : LV} {st : List SV} {μ : Mem} {r1 r : Res} {x0 : Int} (e : ∀ rec : Rec, stp rec k i c L (vA x0 :: st) μ = callK rec 21 k c L (vA x0 :: st) μ) (hc : cats st ≤ 8) (hv : x0 ≠ 0 ∧ kd x0 = 4) (h1 : RunM 21 [vA x0] μ r1) (h : Rn Φ k c L (r1.1.toList ++ st) r1.2 r) : Rn Φ k ((pc, i) :: c) L (vA x0 :: st) μ r := CC (vs := [vA x0]) md_21 e rfl hc (decide_eq_true hv) rfl h1 h
theorem RC_22 {Φ : Mem → Prop} {k pc : Nat} {i : Instr} {c : Cd} {L : LV} {st : List SV} {μ : Mem} {r1 r : Res} {x0 x1 x2 x3 : Int} (e : ∀ rec : Rec, stp rec k i c L (vI x3 :: vI x2 :: vI x1 :: vA x0 :: st) μ = callK rec 22 k c L (vI x3 :: vI x2 :: vI x1 :: vA x0 :: st) μ) (hc : cats st ≤ 8) (hv : x0 ≠ 0 ∧ kd x0 = 4) (h1 : RunM 22 [vA x0, vI x1, vI x2, vI x3] μ r1) (h : Rn Φ k c L (r1.1.toList ++ st) r1.2 r) : Rn Φ k ((pc, i) :: c) L (vI x3 :: vI x2 :: vI x1 :: vA x0 :: st) μ r := CC (vs := [vA x0, vI x1, vI x2, vI x3]) md_22 e rfl hc (decide_eq_true hv) rfl h1 h
theorem RC_23 {Φ : Mem → Prop} {k pc : Nat} {i : Instr} {c : Cd} {L : LV} {st : List SV} {μ : Mem} {r1 r : Res} {x0 x1 x2 : Int} (e : ∀ rec : Rec, stp rec k i c L (vI x2 :: vI x1 :: vA x0 :: st) μ = callK rec 23 k c L (vI x2 :: vI x1 :: vA x0 :: st) μ) (hc : cats st ≤ 8) (hv : x0 ≠ 0 ∧ kd x0 = 4) (h1 : RunM 23 [vA x0, vI x1, vI x2] μ r1) (h : Rn Φ k c L (r1.1.toList ++ st) r1.2 r) : Rn Φ k ((pc, i) :: c) L (vI x2 :: vI x1 :: vA x0 :: st) μ r := CC (vs := [vA x0, vI x1, vI x2]) md_23 e rfl hc (decide_eq_true hv) rfl h1 h
theorem RC_24 {Φ : Mem → Prop} {k pc : Nat} {i : Instr} {c : Cd} {L : LV} {st : List SV} {μ : Mem} {r1 r : Res} {x0 x1 x2 x3 : Int} (e : ∀ rec : Rec, stp rec k i c L (vI x3 :: vI x2 :: vA x1 :: vA x0 :: st) μ = callK rec 24 k c L (vI x3 :: vI x2 :: vA x1 :: vA x0 :: st) μ) (hc : cats st ≤ 8) (hv : x0 ≠ 0 ∧ kd x0 = 10) (h1 : RunM 24 [vA x0, vA x1, vI x2, vI x3] μ r1) (h : Rn Φ k c L (r1.1.toList ++ st) r1.2 r) : Rn Φ k ((pc, i) :: c) L (vI x3 :: vI x2 :: vA x1 :: vA x0 :: st) μ r := CC (vs := [vA x0, vA x1, vI x2, vI x3]) md_24 e rfl hc (decide_eq_true hv) rfl h1 h
theorem RC_25 {Φ : Mem → Prop} {k pc : Nat} {i : Instr} {c : Cd} {L : LV} {st : List SV} {μ : Mem} {r1 r : Res} {x0 x1 : Int} (e : ∀ rec : Rec, stp rec k i c L (vI x1 :: vA x0 :: st) μ = callK rec 25 k c L (vI x1 :: vA x0 :: st) μ) (hc : cats st ≤ 8) (hv : x0 ≠ 0 ∧ kd x0 = 10) (h1 : RunM 25 [vA x0, vI x1] μ r1) (h : Rn Φ k c L (r1.1.toList ++ st) r1.2 r) : Rn Φ k ((pc, i) :: c) L (vI x1 :: vA x0 :: st) μ r := CC (vs := [vA x0, vI x1]) md_25 e rfl hc (decide_eq_true hv) rfl h1 h
theorem RC_26 {Φ : Mem → Prop} {k pc : Nat} {i : Instr} {c : Cd} {L : LV} {st : List SV} {μ : Mem} {r1 r : Res} {x0 x1 x2 x3 : Int} (e : ∀ rec : Rec, stp rec k i c L (vI x3 :: vA x2 :: vI x1 :: vA x0 :: st) μ = callK rec 26 k c L (vI x3 :: vA x2 :: vI x1 :: vA x0 :: st) μ) (hc : cats st ≤ 8) (hv : x0 ≠ 0 ∧ kd x0 = 10) (h1 : RunM 26 [vA x0, vI x1, vA x2, vI x3] μ r1) (h : Rn Φ k c L (r1.1.toList ++ st) r1.2 r) : Rn Φ k ((pc, i) :: c) L (vI x3 :: vA x2 :: vI x1 :: vA x0 :: st) μ r := CC (vs := [vA x0, vI x1, vA x2, vI x3]) md_26 e rfl hc (decide_eq_true hv) rfl h1 h
theorem RC_27 {Φ : Mem → Prop} {k pc : Nat} {i : Instr} {c : Cd} {L : LV} {st : List SV} {μ : Mem} {r1 r : Res} {x0 x1 x2 : Int} (e : ∀ rec : Rec, stp rec k i c L (vI x2 :: vI x1 :: vA x0 :: st) μ = callK rec 27 k c L (vI x2 :: vI x1 :: vA x0 :: st) μ) (hc : cats st ≤ 8) (hv : x0 ≠ 0 ∧ kd x0 = 10) (h1 : RunM 27 [vA x0, vI x1, vI x2] μ r1) (h : Rn Φ k c L (r1.1.toList ++ st) r1.2 r) : Rn Φ k ((pc, i) :: c) L (vI x2 :: vI x1 :: vA x0 :: st) μ r := CC (vs := [vA x0, vI x1, vI x2]) md_27 e rfl hc (decide_eq_true hv) rfl h1 h
theorem RC_28 {Φ : Mem → Prop} {k pc : Nat} {i : Instr} {c : Cd} {L : LV} {st : List SV} {μ : Mem} {r1 r : Res} {x0 x1 : Int} (e : ∀ rec : Rec, stp rec k i c L (vI x1 :: vA x0 :: st) μ = callK rec 28 k c L (vI x1 :: vA x0 :: st) μ) (hc : cats st ≤ 8) (hv : x0 ≠ 0 ∧ kd x0 = 4) (h1 : RunM 28 [vA x0, vI x1] μ r1) (h : Rn Φ k c L (r1.1.toList ++ st) r1.2 r) : Rn Φ k ((pc, i) :: c) L (vI x1 :: vA x0 :: st) μ r := CC (vs := [vA x0, vI x1]) md_28 e rfl hc (decide_eq_true hv) rfl h1 h
theorem RC_29 {Φ : Mem → Prop} {k pc : Nat} {i : Instr} {c : Cd} {L : LV} {st : List SV} {μ : Mem} {r1 r : Res} {x0 : Int} (e : ∀ rec : Rec, stp rec k i c L (vI x0 :: st) μ = callK rec 29 k c L (vI x0 :: st) μ) (hc : cats st ≤ 8) (h1 : RunM 29 [vI x0] μ r1) (h : Rn Φ k c L (r1.1.toList ++ st) r1.2 r) : Rn Φ k ((pc, i) :: c) L (vI x0 :: st) μ r := CC (vs := [vI x0]) md_29 e rfl hc rfl rfl h1 h
theorem RC_30 {Φ : Mem → Prop} {k pc : Nat} {i : Instr} {c : Cd} {L : LV} {st : List SV} {μ : Mem} {r1 r : Res} {x0 : Int} (e : ∀ rec : Rec, stp rec k i c L (vA x0 :: st) μ = callK rec 30 k c L (vA x0 :: st) μ) (hc : cats st ≤ 8) (hv : x0 ≠ 0 ∧ kd x0 = 4) (h1 : RunM 30 [vA x0] μ r1) (h : Rn Φ k c L (r1.1.toList ++ st) r1.2 r) : Rn Φ k ((pc, i) :: c) L (vA x0 :: st) μ r := CC (vs := [vA x0]) md_30 e rfl hc (decide_eq_true hv) rfl h1 h
theorem RC_31 {Φ : Mem → Prop} {k pc : Nat} {i : Instr} {c : Cd} {L : LV} {st : List SV} {μ : Mem} {r1 r : Res} {x0 : Int} (e : ∀ rec : Rec, stp rec k i c L (vA x0 :: st) μ = callK rec 31 k c L (vA x0 :: st) μ) (hc : cats st ≤ 8) (hv : x0 ≠ 0 ∧ kd x0 = 4) (h1 : RunM 31 [vA x0] μ r1) (h : Rn Φ k c L (r1.1.toList ++ st) r1.2 r) : Rn Φ k ((pc, i) :: c) L (vA x0 :: st) μ r := CC (vs := [vA x0]) md_31 e rfl hc (decide_eq_true hv) rfl h1 h
theorem RC_32 {Φ : Mem → Prop} {k pc : Nat} {i : Instr} {c : Cd} {L : LV} {st : List SV} {μ : Mem} {r1 r : Res} {x0 : Int} (e : ∀ rec : Rec, stp rec k i c L (vA x0 :: st) μ = callK rec 32 k c L (vA x0 :: st) μ) (hc : cats st ≤ 8) (hv : x0 ≠ 0 ∧ kd x0 = 9) (h1 : RunM 32 [vA x0] μ r1) (h : Rn Φ k c L (r1.1.toList ++ st) r1.2 r) : Rn Φ k ((pc, i) :: c) L (vA x0 :: st) μ r := CC (vs := [vA x0]) md_32 e rfl hc (decide_eq_true hv) rfl h1 h
theorem RC_33 {Φ : Mem → Prop} {k pc : Nat} {i : Instr} {c : Cd} {L : LV} {st : List SV} {μ : Mem} {r1 r : Res} {x0 : Int} (e : ∀ rec : Rec, stp rec k i c L (vA x0 :: st) μ = callK rec 33 k c L (vA x0 :: st) μ) (hc : cats st ≤ 8) (hv : x0 ≠ 0 ∧ kd x0 = 5) (h1 : RunM 33 [vA x0] μ r1) (h : Rn Φ k c L (r1.1.toList ++ st) r1.2 r) : Rn Φ k ((pc, i) :: c) L (vA x0 :: st) μ r := CC (vs := [vA x0]) md_33 e rfl hc (decide_eq_true hv) rfl h1 h
theorem RC_34 {Φ : Mem → Prop} {k pc : Nat} {i : Instr} {c : Cd} {L : LV} {st : List SV} {μ : Mem} {r1 r : Res} {x0 x1 : Int} (e : ∀ rec : Rec, stp rec k i c L (vI x1 :: vA x0 :: st) μ = callK rec 34 k c L (vI x1 :: vA x0 :: st) μ) (hc : cats st ≤ 8) (hv : x0 ≠ 0 ∧ kd x0 = 4) (h1 : RunM 34 [vA x0, vI x1] μ r1) (h : Rn Φ k c L (r1.1.toList ++ st) r1.2 r) : Rn Φ k ((pc, i) :: c) L (vI x1 :: vA x0 :: st) μ r := CC (vs := [vA x0, vI x1]) md_34 e rfl hc (decide_eq_true hv) rfl h1 h
theorem RC_35 {Φ : Mem → Prop} {k pc : Nat} {i : Instr} {c : Cd} {L : LV} {st : List SV} {μ : Mem} {r1 r : Res} {x0 : Int} (e : ∀ rec : Rec, stp rec k i c L (vA x0 :: st) μ = callK rec 35 k c L (vA x0 :: st) μ) (hc : cats st ≤ 8) (hv : x0 ≠ 0 ∧ kd x0 = 4) (h1 : RunM 35 [vA x0] μ r1) (h : Rn Φ k c L (r1.1.toList ++ st) r1.2 r) : Rn Φ k ((pc, i) :: c) L (vA x0 :: st) μ r := CC (vs := [vA x0]) md_35 e rfl hc (decide_eq_true hv) rfl h1 h
theorem RC_36 {Φ : Mem → Prop} {k pc : Nat} {i : Instr} {c : Cd} {L : LV} {st : List SV} {μ : Mem} {r1 r : Res} {x0 : Int} (e : ∀ rec : Rec, stp rec k i c L (vA x0 :: st) μ = callK rec 36 k c L (vA x0 :: st) μ) (hc : cats st ≤ 8) (hv : x0 ≠ 0 ∧ kd x0 = 4) (h1 : RunM 36 [vA x0] μ r1) (h : Rn Φ k c L (r1.1.toList ++ st) r1.2 r) : Rn Φ k ((pc, i) :: c) L (vA x0 :: st) μ r := CC (vs := [vA x0]) md_36 e rfl hc (decide_eq_true hv) rfl h1 h
theorem RC_37 {Φ : Mem → Prop} {k pc : Nat} {i : Instr} {c : Cd} {L : LV} {st : List SV} {μ : Mem} {r1 r : Res} {x0 x1 : Int} (e : ∀ rec : Rec, stp rec k i c L (vI x1 :: vA x0 :: st) μ = callK rec 37 k c L (vI x1 :: vA x0 :: st) μ) (hc : cats st ≤ 8) (hv : x0 ≠ 0 ∧ kd x0 = 4) (h1 : RunM 37 [vA x0, vI x1] μ r1) (h : Rn Φ k c L (r1.1.toList ++ st) r1.2 r) : Rn Φ k ((pc, i) :: c) L (vI x1 :: vA x0 :: st) μ r := CC (vs := [vA x0, vI x1]) md_37 e rfl hc (decide_eq_true hv) rfl h1 h
theorem RC_38 {Φ : Mem → Prop} {k pc : Nat} {i : Instr} {c : Cd} {L : LV} {st : List SV} {μ : Mem} {r1 r : Res} {x0 x1 : Int} (e : ∀ rec : Rec, stp rec k i c L (vI x1 :: vA x0 :: st) μ = callK rec 38 k c L (vI x1 :: vA x0 :: st) μ) (hc : cats st ≤ 8) (hv : x0 ≠ 0 ∧ kd x0 = 4) (h1 : RunM 38 [vA x0, vI x1] μ r1) (h : Rn Φ k c L (r1.1.toList ++ st) r1.2 r) : Rn Φ k ((pc, i) :: c) L (vI x1 :: vA x0 :: st) μ r := CC (vs := [vA x0, vI x1]) md_38 e rfl hc (decide_eq_true hv) rfl h1 h
theorem RC_39 {Φ : Mem → Prop} {k pc : Nat} {i : Instr} {c : Cd} {L : LV} {st : List SV} {μ : Mem} {r1 r : Res} {x0 x1 x2 x3 x4 : Int} (e : ∀ rec : Rec, stp rec k i c L (vI x4 :: vI x3 :: vI x2 :: vI x1 :: vA x0 :: st) μ = callK rec 39 k c L (vI x4 :: vI x3 :: vI x2 :: vI x1 :: vA x0 :: st) μ) (hc : cats st ≤ 8) (hv : x0 ≠ 0 ∧ kd x0 = 9) (h1 : RunM 39 [vA x0, vI x1, vI x2, vI x3, vI x4] μ r1) (h : Rn Φ k c L (r1.1.toList ++ st) r1.2 r) : Rn Φ k ((pc, i) :: c) L (vI x4 :: vI x3 :: vI x2 :: vI x1 :: vA x0 :: st) μ r := CC (vs := [vA x0, vI x1, vI x2, vI x3, vI x4]) md_39 e rfl hc (decide_eq_true hv) rfl h1 h
theorem RC_40 {Φ : Mem → Prop} {k pc : Nat} {i : Instr} {c : Cd} {L : LV} {st : List SV} {μ : Mem} {r1 r : Res} {x0 x1 : Int} (e : ∀ rec : Rec, stp rec k i c L (vI x1 :: vA x0 :: st) μ = callK rec 40 k c L (vI x1 :: vA x0 :: st) μ) (hc : cats st ≤ 8) (hv : x0 ≠ 0 ∧ kd x0 = 4) (h1 : RunM 40 [vA x0, vI x1] μ r1) (h : Rn Φ k c L (r1.1.toList ++ st) r1.2 r) : Rn Φ k ((pc, i) :: c) L (vI x1 :: vA x0 :: st) μ r := CC (vs := [vA x0, vI x1]) md_40 e rfl hc (decide_eq_true hv) rfl h1 h
theorem RC_41 {Φ : Mem → Prop} {k pc : Nat} {i : Instr} {c : Cd} {L : LV} {st : List SV} {μ : Mem} {r1 r : Res} {x0 x1 x2 x3 : Int} (e : ∀ rec : Rec, stp rec k i c L (vI x3 :: vI x2 :: vI x1 :: vA x0 :: st) μ = callK rec 41 k c L (vI x3 :: vI x2 :: vI x1 :: vA x0 :: st) μ) (hc : cats st ≤ 8) (hv : x0 ≠ 0 ∧ kd x0 = 9) (h1 : RunM 41 [vA x0, vI x1, vI x2, vI x3] μ r1) (h : Rn Φ k c L (r1.1.toList ++ st) r1.2 r) : Rn Φ k ((pc, i) :: c) L (vI x3 :: vI x2 :: vI x1 :: vA x0 :: st) μ r := CC (vs := [vA x0, vI x1, vI x2, vI x3]) md_41 e rfl hc (decide_eq_true hv) rfl h1 h
theorem RC_42 {Φ : Mem → Prop} {k pc : Nat} {i : Instr} {c : Cd} {L : LV} {st : List SV} {μ : Mem} {r1 r : Res} {x0 : Int} (e : ∀ rec : Rec, stp rec k i c L (vA x0 :: st) μ = callK rec 42 k c L (vA x0 :: st) μ) (hc : cats st ≤ 8) (hv : x0 ≠ 0 ∧ kd x0 = 4) (h1 : RunM 42 [vA x0] μ r1) (h : Rn Φ k c L (r1.1.toList ++ st) r1.2 r) : Rn Φ k ((pc, i) :: c) L (vA x0 :: st) μ r := CC (vs := [vA x0]) md_42 e rfl hc (decide_eq_true hv) rfl h1 h
theorem RC_43 {Φ : Mem → Prop} {k pc : Nat} {i : Instr} {c : Cd} {L : LV} {st : List SV} {μ : Mem} {r1 r : Res} {x0 : Int} (e : ∀ rec : Rec, stp rec k i c L (vA x0 :: st) μ = callK rec 43 k c L (vA x0 :: st) μ) (hc : cats st ≤ 8) (hv : x0 ≠ 0 ∧ kd x0 = 4) (h1 : RunM 43 [vA x0] μ r1) (h : Rn Φ k c L (r1.1.toList ++ st) r1.2 r) : Rn Φ k ((pc, i) :: c) L (vA x0 :: st) μ r := CC (vs := [vA x0]) md_43 e rfl hc (decide_eq_true hv) rfl h1 h
theorem RC_44 {Φ : Mem → Prop} {k pc : Nat} {i : Instr} {c : Cd} {L : LV} {st : List SV} {μ : Mem} {r1 r : Res} {x0 x1 : Int} (e : ∀ rec : Rec, stp rec k i c L (vI x1 :: vA x0 :: st) μ = callK rec 44 k c L (vI x1 :: vA x0 :: st) μ) (hc : cats st ≤ 8) (hv : x0 ≠ 0 ∧ kd x0 = 4) (h1 : RunM 44 [vA x0, vI x1] μ r1) (h : Rn Φ k c L (r1.1.toList ++ st) r1.2 r) : Rn Φ k ((pc, i) :: c) L (vI x1 :: vA x0 :: st) μ r := CC (vs := [vA x0, vI x1]) md_44 e rfl hc (decide_eq_true hv) rfl h1 h
theorem RC_45 {Φ : Mem → Prop} {k pc : Nat} {i : Instr} {c : Cd} {L : LV} {st : List SV} {μ : Mem} {r1 r : Res} {x0 x1 x2 x3 x4 : Int} (e : ∀ rec : Rec, stp rec k i c L (vI x4 :: vI x3 :: vI x2 :: vI x1 :: vA x0 :: st) μ = callK rec 45 k c L (vI x4 :: vI x3 :: vI x2 :: vI x1 :: vA x0 :: st) μ) (hc : cats st ≤ 8) (hv : x0 ≠ 0 ∧ kd x0 = 9) (h1 : RunM 45 [vA x0, vI x1, vI x2, vI x3, vI x4] μ r1) (h : Rn Φ k c L (r1.1.toList ++ st) r1.2 r) : Rn Φ k ((pc, i) :: c) L (vI x4 :: vI x3 :: vI x2 :: vI x1 :: vA x0 :: st) μ r := CC (vs := [vA x0, vI x1, vI x2, vI x3, vI x4]) md_45 e rfl hc (decide_eq_true hv) rfl h1 h
theorem RC_46 {Φ : Mem → Prop} {k pc : Nat} {i : Instr} {c : Cd} {L : LV} {st : List SV} {μ : Mem} {r1 r : Res} {x0 x1 : Int} (e : ∀ rec : Rec, stp rec k i c L (vI x1 :: vA x0 :: st) μ = callK rec 46 k c L (vI x1 :: vA x0 :: st) μ) (hc : cats st ≤ 8) (hv : x0 ≠ 0 ∧ kd x0 = 4) (h1 : RunM 46 [vA x0, vI x1] μ r1) (h : Rn Φ k c L (r1.1.toList ++ st) r1.2 r) : Rn Φ k ((pc, i) :: c) L (vI x1 :: vA x0 :: st) μ r := CC (vs := [vA x0, vI x1]) md_46 e rfl hc (decide_eq_true hv) rfl h1 h
theorem RC_47 {Φ : Mem → Prop} {k pc : Nat} {i : Instr} {c : Cd} {L : LV} {st : List SV} {μ : Mem} {r1 r : Res} {x0 : Int} (e : ∀ rec : Rec, stp rec k i c L (vA x0 :: st) μ = callK rec 47 k c L (vA x0 :: st) μ) (hc : cats st ≤ 8) (hv : x0 ≠ 0 ∧ kd x0 = 4) (h1 : RunM 47 [vA x0] μ r1) (h : Rn Φ k c L (r1.1.toList ++ st) r1.2 r) : Rn Φ k ((pc, i) :: c) L (vA x0 :: st) μ r := CC (vs := [vA x0]) md_47 e rfl hc (decide_eq_true hv) rfl h1 h
theorem RC_48 {Φ : Mem → Prop} {k pc : Nat} {i : Instr} {c : Cd} {L : LV} {st : List SV} {μ : Mem} {r1 r : Res} {x0 x1 x2 : Int} (e : ∀ rec : Rec, stp rec k i c L (vI x2 :: vI x1 :: vA x0 :: st) μ = callK rec 48 k c L (vI x2 :: vI x1 :: vA x0 :: st) μ) (hc : cats st ≤ 8) (hv : x0 ≠ 0 ∧ kd x0 = 4) (h1 : RunM 48 [vA x0, vI x1, vI x2] μ r1) (h : Rn Φ k c L (r1.1.toList ++ st) r1.2 r) : Rn Φ k ((pc, i) :: c) L (vI x2 :: vI x1 :: vA x0 :: st) μ r := CC (vs := [vA x0, vI x1, vI x2]) md_48 e rfl hc (decide_eq_true hv) rfl h1 h
theorem RC_49 {Φ : Mem → Prop} {k pc : Nat} {i : Instr} {c : Cd} {L : LV} {st : List SV} {μ : Mem} {r1 r : Res} {x0 x1 x2 x3 : Int} (e : ∀ rec : Rec, stp rec k i c L (vI x3 :: vI x2 :: vI x1 :: vA x0 :: st) μ = callK rec 49 k c L (vI x3 :: vI x2 :: vI x1 :: vA x0 :: st) μ) (hc : cats st ≤ 8) (hv : x0 ≠ 0 ∧ kd x0 = 4) (h1 : RunM 49 [vA x0, vI x1, vI x2, vI x3] μ r1) (h : Rn Φ k c L (r1.1.toList ++ st) r1.2 r) : Rn Φ k ((pc, i) :: c) L (vI x3 :: vI x2 :: vI x1 :: vA x0 :: st) μ r := CC (vs := [vA x0, vI x1, vI x2, vI x3]) md_49 e rfl hc (decide_eq_true hv) rfl h1 h
theorem RC_50 {Φ : Mem → Prop} {k pc : Nat} {i : Instr} {c : Cd} {L : LV} {st : List SV} {μ : Mem} {r1 r : Res} {x0 x1 : Int} (e : ∀ rec : Rec, stp rec k i c L (vI x1 :: vA x0 :: st) μ = callK rec 50 k c L (vI x1 :: vA x0 :: st) μ) (hc : cats st ≤ 8) (hv : x0 ≠ 0 ∧ kd x0 = 9) (h1 : RunM 50 [vA x0, vI x1] μ r1) (h : Rn Φ k c L (r1.1.toList ++ st) r1.2 r) : Rn Φ k ((pc, i) :: c) L (vI x1 :: vA x0 :: st) μ r := CC (vs := [vA x0, vI x1]) md_50 e rfl hc (decide_eq_true hv) rfl h1 h
theorem RC_51 {Φ : Mem → Prop} {k pc : Nat} {i : Instr} {c : Cd} {L : LV} {st : List SV} {μ : Mem} {r1 r : Res} {x0 : Int} (e : ∀ rec : Rec, stp rec k i c L (vA x0 :: st) μ = callK rec 51 k c L (vA x0 :: st) μ) (hc : cats st ≤ 8) (hv : x0 ≠ 0 ∧ kd x0 = 4) (h1 : RunM 51 [vA x0] μ r1) (h : Rn Φ k c L (r1.1.toList ++ st) r1.2 r) : Rn Φ k ((pc, i) :: c) L (vA x0 :: st) μ r := CC (vs := [vA x0]) md_51 e rfl hc (decide_eq_true hv) rfl h1 h
theorem RC_52 {Φ : Mem → Prop} {k pc : Nat} {i : Instr} {c : Cd} {L : LV} {st : List SV} {μ : Mem} {r1 r : Res} {x0 x1 : Int} (e : ∀ rec : Rec, stp rec k i c L (vI x1 :: vA x0 :: st) μ = callK rec 52 k c L (vI x1 :: vA x0 :: st) μ) (hc : cats st ≤ 8) (hv : x0 ≠ 0 ∧ kd x0 = 4) (h1 : RunM 52 [vA x0, vI x1] μ r1) (h : Rn Φ k c L (r1.1.toList ++ st) r1.2 r) : Rn Φ k ((pc, i) :: c) L (vI x1 :: vA x0 :: st) μ r := CC (vs := [vA x0, vI x1]) md_52 e rfl hc (decide_eq_true hv) rfl h1 h
theorem RC_53 {Φ : Mem → Prop} {k pc : Nat} {i : Instr} {c : Cd} {L : LV} {st : List SV} {μ : Mem} {r1 r : Res} {x0 : Int} (e : ∀ rec : Rec, stp rec k i c L (vA x0 :: st) μ = callK rec 53 k c L (vA x0 :: st) μ) (hc : cats st ≤ 8) (hv : x0 ≠ 0 ∧ kd x0 = 4) (h1 : RunM 53 [vA x0] μ r1) (h : Rn Φ k c L (r1.1.toList ++ st) r1.2 r) : Rn Φ k ((pc, i) :: c) L (vA x0 :: st) μ r := CC (vs := [vA x0]) md_53 e rfl hc (decide_eq_true hv) rfl h1 h
theorem RC_54 {Φ : Mem → Prop} {k pc : Nat} {i : Instr} {c : Cd} {L : LV} {st : List SV} {μ : Mem} {r1 r : Res} {x0 : Int} (e : ∀ rec : Rec, stp rec k i c L (vA x0 :: st) μ = callK rec 54 k c L (vA x0 :: st) μ) (hc : cats st ≤ 8) (hv : x0 ≠ 0 ∧ kd x0 = 4) (h1 : RunM 54 [vA x0] μ r1) (h : Rn Φ k c L (r1.1.toList ++ st) r1.2 r) : Rn Φ k ((pc, i) :: c) L (vA x0 :: st) μ r := CC (vs := [vA x0]) md_54 e rfl hc (decide_eq_true hv) rfl h1 h
theorem RC_55 {Φ : Mem → Prop} {k pc : Nat} {i : Instr} {c : Cd} {L : LV} {st : List SV} {μ : Mem} {r1 r : Res} {x0 : Int} (e : ∀ rec : Rec, stp rec k i c L (vA x0 :: st) μ = callK rec 55 k c L (vA x0 :: st) μ) (hc : cats st ≤ 8) (hv : x0 ≠ 0 ∧ kd x0 = 4) (h1 : RunM 55 [vA x0] μ r1) (h : Rn Φ k c L (r1.1.toList ++ st) r1.2 r) : Rn Φ k ((pc, i) :: c) L (vA x0 :: st) μ r := CC (vs := [vA x0]) md_55 e rfl hc (decide_eq_true hv) rfl h1 h
theorem RC_56 {Φ : Mem → Prop} {k pc : Nat} {i : Instr} {c : Cd} {L : LV} {st : List SV} {μ : Mem} {r1 r : Res} {x0 x1 : Int} (e : ∀ rec : Rec, stp rec k i c L (vI x1 :: vA x0 :: st) μ = callK rec 56 k c L (vI x1 :: vA x0 :: st) μ) (hc : cats st ≤ 8) (hv : x0 ≠ 0 ∧ kd x0 = 4) (h1 : RunM 56 [vA x0, vI x1] μ r1) (h : Rn Φ k c L (r1.1.toList ++ st) r1.2 r) : Rn Φ k ((pc, i) :: c) L (vI x1 :: vA x0 :: st) μ r := CC (vs := [vA x0, vI x1]) md_56 e rfl hc (decide_eq_true hv) rfl h1 h
theorem RC_57 {Φ : Mem → Prop} {k pc : Nat} {i : Instr} {c : Cd} {L : LV} {st : List SV} {μ : Mem} {r1 r : Res} {x0 : Int} (e : ∀ rec : Rec, stp rec k i c L (vA x0 :: st) μ = callK rec 57 k c L (vA x0 :: st) μ) (hc : cats st ≤ 8) (hv : x0 ≠ 0 ∧ kd x0 = 4) (h1 : RunM 57 [vA x0] μ r1) (h : Rn Φ k c L (r1.1.toList ++ st) r1.2 r) : Rn Φ k ((pc, i) :: c) L (vA x0 :: st) μ r := CC (vs := [vA x0]) md_57 e rfl hc (decide_eq_true hv) rfl h1 h
theorem RC_58 {Φ : Mem → Prop} {k pc : Nat} {i : Instr} {c : Cd} {L : LV} {st : List SV} {μ : Mem} {r1 r : Res} {x0 : Int} (e : ∀ rec : Rec, stp rec k i c L (vA x0 :: st) μ = callK rec 58 k c L (vA x0 :: st) μ) (hc : cats st ≤ 8) (hv : x0 ≠ 0 ∧ kd x0 = 4) (h1 : RunM 58 [vA x0] μ r1) (h : Rn Φ k c L (r1.1.toList ++ st) r1.2 r) : Rn Φ k ((pc, i) :: c) L (vA x0 :: st) μ r := CC (vs := [vA x0]) md_58 e rfl hc (decide_eq_true hv) rfl h1 h
theorem RC_59 {Φ : Mem → Prop} {k pc : Nat} {i : Instr} {c : Cd} {L : LV} {st : List SV} {μ : Mem} {r1 r : Res} {x0 x1 : Int} (e : ∀ rec : Rec, stp rec k i c L (vA x1 :: vA x0 :: st) μ = callK rec 59 k c L (vA x1 :: vA x0 :: st) μ) (hc : cats st ≤ 8) (hv : x0 ≠ 0 ∧ kd x0 = 0) (h1 : RunM 59 [vA x0, vA x1] μ r1) (h : Rn Φ k c L (r1.1.toList ++ st) r1.2 r) : Rn Φ k ((pc, i) :: c) L (vA x1 :: vA x0 :: st) μ r := CC (vs := [vA x0, vA x1]) md_59 e rfl hc (decide_eq_true hv) rfl h1 h
theorem RC_60 {Φ : Mem → Prop} {k pc : Nat} {i : Instr} {c : Cd} {L : LV} {st : List SV} {μ : Mem} {r1 r : Res} {x0 x1 x2 x3 : Int} (e : ∀ rec : Rec, stp rec k i c L (vI x3 :: vI x2 :: vA x1 :: vA x0 :: st) μ = callK rec 60 k c L (vI x3 :: vI x2 :: vA x1 :: vA x0 :: st) μ) (hc : cats st ≤ 8) (hv : x0 ≠ 0 ∧ kd x0 = 0) (h1 : RunM 60 [vA x0, vA x1, vI x2, vI x3] μ r1) (h : Rn Φ k c L (r1.1.toList ++ st) r1.2 r) : Rn Φ k ((pc, i) :: c) L (vI x3 :: vI x2 :: vA x1 :: vA x0 :: st) μ r := CC (vs := [vA x0, vA x1, vI x2, vI x3]) md_60 e rfl hc (decide_eq_true hv) rfl h1 h
theorem RC_61 {Φ : Mem → Prop} {k pc : Nat} {i : Instr} {c : Cd} {L : LV} {st : List SV} {μ : Mem} {r1 r : Res} {x0 x1 : Int} (e : ∀ rec : Rec, stp rec k i c L (vI x1 :: vA x0 :: st) μ = callK rec 61 k c L (vI x1 :: vA x0 :: st) μ) (hc : cats st ≤ 8) (hv : x0 ≠ 0 ∧ kd x0 = 7) (h1 : RunM 61 [vA x0, vI x1] μ r1) (h : Rn Φ k c L (r1.1.toList ++ st) r1.2 r) : Rn Φ k ((pc, i) :: c) L (vI x1 :: vA x0 :: st) μ r := CC (vs := [vA x0, vI x1]) md_61 e rfl hc (decide_eq_true hv) rfl h1 h
theorem RC_62 {Φ : Mem → Prop} {k pc : Nat} {i : Instr} {c : Cd} {L : LV} {st : List SV} {μ : Mem} {r1 r : Res} {x0 x1 x2 : Int} (e : ∀ rec : Rec, stp rec k i c L (vI x2 :: vI x1 :: vA x0 :: st) μ = callK rec 62 k c L (vI x2 :: vI x1 :: vA x0 :: st) μ) (hc : cats st ≤ 8) (hv : x0 ≠ 0 ∧ kd x0 = 0) (h1 : RunM 62 [vA x0, vI x1, vI x2] μ r1) (h : Rn Φ k c L (r1.1.toList ++ st) r1.2 r) : Rn Φ k ((pc, i) :: c) L (vI x2 :: vI x1 :: vA x0 :: st) μ r := CC (vs := [vA x0, vI x1, vI x2]) md_62 e rfl hc (decide_eq_true hv) rfl h1 h
theorem RC_63 {Φ : Mem → Prop} {k pc : Nat} {i : Instr} {c : Cd} {L : LV} {st : List SV} {μ : Mem} {r1 r : Res} {x0 x1 : Int} (e : ∀ rec : Rec, stp rec k i c L (vI x1 :: vA x0 :: st) μ = callK rec 63 k c L (vI x1 :: vA x0 :: st) μ) (hc : cats st ≤ 8) (hv : x0 ≠ 0 ∧ kd x0 = 7) (h1 : RunM 63 [vA x0, vI x1] μ r1) (h : Rn Φ k c L (r1.1.toList ++ st) r1.2 r) : Rn Φ k ((pc, i) :: c) L (vI x1 :: vA x0 :: st) μ r := CC (vs := [vA x0, vI x1]) md_63 e rfl hc (decide_eq_true hv) rfl h1 h
theorem RC_64 {Φ : Mem → Prop} {k pc : Nat} {i : Instr} {c : Cd} {L : LV} {st : List SV} {μ : Mem} {r1 r : Res} {x0 x1 : Int} (e : ∀ rec : Rec, stp rec k i c L (vI x1 :: vA x0 :: st) μ = callK rec 64 k c L (vI x1 :: vA x0 :: st) μ) (hc : cats st ≤ 8) (hv : x0 ≠ 0 ∧ kd x0 = 7) (h1 : RunM 64 [vA x0, vI x1] μ r1) (h : Rn Φ k c L (r1.1.toList ++ st) r1.2 r) : Rn Φ k ((pc, i) :: c) L (vI x1 :: vA x0 :: st) μ r := CC (vs := [vA x0, vI x1]) md_64 e rfl hc (decide_eq_true hv) rfl h1 h
theorem RC_65 {Φ : Mem → Prop} {k pc : Nat} {i : Instr} {c : Cd} {L : LV} {st : List SV} {μ : Mem} {r1 r : Res} {x0 x1 : Int} (e : ∀ rec : Rec, stp rec k i c L (vI x1 :: vA x0 :: st) μ = callK rec 65 k c L (vI x1 :: vA x0 :: st) μ) (hc : cats st ≤ 8) (hv : x0 ≠ 0 ∧ kd x0 = 7) (h1 : RunM 65 [vA x0, vI x1] μ r1) (h : Rn Φ k c L (r1.1.toList ++ st) r1.2 r) : Rn Φ k ((pc, i) :: c) L (vI x1 :: vA x0 :: st) μ r := CC (vs := [vA x0, vI x1]) md_65 e rfl hc (decide_eq_true hv) rfl h1 h
theorem RC_66 {Φ : Mem → Prop} {k pc : Nat} {i : Instr} {c : Cd} {L : LV} {st : List SV} {μ : Mem} {r1 r : Res} {x0 : Int} (e : ∀ rec : Rec, stp rec k i c L (vA x0 :: st) μ = callK rec 66 k c L (vA x0 :: st) μ) (hc : cats st ≤ 8) (hv : x0 ≠ 0 ∧ kd x0 = 0) (h1 : RunM 66 [vA x0] μ r1) (h : Rn Φ k c L (r1.1.toList ++ st) r1.2 r) : Rn Φ k ((pc, i) :: c) L (vA x0 :: st) μ r := CC (vs := [vA x0]) md_66 e rfl hc (decide_eq_true hv) rfl h1 h
theorem RC_67 {Φ : Mem → Prop} {k pc : Nat} {i : Instr} {c : Cd} {L : LV} {st : List SV} {μ : Mem} {r1 r : Res} {x0 x1 : Int} (e : ∀ rec : Rec, stp rec k i c L (vA x1 :: vA x0 :: st) μ = callK rec 67 k c L (vA x1 :: vA x0 :: st) μ) (hc : cats st ≤ 8) (hv : x0 ≠ 0 ∧ kd x0 = 0) (h1 : RunM 67 [vA x0, vA x1] μ r1) (h : Rn Φ k c L (r1.1.toList ++ st) r1.2 r) : Rn Φ k ((pc, i) :: c) L (vA x1 :: vA x0 :: st) μ r := CC (vs := [vA x0, vA x1]) md_67 e rfl hc (decide_eq_true hv) rfl h1 h
theorem RC_68 {Φ : Mem → Prop} {k pc : Nat} {i : Instr} {c : Cd} {L : LV} {st : List SV} {μ : Mem} {r1 r : Res} {x0 x1 x2 x3 x4 : Int} (e : ∀ rec : Rec, stp rec k i c L (vI x4 :: vI x3 :: vI x2 :: vA x1 :: vA x0 :: st) μ = callK rec 68 k c L (vI x4 :: vI x3 :: vI x2 :: vA x1 :: vA x0 :: st) μ) (hc : cats st ≤ 8) (hv : x0 ≠ 0 ∧ kd x0 = 0) (h1 : RunM 68 [vA x0, vA x1, vI x2, vI x3, vI x4] μ r1) (h : Rn Φ k c L (r1.1.toList ++ st) r1.2 r) : Rn Φ k ((pc, i) :: c) L (vI x4 :: vI x3 :: vI x2 :: vA x1 :: vA x0 :: st) μ r := CC (vs := [vA x0, vA x1, vI x2, vI x3, vI x4]) md_68 e rfl hc (decide_eq_true hv) rfl h1 h
theorem RC_69 {Φ : Mem → Prop} {k pc : Nat} {i : Instr} {c : Cd} {L : LV} {st : List SV} {μ : Mem} {r1 r : Res} {x0 x1 x2 : Int} (e : ∀ rec : Rec, stp rec k i c L (vI x2 :: vI x1 :: vA x0 :: st) μ = callK rec 69 k c L (vI x2 :: vI x1 :: vA x0 :: st) μ) (hc : cats st ≤ 8) (h1 : RunM 69 [vA x0, vI x1, vI x2] μ r1) (h : Rn Φ k c L (r1.1.toList ++ st) r1.2 r) : Rn Φ k ((pc, i) :: c) L (vI x2 :: vI x1 :: vA x0 :: st) μ r := CC (vs := [vA x0, vI x1, vI x2]) md_69 e rfl hc rfl rfl h1 h
theorem RC_70 {Φ : Mem → Prop} {k pc : Nat} {i : Instr} {c : Cd} {L : LV} {st : List SV} {μ : Mem} {r1 r : Res} {x0 x1 : Int} (e : ∀ rec : Rec, stp rec k i c L (vI x1 :: vA x0 :: st) μ = callK rec 70 k c L (vI x1 :: vA x0 :: st) μ) (hc : cats st ≤ 8) (hv : x0 ≠ 0 ∧ kd x0 = 5) (h1 : RunM 70 [vA x0, vI x1] μ r1) (h : Rn Φ k c L (r1.1.toList ++ st) r1.2 r) : Rn Φ k ((pc, i) :: c) L (vI x1 :: vA x0 :: st) μ r := CC (vs := [vA x0, vI x1]) md_70 e rfl hc (decide_eq_true hv) rfl h1 h
theorem RC_71 {Φ : Mem → Prop} {k pc : Nat} {i : Instr} {c : Cd} {L : LV} {st : List SV} {μ : Mem} {r1 r : Res} {x0 x1 : Int} (e : ∀ rec : Rec, stp rec k i c L (vI x1 :: vA x0 :: st) μ = callK rec 71 k c L (vI x1 :: vA x0 :: st) μ) (hc : cats st ≤ 8) (hv : x0 ≠ 0 ∧ kd x0 = 5) (h1 : RunM 71 [vA x0, vI x1] μ r1) (h : Rn Φ k c L (r1.1.toList ++ st) r1.2 r) : Rn Φ k ((pc, i) :: c) L (vI x1 :: vA x0 :: st) μ r := CC (vs := [vA x0, vI x1]) md_71 e rfl hc (decide_eq_true hv) rfl h1 h
theorem RC_72 {Φ : Mem → Prop} {k pc : Nat} {i : Instr} {c : Cd} {L : LV} {st : List SV} {μ : Mem} {r1 r : Res} {x0 x1 : Int} (e : ∀ rec : Rec, stp rec k i c L (vI x1 :: vA x0 :: st) μ = callK rec 72 k c L (vI x1 :: vA x0 :: st) μ) (hc : cats st ≤ 8) (hv : x0 ≠ 0 ∧ kd x0 = 5) (h1 : RunM 72 [vA x0, vI x1] μ r1) (h : Rn Φ k c L (r1.1.toList ++ st) r1.2 r) : Rn Φ k ((pc, i) :: c) L (vI x1 :: vA x0 :: st) μ r := CC (vs := [vA x0, vI x1]) md_72 e rfl hc (decide_eq_true hv) rfl h1 h
theorem RC_73 {Φ : Mem → Prop} {k pc : Nat} {i : Instr} {c : Cd} {L : LV} {st : List SV} {μ : Mem} {r1 r : Res} {x0 : Int} (e : ∀ rec : Rec, stp rec k i c L (vA x0 :: st) μ = callK rec 73 k c L (vA x0 :: st) μ) (hc : cats st ≤ 8) (h1 : RunM 73 [vA x0] μ r1) (h : Rn Φ k c L (r1.1.toList ++ st) r1.2 r) : Rn Φ k ((pc, i) :: c) L (vA x0 :: st) μ r := CC (vs := [vA x0]) md_73 e rfl hc rfl rfl h1 h
theorem RC_74 {Φ : Mem → Prop} {k pc : Nat} {i : Instr} {c : Cd} {L : LV} {st : List SV} {μ : Mem} {r1 r : Res} {x0 : Int} (e : ∀ rec : Rec, stp rec k i c L (vA x0 :: st) μ = callK rec 74 k c L (vA x0 :: st) μ) (hc : cats st ≤ 8) (hv : x0 ≠ 0 ∧ kd x0 = 11) (h1 : RunM 74 [vA x0] μ r1) (h : Rn Φ k c L (r1.1.toList ++ st) r1.2 r) : Rn Φ k ((pc, i) :: c) L (vA x0 :: st) μ r := CC (vs := [vA x0]) md_74 e rfl hc (decide_eq_true hv) rfl h1 h
theorem RC_75 {Φ : Mem → Prop} {k pc : Nat} {i : Instr} {c : Cd} {L : LV} {st : List SV} {μ : Mem} {r1 r : Res} {x0 x1 : Int} (e : ∀ rec : Rec, stp rec k i c L (vA x1 :: vA x0 :: st) μ = callK rec 75 k c L (vA x1 :: vA x0 :: st) μ) (hc : cats st ≤ 8) (hv : x0 ≠ 0 ∧ kd x0 = 7) (h1 : RunM 75 [vA x0, vA x1] μ r1) (h : Rn Φ k c L (r1.1.toList ++ st) r1.2 r) : Rn Φ k ((pc, i) :: c) L (vA x1 :: vA x0 :: st) μ r := CC (vs := [vA x0, vA x1]) md_75 e rfl hc (decide_eq_true hv) rfl h1 h
theorem RC_76 {Φ : Mem → Prop} {k pc : Nat} {i : Instr} {c : Cd} {L : LV} {st : List SV} {μ : Mem} {r1 r : Res} {x0 x1 : Int} (e : ∀ rec : Rec, stp rec k i c L (vA x1 :: vA x0 :: st) μ = callK rec 76 k c L (vA x1 :: vA x0 :: st) μ) (hc : cats st ≤ 8) (h1 : RunM 76 [vA x0, vA x1] μ r1) (h : Rn Φ k c L (r1.1.toList ++ st) r1.2 r) : Rn Φ k ((pc, i) :: c) L (vA x1 :: vA x0 :: st) μ r := CC (vs := [vA x0, vA x1]) md_76 e rfl hc rfl rfl h1 h
theorem RC_77 {Φ : Mem → Prop} {k pc : Nat} {i : Instr} {c : Cd} {L : LV} {st : List SV} {μ : Mem} {r1 r : Res} {x0 x1 : Int} (e : ∀ rec : Rec, stp rec k i c L (vA x1 :: vA x0 :: st) μ = callK rec 77 k c L (vA x1 :: vA x0 :: st) μ) (hc : cats st ≤ 8) (hv : x0 ≠ 0 ∧ kd x0 = 5) (h1 : RunM 77 [vA x0, vA x1] μ r1) (h : Rn Φ k c L (r1.1.toList ++ st) r1.2 r) : Rn Φ k ((pc, i) :: c) L (vA x1 :: vA x0 :: st) μ r := CC (vs := [vA x0, vA x1]) md_77 e rfl hc (decide_eq_true hv) rfl h1 h
theorem RC_78 {Φ : Mem → Prop} {k pc : Nat} {i : Instr} {c : Cd} {L : LV} {st : List SV} {μ : Mem} {r1 r : Res} {x0 x1 : Int} (e : ∀ rec : Rec, stp rec k i c L (vA x1 :: vA x0 :: st) μ = callK rec 78 k c L (vA x1 :: vA x0 :: st) μ) (hc : cats st ≤ 8) (hv : x0 ≠ 0 ∧ kd x0 = 1) (h1 : RunM 78 [vA x0, vA x1] μ r1) (h : Rn Φ k c L (r1.1.toList ++ st) r1.2 r) : Rn Φ k ((pc, i) :: c) L (vA x1 :: vA x0 :: st) μ r := CC (vs := [vA x0, vA x1]) md_78 e rfl hc (decide_eq_true hv) rfl h1 h
theorem RC_79 {Φ : Mem → Prop} {k pc : Nat} {i : Instr} {c : Cd} {L : LV} {st : List SV} {μ : Mem} {r1 r : Res} {x0 x1 : Int} (e : ∀ rec : Rec, stp rec k i c L (vA x1 :: vA x0 :: st) μ = callK rec 79 k c L (vA x1 :: vA x0 :: st) μ) (hc : cats st ≤ 8) (hv : x0 ≠ 0 ∧ kd x0 = 2) (h1 : RunM 79 [vA x0, vA x1] μ r1) (h : Rn Φ k c L (r1.1.toList ++ st) r1.2 r) : Rn Φ k ((pc, i) :: c) L (vA x1 :: vA x0 :: st) μ r := CC (vs := [vA x0, vA x1]) md_79 e rfl hc (decide_eq_true hv) rfl h1 h
theorem RC_80 {Φ : Mem → Prop} {k pc : Nat} {i : Instr} {c : Cd} {L : LV} {st : List SV} {μ : Mem} {r1 r : Res} {x0 x1 : Int} (e : ∀ rec : Rec, stp rec k i c L (vA x1 :: vA x0 :: st) μ = callK rec 80 k c L (vA x1 :: vA x0 :: st) μ) (hc : cats st ≤ 8) (hv : x0 ≠ 0 ∧ kd x0 = 2) (h1 : RunM 80 [vA x0, vA x1] μ r1) (h : Rn Φ k c L (r1.1.toList ++ st) r1.2 r) : Rn Φ k ((pc, i) :: c) L (vA x1 :: vA x0 :: st) μ r := CC (vs := [vA x0, vA x1]) md_80 e rfl hc (decide_eq_true hv) rfl h1 h
theorem RC_81 {Φ : Mem → Prop} {k pc : Nat} {i : Instr} {c : Cd} {L : LV} {st : List SV} {μ : Mem} {r1 r : Res} {x0 x1 x2 x3 x4 x5 : Int} (e : ∀ rec : Rec, stp rec k i c L (vI x5 :: vA x4 :: vI x3 :: vI x2 :: vA x1 :: vA x0 :: st) μ = callK rec 81 k c L (vI x5 :: vA x4 :: vI x3 :: vI x2 :: vA x1 :: vA x0 :: st) μ) (hc : cats st ≤ 8) (hv : x0 ≠ 0 ∧ kd x0 = 2) (h1 : RunM 81 [vA x0, vA x1, vI x2, vI x3, vA x4, vI x5] μ r1) (h : Rn Φ k c L (r1.1.toList ++ st) r1.2 r) : Rn Φ k ((pc, i) :: c) L (vI x5 :: vA x4 :: vI x3 :: vI x2 :: vA x1 :: vA x0 :: st) μ r := CC (vs := [vA x0, vA x1, vI x2, vI x3, vA x4, vI x5]) md_81 e rfl hc (decide_eq_true hv) rfl h1 h
theorem RC_82 {Φ : Mem → Prop} {k pc : Nat} {i : Instr} {c : Cd} {L : LV} {st : List SV} {μ : Mem} {r1 r : Res} {x0 x1 x2 : Int} (e : ∀ rec : Rec, stp rec k i c L (vI x2 :: vI x1 :: vA x0 :: st) μ = callK rec 82 k c L (vI x2 :: vI x1 :: vA x0 :: st) μ) (hc : cats st ≤ 8) (hv : x0 ≠ 0 ∧ kd x0 = 7) (h1 : RunM 82 [vA x0, vI x1, vI x2] μ r1) (h : Rn Φ k c L (r1.1.toList ++ st) r1.2 r) : Rn Φ k ((pc, i) :: c) L (vI x2 :: vI x1 :: vA x0 :: st) μ r := CC (vs := [vA x0, vI x1, vI x2]) md_82 e rfl hc (decide_eq_true hv) rfl h1 h
theorem RC_83 {Φ : Mem → Prop} {k pc : Nat} {i : Instr} {c : Cd} {L : LV} {st : List SV} {μ : Mem} {r1 r : Res} {x0 x1 : Int} (e : ∀ rec : Rec, stp rec k i c L (vI x1 :: vI x0 :: st) μ = callK rec 83 k c L (vI x1 :: vI x0 :: st) μ) (hc : cats st ≤ 8) (h1 : RunM 83 [vI x0, vI x1] μ r1) (h : Rn Φ k c L (r1.1.toList ++ st) r1.2 r) : Rn Φ k ((pc, i) :: c) L (vI x1 :: vI x0 :: st) μ r := CC (vs := [vI x0, vI x1]) md_83 e rfl hc rfl rfl h1 h
theorem RC_84 {Φ : Mem → Prop} {k pc : Nat} {i : Instr} {c : Cd} {L : LV} {st : List SV} {μ : Mem} {r1 r : Res} {x0 x1 x2 x3 : Int} (e : ∀ rec : Rec, stp rec k i c L (vI x3 :: vI x2 :: vI x1 :: vA x0 :: st) μ = callK rec 84 k c L (vI x3 :: vI x2 :: vI x1 :: vA x0 :: st) μ) (hc : cats st ≤ 8) (hv : x0 ≠ 0 ∧ kd x0 = 2) (h1 : RunM 84 [vA x0, vI x1, vI x2, vI x3] μ r1) (h : Rn Φ k c L (r1.1.toList ++ st) r1.2 r) : Rn Φ k ((pc, i) :: c) L (vI x3 :: vI x2 :: vI x1 :: vA x0 :: st) μ r := CC (vs := [vA x0, vI x1, vI x2, vI x3]) md_84 e rfl hc (decide_eq_true hv) rfl h1 h
theorem RC_85 {Φ : Mem → Prop} {k pc : Nat} {i : Instr} {c : Cd} {L : LV} {st : List SV} {μ : Mem} {r1 r : Res} {x0 x1 x2 x3 : Int} (e : ∀ rec : Rec, stp rec k i c L (vI x3 :: vI x2 :: vI x1 :: vA x0 :: st) μ = callK rec 85 k c L (vI x3 :: vI x2 :: vI x1 :: vA x0 :: st) μ) (hc : cats st ≤ 8) (hv : x0 ≠ 0 ∧ kd x0 = 7) (h1 : RunM 85 [vA x0, vI x1, vI x2, vI x3] μ r1) (h : Rn Φ k c L (r1.1.toList ++ st) r1.2 r) : Rn Φ k ((pc, i) :: c) L (vI x3 :: vI x2 :: vI x1 :: vA x0 :: st) μ r := CC (vs := [vA x0, vI x1, vI x2, vI x3]) md_85 e rfl hc (decide_eq_true hv) rfl h1 h
theorem RC_86 {Φ : Mem → Prop} {k pc : Nat} {i : Instr} {c : Cd} {L : LV} {st : List SV} {μ : Mem} {r1 r : Res} {x0 x1 x2 : Int} (e : ∀ rec : Rec, stp rec k i c L (vI x2 :: vI x1 :: vA x0 :: st) μ = callK rec 86 k c L (vI x2 :: vI x1 :: vA x0 :: st) μ) (hc : cats st ≤ 8) (hv : x0 ≠ 0 ∧ kd x0 = 7) (h1 : RunM 86 [vA x0, vI x1, vI x2] μ r1) (h : Rn Φ k c L (r1.1.toList ++ st) r1.2 r) : Rn Φ k ((pc, i) :: c) L (vI x2 :: vI x1 :: vA x0 :: st) μ r := CC (vs := [vA x0, vI x1, vI x2]) md_86 e rfl hc (decide_eq_true hv) rfl h1 h
theorem RC_87 {Φ : Mem → Prop} {k pc : Nat} {i : Instr} {c : Cd} {L : LV} {st : List SV} {μ : Mem} {r1 r : Res} {x0 x1 x2 : Int} (e : ∀ rec : Rec, stp rec k i c L (vI x2 :: vI x1 :: vA x0 :: st) μ = callK rec 87 k c L (vI x2 :: vI x1 :: vA x0 :: st) μ) (hc : cats st ≤ 8) (hv : x0 ≠ 0 ∧ kd x0 = 7) (h1 : RunM 87 [vA x0, vI x1, vI x2] μ r1) (h : Rn Φ k c L (r1.1.toList ++ st) r1.2 r) : Rn Φ k ((pc, i) :: c) L (vI x2 :: vI x1 :: vA x0 :: st) μ r := CC (vs := [vA x0, vI x1, vI x2]) md_87 e rfl hc (decide_eq_true hv) rfl h1 h
theorem RC_88 {Φ : Mem → Prop} {k pc : Nat} {i : Instr} {c : Cd} {L : LV} {st : List SV} {μ : Mem} {r1 r : Res} {x0 x1 x2 : Int} (e : ∀ rec : Rec, stp rec k i c L (vI x2 :: vI x1 :: vA x0 :: st) μ = callK rec 88 k c L (vI x2 :: vI x1 :: vA x0 :: st) μ) (hc : cats st ≤ 8) (hv : x0 ≠ 0 ∧ kd x0 = 7) (h1 : RunM 88 [vA x0, vI x1, vI x2] μ r1) (h : Rn Φ k c L (r1.1.toList ++ st) r1.2 r) : Rn Φ k ((pc, i) :: c) L (vI x2 :: vI x1 :: vA x0 :: st) μ r := CC (vs := [vA x0, vI x1, vI x2]) md_88 e rfl hc (decide_eq_true hv) rfl h1 h
theorem RC_89 {Φ : Mem → Prop} {k pc : Nat} {i : Instr} {c : Cd} {L : LV} {st : List SV} {μ : Mem} {r1 r : Res} {x0 x1 : Int} (e : ∀ rec : Rec, stp rec k i c L (vI x1 :: vA x0 :: st) μ = callK rec 89 k c L (vI x1 :: vA x0 :: st) μ) (hc : cats st ≤ 8) (hv : x0 ≠ 0 ∧ kd x0 = 3) (h1 : RunM 89 [vA x0, vI x1] μ r1) (h : Rn Φ k c L (r1.1.toList ++ st) r1.2 r) : Rn Φ k ((pc, i) :: c) L (vI x1 :: vA x0 :: st) μ r := CC (vs := [vA x0, vI x1]) md_89 e rfl hc (decide_eq_true hv) rfl h1 h
theorem RC_90 {Φ : Mem → Prop} {k pc : Nat} {i : Instr} {c : Cd} {L : LV} {st : List SV} {μ : Mem} {r1 r : Res} {x0 x1 x2 x3 x4 : Int} (e : ∀ rec : Rec, stp rec k i c L (vA x4 :: vI x3 :: vI x2 :: vA x1 :: vA x0 :: st) μ = callK rec 90 k c L (vA x4 :: vI x3 :: vI x2 :: vA x1 :: vA x0 :: st) μ) (hc : cats st ≤ 8) (hv : x0 ≠ 0 ∧ kd x0 = 2) (h1 : RunM 90 [vA x0, vA x1, vI x2, vI x3, vA x4] μ r1) (h : Rn Φ k c L (r1.1.toList ++ st) r1.2 r) : Rn Φ k ((pc, i) :: c) L (vA x4 :: vI x3 :: vI x2 :: vA x1 :: vA x0 :: st) μ r := CC (vs := [vA x0, vA x1, vI x2, vI x3, vA x4]) md_90 e rfl hc (decide_eq_true hv) rfl h1 h
theorem RC_91 {Φ : Mem → Prop} {k pc : Nat} {i : Instr} {c : Cd} {L : LV} {st : List SV} {μ : Mem} {r1 r : Res} {x0 x1 x2 : Int} (e : ∀ rec : Rec, stp rec k i c L (vI x2 :: vA x1 :: vA x0 :: st) μ = callK rec 91 k c L (vI x2 :: vA x1 :: vA x0 :: st) μ) (hc : cats st ≤ 8) (hv : x0 ≠ 0 ∧ kd x0 = 2) (h1 : RunM 91 [vA x0, vA x1, vI x2] μ r1) (h : Rn Φ k c L (r1.1.toList ++ st) r1.2 r) : Rn Φ k ((pc, i) :: c) L (vI x2 :: vA x1 :: vA x0 :: st) μ r := CC (vs := [vA x0, vA x1, vI x2]) md_91 e rfl hc (decide_eq_true hv) rfl h1 h
theorem RC_92 {Φ : Mem → Prop} {k pc : Nat} {i : Instr} {c : Cd} {L : LV} {st : List SV} {μ : Mem} {r1 r : Res} {x0 x1 x2 : Int} (e : ∀ rec : Rec, stp rec k i c L (vI x2 :: vI x1 :: vA x0 :: st) μ = callK rec 92 k c L (vI x2 :: vI x1 :: vA x0 :: st) μ) (hc : cats st ≤ 8) (hv : x0 ≠ 0 ∧ kd x0 = 9) (h1 : RunM 92 [vA x0, vI x1, vI x2] μ r1) (h : Rn Φ k c L (r1.1.toList ++ st) r1.2 r) : Rn Φ k ((pc, i) :: c) L (vI x2 :: vI x1 :: vA x0 :: st) μ r := CC (vs := [vA x0, vI x1, vI x2]) md_92 e rfl hc (decide_eq_true hv) rfl h1 h
theorem RC_93 {Φ : Mem → Prop} {k pc : Nat} {i : Instr} {c : Cd} {L : LV} {st : List SV} {μ : Mem} {r1 r : Res} {x0 x1 : Int} (e : ∀ rec : Rec, stp rec k i c L (vI x1 :: vA x0 :: st) μ = callK rec 93 k c L (vI x1 :: vA x0 :: st) μ) (hc : cats st ≤ 8) (hv : x0 ≠ 0 ∧ kd x0 = 2) (h1 : RunM 93 [vA x0, vI x1] μ r1) (h : Rn Φ k c L (r1.1.toList ++ st) r1.2 r) : Rn Φ k ((pc, i) :: c) L (vI x1 :: vA x0 :: st) μ r := CC (vs := [vA x0, vI x1]) md_93 e rfl hc (decide_eq_true hv) rfl h1 h
theorem RC_94 {Φ : Mem → Prop} {k pc : Nat} {i : Instr} {c : Cd} {L : LV} {st : List SV} {μ : Mem} {r1 r : Res} {x0 x1 x2 : Int} (e : ∀ rec : Rec, stp rec k i c L (vA x2 :: vA x1 :: vA x0 :: st) μ = callK rec 94 k c L (vA x2 :: vA x1 :: vA x0 :: st) μ) (hc : cats st ≤ 8) (hv : x0 ≠ 0 ∧ kd x0 = 2) (h1 : RunM 94 [vA x0, vA x1, vA x2] μ r1) (h : Rn Φ k c L (r1.1.toList ++ st) r1.2 r) : Rn Φ k ((pc, i) :: c) L (vA x2 :: vA x1 :: vA x0 :: st) μ r := CC (vs := [vA x0, vA x1, vA x2]) md_94 e rfl hc (decide_eq_true hv) rfl h1 h
theorem RC_95 {Φ : Mem → Prop} {k pc : Nat} {i : Instr} {c : Cd} {L : LV} {st : List SV} {μ : Mem} {r1 r : Res} {x0 x1 x2 : Int} (e : ∀ rec : Rec, stp rec k i c L (vI x2 :: vA x1 :: vA x0 :: st) μ = callK rec 95 k c L (vI x2 :: vA x1 :: vA x0 :: st) μ) (hc : cats st ≤ 8) (hv : x0 ≠ 0 ∧ kd x0 = 2) (h1 : RunM 95 [vA x0, vA x1, vI x2] μ r1) (h : Rn Φ k c L (r1.1.toList ++ st) r1.2 r) : Rn Φ k ((pc, i) :: c) L (vI x2 :: vA x1 :: vA x0 :: st) μ r := CC (vs := [vA x0, vA x1, vI x2]) md_95 e rfl hc (decide_eq_true hv) rfl h1 h
theorem RC_96 {Φ : Mem → Prop} {k pc : Nat} {i : Instr} {c : Cd} {L : LV} {st : List SV} {μ : Mem} {r1 r : Res} {x0 x1 x2 : Int} (e : ∀ rec : Rec, stp rec k i c L (vI x2 :: vA x1 :: vA x0 :: st) μ = callK rec 96 k c L (vI x2 :: vA x1 :: vA x0 :: st) μ) (hc : cats st ≤ 8) (hv : x0 ≠ 0 ∧ kd x0 = 2) (h1 : RunM 96 [vA x0, vA x1, vI x2] μ r1) (h : Rn Φ k c L (r1.1.toList ++ st) r1.2 r) : Rn Φ k ((pc, i) :: c) L (vI x2 :: vA x1 :: vA x0 :: st) μ r := CC (vs := [vA x0, vA x1, vI x2]) md_96 e rfl hc (decide_eq_true hv) rfl h1 h
theorem RC_97 {Φ : Mem → Prop} {k pc : Nat} {i : Instr} {c : Cd} {L : LV} {st : List SV} {μ : Mem} {r1 r : Res} {x0 x1 x2 : Int} (e : ∀ rec : Rec, stp rec k i c L (vI x2 :: vA x1 :: vA x0 :: st) μ = callK rec 97 k c L (vI x2 :: vA x1 :: vA x0 :: st) μ) (hc : cats st ≤ 8) (hv : x0 ≠ 0 ∧ kd x0 = 2) (h1 : RunM 97 [vA x0, vA x1, vI x2] μ r1) (h : Rn Φ k c L (r1.1.toList ++ st) r1.2 r) : Rn Φ k ((pc, i) :: c) L (vI x2 :: vA x1 :: vA x0 :: st) μ r := CC (vs := [vA x0, vA x1, vI x2]) md_97 e rfl hc (decide_eq_true hv) rfl h1 h
theorem RC_98 {Φ : Mem → Prop} {k pc : Nat} {i : Instr} {c : Cd} {L : LV} {st : List SV} {μ : Mem} {r1 r : Res} {x0 x1 x2 : Int} (e : ∀ rec : Rec, stp rec k i c L (vA x2 :: vA x1 :: vA x0 :: st) μ = callK rec 98 k c L (vA x2 :: vA x1 :: vA x0 :: st) μ) (hc : cats st ≤ 8) (hv : x0 ≠ 0 ∧ kd x0 = 2) (h1 : RunM 98 [vA x0, vA x1, vA x2] μ r1) (h : Rn Φ k c L (r1.1.toList ++ st) r1.2 r) : Rn Φ k ((pc, i) :: c) L (vA x2 :: vA x1 :: vA x0 :: st) μ r := CC (vs := [vA x0, vA x1, vA x2]) md_98 e rfl hc (decide_eq_true hv) rfl h1 h
theorem RC_99 {Φ : Mem → Prop} {k pc : Nat} {i : Instr} {c : Cd} {L : LV} {st : List SV} {μ : Mem} {r1 r : Res} {x0 x1 x2 : Int} (e : ∀ rec : Rec, stp rec k i c L (vI x2 :: vA x1 :: vA x0 :: st) μ = callK rec 99 k c L (vI x2 :: vA x1 :: vA x0 :: st) μ) (hc : cats st ≤ 8) (hv : x0 ≠ 0 ∧ kd x0 = 2) (h1 : RunM 99 [vA x0, vA x1, vI x2] μ r1) (h : Rn Φ k c L (r1.1.toList ++ st) r1.2 r) : Rn Φ k ((pc, i) :: c) L (vI x2 :: vA x1 :: vA x0 :: st) μ r := CC (vs := [vA x0, vA x1, vI x2]) md_99 e rfl hc (decide_eq_true hv) rfl h1 h
theorem RC_100 {Φ : Mem → Prop} {k pc : Nat} {i : Instr} {c : Cd} {L : LV} {st : List SV} {μ : Mem} {r1 r : Res} {x0 x1 x2 : Int} (e : ∀ rec : Rec, stp rec k i c L (vI x2 :: vA x1 :: vA x0 :: st) μ = callK rec 100 k c L (vI x2 :: vA x1 :: vA x0 :: st) μ) (hc : cats st ≤ 8) (hv : x0 ≠ 0 ∧ kd x0 = 2) (h1 : RunM 100 [vA x0, vA x1, vI x2] μ r1) (h : Rn Φ k c L (r1.1.toList ++ st) r1.2 r) : Rn Φ k ((pc, i) :: c) L (vI x2 :: vA x1 :: vA x0 :: st) μ r := CC (vs := [vA x0, vA x1, vI x2]) md_100 e rfl hc (decide_eq_true hv) rfl h1 h
theorem RC_101 {Φ : Mem → Prop} {k pc : Nat} {i : Instr} {c : Cd} {L : LV} {st : List SV} {μ : Mem} {r1 r : Res} {x0 x1 : Int} (e : ∀ rec : Rec, stp rec k i c L (vI x1 :: vA x0 :: st) μ = callK rec 101 k c L (vI x1 :: vA x0 :: st) μ) (hc : cats st ≤ 8) (hv : x0 ≠ 0 ∧ kd x0 = 7) (h1 : RunM 101 [vA x0, vI x1] μ r1) (h : Rn Φ k c L (r1.1.toList ++ st) r1.2 r) : Rn Φ k ((pc, i) :: c) L (vI x1 :: vA x0 :: st) μ r := CC (vs := [vA x0, vI x1]) md_101 e rfl hc (decide_eq_true hv) rfl h1 h
theorem RC_102 {Φ : Mem → Prop} {k pc : Nat} {i : Instr} {c : Cd} {L : LV} {st : List SV} {μ : Mem} {r1 r : Res} {x0 x1 : Int} (e : ∀ rec : Rec, stp rec k i c L (vI x1 :: vA x0 :: st) μ = callK rec 102 k c L (vI x1 :: vA x0 :: st) μ) (hc : cats st ≤ 8) (hv : x0 ≠ 0 ∧ kd x0 = 1) (h1 : RunM 102 [vA x0, vI x1] μ r1) (h : Rn Φ k c L (r1.1.toList ++ st) r1.2 r) : Rn Φ k ((pc, i) :: c) L (vI x1 :: vA x0 :: st) μ r := CC (vs := [vA x0, vI x1]) md_102 e rfl hc (decide_eq_true hv) rfl h1 h
theorem RC_103 {Φ : Mem → Prop} {k pc : Nat} {i : Instr} {c : Cd} {L : LV} {st : List SV} {μ : Mem} {r1 r : Res} {x0 x1 x2 : Int} (e : ∀ rec : Rec, stp rec k i c L (vI x2 :: vA x1 :: vA x0 :: st) μ = callK rec 103 k c L (vI x2 :: vA x1 :: vA x0 :: st) μ) (hc : cats st ≤ 8) (hv : x0 ≠ 0 ∧ kd x0 = 2) (h1 : RunM 103 [vA x0, vA x1, vI x2] μ r1) (h : Rn Φ k c L (r1.1.toList ++ st) r1.2 r) : Rn Φ k ((pc, i) :: c) L (vI x2 :: vA x1 :: vA x0 :: st) μ r := CC (vs := [vA x0, vA x1, vI x2]) md_103 e rfl hc (decide_eq_true hv) rfl h1 h
theorem RC_104 {Φ : Mem → Prop} {k pc : Nat} {i : Instr} {c : Cd} {L : LV} {st : List SV} {μ : Mem} {r1 r : Res} {x0 x1 x2 : Int} (e : ∀ rec : Rec, stp rec k i c L (vI x2 :: vI x1 :: vA x0 :: st) μ = callK rec 104 k c L (vI x2 :: vI x1 :: vA x0 :: st) μ) (hc : cats st ≤ 8) (hv : x0 ≠ 0 ∧ kd x0 = 2) (h1 : RunM 104 [vA x0, vI x1, vI x2] μ r1) (h : Rn Φ k c L (r1.1.toList ++ st) r1.2 r) : Rn Φ k ((pc, i) :: c) L (vI x2 :: vI x1 :: vA x0 :: st) μ r := CC (vs := [vA x0, vI x1, vI x2]) md_104 e rfl hc (decide_eq_true hv) rfl h1 h
theorem RC_105 {Φ : Mem → Prop} {k pc : Nat} {i : Instr} {c : Cd} {L : LV} {st : List SV} {μ : Mem} {r1 r : Res} {x0 : Int} (e : ∀ rec : Rec, stp rec k i c L (vA x0 :: st) μ = callK rec 105 k c L (vA x0 :: st) μ) (hc : cats st ≤ 8) (hv : x0 ≠ 0 ∧ kd x0 = 2) (h1 : RunM 105 [vA x0] μ r1) (h : Rn Φ k c L (r1.1.toList ++ st) r1.2 r) : Rn Φ k ((pc, i) :: c) L (vA x0 :: st) μ r := CC (vs := [vA x0]) md_105 e rfl hc (decide_eq_true hv) rfl h1 h
theorem RC_106 {Φ : Mem → Prop} {k pc : Nat} {i : Instr} {c : Cd} {L : LV} {st : List SV} {μ : Mem} {r1 r : Res} {x0 x1 : Int} (e : ∀ rec : Rec, stp rec k i c L (vI x1 :: vA x0 :: st) μ = callK rec 106 k c L (vI x1 :: vA x0 :: st) μ) (hc : cats st ≤ 8) (hv : x0 ≠ 0 ∧ kd x0 = 2) (h1 : RunM 106 [vA x0, vI x1] μ r1) (h : Rn Φ k c L (r1.1.toList ++ st) r1.2 r) : Rn Φ k ((pc, i) :: c) L (vI x1 :: vA x0 :: st) μ r := CC (vs := [vA x0, vI x1]) md_106 e rfl hc (decide_eq_true hv) rfl h1 h
theorem RC_107 {Φ : Mem → Prop} {k pc : Nat} {i : Instr} {c : Cd} {L : LV} {st : List SV} {μ : Mem} {r1 r : Res} {x0 x1 : Int} (e : ∀ rec : Rec, stp rec k i c L (vI x1 :: vA x0 :: st) μ = callK rec 107 k c L (vI x1 :: vA x0 :: st) μ) (hc : cats st ≤ 8) (hv : x0 ≠ 0 ∧ kd x0 = 7) (h1 : RunM 107 [vA x0, vI x1] μ r1) (h : Rn Φ k c L (r1.1.toList ++ st) r1.2 r) : Rn Φ k ((pc, i) :: c) L (vI x1 :: vA x0 :: st) μ r := CC (vs := [vA x0, vI x1]) md_107 e rfl hc (decide_eq_true hv) rfl h1 h
theorem RC_108 {Φ : Mem → Prop} {k pc : Nat} {i : Instr} {c : Cd} {L : LV} {st : List SV} {μ : Mem} {r1 r : Res} {x0 x1 x2 : Int} (e : ∀ rec : Rec, stp rec k i c L (vI x2 :: vI x1 :: vA x0 :: st) μ = callK rec 108 k c L (vI x2 :: vI x1 :: vA x0 :: st) μ) (hc : cats st ≤ 8) (hv : x0 ≠ 0 ∧ kd x0 = 2) (h1 : RunM 108 [vA x0, vI x1, vI x2] μ r1) (h : Rn Φ k c L (r1.1.toList ++ st) r1.2 r) : Rn Φ k ((pc, i) :: c) L (vI x2 :: vI x1 :: vA x0 :: st) μ r := CC (vs := [vA x0, vI x1, vI x2]) md_108 e rfl hc (decide_eq_true hv) rfl h1 h
theorem RC_109 {Φ : Mem → Prop} {k pc : Nat} {i : Instr} {c : Cd} {L : LV} {st : List SV} {μ : Mem} {r1 r : Res} {x0 x1 : Int} (e : ∀ rec : Rec, stp rec k i c L (vI x1 :: vA x0 :: st) μ = callK rec 109 k c L (vI x1 :: vA x0 :: st) μ) (hc : cats st ≤ 8) (hv : x0 ≠ 0 ∧ kd x0 = 2) (h1 : RunM 109 [vA x0, vI x1] μ r1) (h : Rn Φ k c L (r1.1.toList ++ st) r1.2 r) : Rn Φ k ((pc, i) :: c) L (vI x1 :: vA x0 :: st) μ r := CC (vs := [vA x0, vI x1]) md_109 e rfl hc (decide_eq_true hv) rfl h1 h
theorem RC_110 {Φ : Mem → Prop} {k pc : Nat} {i : Instr} {c : Cd} {L : LV} {st : List SV} {μ : Mem} {r1 r : Res} {x0 x1 : Int} (e : ∀ rec : Rec, stp rec k i c L (vI x1 :: vA x0 :: st) μ = callK rec 110 k c L (vI x1 :: vA x0 :: st) μ) (hc : cats st ≤ 8) (hv : x0 ≠ 0 ∧ kd x0 = 2) (h1 : RunM 110 [vA x0, vI x1] μ r1) (h : Rn Φ k c L (r1.1.toList ++ st) r1.2 r) : Rn Φ k ((pc, i) :: c) L (vI x1 :: vA x0 :: st) μ r := CC (vs := [vA x0, vI x1]) md_110 e rfl hc (decide_eq_true hv) rfl h1 h
theorem RC_111 {Φ : Mem → Prop} {k pc : Nat} {i : Instr} {c : Cd} {L : LV} {st : List SV} {μ : Mem} {r1 r : Res} {x0 x1 : Int} (e : ∀ rec : Rec, stp rec k i c L (vI x1 :: vA x0 :: st) μ = callK rec 111 k c L (vI x1 :: vA x0 :: st) μ) (hc : cats st ≤ 8) (hv : x0 ≠ 0 ∧ kd x0 = 2) (h1 : RunM 111 [vA x0, vI x1] μ r1) (h : Rn Φ k c L (r1.1.toList ++ st) r1.2 r) : Rn Φ k ((pc, i) :: c) L (vI x1 :: vA x0 :: st) μ r := CC (vs := [vA x0, vI x1]) md_111 e rfl hc (decide_eq_true hv) rfl h1 h
theorem RC_112 {Φ : Mem → Prop} {k pc : Nat} {i : Instr} {c : Cd} {L : LV} {st : List SV} {μ : Mem} {r1 r : Res} {x0 x1 x2 x3 : Int} (e : ∀ rec : Rec, stp rec k i c L (vI x3 :: vI x2 :: vI x1 :: vA x0 :: st) μ = callK rec 112 k c L (vI x3 :: vI x2 :: vI x1 :: vA x0 :: st) μ) (hc : cats st ≤ 8) (hv : x0 ≠ 0 ∧ kd x0 = 3) (h1 : RunM 112 [vA x0, vI x1, vI x2, vI x3] μ r1) (h : Rn Φ k c L (r1.1.toList ++ st) r1.2 r) : Rn Φ k ((pc, i) :: c) L (vI x3 :: vI x2 :: vI x1 :: vA x0 :: st) μ r := CC (vs := [vA x0, vI x1, vI x2, vI x3]) md_112 e rfl hc (decide_eq_true hv) rfl h1 h
theorem RC_113 {Φ : Mem → Prop} {k pc : Nat} {i : Instr} {c : Cd} {L : LV} {st : List SV} {μ : Mem} {r1 r : Res} {x0 : Int} (e : ∀ rec : Rec, stp rec k i c L (vA x0 :: st) μ = callK rec 113 k c L (vA x0 :: st) μ) (hc : cats st ≤ 8) (hv : x0 ≠ 0 ∧ kd x0 = 3) (h1 : RunM 113 [vA x0] μ r1) (h : Rn Φ k c L (r1.1.toList ++ st) r1.2 r) : Rn Φ k ((pc, i) :: c) L (vA x0 :: st) μ r := CC (vs := [vA x0]) md_113 e rfl hc (decide_eq_true hv) rfl h1 h
theorem RC_114 {Φ : Mem → Prop} {k pc : Nat} {i : Instr} {c : Cd} {L : LV} {st : List SV} {μ : Mem} {r1 r : Res} {x0 x1 : Int} (e : ∀ rec : Rec, stp rec k i c L (vI x1 :: vA x0 :: st) μ = callK rec 114 k c L (vI x1 :: vA x0 :: st) μ) (hc : cats st ≤ 8) (hv : x0 ≠ 0 ∧ kd x0 = 11) (h1 : RunM 114 [vA x0, vI x1] μ r1) (h : Rn Φ k c L (r1.1.toList ++ st) r1.2 r) : Rn Φ k ((pc, i) :: c) L (vI x1 :: vA x0 :: st) μ r := CC (vs := [vA x0, vI x1]) md_114 e rfl hc (decide_eq_true hv) rfl h1 h
theorem RC_115 {Φ : Mem → Prop} {k pc : Nat} {i : Instr} {c : Cd} {L : LV} {st : List SV} {μ : Mem} {r1 r : Res} {x0 : Int} (e : ∀ rec : Rec, stp rec k i c L (vA x0 :: st) μ = callK rec 115 k c L (vA x0 :: st) μ) (hc : cats st ≤ 8) (hv : x0 ≠ 0 ∧ kd x0 = 11) (h1 : RunM 115 [vA x0] μ r1) (h : Rn Φ k c L (r1.1.toList ++ st) r1.2 r) : Rn Φ k ((pc, i) :: c) L (vA x0 :: st) μ r := CC (vs := [vA x0]) md_115 e rfl hc (decide_eq_true hv) rfl h1 h
theorem RC_116 {Φ : Mem → Prop} {k pc : Nat} {i : Instr} {c : Cd} {L : LV} {st : List SV} {μ : Mem} {r1 r : Res} {x0 : Int} (e : ∀ rec : Rec, stp rec k i c L (vA x0 :: st) μ = callK rec 116 k c L (vA x0 :: st) μ) (hc : cats st ≤ 8) (hv : x0 ≠ 0 ∧ kd x0 = 11) (h1 : RunM 116 [vA x0] μ r1) (h : Rn Φ k c L (r1.1.toList ++ st) r1.2 r) : Rn Φ k ((pc, i) :: c) L (vA x0 :: st) μ r := CC (vs := [vA x0]) md_116 e rfl hc (decide_eq_true hv) rfl h1 h
theorem RC_117 {Φ : Mem → Prop} {k pc : Nat} {i : Instr} {c : Cd} {L : LV} {st : List SV} {μ : Mem} {r1 r : Res} {x0 : Int} (e : ∀ rec : Rec, stp rec k i c L (vA x0 :: st) μ = callK rec 117 k c L (vA x0 :: st) μ) (hc : cats st ≤ 8) (hv : x0 ≠ 0 ∧ kd x0 = 6) (h1 : RunM 117 [vA x0] μ r1) (h : Rn Φ k c L (r1.1.toList ++ st) r1.2 r) : Rn Φ k ((pc, i) :: c) L (vA x0 :: st) μ r := CC (vs := [vA x0]) md_117 e rfl hc (decide_eq_true hv) rfl h1 h
theorem RC_118 {Φ : Mem → Prop} {k pc : Nat} {i : Instr} {c : Cd} {L : LV} {st : List SV} {μ : Mem} {r1 r : Res} {x0 x1 x2 : Int} (e : ∀ rec : Rec, stp rec k i c L (vA x2 :: vI x1 :: vA x0 :: st) μ = callK rec 118 k c L (vA x2 :: vI x1 :: vA x0 :: st) μ) (hc : cats st ≤ 8) (hv : x0 ≠ 0 ∧ kd x0 = 6) (h1 : RunM 118 [vA x0, vI x1, vA x2] μ r1) (h : Rn Φ k c L (r1.1.toList ++ st) r1.2 r) : Rn Φ k ((pc, i) :: c) L (vA x2 :: vI x1 :: vA x0 :: st) μ r := CC (vs := [vA x0, vI x1, vA x2]) md_118 e rfl hc (decide_eq_true hv) rfl h1 h
theorem RC_119 {Φ : Mem → Prop} {k pc : Nat} {i : Instr} {c : Cd} {L : LV} {st : List SV} {μ : Mem} {r1 r : Res} {x0 x1 x2 : Int} (e : ∀ rec : Rec, stp rec k i c L (vI x2 :: vI x1 :: vA x0 :: st) μ = callK rec 119 k c L (vI x2 :: vI x1 :: vA x0 :: st) μ) (hc : cats st ≤ 8) (hv : x0 ≠ 0 ∧ kd x0 = 6) (h1 : RunM 119 [vA x0, vI x1, vI x2] μ r1) (h : Rn Φ k c L (r1.1.toList ++ st) r1.2 r) : Rn Φ k ((pc, i) :: c) L (vI x2 :: vI x1 :: vA x0 :: st) μ r := CC (vs := [vA x0, vI x1, vI x2]) md_119 e rfl hc (decide_eq_true hv) rfl h1 h
theorem RC_120 {Φ : Mem → Prop} {k pc : Nat} {i : Instr} {c : Cd} {L : LV} {st : List SV} {μ : Mem} {r1 r : Res} {x0 x1 : Int} (e : ∀ rec : Rec, stp rec k i c L (vI x1 :: vA x0 :: st) μ = callK rec 120 k c L (vI x1 :: vA x0 :: st) μ) (hc : cats st ≤ 8) (hv : x0 ≠ 0 ∧ kd x0 = 6) (h1 : RunM 120 [vA x0, vI x1] μ r1) (h : Rn Φ k c L (r1.1.toList ++ st) r1.2 r) : Rn Φ k ((pc, i) :: c) L (vI x1 :: vA x0 :: st) μ r := CC (vs := [vA x0, vI x1]) md_120 e rfl hc (decide_eq_true hv) rfl h1 h
theorem RC_121 {Φ : Mem → Prop} {k pc : Nat} {i : Instr} {c : Cd} {L : LV} {st : List SV} {μ : Mem} {r1 r : Res} {x0 : Int} (e : ∀ rec : Rec, stp rec k i c L (vA x0 :: st) μ = callK rec 121 k c L (vA x0 :: st) μ) (hc : cats st ≤ 8) (hv : x0 ≠ 0 ∧ kd x0 = 6) (h1 : RunM 121 [vA x0] μ r1) (h : Rn Φ k c L (r1.1.toList ++ st) r1.2 r) : Rn Φ k ((pc, i) :: c) L (vA x0 :: st) μ r := CC (vs := [vA x0]) md_121 e rfl hc (decide_eq_true hv) rfl h1 h
theorem RC_122 {Φ : Mem → Prop} {k pc : Nat} {i : Instr} {c : Cd} {L : LV} {st : List SV} {μ : Mem} {r1 r : Res} {x0 x1 : Int} (e : ∀ rec : Rec, stp rec k i c L (vI x1 :: vA x0 :: st) μ = callK rec 122 k c L (vI x1 :: vA x0 :: st) μ) (hc : cats st ≤ 8) (hv : x0 ≠ 0 ∧ kd x0 = 6) (h1 : RunM 122 [vA x0, vI x1] μ r1) (h : Rn Φ k c L (r1.1.toList ++ st) r1.2 r) : Rn Φ k ((pc, i) :: c) L (vI x1 :: vA x0 :: st) μ r := CC (vs := [vA x0, vI x1]) md_122 e rfl hc (decide_eq_true hv) rfl h1 h
theorem RC_123 {Φ : Mem → Prop} {k pc : Nat} {i : Instr} {c : Cd} {L : LV} {st : List SV} {μ : Mem} {r1 r : Res} {x0 x1 : Int} (e : ∀ rec : Rec, stp rec k i c L (vI x1 :: vA x0 :: st) μ = callK rec 123 k c L (vI x1 :: vA x0 :: st) μ) (hc : cats st ≤ 8) (hv : x0 ≠ 0 ∧ kd x0 = 6) (h1 : RunM 123 [vA x0, vI x1] μ r1) (h : Rn Φ k c L (r1.1.toList ++ st) r1.2 r) : Rn Φ k ((pc, i) :: c) L (vI x1 :: vA x0 :: st) μ r := CC (vs := [vA x0, vI x1]) md_123 e rfl hc (decide_eq_true hv) rfl h1 h
theorem RC_124 {Φ : Mem → Prop} {k pc : Nat} {i : Instr} {c : Cd} {L : LV} {st : List SV} {μ : Mem} {r1 r : Res} {x0 x1 x2 : Int} (e : ∀ rec : Rec, stp rec k i c L (vI x2 :: vI x1 :: vA x0 :: st) μ = callK rec 124 k c L (vI x2 :: vI x1 :: vA x0 :: st) μ) (hc : cats st ≤ 8) (hv : x0 ≠ 0 ∧ kd x0 = 6) (h1 : RunM 124 [vA x0, vI x1, vI x2] μ r1) (h : Rn Φ k c L (r1.1.toList ++ st) r1.2 r) : Rn Φ k ((pc, i) :: c) L (vI x2 :: vI x1 :: vA x0 :: st) μ r := CC (vs := [vA x0, vI x1, vI x2]) md_124 e rfl hc (decide_eq_true hv) rfl h1 h
theorem RC_125 {Φ : Mem → Prop} {k pc : Nat} {i : Instr} {c : Cd} {L : LV} {st : List SV} {μ : Mem} {r1 r : Res} {x0 : Int} (e : ∀ rec : Rec, stp rec k i c L (vA x0 :: st) μ = callK rec 125 k c L (vA x0 :: st) μ) (hc : cats st ≤ 8) (hv : x0 ≠ 0 ∧ kd x0 = 6) (h1 : RunM 125 [vA x0] μ r1) (h : Rn Φ k c L (r1.1.toList ++ st) r1.2 r) : Rn Φ k ((pc, i) :: c) L (vA x0 :: st) μ r := CC (vs := [vA x0]) md_125 e rfl hc (decide_eq_true hv) rfl h1 h
theorem RC_126 {Φ : Mem → Prop} {k pc : Nat} {i : Instr} {c : Cd} {L : LV} {st : List SV} {μ : Mem} {r1 r : Res} {x0 x1 : Int} (e : ∀ rec : Rec, stp rec k i c L (vI x1 :: vA x0 :: st) μ = callK rec 126 k c L (vI x1 :: vA x0 :: st) μ) (hc : cats st ≤ 8) (hv : x0 ≠ 0 ∧ kd x0 = 6) (h1 : RunM 126 [vA x0, vI x1] μ r1) (h : Rn Φ k c L (r1.1.toList ++ st) r1.2 r) : Rn Φ k ((pc, i) :: c) L (vI x1 :: vA x0 :: st) μ r := CC (vs := [vA x0, vI x1]) md_126 e rfl hc (decide_eq_true hv) rfl h1 h
theorem RC_127 {Φ : Mem → Prop} {k pc : Nat} {i : Instr} {c : Cd} {L : LV} {st : List SV} {μ : Mem} {r1 r : Res} {x0 x1 : Int} (e : ∀ rec : Rec, stp rec k i c L (vA x1 :: vA x0 :: st) μ = callK rec 127 k c L (vA x1 :: vA x0 :: st) μ) (hc : cats st ≤ 8) (hv : x0 ≠ 0 ∧ kd x0 = 6) (h1 : RunM 127 [vA x0, vA x1] μ r1) (h : Rn Φ k c L (r1.1.toList ++ st) r1.2 r) : Rn Φ k ((pc, i) :: c) L (vA x1 :: vA x0 :: st) μ r := CC (vs := [vA x0, vA x1]) md_127 e rfl hc (decide_eq_true hv) rfl h1 h
theorem RC_128 {Φ : Mem → Prop} {k pc : Nat} {i : Instr} {c : Cd} {L : LV} {st : List SV} {μ : Mem} {r1 r : Res} {x0 x1 : Int} (e : ∀ rec : Rec, stp rec k i c L (vI x1 :: vA x0 :: st) μ = callK rec 128 k c L (vI x1 :: vA x0 :: st) μ) (hc : cats st ≤ 8) (hv : x0 ≠ 0 ∧ kd x0 = 6) (h1 : RunM 128 [vA x0, vI x1] μ r1) (h : Rn Φ k c L (r1.1.toList ++ st) r1.2 r) : Rn Φ k ((pc, i) :: c) L (vI x1 :: vA x0 :: st) μ r := CC (vs := [vA x0, vI x1]) md_128 e rfl hc (decide_eq_true hv) rfl h1 h
theorem RC_129 {Φ : Mem → Prop} {k pc : Nat} {i : Instr} {c : Cd} {L : LV} {st : List SV} {μ : Mem} {r1 r : Res} {x0 x1 : Int} (e : ∀ rec : Rec, stp rec k i c L (vI x1 :: vA x0 :: st) μ = callK rec 129 k c L (vI x1 :: vA x0 :: st) μ) (hc : cats st ≤ 8) (hv : x0 ≠ 0 ∧ kd x0 = 6) (h1 : RunM 129 [vA x0, vI x1] μ r1) (h : Rn Φ k c L (r1.1.toList ++ st) r1.2 r) : Rn Φ k ((pc, i) :: c) L (vI x1 :: vA x0 :: st) μ r := CC (vs := [vA x0, vI x1]) md_129 e rfl hc (decide_eq_true hv) rfl h1 h
theorem RC_130 {Φ : Mem → Prop} {k pc : Nat} {i : Instr} {c : Cd} {L : LV} {st : List SV} {μ : Mem} {r1 r : Res} {x0 x1 x2 : Int} (e : ∀ rec : Rec, stp rec k i c L (vA x2 :: vI x1 :: vA x0 :: st) μ = callK rec 130 k c L (vA x2 :: vI x1 :: vA x0 :: st) μ) (hc : cats st ≤ 8) (hv : x0 ≠ 0 ∧ kd x0 = 6) (h1 : RunM 130 [vA x0, vI x1, vA x2] μ r1) (h : Rn Φ k c L (r1.1.toList ++ st) r1.2 r) : Rn Φ k ((pc, i) :: c) L (vA x2 :: vI x1 :: vA x0 :: st) μ r := CC (vs := [vA x0, vI x1, vA x2]) md_130 e rfl hc (decide_eq_true hv) rfl h1 h
theorem RC_131 {Φ : Mem → Prop} {k pc : Nat} {i : Instr} {c : Cd} {L : LV} {st : List SV} {μ : Mem} {r1 r : Res} {x0 x1 : Int} (e : ∀ rec : Rec, stp rec k i c L (vA x1 :: vA x0 :: st) μ = callK rec 131 k c L (vA x1 :: vA x0 :: st) μ) (hc : cats st ≤ 8) (hv : x0 ≠ 0 ∧ kd x0 = 6) (h1 : RunM 131 [vA x0, vA x1] μ r1) (h : Rn Φ k c L (r1.1.toList ++ st) r1.2 r) : Rn Φ k ((pc, i) :: c) L (vA x1 :: vA x0 :: st) μ r := CC (vs := [vA x0, vA x1]) md_131 e rfl hc (decide_eq_true hv) rfl h1 h
theorem RC_132 {Φ : Mem → Prop} {k pc : Nat} {i : Instr} {c : Cd} {L : LV} {st : List SV} {μ : Mem} {r1 r : Res} {x0 x1 x2 : Int} (e : ∀ rec : Rec, stp rec k i c L (vA x2 :: vI x1 :: vA x0 :: st) μ = callK rec 132 k c L (vA x2 :: vI x1 :: vA x0 :: st) μ) (hc : cats st ≤ 8) (hv : x0 ≠ 0 ∧ kd x0 = 6) (h1 : RunM 132 [vA x0, vI x1, vA x2] μ r1) (h : Rn Φ k c L (r1.1.toList ++ st) r1.2 r) : Rn Φ k ((pc, i) :: c) L (vA x2 :: vI x1 :: vA x0 :: st) μ r := CC (vs := [vA x0, vI x1, vA x2]) md_132 e rfl hc (decide_eq_true hv) rfl h1 h
theorem RC_133 {Φ : Mem → Prop} {k pc : Nat} {i : Instr} {c : Cd} {L : LV} {st : List SV} {μ : Mem} {r1 r : Res} {x0 : Int} (e : ∀ rec : Rec, stp rec k i c L (vA x0 :: st) μ = callK rec 133 k c L (vA x0 :: st) μ) (hc : cats st ≤ 8) (hv : x0 ≠ 0 ∧ kd x0 = 6) (h1 : RunM 133 [vA x0] μ r1) (h : Rn Φ k c L (r1.1.toList ++ st) r1.2 r) : Rn Φ k ((pc, i) :: c) L (vA x0 :: st) μ r := CC (vs := [vA x0]) md_133 e rfl hc (decide_eq_true hv) rfl h1 h
theorem RC_134 {Φ : Mem → Prop} {k pc : Nat} {i : Instr} {c : Cd} {L : LV} {st : List SV} {μ : Mem} {r1 r : Res} {x0 x1 : Int} (e : ∀ rec : Rec, stp rec k i c L (vI x1 :: vA x0 :: st) μ = callK rec 134 k c L (vI x1 :: vA x0 :: st) μ) (hc : cats st ≤ 8) (hv : x0 ≠ 0 ∧ kd x0 = 11) (h1 : RunM 134 [vA x0, vI x1] μ r1) (h : Rn Φ k c L (r1.1.toList ++ st) r1.2 r) : Rn Φ k ((pc, i) :: c) L (vI x1 :: vA x0 :: st) μ r := CC (vs := [vA x0, vI x1]) md_134 e rfl hc (decide_eq_true hv) rfl h1 h
theorem RC_135 {Φ : Mem → Prop} {k pc : Nat} {i : Instr} {c : Cd} {L : LV} {st : List SV} {μ : Mem} {r1 r : Res} {x0 : Int} (e : ∀ rec : Rec, stp rec k i c L (vA x0 :: st) μ = callK rec 135 k c L (vA x0 :: st) μ) (hc : cats st ≤ 8) (hv : x0 ≠ 0 ∧ kd x0 = 11) (h1 : RunM 135 [vA x0] μ r1) (h : Rn Φ k c L (r1.1.toList ++ st) r1.2 r) : Rn Φ k ((pc, i) :: c) L (vA x0 :: st) μ r := CC (vs := [vA x0]) md_135 e rfl hc (decide_eq_true hv) rfl h1 h
theorem RC_136 {Φ : Mem → Prop} {k pc : Nat} {i : Instr} {c : Cd} {L : LV} {st : List SV} {μ : Mem} {r1 r : Res} {x0 : Int} (e : ∀ rec : Rec, stp rec k i c L (vA x0 :: st) μ = callK rec 136 k c L (vA x0 :: st) μ) (hc : cats st ≤ 8) (hv : x0 ≠ 0 ∧ kd x0 = 3) (h1 : RunM 136 [vA x0] μ r1) (h : Rn Φ k c L (r1.1.toList ++ st) r1.2 r) : Rn Φ k ((pc, i) :: c) L (vA x0 :: st) μ r := CC (vs := [vA x0]) md_136 e rfl hc (decide_eq_true hv) rfl h1 h
theorem RC_137 {Φ : Mem → Prop} {k pc : Nat} {i : Instr} {c : Cd} {L : LV} {st : List SV} {μ : Mem} {r1 r : Res} {x0 x1 x2 : Int} (e : ∀ rec : Rec, stp rec k i c L (vI x2 :: vI x1 :: vA x0 :: st) μ = callK rec 137 k c L (vI x2 :: vI x1 :: vA x0 :: st) μ) (hc : cats st ≤ 8) (hv : x0 ≠ 0 ∧ kd x0 = 3) (h1 : RunM 137 [vA x0, vI x1, vI x2] μ r1) (h : Rn Φ k c L (r1.1.toList ++ st) r1.2 r) : Rn Φ k ((pc, i) :: c) L (vI x2 :: vI x1 :: vA x0 :: st) μ r := CC (vs := [vA x0, vI x1, vI x2]) md_137 e rfl hc (decide_eq_true hv) rfl h1 h
theorem RC_138 {Φ : Mem → Prop} {k pc : Nat} {i : Instr} {c : Cd} {L : LV} {st : List SV} {μ : Mem} {r1 r : Res} {x0 x1 x2 : Int} (e : ∀ rec : Rec, stp rec k i c L (vI x2 :: vI x1 :: vA x0 :: st) μ = callK rec 138 k c L (vI x2 :: vI x1 :: vA x0 :: st) μ) (hc : cats st ≤ 8) (hv : x0 ≠ 0 ∧ kd x0 = 3) (h1 : RunM 138 [vA x0, vI x1, vI x2] μ r1) (h : Rn Φ k c L (r1.1.toList ++ st) r1.2 r) : Rn Φ k ((pc, i) :: c) L (vI x2 :: vI x1 :: vA x0 :: st) μ r := CC (vs := [vA x0, vI x1, vI x2]) md_138 e rfl hc (decide_eq_true hv) rfl h1 h
theorem RC_139 {Φ : Mem → Prop} {k pc : Nat} {i : Instr} {c : Cd} {L : LV} {st : List SV} {μ : Mem} {r1 r : Res} {x0 x1 x2 x3 : Int} (e : ∀ rec : Rec, stp rec k i c L (vA x3 :: vI x2 :: vI x1 :: vA x0 :: st) μ = callK rec 139 k c L (vA x3 :: vI x2 :: vI x1 :: vA x0 :: st) μ) (hc : cats st ≤ 8) (hv : x0 ≠ 0 ∧ kd x0 = 3) (h1 : RunM 139 [vA x0, vI x1, vI x2, vA x3] μ r1) (h : Rn Φ k c L (r1.1.toList ++ st) r1.2 r) : Rn Φ k ((pc, i) :: c) L (vA x3 :: vI x2 :: vI x1 :: vA x0 :: st) μ r := CC (vs := [vA x0, vI x1, vI x2, vA x3]) md_139 e rfl hc (decide_eq_true hv) rfl h1 h
theorem RC_140 {Φ : Mem → Prop} {k pc : Nat} {i : Instr} {c : Cd} {L : LV} {st : List SV} {μ : Mem} {r1 r : Res} {x0 : Int} (e : ∀ rec : Rec, stp rec k i c L (vA x0 :: st) μ = callK rec 140 k c L (vA x0 :: st) μ) (hc : cats st ≤ 8) (hv : x0 ≠ 0 ∧ kd x0 = 3) (h1 : RunM 140 [vA x0] μ r1) (h : Rn Φ k c L (r1.1.toList ++ st) r1.2 r) : Rn Φ k ((pc, i) :: c) L (vA x0 :: st) μ r := CC (vs := [vA x0]) md_140 e rfl hc (decide_eq_true hv) rfl h1 h
theorem RC_141 {Φ : Mem → Prop} {k pc : Nat} {i : Instr} {c : Cd} {L : LV} {st : List SV} {μ : Mem} {r1 r : Res} {x0 : Int} (e : ∀ rec : Rec, stp rec k i c L (vA x0 :: st) μ = callK rec 141 k c L (vA x0 :: st) μ) (hc : cats st ≤ 8) (hv : x0 ≠ 0 ∧ kd x0 = 11) (h1 : RunM 141 [vA x0] μ r1) (h : Rn Φ k c L (r1.1.toList ++ st) r1.2 r) : Rn Φ k ((pc, i) :: c) L (vA x0 :: st) μ r := CC (vs := [vA x0]) md_141 e rfl hc (decide_eq_true hv) rfl h1 h
theorem RC_142 {Φ : Mem → Prop} {k pc : Nat} {i : Instr} {c : Cd} {L : LV} {st : List SV} {μ : Mem} {r1 r : Res} {x0 x1 : Int} (e : ∀ rec : Rec, stp rec k i c L (vI x1 :: vA x0 :: st) μ = callK rec 142 k c L (vI x1 :: vA x0 :: st) μ) (hc : cats st ≤ 8) (hv : x0 ≠ 0 ∧ kd x0 = 11) (h1 : RunM 142 [vA x0, vI x1] μ r1) (h : Rn Φ k c L (r1.1.toList ++ st) r1.2 r) : Rn Φ k ((pc, i) :: c) L (vI x1 :: vA x0 :: st) μ r := CC (vs := [vA x0, vI x1]) md_142 e rfl hc (decide_eq_true hv) rfl h1 h
theorem RC_143 {Φ : Mem → Prop} {k pc : Nat} {i : Instr} {c : Cd} {L : LV} {st : List SV} {μ : Mem} {r1 r : Res} {x0 x1 : Int} (e : ∀ rec : Rec, stp rec k i c L (vI x1 :: vA x0 :: st) μ = callK rec 143 k c L (vI x1 :: vA x0 :: st) μ) (hc : cats st ≤ 8) (hv : x0 ≠ 0 ∧ kd x0 = 11) (h1 : RunM 143 [vA x0, vI x1] μ r1) (h : Rn Φ k c L (r1.1.toList ++ st) r1.2 r) : Rn Φ k ((pc, i) :: c) L (vI x1 :: vA x0 :: st) μ r := CC (vs := [vA x0, vI x1]) md_143 e rfl hc (decide_eq_true hv) rfl h1 h
theorem RC_144 {Φ : Mem → Prop} {k pc : Nat} {i : Instr} {c : Cd} {L : LV} {st : List SV} {μ : Mem} {r1 r : Res} {x0 x1 : Int} (e : ∀ rec : Rec, stp rec k i c L (vI x1 :: vA x0 :: st) μ = callK rec 144 k c L (vI x1 :: vA x0 :: st) μ) (hc : cats st ≤ 8) (hv : x0 ≠ 0 ∧ kd x0 = 11) (h1 : RunM 144 [vA x0, vI x1] μ r1) (h : Rn Φ k c L (r1.1.toList ++ st) r1.2 r) : Rn Φ k ((pc, i) :: c) L (vI x1 :: vA x0 :: st) μ r := CC (vs := [vA x0, vI x1]) md_144 e rfl hc (decide_eq_true hv) rfl h1 h
theorem RC_145 {Φ : Mem → Prop} {k pc : Nat} {i : Instr} {c : Cd} {L : LV} {st : List SV} {μ : Mem} {r1 r : Res} {x0 : Int} (e : ∀ rec : Rec, stp rec k i c L (vA x0 :: st) μ = callK rec 145 k c L (vA x0 :: st) μ) (hc : cats st ≤ 8) (hv : x0 ≠ 0 ∧ kd x0 = 3) (h1 : RunM 145 [vA x0] μ r1) (h : Rn Φ k c L (r1.1.toList ++ st) r1.2 r) : Rn Φ k ((pc, i) :: c) L (vA x0 :: st) μ r := CC (vs := [vA x0]) md_145 e rfl hc (decide_eq_true hv) rfl h1 h
theorem RC_146 {Φ : Mem → Prop} {k pc : Nat} {i : Instr} {c : Cd} {L : LV} {st : List SV} {μ : Mem} {r1 r : Res} {x0 : Int} (e : ∀ rec : Rec, stp rec k i c L (vA x0 :: st) μ = callK rec 146 k c L (vA x0 :: st) μ) (hc : cats st ≤ 8) (hv : x0 ≠ 0 ∧ kd x0 = 8) (h1 : RunM 146 [vA x0] μ r1) (h : Rn Φ k c L (r1.1.toList ++ st) r1.2 r) : Rn Φ k ((pc, i) :: c) L (vA x0 :: st) μ r := CC (vs := [vA x0]) md_146 e rfl hc (decide_eq_true hv) rfl h1 h
theorem RC_147 {Φ : Mem → Prop} {k pc : Nat} {i : Instr} {c : Cd} {L : LV} {st : List SV} {μ : Mem} {r1 r : Res} {x0 x1 x2 : Int} (e : ∀ rec : Rec, stp rec k i c L (vI x2 :: vI x1 :: vA x0 :: st) μ = callK rec 147 k c L (vI x2 :: vI x1 :: vA x0 :: st) μ) (hc : cats st ≤ 8) (hv : x0 ≠ 0 ∧ kd x0 = 8) (h1 : RunM 147 [vA x0, vI x1, vI x2] μ r1) (h : Rn Φ k c L (r1.1.toList ++ st) r1.2 r) : Rn Φ k ((pc, i) :: c) L (vI x2 :: vI x1 :: vA x0 :: st) μ r := CC (vs := [vA x0, vI x1, vI x2]) md_147 e rfl hc (decide_eq_true hv) rfl h1 h
theorem RC_148 {Φ : Mem → Prop} {k pc : Nat} {i : Instr} {c : Cd} {L : LV} {st : List SV} {μ : Mem} {r1 r : Res} {x0 x1 : Int} (e : ∀ rec : Rec, stp rec k i c L (vI x1 :: vA x0 :: st) μ = callK rec 148 k c L (vI x1 :: vA x0 :: st) μ) (hc : cats st ≤ 8) (hv : x0 ≠ 0 ∧ kd x0 = 8) (h1 : RunM 148 [vA x0, vI x1] μ r1) (h : Rn Φ k c L (r1.1.toList ++ st) r1.2 r) : Rn Φ k ((pc, i) :: c) L (vI x1 :: vA x0 :: st) μ r := CC (vs := [vA x0, vI x1]) md_148 e rfl hc (decide_eq_true hv) rfl h1 h
theorem RC_149 {Φ : Mem → Prop} {k pc : Nat} {i : Instr} {c : Cd} {L : LV} {st : List SV} {μ : Mem} {r1 r : Res} {x0 x1 : Int} (e : ∀ rec : Rec, stp rec k i c L (vI x1 :: vA x0 :: st) μ = callK rec 149 k c L (vI x1 :: vA x0 :: st) μ) (hc : cats st ≤ 8) (hv : x0 ≠ 0 ∧ kd x0 = 8) (h1 : RunM 149 [vA x0, vI x1] μ r1) (h : Rn Φ k c L (r1.1.toList ++ st) r1.2 r) : Rn Φ k ((pc, i) :: c) L (vI x1 :: vA x0 :: st) μ r := CC (vs := [vA x0, vI x1]) md_149 e rfl hc (decide_eq_true hv) rfl h1 h
theorem RC_150 {Φ : Mem → Prop} {k pc : Nat} {i : Instr} {c : Cd} {L : LV} {st : List SV} {μ : Mem} {r1 r : Res} {x0 x1 x2 : Int} (e : ∀ rec : Rec, stp rec k i c L (vI x2 :: vI x1 :: vA x0 :: st) μ = callK rec 150 k c L (vI x2 :: vI x1 :: vA x0 :: st) μ) (hc : cats st ≤ 8) (hv : x0 ≠ 0 ∧ kd x0 = 8) (h1 : RunM 150 [vA x0, vI x1, vI x2] μ r1) (h : Rn Φ k c L (r1.1.toList ++ st) r1.2 r) : Rn Φ k ((pc, i) :: c) L (vI x2 :: vI x1 :: vA x0 :: st) μ r := CC (vs := [vA x0, vI x1, vI x2]) md_150 e rfl hc (decide_eq_true hv) rfl h1 h
theorem RC_151 {Φ : Mem → Prop} {k pc : Nat} {i : Instr} {c : Cd} {L : LV} {st : List SV} {μ : Mem} {r1 r : Res} {x0 x1 x2 : Int} (e : ∀ rec : Rec, stp rec k i c L (vI x2 :: vI x1 :: vA x0 :: st) μ = callK rec 151 k c L (vI x2 :: vI x1 :: vA x0 :: st) μ) (hc : cats st ≤ 8) (hv : x0 ≠ 0 ∧ kd x0 = 11) (h1 : RunM 151 [vA x0, vI x1, vI x2] μ r1) (h : Rn Φ k c L (r1.1.toList ++ st) r1.2 r) : Rn Φ k ((pc, i) :: c) L (vI x2 :: vI x1 :: vA x0 :: st) μ r := CC (vs := [vA x0, vI x1, vI x2]) md_151 e rfl hc (decide_eq_true hv) rfl h1 h
theorem RC_152 {Φ : Mem → Prop} {k pc : Nat} {i : Instr} {c : Cd} {L : LV} {st : List SV} {μ : Mem} {r1 r : Res} {x0 x1 : Int} (e : ∀ rec : Rec, stp rec k i c L (vI x1 :: vI x0 :: st) μ = callK rec 152 k c L (vI x1 :: vI x0 :: st) μ) (hc : cats st ≤ 8) (h1 : RunM 152 [vI x0, vI x1] μ r1) (h : Rn Φ k c L (r1.1.toList ++ st) r1.2 r) : Rn Φ k ((pc, i) :: c) L (vI x1 :: vI x0 :: st) μ r := CC (vs := [vI x0, vI x1]) md_152 e rfl hc rfl rfl h1 h
theorem RC_153 {Φ : Mem → Prop} {k pc : Nat} {i : Instr} {c : Cd} {L : LV} {st : List SV} {μ : Mem} {r1 r : Res} {x0 : Int} (e : ∀ rec : Rec, stp rec k i c L (vI x0 :: st) μ = callK rec 153 k c L (vI x0 :: st) μ) (hc : cats st ≤ 8) (h1 : RunM 153 [vI x0] μ r1) (h : Rn Φ k c L (r1.1.toList ++ st) r1.2 r) : Rn Φ k ((pc, i) :: c) L (vI x0 :: st) μ r := CC (vs := [vI x0]) md_153 e rfl hc rfl rfl h1 h
theorem RC_154 {Φ : Mem → Prop} {k pc : Nat} {i : Instr} {c : Cd} {L : LV} {st : List SV} {μ : Mem} {r1 r : Res} {x0 x1 x2 : Int} (e : ∀ rec : Rec, stp rec k i c L (vI x2 :: vI x1 :: vA x0 :: st) μ = callK rec 154 k c L (vI x2 :: vI x1 :: vA x0 :: st) μ) (hc : cats st ≤ 8) (hv : x0 ≠ 0 ∧ kd x0 = 11) (h1 : RunM 154 [vA x0, vI x1, vI x2] μ r1) (h : Rn Φ k c L (r1.1.toList ++ st) r1.2 r) : Rn Φ k ((pc, i) :: c) L (vI x2 :: vI x1 :: vA x0 :: st) μ r := CC (vs := [vA x0, vI x1, vI x2]) md_154 e rfl hc (decide_eq_true hv) rfl h1 h
theorem RC_155 {Φ : Mem → Prop} {k pc : Nat} {i : Instr} {c : Cd} {L : LV} {st : List SV} {μ : Mem} {r1 r : Res} {x0 x1 : Int} (e : ∀ rec : Rec, stp rec k i c L (vI x1 :: vA x0 :: st) μ = callK rec 155 k c L (vI x1 :: vA x0 :: st) μ) (hc : cats st ≤ 8) (hv : x0 ≠ 0 ∧ kd x0 = 11) (h1 : RunM 155 [vA x0, vI x1] μ r1) (h : Rn Φ k c L (r1.1.toList ++ st) r1.2 r) : Rn Φ k ((pc, i) :: c) L (vI x1 :: vA x0 :: st) μ r := CC (vs := [vA x0, vI x1]) md_155 e rfl hc (decide_eq_true hv) rfl h1 h
theorem RC_156 {Φ : Mem → Prop} {k pc : Nat} {i : Instr} {c : Cd} {L : LV} {st : List SV} {μ : Mem} {r1 r : Res} {x0 x1 : Int} (e : ∀ rec : Rec, stp rec k i c L (vI x1 :: vA x0 :: st) μ = callK rec 156 k c L (vI x1 :: vA x0 :: st) μ) (hc : cats st ≤ 8) (hv : x0 ≠ 0 ∧ kd x0 = 11) (h1 : RunM 156 [vA x0, vI x1] μ r1) (h : Rn Φ k c L (r1.1.toList ++ st) r1.2 r) : Rn Φ k ((pc, i) :: c) L (vI x1 :: vA x0 :: st) μ r := CC (vs := [vA x0, vI x1]) md_156 e rfl hc (decide_eq_true hv) rfl h1 h
theorem RC_157 {Φ : Mem → Prop} {k pc : Nat} {i : Instr} {c : Cd} {L : LV} {st : List SV} {μ : Mem} {r1 r : Res} {x0 x1 x2 : Int} (e : ∀ rec : Rec, stp rec k i c L (vI x2 :: vI x1 :: vA x0 :: st) μ = callK rec 157 k c L (vI x2 :: vI x1 :: vA x0 :: st) μ) (hc : cats st ≤ 8) (hv : x0 ≠ 0 ∧ kd x0 = 11) (h1 : RunM 157 [vA x0, vI x1, vI x2] μ r1) (h : Rn Φ k c L (r1.1.toList ++ st) r1.2 r) : Rn Φ k ((pc, i) :: c) L (vI x2 :: vI x1 :: vA x0 :: st) μ r := CC (vs := [vA x0, vI x1, vI x2]) md_157 e rfl hc (decide_eq_true hv) rfl h1 h
theorem RC_158 {Φ : Mem → Prop} {k pc : Nat} {i : Instr} {c : Cd} {L : LV} {st : List SV} {μ : Mem} {r1 r : Res} {x0 x1 : Int} (e : ∀ rec : Rec, stp rec k i c L (vI x1 :: vA x0 :: st) μ = callK rec 158 k c L (vI x1 :: vA x0 :: st) μ) (hc : cats st ≤ 8) (hv : x0 ≠ 0 ∧ kd x0 = 11) (h1 : RunM 158 [vA x0, vI x1] μ r1) (h : Rn Φ k c L (r1.1.toList ++ st) r1.2 r) : Rn Φ k ((pc, i) :: c) L (vI x1 :: vA x0 :: st) μ r := CC (vs := [vA x0, vI x1]) md_158 e rfl hc (decide_eq_true hv) rfl h1 h
theorem RC_159 {Φ : Mem → Prop} {k pc : Nat} {i : Instr} {c : Cd} {L : LV} {st : List SV} {μ : Mem} {r1 r : Res} {x0 x1 : Int} (e : ∀ rec : Rec, stp rec k i c L (vI x1 :: vA x0 :: st) μ = callK rec 159 k c L (vI x1 :: vA x0 :: st) μ) (hc : cats st ≤ 8) (hv : x0 ≠ 0 ∧ kd x0 = 8) (h1 : RunM 159 [vA x0, vI x1] μ r1) (h : Rn Φ k c L (r1.1.toList ++ st) r1.2 r) : Rn Φ k ((pc, i) :: c) L (vI x1 :: vA x0 :: st) μ r := CC (vs := [vA x0, vI x1]) md_159 e rfl hc (decide_eq_true hv) rfl h1 h
theorem RC_160 {Φ : Mem → Prop} {k pc : Nat} {i : Instr} {c : Cd} {L : LV} {st : List SV} {μ : Mem} {r1 r : Res} {x0 x1 x2 : Int} (e : ∀ rec : Rec, stp rec k i c L (vI x2 :: vI x1 :: vA x0 :: st) μ = callK rec 160 k c L (vI x2 :: vI x1 :: vA x0 :: st) μ) (hc : cats st ≤ 8) (hv : x0 ≠ 0 ∧ kd x0 = 8) (h1 : RunM 160 [vA x0, vI x1, vI x2] μ r1) (h : Rn Φ k c L (r1.1.toList ++ st) r1.2 r) : Rn Φ k ((pc, i) :: c) L (vI x2 :: vI x1 :: vA x0 :: st) μ r := CC (vs := [vA x0, vI x1, vI x2]) md_160 e rfl hc (decide_eq_true hv) rfl h1 h
theorem RC_161 {Φ : Mem → Prop} {k pc : Nat} {i : Instr} {c : Cd} {L : LV} {st : List SV} {μ : Mem} {r1 r : Res} {x0 x1 : Int} (e : ∀ rec : Rec, stp rec k i c L (vI x1 :: vA x0 :: st) μ = callK rec 161 k c L (vI x1 :: vA x0 :: st) μ) (hc : cats st ≤ 8) (hv : x0 ≠ 0 ∧ kd x0 = 8) (h1 : RunM 161 [vA x0, vI x1] μ r1) (h : Rn Φ k c L (r1.1.toList ++ st) r1.2 r) : Rn Φ k ((pc, i) :: c) L (vI x1 :: vA x0 :: st) μ r := CC (vs := [vA x0, vI x1]) md_161 e rfl hc (decide_eq_true hv) rfl h1 h
theorem RC_162 {Φ : Mem → Prop} {k pc : Nat} {i : Instr} {c : Cd} {L : LV} {st : List SV} {μ : Mem} {r1 r : Res} {x0 x1 : Int} (e : ∀ rec : Rec, stp rec k i c L (vI x1 :: vI x0 :: st) μ = callK rec 162 k c L (vI x1 :: vI x0 :: st) μ) (hc : cats st ≤ 8) (h1 : RunM 162 [vI x0, vI x1] μ r1) (h : Rn Φ k c L (r1.1.toList ++ st) r1.2 r) : Rn Φ k ((pc, i) :: c) L (vI x1 :: vI x0 :: st) μ r := CC (vs := [vI x0, vI x1]) md_162 e rfl hc rfl rfl h1 h
theorem RC_163 {Φ : Mem → Prop} {k pc : Nat} {i : Instr} {c : Cd} {L : LV} {st : List SV} {μ : Mem} {r1 r : Res} {x0 x1 x2 : Int} (e : ∀ rec : Rec, stp rec k i c L (vI x2 :: vI x1 :: vA x0 :: st) μ = callK rec 163 k c L (vI x2 :: vI x1 :: vA x0 :: st) μ) (hc : cats st ≤ 8) (hv : x0 ≠ 0 ∧ kd x0 = 11) (h1 : RunM 163 [vA x0, vI x1, vI x2] μ r1) (h : Rn Φ k c L (r1.1.toList ++ st) r1.2 r) : Rn Φ k ((pc, i) :: c) L (vI x2 :: vI x1 :: vA x0 :: st) μ r := CC (vs := [vA x0, vI x1, vI x2]) md_163 e rfl hc (decide_eq_true hv) rfl h1 h
theorem RC_164 {Φ : Mem → Prop} {k pc : Nat} {i : Instr} {c : Cd} {L : LV} {st : List SV} {μ : Mem} {r1 r : Res} {x0 x1 : Int} (e : ∀ rec : Rec, stp rec k i c L (vI x1 :: vI x0 :: st) μ = callK rec 164 k c L (vI x1 :: vI x0 :: st) μ) (hc : cats st ≤ 8) (h1 : RunM 164 [vI x0, vI x1] μ r1) (h : Rn Φ k c L (r1.1.toList ++ st) r1.2 r) : Rn Φ k ((pc, i) :: c) L (vI x1 :: vI x0 :: st) μ r := CC (vs := [vI x0, vI x1]) md_164 e rfl hc rfl rfl h1 h
theorem RC_165 {Φ : Mem → Prop} {k pc : Nat} {i : Instr} {c : Cd} {L : LV} {st : List SV} {μ : Mem} {r1 r : Res} {x0 x1 : Int} (e : ∀ rec : Rec, stp rec k i c L (vI x1 :: vA x0 :: st) μ = callK rec 165 k c L (vI x1 :: vA x0 :: st) μ) (hc : cats st ≤ 8) (hv : x0 ≠ 0 ∧ kd x0 = 11) (h1 : RunM 165 [vA x0, vI x1] μ r1) (h : Rn Φ k c L (r1.1.toList ++ st) r1.2 r) : Rn Φ k ((pc, i) :: c) L (vI x1 :: vA x0 :: st) μ r := CC (vs := [vA x0, vI x1]) md_165 e rfl hc (decide_eq_true hv) rfl h1 h
theorem RC_166 {Φ : Mem → Prop} {k pc : Nat} {i : Instr} {c : Cd} {L : LV} {st : List SV} {μ : Mem} {r1 r : Res} {x0 x1 x2 x3 : Int} (e : ∀ rec : Rec, stp rec k i c L (vI x3 :: vI x2 :: vI x1 :: vA x0 :: st) μ = callK rec 166 k c L (vI x3 :: vI x2 :: vI x1 :: vA x0 :: st) μ) (hc : cats st ≤ 8) (hv : x0 ≠ 0 ∧ kd x0 = 11) (h1 : RunM 166 [vA x0, vI x1, vI x2, vI x3] μ r1) (h : Rn Φ k c L (r1.1.toList ++ st) r1.2 r) : Rn Φ k ((pc, i) :: c) L (vI x3 :: vI x2 :: vI x1 :: vA x0 :: st) μ r := CC (vs := [vA x0, vI x1, vI x2, vI x3]) md_166 e rfl hc (decide_eq_true hv) rfl h1 h
theorem RC_167 {Φ : Mem → Prop} {k pc : Nat} {i : Instr} {c : Cd} {L : LV} {st : List SV} {μ : Mem} {r1 r : Res} {x0 x1 x2 x3 : Int} (e : ∀ rec : Rec, stp rec k i c L (vI x3 :: vI x2 :: vI x1 :: vA x0 :: st) μ = callK rec 167 k c L (vI x3 :: vI x2 :: vI x1 :: vA x0 :: st) μ) (hc : cats st ≤ 8) (hv : x0 ≠ 0 ∧ kd x0 = 11) (h1 : RunM 167 [vA x0, vI x1, vI x2, vI x3] μ r1) (h : Rn Φ k c L (r1.1.toList ++ st) r1.2 r) : Rn Φ k ((pc, i) :: c) L (vI x3 :: vI x2 :: vI x1 :: vA x0 :: st) μ r := CC (vs := [vA x0, vI x1, vI x2, vI x3]) md_167 e rfl hc (decide_eq_true hv) rfl h1 h
theorem RC_168 {Φ : Mem → Prop} {k pc : Nat} {i : Instr} {c : Cd} {L : LV} {st : List SV} {μ : Mem} {r1 r : Res} {x0 x1 x2 x3 : Int} (e : ∀ rec : Rec, stp rec k i c L (vI x3 :: vI x2 :: vI x1 :: vA x0 :: st) μ = callK rec 168 k c L (vI x3 :: vI x2 :: vI x1 :: vA x0 :: st) μ) (hc : cats st ≤ 8) (hv : x0 ≠ 0 ∧ kd x0 = 11) (h1 : RunM 168 [vA x0, vI x1, vI x2, vI x3] μ r1) (h : Rn Φ k c L (r1.1.toList ++ st) r1.2 r) : Rn Φ k ((pc, i) :: c) L (vI x3 :: vI x2 :: vI x1 :: vA x0 :: st) μ r := CC (vs := [vA x0, vI x1, vI x2, vI x3]) md_168 e rfl hc (decide_eq_true hv) rfl h1 h
theorem RC_169 {Φ : Mem → Prop} {k pc : Nat} {i : Instr} {c : Cd} {L : LV} {st : List SV} {μ : Mem} {r1 r : Res} {x0 x1 x2 : Int} (e : ∀ rec : Rec, stp rec k i c L (vI x2 :: vI x1 :: vA x0 :: st) μ = callK rec 169 k c L (vI x2 :: vI x1 :: vA x0 :: st) μ) (hc : cats st ≤ 8) (hv : x0 ≠ 0 ∧ kd x0 = 11) (h1 : RunM 169 [vA x0, vI x1, vI x2] μ r1) (h : Rn Φ k c L (r1.1.toList ++ st) r1.2 r) : Rn Φ k ((pc, i) :: c) L (vI x2 :: vI x1 :: vA x0 :: st) μ r := CC (vs := [vA x0, vI x1, vI x2]) md_169 e rfl hc (decide_eq_true hv) rfl h1 h
theorem RC_170 {Φ : Mem → Prop} {k pc : Nat} {i : Instr} {c : Cd} {L : LV} {st : List SV} {μ : Mem} {r1 r : Res} {x0 x1 x2 : Int} (e : ∀ rec : Rec, stp rec k i c L (vI x2 :: vI x1 :: vA x0 :: st) μ = callK rec 170 k c L (vI x2 :: vI x1 :: vA x0 :: st) μ) (hc : cats st ≤ 8) (hv : x0 ≠ 0 ∧ kd x0 = 11) (h1 : RunM 170 [vA x0, vI x1, vI x2] μ r1) (h : Rn Φ k c L (r1.1.toList ++ st) r1.2 r) : Rn Φ k ((pc, i) :: c) L (vI x2 :: vI x1 :: vA x0 :: st) μ r := CC (vs := [vA x0, vI x1, vI x2]) md_170 e rfl hc (decide_eq_true hv) rfl h1 h
theorem RC_171 {Φ : Mem → Prop} {k pc : Nat} {i : Instr} {c : Cd} {L : LV} {st : List SV} {μ : Mem} {r1 r : Res} {x0 x1 x2 : Int} (e : ∀ rec : Rec, stp rec k i c L (vI x2 :: vI x1 :: vA x0 :: st) μ = callK rec 171 k c L (vI x2 :: vI x1 :: vA x0 :: st) μ) (hc : cats st ≤ 8) (hv : x0 ≠ 0 ∧ kd x0 = 11) (h1 : RunM 171 [vA x0, vI x1, vI x2] μ r1) (h : Rn Φ k c L (r1.1.toList ++ st) r1.2 r) : Rn Φ k ((pc, i) :: c) L (vI x2 :: vI x1 :: vA x0 :: st) μ r := CC (vs := [vA x0, vI x1, vI x2]) md_171 e rfl hc (decide_eq_true hv) rfl h1 h
theorem RC_172 {Φ : Mem → Prop} {k pc : Nat} {i : Instr} {c : Cd} {L : LV} {st : List SV} {μ : Mem} {r1 r : Res} {x0 x1 x2 : Int} (e : ∀ rec : Rec, stp rec k i c L (vI x2 :: vI x1 :: vA x0 :: st) μ = callK rec 172 k c L (vI x2 :: vI x1 :: vA x0 :: st) μ) (hc : cats st ≤ 8) (hv : x0 ≠ 0 ∧ kd x0 = 11) (h1 : RunM 172 [vA x0, vI x1, vI x2] μ r1) (h : Rn Φ k c L (r1.1.toList ++ st) r1.2 r) : Rn Φ k ((pc, i) :: c) L (vI x2 :: vI x1 :: vA x0 :: st) μ r := CC (vs := [vA x0, vI x1, vI x2]) md_172 e rfl hc (decide_eq_true hv) rfl h1 h
theorem RC_173 {Φ : Mem → Prop} {k pc : Nat} {i : Instr} {c : Cd} {L : LV} {st : List SV} {μ : Mem} {r1 r : Res} {x0 x1 : Int} (e : ∀ rec : Rec, stp rec k i c L (vI x1 :: vA x0 :: st) μ = callK rec 173 k c L (vI x1 :: vA x0 :: st) μ) (hc : cats st ≤ 8) (hv : x0 ≠ 0 ∧ kd x0 = 5) (h1 : RunM 173 [vA x0, vI x1] μ r1) (h : Rn Φ k c L (r1.1.toList ++ st) r1.2 r) : Rn Φ k ((pc, i) :: c) L (vI x1 :: vA x0 :: st) μ r := CC (vs := [vA x0, vI x1]) md_173 e rfl hc (decide_eq_true hv) rfl h1 h
theorem RC_174 {Φ : Mem → Prop} {k pc : Nat} {i : Instr} {c : Cd} {L : LV} {st : List SV} {μ : Mem} {r1 r : Res} {x0 x1 x2 : Int} (e : ∀ rec : Rec, stp rec k i c L (vI x2 :: vI x1 :: vA x0 :: st) μ = callK rec 174 k c L (vI x2 :: vI x1 :: vA x0 :: st) μ) (hc : cats st ≤ 8) (hv : x0 ≠ 0 ∧ kd x0 = 11) (h1 : RunM 174 [vA x0, vI x1, vI x2] μ r1) (h : Rn Φ k c L (r1.1.toList ++ st) r1.2 r) : Rn Φ k ((pc, i) :: c) L (vI x2 :: vI x1 :: vA x0 :: st) μ r := CC (vs := [vA x0, vI x1, vI x2]) md_174 e rfl hc (decide_eq_true hv) rfl h1 h
theorem RC_175 {Φ : Mem → Prop} {k pc : Nat} {i : Instr} {c : Cd} {L : LV} {st : List SV} {μ : Mem} {r1 r : Res} {x0 x1 x2 : Int} (e : ∀ rec : Rec, stp rec k i c L (vI x2 :: vI x1 :: vA x0 :: st) μ = callK rec 175 k c L (vI x2 :: vI x1 :: vA x0 :: st) μ) (hc : cats st ≤ 8) (hv : x0 ≠ 0 ∧ kd x0 = 11) (h1 : RunM 175 [vA x0, vI x1, vI x2] μ r1) (h : Rn Φ k c L (r1.1.toList ++ st) r1.2 r) : Rn Φ k ((pc, i) :: c) L (vI x2 :: vI x1 :: vA x0 :: st) μ r := CC (vs := [vA x0, vI x1, vI x2]) md_175 e rfl hc (decide_eq_true hv) rfl h1 h
theorem RC_176 {Φ : Mem → Prop} {k pc : Nat} {i : Instr} {c : Cd} {L : LV} {st : List SV} {μ : Mem} {r1 r : Res} {x0 x1 : Int} (e : ∀ rec : Rec, stp rec k i c L (vI x1 :: vA x0 :: st) μ = callK rec 176 k c L (vI x1 :: vA x0 :: st) μ) (hc : cats st ≤ 8) (hv : x0 ≠ 0 ∧ kd x0 = 11) (h1 : RunM 176 [vA x0, vI x1] μ r1) (h : Rn Φ k c L (r1.1.toList ++ st) r1.2 r) : Rn Φ k ((pc, i) :: c) L (vI x1 :: vA x0 :: st) μ r := CC (vs := [vA x0, vI x1]) md_176 e rfl hc (decide_eq_true hv) rfl h1 h
theorem RC_177 {Φ : Mem → Prop} {k pc : Nat} {i : Instr} {c : Cd} {L : LV} {st : List SV} {μ : Mem} {r1 r : Res} {x0 x1 : Int} (e : ∀ rec : Rec, stp rec k i c L (vI x1 :: vA x0 :: st) μ = callK rec 177 k c L (vI x1 :: vA x0 :: st) μ) (hc : cats st ≤ 8) (hv : x0 ≠ 0 ∧ kd x0 = 11) (h1 : RunM 177 [vA x0, vI x1] μ r1) (h : Rn Φ k c L (r1.1.toList ++ st) r1.2 r) : Rn Φ k ((pc, i) :: c) L (vI x1 :: vA x0 :: st) μ r := CC (vs := [vA x0, vI x1]) md_177 e rfl hc (decide_eq_true hv) rfl h1 h
theorem RC_178 {Φ : Mem → Prop} {k pc : Nat} {i : Instr} {c : Cd} {L : LV} {st : List SV} {μ : Mem} {r1 r : Res} {x0 x1 x2 : Int} (e : ∀ rec : Rec, stp rec k i c L (vI x2 :: vI x1 :: vA x0 :: st) μ = callK rec 178 k c L (vI x2 :: vI x1 :: vA x0 :: st) μ) (hc : cats st ≤ 8) (hv : x0 ≠ 0 ∧ kd x0 = 11) (h1 : RunM 178 [vA x0, vI x1, vI x2] μ r1) (h : Rn Φ k c L (r1.1.toList ++ st) r1.2 r) : Rn Φ k ((pc, i) :: c) L (vI x2 :: vI x1 :: vA x0 :: st) μ r := CC (vs := [vA x0, vI x1, vI x2]) md_178 e rfl hc (decide_eq_true hv) rfl h1 h
theorem RC_179 {Φ : Mem → Prop} {k pc : Nat} {i : Instr} {c : Cd} {L : LV} {st : List SV} {μ : Mem} {r1 r : Res} {x0 x1 x2 : Int} (e : ∀ rec : Rec, stp rec k i c L (vI x2 :: vI x1 :: vA x0 :: st) μ = callK rec 179 k c L (vI x2 :: vI x1 :: vA x0 :: st) μ) (hc : cats st ≤ 8) (hv : x0 ≠ 0 ∧ kd x0 = 11) (h1 : RunM 179 [vA x0, vI x1, vI x2] μ r1) (h : Rn Φ k c L (r1.1.toList ++ st) r1.2 r) : Rn Φ k ((pc, i) :: c) L (vI x2 :: vI x1 :: vA x0 :: st) μ r := CC (vs := [vA x0, vI x1, vI x2]) md_179 e rfl hc (decide_eq_true hv) rfl h1 h
theorem RC_180 {Φ : Mem → Prop} {k pc : Nat} {i : Instr} {c : Cd} {L : LV} {st : List SV} {μ : Mem} {r1 r : Res} {x0 x1 : Int} (e : ∀ rec : Rec, stp rec k i c L (vI x1 :: vA x0 :: st) μ = callK rec 180 k c L (vI x1 :: vA x0 :: st) μ) (hc : cats st ≤ 8) (hv : x0 ≠ 0 ∧ kd x0 = 11) (h1 : RunM 180 [vA x0, vI x1] μ r1) (h : Rn Φ k c L (r1.1.toList ++ st) r1.2 r) : Rn Φ k ((pc, i) :: c) L (vI x1 :: vA x0 :: st) μ r := CC (vs := [vA x0, vI x1]) md_180 e rfl hc (decide_eq_true hv) rfl h1 h
theorem RC_181 {Φ : Mem → Prop} {k pc : Nat} {i : Instr} {c : Cd} {L : LV} {st : List SV} {μ : Mem} {r1 r : Res} {x0 : Int} (e : ∀ rec : Rec, stp rec k i c L (vA x0 :: st) μ = callK rec 181 k c L (vA x0 :: st) μ) (hc : cats st ≤ 8) (hv : x0 ≠ 0 ∧ kd x0 = 7) (h1 : RunM 181 [vA x0] μ r1) (h : Rn Φ k c L (r1.1.toList ++ st) r1.2 r) : Rn Φ k ((pc, i) :: c) L (vA x0 :: st) μ r := CC (vs := [vA x0]) md_181 e rfl hc (decide_eq_true hv) rfl h1 h
theorem RC_182 {Φ : Mem → Prop} {k pc : Nat} {i : Instr} {c : Cd} {L : LV} {st : List SV} {μ : Mem} {r1 r : Res} {x0 : Int} (e : ∀ rec : Rec, stp rec k i c L (vA x0 :: st) μ = callK rec 182 k c L (vA x0 :: st) μ) (hc : cats st ≤ 8) (hv : x0 ≠ 0 ∧ kd x0 = 3) (h1 : RunM 182 [vA x0] μ r1) (h : Rn Φ k c L (r1.1.toList ++ st) r1.2 r) : Rn Φ k ((pc, i) :: c) L (vA x0 :: st) μ r := CC (vs := [vA x0]) md_182 e rfl hc (decide_eq_true hv) rfl h1 h
theorem RC_184 {Φ : Mem → Prop} {k pc : Nat} {i : Instr} {c : Cd} {L : LV} {st : List SV} {μ : Mem} {r1 r : Res} {x0 x1 x2 x3 x4 x5 : Int} (e : ∀ rec : Rec, stp rec k i c L (vI x5 :: vI x4 :: vI x3 :: vI x2 :: vI x1 :: vA x0 :: st) μ = callK rec 184 k c L (vI x5 :: vI x4 :: vI x3 :: vI x2 :: vI x1 :: vA x0 :: st) μ) (hc : cats st ≤ 8) (hv : x0 ≠ 0 ∧ kd x0 = 12) (h1 : RunM 184 [vA x0, vI x1, vI x2, vI x3, vI x4, vI x5] μ r1) (h : Rn Φ k c L (r1.1.toList ++ st) r1.2 r) : Rn Φ k ((pc, i) :: c) L (vI x5 :: vI x4 :: vI x3 :: vI x2 :: vI x1 :: vA x0 :: st) μ r := CC (vs := [vA x0, vI x1, vI x2, vI x3, vI x4, vI x5]) md_184 e rfl hc (decide_eq_true hv) rfl h1 h
theorem RC_185 {Φ : Mem → Prop} {k pc : Nat} {i : Instr} {c : Cd} {L : LV} {st : List SV} {μ : Mem} {r1 r : Res} {x0 x1 : Int} (e : ∀ rec : Rec, stp rec k i c L (vI x1 :: vA x0 :: st) μ = callK rec 185 k c L (vI x1 :: vA x0 :: st) μ) (hc : cats st ≤ 8) (hv : x0 ≠ 0 ∧ kd x0 = 12) (h1 : RunM 185 [vA x0, vI x1] μ r1) (h : Rn Φ k c L (r1.1.toList ++ st) r1.2 r) : Rn Φ k ((pc, i) :: c) L (vI x1 :: vA x0 :: st) μ r := CC (vs := [vA x0, vI x1]) md_185 e rfl hc (decide_eq_true hv) rfl h1 h
theorem RC_186 {Φ : Mem → Prop} {k pc : Nat} {i : Instr} {c : Cd} {L : LV} {st : List SV} {μ : Mem} {r1 r : Res} {x0 x1 : Int} (e : ∀ rec : Rec, stp rec k i c L (vI x1 :: vA x0 :: st) μ = callK rec 186 k c L (vI x1 :: vA x0 :: st) μ) (hc : cats st ≤ 8) (hv : x0 ≠ 0 ∧ kd x0 = 12) (h1 : RunM 186 [vA x0, vI x1] μ r1) (h : Rn Φ k c L (r1.1.toList ++ st) r1.2 r) : Rn Φ k ((pc, i) :: c) L (vI x1 :: vA x0 :: st) μ r := CC (vs := [vA x0, vI x1]) md_186 e rfl hc (decide_eq_true hv) rfl h1 h
theorem RC_187 {Φ : Mem → Prop} {k pc : Nat} {i : Instr} {c : Cd} {L : LV} {st : List SV} {μ : Mem} {r1 r : Res} {x0 x1 x2 : Int} (e : ∀ rec : Rec, stp rec k i c L (vI x2 :: vI x1 :: vI x0 :: st) μ = callK rec 187 k c L (vI x2 :: vI x1 :: vI x0 :: st) μ) (hc : cats st ≤ 8) (h1 : RunM 187 [vI x0, vI x1, vI x2] μ r1) (h : Rn Φ k c L (r1.1.toList ++ st) r1.2 r) : Rn Φ k ((pc, i) :: c) L (vI x2 :: vI x1 :: vI x0 :: st) μ r := CC (vs := [vI x0, vI x1, vI x2]) md_187 e rfl hc rfl rfl h1 h
theorem RC_188 {Φ : Mem → Prop} {k pc : Nat} {i : Instr} {c : Cd} {L : LV} {st : List SV} {μ : Mem} {r1 r : Res} {x0 x1 : Int} (e : ∀ rec : Rec, stp rec k i c L (vI x1 :: vA x0 :: st) μ = callK rec 188 k c L (vI x1 :: vA x0 :: st) μ) (hc : cats st ≤ 8) (hv : x0 ≠ 0 ∧ kd x0 = 12) (h1 : RunM 188 [vA x0, vI x1] μ r1) (h : Rn Φ k c L (r1.1.toList ++ st) r1.2 r) : Rn Φ k ((pc, i) :: c) L (vI x1 :: vA x0 :: st) μ r := CC (vs := [vA x0, vI x1]) md_188 e rfl hc (decide_eq_true hv) rfl h1 h
theorem RC_189 {Φ : Mem → Prop} {k pc : Nat} {i : Instr} {c : Cd} {L : LV} {st : List SV} {μ : Mem} {r1 r : Res} {x0 x1 : Int} (e : ∀ rec : Rec, stp rec k i c L (vI x1 :: vA x0 :: st) μ = callK rec 189 k c L (vI x1 :: vA x0 :: st) μ) (hc : cats st ≤ 8) (hv : x0 ≠ 0 ∧ kd x0 = 12) (h1 : RunM 189 [vA x0, vI x1] μ r1) (h : Rn Φ k c L (r1.1.toList ++ st) r1.2 r) : Rn Φ k ((pc, i) :: c) L (vI x1 :: vA x0 :: st) μ r := CC (vs := [vA x0, vI x1]) md_189 e rfl hc (decide_eq_true hv) rfl h1 h
theorem RC_190 {Φ : Mem → Prop} {k pc : Nat} {i : Instr} {c : Cd} {L : LV} {st : List SV} {μ : Mem} {r1 r : Res} {x0 : Int} (e : ∀ rec : Rec, stp rec k i c L (vA x0 :: st) μ = callK rec 190 k c L (vA x0 :: st) μ) (hc : cats st ≤ 8) (hv : x0 ≠ 0 ∧ kd x0 = 12) (h1 : RunM 190 [vA x0] μ r1) (h : Rn Φ k c L (r1.1.toList ++ st) r1.2 r) : Rn Φ k ((pc, i) :: c) L (vA x0 :: st) μ r := CC (vs := [vA x0]) md_190 e rfl hc (decide_eq_true hv) rfl h1 h
theorem RC_191 {Φ : Mem → Prop} {k pc : Nat} {i : Instr} {c : Cd} {L : LV} {st : List SV} {μ : Mem} {r1 r : Res} {x0 : Int} (e : ∀ rec : Rec, stp rec k i c L (vA x0 :: st) μ = callK rec 191 k c L (vA x0 :: st) μ) (hc : cats st ≤ 8) (hv : x0 ≠ 0 ∧ kd x0 = 12) (h1 : RunM 191 [vA x0] μ r1) (h : Rn Φ k c L (r1.1.toList ++ st) r1.2 r) : Rn Φ k ((pc, i) :: c) L (vA x0 :: st) μ r := CC (vs := [vA x0]) md_191 e rfl hc (decide_eq_true hv) rfl h1 h
theorem RC_192 {Φ : Mem → Prop} {k pc : Nat} {i : Instr} {c : Cd} {L : LV} {st : List SV} {μ : Mem} {r1 r : Res} {x0 x1 : Int} (e : ∀ rec : Rec, stp rec k i c L (vI x1 :: vA x0 :: st) μ = callK rec 192 k c L (vI x1 :: vA x0 :: st) μ) (hc : cats st ≤ 8) (hv : x0 ≠ 0 ∧ kd x0 = 12) (h1 : RunM 192 [vA x0, vI x1] μ r1) (h : Rn Φ k c L (r1.1.toList ++ st) r1.2 r) : Rn Φ k ((pc, i) :: c) L (vI x1 :: vA x0 :: st) μ r := CC (vs := [vA x0, vI x1]) md_192 e rfl hc (decide_eq_true hv) rfl h1 h
theorem RC_193 {Φ : Mem → Prop} {k pc : Nat} {i : Instr} {c : Cd} {L : LV} {st : List SV} {μ : Mem} {r1 r : Res} {x0 : Int} (e : ∀ rec : Rec, stp rec k i c L (vI x0 :: st) μ = callK rec 193 k c L (vI x0 :: st) μ) (hc : cats st ≤ 8) (h1 : RunM 193 [vI x0] μ r1) (h : Rn Φ k c L (r1.1.toList ++ st) r1.2 r) : Rn Φ k ((pc, i) :: c) L (vI x0 :: st) μ r := CC (vs := [vI x0]) md_193 e rfl hc rfl rfl h1 h
theorem RC_194 {Φ : Mem → Prop} {k pc : Nat} {i : Instr} {c : Cd} {L : LV} {st : List SV} {μ : Mem} {r1 r : Res} {x0 : Int} (e : ∀ rec : Rec, stp rec k i c L (vA x0 :: st) μ = callK rec 194 k c L (vA x0 :: st) μ) (hc : cats st ≤ 8) (hv : x0 ≠ 0 ∧ kd x0 = 12) (h1 : RunM 194 [vA x0] μ r1) (h : Rn Φ k c L (r1.1.toList ++ st) r1.2 r) : Rn Φ k ((pc, i) :: c) L (vA x0 :: st) μ r := CC (vs := [vA x0]) md_194 e rfl hc (decide_eq_true hv) rfl h1 h
theorem RC_195 {Φ : Mem → Prop} {k pc : Nat} {i : Instr} {c : Cd} {L : LV} {st : List SV} {μ : Mem} {r1 r : Res} {x0 : Int} (e : ∀ rec : Rec, stp rec k i c L (vI x0 :: st) μ = callK rec 195 k c L (vI x0 :: st) μ) (hc : cats st ≤ 8) (h1 : RunM 195 [vI x0] μ r1) (h : Rn Φ k c L (r1.1.toList ++ st) r1.2 r) : Rn Φ k ((pc, i) :: c) L (vI x0 :: st) μ r := CC (vs := [vI x0]) md_195 e rfl hc rfl rfl h1 h
theorem RC_196 {Φ : Mem → Prop} {k pc : Nat} {i : Instr} {c : Cd} {L : LV} {st : List SV} {μ : Mem} {r1 r : Res} {x0 : Int} (e : ∀ rec : Rec, stp rec k i c L (vA x0 :: st) μ = callK rec 196 k c L (vA x0 :: st) μ) (hc : cats st ≤ 8) (hv : x0 ≠ 0 ∧ kd x0 = 12) (h1 : RunM 196 [vA x0] μ r1) (h : Rn Φ k c L (r1.1.toList ++ st) r1.2 r) : Rn Φ k ((pc, i) :: c) L (vA x0 :: st) μ r := CC (vs := [vA x0]) md_196 e rfl hc (decide_eq_true hv) rfl h1 h
theorem RC_197 {Φ : Mem → Prop} {k pc : Nat} {i : Instr} {c : Cd} {L : LV} {st : List SV} {μ : Mem} {r1 r : Res} {x0 : Int} (e : ∀ rec : Rec, stp rec k i c L (vA x0 :: st) μ = callK rec 197 k c L (vA x0 :: st) μ) (hc : cats st ≤ 8) (hv : x0 ≠ 0 ∧ kd x0 = 12) (h1 : RunM 197 [vA x0] μ r1) (h : Rn Φ k c L (r1.1.toList ++ st) r1.2 r) : Rn Φ k ((pc, i) :: c) L (vA x0 :: st) μ r := CC (vs := [vA x0]) md_197 e rfl hc (decide_eq_true hv) rfl h1 h
theorem RC_198 {Φ : Mem → Prop} {k pc : Nat} {i : Instr} {c : Cd} {L : LV} {st : List SV} {μ : Mem} {r1 r : Res} {x0 : Int} (e : ∀ rec : Rec, stp rec k i c L (vA x0 :: st) μ = callK rec 198 k c L (vA x0 :: st) μ) (hc : cats st ≤ 8) (hv : x0 ≠ 0 ∧ kd x0 = 12) (h1 : RunM 198 [vA x0] μ r1) (h : Rn Φ k c L (r1.1.toList ++ st) r1.2 r) : Rn Φ k ((pc, i) :: c) L (vA x0 :: st) μ r := CC (vs := [vA x0]) md_198 e rfl hc (decide_eq_true hv) rfl h1 h
theorem RC_199 {Φ : Mem → Prop} {k pc : Nat} {i : Instr} {c : Cd} {L : LV} {st : List SV} {μ : Mem} {r1 r : Res} {x0 : Int} (e : ∀ rec : Rec, stp rec k i c L (vA x0 :: st) μ = callK rec 199 k c L (vA x0 :: st) μ) (hc : cats st ≤ 8) (hv : x0 ≠ 0 ∧ kd x0 = 12) (h1 : RunM 199 [vA x0] μ r1) (h : Rn Φ k c L (r1.1.toList ++ st) r1.2 r) : Rn Φ k ((pc, i) :: c) L (vA x0 :: st) μ r := CC (vs := [vA x0]) md_199 e rfl hc (decide_eq_true hv) rfl h1 h
theorem RC_200 {Φ : Mem → Prop} {k pc : Nat} {i : Instr} {c : Cd} {L : LV} {st : List SV} {μ : Mem} {r1 r : Res} {x0 : Int} (e : ∀ rec : Rec, stp rec k i c L (vA x0 :: st) μ = callK rec 200 k c L (vA x0 :: st) μ) (hc : cats st ≤ 8) (hv : x0 ≠ 0 ∧ kd x0 = 12) (h1 : RunM 200 [vA x0] μ r1) (h : Rn Φ k c L (r1.1.toList ++ st) r1.2 r) : Rn Φ k ((pc, i) :: c) L (vA x0 :: st) μ r := CC (vs := [vA x0]) md_200 e rfl hc (decide_eq_true hv) rfl h1 h
theorem RC_201 {Φ : Mem → Prop} {k pc : Nat} {i : Instr} {c : Cd} {L : LV} {st : List SV} {μ : Mem} {r1 r : Res} {x0 : Int} (e : ∀ rec : Rec, stp rec k i c L (vA x0 :: st) μ = callK rec 201 k c L (vA x0 :: st) μ) (hc : cats st ≤ 8) (hv : x0 ≠ 0 ∧ kd x0 = 12) (h1 : RunM 201 [vA x0] μ r1) (h : Rn Φ k c L (r1.1.toList ++ st) r1.2 r) : Rn Φ k ((pc, i) :: c) L (vA x0 :: st) μ r := CC (vs := [vA x0]) md_201 e rfl hc (decide_eq_true hv) rfl h1 h
theorem RC_202 {Φ : Mem → Prop} {k pc : Nat} {i : Instr} {c : Cd} {L : LV} {st : List SV} {μ : Mem} {r1 r : Res} {x0 x1 : Int} (e : ∀ rec : Rec, stp rec k i c L (vI x1 :: vA x0 :: st) μ = callK rec 202 k c L (vI x1 :: vA x0 :: st) μ) (hc : cats st ≤ 8) (hv : x0 ≠ 0 ∧ kd x0 = 12) (h1 : RunM 202 [vA x0, vI x1] μ r1) (h : Rn Φ k c L (r1.1.toList ++ st) r1.2 r) : Rn Φ k ((pc, i) :: c) L (vI x1 :: vA x0 :: st) μ r := CC (vs := [vA x0, vI x1]) md_202 e rfl hc (decide_eq_true hv) rfl h1 h
theorem RC_203 {Φ : Mem → Prop} {k pc : Nat} {i : Instr} {c : Cd} {L : LV} {st : List SV} {μ : Mem} {r1 r : Res} {x0 x1 x2 : Int} (e : ∀ rec : Rec, stp rec k i c L (vI x2 :: vI x1 :: vA x0 :: st) μ = callK rec 203 k c L (vI x2 :: vI x1 :: vA x0 :: st) μ) (hc : cats st ≤ 8) (hv : x0 ≠ 0 ∧ kd x0 = 12) (h1 : RunM 203 [vA x0, vI x1, vI x2] μ r1) (h : Rn Φ k c L (r1.1.toList ++ st) r1.2 r) : Rn Φ k ((pc, i) :: c) L (vI x2 :: vI x1 :: vA x0 :: st) μ r := CC (vs := [vA x0, vI x1, vI x2]) md_203 e rfl hc (decide_eq_true hv) rfl h1 h
theorem RC_204 {Φ : Mem → Prop} {k pc : Nat} {i : Instr} {c : Cd} {L : LV} {st : List SV} {μ : Mem} {r1 r : Res} {x0 x1 : Int} (e : ∀ rec : Rec, stp rec k i c L (vI x1 :: vA x0 :: st) μ = callK rec 204 k c L (vI x1 :: vA x0 :: st) μ) (hc : cats st ≤ 8) (hv : x0 ≠ 0 ∧ kd x0 = 12) (h1 : RunM 204 [vA x0, vI x1] μ r1) (h : Rn Φ k c L (r1.1.toList ++ st) r1.2 r) : Rn Φ k ((pc, i) :: c) L (vI x1 :: vA x0 :: st) μ r := CC (vs := [vA x0, vI x1]) md_204 e rfl hc (decide_eq_true hv) rfl h1 h
theorem RC_205 {Φ : Mem → Prop} {k pc : Nat} {i : Instr} {c : Cd} {L : LV} {st : List SV} {μ : Mem} {r1 r : Res} {x0 x1 : Int} (e : ∀ rec : Rec, stp rec k i c L (vI x1 :: vA x0 :: st) μ = callK rec 205 k c L (vI x1 :: vA x0 :: st) μ) (hc : cats st ≤ 8) (hv : x0 ≠ 0 ∧ kd x0 = 12) (h1 : RunM 205 [vA x0, vI x1] μ r1) (h : Rn Φ k c L (r1.1.toList ++ st) r1.2 r) : Rn Φ k ((pc, i) :: c) L (vI x1 :: vA x0 :: st) μ r := CC (vs := [vA x0, vI x1]) md_205 e rfl hc (decide_eq_true hv) rfl h1 h
theorem RC_206 {Φ : Mem → Prop} {k pc : Nat} {i : Instr} {c : Cd} {L : LV} {st : List SV} {μ : Mem} {r1 r : Res} {x0 x1 x2 x3 : Int} (e : ∀ rec : Rec, stp rec k i c L (vI x3 :: vI x2 :: vI x1 :: vA x0 :: st) μ = callK rec 206 k c L (vI x3 :: vI x2 :: vI x1 :: vA x0 :: st) μ) (hc : cats st ≤ 8) (hv : x0 ≠ 0 ∧ kd x0 = 12) (h1 : RunM 206 [vA x0, vI x1, vI x2, vI x3] μ r1) (h : Rn Φ k c L (r1.1.toList ++ st) r1.2 r) : Rn Φ k ((pc, i) :: c) L (vI x3 :: vI x2 :: vI x1 :: vA x0 :: st) μ r := CC (vs := [vA x0, vI x1, vI x2, vI x3]) md_206 e rfl hc (decide_eq_true hv) rfl h1 h
theorem RC_207 {Φ : Mem → Prop} {k pc : Nat} {i : Instr} {c : Cd} {L : LV} {st : List SV} {μ : Mem} {r1 r : Res} {x0 : Int} (e : ∀ rec : Rec, stp rec k i c L (vA x0 :: st) μ = callK rec 207 k c L (vA x0 :: st) μ) (hc : cats st ≤ 8) (hv : x0 ≠ 0 ∧ kd x0 = 12) (h1 : RunM 207 [vA x0] μ r1) (h : Rn Φ k c L (r1.1.toList ++ st) r1.2 r) : Rn Φ k ((pc, i) :: c) L (vA x0 :: st) μ r := CC (vs := [vA x0]) md_207 e rfl hc (decide_eq_true hv) rfl h1 h
theorem RC_208 {Φ : Mem → Prop} {k pc : Nat} {i : Instr} {c : Cd} {L : LV} {st : List SV} {μ : Mem} {r1 r : Res} {x0 : Int} (e : ∀ rec : Rec, stp rec k i c L (vA x0 :: st) μ = callK rec 208 k c L (vA x0 :: st) μ) (hc : cats st ≤ 8) (hv : x0 ≠ 0 ∧ kd x0 = 12) (h1 : RunM 208 [vA x0] μ r1) (h : Rn Φ k c L (r1.1.toList ++ st) r1.2 r) : Rn Φ k ((pc, i) :: c) L (vA x0 :: st) μ r := CC (vs := [vA x0]) md_208 e rfl hc (decide_eq_true hv) rfl h1 h
theorem RC_209 {Φ : Mem → Prop} {k pc : Nat} {i : Instr} {c : Cd} {L : LV} {st : List SV} {μ : Mem} {r1 r : Res} {x0 : Int} (e : ∀ rec : Rec, stp rec k i c L (vA x0 :: st) μ = callK rec 209 k c L (vA x0 :: st) μ) (hc : cats st ≤ 8) (hv : x0 ≠ 0 ∧ kd x0 = 12) (h1 : RunM 209 [vA x0] μ r1) (h : Rn Φ k c L (r1.1.toList ++ st) r1.2 r) : Rn Φ k ((pc, i) :: c) L (vA x0 :: st) μ r := CC (vs := [vA x0]) md_209 e rfl hc (decide_eq_true hv) rfl h1 h
theorem RC_210 {Φ : Mem → Prop} {k pc : Nat} {i : Instr} {c : Cd} {L : LV} {st : List SV} {μ : Mem} {r1 r : Res} {x0 x1 : Int} (e : ∀ rec : Rec, stp rec k i c L (vI x1 :: vA x0 :: st) μ = callK rec 210 k c L (vI x1 :: vA x0 :: st) μ) (hc : cats st ≤ 8) (hv : x0 ≠ 0 ∧ kd x0 = 12) (h1 : RunM 210 [vA x0, vI x1] μ r1) (h : Rn Φ k c L (r1.1.toList ++ st) r1.2 r) : Rn Φ k ((pc, i) :: c) L (vI x1 :: vA x0 :: st) μ r := CC (vs := [vA x0, vI x1]) md_210 e rfl hc (decide_eq_true hv) rfl h1 h
theorem RC_211 {Φ : Mem → Prop} {k pc : Nat} {i : Instr} {c : Cd} {L : LV} {st : List SV} {μ : Mem} {r1 r : Res} {x0 : Int} (e : ∀ rec : Rec, stp rec k i c L (vA x0 :: st) μ = callK rec 211 k c L (vA x0 :: st) μ) (hc : cats st ≤ 8) (hv : x0 ≠ 0 ∧ kd x0 = 12) (h1 : RunM 211 [vA x0] μ r1) (h : Rn Φ k c L (r1.1.toList ++ st) r1.2 r) : Rn Φ k ((pc, i) :: c) L (vA x0 :: st) μ r := CC (vs := [vA x0]) md_211 e rfl hc (decide_eq_true hv) rfl h1 h
theorem RC_212 {Φ : Mem → Prop} {k pc : Nat} {i : Instr} {c : Cd} {L : LV} {st : List SV} {μ : Mem} {r1 r : Res} {x0 : Int} (e : ∀ rec : Rec, stp rec k i c L (vA x0 :: st) μ = callK rec 212 k c L (vA x0 :: st) μ) (hc : cats st ≤ 8) (hv : x0 ≠ 0 ∧ kd x0 = 12) (h1 : RunM 212 [vA x0] μ r1) (h : Rn Φ k c L (r1.1.toList ++ st) r1.2 r) : Rn Φ k ((pc, i) :: c) L (vA x0 :: st) μ r := CC (vs := [vA x0]) md_212 e rfl hc (decide_eq_true hv) rfl h1 h
theorem RC_213 {Φ : Mem → Prop} {k pc : Nat} {i : Instr} {c : Cd} {L : LV} {st : List SV} {μ : Mem} {r1 r : Res} {x0 : Int} (e : ∀ rec : Rec, stp rec k i c L (vA x0 :: st) μ = callK rec 213 k c L (vA x0 :: st) μ) (hc : cats st ≤ 8) (hv : x0 ≠ 0 ∧ kd x0 = 12) (h1 : RunM 213 [vA x0] μ r1) (h : Rn Φ k c L (r1.1.toList ++ st) r1.2 r) : Rn Φ k ((pc, i) :: c) L (vA x0 :: st) μ r := CC (vs := [vA x0]) md_213 e rfl hc (decide_eq_true hv) rfl h1 h
theorem RC_214 {Φ : Mem → Prop} {k pc : Nat} {i : Instr} {c : Cd} {L : LV} {st : List SV} {μ : Mem} {r1 r : Res} {x0 : Int} (e : ∀ rec : Rec, stp rec k i c L (vA x0 :: st) μ = callK rec 214 k c L (vA x0 :: st) μ) (hc : cats st ≤ 8) (hv : x0 ≠ 0 ∧ kd x0 = 12) (h1 : RunM 214 [vA x0] μ r1) (h : Rn Φ k c L (r1.1.toList ++ st) r1.2 r) : Rn Φ k ((pc, i) :: c) L (vA x0 :: st) μ r := CC (vs := [vA x0]) md_214 e rfl hc (decide_eq_true hv) rfl h1 h
theorem RC_215 {Φ : Mem → Prop} {k pc : Nat} {i : Instr} {c : Cd} {L : LV} {st : List SV} {μ : Mem} {r1 r : Res} {x0 x1 : Int} (e : ∀ rec : Rec, stp rec k i c L (vI x1 :: vA x0 :: st) μ = callK rec 215 k c L (vI x1 :: vA x0 :: st) μ) (hc : cats st ≤ 8) (hv : x0 ≠ 0 ∧ kd x0 = 12) (h1 : RunM 215 [vA x0, vI x1] μ r1) (h : Rn Φ k c L (r1.1.toList ++ st) r1.2 r) : Rn Φ k ((pc, i) :: c) L (vI x1 :: vA x0 :: st) μ r := CC (vs := [vA x0, vI x1]) md_215 e rfl hc (decide_eq_true hv) rfl h1 h
theorem RC_216 {Φ : Mem → Prop} {k pc : Nat} {i : Instr} {c : Cd} {L : LV} {st : List SV} {μ : Mem} {r1 r : Res} {x0 : Int} (e : ∀ rec : Rec, stp rec k i c L (vA x0 :: st) μ = callK rec 216 k c L (vA x0 :: st) μ) (hc : cats st ≤ 8) (hv : x0 ≠ 0 ∧ kd x0 = 12) (h1 : RunM 216 [vA x0] μ r1) (h : Rn Φ k c L (r1.1.toList ++ st) r1.2 r) : Rn Φ k ((pc, i) :: c) L (vA x0 :: st) μ r := CC (vs := [vA x0]) md_216 e rfl hc (decide_eq_true hv) rfl h1 h
theorem RC_217 {Φ : Mem → Prop} {k pc : Nat} {i : Instr} {c : Cd} {L : LV} {st : List SV} {μ : Mem} {r1 r : Res} {x0 : Int} (e : ∀ rec : Rec, stp rec k i c L (vA x0 :: st) μ = callK rec 217 k c L (vA x0 :: st) μ) (hc : cats st ≤ 8) (hv : x0 ≠ 0 ∧ kd x0 = 12) (h1 : RunM 217 [vA x0] μ r1) (h : Rn Φ k c L (r1.1.toList ++ st) r1.2 r) : Rn Φ k ((pc, i) :: c) L (vA x0 :: st) μ r := CC (vs := [vA x0]) md_217 e rfl hc (decide_eq_true hv) rfl h1 h
theorem RC_218 {Φ : Mem → Prop} {k pc : Nat} {i : Instr} {c : Cd} {L : LV} {st : List SV} {μ : Mem} {r1 r : Res} {x0 : Int} (e : ∀ rec : Rec, stp rec k i c L (vA x0 :: st) μ = callK rec 218 k c L (vA x0 :: st) μ) (hc : cats st ≤ 8) (hv : x0 ≠ 0 ∧ kd x0 = 12) (h1 : RunM 218 [vA x0] μ r1) (h : Rn Φ k c L (r1.1.toList ++ st) r1.2 r) : Rn Φ k ((pc, i) :: c) L (vA x0 :: st) μ r := CC (vs := [vA x0]) md_218 e rfl hc (decide_eq_true hv) rfl h1 h
theorem RC_219 {Φ : Mem → Prop} {k pc : Nat} {i : Instr} {c : Cd} {L : LV} {st : List SV} {μ : Mem} {r1 r : Res} {x0 : Int} (e : ∀ rec : Rec, stp rec k i c L (vA x0 :: st) μ = callK rec 219 k c L (vA x0 :: st) μ) (hc : cats st ≤ 8) (hv : x0 ≠ 0 ∧ kd x0 = 12) (h1 : RunM 219 [vA x0] μ r1) (h : Rn Φ k c L (r1.1.toList ++ st) r1.2 r) : Rn Φ k ((pc, i) :: c) L (vA x0 :: st) μ r := CC (vs := [vA x0]) md_219 e rfl hc (decide_eq_true hv) rfl h1 h
theorem RC_220 {Φ : Mem → Prop} {k pc : Nat} {i : Instr} {c : Cd} {L : LV} {st : List SV} {μ : Mem} {r1 r : Res} {x0 x1 : Int} (e : ∀ rec : Rec, stp rec k i c L (vI x1 :: vA x0 :: st) μ = callK rec 220 k c L (vI x1 :: vA x0 :: st) μ) (hc : cats st ≤ 8) (hv : x0 ≠ 0 ∧ kd x0 = 12) (h1 : RunM 220 [vA x0, vI x1] μ r1) (h : Rn Φ k c L (r1.1.toList ++ st) r1.2 r) : Rn Φ k ((pc, i) :: c) L (vI x1 :: vA x0 :: st) μ r := CC (vs := [vA x0, vI x1]) md_220 e rfl hc (decide_eq_true hv) rfl h1 h
theorem RC_221 {Φ : Mem → Prop} {k pc : Nat} {i : Instr} {c : Cd} {L : LV} {st : List SV} {μ : Mem} {r1 r : Res} {x0 : Int} (e : ∀ rec : Rec, stp rec k i c L (vA x0 :: st) μ = callK rec 221 k c L (vA x0 :: st) μ) (hc : cats st ≤ 8) (hv : x0 ≠ 0 ∧ kd x0 = 12) (h1 : RunM 221 [vA x0] μ r1) (h : Rn Φ k c L (r1.1.toList ++ st) r1.2 r) : Rn Φ k ((pc, i) :: c) L (vA x0 :: st) μ r := CC (vs := [vA x0]) md_221 e rfl hc (decide_eq_true hv) rfl h1 h
theorem RC_222 {Φ : Mem → Prop} {k pc : Nat} {i : Instr} {c : Cd} {L : LV} {st : List SV} {μ : Mem} {r1 r : Res} {x0 x1 : Int} (e : ∀ rec : Rec, stp rec k i c L (vI x1 :: vA x0 :: st) μ = callK rec 222 k c L (vI x1 :: vA x0 :: st) μ) (hc : cats st ≤ 8) (hv : x0 ≠ 0 ∧ kd x0 = 12) (h1 : RunM 222 [vA x0, vI x1] μ r1) (h : Rn Φ k c L (r1.1.toList ++ st) r1.2 r) : Rn Φ k ((pc, i) :: c) L (vI x1 :: vA x0 :: st) μ r := CC (vs := [vA x0, vI x1]) md_222 e rfl hc (decide_eq_true hv) rfl h1 h
theorem RC_223 {Φ : Mem → Prop} {k pc : Nat} {i : Instr} {c : Cd} {L : LV} {st : List SV} {μ : Mem} {r1 r : Res} {x0 : Int} (e : ∀ rec : Rec, stp rec k i c L (vA x0 :: st) μ = callK rec 223 k c L (vA x0 :: st) μ) (hc : cats st ≤ 8) (hv : x0 ≠ 0 ∧ kd x0 = 12) (h1 : RunM 223 [vA x0] μ r1) (h : Rn Φ k c L (r1.1.toList ++ st) r1.2 r) : Rn Φ k ((pc, i) :: c) L (vA x0 :: st) μ r := CC (vs := [vA x0]) md_223 e rfl hc (decide_eq_true hv) rfl h1 h
theorem RC_224 {Φ : Mem → Prop} {k pc : Nat} {i : Instr} {c : Cd} {L : LV} {st : List SV} {μ : Mem} {r1 r : Res} {x0 : Int} (e : ∀ rec : Rec, stp rec k i c L (vA x0 :: st) μ = callK rec 224 k c L (vA x0 :: st) μ) (hc : cats st ≤ 8) (hv : x0 ≠ 0 ∧ kd x0 = 12) (h1 : RunM 224 [vA x0] μ r1) (h : Rn Φ k c L (r1.1.toList ++ st) r1.2 r) : Rn Φ k ((pc, i) :: c) L (vA x0 :: st) μ r := CC (vs := [vA x0]) md_224 e rfl hc (decide_eq_true hv) rfl h1 h
theorem RC_225 {Φ : Mem → Prop} {k pc : Nat} {i : Instr} {c : Cd} {L : LV} {st : List SV} {μ : Mem} {r1 r : Res} {x0 x1 x2 x3 : Int} (e : ∀ rec : Rec, stp rec k i c L (vI x3 :: vI x2 :: vI x1 :: vA x0 :: st) μ = callK rec 225 k c L (vI x3 :: vI x2 :: vI x1 :: vA x0 :: st) μ) (hc : cats st ≤ 8) (hv : x0 ≠ 0 ∧ kd x0 = 12) (h1 : RunM 225 [vA x0, vI x1, vI x2, vI x3] μ r1) (h : Rn Φ k c L (r1.1.toList ++ st) r1.2 r) : Rn Φ k ((pc, i) :: c) L (vI x3 :: vI x2 :: vI x1 :: vA x0 :: st) μ r := CC (vs := [vA x0, vI x1, vI x2, vI x3]) md_225 e rfl hc (decide_eq_true hv) rfl h1 h
theorem RC_226 {Φ : Mem → Prop} {k pc : Nat} {i : Instr} {c : Cd} {L : LV} {st : List SV} {μ : Mem} {r1 r : Res} {x0 x1 x2 x3 : Int} (e : ∀ rec : Rec, stp rec k i c L (vI x3 :: vI x2 :: vI x1 :: vA x0 :: st) μ = callK rec 226 k c L (vI x3 :: vI x2 :: vI x1 :: vA x0 :: st) μ) (hc : cats st ≤ 8) (hv : x0 ≠ 0 ∧ kd x0 = 12) (h1 : RunM 226 [vA x0, vI x1, vI x2, vI x3] μ r1) (h : Rn Φ k c L (r1.1.toList ++ st) r1.2 r) : Rn Φ k ((pc, i) :: c) L (vI x3 :: vI x2 :: vI x1 :: vA x0 :: st) μ r := CC (vs := [vA x0, vI x1, vI x2, vI x3]) md_226 e rfl hc (decide_eq_true hv) rfl h1 h
theorem RC_227 {Φ : Mem → Prop} {k pc : Nat} {i : Instr} {c : Cd} {L : LV} {st : List SV} {μ : Mem} {r1 r : Res} {x0 x1 : Int} (e : ∀ rec : Rec, stp rec k i c L (vI x1 :: vA x0 :: st) μ = callK rec 227 k c L (vI x1 :: vA x0 :: st) μ) (hc : cats st ≤ 8) (hv : x0 ≠ 0 ∧ kd x0 = 12) (h1 : RunM 227 [vA x0, vI x1] μ r1) (h : Rn Φ k c L (r1.1.toList ++ st) r1.2 r) : Rn Φ k ((pc, i) :: c) L (vI x1 :: vA x0 :: st) μ r := CC (vs := [vA x0, vI x1]) md_227 e rfl hc (decide_eq_true hv) rfl h1 h
theorem RC_228 {Φ : Mem → Prop} {k pc : Nat} {i : Instr} {c : Cd} {L : LV} {st : List SV} {μ : Mem} {r1 r : Res} {x0 x1 : Int} (e : ∀ rec : Rec, stp rec k i c L (vI x1 :: vA x0 :: st) μ = callK rec 228 k c L (vI x1 :: vA x0 :: st) μ) (hc : cats st ≤ 8) (hv : x0 ≠ 0 ∧ kd x0 = 12) (h1 : RunM 228 [vA x0, vI x1] μ r1) (h : Rn Φ k c L (r1.1.toList ++ st) r1.2 r) : Rn Φ k ((pc, i) :: c) L (vI x1 :: vA x0 :: st) μ r := CC (vs := [vA x0, vI x1]) md_228 e rfl hc (decide_eq_true hv) rfl h1 h
theorem RC_229 {Φ : Mem → Prop} {k pc : Nat} {i : Instr} {c : Cd} {L : LV} {st : List SV} {μ : Mem} {r1 r : Res} {x0 x1 x2 : Int} (e : ∀ rec : Rec, stp rec k i c L (vI x2 :: vI x1 :: vA x0 :: st) μ = callK rec 229 k c L (vI x2 :: vI x1 :: vA x0 :: st) μ) (hc : cats st ≤ 8) (hv : x0 ≠ 0 ∧ kd x0 = 12) (h1 : RunM 229 [vA x0, vI x1, vI x2] μ r1) (h : Rn Φ k c L (r1.1.toList ++ st) r1.2 r) : Rn Φ k ((pc, i) :: c) L (vI x2 :: vI x1 :: vA x0 :: st) μ r := CC (vs := [vA x0, vI x1, vI x2]) md_229 e rfl hc (decide_eq_true hv) rfl h1 h
theorem RC_230 {Φ : Mem → Prop} {k pc : Nat} {i : Instr} {c : Cd} {L : LV} {st : List SV} {μ : Mem} {r1 r : Res} {x0 x1 x2 : Int} (e : ∀ rec : Rec, stp rec k i c L (vI x2 :: vI x1 :: vA x0 :: st) μ = callK rec 230 k c L (vI x2 :: vI x1 :: vA x0 :: st) μ) (hc : cats st ≤ 8) (hv : x0 ≠ 0 ∧ kd x0 = 12) (h1 : RunM 230 [vA x0, vI x1, vI x2] μ r1) (h : Rn Φ k c L (r1.1.toList ++ st) r1.2 r) : Rn Φ k ((pc, i) :: c) L (vI x2 :: vI x1 :: vA x0 :: st) μ r := CC (vs := [vA x0, vI x1, vI x2]) md_230 e rfl hc (decide_eq_true hv) rfl h1 h
theorem RC_231 {Φ : Mem → Prop} {k pc : Nat} {i : Instr} {c : Cd} {L : LV} {st : List SV} {μ : Mem} {r1 r : Res} {x0 x1 : Int} (e : ∀ rec : Rec, stp rec k i c L (vI x1 :: vA x0 :: st) μ = callK rec 231 k c L (vI x1 :: vA x0 :: st) μ) (hc : cats st ≤ 8) (hv : x0 ≠ 0 ∧ kd x0 = 12) (h1 : RunM 231 [vA x0, vI x1] μ r1) (h : Rn Φ k c L (r1.1.toList ++ st) r1.2 r) : Rn Φ k ((pc, i) :: c) L (vI x1 :: vA x0 :: st) μ r := CC (vs := [vA x0, vI x1]) md_231 e rfl hc (decide_eq_true hv) rfl h1 h
theorem RC_232 {Φ : Mem → Prop} {k pc : Nat} {i : Instr} {c : Cd} {L : LV} {st : List SV} {μ : Mem} {r1 r : Res} {x0 x1 x2 : Int} (e : ∀ rec : Rec, stp rec k i c L (vI x2 :: vI x1 :: vA x0 :: st) μ = callK rec 232 k c L (vI x2 :: vI x1 :: vA x0 :: st) μ) (hc : cats st ≤ 8) (hv : x0 ≠ 0 ∧ kd x0 = 12) (h1 : RunM 232 [vA x0, vI x1, vI x2] μ r1) (h : Rn Φ k c L (r1.1.toList ++ st) r1.2 r) : Rn Φ k ((pc, i) :: c) L (vI x2 :: vI x1 :: vA x0 :: st) μ r := CC (vs := [vA x0, vI x1, vI x2]) md_232 e rfl hc (decide_eq_true hv) rfl h1 h
theorem RC_233 {Φ : Mem → Prop} {k pc : Nat} {i : Instr} {c : Cd} {L : LV} {st : List SV} {μ : Mem} {r1 r : Res} {x0 x1 x2 : Int} (e : ∀ rec : Rec, stp rec k i c L (vI x2 :: vI x1 :: vA x0 :: st) μ = callK rec 233 k c L (vI x2 :: vI x1 :: vA x0 :: st) μ) (hc : cats st ≤ 8) (hv : x0 ≠ 0 ∧ kd x0 = 12) (h1 : RunM 233 [vA x0, vI x1, vI x2] μ r1) (h : Rn Φ k c L (r1.1.toList ++ st) r1.2 r) : Rn Φ k ((pc, i) :: c) L (vI x2 :: vI x1 :: vA x0 :: st) μ r := CC (vs := [vA x0, vI x1, vI x2]) md_233 e rfl hc (decide_eq_true hv) rfl h1 h
theorem RC_234 {Φ : Mem → Prop} {k pc : Nat} {i : Instr} {c : Cd} {L : LV} {st : List SV} {μ : Mem} {r1 r : Res} {x0 x1 x2 : Int} (e : ∀ rec : Rec, stp rec k i c L (vI x2 :: vI x1 :: vA x0 :: st) μ = callK rec 234 k c L (vI x2 :: vI x1 :: vA x0 :: st) μ) (hc : cats st ≤ 8) (hv : x0 ≠ 0 ∧ kd x0 = 12) (h1 : RunM 234 [vA x0, vI x1, vI x2] μ r1) (h : Rn Φ k c L (r1.1.toList ++ st) r1.2 r) : Rn Φ k ((pc, i) :: c) L (vI x2 :: vI x1 :: vA x0 :: st) μ r := CC (vs := [vA x0, vI x1, vI x2]) md_234 e rfl hc (decide_eq_true hv) rfl h1 h
theorem RC_235 {Φ : Mem → Prop} {k pc : Nat} {i : Instr} {c : Cd} {L : LV} {st : List SV} {μ : Mem} {r1 r : Res} {x0 x1 x2 x3 : Int} (e : ∀ rec : Rec, stp rec k i c L (vI x3 :: vI x2 :: vI x1 :: vA x0 :: st) μ = callK rec 235 k c L (vI x3 :: vI x2 :: vI x1 :: vA x0 :: st) μ) (hc : cats st ≤ 8) (hv : x0 ≠ 0 ∧ kd x0 = 12) (h1 : RunM 235 [vA x0, vI x1, vI x2, vI x3] μ r1) (h : Rn Φ k c L (r1.1.toList ++ st) r1.2 r) : Rn Φ k ((pc, i) :: c) L (vI x3 :: vI x2 :: vI x1 :: vA x0 :: st) μ r := CC (vs := [vA x0, vI x1, vI x2, vI x3]) md_235 e rfl hc (decide_eq_true hv) rfl h1 h
theorem RC_236 {Φ : Mem → Prop} {k pc : Nat} {i : Instr} {c : Cd} {L : LV} {st : List SV} {μ : Mem} {r1 r : Res} {x0 : Int} (e : ∀ rec : Rec, stp rec k i c L (vA x0 :: st) μ = callK rec 236 k c L (vA x0 :: st) μ) (hc : cats st ≤ 8) (hv : x0 ≠ 0 ∧ kd x0 = 12) (h1 : RunM 236 [vA x0] μ r1) (h : Rn Φ k c L (r1.1.toList ++ st) r1.2 r) : Rn Φ k ((pc, i) :: c) L (vA x0 :: st) μ r := CC (vs := [vA x0]) md_236 e rfl hc (decide_eq_true hv) rfl h1 h
theorem RC_237 {Φ : Mem → Prop} {k pc : Nat} {i : Instr} {c : Cd} {L : LV} {st : List SV} {μ : Mem} {r1 r : Res} {x0 x1 : Int} (e : ∀ rec : Rec, stp rec k i c L (vI x1 :: vA x0 :: st) μ = callK rec 237 k c L (vI x1 :: vA x0 :: st) μ) (hc : cats st ≤ 8) (hv : x0 ≠ 0 ∧ kd x0 = 12) (h1 : RunM 237 [vA x0, vI x1] μ r1) (h : Rn Φ k c L (r1.1.toList ++ st) r1.2 r) : Rn Φ k ((pc, i) :: c) L (vI x1 :: vA x0 :: st) μ r := CC (vs := [vA x0, vI x1]) md_237 e rfl hc (decide_eq_true hv) rfl h1 h
theorem RC_238 {Φ : Mem → Prop} {k pc : Nat} {i : Instr} {c : Cd} {L : LV} {st : List SV} {μ : Mem} {r1 r : Res} {x0 x1 : Int} (e : ∀ rec : Rec, stp rec k i c L (vI x1 :: vA x0 :: st) μ = callK rec 238 k c L (vI x1 :: vA x0 :: st) μ) (hc : cats st ≤ 8) (hv : x0 ≠ 0 ∧ kd x0 = 12) (h1 : RunM 238 [vA x0, vI x1] μ r1) (h : Rn Φ k c L (r1.1.toList ++ st) r1.2 r) : Rn Φ k ((pc, i) :: c) L (vI x1 :: vA x0 :: st) μ r := CC (vs := [vA x0, vI x1]) md_238 e rfl hc (decide_eq_true hv) rfl h1 h
theorem RC_239 {Φ : Mem → Prop} {k pc : Nat} {i : Instr} {c : Cd} {L : LV} {st : List SV} {μ : Mem} {r1 r : Res} {x0 x1 : Int} (e : ∀ rec : Rec, stp rec k i c L (vI x1 :: vA x0 :: st) μ = callK rec 239 k c L (vI x1 :: vA x0 :: st) μ) (hc : cats st ≤ 8) (hv : x0 ≠ 0 ∧ kd x0 = 12) (h1 : RunM 239 [vA x0, vI x1] μ r1) (h : Rn Φ k c L (r1.1.toList ++ st) r1.2 r) : Rn Φ k ((pc, i) :: c) L (vI x1 :: vA x0 :: st) μ r := CC (vs := [vA x0, vI x1]) md_239 e rfl hc (decide_eq_true hv) rfl h1 h
theorem RC_240 {Φ : Mem → Prop} {k pc : Nat} {i : Instr} {c : Cd} {L : LV} {st : List SV} {μ : Mem} {r1 r : Res} {x0 x1 : Int} (e : ∀ rec : Rec, stp rec k i c L (vI x1 :: vA x0 :: st) μ = callK rec 240 k c L (vI x1 :: vA x0 :: st) μ) (hc : cats st ≤ 8) (hv : x0 ≠ 0 ∧ kd x0 = 12) (h1 : RunM 240 [vA x0, vI x1] μ r1) (h : Rn Φ k c L (r1.1.toList ++ st) r1.2 r) : Rn Φ k ((pc, i) :: c) L (vI x1 :: vA x0 :: st) μ r := CC (vs := [vA x0, vI x1]) md_240 e rfl hc (decide_eq_true hv) rfl h1 h
theorem RC_241 {Φ : Mem → Prop} {k pc : Nat} {i : Instr} {c : Cd} {L : LV} {st : List SV} {μ : Mem} {r1 r : Res} {x0 x1 : Int} (e : ∀ rec : Rec, stp rec k i c L (vI x1 :: vA x0 :: st) μ = callK rec 241 k c L (vI x1 :: vA x0 :: st) μ) (hc : cats st ≤ 8) (hv : x0 ≠ 0 ∧ kd x0 = 12) (h1 : RunM 241 [vA x0, vI x1] μ r1) (h : Rn Φ k c L (r1.1.toList ++ st) r1.2 r) : Rn Φ k ((pc, i) :: c) L (vI x1 :: vA x0 :: st) μ r := CC (vs := [vA x0, vI x1]) md_241 e rfl hc (decide_eq_true hv) rfl h1 h
theorem RC_242 {Φ : Mem → Prop} {k pc : Nat} {i : Instr} {c : Cd} {L : LV} {st : List SV} {μ : Mem} {r1 r : Res} {x0 : Int} (e : ∀ rec : Rec, stp rec k i c L (vA x0 :: st) μ = callK rec 242 k c L (vA x0 :: st) μ) (hc : cats st ≤ 8) (hv : x0 ≠ 0 ∧ kd x0 = 12) (h1 : RunM 242 [vA x0] μ r1) (h : Rn Φ k c L (r1.1.toList ++ st) r1.2 r) : Rn Φ k ((pc, i) :: c) L (vA x0 :: st) μ r := CC (vs := [vA x0]) md_242 e rfl hc (decide_eq_true hv) rfl h1 h
theorem RC_243 {Φ : Mem → Prop} {k pc : Nat} {i : Instr} {c : Cd} {L : LV} {st : List SV} {μ : Mem} {r1 r : Res} {x0 x1 : Int} (e : ∀ rec : Rec, stp rec k i c L (vI x1 :: vA x0 :: st) μ = callK rec 243 k c L (vI x1 :: vA x0 :: st) μ) (hc : cats st ≤ 8) (hv : x0 ≠ 0 ∧ kd x0 = 12) (h1 : RunM 243 [vA x0, vI x1] μ r1) (h : Rn Φ k c L (r1.1.toList ++ st) r1.2 r) : Rn Φ k ((pc, i) :: c) L (vI x1 :: vA x0 :: st) μ r := CC (vs := [vA x0, vI x1]) md_243 e rfl hc (decide_eq_true hv) rfl h1 h
theorem RC_244 {Φ : Mem → Prop} {k pc : Nat} {i : Instr} {c : Cd} {L : LV} {st : List SV} {μ : Mem} {r1 r : Res} {x0 : Int} (e : ∀ rec : Rec, stp rec k i c L (vA x0 :: st) μ = callK rec 244 k c L (vA x0 :: st) μ) (hc : cats st ≤ 8) (hv : x0 ≠ 0 ∧ kd x0 = 12) (h1 : RunM 244 [vA x0] μ r1) (h : Rn Φ k c L (r1.1.toList ++ st) r1.2 r) : Rn Φ k ((pc, i) :: c) L (vA x0 :: st) μ r := CC (vs := [vA x0]) md_244 e rfl hc (decide_eq_true hv) rfl h1 h
theorem RC_245 {Φ : Mem → Prop} {k pc : Nat} {i : Instr} {c : Cd} {L : LV} {st : List SV} {μ : Mem} {r1 r : Res} {x0 x1 : Int} (e : ∀ rec : Rec, stp rec k i c L (vI x1 :: vA x0 :: st) μ = callK rec 245 k c L (vI x1 :: vA x0 :: st) μ) (hc : cats st ≤ 8) (hv : x0 ≠ 0 ∧ kd x0 = 12) (h1 : RunM 245 [vA x0, vI x1] μ r1) (h : Rn Φ k c L (r1.1.toList ++ st) r1.2 r) : Rn Φ k ((pc, i) :: c) L (vI x1 :: vA x0 :: st) μ r := CC (vs := [vA x0, vI x1]) md_245 e rfl hc (decide_eq_true hv) rfl h1 h
theorem RC_246 {Φ : Mem → Prop} {k pc : Nat} {i : Instr} {c : Cd} {L : LV} {st : List SV} {μ : Mem} {r1 r : Res} {x0 x1 : Int} (e : ∀ rec : Rec, stp rec k i c L (vI x1 :: vA x0 :: st) μ = callK rec 246 k c L (vI x1 :: vA x0 :: st) μ) (hc : cats st ≤ 8) (hv : x0 ≠ 0 ∧ kd x0 = 12) (h1 : RunM 246 [vA x0, vI x1] μ r1) (h : Rn Φ k c L (r1.1.toList ++ st) r1.2 r) : Rn Φ k ((pc, i) :: c) L (vI x1 :: vA x0 :: st) μ r := CC (vs := [vA x0, vI x1]) md_246 e rfl hc (decide_eq_true hv) rfl h1 h
theorem RC_247 {Φ : Mem → Prop} {k pc : Nat} {i : Instr} {c : Cd} {L : LV} {st : List SV} {μ : Mem} {r1 r : Res} {x0 : Int} (e : ∀ rec : Rec, stp rec k i c L (vA x0 :: st) μ = callK rec 247 k c L (vA x0 :: st) μ) (hc : cats st ≤ 8) (hv : x0 ≠ 0 ∧ kd x0 = 12) (h1 : RunM 247 [vA x0] μ r1) (h : Rn Φ k c L (r1.1.toList ++ st) r1.2 r) : Rn Φ k ((pc, i) :: c) L (vA x0 :: st) μ r := CC (vs := [vA x0]) md_247 e rfl hc (decide_eq_true hv) rfl h1 h
theorem RC_248 {Φ : Mem → Prop} {k pc : Nat} {i : Instr} {c : Cd} {L : LV} {st : List SV} {μ : Mem} {r1 r : Res} {x0 : Int} (e : ∀ rec : Rec, stp rec k i c L (vA x0 :: st) μ = callK rec 248 k c L (vA x0 :: st) μ) (hc : cats st ≤ 8) (hv : x0 ≠ 0 ∧ kd x0 = 12) (h1 : RunM 248 [vA x0] μ r1) (h : Rn Φ k c L (r1.1.toList ++ st) r1.2 r) : Rn Φ k ((pc, i) :: c) L (vA x0 :: st) μ r := CC (vs := [vA x0]) md_248 e rfl hc (decide_eq_true hv) rfl h1 h
theorem RC_249 {Φ : Mem → Prop} {k pc : Nat} {i : Instr} {c : Cd} {L : LV} {st : List SV} {μ : Mem} {r1 r : Res} {x0 x1 : Int} (e : ∀ rec : Rec, stp rec k i c L (vI x1 :: vA x0 :: st) μ = callK rec 249 k c L (vI x1 :: vA x0 :: st) μ) (hc : cats st ≤ 8) (hv : x0 ≠ 0 ∧ kd x0 = 12) (h1 : RunM 249 [vA x0, vI x1] μ r1) (h : Rn Φ k c L (r1.1.toList ++ st) r1.2 r) : Rn Φ k ((pc, i) :: c) L (vI x1 :: vA x0 :: st) μ r := CC (vs := [vA x0, vI x1]) md_249 e rfl hc (decide_eq_true hv) rfl h1 h
theorem RC_250 {Φ : Mem → Prop} {k pc : Nat} {i : Instr} {c : Cd} {L : LV} {st : List SV} {μ : Mem} {r1 r : Res} {x0 x1 x2 : Int} (e : ∀ rec : Rec, stp rec k i c L (vI x2 :: vI x1 :: vA x0 :: st) μ = callK rec 250 k c L (vI x2 :: vI x1 :: vA x0 :: st) μ) (hc : cats st ≤ 8) (hv : x0 ≠ 0 ∧ kd x0 = 12) (h1 : RunM 250 [vA x0, vI x1, vI x2] μ r1) (h : Rn Φ k c L (r1.1.toList ++ st) r1.2 r) : Rn Φ k ((pc, i) :: c) L (vI x2 :: vI x1 :: vA x0 :: st) μ r := CC (vs := [vA x0, vI x1, vI x2]) md_250 e rfl hc (decide_eq_true hv) rfl h1 h
theorem RC_251 {Φ : Mem → Prop} {k pc : Nat} {i : Instr} {c : Cd} {L : LV} {st : List SV} {μ : Mem} {r1 r : Res} {x0 x1 : Int} (e : ∀ rec : Rec, stp rec k i c L (vI x1 :: vA x0 :: st) μ = callK rec 251 k c L (vI x1 :: vA x0 :: st) μ) (hc : cats st ≤ 8) (hv : x0 ≠ 0 ∧ kd x0 = 12) (h1 : RunM 251 [vA x0, vI x1] μ r1) (h : Rn Φ k c L (r1.1.toList ++ st) r1.2 r) : Rn Φ k ((pc, i) :: c) L (vI x1 :: vA x0 :: st) μ r := CC (vs := [vA x0, vI x1]) md_251 e rfl hc (decide_eq_true hv) rfl h1 h
theorem RC_252 {Φ : Mem → Prop} {k pc : Nat} {i : Instr} {c : Cd} {L : LV} {st : List SV} {μ : Mem} {r1 r : Res} {x0 : Int} (e : ∀ rec : Rec, stp rec k i c L (vA x0 :: st) μ = callK rec 252 k c L (vA x0 :: st) μ) (hc : cats st ≤ 8) (hv : x0 ≠ 0 ∧ kd x0 = 12) (h1 : RunM 252 [vA x0] μ r1) (h : Rn Φ k c L (r1.1.toList ++ st) r1.2 r) : Rn Φ k ((pc, i) :: c) L (vA x0 :: st) μ r := CC (vs := [vA x0]) md_252 e rfl hc (decide_eq_true hv) rfl h1 h
theorem RC_253 {Φ : Mem → Prop} {k pc : Nat} {i : Instr} {c : Cd} {L : LV} {st : List SV} {μ : Mem} {r1 r : Res} {x0 x1 : Int} (e : ∀ rec : Rec, stp rec k i c L (vI x1 :: vA x0 :: st) μ = callK rec 253 k c L (vI x1 :: vA x0 :: st) μ) (hc : cats st ≤ 8) (hv : x0 ≠ 0 ∧ kd x0 = 12) (h1 : RunM 253 [vA x0, vI x1] μ r1) (h : Rn Φ k c L (r1.1.toList ++ st) r1.2 r) : Rn Φ k ((pc, i) :: c) L (vI x1 :: vA x0 :: st) μ r := CC (vs := [vA x0, vI x1]) md_253 e rfl hc (decide_eq_true hv) rfl h1 h
theorem RC_254 {Φ : Mem → Prop} {k pc : Nat} {i : Instr} {c : Cd} {L : LV} {st : List SV} {μ : Mem} {r1 r : Res} {x0 x1 x2 : Int} (e : ∀ rec : Rec, stp rec k i c L (vI x2 :: vI x1 :: vA x0 :: st) μ = callK rec 254 k c L (vI x2 :: vI x1 :: vA x0 :: st) μ) (hc : cats st ≤ 8) (hv : x0 ≠ 0 ∧ kd x0 = 12) (h1 : RunM 254 [vA x0, vI x1, vI x2] μ r1) (h : Rn Φ k c L (r1.1.toList ++ st) r1.2 r) : Rn Φ k ((pc, i) :: c) L (vI x2 :: vI x1 :: vA x0 :: st) μ r := CC (vs := [vA x0, vI x1, vI x2]) md_254 e rfl hc (decide_eq_true hv) rfl h1 h
theorem RC_255 {Φ : Mem → Prop} {k pc : Nat} {i : Instr} {c : Cd} {L : LV} {st : List SV} {μ : Mem} {r1 r : Res} {x0 x1 x2 x3 : Int} (e : ∀ rec : Rec, stp rec k i c L (vI x3 :: vI x2 :: vI x1 :: vI x0 :: st) μ = callK rec 255 k c L (vI x3 :: vI x2 :: vI x1 :: vI x0 :: st) μ) (hc : cats st ≤ 8) (h1 : RunM 255 [vI x0, vI x1, vI x2, vI x3] μ r1) (h : Rn Φ k c L (r1.1.toList ++ st) r1.2 r) : Rn Φ k ((pc, i) :: c) L (vI x3 :: vI x2 :: vI x1 :: vI x0 :: st) μ r := CC (vs := [vI x0, vI x1, vI x2, vI x3]) md_255 e rfl hc rfl rfl h1 h
theorem RC_256 {Φ : Mem → Prop} {k pc : Nat} {i : Instr} {c : Cd} {L : LV} {st : List SV} {μ : Mem} {r1 r : Res} {x0 x1 x2 : Int} (e : ∀ rec : Rec, stp rec k i c L (vI x2 :: vI x1 :: vA x0 :: st) μ = callK rec 256 k c L (vI x2 :: vI x1 :: vA x0 :: st) μ) (hc : cats st ≤ 8) (hv : x0 ≠ 0 ∧ kd x0 = 12) (h1 : RunM 256 [vA x0, vI x1, vI x2] μ r1) (h : Rn Φ k c L (r1.1.toList ++ st) r1.2 r) : Rn Φ k ((pc, i) :: c) L (vI x2 :: vI x1 :: vA x0 :: st) μ r := CC (vs := [vA x0, vI x1, vI x2]) md_256 e rfl hc (decide_eq_true hv) rfl h1 h
theorem RC_257 {Φ : Mem → Prop} {k pc : Nat} {i : Instr} {c : Cd} {L : LV} {st : List SV} {μ : Mem} {r1 r : Res} {x0 x1 x2 : Int} (e : ∀ rec : Rec, stp rec k i c L (vI x2 :: vI x1 :: vA x0 :: st) μ = callK rec 257 k c L (vI x2 :: vI x1 :: vA x0 :: st) μ) (hc : cats st ≤ 8) (hv : x0 ≠ 0 ∧ kd x0 = 12) (h1 : RunM 257 [vA x0, vI x1, vI x2] μ r1) (h : Rn Φ k c L (r1.1.toList ++ st) r1.2 r) : Rn Φ k ((pc, i) :: c) L (vI x2 :: vI x1 :: vA x0 :: st) μ r := CC (vs := [vA x0, vI x1, vI x2]) md_257 e rfl hc (decide_eq_true hv) rfl h1 h
theorem RC_258 {Φ : Mem → Prop} {k pc : Nat} {i : Instr} {c : Cd} {L : LV} {st : List SV} {μ : Mem} {r1 r : Res} {x0 x1 x2 : Int} (e : ∀ rec : Rec, stp rec k i c L (vI x2 :: vI x1 :: vA x0 :: st) μ = callK rec 258 k c L (vI x2 :: vI x1 :: vA x0 :: st) μ) (hc : cats st ≤ 8) (hv : x0 ≠ 0 ∧ kd x0 = 12) (h1 : RunM 258 [vA x0, vI x1, vI x2] μ r1) (h : Rn Φ k c L (r1.1.toList ++ st) r1.2 r) : Rn Φ k ((pc, i) :: c) L (vI x2 :: vI x1 :: vA x0 :: st) μ r := CC (vs := [vA x0, vI x1, vI x2]) md_258 e rfl hc (decide_eq_true hv) rfl h1 h
theorem RC_259 {Φ : Mem → Prop} {k pc : Nat} {i : Instr} {c : Cd} {L : LV} {st : List SV} {μ : Mem} {r1 r : Res} {x0 x1 x2 : Int} (e : ∀ rec : Rec, stp rec k i c L (vI x2 :: vI x1 :: vA x0 :: st) μ = callK rec 259 k c L (vI x2 :: vI x1 :: vA x0 :: st) μ) (hc : cats st ≤ 8) (hv : x0 ≠ 0 ∧ kd x0 = 12) (h1 : RunM 259 [vA x0, vI x1, vI x2] μ r1) (h : Rn Φ k c L (r1.1.toList ++ st) r1.2 r) : Rn Φ k ((pc, i) :: c) L (vI x2 :: vI x1 :: vA x0 :: st) μ r := CC (vs := [vA x0, vI x1, vI x2]) md_259 e rfl hc (decide_eq_true hv) rfl h1 h
theorem RC_260 {Φ : Mem → Prop} {k pc : Nat} {i : Instr} {c : Cd} {L : LV} {st : List SV} {μ : Mem} {r1 r : Res} {x0 x1 x2 : Int} (e : ∀ rec : Rec, stp rec k i c L (vI x2 :: vI x1 :: vA x0 :: st) μ = callK rec 260 k c L (vI x2 :: vI x1 :: vA x0 :: st) μ) (hc : cats st ≤ 8) (hv : x0 ≠ 0 ∧ kd x0 = 12) (h1 : RunM 260 [vA x0, vI x1, vI x2] μ r1) (h : Rn Φ k c L (r1.1.toList ++ st) r1.2 r) : Rn Φ k ((pc, i) :: c) L (vI x2 :: vI x1 :: vA x0 :: st) μ r := CC (vs := [vA x0, vI x1, vI x2]) md_260 e rfl hc (decide_eq_true hv) rfl h1 h
theorem RC_261 {Φ : Mem → Prop} {k pc : Nat} {i : Instr} {c : Cd} {L : LV} {st : List SV} {μ : Mem} {r1 r : Res} {x0 x1 : Int} (e : ∀ rec : Rec, stp rec k i c L (vI x1 :: vA x0 :: st) μ = callK rec 261 k c L (vI x1 :: vA x0 :: st) μ) (hc : cats st ≤ 8) (hv : x0 ≠ 0 ∧ kd x0 = 12) (h1 : RunM 261 [vA x0, vI x1] μ r1) (h : Rn Φ k c L (r1.1.toList ++ st) r1.2 r) : Rn Φ k ((pc, i) :: c) L (vI x1 :: vA x0 :: st) μ r := CC (vs := [vA x0, vI x1]) md_261 e rfl hc (decide_eq_true hv) rfl h1 h
theorem RC_262 {Φ : Mem → Prop} {k pc : Nat} {i : Instr} {c : Cd} {L : LV} {st : List SV} {μ : Mem} {r1 r : Res} {x0 x1 x2 x3 : Int} (e : ∀ rec : Rec, stp rec k i c L (vI x3 :: vI x2 :: vI x1 :: vA x0 :: st) μ = callK rec 262 k c L (vI x3 :: vI x2 :: vI x1 :: vA x0 :: st) μ) (hc : cats st ≤ 8) (hv : x0 ≠ 0 ∧ kd x0 = 12) (h1 : RunM 262 [vA x0, vI x1, vI x2, vI x3] μ r1) (h : Rn Φ k c L (r1.1.toList ++ st) r1.2 r) : Rn Φ k ((pc, i) :: c) L (vI x3 :: vI x2 :: vI x1 :: vA x0 :: st) μ r := CC (vs := [vA x0, vI x1, vI x2, vI x3]) md_262 e rfl hc (decide_eq_true hv) rfl h1 h
theorem RC_263 {Φ : Mem → Prop} {k pc : Nat} {i : Instr} {c : Cd} {L : LV} {st : List SV} {μ : Mem} {r1 r : Res} {x0 x1 x2 : Int} (e : ∀ rec : Rec, stp rec k i c L (vI x2 :: vI x1 :: vA x0 :: st) μ = callK rec 263 k c L (vI x2 :: vI x1 :: vA x0 :: st) μ) (hc : cats st ≤ 8) (hv : x0 ≠ 0 ∧ kd x0 = 12) (h1 : RunM 263 [vA x0, vI x1, vI x2] μ r1) (h : Rn Φ k c L (r1.1.toList ++ st) r1.2 r) : Rn Φ k ((pc, i) :: c) L (vI x2 :: vI x1 :: vA x0 :: st) μ r := CC (vs := [vA x0, vI x1, vI x2]) md_263 e rfl hc (decide_eq_true hv) rfl h1 h
theorem RC_264 {Φ : Mem → Prop} {k pc : Nat} {i : Instr} {c : Cd} {L : LV} {st : List SV} {μ : Mem} {r1 r : Res} {x0 x1 : Int} (e : ∀ rec : Rec, stp rec k i c L (vI x1 :: vA x0 :: st) μ = callK rec 264 k c L (vI x1 :: vA x0 :: st) μ) (hc : cats st ≤ 8) (hv : x0 ≠ 0 ∧ kd x0 = 12) (h1 : RunM 264 [vA x0, vI x1] μ r1) (h : Rn Φ k c L (r1.1.toList ++ st) r1.2 r) : Rn Φ k ((pc, i) :: c) L (vI x1 :: vA x0 :: st) μ r := CC (vs := [vA x0, vI x1]) md_264 e rfl hc (decide_eq_true hv) rfl h1 h
theorem RC_265 {Φ : Mem → Prop} {k pc : Nat} {i : Instr} {c : Cd} {L : LV} {st : List SV} {μ : Mem} {r1 r : Res} {x0 x1 : Int} (e : ∀ rec : Rec, stp rec k i c L (vI x1 :: vA x0 :: st) μ = callK rec 265 k c L (vI x1 :: vA x0 :: st) μ) (hc : cats st ≤ 8) (hv : x0 ≠ 0 ∧ kd x0 = 12) (h1 : RunM 265 [vA x0, vI x1] μ r1) (h : Rn Φ k c L (r1.1.toList ++ st) r1.2 r) : Rn Φ k ((pc, i) :: c) L (vI x1 :: vA x0 :: st) μ r := CC (vs := [vA x0, vI x1]) md_265 e rfl hc (decide_eq_true hv) rfl h1 h
theorem RC_266 {Φ : Mem → Prop} {k pc : Nat} {i : Instr} {c : Cd} {L : LV} {st : List SV} {μ : Mem} {r1 r : Res} {x0 x1 : Int} (e : ∀ rec : Rec, stp rec k i c L (vI x1 :: vA x0 :: st) μ = callK rec 266 k c L (vI x1 :: vA x0 :: st) μ) (hc : cats st ≤ 8) (hv : x0 ≠ 0 ∧ kd x0 = 12) (h1 : RunM 266 [vA x0, vI x1] μ r1) (h : Rn Φ k c L (r1.1.toList ++ st) r1.2 r) : Rn Φ k ((pc, i) :: c) L (vI x1 :: vA x0 :: st) μ r := CC (vs := [vA x0, vI x1]) md_266 e rfl hc (decide_eq_true hv) rfl h1 h
theorem RC_267 {Φ : Mem → Prop} {k pc : Nat} {i : Instr} {c : Cd} {L : LV} {st : List SV} {μ : Mem} {r1 r : Res} {x0 x1 : Int} (e : ∀ rec : Rec, stp rec k i c L (vI x1 :: vA x0 :: st) μ = callK rec 267 k c L (vI x1 :: vA x0 :: st) μ) (hc : cats st ≤ 8) (hv : x0 ≠ 0 ∧ kd x0 = 12) (h1 : RunM 267 [vA x0, vI x1] μ r1) (h : Rn Φ k c L (r1.1.toList ++ st) r1.2 r) : Rn Φ k ((pc, i) :: c) L (vI x1 :: vA x0 :: st) μ r := CC (vs := [vA x0, vI x1]) md_267 e rfl hc (decide_eq_true hv) rfl h1 h
theorem RC_268 {Φ : Mem → Prop} {k pc : Nat} {i : Instr} {c : Cd} {L : LV} {st : List SV} {μ : Mem} {r1 r : Res} {x0 x1 : Int} (e : ∀ rec : Rec, stp rec k i c L (vI x1 :: vA x0 :: st) μ = callK rec 268 k c L (vI x1 :: vA x0 :: st) μ) (hc : cats st ≤ 8) (hv : x0 ≠ 0 ∧ kd x0 = 12) (h1 : RunM 268 [vA x0, vI x1] μ r1) (h : Rn Φ k c L (r1.1.toList ++ st) r1.2 r) : Rn Φ k ((pc, i) :: c) L (vI x1 :: vA x0 :: st) μ r := CC (vs := [vA x0, vI x1]) md_268 e rfl hc (decide_eq_true hv) rfl h1 h
theorem RC_269 {Φ : Mem → Prop} {k pc : Nat} {i : Instr} {c : Cd} {L : LV} {st : List SV} {μ : Mem} {r1 r : Res} {x0 x1 : Int} (e : ∀ rec : Rec, stp rec k i c L (vI x1 :: vA x0 :: st) μ = callK rec 269 k c L (vI x1 :: vA x0 :: st) μ) (hc : cats st ≤ 8) (hv : x0 ≠ 0 ∧ kd x0 = 12) (h1 : RunM 269 [vA x0, vI x1] μ r1) (h : Rn Φ k c L (r1.1.toList ++ st) r1.2 r) : Rn Φ k ((pc, i) :: c) L (vI x1 :: vA x0 :: st) μ r := CC (vs := [vA x0, vI x1]) md_269 e rfl hc (decide_eq_true hv) rfl h1 h
theorem RC_270 {Φ : Mem → Prop} {k pc : Nat} {i : Instr} {c : Cd} {L : LV} {st : List SV} {μ : Mem} {r1 r : Res} {x0 x1 x2 : Int} (e : ∀ rec : Rec, stp rec k i c L (vI x2 :: vI x1 :: vA x0 :: st) μ = callK rec 270 k c L (vI x2 :: vI x1 :: vA x0 :: st) μ) (hc : cats st ≤ 8) (hv : x0 ≠ 0 ∧ kd x0 = 12) (h1 : RunM 270 [vA x0, vI x1, vI x2] μ r1) (h : Rn Φ k c L (r1.1.toList ++ st) r1.2 r) : Rn Φ k ((pc, i) :: c) L (vI x2 :: vI x1 :: vA x0 :: st) μ r := CC (vs := [vA x0, vI x1, vI x2]) md_270 e rfl hc (decide_eq_true hv) rfl h1 h
theorem RC_271 {Φ : Mem → Prop} {k pc : Nat} {i : Instr} {c : Cd} {L : LV} {st : List SV} {μ : Mem} {r1 r : Res} {x0 x1 : Int} (e : ∀ rec : Rec, stp rec k i c L (vI x1 :: vA x0 :: st) μ = callK rec 271 k c L (vI x1 :: vA x0 :: st) μ) (hc : cats st ≤ 8) (hv : x0 ≠ 0 ∧ kd x0 = 12) (h1 : RunM 271 [vA x0, vI x1] μ r1) (h : Rn Φ k c L (r1.1.toList ++ st) r1.2 r) : Rn Φ k ((pc, i) :: c) L (vI x1 :: vA x0 :: st) μ r := CC (vs := [vA x0, vI x1]) md_271 e rfl hc (decide_eq_true hv) rfl h1 h
theorem RC_272 {Φ : Mem → Prop} {k pc : Nat} {i : Instr} {c : Cd} {L : LV} {st : List SV} {μ : Mem} {r1 r : Res} {x0 x1 : Int} (e : ∀ rec : Rec, stp rec k i c L (vI x1 :: vA x0 :: st) μ = callK rec 272 k c L (vI x1 :: vA x0 :: st) μ) (hc : cats st ≤ 8) (hv : x0 ≠ 0 ∧ kd x0 = 12) (h1 : RunM 272 [vA x0, vI x1] μ r1) (h : Rn Φ k c L (r1.1.toList ++ st) r1.2 r) : Rn Φ k ((pc, i) :: c) L (vI x1 :: vA x0 :: st) μ r := CC (vs := [vA x0, vI x1]) md_272 e rfl hc (decide_eq_true hv) rfl h1 h
theorem RC_273 {Φ : Mem → Prop} {k pc : Nat} {i : Instr} {c : Cd} {L : LV} {st : List SV} {μ : Mem} {r1 r : Res} {x0 : Int} (e : ∀ rec : Rec, stp rec k i c L (vA x0 :: st) μ = callK rec 273 k c L (vA x0 :: st) μ) (hc : cats st ≤ 8) (hv : x0 ≠ 0 ∧ kd x0 = 12) (h1 : RunM 273 [vA x0] μ r1) (h : Rn Φ k c L (r1.1.toList ++ st) r1.2 r) : Rn Φ k ((pc, i) :: c) L (vA x0 :: st) μ r := CC (vs := [vA x0]) md_273 e rfl hc (decide_eq_true hv) rfl h1 h
theorem RC_274 {Φ : Mem → Prop} {k pc : Nat} {i : Instr} {c : Cd} {L : LV} {st : List SV} {μ : Mem} {r1 r : Res} {x0 : Int} (e : ∀ rec : Rec, stp rec k i c L (vA x0 :: st) μ = callK rec 274 k c L (vA x0 :: st) μ) (hc : cats st ≤ 8) (hv : x0 ≠ 0 ∧ kd x0 = 12) (h1 : RunM 274 [vA x0] μ r1) (h : Rn Φ k c L (r1.1.toList ++ st) r1.2 r) : Rn Φ k ((pc, i) :: c) L (vA x0 :: st) μ r := CC (vs := [vA x0]) md_274 e rfl hc (decide_eq_true hv) rfl h1 h
theorem RC_275 {Φ : Mem → Prop} {k pc : Nat} {i : Instr} {c : Cd} {L : LV} {st : List SV} {μ : Mem} {r1 r : Res} {x0 x1 : Int} (e : ∀ rec : Rec, stp rec k i c L (vI x1 :: vA x0 :: st) μ = callK rec 275 k c L (vI x1 :: vA x0 :: st) μ) (hc : cats st ≤ 8) (hv : x0 ≠ 0 ∧ kd x0 = 12) (h1 : RunM 275 [vA x0, vI x1] μ r1) (h : Rn Φ k c L (r1.1.toList ++ st) r1.2 r) : Rn Φ k ((pc, i) :: c) L (vI x1 :: vA x0 :: st) μ r := CC (vs := [vA x0, vI x1]) md_275 e rfl hc (decide_eq_true hv) rfl h1 h
theorem RC_276 {Φ : Mem → Prop} {k pc : Nat} {i : Instr} {c : Cd} {L : LV} {st : List SV} {μ : Mem} {r1 r : Res} {x0 x1 x2 : Int} (e : ∀ rec : Rec, stp rec k i c L (vI x2 :: vI x1 :: vA x0 :: st) μ = callK rec 276 k c L (vI x2 :: vI x1 :: vA x0 :: st) μ) (hc : cats st ≤ 8) (hv : x0 ≠ 0 ∧ kd x0 = 12) (h1 : RunM 276 [vA x0, vI x1, vI x2] μ r1) (h : Rn Φ k c L (r1.1.toList ++ st) r1.2 r) : Rn Φ k ((pc, i) :: c) L (vI x2 :: vI x1 :: vA x0 :: st) μ r := CC (vs := [vA x0, vI x1, vI x2]) md_276 e rfl hc (decide_eq_true hv) rfl h1 h
theorem RC_277 {Φ : Mem → Prop} {k pc : Nat} {i : Instr} {c : Cd} {L : LV} {st : List SV} {μ : Mem} {r1 r : Res} {x0 x1 : Int} (e : ∀ rec : Rec, stp rec k i c L (vI x1 :: vA x0 :: st) μ = callK rec 277 k c L (vI x1 :: vA x0 :: st) μ) (hc : cats st ≤ 8) (hv : x0 ≠ 0 ∧ kd x0 = 12) (h1 : RunM 277 [vA x0, vI x1] μ r1) (h : Rn Φ k c L (r1.1.toList ++ st) r1.2 r) : Rn Φ k ((pc, i) :: c) L (vI x1 :: vA x0 :: st) μ r := CC (vs := [vA x0, vI x1]) md_277 e rfl hc (decide_eq_true hv) rfl h1 h
theorem RC_278 {Φ : Mem → Prop} {k pc : Nat} {i : Instr} {c : Cd} {L : LV} {st : List SV} {μ : Mem} {r1 r : Res} {x0 x1 x2 : Int} (e : ∀ rec : Rec, stp rec k i c L (vI x2 :: vI x1 :: vA x0 :: st) μ = callK rec 278 k c L (vI x2 :: vI x1 :: vA x0 :: st) μ) (hc : cats st ≤ 8) (hv : x0 ≠ 0 ∧ kd x0 = 12) (h1 : RunM 278 [vA x0, vI x1, vI x2] μ r1) (h : Rn Φ k c L (r1.1.toList ++ st) r1.2 r) : Rn Φ k ((pc, i) :: c) L (vI x2 :: vI x1 :: vA x0 :: st) μ r := CC (vs := [vA x0, vI x1, vI x2]) md_278 e rfl hc (decide_eq_true hv) rfl h1 h
theorem RC_279 {Φ : Mem → Prop} {k pc : Nat} {i : Instr} {c : Cd} {L : LV} {st : List SV} {μ : Mem} {r1 r : Res} {x0 x1 x2 : Int} (e : ∀ rec : Rec, stp rec k i c L (vI x2 :: vI x1 :: vA x0 :: st) μ = callK rec 279 k c L (vI x2 :: vI x1 :: vA x0 :: st) μ) (hc : cats st ≤ 8) (hv : x0 ≠ 0 ∧ kd x0 = 12) (h1 : RunM 279 [vA x0, vI x1, vI x2] μ r1) (h : Rn Φ k c L (r1.1.toList ++ st) r1.2 r) : Rn Φ k ((pc, i) :: c) L (vI x2 :: vI x1 :: vA x0 :: st) μ r := CC (vs := [vA x0, vI x1, vI x2]) md_279 e rfl hc (decide_eq_true hv) rfl h1 h
theorem RC_280 {Φ : Mem → Prop} {k pc : Nat} {i : Instr} {c : Cd} {L : LV} {st : List SV} {μ : Mem} {r1 r : Res} {x0 x1 : Int} (e : ∀ rec : Rec, stp rec k i c L (vI x1 :: vA x0 :: st) μ = callK rec 280 k c L (vI x1 :: vA x0 :: st) μ) (hc : cats st ≤ 8) (hv : x0 ≠ 0 ∧ kd x0 = 12) (h1 : RunM 280 [vA x0, vI x1] μ r1) (h : Rn Φ k c L (r1.1.toList ++ st) r1.2 r) : Rn Φ k ((pc, i) :: c) L (vI x1 :: vA x0 :: st) μ r := CC (vs := [vA x0, vI x1]) md_280 e rfl hc (decide_eq_true hv) rfl h1 h
theorem RC_281 {Φ : Mem → Prop} {k pc : Nat} {i : Instr} {c : Cd} {L : LV} {st : List SV} {μ : Mem} {r1 r : Res} {x0 : Int} (e : ∀ rec : Rec, stp rec k i c L (vA x0 :: st) μ = callK rec 281 k c L (vA x0 :: st) μ) (hc : cats st ≤ 8) (hv : x0 ≠ 0 ∧ kd x0 = 12) (h1 : RunM 281 [vA x0] μ r1) (h : Rn Φ k c L (r1.1.toList ++ st) r1.2 r) : Rn Φ k ((pc, i) :: c) L (vA x0 :: st) μ r := CC (vs := [vA x0]) md_281 e rfl hc (decide_eq_true hv) rfl h1 h
theorem RC_282 {Φ : Mem → Prop} {k pc : Nat} {i : Instr} {c : Cd} {L : LV} {st : List SV} {μ : Mem} {r1 r : Res} {x0 : Int} (e : ∀ rec : Rec, stp rec k i c L (vA x0 :: st) μ = callK rec 282 k c L (vA x0 :: st) μ) (hc : cats st ≤ 8) (hv : x0 ≠ 0 ∧ kd x0 = 12) (h1 : RunM 282 [vA x0] μ r1) (h : Rn Φ k c L (r1.1.toList ++ st) r1.2 r) : Rn Φ k ((pc, i) :: c) L (vA x0 :: st) μ r := CC (vs := [vA x0]) md_282 e rfl hc (decide_eq_true hv) rfl h1 h
theorem RC_283 {Φ : Mem → Prop} {k pc : Nat} {i : Instr} {c : Cd} {L : LV} {st : List SV} {μ : Mem} {r1 r : Res} {x0 : Int} (e : ∀ rec : Rec, stp rec k i c L (vA x0 :: st) μ = callK rec 283 k c L (vA x0 :: st) μ) (hc : cats st ≤ 8) (hv : x0 ≠ 0 ∧ kd x0 = 12) (h1 : RunM 283 [vA x0] μ r1) (h : Rn Φ k c L (r1.1.toList ++ st) r1.2 r) : Rn Φ k ((pc, i) :: c) L (vA x0 :: st) μ r := CC (vs := [vA x0]) md_283 e rfl hc (decide_eq_true hv) rfl h1 h
theorem RC_284 {Φ : Mem → Prop} {k pc : Nat} {i : Instr} {c : Cd} {L : LV} {st : List SV} {μ : Mem} {r1 r : Res} {x0 : Int} (e : ∀ rec : Rec, stp rec k i c L (vA x0 :: st) μ = callK rec 284 k c L (vA x0 :: st) μ) (hc : cats st ≤ 8) (hv : x0 ≠ 0 ∧ kd x0 = 12) (h1 : RunM 284 [vA x0] μ r1) (h : Rn Φ k c L (r1.1.toList ++ st) r1.2 r) : Rn Φ k ((pc, i) :: c) L (vA x0 :: st) μ r := CC (vs := [vA x0]) md_284 e rfl hc (decide_eq_true hv) rfl h1 h
theorem RC_285 {Φ : Mem → Prop} {k pc : Nat} {i : Instr} {c : Cd} {L : LV} {st : List SV} {μ : Mem} {r1 r : Res} {x0 x1 : Int} (e : ∀ rec : Rec, stp rec k i c L (vI x1 :: vA x0 :: st) μ = callK rec 285 k c L (vI x1 :: vA x0 :: st) μ) (hc : cats st ≤ 8) (hv : x0 ≠ 0 ∧ kd x0 = 12) (h1 : RunM 285 [vA x0, vI x1] μ r1) (h : Rn Φ k c L (r1.1.toList ++ st) r1.2 r) : Rn Φ k ((pc, i) :: c) L (vI x1 :: vA x0 :: st) μ r := CC (vs := [vA x0, vI x1]) md_285 e rfl hc (decide_eq_true hv) rfl h1 h
theorem RC_286 {Φ : Mem → Prop} {k pc : Nat} {i : Instr} {c : Cd} {L : LV} {st : List SV} {μ : Mem} {r1 r : Res} {x0 x1 x2 : Int} (e : ∀ rec : Rec, stp rec k i c L (vI x2 :: vI x1 :: vA x0 :: st) μ = callK rec 286 k c L (vI x2 :: vI x1 :: vA x0 :: st) μ) (hc : cats st ≤ 8) (hv : x0 ≠ 0 ∧ kd x0 = 12) (h1 : RunM 286 [vA x0, vI x1, vI x2] μ r1) (h : Rn Φ k c L (r1.1.toList ++ st) r1.2 r) : Rn Φ k ((pc, i) :: c) L (vI x2 :: vI x1 :: vA x0 :: st) μ r := CC (vs := [vA x0, vI x1, vI x2]) md_286 e rfl hc (decide_eq_true hv) rfl h1 h
theorem RC_287 {Φ : Mem → Prop} {k pc : Nat} {i : Instr} {c : Cd} {L : LV} {st : List SV} {μ : Mem} {r1 r : Res} {x0 x1 x2 : Int} (e : ∀ rec : Rec, stp rec k i c L (vI x2 :: vI x1 :: vA x0 :: st) μ = callK rec 287 k c L (vI x2 :: vI x1 :: vA x0 :: st) μ) (hc : cats st ≤ 8) (hv : x0 ≠ 0 ∧ kd x0 = 12) (h1 : RunM 287 [vA x0, vI x1, vI x2] μ r1) (h : Rn Φ k c L (r1.1.toList ++ st) r1.2 r) : Rn Φ k ((pc, i) :: c) L (vI x2 :: vI x1 :: vA x0 :: st) μ r := CC (vs := [vA x0, vI x1, vI x2]) md_287 e rfl hc (decide_eq_true hv) rfl h1 h
theorem RC_288 {Φ : Mem → Prop} {k pc : Nat} {i : Instr} {c : Cd} {L : LV} {st : List SV} {μ : Mem} {r1 r : Res} {x0 : Int} (e : ∀ rec : Rec, stp rec k i c L (vA x0 :: st) μ = callK rec 288 k c L (vA x0 :: st) μ) (hc : cats st ≤ 8) (hv : x0 ≠ 0 ∧ kd x0 = 12) (h1 : RunM 288 [vA x0] μ r1) (h : Rn Φ k c L (r1.1.toList ++ st) r1.2 r) : Rn Φ k ((pc, i) :: c) L (vA x0 :: st) μ r := CC (vs := [vA x0]) md_288 e rfl hc (decide_eq_true hv) rfl h1 h
theorem RC_289 {Φ : Mem → Prop} {k pc : Nat} {i : Instr} {c : Cd} {L : LV} {st : List SV} {μ : Mem} {r1 r : Res} {x0 : Int} (e : ∀ rec : Rec, stp rec k i c L (vA x0 :: st) μ = callK rec 289 k c L (vA x0 :: st) μ) (hc : cats st ≤ 8) (hv : x0 ≠ 0 ∧ kd x0 = 12) (h1 : RunM 289 [vA x0] μ r1) (h : Rn Φ k c L (r1.1.toList ++ st) r1.2 r) : Rn Φ k ((pc, i) :: c) L (vA x0 :: st) μ r := CC (vs := [vA x0]) md_289 e rfl hc (decide_eq_true hv) rfl h1 h
theorem RC_290 {Φ : Mem → Prop} {k pc : Nat} {i : Instr} {c : Cd} {L : LV} {st : List SV} {μ : Mem} {r1 r : Res} {x0 x1 : Int} (e : ∀ rec : Rec, stp rec k i c L (vI x1 :: vA x0 :: st) μ = callK rec 290 k c L (vI x1 :: vA x0 :: st) μ) (hc : cats st ≤ 8) (hv : x0 ≠ 0 ∧ kd x0 = 12) (h1 : RunM 290 [vA x0, vI x1] μ r1) (h : Rn Φ k c L (r1.1.toList ++ st) r1.2 r) : Rn Φ k ((pc, i) :: c) L (vI x1 :: vA x0 :: st) μ r := CC (vs := [vA x0, vI x1]) md_290 e rfl hc (decide_eq_true hv) rfl h1 h
theorem RC_291 {Φ : Mem → Prop} {k pc : Nat} {i : Instr} {c : Cd} {L : LV} {st : List SV} {μ : Mem} {r1 r : Res} {x0 x1 : Int} (e : ∀ rec : Rec, stp rec k i c L (vI x1 :: vA x0 :: st) μ = callK rec 291 k c L (vI x1 :: vA x0 :: st) μ) (hc : cats st ≤ 8) (hv : x0 ≠ 0 ∧ kd x0 = 12) (h1 : RunM 291 [vA x0, vI x1] μ r1) (h : Rn Φ k c L (r1.1.toList ++ st) r1.2 r) : Rn Φ k ((pc, i) :: c) L (vI x1 :: vA x0 :: st) μ r := CC (vs := [vA x0, vI x1]) md_291 e rfl hc (decide_eq_true hv) rfl h1 h
theorem RC_292 {Φ : Mem → Prop} {k pc : Nat} {i : Instr} {c : Cd} {L : LV} {st : List SV} {μ : Mem} {r1 r : Res} {x0 x1 : Int} (e : ∀ rec : Rec, stp rec k i c L (vI x1 :: vA x0 :: st) μ = callK rec 292 k c L (vI x1 :: vA x0 :: st) μ) (hc : cats st ≤ 8) (hv : x0 ≠ 0 ∧ kd x0 = 12) (h1 : RunM 292 [vA x0, vI x1] μ r1) (h : Rn Φ k c L (r1.1.toList ++ st) r1.2 r) : Rn Φ k ((pc, i) :: c) L (vI x1 :: vA x0 :: st) μ r := CC (vs := [vA x0, vI x1]) md_292 e rfl hc (decide_eq_true hv) rfl h1 h
theorem RC_293 {Φ : Mem → Prop} {k pc : Nat} {i : Instr} {c : Cd} {L : LV} {st : List SV} {μ : Mem} {r1 r : Res} {x0 x1 : Int} (e : ∀ rec : Rec, stp rec k i c L (vI x1 :: vA x0 :: st) μ = callK rec 293 k c L (vI x1 :: vA x0 :: st) μ) (hc : cats st ≤ 8) (hv : x0 ≠ 0 ∧ kd x0 = 12) (h1 : RunM 293 [vA x0, vI x1] μ r1) (h : Rn Φ k c L (r1.1.toList ++ st) r1.2 r) : Rn Φ k ((pc, i) :: c) L (vI x1 :: vA x0 :: st) μ r := CC (vs := [vA x0, vI x1]) md_293 e rfl hc (decide_eq_true hv) rfl h1 h
theorem RC_294 {Φ : Mem → Prop} {k pc : Nat} {i : Instr} {c : Cd} {L : LV} {st : List SV} {μ : Mem} {r1 r : Res} {x0 x1 x2 : Int} (e : ∀ rec : Rec, stp rec k i c L (vI x2 :: vI x1 :: vA x0 :: st) μ = callK rec 294 k c L (vI x2 :: vI x1 :: vA x0 :: st) μ) (hc : cats st ≤ 8) (hv : x0 ≠ 0 ∧ kd x0 = 12) (h1 : RunM 294 [vA x0, vI x1, vI x2] μ r1) (h : Rn Φ k c L (r1.1.toList ++ st) r1.2 r) : Rn Φ k ((pc, i) :: c) L (vI x2 :: vI x1 :: vA x0 :: st) μ r := CC (vs := [vA x0, vI x1, vI x2]) md_294 e rfl hc (decide_eq_true hv) rfl h1 h
theorem RC_295 {Φ : Mem → Prop} {k pc : Nat} {i : Instr} {c : Cd} {L : LV} {st : List SV} {μ : Mem} {r1 r : Res} {x0 x1 x2 : Int} (e : ∀ rec : Rec, stp rec k i c L (vI x2 :: vI x1 :: vA x0 :: st) μ = callK rec 295 k c L (vI x2 :: vI x1 :: vA x0 :: st) μ) (hc : cats st ≤ 8) (hv : x0 ≠ 0 ∧ kd x0 = 12) (h1 : RunM 295 [vA x0, vI x1, vI x2] μ r1) (h : Rn Φ k c L (r1.1.toList ++ st) r1.2 r) : Rn Φ k ((pc, i) :: c) L (vI x2 :: vI x1 :: vA x0 :: st) μ r := CC (vs := [vA x0, vI x1, vI x2]) md_295 e rfl hc (decide_eq_true hv) rfl h1 h
theorem RC_296 {Φ : Mem → Prop} {k pc : Nat} {i : Instr} {c : Cd} {L : LV} {st : List SV} {μ : Mem} {r1 r : Res} {x0 x1 x2 : Int} (e : ∀ rec : Rec, stp rec k i c L (vI x2 :: vI x1 :: vA x0 :: st) μ = callK rec 296 k c L (vI x2 :: vI x1 :: vA x0 :: st) μ) (hc : cats st ≤ 8) (hv : x0 ≠ 0 ∧ kd x0 = 12) (h1 : RunM 296 [vA x0, vI x1, vI x2] μ r1) (h : Rn Φ k c L (r1.1.toList ++ st) r1.2 r) : Rn Φ k ((pc, i) :: c) L (vI x2 :: vI x1 :: vA x0 :: st) μ r := CC (vs := [vA x0, vI x1, vI x2]) md_296 e rfl hc (decide_eq_true hv) rfl h1 h
theorem RC_297 {Φ : Mem → Prop} {k pc : Nat} {i : Instr} {c : Cd} {L : LV} {st : List SV} {μ : Mem} {r1 r : Res} {x0 x1 x2 : Int} (e : ∀ rec : Rec, stp rec k i c L (vI x2 :: vI x1 :: vA x0 :: st) μ = callK rec 297 k c L (vI x2 :: vI x1 :: vA x0 :: st) μ) (hc : cats st ≤ 8) (hv : x0 ≠ 0 ∧ kd x0 = 12) (h1 : RunM 297 [vA x0, vI x1, vI x2] μ r1) (h : Rn Φ k c L (r1.1.toList ++ st) r1.2 r) : Rn Φ k ((pc, i) :: c) L (vI x2 :: vI x1 :: vA x0 :: st) μ r := CC (vs := [vA x0, vI x1, vI x2]) md_297 e rfl hc (decide_eq_true hv) rfl h1 h
theorem RC_298 {Φ : Mem → Prop} {k pc : Nat} {i : Instr} {c : Cd} {L : LV} {st : List SV} {μ : Mem} {r1 r : Res} {x0 x1 : Int} (e : ∀ rec : Rec, stp rec k i c L (vI x1 :: vA x0 :: st) μ = callK rec 298 k c L (vI x1 :: vA x0 :: st) μ) (hc : cats st ≤ 8) (hv : x0 ≠ 0 ∧ kd x0 = 12) (h1 : RunM 298 [vA x0, vI x1] μ r1) (h : Rn Φ k c L (r1.1.toList ++ st) r1.2 r) : Rn Φ k ((pc, i) :: c) L (vI x1 :: vA x0 :: st) μ r := CC (vs := [vA x0, vI x1]) md_298 e rfl hc (decide_eq_true hv) rfl h1 h
theorem RC_299 {Φ : Mem → Prop} {k pc : Nat} {i : Instr} {c : Cd} {L : LV} {st : List SV} {μ : Mem} {r1 r : Res} {x0 x1 : Int} (e : ∀ rec : Rec, stp rec k i c L (vI x1 :: vA x0 :: st) μ = callK rec 299 k c L (vI x1 :: vA x0 :: st) μ) (hc : cats st ≤ 8) (hv : x0 ≠ 0 ∧ kd x0 = 12) (h1 : RunM 299 [vA x0, vI x1] μ r1) (h : Rn Φ k c L (r1.1.toList ++ st) r1.2 r) : Rn Φ k ((pc, i) :: c) L (vI x1 :: vA x0 :: st) μ r := CC (vs := [vA x0, vI x1]) md_299 e rfl hc (decide_eq_true hv) rfl h1 h
theorem RC_300 {Φ : Mem → Prop} {k pc : Nat} {i : Instr} {c : Cd} {L : LV} {st : List SV} {μ : Mem} {r1 r : Res} {x0 x1 x2 : Int} (e : ∀ rec : Rec, stp rec k i c L (vI x2 :: vI x1 :: vA x0 :: st) μ = callK rec 300 k c L (vI x2 :: vI x1 :: vA x0 :: st) μ) (hc : cats st ≤ 8) (hv : x0 ≠ 0 ∧ kd x0 = 12) (h1 : RunM 300 [vA x0, vI x1, vI x2] μ r1) (h : Rn Φ k c L (r1.1.toList ++ st) r1.2 r) : Rn Φ k ((pc, i) :: c) L (vI x2 :: vI x1 :: vA x0 :: st) μ r := CC (vs := [vA x0, vI x1, vI x2]) md_300 e rfl hc (decide_eq_true hv) rfl h1 h
theorem RC_301 {Φ : Mem → Prop} {k pc : Nat} {i : Instr} {c : Cd} {L : LV} {st : List SV} {μ : Mem} {r1 r : Res} {x0 x1 x2 : Int} (e : ∀ rec : Rec, stp rec k i c L (vI x2 :: vI x1 :: vA x0 :: st) μ = callK rec 301 k c L (vI x2 :: vI x1 :: vA x0 :: st) μ) (hc : cats st ≤ 8) (hv : x0 ≠ 0 ∧ kd x0 = 12) (h1 : RunM 301 [vA x0, vI x1, vI x2] μ r1) (h : Rn Φ k c L (r1.1.toList ++ st) r1.2 r) : Rn Φ k ((pc, i) :: c) L (vI x2 :: vI x1 :: vA x0 :: st) μ r := CC (vs := [vA x0, vI x1, vI x2]) md_301 e rfl hc (decide_eq_true hv) rfl h1 h
theorem RC_302 {Φ : Mem → Prop} {k pc : Nat} {i : Instr} {c : Cd} {L : LV} {st : List SV} {μ : Mem} {r1 r : Res} {x0 x1 : Int} (e : ∀ rec : Rec, stp rec k i c L (vI x1 :: vA x0 :: st) μ = callK rec 302 k c L (vI x1 :: vA x0 :: st) μ) (hc : cats st ≤ 8) (hv : x0 ≠ 0 ∧ kd x0 = 12) (h1 : RunM 302 [vA x0, vI x1] μ r1) (h : Rn Φ k c L (r1.1.toList ++ st) r1.2 r) : Rn Φ k ((pc, i) :: c) L (vI x1 :: vA x0 :: st) μ r := CC (vs := [vA x0, vI x1]) md_302 e rfl hc (decide_eq_true hv) rfl h1 h
theorem RC_303 {Φ : Mem → Prop} {k pc : Nat} {i : Instr} {c : Cd} {L : LV} {st : List SV} {μ : Mem} {r1 r : Res} {x0 x1 : Int} (e : ∀ rec : Rec, stp rec k i c L (vI x1 :: vA x0 :: st) μ = callK rec 303 k c L (vI x1 :: vA x0 :: st) μ) (hc : cats st ≤ 8) (hv : x0 ≠ 0 ∧ kd x0 = 12) (h1 : RunM 303 [vA x0, vI x1] μ r1) (h : Rn Φ k c L (r1.1.toList ++ st) r1.2 r) : Rn Φ k ((pc, i) :: c) L (vI x1 :: vA x0 :: st) μ r := CC (vs := [vA x0, vI x1]) md_303 e rfl hc (decide_eq_true hv) rfl h1 h
theorem RC_304 {Φ : Mem → Prop} {k pc : Nat} {i : Instr} {c : Cd} {L : LV} {st : List SV} {μ : Mem} {r1 r : Res} {x0 x1 : Int} (e : ∀ rec : Rec, stp rec k i c L (vI x1 :: vA x0 :: st) μ = callK rec 304 k c L (vI x1 :: vA x0 :: st) μ) (hc : cats st ≤ 8) (hv : x0 ≠ 0 ∧ kd x0 = 12) (h1 : RunM 304 [vA x0, vI x1] μ r1) (h : Rn Φ k c L (r1.1.toList ++ st) r1.2 r) : Rn Φ k ((pc, i) :: c) L (vI x1 :: vA x0 :: st) μ r := CC (vs := [vA x0, vI x1]) md_304 e rfl hc (decide_eq_true hv) rfl h1 h
theorem RC_305 {Φ : Mem → Prop} {k pc : Nat} {i : Instr} {c : Cd} {L : LV} {st : List SV} {μ : Mem} {r1 r : Res} {x0 x1 : Int} (e : ∀ rec : Rec, stp rec k i c L (vI x1 :: vA x0 :: st) μ = callK rec 305 k c L (vI x1 :: vA x0 :: st) μ) (hc : cats st ≤ 8) (hv : x0 ≠ 0 ∧ kd x0 = 12) (h1 : RunM 305 [vA x0, vI x1] μ r1) (h : Rn Φ k c L (r1.1.toList ++ st) r1.2 r) : Rn Φ k ((pc, i) :: c) L (vI x1 :: vA x0 :: st) μ r := CC (vs := [vA x0, vI x1]) md_305 e rfl hc (decide_eq_true hv) rfl h1 h
theorem RC_306 {Φ : Mem → Prop} {k pc : Nat} {i : Instr} {c : Cd} {L : LV} {st : List SV} {μ : Mem} {r1 r : Res} {x0 x1 x2 : Int} (e : ∀ rec : Rec, stp rec k i c L (vI x2 :: vI x1 :: vA x0 :: st) μ = callK rec 306 k c L (vI x2 :: vI x1 :: vA x0 :: st) μ) (hc : cats st ≤ 8) (hv : x0 ≠ 0 ∧ kd x0 = 12) (h1 : RunM 306 [vA x0, vI x1, vI x2] μ r1) (h : Rn Φ k c L (r1.1.toList ++ st) r1.2 r) : Rn Φ k ((pc, i) :: c) L (vI x2 :: vI x1 :: vA x0 :: st) μ r := CC (vs := [vA x0, vI x1, vI x2]) md_306 e rfl hc (decide_eq_true hv) rfl h1 h
theorem RC_307 {Φ : Mem → Prop} {k pc : Nat} {i : Instr} {c : Cd} {L : LV} {st : List SV} {μ : Mem} {r1 r : Res} {x0 x1 x2 : Int} (e : ∀ rec : Rec, stp rec k i c L (vI x2 :: vI x1 :: vA x0 :: st) μ = callK rec 307 k c L (vI x2 :: vI x1 :: vA x0 :: st) μ) (hc : cats st ≤ 8) (hv : x0 ≠ 0 ∧ kd x0 = 12) (h1 : RunM 307 [vA x0, vI x1, vI x2] μ r1) (h : Rn Φ k c L (r1.1.toList ++ st) r1.2 r) : Rn Φ k ((pc, i) :: c) L (vI x2 :: vI x1 :: vA x0 :: st) μ r := CC (vs := [vA x0, vI x1, vI x2]) md_307 e rfl hc (decide_eq_true hv) rfl h1 h
theorem RC_308 {Φ : Mem → Prop} {k pc : Nat} {i : Instr} {c : Cd} {L : LV} {st : List SV} {μ : Mem} {r1 r : Res} {x0 x1 x2 x3 : Int} (e : ∀ rec : Rec, stp rec k i c L (vI x3 :: vI x2 :: vI x1 :: vA x0 :: st) μ = callK rec 308 k c L (vI x3 :: vI x2 :: vI x1 :: vA x0 :: st) μ) (hc : cats st ≤ 8) (hv : x0 ≠ 0 ∧ kd x0 = 12) (h1 : RunM 308 [vA x0, vI x1, vI x2, vI x3] μ r1) (h : Rn Φ k c L (r1.1.toList ++ st) r1.2 r) : Rn Φ k ((pc, i) :: c) L (vI x3 :: vI x2 :: vI x1 :: vA x0 :: st) μ r := CC (vs := [vA x0, vI x1, vI x2, vI x3]) md_308 e rfl hc (decide_eq_true hv) rfl h1 h
theorem RC_309 {Φ : Mem → Prop} {k pc : Nat} {i : Instr} {c : Cd} {L : LV} {st : List SV} {μ : Mem} {r1 r : Res} {x0 x1 : Int} (e : ∀ rec : Rec, stp rec k i c L (vI x1 :: vI x0 :: st) μ = callK rec 309 k c L (vI x1 :: vI x0 :: st) μ) (hc : cats st ≤ 8) (h1 : RunM 309 [vI x0, vI x1] μ r1) (h : Rn Φ k c L (r1.1.toList ++ st) r1.2 r) : Rn Φ k ((pc, i) :: c) L (vI x1 :: vI x0 :: st) μ r := CC (vs := [vI x0, vI x1]) md_309 e rfl hc rfl rfl h1 h
theorem RC_310 {Φ : Mem → Prop} {k pc : Nat} {i : Instr} {c : Cd} {L : LV} {st : List SV} {μ : Mem} {r1 r : Res} {x0 x1 : Int} (e : ∀ rec : Rec, stp rec k i c L (vI x1 :: vI x0 :: st) μ = callK rec 310 k c L (vI x1 :: vI x0 :: st) μ) (hc : cats st ≤ 8) (h1 : RunM 310 [vI x0, vI x1] μ r1) (h : Rn Φ k c L (r1.1.toList ++ st) r1.2 r) : Rn Φ k ((pc, i) :: c) L (vI x1 :: vI x0 :: st) μ r := CC (vs := [vI x0, vI x1]) md_310 e rfl hc rfl rfl h1 h
theorem RC_311 {Φ : Mem → Prop} {k pc : Nat} {i : Instr} {c : Cd} {L : LV} {st : List SV} {μ : Mem} {r1 r : Res} {x0 x1 x2 x3 : Int} (e : ∀ rec : Rec, stp rec k i c L (vI x3 :: vI x2 :: vI x1 :: vA x0 :: st) μ = callK rec 311 k c L (vI x3 :: vI x2 :: vI x1 :: vA x0 :: st) μ) (hc : cats st ≤ 8) (hv : x0 ≠ 0 ∧ kd x0 = 12) (h1 : RunM 311 [vA x0, vI x1, vI x2, vI x3] μ r1) (h : Rn Φ k c L (r1.1.toList ++ st) r1.2 r) : Rn Φ k ((pc, i) :: c) L (vI x3 :: vI x2 :: vI x1 :: vA x0 :: st) μ r := CC (vs := [vA x0, vI x1, vI x2, vI x3]) md_311 e rfl hc (decide_eq_true hv) rfl h1 h
theorem RC_312 {Φ : Mem → Prop} {k pc : Nat} {i : Instr} {c : Cd} {L : LV} {st : List SV} {μ : Mem} {r1 r : Res} {x0 x1 x2 x3 : Int} (e : ∀ rec : Rec, stp rec k i c L (vI x3 :: vI x2 :: vI x1 :: vA x0 :: st) μ = callK rec 312 k c L (vI x3 :: vI x2 :: vI x1 :: vA x0 :: st) μ) (hc : cats st ≤ 8) (hv : x0 ≠ 0 ∧ kd x0 = 12) (h1 : RunM 312 [vA x0, vI x1, vI x2, vI x3] μ r1) (h : Rn Φ k c L (r1.1.toList ++ st) r1.2 r) : Rn Φ k ((pc, i) :: c) L (vI x3 :: vI x2 :: vI x1 :: vA x0 :: st) μ r := CC (vs := [vA x0, vI x1, vI x2, vI x3]) md_312 e rfl hc (decide_eq_true hv) rfl h1 h
theorem RC_313 {Φ : Mem → Prop} {k pc : Nat} {i : Instr} {c : Cd} {L : LV} {st : List SV} {μ : Mem} {r1 r : Res} {x0 x1 x2 : Int} (e : ∀ rec : Rec, stp rec k i c L (vI x2 :: vI x1 :: vA x0 :: st) μ = callK rec 313 k c L (vI x2 :: vI x1 :: vA x0 :: st) μ) (hc : cats st ≤ 8) (hv : x0 ≠ 0 ∧ kd x0 = 12) (h1 : RunM 313 [vA x0, vI x1, vI x2] μ r1) (h : Rn Φ k c L (r1.1.toList ++ st) r1.2 r) : Rn Φ k ((pc, i) :: c) L (vI x2 :: vI x1 :: vA x0 :: st) μ r := CC (vs := [vA x0, vI x1, vI x2]) md_313 e rfl hc (decide_eq_true hv) rfl h1 h
theorem RC_314 {Φ : Mem → Prop} {k pc : Nat} {i : Instr} {c : Cd} {L : LV} {st : List SV} {μ : Mem} {r1 r : Res} {x0 x1 x2 : Int} (e : ∀ rec : Rec, stp rec k i c L (vI x2 :: vI x1 :: vA x0 :: st) μ = callK rec 314 k c L (vI x2 :: vI x1 :: vA x0 :: st) μ) (hc : cats st ≤ 8) (hv : x0 ≠ 0 ∧ kd x0 = 12) (h1 : RunM 314 [vA x0, vI x1, vI x2] μ r1) (h : Rn Φ k c L (r1.1.toList ++ st) r1.2 r) : Rn Φ k ((pc, i) :: c) L (vI x2 :: vI x1 :: vA x0 :: st) μ r := CC (vs := [vA x0, vI x1, vI x2]) md_314 e rfl hc (decide_eq_true hv) rfl h1 h
theorem RC_315 {Φ : Mem → Prop} {k pc : Nat} {i : Instr} {c : Cd} {L : LV} {st : List SV} {μ : Mem} {r1 r : Res} {x0 x1 : Int} (e : ∀ rec : Rec, stp rec k i c L (vI x1 :: vA x0 :: st) μ = callK rec 315 k c L (vI x1 :: vA x0 :: st) μ) (hc : cats st ≤ 8) (hv : x0 ≠ 0 ∧ kd x0 = 12) (h1 : RunM 315 [vA x0, vI x1] μ r1) (h : Rn Φ k c L (r1.1.toList ++ st) r1.2 r) : Rn Φ k ((pc, i) :: c) L (vI x1 :: vA x0 :: st) μ r := CC (vs := [vA x0, vI x1]) md_315 e rfl hc (decide_eq_true hv) rfl h1 h
theorem RC_316 {Φ : Mem → Prop} {k pc : Nat} {i : Instr} {c : Cd} {L : LV} {st : List SV} {μ : Mem} {r1 r : Res} {x0 x1 x2 : Int} (e : ∀ rec : Rec, stp rec k i c L (vI x2 :: vI x1 :: vA x0 :: st) μ = callK rec 316 k c L (vI x2 :: vI x1 :: vA x0 :: st) μ) (hc : cats st ≤ 8) (hv : x0 ≠ 0 ∧ kd x0 = 12) (h1 : RunM 316 [vA x0, vI x1, vI x2] μ r1) (h : Rn Φ k c L (r1.1.toList ++ st) r1.2 r) : Rn Φ k ((pc, i) :: c) L (vI x2 :: vI x1 :: vA x0 :: st) μ r := CC (vs := [vA x0, vI x1, vI x2]) md_316 e rfl hc (decide_eq_true hv) rfl h1 h
theorem RC_317 {Φ : Mem → Prop} {k pc : Nat} {i : Instr} {c : Cd} {L : LV} {st : List SV} {μ : Mem} {r1 r : Res} {x0 x1 x2 : Int} (e : ∀ rec : Rec, stp rec k i c L (vI x2 :: vI x1 :: vA x0 :: st) μ = callK rec 317 k c L (vI x2 :: vI x1 :: vA x0 :: st) μ) (hc : cats st ≤ 8) (hv : x0 ≠ 0 ∧ kd x0 = 12) (h1 : RunM 317 [vA x0, vI x1, vI x2] μ r1) (h : Rn Φ k c L (r1.1.toList ++ st) r1.2 r) : Rn Φ k ((pc, i) :: c) L (vI x2 :: vI x1 :: vA x0 :: st) μ r := CC (vs := [vA x0, vI x1, vI x2]) md_317 e rfl hc (decide_eq_true hv) rfl h1 h
theorem RC_318 {Φ : Mem → Prop} {k pc : Nat} {i : Instr} {c : Cd} {L : LV} {st : List SV} {μ : Mem} {r1 r : Res} {x0 x1 x2 : Int} (e : ∀ rec : Rec, stp rec k i c L (vI x2 :: vI x1 :: vA x0 :: st) μ = callK rec 318 k c L (vI x2 :: vI x1 :: vA x0 :: st) μ) (hc : cats st ≤ 8) (hv : x0 ≠ 0 ∧ kd x0 = 12) (h1 : RunM 318 [vA x0, vI x1, vI x2] μ r1) (h : Rn Φ k c L (r1.1.toList ++ st) r1.2 r) : Rn Φ k ((pc, i) :: c) L (vI x2 :: vI x1 :: vA x0 :: st) μ r := CC (vs := [vA x0, vI x1, vI x2]) md_318 e rfl hc (decide_eq_true hv) rfl h1 h
theorem RC_319 {Φ : Mem → Prop} {k pc : Nat} {i : Instr} {c : Cd} {L : LV} {st : List SV} {μ : Mem} {r1 r : Res} {x0 x1 x2 : Int} (e : ∀ rec : Rec, stp rec k i c L (vI x2 :: vI x1 :: vA x0 :: st) μ = callK rec 319 k c L (vI x2 :: vI x1 :: vA x0 :: st) μ) (hc : cats st ≤ 8) (hv : x0 ≠ 0 ∧ kd x0 = 12) (h1 : RunM 319 [vA x0, vI x1, vI x2] μ r1) (h : Rn Φ k c L (r1.1.toList ++ st) r1.2 r) : Rn Φ k ((pc, i) :: c) L (vI x2 :: vI x1 :: vA x0 :: st) μ r := CC (vs := [vA x0, vI x1, vI x2]) md_319 e rfl hc (decide_eq_true hv) rfl h1 h
theorem RC_320 {Φ : Mem → Prop} {k pc : Nat} {i : Instr} {c : Cd} {L : LV} {st : List SV} {μ : Mem} {r1 r : Res} {x0 x1 : Int} (e : ∀ rec : Rec, stp rec k i c L (vI x1 :: vA x0 :: st) μ = callK rec 320 k c L (vI x1 :: vA x0 :: st) μ) (hc : cats st ≤ 8) (hv : x0 ≠ 0 ∧ kd x0 = 12) (h1 : RunM 320 [vA x0, vI x1] μ r1) (h : Rn Φ k c L (r1.1.toList ++ st) r1.2 r) : Rn Φ k ((pc, i) :: c) L (vI x1 :: vA x0 :: st) μ r := CC (vs := [vA x0, vI x1]) md_320 e rfl hc (decide_eq_true hv) rfl h1 h
theorem RC_321 {Φ : Mem → Prop} {k pc : Nat} {i : Instr} {c : Cd} {L : LV} {st : List SV} {μ : Mem} {r1 r : Res} {x0 x1 : Int} (e : ∀ rec : Rec, stp rec k i c L (vI x1 :: vA x0 :: st) μ = callK rec 321 k c L (vI x1 :: vA x0 :: st) μ) (hc : cats st ≤ 8) (hv : x0 ≠ 0 ∧ kd x0 = 12) (h1 : RunM 321 [vA x0, vI x1] μ r1) (h : Rn Φ k c L (r1.1.toList ++ st) r1.2 r) : Rn Φ k ((pc, i) :: c) L (vI x1 :: vA x0 :: st) μ r := CC (vs := [vA x0, vI x1]) md_321 e rfl hc (decide_eq_true hv) rfl h1 h
theorem RC_322 {Φ : Mem → Prop} {k pc : Nat} {i : Instr} {c : Cd} {L : LV} {st : List SV} {μ : Mem} {r1 r : Res} {x0 x1 x2 : Int} (e : ∀ rec : Rec, stp rec k i c L (vI x2 :: vI x1 :: vA x0 :: st) μ = callK rec 322 k c L (vI x2 :: vI x1 :: vA x0 :: st) μ) (hc : cats st ≤ 8) (hv : x0 ≠ 0 ∧ kd x0 = 12) (h1 : RunM 322 [vA x0, vI x1, vI x2] μ r1) (h : Rn Φ k c L (r1.1.toList ++ st) r1.2 r) : Rn Φ k ((pc, i) :: c) L (vI x2 :: vI x1 :: vA x0 :: st) μ r := CC (vs := [vA x0, vI x1, vI x2]) md_322 e rfl hc (decide_eq_true hv) rfl h1 h
theorem RC_323 {Φ : Mem → Prop} {k pc : Nat} {i : Instr} {c : Cd} {L : LV} {st : List SV} {μ : Mem} {r1 r : Res} {x0 x1 x2 : Int} (e : ∀ rec : Rec, stp rec k i c L (vI x2 :: vI x1 :: vA x0 :: st) μ = callK rec 323 k c L (vI x2 :: vI x1 :: vA x0 :: st) μ) (hc : cats st ≤ 8) (hv : x0 ≠ 0 ∧ kd x0 = 12) (h1 : RunM 323 [vA x0, vI x1, vI x2] μ r1) (h : Rn Φ k c L (r1.1.toList ++ st) r1.2 r) : Rn Φ k ((pc, i) :: c) L (vI x2 :: vI x1 :: vA x0 :: st) μ r := CC (vs := [vA x0, vI x1, vI x2]) md_323 e rfl hc (decide_eq_true hv) rfl h1 h
theorem RC_324 {Φ : Mem → Prop} {k pc : Nat} {i : Instr} {c : Cd} {L : LV} {st : List SV} {μ : Mem} {r1 r : Res} {x0 x1 : Int} (e : ∀ rec : Rec, stp rec k i c L (vI x1 :: vA x0 :: st) μ = callK rec 324 k c L (vI x1 :: vA x0 :: st) μ) (hc : cats st ≤ 8) (hv : x0 ≠ 0 ∧ kd x0 = 12) (h1 : RunM 324 [vA x0, vI x1] μ r1) (h : Rn Φ k c L (r1.1.toList ++ st) r1.2 r) : Rn Φ k ((pc, i) :: c) L (vI x1 :: vA x0 :: st) μ r := CC (vs := [vA x0, vI x1]) md_324 e rfl hc (decide_eq_true hv) rfl h1 h
theorem RC_325 {Φ : Mem → Prop} {k pc : Nat} {i : Instr} {c : Cd} {L : LV} {st : List SV} {μ : Mem} {r1 r : Res} {x0 : Int} (e : ∀ rec : Rec, stp rec k i c L (vA x0 :: st) μ = callK rec 325 k c L (vA x0 :: st) μ) (hc : cats st ≤ 8) (hv : x0 ≠ 0 ∧ kd x0 = 12) (h1 : RunM 325 [vA x0] μ r1) (h : Rn Φ k c L (r1.1.toList ++ st) r1.2 r) : Rn Φ k ((pc, i) :: c) L (vA x0 :: st) μ r := CC (vs := [vA x0]) md_325 e rfl hc (decide_eq_true hv) rfl h1 h
theorem RC_326 {Φ : Mem → Prop} {k pc : Nat} {i : Instr} {c : Cd} {L : LV} {st : List SV} {μ : Mem} {r1 r : Res} {x0 x1 : Int} (e : ∀ rec : Rec, stp rec k i c L (vI x1 :: vA x0 :: st) μ = callK rec 326 k c L (vI x1 :: vA x0 :: st) μ) (hc : cats st ≤ 8) (hv : x0 ≠ 0 ∧ kd x0 = 12) (h1 : RunM 326 [vA x0, vI x1] μ r1) (h : Rn Φ k c L (r1.1.toList ++ st) r1.2 r) : Rn Φ k ((pc, i) :: c) L (vI x1 :: vA x0 :: st) μ r := CC (vs := [vA x0, vI x1]) md_326 e rfl hc (decide_eq_true hv) rfl h1 h
theorem RC_327 {Φ : Mem → Prop} {k pc : Nat} {i : Instr} {c : Cd} {L : LV} {st : List SV} {μ : Mem} {r1 r : Res} {x0 x1 x2 : Int} (e : ∀ rec : Rec, stp rec k i c L (vI x2 :: vI x1 :: vA x0 :: st) μ = callK rec 327 k c L (vI x2 :: vI x1 :: vA x0 :: st) μ) (hc : cats st ≤ 8) (hv : x0 ≠ 0 ∧ kd x0 = 12) (h1 : RunM 327 [vA x0, vI x1, vI x2] μ r1) (h : Rn Φ k c L (r1.1.toList ++ st) r1.2 r) : Rn Φ k ((pc, i) :: c) L (vI x2 :: vI x1 :: vA x0 :: st) μ r := CC (vs := [vA x0, vI x1, vI x2]) md_327 e rfl hc (decide_eq_true hv) rfl h1 h
theorem RC_328 {Φ : Mem → Prop} {k pc : Nat} {i : Instr} {c : Cd} {L : LV} {st : List SV} {μ : Mem} {r1 r : Res} {x0 x1 : Int} (e : ∀ rec : Rec, stp rec k i c L (vI x1 :: vA x0 :: st) μ = callK rec 328 k c L (vI x1 :: vA x0 :: st) μ) (hc : cats st ≤ 8) (hv : x0 ≠ 0 ∧ kd x0 = 12) (h1 : RunM 328 [vA x0, vI x1] μ r1) (h : Rn Φ k c L (r1.1.toList ++ st) r1.2 r) : Rn Φ k ((pc, i) :: c) L (vI x1 :: vA x0 :: st) μ r := CC (vs := [vA x0, vI x1]) md_328 e rfl hc (decide_eq_true hv) rfl h1 h
theorem RC_329 {Φ : Mem → Prop} {k pc : Nat} {i : Instr} {c : Cd} {L : LV} {st : List SV} {μ : Mem} {r1 r : Res} {x0 : Int} (e : ∀ rec : Rec, stp rec k i c L (vA x0 :: st) μ = callK rec 329 k c L (vA x0 :: st) μ) (hc : cats st ≤ 8) (hv : x0 ≠ 0 ∧ kd x0 = 12) (h1 : RunM 329 [vA x0] μ r1) (h : Rn Φ k c L (r1.1.toList ++ st) r1.2 r) : Rn Φ k ((pc, i) :: c) L (vA x0 :: st) μ r := CC (vs := [vA x0]) md_329 e rfl hc (decide_eq_true hv) rfl h1 h
theorem RC_330 {Φ : Mem → Prop} {k pc : Nat} {i : Instr} {c : Cd} {L : LV} {st : List SV} {μ : Mem} {r1 r : Res} {x0 x1 : Int} (e : ∀ rec : Rec, stp rec k i c L (vI x1 :: vA x0 :: st) μ = callK rec 330 k c L (vI x1 :: vA x0 :: st) μ) (hc : cats st ≤ 8) (hv : x0 ≠ 0 ∧ kd x0 = 12) (h1 : RunM 330 [vA x0, vI x1] μ r1) (h : Rn Φ k c L (r1.1.toList ++ st) r1.2 r) : Rn Φ k ((pc, i) :: c) L (vI x1 :: vA x0 :: st) μ r := CC (vs := [vA x0, vI x1]) md_330 e rfl hc (decide_eq_true hv) rfl h1 h
theorem RC_331 {Φ : Mem → Prop} {k pc : Nat} {i : Instr} {c : Cd} {L : LV} {st : List SV} {μ : Mem} {r1 r : Res} {x0 x1 : Int} (e : ∀ rec : Rec, stp rec k i c L (vI x1 :: vA x0 :: st) μ = callK rec 331 k c L (vI x1 :: vA x0 :: st) μ) (hc : cats st ≤ 8) (hv : x0 ≠ 0 ∧ kd x0 = 12) (h1 : RunM 331 [vA x0, vI x1] μ r1) (h : Rn Φ k c L (r1.1.toList ++ st) r1.2 r) : Rn Φ k ((pc, i) :: c) L (vI x1 :: vA x0 :: st) μ r := CC (vs := [vA x0, vI x1]) md_331 e rfl hc (decide_eq_true hv) rfl h1 h
theorem RC_332 {Φ : Mem → Prop} {k pc : Nat} {i : Instr} {c : Cd} {L : LV} {st : List SV} {μ : Mem} {r1 r : Res} {x0 : Int} (e : ∀ rec : Rec, stp rec k i c L (vA x0 :: st) μ = callK rec 332 k c L (vA x0 :: st) μ) (hc : cats st ≤ 8) (hv : x0 ≠ 0 ∧ kd x0 = 12) (h1 : RunM 332 [vA x0] μ r1) (h : Rn Φ k c L (r1.1.toList ++ st) r1.2 r) : Rn Φ k ((pc, i) :: c) L (vA x0 :: st) μ r := CC (vs := [vA x0]) md_332 e rfl hc (decide_eq_true hv) rfl h1 h
theorem RC_333 {Φ : Mem → Prop} {k pc : Nat} {i : Instr} {c : Cd} {L : LV} {st : List SV} {μ : Mem} {r1 r : Res} {x0 x1 : Int} (e : ∀ rec : Rec, stp rec k i c L (vI x1 :: vA x0 :: st) μ = callK rec 333 k c L (vI x1 :: vA x0 :: st) μ) (hc : cats st ≤ 8) (hv : x0 ≠ 0 ∧ kd x0 = 12) (h1 : RunM 333 [vA x0, vI x1] μ r1) (h : Rn Φ k c L (r1.1.toList ++ st) r1.2 r) : Rn Φ k ((pc, i) :: c) L (vI x1 :: vA x0 :: st) μ r := CC (vs := [vA x0, vI x1]) md_333 e rfl hc (decide_eq_true hv) rfl h1 h
theorem RC_334 {Φ : Mem → Prop} {k pc : Nat} {i : Instr} {c : Cd} {L : LV} {st : List SV} {μ : Mem} {r1 r : Res} {x0 x1 : Int} (e : ∀ rec : Rec, stp rec k i c L (vI x1 :: vA x0 :: st) μ = callK rec 334 k c L (vI x1 :: vA x0 :: st) μ) (hc : cats st ≤ 8) (hv : x0 ≠ 0 ∧ kd x0 = 12) (h1 : RunM 334 [vA x0, vI x1] μ r1) (h : Rn Φ k c L (r1.1.toList ++ st) r1.2 r) : Rn Φ k ((pc, i) :: c) L (vI x1 :: vA x0 :: st) μ r := CC (vs := [vA x0, vI x1]) md_334 e rfl hc (decide_eq_true hv) rfl h1 h
theorem RC_335 {Φ : Mem → Prop} {k pc : Nat} {i : Instr} {c : Cd} {L : LV} {st : List SV} {μ : Mem} {r1 r : Res} {x0 x1 : Int} (e : ∀ rec : Rec, stp rec k i c L (vI x1 :: vA x0 :: st) μ = callK rec 335 k c L (vI x1 :: vA x0 :: st) μ) (hc : cats st ≤ 8) (hv : x0 ≠ 0 ∧ kd x0 = 12) (h1 : RunM 335 [vA x0, vI x1] μ r1) (h : Rn Φ k c L (r1.1.toList ++ st) r1.2 r) : Rn Φ k ((pc, i) :: c) L (vI x1 :: vA x0 :: st) μ r := CC (vs := [vA x0, vI x1]) md_335 e rfl hc (decide_eq_true hv) rfl h1 h
theorem RC_336 {Φ : Mem → Prop} {k pc : Nat} {i : Instr} {c : Cd} {L : LV} {st : List SV} {μ : Mem} {r1 r : Res} {x0 x1 : Int} (e : ∀ rec : Rec, stp rec k i c L (vI x1 :: vA x0 :: st) μ = callK rec 336 k c L (vI x1 :: vA x0 :: st) μ) (hc : cats st ≤ 8) (hv : x0 ≠ 0 ∧ kd x0 = 12) (h1 : RunM 336 [vA x0, vI x1] μ r1) (h : Rn Φ k c L (r1.1.toList ++ st) r1.2 r) : Rn Φ k ((pc, i) :: c) L (vI x1 :: vA x0 :: st) μ r := CC (vs := [vA x0, vI x1]) md_336 e rfl hc (decide_eq_true hv) rfl h1 h
theorem RC_337 {Φ : Mem → Prop} {k pc : Nat} {i : Instr} {c : Cd} {L : LV} {st : List SV} {μ : Mem} {r1 r : Res} {x0 x1 : Int} (e : ∀ rec : Rec, stp rec k i c L (vI x1 :: vA x0 :: st) μ = callK rec 337 k c L (vI x1 :: vA x0 :: st) μ) (hc : cats st ≤ 8) (hv : x0 ≠ 0 ∧ kd x0 = 12) (h1 : RunM 337 [vA x0, vI x1] μ r1) (h : Rn Φ k c L (r1.1.toList ++ st) r1.2 r) : Rn Φ k ((pc, i) :: c) L (vI x1 :: vA x0 :: st) μ r := CC (vs := [vA x0, vI x1]) md_337 e rfl hc (decide_eq_true hv) rfl h1 h
theorem RC_338 {Φ : Mem → Prop} {k pc : Nat} {i : Instr} {c : Cd} {L : LV} {st : List SV} {μ : Mem} {r1 r : Res} {x0 x1 : Int} (e : ∀ rec : Rec, stp rec k i c L (vI x1 :: vA x0 :: st) μ = callK rec 338 k c L (vI x1 :: vA x0 :: st) μ) (hc : cats st ≤ 8) (hv : x0 ≠ 0 ∧ kd x0 = 12) (h1 : RunM 338 [vA x0, vI x1] μ r1) (h : Rn Φ k c L (r1.1.toList ++ st) r1.2 r) : Rn Φ k ((pc, i) :: c) L (vI x1 :: vA x0 :: st) μ r := CC (vs := [vA x0, vI x1]) md_338 e rfl hc (decide_eq_true hv) rfl h1 h
theorem RC_339 {Φ : Mem → Prop} {k pc : Nat} {i : Instr} {c : Cd} {L : LV} {st : List SV} {μ : Mem} {r1 r : Res} {x0 x1 : Int} (e : ∀ rec : Rec, stp rec k i c L (vI x1 :: vA x0 :: st) μ = callK rec 339 k c L (vI x1 :: vA x0 :: st) μ) (hc : cats st ≤ 8) (hv : x0 ≠ 0 ∧ kd x0 = 12) (h1 : RunM 339 [vA x0, vI x1] μ r1) (h : Rn Φ k c L (r1.1.toList ++ st) r1.2 r) : Rn Φ k ((pc, i) :: c) L (vI x1 :: vA x0 :: st) μ r := CC (vs := [vA x0, vI x1]) md_339 e rfl hc (decide_eq_true hv) rfl h1 h
theorem RC_340 {Φ : Mem → Prop} {k pc : Nat} {i : Instr} {c : Cd} {L : LV} {st : List SV} {μ : Mem} {r1 r : Res} {x0 x1 x2 : Int} (e : ∀ rec : Rec, stp rec k i c L (vI x2 :: vI x1 :: vA x0 :: st) μ = callK rec 340 k c L (vI x2 :: vI x1 :: vA x0 :: st) μ) (hc : cats st ≤ 8) (hv : x0 ≠ 0 ∧ kd x0 = 12) (h1 : RunM 340 [vA x0, vI x1, vI x2] μ r1) (h : Rn Φ k c L (r1.1.toList ++ st) r1.2 r) : Rn Φ k ((pc, i) :: c) L (vI x2 :: vI x1 :: vA x0 :: st) μ r := CC (vs := [vA x0, vI x1, vI x2]) md_340 e rfl hc (decide_eq_true hv) rfl h1 h
theorem RC_341 {Φ : Mem → Prop} {k pc : Nat} {i : Instr} {c : Cd} {L : LV} {st : List SV} {μ : Mem} {r1 r : Res} {x0 x1 : Int} (e : ∀ rec : Rec, stp rec k i c L (vI x1 :: vA x0 :: st) μ = callK rec 341 k c L (vI x1 :: vA x0 :: st) μ) (hc : cats st ≤ 8) (hv : x0 ≠ 0 ∧ kd x0 = 12) (h1 : RunM 341 [vA x0, vI x1] μ r1) (h : Rn Φ k c L (r1.1.toList ++ st) r1.2 r) : Rn Φ k ((pc, i) :: c) L (vI x1 :: vA x0 :: st) μ r := CC (vs := [vA x0, vI x1]) md_341 e rfl hc (decide_eq_true hv) rfl h1 h
theorem RC_342 {Φ : Mem → Prop} {k pc : Nat} {i : Instr} {c : Cd} {L : LV} {st : List SV} {μ : Mem} {r1 r : Res} {x0 x1 : Int} (e : ∀ rec : Rec, stp rec k i c L (vI x1 :: vA x0 :: st) μ = callK rec 342 k c L (vI x1 :: vA x0 :: st) μ) (hc : cats st ≤ 8) (hv : x0 ≠ 0 ∧ kd x0 = 12) (h1 : RunM 342 [vA x0, vI x1] μ r1) (h : Rn Φ k c L (r1.1.toList ++ st) r1.2 r) : Rn Φ k ((pc, i) :: c) L (vI x1 :: vA x0 :: st) μ r := CC (vs := [vA x0, vI x1]) md_342 e rfl hc (decide_eq_true hv) rfl h1 h
theorem RC_343 {Φ : Mem → Prop} {k pc : Nat} {i : Instr} {c : Cd} {L : LV} {st : List SV} {μ : Mem} {r1 r : Res} {x0 x1 : Int} (e : ∀ rec : Rec, stp rec k i c L (vI x1 :: vA x0 :: st) μ = callK rec 343 k c L (vI x1 :: vA x0 :: st) μ) (hc : cats st ≤ 8) (h1 : RunM 343 [vA x0, vI x1] μ r1) (h : Rn Φ k c L (r1.1.toList ++ st) r1.2 r) : Rn Φ k ((pc, i) :: c) L (vI x1 :: vA x0 :: st) μ r := CC (vs := [vA x0, vI x1]) md_343 e rfl hc rfl rfl h1 h
theorem RC_344 {Φ : Mem → Prop} {k pc : Nat} {i : Instr} {c : Cd} {L : LV} {st : List SV} {μ : Mem} {r1 r : Res} {x0 : Int} (e : ∀ rec : Rec, stp rec k i c L (vA x0 :: st) μ = callK rec 344 k c L (vA x0 :: st) μ) (hc : cats st ≤ 8) (hv : x0 ≠ 0 ∧ kd x0 = 13) (h1 : RunM 344 [vA x0] μ r1) (h : Rn Φ k c L (r1.1.toList ++ st) r1.2 r) : Rn Φ k ((pc, i) :: c) L (vA x0 :: st) μ r := CC (vs := [vA x0]) md_344 e rfl hc (decide_eq_true hv) rfl h1 h
theorem RC_345 {Φ : Mem → Prop} {k pc : Nat} {i : Instr} {c : Cd} {L : LV} {st : List SV} {μ : Mem} {r1 r : Res} {x0 x1 : Int} (e : ∀ rec : Rec, stp rec k i c L (vI x1 :: vA x0 :: st) μ = callK rec 345 k c L (vI x1 :: vA x0 :: st) μ) (hc : cats st ≤ 8) (hv : x0 ≠ 0 ∧ kd x0 = 13) (h1 : RunM 345 [vA x0, vI x1] μ r1) (h : Rn Φ k c L (r1.1.toList ++ st) r1.2 r) : Rn Φ k ((pc, i) :: c) L (vI x1 :: vA x0 :: st) μ r := CC (vs := [vA x0, vI x1]) md_345 e rfl hc (decide_eq_true hv) rfl h1 h
theorem RC_346 {Φ : Mem → Prop} {k pc : Nat} {i : Instr} {c : Cd} {L : LV} {st : List SV} {μ : Mem} {r1 r : Res} {x0 x1 : Int} (e : ∀ rec : Rec, stp rec k i c L (vA x1 :: vA x0 :: st) μ = callK rec 346 k c L (vA x1 :: vA x0 :: st) μ) (hc : cats st ≤ 8) (hv : x0 ≠ 0 ∧ kd x0 = 13) (h1 : RunM 346 [vA x0, vA x1] μ r1) (h : Rn Φ k c L (r1.1.toList ++ st) r1.2 r) : Rn Φ k ((pc, i) :: c) L (vA x1 :: vA x0 :: st) μ r := CC (vs := [vA x0, vA x1]) md_346 e rfl hc (decide_eq_true hv) rfl h1 h
theorem RC_347 {Φ : Mem → Prop} {k pc : Nat} {i : Instr} {c : Cd} {L : LV} {st : List SV} {μ : Mem} {r1 r : Res} {x0 x1 : Int} (e : ∀ rec : Rec, stp rec k i c L (vA x1 :: vA x0 :: st) μ = callK rec 347 k c L (vA x1 :: vA x0 :: st) μ) (hc : cats st ≤ 8) (hv : x0 ≠ 0 ∧ kd x0 = 13) (h1 : RunM 347 [vA x0, vA x1] μ r1) (h : Rn Φ k c L (r1.1.toList ++ st) r1.2 r) : Rn Φ k ((pc, i) :: c) L (vA x1 :: vA x0 :: st) μ r := CC (vs := [vA x0, vA x1]) md_347 e rfl hc (decide_eq_true hv) rfl h1 h
theorem RC_348 {Φ : Mem → Prop} {k pc : Nat} {i : Instr} {c : Cd} {L : LV} {st : List SV} {μ : Mem} {r1 r : Res} {x0 : Int} (e : ∀ rec : Rec, stp rec k i c L (vA x0 :: st) μ = callK rec 348 k c L (vA x0 :: st) μ) (hc : cats st ≤ 8) (hv : x0 ≠ 0 ∧ kd x0 = 14) (h1 : RunM 348 [vA x0] μ r1) (h : Rn Φ k c L (r1.1.toList ++ st) r1.2 r) : Rn Φ k ((pc, i) :: c) L (vA x0 :: st) μ r := CC (vs := [vA x0]) md_348 e rfl hc (decide_eq_true hv) rfl h1 h
theorem RC_349 {Φ : Mem → Prop} {k pc : Nat} {i : Instr} {c : Cd} {L : LV} {st : List SV} {μ : Mem} {r1 r : Res} {x0 : Int} (e : ∀ rec : Rec, stp rec k i c L (vA x0 :: st) μ = callK rec 349 k c L (vA x0 :: st) μ) (hc : cats st ≤ 8) (hv : x0 ≠ 0 ∧ kd x0 = 14) (h1 : RunM 349 [vA x0] μ r1) (h : Rn Φ k c L (r1.1.toList ++ st) r1.2 r) : Rn Φ k ((pc, i) :: c) L (vA x0 :: st) μ r := CC (vs := [vA x0]) md_349 e rfl hc (decide_eq_true hv) rfl h1 h
theorem RC_350 {Φ : Mem → Prop} {k pc : Nat} {i : Instr} {c : Cd} {L : LV} {st : List SV} {μ : Mem} {r1 r : Res} {x0 x1 : Int} (e : ∀ rec : Rec, stp rec k i c L (vI x1 :: vA x0 :: st) μ = callK rec 350 k c L (vI x1 :: vA x0 :: st) μ) (hc : cats st ≤ 8) (hv : x0 ≠ 0 ∧ kd x0 = 13) (h1 : RunM 350 [vA x0, vI x1] μ r1) (h : Rn Φ k c L (r1.1.toList ++ st) r1.2 r) : Rn Φ k ((pc, i) :: c) L (vI x1 :: vA x0 :: st) μ r := CC (vs := [vA x0, vI x1]) md_350 e rfl hc (decide_eq_true hv) rfl h1 h
theorem RC_351 {Φ : Mem → Prop} {k pc : Nat} {i : Instr} {c : Cd} {L : LV} {st : List SV} {μ : Mem} {r1 r : Res} {x0 x1 : Int} (e : ∀ rec : Rec, stp rec k i c L (vI x1 :: vA x0 :: st) μ = callK rec 351 k c L (vI x1 :: vA x0 :: st) μ) (hc : cats st ≤ 8) (hv : x0 ≠ 0 ∧ kd x0 = 13) (h1 : RunM 351 [vA x0, vI x1] μ r1) (h : Rn Φ k c L (r1.1.toList ++ st) r1.2 r) : Rn Φ k ((pc, i) :: c) L (vI x1 :: vA x0 :: st) μ r := CC (vs := [vA x0, vI x1]) md_351 e rfl hc (decide_eq_true hv) rfl h1 h
theorem RC_352 {Φ : Mem → Prop} {k pc : Nat} {i : Instr} {c : Cd} {L : LV} {st : List SV} {μ : Mem} {r1 r : Res} {x0 x1 x2 : Int} (e : ∀ rec : Rec, stp rec k i c L (vI x2 :: vI x1 :: vI x0 :: st) μ = callK rec 352 k c L (vI x2 :: vI x1 :: vI x0 :: st) μ) (hc : cats st ≤ 8) (h1 : RunM 352 [vI x0, vI x1, vI x2] μ r1) (h : Rn Φ k c L (r1.1.toList ++ st) r1.2 r) : Rn Φ k ((pc, i) :: c) L (vI x2 :: vI x1 :: vI x0 :: st) μ r := CC (vs := [vI x0, vI x1, vI x2]) md_352 e rfl hc rfl rfl h1 h
theorem RC_353 {Φ : Mem → Prop} {k pc : Nat} {i : Instr} {c : Cd} {L : LV} {st : List SV} {μ : Mem} {r1 r : Res} {x0 x1 : Int} (e : ∀ rec : Rec, stp rec k i c L (vI x1 :: vA x0 :: st) μ = callK rec 353 k c L (vI x1 :: vA x0 :: st) μ) (hc : cats st ≤ 8) (h1 : RunM 353 [vA x0, vI x1] μ r1) (h : Rn Φ k c L (r1.1.toList ++ st) r1.2 r) : Rn Φ k ((pc, i) :: c) L (vI x1 :: vA x0 :: st) μ r := CC (vs := [vA x0, vI x1]) md_353 e rfl hc rfl rfl h1 h
theorem RC_354 {Φ : Mem → Prop} {k pc : Nat} {i : Instr} {c : Cd} {L : LV} {st : List SV} {μ : Mem} {r1 r : Res} {x0 x1 x2 : Int} (e : ∀ rec : Rec, stp rec k i c L (vA x2 :: vI x1 :: vA x0 :: st) μ = callK rec 354 k c L (vA x2 :: vI x1 :: vA x0 :: st) μ) (hc : cats st ≤ 8) (hv : x0 ≠ 0 ∧ kd x0 = 13) (h1 : RunM 354 [vA x0, vI x1, vA x2] μ r1) (h : Rn Φ k c L (r1.1.toList ++ st) r1.2 r) : Rn Φ k ((pc, i) :: c) L (vA x2 :: vI x1 :: vA x0 :: st) μ r := CC (vs := [vA x0, vI x1, vA x2]) md_354 e rfl hc (decide_eq_true hv) rfl h1 h
theorem RC_355 {Φ : Mem → Prop} {k pc : Nat} {i : Instr} {c : Cd} {L : LV} {st : List SV} {μ : Mem} {r1 r : Res} {x0 x1 : Int} (e : ∀ rec : Rec, stp rec k i c L (vA x1 :: vA x0 :: st) μ = callK rec 355 k c L (vA x1 :: vA x0 :: st) μ) (hc : cats st ≤ 8) (hv : x0 ≠ 0 ∧ kd x0 = 13) (h1 : RunM 355 [vA x0, vA x1] μ r1) (h : Rn Φ k c L (r1.1.toList ++ st) r1.2 r) : Rn Φ k ((pc, i) :: c) L (vA x1 :: vA x0 :: st) μ r := CC (vs := [vA x0, vA x1]) md_355 e rfl hc (decide_eq_true hv) rfl h1 h
theorem RC_356 {Φ : Mem → Prop} {k pc : Nat} {i : Instr} {c : Cd} {L : LV} {st : List SV} {μ : Mem} {r1 r : Res} {x0 : Int} (e : ∀ rec : Rec, stp rec k i c L (vA x0 :: st) μ = callK rec 356 k c L (vA x0 :: st) μ) (hc : cats st ≤ 8) (hv : x0 ≠ 0 ∧ kd x0 = 13) (h1 : RunM 356 [vA x0] μ r1) (h : Rn Φ k c L (r1.1.toList ++ st) r1.2 r) : Rn Φ k ((pc, i) :: c) L (vA x0 :: st) μ r := CC (vs := [vA x0]) md_356 e rfl hc (decide_eq_true hv) rfl h1 h
theorem RC_357 {Φ : Mem → Prop} {k pc : Nat} {i : Instr} {c : Cd} {L : LV} {st : List SV} {μ : Mem} {r1 r : Res} {x0 x1 x2 x3 : Int} (e : ∀ rec : Rec, stp rec k i c L (vI x3 :: vI x2 :: vA x1 :: vA x0 :: st) μ = callK rec 357 k c L (vI x3 :: vI x2 :: vA x1 :: vA x0 :: st) μ) (hc : cats st ≤ 8) (hv : x0 ≠ 0 ∧ kd x0 = 14) (h1 : RunM 357 [vA x0, vA x1, vI x2, vI x3] μ r1) (h : Rn Φ k c L (r1.1.toList ++ st) r1.2 r) : Rn Φ k ((pc, i) :: c) L (vI x3 :: vI x2 :: vA x1 :: vA x0 :: st) μ r := CC (vs := [vA x0, vA x1, vI x2, vI x3]) md_357 e rfl hc (decide_eq_true hv) rfl h1 h
theorem RC_358 {Φ : Mem → Prop} {k pc : Nat} {i : Instr} {c : Cd} {L : LV} {st : List SV} {μ : Mem} {r1 r : Res} {x0 : Int} (e : ∀ rec : Rec, stp rec k i c L (vA x0 :: st) μ = callK rec 358 k c L (vA x0 :: st) μ) (hc : cats st ≤ 8) (hv : x0 ≠ 0 ∧ kd x0 = 13) (h1 : RunM 358 [vA x0] μ r1) (h : Rn Φ k c L (r1.1.toList ++ st) r1.2 r) : Rn Φ k ((pc, i) :: c) L (vA x0 :: st) μ r := CC (vs := [vA x0]) md_358 e rfl hc (decide_eq_true hv) rfl h1 h
theorem RC_359 {Φ : Mem → Prop} {k pc : Nat} {i : Instr} {c : Cd} {L : LV} {st : List SV} {μ : Mem} {r1 r : Res} {x0 x1 : Int} (e : ∀ rec : Rec, stp rec k i c L (vA x1 :: vA x0 :: st) μ = callK rec 359 k c L (vA x1 :: vA x0 :: st) μ) (hc : cats st ≤ 8) (hv : x0 ≠ 0 ∧ kd x0 = 14) (h1 : RunM 359 [vA x0, vA x1] μ r1) (h : Rn Φ k c L (r1.1.toList ++ st) r1.2 r) : Rn Φ k ((pc, i) :: c) L (vA x1 :: vA x0 :: st) μ r := CC (vs := [vA x0, vA x1]) md_359 e rfl hc (decide_eq_true hv) rfl h1 h
theorem RC_360 {Φ : Mem → Prop} {k pc : Nat} {i : Instr} {c : Cd} {L : LV} {st : List SV} {μ : Mem} {r1 r : Res} {x0 x1 x2 : Int} (e : ∀ rec : Rec, stp rec k i c L (vA x2 :: vA x1 :: vA x0 :: st) μ = callK rec 360 k c L (vA x2 :: vA x1 :: vA x0 :: st) μ) (hc : cats st ≤ 8) (hv : x0 ≠ 0 ∧ kd x0 = 14) (h1 : RunM 360 [vA x0, vA x1, vA x2] μ r1) (h : Rn Φ k c L (r1.1.toList ++ st) r1.2 r) : Rn Φ k ((pc, i) :: c) L (vA x2 :: vA x1 :: vA x0 :: st) μ r := CC (vs := [vA x0, vA x1, vA x2]) md_360 e rfl hc (decide_eq_true hv) rfl h1 h
theorem RC_361 {Φ : Mem → Prop} {k pc : Nat} {i : Instr} {c : Cd} {L : LV} {st : List SV} {μ : Mem} {r1 r : Res} {x0 : Int} (e : ∀ rec : Rec, stp rec k i c L (vA x0 :: st) μ = callK rec 361 k c L (vA x0 :: st) μ) (hc : cats st ≤ 8) (hv : x0 ≠ 0 ∧ kd x0 = 13) (h1 : RunM 361 [vA x0] μ r1) (h : Rn Φ k c L (r1.1.toList ++ st) r1.2 r) : Rn Φ k ((pc, i) :: c) L (vA x0 :: st) μ r := CC (vs := [vA x0]) md_361 e rfl hc (decide_eq_true hv) rfl h1 h
theorem RC_362 {Φ : Mem → Prop} {k pc : Nat} {i : Instr} {c : Cd} {L : LV} {st : List SV} {μ : Mem} {r1 r : Res} {x0 : Int} (e : ∀ rec : Rec, stp rec k i c L (vA x0 :: st) μ = callK rec 362 k c L (vA x0 :: st) μ) (hc : cats st ≤ 8) (hv : x0 ≠ 0 ∧ kd x0 = 13) (h1 : RunM 362 [vA x0] μ r1) (h : Rn Φ k c L (r1.1.toList ++ st) r1.2 r) : Rn Φ k ((pc, i) :: c) L (vA x0 :: st) μ r := CC (vs := [vA x0]) md_362 e rfl hc (decide_eq_true hv) rfl h1 h
theorem RC_363 {Φ : Mem → Prop} {k pc : Nat} {i : Instr} {c : Cd} {L : LV} {st : List SV} {μ : Mem} {r1 r : Res} {x0 : Int} (e : ∀ rec : Rec, stp rec k i c L (vA x0 :: st) μ = callK rec 363 k c L (vA x0 :: st) μ) (hc : cats st ≤ 8) (hv : x0 ≠ 0 ∧ kd x0 = 13) (h1 : RunM 363 [vA x0] μ r1) (h : Rn Φ k c L (r1.1.toList ++ st) r1.2 r) : Rn Φ k ((pc, i) :: c) L (vA x0 :: st) μ r := CC (vs := [vA x0]) md_363 e rfl hc (decide_eq_true hv) rfl h1 h
theorem RC_364 {Φ : Mem → Prop} {k pc : Nat} {i : Instr} {c : Cd} {L : LV} {st : List SV} {μ : Mem} {r1 r : Res} {x0 x1 x2 : Int} (e : ∀ rec : Rec, stp rec k i c L (vI x2 :: vI x1 :: vA x0 :: st) μ = callK rec 364 k c L (vI x2 :: vI x1 :: vA x0 :: st) μ) (hc : cats st ≤ 8) (h1 : RunM 364 [vA x0, vI x1, vI x2] μ r1) (h : Rn Φ k c L (r1.1.toList ++ st) r1.2 r) : Rn Φ k ((pc, i) :: c) L (vI x2 :: vI x1 :: vA x0 :: st) μ r := CC (vs := [vA x0, vI x1, vI x2]) md_364 e rfl hc rfl rfl h1 h
theorem RC_365 {Φ : Mem → Prop} {k pc : Nat} {i : Instr} {c : Cd} {L : LV} {st : List SV} {μ : Mem} {r1 r : Res} {x0 x1 x2 : Int} (e : ∀ rec : Rec, stp rec k i c L (vI x2 :: vI x1 :: vA x0 :: st) μ = callK rec 365 k c L (vI x2 :: vI x1 :: vA x0 :: st) μ) (hc : cats st ≤ 8) (h1 : RunM 365 [vA x0, vI x1, vI x2] μ r1) (h : Rn Φ k c L (r1.1.toList ++ st) r1.2 r) : Rn Φ k ((pc, i) :: c) L (vI x2 :: vI x1 :: vA x0 :: st) μ r := CC (vs := [vA x0, vI x1, vI x2]) md_365 e rfl hc rfl rfl h1 h
theorem RC_366 {Φ : Mem → Prop} {k pc : Nat} {i : Instr} {c : Cd} {L : LV} {st : List SV} {μ : Mem} {r1 r : Res} {x0 : Int} (e : ∀ rec : Rec, stp rec k i c L (vA x0 :: st) μ = callK rec 366 k c L (vA x0 :: st) μ) (hc : cats st ≤ 8) (hv : x0 ≠ 0 ∧ kd x0 = 14) (h1 : RunM 366 [vA x0] μ r1) (h : Rn Φ k c L (r1.1.toList ++ st) r1.2 r) : Rn Φ k ((pc, i) :: c) L (vA x0 :: st) μ r := CC (vs := [vA x0]) md_366 e rfl hc (decide_eq_true hv) rfl h1 h
theorem RC_367 {Φ : Mem → Prop} {k pc : Nat} {i : Instr} {c : Cd} {L : LV} {st : List SV} {μ : Mem} {r1 r : Res} {x0 : Int} (e : ∀ rec : Rec, stp rec k i c L (vA x0 :: st) μ = callK rec 367 k c L (vA x0 :: st) μ) (hc : cats st ≤ 8) (hv : x0 ≠ 0 ∧ kd x0 = 14) (h1 : RunM 367 [vA x0] μ r1) (h : Rn Φ k c L (r1.1.toList ++ st) r1.2 r) : Rn Φ k ((pc, i) :: c) L (vA x0 :: st) μ r := CC (vs := [vA x0]) md_367 e rfl hc (decide_eq_true hv) rfl h1 h
theorem RC_368 {Φ : Mem → Prop} {k pc : Nat} {i : Instr} {c : Cd} {L : LV} {st : List SV} {μ : Mem} {r1 r : Res} {x0 : Int} (e : ∀ rec : Rec, stp rec k i c L (vA x0 :: st) μ = callK rec 368 k c L (vA x0 :: st) μ) (hc : cats st ≤ 8) (h1 : RunM 368 [vA x0] μ r1) (h : Rn Φ k c L (r1.1.toList ++ st) r1.2 r) : Rn Φ k ((pc, i) :: c) L (vA x0 :: st) μ r := CC (vs := [vA x0]) md_368 e rfl hc rfl rfl h1 h
theorem RC_369 {Φ : Mem → Prop} {k pc : Nat} {i : Instr} {c : Cd} {L : LV} {st : List SV} {μ : Mem} {r1 r : Res} {x0 x1 x2 x3 x4 : Int} (e : ∀ rec : Rec, stp rec k i c L (vI x4 :: vI x3 :: vA x2 :: vI x1 :: vA x0 :: st) μ = callK rec 369 k c L (vI x4 :: vI x3 :: vA x2 :: vI x1 :: vA x0 :: st) μ) (hc : cats st ≤ 8) (h1 : RunM 369 [vA x0, vI x1, vA x2, vI x3, vI x4] μ r1) (h : Rn Φ k c L (r1.1.toList ++ st) r1.2 r) : Rn Φ k ((pc, i) :: c) L (vI x4 :: vI x3 :: vA x2 :: vI x1 :: vA x0 :: st) μ r := CC (vs := [vA x0, vI x1, vA x2, vI x3, vI x4]) md_369 e rfl hc rfl rfl h1 h
theorem RC_370 {Φ : Mem → Prop} {k pc : Nat} {i : Instr} {c : Cd} {L : LV} {st : List SV} {μ : Mem} {r1 r : Res} {x0 x1 : Int} (e : ∀ rec : Rec, stp rec k i c L (vI x1 :: vI x0 :: st) μ = callK rec 370 k c L (vI x1 :: vI x0 :: st) μ) (hc : cats st ≤ 8) (h1 : RunM 370 [vI x0, vI x1] μ r1) (h : Rn Φ k c L (r1.1.toList ++ st) r1.2 r) : Rn Φ k ((pc, i) :: c) L (vI x1 :: vI x0 :: st) μ r := CC (vs := [vI x0, vI x1]) md_370 e rfl hc rfl rfl h1 h
