/-! the law's cases, one after another -/
section
variable {p : Program} {l : Launch} {e : Env} {s : State} {m : MethodId} {b : Nat} {below : List Frame} {meth : Method} {c : Code} {H : Heap} {cells slots L tw B1 i : Nat} {ls : Array Slot} {xs : Nat → Int32} {D : UD} {x mU : UH} {T : TS}
theorem RR.kx (h : RR T x mU) : uKd x 0 = 11 + 1 := h.2.1.1.1 0 12 rfl
theorem RR.km (h : RR T x mU) : uKd mU 0 = 12 + 1 := h.2.2.1.1 0 13 rfl
theorem lh_fin {x2 : UH} {H1 H2 : Heap} (h1 : uHold D s.heap.size x2 H1) (hz : H1.size ≤ H2.size) : uSz x2 ≤ H2.size - s.heap.size := by
  have := h1.1
  omega
theorem lcs_0 (C : LC p s m meth c b L xs D tw) (hL : L ≤ 3584) (hR : RR T x mU) (hH : LH D s B1 x mU H) (hl : lv_has ls 4 [(0, .ref b), (1, .ref (s.heap.size + 0)), (2, .ref (B1 + 0)), (3, .int (nI i))]) (hi : i + 6 < L) (hc : cells + 1 ≤ 600000) (hs : slots + 8 ≤ 7302250) (K : ∀ T' x' m' H', RR T' x' m' → LH D s B1 x' m' H' → LG p l e s m b below meth c H' (cells + 1) (slots + 8) 1510 ls []) : LG p l e s m b below meth c H cells slots 192 ls [] := by
  have hx := C.1.1
  have hb := C.1.2.1
  obtain ⟨r, x2, _, _, e1, -, -⟩ := s_reset (x1 := (xs (i + 1))) hR
  refine lv_aload_n hx hb dL_law_192 rfl (lv_at hl 1 rfl) ?_
  refine lg_arg C hL hH.S hl rfl rfl 1 (by omega) dL_law_193 dL_law_194 dL_law_195 (by decide) dL_law_196 dL_law_197 ?_
  refine lcall_i (As := [.int (xs (i + 1))]) (rest := []) (v := x2) (r := r) C (Nat.le_refl _) hH.1 hH.2.2.2.2.1 hH.2.2.2.2.2 hl.1 (show uGV RL 13 yX11_reset cX11_reset 1 3 (some .int) from ⟨gWV tw385 tw386 tw387 tw1 tw388, ⟨by decide, by decide, by decide⟩⟩) (RX11, TX11, 12) rfl rfl (by decide) hR.kx (mX11_reset e1) ⟨rfl, rfl⟩ rfl ⟨by decide, by decide⟩ rfl (Nat.le_of_ble_eq_true rfl) ⟨Nat.le_trans (Nat.add_le_add_left (by decide) _) hc, Nat.le_trans (Nat.add_le_add_left (by decide) _) hs⟩ dL_law_198 (fun H1 a1 a2 a3 a4 => ?_)
  have hH1 := hH.callx a1 a2 a3 a4
  obtain ⟨r2, x3, m2, T2, e2, e4, hR2⟩ := s_reset (x1 := (xs (i + 1))) (hR.rzm (H1.size - B1))
  have e5 := Option.some.inj (e1.symm.trans e2)
  obtain rfl : r = r2 := (Prod.mk.inj e5).1
  obtain rfl : x2 = x3 := (Prod.mk.inj e5).2
  refine lv_aload_n hx hb dL_law_201 rfl (lv_at hl 2 rfl) ?_
  refine lg_arg C hL hH1.S hl rfl rfl 1 (by omega) dL_law_202 dL_law_203 dL_law_204 (by decide) dL_law_205 dL_law_206 ?_
  refine lcall_i (As := [.int (xs (i + 1))]) (rest := [.int r]) (v := m2) (r := r) C hH.2.2.2.1 hH1.2.1 hH1.2.2.2.2.1 hH1.2.2.2.2.2 hl.1 (show uGV RL 17 yX12_reset cX12_reset 1 3 (some .int) from ⟨gWV tw1005 tw1006 tw1007 tw14 tw1008, ⟨by decide, by decide, by decide⟩⟩) (RX12, TX12, 33) rfl rfl (by decide) hR.km (mX12_reset e4) ⟨rfl, rfl⟩ rfl ⟨by decide, by decide⟩ rfl (Nat.le_of_ble_eq_true rfl) ⟨Nat.le_trans (Nat.le_add_right _ 1) hc, Nat.le_trans (Nat.le_add_right _ 8) hs⟩ dL_law_207 (fun H2 b1 b2 b3 b4 => ?_)
  have hH2 := hH1.callm b1 b2 b3 b4
  refine lg_eq C (tgt := 1510) dL_law_210 rfl ?_
  refine W.widen (k := cells + 1) (n := slots + 8) (Nat.le_add_right _ 1) (Nat.le_add_right _ 8) ?_
  exact K T2 _ _ H2 (hR2.rzx (lh_fin a1 b3)) hH2
theorem lcs_1 (C : LC p s m meth c b L xs D tw) (hL : L ≤ 3584) (hR : RR T x mU) (hH : LH D s B1 x mU H) (hl : lv_has ls 4 [(0, .ref b), (1, .ref (s.heap.size + 0)), (2, .ref (B1 + 0)), (3, .int (nI i))]) (hi : i + 6 < L) (hc : cells + 1 ≤ 600000) (hs : slots + 8 ≤ 7302250) (K : ∀ T' x' m' H', RR T' x' m' → LH D s B1 x' m' H' → LG p l e s m b below meth c H' (cells + 1) (slots + 8) 1510 ls []) : LG p l e s m b below meth c H cells slots 215 ls [] := by
  have hx := C.1.1
  have hb := C.1.2.1
  obtain ⟨r, x2, _, _, e1, -, -⟩ := s_connect (x1 := (xs (i + 1))) (x2 := (xs (i + 2))) (x3 := (xs (i + 3))) (x4 := (xs (i + 4))) hR
  refine lv_aload_n hx hb dL_law_215 rfl (lv_at hl 1 rfl) ?_
  refine lg_arg C hL hH.S hl rfl rfl 1 (by omega) dL_law_216 dL_law_217 dL_law_218 (by decide) dL_law_219 dL_law_220 ?_
  refine lg_arg C hL hH.S hl rfl rfl 2 (by omega) dL_law_221 dL_law_222 dL_law_223 (by decide) dL_law_224 dL_law_225 ?_
  refine lg_arg C hL hH.S hl rfl rfl 3 (by omega) dL_law_226 dL_law_227 dL_law_228 (by decide) dL_law_229 dL_law_230 ?_
  refine lg_arg C hL hH.S hl rfl rfl 4 (by omega) dL_law_231 dL_law_232 dL_law_233 (by decide) dL_law_234 dL_law_235 ?_
  refine lcall_i (As := [.int (xs (i + 1)), .int (xs (i + 2)), .int (xs (i + 3)), .int (xs (i + 4))]) (rest := []) (v := x2) (r := r) C (Nat.le_refl _) hH.1 hH.2.2.2.2.1 hH.2.2.2.2.2 hl.1 (show uGV RL 18 yX11_connect cX11_connect 4 7 (some .int) from ⟨gWV tw390 tw391 tw392 tw1 tw393, ⟨by decide, by decide, by decide⟩⟩) (RX11, TX11, 12) rfl rfl (by decide) hR.kx (mX11_connect e1) ⟨rfl, rfl⟩ rfl ⟨by decide, by decide⟩ rfl (Nat.le_of_ble_eq_true rfl) ⟨Nat.le_trans (Nat.add_le_add_left (by decide) _) hc, Nat.le_trans (Nat.add_le_add_left (by decide) _) hs⟩ dL_law_236 (fun H1 a1 a2 a3 a4 => ?_)
  have hH1 := hH.callx a1 a2 a3 a4
  obtain ⟨r2, x3, m2, T2, e2, e4, hR2⟩ := s_connect (x1 := (xs (i + 1))) (x2 := (xs (i + 2))) (x3 := (xs (i + 3))) (x4 := (xs (i + 4))) (hR.rzm (H1.size - B1))
  have e5 := Option.some.inj (e1.symm.trans e2)
  obtain rfl : r = r2 := (Prod.mk.inj e5).1
  obtain rfl : x2 = x3 := (Prod.mk.inj e5).2
  refine lv_aload_n hx hb dL_law_239 rfl (lv_at hl 2 rfl) ?_
  refine lg_arg C hL hH1.S hl rfl rfl 1 (by omega) dL_law_240 dL_law_241 dL_law_242 (by decide) dL_law_243 dL_law_244 ?_
  refine lg_arg C hL hH1.S hl rfl rfl 2 (by omega) dL_law_245 dL_law_246 dL_law_247 (by decide) dL_law_248 dL_law_249 ?_
  refine lg_arg C hL hH1.S hl rfl rfl 3 (by omega) dL_law_250 dL_law_251 dL_law_252 (by decide) dL_law_253 dL_law_254 ?_
  refine lg_arg C hL hH1.S hl rfl rfl 4 (by omega) dL_law_255 dL_law_256 dL_law_257 (by decide) dL_law_258 dL_law_259 ?_
  refine lcall_i (As := [.int (xs (i + 1)), .int (xs (i + 2)), .int (xs (i + 3)), .int (xs (i + 4))]) (rest := [.int r]) (v := m2) (r := r) C hH.2.2.2.1 hH1.2.1 hH1.2.2.2.2.1 hH1.2.2.2.2.2 hl.1 (show uGV RL 22 yX12_connect cX12_connect 4 7 (some .int) from ⟨gWV tw1012 tw1013 tw1014 tw14 tw1015, ⟨by decide, by decide, by decide⟩⟩) (RX12, TX12, 33) rfl rfl (by decide) hR.km (mX12_connect e4) ⟨rfl, rfl⟩ rfl ⟨by decide, by decide⟩ rfl (Nat.le_of_ble_eq_true rfl) ⟨Nat.le_trans (Nat.le_add_right _ 1) hc, Nat.le_trans (Nat.le_add_right _ 8) hs⟩ dL_law_260 (fun H2 b1 b2 b3 b4 => ?_)
  have hH2 := hH1.callm b1 b2 b3 b4
  refine lg_eq C (tgt := 1510) dL_law_263 rfl ?_
  refine W.widen (k := cells + 1) (n := slots + 8) (Nat.le_add_right _ 1) (Nat.le_add_right _ 8) ?_
  exact K T2 _ _ H2 (hR2.rzx (lh_fin a1 b3)) hH2
theorem lcs_2 (C : LC p s m meth c b L xs D tw) (hL : L ≤ 3584) (hR : RR T x mU) (hH : LH D s B1 x mU H) (hl : lv_has ls 4 [(0, .ref b), (1, .ref (s.heap.size + 0)), (2, .ref (B1 + 0)), (3, .int (nI i))]) (hi : i + 6 < L) (hc : cells + 1 ≤ 600000) (hs : slots + 8 ≤ 7302250) (K : ∀ T' x' m' H', RR T' x' m' → LH D s B1 x' m' H' → LG p l e s m b below meth c H' (cells + 1) (slots + 8) 1510 ls []) : LG p l e s m b below meth c H cells slots 268 ls [] := by
  have hx := C.1.1
  have hb := C.1.2.1
  obtain ⟨r, x2, _, _, e1, -, -⟩ := s_disconnect (x1 := (xs (i + 1))) (x2 := (xs (i + 2))) hR
  refine lv_aload_n hx hb dL_law_268 rfl (lv_at hl 1 rfl) ?_
  refine lg_arg C hL hH.S hl rfl rfl 1 (by omega) dL_law_269 dL_law_270 dL_law_271 (by decide) dL_law_272 dL_law_273 ?_
  refine lg_arg C hL hH.S hl rfl rfl 2 (by omega) dL_law_274 dL_law_275 dL_law_276 (by decide) dL_law_277 dL_law_278 ?_
  refine lcall_i (As := [.int (xs (i + 1)), .int (xs (i + 2))]) (rest := []) (v := x2) (r := r) C (Nat.le_refl _) hH.1 hH.2.2.2.2.1 hH.2.2.2.2.2 hl.1 (show uGV RL 23 yX11_disconnect cX11_disconnect 2 5 (some .int) from ⟨gWV tw403 tw404 tw405 tw1 tw406, ⟨by decide, by decide, by decide⟩⟩) (RX11, TX11, 12) rfl rfl (by decide) hR.kx (mX11_disconnect e1) ⟨rfl, rfl⟩ rfl ⟨by decide, by decide⟩ rfl (Nat.le_of_ble_eq_true rfl) ⟨Nat.le_trans (Nat.add_le_add_left (by decide) _) hc, Nat.le_trans (Nat.add_le_add_left (by decide) _) hs⟩ dL_law_279 (fun H1 a1 a2 a3 a4 => ?_)
  have hH1 := hH.callx a1 a2 a3 a4
  obtain ⟨r2, x3, m2, T2, e2, e4, hR2⟩ := s_disconnect (x1 := (xs (i + 1))) (x2 := (xs (i + 2))) (hR.rzm (H1.size - B1))
  have e5 := Option.some.inj (e1.symm.trans e2)
  obtain rfl : r = r2 := (Prod.mk.inj e5).1
  obtain rfl : x2 = x3 := (Prod.mk.inj e5).2
  refine lv_aload_n hx hb dL_law_282 rfl (lv_at hl 2 rfl) ?_
  refine lg_arg C hL hH1.S hl rfl rfl 1 (by omega) dL_law_283 dL_law_284 dL_law_285 (by decide) dL_law_286 dL_law_287 ?_
  refine lg_arg C hL hH1.S hl rfl rfl 2 (by omega) dL_law_288 dL_law_289 dL_law_290 (by decide) dL_law_291 dL_law_292 ?_
  refine lcall_i (As := [.int (xs (i + 1)), .int (xs (i + 2))]) (rest := [.int r]) (v := m2) (r := r) C hH.2.2.2.1 hH1.2.1 hH1.2.2.2.2.1 hH1.2.2.2.2.2 hl.1 (show uGV RL 27 yX12_disconnect cX12_disconnect 2 4 (some .int) from ⟨gWV tw1022 tw1023 tw1024 tw14 tw1025, ⟨by decide, by decide, by decide⟩⟩) (RX12, TX12, 33) rfl rfl (by decide) hR.km (mX12_disconnect e4) ⟨rfl, rfl⟩ rfl ⟨by decide, by decide⟩ rfl (Nat.le_of_ble_eq_true rfl) ⟨Nat.le_trans (Nat.le_add_right _ 1) hc, Nat.le_trans (Nat.le_add_right _ 8) hs⟩ dL_law_293 (fun H2 b1 b2 b3 b4 => ?_)
  have hH2 := hH1.callm b1 b2 b3 b4
  refine lg_eq C (tgt := 1510) dL_law_296 rfl ?_
  refine W.widen (k := cells + 1) (n := slots + 8) (Nat.le_add_right _ 1) (Nat.le_add_right _ 8) ?_
  exact K T2 _ _ H2 (hR2.rzx (lh_fin a1 b3)) hH2
theorem lcs_3 (C : LC p s m meth c b L xs D tw) (hL : L ≤ 3584) (hR : RR T x mU) (hH : LH D s B1 x mU H) (hl : lv_has ls 4 [(0, .ref b), (1, .ref (s.heap.size + 0)), (2, .ref (B1 + 0)), (3, .int (nI i))]) (hi : i + 6 < L) (hc : cells + 1 ≤ 600000) (hs : slots + 8 ≤ 7302250) (K : ∀ T' x' m' H', RR T' x' m' → LH D s B1 x' m' H' → LG p l e s m b below meth c H' (cells + 1) (slots + 8) 1510 ls []) : LG p l e s m b below meth c H cells slots 301 ls [] := by
  have hx := C.1.1
  have hb := C.1.2.1
  obtain ⟨r, e1, e3⟩ := s_other (x1 := (xs (i + 1))) (x2 := (xs (i + 2))) hR
  refine lv_aload_n hx hb dL_law_301 rfl (lv_at hl 1 rfl) ?_
  refine lg_arg C hL hH.S hl rfl rfl 1 (by omega) dL_law_302 dL_law_303 dL_law_304 (by decide) dL_law_305 dL_law_306 ?_
  refine lg_arg C hL hH.S hl rfl rfl 2 (by omega) dL_law_307 dL_law_308 dL_law_309 (by decide) dL_law_310 dL_law_311 ?_
  refine lcall_i (As := [.int (xs (i + 1)), .int (xs (i + 2))]) (rest := []) (v := x) (r := r) C (Nat.le_refl _) hH.1 hH.2.2.2.2.1 hH.2.2.2.2.2 hl.1 (show uGV RL 28 yX11_other cX11_other 2 4 (some .int) from ⟨gWV tw407 tw408 tw409 tw1 tw410, ⟨by decide, by decide, by decide⟩⟩) (RX11, TX11, 12) rfl rfl (by decide) hR.kx (mX11_other e1) ⟨rfl, rfl⟩ rfl ⟨by decide, by decide⟩ rfl (Nat.le_of_ble_eq_true rfl) ⟨Nat.le_trans (Nat.add_le_add_left (by decide) _) hc, Nat.le_trans (Nat.add_le_add_left (by decide) _) hs⟩ dL_law_312 (fun H1 a1 a2 a3 a4 => ?_)
  have hH1 := hH.callx a1 a2 a3 a4
  obtain ⟨r2, e2, e4⟩ := s_other (x1 := (xs (i + 1))) (x2 := (xs (i + 2))) (hR.rzm (H1.size - B1))
  obtain rfl : r = r2 := Option.some.inj (e1.symm.trans e2)
  refine lv_aload_n hx hb dL_law_315 rfl (lv_at hl 2 rfl) ?_
  refine lg_arg C hL hH1.S hl rfl rfl 1 (by omega) dL_law_316 dL_law_317 dL_law_318 (by decide) dL_law_319 dL_law_320 ?_
  refine lg_arg C hL hH1.S hl rfl rfl 2 (by omega) dL_law_321 dL_law_322 dL_law_323 (by decide) dL_law_324 dL_law_325 ?_
  refine lcall_i (As := [.int (xs (i + 1)), .int (xs (i + 2))]) (rest := [.int r]) (v := uRz mU (H1.size - B1)) (r := r) C hH.2.2.2.1 hH1.2.1 hH1.2.2.2.2.1 hH1.2.2.2.2.2 hl.1 (show uGV RL 31 yX12_other cX12_other 2 4 (some .int) from ⟨gWV tw1026 tw1027 tw1028 tw14 tw1029, ⟨by decide, by decide, by decide⟩⟩) (RX12, TX12, 33) rfl rfl (by decide) hR.km (mX12_other e4) ⟨rfl, rfl⟩ rfl ⟨by decide, by decide⟩ rfl (Nat.le_of_ble_eq_true rfl) ⟨Nat.le_trans (Nat.le_add_right _ 1) hc, Nat.le_trans (Nat.le_add_right _ 8) hs⟩ dL_law_326 (fun H2 b1 b2 b3 b4 => ?_)
  have hH2 := hH1.callm b1 b2 b3 b4
  refine lg_eq C (tgt := 1510) dL_law_329 rfl ?_
  refine W.widen (k := cells + 1) (n := slots + 8) (Nat.le_add_right _ 1) (Nat.le_add_right _ 8) ?_
  exact K T _ _ H2 ((hR.rzm _).rzx (lh_fin a1 b3)) hH2
theorem lcs_4 (C : LC p s m meth c b L xs D tw) (hL : L ≤ 3584) (hR : RR T x mU) (hH : LH D s B1 x mU H) (hl : lv_has ls 4 [(0, .ref b), (1, .ref (s.heap.size + 0)), (2, .ref (B1 + 0)), (3, .int (nI i))]) (hi : i + 6 < L) (hc : cells + 1 ≤ 600000) (hs : slots + 8 ≤ 7302250) (K : ∀ T' x' m' H', RR T' x' m' → LH D s B1 x' m' H' → LG p l e s m b below meth c H' (cells + 1) (slots + 8) 1510 ls []) : LG p l e s m b below meth c H cells slots 334 ls [] := by
  have hx := C.1.1
  have hb := C.1.2.1
  obtain ⟨r, x2, _, _, e1, -, -⟩ := s_insertDrop (x1 := (xs (i + 1))) (x2 := (xs (i + 2))) (x3 := (xs (i + 3))) (x4 := (xs (i + 4))) (x5 := (xs (i + 5))) hR
  refine lv_aload_n hx hb dL_law_334 rfl (lv_at hl 1 rfl) ?_
  refine lg_arg C hL hH.S hl rfl rfl 1 (by omega) dL_law_335 dL_law_336 dL_law_337 (by decide) dL_law_338 dL_law_339 ?_
  refine lg_arg C hL hH.S hl rfl rfl 2 (by omega) dL_law_340 dL_law_341 dL_law_342 (by decide) dL_law_343 dL_law_344 ?_
  refine lg_arg C hL hH.S hl rfl rfl 3 (by omega) dL_law_345 dL_law_346 dL_law_347 (by decide) dL_law_348 dL_law_349 ?_
  refine lg_arg C hL hH.S hl rfl rfl 4 (by omega) dL_law_350 dL_law_351 dL_law_352 (by decide) dL_law_353 dL_law_354 ?_
  refine lg_arg C hL hH.S hl rfl rfl 5 (by omega) dL_law_355 dL_law_356 dL_law_357 (by decide) dL_law_358 dL_law_359 ?_
  refine lcall_i (As := [.int (xs (i + 1)), .int (xs (i + 2)), .int (xs (i + 3)), .int (xs (i + 4)), .int (xs (i + 5))]) (rest := []) (v := x2) (r := r) C (Nat.le_refl _) hH.1 hH.2.2.2.2.1 hH.2.2.2.2.2 hl.1 (show uGV RL 32 yX11_insertDrop cX11_insertDrop 5 6 (some .int) from ⟨gWV tw411 tw412 tw413 tw1 tw414, ⟨by decide, by decide, by decide⟩⟩) (RX11, TX11, 12) rfl rfl (by decide) hR.kx (mX11_insertDrop e1) ⟨rfl, rfl⟩ rfl ⟨by decide, by decide⟩ rfl (Nat.le_of_ble_eq_true rfl) ⟨Nat.le_trans (Nat.add_le_add_left (by decide) _) hc, Nat.le_trans (Nat.add_le_add_left (by decide) _) hs⟩ dL_law_360 (fun H1 a1 a2 a3 a4 => ?_)
  have hH1 := hH.callx a1 a2 a3 a4
  obtain ⟨r2, x3, m2, T2, e2, e4, hR2⟩ := s_insertDrop (x1 := (xs (i + 1))) (x2 := (xs (i + 2))) (x3 := (xs (i + 3))) (x4 := (xs (i + 4))) (x5 := (xs (i + 5))) (hR.rzm (H1.size - B1))
  have e5 := Option.some.inj (e1.symm.trans e2)
  obtain rfl : r = r2 := (Prod.mk.inj e5).1
  obtain rfl : x2 = x3 := (Prod.mk.inj e5).2
  refine lv_aload_n hx hb dL_law_363 rfl (lv_at hl 2 rfl) ?_
  refine lg_arg C hL hH1.S hl rfl rfl 1 (by omega) dL_law_364 dL_law_365 dL_law_366 (by decide) dL_law_367 dL_law_368 ?_
  refine lg_arg C hL hH1.S hl rfl rfl 2 (by omega) dL_law_369 dL_law_370 dL_law_371 (by decide) dL_law_372 dL_law_373 ?_
  refine lg_arg C hL hH1.S hl rfl rfl 3 (by omega) dL_law_374 dL_law_375 dL_law_376 (by decide) dL_law_377 dL_law_378 ?_
  refine lg_arg C hL hH1.S hl rfl rfl 4 (by omega) dL_law_379 dL_law_380 dL_law_381 (by decide) dL_law_382 dL_law_383 ?_
  refine lg_arg C hL hH1.S hl rfl rfl 5 (by omega) dL_law_384 dL_law_385 dL_law_386 (by decide) dL_law_387 dL_law_388 ?_
  refine lcall_i (As := [.int (xs (i + 1)), .int (xs (i + 2)), .int (xs (i + 3)), .int (xs (i + 4)), .int (xs (i + 5))]) (rest := [.int r]) (v := m2) (r := r) C hH.2.2.2.1 hH1.2.1 hH1.2.2.2.2.1 hH1.2.2.2.2.2 hl.1 (show uGV RL 36 yX12_insertDrop cX12_insertDrop 5 6 (some .int) from ⟨gWV tw1034 tw1035 tw1036 tw14 tw1037, ⟨by decide, by decide, by decide⟩⟩) (RX12, TX12, 33) rfl rfl (by decide) hR.km (mX12_insertDrop e4) ⟨rfl, rfl⟩ rfl ⟨by decide, by decide⟩ rfl (Nat.le_of_ble_eq_true rfl) ⟨Nat.le_trans (Nat.le_of_eq rfl) hc, Nat.le_trans (Nat.le_of_eq rfl) hs⟩ dL_law_389 (fun H2 b1 b2 b3 b4 => ?_)
  have hH2 := hH1.callm b1 b2 b3 b4
  refine lg_eq C (tgt := 1510) dL_law_392 rfl ?_
  exact K T2 _ _ H2 (hR2.rzx (lh_fin a1 b3)) hH2
theorem lcs_5 (C : LC p s m meth c b L xs D tw) (hL : L ≤ 3584) (hR : RR T x mU) (hH : LH D s B1 x mU H) (hl : lv_has ls 4 [(0, .ref b), (1, .ref (s.heap.size + 0)), (2, .ref (B1 + 0)), (3, .int (nI i))]) (hi : i + 6 < L) (hc : cells + 1 ≤ 600000) (hs : slots + 8 ≤ 7302250) (K : ∀ T' x' m' H', RR T' x' m' → LH D s B1 x' m' H' → LG p l e s m b below meth c H' (cells + 1) (slots + 8) 1510 ls []) : LG p l e s m b below meth c H cells slots 397 ls [] := by
  have hx := C.1.1
  have hb := C.1.2.1
  obtain ⟨r, x2, _, _, e1, -, -⟩ := s_insertForward (x1 := (xs (i + 1))) (x2 := (xs (i + 2))) (x3 := (xs (i + 3))) (x4 := (xs (i + 4))) (x5 := (xs (i + 5))) (x6 := (xs (i + 6))) hR
  refine lv_aload_n hx hb dL_law_397 rfl (lv_at hl 1 rfl) ?_
  refine lg_arg C hL hH.S hl rfl rfl 1 (by omega) dL_law_398 dL_law_399 dL_law_400 (by decide) dL_law_401 dL_law_402 ?_
  refine lg_arg C hL hH.S hl rfl rfl 2 (by omega) dL_law_403 dL_law_404 dL_law_405 (by decide) dL_law_406 dL_law_407 ?_
  refine lg_arg C hL hH.S hl rfl rfl 3 (by omega) dL_law_408 dL_law_409 dL_law_410 (by decide) dL_law_411 dL_law_412 ?_
  refine lg_arg C hL hH.S hl rfl rfl 4 (by omega) dL_law_413 dL_law_414 dL_law_415 (by decide) dL_law_416 dL_law_417 ?_
  refine lg_arg C hL hH.S hl rfl rfl 5 (by omega) dL_law_418 dL_law_419 dL_law_420 (by decide) dL_law_421 dL_law_422 ?_
  refine lg_arg6 C hL hH.S hl rfl rfl 6 (by omega) dL_law_423 dL_law_424 dL_law_425 (by decide) dL_law_427 dL_law_428 ?_
  refine lcall_i (As := [.int (xs (i + 1)), .int (xs (i + 2)), .int (xs (i + 3)), .int (xs (i + 4)), .int (xs (i + 5)), .int (xs (i + 6))]) (rest := []) (v := x2) (r := r) C (Nat.le_refl _) hH.1 hH.2.2.2.2.1 hH.2.2.2.2.2 hl.1 (show uGV RL 37 yX11_insertForward cX11_insertForward 6 7 (some .int) from ⟨gWV tw452 tw453 tw454 tw1 tw455, ⟨by decide, by decide, by decide⟩⟩) (RX11, TX11, 12) rfl rfl (by decide) hR.kx (mX11_insertForward e1) ⟨rfl, rfl⟩ rfl ⟨by decide, by decide⟩ rfl (Nat.le_of_ble_eq_true rfl) ⟨Nat.le_trans (Nat.add_le_add_left (by decide) _) hc, Nat.le_trans (Nat.add_le_add_left (by decide) _) hs⟩ dL_law_429 (fun H1 a1 a2 a3 a4 => ?_)
  have hH1 := hH.callx a1 a2 a3 a4
  obtain ⟨r2, x3, m2, T2, e2, e4, hR2⟩ := s_insertForward (x1 := (xs (i + 1))) (x2 := (xs (i + 2))) (x3 := (xs (i + 3))) (x4 := (xs (i + 4))) (x5 := (xs (i + 5))) (x6 := (xs (i + 6))) (hR.rzm (H1.size - B1))
  have e5 := Option.some.inj (e1.symm.trans e2)
  obtain rfl : r = r2 := (Prod.mk.inj e5).1
  obtain rfl : x2 = x3 := (Prod.mk.inj e5).2
  refine lv_aload_n hx hb dL_law_432 rfl (lv_at hl 2 rfl) ?_
  refine lg_arg C hL hH1.S hl rfl rfl 1 (by omega) dL_law_433 dL_law_434 dL_law_435 (by decide) dL_law_436 dL_law_437 ?_
  refine lg_arg C hL hH1.S hl rfl rfl 2 (by omega) dL_law_438 dL_law_439 dL_law_440 (by decide) dL_law_441 dL_law_442 ?_
  refine lg_arg C hL hH1.S hl rfl rfl 3 (by omega) dL_law_443 dL_law_444 dL_law_445 (by decide) dL_law_446 dL_law_447 ?_
  refine lg_arg C hL hH1.S hl rfl rfl 4 (by omega) dL_law_448 dL_law_449 dL_law_450 (by decide) dL_law_451 dL_law_452 ?_
  refine lg_arg C hL hH1.S hl rfl rfl 5 (by omega) dL_law_453 dL_law_454 dL_law_455 (by decide) dL_law_456 dL_law_457 ?_
  refine lg_arg6 C hL hH1.S hl rfl rfl 6 (by omega) dL_law_458 dL_law_459 dL_law_460 (by decide) dL_law_462 dL_law_463 ?_
  refine lcall_i (As := [.int (xs (i + 1)), .int (xs (i + 2)), .int (xs (i + 3)), .int (xs (i + 4)), .int (xs (i + 5)), .int (xs (i + 6))]) (rest := [.int r]) (v := m2) (r := r) C hH.2.2.2.1 hH1.2.1 hH1.2.2.2.2.1 hH1.2.2.2.2.2 hl.1 (show uGV RL 41 yX12_insertForward cX12_insertForward 6 7 (some .int) from ⟨gWV tw1070 tw1071 tw1072 tw14 tw1073, ⟨by decide, by decide, by decide⟩⟩) (RX12, TX12, 33) rfl rfl (by decide) hR.km (mX12_insertForward e4) ⟨rfl, rfl⟩ rfl ⟨by decide, by decide⟩ rfl (Nat.le_of_ble_eq_true rfl) ⟨Nat.le_trans (Nat.le_of_eq rfl) hc, Nat.le_trans (Nat.le_of_eq rfl) hs⟩ dL_law_464 (fun H2 b1 b2 b3 b4 => ?_)
  have hH2 := hH1.callm b1 b2 b3 b4
  refine lg_eq C (tgt := 1510) dL_law_467 rfl ?_
  exact K T2 _ _ H2 (hR2.rzx (lh_fin a1 b3)) hH2
theorem lcs_6 (C : LC p s m meth c b L xs D tw) (hL : L ≤ 3584) (hR : RR T x mU) (hH : LH D s B1 x mU H) (hl : lv_has ls 4 [(0, .ref b), (1, .ref (s.heap.size + 0)), (2, .ref (B1 + 0)), (3, .int (nI i))]) (hi : i + 6 < L) (hc : cells + 1 ≤ 600000) (hs : slots + 8 ≤ 7302250) (K : ∀ T' x' m' H', RR T' x' m' → LH D s B1 x' m' H' → LG p l e s m b below meth c H' (cells + 1) (slots + 8) 1510 ls []) : LG p l e s m b below meth c H cells slots 472 ls [] := by
  have hx := C.1.1
  have hb := C.1.2.1
  obtain ⟨r, x2, _, _, e1, -, -⟩ := s_setRewriting (x1 := (xs (i + 1))) (x2 := (xs (i + 2))) (x3 := (xs (i + 3))) (x4 := (xs (i + 4))) hR
  refine lv_aload_n hx hb dL_law_472 rfl (lv_at hl 1 rfl) ?_
  refine lg_arg C hL hH.S hl rfl rfl 1 (by omega) dL_law_473 dL_law_474 dL_law_475 (by decide) dL_law_476 dL_law_477 ?_
  refine lg_arg C hL hH.S hl rfl rfl 2 (by omega) dL_law_478 dL_law_479 dL_law_480 (by decide) dL_law_481 dL_law_482 ?_
  refine lg_arg C hL hH.S hl rfl rfl 3 (by omega) dL_law_483 dL_law_484 dL_law_485 (by decide) dL_law_486 dL_law_487 ?_
  refine lg_arg C hL hH.S hl rfl rfl 4 (by omega) dL_law_488 dL_law_489 dL_law_490 (by decide) dL_law_491 dL_law_492 ?_
  refine lcall_i (As := [.int (xs (i + 1)), .int (xs (i + 2)), .int (xs (i + 3)), .int (xs (i + 4))]) (rest := []) (v := x2) (r := r) C (Nat.le_refl _) hH.1 hH.2.2.2.2.1 hH.2.2.2.2.2 hl.1 (show uGV RL 42 yX11_setRewriting cX11_setRewriting 4 8 (some .int) from ⟨gWV tw456 tw457 tw458 tw1 tw459, ⟨by decide, by decide, by decide⟩⟩) (RX11, TX11, 12) rfl rfl (by decide) hR.kx (mX11_setRewriting e1) ⟨rfl, rfl⟩ rfl ⟨by decide, by decide⟩ rfl (Nat.le_of_ble_eq_true rfl) ⟨Nat.le_trans (Nat.add_le_add_left (by decide) _) hc, Nat.le_trans (Nat.add_le_add_left (by decide) _) hs⟩ dL_law_493 (fun H1 a1 a2 a3 a4 => ?_)
  have hH1 := hH.callx a1 a2 a3 a4
  obtain ⟨r2, x3, m2, T2, e2, e4, hR2⟩ := s_setRewriting (x1 := (xs (i + 1))) (x2 := (xs (i + 2))) (x3 := (xs (i + 3))) (x4 := (xs (i + 4))) (hR.rzm (H1.size - B1))
  have e5 := Option.some.inj (e1.symm.trans e2)
  obtain rfl : r = r2 := (Prod.mk.inj e5).1
  obtain rfl : x2 = x3 := (Prod.mk.inj e5).2
  refine lv_aload_n hx hb dL_law_496 rfl (lv_at hl 2 rfl) ?_
  refine lg_arg C hL hH1.S hl rfl rfl 1 (by omega) dL_law_497 dL_law_498 dL_law_499 (by decide) dL_law_500 dL_law_501 ?_
  refine lg_arg C hL hH1.S hl rfl rfl 2 (by omega) dL_law_502 dL_law_503 dL_law_504 (by decide) dL_law_505 dL_law_506 ?_
  refine lg_arg C hL hH1.S hl rfl rfl 3 (by omega) dL_law_507 dL_law_508 dL_law_509 (by decide) dL_law_510 dL_law_511 ?_
  refine lg_arg C hL hH1.S hl rfl rfl 4 (by omega) dL_law_512 dL_law_513 dL_law_514 (by decide) dL_law_515 dL_law_516 ?_
  refine lcall_i (As := [.int (xs (i + 1)), .int (xs (i + 2)), .int (xs (i + 3)), .int (xs (i + 4))]) (rest := [.int r]) (v := m2) (r := r) C hH.2.2.2.1 hH1.2.1 hH1.2.2.2.2.1 hH1.2.2.2.2.2 hl.1 (show uGV RL 45 yX12_setRewriting cX12_setRewriting 4 7 (some .int) from ⟨gWV tw1074 tw1075 tw1076 tw14 tw1077, ⟨by decide, by decide, by decide⟩⟩) (RX12, TX12, 33) rfl rfl (by decide) hR.km (mX12_setRewriting e4) ⟨rfl, rfl⟩ rfl ⟨by decide, by decide⟩ rfl (Nat.le_of_ble_eq_true rfl) ⟨Nat.le_trans (Nat.le_of_eq rfl) hc, Nat.le_trans (Nat.le_of_eq rfl) hs⟩ dL_law_517 (fun H2 b1 b2 b3 b4 => ?_)
  have hH2 := hH1.callm b1 b2 b3 b4
  refine lg_eq C (tgt := 1510) dL_law_520 rfl ?_
  exact K T2 _ _ H2 (hR2.rzx (lh_fin a1 b3)) hH2
theorem lcs_7 (C : LC p s m meth c b L xs D tw) (hL : L ≤ 3584) (hR : RR T x mU) (hH : LH D s B1 x mU H) (hl : lv_has ls 4 [(0, .ref b), (1, .ref (s.heap.size + 0)), (2, .ref (B1 + 0)), (3, .int (nI i))]) (hi : i + 6 < L) (hc : cells + 1 ≤ 600000) (hs : slots + 8 ≤ 7302250) (K : ∀ T' x' m' H', RR T' x' m' → LH D s B1 x' m' H' → LG p l e s m b below meth c H' (cells + 1) (slots + 8) 1510 ls []) : LG p l e s m b below meth c H cells slots 525 ls [] := by
  have hx := C.1.1
  have hb := C.1.2.1
  obtain ⟨r, x2, _, _, e1, -, -⟩ := s_removeRule (x1 := (xs (i + 1))) (x2 := (xs (i + 2))) hR
  refine lv_aload_n hx hb dL_law_525 rfl (lv_at hl 1 rfl) ?_
  refine lg_arg C hL hH.S hl rfl rfl 1 (by omega) dL_law_526 dL_law_527 dL_law_528 (by decide) dL_law_529 dL_law_530 ?_
  refine lg_arg C hL hH.S hl rfl rfl 2 (by omega) dL_law_531 dL_law_532 dL_law_533 (by decide) dL_law_534 dL_law_535 ?_
  refine lcall_i (As := [.int (xs (i + 1)), .int (xs (i + 2))]) (rest := []) (v := x2) (r := r) C (Nat.le_refl _) hH.1 hH.2.2.2.2.1 hH.2.2.2.2.2 hl.1 (show uGV RL 46 yX11_removeRule cX11_removeRule 2 5 (some .int) from ⟨gWV tw474 tw475 tw476 tw1 tw477, ⟨by decide, by decide, by decide⟩⟩) (RX11, TX11, 12) rfl rfl (by decide) hR.kx (mX11_removeRule e1) ⟨rfl, rfl⟩ rfl ⟨by decide, by decide⟩ rfl (Nat.le_of_ble_eq_true rfl) ⟨Nat.le_trans (Nat.add_le_add_left (by decide) _) hc, Nat.le_trans (Nat.add_le_add_left (by decide) _) hs⟩ dL_law_536 (fun H1 a1 a2 a3 a4 => ?_)
  have hH1 := hH.callx a1 a2 a3 a4
  obtain ⟨r2, x3, m2, T2, e2, e4, hR2⟩ := s_removeRule (x1 := (xs (i + 1))) (x2 := (xs (i + 2))) (hR.rzm (H1.size - B1))
  have e5 := Option.some.inj (e1.symm.trans e2)
  obtain rfl : r = r2 := (Prod.mk.inj e5).1
  obtain rfl : x2 = x3 := (Prod.mk.inj e5).2
  refine lv_aload_n hx hb dL_law_539 rfl (lv_at hl 2 rfl) ?_
  refine lg_arg C hL hH1.S hl rfl rfl 1 (by omega) dL_law_540 dL_law_541 dL_law_542 (by decide) dL_law_543 dL_law_544 ?_
  refine lg_arg C hL hH1.S hl rfl rfl 2 (by omega) dL_law_545 dL_law_546 dL_law_547 (by decide) dL_law_548 dL_law_549 ?_
  refine lcall_i (As := [.int (xs (i + 1)), .int (xs (i + 2))]) (rest := [.int r]) (v := m2) (r := r) C hH.2.2.2.1 hH1.2.1 hH1.2.2.2.2.1 hH1.2.2.2.2.2 hl.1 (show uGV RL 49 yX12_removeRule cX12_removeRule 2 4 (some .int) from ⟨gWV tw1086 tw1087 tw1088 tw14 tw1089, ⟨by decide, by decide, by decide⟩⟩) (RX12, TX12, 33) rfl rfl (by decide) hR.km (mX12_removeRule e4) ⟨rfl, rfl⟩ rfl ⟨by decide, by decide⟩ rfl (Nat.le_of_ble_eq_true rfl) ⟨Nat.le_trans (Nat.le_add_right _ 1) hc, Nat.le_trans (Nat.le_add_right _ 8) hs⟩ dL_law_550 (fun H2 b1 b2 b3 b4 => ?_)
  have hH2 := hH1.callm b1 b2 b3 b4
  refine lg_eq C (tgt := 1510) dL_law_553 rfl ?_
  refine W.widen (k := cells + 1) (n := slots + 8) (Nat.le_add_right _ 1) (Nat.le_add_right _ 8) ?_
  exact K T2 _ _ H2 (hR2.rzx (lh_fin a1 b3)) hH2
theorem lcs_8 (C : LC p s m meth c b L xs D tw) (hL : L ≤ 3584) (hR : RR T x mU) (hH : LH D s B1 x mU H) (hl : lv_has ls 4 [(0, .ref b), (1, .ref (s.heap.size + 0)), (2, .ref (B1 + 0)), (3, .int (nI i))]) (hi : i + 6 < L) (hc : cells + 1 ≤ 600000) (hs : slots + 8 ≤ 7302250) (K : ∀ T' x' m' H', RR T' x' m' → LH D s B1 x' m' H' → LG p l e s m b below meth c H' (cells + 1) (slots + 8) 1510 ls []) : LG p l e s m b below meth c H cells slots 558 ls [] := by
  have hx := C.1.1
  have hb := C.1.2.1
  obtain ⟨r, x2, _, _, e1, -, -⟩ := s_moveRule (x1 := (xs (i + 1))) (x2 := (xs (i + 2))) (x3 := (xs (i + 3))) hR
  refine lv_aload_n hx hb dL_law_558 rfl (lv_at hl 1 rfl) ?_
  refine lg_arg C hL hH.S hl rfl rfl 1 (by omega) dL_law_559 dL_law_560 dL_law_561 (by decide) dL_law_562 dL_law_563 ?_
  refine lg_arg C hL hH.S hl rfl rfl 2 (by omega) dL_law_564 dL_law_565 dL_law_566 (by decide) dL_law_567 dL_law_568 ?_
  refine lg_arg C hL hH.S hl rfl rfl 3 (by omega) dL_law_569 dL_law_570 dL_law_571 (by decide) dL_law_572 dL_law_573 ?_
  refine lcall_i (As := [.int (xs (i + 1)), .int (xs (i + 2)), .int (xs (i + 3))]) (rest := []) (v := x2) (r := r) C (Nat.le_refl _) hH.1 hH.2.2.2.2.1 hH.2.2.2.2.2 hl.1 (show uGV RL 50 yX11_moveRule cX11_moveRule 3 7 (some .int) from ⟨gWV tw482 tw483 tw484 tw1 tw485, ⟨by decide, by decide, by decide⟩⟩) (RX11, TX11, 12) rfl rfl (by decide) hR.kx (mX11_moveRule e1) ⟨rfl, rfl⟩ rfl ⟨by decide, by decide⟩ rfl (Nat.le_of_ble_eq_true rfl) ⟨Nat.le_trans (Nat.add_le_add_left (by decide) _) hc, Nat.le_trans (Nat.add_le_add_left (by decide) _) hs⟩ dL_law_574 (fun H1 a1 a2 a3 a4 => ?_)
  have hH1 := hH.callx a1 a2 a3 a4
  obtain ⟨r2, x3, m2, T2, e2, e4, hR2⟩ := s_moveRule (x1 := (xs (i + 1))) (x2 := (xs (i + 2))) (x3 := (xs (i + 3))) (hR.rzm (H1.size - B1))
  have e5 := Option.some.inj (e1.symm.trans e2)
  obtain rfl : r = r2 := (Prod.mk.inj e5).1
  obtain rfl : x2 = x3 := (Prod.mk.inj e5).2
  refine lv_aload_n hx hb dL_law_577 rfl (lv_at hl 2 rfl) ?_
  refine lg_arg C hL hH1.S hl rfl rfl 1 (by omega) dL_law_578 dL_law_579 dL_law_580 (by decide) dL_law_581 dL_law_582 ?_
  refine lg_arg C hL hH1.S hl rfl rfl 2 (by omega) dL_law_583 dL_law_584 dL_law_585 (by decide) dL_law_586 dL_law_587 ?_
  refine lg_arg C hL hH1.S hl rfl rfl 3 (by omega) dL_law_588 dL_law_589 dL_law_590 (by decide) dL_law_591 dL_law_592 ?_
  refine lcall_i (As := [.int (xs (i + 1)), .int (xs (i + 2)), .int (xs (i + 3))]) (rest := [.int r]) (v := m2) (r := r) C hH.2.2.2.1 hH1.2.1 hH1.2.2.2.2.1 hH1.2.2.2.2.2 hl.1 (show uGV RL 54 yX12_moveRule cX12_moveRule 3 6 (some .int) from ⟨gWV tw1094 tw1095 tw1096 tw14 tw1097, ⟨by decide, by decide, by decide⟩⟩) (RX12, TX12, 33) rfl rfl (by decide) hR.km (mX12_moveRule e4) ⟨rfl, rfl⟩ rfl ⟨by decide, by decide⟩ rfl (Nat.le_of_ble_eq_true rfl) ⟨Nat.le_trans (Nat.le_add_right _ 1) hc, Nat.le_trans (Nat.le_add_right _ 8) hs⟩ dL_law_593 (fun H2 b1 b2 b3 b4 => ?_)
  have hH2 := hH1.callm b1 b2 b3 b4
  refine lg_eq C (tgt := 1510) dL_law_596 rfl ?_
  refine W.widen (k := cells + 1) (n := slots + 8) (Nat.le_add_right _ 1) (Nat.le_add_right _ 8) ?_
  exact K T2 _ _ H2 (hR2.rzx (lh_fin a1 b3)) hH2
theorem lcs_9 (C : LC p s m meth c b L xs D tw) (hL : L ≤ 3584) (hR : RR T x mU) (hH : LH D s B1 x mU H) (hl : lv_has ls 4 [(0, .ref b), (1, .ref (s.heap.size + 0)), (2, .ref (B1 + 0)), (3, .int (nI i))]) (hi : i + 6 < L) (hc : cells + 1 ≤ 600000) (hs : slots + 8 ≤ 7302250) (K : ∀ T' x' m' H', RR T' x' m' → LH D s B1 x' m' H' → LG p l e s m b below meth c H' (cells + 1) (slots + 8) 1510 ls []) : LG p l e s m b below meth c H cells slots 601 ls [] := by
  have hx := C.1.1
  have hb := C.1.2.1
  obtain ⟨r, x2, _, _, e1, -, -⟩ := s_switchRule (x1 := (xs (i + 1))) (x2 := (xs (i + 2))) (x3 := (b01 (xs (i + 3)))) hR (b01_ok _)
  refine lv_aload_n hx hb dL_law_601 rfl (lv_at hl 1 rfl) ?_
  refine lg_arg C hL hH.S hl rfl rfl 1 (by omega) dL_law_602 dL_law_603 dL_law_604 (by decide) dL_law_605 dL_law_606 ?_
  refine lg_arg C hL hH.S hl rfl rfl 2 (by omega) dL_law_607 dL_law_608 dL_law_609 (by decide) dL_law_610 dL_law_611 ?_
  refine lg_arg C hL hH.S hl rfl rfl 3 (by omega) dL_law_612 dL_law_613 dL_law_614 (by decide) dL_law_615 dL_law_616 ?_
  refine lg_bool C (t1 := 624) (t2 := 625) dL_law_617 rfl dL_law_620 dL_law_621 rfl dL_law_624 rfl ?_
  refine lcall_i (As := [.int (xs (i + 1)), .int (xs (i + 2)), .int (b01 (xs (i + 3)))]) (rest := []) (v := x2) (r := r) C (Nat.le_refl _) hH.1 hH.2.2.2.2.1 hH.2.2.2.2.2 hl.1 (show uGV RL 55 yX11_switchRule cX11_switchRule 3 6 (some .int) from ⟨gWV tw486 tw487 tw488 tw1 tw489, ⟨by decide, by decide, by decide⟩⟩) (RX11, TX11, 12) rfl rfl (by decide) hR.kx (mX11_switchRule e1) ⟨rfl, rfl⟩ rfl ⟨by decide, by decide⟩ rfl (Nat.le_of_ble_eq_true rfl) ⟨Nat.le_trans (Nat.add_le_add_left (by decide) _) hc, Nat.le_trans (Nat.add_le_add_left (by decide) _) hs⟩ dL_law_625 (fun H1 a1 a2 a3 a4 => ?_)
  have hH1 := hH.callx a1 a2 a3 a4
  obtain ⟨r2, x3, m2, T2, e2, e4, hR2⟩ := s_switchRule (x1 := (xs (i + 1))) (x2 := (xs (i + 2))) (x3 := (b01 (xs (i + 3)))) (hR.rzm (H1.size - B1)) (b01_ok _)
  have e5 := Option.some.inj (e1.symm.trans e2)
  obtain rfl : r = r2 := (Prod.mk.inj e5).1
  obtain rfl : x2 = x3 := (Prod.mk.inj e5).2
  refine lv_aload_n hx hb dL_law_628 rfl (lv_at hl 2 rfl) ?_
  refine lg_arg C hL hH1.S hl rfl rfl 1 (by omega) dL_law_629 dL_law_630 dL_law_631 (by decide) dL_law_632 dL_law_633 ?_
  refine lg_arg C hL hH1.S hl rfl rfl 2 (by omega) dL_law_634 dL_law_635 dL_law_636 (by decide) dL_law_637 dL_law_638 ?_
  refine lg_arg C hL hH1.S hl rfl rfl 3 (by omega) dL_law_639 dL_law_640 dL_law_641 (by decide) dL_law_642 dL_law_643 ?_
  refine lg_bool C (t1 := 651) (t2 := 652) dL_law_644 rfl dL_law_647 dL_law_648 rfl dL_law_651 rfl ?_
  refine lcall_i (As := [.int (xs (i + 1)), .int (xs (i + 2)), .int (b01 (xs (i + 3)))]) (rest := [.int r]) (v := m2) (r := r) C hH.2.2.2.1 hH1.2.1 hH1.2.2.2.2.1 hH1.2.2.2.2.2 hl.1 (show uGV RL 59 yX12_switchRule cX12_switchRule 3 7 (some .int) from ⟨gWV tw1098 tw1099 tw1100 tw14 tw1101, ⟨by decide, by decide, by decide⟩⟩) (RX12, TX12, 33) rfl rfl (by decide) hR.km (mX12_switchRule e4) ⟨rfl, rfl⟩ rfl ⟨by decide, by decide⟩ rfl (Nat.le_of_ble_eq_true rfl) ⟨Nat.le_trans (Nat.le_of_eq rfl) hc, Nat.le_trans (Nat.le_of_eq rfl) hs⟩ dL_law_652 (fun H2 b1 b2 b3 b4 => ?_)
  have hH2 := hH1.callm b1 b2 b3 b4
  refine lg_eq C (tgt := 1510) dL_law_655 rfl ?_
  exact K T2 _ _ H2 (hR2.rzx (lh_fin a1 b3)) hH2
theorem lcs_10 (C : LC p s m meth c b L xs D tw) (hL : L ≤ 3584) (hR : RR T x mU) (hH : LH D s B1 x mU H) (hl : lv_has ls 4 [(0, .ref b), (1, .ref (s.heap.size + 0)), (2, .ref (B1 + 0)), (3, .int (nI i))]) (hi : i + 6 < L) (hc : cells + 1 ≤ 600000) (hs : slots + 8 ≤ 7302250) (K : ∀ T' x' m' H', RR T' x' m' → LH D s B1 x' m' H' → LG p l e s m b below meth c H' (cells + 1) (slots + 8) 1510 ls []) : LG p l e s m b below meth c H cells slots 660 ls [] := by
  have hx := C.1.1
  have hb := C.1.2.1
  obtain ⟨r, x2, _, _, e1, -, -⟩ := s_undo hR
  refine lv_aload_n hx hb dL_law_660 rfl (lv_at hl 1 rfl) ?_
  refine lcall_i (As := []) (rest := []) (v := x2) (r := r) C (Nat.le_refl _) hH.1 hH.2.2.2.2.1 hH.2.2.2.2.2 hl.1 (show uGV RL 60 yX11_undo cX11_undo 0 1 (some .int) from ⟨gWV tw494 tw495 tw496 tw1 tw497, ⟨by decide, by decide, by decide⟩⟩) (RX11, TX11, 12) rfl rfl (by decide) hR.kx (mX11_undo e1) ⟨rfl, rfl⟩ rfl ⟨by decide, by decide⟩ rfl (Nat.le_of_ble_eq_true rfl) ⟨Nat.le_trans (Nat.add_le_add_left (by decide) _) hc, Nat.le_trans (Nat.add_le_add_left (by decide) _) hs⟩ dL_law_661 (fun H1 a1 a2 a3 a4 => ?_)
  have hH1 := hH.callx a1 a2 a3 a4
  obtain ⟨r2, x3, m2, T2, e2, e4, hR2⟩ := s_undo (hR.rzm (H1.size - B1))
  have e5 := Option.some.inj (e1.symm.trans e2)
  obtain rfl : r = r2 := (Prod.mk.inj e5).1
  obtain rfl : x2 = x3 := (Prod.mk.inj e5).2
  refine lv_aload_n hx hb dL_law_664 rfl (lv_at hl 2 rfl) ?_
  refine lcall_i (As := []) (rest := [.int r]) (v := m2) (r := r) C hH.2.2.2.1 hH1.2.1 hH1.2.2.2.2.1 hH1.2.2.2.2.2 hl.1 (show uGV RL 64 yX12_undo cX12_undo 0 2 (some .int) from ⟨gWV tw1030 tw1031 tw1032 tw14 tw1033, ⟨by decide, by decide, by decide⟩⟩) (RX12, TX12, 33) rfl rfl (by decide) hR.km (mX12_undo e4) ⟨rfl, rfl⟩ rfl ⟨by decide, by decide⟩ rfl (Nat.le_of_ble_eq_true rfl) ⟨Nat.le_trans (Nat.le_add_right _ 1) hc, Nat.le_trans (Nat.le_add_right _ 8) hs⟩ dL_law_665 (fun H2 b1 b2 b3 b4 => ?_)
  have hH2 := hH1.callm b1 b2 b3 b4
  refine lg_eq C (tgt := 1510) dL_law_668 rfl ?_
  refine W.widen (k := cells + 1) (n := slots + 8) (Nat.le_add_right _ 1) (Nat.le_add_right _ 8) ?_
  exact K T2 _ _ H2 (hR2.rzx (lh_fin a1 b3)) hH2
theorem lcs_11 (C : LC p s m meth c b L xs D tw) (hL : L ≤ 3584) (hR : RR T x mU) (hH : LH D s B1 x mU H) (hl : lv_has ls 4 [(0, .ref b), (1, .ref (s.heap.size + 0)), (2, .ref (B1 + 0)), (3, .int (nI i))]) (hi : i + 6 < L) (hc : cells + 1 ≤ 600000) (hs : slots + 8 ≤ 7302250) (K : ∀ T' x' m' H', RR T' x' m' → LH D s B1 x' m' H' → LG p l e s m b below meth c H' (cells + 1) (slots + 8) 1510 ls []) : LG p l e s m b below meth c H cells slots 673 ls [] := by
  have hx := C.1.1
  have hb := C.1.2.1
  obtain ⟨r, e1, e3⟩ := s_rule (x1 := (xs (i + 1))) (x2 := (xs (i + 2))) (x3 := (xs (i + 3))) hR
  refine lv_aload_n hx hb dL_law_673 rfl (lv_at hl 1 rfl) ?_
  refine lg_arg C hL hH.S hl rfl rfl 1 (by omega) dL_law_674 dL_law_675 dL_law_676 (by decide) dL_law_677 dL_law_678 ?_
  refine lg_arg C hL hH.S hl rfl rfl 2 (by omega) dL_law_679 dL_law_680 dL_law_681 (by decide) dL_law_682 dL_law_683 ?_
  refine lg_arg C hL hH.S hl rfl rfl 3 (by omega) dL_law_684 dL_law_685 dL_law_686 (by decide) dL_law_687 dL_law_688 ?_
  refine lcall_i (As := [.int (xs (i + 1)), .int (xs (i + 2)), .int (xs (i + 3))]) (rest := []) (v := x) (r := r) C (Nat.le_refl _) hH.1 hH.2.2.2.2.1 hH.2.2.2.2.2 hl.1 (show uGV RL 65 yX11_rule cX11_rule 3 6 (some .int) from ⟨gWV tw502 tw503 tw504 tw1 tw505, ⟨by decide, by decide, by decide⟩⟩) (RX11, TX11, 12) rfl rfl (by decide) hR.kx (mX11_rule e1) ⟨rfl, rfl⟩ rfl ⟨by decide, by decide⟩ rfl (Nat.le_of_ble_eq_true rfl) ⟨Nat.le_trans (Nat.add_le_add_left (by decide) _) hc, Nat.le_trans (Nat.add_le_add_left (by decide) _) hs⟩ dL_law_689 (fun H1 a1 a2 a3 a4 => ?_)
  have hH1 := hH.callx a1 a2 a3 a4
  obtain ⟨r2, e2, e4⟩ := s_rule (x1 := (xs (i + 1))) (x2 := (xs (i + 2))) (x3 := (xs (i + 3))) (hR.rzm (H1.size - B1))
  obtain rfl : r = r2 := Option.some.inj (e1.symm.trans e2)
  refine lv_aload_n hx hb dL_law_692 rfl (lv_at hl 2 rfl) ?_
  refine lg_arg C hL hH1.S hl rfl rfl 1 (by omega) dL_law_693 dL_law_694 dL_law_695 (by decide) dL_law_696 dL_law_697 ?_
  refine lg_arg C hL hH1.S hl rfl rfl 2 (by omega) dL_law_698 dL_law_699 dL_law_700 (by decide) dL_law_701 dL_law_702 ?_
  refine lg_arg C hL hH1.S hl rfl rfl 3 (by omega) dL_law_703 dL_law_704 dL_law_705 (by decide) dL_law_706 dL_law_707 ?_
  refine lcall_i (As := [.int (xs (i + 1)), .int (xs (i + 2)), .int (xs (i + 3))]) (rest := [.int r]) (v := uRz mU (H1.size - B1)) (r := r) C hH.2.2.2.1 hH1.2.1 hH1.2.2.2.2.1 hH1.2.2.2.2.2 hl.1 (show uGV RL 68 yX12_rule cX12_rule 3 5 (some .int) from ⟨gWV tw1102 tw1103 tw1104 tw14 tw1105, ⟨by decide, by decide, by decide⟩⟩) (RX12, TX12, 33) rfl rfl (by decide) hR.km (mX12_rule e4) ⟨rfl, rfl⟩ rfl ⟨by decide, by decide⟩ rfl (Nat.le_of_ble_eq_true rfl) ⟨Nat.le_trans (Nat.le_add_right _ 1) hc, Nat.le_trans (Nat.le_add_right _ 8) hs⟩ dL_law_708 (fun H2 b1 b2 b3 b4 => ?_)
  have hH2 := hH1.callm b1 b2 b3 b4
  refine lg_eq C (tgt := 1510) dL_law_711 rfl ?_
  refine W.widen (k := cells + 1) (n := slots + 8) (Nat.le_add_right _ 1) (Nat.le_add_right _ 8) ?_
  exact K T _ _ H2 ((hR.rzm _).rzx (lh_fin a1 b3)) hH2
theorem lcs_12 (C : LC p s m meth c b L xs D tw) (hL : L ≤ 3584) (hR : RR T x mU) (hH : LH D s B1 x mU H) (hl : lv_has ls 4 [(0, .ref b), (1, .ref (s.heap.size + 0)), (2, .ref (B1 + 0)), (3, .int (nI i))]) (hi : i + 6 < L) (hc : cells + 1 ≤ 600000) (hs : slots + 8 ≤ 7302250) (K : ∀ T' x' m' H', RR T' x' m' → LH D s B1 x' m' H' → LG p l e s m b below meth c H' (cells + 1) (slots + 8) 1510 ls []) : LG p l e s m b below meth c H cells slots 716 ls [] := by
  have hx := C.1.1
  have hb := C.1.2.1
  obtain ⟨r, e1, e3⟩ := s_count (x1 := (xs (i + 1))) hR
  refine lv_aload_n hx hb dL_law_716 rfl (lv_at hl 1 rfl) ?_
  refine lg_arg C hL hH.S hl rfl rfl 1 (by omega) dL_law_717 dL_law_718 dL_law_719 (by decide) dL_law_720 dL_law_721 ?_
  refine lcall_i (As := [.int (xs (i + 1))]) (rest := []) (v := x) (r := r) C (Nat.le_refl _) hH.1 hH.2.2.2.2.1 hH.2.2.2.2.2 hl.1 (show uGV RL 69 yX11_count cX11_count 1 2 (some .int) from ⟨gWV tw506 tw507 tw508 tw1 tw509, ⟨by decide, by decide, by decide⟩⟩) (RX11, TX11, 12) rfl rfl (by decide) hR.kx (mX11_count e1) ⟨rfl, rfl⟩ rfl ⟨by decide, by decide⟩ rfl (Nat.le_of_ble_eq_true rfl) ⟨Nat.le_trans (Nat.add_le_add_left (by decide) _) hc, Nat.le_trans (Nat.add_le_add_left (by decide) _) hs⟩ dL_law_722 (fun H1 a1 a2 a3 a4 => ?_)
  have hH1 := hH.callx a1 a2 a3 a4
  obtain ⟨r2, e2, e4⟩ := s_count (x1 := (xs (i + 1))) (hR.rzm (H1.size - B1))
  obtain rfl : r = r2 := Option.some.inj (e1.symm.trans e2)
  refine lv_aload_n hx hb dL_law_725 rfl (lv_at hl 2 rfl) ?_
  refine lg_arg C hL hH1.S hl rfl rfl 1 (by omega) dL_law_726 dL_law_727 dL_law_728 (by decide) dL_law_729 dL_law_730 ?_
  refine lcall_i (As := [.int (xs (i + 1))]) (rest := [.int r]) (v := uRz mU (H1.size - B1)) (r := r) C hH.2.2.2.1 hH1.2.1 hH1.2.2.2.2.1 hH1.2.2.2.2.2 hl.1 (show uGV RL 72 yX12_count cX12_count 1 4 (some .int) from ⟨gWV tw1106 tw1107 tw1108 tw14 tw1109, ⟨by decide, by decide, by decide⟩⟩) (RX12, TX12, 33) rfl rfl (by decide) hR.km (mX12_count e4) ⟨rfl, rfl⟩ rfl ⟨by decide, by decide⟩ rfl (Nat.le_of_ble_eq_true rfl) ⟨Nat.le_trans (Nat.le_add_right _ 1) hc, Nat.le_trans (Nat.le_add_right _ 8) hs⟩ dL_law_731 (fun H2 b1 b2 b3 b4 => ?_)
  have hH2 := hH1.callm b1 b2 b3 b4
  refine lg_eq C (tgt := 1510) dL_law_734 rfl ?_
  refine W.widen (k := cells + 1) (n := slots + 8) (Nat.le_add_right _ 1) (Nat.le_add_right _ 8) ?_
  exact K T _ _ H2 ((hR.rzm _).rzx (lh_fin a1 b3)) hH2
theorem lcs_13 (C : LC p s m meth c b L xs D tw) (hL : L ≤ 3584) (hR : RR T x mU) (hH : LH D s B1 x mU H) (hl : lv_has ls 4 [(0, .ref b), (1, .ref (s.heap.size + 0)), (2, .ref (B1 + 0)), (3, .int (nI i))]) (hi : i + 6 < L) (hc : cells + 1 ≤ 600000) (hs : slots + 8 ≤ 7302250) (K : ∀ T' x' m' H', RR T' x' m' → LH D s B1 x' m' H' → LG p l e s m b below meth c H' (cells + 1) (slots + 8) 1510 ls []) : LG p l e s m b below meth c H cells slots 739 ls [] := by
  have hx := C.1.1
  have hb := C.1.2.1
  obtain ⟨r, e1, e3⟩ := s_shadowed (x1 := (xs (i + 1))) hR
  refine lv_aload_n hx hb dL_law_739 rfl (lv_at hl 1 rfl) ?_
  refine lg_arg C hL hH.S hl rfl rfl 1 (by omega) dL_law_740 dL_law_741 dL_law_742 (by decide) dL_law_743 dL_law_744 ?_
  refine lcall_i (As := [.int (xs (i + 1))]) (rest := []) (v := x) (r := r) C (Nat.le_refl _) hH.1 hH.2.2.2.2.1 hH.2.2.2.2.2 hl.1 (show uGV RL 73 yX11_shadowed cX11_shadowed 1 2 (some .int) from ⟨gWV tw514 tw515 tw516 tw1 tw517, ⟨by decide, by decide, by decide⟩⟩) (RX11, TX11, 12) rfl rfl (by decide) hR.kx (mX11_shadowed e1) ⟨rfl, rfl⟩ rfl ⟨by decide, by decide⟩ rfl (Nat.le_of_ble_eq_true rfl) ⟨Nat.le_trans (Nat.add_le_add_left (by decide) _) hc, Nat.le_trans (Nat.add_le_add_left (by decide) _) hs⟩ dL_law_745 (fun H1 a1 a2 a3 a4 => ?_)
  have hH1 := hH.callx a1 a2 a3 a4
  obtain ⟨r2, e2, e4⟩ := s_shadowed (x1 := (xs (i + 1))) (hR.rzm (H1.size - B1))
  obtain rfl : r = r2 := Option.some.inj (e1.symm.trans e2)
  refine lv_aload_n hx hb dL_law_748 rfl (lv_at hl 2 rfl) ?_
  refine lg_arg C hL hH1.S hl rfl rfl 1 (by omega) dL_law_749 dL_law_750 dL_law_751 (by decide) dL_law_752 dL_law_753 ?_
  refine lcall_i (As := [.int (xs (i + 1))]) (rest := [.int r]) (v := uRz mU (H1.size - B1)) (r := r) C hH.2.2.2.1 hH1.2.1 hH1.2.2.2.2.1 hH1.2.2.2.2.2 hl.1 (show uGV RL 76 yX12_shadowed cX12_shadowed 1 6 (some .int) from ⟨gWV tw1110 tw1111 tw1112 tw14 tw1113, ⟨by decide, by decide, by decide⟩⟩) (RX12, TX12, 33) rfl rfl (by decide) hR.km (mX12_shadowed e4) ⟨rfl, rfl⟩ rfl ⟨by decide, by decide⟩ rfl (Nat.le_of_ble_eq_true rfl) ⟨Nat.le_trans (Nat.le_add_right _ 1) hc, Nat.le_trans (Nat.le_add_right _ 8) hs⟩ dL_law_754 (fun H2 b1 b2 b3 b4 => ?_)
  have hH2 := hH1.callm b1 b2 b3 b4
  refine lg_eq C (tgt := 1510) dL_law_757 rfl ?_
  refine W.widen (k := cells + 1) (n := slots + 8) (Nat.le_add_right _ 1) (Nat.le_add_right _ 8) ?_
  exact K T _ _ H2 ((hR.rzm _).rzx (lh_fin a1 b3)) hH2
theorem lcs_14 (C : LC p s m meth c b L xs D tw) (hL : L ≤ 3584) (hR : RR T x mU) (hH : LH D s B1 x mU H) (hl : lv_has ls 4 [(0, .ref b), (1, .ref (s.heap.size + 0)), (2, .ref (B1 + 0)), (3, .int (nI i))]) (hi : i + 6 < L) (hc : cells + 1 ≤ 600000) (hs : slots + 8 ≤ 7302250) (K : ∀ T' x' m' H', RR T' x' m' → LH D s B1 x' m' H' → LG p l e s m b below meth c H' (cells + 1) (slots + 8) 1510 ls []) : LG p l e s m b below meth c H cells slots 762 ls [] := by
  have hx := C.1.1
  have hb := C.1.2.1
  obtain ⟨r, x2, _, _, e1, -, -⟩ := s_inject (x1 := (xs (i + 1))) (x2 := (xs (i + 2))) (x3 := (xs (i + 3))) (x4 := (xs (i + 4))) hR
  refine lv_aload_n hx hb dL_law_762 rfl (lv_at hl 1 rfl) ?_
  refine lg_arg C hL hH.S hl rfl rfl 1 (by omega) dL_law_763 dL_law_764 dL_law_765 (by decide) dL_law_766 dL_law_767 ?_
  refine lg_arg C hL hH.S hl rfl rfl 2 (by omega) dL_law_768 dL_law_769 dL_law_770 (by decide) dL_law_771 dL_law_772 ?_
  refine lg_arg C hL hH.S hl rfl rfl 3 (by omega) dL_law_773 dL_law_774 dL_law_775 (by decide) dL_law_776 dL_law_777 ?_
  refine lg_arg C hL hH.S hl rfl rfl 4 (by omega) dL_law_778 dL_law_779 dL_law_780 (by decide) dL_law_781 dL_law_782 ?_
  refine lcall_i (As := [.int (xs (i + 1)), .int (xs (i + 2)), .int (xs (i + 3)), .int (xs (i + 4))]) (rest := []) (v := x2) (r := r) C (Nat.le_refl _) hH.1 hH.2.2.2.2.1 hH.2.2.2.2.2 hl.1 (show uGV RL 77 yX11_inject cX11_inject 4 5 (some .int) from ⟨gWV tw539 tw540 tw541 tw1 tw542, ⟨by decide, by decide, by decide⟩⟩) (RX11, TX11, 12) rfl rfl (by decide) hR.kx (mX11_inject e1) ⟨rfl, rfl⟩ rfl ⟨by decide, by decide⟩ rfl (Nat.le_of_ble_eq_true rfl) ⟨Nat.le_trans (Nat.add_le_add_left (by decide) _) hc, Nat.le_trans (Nat.add_le_add_left (by decide) _) hs⟩ dL_law_783 (fun H1 a1 a2 a3 a4 => ?_)
  have hH1 := hH.callx a1 a2 a3 a4
  obtain ⟨r2, x3, m2, T2, e2, e4, hR2⟩ := s_inject (x1 := (xs (i + 1))) (x2 := (xs (i + 2))) (x3 := (xs (i + 3))) (x4 := (xs (i + 4))) (hR.rzm (H1.size - B1))
  have e5 := Option.some.inj (e1.symm.trans e2)
  obtain rfl : r = r2 := (Prod.mk.inj e5).1
  obtain rfl : x2 = x3 := (Prod.mk.inj e5).2
  refine lv_aload_n hx hb dL_law_786 rfl (lv_at hl 2 rfl) ?_
  refine lg_arg C hL hH1.S hl rfl rfl 1 (by omega) dL_law_787 dL_law_788 dL_law_789 (by decide) dL_law_790 dL_law_791 ?_
  refine lg_arg C hL hH1.S hl rfl rfl 2 (by omega) dL_law_792 dL_law_793 dL_law_794 (by decide) dL_law_795 dL_law_796 ?_
  refine lg_arg C hL hH1.S hl rfl rfl 3 (by omega) dL_law_797 dL_law_798 dL_law_799 (by decide) dL_law_800 dL_law_801 ?_
  refine lg_arg C hL hH1.S hl rfl rfl 4 (by omega) dL_law_802 dL_law_803 dL_law_804 (by decide) dL_law_805 dL_law_806 ?_
  refine lcall_i (As := [.int (xs (i + 1)), .int (xs (i + 2)), .int (xs (i + 3)), .int (xs (i + 4))]) (rest := [.int r]) (v := m2) (r := r) C hH.2.2.2.1 hH1.2.1 hH1.2.2.2.2.1 hH1.2.2.2.2.2 hl.1 (show uGV RL 80 yX12_inject cX12_inject 4 5 (some .int) from ⟨gWV tw1122 tw1123 tw1124 tw14 tw1125, ⟨by decide, by decide, by decide⟩⟩) (RX12, TX12, 33) rfl rfl (by decide) hR.km (mX12_inject e4) ⟨rfl, rfl⟩ rfl ⟨by decide, by decide⟩ rfl (Nat.le_of_ble_eq_true rfl) ⟨Nat.le_trans (Nat.le_add_right _ 1) hc, Nat.le_trans (Nat.le_add_right _ 8) hs⟩ dL_law_807 (fun H2 b1 b2 b3 b4 => ?_)
  have hH2 := hH1.callm b1 b2 b3 b4
  refine lg_eq C (tgt := 1510) dL_law_810 rfl ?_
  refine W.widen (k := cells + 1) (n := slots + 8) (Nat.le_add_right _ 1) (Nat.le_add_right _ 8) ?_
  exact K T2 _ _ H2 (hR2.rzx (lh_fin a1 b3)) hH2
theorem lcs_15 (C : LC p s m meth c b L xs D tw) (hL : L ≤ 3584) (hR : RR T x mU) (hH : LH D s B1 x mU H) (hl : lv_has ls 4 [(0, .ref b), (1, .ref (s.heap.size + 0)), (2, .ref (B1 + 0)), (3, .int (nI i))]) (hi : i + 6 < L) (hc : cells + 1 ≤ 600000) (hs : slots + 8 ≤ 7302250) (K : ∀ T' x' m' H', RR T' x' m' → LH D s B1 x' m' H' → LG p l e s m b below meth c H' (cells + 1) (slots + 8) 1510 ls []) : LG p l e s m b below meth c H cells slots 815 ls [] := by
  have hx := C.1.1
  have hb := C.1.2.1
  obtain ⟨r, x2, _, _, e1, -, -⟩ := s_arriving (x1 := (xs (i + 1))) (x2 := (xs (i + 2))) hR
  refine lv_aload_n hx hb dL_law_815 rfl (lv_at hl 1 rfl) ?_
  refine lg_arg C hL hH.S hl rfl rfl 1 (by omega) dL_law_816 dL_law_817 dL_law_818 (by decide) dL_law_819 dL_law_820 ?_
  refine lg_arg C hL hH.S hl rfl rfl 2 (by omega) dL_law_821 dL_law_822 dL_law_823 (by decide) dL_law_824 dL_law_825 ?_
  refine lcall_l (As := [.int (xs (i + 1)), .int (xs (i + 2))]) (rest := []) (v := x2) (r := r) C (Nat.le_refl _) hH.1 hH.2.2.2.2.1 hH.2.2.2.2.2 hl.1 (show uGV RL 81 yX11_arriving cX11_arriving 2 3 (some .long) from ⟨gWV tw550 tw551 tw552 tw1 tw553, ⟨by decide, by decide, by decide⟩⟩) (RX11, TX11, 12) rfl rfl (by decide) hR.kx (mX11_arriving e1) ⟨rfl, rfl⟩ rfl ⟨by decide, by decide⟩ rfl (Nat.le_of_ble_eq_true rfl) ⟨Nat.le_trans (Nat.add_le_add_left (by decide) _) hc, Nat.le_trans (Nat.add_le_add_left (by decide) _) hs⟩ dL_law_826 (fun H1 a1 a2 a3 a4 => ?_)
  have hH1 := hH.callx a1 a2 a3 a4
  obtain ⟨r2, x3, m2, T2, e2, e4, hR2⟩ := s_arriving (x1 := (xs (i + 1))) (x2 := (xs (i + 2))) (hR.rzm (H1.size - B1))
  have e5 := Option.some.inj (e1.symm.trans e2)
  obtain rfl : r = r2 := (Prod.mk.inj e5).1
  obtain rfl : x2 = x3 := (Prod.mk.inj e5).2
  refine lv_aload_n hx hb dL_law_829 rfl (lv_at hl 2 rfl) ?_
  refine lg_arg C hL hH1.S hl rfl rfl 1 (by omega) dL_law_830 dL_law_831 dL_law_832 (by decide) dL_law_833 dL_law_834 ?_
  refine lg_arg C hL hH1.S hl rfl rfl 2 (by omega) dL_law_835 dL_law_836 dL_law_837 (by decide) dL_law_838 dL_law_839 ?_
  refine lcall_l (As := [.int (xs (i + 1)), .int (xs (i + 2))]) (rest := [.long r]) (v := m2) (r := r) C hH.2.2.2.1 hH1.2.1 hH1.2.2.2.2.1 hH1.2.2.2.2.2 hl.1 (show uGV RL 85 yX12_arriving cX12_arriving 2 3 (some .long) from ⟨gWV tw1137 tw1138 tw1139 tw14 tw1140, ⟨by decide, by decide, by decide⟩⟩) (RX12, TX12, 33) rfl rfl (by decide) hR.km (mX12_arriving e4) ⟨rfl, rfl⟩ rfl ⟨by decide, by decide⟩ rfl (Nat.le_of_ble_eq_true rfl) ⟨Nat.le_trans (Nat.le_add_right _ 1) hc, Nat.le_trans (Nat.le_add_right _ 8) hs⟩ dL_law_840 (fun H2 b1 b2 b3 b4 => ?_)
  have hH2 := hH1.callm b1 b2 b3 b4
  refine lg_eql C (tgt := 1510) dL_law_843 dL_law_844 rfl ?_
  refine W.widen (k := cells + 1) (n := slots + 8) (Nat.le_add_right _ 1) (Nat.le_add_right _ 8) ?_
  exact K T2 _ _ H2 (hR2.rzx (lh_fin a1 b3)) hH2
theorem lcs_16 (C : LC p s m meth c b L xs D tw) (hL : L ≤ 3584) (hR : RR T x mU) (hH : LH D s B1 x mU H) (hl : lv_has ls 4 [(0, .ref b), (1, .ref (s.heap.size + 0)), (2, .ref (B1 + 0)), (3, .int (nI i))]) (hi : i + 6 < L) (hc : cells + 1 ≤ 600000) (hs : slots + 8 ≤ 7302250) (K : ∀ T' x' m' H', RR T' x' m' → LH D s B1 x' m' H' → LG p l e s m b below meth c H' (cells + 1) (slots + 8) 1510 ls []) : LG p l e s m b below meth c H cells slots 849 ls [] := by
  have hx := C.1.1
  have hb := C.1.2.1
  obtain ⟨r, x2, _, _, e1, -, -⟩ := s_delivered (x1 := (xs (i + 1))) (x2 := (xs (i + 2))) hR
  refine lv_aload_n hx hb dL_law_849 rfl (lv_at hl 1 rfl) ?_
  refine lg_arg C hL hH.S hl rfl rfl 1 (by omega) dL_law_850 dL_law_851 dL_law_852 (by decide) dL_law_853 dL_law_854 ?_
  refine lg_arg C hL hH.S hl rfl rfl 2 (by omega) dL_law_855 dL_law_856 dL_law_857 (by decide) dL_law_858 dL_law_859 ?_
  refine lcall_l (As := [.int (xs (i + 1)), .int (xs (i + 2))]) (rest := []) (v := x2) (r := r) C (Nat.le_refl _) hH.1 hH.2.2.2.2.1 hH.2.2.2.2.2 hl.1 (show uGV RL 86 yX11_delivered cX11_delivered 2 3 (some .long) from ⟨gWV tw598 tw599 tw600 tw1 tw601, ⟨by decide, by decide, by decide⟩⟩) (RX11, TX11, 12) rfl rfl (by decide) hR.kx (mX11_delivered e1) ⟨rfl, rfl⟩ rfl ⟨by decide, by decide⟩ rfl (Nat.le_of_ble_eq_true rfl) ⟨Nat.le_trans (Nat.add_le_add_left (by decide) _) hc, Nat.le_trans (Nat.add_le_add_left (by decide) _) hs⟩ dL_law_860 (fun H1 a1 a2 a3 a4 => ?_)
  have hH1 := hH.callx a1 a2 a3 a4
  obtain ⟨r2, x3, m2, T2, e2, e4, hR2⟩ := s_delivered (x1 := (xs (i + 1))) (x2 := (xs (i + 2))) (hR.rzm (H1.size - B1))
  have e5 := Option.some.inj (e1.symm.trans e2)
  obtain rfl : r = r2 := (Prod.mk.inj e5).1
  obtain rfl : x2 = x3 := (Prod.mk.inj e5).2
  refine lv_aload_n hx hb dL_law_863 rfl (lv_at hl 2 rfl) ?_
  refine lg_arg C hL hH1.S hl rfl rfl 1 (by omega) dL_law_864 dL_law_865 dL_law_866 (by decide) dL_law_867 dL_law_868 ?_
  refine lg_arg C hL hH1.S hl rfl rfl 2 (by omega) dL_law_869 dL_law_870 dL_law_871 (by decide) dL_law_872 dL_law_873 ?_
  refine lcall_l (As := [.int (xs (i + 1)), .int (xs (i + 2))]) (rest := [.long r]) (v := m2) (r := r) C hH.2.2.2.1 hH1.2.1 hH1.2.2.2.2.1 hH1.2.2.2.2.2 hl.1 (show uGV RL 89 yX12_delivered cX12_delivered 2 3 (some .long) from ⟨gWV tw1162 tw1163 tw1164 tw14 tw1165, ⟨by decide, by decide, by decide⟩⟩) (RX12, TX12, 33) rfl rfl (by decide) hR.km (mX12_delivered e4) ⟨rfl, rfl⟩ rfl ⟨by decide, by decide⟩ rfl (Nat.le_of_ble_eq_true rfl) ⟨Nat.le_trans (Nat.le_add_right _ 1) hc, Nat.le_trans (Nat.le_add_right _ 8) hs⟩ dL_law_874 (fun H2 b1 b2 b3 b4 => ?_)
  have hH2 := hH1.callm b1 b2 b3 b4
  refine lg_eql C (tgt := 1510) dL_law_877 dL_law_878 rfl ?_
  refine W.widen (k := cells + 1) (n := slots + 8) (Nat.le_add_right _ 1) (Nat.le_add_right _ 8) ?_
  exact K T2 _ _ H2 (hR2.rzx (lh_fin a1 b3)) hH2
theorem lcs_17 (C : LC p s m meth c b L xs D tw) (hL : L ≤ 3584) (hR : RR T x mU) (hH : LH D s B1 x mU H) (hl : lv_has ls 4 [(0, .ref b), (1, .ref (s.heap.size + 0)), (2, .ref (B1 + 0)), (3, .int (nI i))]) (hi : i + 6 < L) (hc : cells + 1 ≤ 600000) (hs : slots + 8 ≤ 7302250) (K : ∀ T' x' m' H', RR T' x' m' → LH D s B1 x' m' H' → LG p l e s m b below meth c H' (cells + 1) (slots + 8) 1510 ls []) : LG p l e s m b below meth c H cells slots 883 ls [] := by
  have hx := C.1.1
  have hb := C.1.2.1
  obtain ⟨r, x2, _, _, e1, -, -⟩ := s_arrivals (x1 := (xs (i + 1))) (x2 := (xs (i + 2))) hR
  refine lv_aload_n hx hb dL_law_883 rfl (lv_at hl 1 rfl) ?_
  refine lg_arg C hL hH.S hl rfl rfl 1 (by omega) dL_law_884 dL_law_885 dL_law_886 (by decide) dL_law_887 dL_law_888 ?_
  refine lg_arg C hL hH.S hl rfl rfl 2 (by omega) dL_law_889 dL_law_890 dL_law_891 (by decide) dL_law_892 dL_law_893 ?_
  refine lcall_i (As := [.int (xs (i + 1)), .int (xs (i + 2))]) (rest := []) (v := x2) (r := r) C (Nat.le_refl _) hH.1 hH.2.2.2.2.1 hH.2.2.2.2.2 hl.1 (show uGV RL 90 yX11_arrivals cX11_arrivals 2 3 (some .int) from ⟨gWV tw611 tw612 tw613 tw1 tw614, ⟨by decide, by decide, by decide⟩⟩) (RX11, TX11, 12) rfl rfl (by decide) hR.kx (mX11_arrivals e1) ⟨rfl, rfl⟩ rfl ⟨by decide, by decide⟩ rfl (Nat.le_of_ble_eq_true rfl) ⟨Nat.le_trans (Nat.add_le_add_left (by decide) _) hc, Nat.le_trans (Nat.add_le_add_left (by decide) _) hs⟩ dL_law_894 (fun H1 a1 a2 a3 a4 => ?_)
  have hH1 := hH.callx a1 a2 a3 a4
  obtain ⟨r2, x3, m2, T2, e2, e4, hR2⟩ := s_arrivals (x1 := (xs (i + 1))) (x2 := (xs (i + 2))) (hR.rzm (H1.size - B1))
  have e5 := Option.some.inj (e1.symm.trans e2)
  obtain rfl : r = r2 := (Prod.mk.inj e5).1
  obtain rfl : x2 = x3 := (Prod.mk.inj e5).2
  refine lv_aload_n hx hb dL_law_897 rfl (lv_at hl 2 rfl) ?_
  refine lg_arg C hL hH1.S hl rfl rfl 1 (by omega) dL_law_898 dL_law_899 dL_law_900 (by decide) dL_law_901 dL_law_902 ?_
  refine lg_arg C hL hH1.S hl rfl rfl 2 (by omega) dL_law_903 dL_law_904 dL_law_905 (by decide) dL_law_906 dL_law_907 ?_
  refine lcall_i (As := [.int (xs (i + 1)), .int (xs (i + 2))]) (rest := [.int r]) (v := m2) (r := r) C hH.2.2.2.1 hH1.2.1 hH1.2.2.2.2.1 hH1.2.2.2.2.2 hl.1 (show uGV RL 93 yX12_arrivals cX12_arrivals 2 6 (some .int) from ⟨gWV tw1166 tw1167 tw1168 tw14 tw1169, ⟨by decide, by decide, by decide⟩⟩) (RX12, TX12, 33) rfl rfl (by decide) hR.km (mX12_arrivals e4) ⟨rfl, rfl⟩ rfl ⟨by decide, by decide⟩ rfl (Nat.le_of_ble_eq_true rfl) ⟨Nat.le_trans (Nat.le_add_right _ 1) hc, Nat.le_trans (Nat.le_add_right _ 8) hs⟩ dL_law_908 (fun H2 b1 b2 b3 b4 => ?_)
  have hH2 := hH1.callm b1 b2 b3 b4
  refine lg_eq C (tgt := 1510) dL_law_911 rfl ?_
  refine W.widen (k := cells + 1) (n := slots + 8) (Nat.le_add_right _ 1) (Nat.le_add_right _ 8) ?_
  exact K T2 _ _ H2 (hR2.rzx (lh_fin a1 b3)) hH2
theorem lcs_18 (C : LC p s m meth c b L xs D tw) (hL : L ≤ 3584) (hR : RR T x mU) (hH : LH D s B1 x mU H) (hl : lv_has ls 4 [(0, .ref b), (1, .ref (s.heap.size + 0)), (2, .ref (B1 + 0)), (3, .int (nI i))]) (hi : i + 6 < L) (hc : cells + 1 ≤ 600000) (hs : slots + 8 ≤ 7302250) (K : ∀ T' x' m' H', RR T' x' m' → LH D s B1 x' m' H' → LG p l e s m b below meth c H' (cells + 1) (slots + 8) 1510 ls []) : LG p l e s m b below meth c H cells slots 916 ls [] := by
  have hx := C.1.1
  have hb := C.1.2.1
  obtain ⟨r, x2, _, _, e1, -, -⟩ := s_hits (x1 := (xs (i + 1))) (x2 := (xs (i + 2))) hR
  refine lv_aload_n hx hb dL_law_916 rfl (lv_at hl 1 rfl) ?_
  refine lg_arg C hL hH.S hl rfl rfl 1 (by omega) dL_law_917 dL_law_918 dL_law_919 (by decide) dL_law_920 dL_law_921 ?_
  refine lg_arg C hL hH.S hl rfl rfl 2 (by omega) dL_law_922 dL_law_923 dL_law_924 (by decide) dL_law_925 dL_law_926 ?_
  refine lcall_i (As := [.int (xs (i + 1)), .int (xs (i + 2))]) (rest := []) (v := x2) (r := r) C (Nat.le_refl _) hH.1 hH.2.2.2.2.1 hH.2.2.2.2.2 hl.1 (show uGV RL 94 yX11_hits cX11_hits 2 4 (some .int) from ⟨gWV tw633 tw634 tw635 tw1 tw636, ⟨by decide, by decide, by decide⟩⟩) (RX11, TX11, 12) rfl rfl (by decide) hR.kx (mX11_hits e1) ⟨rfl, rfl⟩ rfl ⟨by decide, by decide⟩ rfl (Nat.le_of_ble_eq_true rfl) ⟨Nat.le_trans (Nat.add_le_add_left (by decide) _) hc, Nat.le_trans (Nat.add_le_add_left (by decide) _) hs⟩ dL_law_927 (fun H1 a1 a2 a3 a4 => ?_)
  have hH1 := hH.callx a1 a2 a3 a4
  obtain ⟨r2, x3, m2, T2, e2, e4, hR2⟩ := s_hits (x1 := (xs (i + 1))) (x2 := (xs (i + 2))) (hR.rzm (H1.size - B1))
  have e5 := Option.some.inj (e1.symm.trans e2)
  obtain rfl : r = r2 := (Prod.mk.inj e5).1
  obtain rfl : x2 = x3 := (Prod.mk.inj e5).2
  refine lv_aload_n hx hb dL_law_930 rfl (lv_at hl 2 rfl) ?_
  refine lg_arg C hL hH1.S hl rfl rfl 1 (by omega) dL_law_931 dL_law_932 dL_law_933 (by decide) dL_law_934 dL_law_935 ?_
  refine lg_arg C hL hH1.S hl rfl rfl 2 (by omega) dL_law_936 dL_law_937 dL_law_938 (by decide) dL_law_939 dL_law_940 ?_
  refine lcall_i (As := [.int (xs (i + 1)), .int (xs (i + 2))]) (rest := [.int r]) (v := m2) (r := r) C hH.2.2.2.1 hH1.2.1 hH1.2.2.2.2.1 hH1.2.2.2.2.2 hl.1 (show uGV RL 97 yX12_hits cX12_hits 2 4 (some .int) from ⟨gWV tw1174 tw1175 tw1176 tw14 tw1177, ⟨by decide, by decide, by decide⟩⟩) (RX12, TX12, 33) rfl rfl (by decide) hR.km (mX12_hits e4) ⟨rfl, rfl⟩ rfl ⟨by decide, by decide⟩ rfl (Nat.le_of_ble_eq_true rfl) ⟨Nat.le_trans (Nat.le_add_right _ 1) hc, Nat.le_trans (Nat.le_add_right _ 8) hs⟩ dL_law_941 (fun H2 b1 b2 b3 b4 => ?_)
  have hH2 := hH1.callm b1 b2 b3 b4
  refine lg_eq C (tgt := 1510) dL_law_944 rfl ?_
  refine W.widen (k := cells + 1) (n := slots + 8) (Nat.le_add_right _ 1) (Nat.le_add_right _ 8) ?_
  exact K T2 _ _ H2 (hR2.rzx (lh_fin a1 b3)) hH2
theorem lcs_19 (C : LC p s m meth c b L xs D tw) (hL : L ≤ 3584) (hR : RR T x mU) (hH : LH D s B1 x mU H) (hl : lv_has ls 4 [(0, .ref b), (1, .ref (s.heap.size + 0)), (2, .ref (B1 + 0)), (3, .int (nI i))]) (hi : i + 6 < L) (hc : cells + 1 ≤ 600000) (hs : slots + 8 ≤ 7302250) (K : ∀ T' x' m' H', RR T' x' m' → LH D s B1 x' m' H' → LG p l e s m b below meth c H' (cells + 1) (slots + 8) 1510 ls []) : LG p l e s m b below meth c H cells slots 949 ls [] := by
  have hx := C.1.1
  have hb := C.1.2.1
  obtain ⟨r, x2, _, _, e1, -, -⟩ := s_cube (x1 := (xs (i + 1))) (x2 := (xs (i + 2))) (x3 := (xs (i + 3))) (x4 := (xs (i + 4))) hR
  refine lv_aload_n hx hb dL_law_949 rfl (lv_at hl 1 rfl) ?_
  refine lg_arg C hL hH.S hl rfl rfl 1 (by omega) dL_law_950 dL_law_951 dL_law_952 (by decide) dL_law_953 dL_law_954 ?_
  refine lg_arg C hL hH.S hl rfl rfl 2 (by omega) dL_law_955 dL_law_956 dL_law_957 (by decide) dL_law_958 dL_law_959 ?_
  refine lg_arg C hL hH.S hl rfl rfl 3 (by omega) dL_law_960 dL_law_961 dL_law_962 (by decide) dL_law_963 dL_law_964 ?_
  refine lg_arg C hL hH.S hl rfl rfl 4 (by omega) dL_law_965 dL_law_966 dL_law_967 (by decide) dL_law_968 dL_law_969 ?_
  refine lcall_i (As := [.int (xs (i + 1)), .int (xs (i + 2)), .int (xs (i + 3)), .int (xs (i + 4))]) (rest := []) (v := x2) (r := r) C (Nat.le_refl _) hH.1 hH.2.2.2.2.1 hH.2.2.2.2.2 hl.1 (show uGV RL 98 yX11_cube cX11_cube 4 12 (some .int) from ⟨gWV tw638 tw639 tw640 tw1 tw641, ⟨by decide, by decide, by decide⟩⟩) (RX11, TX11, 12) rfl rfl (by decide) hR.kx (mX11_cube e1) ⟨rfl, rfl⟩ rfl ⟨by decide, by decide⟩ rfl (Nat.le_of_ble_eq_true rfl) ⟨Nat.le_trans (Nat.add_le_add_left (by decide) _) hc, Nat.le_trans (Nat.add_le_add_left (by decide) _) hs⟩ dL_law_970 (fun H1 a1 a2 a3 a4 => ?_)
  have hH1 := hH.callx a1 a2 a3 a4
  obtain ⟨r2, x3, m2, T2, e2, e4, hR2⟩ := s_cube (x1 := (xs (i + 1))) (x2 := (xs (i + 2))) (x3 := (xs (i + 3))) (x4 := (xs (i + 4))) (hR.rzm (H1.size - B1))
  have e5 := Option.some.inj (e1.symm.trans e2)
  obtain rfl : r = r2 := (Prod.mk.inj e5).1
  obtain rfl : x2 = x3 := (Prod.mk.inj e5).2
  refine lv_aload_n hx hb dL_law_973 rfl (lv_at hl 2 rfl) ?_
  refine lg_arg C hL hH1.S hl rfl rfl 1 (by omega) dL_law_974 dL_law_975 dL_law_976 (by decide) dL_law_977 dL_law_978 ?_
  refine lg_arg C hL hH1.S hl rfl rfl 2 (by omega) dL_law_979 dL_law_980 dL_law_981 (by decide) dL_law_982 dL_law_983 ?_
  refine lg_arg C hL hH1.S hl rfl rfl 3 (by omega) dL_law_984 dL_law_985 dL_law_986 (by decide) dL_law_987 dL_law_988 ?_
  refine lg_arg C hL hH1.S hl rfl rfl 4 (by omega) dL_law_989 dL_law_990 dL_law_991 (by decide) dL_law_992 dL_law_993 ?_
  refine lcall_i (As := [.int (xs (i + 1)), .int (xs (i + 2)), .int (xs (i + 3)), .int (xs (i + 4))]) (rest := [.int r]) (v := m2) (r := r) C hH.2.2.2.1 hH1.2.1 hH1.2.2.2.2.1 hH1.2.2.2.2.2 hl.1 (show uGV RL 101 yX12_cube cX12_cube 4 13 (some .int) from ⟨gWV tw1178 tw1179 tw1180 tw14 tw1181, ⟨by decide, by decide, by decide⟩⟩) (RX12, TX12, 33) rfl rfl (by decide) hR.km (mX12_cube e4) ⟨rfl, rfl⟩ rfl ⟨by decide, by decide⟩ rfl (Nat.le_of_ble_eq_true rfl) ⟨Nat.le_trans (Nat.le_add_right _ 1) hc, Nat.le_trans (Nat.le_add_right _ 8) hs⟩ dL_law_994 (fun H2 b1 b2 b3 b4 => ?_)
  have hH2 := hH1.callm b1 b2 b3 b4
  refine lg_eq C (tgt := 1510) dL_law_997 rfl ?_
  refine W.widen (k := cells + 1) (n := slots + 8) (Nat.le_add_right _ 1) (Nat.le_add_right _ 8) ?_
  exact K T2 _ _ H2 (hR2.rzx (lh_fin a1 b3)) hH2
theorem lcs_20 (C : LC p s m meth c b L xs D tw) (hL : L ≤ 3584) (hR : RR T x mU) (hH : LH D s B1 x mU H) (hl : lv_has ls 4 [(0, .ref b), (1, .ref (s.heap.size + 0)), (2, .ref (B1 + 0)), (3, .int (nI i))]) (hi : i + 6 < L) (hc : cells + 1 ≤ 600000) (hs : slots + 8 ≤ 7302250) (K : ∀ T' x' m' H', RR T' x' m' → LH D s B1 x' m' H' → LG p l e s m b below meth c H' (cells + 1) (slots + 8) 1510 ls []) : LG p l e s m b below meth c H cells slots 1002 ls [] := by
  have hx := C.1.1
  have hb := C.1.2.1
  obtain ⟨r, x2, _, _, e1, -, -⟩ := s_origin (x1 := (xs (i + 1))) (x2 := (xs (i + 2))) (x3 := (xs (i + 3))) hR
  refine lv_aload_n hx hb dL_law_1002 rfl (lv_at hl 1 rfl) ?_
  refine lg_arg C hL hH.S hl rfl rfl 1 (by omega) dL_law_1003 dL_law_1004 dL_law_1005 (by decide) dL_law_1006 dL_law_1007 ?_
  refine lg_arg C hL hH.S hl rfl rfl 2 (by omega) dL_law_1008 dL_law_1009 dL_law_1010 (by decide) dL_law_1011 dL_law_1012 ?_
  refine lg_arg C hL hH.S hl rfl rfl 3 (by omega) dL_law_1013 dL_law_1014 dL_law_1015 (by decide) dL_law_1016 dL_law_1017 ?_
  refine lcall_i (As := [.int (xs (i + 1)), .int (xs (i + 2)), .int (xs (i + 3))]) (rest := []) (v := x2) (r := r) C (Nat.le_refl _) hH.1 hH.2.2.2.2.1 hH.2.2.2.2.2 hl.1 (show uGV RL 102 yX11_origin cX11_origin 3 4 (some .int) from ⟨gWV tw649 tw650 tw651 tw1 tw652, ⟨by decide, by decide, by decide⟩⟩) (RX11, TX11, 12) rfl rfl (by decide) hR.kx (mX11_origin e1) ⟨rfl, rfl⟩ rfl ⟨by decide, by decide⟩ rfl (Nat.le_of_ble_eq_true rfl) ⟨Nat.le_trans (Nat.add_le_add_left (by decide) _) hc, Nat.le_trans (Nat.add_le_add_left (by decide) _) hs⟩ dL_law_1018 (fun H1 a1 a2 a3 a4 => ?_)
  have hH1 := hH.callx a1 a2 a3 a4
  obtain ⟨r2, x3, m2, T2, e2, e4, hR2⟩ := s_origin (x1 := (xs (i + 1))) (x2 := (xs (i + 2))) (x3 := (xs (i + 3))) (hR.rzm (H1.size - B1))
  have e5 := Option.some.inj (e1.symm.trans e2)
  obtain rfl : r = r2 := (Prod.mk.inj e5).1
  obtain rfl : x2 = x3 := (Prod.mk.inj e5).2
  refine lv_aload_n hx hb dL_law_1021 rfl (lv_at hl 2 rfl) ?_
  refine lg_arg C hL hH1.S hl rfl rfl 1 (by omega) dL_law_1022 dL_law_1023 dL_law_1024 (by decide) dL_law_1025 dL_law_1026 ?_
  refine lg_arg C hL hH1.S hl rfl rfl 2 (by omega) dL_law_1027 dL_law_1028 dL_law_1029 (by decide) dL_law_1030 dL_law_1031 ?_
  refine lg_arg C hL hH1.S hl rfl rfl 3 (by omega) dL_law_1032 dL_law_1033 dL_law_1034 (by decide) dL_law_1035 dL_law_1036 ?_
  refine lcall_i (As := [.int (xs (i + 1)), .int (xs (i + 2)), .int (xs (i + 3))]) (rest := [.int r]) (v := m2) (r := r) C hH.2.2.2.1 hH1.2.1 hH1.2.2.2.2.1 hH1.2.2.2.2.2 hl.1 (show uGV RL 105 yX12_origin cX12_origin 3 5 (some .int) from ⟨gWV tw1186 tw1187 tw1188 tw14 tw1189, ⟨by decide, by decide, by decide⟩⟩) (RX12, TX12, 33) rfl rfl (by decide) hR.km (mX12_origin e4) ⟨rfl, rfl⟩ rfl ⟨by decide, by decide⟩ rfl (Nat.le_of_ble_eq_true rfl) ⟨Nat.le_trans (Nat.le_add_right _ 1) hc, Nat.le_trans (Nat.le_add_right _ 8) hs⟩ dL_law_1037 (fun H2 b1 b2 b3 b4 => ?_)
  have hH2 := hH1.callm b1 b2 b3 b4
  refine lg_eq C (tgt := 1510) dL_law_1040 rfl ?_
  refine W.widen (k := cells + 1) (n := slots + 8) (Nat.le_add_right _ 1) (Nat.le_add_right _ 8) ?_
  exact K T2 _ _ H2 (hR2.rzx (lh_fin a1 b3)) hH2
theorem lcs_21 (C : LC p s m meth c b L xs D tw) (hL : L ≤ 3584) (hR : RR T x mU) (hH : LH D s B1 x mU H) (hl : lv_has ls 4 [(0, .ref b), (1, .ref (s.heap.size + 0)), (2, .ref (B1 + 0)), (3, .int (nI i))]) (hi : i + 6 < L) (hc : cells + 1 ≤ 600000) (hs : slots + 8 ≤ 7302250) (K : ∀ T' x' m' H', RR T' x' m' → LH D s B1 x' m' H' → LG p l e s m b below meth c H' (cells + 1) (slots + 8) 1510 ls []) : LG p l e s m b below meth c H cells slots 1045 ls [] := by
  have hx := C.1.1
  have hb := C.1.2.1
  obtain ⟨r, x2, _, _, e1, -, -⟩ := s_distance (x1 := (xs (i + 1))) (x2 := (xs (i + 2))) (x3 := (xs (i + 3))) hR
  refine lv_aload_n hx hb dL_law_1045 rfl (lv_at hl 1 rfl) ?_
  refine lg_arg C hL hH.S hl rfl rfl 1 (by omega) dL_law_1046 dL_law_1047 dL_law_1048 (by decide) dL_law_1049 dL_law_1050 ?_
  refine lg_arg C hL hH.S hl rfl rfl 2 (by omega) dL_law_1051 dL_law_1052 dL_law_1053 (by decide) dL_law_1054 dL_law_1055 ?_
  refine lg_arg C hL hH.S hl rfl rfl 3 (by omega) dL_law_1056 dL_law_1057 dL_law_1058 (by decide) dL_law_1059 dL_law_1060 ?_
  refine lcall_i (As := [.int (xs (i + 1)), .int (xs (i + 2)), .int (xs (i + 3))]) (rest := []) (v := x2) (r := r) C (Nat.le_refl _) hH.1 hH.2.2.2.2.1 hH.2.2.2.2.2 hl.1 (show uGV RL 106 yX11_distance cX11_distance 3 4 (some .int) from ⟨gWV tw659 tw660 tw661 tw1 tw662, ⟨by decide, by decide, by decide⟩⟩) (RX11, TX11, 12) rfl rfl (by decide) hR.kx (mX11_distance e1) ⟨rfl, rfl⟩ rfl ⟨by decide, by decide⟩ rfl (Nat.le_of_ble_eq_true rfl) ⟨Nat.le_trans (Nat.add_le_add_left (by decide) _) hc, Nat.le_trans (Nat.add_le_add_left (by decide) _) hs⟩ dL_law_1061 (fun H1 a1 a2 a3 a4 => ?_)
  have hH1 := hH.callx a1 a2 a3 a4
  obtain ⟨r2, x3, m2, T2, e2, e4, hR2⟩ := s_distance (x1 := (xs (i + 1))) (x2 := (xs (i + 2))) (x3 := (xs (i + 3))) (hR.rzm (H1.size - B1))
  have e5 := Option.some.inj (e1.symm.trans e2)
  obtain rfl : r = r2 := (Prod.mk.inj e5).1
  obtain rfl : x2 = x3 := (Prod.mk.inj e5).2
  refine lv_aload_n hx hb dL_law_1064 rfl (lv_at hl 2 rfl) ?_
  refine lg_arg C hL hH1.S hl rfl rfl 1 (by omega) dL_law_1065 dL_law_1066 dL_law_1067 (by decide) dL_law_1068 dL_law_1069 ?_
  refine lg_arg C hL hH1.S hl rfl rfl 2 (by omega) dL_law_1070 dL_law_1071 dL_law_1072 (by decide) dL_law_1073 dL_law_1074 ?_
  refine lg_arg C hL hH1.S hl rfl rfl 3 (by omega) dL_law_1075 dL_law_1076 dL_law_1077 (by decide) dL_law_1078 dL_law_1079 ?_
  refine lcall_i (As := [.int (xs (i + 1)), .int (xs (i + 2)), .int (xs (i + 3))]) (rest := [.int r]) (v := m2) (r := r) C hH.2.2.2.1 hH1.2.1 hH1.2.2.2.2.1 hH1.2.2.2.2.2 hl.1 (show uGV RL 109 yX12_distance cX12_distance 3 8 (some .int) from ⟨gWV tw1190 tw1191 tw1192 tw14 tw1193, ⟨by decide, by decide, by decide⟩⟩) (RX12, TX12, 33) rfl rfl (by decide) hR.km (mX12_distance e4) ⟨rfl, rfl⟩ rfl ⟨by decide, by decide⟩ rfl (Nat.le_of_ble_eq_true rfl) ⟨Nat.le_trans (Nat.le_add_right _ 1) hc, Nat.le_trans (Nat.le_add_right _ 8) hs⟩ dL_law_1080 (fun H2 b1 b2 b3 b4 => ?_)
  have hH2 := hH1.callm b1 b2 b3 b4
  refine lg_eq C (tgt := 1510) dL_law_1083 rfl ?_
  refine W.widen (k := cells + 1) (n := slots + 8) (Nat.le_add_right _ 1) (Nat.le_add_right _ 8) ?_
  exact K T2 _ _ H2 (hR2.rzx (lh_fin a1 b3)) hH2
theorem lcs_22 (C : LC p s m meth c b L xs D tw) (hL : L ≤ 3584) (hR : RR T x mU) (hH : LH D s B1 x mU H) (hl : lv_has ls 4 [(0, .ref b), (1, .ref (s.heap.size + 0)), (2, .ref (B1 + 0)), (3, .int (nI i))]) (hi : i + 6 < L) (hc : cells + 1 ≤ 600000) (hs : slots + 8 ≤ 7302250) (K : ∀ T' x' m' H', RR T' x' m' → LH D s B1 x' m' H' → LG p l e s m b below meth c H' (cells + 1) (slots + 8) 1510 ls []) : LG p l e s m b below meth c H cells slots 1088 ls [] := by
  have hx := C.1.1
  have hb := C.1.2.1
  obtain ⟨r, x2, _, _, e1, -, -⟩ := s_trace (x1 := (xs (i + 1))) (x2 := (xs (i + 2))) hR
  refine lv_aload_n hx hb dL_law_1088 rfl (lv_at hl 1 rfl) ?_
  refine lg_arg C hL hH.S hl rfl rfl 1 (by omega) dL_law_1089 dL_law_1090 dL_law_1091 (by decide) dL_law_1092 dL_law_1093 ?_
  refine lg_arg C hL hH.S hl rfl rfl 2 (by omega) dL_law_1094 dL_law_1095 dL_law_1096 (by decide) dL_law_1097 dL_law_1098 ?_
  refine lcall_i (As := [.int (xs (i + 1)), .int (xs (i + 2))]) (rest := []) (v := x2) (r := r) C (Nat.le_refl _) hH.1 hH.2.2.2.2.1 hH.2.2.2.2.2 hl.1 (show uGV RL 110 yX11_trace cX11_trace 2 4 (some .int) from ⟨gWV tw671 tw672 tw673 tw1 tw674, ⟨by decide, by decide, by decide⟩⟩) (RX11, TX11, 12) rfl rfl (by decide) hR.kx (mX11_trace e1) ⟨rfl, rfl⟩ rfl ⟨by decide, by decide⟩ rfl (Nat.le_of_ble_eq_true rfl) ⟨Nat.le_trans (Nat.add_le_add_left (by decide) _) hc, Nat.le_trans (Nat.add_le_add_left (by decide) _) hs⟩ dL_law_1099 (fun H1 a1 a2 a3 a4 => ?_)
  have hH1 := hH.callx a1 a2 a3 a4
  obtain ⟨r2, x3, m2, T2, e2, e4, hR2⟩ := s_trace (x1 := (xs (i + 1))) (x2 := (xs (i + 2))) (hR.rzm (H1.size - B1))
  have e5 := Option.some.inj (e1.symm.trans e2)
  obtain rfl : r = r2 := (Prod.mk.inj e5).1
  obtain rfl : x2 = x3 := (Prod.mk.inj e5).2
  refine lv_aload_n hx hb dL_law_1102 rfl (lv_at hl 2 rfl) ?_
  refine lg_arg C hL hH1.S hl rfl rfl 1 (by omega) dL_law_1103 dL_law_1104 dL_law_1105 (by decide) dL_law_1106 dL_law_1107 ?_
  refine lg_arg C hL hH1.S hl rfl rfl 2 (by omega) dL_law_1108 dL_law_1109 dL_law_1110 (by decide) dL_law_1111 dL_law_1112 ?_
  refine lcall_i (As := [.int (xs (i + 1)), .int (xs (i + 2))]) (rest := [.int r]) (v := m2) (r := r) C hH.2.2.2.1 hH1.2.1 hH1.2.2.2.2.1 hH1.2.2.2.2.2 hl.1 (show uGV RL 113 yX12_trace cX12_trace 2 4 (some .int) from ⟨gWV tw1194 tw1195 tw1196 tw14 tw1197, ⟨by decide, by decide, by decide⟩⟩) (RX12, TX12, 33) rfl rfl (by decide) hR.km (mX12_trace e4) ⟨rfl, rfl⟩ rfl ⟨by decide, by decide⟩ rfl (Nat.le_of_ble_eq_true rfl) ⟨Nat.le_trans (Nat.le_add_right _ 1) hc, Nat.le_trans (Nat.le_add_right _ 8) hs⟩ dL_law_1113 (fun H2 b1 b2 b3 b4 => ?_)
  have hH2 := hH1.callm b1 b2 b3 b4
  refine lg_eq C (tgt := 1510) dL_law_1116 rfl ?_
  refine W.widen (k := cells + 1) (n := slots + 8) (Nat.le_add_right _ 1) (Nat.le_add_right _ 8) ?_
  exact K T2 _ _ H2 (hR2.rzx (lh_fin a1 b3)) hH2
theorem lcs_23 (C : LC p s m meth c b L xs D tw) (hL : L ≤ 3584) (hR : RR T x mU) (hH : LH D s B1 x mU H) (hl : lv_has ls 4 [(0, .ref b), (1, .ref (s.heap.size + 0)), (2, .ref (B1 + 0)), (3, .int (nI i))]) (hi : i + 6 < L) (hc : cells + 1 ≤ 600000) (hs : slots + 8 ≤ 7302250) (K : ∀ T' x' m' H', RR T' x' m' → LH D s B1 x' m' H' → LG p l e s m b below meth c H' (cells + 1) (slots + 8) 1510 ls []) : LG p l e s m b below meth c H cells slots 1121 ls [] := by
  have hx := C.1.1
  have hb := C.1.2.1
  obtain ⟨r, x2, _, _, e1, -, -⟩ := s_traceEnd (x1 := (xs (i + 1))) hR
  refine lv_aload_n hx hb dL_law_1121 rfl (lv_at hl 1 rfl) ?_
  refine lg_arg C hL hH.S hl rfl rfl 1 (by omega) dL_law_1122 dL_law_1123 dL_law_1124 (by decide) dL_law_1125 dL_law_1126 ?_
  refine lcall_i (As := [.int (xs (i + 1))]) (rest := []) (v := x2) (r := r) C (Nat.le_refl _) hH.1 hH.2.2.2.2.1 hH.2.2.2.2.2 hl.1 (show uGV RL 114 yX11_traceEnd cX11_traceEnd 1 2 (some .int) from ⟨gWV tw700 tw701 tw702 tw1 tw703, ⟨by decide, by decide, by decide⟩⟩) (RX11, TX11, 12) rfl rfl (by decide) hR.kx (mX11_traceEnd e1) ⟨rfl, rfl⟩ rfl ⟨by decide, by decide⟩ rfl (Nat.le_of_ble_eq_true rfl) ⟨Nat.le_trans (Nat.add_le_add_left (by decide) _) hc, Nat.le_trans (Nat.add_le_add_left (by decide) _) hs⟩ dL_law_1127 (fun H1 a1 a2 a3 a4 => ?_)
  have hH1 := hH.callx a1 a2 a3 a4
  obtain ⟨r2, x3, m2, T2, e2, e4, hR2⟩ := s_traceEnd (x1 := (xs (i + 1))) (hR.rzm (H1.size - B1))
  have e5 := Option.some.inj (e1.symm.trans e2)
  obtain rfl : r = r2 := (Prod.mk.inj e5).1
  obtain rfl : x2 = x3 := (Prod.mk.inj e5).2
  refine lv_aload_n hx hb dL_law_1130 rfl (lv_at hl 2 rfl) ?_
  refine lg_arg C hL hH1.S hl rfl rfl 1 (by omega) dL_law_1131 dL_law_1132 dL_law_1133 (by decide) dL_law_1134 dL_law_1135 ?_
  refine lcall_i (As := [.int (xs (i + 1))]) (rest := [.int r]) (v := m2) (r := r) C hH.2.2.2.1 hH1.2.1 hH1.2.2.2.2.1 hH1.2.2.2.2.2 hl.1 (show uGV RL 117 yX12_traceEnd cX12_traceEnd 1 2 (some .int) from ⟨gWV tw1206 tw1207 tw1208 tw14 tw1209, ⟨by decide, by decide, by decide⟩⟩) (RX12, TX12, 33) rfl rfl (by decide) hR.km (mX12_traceEnd e4) ⟨rfl, rfl⟩ rfl ⟨by decide, by decide⟩ rfl (Nat.le_of_ble_eq_true rfl) ⟨Nat.le_trans (Nat.le_add_right _ 1) hc, Nat.le_trans (Nat.le_add_right _ 8) hs⟩ dL_law_1136 (fun H2 b1 b2 b3 b4 => ?_)
  have hH2 := hH1.callm b1 b2 b3 b4
  refine lg_eq C (tgt := 1510) dL_law_1139 rfl ?_
  refine W.widen (k := cells + 1) (n := slots + 8) (Nat.le_add_right _ 1) (Nat.le_add_right _ 8) ?_
  exact K T2 _ _ H2 (hR2.rzx (lh_fin a1 b3)) hH2
theorem lcs_24 (C : LC p s m meth c b L xs D tw) (hL : L ≤ 3584) (hR : RR T x mU) (hH : LH D s B1 x mU H) (hl : lv_has ls 4 [(0, .ref b), (1, .ref (s.heap.size + 0)), (2, .ref (B1 + 0)), (3, .int (nI i))]) (hi : i + 6 < L) (hc : cells + 1 ≤ 600000) (hs : slots + 8 ≤ 7302250) (K : ∀ T' x' m' H', RR T' x' m' → LH D s B1 x' m' H' → LG p l e s m b below meth c H' (cells + 1) (slots + 8) 1510 ls []) : LG p l e s m b below meth c H cells slots 1144 ls [] := by
  have hx := C.1.1
  have hb := C.1.2.1
  obtain ⟨r, x2, _, _, e1, -, -⟩ := s_loops hR
  refine lv_aload_n hx hb dL_law_1144 rfl (lv_at hl 1 rfl) ?_
  refine lcall_l (As := []) (rest := []) (v := x2) (r := r) C (Nat.le_refl _) hH.1 hH.2.2.2.2.1 hH.2.2.2.2.2 hl.1 (show uGV RL 118 yX11_loops cX11_loops 0 1 (some .long) from ⟨gWV tw704 tw705 tw706 tw1 tw707, ⟨by decide, by decide, by decide⟩⟩) (RX11, TX11, 12) rfl rfl (by decide) hR.kx (mX11_loops e1) ⟨rfl, rfl⟩ rfl ⟨by decide, by decide⟩ rfl (Nat.le_of_ble_eq_true rfl) ⟨Nat.le_trans (Nat.add_le_add_left (by decide) _) hc, Nat.le_trans (Nat.add_le_add_left (by decide) _) hs⟩ dL_law_1145 (fun H1 a1 a2 a3 a4 => ?_)
  have hH1 := hH.callx a1 a2 a3 a4
  obtain ⟨r2, x3, m2, T2, e2, e4, hR2⟩ := s_loops (hR.rzm (H1.size - B1))
  have e5 := Option.some.inj (e1.symm.trans e2)
  obtain rfl : r = r2 := (Prod.mk.inj e5).1
  obtain rfl : x2 = x3 := (Prod.mk.inj e5).2
  refine lv_aload_n hx hb dL_law_1148 rfl (lv_at hl 2 rfl) ?_
  refine lcall_l (As := []) (rest := [.long r]) (v := m2) (r := r) C hH.2.2.2.1 hH1.2.1 hH1.2.2.2.2.1 hH1.2.2.2.2.2 hl.1 (show uGV RL 122 yX12_loops cX12_loops 0 4 (some .long) from ⟨gWV tw1210 tw1211 tw1212 tw14 tw1213, ⟨by decide, by decide, by decide⟩⟩) (RX12, TX12, 33) rfl rfl (by decide) hR.km (mX12_loops e4) ⟨rfl, rfl⟩ rfl ⟨by decide, by decide⟩ rfl (Nat.le_of_ble_eq_true rfl) ⟨Nat.le_trans (Nat.le_add_right _ 1) hc, Nat.le_trans (Nat.le_add_right _ 8) hs⟩ dL_law_1149 (fun H2 b1 b2 b3 b4 => ?_)
  have hH2 := hH1.callm b1 b2 b3 b4
  refine lg_eql C (tgt := 1510) dL_law_1152 dL_law_1153 rfl ?_
  refine W.widen (k := cells + 1) (n := slots + 8) (Nat.le_add_right _ 1) (Nat.le_add_right _ 8) ?_
  exact K T2 _ _ H2 (hR2.rzx (lh_fin a1 b3)) hH2
theorem lcs_25 (C : LC p s m meth c b L xs D tw) (hL : L ≤ 3584) (hR : RR T x mU) (hH : LH D s B1 x mU H) (hl : lv_has ls 4 [(0, .ref b), (1, .ref (s.heap.size + 0)), (2, .ref (B1 + 0)), (3, .int (nI i))]) (hi : i + 6 < L) (hc : cells + 1 ≤ 600000) (hs : slots + 8 ≤ 7302250) (K : ∀ T' x' m' H', RR T' x' m' → LH D s B1 x' m' H' → LG p l e s m b below meth c H' (cells + 1) (slots + 8) 1510 ls []) : LG p l e s m b below meth c H cells slots 1158 ls [] := by
  have hx := C.1.1
  have hb := C.1.2.1
  obtain ⟨r, x2, _, _, e1, -, -⟩ := s_cutSize (x1 := (xs (i + 1))) (x2 := (xs (i + 2))) hR
  refine lv_aload_n hx hb dL_law_1158 rfl (lv_at hl 1 rfl) ?_
  refine lg_arg C hL hH.S hl rfl rfl 1 (by omega) dL_law_1159 dL_law_1160 dL_law_1161 (by decide) dL_law_1162 dL_law_1163 ?_
  refine lg_arg C hL hH.S hl rfl rfl 2 (by omega) dL_law_1164 dL_law_1165 dL_law_1166 (by decide) dL_law_1167 dL_law_1168 ?_
  refine lcall_i (As := [.int (xs (i + 1)), .int (xs (i + 2))]) (rest := []) (v := x2) (r := r) C (Nat.le_refl _) hH.1 hH.2.2.2.2.1 hH.2.2.2.2.2 hl.1 (show uGV RL 123 yX11_cutSize cX11_cutSize 2 3 (some .int) from ⟨gWV tw742 tw743 tw744 tw1 tw745, ⟨by decide, by decide, by decide⟩⟩) (RX11, TX11, 12) rfl rfl (by decide) hR.kx (mX11_cutSize e1) ⟨rfl, rfl⟩ rfl ⟨by decide, by decide⟩ rfl (Nat.le_of_ble_eq_true rfl) ⟨Nat.le_trans (Nat.add_le_add_left (by decide) _) hc, Nat.le_trans (Nat.add_le_add_left (by decide) _) hs⟩ dL_law_1169 (fun H1 a1 a2 a3 a4 => ?_)
  have hH1 := hH.callx a1 a2 a3 a4
  obtain ⟨r2, x3, m2, T2, e2, e4, hR2⟩ := s_cutSize (x1 := (xs (i + 1))) (x2 := (xs (i + 2))) (hR.rzm (H1.size - B1))
  have e5 := Option.some.inj (e1.symm.trans e2)
  obtain rfl : r = r2 := (Prod.mk.inj e5).1
  obtain rfl : x2 = x3 := (Prod.mk.inj e5).2
  refine lv_aload_n hx hb dL_law_1172 rfl (lv_at hl 2 rfl) ?_
  refine lg_arg C hL hH1.S hl rfl rfl 1 (by omega) dL_law_1173 dL_law_1174 dL_law_1175 (by decide) dL_law_1176 dL_law_1177 ?_
  refine lg_arg C hL hH1.S hl rfl rfl 2 (by omega) dL_law_1178 dL_law_1179 dL_law_1180 (by decide) dL_law_1181 dL_law_1182 ?_
  refine lcall_i (As := [.int (xs (i + 1)), .int (xs (i + 2))]) (rest := [.int r]) (v := m2) (r := r) C hH.2.2.2.1 hH1.2.1 hH1.2.2.2.2.1 hH1.2.2.2.2.2 hl.1 (show uGV RL 126 yX12_cutSize cX12_cutSize 2 3 (some .int) from ⟨gWV tw1218 tw1219 tw1220 tw14 tw1221, ⟨by decide, by decide, by decide⟩⟩) (RX12, TX12, 33) rfl rfl (by decide) hR.km (mX12_cutSize e4) ⟨rfl, rfl⟩ rfl ⟨by decide, by decide⟩ rfl (Nat.le_of_ble_eq_true rfl) ⟨Nat.le_trans (Nat.le_add_right _ 1) hc, Nat.le_trans (Nat.le_add_right _ 8) hs⟩ dL_law_1183 (fun H2 b1 b2 b3 b4 => ?_)
  have hH2 := hH1.callm b1 b2 b3 b4
  refine lg_eq C (tgt := 1510) dL_law_1186 rfl ?_
  refine W.widen (k := cells + 1) (n := slots + 8) (Nat.le_add_right _ 1) (Nat.le_add_right _ 8) ?_
  exact K T2 _ _ H2 (hR2.rzx (lh_fin a1 b3)) hH2
theorem lcs_26 (C : LC p s m meth c b L xs D tw) (hL : L ≤ 3584) (hR : RR T x mU) (hH : LH D s B1 x mU H) (hl : lv_has ls 4 [(0, .ref b), (1, .ref (s.heap.size + 0)), (2, .ref (B1 + 0)), (3, .int (nI i))]) (hi : i + 6 < L) (hc : cells + 1 ≤ 600000) (hs : slots + 8 ≤ 7302250) (K : ∀ T' x' m' H', RR T' x' m' → LH D s B1 x' m' H' → LG p l e s m b below meth c H' (cells + 1) (slots + 8) 1510 ls []) : LG p l e s m b below meth c H cells slots 1191 ls [] := by
  have hx := C.1.1
  have hb := C.1.2.1
  obtain ⟨r, x2, _, _, e1, -, -⟩ := s_cutRule (x1 := (xs (i + 1))) (x2 := (xs (i + 2))) (x3 := (xs (i + 3))) hR
  refine lv_aload_n hx hb dL_law_1191 rfl (lv_at hl 1 rfl) ?_
  refine lg_arg C hL hH.S hl rfl rfl 1 (by omega) dL_law_1192 dL_law_1193 dL_law_1194 (by decide) dL_law_1195 dL_law_1196 ?_
  refine lg_arg C hL hH.S hl rfl rfl 2 (by omega) dL_law_1197 dL_law_1198 dL_law_1199 (by decide) dL_law_1200 dL_law_1201 ?_
  refine lg_arg C hL hH.S hl rfl rfl 3 (by omega) dL_law_1202 dL_law_1203 dL_law_1204 (by decide) dL_law_1205 dL_law_1206 ?_
  refine lcall_i (As := [.int (xs (i + 1)), .int (xs (i + 2)), .int (xs (i + 3))]) (rest := []) (v := x2) (r := r) C (Nat.le_refl _) hH.1 hH.2.2.2.2.1 hH.2.2.2.2.2 hl.1 (show uGV RL 127 yX11_cutRule cX11_cutRule 3 6 (some .int) from ⟨gWV tw795 tw796 tw797 tw1 tw798, ⟨by decide, by decide, by decide⟩⟩) (RX11, TX11, 12) rfl rfl (by decide) hR.kx (mX11_cutRule e1) ⟨rfl, rfl⟩ rfl ⟨by decide, by decide⟩ rfl (Nat.le_of_ble_eq_true rfl) ⟨Nat.le_trans (Nat.add_le_add_left (by decide) _) hc, Nat.le_trans (Nat.add_le_add_left (by decide) _) hs⟩ dL_law_1207 (fun H1 a1 a2 a3 a4 => ?_)
  have hH1 := hH.callx a1 a2 a3 a4
  obtain ⟨r2, x3, m2, T2, e2, e4, hR2⟩ := s_cutRule (x1 := (xs (i + 1))) (x2 := (xs (i + 2))) (x3 := (xs (i + 3))) (hR.rzm (H1.size - B1))
  have e5 := Option.some.inj (e1.symm.trans e2)
  obtain rfl : r = r2 := (Prod.mk.inj e5).1
  obtain rfl : x2 = x3 := (Prod.mk.inj e5).2
  refine lv_aload_n hx hb dL_law_1210 rfl (lv_at hl 2 rfl) ?_
  refine lg_arg C hL hH1.S hl rfl rfl 1 (by omega) dL_law_1211 dL_law_1212 dL_law_1213 (by decide) dL_law_1214 dL_law_1215 ?_
  refine lg_arg C hL hH1.S hl rfl rfl 2 (by omega) dL_law_1216 dL_law_1217 dL_law_1218 (by decide) dL_law_1219 dL_law_1220 ?_
  refine lg_arg C hL hH1.S hl rfl rfl 3 (by omega) dL_law_1221 dL_law_1222 dL_law_1223 (by decide) dL_law_1224 dL_law_1225 ?_
  refine lcall_i (As := [.int (xs (i + 1)), .int (xs (i + 2)), .int (xs (i + 3))]) (rest := [.int r]) (v := m2) (r := r) C hH.2.2.2.1 hH1.2.1 hH1.2.2.2.2.1 hH1.2.2.2.2.2 hl.1 (show uGV RL 130 yX12_cutRule cX12_cutRule 3 5 (some .int) from ⟨gWV tw1242 tw1243 tw1244 tw14 tw1245, ⟨by decide, by decide, by decide⟩⟩) (RX12, TX12, 33) rfl rfl (by decide) hR.km (mX12_cutRule e4) ⟨rfl, rfl⟩ rfl ⟨by decide, by decide⟩ rfl (Nat.le_of_ble_eq_true rfl) ⟨Nat.le_trans (Nat.le_add_right _ 1) hc, Nat.le_trans (Nat.le_add_right _ 8) hs⟩ dL_law_1226 (fun H2 b1 b2 b3 b4 => ?_)
  have hH2 := hH1.callm b1 b2 b3 b4
  refine lg_eq C (tgt := 1510) dL_law_1229 rfl ?_
  refine W.widen (k := cells + 1) (n := slots + 8) (Nat.le_add_right _ 1) (Nat.le_add_right _ 8) ?_
  exact K T2 _ _ H2 (hR2.rzx (lh_fin a1 b3)) hH2
theorem lcs_27 (C : LC p s m meth c b L xs D tw) (hL : L ≤ 3584) (hR : RR T x mU) (hH : LH D s B1 x mU H) (hl : lv_has ls 4 [(0, .ref b), (1, .ref (s.heap.size + 0)), (2, .ref (B1 + 0)), (3, .int (nI i))]) (hi : i + 6 < L) (hc : cells + 1 ≤ 600000) (hs : slots + 8 ≤ 7302250) (K : ∀ T' x' m' H', RR T' x' m' → LH D s B1 x' m' H' → LG p l e s m b below meth c H' (cells + 1) (slots + 8) 1510 ls []) : LG p l e s m b below meth c H cells slots 1234 ls [] := by
  have hx := C.1.1
  have hb := C.1.2.1
  obtain ⟨r, x2, _, _, e1, -, -⟩ := s_addPolicy (x1 := (b01 (xs (i + 1)))) (x2 := (xs (i + 2))) (x3 := (xs (i + 3))) (x4 := (xs (i + 4))) (x5 := (xs (i + 5))) hR (b01_ok _)
  refine lv_aload_n hx hb dL_law_1234 rfl (lv_at hl 1 rfl) ?_
  refine lg_arg C hL hH.S hl rfl rfl 1 (by omega) dL_law_1235 dL_law_1236 dL_law_1237 (by decide) dL_law_1238 dL_law_1239 ?_
  refine lg_bool C (t1 := 1247) (t2 := 1248) dL_law_1240 rfl dL_law_1243 dL_law_1244 rfl dL_law_1247 rfl ?_
  refine lg_arg C hL hH.S hl rfl rfl 2 (by omega) dL_law_1248 dL_law_1249 dL_law_1250 (by decide) dL_law_1251 dL_law_1252 ?_
  refine lg_arg C hL hH.S hl rfl rfl 3 (by omega) dL_law_1253 dL_law_1254 dL_law_1255 (by decide) dL_law_1256 dL_law_1257 ?_
  refine lg_arg C hL hH.S hl rfl rfl 4 (by omega) dL_law_1258 dL_law_1259 dL_law_1260 (by decide) dL_law_1261 dL_law_1262 ?_
  refine lg_arg C hL hH.S hl rfl rfl 5 (by omega) dL_law_1263 dL_law_1264 dL_law_1265 (by decide) dL_law_1266 dL_law_1267 ?_
  refine lcall_i (As := [.int (b01 (xs (i + 1))), .int (xs (i + 2)), .int (xs (i + 3)), .int (xs (i + 4)), .int (xs (i + 5))]) (rest := []) (v := x2) (r := r) C (Nat.le_refl _) hH.1 hH.2.2.2.2.1 hH.2.2.2.2.2 hl.1 (show uGV RL 131 yX11_addPolicy cX11_addPolicy 5 7 (some .int) from ⟨gWV tw799 tw800 tw801 tw1 tw802, ⟨by decide, by decide, by decide⟩⟩) (RX11, TX11, 12) rfl rfl (by decide) hR.kx (mX11_addPolicy e1) ⟨rfl, rfl⟩ rfl ⟨by decide, by decide⟩ rfl (Nat.le_of_ble_eq_true rfl) ⟨Nat.le_trans (Nat.add_le_add_left (by decide) _) hc, Nat.le_trans (Nat.add_le_add_left (by decide) _) hs⟩ dL_law_1268 (fun H1 a1 a2 a3 a4 => ?_)
  have hH1 := hH.callx a1 a2 a3 a4
  obtain ⟨r2, x3, m2, T2, e2, e4, hR2⟩ := s_addPolicy (x1 := (b01 (xs (i + 1)))) (x2 := (xs (i + 2))) (x3 := (xs (i + 3))) (x4 := (xs (i + 4))) (x5 := (xs (i + 5))) (hR.rzm (H1.size - B1)) (b01_ok _)
  have e5 := Option.some.inj (e1.symm.trans e2)
  obtain rfl : r = r2 := (Prod.mk.inj e5).1
  obtain rfl : x2 = x3 := (Prod.mk.inj e5).2
  refine lv_aload_n hx hb dL_law_1271 rfl (lv_at hl 2 rfl) ?_
  refine lg_arg C hL hH1.S hl rfl rfl 1 (by omega) dL_law_1272 dL_law_1273 dL_law_1274 (by decide) dL_law_1275 dL_law_1276 ?_
  refine lg_bool C (t1 := 1284) (t2 := 1285) dL_law_1277 rfl dL_law_1280 dL_law_1281 rfl dL_law_1284 rfl ?_
  refine lg_arg C hL hH1.S hl rfl rfl 2 (by omega) dL_law_1285 dL_law_1286 dL_law_1287 (by decide) dL_law_1288 dL_law_1289 ?_
  refine lg_arg C hL hH1.S hl rfl rfl 3 (by omega) dL_law_1290 dL_law_1291 dL_law_1292 (by decide) dL_law_1293 dL_law_1294 ?_
  refine lg_arg C hL hH1.S hl rfl rfl 4 (by omega) dL_law_1295 dL_law_1296 dL_law_1297 (by decide) dL_law_1298 dL_law_1299 ?_
  refine lg_arg C hL hH1.S hl rfl rfl 5 (by omega) dL_law_1300 dL_law_1301 dL_law_1302 (by decide) dL_law_1303 dL_law_1304 ?_
  refine lcall_i (As := [.int (b01 (xs (i + 1))), .int (xs (i + 2)), .int (xs (i + 3)), .int (xs (i + 4)), .int (xs (i + 5))]) (rest := [.int r]) (v := m2) (r := r) C hH.2.2.2.1 hH1.2.1 hH1.2.2.2.2.1 hH1.2.2.2.2.2 hl.1 (show uGV RL 135 yX12_addPolicy cX12_addPolicy 5 6 (some .int) from ⟨gWV tw1246 tw1247 tw1248 tw14 tw1249, ⟨by decide, by decide, by decide⟩⟩) (RX12, TX12, 33) rfl rfl (by decide) hR.km (mX12_addPolicy e4) ⟨rfl, rfl⟩ rfl ⟨by decide, by decide⟩ rfl (Nat.le_of_ble_eq_true rfl) ⟨Nat.le_trans (Nat.le_add_right _ 1) hc, Nat.le_trans (Nat.le_add_right _ 8) hs⟩ dL_law_1305 (fun H2 b1 b2 b3 b4 => ?_)
  have hH2 := hH1.callm b1 b2 b3 b4
  refine lg_eq C (tgt := 1510) dL_law_1308 rfl ?_
  refine W.widen (k := cells + 1) (n := slots + 8) (Nat.le_add_right _ 1) (Nat.le_add_right _ 8) ?_
  exact K T2 _ _ H2 (hR2.rzx (lh_fin a1 b3)) hH2
theorem lcs_28 (C : LC p s m meth c b L xs D tw) (hL : L ≤ 3584) (hR : RR T x mU) (hH : LH D s B1 x mU H) (hl : lv_has ls 4 [(0, .ref b), (1, .ref (s.heap.size + 0)), (2, .ref (B1 + 0)), (3, .int (nI i))]) (hi : i + 6 < L) (hc : cells + 1 ≤ 600000) (hs : slots + 8 ≤ 7302250) (K : ∀ T' x' m' H', RR T' x' m' → LH D s B1 x' m' H' → LG p l e s m b below meth c H' (cells + 1) (slots + 8) 1510 ls []) : LG p l e s m b below meth c H cells slots 1313 ls [] := by
  have hx := C.1.1
  have hb := C.1.2.1
  obtain ⟨r, x2, _, _, e1, -, -⟩ := s_setPolicyCube (x1 := (xs (i + 1))) (x2 := (xs (i + 2))) (x3 := (xs (i + 3))) hR
  refine lv_aload_n hx hb dL_law_1313 rfl (lv_at hl 1 rfl) ?_
  refine lg_arg C hL hH.S hl rfl rfl 1 (by omega) dL_law_1314 dL_law_1315 dL_law_1316 (by decide) dL_law_1317 dL_law_1318 ?_
  refine lg_arg C hL hH.S hl rfl rfl 2 (by omega) dL_law_1319 dL_law_1320 dL_law_1321 (by decide) dL_law_1322 dL_law_1323 ?_
  refine lg_arg C hL hH.S hl rfl rfl 3 (by omega) dL_law_1324 dL_law_1325 dL_law_1326 (by decide) dL_law_1327 dL_law_1328 ?_
  refine lcall_i (As := [.int (xs (i + 1)), .int (xs (i + 2)), .int (xs (i + 3))]) (rest := []) (v := x2) (r := r) C (Nat.le_refl _) hH.1 hH.2.2.2.2.1 hH.2.2.2.2.2 hl.1 (show uGV RL 136 yX11_setPolicyCube cX11_setPolicyCube 3 6 (some .int) from ⟨gWV tw803 tw804 tw805 tw1 tw806, ⟨by decide, by decide, by decide⟩⟩) (RX11, TX11, 12) rfl rfl (by decide) hR.kx (mX11_setPolicyCube e1) ⟨rfl, rfl⟩ rfl ⟨by decide, by decide⟩ rfl (Nat.le_of_ble_eq_true rfl) ⟨Nat.le_trans (Nat.add_le_add_left (by decide) _) hc, Nat.le_trans (Nat.add_le_add_left (by decide) _) hs⟩ dL_law_1329 (fun H1 a1 a2 a3 a4 => ?_)
  have hH1 := hH.callx a1 a2 a3 a4
  obtain ⟨r2, x3, m2, T2, e2, e4, hR2⟩ := s_setPolicyCube (x1 := (xs (i + 1))) (x2 := (xs (i + 2))) (x3 := (xs (i + 3))) (hR.rzm (H1.size - B1))
  have e5 := Option.some.inj (e1.symm.trans e2)
  obtain rfl : r = r2 := (Prod.mk.inj e5).1
  obtain rfl : x2 = x3 := (Prod.mk.inj e5).2
  refine lv_aload_n hx hb dL_law_1332 rfl (lv_at hl 2 rfl) ?_
  refine lg_arg C hL hH1.S hl rfl rfl 1 (by omega) dL_law_1333 dL_law_1334 dL_law_1335 (by decide) dL_law_1336 dL_law_1337 ?_
  refine lg_arg C hL hH1.S hl rfl rfl 2 (by omega) dL_law_1338 dL_law_1339 dL_law_1340 (by decide) dL_law_1341 dL_law_1342 ?_
  refine lg_arg C hL hH1.S hl rfl rfl 3 (by omega) dL_law_1343 dL_law_1344 dL_law_1345 (by decide) dL_law_1346 dL_law_1347 ?_
  refine lcall_i (As := [.int (xs (i + 1)), .int (xs (i + 2)), .int (xs (i + 3))]) (rest := [.int r]) (v := m2) (r := r) C hH.2.2.2.1 hH1.2.1 hH1.2.2.2.2.1 hH1.2.2.2.2.2 hl.1 (show uGV RL 139 yX12_setPolicyCube cX12_setPolicyCube 3 4 (some .int) from ⟨gWV tw1250 tw1251 tw1252 tw14 tw1253, ⟨by decide, by decide, by decide⟩⟩) (RX12, TX12, 33) rfl rfl (by decide) hR.km (mX12_setPolicyCube e4) ⟨rfl, rfl⟩ rfl ⟨by decide, by decide⟩ rfl (Nat.le_of_ble_eq_true rfl) ⟨Nat.le_trans (Nat.le_add_right _ 1) hc, Nat.le_trans (Nat.le_add_right _ 8) hs⟩ dL_law_1348 (fun H2 b1 b2 b3 b4 => ?_)
  have hH2 := hH1.callm b1 b2 b3 b4
  refine lg_eq C (tgt := 1510) dL_law_1351 rfl ?_
  refine W.widen (k := cells + 1) (n := slots + 8) (Nat.le_add_right _ 1) (Nat.le_add_right _ 8) ?_
  exact K T2 _ _ H2 (hR2.rzx (lh_fin a1 b3)) hH2
theorem lcs_29 (C : LC p s m meth c b L xs D tw) (hL : L ≤ 3584) (hR : RR T x mU) (hH : LH D s B1 x mU H) (hl : lv_has ls 4 [(0, .ref b), (1, .ref (s.heap.size + 0)), (2, .ref (B1 + 0)), (3, .int (nI i))]) (hi : i + 6 < L) (hc : cells + 1 ≤ 600000) (hs : slots + 8 ≤ 7302250) (K : ∀ T' x' m' H', RR T' x' m' → LH D s B1 x' m' H' → LG p l e s m b below meth c H' (cells + 1) (slots + 8) 1510 ls []) : LG p l e s m b below meth c H cells slots 1356 ls [] := by
  have hx := C.1.1
  have hb := C.1.2.1
  obtain ⟨r, x2, _, _, e1, -, -⟩ := s_counterexamples (x1 := (xs (i + 1))) hR
  refine lv_aload_n hx hb dL_law_1356 rfl (lv_at hl 1 rfl) ?_
  refine lg_arg C hL hH.S hl rfl rfl 1 (by omega) dL_law_1357 dL_law_1358 dL_law_1359 (by decide) dL_law_1360 dL_law_1361 ?_
  refine lcall_l (As := [.int (xs (i + 1))]) (rest := []) (v := x2) (r := r) C (Nat.le_refl _) hH.1 hH.2.2.2.2.1 hH.2.2.2.2.2 hl.1 (show uGV RL 140 yX11_counterexamples cX11_counterexamples 1 2 (some .long) from ⟨gWV tw811 tw812 tw813 tw1 tw814, ⟨by decide, by decide, by decide⟩⟩) (RX11, TX11, 12) rfl rfl (by decide) hR.kx (mX11_counterexamples e1) ⟨rfl, rfl⟩ rfl ⟨by decide, by decide⟩ rfl (Nat.le_of_ble_eq_true rfl) ⟨Nat.le_trans (Nat.add_le_add_left (by decide) _) hc, Nat.le_trans (Nat.add_le_add_left (by decide) _) hs⟩ dL_law_1362 (fun H1 a1 a2 a3 a4 => ?_)
  have hH1 := hH.callx a1 a2 a3 a4
  obtain ⟨r2, x3, m2, T2, e2, e4, hR2⟩ := s_counterexamples (x1 := (xs (i + 1))) (hR.rzm (H1.size - B1))
  have e5 := Option.some.inj (e1.symm.trans e2)
  obtain rfl : r = r2 := (Prod.mk.inj e5).1
  obtain rfl : x2 = x3 := (Prod.mk.inj e5).2
  refine lv_aload_n hx hb dL_law_1365 rfl (lv_at hl 2 rfl) ?_
  refine lg_arg C hL hH1.S hl rfl rfl 1 (by omega) dL_law_1366 dL_law_1367 dL_law_1368 (by decide) dL_law_1369 dL_law_1370 ?_
  refine lcall_l (As := [.int (xs (i + 1))]) (rest := [.long r]) (v := m2) (r := r) C hH.2.2.2.1 hH1.2.1 hH1.2.2.2.2.1 hH1.2.2.2.2.2 hl.1 (show uGV RL 144 yX12_counterexamples cX12_counterexamples 1 2 (some .long) from ⟨gWV tw1258 tw1259 tw1260 tw14 tw1261, ⟨by decide, by decide, by decide⟩⟩) (RX12, TX12, 33) rfl rfl (by decide) hR.km (mX12_counterexamples e4) ⟨rfl, rfl⟩ rfl ⟨by decide, by decide⟩ rfl (Nat.le_of_ble_eq_true rfl) ⟨Nat.le_trans (Nat.le_add_right _ 1) hc, Nat.le_trans (Nat.le_add_right _ 8) hs⟩ dL_law_1371 (fun H2 b1 b2 b3 b4 => ?_)
  have hH2 := hH1.callm b1 b2 b3 b4
  refine lg_eql C (tgt := 1510) dL_law_1374 dL_law_1375 rfl ?_
  refine W.widen (k := cells + 1) (n := slots + 8) (Nat.le_add_right _ 1) (Nat.le_add_right _ 8) ?_
  exact K T2 _ _ H2 (hR2.rzx (lh_fin a1 b3)) hH2
theorem lcs_30 (C : LC p s m meth c b L xs D tw) (hL : L ≤ 3584) (hR : RR T x mU) (hH : LH D s B1 x mU H) (hl : lv_has ls 4 [(0, .ref b), (1, .ref (s.heap.size + 0)), (2, .ref (B1 + 0)), (3, .int (nI i))]) (hi : i + 6 < L) (hc : cells + 1 ≤ 600000) (hs : slots + 8 ≤ 7302250) (K : ∀ T' x' m' H', RR T' x' m' → LH D s B1 x' m' H' → LG p l e s m b below meth c H' (cells + 1) (slots + 8) 1510 ls []) : LG p l e s m b below meth c H cells slots 1380 ls [] := by
  have hx := C.1.1
  have hb := C.1.2.1
  obtain ⟨r, x2, _, _, e1, -, -⟩ := s_violated hR
  refine lv_aload_n hx hb dL_law_1380 rfl (lv_at hl 1 rfl) ?_
  refine lcall_i (As := []) (rest := []) (v := x2) (r := r) C (Nat.le_refl _) hH.1 hH.2.2.2.2.1 hH.2.2.2.2.2 hl.1 (show uGV RL 145 yX11_violated cX11_violated 0 3 (some .int) from ⟨gWV tw819 tw820 tw821 tw1 tw822, ⟨by decide, by decide, by decide⟩⟩) (RX11, TX11, 12) rfl rfl (by decide) hR.kx (mX11_violated e1) ⟨rfl, rfl⟩ rfl ⟨by decide, by decide⟩ rfl (Nat.le_of_ble_eq_true rfl) ⟨Nat.le_trans (Nat.add_le_add_left (by decide) _) hc, Nat.le_trans (Nat.add_le_add_left (by decide) _) hs⟩ dL_law_1381 (fun H1 a1 a2 a3 a4 => ?_)
  have hH1 := hH.callx a1 a2 a3 a4
  obtain ⟨r2, x3, m2, T2, e2, e4, hR2⟩ := s_violated (hR.rzm (H1.size - B1))
  have e5 := Option.some.inj (e1.symm.trans e2)
  obtain rfl : r = r2 := (Prod.mk.inj e5).1
  obtain rfl : x2 = x3 := (Prod.mk.inj e5).2
  refine lv_aload_n hx hb dL_law_1384 rfl (lv_at hl 2 rfl) ?_
  refine lcall_i (As := []) (rest := [.int r]) (v := m2) (r := r) C hH.2.2.2.1 hH1.2.1 hH1.2.2.2.2.1 hH1.2.2.2.2.2 hl.1 (show uGV RL 148 yX12_violated cX12_violated 0 3 (some .int) from ⟨gWV tw1266 tw1267 tw1268 tw14 tw1269, ⟨by decide, by decide, by decide⟩⟩) (RX12, TX12, 33) rfl rfl (by decide) hR.km (mX12_violated e4) ⟨rfl, rfl⟩ rfl ⟨by decide, by decide⟩ rfl (Nat.le_of_ble_eq_true rfl) ⟨Nat.le_trans (Nat.le_add_right _ 1) hc, Nat.le_trans (Nat.le_add_right _ 8) hs⟩ dL_law_1385 (fun H2 b1 b2 b3 b4 => ?_)
  have hH2 := hH1.callm b1 b2 b3 b4
  refine lg_eq C (tgt := 1510) dL_law_1388 rfl ?_
  refine W.widen (k := cells + 1) (n := slots + 8) (Nat.le_add_right _ 1) (Nat.le_add_right _ 8) ?_
  exact K T2 _ _ H2 (hR2.rzx (lh_fin a1 b3)) hH2
theorem lcs_31 (C : LC p s m meth c b L xs D tw) (hL : L ≤ 3584) (hR : RR T x mU) (hH : LH D s B1 x mU H) (hl : lv_has ls 4 [(0, .ref b), (1, .ref (s.heap.size + 0)), (2, .ref (B1 + 0)), (3, .int (nI i))]) (hi : i + 6 < L) (hc : cells + 1 ≤ 600000) (hs : slots + 8 ≤ 7302250) (K : ∀ T' x' m' H', RR T' x' m' → LH D s B1 x' m' H' → LG p l e s m b below meth c H' (cells + 1) (slots + 8) 1510 ls []) : LG p l e s m b below meth c H cells slots 1393 ls [] := by
  have hx := C.1.1
  have hb := C.1.2.1
  obtain ⟨r, x2, _, _, e1, -, -⟩ := s_clearPolicies hR
  refine lv_aload_n hx hb dL_law_1393 rfl (lv_at hl 1 rfl) ?_
  refine lcall_i (As := []) (rest := []) (v := x2) (r := r) C (Nat.le_refl _) hH.1 hH.2.2.2.2.1 hH.2.2.2.2.2 hl.1 (show uGV RL 149 yX11_clearPolicies cX11_clearPolicies 0 2 (some .int) from ⟨gWV tw823 tw824 tw825 tw1 tw826, ⟨by decide, by decide, by decide⟩⟩) (RX11, TX11, 12) rfl rfl (by decide) hR.kx (mX11_clearPolicies e1) ⟨rfl, rfl⟩ rfl ⟨by decide, by decide⟩ rfl (Nat.le_of_ble_eq_true rfl) ⟨Nat.le_trans (Nat.add_le_add_left (by decide) _) hc, Nat.le_trans (Nat.add_le_add_left (by decide) _) hs⟩ dL_law_1394 (fun H1 a1 a2 a3 a4 => ?_)
  have hH1 := hH.callx a1 a2 a3 a4
  obtain ⟨r2, x3, m2, T2, e2, e4, hR2⟩ := s_clearPolicies (hR.rzm (H1.size - B1))
  have e5 := Option.some.inj (e1.symm.trans e2)
  obtain rfl : r = r2 := (Prod.mk.inj e5).1
  obtain rfl : x2 = x3 := (Prod.mk.inj e5).2
  refine lv_aload_n hx hb dL_law_1397 rfl (lv_at hl 2 rfl) ?_
  refine lcall_i (As := []) (rest := [.int r]) (v := m2) (r := r) C hH.2.2.2.1 hH1.2.1 hH1.2.2.2.2.1 hH1.2.2.2.2.2 hl.1 (show uGV RL 152 yX12_clearPolicies cX12_clearPolicies 0 2 (some .int) from ⟨gWV tw1270 tw1271 tw1272 tw14 tw1273, ⟨by decide, by decide, by decide⟩⟩) (RX12, TX12, 33) rfl rfl (by decide) hR.km (mX12_clearPolicies e4) ⟨rfl, rfl⟩ rfl ⟨by decide, by decide⟩ rfl (Nat.le_of_ble_eq_true rfl) ⟨Nat.le_trans (Nat.le_add_right _ 1) hc, Nat.le_trans (Nat.le_add_right _ 8) hs⟩ dL_law_1398 (fun H2 b1 b2 b3 b4 => ?_)
  have hH2 := hH1.callm b1 b2 b3 b4
  refine lg_eq C (tgt := 1510) dL_law_1401 rfl ?_
  refine W.widen (k := cells + 1) (n := slots + 8) (Nat.le_add_right _ 1) (Nat.le_add_right _ 8) ?_
  exact K T2 _ _ H2 (hR2.rzx (lh_fin a1 b3)) hH2
theorem lcs_32 (C : LC p s m meth c b L xs D tw) (hL : L ≤ 3584) (hR : RR T x mU) (hH : LH D s B1 x mU H) (hl : lv_has ls 4 [(0, .ref b), (1, .ref (s.heap.size + 0)), (2, .ref (B1 + 0)), (3, .int (nI i))]) (hi : i + 6 < L) (hc : cells + 1 ≤ 600000) (hs : slots + 8 ≤ 7302250) (K : ∀ T' x' m' H', RR T' x' m' → LH D s B1 x' m' H' → LG p l e s m b below meth c H' (cells + 1) (slots + 8) 1510 ls []) : LG p l e s m b below meth c H cells slots 1406 ls [] := by
  have hx := C.1.1
  have hb := C.1.2.1
  obtain ⟨r, x2, _, _, e1, -, -⟩ := s_type (x1 := (jc (xs (i + 1)))) hR
  refine lv_aload_n hx hb dL_law_1406 rfl (lv_at hl 1 rfl) ?_
  refine lg_arg C hL hH.S hl rfl rfl 1 (by omega) dL_law_1407 dL_law_1408 dL_law_1409 (by decide) dL_law_1410 dL_law_1411 ?_
  refine lv_i2c (v := jc (xs (i + 1))) hx hb dL_law_1412 rfl ?_
  refine lcall_i (As := [.int (jc (xs (i + 1)))]) (rest := []) (v := x2) (r := r) C (Nat.le_refl _) hH.1 hH.2.2.2.2.1 hH.2.2.2.2.2 hl.1 (show uGV RL 153 yX11_type cX11_type 1 2 (some .int) from ⟨gWV tw827 tw828 tw829 tw1 tw830, ⟨by decide, by decide, by decide⟩⟩) (RX11, TX11, 12) rfl rfl (by decide) hR.kx (mX11_type e1) ⟨rfl, rfl⟩ rfl ⟨by decide, by decide⟩ rfl (Nat.le_of_ble_eq_true rfl) ⟨Nat.le_trans (Nat.add_le_add_left (by decide) _) hc, Nat.le_trans (Nat.add_le_add_left (by decide) _) hs⟩ dL_law_1413 (fun H1 a1 a2 a3 a4 => ?_)
  have hH1 := hH.callx a1 a2 a3 a4
  obtain ⟨r2, x3, m2, T2, e2, e4, hR2⟩ := s_type (x1 := (jc (xs (i + 1)))) (hR.rzm (H1.size - B1))
  have e5 := Option.some.inj (e1.symm.trans e2)
  obtain rfl : r = r2 := (Prod.mk.inj e5).1
  obtain rfl : x2 = x3 := (Prod.mk.inj e5).2
  refine lv_aload_n hx hb dL_law_1416 rfl (lv_at hl 2 rfl) ?_
  refine lg_arg C hL hH1.S hl rfl rfl 1 (by omega) dL_law_1417 dL_law_1418 dL_law_1419 (by decide) dL_law_1420 dL_law_1421 ?_
  refine lv_i2c (v := jc (xs (i + 1))) hx hb dL_law_1422 rfl ?_
  refine lcall_i (As := [.int (jc (xs (i + 1)))]) (rest := [.int r]) (v := m2) (r := r) C hH.2.2.2.1 hH1.2.1 hH1.2.2.2.2.1 hH1.2.2.2.2.2 hl.1 (show uGV RL 157 yX12_type cX12_type 1 2 (some .int) from ⟨gWV tw1274 tw1275 tw1276 tw14 tw1277, ⟨by decide, by decide, by decide⟩⟩) (RX12, TX12, 33) rfl rfl (by decide) hR.km (mX12_type e4) ⟨rfl, rfl⟩ rfl ⟨by decide, by decide⟩ rfl (Nat.le_of_ble_eq_true rfl) ⟨Nat.le_trans (Nat.le_add_right _ 1) hc, Nat.le_trans (Nat.le_add_right _ 8) hs⟩ dL_law_1423 (fun H2 b1 b2 b3 b4 => ?_)
  have hH2 := hH1.callm b1 b2 b3 b4
  refine lg_eq C (tgt := 1510) dL_law_1426 rfl ?_
  refine W.widen (k := cells + 1) (n := slots + 8) (Nat.le_add_right _ 1) (Nat.le_add_right _ 8) ?_
  exact K T2 _ _ H2 (hR2.rzx (lh_fin a1 b3)) hH2
theorem lcs_33 (C : LC p s m meth c b L xs D tw) (hL : L ≤ 3584) (hR : RR T x mU) (hH : LH D s B1 x mU H) (hl : lv_has ls 4 [(0, .ref b), (1, .ref (s.heap.size + 0)), (2, .ref (B1 + 0)), (3, .int (nI i))]) (hi : i + 6 < L) (hc : cells + 1 ≤ 600000) (hs : slots + 8 ≤ 7302250) (K : ∀ T' x' m' H', RR T' x' m' → LH D s B1 x' m' H' → LG p l e s m b below meth c H' (cells + 1) (slots + 8) 1510 ls []) : LG p l e s m b below meth c H cells slots 1431 ls [] := by
  have hx := C.1.1
  have hb := C.1.2.1
  obtain ⟨r, x2, _, _, e1, -, -⟩ := s_clearText hR
  refine lv_aload_n hx hb dL_law_1431 rfl (lv_at hl 1 rfl) ?_
  refine lcall_i (As := []) (rest := []) (v := x2) (r := r) C (Nat.le_refl _) hH.1 hH.2.2.2.2.1 hH.2.2.2.2.2 hl.1 (show uGV RL 158 yX11_clearText cX11_clearText 0 2 (some .int) from ⟨gWV tw831 tw832 tw833 tw1 tw834, ⟨by decide, by decide, by decide⟩⟩) (RX11, TX11, 12) rfl rfl (by decide) hR.kx (mX11_clearText e1) ⟨rfl, rfl⟩ rfl ⟨by decide, by decide⟩ rfl (Nat.le_of_ble_eq_true rfl) ⟨Nat.le_trans (Nat.add_le_add_left (by decide) _) hc, Nat.le_trans (Nat.add_le_add_left (by decide) _) hs⟩ dL_law_1432 (fun H1 a1 a2 a3 a4 => ?_)
  have hH1 := hH.callx a1 a2 a3 a4
  obtain ⟨r2, x3, m2, T2, e2, e4, hR2⟩ := s_clearText (hR.rzm (H1.size - B1))
  have e5 := Option.some.inj (e1.symm.trans e2)
  obtain rfl : r = r2 := (Prod.mk.inj e5).1
  obtain rfl : x2 = x3 := (Prod.mk.inj e5).2
  refine lv_aload_n hx hb dL_law_1435 rfl (lv_at hl 2 rfl) ?_
  refine lcall_i (As := []) (rest := [.int r]) (v := m2) (r := r) C hH.2.2.2.1 hH1.2.1 hH1.2.2.2.2.1 hH1.2.2.2.2.2 hl.1 (show uGV RL 161 yX12_clearText cX12_clearText 0 2 (some .int) from ⟨gWV tw1278 tw1279 tw1280 tw14 tw1281, ⟨by decide, by decide, by decide⟩⟩) (RX12, TX12, 33) rfl rfl (by decide) hR.km (mX12_clearText e4) ⟨rfl, rfl⟩ rfl ⟨by decide, by decide⟩ rfl (Nat.le_of_ble_eq_true rfl) ⟨Nat.le_trans (Nat.le_add_right _ 1) hc, Nat.le_trans (Nat.le_add_right _ 8) hs⟩ dL_law_1436 (fun H2 b1 b2 b3 b4 => ?_)
  have hH2 := hH1.callm b1 b2 b3 b4
  refine lg_eq C (tgt := 1510) dL_law_1439 rfl ?_
  refine W.widen (k := cells + 1) (n := slots + 8) (Nat.le_add_right _ 1) (Nat.le_add_right _ 8) ?_
  exact K T2 _ _ H2 (hR2.rzx (lh_fin a1 b3)) hH2
theorem lcs_34 (C : LC p s m meth c b L xs D tw) (hL : L ≤ 3584) (hR : RR T x mU) (hH : LH D s B1 x mU H) (hl : lv_has ls 4 [(0, .ref b), (1, .ref (s.heap.size + 0)), (2, .ref (B1 + 0)), (3, .int (nI i))]) (hi : i + 6 < L) (hc : cells + 1 ≤ 600000) (hs : slots + 8 ≤ 7302250) (K : ∀ T' x' m' H', RR T' x' m' → LH D s B1 x' m' H' → LG p l e s m b below meth c H' (cells + 1) (slots + 8) 1510 ls []) : LG p l e s m b below meth c H cells slots 1444 ls [] := by
  have hx := C.1.1
  have hb := C.1.2.1
  obtain ⟨r, x2, _, _, e1, -, -⟩ := s_readRule (x1 := (xs (i + 1))) hR
  refine lv_aload_n hx hb dL_law_1444 rfl (lv_at hl 1 rfl) ?_
  refine lg_arg C hL hH.S hl rfl rfl 1 (by omega) dL_law_1445 dL_law_1446 dL_law_1447 (by decide) dL_law_1448 dL_law_1449 ?_
  refine lcall_i (As := [.int (xs (i + 1))]) (rest := []) (v := x2) (r := r) C (Nat.le_refl _) hH.1 hH.2.2.2.2.1 hH.2.2.2.2.2 hl.1 (show uGV RL 162 yX11_readRule cX11_readRule 1 2 (some .int) from ⟨gWV tw835 tw836 tw837 tw1 tw838, ⟨by decide, by decide, by decide⟩⟩) (RX11, TX11, 12) rfl rfl (by decide) hR.kx (mX11_readRule e1) ⟨rfl, rfl⟩ rfl ⟨by decide, by decide⟩ rfl (Nat.le_of_ble_eq_true rfl) ⟨Nat.le_trans (Nat.add_le_add_left (by decide) _) hc, Nat.le_trans (Nat.add_le_add_left (by decide) _) hs⟩ dL_law_1450 (fun H1 a1 a2 a3 a4 => ?_)
  have hH1 := hH.callx a1 a2 a3 a4
  obtain ⟨r2, x3, m2, T2, e2, e4, hR2⟩ := s_readRule (x1 := (xs (i + 1))) (hR.rzm (H1.size - B1))
  have e5 := Option.some.inj (e1.symm.trans e2)
  obtain rfl : r = r2 := (Prod.mk.inj e5).1
  obtain rfl : x2 = x3 := (Prod.mk.inj e5).2
  refine lv_aload_n hx hb dL_law_1453 rfl (lv_at hl 2 rfl) ?_
  refine lg_arg C hL hH1.S hl rfl rfl 1 (by omega) dL_law_1454 dL_law_1455 dL_law_1456 (by decide) dL_law_1457 dL_law_1458 ?_
  refine lcall_i (As := [.int (xs (i + 1))]) (rest := [.int r]) (v := m2) (r := r) C hH.2.2.2.1 hH1.2.1 hH1.2.2.2.2.1 hH1.2.2.2.2.2 hl.1 (show uGV RL 165 yX12_readRule cX12_readRule 1 9 (some .int) from ⟨gWV tw1282 tw1283 tw1284 tw14 tw1285, ⟨by decide, by decide, by decide⟩⟩) (RX12, TX12, 33) rfl rfl (by decide) hR.km (mX12_readRule e4) ⟨rfl, rfl⟩ rfl ⟨by decide, by decide⟩ rfl (Nat.le_of_ble_eq_true rfl) ⟨Nat.le_trans (Nat.le_of_eq rfl) hc, Nat.le_trans (Nat.le_of_eq rfl) hs⟩ dL_law_1459 (fun H2 b1 b2 b3 b4 => ?_)
  have hH2 := hH1.callm b1 b2 b3 b4
  refine lg_eq C (tgt := 1510) dL_law_1462 rfl ?_
  exact K T2 _ _ H2 (hR2.rzx (lh_fin a1 b3)) hH2
theorem lcs_35 (C : LC p s m meth c b L xs D tw) (hL : L ≤ 3584) (hR : RR T x mU) (hH : LH D s B1 x mU H) (hl : lv_has ls 4 [(0, .ref b), (1, .ref (s.heap.size + 0)), (2, .ref (B1 + 0)), (3, .int (nI i))]) (hi : i + 6 < L) (hc : cells + 1 ≤ 600000) (hs : slots + 8 ≤ 7302250) (K : ∀ T' x' m' H', RR T' x' m' → LH D s B1 x' m' H' → LG p l e s m b below meth c H' (cells + 1) (slots + 8) 1510 ls []) : LG p l e s m b below meth c H cells slots 1467 ls [] := by
  have hx := C.1.1
  have hb := C.1.2.1
  obtain ⟨r, x2, _, _, e1, -, -⟩ := s_ruleText (x1 := (xs (i + 1))) (x2 := (xs (i + 2))) (x3 := (xs (i + 3))) hR
  refine lv_aload_n hx hb dL_law_1467 rfl (lv_at hl 1 rfl) ?_
  refine lg_arg C hL hH.S hl rfl rfl 1 (by omega) dL_law_1468 dL_law_1469 dL_law_1470 (by decide) dL_law_1471 dL_law_1472 ?_
  refine lg_arg C hL hH.S hl rfl rfl 2 (by omega) dL_law_1473 dL_law_1474 dL_law_1475 (by decide) dL_law_1476 dL_law_1477 ?_
  refine lg_arg C hL hH.S hl rfl rfl 3 (by omega) dL_law_1478 dL_law_1479 dL_law_1480 (by decide) dL_law_1481 dL_law_1482 ?_
  refine lcall_i (As := [.int (xs (i + 1)), .int (xs (i + 2)), .int (xs (i + 3))]) (rest := []) (v := x2) (r := r) C (Nat.le_refl _) hH.1 hH.2.2.2.2.1 hH.2.2.2.2.2 hl.1 (show uGV RL 166 yX11_ruleText cX11_ruleText 3 5 (some .int) from ⟨gWV tw873 tw874 tw875 tw1 tw876, ⟨by decide, by decide, by decide⟩⟩) (RX11, TX11, 12) rfl rfl (by decide) hR.kx (mX11_ruleText e1) ⟨rfl, rfl⟩ rfl ⟨by decide, by decide⟩ rfl (Nat.le_of_ble_eq_true rfl) ⟨Nat.le_trans (Nat.add_le_add_left (by decide) _) hc, Nat.le_trans (Nat.add_le_add_left (by decide) _) hs⟩ dL_law_1483 (fun H1 a1 a2 a3 a4 => ?_)
  have hH1 := hH.callx a1 a2 a3 a4
  obtain ⟨r2, x3, m2, T2, e2, e4, hR2⟩ := s_ruleText (x1 := (xs (i + 1))) (x2 := (xs (i + 2))) (x3 := (xs (i + 3))) (hR.rzm (H1.size - B1))
  have e5 := Option.some.inj (e1.symm.trans e2)
  obtain rfl : r = r2 := (Prod.mk.inj e5).1
  obtain rfl : x2 = x3 := (Prod.mk.inj e5).2
  refine lv_aload_n hx hb dL_law_1486 rfl (lv_at hl 2 rfl) ?_
  refine lg_arg C hL hH1.S hl rfl rfl 1 (by omega) dL_law_1487 dL_law_1488 dL_law_1489 (by decide) dL_law_1490 dL_law_1491 ?_
  refine lg_arg C hL hH1.S hl rfl rfl 2 (by omega) dL_law_1492 dL_law_1493 dL_law_1494 (by decide) dL_law_1495 dL_law_1496 ?_
  refine lg_arg C hL hH1.S hl rfl rfl 3 (by omega) dL_law_1497 dL_law_1498 dL_law_1499 (by decide) dL_law_1500 dL_law_1501 ?_
  refine lcall_i (As := [.int (xs (i + 1)), .int (xs (i + 2)), .int (xs (i + 3))]) (rest := [.int r]) (v := m2) (r := r) C hH.2.2.2.1 hH1.2.1 hH1.2.2.2.2.1 hH1.2.2.2.2.2 hl.1 (show uGV RL 169 yX12_ruleText cX12_ruleText 3 5 (some .int) from ⟨gWV tw1302 tw1303 tw1304 tw14 tw1305, ⟨by decide, by decide, by decide⟩⟩) (RX12, TX12, 33) rfl rfl (by decide) hR.km (mX12_ruleText e4) ⟨rfl, rfl⟩ rfl ⟨by decide, by decide⟩ rfl (Nat.le_of_ble_eq_true rfl) ⟨Nat.le_trans (Nat.le_add_right _ 1) hc, Nat.le_trans (Nat.le_add_right _ 8) hs⟩ dL_law_1502 (fun H2 b1 b2 b3 b4 => ?_)
  have hH2 := hH1.callm b1 b2 b3 b4
  refine lg_eq C (tgt := 1510) dL_law_1505 rfl ?_
  refine W.widen (k := cells + 1) (n := slots + 8) (Nat.le_add_right _ 1) (Nat.le_add_right _ 8) ?_
  exact K T2 _ _ H2 (hR2.rzx (lh_fin a1 b3)) hH2
end
