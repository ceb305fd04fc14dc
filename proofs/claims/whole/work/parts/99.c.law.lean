/-! ===== the law, case by case ===== -/
abbrev lvL (sc B i : Nat) : List (Nat × Value) := [(0, .ref sc), (1, .ref (B + 1)), (2, .ref (B + 240 + 1)), (3, .ref (B + 291)), (4, .int (nI (7 * i)))]
theorem wKL_19 : Cond.constantLong RL 19 4294967295 ∈ zT := zT_mem (by decide +kernel) rfl
section LW
variable {p : Program} {l : Launch} {e : Env} {s : State} {m : MethodId} {below : List Frame} {meth : Method} {c : Code} {D : zD} {B sc L : Nat} {xs : Nat → Int32} {u v : zM} {x : Int64} {H : Heap} {locs : List Loc} {cells slots : Nat} {ls : Array Slot} {Q : State → Prop} {i : Nat}
def lwK (p : Program) (l : Launch) (e : Env) (s : State) (m : MethodId) (below : List Frame) (meth : Method) (c : Code) (D : zD) (B sc : Nat) (cells slots : Nat) (Q : State → Prop) (i : Nat) : Prop := ∀ u v x H locs ls, Inv (i + 1) u v → lzI D B s u v x H locs → lv_has ls 7 (lvL sc B i) → W p l e room_1 s m #[Value.ref sc] below meth c H locs (cells + 1) (slots + 6) Q (F0 m 1579 ls [])
set_option maxHeartbeats 2000000 in
theorem lw_c0 (hC : lzC p l s m meth c D B sc L xs) (hi : 7 * i + 7 ≤ L) (hcap : cells + 1 ≤ 601024 ∧ slots + 6 ≤ 7293034) (K : lwK p l e s m below meth c D B sc cells slots Q i) (hV : Inv i u v) (hI : lzI D B s u v x H locs) (hl : lv_has ls 7 (lvL sc B i)) : W p l e room_1 s m #[Value.ref sc] below meth c H locs cells slots Q (F0 m 224 ls []) := by
  have hx := hC.1.1
  have hb := hC.1.2.1
  have hn : i < 600 := by have := hC.2.2.2.2.2.2; omega
  have h0 := lv_at hl 0 rfl
  have h4 := lv_at hl 4 rfl
  have hcp : cells ≤ 601024 ∧ slots ≤ 7293034 := by omega
  obtain ⟨r, u', v', e1, e2, hV'⟩ := c_feed hV hn (((xs (7 * i + 1)).toInt64 <<< ((32 : Int32).toInt64 &&& 63)) ||| ((xs (7 * i + 2)).toInt64 &&& 4294967295)) (((xs (7 * i + 3)).toInt64 <<< ((32 : Int32).toInt64 &&& 63)) ||| ((xs (7 * i + 4)).toInt64 &&& 4294967295)) (((xs (7 * i + 5)).toInt64 <<< ((32 : Int32).toInt64 &&& 63)) ||| ((xs (7 * i + 6)).toInt64 &&& 4294967295))
  refine lv_aload_n hx hb dL_law_224 rfl (lv_at hl 1 rfl) ?_
  refine lz_arg (k := 1) hC h0 h4 hi (by decide) hI dL_law_225 dL_law_226 dL_law_228 (by decide) dL_law_229 dL_law_230 ?_
  refine lv_i2l hx hb dL_law_231 rfl ?_
  refine lv_bipush (v := 32) hx hb dL_law_232 (by decide) ?_
  refine lv_lshl hx hb dL_law_234 rfl ?_
  refine lz_arg (k := 2) hC h0 h4 hi (by decide) hI dL_law_235 dL_law_236 dL_law_238 (by decide) dL_law_239 dL_law_240 ?_
  refine lv_i2l hx hb dL_law_241 rfl ?_
  refine lv_ldc2 (own := RL) hx hb hC.1.2.2.2.2.1 (hC.1.2.2.2.2.2.1 _ (List.mem_filter.mp wKL_19).1) dL_law_242 ?_
  refine lv_land hx hb dL_law_245 ?_
  refine lv_lor hx hb dL_law_246 ?_
  refine lz_arg (k := 3) hC h0 h4 hi (by decide) hI dL_law_247 dL_law_248 dL_law_250 (by decide) dL_law_251 dL_law_252 ?_
  refine lv_i2l hx hb dL_law_253 rfl ?_
  refine lv_bipush (v := 32) hx hb dL_law_254 (by decide) ?_
  refine lv_lshl hx hb dL_law_256 rfl ?_
  refine lz_arg (k := 4) hC h0 h4 hi (by decide) hI dL_law_257 dL_law_258 dL_law_260 (by decide) dL_law_261 dL_law_262 ?_
  refine lv_i2l hx hb dL_law_263 rfl ?_
  refine lv_ldc2 (own := RL) hx hb hC.1.2.2.2.2.1 (hC.1.2.2.2.2.2.1 _ (List.mem_filter.mp wKL_19).1) dL_law_264 ?_
  refine lv_land hx hb dL_law_267 ?_
  refine lv_lor hx hb dL_law_268 ?_
  refine lz_arg (k := 5) hC h0 h4 hi (by decide) hI dL_law_269 dL_law_270 dL_law_272 (by decide) dL_law_273 dL_law_274 ?_
  refine lv_i2l hx hb dL_law_275 rfl ?_
  refine lv_bipush (v := 32) hx hb dL_law_276 (by decide) ?_
  refine lv_lshl hx hb dL_law_278 rfl ?_
  refine lz_arg6 (k := 6) hC h0 h4 hi (by decide) hI dL_law_279 dL_law_280 dL_law_282 (by decide) dL_law_284 dL_law_285 ?_
  refine lv_i2l hx hb dL_law_286 rfl ?_
  refine lv_ldc2 (own := RL) hx hb hC.1.2.2.2.2.1 (hC.1.2.2.2.2.2.1 _ (List.mem_filter.mp wKL_19).1) dL_law_287 ?_
  refine lv_land hx hb dL_law_290 ?_
  refine lv_lor hx hb dL_law_291 ?_
  refine lz_vC (av := [.long (((xs (7 * i + 1)).toInt64 <<< ((32 : Int32).toInt64 &&& 63)) ||| ((xs (7 * i + 2)).toInt64 &&& 4294967295)), .long (((xs (7 * i + 3)).toInt64 <<< ((32 : Int32).toInt64 &&& 63)) ||| ((xs (7 * i + 4)).toInt64 &&& 4294967295)), .long (((xs (7 * i + 5)).toInt64 <<< ((32 : Int32).toInt64 &&& 63)) ||| ((xs (7 * i + 6)).toInt64 &&& 4294967295))]) (st := []) hC rfl (sOW_feed _ _ _ _ _ _ e1) rfl wML_21 hpyX9_feed hmyX9_feed ⟨Nat.le_of_ble_eq_true rfl, Nat.le_of_ble_eq_true rfl⟩ (Nat.le_of_ble_eq_true rfl) dL_law_292 hl.1 hcp hI (fun H locs hI => ?_)
  show W p l e room_1 s m #[Value.ref sc] below meth c H locs cells slots Q (F0 m 295 ls [.int r])
  refine lv_aload_n hx hb dL_law_295 rfl (lv_at hl 2 rfl) ?_
  refine lz_arg (k := 1) hC h0 h4 hi (by decide) hI dL_law_296 dL_law_297 dL_law_299 (by decide) dL_law_300 dL_law_301 ?_
  refine lv_i2l hx hb dL_law_302 rfl ?_
  refine lv_bipush (v := 32) hx hb dL_law_303 (by decide) ?_
  refine lv_lshl hx hb dL_law_305 rfl ?_
  refine lz_arg (k := 2) hC h0 h4 hi (by decide) hI dL_law_306 dL_law_307 dL_law_309 (by decide) dL_law_310 dL_law_311 ?_
  refine lv_i2l hx hb dL_law_312 rfl ?_
  refine lv_ldc2 (own := RL) hx hb hC.1.2.2.2.2.1 (hC.1.2.2.2.2.2.1 _ (List.mem_filter.mp wKL_19).1) dL_law_313 ?_
  refine lv_land hx hb dL_law_316 ?_
  refine lv_lor hx hb dL_law_317 ?_
  refine lz_arg (k := 3) hC h0 h4 hi (by decide) hI dL_law_318 dL_law_319 dL_law_321 (by decide) dL_law_322 dL_law_323 ?_
  refine lv_i2l hx hb dL_law_324 rfl ?_
  refine lv_bipush (v := 32) hx hb dL_law_325 (by decide) ?_
  refine lv_lshl hx hb dL_law_327 rfl ?_
  refine lz_arg (k := 4) hC h0 h4 hi (by decide) hI dL_law_328 dL_law_329 dL_law_331 (by decide) dL_law_332 dL_law_333 ?_
  refine lv_i2l hx hb dL_law_334 rfl ?_
  refine lv_ldc2 (own := RL) hx hb hC.1.2.2.2.2.1 (hC.1.2.2.2.2.2.1 _ (List.mem_filter.mp wKL_19).1) dL_law_335 ?_
  refine lv_land hx hb dL_law_338 ?_
  refine lv_lor hx hb dL_law_339 ?_
  refine lz_arg (k := 5) hC h0 h4 hi (by decide) hI dL_law_340 dL_law_341 dL_law_343 (by decide) dL_law_344 dL_law_345 ?_
  refine lv_i2l hx hb dL_law_346 rfl ?_
  refine lv_bipush (v := 32) hx hb dL_law_347 (by decide) ?_
  refine lv_lshl hx hb dL_law_349 rfl ?_
  refine lz_arg6 (k := 6) hC h0 h4 hi (by decide) hI dL_law_350 dL_law_351 dL_law_353 (by decide) dL_law_355 dL_law_356 ?_
  refine lv_i2l hx hb dL_law_357 rfl ?_
  refine lv_ldc2 (own := RL) hx hb hC.1.2.2.2.2.1 (hC.1.2.2.2.2.2.1 _ (List.mem_filter.mp wKL_19).1) dL_law_358 ?_
  refine lv_land hx hb dL_law_361 ?_
  refine lv_lor hx hb dL_law_362 ?_
  refine lz_vM (av := [.long (((xs (7 * i + 1)).toInt64 <<< ((32 : Int32).toInt64 &&& 63)) ||| ((xs (7 * i + 2)).toInt64 &&& 4294967295)), .long (((xs (7 * i + 3)).toInt64 <<< ((32 : Int32).toInt64 &&& 63)) ||| ((xs (7 * i + 4)).toInt64 &&& 4294967295)), .long (((xs (7 * i + 5)).toInt64 <<< ((32 : Int32).toInt64 &&& 63)) ||| ((xs (7 * i + 6)).toInt64 &&& 4294967295))]) (st := [.int r]) hC rfl (sMo_feed _ _ _ _ _ _ e2) rfl wML_25 hpyX10_feed hmyX10_feed ⟨Nat.le_of_ble_eq_true rfl, Nat.le_of_ble_eq_true rfl⟩ (Nat.le_of_ble_eq_true rfl) dL_law_363 hl.1 hcp hI (fun H locs hI => ?_)
  show W p l e room_1 s m #[Value.ref sc] below meth c H locs cells slots Q (F0 m 366 ls [.int r, .int r])
  refine lv_icmp_eq (tgt := 1579) hx hb dL_law_366 (by decide) (fun _ => ?_) (fun q => absurd rfl q)
  exact W.widen (k := cells + 1) (n := slots + 6) (by omega) (by omega) (K _ _ _ _ _ _ hV' hI hl)
set_option maxHeartbeats 2000000 in
theorem lw_c1 (hC : lzC p l s m meth c D B sc L xs) (hi : 7 * i + 7 ≤ L) (hcap : cells + 1 ≤ 601024 ∧ slots + 6 ≤ 7293034) (K : lwK p l e s m below meth c D B sc cells slots Q i) (hV : Inv i u v) (hI : lzI D B s u v x H locs) (hl : lv_has ls 7 (lvL sc B i)) : W p l e room_1 s m #[Value.ref sc] below meth c H locs cells slots Q (F0 m 371 ls []) := by
  have hx := hC.1.1
  have hb := hC.1.2.1
  have hn : i < 600 := by have := hC.2.2.2.2.2.2; omega
  have h0 := lv_at hl 0 rfl
  have h4 := lv_at hl 4 rfl
  have hcp : cells ≤ 601024 ∧ slots ≤ 7293034 := by omega
  obtain ⟨r, u', v', e1, e2, hV'⟩ := c_county hV hn 
  refine lv_aload_n hx hb dL_law_371 rfl (lv_at hl 1 rfl) ?_
  refine lz_vC (av := []) (st := []) hC rfl (sOW_county  _ _ _ e1) rfl wML_26 hpyX9_county hmyX9_county ⟨Nat.le_of_ble_eq_true rfl, Nat.le_of_ble_eq_true rfl⟩ (Nat.le_of_ble_eq_true rfl) dL_law_372 hl.1 hcp hI (fun H locs hI => ?_)
  show W p l e room_1 s m #[Value.ref sc] below meth c H locs cells slots Q (F0 m 375 ls [.int r])
  refine lv_aload_n hx hb dL_law_375 rfl (lv_at hl 2 rfl) ?_
  refine lz_vM (av := []) (st := [.int r]) hC rfl (sMo_county  _ _ _ e2) rfl wML_30 hpyX10_county hmyX10_county ⟨Nat.le_of_ble_eq_true rfl, Nat.le_of_ble_eq_true rfl⟩ (Nat.le_of_ble_eq_true rfl) dL_law_376 hl.1 hcp hI (fun H locs hI => ?_)
  show W p l e room_1 s m #[Value.ref sc] below meth c H locs cells slots Q (F0 m 379 ls [.int r, .int r])
  refine lv_icmp_eq (tgt := 1579) hx hb dL_law_379 (by decide) (fun _ => ?_) (fun q => absurd rfl q)
  exact W.widen (k := cells + 1) (n := slots + 6) (by omega) (by omega) (K _ _ _ _ _ _ hV' hI hl)
set_option maxHeartbeats 2000000 in
theorem lw_c2 (hC : lzC p l s m meth c D B sc L xs) (hi : 7 * i + 7 ≤ L) (hcap : cells + 1 ≤ 601024 ∧ slots + 6 ≤ 7293034) (K : lwK p l e s m below meth c D B sc cells slots Q i) (hV : Inv i u v) (hI : lzI D B s u v x H locs) (hl : lv_has ls 7 (lvL sc B i)) : W p l e room_1 s m #[Value.ref sc] below meth c H locs cells slots Q (F0 m 384 ls []) := by
  have hx := hC.1.1
  have hb := hC.1.2.1
  have hn : i < 600 := by have := hC.2.2.2.2.2.2; omega
  have h0 := lv_at hl 0 rfl
  have h4 := lv_at hl 4 rfl
  have hcp : cells ≤ 601024 ∧ slots ≤ 7293034 := by omega
  obtain ⟨r, u', v', e1, e2, hV'⟩ := c_session hV hn 
  refine lv_aload_n hx hb dL_law_384 rfl (lv_at hl 1 rfl) ?_
  refine lz_vC (av := []) (st := []) hC rfl (sOW_session  _ _ _ e1) rfl wML_31 hpyX9_session hmyX9_session ⟨Nat.le_of_ble_eq_true rfl, Nat.le_of_ble_eq_true rfl⟩ (Nat.le_of_ble_eq_true rfl) dL_law_385 hl.1 hcp hI (fun H locs hI => ?_)
  show W p l e room_1 s m #[Value.ref sc] below meth c H locs cells slots Q (F0 m 388 ls [.int r])
  refine lv_aload_n hx hb dL_law_388 rfl (lv_at hl 2 rfl) ?_
  refine lz_vM (av := []) (st := [.int r]) hC rfl (sMo_session  _ _ _ e2) rfl wML_34 hpyX10_session hmyX10_session ⟨Nat.le_of_ble_eq_true rfl, Nat.le_of_ble_eq_true rfl⟩ (Nat.le_of_ble_eq_true rfl) dL_law_389 hl.1 hcp hI (fun H locs hI => ?_)
  show W p l e room_1 s m #[Value.ref sc] below meth c H locs cells slots Q (F0 m 392 ls [.int r, .int r])
  refine lv_icmp_eq (tgt := 1579) hx hb dL_law_392 (by decide) (fun _ => ?_) (fun q => absurd rfl q)
  exact W.widen (k := cells + 1) (n := slots + 6) (by omega) (by omega) (K _ _ _ _ _ _ hV' hI hl)
set_option maxHeartbeats 2000000 in
theorem lw_c3 (hC : lzC p l s m meth c D B sc L xs) (hi : 7 * i + 7 ≤ L) (hcap : cells + 1 ≤ 601024 ∧ slots + 6 ≤ 7293034) (K : lwK p l e s m below meth c D B sc cells slots Q i) (hV : Inv i u v) (hI : lzI D B s u v x H locs) (hl : lv_has ls 7 (lvL sc B i)) : W p l e room_1 s m #[Value.ref sc] below meth c H locs cells slots Q (F0 m 397 ls []) := by
  have hx := hC.1.1
  have hb := hC.1.2.1
  have hn : i < 600 := by have := hC.2.2.2.2.2.2; omega
  have h0 := lv_at hl 0 rfl
  have h4 := lv_at hl 4 rfl
  have hcp : cells ≤ 601024 ∧ slots ≤ 7293034 := by omega
  obtain ⟨r, u', v', e1, e2, hV'⟩ := c_place hV hn (xs (7 * i + 1)) (xs (7 * i + 2))
  refine lv_aload_n hx hb dL_law_397 rfl (lv_at hl 1 rfl) ?_
  refine lz_arg (k := 1) hC h0 h4 hi (by decide) hI dL_law_398 dL_law_399 dL_law_401 (by decide) dL_law_402 dL_law_403 ?_
  refine lz_arg (k := 2) hC h0 h4 hi (by decide) hI dL_law_404 dL_law_405 dL_law_407 (by decide) dL_law_408 dL_law_409 ?_
  refine lz_vC (av := [.int (xs (7 * i + 1)), .int (xs (7 * i + 2))]) (st := []) hC rfl (sOW_place _ _ _ _ _ e1) rfl wML_35 hpyX9_place hmyX9_place ⟨Nat.le_of_ble_eq_true rfl, Nat.le_of_ble_eq_true rfl⟩ (Nat.le_of_ble_eq_true rfl) dL_law_410 hl.1 hcp hI (fun H locs hI => ?_)
  show W p l e room_1 s m #[Value.ref sc] below meth c H locs cells slots Q (F0 m 413 ls [.int r])
  refine lv_aload_n hx hb dL_law_413 rfl (lv_at hl 2 rfl) ?_
  refine lz_arg (k := 1) hC h0 h4 hi (by decide) hI dL_law_414 dL_law_415 dL_law_417 (by decide) dL_law_418 dL_law_419 ?_
  refine lz_arg (k := 2) hC h0 h4 hi (by decide) hI dL_law_420 dL_law_421 dL_law_423 (by decide) dL_law_424 dL_law_425 ?_
  refine lz_vM (av := [.int (xs (7 * i + 1)), .int (xs (7 * i + 2))]) (st := [.int r]) hC rfl (sMo_place _ _ _ _ _ e2) rfl wML_39 hpyX10_place hmyX10_place ⟨Nat.le_of_ble_eq_true rfl, Nat.le_of_ble_eq_true rfl⟩ (Nat.le_of_ble_eq_true rfl) dL_law_426 hl.1 hcp hI (fun H locs hI => ?_)
  show W p l e room_1 s m #[Value.ref sc] below meth c H locs cells slots Q (F0 m 429 ls [.int r, .int r])
  refine lv_icmp_eq (tgt := 1579) hx hb dL_law_429 (by decide) (fun _ => ?_) (fun q => absurd rfl q)
  exact W.widen (k := cells + 1) (n := slots + 6) (by omega) (by omega) (K _ _ _ _ _ _ hV' hI hl)
set_option maxHeartbeats 2000000 in
theorem lw_c4 (hC : lzC p l s m meth c D B sc L xs) (hi : 7 * i + 7 ≤ L) (hcap : cells + 1 ≤ 601024 ∧ slots + 6 ≤ 7293034) (K : lwK p l e s m below meth c D B sc cells slots Q i) (hV : Inv i u v) (hI : lzI D B s u v x H locs) (hl : lv_has ls 7 (lvL sc B i)) : W p l e room_1 s m #[Value.ref sc] below meth c H locs cells slots Q (F0 m 434 ls []) := by
  have hx := hC.1.1
  have hb := hC.1.2.1
  have hn : i < 600 := by have := hC.2.2.2.2.2.2; omega
  have h0 := lv_at hl 0 rfl
  have h4 := lv_at hl 4 rfl
  have hcp : cells ≤ 601024 ∧ slots ≤ 7293034 := by omega
  obtain ⟨r, u', v', e1, e2, hV'⟩ := c_person hV hn (xs (7 * i + 1)) (xs (7 * i + 2))
  refine lv_aload_n hx hb dL_law_434 rfl (lv_at hl 1 rfl) ?_
  refine lz_arg (k := 1) hC h0 h4 hi (by decide) hI dL_law_435 dL_law_436 dL_law_438 (by decide) dL_law_439 dL_law_440 ?_
  refine lz_arg (k := 2) hC h0 h4 hi (by decide) hI dL_law_441 dL_law_442 dL_law_444 (by decide) dL_law_445 dL_law_446 ?_
  refine lz_vC (av := [.int (xs (7 * i + 1)), .int (xs (7 * i + 2))]) (st := []) hC rfl (sOW_person _ _ _ _ _ e1) rfl wML_40 hpyX9_person hmyX9_person ⟨Nat.le_of_ble_eq_true rfl, Nat.le_of_ble_eq_true rfl⟩ (Nat.le_of_ble_eq_true rfl) dL_law_447 hl.1 hcp hI (fun H locs hI => ?_)
  show W p l e room_1 s m #[Value.ref sc] below meth c H locs cells slots Q (F0 m 450 ls [.int r])
  refine lv_aload_n hx hb dL_law_450 rfl (lv_at hl 2 rfl) ?_
  refine lz_arg (k := 1) hC h0 h4 hi (by decide) hI dL_law_451 dL_law_452 dL_law_454 (by decide) dL_law_455 dL_law_456 ?_
  refine lz_arg (k := 2) hC h0 h4 hi (by decide) hI dL_law_457 dL_law_458 dL_law_460 (by decide) dL_law_461 dL_law_462 ?_
  refine lz_vM (av := [.int (xs (7 * i + 1)), .int (xs (7 * i + 2))]) (st := [.int r]) hC rfl (sMo_person _ _ _ _ _ e2) rfl wML_43 hpyX10_person hmyX10_person ⟨Nat.le_of_ble_eq_true rfl, Nat.le_of_ble_eq_true rfl⟩ (Nat.le_of_ble_eq_true rfl) dL_law_463 hl.1 hcp hI (fun H locs hI => ?_)
  show W p l e room_1 s m #[Value.ref sc] below meth c H locs cells slots Q (F0 m 466 ls [.int r, .int r])
  refine lv_icmp_eq (tgt := 1579) hx hb dL_law_466 (by decide) (fun _ => ?_) (fun q => absurd rfl q)
  exact W.widen (k := cells + 1) (n := slots + 6) (by omega) (by omega) (K _ _ _ _ _ _ hV' hI hl)
set_option maxHeartbeats 2000000 in
theorem lw_c5 (hC : lzC p l s m meth c D B sc L xs) (hi : 7 * i + 7 ≤ L) (hcap : cells + 1 ≤ 601024 ∧ slots + 6 ≤ 7293034) (K : lwK p l e s m below meth c D B sc cells slots Q i) (hV : Inv i u v) (hI : lzI D B s u v x H locs) (hl : lv_has ls 7 (lvL sc B i)) : W p l e room_1 s m #[Value.ref sc] below meth c H locs cells slots Q (F0 m 471 ls []) := by
  have hx := hC.1.1
  have hb := hC.1.2.1
  have hn : i < 600 := by have := hC.2.2.2.2.2.2; omega
  have h0 := lv_at hl 0 rfl
  have h4 := lv_at hl 4 rfl
  have hcp : cells ≤ 601024 ∧ slots ≤ 7293034 := by omega
  obtain ⟨r, u', v', e1, e2, hV'⟩ := c_otter hV hn (xs (7 * i + 1)) (xs (7 * i + 2))
  refine lv_aload_n hx hb dL_law_471 rfl (lv_at hl 1 rfl) ?_
  refine lz_arg (k := 1) hC h0 h4 hi (by decide) hI dL_law_472 dL_law_473 dL_law_475 (by decide) dL_law_476 dL_law_477 ?_
  refine lz_arg (k := 2) hC h0 h4 hi (by decide) hI dL_law_478 dL_law_479 dL_law_481 (by decide) dL_law_482 dL_law_483 ?_
  refine lz_vC (av := [.int (xs (7 * i + 1)), .int (xs (7 * i + 2))]) (st := []) hC rfl (sOW_otter _ _ _ _ _ e1) rfl wML_44 hpyX9_otter hmyX9_otter ⟨Nat.le_of_ble_eq_true rfl, Nat.le_of_ble_eq_true rfl⟩ (Nat.le_of_ble_eq_true rfl) dL_law_484 hl.1 hcp hI (fun H locs hI => ?_)
  show W p l e room_1 s m #[Value.ref sc] below meth c H locs cells slots Q (F0 m 487 ls [.int r])
  refine lv_aload_n hx hb dL_law_487 rfl (lv_at hl 2 rfl) ?_
  refine lz_arg (k := 1) hC h0 h4 hi (by decide) hI dL_law_488 dL_law_489 dL_law_491 (by decide) dL_law_492 dL_law_493 ?_
  refine lz_arg (k := 2) hC h0 h4 hi (by decide) hI dL_law_494 dL_law_495 dL_law_497 (by decide) dL_law_498 dL_law_499 ?_
  refine lz_vM (av := [.int (xs (7 * i + 1)), .int (xs (7 * i + 2))]) (st := [.int r]) hC rfl (sMo_otter _ _ _ _ _ e2) rfl wML_47 hpyX10_otter hmyX10_otter ⟨Nat.le_of_ble_eq_true rfl, Nat.le_of_ble_eq_true rfl⟩ (Nat.le_of_ble_eq_true rfl) dL_law_500 hl.1 hcp hI (fun H locs hI => ?_)
  show W p l e room_1 s m #[Value.ref sc] below meth c H locs cells slots Q (F0 m 503 ls [.int r, .int r])
  refine lv_icmp_eq (tgt := 1579) hx hb dL_law_503 (by decide) (fun _ => ?_) (fun q => absurd rfl q)
  exact W.widen (k := cells + 1) (n := slots + 6) (by omega) (by omega) (K _ _ _ _ _ _ hV' hI hl)
set_option maxHeartbeats 2000000 in
theorem lw_c6 (hC : lzC p l s m meth c D B sc L xs) (hi : 7 * i + 7 ≤ L) (hcap : cells + 1 ≤ 601024 ∧ slots + 6 ≤ 7293034) (K : lwK p l e s m below meth c D B sc cells slots Q i) (hV : Inv i u v) (hI : lzI D B s u v x H locs) (hl : lv_has ls 7 (lvL sc B i)) : W p l e room_1 s m #[Value.ref sc] below meth c H locs cells slots Q (F0 m 508 ls []) := by
  have hx := hC.1.1
  have hb := hC.1.2.1
  have hn : i < 600 := by have := hC.2.2.2.2.2.2; omega
  have h0 := lv_at hl 0 rfl
  have h4 := lv_at hl 4 rfl
  have hcp : cells ≤ 601024 ∧ slots ≤ 7293034 := by omega
  obtain ⟨r, u', v', e1, e2, hV'⟩ := c_writ hV hn (xs (7 * i + 1)) (xs (7 * i + 2))
  refine lv_aload_n hx hb dL_law_508 rfl (lv_at hl 1 rfl) ?_
  refine lz_arg (k := 1) hC h0 h4 hi (by decide) hI dL_law_509 dL_law_510 dL_law_512 (by decide) dL_law_513 dL_law_514 ?_
  refine lz_arg (k := 2) hC h0 h4 hi (by decide) hI dL_law_515 dL_law_516 dL_law_518 (by decide) dL_law_519 dL_law_520 ?_
  refine lz_vC (av := [.int (xs (7 * i + 1)), .int (xs (7 * i + 2))]) (st := []) hC rfl (sOW_writ _ _ _ _ _ e1) rfl wML_48 hpyX9_writ hmyX9_writ ⟨Nat.le_of_ble_eq_true rfl, Nat.le_of_ble_eq_true rfl⟩ (Nat.le_of_ble_eq_true rfl) dL_law_521 hl.1 hcp hI (fun H locs hI => ?_)
  show W p l e room_1 s m #[Value.ref sc] below meth c H locs cells slots Q (F0 m 524 ls [.int r])
  refine lv_aload_n hx hb dL_law_524 rfl (lv_at hl 2 rfl) ?_
  refine lz_arg (k := 1) hC h0 h4 hi (by decide) hI dL_law_525 dL_law_526 dL_law_528 (by decide) dL_law_529 dL_law_530 ?_
  refine lz_arg (k := 2) hC h0 h4 hi (by decide) hI dL_law_531 dL_law_532 dL_law_534 (by decide) dL_law_535 dL_law_536 ?_
  refine lz_vM (av := [.int (xs (7 * i + 1)), .int (xs (7 * i + 2))]) (st := [.int r]) hC rfl (sMo_writ _ _ _ _ _ e2) rfl wML_51 hpyX10_writ hmyX10_writ ⟨Nat.le_of_ble_eq_true rfl, Nat.le_of_ble_eq_true rfl⟩ (Nat.le_of_ble_eq_true rfl) dL_law_537 hl.1 hcp hI (fun H locs hI => ?_)
  show W p l e room_1 s m #[Value.ref sc] below meth c H locs cells slots Q (F0 m 540 ls [.int r, .int r])
  refine lv_icmp_eq (tgt := 1579) hx hb dL_law_540 (by decide) (fun _ => ?_) (fun q => absurd rfl q)
  exact W.widen (k := cells + 1) (n := slots + 6) (by omega) (by omega) (K _ _ _ _ _ _ hV' hI hl)
set_option maxHeartbeats 2000000 in
theorem lw_c7 (hC : lzC p l s m meth c D B sc L xs) (hi : 7 * i + 7 ≤ L) (hcap : cells + 1 ≤ 601024 ∧ slots + 6 ≤ 7293034) (K : lwK p l e s m below meth c D B sc cells slots Q i) (hV : Inv i u v) (hI : lzI D B s u v x H locs) (hl : lv_has ls 7 (lvL sc B i)) : W p l e room_1 s m #[Value.ref sc] below meth c H locs cells slots Q (F0 m 545 ls []) := by
  have hx := hC.1.1
  have hb := hC.1.2.1
  have hn : i < 600 := by have := hC.2.2.2.2.2.2; omega
  have h0 := lv_at hl 0 rfl
  have h4 := lv_at hl 4 rfl
  have hcp : cells ≤ 601024 ∧ slots ≤ 7293034 := by omega
  obtain ⟨r, u', v', e1, e2, hV'⟩ := c_take hV hn (xs (7 * i + 1)) (xs (7 * i + 2))
  refine lv_aload_n hx hb dL_law_545 rfl (lv_at hl 1 rfl) ?_
  refine lz_arg (k := 1) hC h0 h4 hi (by decide) hI dL_law_546 dL_law_547 dL_law_549 (by decide) dL_law_550 dL_law_551 ?_
  refine lz_arg (k := 2) hC h0 h4 hi (by decide) hI dL_law_552 dL_law_553 dL_law_555 (by decide) dL_law_556 dL_law_557 ?_
  refine lz_vC (av := [.int (xs (7 * i + 1)), .int (xs (7 * i + 2))]) (st := []) hC rfl (sOW_take _ _ _ _ _ e1) rfl wML_52 hpyX9_take hmyX9_take ⟨Nat.le_of_ble_eq_true rfl, Nat.le_of_ble_eq_true rfl⟩ (Nat.le_of_ble_eq_true rfl) dL_law_558 hl.1 hcp hI (fun H locs hI => ?_)
  show W p l e room_1 s m #[Value.ref sc] below meth c H locs cells slots Q (F0 m 561 ls [.int r])
  refine lv_aload_n hx hb dL_law_561 rfl (lv_at hl 2 rfl) ?_
  refine lz_arg (k := 1) hC h0 h4 hi (by decide) hI dL_law_562 dL_law_563 dL_law_565 (by decide) dL_law_566 dL_law_567 ?_
  refine lz_arg (k := 2) hC h0 h4 hi (by decide) hI dL_law_568 dL_law_569 dL_law_571 (by decide) dL_law_572 dL_law_573 ?_
  refine lz_vM (av := [.int (xs (7 * i + 1)), .int (xs (7 * i + 2))]) (st := [.int r]) hC rfl (sMo_take _ _ _ _ _ e2) rfl wML_56 hpyX10_take hmyX10_take ⟨Nat.le_of_ble_eq_true rfl, Nat.le_of_ble_eq_true rfl⟩ (Nat.le_of_ble_eq_true rfl) dL_law_574 hl.1 hcp hI (fun H locs hI => ?_)
  show W p l e room_1 s m #[Value.ref sc] below meth c H locs cells slots Q (F0 m 577 ls [.int r, .int r])
  refine lv_icmp_eq (tgt := 1579) hx hb dL_law_577 (by decide) (fun _ => ?_) (fun q => absurd rfl q)
  exact W.widen (k := cells + 1) (n := slots + 6) (by omega) (by omega) (K _ _ _ _ _ _ hV' hI hl)
set_option maxHeartbeats 2000000 in
theorem lw_c8 (hC : lzC p l s m meth c D B sc L xs) (hi : 7 * i + 7 ≤ L) (hcap : cells + 1 ≤ 601024 ∧ slots + 6 ≤ 7293034) (K : lwK p l e s m below meth c D B sc cells slots Q i) (hV : Inv i u v) (hI : lzI D B s u v x H locs) (hl : lv_has ls 7 (lvL sc B i)) : W p l e room_1 s m #[Value.ref sc] below meth c H locs cells slots Q (F0 m 582 ls []) := by
  have hx := hC.1.1
  have hb := hC.1.2.1
  have hn : i < 600 := by have := hC.2.2.2.2.2.2; omega
  have h0 := lv_at hl 0 rfl
  have h4 := lv_at hl 4 rfl
  have hcp : cells ≤ 601024 ∧ slots ≤ 7293034 := by omega
  obtain ⟨r, u', v', e1, e2, hV'⟩ := c_swim hV hn (xs (7 * i + 1)) (xs (7 * i + 2))
  refine lv_aload_n hx hb dL_law_582 rfl (lv_at hl 1 rfl) ?_
  refine lz_arg (k := 1) hC h0 h4 hi (by decide) hI dL_law_583 dL_law_584 dL_law_586 (by decide) dL_law_587 dL_law_588 ?_
  refine lz_arg (k := 2) hC h0 h4 hi (by decide) hI dL_law_589 dL_law_590 dL_law_592 (by decide) dL_law_593 dL_law_594 ?_
  refine lz_vC (av := [.int (xs (7 * i + 1)), .int (xs (7 * i + 2))]) (st := []) hC rfl (sOW_swim _ _ _ _ _ e1) rfl wML_57 hpyX9_swim hmyX9_swim ⟨Nat.le_of_ble_eq_true rfl, Nat.le_of_ble_eq_true rfl⟩ (Nat.le_of_ble_eq_true rfl) dL_law_595 hl.1 hcp hI (fun H locs hI => ?_)
  show W p l e room_1 s m #[Value.ref sc] below meth c H locs cells slots Q (F0 m 598 ls [.int r])
  refine lv_aload_n hx hb dL_law_598 rfl (lv_at hl 2 rfl) ?_
  refine lz_arg (k := 1) hC h0 h4 hi (by decide) hI dL_law_599 dL_law_600 dL_law_602 (by decide) dL_law_603 dL_law_604 ?_
  refine lz_arg (k := 2) hC h0 h4 hi (by decide) hI dL_law_605 dL_law_606 dL_law_608 (by decide) dL_law_609 dL_law_610 ?_
  refine lz_vM (av := [.int (xs (7 * i + 1)), .int (xs (7 * i + 2))]) (st := [.int r]) hC rfl (sMo_swim _ _ _ _ _ e2) rfl wML_60 hpyX10_swim hmyX10_swim ⟨Nat.le_of_ble_eq_true rfl, Nat.le_of_ble_eq_true rfl⟩ (Nat.le_of_ble_eq_true rfl) dL_law_611 hl.1 hcp hI (fun H locs hI => ?_)
  show W p l e room_1 s m #[Value.ref sc] below meth c H locs cells slots Q (F0 m 614 ls [.int r, .int r])
  refine lv_icmp_eq (tgt := 1579) hx hb dL_law_614 (by decide) (fun _ => ?_) (fun q => absurd rfl q)
  exact W.widen (k := cells + 1) (n := slots + 6) (by omega) (by omega) (K _ _ _ _ _ _ hV' hI hl)
set_option maxHeartbeats 2000000 in
theorem lw_c9 (hC : lzC p l s m meth c D B sc L xs) (hi : 7 * i + 7 ≤ L) (hcap : cells + 1 ≤ 601024 ∧ slots + 6 ≤ 7293034) (K : lwK p l e s m below meth c D B sc cells slots Q i) (hV : Inv i u v) (hI : lzI D B s u v x H locs) (hl : lv_has ls 7 (lvL sc B i)) : W p l e room_1 s m #[Value.ref sc] below meth c H locs cells slots Q (F0 m 619 ls []) := by
  have hx := hC.1.1
  have hb := hC.1.2.1
  have hn : i < 600 := by have := hC.2.2.2.2.2.2; omega
  have h0 := lv_at hl 0 rfl
  have h4 := lv_at hl 4 rfl
  have hcp : cells ≤ 601024 ∧ slots ≤ 7293034 := by omega
  obtain ⟨r, u', v', e1, e2, hV'⟩ := c_serve hV hn (xs (7 * i + 1))
  refine lv_aload_n hx hb dL_law_619 rfl (lv_at hl 1 rfl) ?_
  refine lz_arg (k := 1) hC h0 h4 hi (by decide) hI dL_law_620 dL_law_621 dL_law_623 (by decide) dL_law_624 dL_law_625 ?_
  refine lz_vC (av := [.int (xs (7 * i + 1))]) (st := []) hC rfl (sOW_serve _ _ _ _ e1) rfl wML_61 hpyX9_serve hmyX9_serve ⟨Nat.le_of_ble_eq_true rfl, Nat.le_of_ble_eq_true rfl⟩ (Nat.le_of_ble_eq_true rfl) dL_law_626 hl.1 hcp hI (fun H locs hI => ?_)
  show W p l e room_1 s m #[Value.ref sc] below meth c H locs cells slots Q (F0 m 629 ls [.int r])
  refine lv_aload_n hx hb dL_law_629 rfl (lv_at hl 2 rfl) ?_
  refine lz_arg (k := 1) hC h0 h4 hi (by decide) hI dL_law_630 dL_law_631 dL_law_633 (by decide) dL_law_634 dL_law_635 ?_
  refine lz_vM (av := [.int (xs (7 * i + 1))]) (st := [.int r]) hC rfl (sMo_serve _ _ _ _ e2) rfl wML_65 hpyX10_serve hmyX10_serve ⟨Nat.le_of_ble_eq_true rfl, Nat.le_of_ble_eq_true rfl⟩ (Nat.le_of_ble_eq_true rfl) dL_law_636 hl.1 hcp hI (fun H locs hI => ?_)
  show W p l e room_1 s m #[Value.ref sc] below meth c H locs cells slots Q (F0 m 639 ls [.int r, .int r])
  refine lv_icmp_eq (tgt := 1579) hx hb dL_law_639 (by decide) (fun _ => ?_) (fun q => absurd rfl q)
  exact W.widen (k := cells + 1) (n := slots + 6) (by omega) (by omega) (K _ _ _ _ _ _ hV' hI hl)
set_option maxHeartbeats 2000000 in
theorem lw_c10 (hC : lzC p l s m meth c D B sc L xs) (hi : 7 * i + 7 ≤ L) (hcap : cells + 1 ≤ 601024 ∧ slots + 6 ≤ 7293034) (K : lwK p l e s m below meth c D B sc cells slots Q i) (hV : Inv i u v) (hI : lzI D B s u v x H locs) (hl : lv_has ls 7 (lvL sc B i)) : W p l e room_1 s m #[Value.ref sc] below meth c H locs cells slots Q (F0 m 644 ls []) := by
  have hx := hC.1.1
  have hb := hC.1.2.1
  have hn : i < 600 := by have := hC.2.2.2.2.2.2; omega
  have h0 := lv_at hl 0 rfl
  have h4 := lv_at hl 4 rfl
  have hcp : cells ≤ 601024 ∧ slots ≤ 7293034 := by omega
  obtain ⟨r, u', v', e1, e2, hV'⟩ := c_day hV hn 
  refine lv_aload_n hx hb dL_law_644 rfl (lv_at hl 1 rfl) ?_
  refine lz_vC (av := []) (st := []) hC rfl (sOW_day  _ _ _ e1) rfl wML_66 hpyX9_day hmyX9_day ⟨Nat.le_of_ble_eq_true rfl, Nat.le_of_ble_eq_true rfl⟩ (Nat.le_of_ble_eq_true rfl) dL_law_645 hl.1 hcp hI (fun H locs hI => ?_)
  show W p l e room_1 s m #[Value.ref sc] below meth c H locs cells slots Q (F0 m 648 ls [.int r])
  refine lv_aload_n hx hb dL_law_648 rfl (lv_at hl 2 rfl) ?_
  refine lz_vM (av := []) (st := [.int r]) hC rfl (sMo_day  _ _ _ e2) rfl wML_69 hpyX10_day hmyX10_day ⟨Nat.le_of_ble_eq_true rfl, Nat.le_of_ble_eq_true rfl⟩ (Nat.le_of_ble_eq_true rfl) dL_law_649 hl.1 hcp hI (fun H locs hI => ?_)
  show W p l e room_1 s m #[Value.ref sc] below meth c H locs cells slots Q (F0 m 652 ls [.int r, .int r])
  refine lv_icmp_eq (tgt := 1579) hx hb dL_law_652 (by decide) (fun _ => ?_) (fun q => absurd rfl q)
  exact W.widen (k := cells + 1) (n := slots + 6) (by omega) (by omega) (K _ _ _ _ _ _ hV' hI hl)
set_option maxHeartbeats 2000000 in
theorem lw_c11 (hC : lzC p l s m meth c D B sc L xs) (hi : 7 * i + 7 ≤ L) (hcap : cells + 1 ≤ 601024 ∧ slots + 6 ≤ 7293034) (K : lwK p l e s m below meth c D B sc cells slots Q i) (hV : Inv i u v) (hI : lzI D B s u v x H locs) (hl : lv_has ls 7 (lvL sc B i)) : W p l e room_1 s m #[Value.ref sc] below meth c H locs cells slots Q (F0 m 657 ls []) := by
  have hx := hC.1.1
  have hb := hC.1.2.1
  have hn : i < 600 := by have := hC.2.2.2.2.2.2; omega
  have h0 := lv_at hl 0 rfl
  have h4 := lv_at hl 4 rfl
  have hcp : cells ≤ 601024 ∧ slots ≤ 7293034 := by omega
  obtain ⟨r, u', v', e1, e2, hV'⟩ := c_undo hV hn 
  refine lv_aload_n hx hb dL_law_657 rfl (lv_at hl 1 rfl) ?_
  refine lz_vC (av := []) (st := []) hC rfl (sOW_undo  _ _ _ e1) rfl wML_70 hpyX9_undo hmyX9_undo ⟨Nat.le_of_ble_eq_true rfl, Nat.le_of_ble_eq_true rfl⟩ (Nat.le_of_ble_eq_true rfl) dL_law_658 hl.1 hcp hI (fun H locs hI => ?_)
  show W p l e room_1 s m #[Value.ref sc] below meth c H locs cells slots Q (F0 m 661 ls [.int r])
  refine lv_aload_n hx hb dL_law_661 rfl (lv_at hl 2 rfl) ?_
  refine lz_vM (av := []) (st := [.int r]) hC rfl (sMo_undo  _ _ _ e2) rfl wML_74 hpyX10_undo hmyX10_undo ⟨Nat.le_of_ble_eq_true rfl, Nat.le_of_ble_eq_true rfl⟩ (Nat.le_of_ble_eq_true rfl) dL_law_662 hl.1 hcp hI (fun H locs hI => ?_)
  show W p l e room_1 s m #[Value.ref sc] below meth c H locs cells slots Q (F0 m 665 ls [.int r, .int r])
  refine lv_icmp_eq (tgt := 1579) hx hb dL_law_665 (by decide) (fun _ => ?_) (fun q => absurd rfl q)
  exact W.widen (k := cells + 1) (n := slots + 6) (by omega) (by omega) (K _ _ _ _ _ _ hV' hI hl)
set_option maxHeartbeats 2000000 in
theorem lw_c12 (hC : lzC p l s m meth c D B sc L xs) (hi : 7 * i + 7 ≤ L) (hcap : cells + 1 ≤ 601024 ∧ slots + 6 ≤ 7293034) (K : lwK p l e s m below meth c D B sc cells slots Q i) (hV : Inv i u v) (hI : lzI D B s u v x H locs) (hl : lv_has ls 7 (lvL sc B i)) : W p l e room_1 s m #[Value.ref sc] below meth c H locs cells slots Q (F0 m 670 ls []) := by
  have hx := hC.1.1
  have hb := hC.1.2.1
  have hn : i < 600 := by have := hC.2.2.2.2.2.2; omega
  have h0 := lv_at hl 0 rfl
  have h4 := lv_at hl 4 rfl
  have hcp : cells ≤ 601024 ∧ slots ≤ 7293034 := by omega
  obtain ⟨r, u', v', e1, e2, hV'⟩ := c_judged hV hn (xs (7 * i + 1))
  refine lv_aload_n hx hb dL_law_670 rfl (lv_at hl 1 rfl) ?_
  refine lz_arg (k := 1) hC h0 h4 hi (by decide) hI dL_law_671 dL_law_672 dL_law_674 (by decide) dL_law_675 dL_law_676 ?_
  refine lz_vC (av := [.int (xs (7 * i + 1))]) (st := []) hC rfl (sOW_judged _ _ _ _ e1) rfl wML_75 hpyX9_judged hmyX9_judged ⟨Nat.le_of_ble_eq_true rfl, Nat.le_of_ble_eq_true rfl⟩ (Nat.le_of_ble_eq_true rfl) dL_law_677 hl.1 hcp hI (fun H locs hI => ?_)
  show W p l e room_1 s m #[Value.ref sc] below meth c H locs cells slots Q (F0 m 680 ls [.int r])
  refine lv_aload_n hx hb dL_law_680 rfl (lv_at hl 2 rfl) ?_
  refine lz_arg (k := 1) hC h0 h4 hi (by decide) hI dL_law_681 dL_law_682 dL_law_684 (by decide) dL_law_685 dL_law_686 ?_
  refine lz_vM (av := [.int (xs (7 * i + 1))]) (st := [.int r]) hC rfl (sMo_judged _ _ _ _ e2) rfl wML_78 hpyX10_judged hmyX10_judged ⟨Nat.le_of_ble_eq_true rfl, Nat.le_of_ble_eq_true rfl⟩ (Nat.le_of_ble_eq_true rfl) dL_law_687 hl.1 hcp hI (fun H locs hI => ?_)
  show W p l e room_1 s m #[Value.ref sc] below meth c H locs cells slots Q (F0 m 690 ls [.int r, .int r])
  refine lv_icmp_eq (tgt := 1579) hx hb dL_law_690 (by decide) (fun _ => ?_) (fun q => absurd rfl q)
  exact W.widen (k := cells + 1) (n := slots + 6) (by omega) (by omega) (K _ _ _ _ _ _ hV' hI hl)
set_option maxHeartbeats 2000000 in
theorem lw_c13 (hC : lzC p l s m meth c D B sc L xs) (hi : 7 * i + 7 ≤ L) (hcap : cells + 1 ≤ 601024 ∧ slots + 6 ≤ 7293034) (K : lwK p l e s m below meth c D B sc cells slots Q i) (hV : Inv i u v) (hI : lzI D B s u v x H locs) (hl : lv_has ls 7 (lvL sc B i)) : W p l e room_1 s m #[Value.ref sc] below meth c H locs cells slots Q (F0 m 695 ls []) := by
  have hx := hC.1.1
  have hb := hC.1.2.1
  have hn : i < 600 := by have := hC.2.2.2.2.2.2; omega
  have h0 := lv_at hl 0 rfl
  have h4 := lv_at hl 4 rfl
  have hcp : cells ≤ 601024 ∧ slots ≤ 7293034 := by omega
  obtain ⟨r, u', v', e1, e2, hV'⟩ := c_later hV hn (xs (7 * i + 1)) (xs (7 * i + 2))
  refine lv_aload_n hx hb dL_law_695 rfl (lv_at hl 1 rfl) ?_
  refine lz_arg (k := 1) hC h0 h4 hi (by decide) hI dL_law_696 dL_law_697 dL_law_699 (by decide) dL_law_700 dL_law_701 ?_
  refine lz_arg (k := 2) hC h0 h4 hi (by decide) hI dL_law_702 dL_law_703 dL_law_705 (by decide) dL_law_706 dL_law_707 ?_
  refine lz_vC (av := [.int (xs (7 * i + 1)), .int (xs (7 * i + 2))]) (st := []) hC rfl (sOW_later _ _ _ _ _ e1) rfl wML_79 hpyX9_later hmyX9_later ⟨Nat.le_of_ble_eq_true rfl, Nat.le_of_ble_eq_true rfl⟩ (Nat.le_of_ble_eq_true rfl) dL_law_708 hl.1 hcp hI (fun H locs hI => ?_)
  show W p l e room_1 s m #[Value.ref sc] below meth c H locs cells slots Q (F0 m 711 ls [.int r])
  refine lv_aload_n hx hb dL_law_711 rfl (lv_at hl 2 rfl) ?_
  refine lz_arg (k := 1) hC h0 h4 hi (by decide) hI dL_law_712 dL_law_713 dL_law_715 (by decide) dL_law_716 dL_law_717 ?_
  refine lz_arg (k := 2) hC h0 h4 hi (by decide) hI dL_law_718 dL_law_719 dL_law_721 (by decide) dL_law_722 dL_law_723 ?_
  refine lz_vM (av := [.int (xs (7 * i + 1)), .int (xs (7 * i + 2))]) (st := [.int r]) hC rfl (sMo_later _ _ _ _ _ e2) rfl wML_82 hpyX10_later hmyX10_later ⟨Nat.le_of_ble_eq_true rfl, Nat.le_of_ble_eq_true rfl⟩ (Nat.le_of_ble_eq_true rfl) dL_law_724 hl.1 hcp hI (fun H locs hI => ?_)
  show W p l e room_1 s m #[Value.ref sc] below meth c H locs cells slots Q (F0 m 727 ls [.int r, .int r])
  refine lv_icmp_eq (tgt := 1579) hx hb dL_law_727 (by decide) (fun _ => ?_) (fun q => absurd rfl q)
  exact W.widen (k := cells + 1) (n := slots + 6) (by omega) (by omega) (K _ _ _ _ _ _ hV' hI hl)
set_option maxHeartbeats 2000000 in
theorem lw_c14 (hC : lzC p l s m meth c D B sc L xs) (hi : 7 * i + 7 ≤ L) (hcap : cells + 1 ≤ 601024 ∧ slots + 6 ≤ 7293034) (K : lwK p l e s m below meth c D B sc cells slots Q i) (hV : Inv i u v) (hI : lzI D B s u v x H locs) (hl : lv_has ls 7 (lvL sc B i)) : W p l e room_1 s m #[Value.ref sc] below meth c H locs cells slots Q (F0 m 732 ls []) := by
  have hx := hC.1.1
  have hb := hC.1.2.1
  have hn : i < 600 := by have := hC.2.2.2.2.2.2; omega
  have h0 := lv_at hl 0 rfl
  have h4 := lv_at hl 4 rfl
  have hcp : cells ≤ 601024 ∧ slots ≤ 7293034 := by omega
  obtain ⟨r, u', v', e1, e2, hV'⟩ := c_where hV hn (xs (7 * i + 1)) (xs (7 * i + 2))
  refine lv_aload_n hx hb dL_law_732 rfl (lv_at hl 1 rfl) ?_
  refine lz_arg (k := 1) hC h0 h4 hi (by decide) hI dL_law_733 dL_law_734 dL_law_736 (by decide) dL_law_737 dL_law_738 ?_
  refine lz_arg (k := 2) hC h0 h4 hi (by decide) hI dL_law_739 dL_law_740 dL_law_742 (by decide) dL_law_743 dL_law_744 ?_
  refine lz_vC (av := [.int (xs (7 * i + 1)), .int (xs (7 * i + 2))]) (st := []) hC rfl (sOW_where _ _ _ _ _ e1) rfl wML_83 hpyX9_where hmyX9_where ⟨Nat.le_of_ble_eq_true rfl, Nat.le_of_ble_eq_true rfl⟩ (Nat.le_of_ble_eq_true rfl) dL_law_745 hl.1 hcp hI (fun H locs hI => ?_)
  show W p l e room_1 s m #[Value.ref sc] below meth c H locs cells slots Q (F0 m 748 ls [.int r])
  refine lv_aload_n hx hb dL_law_748 rfl (lv_at hl 2 rfl) ?_
  refine lz_arg (k := 1) hC h0 h4 hi (by decide) hI dL_law_749 dL_law_750 dL_law_752 (by decide) dL_law_753 dL_law_754 ?_
  refine lz_arg (k := 2) hC h0 h4 hi (by decide) hI dL_law_755 dL_law_756 dL_law_758 (by decide) dL_law_759 dL_law_760 ?_
  refine lz_vM (av := [.int (xs (7 * i + 1)), .int (xs (7 * i + 2))]) (st := [.int r]) hC rfl (sMo_where _ _ _ _ _ e2) rfl wML_86 hpyX10_where hmyX10_where ⟨Nat.le_of_ble_eq_true rfl, Nat.le_of_ble_eq_true rfl⟩ (Nat.le_of_ble_eq_true rfl) dL_law_761 hl.1 hcp hI (fun H locs hI => ?_)
  show W p l e room_1 s m #[Value.ref sc] below meth c H locs cells slots Q (F0 m 764 ls [.int r, .int r])
  refine lv_icmp_eq (tgt := 1579) hx hb dL_law_764 (by decide) (fun _ => ?_) (fun q => absurd rfl q)
  exact W.widen (k := cells + 1) (n := slots + 6) (by omega) (by omega) (K _ _ _ _ _ _ hV' hI hl)
set_option maxHeartbeats 2000000 in
theorem lw_c15 (hC : lzC p l s m meth c D B sc L xs) (hi : 7 * i + 7 ≤ L) (hcap : cells + 1 ≤ 601024 ∧ slots + 6 ≤ 7293034) (K : lwK p l e s m below meth c D B sc cells slots Q i) (hV : Inv i u v) (hI : lzI D B s u v x H locs) (hl : lv_has ls 7 (lvL sc B i)) : W p l e room_1 s m #[Value.ref sc] below meth c H locs cells slots Q (F0 m 769 ls []) := by
  have hx := hC.1.1
  have hb := hC.1.2.1
  have hn : i < 600 := by have := hC.2.2.2.2.2.2; omega
  have h0 := lv_at hl 0 rfl
  have h4 := lv_at hl 4 rfl
  have hcp : cells ≤ 601024 ∧ slots ≤ 7293034 := by omega
  obtain ⟨r, u', v', e1, e2, hV'⟩ := c_dry hV hn (xs (7 * i + 1))
  refine lv_aload_n hx hb dL_law_769 rfl (lv_at hl 1 rfl) ?_
  refine lz_arg (k := 1) hC h0 h4 hi (by decide) hI dL_law_770 dL_law_771 dL_law_773 (by decide) dL_law_774 dL_law_775 ?_
  refine lz_vC (av := [.int (xs (7 * i + 1))]) (st := []) hC rfl (sOW_dry _ _ _ _ e1) rfl wML_87 hpyX9_dry hmyX9_dry ⟨Nat.le_of_ble_eq_true rfl, Nat.le_of_ble_eq_true rfl⟩ (Nat.le_of_ble_eq_true rfl) dL_law_776 hl.1 hcp hI (fun H locs hI => ?_)
  show W p l e room_1 s m #[Value.ref sc] below meth c H locs cells slots Q (F0 m 779 ls [.int r])
  refine lv_aload_n hx hb dL_law_779 rfl (lv_at hl 2 rfl) ?_
  refine lz_arg (k := 1) hC h0 h4 hi (by decide) hI dL_law_780 dL_law_781 dL_law_783 (by decide) dL_law_784 dL_law_785 ?_
  refine lz_vM (av := [.int (xs (7 * i + 1))]) (st := [.int r]) hC rfl (sMo_dry _ _ _ _ e2) rfl wML_90 hpyX10_dry hmyX10_dry ⟨Nat.le_of_ble_eq_true rfl, Nat.le_of_ble_eq_true rfl⟩ (Nat.le_of_ble_eq_true rfl) dL_law_786 hl.1 hcp hI (fun H locs hI => ?_)
  show W p l e room_1 s m #[Value.ref sc] below meth c H locs cells slots Q (F0 m 789 ls [.int r, .int r])
  refine lv_icmp_eq (tgt := 1579) hx hb dL_law_789 (by decide) (fun _ => ?_) (fun q => absurd rfl q)
  exact W.widen (k := cells + 1) (n := slots + 6) (by omega) (by omega) (K _ _ _ _ _ _ hV' hI hl)
set_option maxHeartbeats 2000000 in
theorem lw_c16 (hC : lzC p l s m meth c D B sc L xs) (hi : 7 * i + 7 ≤ L) (hcap : cells + 1 ≤ 601024 ∧ slots + 6 ≤ 7293034) (K : lwK p l e s m below meth c D B sc cells slots Q i) (hV : Inv i u v) (hI : lzI D B s u v x H locs) (hl : lv_has ls 7 (lvL sc B i)) : W p l e room_1 s m #[Value.ref sc] below meth c H locs cells slots Q (F0 m 794 ls []) := by
  have hx := hC.1.1
  have hb := hC.1.2.1
  have hn : i < 600 := by have := hC.2.2.2.2.2.2; omega
  have h0 := lv_at hl 0 rfl
  have h4 := lv_at hl 4 rfl
  have hcp : cells ≤ 601024 ∧ slots ≤ 7293034 := by omega
  obtain ⟨r, u', v', e1, e2, hV'⟩ := c_wet hV hn (xs (7 * i + 1))
  refine lv_aload_n hx hb dL_law_794 rfl (lv_at hl 1 rfl) ?_
  refine lz_arg (k := 1) hC h0 h4 hi (by decide) hI dL_law_795 dL_law_796 dL_law_798 (by decide) dL_law_799 dL_law_800 ?_
  refine lz_vC (av := [.int (xs (7 * i + 1))]) (st := []) hC rfl (sOW_wet _ _ _ _ e1) rfl wML_91 hpyX9_wet hmyX9_wet ⟨Nat.le_of_ble_eq_true rfl, Nat.le_of_ble_eq_true rfl⟩ (Nat.le_of_ble_eq_true rfl) dL_law_801 hl.1 hcp hI (fun H locs hI => ?_)
  show W p l e room_1 s m #[Value.ref sc] below meth c H locs cells slots Q (F0 m 804 ls [.int r])
  refine lv_aload_n hx hb dL_law_804 rfl (lv_at hl 2 rfl) ?_
  refine lz_arg (k := 1) hC h0 h4 hi (by decide) hI dL_law_805 dL_law_806 dL_law_808 (by decide) dL_law_809 dL_law_810 ?_
  refine lz_vM (av := [.int (xs (7 * i + 1))]) (st := [.int r]) hC rfl (sMo_wet _ _ _ _ e2) rfl wML_94 hpyX10_wet hmyX10_wet ⟨Nat.le_of_ble_eq_true rfl, Nat.le_of_ble_eq_true rfl⟩ (Nat.le_of_ble_eq_true rfl) dL_law_811 hl.1 hcp hI (fun H locs hI => ?_)
  show W p l e room_1 s m #[Value.ref sc] below meth c H locs cells slots Q (F0 m 814 ls [.int r, .int r])
  refine lv_icmp_eq (tgt := 1579) hx hb dL_law_814 (by decide) (fun _ => ?_) (fun q => absurd rfl q)
  exact W.widen (k := cells + 1) (n := slots + 6) (by omega) (by omega) (K _ _ _ _ _ _ hV' hI hl)
set_option maxHeartbeats 2000000 in
theorem lw_c17 (hC : lzC p l s m meth c D B sc L xs) (hi : 7 * i + 7 ≤ L) (hcap : cells + 1 ≤ 601024 ∧ slots + 6 ≤ 7293034) (K : lwK p l e s m below meth c D B sc cells slots Q i) (hV : Inv i u v) (hI : lzI D B s u v x H locs) (hl : lv_has ls 7 (lvL sc B i)) : W p l e room_1 s m #[Value.ref sc] below meth c H locs cells slots Q (F0 m 819 ls []) := by
  have hx := hC.1.1
  have hb := hC.1.2.1
  have hn : i < 600 := by have := hC.2.2.2.2.2.2; omega
  have h0 := lv_at hl 0 rfl
  have h4 := lv_at hl 4 rfl
  have hcp : cells ≤ 601024 ∧ slots ≤ 7293034 := by omega
  obtain ⟨r, u', v', e1, e2, hV'⟩ := c_flood hV hn 
  refine lv_aload_n hx hb dL_law_819 rfl (lv_at hl 1 rfl) ?_
  refine lz_vC (av := []) (st := []) hC rfl (sOW_flood  _ _ _ e1) rfl wML_95 hpyX9_flood hmyX9_flood ⟨Nat.le_of_ble_eq_true rfl, Nat.le_of_ble_eq_true rfl⟩ (Nat.le_of_ble_eq_true rfl) dL_law_820 hl.1 hcp hI (fun H locs hI => ?_)
  show W p l e room_1 s m #[Value.ref sc] below meth c H locs cells slots Q (F0 m 823 ls [.int r])
  refine lv_aload_n hx hb dL_law_823 rfl (lv_at hl 2 rfl) ?_
  refine lz_vM (av := []) (st := [.int r]) hC rfl (sMo_flood  _ _ _ e2) rfl wML_98 hpyX10_flood hmyX10_flood ⟨Nat.le_of_ble_eq_true rfl, Nat.le_of_ble_eq_true rfl⟩ (Nat.le_of_ble_eq_true rfl) dL_law_824 hl.1 hcp hI (fun H locs hI => ?_)
  show W p l e room_1 s m #[Value.ref sc] below meth c H locs cells slots Q (F0 m 827 ls [.int r, .int r])
  refine lv_icmp_eq (tgt := 1579) hx hb dL_law_827 (by decide) (fun _ => ?_) (fun q => absurd rfl q)
  exact W.widen (k := cells + 1) (n := slots + 6) (by omega) (by omega) (K _ _ _ _ _ _ hV' hI hl)
set_option maxHeartbeats 2000000 in
theorem lw_c18 (hC : lzC p l s m meth c D B sc L xs) (hi : 7 * i + 7 ≤ L) (hcap : cells + 1 ≤ 601024 ∧ slots + 6 ≤ 7293034) (K : lwK p l e s m below meth c D B sc cells slots Q i) (hV : Inv i u v) (hI : lzI D B s u v x H locs) (hl : lv_has ls 7 (lvL sc B i)) : W p l e room_1 s m #[Value.ref sc] below meth c H locs cells slots Q (F0 m 832 ls []) := by
  have hx := hC.1.1
  have hb := hC.1.2.1
  have hn : i < 600 := by have := hC.2.2.2.2.2.2; omega
  have h0 := lv_at hl 0 rfl
  have h4 := lv_at hl 4 rfl
  have hcp : cells ≤ 601024 ∧ slots ≤ 7293034 := by omega
  obtain ⟨r, u', v', e1, e2, hV'⟩ := c_crest hV hn (xs (7 * i + 1))
  refine lv_aload_n hx hb dL_law_832 rfl (lv_at hl 1 rfl) ?_
  refine lz_arg (k := 1) hC h0 h4 hi (by decide) hI dL_law_833 dL_law_834 dL_law_836 (by decide) dL_law_837 dL_law_838 ?_
  refine lz_vC (av := [.int (xs (7 * i + 1))]) (st := []) hC rfl (sOW_crest _ _ _ _ e1) rfl wML_99 hpyX9_crest hmyX9_crest ⟨Nat.le_of_ble_eq_true rfl, Nat.le_of_ble_eq_true rfl⟩ (Nat.le_of_ble_eq_true rfl) dL_law_839 hl.1 hcp hI (fun H locs hI => ?_)
  show W p l e room_1 s m #[Value.ref sc] below meth c H locs cells slots Q (F0 m 842 ls [.int r])
  refine lv_aload_n hx hb dL_law_842 rfl (lv_at hl 2 rfl) ?_
  refine lz_arg (k := 1) hC h0 h4 hi (by decide) hI dL_law_843 dL_law_844 dL_law_846 (by decide) dL_law_847 dL_law_848 ?_
  refine lz_vM (av := [.int (xs (7 * i + 1))]) (st := [.int r]) hC rfl (sMo_crest _ _ _ _ e2) rfl wML_102 hpyX10_crest hmyX10_crest ⟨Nat.le_of_ble_eq_true rfl, Nat.le_of_ble_eq_true rfl⟩ (Nat.le_of_ble_eq_true rfl) dL_law_849 hl.1 hcp hI (fun H locs hI => ?_)
  show W p l e room_1 s m #[Value.ref sc] below meth c H locs cells slots Q (F0 m 852 ls [.int r, .int r])
  refine lv_icmp_eq (tgt := 1579) hx hb dL_law_852 (by decide) (fun _ => ?_) (fun q => absurd rfl q)
  exact W.widen (k := cells + 1) (n := slots + 6) (by omega) (by omega) (K _ _ _ _ _ _ hV' hI hl)
set_option maxHeartbeats 2000000 in
theorem lw_c19 (hC : lzC p l s m meth c D B sc L xs) (hi : 7 * i + 7 ≤ L) (hcap : cells + 1 ≤ 601024 ∧ slots + 6 ≤ 7293034) (K : lwK p l e s m below meth c D B sc cells slots Q i) (hV : Inv i u v) (hI : lzI D B s u v x H locs) (hl : lv_has ls 7 (lvL sc B i)) : W p l e room_1 s m #[Value.ref sc] below meth c H locs cells slots Q (F0 m 857 ls []) := by
  have hx := hC.1.1
  have hb := hC.1.2.1
  have hn : i < 600 := by have := hC.2.2.2.2.2.2; omega
  have h0 := lv_at hl 0 rfl
  have h4 := lv_at hl 4 rfl
  have hcp : cells ≤ 601024 ∧ slots ≤ 7293034 := by omega
  obtain ⟨r, u', v', e1, e2, hV'⟩ := c_safe hV hn (xs (7 * i + 1)) (xs (7 * i + 2))
  refine lv_aload_n hx hb dL_law_857 rfl (lv_at hl 1 rfl) ?_
  refine lz_arg (k := 1) hC h0 h4 hi (by decide) hI dL_law_858 dL_law_859 dL_law_861 (by decide) dL_law_862 dL_law_863 ?_
  refine lz_arg (k := 2) hC h0 h4 hi (by decide) hI dL_law_864 dL_law_865 dL_law_867 (by decide) dL_law_868 dL_law_869 ?_
  refine lz_vC (av := [.int (xs (7 * i + 1)), .int (xs (7 * i + 2))]) (st := []) hC rfl (sOW_safe _ _ _ _ _ e1) rfl wML_103 hpyX9_safe hmyX9_safe ⟨Nat.le_of_ble_eq_true rfl, Nat.le_of_ble_eq_true rfl⟩ (Nat.le_of_ble_eq_true rfl) dL_law_870 hl.1 hcp hI (fun H locs hI => ?_)
  show W p l e room_1 s m #[Value.ref sc] below meth c H locs cells slots Q (F0 m 873 ls [.int r])
  refine lv_aload_n hx hb dL_law_873 rfl (lv_at hl 2 rfl) ?_
  refine lz_arg (k := 1) hC h0 h4 hi (by decide) hI dL_law_874 dL_law_875 dL_law_877 (by decide) dL_law_878 dL_law_879 ?_
  refine lz_arg (k := 2) hC h0 h4 hi (by decide) hI dL_law_880 dL_law_881 dL_law_883 (by decide) dL_law_884 dL_law_885 ?_
  refine lz_vM (av := [.int (xs (7 * i + 1)), .int (xs (7 * i + 2))]) (st := [.int r]) hC rfl (sMo_safe _ _ _ _ _ e2) rfl wML_106 hpyX10_safe hmyX10_safe ⟨Nat.le_of_ble_eq_true rfl, Nat.le_of_ble_eq_true rfl⟩ (Nat.le_of_ble_eq_true rfl) dL_law_886 hl.1 hcp hI (fun H locs hI => ?_)
  show W p l e room_1 s m #[Value.ref sc] below meth c H locs cells slots Q (F0 m 889 ls [.int r, .int r])
  refine lv_icmp_eq (tgt := 1579) hx hb dL_law_889 (by decide) (fun _ => ?_) (fun q => absurd rfl q)
  exact W.widen (k := cells + 1) (n := slots + 6) (by omega) (by omega) (K _ _ _ _ _ _ hV' hI hl)
set_option maxHeartbeats 2000000 in
theorem lw_c20 (hC : lzC p l s m meth c D B sc L xs) (hi : 7 * i + 7 ≤ L) (hcap : cells + 1 ≤ 601024 ∧ slots + 6 ≤ 7293034) (K : lwK p l e s m below meth c D B sc cells slots Q i) (hV : Inv i u v) (hI : lzI D B s u v x H locs) (hl : lv_has ls 7 (lvL sc B i)) : W p l e room_1 s m #[Value.ref sc] below meth c H locs cells slots Q (F0 m 894 ls []) := by
  have hx := hC.1.1
  have hb := hC.1.2.1
  have hn : i < 600 := by have := hC.2.2.2.2.2.2; omega
  have h0 := lv_at hl 0 rfl
  have h4 := lv_at hl 4 rfl
  have hcp : cells ≤ 601024 ∧ slots ≤ 7293034 := by omega
  obtain ⟨r, u', v', e1, e2, hV'⟩ := c_soon hV hn (xs (7 * i + 1)) (xs (7 * i + 2))
  refine lv_aload_n hx hb dL_law_894 rfl (lv_at hl 1 rfl) ?_
  refine lz_arg (k := 1) hC h0 h4 hi (by decide) hI dL_law_895 dL_law_896 dL_law_898 (by decide) dL_law_899 dL_law_900 ?_
  refine lz_arg (k := 2) hC h0 h4 hi (by decide) hI dL_law_901 dL_law_902 dL_law_904 (by decide) dL_law_905 dL_law_906 ?_
  refine lz_vC (av := [.int (xs (7 * i + 1)), .int (xs (7 * i + 2))]) (st := []) hC rfl (sOW_soon _ _ _ _ _ e1) rfl wML_107 hpyX9_soon hmyX9_soon ⟨Nat.le_of_ble_eq_true rfl, Nat.le_of_ble_eq_true rfl⟩ (Nat.le_of_ble_eq_true rfl) dL_law_907 hl.1 hcp hI (fun H locs hI => ?_)
  show W p l e room_1 s m #[Value.ref sc] below meth c H locs cells slots Q (F0 m 910 ls [.int r])
  refine lv_aload_n hx hb dL_law_910 rfl (lv_at hl 2 rfl) ?_
  refine lz_arg (k := 1) hC h0 h4 hi (by decide) hI dL_law_911 dL_law_912 dL_law_914 (by decide) dL_law_915 dL_law_916 ?_
  refine lz_arg (k := 2) hC h0 h4 hi (by decide) hI dL_law_917 dL_law_918 dL_law_920 (by decide) dL_law_921 dL_law_922 ?_
  refine lz_vM (av := [.int (xs (7 * i + 1)), .int (xs (7 * i + 2))]) (st := [.int r]) hC rfl (sMo_soon _ _ _ _ _ e2) rfl wML_110 hpyX10_soon hmyX10_soon ⟨Nat.le_of_ble_eq_true rfl, Nat.le_of_ble_eq_true rfl⟩ (Nat.le_of_ble_eq_true rfl) dL_law_923 hl.1 hcp hI (fun H locs hI => ?_)
  show W p l e room_1 s m #[Value.ref sc] below meth c H locs cells slots Q (F0 m 926 ls [.int r, .int r])
  refine lv_icmp_eq (tgt := 1579) hx hb dL_law_926 (by decide) (fun _ => ?_) (fun q => absurd rfl q)
  exact W.widen (k := cells + 1) (n := slots + 6) (by omega) (by omega) (K _ _ _ _ _ _ hV' hI hl)
set_option maxHeartbeats 2000000 in
theorem lw_c21 (hC : lzC p l s m meth c D B sc L xs) (hi : 7 * i + 7 ≤ L) (hcap : cells + 1 ≤ 601024 ∧ slots + 6 ≤ 7293034) (K : lwK p l e s m below meth c D B sc cells slots Q i) (hV : Inv i u v) (hI : lzI D B s u v x H locs) (hl : lv_has ls 7 (lvL sc B i)) : W p l e room_1 s m #[Value.ref sc] below meth c H locs cells slots Q (F0 m 931 ls []) := by
  have hx := hC.1.1
  have hb := hC.1.2.1
  have hn : i < 600 := by have := hC.2.2.2.2.2.2; omega
  have h0 := lv_at hl 0 rfl
  have h4 := lv_at hl 4 rfl
  have hcp : cells ≤ 601024 ∧ slots ≤ 7293034 := by omega
  obtain ⟨r, u', v', e1, e2, hV'⟩ := c_serves hV hn (xs (7 * i + 1)) (xs (7 * i + 2))
  refine lv_aload_n hx hb dL_law_931 rfl (lv_at hl 1 rfl) ?_
  refine lz_arg (k := 1) hC h0 h4 hi (by decide) hI dL_law_932 dL_law_933 dL_law_935 (by decide) dL_law_936 dL_law_937 ?_
  refine lz_arg (k := 2) hC h0 h4 hi (by decide) hI dL_law_938 dL_law_939 dL_law_941 (by decide) dL_law_942 dL_law_943 ?_
  refine lz_vC (av := [.int (xs (7 * i + 1)), .int (xs (7 * i + 2))]) (st := []) hC rfl (sOW_serves _ _ _ _ _ e1) rfl wML_111 hpyX9_serves hmyX9_serves ⟨Nat.le_of_ble_eq_true rfl, Nat.le_of_ble_eq_true rfl⟩ (Nat.le_of_ble_eq_true rfl) dL_law_944 hl.1 hcp hI (fun H locs hI => ?_)
  show W p l e room_1 s m #[Value.ref sc] below meth c H locs cells slots Q (F0 m 947 ls [.int r])
  refine lv_aload_n hx hb dL_law_947 rfl (lv_at hl 2 rfl) ?_
  refine lz_arg (k := 1) hC h0 h4 hi (by decide) hI dL_law_948 dL_law_949 dL_law_951 (by decide) dL_law_952 dL_law_953 ?_
  refine lz_arg (k := 2) hC h0 h4 hi (by decide) hI dL_law_954 dL_law_955 dL_law_957 (by decide) dL_law_958 dL_law_959 ?_
  refine lz_vM (av := [.int (xs (7 * i + 1)), .int (xs (7 * i + 2))]) (st := [.int r]) hC rfl (sMo_serves _ _ _ _ _ e2) rfl wML_114 hpyX10_serves hmyX10_serves ⟨Nat.le_of_ble_eq_true rfl, Nat.le_of_ble_eq_true rfl⟩ (Nat.le_of_ble_eq_true rfl) dL_law_960 hl.1 hcp hI (fun H locs hI => ?_)
  show W p l e room_1 s m #[Value.ref sc] below meth c H locs cells slots Q (F0 m 963 ls [.int r, .int r])
  refine lv_icmp_eq (tgt := 1579) hx hb dL_law_963 (by decide) (fun _ => ?_) (fun q => absurd rfl q)
  exact W.widen (k := cells + 1) (n := slots + 6) (by omega) (by omega) (K _ _ _ _ _ _ hV' hI hl)
set_option maxHeartbeats 2000000 in
theorem lw_c22 (hC : lzC p l s m meth c D B sc L xs) (hi : 7 * i + 7 ≤ L) (hcap : cells + 1 ≤ 601024 ∧ slots + 6 ≤ 7293034) (K : lwK p l e s m below meth c D B sc cells slots Q i) (hV : Inv i u v) (hI : lzI D B s u v x H locs) (hl : lv_has ls 7 (lvL sc B i)) : W p l e room_1 s m #[Value.ref sc] below meth c H locs cells slots Q (F0 m 968 ls []) := by
  have hx := hC.1.1
  have hb := hC.1.2.1
  have hn : i < 600 := by have := hC.2.2.2.2.2.2; omega
  have h0 := lv_at hl 0 rfl
  have h4 := lv_at hl 4 rfl
  have hcp : cells ≤ 601024 ∧ slots ≤ 7293034 := by omega
  obtain ⟨r, u', v', e1, e2, hV'⟩ := c_intime hV hn (xs (7 * i + 1))
  refine lv_aload_n hx hb dL_law_968 rfl (lv_at hl 1 rfl) ?_
  refine lz_arg (k := 1) hC h0 h4 hi (by decide) hI dL_law_969 dL_law_970 dL_law_972 (by decide) dL_law_973 dL_law_974 ?_
  refine lz_vC (av := [.int (xs (7 * i + 1))]) (st := []) hC rfl (sOW_intime _ _ _ _ e1) rfl wML_115 hpyX9_intime hmyX9_intime ⟨Nat.le_of_ble_eq_true rfl, Nat.le_of_ble_eq_true rfl⟩ (Nat.le_of_ble_eq_true rfl) dL_law_975 hl.1 hcp hI (fun H locs hI => ?_)
  show W p l e room_1 s m #[Value.ref sc] below meth c H locs cells slots Q (F0 m 978 ls [.int r])
  refine lv_aload_n hx hb dL_law_978 rfl (lv_at hl 2 rfl) ?_
  refine lz_arg (k := 1) hC h0 h4 hi (by decide) hI dL_law_979 dL_law_980 dL_law_982 (by decide) dL_law_983 dL_law_984 ?_
  refine lz_vM (av := [.int (xs (7 * i + 1))]) (st := [.int r]) hC rfl (sMo_intime _ _ _ _ e2) rfl wML_118 hpyX10_intime hmyX10_intime ⟨Nat.le_of_ble_eq_true rfl, Nat.le_of_ble_eq_true rfl⟩ (Nat.le_of_ble_eq_true rfl) dL_law_985 hl.1 hcp hI (fun H locs hI => ?_)
  show W p l e room_1 s m #[Value.ref sc] below meth c H locs cells slots Q (F0 m 988 ls [.int r, .int r])
  refine lv_icmp_eq (tgt := 1579) hx hb dL_law_988 (by decide) (fun _ => ?_) (fun q => absurd rfl q)
  exact W.widen (k := cells + 1) (n := slots + 6) (by omega) (by omega) (K _ _ _ _ _ _ hV' hI hl)
set_option maxHeartbeats 2000000 in
theorem lw_c23 (hC : lzC p l s m meth c D B sc L xs) (hi : 7 * i + 7 ≤ L) (hcap : cells + 1 ≤ 601024 ∧ slots + 6 ≤ 7293034) (K : lwK p l e s m below meth c D B sc cells slots Q i) (hV : Inv i u v) (hI : lzI D B s u v x H locs) (hl : lv_has ls 7 (lvL sc B i)) : W p l e room_1 s m #[Value.ref sc] below meth c H locs cells slots Q (F0 m 993 ls []) := by
  have hx := hC.1.1
  have hb := hC.1.2.1
  have hn : i < 600 := by have := hC.2.2.2.2.2.2; omega
  have h0 := lv_at hl 0 rfl
  have h4 := lv_at hl 4 rfl
  have hcp : cells ≤ 601024 ∧ slots ≤ 7293034 := by omega
  obtain ⟨r, u', v', e1, e2, hV'⟩ := c_share hV hn (xs (7 * i + 1))
  refine lv_aload_n hx hb dL_law_993 rfl (lv_at hl 1 rfl) ?_
  refine lz_arg (k := 1) hC h0 h4 hi (by decide) hI dL_law_994 dL_law_995 dL_law_997 (by decide) dL_law_998 dL_law_999 ?_
  refine lz_vC (av := [.int (xs (7 * i + 1))]) (st := []) hC rfl (sOW_share _ _ _ _ e1) rfl wML_119 hpyX9_share hmyX9_share ⟨Nat.le_of_ble_eq_true rfl, Nat.le_of_ble_eq_true rfl⟩ (Nat.le_of_ble_eq_true rfl) dL_law_1000 hl.1 hcp hI (fun H locs hI => ?_)
  show W p l e room_1 s m #[Value.ref sc] below meth c H locs cells slots Q (F0 m 1003 ls [.int r])
  refine lv_aload_n hx hb dL_law_1003 rfl (lv_at hl 2 rfl) ?_
  refine lz_arg (k := 1) hC h0 h4 hi (by decide) hI dL_law_1004 dL_law_1005 dL_law_1007 (by decide) dL_law_1008 dL_law_1009 ?_
  refine lz_vM (av := [.int (xs (7 * i + 1))]) (st := [.int r]) hC rfl (sMo_share _ _ _ _ e2) rfl wML_122 hpyX10_share hmyX10_share ⟨Nat.le_of_ble_eq_true rfl, Nat.le_of_ble_eq_true rfl⟩ (Nat.le_of_ble_eq_true rfl) dL_law_1010 hl.1 hcp hI (fun H locs hI => ?_)
  show W p l e room_1 s m #[Value.ref sc] below meth c H locs cells slots Q (F0 m 1013 ls [.int r, .int r])
  refine lv_icmp_eq (tgt := 1579) hx hb dL_law_1013 (by decide) (fun _ => ?_) (fun q => absurd rfl q)
  exact W.widen (k := cells + 1) (n := slots + 6) (by omega) (by omega) (K _ _ _ _ _ _ hV' hI hl)
set_option maxHeartbeats 2000000 in
theorem lw_c24 (hC : lzC p l s m meth c D B sc L xs) (hi : 7 * i + 7 ≤ L) (hcap : cells + 1 ≤ 601024 ∧ slots + 6 ≤ 7293034) (K : lwK p l e s m below meth c D B sc cells slots Q i) (hV : Inv i u v) (hI : lzI D B s u v x H locs) (hl : lv_has ls 7 (lvL sc B i)) : W p l e room_1 s m #[Value.ref sc] below meth c H locs cells slots Q (F0 m 1018 ls []) := by
  have hx := hC.1.1
  have hb := hC.1.2.1
  have hn : i < 600 := by have := hC.2.2.2.2.2.2; omega
  have h0 := lv_at hl 0 rfl
  have h4 := lv_at hl 4 rfl
  have hcp : cells ≤ 601024 ∧ slots ≤ 7293034 := by omega
  obtain ⟨r, u', v', e1, e2, hV'⟩ := c_late hV hn 
  refine lv_aload_n hx hb dL_law_1018 rfl (lv_at hl 1 rfl) ?_
  refine lz_vC (av := []) (st := []) hC rfl (sOW_late  _ _ _ e1) rfl wML_123 hpyX9_late hmyX9_late ⟨Nat.le_of_ble_eq_true rfl, Nat.le_of_ble_eq_true rfl⟩ (Nat.le_of_ble_eq_true rfl) dL_law_1019 hl.1 hcp hI (fun H locs hI => ?_)
  show W p l e room_1 s m #[Value.ref sc] below meth c H locs cells slots Q (F0 m 1022 ls [.int r])
  refine lv_aload_n hx hb dL_law_1022 rfl (lv_at hl 2 rfl) ?_
  refine lz_vM (av := []) (st := [.int r]) hC rfl (sMo_late  _ _ _ e2) rfl wML_126 hpyX10_late hmyX10_late ⟨Nat.le_of_ble_eq_true rfl, Nat.le_of_ble_eq_true rfl⟩ (Nat.le_of_ble_eq_true rfl) dL_law_1023 hl.1 hcp hI (fun H locs hI => ?_)
  show W p l e room_1 s m #[Value.ref sc] below meth c H locs cells slots Q (F0 m 1026 ls [.int r, .int r])
  refine lv_icmp_eq (tgt := 1579) hx hb dL_law_1026 (by decide) (fun _ => ?_) (fun q => absurd rfl q)
  exact W.widen (k := cells + 1) (n := slots + 6) (by omega) (by omega) (K _ _ _ _ _ _ hV' hI hl)
set_option maxHeartbeats 2000000 in
theorem lw_c25 (hC : lzC p l s m meth c D B sc L xs) (hi : 7 * i + 7 ≤ L) (hcap : cells + 1 ≤ 601024 ∧ slots + 6 ≤ 7293034) (K : lwK p l e s m below meth c D B sc cells slots Q i) (hV : Inv i u v) (hI : lzI D B s u v x H locs) (hl : lv_has ls 7 (lvL sc B i)) : W p l e room_1 s m #[Value.ref sc] below meth c H locs cells slots Q (F0 m 1031 ls []) := by
  have hx := hC.1.1
  have hb := hC.1.2.1
  have hn : i < 600 := by have := hC.2.2.2.2.2.2; omega
  have h0 := lv_at hl 0 rfl
  have h4 := lv_at hl 4 rfl
  have hcp : cells ≤ 601024 ∧ slots ≤ 7293034 := by omega
  obtain ⟨r, u', v', e1, e2, hV'⟩ := c_may hV hn (xs (7 * i + 1))
  refine lv_aload_n hx hb dL_law_1031 rfl (lv_at hl 1 rfl) ?_
  refine lz_arg (k := 1) hC h0 h4 hi (by decide) hI dL_law_1032 dL_law_1033 dL_law_1035 (by decide) dL_law_1036 dL_law_1037 ?_
  refine lz_vC (av := [.int (xs (7 * i + 1))]) (st := []) hC rfl (sOW_may _ _ _ _ e1) rfl wML_127 hpyX9_may hmyX9_may ⟨Nat.le_of_ble_eq_true rfl, Nat.le_of_ble_eq_true rfl⟩ (Nat.le_of_ble_eq_true rfl) dL_law_1038 hl.1 hcp hI (fun H locs hI => ?_)
  show W p l e room_1 s m #[Value.ref sc] below meth c H locs cells slots Q (F0 m 1041 ls [.int r])
  refine lv_aload_n hx hb dL_law_1041 rfl (lv_at hl 2 rfl) ?_
  refine lz_arg (k := 1) hC h0 h4 hi (by decide) hI dL_law_1042 dL_law_1043 dL_law_1045 (by decide) dL_law_1046 dL_law_1047 ?_
  refine lz_vM (av := [.int (xs (7 * i + 1))]) (st := [.int r]) hC rfl (sMo_may _ _ _ _ e2) rfl wML_131 hpyX10_may hmyX10_may ⟨Nat.le_of_ble_eq_true rfl, Nat.le_of_ble_eq_true rfl⟩ (Nat.le_of_ble_eq_true rfl) dL_law_1048 hl.1 hcp hI (fun H locs hI => ?_)
  show W p l e room_1 s m #[Value.ref sc] below meth c H locs cells slots Q (F0 m 1051 ls [.int r, .int r])
  refine lv_icmp_eq (tgt := 1579) hx hb dL_law_1051 (by decide) (fun _ => ?_) (fun q => absurd rfl q)
  exact W.widen (k := cells + 1) (n := slots + 6) (by omega) (by omega) (K _ _ _ _ _ _ hV' hI hl)
set_option maxHeartbeats 2000000 in
theorem lw_c26 (hC : lzC p l s m meth c D B sc L xs) (hi : 7 * i + 7 ≤ L) (hcap : cells + 1 ≤ 601024 ∧ slots + 6 ≤ 7293034) (K : lwK p l e s m below meth c D B sc cells slots Q i) (hV : Inv i u v) (hI : lzI D B s u v x H locs) (hl : lv_has ls 7 (lvL sc B i)) : W p l e room_1 s m #[Value.ref sc] below meth c H locs cells slots Q (F0 m 1056 ls []) := by
  have hx := hC.1.1
  have hb := hC.1.2.1
  have hn : i < 600 := by have := hC.2.2.2.2.2.2; omega
  have h0 := lv_at hl 0 rfl
  have h4 := lv_at hl 4 rfl
  have hcp : cells ≤ 601024 ∧ slots ≤ 7293034 := by omega
  obtain ⟨r, u', v', e1, e2, hV'⟩ := c_can hV hn (xs (7 * i + 1))
  refine lv_aload_n hx hb dL_law_1056 rfl (lv_at hl 1 rfl) ?_
  refine lz_arg (k := 1) hC h0 h4 hi (by decide) hI dL_law_1057 dL_law_1058 dL_law_1060 (by decide) dL_law_1061 dL_law_1062 ?_
  refine lz_vC (av := [.int (xs (7 * i + 1))]) (st := []) hC rfl (sOW_can _ _ _ _ e1) rfl wML_132 hpyX9_can hmyX9_can ⟨Nat.le_of_ble_eq_true rfl, Nat.le_of_ble_eq_true rfl⟩ (Nat.le_of_ble_eq_true rfl) dL_law_1063 hl.1 hcp hI (fun H locs hI => ?_)
  show W p l e room_1 s m #[Value.ref sc] below meth c H locs cells slots Q (F0 m 1066 ls [.int r])
  refine lv_aload_n hx hb dL_law_1066 rfl (lv_at hl 2 rfl) ?_
  refine lz_arg (k := 1) hC h0 h4 hi (by decide) hI dL_law_1067 dL_law_1068 dL_law_1070 (by decide) dL_law_1071 dL_law_1072 ?_
  refine lz_vM (av := [.int (xs (7 * i + 1))]) (st := [.int r]) hC rfl (sMo_can _ _ _ _ e2) rfl wML_135 hpyX10_can hmyX10_can ⟨Nat.le_of_ble_eq_true rfl, Nat.le_of_ble_eq_true rfl⟩ (Nat.le_of_ble_eq_true rfl) dL_law_1073 hl.1 hcp hI (fun H locs hI => ?_)
  show W p l e room_1 s m #[Value.ref sc] below meth c H locs cells slots Q (F0 m 1076 ls [.int r, .int r])
  refine lv_icmp_eq (tgt := 1579) hx hb dL_law_1076 (by decide) (fun _ => ?_) (fun q => absurd rfl q)
  exact W.widen (k := cells + 1) (n := slots + 6) (by omega) (by omega) (K _ _ _ _ _ _ hV' hI hl)
set_option maxHeartbeats 2000000 in
theorem lw_c27 (hC : lzC p l s m meth c D B sc L xs) (hi : 7 * i + 7 ≤ L) (hcap : cells + 1 ≤ 601024 ∧ slots + 6 ≤ 7293034) (K : lwK p l e s m below meth c D B sc cells slots Q i) (hV : Inv i u v) (hI : lzI D B s u v x H locs) (hl : lv_has ls 7 (lvL sc B i)) : W p l e room_1 s m #[Value.ref sc] below meth c H locs cells slots Q (F0 m 1081 ls []) := by
  have hx := hC.1.1
  have hb := hC.1.2.1
  have hn : i < 600 := by have := hC.2.2.2.2.2.2; omega
  have h0 := lv_at hl 0 rfl
  have h4 := lv_at hl 4 rfl
  have hcp : cells ≤ 601024 ∧ slots ≤ 7293034 := by omega
  obtain ⟨r, u', v', e1, e2, hV'⟩ := c_reach hV hn (xs (7 * i + 1))
  refine lv_aload_n hx hb dL_law_1081 rfl (lv_at hl 1 rfl) ?_
  refine lz_arg (k := 1) hC h0 h4 hi (by decide) hI dL_law_1082 dL_law_1083 dL_law_1085 (by decide) dL_law_1086 dL_law_1087 ?_
  refine lz_vC (av := [.int (xs (7 * i + 1))]) (st := []) hC rfl (sOW_reach _ _ _ _ e1) rfl wML_136 hpyX9_reach hmyX9_reach ⟨Nat.le_of_ble_eq_true rfl, Nat.le_of_ble_eq_true rfl⟩ (Nat.le_of_ble_eq_true rfl) dL_law_1088 hl.1 hcp hI (fun H locs hI => ?_)
  show W p l e room_1 s m #[Value.ref sc] below meth c H locs cells slots Q (F0 m 1091 ls [.int r])
  refine lv_aload_n hx hb dL_law_1091 rfl (lv_at hl 2 rfl) ?_
  refine lz_arg (k := 1) hC h0 h4 hi (by decide) hI dL_law_1092 dL_law_1093 dL_law_1095 (by decide) dL_law_1096 dL_law_1097 ?_
  refine lz_vM (av := [.int (xs (7 * i + 1))]) (st := [.int r]) hC rfl (sMo_reach _ _ _ _ e2) rfl wML_139 hpyX10_reach hmyX10_reach ⟨Nat.le_of_ble_eq_true rfl, Nat.le_of_ble_eq_true rfl⟩ (Nat.le_of_ble_eq_true rfl) dL_law_1098 hl.1 hcp hI (fun H locs hI => ?_)
  show W p l e room_1 s m #[Value.ref sc] below meth c H locs cells slots Q (F0 m 1101 ls [.int r, .int r])
  refine lv_icmp_eq (tgt := 1579) hx hb dL_law_1101 (by decide) (fun _ => ?_) (fun q => absurd rfl q)
  exact W.widen (k := cells + 1) (n := slots + 6) (by omega) (by omega) (K _ _ _ _ _ _ hV' hI hl)
set_option maxHeartbeats 2000000 in
theorem lw_c28 (hC : lzC p l s m meth c D B sc L xs) (hi : 7 * i + 7 ≤ L) (hcap : cells + 1 ≤ 601024 ∧ slots + 6 ≤ 7293034) (K : lwK p l e s m below meth c D B sc cells slots Q i) (hV : Inv i u v) (hI : lzI D B s u v x H locs) (hl : lv_has ls 7 (lvL sc B i)) : W p l e room_1 s m #[Value.ref sc] below meth c H locs cells slots Q (F0 m 1106 ls []) := by
  have hx := hC.1.1
  have hb := hC.1.2.1
  have hn : i < 600 := by have := hC.2.2.2.2.2.2; omega
  have h0 := lv_at hl 0 rfl
  have h4 := lv_at hl 4 rfl
  have hcp : cells ≤ 601024 ∧ slots ≤ 7293034 := by omega
  obtain ⟨r, u', v', e1, e2, hV'⟩ := c_pool hV hn (xs (7 * i + 1))
  refine lv_aload_n hx hb dL_law_1106 rfl (lv_at hl 1 rfl) ?_
  refine lz_arg (k := 1) hC h0 h4 hi (by decide) hI dL_law_1107 dL_law_1108 dL_law_1110 (by decide) dL_law_1111 dL_law_1112 ?_
  refine lz_vC (av := [.int (xs (7 * i + 1))]) (st := []) hC rfl (sOW_pool _ _ _ _ e1) rfl wML_140 hpyX9_pool hmyX9_pool ⟨Nat.le_of_ble_eq_true rfl, Nat.le_of_ble_eq_true rfl⟩ (Nat.le_of_ble_eq_true rfl) dL_law_1113 hl.1 hcp hI (fun H locs hI => ?_)
  show W p l e room_1 s m #[Value.ref sc] below meth c H locs cells slots Q (F0 m 1116 ls [.int r])
  refine lv_aload_n hx hb dL_law_1116 rfl (lv_at hl 2 rfl) ?_
  refine lz_arg (k := 1) hC h0 h4 hi (by decide) hI dL_law_1117 dL_law_1118 dL_law_1120 (by decide) dL_law_1121 dL_law_1122 ?_
  refine lz_vM (av := [.int (xs (7 * i + 1))]) (st := [.int r]) hC rfl (sMo_pool _ _ _ _ e2) rfl wML_143 hpyX10_pool hmyX10_pool ⟨Nat.le_of_ble_eq_true rfl, Nat.le_of_ble_eq_true rfl⟩ (Nat.le_of_ble_eq_true rfl) dL_law_1123 hl.1 hcp hI (fun H locs hI => ?_)
  show W p l e room_1 s m #[Value.ref sc] below meth c H locs cells slots Q (F0 m 1126 ls [.int r, .int r])
  refine lv_icmp_eq (tgt := 1579) hx hb dL_law_1126 (by decide) (fun _ => ?_) (fun q => absurd rfl q)
  exact W.widen (k := cells + 1) (n := slots + 6) (by omega) (by omega) (K _ _ _ _ _ _ hV' hI hl)
set_option maxHeartbeats 2000000 in
theorem lw_c29 (hC : lzC p l s m meth c D B sc L xs) (hi : 7 * i + 7 ≤ L) (hcap : cells + 1 ≤ 601024 ∧ slots + 6 ≤ 7293034) (K : lwK p l e s m below meth c D B sc cells slots Q i) (hV : Inv i u v) (hI : lzI D B s u v x H locs) (hl : lv_has ls 7 (lvL sc B i)) : W p l e room_1 s m #[Value.ref sc] below meth c H locs cells slots Q (F0 m 1131 ls []) := by
  have hx := hC.1.1
  have hb := hC.1.2.1
  have hn : i < 600 := by have := hC.2.2.2.2.2.2; omega
  have h0 := lv_at hl 0 rfl
  have h4 := lv_at hl 4 rfl
  have hcp : cells ≤ 601024 ∧ slots ≤ 7293034 := by omega
  obtain ⟨r, u', v', e1, e2, hV'⟩ := c_far hV hn (xs (7 * i + 1)) (xs (7 * i + 2))
  refine lv_aload_n hx hb dL_law_1131 rfl (lv_at hl 1 rfl) ?_
  refine lz_arg (k := 1) hC h0 h4 hi (by decide) hI dL_law_1132 dL_law_1133 dL_law_1135 (by decide) dL_law_1136 dL_law_1137 ?_
  refine lz_arg (k := 2) hC h0 h4 hi (by decide) hI dL_law_1138 dL_law_1139 dL_law_1141 (by decide) dL_law_1142 dL_law_1143 ?_
  refine lz_vC (av := [.int (xs (7 * i + 1)), .int (xs (7 * i + 2))]) (st := []) hC rfl (sOW_far _ _ _ _ _ e1) rfl wML_144 hpyX9_far hmyX9_far ⟨Nat.le_of_ble_eq_true rfl, Nat.le_of_ble_eq_true rfl⟩ (Nat.le_of_ble_eq_true rfl) dL_law_1144 hl.1 hcp hI (fun H locs hI => ?_)
  show W p l e room_1 s m #[Value.ref sc] below meth c H locs cells slots Q (F0 m 1147 ls [.int r])
  refine lv_aload_n hx hb dL_law_1147 rfl (lv_at hl 2 rfl) ?_
  refine lz_arg (k := 1) hC h0 h4 hi (by decide) hI dL_law_1148 dL_law_1149 dL_law_1151 (by decide) dL_law_1152 dL_law_1153 ?_
  refine lz_arg (k := 2) hC h0 h4 hi (by decide) hI dL_law_1154 dL_law_1155 dL_law_1157 (by decide) dL_law_1158 dL_law_1159 ?_
  refine lz_vM (av := [.int (xs (7 * i + 1)), .int (xs (7 * i + 2))]) (st := [.int r]) hC rfl (sMo_far _ _ _ _ _ e2) rfl wML_147 hpyX10_far hmyX10_far ⟨Nat.le_of_ble_eq_true rfl, Nat.le_of_ble_eq_true rfl⟩ (Nat.le_of_ble_eq_true rfl) dL_law_1160 hl.1 hcp hI (fun H locs hI => ?_)
  show W p l e room_1 s m #[Value.ref sc] below meth c H locs cells slots Q (F0 m 1163 ls [.int r, .int r])
  refine lv_icmp_eq (tgt := 1579) hx hb dL_law_1163 (by decide) (fun _ => ?_) (fun q => absurd rfl q)
  exact W.widen (k := cells + 1) (n := slots + 6) (by omega) (by omega) (K _ _ _ _ _ _ hV' hI hl)
set_option maxHeartbeats 2000000 in
theorem lw_c30 (hC : lzC p l s m meth c D B sc L xs) (hi : 7 * i + 7 ≤ L) (hcap : cells + 1 ≤ 601024 ∧ slots + 6 ≤ 7293034) (K : lwK p l e s m below meth c D B sc cells slots Q i) (hV : Inv i u v) (hI : lzI D B s u v x H locs) (hl : lv_has ls 7 (lvL sc B i)) : W p l e room_1 s m #[Value.ref sc] below meth c H locs cells slots Q (F0 m 1168 ls []) := by
  have hx := hC.1.1
  have hb := hC.1.2.1
  have hn : i < 600 := by have := hC.2.2.2.2.2.2; omega
  have h0 := lv_at hl 0 rfl
  have h4 := lv_at hl 4 rfl
  have hcp : cells ≤ 601024 ∧ slots ≤ 7293034 := by omega
  obtain ⟨r, u', v', e1, e2, hV'⟩ := c_pools hV hn 
  refine lv_aload_n hx hb dL_law_1168 rfl (lv_at hl 1 rfl) ?_
  refine lz_vC (av := []) (st := []) hC rfl (sOW_pools  _ _ _ e1) rfl wML_148 hpyX9_pools hmyX9_pools ⟨Nat.le_of_ble_eq_true rfl, Nat.le_of_ble_eq_true rfl⟩ (Nat.le_of_ble_eq_true rfl) dL_law_1169 hl.1 hcp hI (fun H locs hI => ?_)
  show W p l e room_1 s m #[Value.ref sc] below meth c H locs cells slots Q (F0 m 1172 ls [.int r])
  refine lv_aload_n hx hb dL_law_1172 rfl (lv_at hl 2 rfl) ?_
  refine lz_vM (av := []) (st := [.int r]) hC rfl (sMo_pools  _ _ _ e2) rfl wML_151 hpyX10_pools hmyX10_pools ⟨Nat.le_of_ble_eq_true rfl, Nat.le_of_ble_eq_true rfl⟩ (Nat.le_of_ble_eq_true rfl) dL_law_1173 hl.1 hcp hI (fun H locs hI => ?_)
  show W p l e room_1 s m #[Value.ref sc] below meth c H locs cells slots Q (F0 m 1176 ls [.int r, .int r])
  refine lv_icmp_eq (tgt := 1579) hx hb dL_law_1176 (by decide) (fun _ => ?_) (fun q => absurd rfl q)
  exact W.widen (k := cells + 1) (n := slots + 6) (by omega) (by omega) (K _ _ _ _ _ _ hV' hI hl)
set_option maxHeartbeats 2000000 in
theorem lw_c31 (hC : lzC p l s m meth c D B sc L xs) (hi : 7 * i + 7 ≤ L) (hcap : cells + 1 ≤ 601024 ∧ slots + 6 ≤ 7293034) (K : lwK p l e s m below meth c D B sc cells slots Q i) (hV : Inv i u v) (hI : lzI D B s u v x H locs) (hl : lv_has ls 7 (lvL sc B i)) : W p l e room_1 s m #[Value.ref sc] below meth c H locs cells slots Q (F0 m 1181 ls []) := by
  have hx := hC.1.1
  have hb := hC.1.2.1
  have hn : i < 600 := by have := hC.2.2.2.2.2.2; omega
  have h0 := lv_at hl 0 rfl
  have h4 := lv_at hl 4 rfl
  have hcp : cells ≤ 601024 ∧ slots ≤ 7293034 := by omega
  obtain ⟨r, u', v', e1, e2, hV'⟩ := c_bridges hV hn 
  refine lv_aload_n hx hb dL_law_1181 rfl (lv_at hl 1 rfl) ?_
  refine lz_vC (av := []) (st := []) hC rfl (sOW_bridges  _ _ _ e1) rfl wML_152 hpyX9_bridges hmyX9_bridges ⟨Nat.le_of_ble_eq_true rfl, Nat.le_of_ble_eq_true rfl⟩ (Nat.le_of_ble_eq_true rfl) dL_law_1182 hl.1 hcp hI (fun H locs hI => ?_)
  show W p l e room_1 s m #[Value.ref sc] below meth c H locs cells slots Q (F0 m 1185 ls [.int r])
  refine lv_aload_n hx hb dL_law_1185 rfl (lv_at hl 2 rfl) ?_
  refine lz_vM (av := []) (st := [.int r]) hC rfl (sMo_bridges  _ _ _ e2) rfl wML_155 hpyX10_bridges hmyX10_bridges ⟨Nat.le_of_ble_eq_true rfl, Nat.le_of_ble_eq_true rfl⟩ (Nat.le_of_ble_eq_true rfl) dL_law_1186 hl.1 hcp hI (fun H locs hI => ?_)
  show W p l e room_1 s m #[Value.ref sc] below meth c H locs cells slots Q (F0 m 1189 ls [.int r, .int r])
  refine lv_icmp_eq (tgt := 1579) hx hb dL_law_1189 (by decide) (fun _ => ?_) (fun q => absurd rfl q)
  exact W.widen (k := cells + 1) (n := slots + 6) (by omega) (by omega) (K _ _ _ _ _ _ hV' hI hl)
set_option maxHeartbeats 2000000 in
theorem lw_c32 (hC : lzC p l s m meth c D B sc L xs) (hi : 7 * i + 7 ≤ L) (hcap : cells + 1 ≤ 601024 ∧ slots + 6 ≤ 7293034) (K : lwK p l e s m below meth c D B sc cells slots Q i) (hV : Inv i u v) (hI : lzI D B s u v x H locs) (hl : lv_has ls 7 (lvL sc B i)) : W p l e room_1 s m #[Value.ref sc] below meth c H locs cells slots Q (F0 m 1194 ls []) := by
  have hx := hC.1.1
  have hb := hC.1.2.1
  have hn : i < 600 := by have := hC.2.2.2.2.2.2; omega
  have h0 := lv_at hl 0 rfl
  have h4 := lv_at hl 4 rfl
  have hcp : cells ≤ 601024 ∧ slots ≤ 7293034 := by omega
  obtain ⟨r, u', v', e1, e2, hV'⟩ := c_warm hV hn 
  refine lv_aload_n hx hb dL_law_1194 rfl (lv_at hl 1 rfl) ?_
  refine lz_vC (av := []) (st := []) hC rfl (sOW_warm  _ _ _ e1) rfl wML_156 hpyX9_warm hmyX9_warm ⟨Nat.le_of_ble_eq_true rfl, Nat.le_of_ble_eq_true rfl⟩ (Nat.le_of_ble_eq_true rfl) dL_law_1195 hl.1 hcp hI (fun H locs hI => ?_)
  show W p l e room_1 s m #[Value.ref sc] below meth c H locs cells slots Q (F0 m 1198 ls [.int r])
  refine lv_aload_n hx hb dL_law_1198 rfl (lv_at hl 2 rfl) ?_
  refine lz_vM (av := []) (st := [.int r]) hC rfl (sMo_warm  _ _ _ e2) rfl wML_159 hpyX10_warm hmyX10_warm ⟨Nat.le_of_ble_eq_true rfl, Nat.le_of_ble_eq_true rfl⟩ (Nat.le_of_ble_eq_true rfl) dL_law_1199 hl.1 hcp hI (fun H locs hI => ?_)
  show W p l e room_1 s m #[Value.ref sc] below meth c H locs cells slots Q (F0 m 1202 ls [.int r, .int r])
  refine lv_icmp_eq (tgt := 1579) hx hb dL_law_1202 (by decide) (fun _ => ?_) (fun q => absurd rfl q)
  exact W.widen (k := cells + 1) (n := slots + 6) (by omega) (by omega) (K _ _ _ _ _ _ hV' hI hl)
set_option maxHeartbeats 2000000 in
theorem lw_c33 (hC : lzC p l s m meth c D B sc L xs) (hi : 7 * i + 7 ≤ L) (hcap : cells + 1 ≤ 601024 ∧ slots + 6 ≤ 7293034) (K : lwK p l e s m below meth c D B sc cells slots Q i) (hV : Inv i u v) (hI : lzI D B s u v x H locs) (hl : lv_has ls 7 (lvL sc B i)) : W p l e room_1 s m #[Value.ref sc] below meth c H locs cells slots Q (F0 m 1207 ls []) := by
  have hx := hC.1.1
  have hb := hC.1.2.1
  have hn : i < 600 := by have := hC.2.2.2.2.2.2; omega
  have h0 := lv_at hl 0 rfl
  have h4 := lv_at hl 4 rfl
  have hcp : cells ≤ 601024 ∧ slots ≤ 7293034 := by omega
  obtain ⟨r, u', v', e1, e2, hV'⟩ := c_hunted hV hn 
  refine lv_aload_n hx hb dL_law_1207 rfl (lv_at hl 1 rfl) ?_
  refine lz_vC (av := []) (st := []) hC rfl (sOW_hunted  _ _ _ e1) rfl wML_160 hpyX9_hunted hmyX9_hunted ⟨Nat.le_of_ble_eq_true rfl, Nat.le_of_ble_eq_true rfl⟩ (Nat.le_of_ble_eq_true rfl) dL_law_1208 hl.1 hcp hI (fun H locs hI => ?_)
  show W p l e room_1 s m #[Value.ref sc] below meth c H locs cells slots Q (F0 m 1211 ls [.int r])
  refine lv_aload_n hx hb dL_law_1211 rfl (lv_at hl 2 rfl) ?_
  refine lz_vM (av := []) (st := [.int r]) hC rfl (sMo_hunted  _ _ _ e2) rfl wML_163 hpyX10_hunted hmyX10_hunted ⟨Nat.le_of_ble_eq_true rfl, Nat.le_of_ble_eq_true rfl⟩ (Nat.le_of_ble_eq_true rfl) dL_law_1212 hl.1 hcp hI (fun H locs hI => ?_)
  show W p l e room_1 s m #[Value.ref sc] below meth c H locs cells slots Q (F0 m 1215 ls [.int r, .int r])
  refine lv_icmp_eq (tgt := 1579) hx hb dL_law_1215 (by decide) (fun _ => ?_) (fun q => absurd rfl q)
  exact W.widen (k := cells + 1) (n := slots + 6) (by omega) (by omega) (K _ _ _ _ _ _ hV' hI hl)
set_option maxHeartbeats 2000000 in
theorem lw_c34 (hC : lzC p l s m meth c D B sc L xs) (hi : 7 * i + 7 ≤ L) (hcap : cells + 1 ≤ 601024 ∧ slots + 6 ≤ 7293034) (K : lwK p l e s m below meth c D B sc cells slots Q i) (hV : Inv i u v) (hI : lzI D B s u v x H locs) (hl : lv_has ls 7 (lvL sc B i)) : W p l e room_1 s m #[Value.ref sc] below meth c H locs cells slots Q (F0 m 1220 ls []) := by
  have hx := hC.1.1
  have hb := hC.1.2.1
  have hn : i < 600 := by have := hC.2.2.2.2.2.2; omega
  have h0 := lv_at hl 0 rfl
  have h4 := lv_at hl 4 rfl
  have hcp : cells ≤ 601024 ∧ slots ≤ 7293034 := by omega
  by_cases hz : xs (7 * i + 3) = 0
  · obtain ⟨r, u', v', e1, e2, hV'⟩ := c_see hV hn (xs (7 * i + 1)) (xs (7 * i + 2)) false
    refine lv_aload_n hx hb dL_law_1220 rfl (lv_at hl 1 rfl) ?_
    refine lz_arg (k := 1) hC h0 h4 hi (by decide) hI dL_law_1221 dL_law_1222 dL_law_1224 (by decide) dL_law_1225 dL_law_1226 ?_
    refine lz_arg (k := 2) hC h0 h4 hi (by decide) hI dL_law_1227 dL_law_1228 dL_law_1230 (by decide) dL_law_1231 dL_law_1232 ?_
    refine lz_arg (k := 3) hC h0 h4 hi (by decide) hI dL_law_1233 dL_law_1234 dL_law_1236 (by decide) dL_law_1237 dL_law_1238 ?_
    refine lv_if_eq (tgt := 1246) hx hb dL_law_1239 (by decide) (fun _ => ?_) (fun q => absurd hz q)
    refine lv_iconst (v := bI false) hx hb dL_law_1246 (by decide) ?_
    refine lz_vC (av := [.int (xs (7 * i + 1)), .int (xs (7 * i + 2)), .int (bI false)]) (st := []) hC rfl (sOW_see _ _ _ _ _ _ e1) rfl wML_164 hpyX9_see hmyX9_see ⟨Nat.le_of_ble_eq_true rfl, Nat.le_of_ble_eq_true rfl⟩ (Nat.le_of_ble_eq_true rfl) dL_law_1247 hl.1 hcp hI (fun H locs hI => ?_)
    show W p l e room_1 s m #[Value.ref sc] below meth c H locs cells slots Q (F0 m 1250 ls [.int r])
    refine lv_aload_n hx hb dL_law_1250 rfl (lv_at hl 2 rfl) ?_
    refine lz_arg (k := 1) hC h0 h4 hi (by decide) hI dL_law_1251 dL_law_1252 dL_law_1254 (by decide) dL_law_1255 dL_law_1256 ?_
    refine lz_arg (k := 2) hC h0 h4 hi (by decide) hI dL_law_1257 dL_law_1258 dL_law_1260 (by decide) dL_law_1261 dL_law_1262 ?_
    refine lz_arg (k := 3) hC h0 h4 hi (by decide) hI dL_law_1263 dL_law_1264 dL_law_1266 (by decide) dL_law_1267 dL_law_1268 ?_
    refine lv_if_eq (tgt := 1276) hx hb dL_law_1269 (by decide) (fun _ => ?_) (fun q => absurd hz q)
    refine lv_iconst (v := bI false) hx hb dL_law_1276 (by decide) ?_
    refine lz_vM (av := [.int (xs (7 * i + 1)), .int (xs (7 * i + 2)), .int (bI false)]) (st := [.int r]) hC rfl (sMo_see _ _ _ _ _ _ e2) rfl wML_168 hpyX10_see hmyX10_see ⟨Nat.le_of_ble_eq_true rfl, Nat.le_of_ble_eq_true rfl⟩ (Nat.le_of_ble_eq_true rfl) dL_law_1277 hl.1 hcp hI (fun H locs hI => ?_)
    show W p l e room_1 s m #[Value.ref sc] below meth c H locs cells slots Q (F0 m 1280 ls [.int r, .int r])
    refine lv_icmp_eq (tgt := 1579) hx hb dL_law_1280 (by decide) (fun _ => ?_) (fun q => absurd rfl q)
    exact W.widen (k := cells + 1) (n := slots + 6) (by omega) (by omega) (K _ _ _ _ _ _ hV' hI hl)
  · obtain ⟨r, u', v', e1, e2, hV'⟩ := c_see hV hn (xs (7 * i + 1)) (xs (7 * i + 2)) true
    refine lv_aload_n hx hb dL_law_1220 rfl (lv_at hl 1 rfl) ?_
    refine lz_arg (k := 1) hC h0 h4 hi (by decide) hI dL_law_1221 dL_law_1222 dL_law_1224 (by decide) dL_law_1225 dL_law_1226 ?_
    refine lz_arg (k := 2) hC h0 h4 hi (by decide) hI dL_law_1227 dL_law_1228 dL_law_1230 (by decide) dL_law_1231 dL_law_1232 ?_
    refine lz_arg (k := 3) hC h0 h4 hi (by decide) hI dL_law_1233 dL_law_1234 dL_law_1236 (by decide) dL_law_1237 dL_law_1238 ?_
    refine lv_if_eq (tgt := 1246) hx hb dL_law_1239 (by decide) (fun q => absurd q hz) (fun _ => ?_)
    refine lv_iconst (v := bI true) hx hb dL_law_1242 (by decide) ?_
    refine lv_goto (tgt := 1247) hx hb dL_law_1243 (by decide) ?_
    refine lz_vC (av := [.int (xs (7 * i + 1)), .int (xs (7 * i + 2)), .int (bI true)]) (st := []) hC rfl (sOW_see _ _ _ _ _ _ e1) rfl wML_164 hpyX9_see hmyX9_see ⟨Nat.le_of_ble_eq_true rfl, Nat.le_of_ble_eq_true rfl⟩ (Nat.le_of_ble_eq_true rfl) dL_law_1247 hl.1 hcp hI (fun H locs hI => ?_)
    show W p l e room_1 s m #[Value.ref sc] below meth c H locs cells slots Q (F0 m 1250 ls [.int r])
    refine lv_aload_n hx hb dL_law_1250 rfl (lv_at hl 2 rfl) ?_
    refine lz_arg (k := 1) hC h0 h4 hi (by decide) hI dL_law_1251 dL_law_1252 dL_law_1254 (by decide) dL_law_1255 dL_law_1256 ?_
    refine lz_arg (k := 2) hC h0 h4 hi (by decide) hI dL_law_1257 dL_law_1258 dL_law_1260 (by decide) dL_law_1261 dL_law_1262 ?_
    refine lz_arg (k := 3) hC h0 h4 hi (by decide) hI dL_law_1263 dL_law_1264 dL_law_1266 (by decide) dL_law_1267 dL_law_1268 ?_
    refine lv_if_eq (tgt := 1276) hx hb dL_law_1269 (by decide) (fun q => absurd q hz) (fun _ => ?_)
    refine lv_iconst (v := bI true) hx hb dL_law_1272 (by decide) ?_
    refine lv_goto (tgt := 1277) hx hb dL_law_1273 (by decide) ?_
    refine lz_vM (av := [.int (xs (7 * i + 1)), .int (xs (7 * i + 2)), .int (bI true)]) (st := [.int r]) hC rfl (sMo_see _ _ _ _ _ _ e2) rfl wML_168 hpyX10_see hmyX10_see ⟨Nat.le_of_ble_eq_true rfl, Nat.le_of_ble_eq_true rfl⟩ (Nat.le_of_ble_eq_true rfl) dL_law_1277 hl.1 hcp hI (fun H locs hI => ?_)
    show W p l e room_1 s m #[Value.ref sc] below meth c H locs cells slots Q (F0 m 1280 ls [.int r, .int r])
    refine lv_icmp_eq (tgt := 1579) hx hb dL_law_1280 (by decide) (fun _ => ?_) (fun q => absurd rfl q)
    exact W.widen (k := cells + 1) (n := slots + 6) (by omega) (by omega) (K _ _ _ _ _ _ hV' hI hl)
set_option maxHeartbeats 2000000 in
theorem lw_c35 (hC : lzC p l s m meth c D B sc L xs) (hi : 7 * i + 7 ≤ L) (hcap : cells + 1 ≤ 601024 ∧ slots + 6 ≤ 7293034) (K : lwK p l e s m below meth c D B sc cells slots Q i) (hV : Inv i u v) (hI : lzI D B s u v x H locs) (hl : lv_has ls 7 (lvL sc B i)) : W p l e room_1 s m #[Value.ref sc] below meth c H locs cells slots Q (F0 m 1285 ls []) := by
  have hx := hC.1.1
  have hb := hC.1.2.1
  have hn : i < 600 := by have := hC.2.2.2.2.2.2; omega
  have h0 := lv_at hl 0 rfl
  have h4 := lv_at hl 4 rfl
  have hcp : cells ≤ 601024 ∧ slots ≤ 7293034 := by omega
  obtain ⟨r, u', v', e1, e2, hV'⟩ := c_rains hV hn 
  refine lv_aload_n hx hb dL_law_1285 rfl (lv_at hl 1 rfl) ?_
  refine lz_vC (av := []) (st := []) hC rfl (sOW_rains  _ _ _ e1) rfl wML_169 hpyX9_rains hmyX9_rains ⟨Nat.le_of_ble_eq_true rfl, Nat.le_of_ble_eq_true rfl⟩ (Nat.le_of_ble_eq_true rfl) dL_law_1286 hl.1 hcp hI (fun H locs hI => ?_)
  show W p l e room_1 s m #[Value.ref sc] below meth c H locs cells slots Q (F0 m 1289 ls [.int r])
  refine lv_aload_n hx hb dL_law_1289 rfl (lv_at hl 2 rfl) ?_
  refine lz_vM (av := []) (st := [.int r]) hC rfl (sMo_rains  _ _ _ e2) rfl wML_172 hpyX10_rains hmyX10_rains ⟨Nat.le_of_ble_eq_true rfl, Nat.le_of_ble_eq_true rfl⟩ (Nat.le_of_ble_eq_true rfl) dL_law_1290 hl.1 hcp hI (fun H locs hI => ?_)
  show W p l e room_1 s m #[Value.ref sc] below meth c H locs cells slots Q (F0 m 1293 ls [.int r, .int r])
  refine lv_icmp_eq (tgt := 1579) hx hb dL_law_1293 (by decide) (fun _ => ?_) (fun q => absurd rfl q)
  exact W.widen (k := cells + 1) (n := slots + 6) (by omega) (by omega) (K _ _ _ _ _ _ hV' hI hl)
set_option maxHeartbeats 2000000 in
theorem lw_c36 (hC : lzC p l s m meth c D B sc L xs) (hi : 7 * i + 7 ≤ L) (hcap : cells + 1 ≤ 601024 ∧ slots + 6 ≤ 7293034) (K : lwK p l e s m below meth c D B sc cells slots Q i) (hV : Inv i u v) (hI : lzI D B s u v x H locs) (hl : lv_has ls 7 (lvL sc B i)) : W p l e room_1 s m #[Value.ref sc] below meth c H locs cells slots Q (F0 m 1298 ls []) := by
  have hx := hC.1.1
  have hb := hC.1.2.1
  have hn : i < 600 := by have := hC.2.2.2.2.2.2; omega
  have h0 := lv_at hl 0 rfl
  have h4 := lv_at hl 4 rfl
  have hcp : cells ≤ 601024 ∧ slots ≤ 7293034 := by omega
  obtain ⟨r, u', v', e1, e2, hV'⟩ := c_look hV hn 
  refine lv_aload_n hx hb dL_law_1298 rfl (lv_at hl 1 rfl) ?_
  refine lz_vC (av := []) (st := []) hC rfl (sOW_look  _ _ _ e1) rfl wML_173 hpyX9_look hmyX9_look ⟨Nat.le_of_ble_eq_true rfl, Nat.le_of_ble_eq_true rfl⟩ (Nat.le_of_ble_eq_true rfl) dL_law_1299 hl.1 hcp hI (fun H locs hI => ?_)
  show W p l e room_1 s m #[Value.ref sc] below meth c H locs cells slots Q (F0 m 1302 ls [.int r])
  refine lv_aload_n hx hb dL_law_1302 rfl (lv_at hl 2 rfl) ?_
  refine lz_vM (av := []) (st := [.int r]) hC rfl (sMo_look  _ _ _ e2) rfl wML_176 hpyX10_look hmyX10_look ⟨Nat.le_of_ble_eq_true rfl, Nat.le_of_ble_eq_true rfl⟩ (Nat.le_of_ble_eq_true rfl) dL_law_1303 hl.1 hcp hI (fun H locs hI => ?_)
  show W p l e room_1 s m #[Value.ref sc] below meth c H locs cells slots Q (F0 m 1306 ls [.int r, .int r])
  refine lv_icmp_eq (tgt := 1579) hx hb dL_law_1306 (by decide) (fun _ => ?_) (fun q => absurd rfl q)
  exact W.widen (k := cells + 1) (n := slots + 6) (by omega) (by omega) (K _ _ _ _ _ _ hV' hI hl)
set_option maxHeartbeats 2000000 in
theorem lw_c37 (hC : lzC p l s m meth c D B sc L xs) (hi : 7 * i + 7 ≤ L) (hcap : cells + 1 ≤ 601024 ∧ slots + 6 ≤ 7293034) (K : lwK p l e s m below meth c D B sc cells slots Q i) (hV : Inv i u v) (hI : lzI D B s u v x H locs) (hl : lv_has ls 7 (lvL sc B i)) : W p l e room_1 s m #[Value.ref sc] below meth c H locs cells slots Q (F0 m 1311 ls []) := by
  have hx := hC.1.1
  have hb := hC.1.2.1
  have hn : i < 600 := by have := hC.2.2.2.2.2.2; omega
  have h0 := lv_at hl 0 rfl
  have h4 := lv_at hl 4 rfl
  have hcp : cells ≤ 601024 ∧ slots ≤ 7293034 := by omega
  obtain ⟨r, u', v', e1, e2, hV'⟩ := c_chance hV hn (xs (7 * i + 1)) (xs (7 * i + 2)) (xs (7 * i + 3))
  refine lv_aload_n hx hb dL_law_1311 rfl (lv_at hl 1 rfl) ?_
  refine lz_arg (k := 1) hC h0 h4 hi (by decide) hI dL_law_1312 dL_law_1313 dL_law_1315 (by decide) dL_law_1316 dL_law_1317 ?_
  refine lz_arg (k := 2) hC h0 h4 hi (by decide) hI dL_law_1318 dL_law_1319 dL_law_1321 (by decide) dL_law_1322 dL_law_1323 ?_
  refine lz_arg (k := 3) hC h0 h4 hi (by decide) hI dL_law_1324 dL_law_1325 dL_law_1327 (by decide) dL_law_1328 dL_law_1329 ?_
  refine lz_vC (av := [.int (xs (7 * i + 1)), .int (xs (7 * i + 2)), .int (xs (7 * i + 3))]) (st := []) hC rfl (sOW_chance _ _ _ _ _ _ e1) rfl wML_177 hpyX9_chance hmyX9_chance ⟨Nat.le_of_ble_eq_true rfl, Nat.le_of_ble_eq_true rfl⟩ (Nat.le_of_ble_eq_true rfl) dL_law_1330 hl.1 hcp hI (fun H locs hI => ?_)
  show W p l e room_1 s m #[Value.ref sc] below meth c H locs cells slots Q (F0 m 1333 ls [.int r])
  refine lv_aload_n hx hb dL_law_1333 rfl (lv_at hl 2 rfl) ?_
  refine lz_arg (k := 1) hC h0 h4 hi (by decide) hI dL_law_1334 dL_law_1335 dL_law_1337 (by decide) dL_law_1338 dL_law_1339 ?_
  refine lz_arg (k := 2) hC h0 h4 hi (by decide) hI dL_law_1340 dL_law_1341 dL_law_1343 (by decide) dL_law_1344 dL_law_1345 ?_
  refine lz_arg (k := 3) hC h0 h4 hi (by decide) hI dL_law_1346 dL_law_1347 dL_law_1349 (by decide) dL_law_1350 dL_law_1351 ?_
  refine lz_vM (av := [.int (xs (7 * i + 1)), .int (xs (7 * i + 2)), .int (xs (7 * i + 3))]) (st := [.int r]) hC rfl (sMo_chance _ _ _ _ _ _ e2) rfl wML_181 hpyX10_chance hmyX10_chance ⟨Nat.le_of_ble_eq_true rfl, Nat.le_of_ble_eq_true rfl⟩ (Nat.le_of_ble_eq_true rfl) dL_law_1352 hl.1 hcp hI (fun H locs hI => ?_)
  show W p l e room_1 s m #[Value.ref sc] below meth c H locs cells slots Q (F0 m 1355 ls [.int r, .int r])
  refine lv_icmp_eq (tgt := 1579) hx hb dL_law_1355 (by decide) (fun _ => ?_) (fun q => absurd rfl q)
  exact W.widen (k := cells + 1) (n := slots + 6) (by omega) (by omega) (K _ _ _ _ _ _ hV' hI hl)
set_option maxHeartbeats 2000000 in
theorem lw_c39 (hC : lzC p l s m meth c D B sc L xs) (hi : 7 * i + 7 ≤ L) (hcap : cells + 1 ≤ 601024 ∧ slots + 6 ≤ 7293034) (K : lwK p l e s m below meth c D B sc cells slots Q i) (hV : Inv i u v) (hI : lzI D B s u v x H locs) (hl : lv_has ls 7 (lvL sc B i)) : W p l e room_1 s m #[Value.ref sc] below meth c H locs cells slots Q (F0 m 1452 ls []) := by
  have hx := hC.1.1
  have hb := hC.1.2.1
  have hn : i < 600 := by have := hC.2.2.2.2.2.2; omega
  have h0 := lv_at hl 0 rfl
  have h4 := lv_at hl 4 rfl
  have hcp : cells ≤ 601024 ∧ slots ≤ 7293034 := by omega
  obtain ⟨r, u', v', e1, e2, hV'⟩ := c_sessions hV hn (xs (7 * i + 1)) (xs (7 * i + 2)) (xs (7 * i + 3))
  refine lv_aload_n hx hb dL_law_1452 rfl (lv_at hl 1 rfl) ?_
  refine lz_arg (k := 1) hC h0 h4 hi (by decide) hI dL_law_1453 dL_law_1454 dL_law_1456 (by decide) dL_law_1457 dL_law_1458 ?_
  refine lz_arg (k := 2) hC h0 h4 hi (by decide) hI dL_law_1459 dL_law_1460 dL_law_1462 (by decide) dL_law_1463 dL_law_1464 ?_
  refine lz_arg (k := 3) hC h0 h4 hi (by decide) hI dL_law_1465 dL_law_1466 dL_law_1468 (by decide) dL_law_1469 dL_law_1470 ?_
  refine lz_vC (av := [.int (xs (7 * i + 1)), .int (xs (7 * i + 2)), .int (xs (7 * i + 3))]) (st := []) hC rfl (sOW_sessions _ _ _ _ _ _ e1) rfl wML_191 hpyX9_sessions hmyX9_sessions ⟨Nat.le_of_ble_eq_true rfl, Nat.le_of_ble_eq_true rfl⟩ (Nat.le_of_ble_eq_true rfl) dL_law_1471 hl.1 hcp hI (fun H locs hI => ?_)
  show W p l e room_1 s m #[Value.ref sc] below meth c H locs cells slots Q (F0 m 1474 ls [.int r])
  refine lv_aload_n hx hb dL_law_1474 rfl (lv_at hl 2 rfl) ?_
  refine lz_arg (k := 1) hC h0 h4 hi (by decide) hI dL_law_1475 dL_law_1476 dL_law_1478 (by decide) dL_law_1479 dL_law_1480 ?_
  refine lz_arg (k := 2) hC h0 h4 hi (by decide) hI dL_law_1481 dL_law_1482 dL_law_1484 (by decide) dL_law_1485 dL_law_1486 ?_
  refine lz_arg (k := 3) hC h0 h4 hi (by decide) hI dL_law_1487 dL_law_1488 dL_law_1490 (by decide) dL_law_1491 dL_law_1492 ?_
  refine lz_vM (av := [.int (xs (7 * i + 1)), .int (xs (7 * i + 2)), .int (xs (7 * i + 3))]) (st := [.int r]) hC rfl (sMo_sessions _ _ _ _ _ _ e2) rfl wML_194 hpyX10_sessions hmyX10_sessions ⟨Nat.le_of_ble_eq_true rfl, Nat.le_of_ble_eq_true rfl⟩ (Nat.le_of_ble_eq_true rfl) dL_law_1493 hl.1 hcp hI (fun H locs hI => ?_)
  show W p l e room_1 s m #[Value.ref sc] below meth c H locs cells slots Q (F0 m 1496 ls [.int r, .int r])
  refine lv_icmp_eq (tgt := 1579) hx hb dL_law_1496 (by decide) (fun _ => ?_) (fun q => absurd rfl q)
  exact W.widen (k := cells + 1) (n := slots + 6) (by omega) (by omega) (K _ _ _ _ _ _ hV' hI hl)
set_option maxHeartbeats 2000000 in
theorem lw_c40 (hC : lzC p l s m meth c D B sc L xs) (hi : 7 * i + 7 ≤ L) (hcap : cells + 1 ≤ 601024 ∧ slots + 6 ≤ 7293034) (K : lwK p l e s m below meth c D B sc cells slots Q i) (hV : Inv i u v) (hI : lzI D B s u v x H locs) (hl : lv_has ls 7 (lvL sc B i)) : W p l e room_1 s m #[Value.ref sc] below meth c H locs cells slots Q (F0 m 1501 ls []) := by
  have hx := hC.1.1
  have hb := hC.1.2.1
  have hn : i < 600 := by have := hC.2.2.2.2.2.2; omega
  have h0 := lv_at hl 0 rfl
  have h4 := lv_at hl 4 rfl
  have hcp : cells ≤ 601024 ∧ slots ≤ 7293034 := by omega
  by_cases hz : xs (7 * i + 2) = 0
  · obtain ⟨r, u', v', e1, e2, hV'⟩ := c_mark hV hn (xs (7 * i + 1)) false
    refine lv_aload_n hx hb dL_law_1501 rfl (lv_at hl 1 rfl) ?_
    refine lz_arg (k := 1) hC h0 h4 hi (by decide) hI dL_law_1502 dL_law_1503 dL_law_1505 (by decide) dL_law_1506 dL_law_1507 ?_
    refine lz_arg (k := 2) hC h0 h4 hi (by decide) hI dL_law_1508 dL_law_1509 dL_law_1511 (by decide) dL_law_1512 dL_law_1513 ?_
    refine lv_if_eq (tgt := 1521) hx hb dL_law_1514 (by decide) (fun _ => ?_) (fun q => absurd hz q)
    refine lv_iconst (v := bI false) hx hb dL_law_1521 (by decide) ?_
    refine lz_vC (av := [.int (xs (7 * i + 1)), .int (bI false)]) (st := []) hC rfl (sOW_mark _ _ _ _ _ e1) rfl wML_195 hpyX9_mark hmyX9_mark ⟨Nat.le_of_ble_eq_true rfl, Nat.le_of_ble_eq_true rfl⟩ (Nat.le_of_ble_eq_true rfl) dL_law_1522 hl.1 hcp hI (fun H locs hI => ?_)
    show W p l e room_1 s m #[Value.ref sc] below meth c H locs cells slots Q (F0 m 1525 ls [.int r])
    refine lv_aload_n hx hb dL_law_1525 rfl (lv_at hl 2 rfl) ?_
    refine lz_arg (k := 1) hC h0 h4 hi (by decide) hI dL_law_1526 dL_law_1527 dL_law_1529 (by decide) dL_law_1530 dL_law_1531 ?_
    refine lz_arg (k := 2) hC h0 h4 hi (by decide) hI dL_law_1532 dL_law_1533 dL_law_1535 (by decide) dL_law_1536 dL_law_1537 ?_
    refine lv_if_eq (tgt := 1545) hx hb dL_law_1538 (by decide) (fun _ => ?_) (fun q => absurd hz q)
    refine lv_iconst (v := bI false) hx hb dL_law_1545 (by decide) ?_
    refine lz_vM (av := [.int (xs (7 * i + 1)), .int (bI false)]) (st := [.int r]) hC rfl (sMo_mark _ _ _ _ _ e2) rfl wML_199 hpyX10_mark hmyX10_mark ⟨Nat.le_of_ble_eq_true rfl, Nat.le_of_ble_eq_true rfl⟩ (Nat.le_of_ble_eq_true rfl) dL_law_1546 hl.1 hcp hI (fun H locs hI => ?_)
    show W p l e room_1 s m #[Value.ref sc] below meth c H locs cells slots Q (F0 m 1549 ls [.int r, .int r])
    refine lv_icmp_eq (tgt := 1579) hx hb dL_law_1549 (by decide) (fun _ => ?_) (fun q => absurd rfl q)
    exact W.widen (k := cells + 1) (n := slots + 6) (by omega) (by omega) (K _ _ _ _ _ _ hV' hI hl)
  · obtain ⟨r, u', v', e1, e2, hV'⟩ := c_mark hV hn (xs (7 * i + 1)) true
    refine lv_aload_n hx hb dL_law_1501 rfl (lv_at hl 1 rfl) ?_
    refine lz_arg (k := 1) hC h0 h4 hi (by decide) hI dL_law_1502 dL_law_1503 dL_law_1505 (by decide) dL_law_1506 dL_law_1507 ?_
    refine lz_arg (k := 2) hC h0 h4 hi (by decide) hI dL_law_1508 dL_law_1509 dL_law_1511 (by decide) dL_law_1512 dL_law_1513 ?_
    refine lv_if_eq (tgt := 1521) hx hb dL_law_1514 (by decide) (fun q => absurd q hz) (fun _ => ?_)
    refine lv_iconst (v := bI true) hx hb dL_law_1517 (by decide) ?_
    refine lv_goto (tgt := 1522) hx hb dL_law_1518 (by decide) ?_
    refine lz_vC (av := [.int (xs (7 * i + 1)), .int (bI true)]) (st := []) hC rfl (sOW_mark _ _ _ _ _ e1) rfl wML_195 hpyX9_mark hmyX9_mark ⟨Nat.le_of_ble_eq_true rfl, Nat.le_of_ble_eq_true rfl⟩ (Nat.le_of_ble_eq_true rfl) dL_law_1522 hl.1 hcp hI (fun H locs hI => ?_)
    show W p l e room_1 s m #[Value.ref sc] below meth c H locs cells slots Q (F0 m 1525 ls [.int r])
    refine lv_aload_n hx hb dL_law_1525 rfl (lv_at hl 2 rfl) ?_
    refine lz_arg (k := 1) hC h0 h4 hi (by decide) hI dL_law_1526 dL_law_1527 dL_law_1529 (by decide) dL_law_1530 dL_law_1531 ?_
    refine lz_arg (k := 2) hC h0 h4 hi (by decide) hI dL_law_1532 dL_law_1533 dL_law_1535 (by decide) dL_law_1536 dL_law_1537 ?_
    refine lv_if_eq (tgt := 1545) hx hb dL_law_1538 (by decide) (fun q => absurd q hz) (fun _ => ?_)
    refine lv_iconst (v := bI true) hx hb dL_law_1541 (by decide) ?_
    refine lv_goto (tgt := 1546) hx hb dL_law_1542 (by decide) ?_
    refine lz_vM (av := [.int (xs (7 * i + 1)), .int (bI true)]) (st := [.int r]) hC rfl (sMo_mark _ _ _ _ _ e2) rfl wML_199 hpyX10_mark hmyX10_mark ⟨Nat.le_of_ble_eq_true rfl, Nat.le_of_ble_eq_true rfl⟩ (Nat.le_of_ble_eq_true rfl) dL_law_1546 hl.1 hcp hI (fun H locs hI => ?_)
    show W p l e room_1 s m #[Value.ref sc] below meth c H locs cells slots Q (F0 m 1549 ls [.int r, .int r])
    refine lv_icmp_eq (tgt := 1579) hx hb dL_law_1549 (by decide) (fun _ => ?_) (fun q => absurd rfl q)
    exact W.widen (k := cells + 1) (n := slots + 6) (by omega) (by omega) (K _ _ _ _ _ _ hV' hI hl)
set_option maxHeartbeats 2000000 in
theorem lw_c41 (hC : lzC p l s m meth c D B sc L xs) (hi : 7 * i + 7 ≤ L) (hcap : cells + 1 ≤ 601024 ∧ slots + 6 ≤ 7293034) (K : lwK p l e s m below meth c D B sc cells slots Q i) (hV : Inv i u v) (hI : lzI D B s u v x H locs) (hl : lv_has ls 7 (lvL sc B i)) : W p l e room_1 s m #[Value.ref sc] below meth c H locs cells slots Q (F0 m 1554 ls []) := by
  have hx := hC.1.1
  have hb := hC.1.2.1
  have hn : i < 600 := by have := hC.2.2.2.2.2.2; omega
  have h0 := lv_at hl 0 rfl
  have h4 := lv_at hl 4 rfl
  have hcp : cells ≤ 601024 ∧ slots ≤ 7293034 := by omega
  obtain ⟨r, u', v', e1, e2, hV'⟩ := c_count hV hn (xs (7 * i + 1))
  refine lv_aload_n hx hb dL_law_1554 rfl (lv_at hl 1 rfl) ?_
  refine lz_arg (k := 1) hC h0 h4 hi (by decide) hI dL_law_1555 dL_law_1556 dL_law_1558 (by decide) dL_law_1559 dL_law_1560 ?_
  refine lz_vC (av := [.int (xs (7 * i + 1))]) (st := []) hC rfl (sOW_count _ _ _ _ e1) rfl wML_200 hpyX9_count hmyX9_count ⟨Nat.le_of_ble_eq_true rfl, Nat.le_of_ble_eq_true rfl⟩ (Nat.le_of_ble_eq_true rfl) dL_law_1561 hl.1 hcp hI (fun H locs hI => ?_)
  show W p l e room_1 s m #[Value.ref sc] below meth c H locs cells slots Q (F0 m 1564 ls [.int r])
  refine lv_aload_n hx hb dL_law_1564 rfl (lv_at hl 2 rfl) ?_
  refine lz_arg (k := 1) hC h0 h4 hi (by decide) hI dL_law_1565 dL_law_1566 dL_law_1568 (by decide) dL_law_1569 dL_law_1570 ?_
  refine lz_vM (av := [.int (xs (7 * i + 1))]) (st := [.int r]) hC rfl (sMo_count _ _ _ _ e2) rfl wML_203 hpyX10_count hmyX10_count ⟨Nat.le_of_ble_eq_true rfl, Nat.le_of_ble_eq_true rfl⟩ (Nat.le_of_ble_eq_true rfl) dL_law_1571 hl.1 hcp hI (fun H locs hI => ?_)
  show W p l e room_1 s m #[Value.ref sc] below meth c H locs cells slots Q (F0 m 1574 ls [.int r, .int r])
  refine lv_icmp_eq (tgt := 1579) hx hb dL_law_1574 (by decide) (fun _ => ?_) (fun q => absurd rfl q)
  exact W.widen (k := cells + 1) (n := slots + 6) (by omega) (by omega) (K _ _ _ _ _ _ hV' hI hl)
end LW
