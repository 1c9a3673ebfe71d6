section LAW
variable {p : Program} {l : Launch} {e : Env} {s : State} {m : MethodId} {b L : Nat} {xs : Nat → Int32} {below : List Frame} {meth : Method} {c : Code} {D : va_G} {kI kA : ClassId} {ad : CI → Nat} {σ : St} {i : Nat} {H : Heap} {locs : List Loc} {ls : Array Slot}
theorem law_0 (h : LwS p l e s m b L xs below meth c D kI kA ad σ i H locs ls) (kk : LwK p l e s m b L xs below meth c D kI kA ad i ls) : W p l e room_1 s m #[Value.ref b] below meth c H locs 200 20000 (lw_Z below #[Value.ref b] s) (F0 m 248 ls []) := by
  obtain ⟨C, hX, hbl, hr, hlk, hL, hi, hR, hP, hD, hS, hl⟩ := id h
  obtain ⟨r, σ1, σ2, e1, e2, h2⟩ := op_row (n := 5000) (xs (i + 1)) (xs (i + 2)) (by decide) hR
  refine lv_aload_n C.1 C.2.1 dw_248 rfl (lv_at hl 2 rfl) ?_
  refine lw_ld (k := 1) C hX hbl (Nat.not_le.mpr hbl) hL hi hl hS dw_249 dw_250 dw_251 dw_252 dw_253 (by decide) (by omega) ?_
  refine lw_ld (k := 2) C hX hbl (Nat.not_le.mpr hbl) hL hi hl hS dw_254 dw_255 dw_256 dw_257 dw_258 (by decide) (by omega) ?_
  refine L_call (md' := md_Tent_row) (as := [mR 0 0, mI (xs (i + 1)), mI (xs (i + 2))]) (rest := []) (σ := σ) (σ1 := σ1) (r := some (mI r)) (d' := 4) C dw_259 (ckV (nn := 2) lk_7_13 ok_Tent_row rfl rfl rfl) (c_Tent_row (hF := e1)) (Nat.le_of_ble_eq_true rfl) ⟨by show 4 + 1 ≤ 2048; decide, by show 8 + (3 + 11) + 64 * 4 ≤ 84000; decide⟩ ⟨by decide, by decide⟩ hl.1 (vaN inM0 [xs (i + 1), xs (i + 2)]) hP hD hS (fun H locs hP hD hS => ?_)
  refine W.eq (g2 := F0 m 262 ls [.int r]) rfl ?_
  refine lv_aload_n C.1 C.2.1 dw_262 rfl (lv_at hl 1 rfl) ?_
  refine lw_ld (k := 1) C hX hbl (Nat.not_le.mpr hbl) hL hi hl hS dw_263 dw_264 dw_265 dw_266 dw_267 (by decide) (by omega) ?_
  refine lw_ld (k := 2) C hX hbl (Nat.not_le.mpr hbl) hL hi hl hS dw_268 dw_269 dw_270 dw_271 dw_272 (by decide) (by omega) ?_
  refine L_call (md' := md_Mod_row) (as := [mR 30 0, mI (xs (i + 1)), mI (xs (i + 2))]) (rest := [mI r]) (σ := σ1) (σ1 := σ2) (r := some (mI r)) (d' := 2) C dw_273 (ckV (nn := 2) lk_7_17 ok_Mod_row rfl rfl rfl) (c_Mod_row (hF := e2)) (Nat.le_of_ble_eq_true rfl) ⟨by show 2 + 1 ≤ 2048; decide, by show 8 + (3 + 11) + 64 * 2 ≤ 84000; decide⟩ ⟨by decide, by decide⟩ hl.1 (vaN inM30 [xs (i + 1), xs (i + 2)]) hP hD hS (fun H locs hP hD hS => ?_)
  refine W.eq (g2 := F0 m 276 ls [.int r, .int r]) rfl ?_
  refine lv_icmp_eq (tgt := 1501) C.1 C.2.1 dw_276 (by decide) (fun _ => ?_) (fun h => absurd rfl h)
  exact kk σ2 H locs h2 hP hD hS
theorem law_1 (h : LwS p l e s m b L xs below meth c D kI kA ad σ i H locs ls) (kk : LwK p l e s m b L xs below meth c D kI kA ad i ls) : W p l e room_1 s m #[Value.ref b] below meth c H locs 200 20000 (lw_Z below #[Value.ref b] s) (F0 m 281 ls []) := by
  obtain ⟨C, hX, hbl, hr, hlk, hL, hi, hR, hP, hD, hS, hl⟩ := id h
  obtain ⟨r, σ1, σ2, e1, e2, h2⟩ := op_lay  (xs (i + 1)) (xs (i + 2)) (xs (i + 3))  hR
  refine lv_aload_n C.1 C.2.1 dw_281 rfl (lv_at hl 2 rfl) ?_
  refine lw_ld (k := 1) C hX hbl (Nat.not_le.mpr hbl) hL hi hl hS dw_282 dw_283 dw_284 dw_285 dw_286 (by decide) (by omega) ?_
  refine lw_ld (k := 2) C hX hbl (Nat.not_le.mpr hbl) hL hi hl hS dw_287 dw_288 dw_289 dw_290 dw_291 (by decide) (by omega) ?_
  refine lw_ld (k := 3) C hX hbl (Nat.not_le.mpr hbl) hL hi hl hS dw_292 dw_293 dw_294 dw_295 dw_296 (by decide) (by omega) ?_
  refine L_call (md' := md_Tent_lay) (as := [mR 0 0, mI (xs (i + 1)), mI (xs (i + 2)), mI (xs (i + 3))]) (rest := []) (σ := σ) (σ1 := σ1) (r := some (mI r)) (d' := 5) C dw_297 (ckV (nn := 3) lk_7_18 ok_Tent_lay rfl rfl rfl) (c_Tent_lay (hF := e1)) (Nat.le_of_ble_eq_true rfl) ⟨by show 5 + 1 ≤ 2048; decide, by show 8 + (5 + 11) + 64 * 5 ≤ 84000; decide⟩ ⟨by decide, by decide⟩ hl.1 (vaN inM0 [xs (i + 1), xs (i + 2), xs (i + 3)]) hP hD hS (fun H locs hP hD hS => ?_)
  refine W.eq (g2 := F0 m 300 ls [.int r]) rfl ?_
  refine lv_aload_n C.1 C.2.1 dw_300 rfl (lv_at hl 1 rfl) ?_
  refine lw_ld (k := 1) C hX hbl (Nat.not_le.mpr hbl) hL hi hl hS dw_301 dw_302 dw_303 dw_304 dw_305 (by decide) (by omega) ?_
  refine lw_ld (k := 2) C hX hbl (Nat.not_le.mpr hbl) hL hi hl hS dw_306 dw_307 dw_308 dw_309 dw_310 (by decide) (by omega) ?_
  refine lw_ld (k := 3) C hX hbl (Nat.not_le.mpr hbl) hL hi hl hS dw_311 dw_312 dw_313 dw_314 dw_315 (by decide) (by omega) ?_
  refine L_call (md' := md_Mod_lay) (as := [mR 30 0, mI (xs (i + 1)), mI (xs (i + 2)), mI (xs (i + 3))]) (rest := [mI r]) (σ := σ1) (σ1 := σ2) (r := some (mI r)) (d' := 3) C dw_316 (ckV (nn := 3) lk_7_22 ok_Mod_lay rfl rfl rfl) (c_Mod_lay (hF := e2)) (Nat.le_of_ble_eq_true rfl) ⟨by show 3 + 1 ≤ 2048; decide, by show 8 + (6 + 11) + 64 * 3 ≤ 84000; decide⟩ ⟨by decide, by decide⟩ hl.1 (vaN inM30 [xs (i + 1), xs (i + 2), xs (i + 3)]) hP hD hS (fun H locs hP hD hS => ?_)
  refine W.eq (g2 := F0 m 319 ls [.int r, .int r]) rfl ?_
  refine lv_icmp_eq (tgt := 1501) C.1 C.2.1 dw_319 (by decide) (fun _ => ?_) (fun h => absurd rfl h)
  exact kk σ2 H locs h2 hP hD hS
theorem law_2 (h : LwS p l e s m b L xs below meth c D kI kA ad σ i H locs ls) (kk : LwK p l e s m b L xs below meth c D kI kA ad i ls) : W p l e room_1 s m #[Value.ref b] below meth c H locs 200 20000 (lw_Z below #[Value.ref b] s) (F0 m 324 ls []) := by
  obtain ⟨C, hX, hbl, hr, hlk, hL, hi, hR, hP, hD, hS, hl⟩ := id h
  obtain ⟨r, σ1, σ2, e1, e2, h2⟩ := op_at  (xs (i + 1)) (xs (i + 2))  hR
  refine lv_aload_n C.1 C.2.1 dw_324 rfl (lv_at hl 2 rfl) ?_
  refine lw_ld (k := 1) C hX hbl (Nat.not_le.mpr hbl) hL hi hl hS dw_325 dw_326 dw_327 dw_328 dw_329 (by decide) (by omega) ?_
  refine lw_ld (k := 2) C hX hbl (Nat.not_le.mpr hbl) hL hi hl hS dw_330 dw_331 dw_332 dw_333 dw_334 (by decide) (by omega) ?_
  refine L_call (md' := md_Tent_at) (as := [mR 0 0, mI (xs (i + 1)), mI (xs (i + 2))]) (rest := []) (σ := σ) (σ1 := σ1) (r := some (mI r)) (d' := 5) C dw_335 (ckV (nn := 2) lk_7_23 ok_Tent_at rfl rfl rfl) (c_Tent_at (hF := e1)) (Nat.le_of_ble_eq_true rfl) ⟨by show 5 + 1 ≤ 2048; decide, by show 8 + (4 + 11) + 64 * 5 ≤ 84000; decide⟩ ⟨by decide, by decide⟩ hl.1 (vaN inM0 [xs (i + 1), xs (i + 2)]) hP hD hS (fun H locs hP hD hS => ?_)
  refine W.eq (g2 := F0 m 338 ls [.int r]) rfl ?_
  refine lv_aload_n C.1 C.2.1 dw_338 rfl (lv_at hl 1 rfl) ?_
  refine lw_ld (k := 1) C hX hbl (Nat.not_le.mpr hbl) hL hi hl hS dw_339 dw_340 dw_341 dw_342 dw_343 (by decide) (by omega) ?_
  refine lw_ld (k := 2) C hX hbl (Nat.not_le.mpr hbl) hL hi hl hS dw_344 dw_345 dw_346 dw_347 dw_348 (by decide) (by omega) ?_
  refine L_call (md' := md_Mod_at) (as := [mR 30 0, mI (xs (i + 1)), mI (xs (i + 2))]) (rest := [mI r]) (σ := σ1) (σ1 := σ2) (r := some (mI r)) (d' := 3) C dw_349 (ckV (nn := 2) lk_7_26 ok_Mod_at rfl rfl rfl) (c_Mod_at (hF := e2)) (Nat.le_of_ble_eq_true rfl) ⟨by show 3 + 1 ≤ 2048; decide, by show 8 + (4 + 11) + 64 * 3 ≤ 84000; decide⟩ ⟨by decide, by decide⟩ hl.1 (vaN inM30 [xs (i + 1), xs (i + 2)]) hP hD hS (fun H locs hP hD hS => ?_)
  refine W.eq (g2 := F0 m 352 ls [.int r, .int r]) rfl ?_
  refine lv_icmp_eq (tgt := 1501) C.1 C.2.1 dw_352 (by decide) (fun _ => ?_) (fun h => absurd rfl h)
  exact kk σ2 H locs h2 hP hD hS
theorem law_3 (h : LwS p l e s m b L xs below meth c D kI kA ad σ i H locs ls) (kk : LwK p l e s m b L xs below meth c D kI kA ad i ls) : W p l e room_1 s m #[Value.ref b] below meth c H locs 200 20000 (lw_Z below #[Value.ref b] s) (F0 m 357 ls []) := by
  obtain ⟨C, hX, hbl, hr, hlk, hL, hi, hR, hP, hD, hS, hl⟩ := id h
  obtain ⟨r, σ1, σ2, e1, e2, h2⟩ := op_tear  (xs (i + 1))  hR
  refine lv_aload_n C.1 C.2.1 dw_357 rfl (lv_at hl 2 rfl) ?_
  refine lw_ld (k := 1) C hX hbl (Nat.not_le.mpr hbl) hL hi hl hS dw_358 dw_359 dw_360 dw_361 dw_362 (by decide) (by omega) ?_
  refine L_call (md' := md_Tent_tear) (as := [mR 0 0, mI (xs (i + 1))]) (rest := []) (σ := σ) (σ1 := σ1) (r := some (mI r)) (d' := 4) C dw_363 (ckV (nn := 1) lk_7_27 ok_Tent_tear rfl rfl rfl) (c_Tent_tear (hF := e1)) (Nat.le_of_ble_eq_true rfl) ⟨by show 4 + 1 ≤ 2048; decide, by show 8 + (3 + 11) + 64 * 4 ≤ 84000; decide⟩ ⟨by decide, by decide⟩ hl.1 (vaN inM0 [xs (i + 1)]) hP hD hS (fun H locs hP hD hS => ?_)
  refine W.eq (g2 := F0 m 366 ls [.int r]) rfl ?_
  refine lv_aload_n C.1 C.2.1 dw_366 rfl (lv_at hl 1 rfl) ?_
  refine lw_ld (k := 1) C hX hbl (Nat.not_le.mpr hbl) hL hi hl hS dw_367 dw_368 dw_369 dw_370 dw_371 (by decide) (by omega) ?_
  refine L_call (md' := md_Mod_tear) (as := [mR 30 0, mI (xs (i + 1))]) (rest := [mI r]) (σ := σ1) (σ1 := σ2) (r := some (mI r)) (d' := 2) C dw_372 (ckV (nn := 1) lk_7_31 ok_Mod_tear rfl rfl rfl) (c_Mod_tear (hF := e2)) (Nat.le_of_ble_eq_true rfl) ⟨by show 2 + 1 ≤ 2048; decide, by show 8 + (2 + 11) + 64 * 2 ≤ 84000; decide⟩ ⟨by decide, by decide⟩ hl.1 (vaN inM30 [xs (i + 1)]) hP hD hS (fun H locs hP hD hS => ?_)
  refine W.eq (g2 := F0 m 375 ls [.int r, .int r]) rfl ?_
  refine lv_icmp_eq (tgt := 1501) C.1 C.2.1 dw_375 (by decide) (fun _ => ?_) (fun h => absurd rfl h)
  exact kk σ2 H locs h2 hP hD hS
theorem law_4 (h : LwS p l e s m b L xs below meth c D kI kA ad σ i H locs ls) (kk : LwK p l e s m b L xs below meth c D kI kA ad i ls) : W p l e room_1 s m #[Value.ref b] below meth c H locs 200 20000 (lw_Z below #[Value.ref b] s) (F0 m 380 ls []) := by
  obtain ⟨C, hX, hbl, hr, hlk, hL, hi, hR, hP, hD, hS, hl⟩ := id h
  obtain ⟨r, σ1, σ2, e1, e2, h2⟩ := op_copy (n := 5000) (xs (i + 1)) (xs (i + 2)) (xs (i + 3)) (xs (i + 4)) (xs (i + 5)) (by decide) hR
  refine lv_aload_n C.1 C.2.1 dw_380 rfl (lv_at hl 2 rfl) ?_
  refine lw_ld (k := 1) C hX hbl (Nat.not_le.mpr hbl) hL hi hl hS dw_381 dw_382 dw_383 dw_384 dw_385 (by decide) (by omega) ?_
  refine lw_ld (k := 2) C hX hbl (Nat.not_le.mpr hbl) hL hi hl hS dw_386 dw_387 dw_388 dw_389 dw_390 (by decide) (by omega) ?_
  refine lw_ld (k := 3) C hX hbl (Nat.not_le.mpr hbl) hL hi hl hS dw_391 dw_392 dw_393 dw_394 dw_395 (by decide) (by omega) ?_
  refine lw_ld (k := 4) C hX hbl (Nat.not_le.mpr hbl) hL hi hl hS dw_396 dw_397 dw_398 dw_399 dw_400 (by decide) (by omega) ?_
  refine lw_ld (k := 5) C hX hbl (Nat.not_le.mpr hbl) hL hi hl hS dw_401 dw_402 dw_403 dw_404 dw_405 (by decide) (by omega) ?_
  refine L_call (md' := md_Tent_copy) (as := [mR 0 0, mI (xs (i + 1)), mI (xs (i + 2)), mI (xs (i + 3)), mI (xs (i + 4)), mI (xs (i + 5))]) (rest := []) (σ := σ) (σ1 := σ1) (r := some (mI r)) (d' := 4) C dw_406 (ckV (nn := 5) lk_7_32 ok_Tent_copy rfl rfl rfl) (c_Tent_copy (hF := e1)) (Nat.le_of_ble_eq_true rfl) ⟨by show 4 + 1 ≤ 2048; decide, by show 8 + (6 + 11) + 64 * 4 ≤ 84000; decide⟩ ⟨by decide, by decide⟩ hl.1 (vaN inM0 [xs (i + 1), xs (i + 2), xs (i + 3), xs (i + 4), xs (i + 5)]) hP hD hS (fun H locs hP hD hS => ?_)
  refine W.eq (g2 := F0 m 409 ls [.int r]) rfl ?_
  refine lv_aload_n C.1 C.2.1 dw_409 rfl (lv_at hl 1 rfl) ?_
  refine lw_ld (k := 1) C hX hbl (Nat.not_le.mpr hbl) hL hi hl hS dw_410 dw_411 dw_412 dw_413 dw_414 (by decide) (by omega) ?_
  refine lw_ld (k := 2) C hX hbl (Nat.not_le.mpr hbl) hL hi hl hS dw_415 dw_416 dw_417 dw_418 dw_419 (by decide) (by omega) ?_
  refine lw_ld (k := 3) C hX hbl (Nat.not_le.mpr hbl) hL hi hl hS dw_420 dw_421 dw_422 dw_423 dw_424 (by decide) (by omega) ?_
  refine lw_ld (k := 4) C hX hbl (Nat.not_le.mpr hbl) hL hi hl hS dw_425 dw_426 dw_427 dw_428 dw_429 (by decide) (by omega) ?_
  refine lw_ld (k := 5) C hX hbl (Nat.not_le.mpr hbl) hL hi hl hS dw_430 dw_431 dw_432 dw_433 dw_434 (by decide) (by omega) ?_
  refine L_call (md' := md_Mod_copy) (as := [mR 30 0, mI (xs (i + 1)), mI (xs (i + 2)), mI (xs (i + 3)), mI (xs (i + 4)), mI (xs (i + 5))]) (rest := [mI r]) (σ := σ1) (σ1 := σ2) (r := some (mI r)) (d' := 2) C dw_435 (ckV (nn := 5) lk_7_36 ok_Mod_copy rfl rfl rfl) (c_Mod_copy (hF := e2)) (Nat.le_of_ble_eq_true rfl) ⟨by show 2 + 1 ≤ 2048; decide, by show 8 + (9 + 11) + 64 * 2 ≤ 84000; decide⟩ ⟨by decide, by decide⟩ hl.1 (vaN inM30 [xs (i + 1), xs (i + 2), xs (i + 3), xs (i + 4), xs (i + 5)]) hP hD hS (fun H locs hP hD hS => ?_)
  refine W.eq (g2 := F0 m 438 ls [.int r, .int r]) rfl ?_
  refine lv_icmp_eq (tgt := 1501) C.1 C.2.1 dw_438 (by decide) (fun _ => ?_) (fun h => absurd rfl h)
  exact kk σ2 H locs h2 hP hD hS
theorem law_5 (h : LwS p l e s m b L xs below meth c D kI kA ad σ i H locs ls) (kk : LwK p l e s m b L xs below meth c D kI kA ad i ls) : W p l e room_1 s m #[Value.ref b] below meth c H locs 200 20000 (lw_Z below #[Value.ref b] s) (F0 m 443 ls []) := by
  obtain ⟨C, hX, hbl, hr, hlk, hL, hi, hR, hP, hD, hS, hl⟩ := id h
  obtain ⟨r, σ1, σ2, e1, e2, h2⟩ := op_mean (n := 5000) (xs (i + 1)) (by decide) hR
  refine lv_aload_n C.1 C.2.1 dw_443 rfl (lv_at hl 2 rfl) ?_
  refine lw_ld (k := 1) C hX hbl (Nat.not_le.mpr hbl) hL hi hl hS dw_444 dw_445 dw_446 dw_447 dw_448 (by decide) (by omega) ?_
  refine L_call (md' := md_Tent_mean) (as := [mR 0 0, mI (xs (i + 1))]) (rest := []) (σ := σ) (σ1 := σ1) (r := some (mI r)) (d' := 5) C dw_449 (ckV (nn := 1) lk_7_37 ok_Tent_mean rfl rfl rfl) (c_Tent_mean (hF := e1)) (Nat.le_of_ble_eq_true rfl) ⟨by show 5 + 1 ≤ 2048; decide, by show 8 + (4 + 11) + 64 * 5 ≤ 84000; decide⟩ ⟨by decide, by decide⟩ hl.1 (vaN inM0 [xs (i + 1)]) hP hD hS (fun H locs hP hD hS => ?_)
  refine W.eq (g2 := F0 m 452 ls [.int r]) rfl ?_
  refine lv_aload_n C.1 C.2.1 dw_452 rfl (lv_at hl 1 rfl) ?_
  refine lw_ld (k := 1) C hX hbl (Nat.not_le.mpr hbl) hL hi hl hS dw_453 dw_454 dw_455 dw_456 dw_457 (by decide) (by omega) ?_
  refine L_call (md' := md_Mod_mean) (as := [mR 30 0, mI (xs (i + 1))]) (rest := [mI r]) (σ := σ1) (σ1 := σ2) (r := some (mI r)) (d' := 2) C dw_458 (ckV (nn := 1) lk_7_40 ok_Mod_mean rfl rfl rfl) (c_Mod_mean (hF := e2)) (Nat.le_of_ble_eq_true rfl) ⟨by show 2 + 1 ≤ 2048; decide, by show 8 + (5 + 11) + 64 * 2 ≤ 84000; decide⟩ ⟨by decide, by decide⟩ hl.1 (vaN inM30 [xs (i + 1)]) hP hD hS (fun H locs hP hD hS => ?_)
  refine W.eq (g2 := F0 m 461 ls [.int r, .int r]) rfl ?_
  refine lv_icmp_eq (tgt := 1501) C.1 C.2.1 dw_461 (by decide) (fun _ => ?_) (fun h => absurd rfl h)
  exact kk σ2 H locs h2 hP hD hS
theorem law_6 (h : LwS p l e s m b L xs below meth c D kI kA ad σ i H locs ls) (kk : LwK p l e s m b L xs below meth c D kI kA ad i ls) : W p l e room_1 s m #[Value.ref b] below meth c H locs 200 20000 (lw_Z below #[Value.ref b] s) (F0 m 466 ls []) := by
  obtain ⟨C, hX, hbl, hr, hlk, hL, hi, hR, hP, hD, hS, hl⟩ := id h
  obtain ⟨r, σ1, σ2, e1, e2, h2⟩ := op_text (n := 5000) (xs (i + 1)) (xs (i + 2)) (by decide) hR
  refine lv_aload_n C.1 C.2.1 dw_466 rfl (lv_at hl 2 rfl) ?_
  refine lw_ld (k := 1) C hX hbl (Nat.not_le.mpr hbl) hL hi hl hS dw_467 dw_468 dw_469 dw_470 dw_471 (by decide) (by omega) ?_
  refine lw_ld (k := 2) C hX hbl (Nat.not_le.mpr hbl) hL hi hl hS dw_472 dw_473 dw_474 dw_475 dw_476 (by decide) (by omega) ?_
  refine L_call (md' := md_Tent_text) (as := [mR 0 0, mI (xs (i + 1)), mI (xs (i + 2))]) (rest := []) (σ := σ) (σ1 := σ1) (r := some (mI r)) (d' := 4) C dw_477 (ckV (nn := 2) lk_7_41 ok_Tent_text rfl rfl rfl) (c_Tent_text (hF := e1)) (Nat.le_of_ble_eq_true rfl) ⟨by show 4 + 1 ≤ 2048; decide, by show 8 + (3 + 11) + 64 * 4 ≤ 84000; decide⟩ ⟨by decide, by decide⟩ hl.1 (vaN inM0 [xs (i + 1), xs (i + 2)]) hP hD hS (fun H locs hP hD hS => ?_)
  refine W.eq (g2 := F0 m 480 ls [.int r]) rfl ?_
  refine lv_aload_n C.1 C.2.1 dw_480 rfl (lv_at hl 1 rfl) ?_
  refine lw_ld (k := 1) C hX hbl (Nat.not_le.mpr hbl) hL hi hl hS dw_481 dw_482 dw_483 dw_484 dw_485 (by decide) (by omega) ?_
  refine lw_ld (k := 2) C hX hbl (Nat.not_le.mpr hbl) hL hi hl hS dw_486 dw_487 dw_488 dw_489 dw_490 (by decide) (by omega) ?_
  refine L_call (md' := md_Mod_text) (as := [mR 30 0, mI (xs (i + 1)), mI (xs (i + 2))]) (rest := [mI r]) (σ := σ1) (σ1 := σ2) (r := some (mI r)) (d' := 2) C dw_491 (ckV (nn := 2) lk_7_44 ok_Mod_text rfl rfl rfl) (c_Mod_text (hF := e2)) (Nat.le_of_ble_eq_true rfl) ⟨by show 2 + 1 ≤ 2048; decide, by show 8 + (4 + 11) + 64 * 2 ≤ 84000; decide⟩ ⟨by decide, by decide⟩ hl.1 (vaN inM30 [xs (i + 1), xs (i + 2)]) hP hD hS (fun H locs hP hD hS => ?_)
  refine W.eq (g2 := F0 m 494 ls [.int r, .int r]) rfl ?_
  refine lv_icmp_eq (tgt := 1501) C.1 C.2.1 dw_494 (by decide) (fun _ => ?_) (fun h => absurd rfl h)
  exact kk σ2 H locs h2 hP hD hS
theorem law_7 (h : LwS p l e s m b L xs below meth c D kI kA ad σ i H locs ls) (kk : LwK p l e s m b L xs below meth c D kI kA ad i ls) : W p l e room_1 s m #[Value.ref b] below meth c H locs 200 20000 (lw_Z below #[Value.ref b] s) (F0 m 499 ls []) := by
  obtain ⟨C, hX, hbl, hr, hlk, hL, hi, hR, hP, hD, hS, hl⟩ := id h
  obtain ⟨r, σ1, σ2, e1, e2, h2⟩ := op_put  (xs (i + 1)) (xs (i + 2)) (xs (i + 3))  hR
  refine lv_aload_n C.1 C.2.1 dw_499 rfl (lv_at hl 2 rfl) ?_
  refine lw_ld (k := 1) C hX hbl (Nat.not_le.mpr hbl) hL hi hl hS dw_500 dw_501 dw_502 dw_503 dw_504 (by decide) (by omega) ?_
  refine lw_ld (k := 2) C hX hbl (Nat.not_le.mpr hbl) hL hi hl hS dw_505 dw_506 dw_507 dw_508 dw_509 (by decide) (by omega) ?_
  refine lw_ld (k := 3) C hX hbl (Nat.not_le.mpr hbl) hL hi hl hS dw_510 dw_511 dw_512 dw_513 dw_514 (by decide) (by omega) ?_
  refine L_call (md' := md_Tent_put) (as := [mR 0 0, mI (xs (i + 1)), mI (xs (i + 2)), mI (xs (i + 3))]) (rest := []) (σ := σ) (σ1 := σ1) (r := some (mI r)) (d' := 5) C dw_515 (ckV (nn := 3) lk_7_45 ok_Tent_put rfl rfl rfl) (c_Tent_put (hF := e1)) (Nat.le_of_ble_eq_true rfl) ⟨by show 5 + 1 ≤ 2048; decide, by show 8 + (6 + 11) + 64 * 5 ≤ 84000; decide⟩ ⟨by decide, by decide⟩ hl.1 (vaN inM0 [xs (i + 1), xs (i + 2), xs (i + 3)]) hP hD hS (fun H locs hP hD hS => ?_)
  refine W.eq (g2 := F0 m 518 ls [.int r]) rfl ?_
  refine lv_aload_n C.1 C.2.1 dw_518 rfl (lv_at hl 1 rfl) ?_
  refine lw_ld (k := 1) C hX hbl (Nat.not_le.mpr hbl) hL hi hl hS dw_519 dw_520 dw_521 dw_522 dw_523 (by decide) (by omega) ?_
  refine lw_ld (k := 2) C hX hbl (Nat.not_le.mpr hbl) hL hi hl hS dw_524 dw_525 dw_526 dw_527 dw_528 (by decide) (by omega) ?_
  refine lw_ld (k := 3) C hX hbl (Nat.not_le.mpr hbl) hL hi hl hS dw_529 dw_530 dw_531 dw_532 dw_533 (by decide) (by omega) ?_
  refine L_call (md' := md_Mod_put) (as := [mR 30 0, mI (xs (i + 1)), mI (xs (i + 2)), mI (xs (i + 3))]) (rest := [mI r]) (σ := σ1) (σ1 := σ2) (r := some (mI r)) (d' := 2) C dw_534 (ckV (nn := 3) lk_7_48 ok_Mod_put rfl rfl rfl) (c_Mod_put (hF := e2)) (Nat.le_of_ble_eq_true rfl) ⟨by show 2 + 1 ≤ 2048; decide, by show 8 + (5 + 11) + 64 * 2 ≤ 84000; decide⟩ ⟨by decide, by decide⟩ hl.1 (vaN inM30 [xs (i + 1), xs (i + 2), xs (i + 3)]) hP hD hS (fun H locs hP hD hS => ?_)
  refine W.eq (g2 := F0 m 537 ls [.int r, .int r]) rfl ?_
  refine lv_icmp_eq (tgt := 1501) C.1 C.2.1 dw_537 (by decide) (fun _ => ?_) (fun h => absurd rfl h)
  exact kk σ2 H locs h2 hP hD hS
theorem law_8 (h : LwS p l e s m b L xs below meth c D kI kA ad σ i H locs ls) (kk : LwK p l e s m b L xs below meth c D kI kA ad i ls) : W p l e room_1 s m #[Value.ref b] below meth c H locs 200 20000 (lw_Z below #[Value.ref b] s) (F0 m 542 ls []) := by
  obtain ⟨C, hX, hbl, hr, hlk, hL, hi, hR, hP, hD, hS, hl⟩ := id h
  obtain ⟨r, σ1, σ2, e1, e2, h2⟩ := op_fault (n := 5000) (xs (i + 1)) (by decide) hR
  refine lv_aload_n C.1 C.2.1 dw_542 rfl (lv_at hl 2 rfl) ?_
  refine lw_ld (k := 1) C hX hbl (Nat.not_le.mpr hbl) hL hi hl hS dw_543 dw_544 dw_545 dw_546 dw_547 (by decide) (by omega) ?_
  refine L_call (md' := md_Tent_fault) (as := [mR 0 0, mI (xs (i + 1))]) (rest := []) (σ := σ) (σ1 := σ1) (r := some (mI r)) (d' := 6) C dw_548 (ckV (nn := 1) lk_7_49 ok_Tent_fault rfl rfl rfl) (c_Tent_fault (hF := e1)) (Nat.le_of_ble_eq_true rfl) ⟨by show 6 + 1 ≤ 2048; decide, by show 8 + (3 + 11) + 64 * 6 ≤ 84000; decide⟩ ⟨by decide, by decide⟩ hl.1 (vaN inM0 [xs (i + 1)]) hP hD hS (fun H locs hP hD hS => ?_)
  refine W.eq (g2 := F0 m 551 ls [.int r]) rfl ?_
  refine lv_aload_n C.1 C.2.1 dw_551 rfl (lv_at hl 1 rfl) ?_
  refine lw_ld (k := 1) C hX hbl (Nat.not_le.mpr hbl) hL hi hl hS dw_552 dw_553 dw_554 dw_555 dw_556 (by decide) (by omega) ?_
  refine L_call (md' := md_Mod_fault) (as := [mR 30 0, mI (xs (i + 1))]) (rest := [mI r]) (σ := σ1) (σ1 := σ2) (r := some (mI r)) (d' := 4) C dw_557 (ckV (nn := 1) lk_7_52 ok_Mod_fault rfl rfl rfl) (c_Mod_fault (hF := e2)) (Nat.le_of_ble_eq_true rfl) ⟨by show 4 + 1 ≤ 2048; decide, by show 8 + (2 + 11) + 64 * 4 ≤ 84000; decide⟩ ⟨by decide, by decide⟩ hl.1 (vaN inM30 [xs (i + 1)]) hP hD hS (fun H locs hP hD hS => ?_)
  refine W.eq (g2 := F0 m 560 ls [.int r, .int r]) rfl ?_
  refine lv_icmp_eq (tgt := 1501) C.1 C.2.1 dw_560 (by decide) (fun _ => ?_) (fun h => absurd rfl h)
  exact kk σ2 H locs h2 hP hD hS
theorem law_9 (h : LwS p l e s m b L xs below meth c D kI kA ad σ i H locs ls) (kk : LwK p l e s m b L xs below meth c D kI kA ad i ls) : W p l e room_1 s m #[Value.ref b] below meth c H locs 200 20000 (lw_Z below #[Value.ref b] s) (F0 m 565 ls []) := by
  obtain ⟨C, hX, hbl, hr, hlk, hL, hi, hR, hP, hD, hS, hl⟩ := id h
  obtain ⟨r, σ1, σ2, e1, e2, h2⟩ := op_tent (n := 5000) (xs (i + 1)) (by decide) hR
  refine lv_aload_n C.1 C.2.1 dw_565 rfl (lv_at hl 2 rfl) ?_
  refine lw_ld (k := 1) C hX hbl (Nat.not_le.mpr hbl) hL hi hl hS dw_566 dw_567 dw_568 dw_569 dw_570 (by decide) (by omega) ?_
  refine L_call (md' := md_Tent_tent) (as := [mR 0 0, mI (xs (i + 1))]) (rest := []) (σ := σ) (σ1 := σ1) (r := some (mI r)) (d' := 6) C dw_571 (ckV (nn := 1) lk_7_53 ok_Tent_tent rfl rfl rfl) (c_Tent_tent (hF := e1)) (Nat.le_of_ble_eq_true rfl) ⟨by show 6 + 1 ≤ 2048; decide, by show 8 + (4 + 11) + 64 * 6 ≤ 84000; decide⟩ ⟨by decide, by decide⟩ hl.1 (vaN inM0 [xs (i + 1)]) hP hD hS (fun H locs hP hD hS => ?_)
  refine W.eq (g2 := F0 m 574 ls [.int r]) rfl ?_
  refine lv_aload_n C.1 C.2.1 dw_574 rfl (lv_at hl 1 rfl) ?_
  refine lw_ld (k := 1) C hX hbl (Nat.not_le.mpr hbl) hL hi hl hS dw_575 dw_576 dw_577 dw_578 dw_579 (by decide) (by omega) ?_
  refine L_call (md' := md_Mod_tent) (as := [mR 30 0, mI (xs (i + 1))]) (rest := [mI r]) (σ := σ1) (σ1 := σ2) (r := some (mI r)) (d' := 4) C dw_580 (ckV (nn := 1) lk_7_56 ok_Mod_tent rfl rfl rfl) (c_Mod_tent (hF := e2)) (Nat.le_of_ble_eq_true rfl) ⟨by show 4 + 1 ≤ 2048; decide, by show 8 + (3 + 11) + 64 * 4 ≤ 84000; decide⟩ ⟨by decide, by decide⟩ hl.1 (vaN inM30 [xs (i + 1)]) hP hD hS (fun H locs hP hD hS => ?_)
  refine W.eq (g2 := F0 m 583 ls [.int r, .int r]) rfl ?_
  refine lv_icmp_eq (tgt := 1501) C.1 C.2.1 dw_583 (by decide) (fun _ => ?_) (fun h => absurd rfl h)
  exact kk σ2 H locs h2 hP hD hS
theorem law_10 (h : LwS p l e s m b L xs below meth c D kI kA ad σ i H locs ls) (kk : LwK p l e s m b L xs below meth c D kI kA ad i ls) : W p l e room_1 s m #[Value.ref b] below meth c H locs 200 20000 (lw_Z below #[Value.ref b] s) (F0 m 588 ls []) := by
  obtain ⟨C, hX, hbl, hr, hlk, hL, hi, hR, hP, hD, hS, hl⟩ := id h
  obtain ⟨r, σ1, σ2, e1, e2, h2⟩ := op_sleeper (n := 5000) (xs (i + 1)) (xs (i + 2)) (by decide) hR
  refine lv_aload_n C.1 C.2.1 dw_588 rfl (lv_at hl 2 rfl) ?_
  refine lw_ld (k := 1) C hX hbl (Nat.not_le.mpr hbl) hL hi hl hS dw_589 dw_590 dw_591 dw_592 dw_593 (by decide) (by omega) ?_
  refine lw_ld (k := 2) C hX hbl (Nat.not_le.mpr hbl) hL hi hl hS dw_594 dw_595 dw_596 dw_597 dw_598 (by decide) (by omega) ?_
  refine L_call (md' := md_Tent_sleeper) (as := [mR 0 0, mI (xs (i + 1)), mI (xs (i + 2))]) (rest := []) (σ := σ) (σ1 := σ1) (r := some (mI r)) (d' := 2) C dw_599 (ckV (nn := 2) lk_7_57 ok_Tent_sleeper rfl rfl rfl) (c_Tent_sleeper (hF := e1)) (Nat.le_of_ble_eq_true rfl) ⟨by show 2 + 1 ≤ 2048; decide, by show 8 + (3 + 11) + 64 * 2 ≤ 84000; decide⟩ ⟨by decide, by decide⟩ hl.1 (vaN inM0 [xs (i + 1), xs (i + 2)]) hP hD hS (fun H locs hP hD hS => ?_)
  refine W.eq (g2 := F0 m 602 ls [.int r]) rfl ?_
  refine lv_aload_n C.1 C.2.1 dw_602 rfl (lv_at hl 1 rfl) ?_
  refine lw_ld (k := 1) C hX hbl (Nat.not_le.mpr hbl) hL hi hl hS dw_603 dw_604 dw_605 dw_606 dw_607 (by decide) (by omega) ?_
  refine lw_ld (k := 2) C hX hbl (Nat.not_le.mpr hbl) hL hi hl hS dw_608 dw_609 dw_610 dw_611 dw_612 (by decide) (by omega) ?_
  refine L_call (md' := md_Mod_sleeper) (as := [mR 30 0, mI (xs (i + 1)), mI (xs (i + 2))]) (rest := [mI r]) (σ := σ1) (σ1 := σ2) (r := some (mI r)) (d' := 3) C dw_613 (ckV (nn := 2) lk_7_60 ok_Mod_sleeper rfl rfl rfl) (c_Mod_sleeper (hF := e2)) (Nat.le_of_ble_eq_true rfl) ⟨by show 3 + 1 ≤ 2048; decide, by show 8 + (3 + 11) + 64 * 3 ≤ 84000; decide⟩ ⟨by decide, by decide⟩ hl.1 (vaN inM30 [xs (i + 1), xs (i + 2)]) hP hD hS (fun H locs hP hD hS => ?_)
  refine W.eq (g2 := F0 m 616 ls [.int r, .int r]) rfl ?_
  refine lv_icmp_eq (tgt := 1501) C.1 C.2.1 dw_616 (by decide) (fun _ => ?_) (fun h => absurd rfl h)
  exact kk σ2 H locs h2 hP hD hS
theorem law_11 (h : LwS p l e s m b L xs below meth c D kI kA ad σ i H locs ls) (kk : LwK p l e s m b L xs below meth c D kI kA ad i ls) : W p l e room_1 s m #[Value.ref b] below meth c H locs 200 20000 (lw_Z below #[Value.ref b] s) (F0 m 621 ls []) := by
  obtain ⟨C, hX, hbl, hr, hlk, hL, hi, hR, hP, hD, hS, hl⟩ := id h
  obtain ⟨r, σ1, σ2, e1, e2, h2⟩ := op_mark (n := 5000) (xs (i + 1)) (xs (i + 2)) (by decide) hR
  refine lv_aload_n C.1 C.2.1 dw_621 rfl (lv_at hl 2 rfl) ?_
  refine lw_ld (k := 1) C hX hbl (Nat.not_le.mpr hbl) hL hi hl hS dw_622 dw_623 dw_624 dw_625 dw_626 (by decide) (by omega) ?_
  refine lw_ld (k := 2) C hX hbl (Nat.not_le.mpr hbl) hL hi hl hS dw_627 dw_628 dw_629 dw_630 dw_631 (by decide) (by omega) ?_
  refine L_call (md' := md_Tent_mark) (as := [mR 0 0, mI (xs (i + 1)), mI (xs (i + 2))]) (rest := []) (σ := σ) (σ1 := σ1) (r := some (mI r)) (d' := 3) C dw_632 (ckV (nn := 2) lk_7_61 ok_Tent_mark rfl rfl rfl) (c_Tent_mark (hF := e1)) (Nat.le_of_ble_eq_true rfl) ⟨by show 3 + 1 ≤ 2048; decide, by show 8 + (3 + 11) + 64 * 3 ≤ 84000; decide⟩ ⟨by decide, by decide⟩ hl.1 (vaN inM0 [xs (i + 1), xs (i + 2)]) hP hD hS (fun H locs hP hD hS => ?_)
  refine W.eq (g2 := F0 m 635 ls [.int r]) rfl ?_
  refine lv_aload_n C.1 C.2.1 dw_635 rfl (lv_at hl 1 rfl) ?_
  refine lw_ld (k := 1) C hX hbl (Nat.not_le.mpr hbl) hL hi hl hS dw_636 dw_637 dw_638 dw_639 dw_640 (by decide) (by omega) ?_
  refine lw_ld (k := 2) C hX hbl (Nat.not_le.mpr hbl) hL hi hl hS dw_641 dw_642 dw_643 dw_644 dw_645 (by decide) (by omega) ?_
  refine L_call (md' := md_Mod_mark) (as := [mR 30 0, mI (xs (i + 1)), mI (xs (i + 2))]) (rest := [mI r]) (σ := σ1) (σ1 := σ2) (r := some (mI r)) (d' := 3) C dw_646 (ckV (nn := 2) lk_7_64 ok_Mod_mark rfl rfl rfl) (c_Mod_mark (hF := e2)) (Nat.le_of_ble_eq_true rfl) ⟨by show 3 + 1 ≤ 2048; decide, by show 8 + (3 + 11) + 64 * 3 ≤ 84000; decide⟩ ⟨by decide, by decide⟩ hl.1 (vaN inM30 [xs (i + 1), xs (i + 2)]) hP hD hS (fun H locs hP hD hS => ?_)
  refine W.eq (g2 := F0 m 649 ls [.int r, .int r]) rfl ?_
  refine lv_icmp_eq (tgt := 1501) C.1 C.2.1 dw_649 (by decide) (fun _ => ?_) (fun h => absurd rfl h)
  exact kk σ2 H locs h2 hP hD hS
theorem law_12 (h : LwS p l e s m b L xs below meth c D kI kA ad σ i H locs ls) (kk : LwK p l e s m b L xs below meth c D kI kA ad i ls) : W p l e room_1 s m #[Value.ref b] below meth c H locs 200 20000 (lw_Z below #[Value.ref b] s) (F0 m 654 ls []) := by
  obtain ⟨C, hX, hbl, hr, hlk, hL, hi, hR, hP, hD, hS, hl⟩ := id h
  obtain ⟨r, σ1, σ2, e1, e2, h2⟩ := op_vent  (xs (i + 1))  hR
  refine lv_aload_n C.1 C.2.1 dw_654 rfl (lv_at hl 2 rfl) ?_
  refine lw_ld (k := 1) C hX hbl (Nat.not_le.mpr hbl) hL hi hl hS dw_655 dw_656 dw_657 dw_658 dw_659 (by decide) (by omega) ?_
  refine L_call (md' := md_Tent_vent) (as := [mR 0 0, mI (xs (i + 1))]) (rest := []) (σ := σ) (σ1 := σ1) (r := some (mI r)) (d' := 0) C dw_660 (ckV (nn := 1) lk_7_65 ok_Tent_vent rfl rfl rfl) (c_Tent_vent (hF := e1)) (Nat.le_of_ble_eq_true rfl) ⟨by show 0 + 1 ≤ 2048; decide, by show 8 + (3 + 11) + 64 * 0 ≤ 84000; decide⟩ ⟨by decide, by decide⟩ hl.1 (vaN inM0 [xs (i + 1)]) hP hD hS (fun H locs hP hD hS => ?_)
  refine W.eq (g2 := F0 m 663 ls [.int r]) rfl ?_
  refine lv_aload_n C.1 C.2.1 dw_663 rfl (lv_at hl 1 rfl) ?_
  refine lw_ld (k := 1) C hX hbl (Nat.not_le.mpr hbl) hL hi hl hS dw_664 dw_665 dw_666 dw_667 dw_668 (by decide) (by omega) ?_
  refine L_call (md' := md_Mod_vent) (as := [mR 30 0, mI (xs (i + 1))]) (rest := [mI r]) (σ := σ1) (σ1 := σ2) (r := some (mI r)) (d' := 1) C dw_669 (ckV (nn := 1) lk_7_68 ok_Mod_vent rfl rfl rfl) (c_Mod_vent (hF := e2)) (Nat.le_of_ble_eq_true rfl) ⟨by show 1 + 1 ≤ 2048; decide, by show 8 + (3 + 11) + 64 * 1 ≤ 84000; decide⟩ ⟨by decide, by decide⟩ hl.1 (vaN inM30 [xs (i + 1)]) hP hD hS (fun H locs hP hD hS => ?_)
  refine W.eq (g2 := F0 m 672 ls [.int r, .int r]) rfl ?_
  refine lv_icmp_eq (tgt := 1501) C.1 C.2.1 dw_672 (by decide) (fun _ => ?_) (fun h => absurd rfl h)
  exact kk σ2 H locs h2 hP hD hS
theorem law_13 (h : LwS p l e s m b L xs below meth c D kI kA ad σ i H locs ls) (kk : LwK p l e s m b L xs below meth c D kI kA ad i ls) : W p l e room_1 s m #[Value.ref b] below meth c H locs 200 20000 (lw_Z below #[Value.ref b] s) (F0 m 677 ls []) := by
  obtain ⟨C, hX, hbl, hr, hlk, hL, hi, hR, hP, hD, hS, hl⟩ := id h
  obtain ⟨r, σ1, σ2, e1, e2, h2⟩ := op_bottle  (xs (i + 1))  hR
  refine lv_aload_n C.1 C.2.1 dw_677 rfl (lv_at hl 2 rfl) ?_
  refine lw_ld (k := 1) C hX hbl (Nat.not_le.mpr hbl) hL hi hl hS dw_678 dw_679 dw_680 dw_681 dw_682 (by decide) (by omega) ?_
  refine L_call (md' := md_Tent_bottle) (as := [mR 0 0, mI (xs (i + 1))]) (rest := []) (σ := σ) (σ1 := σ1) (r := some (mI r)) (d' := 1) C dw_683 (ckV (nn := 1) lk_7_69 ok_Tent_bottle rfl rfl rfl) (c_Tent_bottle (hF := e1)) (Nat.le_of_ble_eq_true rfl) ⟨by show 1 + 1 ≤ 2048; decide, by show 8 + (3 + 11) + 64 * 1 ≤ 84000; decide⟩ ⟨by decide, by decide⟩ hl.1 (vaN inM0 [xs (i + 1)]) hP hD hS (fun H locs hP hD hS => ?_)
  refine W.eq (g2 := F0 m 686 ls [.int r]) rfl ?_
  refine lv_aload_n C.1 C.2.1 dw_686 rfl (lv_at hl 1 rfl) ?_
  refine lw_ld (k := 1) C hX hbl (Nat.not_le.mpr hbl) hL hi hl hS dw_687 dw_688 dw_689 dw_690 dw_691 (by decide) (by omega) ?_
  refine L_call (md' := md_Mod_bottle) (as := [mR 30 0, mI (xs (i + 1))]) (rest := [mI r]) (σ := σ1) (σ1 := σ2) (r := some (mI r)) (d' := 1) C dw_692 (ckV (nn := 1) lk_7_72 ok_Mod_bottle rfl rfl rfl) (c_Mod_bottle (hF := e2)) (Nat.le_of_ble_eq_true rfl) ⟨by show 1 + 1 ≤ 2048; decide, by show 8 + (3 + 11) + 64 * 1 ≤ 84000; decide⟩ ⟨by decide, by decide⟩ hl.1 (vaN inM30 [xs (i + 1)]) hP hD hS (fun H locs hP hD hS => ?_)
  refine W.eq (g2 := F0 m 695 ls [.int r, .int r]) rfl ?_
  refine lv_icmp_eq (tgt := 1501) C.1 C.2.1 dw_695 (by decide) (fun _ => ?_) (fun h => absurd rfl h)
  exact kk σ2 H locs h2 hP hD hS
theorem law_14 (h : LwS p l e s m b L xs below meth c D kI kA ad σ i H locs ls) (kk : LwK p l e s m b L xs below meth c D kI kA ad i ls) : W p l e room_1 s m #[Value.ref b] below meth c H locs 200 20000 (lw_Z below #[Value.ref b] s) (F0 m 700 ls []) := by
  obtain ⟨C, hX, hbl, hr, hlk, hL, hi, hR, hP, hD, hS, hl⟩ := id h
  obtain ⟨r, σ1, σ2, e1, e2, h2⟩ := op_turns  (xs (i + 1))  hR
  refine lv_aload_n C.1 C.2.1 dw_700 rfl (lv_at hl 2 rfl) ?_
  refine lw_ld (k := 1) C hX hbl (Nat.not_le.mpr hbl) hL hi hl hS dw_701 dw_702 dw_703 dw_704 dw_705 (by decide) (by omega) ?_
  refine L_call (md' := md_Tent_turns) (as := [mR 0 0, mI (xs (i + 1))]) (rest := []) (σ := σ) (σ1 := σ1) (r := some (mI r)) (d' := 0) C dw_706 (ckV (nn := 1) lk_7_73 ok_Tent_turns rfl rfl rfl) (c_Tent_turns (hF := e1)) (Nat.le_of_ble_eq_true rfl) ⟨by show 0 + 1 ≤ 2048; decide, by show 8 + (3 + 11) + 64 * 0 ≤ 84000; decide⟩ ⟨by decide, by decide⟩ hl.1 (vaN inM0 [xs (i + 1)]) hP hD hS (fun H locs hP hD hS => ?_)
  refine W.eq (g2 := F0 m 709 ls [.int r]) rfl ?_
  refine lv_aload_n C.1 C.2.1 dw_709 rfl (lv_at hl 1 rfl) ?_
  refine lw_ld (k := 1) C hX hbl (Nat.not_le.mpr hbl) hL hi hl hS dw_710 dw_711 dw_712 dw_713 dw_714 (by decide) (by omega) ?_
  refine L_call (md' := md_Mod_turns) (as := [mR 30 0, mI (xs (i + 1))]) (rest := [mI r]) (σ := σ1) (σ1 := σ2) (r := some (mI r)) (d' := 1) C dw_715 (ckV (nn := 1) lk_7_76 ok_Mod_turns rfl rfl rfl) (c_Mod_turns (hF := e2)) (Nat.le_of_ble_eq_true rfl) ⟨by show 1 + 1 ≤ 2048; decide, by show 8 + (3 + 11) + 64 * 1 ≤ 84000; decide⟩ ⟨by decide, by decide⟩ hl.1 (vaN inM30 [xs (i + 1)]) hP hD hS (fun H locs hP hD hS => ?_)
  refine W.eq (g2 := F0 m 718 ls [.int r, .int r]) rfl ?_
  refine lv_icmp_eq (tgt := 1501) C.1 C.2.1 dw_718 (by decide) (fun _ => ?_) (fun h => absurd rfl h)
  exact kk σ2 H locs h2 hP hD hS
theorem law_15 (h : LwS p l e s m b L xs below meth c D kI kA ad σ i H locs ls) (kk : LwK p l e s m b L xs below meth c D kI kA ad i ls) : W p l e room_1 s m #[Value.ref b] below meth c H locs 200 20000 (lw_Z below #[Value.ref b] s) (F0 m 723 ls []) := by
  obtain ⟨C, hX, hbl, hr, hlk, hL, hi, hR, hP, hD, hS, hl⟩ := id h
  obtain ⟨r, σ1, σ2, e1, e2, h2⟩ := op_change (n := 5000) (xs (i + 1)) (xs (i + 2)) (by decide) hR
  refine lv_aload_n C.1 C.2.1 dw_723 rfl (lv_at hl 2 rfl) ?_
  refine lw_ld (k := 1) C hX hbl (Nat.not_le.mpr hbl) hL hi hl hS dw_724 dw_725 dw_726 dw_727 dw_728 (by decide) (by omega) ?_
  refine lw_ld (k := 2) C hX hbl (Nat.not_le.mpr hbl) hL hi hl hS dw_729 dw_730 dw_731 dw_732 dw_733 (by decide) (by omega) ?_
  refine L_call (md' := md_Tent_change) (as := [mR 0 0, mI (xs (i + 1)), mI (xs (i + 2))]) (rest := []) (σ := σ) (σ1 := σ1) (r := some (mI r)) (d' := 1) C dw_734 (ckV (nn := 2) lk_7_77 ok_Tent_change rfl rfl rfl) (c_Tent_change (hF := e1)) (Nat.le_of_ble_eq_true rfl) ⟨by show 1 + 1 ≤ 2048; decide, by show 8 + (3 + 11) + 64 * 1 ≤ 84000; decide⟩ ⟨by decide, by decide⟩ hl.1 (vaN inM0 [xs (i + 1), xs (i + 2)]) hP hD hS (fun H locs hP hD hS => ?_)
  refine W.eq (g2 := F0 m 737 ls [.int r]) rfl ?_
  refine lv_aload_n C.1 C.2.1 dw_737 rfl (lv_at hl 1 rfl) ?_
  refine lw_ld (k := 1) C hX hbl (Nat.not_le.mpr hbl) hL hi hl hS dw_738 dw_739 dw_740 dw_741 dw_742 (by decide) (by omega) ?_
  refine lw_ld (k := 2) C hX hbl (Nat.not_le.mpr hbl) hL hi hl hS dw_743 dw_744 dw_745 dw_746 dw_747 (by decide) (by omega) ?_
  refine L_call (md' := md_Mod_change) (as := [mR 30 0, mI (xs (i + 1)), mI (xs (i + 2))]) (rest := [mI r]) (σ := σ1) (σ1 := σ2) (r := some (mI r)) (d' := 2) C dw_748 (ckV (nn := 2) lk_7_80 ok_Mod_change rfl rfl rfl) (c_Mod_change (hF := e2)) (Nat.le_of_ble_eq_true rfl) ⟨by show 2 + 1 ≤ 2048; decide, by show 8 + (4 + 11) + 64 * 2 ≤ 84000; decide⟩ ⟨by decide, by decide⟩ hl.1 (vaN inM30 [xs (i + 1), xs (i + 2)]) hP hD hS (fun H locs hP hD hS => ?_)
  refine W.eq (g2 := F0 m 751 ls [.int r, .int r]) rfl ?_
  refine lv_icmp_eq (tgt := 1501) C.1 C.2.1 dw_751 (by decide) (fun _ => ?_) (fun h => absurd rfl h)
  exact kk σ2 H locs h2 hP hD hS
theorem law_16 (h : LwS p l e s m b L xs below meth c D kI kA ad σ i H locs ls) (kk : LwK p l e s m b L xs below meth c D kI kA ad i ls) : W p l e room_1 s m #[Value.ref b] below meth c H locs 200 20000 (lw_Z below #[Value.ref b] s) (F0 m 756 ls []) := by
  obtain ⟨C, hX, hbl, hr, hlk, hL, hi, hR, hP, hD, hS, hl⟩ := id h
  obtain ⟨r, σ1, σ2, e1, e2, h2⟩ := op_bags  (xs (i + 1)) (xs (i + 2))  hR
  refine lv_aload_n C.1 C.2.1 dw_756 rfl (lv_at hl 2 rfl) ?_
  refine lw_ld (k := 1) C hX hbl (Nat.not_le.mpr hbl) hL hi hl hS dw_757 dw_758 dw_759 dw_760 dw_761 (by decide) (by omega) ?_
  refine lw_ld (k := 2) C hX hbl (Nat.not_le.mpr hbl) hL hi hl hS dw_762 dw_763 dw_764 dw_765 dw_766 (by decide) (by omega) ?_
  refine L_call (md' := md_Tent_bags) (as := [mR 0 0, mI (xs (i + 1)), mI (xs (i + 2))]) (rest := []) (σ := σ) (σ1 := σ1) (r := some (mI r)) (d' := 1) C dw_767 (ckV (nn := 2) lk_7_81 ok_Tent_bags rfl rfl rfl) (c_Tent_bags (hF := e1)) (Nat.le_of_ble_eq_true rfl) ⟨by show 1 + 1 ≤ 2048; decide, by show 8 + (3 + 11) + 64 * 1 ≤ 84000; decide⟩ ⟨by decide, by decide⟩ hl.1 (vaN inM0 [xs (i + 1), xs (i + 2)]) hP hD hS (fun H locs hP hD hS => ?_)
  refine W.eq (g2 := F0 m 770 ls [.int r]) rfl ?_
  refine lv_aload_n C.1 C.2.1 dw_770 rfl (lv_at hl 1 rfl) ?_
  refine lw_ld (k := 1) C hX hbl (Nat.not_le.mpr hbl) hL hi hl hS dw_771 dw_772 dw_773 dw_774 dw_775 (by decide) (by omega) ?_
  refine lw_ld (k := 2) C hX hbl (Nat.not_le.mpr hbl) hL hi hl hS dw_776 dw_777 dw_778 dw_779 dw_780 (by decide) (by omega) ?_
  refine L_call (md' := md_Mod_bags) (as := [mR 30 0, mI (xs (i + 1)), mI (xs (i + 2))]) (rest := [mI r]) (σ := σ1) (σ1 := σ2) (r := some (mI r)) (d' := 2) C dw_781 (ckV (nn := 2) lk_7_84 ok_Mod_bags rfl rfl rfl) (c_Mod_bags (hF := e2)) (Nat.le_of_ble_eq_true rfl) ⟨by show 2 + 1 ≤ 2048; decide, by show 8 + (3 + 11) + 64 * 2 ≤ 84000; decide⟩ ⟨by decide, by decide⟩ hl.1 (vaN inM30 [xs (i + 1), xs (i + 2)]) hP hD hS (fun H locs hP hD hS => ?_)
  refine W.eq (g2 := F0 m 784 ls [.int r, .int r]) rfl ?_
  refine lv_icmp_eq (tgt := 1501) C.1 C.2.1 dw_784 (by decide) (fun _ => ?_) (fun h => absurd rfl h)
  exact kk σ2 H locs h2 hP hD hS
theorem law_17 (h : LwS p l e s m b L xs below meth c D kI kA ad σ i H locs ls) (kk : LwK p l e s m b L xs below meth c D kI kA ad i ls) : W p l e room_1 s m #[Value.ref b] below meth c H locs 200 20000 (lw_Z below #[Value.ref b] s) (F0 m 789 ls []) := by
  obtain ⟨C, hX, hbl, hr, hlk, hL, hi, hR, hP, hD, hS, hl⟩ := id h
  obtain ⟨r, σ1, σ2, e1, e2, h2⟩ := op_lie (n := 5000) (xs (i + 1)) (by decide) hR
  refine lv_aload_n C.1 C.2.1 dw_789 rfl (lv_at hl 2 rfl) ?_
  refine lw_ld (k := 1) C hX hbl (Nat.not_le.mpr hbl) hL hi hl hS dw_790 dw_791 dw_792 dw_793 dw_794 (by decide) (by omega) ?_
  refine L_call (md' := md_Tent_lie) (as := [mR 0 0, mI (xs (i + 1))]) (rest := []) (σ := σ) (σ1 := σ1) (r := some (mI r)) (d' := 5) C dw_795 (ckV (nn := 1) lk_7_85 ok_Tent_lie rfl rfl rfl) (c_Tent_lie (hF := e1)) (Nat.le_of_ble_eq_true rfl) ⟨by show 5 + 1 ≤ 2048; decide, by show 8 + (3 + 11) + 64 * 5 ≤ 84000; decide⟩ ⟨by decide, by decide⟩ hl.1 (vaN inM0 [xs (i + 1)]) hP hD hS (fun H locs hP hD hS => ?_)
  refine W.eq (g2 := F0 m 798 ls [.int r]) rfl ?_
  refine lv_aload_n C.1 C.2.1 dw_798 rfl (lv_at hl 1 rfl) ?_
  refine lw_ld (k := 1) C hX hbl (Nat.not_le.mpr hbl) hL hi hl hS dw_799 dw_800 dw_801 dw_802 dw_803 (by decide) (by omega) ?_
  refine L_call (md' := md_Mod_lie) (as := [mR 30 0, mI (xs (i + 1))]) (rest := [mI r]) (σ := σ1) (σ1 := σ2) (r := some (mI r)) (d' := 3) C dw_804 (ckV (nn := 1) lk_7_88 ok_Mod_lie rfl rfl rfl) (c_Mod_lie (hF := e2)) (Nat.le_of_ble_eq_true rfl) ⟨by show 3 + 1 ≤ 2048; decide, by show 8 + (3 + 11) + 64 * 3 ≤ 84000; decide⟩ ⟨by decide, by decide⟩ hl.1 (vaN inM30 [xs (i + 1)]) hP hD hS (fun H locs hP hD hS => ?_)
  refine W.eq (g2 := F0 m 807 ls [.int r, .int r]) rfl ?_
  refine lv_icmp_eq (tgt := 1501) C.1 C.2.1 dw_807 (by decide) (fun _ => ?_) (fun h => absurd rfl h)
  exact kk σ2 H locs h2 hP hD hS
theorem law_18 (h : LwS p l e s m b L xs below meth c D kI kA ad σ i H locs ls) (kk : LwK p l e s m b L xs below meth c D kI kA ad i ls) : W p l e room_1 s m #[Value.ref b] below meth c H locs 200 20000 (lw_Z below #[Value.ref b] s) (F0 m 812 ls []) := by
  obtain ⟨C, hX, hbl, hr, hlk, hL, hi, hR, hP, hD, hS, hl⟩ := id h
  obtain ⟨r, σ1, σ2, e1, e2, h2⟩ := op_hour (n := 5000)  (by decide) hR
  refine lv_aload_n C.1 C.2.1 dw_812 rfl (lv_at hl 2 rfl) ?_
  refine L_call (md' := md_Tent_hour) (as := [mR 0 0]) (rest := []) (σ := σ) (σ1 := σ1) (r := some (mI r)) (d' := 6) C dw_813 (ckV (nn := 0) lk_7_89 ok_Tent_hour rfl rfl rfl) (c_Tent_hour (hF := e1)) (Nat.le_of_ble_eq_true rfl) ⟨by show 6 + 1 ≤ 2048; decide, by show 8 + (1 + 11) + 64 * 6 ≤ 84000; decide⟩ ⟨by decide, by decide⟩ hl.1 (vaN inM0 []) hP hD hS (fun H locs hP hD hS => ?_)
  refine W.eq (g2 := F0 m 816 ls [.int r]) rfl ?_
  refine lv_aload_n C.1 C.2.1 dw_816 rfl (lv_at hl 1 rfl) ?_
  refine L_call (md' := md_Mod_hour) (as := [mR 30 0]) (rest := [mI r]) (σ := σ1) (σ1 := σ2) (r := some (mI r)) (d' := 6) C dw_817 (ckV (nn := 0) lk_7_93 ok_Mod_hour rfl rfl rfl) (c_Mod_hour (hF := e2)) (Nat.le_of_ble_eq_true rfl) ⟨by show 6 + 1 ≤ 2048; decide, by show 8 + (3 + 11) + 64 * 6 ≤ 84000; decide⟩ ⟨by decide, by decide⟩ hl.1 (vaN inM30 []) hP hD hS (fun H locs hP hD hS => ?_)
  refine W.eq (g2 := F0 m 820 ls [.int r, .int r]) rfl ?_
  refine lv_icmp_eq (tgt := 1501) C.1 C.2.1 dw_820 (by decide) (fun _ => ?_) (fun h => absurd rfl h)
  exact kk σ2 H locs h2 hP hD hS
theorem law_19 (h : LwS p l e s m b L xs below meth c D kI kA ad σ i H locs ls) (kk : LwK p l e s m b L xs below meth c D kI kA ad i ls) : W p l e room_1 s m #[Value.ref b] below meth c H locs 200 20000 (lw_Z below #[Value.ref b] s) (F0 m 825 ls []) := by
  obtain ⟨C, hX, hbl, hr, hlk, hL, hi, hR, hP, hD, hS, hl⟩ := id h
  obtain ⟨r, σ1, σ2, e1, e2, h2⟩ := op_night    hR
  refine lv_aload_n C.1 C.2.1 dw_825 rfl (lv_at hl 2 rfl) ?_
  refine L_call (md' := md_Tent_night) (as := [mR 0 0]) (rest := []) (σ := σ) (σ1 := σ1) (r := some (mI r)) (d' := 0) C dw_826 (ckV (nn := 0) lk_7_94 ok_Tent_night rfl rfl rfl) (c_Tent_night (hF := e1)) (Nat.le_of_ble_eq_true rfl) ⟨by show 0 + 1 ≤ 2048; decide, by show 8 + (1 + 11) + 64 * 0 ≤ 84000; decide⟩ ⟨by decide, by decide⟩ hl.1 (vaN inM0 []) hP hD hS (fun H locs hP hD hS => ?_)
  refine W.eq (g2 := F0 m 829 ls [.int r]) rfl ?_
  refine lv_aload_n C.1 C.2.1 dw_829 rfl (lv_at hl 1 rfl) ?_
  refine L_call (md' := md_Mod_night) (as := [mR 30 0]) (rest := [mI r]) (σ := σ1) (σ1 := σ2) (r := some (mI r)) (d' := 0) C dw_830 (ckV (nn := 0) lk_7_97 ok_Mod_night rfl rfl rfl) (c_Mod_night (hF := e2)) (Nat.le_of_ble_eq_true rfl) ⟨by show 0 + 1 ≤ 2048; decide, by show 8 + (1 + 11) + 64 * 0 ≤ 84000; decide⟩ ⟨by decide, by decide⟩ hl.1 (vaN inM30 []) hP hD hS (fun H locs hP hD hS => ?_)
  refine W.eq (g2 := F0 m 833 ls [.int r, .int r]) rfl ?_
  refine lv_icmp_eq (tgt := 1501) C.1 C.2.1 dw_833 (by decide) (fun _ => ?_) (fun h => absurd rfl h)
  exact kk σ2 H locs h2 hP hD hS
theorem law_20 (h : LwS p l e s m b L xs below meth c D kI kA ad σ i H locs ls) (kk : LwK p l e s m b L xs below meth c D kI kA ad i ls) : W p l e room_1 s m #[Value.ref b] below meth c H locs 200 20000 (lw_Z below #[Value.ref b] s) (F0 m 838 ls []) := by
  obtain ⟨C, hX, hbl, hr, hlk, hL, hi, hR, hP, hD, hS, hl⟩ := id h
  obtain ⟨r, σ1, σ2, e1, e2, h2⟩ := op_undo (n := 5000) (xs (i + 1)) (by decide) hR
  refine lv_aload_n C.1 C.2.1 dw_838 rfl (lv_at hl 2 rfl) ?_
  refine lw_ld (k := 1) C hX hbl (Nat.not_le.mpr hbl) hL hi hl hS dw_839 dw_840 dw_841 dw_842 dw_843 (by decide) (by omega) ?_
  refine L_call (md' := md_Tent_undo) (as := [mR 0 0, mI (xs (i + 1))]) (rest := []) (σ := σ) (σ1 := σ1) (r := some (mI r)) (d' := 2) C dw_844 (ckV (nn := 1) lk_7_98 ok_Tent_undo rfl rfl rfl) (c_Tent_undo (hF := e1)) (Nat.le_of_ble_eq_true rfl) ⟨by show 2 + 1 ≤ 2048; decide, by show 8 + (3 + 11) + 64 * 2 ≤ 84000; decide⟩ ⟨by decide, by decide⟩ hl.1 (vaN inM0 [xs (i + 1)]) hP hD hS (fun H locs hP hD hS => ?_)
  refine W.eq (g2 := F0 m 847 ls [.int r]) rfl ?_
  refine lv_aload_n C.1 C.2.1 dw_847 rfl (lv_at hl 1 rfl) ?_
  refine lw_ld (k := 1) C hX hbl (Nat.not_le.mpr hbl) hL hi hl hS dw_848 dw_849 dw_850 dw_851 dw_852 (by decide) (by omega) ?_
  refine L_call (md' := md_Mod_undo) (as := [mR 30 0, mI (xs (i + 1))]) (rest := [mI r]) (σ := σ1) (σ1 := σ2) (r := some (mI r)) (d' := 1) C dw_853 (ckV (nn := 1) lk_7_101 ok_Mod_undo rfl rfl rfl) (c_Mod_undo (hF := e2)) (Nat.le_of_ble_eq_true rfl) ⟨by show 1 + 1 ≤ 2048; decide, by show 8 + (4 + 11) + 64 * 1 ≤ 84000; decide⟩ ⟨by decide, by decide⟩ hl.1 (vaN inM30 [xs (i + 1)]) hP hD hS (fun H locs hP hD hS => ?_)
  refine W.eq (g2 := F0 m 856 ls [.int r, .int r]) rfl ?_
  refine lv_icmp_eq (tgt := 1501) C.1 C.2.1 dw_856 (by decide) (fun _ => ?_) (fun h => absurd rfl h)
  exact kk σ2 H locs h2 hP hD hS
theorem law_21 (h : LwS p l e s m b L xs below meth c D kI kA ad σ i H locs ls) (kk : LwK p l e s m b L xs below meth c D kI kA ad i ls) : W p l e room_1 s m #[Value.ref b] below meth c H locs 200 20000 (lw_Z below #[Value.ref b] s) (F0 m 861 ls []) := by
  obtain ⟨C, hX, hbl, hr, hlk, hL, hi, hR, hP, hD, hS, hl⟩ := id h
  obtain ⟨r, σ1, σ2, e1, e2, h2⟩ := op_now    hR
  refine lv_aload_n C.1 C.2.1 dw_861 rfl (lv_at hl 2 rfl) ?_
  refine L_call (md' := md_Tent_now) (as := [mR 0 0]) (rest := []) (σ := σ) (σ1 := σ1) (r := some (mI r)) (d' := 0) C dw_862 (ckV (nn := 0) lk_7_102 ok_Tent_now rfl rfl rfl) (c_Tent_now (hF := e1)) (Nat.le_of_ble_eq_true rfl) ⟨by show 0 + 1 ≤ 2048; decide, by show 8 + (1 + 11) + 64 * 0 ≤ 84000; decide⟩ ⟨by decide, by decide⟩ hl.1 (vaN inM0 []) hP hD hS (fun H locs hP hD hS => ?_)
  refine W.eq (g2 := F0 m 865 ls [.int r]) rfl ?_
  refine lv_aload_n C.1 C.2.1 dw_865 rfl (lv_at hl 1 rfl) ?_
  refine L_call (md' := md_Mod_now) (as := [mR 30 0]) (rest := [mI r]) (σ := σ1) (σ1 := σ2) (r := some (mI r)) (d' := 0) C dw_866 (ckV (nn := 0) lk_7_105 ok_Mod_now rfl rfl rfl) (c_Mod_now (hF := e2)) (Nat.le_of_ble_eq_true rfl) ⟨by show 0 + 1 ≤ 2048; decide, by show 8 + (1 + 11) + 64 * 0 ≤ 84000; decide⟩ ⟨by decide, by decide⟩ hl.1 (vaN inM30 []) hP hD hS (fun H locs hP hD hS => ?_)
  refine W.eq (g2 := F0 m 869 ls [.int r, .int r]) rfl ?_
  refine lv_icmp_eq (tgt := 1501) C.1 C.2.1 dw_869 (by decide) (fun _ => ?_) (fun h => absurd rfl h)
  exact kk σ2 H locs h2 hP hD hS
theorem law_22 (h : LwS p l e s m b L xs below meth c D kI kA ad σ i H locs ls) (kk : LwK p l e s m b L xs below meth c D kI kA ad i ls) : W p l e room_1 s m #[Value.ref b] below meth c H locs 200 20000 (lw_Z below #[Value.ref b] s) (F0 m 874 ls []) := by
  obtain ⟨C, hX, hbl, hr, hlk, hL, hi, hR, hP, hD, hS, hl⟩ := id h
  obtain ⟨r, σ1, σ2, e1, e2, h2⟩ := op_keep (n := 5000) (xs (i + 1)) (by decide) hR
  refine lv_aload_n C.1 C.2.1 dw_874 rfl (lv_at hl 2 rfl) ?_
  refine lw_ld (k := 1) C hX hbl (Nat.not_le.mpr hbl) hL hi hl hS dw_875 dw_876 dw_877 dw_878 dw_879 (by decide) (by omega) ?_
  refine L_call (md' := md_Tent_keep) (as := [mR 0 0, mI (xs (i + 1))]) (rest := []) (σ := σ) (σ1 := σ1) (r := some (mI r)) (d' := 3) C dw_880 (ckV (nn := 1) lk_7_106 ok_Tent_keep rfl rfl rfl) (c_Tent_keep (hF := e1)) (Nat.le_of_ble_eq_true rfl) ⟨by show 3 + 1 ≤ 2048; decide, by show 8 + (2 + 11) + 64 * 3 ≤ 84000; decide⟩ ⟨by decide, by decide⟩ hl.1 (vaN inM0 [xs (i + 1)]) hP hD hS (fun H locs hP hD hS => ?_)
  refine W.eq (g2 := F0 m 883 ls [.int r]) rfl ?_
  refine lv_aload_n C.1 C.2.1 dw_883 rfl (lv_at hl 1 rfl) ?_
  refine lw_ld (k := 1) C hX hbl (Nat.not_le.mpr hbl) hL hi hl hS dw_884 dw_885 dw_886 dw_887 dw_888 (by decide) (by omega) ?_
  refine L_call (md' := md_Mod_keep) (as := [mR 30 0, mI (xs (i + 1))]) (rest := [mI r]) (σ := σ1) (σ1 := σ2) (r := some (mI r)) (d' := 1) C dw_889 (ckV (nn := 1) lk_7_109 ok_Mod_keep rfl rfl rfl) (c_Mod_keep (hF := e2)) (Nat.le_of_ble_eq_true rfl) ⟨by show 1 + 1 ≤ 2048; decide, by show 8 + (2 + 11) + 64 * 1 ≤ 84000; decide⟩ ⟨by decide, by decide⟩ hl.1 (vaN inM30 [xs (i + 1)]) hP hD hS (fun H locs hP hD hS => ?_)
  refine W.eq (g2 := F0 m 892 ls [.int r, .int r]) rfl ?_
  refine lv_icmp_eq (tgt := 1501) C.1 C.2.1 dw_892 (by decide) (fun _ => ?_) (fun h => absurd rfl h)
  exact kk σ2 H locs h2 hP hD hS
theorem law_23 (h : LwS p l e s m b L xs below meth c D kI kA ad σ i H locs ls) (kk : LwK p l e s m b L xs below meth c D kI kA ad i ls) : W p l e room_1 s m #[Value.ref b] below meth c H locs 200 20000 (lw_Z below #[Value.ref b] s) (F0 m 897 ls []) := by
  obtain ⟨C, hX, hbl, hr, hlk, hL, hi, hR, hP, hD, hS, hl⟩ := id h
  obtain ⟨r, σ1, σ2, e1, e2, h2⟩ := op_on (n := 5000) (xs (i + 1)) (by decide) hR
  refine lv_aload_n C.1 C.2.1 dw_897 rfl (lv_at hl 2 rfl) ?_
  refine lw_ld (k := 1) C hX hbl (Nat.not_le.mpr hbl) hL hi hl hS dw_898 dw_899 dw_900 dw_901 dw_902 (by decide) (by omega) ?_
  refine L_call (md' := md_Tent_on) (as := [mR 0 0, mI (xs (i + 1))]) (rest := []) (σ := σ) (σ1 := σ1) (r := some (mI r)) (d' := 3) C dw_903 (ckV (nn := 1) lk_7_110 ok_Tent_on rfl rfl rfl) (c_Tent_on (hF := e1)) (Nat.le_of_ble_eq_true rfl) ⟨by show 3 + 1 ≤ 2048; decide, by show 8 + (2 + 11) + 64 * 3 ≤ 84000; decide⟩ ⟨by decide, by decide⟩ hl.1 (vaN inM0 [xs (i + 1)]) hP hD hS (fun H locs hP hD hS => ?_)
  refine W.eq (g2 := F0 m 906 ls [.int r]) rfl ?_
  refine lv_aload_n C.1 C.2.1 dw_906 rfl (lv_at hl 1 rfl) ?_
  refine lw_ld (k := 1) C hX hbl (Nat.not_le.mpr hbl) hL hi hl hS dw_907 dw_908 dw_909 dw_910 dw_911 (by decide) (by omega) ?_
  refine L_call (md' := md_Mod_on) (as := [mR 30 0, mI (xs (i + 1))]) (rest := [mI r]) (σ := σ1) (σ1 := σ2) (r := some (mI r)) (d' := 1) C dw_912 (ckV (nn := 1) lk_7_113 ok_Mod_on rfl rfl rfl) (c_Mod_on (hF := e2)) (Nat.le_of_ble_eq_true rfl) ⟨by show 1 + 1 ≤ 2048; decide, by show 8 + (2 + 11) + 64 * 1 ≤ 84000; decide⟩ ⟨by decide, by decide⟩ hl.1 (vaN inM30 [xs (i + 1)]) hP hD hS (fun H locs hP hD hS => ?_)
  refine W.eq (g2 := F0 m 915 ls [.int r, .int r]) rfl ?_
  refine lv_icmp_eq (tgt := 1501) C.1 C.2.1 dw_915 (by decide) (fun _ => ?_) (fun h => absurd rfl h)
  exact kk σ2 H locs h2 hP hD hS
theorem law_24 (h : LwS p l e s m b L xs below meth c D kI kA ad σ i H locs ls) (kk : LwK p l e s m b L xs below meth c D kI kA ad i ls) : W p l e room_1 s m #[Value.ref b] below meth c H locs 200 20000 (lw_Z below #[Value.ref b] s) (F0 m 920 ls []) := by
  obtain ⟨C, hX, hbl, hr, hlk, hL, hi, hR, hP, hD, hS, hl⟩ := id h
  obtain ⟨r, σ1, σ2, e1, e2, h2⟩ := op_feels (n := 5000) (xs (i + 1)) (xs (i + 2)) (by decide) hR
  refine lv_aload_n C.1 C.2.1 dw_920 rfl (lv_at hl 2 rfl) ?_
  refine lw_ld (k := 1) C hX hbl (Nat.not_le.mpr hbl) hL hi hl hS dw_921 dw_922 dw_923 dw_924 dw_925 (by decide) (by omega) ?_
  refine lw_ld (k := 2) C hX hbl (Nat.not_le.mpr hbl) hL hi hl hS dw_926 dw_927 dw_928 dw_929 dw_930 (by decide) (by omega) ?_
  refine L_call (md' := md_Tent_feels) (as := [mR 0 0, mI (xs (i + 1)), mI (xs (i + 2))]) (rest := []) (σ := σ) (σ1 := σ1) (r := some (mI r)) (d' := 3) C dw_931 (ckV (nn := 2) lk_7_114 ok_Tent_feels rfl rfl rfl) (c_Tent_feels (hF := e1)) (Nat.le_of_ble_eq_true rfl) ⟨by show 3 + 1 ≤ 2048; decide, by show 8 + (3 + 11) + 64 * 3 ≤ 84000; decide⟩ ⟨by decide, by decide⟩ hl.1 (vaN inM0 [xs (i + 1), xs (i + 2)]) hP hD hS (fun H locs hP hD hS => ?_)
  refine W.eq (g2 := F0 m 934 ls [.int r]) rfl ?_
  refine lv_aload_n C.1 C.2.1 dw_934 rfl (lv_at hl 1 rfl) ?_
  refine lw_ld (k := 1) C hX hbl (Nat.not_le.mpr hbl) hL hi hl hS dw_935 dw_936 dw_937 dw_938 dw_939 (by decide) (by omega) ?_
  refine lw_ld (k := 2) C hX hbl (Nat.not_le.mpr hbl) hL hi hl hS dw_940 dw_941 dw_942 dw_943 dw_944 (by decide) (by omega) ?_
  refine L_call (md' := md_Mod_feels) (as := [mR 30 0, mI (xs (i + 1)), mI (xs (i + 2))]) (rest := [mI r]) (σ := σ1) (σ1 := σ2) (r := some (mI r)) (d' := 3) C dw_945 (ckV (nn := 2) lk_7_117 ok_Mod_feels rfl rfl rfl) (c_Mod_feels (hF := e2)) (Nat.le_of_ble_eq_true rfl) ⟨by show 3 + 1 ≤ 2048; decide, by show 8 + (3 + 11) + 64 * 3 ≤ 84000; decide⟩ ⟨by decide, by decide⟩ hl.1 (vaN inM30 [xs (i + 1), xs (i + 2)]) hP hD hS (fun H locs hP hD hS => ?_)
  refine W.eq (g2 := F0 m 948 ls [.int r, .int r]) rfl ?_
  refine lv_icmp_eq (tgt := 1501) C.1 C.2.1 dw_948 (by decide) (fun _ => ?_) (fun h => absurd rfl h)
  exact kk σ2 H locs h2 hP hD hS
end LAW
