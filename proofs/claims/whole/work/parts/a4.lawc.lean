/-! ===== the law: its plain cases ===== -/
theorem lc_0 {X : qX} {p : Program} {l : Launch} {e : Env} {s : State} {m : MethodId} {below : List Frame} {meth : Method} {c : Code} {H : Heap} {locs : List Loc} {cells slots : Nat} {b L n : Nat} {xs : Nat → Int32} {M : qM} {ls : Array Slot} (hl9 : l.stackTraces = false) (hV : lV X s s.heap) (hE : qE X p s m #[Value.ref b] c code 8 RL) (hX : lX X b L n xs s) (hH : q_H X M s H locs) (hR : RR M) (hc : cells + 1 ≤ 601024) (hs : slots + 6 ≤ 7293034) (hl : lv_has ls 8 [(4, .int (nI (7 * n))), (3, .ref (X.1 122)), (2, .ref (X.1 91)), (1, .ref (X.1 0)), (0, .ref b)])
    (kk : lK X p l e s m b below meth c cells slots n) : W p l e room_1 s m #[Value.ref b] below meth c H locs cells slots (lw_Z below #[Value.ref b] s) (F0 m 260 ls []) := by
  have hx := hE.1
  have hb := hE.2.1
  obtain ⟨r, M1, M2, e1, e2, hR2⟩ := r_feed hR (xs (7 * n + 1)) (xs (7 * n + 2)) (xs (7 * n + 3)) (xs (7 * n + 4)) (xs (7 * n + 5))
  refine lv_aload_n hx hb dL_law_260 rfl (lv_at hl 3 rfl) ?_
  refine lv_aload_n hx hb dL_law_261 rfl (lv_at hl 4 rfl) ?_
  refine lv_iload hx hb dL_law_262 (lv_at hl 0 rfl) ?_
  refine lv_iconst (v := 1) hx hb dL_law_264 (by decide) ?_
  refine lv_iadd hx hb dL_law_265 ?_
  refine lq_ld (k := 1) hE hX hH rfl (by omega) dL_law_266 ?_
  refine lv_aload_n hx hb dL_law_267 rfl (lv_at hl 4 rfl) ?_
  refine lv_iload hx hb dL_law_268 (lv_at hl 0 rfl) ?_
  refine lv_iconst (v := 2) hx hb dL_law_270 (by decide) ?_
  refine lv_iadd hx hb dL_law_271 ?_
  refine lq_ld (k := 2) hE hX hH rfl (by omega) dL_law_272 ?_
  refine lv_aload_n hx hb dL_law_273 rfl (lv_at hl 4 rfl) ?_
  refine lv_iload hx hb dL_law_274 (lv_at hl 0 rfl) ?_
  refine lv_iconst (v := 3) hx hb dL_law_276 (by decide) ?_
  refine lv_iadd hx hb dL_law_277 ?_
  refine lq_ld (k := 3) hE hX hH rfl (by omega) dL_law_278 ?_
  refine lv_aload_n hx hb dL_law_279 rfl (lv_at hl 4 rfl) ?_
  refine lv_iload hx hb dL_law_280 (lv_at hl 0 rfl) ?_
  refine lv_iconst (v := 4) hx hb dL_law_282 (by decide) ?_
  refine lv_iadd hx hb dL_law_283 ?_
  refine lq_ld (k := 4) hE hX hH rfl (by omega) dL_law_284 ?_
  refine lv_aload_n hx hb dL_law_285 rfl (lv_at hl 4 rfl) ?_
  refine lv_iload hx hb dL_law_286 (lv_at hl 0 rfl) ?_
  refine lv_iconst (v := 5) hx hb dL_law_288 (by decide) ?_
  refine lv_iadd hx hb dL_law_289 ?_
  refine lq_ld (k := 5) hE hX hH rfl (by omega) dL_law_290 ?_
  refine lq_calli (M1 := M1) (lq_runV (As := [.int (xs (7 * n + 1)), .int (xs (7 * n + 2)), .int (xs (7 * n + 3)), .int (xs (7 * n + 4)), .int (xs (7 * n + 5))]) (rest := []) hE hH (tz_X11_feed l X (M := M) (hf := e1)) kv_L_23 qk_0 (by decide) rfl hl.1 rfl (Nat.le_of_ble_eq_true rfl) dL_law_291 (by omega) (by omega)) hH (fun H locs hH => ?_)
  refine lv_aload_n hx hb dL_law_294 rfl (lv_at hl 2 rfl) ?_
  refine lv_aload_n hx hb dL_law_295 rfl (lv_at hl 4 rfl) ?_
  refine lv_iload hx hb dL_law_296 (lv_at hl 0 rfl) ?_
  refine lv_iconst (v := 1) hx hb dL_law_298 (by decide) ?_
  refine lv_iadd hx hb dL_law_299 ?_
  refine lq_ld (k := 1) hE hX hH rfl (by omega) dL_law_300 ?_
  refine lv_aload_n hx hb dL_law_301 rfl (lv_at hl 4 rfl) ?_
  refine lv_iload hx hb dL_law_302 (lv_at hl 0 rfl) ?_
  refine lv_iconst (v := 2) hx hb dL_law_304 (by decide) ?_
  refine lv_iadd hx hb dL_law_305 ?_
  refine lq_ld (k := 2) hE hX hH rfl (by omega) dL_law_306 ?_
  refine lv_aload_n hx hb dL_law_307 rfl (lv_at hl 4 rfl) ?_
  refine lv_iload hx hb dL_law_308 (lv_at hl 0 rfl) ?_
  refine lv_iconst (v := 3) hx hb dL_law_310 (by decide) ?_
  refine lv_iadd hx hb dL_law_311 ?_
  refine lq_ld (k := 3) hE hX hH rfl (by omega) dL_law_312 ?_
  refine lv_aload_n hx hb dL_law_313 rfl (lv_at hl 4 rfl) ?_
  refine lv_iload hx hb dL_law_314 (lv_at hl 0 rfl) ?_
  refine lv_iconst (v := 4) hx hb dL_law_316 (by decide) ?_
  refine lv_iadd hx hb dL_law_317 ?_
  refine lq_ld (k := 4) hE hX hH rfl (by omega) dL_law_318 ?_
  refine lv_aload_n hx hb dL_law_319 rfl (lv_at hl 4 rfl) ?_
  refine lv_iload hx hb dL_law_320 (lv_at hl 0 rfl) ?_
  refine lv_iconst (v := 5) hx hb dL_law_322 (by decide) ?_
  refine lv_iadd hx hb dL_law_323 ?_
  refine lq_ld (k := 5) hE hX hH rfl (by omega) dL_law_324 ?_
  refine lq_calli (M1 := M2) (lq_runV (As := [.int (xs (7 * n + 1)), .int (xs (7 * n + 2)), .int (xs (7 * n + 3)), .int (xs (7 * n + 4)), .int (xs (7 * n + 5))]) (rest := [.int (r)]) hE hH (tz_X12_feed l X (M := M1) (hf := e2)) kv_L_27 qk_91 (by decide) rfl hl.1 rfl (Nat.le_of_ble_eq_true rfl) dL_law_325 (by omega) (by omega)) hH (fun H locs hH => ?_)
  refine lv_icmp_eq (tgt := 2039) hx hb dL_law_328 (by decide) (fun _ => ?_) (fun hc => absurd rfl hc)
  exact W.widen (by omega) (by omega) (kk H locs M2 hH hR2 ls hl)
theorem lc_1 {X : qX} {p : Program} {l : Launch} {e : Env} {s : State} {m : MethodId} {below : List Frame} {meth : Method} {c : Code} {H : Heap} {locs : List Loc} {cells slots : Nat} {b L n : Nat} {xs : Nat → Int32} {M : qM} {ls : Array Slot} (hl9 : l.stackTraces = false) (hV : lV X s s.heap) (hE : qE X p s m #[Value.ref b] c code 8 RL) (hX : lX X b L n xs s) (hH : q_H X M s H locs) (hR : RR M) (hc : cells + 1 ≤ 601024) (hs : slots + 6 ≤ 7293034) (hl : lv_has ls 8 [(4, .int (nI (7 * n))), (3, .ref (X.1 122)), (2, .ref (X.1 91)), (1, .ref (X.1 0)), (0, .ref b)])
    (kk : lK X p l e s m b below meth c cells slots n) : W p l e room_1 s m #[Value.ref b] below meth c H locs cells slots (lw_Z below #[Value.ref b] s) (F0 m 333 ls []) := by
  have hx := hE.1
  have hb := hE.2.1
  obtain ⟨r, M1, M2, e1, e2, hR2⟩ := r_end hR (xs (7 * n + 1))
  refine lv_aload_n hx hb dL_law_333 rfl (lv_at hl 3 rfl) ?_
  refine lv_aload_n hx hb dL_law_334 rfl (lv_at hl 4 rfl) ?_
  refine lv_iload hx hb dL_law_335 (lv_at hl 0 rfl) ?_
  refine lv_iconst (v := 1) hx hb dL_law_337 (by decide) ?_
  refine lv_iadd hx hb dL_law_338 ?_
  refine lq_ld (k := 1) hE hX hH rfl (by omega) dL_law_339 ?_
  refine lq_calli (M1 := M1) (lq_runV (As := [.int (xs (7 * n + 1))]) (rest := []) hE hH (tz_X11_end l X (M := M) (hf := e1)) kv_L_28 qk_0 (by decide) rfl hl.1 rfl (Nat.le_of_ble_eq_true rfl) dL_law_340 (by omega) (by omega)) hH (fun H locs hH => ?_)
  refine lv_aload_n hx hb dL_law_343 rfl (lv_at hl 2 rfl) ?_
  refine lv_aload_n hx hb dL_law_344 rfl (lv_at hl 4 rfl) ?_
  refine lv_iload hx hb dL_law_345 (lv_at hl 0 rfl) ?_
  refine lv_iconst (v := 1) hx hb dL_law_347 (by decide) ?_
  refine lv_iadd hx hb dL_law_348 ?_
  refine lq_ld (k := 1) hE hX hH rfl (by omega) dL_law_349 ?_
  refine lq_calli (M1 := M2) (lq_runV (As := [.int (xs (7 * n + 1))]) (rest := [.int (b2i r)]) hE hH (tz_X12_end l X (M := M1) (hf := e2)) kv_L_32 qk_91 (by decide) rfl hl.1 rfl (Nat.le_of_ble_eq_true rfl) dL_law_350 (by omega) (by omega)) hH (fun H locs hH => ?_)
  refine lv_icmp_eq (tgt := 2039) hx hb dL_law_353 (by decide) (fun _ => ?_) (fun hc => absurd rfl hc)
  exact W.widen (by omega) (by omega) (kk H locs M2 hH hR2 ls hl)
theorem lc_2 {X : qX} {p : Program} {l : Launch} {e : Env} {s : State} {m : MethodId} {below : List Frame} {meth : Method} {c : Code} {H : Heap} {locs : List Loc} {cells slots : Nat} {b L n : Nat} {xs : Nat → Int32} {M : qM} {ls : Array Slot} (hl9 : l.stackTraces = false) (hV : lV X s s.heap) (hE : qE X p s m #[Value.ref b] c code 8 RL) (hX : lX X b L n xs s) (hH : q_H X M s H locs) (hR : RR M) (hc : cells + 1 ≤ 601024) (hs : slots + 6 ≤ 7293034) (hl : lv_has ls 8 [(4, .int (nI (7 * n))), (3, .ref (X.1 122)), (2, .ref (X.1 91)), (1, .ref (X.1 0)), (0, .ref b)])
    (kk : lK X p l e s m b below meth c cells slots n) : W p l e room_1 s m #[Value.ref b] below meth c H locs cells slots (lw_Z below #[Value.ref b] s) (F0 m 358 ls []) := by
  have hx := hE.1
  have hb := hE.2.1
  obtain ⟨r, M1, M2, e1, e2, hR2⟩ := r_fault hR (xs (7 * n + 1))
  refine lv_aload_n hx hb dL_law_358 rfl (lv_at hl 3 rfl) ?_
  refine lv_aload_n hx hb dL_law_359 rfl (lv_at hl 4 rfl) ?_
  refine lv_iload hx hb dL_law_360 (lv_at hl 0 rfl) ?_
  refine lv_iconst (v := 1) hx hb dL_law_362 (by decide) ?_
  refine lv_iadd hx hb dL_law_363 ?_
  refine lq_ld (k := 1) hE hX hH rfl (by omega) dL_law_364 ?_
  refine lq_calli (M1 := M1) (lq_runV (As := [.int (xs (7 * n + 1))]) (rest := []) hE hH (tz_X11_fault l X (M := M) (hf := e1)) kv_L_33 qk_0 (by decide) rfl hl.1 rfl (Nat.le_of_ble_eq_true rfl) dL_law_365 (by omega) (by omega)) hH (fun H locs hH => ?_)
  refine lv_aload_n hx hb dL_law_368 rfl (lv_at hl 2 rfl) ?_
  refine lv_aload_n hx hb dL_law_369 rfl (lv_at hl 4 rfl) ?_
  refine lv_iload hx hb dL_law_370 (lv_at hl 0 rfl) ?_
  refine lv_iconst (v := 1) hx hb dL_law_372 (by decide) ?_
  refine lv_iadd hx hb dL_law_373 ?_
  refine lq_ld (k := 1) hE hX hH rfl (by omega) dL_law_374 ?_
  refine lq_calli (M1 := M2) (lq_runV (As := [.int (xs (7 * n + 1))]) (rest := [.int (r)]) hE hH (tz_X12_fault l X (M := M1) (hf := e2)) kv_L_37 qk_91 (by decide) rfl hl.1 rfl (Nat.le_of_ble_eq_true rfl) dL_law_375 (by omega) (by omega)) hH (fun H locs hH => ?_)
  refine lv_icmp_eq (tgt := 2039) hx hb dL_law_378 (by decide) (fun _ => ?_) (fun hc => absurd rfl hc)
  exact W.widen (by omega) (by omega) (kk H locs M2 hH hR2 ls hl)
theorem lc_3 {X : qX} {p : Program} {l : Launch} {e : Env} {s : State} {m : MethodId} {below : List Frame} {meth : Method} {c : Code} {H : Heap} {locs : List Loc} {cells slots : Nat} {b L n : Nat} {xs : Nat → Int32} {M : qM} {ls : Array Slot} (hl9 : l.stackTraces = false) (hV : lV X s s.heap) (hE : qE X p s m #[Value.ref b] c code 8 RL) (hX : lX X b L n xs s) (hH : q_H X M s H locs) (hR : RR M) (hc : cells + 1 ≤ 601024) (hs : slots + 6 ≤ 7293034) (hl : lv_has ls 8 [(4, .int (nI (7 * n))), (3, .ref (X.1 122)), (2, .ref (X.1 91)), (1, .ref (X.1 0)), (0, .ref b)])
    (kk : lK X p l e s m b below meth c cells slots n) : W p l e room_1 s m #[Value.ref b] below meth c H locs cells slots (lw_Z below #[Value.ref b] s) (F0 m 383 ls []) := by
  have hx := hE.1
  have hb := hE.2.1
  obtain ⟨r, M1, M2, e1, e2, hR2⟩ := r_text hR (xs (7 * n + 1))
  refine lv_aload_n hx hb dL_law_383 rfl (lv_at hl 3 rfl) ?_
  refine lv_aload_n hx hb dL_law_384 rfl (lv_at hl 4 rfl) ?_
  refine lv_iload hx hb dL_law_385 (lv_at hl 0 rfl) ?_
  refine lv_iconst (v := 1) hx hb dL_law_387 (by decide) ?_
  refine lv_iadd hx hb dL_law_388 ?_
  refine lq_ld (k := 1) hE hX hH rfl (by omega) dL_law_389 ?_
  refine lq_calli (M1 := M1) (lq_runV (As := [.int (xs (7 * n + 1))]) (rest := []) hE hH (tz_X11_text l X (M := M) (hf := e1)) kv_L_38 qk_0 (by decide) rfl hl.1 rfl (Nat.le_of_ble_eq_true rfl) dL_law_390 (by omega) (by omega)) hH (fun H locs hH => ?_)
  refine lv_aload_n hx hb dL_law_393 rfl (lv_at hl 2 rfl) ?_
  refine lv_aload_n hx hb dL_law_394 rfl (lv_at hl 4 rfl) ?_
  refine lv_iload hx hb dL_law_395 (lv_at hl 0 rfl) ?_
  refine lv_iconst (v := 1) hx hb dL_law_397 (by decide) ?_
  refine lv_iadd hx hb dL_law_398 ?_
  refine lq_ld (k := 1) hE hX hH rfl (by omega) dL_law_399 ?_
  refine lq_calli (M1 := M2) (lq_runV (As := [.int (xs (7 * n + 1))]) (rest := [.int (r)]) hE hH (tz_X12_text l X (M := M1) (hf := e2)) kv_L_41 qk_91 (by decide) rfl hl.1 rfl (Nat.le_of_ble_eq_true rfl) dL_law_400 (by omega) (by omega)) hH (fun H locs hH => ?_)
  refine lv_icmp_eq (tgt := 2039) hx hb dL_law_403 (by decide) (fun _ => ?_) (fun hc => absurd rfl hc)
  exact W.widen (by omega) (by omega) (kk H locs M2 hH hR2 ls hl)
theorem lc_5 {X : qX} {p : Program} {l : Launch} {e : Env} {s : State} {m : MethodId} {below : List Frame} {meth : Method} {c : Code} {H : Heap} {locs : List Loc} {cells slots : Nat} {b L n : Nat} {xs : Nat → Int32} {M : qM} {ls : Array Slot} (hl9 : l.stackTraces = false) (hV : lV X s s.heap) (hE : qE X p s m #[Value.ref b] c code 8 RL) (hX : lX X b L n xs s) (hH : q_H X M s H locs) (hR : RR M) (hc : cells + 1 ≤ 601024) (hs : slots + 6 ≤ 7293034) (hl : lv_has ls 8 [(4, .int (nI (7 * n))), (3, .ref (X.1 122)), (2, .ref (X.1 91)), (1, .ref (X.1 0)), (0, .ref b)])
    (kk : lK X p l e s m b below meth c cells slots n) : W p l e room_1 s m #[Value.ref b] below meth c H locs cells slots (lw_Z below #[Value.ref b] s) (F0 m 476 ls []) := by
  have hx := hE.1
  have hb := hE.2.1
  obtain ⟨r, e1, e2⟩ := r_thing hR (xs (7 * n + 1)) (xs (7 * n + 2)) (xs (7 * n + 3))
  refine lv_aload_n hx hb dL_law_476 rfl (lv_at hl 3 rfl) ?_
  refine lv_aload_n hx hb dL_law_477 rfl (lv_at hl 4 rfl) ?_
  refine lv_iload hx hb dL_law_478 (lv_at hl 0 rfl) ?_
  refine lv_iconst (v := 1) hx hb dL_law_480 (by decide) ?_
  refine lv_iadd hx hb dL_law_481 ?_
  refine lq_ld (k := 1) hE hX hH rfl (by omega) dL_law_482 ?_
  refine lv_aload_n hx hb dL_law_483 rfl (lv_at hl 4 rfl) ?_
  refine lv_iload hx hb dL_law_484 (lv_at hl 0 rfl) ?_
  refine lv_iconst (v := 2) hx hb dL_law_486 (by decide) ?_
  refine lv_iadd hx hb dL_law_487 ?_
  refine lq_ld (k := 2) hE hX hH rfl (by omega) dL_law_488 ?_
  refine lv_aload_n hx hb dL_law_489 rfl (lv_at hl 4 rfl) ?_
  refine lv_iload hx hb dL_law_490 (lv_at hl 0 rfl) ?_
  refine lv_iconst (v := 3) hx hb dL_law_492 (by decide) ?_
  refine lv_iadd hx hb dL_law_493 ?_
  refine lq_ld (k := 3) hE hX hH rfl (by omega) dL_law_494 ?_
  refine lq_calli (M1 := M) (lq_runV (As := [.int (xs (7 * n + 1)), .int (xs (7 * n + 2)), .int (xs (7 * n + 3))]) (rest := []) hE hH (tz_X11_thing l X (M := M) (hf := e1)) kv_L_52 qk_0 (by decide) rfl hl.1 rfl (Nat.le_of_ble_eq_true rfl) dL_law_495 (by omega) (by omega)) hH (fun H locs hH => ?_)
  refine lv_aload_n hx hb dL_law_498 rfl (lv_at hl 2 rfl) ?_
  refine lv_aload_n hx hb dL_law_499 rfl (lv_at hl 4 rfl) ?_
  refine lv_iload hx hb dL_law_500 (lv_at hl 0 rfl) ?_
  refine lv_iconst (v := 1) hx hb dL_law_502 (by decide) ?_
  refine lv_iadd hx hb dL_law_503 ?_
  refine lq_ld (k := 1) hE hX hH rfl (by omega) dL_law_504 ?_
  refine lv_aload_n hx hb dL_law_505 rfl (lv_at hl 4 rfl) ?_
  refine lv_iload hx hb dL_law_506 (lv_at hl 0 rfl) ?_
  refine lv_iconst (v := 2) hx hb dL_law_508 (by decide) ?_
  refine lv_iadd hx hb dL_law_509 ?_
  refine lq_ld (k := 2) hE hX hH rfl (by omega) dL_law_510 ?_
  refine lv_aload_n hx hb dL_law_511 rfl (lv_at hl 4 rfl) ?_
  refine lv_iload hx hb dL_law_512 (lv_at hl 0 rfl) ?_
  refine lv_iconst (v := 3) hx hb dL_law_514 (by decide) ?_
  refine lv_iadd hx hb dL_law_515 ?_
  refine lq_ld (k := 3) hE hX hH rfl (by omega) dL_law_516 ?_
  refine lq_calli (M1 := M) (lq_runV (As := [.int (xs (7 * n + 1)), .int (xs (7 * n + 2)), .int (xs (7 * n + 3))]) (rest := [.int (r)]) hE hH (tz_X12_thing l X (M := M) (hf := e2)) kv_L_56 qk_91 (by decide) rfl hl.1 rfl (Nat.le_of_ble_eq_true rfl) dL_law_517 (by omega) (by omega)) hH (fun H locs hH => ?_)
  refine lv_icmp_eq (tgt := 2039) hx hb dL_law_520 (by decide) (fun _ => ?_) (fun hc => absurd rfl hc)
  exact W.widen (by omega) (by omega) (kk H locs M hH hR ls hl)
theorem lc_6 {X : qX} {p : Program} {l : Launch} {e : Env} {s : State} {m : MethodId} {below : List Frame} {meth : Method} {c : Code} {H : Heap} {locs : List Loc} {cells slots : Nat} {b L n : Nat} {xs : Nat → Int32} {M : qM} {ls : Array Slot} (hl9 : l.stackTraces = false) (hV : lV X s s.heap) (hE : qE X p s m #[Value.ref b] c code 8 RL) (hX : lX X b L n xs s) (hH : q_H X M s H locs) (hR : RR M) (hc : cells + 1 ≤ 601024) (hs : slots + 6 ≤ 7293034) (hl : lv_has ls 8 [(4, .int (nI (7 * n))), (3, .ref (X.1 122)), (2, .ref (X.1 91)), (1, .ref (X.1 0)), (0, .ref b)])
    (kk : lK X p l e s m b below meth c cells slots n) : W p l e room_1 s m #[Value.ref b] below meth c H locs cells slots (lw_Z below #[Value.ref b] s) (F0 m 525 ls []) := by
  have hx := hE.1
  have hb := hE.2.1
  obtain ⟨r, e1, e2⟩ := r_sort hR (xs (7 * n + 1)) (xs (7 * n + 2)) (xs (7 * n + 3))
  refine lv_aload_n hx hb dL_law_525 rfl (lv_at hl 3 rfl) ?_
  refine lv_aload_n hx hb dL_law_526 rfl (lv_at hl 4 rfl) ?_
  refine lv_iload hx hb dL_law_527 (lv_at hl 0 rfl) ?_
  refine lv_iconst (v := 1) hx hb dL_law_529 (by decide) ?_
  refine lv_iadd hx hb dL_law_530 ?_
  refine lq_ld (k := 1) hE hX hH rfl (by omega) dL_law_531 ?_
  refine lv_aload_n hx hb dL_law_532 rfl (lv_at hl 4 rfl) ?_
  refine lv_iload hx hb dL_law_533 (lv_at hl 0 rfl) ?_
  refine lv_iconst (v := 2) hx hb dL_law_535 (by decide) ?_
  refine lv_iadd hx hb dL_law_536 ?_
  refine lq_ld (k := 2) hE hX hH rfl (by omega) dL_law_537 ?_
  refine lv_aload_n hx hb dL_law_538 rfl (lv_at hl 4 rfl) ?_
  refine lv_iload hx hb dL_law_539 (lv_at hl 0 rfl) ?_
  refine lv_iconst (v := 3) hx hb dL_law_541 (by decide) ?_
  refine lv_iadd hx hb dL_law_542 ?_
  refine lq_ld (k := 3) hE hX hH rfl (by omega) dL_law_543 ?_
  refine lq_calli (M1 := M) (lq_runV (As := [.int (xs (7 * n + 1)), .int (xs (7 * n + 2)), .int (xs (7 * n + 3))]) (rest := []) hE hH (tz_X11_sort l X (M := M) (hf := e1)) kv_L_57 qk_0 (by decide) rfl hl.1 rfl (Nat.le_of_ble_eq_true rfl) dL_law_544 (by omega) (by omega)) hH (fun H locs hH => ?_)
  refine lv_aload_n hx hb dL_law_547 rfl (lv_at hl 2 rfl) ?_
  refine lv_aload_n hx hb dL_law_548 rfl (lv_at hl 4 rfl) ?_
  refine lv_iload hx hb dL_law_549 (lv_at hl 0 rfl) ?_
  refine lv_iconst (v := 1) hx hb dL_law_551 (by decide) ?_
  refine lv_iadd hx hb dL_law_552 ?_
  refine lq_ld (k := 1) hE hX hH rfl (by omega) dL_law_553 ?_
  refine lv_aload_n hx hb dL_law_554 rfl (lv_at hl 4 rfl) ?_
  refine lv_iload hx hb dL_law_555 (lv_at hl 0 rfl) ?_
  refine lv_iconst (v := 2) hx hb dL_law_557 (by decide) ?_
  refine lv_iadd hx hb dL_law_558 ?_
  refine lq_ld (k := 2) hE hX hH rfl (by omega) dL_law_559 ?_
  refine lv_aload_n hx hb dL_law_560 rfl (lv_at hl 4 rfl) ?_
  refine lv_iload hx hb dL_law_561 (lv_at hl 0 rfl) ?_
  refine lv_iconst (v := 3) hx hb dL_law_563 (by decide) ?_
  refine lv_iadd hx hb dL_law_564 ?_
  refine lq_ld (k := 3) hE hX hH rfl (by omega) dL_law_565 ?_
  refine lq_calli (M1 := M) (lq_runV (As := [.int (xs (7 * n + 1)), .int (xs (7 * n + 2)), .int (xs (7 * n + 3))]) (rest := [.int (r)]) hE hH (tz_X12_sort l X (M := M) (hf := e2)) kv_L_60 qk_91 (by decide) rfl hl.1 rfl (Nat.le_of_ble_eq_true rfl) dL_law_566 (by omega) (by omega)) hH (fun H locs hH => ?_)
  refine lv_icmp_eq (tgt := 2039) hx hb dL_law_569 (by decide) (fun _ => ?_) (fun hc => absurd rfl hc)
  exact W.widen (by omega) (by omega) (kk H locs M hH hR ls hl)
theorem lc_7 {X : qX} {p : Program} {l : Launch} {e : Env} {s : State} {m : MethodId} {below : List Frame} {meth : Method} {c : Code} {H : Heap} {locs : List Loc} {cells slots : Nat} {b L n : Nat} {xs : Nat → Int32} {M : qM} {ls : Array Slot} (hl9 : l.stackTraces = false) (hV : lV X s s.heap) (hE : qE X p s m #[Value.ref b] c code 8 RL) (hX : lX X b L n xs s) (hH : q_H X M s H locs) (hR : RR M) (hc : cells + 1 ≤ 601024) (hs : slots + 6 ≤ 7293034) (hl : lv_has ls 8 [(4, .int (nI (7 * n))), (3, .ref (X.1 122)), (2, .ref (X.1 91)), (1, .ref (X.1 0)), (0, .ref b)])
    (kk : lK X p l e s m b below meth c cells slots n) : W p l e room_1 s m #[Value.ref b] below meth c H locs cells slots (lw_Z below #[Value.ref b] s) (F0 m 574 ls []) := by
  have hx := hE.1
  have hb := hE.2.1
  obtain ⟨r, e1, e2⟩ := r_of hR (xs (7 * n + 1)) (xs (7 * n + 2))
  refine lv_aload_n hx hb dL_law_574 rfl (lv_at hl 3 rfl) ?_
  refine lv_aload_n hx hb dL_law_575 rfl (lv_at hl 4 rfl) ?_
  refine lv_iload hx hb dL_law_576 (lv_at hl 0 rfl) ?_
  refine lv_iconst (v := 1) hx hb dL_law_578 (by decide) ?_
  refine lv_iadd hx hb dL_law_579 ?_
  refine lq_ld (k := 1) hE hX hH rfl (by omega) dL_law_580 ?_
  refine lv_aload_n hx hb dL_law_581 rfl (lv_at hl 4 rfl) ?_
  refine lv_iload hx hb dL_law_582 (lv_at hl 0 rfl) ?_
  refine lv_iconst (v := 2) hx hb dL_law_584 (by decide) ?_
  refine lv_iadd hx hb dL_law_585 ?_
  refine lq_ld (k := 2) hE hX hH rfl (by omega) dL_law_586 ?_
  refine lq_calli (M1 := M) (lq_runV (As := [.int (xs (7 * n + 1)), .int (xs (7 * n + 2))]) (rest := []) hE hH (tz_X11_of l X (M := M) (hf := e1)) kv_L_61 qk_0 (by decide) rfl hl.1 rfl (Nat.le_of_ble_eq_true rfl) dL_law_587 (by omega) (by omega)) hH (fun H locs hH => ?_)
  refine lv_aload_n hx hb dL_law_590 rfl (lv_at hl 2 rfl) ?_
  refine lv_aload_n hx hb dL_law_591 rfl (lv_at hl 4 rfl) ?_
  refine lv_iload hx hb dL_law_592 (lv_at hl 0 rfl) ?_
  refine lv_iconst (v := 1) hx hb dL_law_594 (by decide) ?_
  refine lv_iadd hx hb dL_law_595 ?_
  refine lq_ld (k := 1) hE hX hH rfl (by omega) dL_law_596 ?_
  refine lv_aload_n hx hb dL_law_597 rfl (lv_at hl 4 rfl) ?_
  refine lv_iload hx hb dL_law_598 (lv_at hl 0 rfl) ?_
  refine lv_iconst (v := 2) hx hb dL_law_600 (by decide) ?_
  refine lv_iadd hx hb dL_law_601 ?_
  refine lq_ld (k := 2) hE hX hH rfl (by omega) dL_law_602 ?_
  refine lq_calli (M1 := M) (lq_runV (As := [.int (xs (7 * n + 1)), .int (xs (7 * n + 2))]) (rest := [.int (r)]) hE hH (tz_X12_of l X (M := M) (hf := e2)) kv_L_64 qk_91 (by decide) rfl hl.1 rfl (Nat.le_of_ble_eq_true rfl) dL_law_603 (by omega) (by omega)) hH (fun H locs hH => ?_)
  refine lv_icmp_eq (tgt := 2039) hx hb dL_law_606 (by decide) (fun _ => ?_) (fun hc => absurd rfl hc)
  exact W.widen (by omega) (by omega) (kk H locs M hH hR ls hl)
theorem lc_8 {X : qX} {p : Program} {l : Launch} {e : Env} {s : State} {m : MethodId} {below : List Frame} {meth : Method} {c : Code} {H : Heap} {locs : List Loc} {cells slots : Nat} {b L n : Nat} {xs : Nat → Int32} {M : qM} {ls : Array Slot} (hl9 : l.stackTraces = false) (hV : lV X s s.heap) (hE : qE X p s m #[Value.ref b] c code 8 RL) (hX : lX X b L n xs s) (hH : q_H X M s H locs) (hR : RR M) (hc : cells + 1 ≤ 601024) (hs : slots + 6 ≤ 7293034) (hl : lv_has ls 8 [(4, .int (nI (7 * n))), (3, .ref (X.1 122)), (2, .ref (X.1 91)), (1, .ref (X.1 0)), (0, .ref b)])
    (kk : lK X p l e s m b below meth c cells slots n) : W p l e room_1 s m #[Value.ref b] below meth c H locs cells slots (lw_Z below #[Value.ref b] s) (F0 m 611 ls []) := by
  have hx := hE.1
  have hb := hE.2.1
  obtain ⟨r, M1, M2, e1, e2, hR2⟩ := r_way hR (xs (7 * n + 1)) (xs (7 * n + 2))
  refine lv_aload_n hx hb dL_law_611 rfl (lv_at hl 3 rfl) ?_
  refine lv_aload_n hx hb dL_law_612 rfl (lv_at hl 4 rfl) ?_
  refine lv_iload hx hb dL_law_613 (lv_at hl 0 rfl) ?_
  refine lv_iconst (v := 1) hx hb dL_law_615 (by decide) ?_
  refine lv_iadd hx hb dL_law_616 ?_
  refine lq_ld (k := 1) hE hX hH rfl (by omega) dL_law_617 ?_
  refine lv_aload_n hx hb dL_law_618 rfl (lv_at hl 4 rfl) ?_
  refine lv_iload hx hb dL_law_619 (lv_at hl 0 rfl) ?_
  refine lv_iconst (v := 2) hx hb dL_law_621 (by decide) ?_
  refine lv_iadd hx hb dL_law_622 ?_
  refine lq_ld (k := 2) hE hX hH rfl (by omega) dL_law_623 ?_
  refine lq_calli (M1 := M1) (lq_runV (As := [.int (xs (7 * n + 1)), .int (xs (7 * n + 2))]) (rest := []) hE hH (tz_X11_way l X (M := M) (hf := e1)) kv_L_65 qk_0 (by decide) rfl hl.1 rfl (Nat.le_of_ble_eq_true rfl) dL_law_624 (by omega) (by omega)) hH (fun H locs hH => ?_)
  refine lv_aload_n hx hb dL_law_627 rfl (lv_at hl 2 rfl) ?_
  refine lv_aload_n hx hb dL_law_628 rfl (lv_at hl 4 rfl) ?_
  refine lv_iload hx hb dL_law_629 (lv_at hl 0 rfl) ?_
  refine lv_iconst (v := 1) hx hb dL_law_631 (by decide) ?_
  refine lv_iadd hx hb dL_law_632 ?_
  refine lq_ld (k := 1) hE hX hH rfl (by omega) dL_law_633 ?_
  refine lv_aload_n hx hb dL_law_634 rfl (lv_at hl 4 rfl) ?_
  refine lv_iload hx hb dL_law_635 (lv_at hl 0 rfl) ?_
  refine lv_iconst (v := 2) hx hb dL_law_637 (by decide) ?_
  refine lv_iadd hx hb dL_law_638 ?_
  refine lq_ld (k := 2) hE hX hH rfl (by omega) dL_law_639 ?_
  refine lq_calli (M1 := M2) (lq_runV (As := [.int (xs (7 * n + 1)), .int (xs (7 * n + 2))]) (rest := [.int (b2i r)]) hE hH (tz_X12_way l X (M := M1) (hf := e2)) kv_L_69 qk_91 (by decide) rfl hl.1 rfl (Nat.le_of_ble_eq_true rfl) dL_law_640 (by omega) (by omega)) hH (fun H locs hH => ?_)
  refine lv_icmp_eq (tgt := 2039) hx hb dL_law_643 (by decide) (fun _ => ?_) (fun hc => absurd rfl hc)
  exact W.widen (by omega) (by omega) (kk H locs M2 hH hR2 ls hl)
theorem lc_9 {X : qX} {p : Program} {l : Launch} {e : Env} {s : State} {m : MethodId} {below : List Frame} {meth : Method} {c : Code} {H : Heap} {locs : List Loc} {cells slots : Nat} {b L n : Nat} {xs : Nat → Int32} {M : qM} {ls : Array Slot} (hl9 : l.stackTraces = false) (hV : lV X s s.heap) (hE : qE X p s m #[Value.ref b] c code 8 RL) (hX : lX X b L n xs s) (hH : q_H X M s H locs) (hR : RR M) (hc : cells + 1 ≤ 601024) (hs : slots + 6 ≤ 7293034) (hl : lv_has ls 8 [(4, .int (nI (7 * n))), (3, .ref (X.1 122)), (2, .ref (X.1 91)), (1, .ref (X.1 0)), (0, .ref b)])
    (kk : lK X p l e s m b below meth c cells slots n) : W p l e room_1 s m #[Value.ref b] below meth c H locs cells slots (lw_Z below #[Value.ref b] s) (F0 m 648 ls []) := by
  have hx := hE.1
  have hb := hE.2.1
  obtain ⟨r, M1, M2, e1, e2, hR2⟩ := r_start hR (xs (7 * n + 1)) (xs (7 * n + 2)) (xs (7 * n + 3)) (((xs (7 * n + 4)).toInt64 <<< ((32 : Int32).toInt64 &&& 63)) ||| (((xs (7 * n + 5)).toInt64) &&& 4294967295))
  refine lv_aload_n hx hb dL_law_648 rfl (lv_at hl 3 rfl) ?_
  refine lv_aload_n hx hb dL_law_649 rfl (lv_at hl 4 rfl) ?_
  refine lv_iload hx hb dL_law_650 (lv_at hl 0 rfl) ?_
  refine lv_iconst (v := 1) hx hb dL_law_652 (by decide) ?_
  refine lv_iadd hx hb dL_law_653 ?_
  refine lq_ld (k := 1) hE hX hH rfl (by omega) dL_law_654 ?_
  refine lv_aload_n hx hb dL_law_655 rfl (lv_at hl 4 rfl) ?_
  refine lv_iload hx hb dL_law_656 (lv_at hl 0 rfl) ?_
  refine lv_iconst (v := 2) hx hb dL_law_658 (by decide) ?_
  refine lv_iadd hx hb dL_law_659 ?_
  refine lq_ld (k := 2) hE hX hH rfl (by omega) dL_law_660 ?_
  refine lv_aload_n hx hb dL_law_661 rfl (lv_at hl 4 rfl) ?_
  refine lv_iload hx hb dL_law_662 (lv_at hl 0 rfl) ?_
  refine lv_iconst (v := 3) hx hb dL_law_664 (by decide) ?_
  refine lv_iadd hx hb dL_law_665 ?_
  refine lq_ld (k := 3) hE hX hH rfl (by omega) dL_law_666 ?_
  refine lv_aload_n hx hb dL_law_667 rfl (lv_at hl 4 rfl) ?_
  refine lv_iload hx hb dL_law_668 (lv_at hl 0 rfl) ?_
  refine lv_iconst (v := 4) hx hb dL_law_670 (by decide) ?_
  refine lv_iadd hx hb dL_law_671 ?_
  refine lq_ld (k := 4) hE hX hH rfl (by omega) dL_law_672 ?_
  refine lv_i2l hx hb dL_law_673 rfl ?_
  refine lv_bipush (v := 32) hx hb dL_law_674 (by decide) ?_
  refine lv_lshl hx hb dL_law_676 rfl ?_
  refine lv_aload_n hx hb dL_law_677 rfl (lv_at hl 4 rfl) ?_
  refine lv_iload hx hb dL_law_678 (lv_at hl 0 rfl) ?_
  refine lv_iconst (v := 5) hx hb dL_law_680 (by decide) ?_
  refine lv_iadd hx hb dL_law_681 ?_
  refine lq_ld (k := 5) hE hX hH rfl (by omega) dL_law_682 ?_
  refine lv_i2l hx hb dL_law_683 rfl ?_
  refine pz_ldc2 (v := 4294967295) hE (q_in _ 2125 (by decide +kernel) rfl) dL_law_684 ?_
  refine lv_land hx hb dL_law_687 ?_
  refine lv_lor hx hb dL_law_688 ?_
  refine lq_calli (M1 := M1) (lq_runV (As := [.int (xs (7 * n + 1)), .int (xs (7 * n + 2)), .int (xs (7 * n + 3)), .long (((xs (7 * n + 4)).toInt64 <<< ((32 : Int32).toInt64 &&& 63)) ||| (((xs (7 * n + 5)).toInt64) &&& 4294967295))]) (rest := []) hE hH (tz_X11_start l X (M := M) (hf := e1)) kv_L_72 qk_0 (by decide) rfl hl.1 rfl (Nat.le_of_ble_eq_true rfl) dL_law_689 (by omega) (by omega)) hH (fun H locs hH => ?_)
  refine lv_aload_n hx hb dL_law_692 rfl (lv_at hl 2 rfl) ?_
  refine lv_aload_n hx hb dL_law_693 rfl (lv_at hl 4 rfl) ?_
  refine lv_iload hx hb dL_law_694 (lv_at hl 0 rfl) ?_
  refine lv_iconst (v := 1) hx hb dL_law_696 (by decide) ?_
  refine lv_iadd hx hb dL_law_697 ?_
  refine lq_ld (k := 1) hE hX hH rfl (by omega) dL_law_698 ?_
  refine lv_aload_n hx hb dL_law_699 rfl (lv_at hl 4 rfl) ?_
  refine lv_iload hx hb dL_law_700 (lv_at hl 0 rfl) ?_
  refine lv_iconst (v := 2) hx hb dL_law_702 (by decide) ?_
  refine lv_iadd hx hb dL_law_703 ?_
  refine lq_ld (k := 2) hE hX hH rfl (by omega) dL_law_704 ?_
  refine lv_aload_n hx hb dL_law_705 rfl (lv_at hl 4 rfl) ?_
  refine lv_iload hx hb dL_law_706 (lv_at hl 0 rfl) ?_
  refine lv_iconst (v := 3) hx hb dL_law_708 (by decide) ?_
  refine lv_iadd hx hb dL_law_709 ?_
  refine lq_ld (k := 3) hE hX hH rfl (by omega) dL_law_710 ?_
  refine lv_aload_n hx hb dL_law_711 rfl (lv_at hl 4 rfl) ?_
  refine lv_iload hx hb dL_law_712 (lv_at hl 0 rfl) ?_
  refine lv_iconst (v := 4) hx hb dL_law_714 (by decide) ?_
  refine lv_iadd hx hb dL_law_715 ?_
  refine lq_ld (k := 4) hE hX hH rfl (by omega) dL_law_716 ?_
  refine lv_i2l hx hb dL_law_717 rfl ?_
  refine lv_bipush (v := 32) hx hb dL_law_718 (by decide) ?_
  refine lv_lshl hx hb dL_law_720 rfl ?_
  refine lv_aload_n hx hb dL_law_721 rfl (lv_at hl 4 rfl) ?_
  refine lv_iload hx hb dL_law_722 (lv_at hl 0 rfl) ?_
  refine lv_iconst (v := 5) hx hb dL_law_724 (by decide) ?_
  refine lv_iadd hx hb dL_law_725 ?_
  refine lq_ld (k := 5) hE hX hH rfl (by omega) dL_law_726 ?_
  refine lv_i2l hx hb dL_law_727 rfl ?_
  refine pz_ldc2 (v := 4294967295) hE (q_in _ 2125 (by decide +kernel) rfl) dL_law_728 ?_
  refine lv_land hx hb dL_law_731 ?_
  refine lv_lor hx hb dL_law_732 ?_
  refine lq_calli (M1 := M2) (lq_runV (As := [.int (xs (7 * n + 1)), .int (xs (7 * n + 2)), .int (xs (7 * n + 3)), .long (((xs (7 * n + 4)).toInt64 <<< ((32 : Int32).toInt64 &&& 63)) ||| (((xs (7 * n + 5)).toInt64) &&& 4294967295))]) (rest := [.int (b2i r)]) hE hH (tz_X12_start l X (M := M1) (hf := e2)) kv_L_76 qk_91 (by decide) rfl hl.1 rfl (Nat.le_of_ble_eq_true rfl) dL_law_733 (by omega) (by omega)) hH (fun H locs hH => ?_)
  refine lv_icmp_eq (tgt := 2039) hx hb dL_law_736 (by decide) (fun _ => ?_) (fun hc => absurd rfl hc)
  exact W.widen (by omega) (by omega) (kk H locs M2 hH hR2 ls hl)
theorem lc_10 {X : qX} {p : Program} {l : Launch} {e : Env} {s : State} {m : MethodId} {below : List Frame} {meth : Method} {c : Code} {H : Heap} {locs : List Loc} {cells slots : Nat} {b L n : Nat} {xs : Nat → Int32} {M : qM} {ls : Array Slot} (hl9 : l.stackTraces = false) (hV : lV X s s.heap) (hE : qE X p s m #[Value.ref b] c code 8 RL) (hX : lX X b L n xs s) (hH : q_H X M s H locs) (hR : RR M) (hc : cells + 1 ≤ 601024) (hs : slots + 6 ≤ 7293034) (hl : lv_has ls 8 [(4, .int (nI (7 * n))), (3, .ref (X.1 122)), (2, .ref (X.1 91)), (1, .ref (X.1 0)), (0, .ref b)])
    (kk : lK X p l e s m b below meth c cells slots n) : W p l e room_1 s m #[Value.ref b] below meth c H locs cells slots (lw_Z below #[Value.ref b] s) (F0 m 741 ls []) := by
  have hx := hE.1
  have hb := hE.2.1
  obtain ⟨r, M1, M2, e1, e2, hR2⟩ := r_minutes hR (xs (7 * n + 1))
  refine lv_aload_n hx hb dL_law_741 rfl (lv_at hl 3 rfl) ?_
  refine lv_aload_n hx hb dL_law_742 rfl (lv_at hl 4 rfl) ?_
  refine lv_iload hx hb dL_law_743 (lv_at hl 0 rfl) ?_
  refine lv_iconst (v := 1) hx hb dL_law_745 (by decide) ?_
  refine lv_iadd hx hb dL_law_746 ?_
  refine lq_ld (k := 1) hE hX hH rfl (by omega) dL_law_747 ?_
  refine lq_calli (M1 := M1) (lq_runV (As := [.int (xs (7 * n + 1))]) (rest := []) hE hH (tz_X11_minutes l X (M := M) (hf := e1)) kv_L_77 qk_0 (by decide) rfl hl.1 rfl (Nat.le_of_ble_eq_true rfl) dL_law_748 (by omega) (by omega)) hH (fun H locs hH => ?_)
  refine lv_aload_n hx hb dL_law_751 rfl (lv_at hl 2 rfl) ?_
  refine lv_aload_n hx hb dL_law_752 rfl (lv_at hl 4 rfl) ?_
  refine lv_iload hx hb dL_law_753 (lv_at hl 0 rfl) ?_
  refine lv_iconst (v := 1) hx hb dL_law_755 (by decide) ?_
  refine lv_iadd hx hb dL_law_756 ?_
  refine lq_ld (k := 1) hE hX hH rfl (by omega) dL_law_757 ?_
  refine lq_calli (M1 := M2) (lq_runV (As := [.int (xs (7 * n + 1))]) (rest := [.int (r)]) hE hH (tz_X12_minutes l X (M := M1) (hf := e2)) kv_L_80 qk_91 (by decide) rfl hl.1 rfl (Nat.le_of_ble_eq_true rfl) dL_law_758 (by omega) (by omega)) hH (fun H locs hH => ?_)
  refine lv_icmp_eq (tgt := 2039) hx hb dL_law_761 (by decide) (fun _ => ?_) (fun hc => absurd rfl hc)
  exact W.widen (by omega) (by omega) (kk H locs M2 hH hR2 ls hl)
theorem lc_11 {X : qX} {p : Program} {l : Launch} {e : Env} {s : State} {m : MethodId} {below : List Frame} {meth : Method} {c : Code} {H : Heap} {locs : List Loc} {cells slots : Nat} {b L n : Nat} {xs : Nat → Int32} {M : qM} {ls : Array Slot} (hl9 : l.stackTraces = false) (hV : lV X s s.heap) (hE : qE X p s m #[Value.ref b] c code 8 RL) (hX : lX X b L n xs s) (hH : q_H X M s H locs) (hR : RR M) (hc : cells + 1 ≤ 601024) (hs : slots + 6 ≤ 7293034) (hl : lv_has ls 8 [(4, .int (nI (7 * n))), (3, .ref (X.1 122)), (2, .ref (X.1 91)), (1, .ref (X.1 0)), (0, .ref b)])
    (kk : lK X p l e s m b below meth c cells slots n) : W p l e room_1 s m #[Value.ref b] below meth c H locs cells slots (lw_Z below #[Value.ref b] s) (F0 m 766 ls []) := by
  have hx := hE.1
  have hb := hE.2.1
  obtain ⟨r, e1, e2⟩ := r_who hR (xs (7 * n + 1)) (xs (7 * n + 2))
  refine lv_aload_n hx hb dL_law_766 rfl (lv_at hl 3 rfl) ?_
  refine lv_aload_n hx hb dL_law_767 rfl (lv_at hl 4 rfl) ?_
  refine lv_iload hx hb dL_law_768 (lv_at hl 0 rfl) ?_
  refine lv_iconst (v := 1) hx hb dL_law_770 (by decide) ?_
  refine lv_iadd hx hb dL_law_771 ?_
  refine lq_ld (k := 1) hE hX hH rfl (by omega) dL_law_772 ?_
  refine lv_aload_n hx hb dL_law_773 rfl (lv_at hl 4 rfl) ?_
  refine lv_iload hx hb dL_law_774 (lv_at hl 0 rfl) ?_
  refine lv_iconst (v := 2) hx hb dL_law_776 (by decide) ?_
  refine lv_iadd hx hb dL_law_777 ?_
  refine lq_ld (k := 2) hE hX hH rfl (by omega) dL_law_778 ?_
  refine lq_calli (M1 := M) (lq_runV (As := [.int (xs (7 * n + 1)), .int (xs (7 * n + 2))]) (rest := []) hE hH (tz_X11_who l X (M := M) (hf := e1)) kv_L_81 qk_0 (by decide) rfl hl.1 rfl (Nat.le_of_ble_eq_true rfl) dL_law_779 (by omega) (by omega)) hH (fun H locs hH => ?_)
  refine lv_aload_n hx hb dL_law_782 rfl (lv_at hl 2 rfl) ?_
  refine lv_aload_n hx hb dL_law_783 rfl (lv_at hl 4 rfl) ?_
  refine lv_iload hx hb dL_law_784 (lv_at hl 0 rfl) ?_
  refine lv_iconst (v := 1) hx hb dL_law_786 (by decide) ?_
  refine lv_iadd hx hb dL_law_787 ?_
  refine lq_ld (k := 1) hE hX hH rfl (by omega) dL_law_788 ?_
  refine lv_aload_n hx hb dL_law_789 rfl (lv_at hl 4 rfl) ?_
  refine lv_iload hx hb dL_law_790 (lv_at hl 0 rfl) ?_
  refine lv_iconst (v := 2) hx hb dL_law_792 (by decide) ?_
  refine lv_iadd hx hb dL_law_793 ?_
  refine lq_ld (k := 2) hE hX hH rfl (by omega) dL_law_794 ?_
  refine lq_calli (M1 := M) (lq_runV (As := [.int (xs (7 * n + 1)), .int (xs (7 * n + 2))]) (rest := [.int (r)]) hE hH (tz_X12_who l X (M := M) (hf := e2)) kv_L_84 qk_91 (by decide) rfl hl.1 rfl (Nat.le_of_ble_eq_true rfl) dL_law_795 (by omega) (by omega)) hH (fun H locs hH => ?_)
  refine lv_icmp_eq (tgt := 2039) hx hb dL_law_798 (by decide) (fun _ => ?_) (fun hc => absurd rfl hc)
  exact W.widen (by omega) (by omega) (kk H locs M hH hR ls hl)
theorem lc_12 {X : qX} {p : Program} {l : Launch} {e : Env} {s : State} {m : MethodId} {below : List Frame} {meth : Method} {c : Code} {H : Heap} {locs : List Loc} {cells slots : Nat} {b L n : Nat} {xs : Nat → Int32} {M : qM} {ls : Array Slot} (hl9 : l.stackTraces = false) (hV : lV X s s.heap) (hE : qE X p s m #[Value.ref b] c code 8 RL) (hX : lX X b L n xs s) (hH : q_H X M s H locs) (hR : RR M) (hc : cells + 1 ≤ 601024) (hs : slots + 6 ≤ 7293034) (hl : lv_has ls 8 [(4, .int (nI (7 * n))), (3, .ref (X.1 122)), (2, .ref (X.1 91)), (1, .ref (X.1 0)), (0, .ref b)])
    (kk : lK X p l e s m b below meth c cells slots n) : W p l e room_1 s m #[Value.ref b] below meth c H locs cells slots (lw_Z below #[Value.ref b] s) (F0 m 803 ls []) := by
  have hx := hE.1
  have hb := hE.2.1
  obtain ⟨r, e1, e2⟩ := r_about hR (xs (7 * n + 1))
  refine lv_aload_n hx hb dL_law_803 rfl (lv_at hl 3 rfl) ?_
  refine lv_aload_n hx hb dL_law_804 rfl (lv_at hl 4 rfl) ?_
  refine lv_iload hx hb dL_law_805 (lv_at hl 0 rfl) ?_
  refine lv_iconst (v := 1) hx hb dL_law_807 (by decide) ?_
  refine lv_iadd hx hb dL_law_808 ?_
  refine lq_ld (k := 1) hE hX hH rfl (by omega) dL_law_809 ?_
  refine lq_calli (M1 := M) (lq_runV (As := [.int (xs (7 * n + 1))]) (rest := []) hE hH (tz_X11_about l X (M := M) (hf := e1)) kv_L_85 qk_0 (by decide) rfl hl.1 rfl (Nat.le_of_ble_eq_true rfl) dL_law_810 (by omega) (by omega)) hH (fun H locs hH => ?_)
  refine lv_aload_n hx hb dL_law_813 rfl (lv_at hl 2 rfl) ?_
  refine lv_aload_n hx hb dL_law_814 rfl (lv_at hl 4 rfl) ?_
  refine lv_iload hx hb dL_law_815 (lv_at hl 0 rfl) ?_
  refine lv_iconst (v := 1) hx hb dL_law_817 (by decide) ?_
  refine lv_iadd hx hb dL_law_818 ?_
  refine lq_ld (k := 1) hE hX hH rfl (by omega) dL_law_819 ?_
  refine lq_calli (M1 := M) (lq_runV (As := [.int (xs (7 * n + 1))]) (rest := [.int (r)]) hE hH (tz_X12_about l X (M := M) (hf := e2)) kv_L_88 qk_91 (by decide) rfl hl.1 rfl (Nat.le_of_ble_eq_true rfl) dL_law_820 (by omega) (by omega)) hH (fun H locs hH => ?_)
  refine lv_icmp_eq (tgt := 2039) hx hb dL_law_823 (by decide) (fun _ => ?_) (fun hc => absurd rfl hc)
  exact W.widen (by omega) (by omega) (kk H locs M hH hR ls hl)
theorem lc_13 {X : qX} {p : Program} {l : Launch} {e : Env} {s : State} {m : MethodId} {below : List Frame} {meth : Method} {c : Code} {H : Heap} {locs : List Loc} {cells slots : Nat} {b L n : Nat} {xs : Nat → Int32} {M : qM} {ls : Array Slot} (hl9 : l.stackTraces = false) (hV : lV X s s.heap) (hE : qE X p s m #[Value.ref b] c code 8 RL) (hX : lX X b L n xs s) (hH : q_H X M s H locs) (hR : RR M) (hc : cells + 1 ≤ 601024) (hs : slots + 6 ≤ 7293034) (hl : lv_has ls 8 [(4, .int (nI (7 * n))), (3, .ref (X.1 122)), (2, .ref (X.1 91)), (1, .ref (X.1 0)), (0, .ref b)])
    (kk : lK X p l e s m b below meth c cells slots n) : W p l e room_1 s m #[Value.ref b] below meth c H locs cells slots (lw_Z below #[Value.ref b] s) (F0 m 828 ls []) := by
  have hx := hE.1
  have hb := hE.2.1
  obtain ⟨r, M1, M2, e1, e2, hR2⟩ := r_odds hR (xs (7 * n + 1)) (xs (7 * n + 2)) (xs (7 * n + 3))
  refine lv_aload_n hx hb dL_law_828 rfl (lv_at hl 3 rfl) ?_
  refine lv_aload_n hx hb dL_law_829 rfl (lv_at hl 4 rfl) ?_
  refine lv_iload hx hb dL_law_830 (lv_at hl 0 rfl) ?_
  refine lv_iconst (v := 1) hx hb dL_law_832 (by decide) ?_
  refine lv_iadd hx hb dL_law_833 ?_
  refine lq_ld (k := 1) hE hX hH rfl (by omega) dL_law_834 ?_
  refine lv_aload_n hx hb dL_law_835 rfl (lv_at hl 4 rfl) ?_
  refine lv_iload hx hb dL_law_836 (lv_at hl 0 rfl) ?_
  refine lv_iconst (v := 2) hx hb dL_law_838 (by decide) ?_
  refine lv_iadd hx hb dL_law_839 ?_
  refine lq_ld (k := 2) hE hX hH rfl (by omega) dL_law_840 ?_
  refine lv_aload_n hx hb dL_law_841 rfl (lv_at hl 4 rfl) ?_
  refine lv_iload hx hb dL_law_842 (lv_at hl 0 rfl) ?_
  refine lv_iconst (v := 3) hx hb dL_law_844 (by decide) ?_
  refine lv_iadd hx hb dL_law_845 ?_
  refine lq_ld (k := 3) hE hX hH rfl (by omega) dL_law_846 ?_
  refine lq_calli (M1 := M1) (lq_runV (As := [.int (xs (7 * n + 1)), .int (xs (7 * n + 2)), .int (xs (7 * n + 3))]) (rest := []) hE hH (tz_X11_odds l X (M := M) (hf := e1)) kv_L_89 qk_0 (by decide) rfl hl.1 rfl (Nat.le_of_ble_eq_true rfl) dL_law_847 (by omega) (by omega)) hH (fun H locs hH => ?_)
  refine lv_aload_n hx hb dL_law_850 rfl (lv_at hl 2 rfl) ?_
  refine lv_aload_n hx hb dL_law_851 rfl (lv_at hl 4 rfl) ?_
  refine lv_iload hx hb dL_law_852 (lv_at hl 0 rfl) ?_
  refine lv_iconst (v := 1) hx hb dL_law_854 (by decide) ?_
  refine lv_iadd hx hb dL_law_855 ?_
  refine lq_ld (k := 1) hE hX hH rfl (by omega) dL_law_856 ?_
  refine lv_aload_n hx hb dL_law_857 rfl (lv_at hl 4 rfl) ?_
  refine lv_iload hx hb dL_law_858 (lv_at hl 0 rfl) ?_
  refine lv_iconst (v := 2) hx hb dL_law_860 (by decide) ?_
  refine lv_iadd hx hb dL_law_861 ?_
  refine lq_ld (k := 2) hE hX hH rfl (by omega) dL_law_862 ?_
  refine lv_aload_n hx hb dL_law_863 rfl (lv_at hl 4 rfl) ?_
  refine lv_iload hx hb dL_law_864 (lv_at hl 0 rfl) ?_
  refine lv_iconst (v := 3) hx hb dL_law_866 (by decide) ?_
  refine lv_iadd hx hb dL_law_867 ?_
  refine lq_ld (k := 3) hE hX hH rfl (by omega) dL_law_868 ?_
  refine lq_calli (M1 := M2) (lq_runV (As := [.int (xs (7 * n + 1)), .int (xs (7 * n + 2)), .int (xs (7 * n + 3))]) (rest := [.int (r)]) hE hH (tz_X12_odds l X (M := M1) (hf := e2)) kv_L_92 qk_91 (by decide) rfl hl.1 rfl (Nat.le_of_ble_eq_true rfl) dL_law_869 (by omega) (by omega)) hH (fun H locs hH => ?_)
  refine lv_icmp_eq (tgt := 2039) hx hb dL_law_872 (by decide) (fun _ => ?_) (fun hc => absurd rfl hc)
  exact W.widen (by omega) (by omega) (kk H locs M2 hH hR2 ls hl)
theorem lc_14 {X : qX} {p : Program} {l : Launch} {e : Env} {s : State} {m : MethodId} {below : List Frame} {meth : Method} {c : Code} {H : Heap} {locs : List Loc} {cells slots : Nat} {b L n : Nat} {xs : Nat → Int32} {M : qM} {ls : Array Slot} (hl9 : l.stackTraces = false) (hV : lV X s s.heap) (hE : qE X p s m #[Value.ref b] c code 8 RL) (hX : lX X b L n xs s) (hH : q_H X M s H locs) (hR : RR M) (hc : cells + 1 ≤ 601024) (hs : slots + 6 ≤ 7293034) (hl : lv_has ls 8 [(4, .int (nI (7 * n))), (3, .ref (X.1 122)), (2, .ref (X.1 91)), (1, .ref (X.1 0)), (0, .ref b)])
    (kk : lK X p l e s m b below meth c cells slots n) : W p l e room_1 s m #[Value.ref b] below meth c H locs cells slots (lw_Z below #[Value.ref b] s) (F0 m 877 ls []) := by
  have hx := hE.1
  have hb := hE.2.1
  obtain ⟨r, M1, M2, e1, e2, hR2⟩ := r_law hR (xs (7 * n + 1)) (xs (7 * n + 2))
  refine lv_aload_n hx hb dL_law_877 rfl (lv_at hl 3 rfl) ?_
  refine lv_aload_n hx hb dL_law_878 rfl (lv_at hl 4 rfl) ?_
  refine lv_iload hx hb dL_law_879 (lv_at hl 0 rfl) ?_
  refine lv_iconst (v := 1) hx hb dL_law_881 (by decide) ?_
  refine lv_iadd hx hb dL_law_882 ?_
  refine lq_ld (k := 1) hE hX hH rfl (by omega) dL_law_883 ?_
  refine lv_aload_n hx hb dL_law_884 rfl (lv_at hl 4 rfl) ?_
  refine lv_iload hx hb dL_law_885 (lv_at hl 0 rfl) ?_
  refine lv_iconst (v := 2) hx hb dL_law_887 (by decide) ?_
  refine lv_iadd hx hb dL_law_888 ?_
  refine lq_ld (k := 2) hE hX hH rfl (by omega) dL_law_889 ?_
  refine lq_calli (M1 := M1) (lq_runV (As := [.int (xs (7 * n + 1)), .int (xs (7 * n + 2))]) (rest := []) hE hH (tz_X11_law l X (M := M) (hf := e1)) kv_L_93 qk_0 (by decide) rfl hl.1 rfl (Nat.le_of_ble_eq_true rfl) dL_law_890 (by omega) (by omega)) hH (fun H locs hH => ?_)
  refine lv_aload_n hx hb dL_law_893 rfl (lv_at hl 2 rfl) ?_
  refine lv_aload_n hx hb dL_law_894 rfl (lv_at hl 4 rfl) ?_
  refine lv_iload hx hb dL_law_895 (lv_at hl 0 rfl) ?_
  refine lv_iconst (v := 1) hx hb dL_law_897 (by decide) ?_
  refine lv_iadd hx hb dL_law_898 ?_
  refine lq_ld (k := 1) hE hX hH rfl (by omega) dL_law_899 ?_
  refine lv_aload_n hx hb dL_law_900 rfl (lv_at hl 4 rfl) ?_
  refine lv_iload hx hb dL_law_901 (lv_at hl 0 rfl) ?_
  refine lv_iconst (v := 2) hx hb dL_law_903 (by decide) ?_
  refine lv_iadd hx hb dL_law_904 ?_
  refine lq_ld (k := 2) hE hX hH rfl (by omega) dL_law_905 ?_
  refine lq_calli (M1 := M2) (lq_runV (As := [.int (xs (7 * n + 1)), .int (xs (7 * n + 2))]) (rest := [.int (r)]) hE hH (tz_X12_law l X (M := M1) (hf := e2)) kv_L_96 qk_91 (by decide) rfl hl.1 rfl (Nat.le_of_ble_eq_true rfl) dL_law_906 (by omega) (by omega)) hH (fun H locs hH => ?_)
  refine lv_icmp_eq (tgt := 2039) hx hb dL_law_909 (by decide) (fun _ => ?_) (fun hc => absurd rfl hc)
  exact W.widen (by omega) (by omega) (kk H locs M2 hH hR2 ls hl)
theorem lc_15 {X : qX} {p : Program} {l : Launch} {e : Env} {s : State} {m : MethodId} {below : List Frame} {meth : Method} {c : Code} {H : Heap} {locs : List Loc} {cells slots : Nat} {b L n : Nat} {xs : Nat → Int32} {M : qM} {ls : Array Slot} (hl9 : l.stackTraces = false) (hV : lV X s s.heap) (hE : qE X p s m #[Value.ref b] c code 8 RL) (hX : lX X b L n xs s) (hH : q_H X M s H locs) (hR : RR M) (hc : cells + 1 ≤ 601024) (hs : slots + 6 ≤ 7293034) (hl : lv_has ls 8 [(4, .int (nI (7 * n))), (3, .ref (X.1 122)), (2, .ref (X.1 91)), (1, .ref (X.1 0)), (0, .ref b)])
    (kk : lK X p l e s m b below meth c cells slots n) : W p l e room_1 s m #[Value.ref b] below meth c H locs cells slots (lw_Z below #[Value.ref b] s) (F0 m 914 ls []) := by
  have hx := hE.1
  have hb := hE.2.1
  obtain ⟨r, M1, M2, e1, e2, hR2⟩ := r_which hR (xs (7 * n + 1))
  refine lv_aload_n hx hb dL_law_914 rfl (lv_at hl 3 rfl) ?_
  refine lv_aload_n hx hb dL_law_915 rfl (lv_at hl 4 rfl) ?_
  refine lv_iload hx hb dL_law_916 (lv_at hl 0 rfl) ?_
  refine lv_iconst (v := 1) hx hb dL_law_918 (by decide) ?_
  refine lv_iadd hx hb dL_law_919 ?_
  refine lq_ld (k := 1) hE hX hH rfl (by omega) dL_law_920 ?_
  refine lq_calli (M1 := M1) (lq_runV (As := [.int (xs (7 * n + 1))]) (rest := []) hE hH (tz_X11_which l X (M := M) (hf := e1)) kv_L_97 qk_0 (by decide) rfl hl.1 rfl (Nat.le_of_ble_eq_true rfl) dL_law_921 (by omega) (by omega)) hH (fun H locs hH => ?_)
  refine lv_aload_n hx hb dL_law_924 rfl (lv_at hl 2 rfl) ?_
  refine lv_aload_n hx hb dL_law_925 rfl (lv_at hl 4 rfl) ?_
  refine lv_iload hx hb dL_law_926 (lv_at hl 0 rfl) ?_
  refine lv_iconst (v := 1) hx hb dL_law_928 (by decide) ?_
  refine lv_iadd hx hb dL_law_929 ?_
  refine lq_ld (k := 1) hE hX hH rfl (by omega) dL_law_930 ?_
  refine lq_calli (M1 := M2) (lq_runV (As := [.int (xs (7 * n + 1))]) (rest := [.int (r)]) hE hH (tz_X12_which l X (M := M1) (hf := e2)) kv_L_100 qk_91 (by decide) rfl hl.1 rfl (Nat.le_of_ble_eq_true rfl) dL_law_931 (by omega) (by omega)) hH (fun H locs hH => ?_)
  refine lv_icmp_eq (tgt := 2039) hx hb dL_law_934 (by decide) (fun _ => ?_) (fun hc => absurd rfl hc)
  exact W.widen (by omega) (by omega) (kk H locs M2 hH hR2 ls hl)
theorem lc_16 {X : qX} {p : Program} {l : Launch} {e : Env} {s : State} {m : MethodId} {below : List Frame} {meth : Method} {c : Code} {H : Heap} {locs : List Loc} {cells slots : Nat} {b L n : Nat} {xs : Nat → Int32} {M : qM} {ls : Array Slot} (hl9 : l.stackTraces = false) (hV : lV X s s.heap) (hE : qE X p s m #[Value.ref b] c code 8 RL) (hX : lX X b L n xs s) (hH : q_H X M s H locs) (hR : RR M) (hc : cells + 1 ≤ 601024) (hs : slots + 6 ≤ 7293034) (hl : lv_has ls 8 [(4, .int (nI (7 * n))), (3, .ref (X.1 122)), (2, .ref (X.1 91)), (1, .ref (X.1 0)), (0, .ref b)])
    (kk : lK X p l e s m b below meth c cells slots n) : W p l e room_1 s m #[Value.ref b] below meth c H locs cells slots (lw_Z below #[Value.ref b] s) (F0 m 939 ls []) := by
  have hx := hE.1
  have hb := hE.2.1
  obtain ⟨r, M1, M2, e1, e2, hR2⟩ := r_quiet hR (xs (7 * n + 1))
  refine lv_aload_n hx hb dL_law_939 rfl (lv_at hl 3 rfl) ?_
  refine lv_aload_n hx hb dL_law_940 rfl (lv_at hl 4 rfl) ?_
  refine lv_iload hx hb dL_law_941 (lv_at hl 0 rfl) ?_
  refine lv_iconst (v := 1) hx hb dL_law_943 (by decide) ?_
  refine lv_iadd hx hb dL_law_944 ?_
  refine lq_ld (k := 1) hE hX hH rfl (by omega) dL_law_945 ?_
  refine lq_calli (M1 := M1) (lq_runV (As := [.int (xs (7 * n + 1))]) (rest := []) hE hH (tz_X11_quiet l X (M := M) (hf := e1)) kv_L_101 qk_0 (by decide) rfl hl.1 rfl (Nat.le_of_ble_eq_true rfl) dL_law_946 (by omega) (by omega)) hH (fun H locs hH => ?_)
  refine lv_aload_n hx hb dL_law_949 rfl (lv_at hl 2 rfl) ?_
  refine lv_aload_n hx hb dL_law_950 rfl (lv_at hl 4 rfl) ?_
  refine lv_iload hx hb dL_law_951 (lv_at hl 0 rfl) ?_
  refine lv_iconst (v := 1) hx hb dL_law_953 (by decide) ?_
  refine lv_iadd hx hb dL_law_954 ?_
  refine lq_ld (k := 1) hE hX hH rfl (by omega) dL_law_955 ?_
  refine lq_calli (M1 := M2) (lq_runV (As := [.int (xs (7 * n + 1))]) (rest := [.int (r)]) hE hH (tz_X12_quiet l X (M := M1) (hf := e2)) kv_L_104 qk_91 (by decide) rfl hl.1 rfl (Nat.le_of_ble_eq_true rfl) dL_law_956 (by omega) (by omega)) hH (fun H locs hH => ?_)
  refine lv_icmp_eq (tgt := 2039) hx hb dL_law_959 (by decide) (fun _ => ?_) (fun hc => absurd rfl hc)
  exact W.widen (by omega) (by omega) (kk H locs M2 hH hR2 ls hl)
theorem lc_17 {X : qX} {p : Program} {l : Launch} {e : Env} {s : State} {m : MethodId} {below : List Frame} {meth : Method} {c : Code} {H : Heap} {locs : List Loc} {cells slots : Nat} {b L n : Nat} {xs : Nat → Int32} {M : qM} {ls : Array Slot} (hl9 : l.stackTraces = false) (hV : lV X s s.heap) (hE : qE X p s m #[Value.ref b] c code 8 RL) (hX : lX X b L n xs s) (hH : q_H X M s H locs) (hR : RR M) (hc : cells + 1 ≤ 601024) (hs : slots + 6 ≤ 7293034) (hl : lv_has ls 8 [(4, .int (nI (7 * n))), (3, .ref (X.1 122)), (2, .ref (X.1 91)), (1, .ref (X.1 0)), (0, .ref b)])
    (kk : lK X p l e s m b below meth c cells slots n) : W p l e room_1 s m #[Value.ref b] below meth c H locs cells slots (lw_Z below #[Value.ref b] s) (F0 m 964 ls []) := by
  have hx := hE.1
  have hb := hE.2.1
  obtain ⟨r, M1, M2, e1, e2, hR2⟩ := r_pay hR (xs (7 * n + 1)) (xs (7 * n + 2)) (xs (7 * n + 3))
  refine lv_aload_n hx hb dL_law_964 rfl (lv_at hl 3 rfl) ?_
  refine lv_aload_n hx hb dL_law_965 rfl (lv_at hl 4 rfl) ?_
  refine lv_iload hx hb dL_law_966 (lv_at hl 0 rfl) ?_
  refine lv_iconst (v := 1) hx hb dL_law_968 (by decide) ?_
  refine lv_iadd hx hb dL_law_969 ?_
  refine lq_ld (k := 1) hE hX hH rfl (by omega) dL_law_970 ?_
  refine lv_aload_n hx hb dL_law_971 rfl (lv_at hl 4 rfl) ?_
  refine lv_iload hx hb dL_law_972 (lv_at hl 0 rfl) ?_
  refine lv_iconst (v := 2) hx hb dL_law_974 (by decide) ?_
  refine lv_iadd hx hb dL_law_975 ?_
  refine lq_ld (k := 2) hE hX hH rfl (by omega) dL_law_976 ?_
  refine lv_aload_n hx hb dL_law_977 rfl (lv_at hl 4 rfl) ?_
  refine lv_iload hx hb dL_law_978 (lv_at hl 0 rfl) ?_
  refine lv_iconst (v := 3) hx hb dL_law_980 (by decide) ?_
  refine lv_iadd hx hb dL_law_981 ?_
  refine lq_ld (k := 3) hE hX hH rfl (by omega) dL_law_982 ?_
  refine lq_calli (M1 := M1) (lq_runV (As := [.int (xs (7 * n + 1)), .int (xs (7 * n + 2)), .int (xs (7 * n + 3))]) (rest := []) hE hH (tz_X11_pay l X (M := M) (hf := e1)) kv_L_105 qk_0 (by decide) rfl hl.1 rfl (Nat.le_of_ble_eq_true rfl) dL_law_983 (by omega) (by omega)) hH (fun H locs hH => ?_)
  refine lv_aload_n hx hb dL_law_986 rfl (lv_at hl 2 rfl) ?_
  refine lv_aload_n hx hb dL_law_987 rfl (lv_at hl 4 rfl) ?_
  refine lv_iload hx hb dL_law_988 (lv_at hl 0 rfl) ?_
  refine lv_iconst (v := 1) hx hb dL_law_990 (by decide) ?_
  refine lv_iadd hx hb dL_law_991 ?_
  refine lq_ld (k := 1) hE hX hH rfl (by omega) dL_law_992 ?_
  refine lv_aload_n hx hb dL_law_993 rfl (lv_at hl 4 rfl) ?_
  refine lv_iload hx hb dL_law_994 (lv_at hl 0 rfl) ?_
  refine lv_iconst (v := 2) hx hb dL_law_996 (by decide) ?_
  refine lv_iadd hx hb dL_law_997 ?_
  refine lq_ld (k := 2) hE hX hH rfl (by omega) dL_law_998 ?_
  refine lv_aload_n hx hb dL_law_999 rfl (lv_at hl 4 rfl) ?_
  refine lv_iload hx hb dL_law_1000 (lv_at hl 0 rfl) ?_
  refine lv_iconst (v := 3) hx hb dL_law_1002 (by decide) ?_
  refine lv_iadd hx hb dL_law_1003 ?_
  refine lq_ld (k := 3) hE hX hH rfl (by omega) dL_law_1004 ?_
  refine lq_calli (M1 := M2) (lq_runV (As := [.int (xs (7 * n + 1)), .int (xs (7 * n + 2)), .int (xs (7 * n + 3))]) (rest := [.int (r)]) hE hH (tz_X12_pay l X (M := M1) (hf := e2)) kv_L_108 qk_91 (by decide) rfl hl.1 rfl (Nat.le_of_ble_eq_true rfl) dL_law_1005 (by omega) (by omega)) hH (fun H locs hH => ?_)
  refine lv_icmp_eq (tgt := 2039) hx hb dL_law_1008 (by decide) (fun _ => ?_) (fun hc => absurd rfl hc)
  exact W.widen (by omega) (by omega) (kk H locs M2 hH hR2 ls hl)
theorem lc_18 {X : qX} {p : Program} {l : Launch} {e : Env} {s : State} {m : MethodId} {below : List Frame} {meth : Method} {c : Code} {H : Heap} {locs : List Loc} {cells slots : Nat} {b L n : Nat} {xs : Nat → Int32} {M : qM} {ls : Array Slot} (hl9 : l.stackTraces = false) (hV : lV X s s.heap) (hE : qE X p s m #[Value.ref b] c code 8 RL) (hX : lX X b L n xs s) (hH : q_H X M s H locs) (hR : RR M) (hc : cells + 1 ≤ 601024) (hs : slots + 6 ≤ 7293034) (hl : lv_has ls 8 [(4, .int (nI (7 * n))), (3, .ref (X.1 122)), (2, .ref (X.1 91)), (1, .ref (X.1 0)), (0, .ref b)])
    (kk : lK X p l e s m b below meth c cells slots n) : W p l e room_1 s m #[Value.ref b] below meth c H locs cells slots (lw_Z below #[Value.ref b] s) (F0 m 1013 ls []) := by
  have hx := hE.1
  have hb := hE.2.1
  obtain ⟨r, M1, M2, e1, e2, hR2⟩ := r_price hR (xs (7 * n + 1)) (xs (7 * n + 2))
  refine lv_aload_n hx hb dL_law_1013 rfl (lv_at hl 3 rfl) ?_
  refine lv_aload_n hx hb dL_law_1014 rfl (lv_at hl 4 rfl) ?_
  refine lv_iload hx hb dL_law_1015 (lv_at hl 0 rfl) ?_
  refine lv_iconst (v := 1) hx hb dL_law_1017 (by decide) ?_
  refine lv_iadd hx hb dL_law_1018 ?_
  refine lq_ld (k := 1) hE hX hH rfl (by omega) dL_law_1019 ?_
  refine lv_aload_n hx hb dL_law_1020 rfl (lv_at hl 4 rfl) ?_
  refine lv_iload hx hb dL_law_1021 (lv_at hl 0 rfl) ?_
  refine lv_iconst (v := 2) hx hb dL_law_1023 (by decide) ?_
  refine lv_iadd hx hb dL_law_1024 ?_
  refine lq_ld (k := 2) hE hX hH rfl (by omega) dL_law_1025 ?_
  refine lq_calli (M1 := M1) (lq_runV (As := [.int (xs (7 * n + 1)), .int (xs (7 * n + 2))]) (rest := []) hE hH (tz_X11_price l X (M := M) (hf := e1)) kv_L_109 qk_0 (by decide) rfl hl.1 rfl (Nat.le_of_ble_eq_true rfl) dL_law_1026 (by omega) (by omega)) hH (fun H locs hH => ?_)
  refine lv_aload_n hx hb dL_law_1029 rfl (lv_at hl 2 rfl) ?_
  refine lv_aload_n hx hb dL_law_1030 rfl (lv_at hl 4 rfl) ?_
  refine lv_iload hx hb dL_law_1031 (lv_at hl 0 rfl) ?_
  refine lv_iconst (v := 1) hx hb dL_law_1033 (by decide) ?_
  refine lv_iadd hx hb dL_law_1034 ?_
  refine lq_ld (k := 1) hE hX hH rfl (by omega) dL_law_1035 ?_
  refine lv_aload_n hx hb dL_law_1036 rfl (lv_at hl 4 rfl) ?_
  refine lv_iload hx hb dL_law_1037 (lv_at hl 0 rfl) ?_
  refine lv_iconst (v := 2) hx hb dL_law_1039 (by decide) ?_
  refine lv_iadd hx hb dL_law_1040 ?_
  refine lq_ld (k := 2) hE hX hH rfl (by omega) dL_law_1041 ?_
  refine lq_calli (M1 := M2) (lq_runV (As := [.int (xs (7 * n + 1)), .int (xs (7 * n + 2))]) (rest := [.int (r)]) hE hH (tz_X12_price l X (M := M1) (hf := e2)) kv_L_112 qk_91 (by decide) rfl hl.1 rfl (Nat.le_of_ble_eq_true rfl) dL_law_1042 (by omega) (by omega)) hH (fun H locs hH => ?_)
  refine lv_icmp_eq (tgt := 2039) hx hb dL_law_1045 (by decide) (fun _ => ?_) (fun hc => absurd rfl hc)
  exact W.widen (by omega) (by omega) (kk H locs M2 hH hR2 ls hl)
theorem lc_19 {X : qX} {p : Program} {l : Launch} {e : Env} {s : State} {m : MethodId} {below : List Frame} {meth : Method} {c : Code} {H : Heap} {locs : List Loc} {cells slots : Nat} {b L n : Nat} {xs : Nat → Int32} {M : qM} {ls : Array Slot} (hl9 : l.stackTraces = false) (hV : lV X s s.heap) (hE : qE X p s m #[Value.ref b] c code 8 RL) (hX : lX X b L n xs s) (hH : q_H X M s H locs) (hR : RR M) (hc : cells + 1 ≤ 601024) (hs : slots + 6 ≤ 7293034) (hl : lv_has ls 8 [(4, .int (nI (7 * n))), (3, .ref (X.1 122)), (2, .ref (X.1 91)), (1, .ref (X.1 0)), (0, .ref b)])
    (kk : lK X p l e s m b below meth c cells slots n) : W p l e room_1 s m #[Value.ref b] below meth c H locs cells slots (lw_Z below #[Value.ref b] s) (F0 m 1050 ls []) := by
  have hx := hE.1
  have hb := hE.2.1
  obtain ⟨r, M1, M2, e1, e2, hR2⟩ := r_strangers hR (xs (7 * n + 1)) (xs (7 * n + 2))
  refine lv_aload_n hx hb dL_law_1050 rfl (lv_at hl 3 rfl) ?_
  refine lv_aload_n hx hb dL_law_1051 rfl (lv_at hl 4 rfl) ?_
  refine lv_iload hx hb dL_law_1052 (lv_at hl 0 rfl) ?_
  refine lv_iconst (v := 1) hx hb dL_law_1054 (by decide) ?_
  refine lv_iadd hx hb dL_law_1055 ?_
  refine lq_ld (k := 1) hE hX hH rfl (by omega) dL_law_1056 ?_
  refine lv_aload_n hx hb dL_law_1057 rfl (lv_at hl 4 rfl) ?_
  refine lv_iload hx hb dL_law_1058 (lv_at hl 0 rfl) ?_
  refine lv_iconst (v := 2) hx hb dL_law_1060 (by decide) ?_
  refine lv_iadd hx hb dL_law_1061 ?_
  refine lq_ld (k := 2) hE hX hH rfl (by omega) dL_law_1062 ?_
  refine lq_calli (M1 := M1) (lq_runV (As := [.int (xs (7 * n + 1)), .int (xs (7 * n + 2))]) (rest := []) hE hH (tz_X11_strangers l X (M := M) (hf := e1)) kv_L_113 qk_0 (by decide) rfl hl.1 rfl (Nat.le_of_ble_eq_true rfl) dL_law_1063 (by omega) (by omega)) hH (fun H locs hH => ?_)
  refine lv_aload_n hx hb dL_law_1066 rfl (lv_at hl 2 rfl) ?_
  refine lv_aload_n hx hb dL_law_1067 rfl (lv_at hl 4 rfl) ?_
  refine lv_iload hx hb dL_law_1068 (lv_at hl 0 rfl) ?_
  refine lv_iconst (v := 1) hx hb dL_law_1070 (by decide) ?_
  refine lv_iadd hx hb dL_law_1071 ?_
  refine lq_ld (k := 1) hE hX hH rfl (by omega) dL_law_1072 ?_
  refine lv_aload_n hx hb dL_law_1073 rfl (lv_at hl 4 rfl) ?_
  refine lv_iload hx hb dL_law_1074 (lv_at hl 0 rfl) ?_
  refine lv_iconst (v := 2) hx hb dL_law_1076 (by decide) ?_
  refine lv_iadd hx hb dL_law_1077 ?_
  refine lq_ld (k := 2) hE hX hH rfl (by omega) dL_law_1078 ?_
  refine lq_calli (M1 := M2) (lq_runV (As := [.int (xs (7 * n + 1)), .int (xs (7 * n + 2))]) (rest := [.int (r)]) hE hH (tz_X12_strangers l X (M := M1) (hf := e2)) kv_L_116 qk_91 (by decide) rfl hl.1 rfl (Nat.le_of_ble_eq_true rfl) dL_law_1079 (by omega) (by omega)) hH (fun H locs hH => ?_)
  refine lv_icmp_eq (tgt := 2039) hx hb dL_law_1082 (by decide) (fun _ => ?_) (fun hc => absurd rfl hc)
  exact W.widen (by omega) (by omega) (kk H locs M2 hH hR2 ls hl)
theorem lc_20 {X : qX} {p : Program} {l : Launch} {e : Env} {s : State} {m : MethodId} {below : List Frame} {meth : Method} {c : Code} {H : Heap} {locs : List Loc} {cells slots : Nat} {b L n : Nat} {xs : Nat → Int32} {M : qM} {ls : Array Slot} (hl9 : l.stackTraces = false) (hV : lV X s s.heap) (hE : qE X p s m #[Value.ref b] c code 8 RL) (hX : lX X b L n xs s) (hH : q_H X M s H locs) (hR : RR M) (hc : cells + 1 ≤ 601024) (hs : slots + 6 ≤ 7293034) (hl : lv_has ls 8 [(4, .int (nI (7 * n))), (3, .ref (X.1 122)), (2, .ref (X.1 91)), (1, .ref (X.1 0)), (0, .ref b)])
    (kk : lK X p l e s m b below meth c cells slots n) : W p l e room_1 s m #[Value.ref b] below meth c H locs cells slots (lw_Z below #[Value.ref b] s) (F0 m 1087 ls []) := by
  have hx := hE.1
  have hb := hE.2.1
  obtain ⟨r, M1, M2, e1, e2, hR2⟩ := r_row hR (xs (7 * n + 1)) (xs (7 * n + 2)) (xs (7 * n + 3)) (xs (7 * n + 4)) (xs (7 * n + 5)) (xs (7 * n + 6))
  refine lv_aload_n hx hb dL_law_1087 rfl (lv_at hl 3 rfl) ?_
  refine lv_aload_n hx hb dL_law_1088 rfl (lv_at hl 4 rfl) ?_
  refine lv_iload hx hb dL_law_1089 (lv_at hl 0 rfl) ?_
  refine lv_iconst (v := 1) hx hb dL_law_1091 (by decide) ?_
  refine lv_iadd hx hb dL_law_1092 ?_
  refine lq_ld (k := 1) hE hX hH rfl (by omega) dL_law_1093 ?_
  refine lv_aload_n hx hb dL_law_1094 rfl (lv_at hl 4 rfl) ?_
  refine lv_iload hx hb dL_law_1095 (lv_at hl 0 rfl) ?_
  refine lv_iconst (v := 2) hx hb dL_law_1097 (by decide) ?_
  refine lv_iadd hx hb dL_law_1098 ?_
  refine lq_ld (k := 2) hE hX hH rfl (by omega) dL_law_1099 ?_
  refine lv_aload_n hx hb dL_law_1100 rfl (lv_at hl 4 rfl) ?_
  refine lv_iload hx hb dL_law_1101 (lv_at hl 0 rfl) ?_
  refine lv_iconst (v := 3) hx hb dL_law_1103 (by decide) ?_
  refine lv_iadd hx hb dL_law_1104 ?_
  refine lq_ld (k := 3) hE hX hH rfl (by omega) dL_law_1105 ?_
  refine lv_aload_n hx hb dL_law_1106 rfl (lv_at hl 4 rfl) ?_
  refine lv_iload hx hb dL_law_1107 (lv_at hl 0 rfl) ?_
  refine lv_iconst (v := 4) hx hb dL_law_1109 (by decide) ?_
  refine lv_iadd hx hb dL_law_1110 ?_
  refine lq_ld (k := 4) hE hX hH rfl (by omega) dL_law_1111 ?_
  refine lv_aload_n hx hb dL_law_1112 rfl (lv_at hl 4 rfl) ?_
  refine lv_iload hx hb dL_law_1113 (lv_at hl 0 rfl) ?_
  refine lv_iconst (v := 5) hx hb dL_law_1115 (by decide) ?_
  refine lv_iadd hx hb dL_law_1116 ?_
  refine lq_ld (k := 5) hE hX hH rfl (by omega) dL_law_1117 ?_
  refine lv_aload_n hx hb dL_law_1118 rfl (lv_at hl 4 rfl) ?_
  refine lv_iload hx hb dL_law_1119 (lv_at hl 0 rfl) ?_
  refine lv_bipush (v := 6) hx hb dL_law_1121 (by decide) ?_
  refine lv_iadd hx hb dL_law_1123 ?_
  refine lq_ld (k := 6) hE hX hH rfl (by omega) dL_law_1124 ?_
  refine lq_calli (M1 := M1) (lq_runV (As := [.int (xs (7 * n + 1)), .int (xs (7 * n + 2)), .int (xs (7 * n + 3)), .int (xs (7 * n + 4)), .int (xs (7 * n + 5)), .int (xs (7 * n + 6))]) (rest := []) hE hH (tz_X11_row l X (M := M) (hf := e1)) kv_L_117 qk_0 (by decide) rfl hl.1 rfl (Nat.le_of_ble_eq_true rfl) dL_law_1125 (by omega) (by omega)) hH (fun H locs hH => ?_)
  refine lv_aload_n hx hb dL_law_1128 rfl (lv_at hl 2 rfl) ?_
  refine lv_aload_n hx hb dL_law_1129 rfl (lv_at hl 4 rfl) ?_
  refine lv_iload hx hb dL_law_1130 (lv_at hl 0 rfl) ?_
  refine lv_iconst (v := 1) hx hb dL_law_1132 (by decide) ?_
  refine lv_iadd hx hb dL_law_1133 ?_
  refine lq_ld (k := 1) hE hX hH rfl (by omega) dL_law_1134 ?_
  refine lv_aload_n hx hb dL_law_1135 rfl (lv_at hl 4 rfl) ?_
  refine lv_iload hx hb dL_law_1136 (lv_at hl 0 rfl) ?_
  refine lv_iconst (v := 2) hx hb dL_law_1138 (by decide) ?_
  refine lv_iadd hx hb dL_law_1139 ?_
  refine lq_ld (k := 2) hE hX hH rfl (by omega) dL_law_1140 ?_
  refine lv_aload_n hx hb dL_law_1141 rfl (lv_at hl 4 rfl) ?_
  refine lv_iload hx hb dL_law_1142 (lv_at hl 0 rfl) ?_
  refine lv_iconst (v := 3) hx hb dL_law_1144 (by decide) ?_
  refine lv_iadd hx hb dL_law_1145 ?_
  refine lq_ld (k := 3) hE hX hH rfl (by omega) dL_law_1146 ?_
  refine lv_aload_n hx hb dL_law_1147 rfl (lv_at hl 4 rfl) ?_
  refine lv_iload hx hb dL_law_1148 (lv_at hl 0 rfl) ?_
  refine lv_iconst (v := 4) hx hb dL_law_1150 (by decide) ?_
  refine lv_iadd hx hb dL_law_1151 ?_
  refine lq_ld (k := 4) hE hX hH rfl (by omega) dL_law_1152 ?_
  refine lv_aload_n hx hb dL_law_1153 rfl (lv_at hl 4 rfl) ?_
  refine lv_iload hx hb dL_law_1154 (lv_at hl 0 rfl) ?_
  refine lv_iconst (v := 5) hx hb dL_law_1156 (by decide) ?_
  refine lv_iadd hx hb dL_law_1157 ?_
  refine lq_ld (k := 5) hE hX hH rfl (by omega) dL_law_1158 ?_
  refine lv_aload_n hx hb dL_law_1159 rfl (lv_at hl 4 rfl) ?_
  refine lv_iload hx hb dL_law_1160 (lv_at hl 0 rfl) ?_
  refine lv_bipush (v := 6) hx hb dL_law_1162 (by decide) ?_
  refine lv_iadd hx hb dL_law_1164 ?_
  refine lq_ld (k := 6) hE hX hH rfl (by omega) dL_law_1165 ?_
  refine lq_calli (M1 := M2) (lq_runV (As := [.int (xs (7 * n + 1)), .int (xs (7 * n + 2)), .int (xs (7 * n + 3)), .int (xs (7 * n + 4)), .int (xs (7 * n + 5)), .int (xs (7 * n + 6))]) (rest := [.int (b2i r)]) hE hH (tz_X12_row l X (M := M1) (hf := e2)) kv_L_121 qk_91 (by decide) rfl hl.1 rfl (Nat.le_of_ble_eq_true rfl) dL_law_1166 (by omega) (by omega)) hH (fun H locs hH => ?_)
  refine lv_icmp_eq (tgt := 2039) hx hb dL_law_1169 (by decide) (fun _ => ?_) (fun hc => absurd rfl hc)
  exact W.widen (by omega) (by omega) (kk H locs M2 hH hR2 ls hl)
theorem lc_21 {X : qX} {p : Program} {l : Launch} {e : Env} {s : State} {m : MethodId} {below : List Frame} {meth : Method} {c : Code} {H : Heap} {locs : List Loc} {cells slots : Nat} {b L n : Nat} {xs : Nat → Int32} {M : qM} {ls : Array Slot} (hl9 : l.stackTraces = false) (hV : lV X s s.heap) (hE : qE X p s m #[Value.ref b] c code 8 RL) (hX : lX X b L n xs s) (hH : q_H X M s H locs) (hR : RR M) (hc : cells + 1 ≤ 601024) (hs : slots + 6 ≤ 7293034) (hl : lv_has ls 8 [(4, .int (nI (7 * n))), (3, .ref (X.1 122)), (2, .ref (X.1 91)), (1, .ref (X.1 0)), (0, .ref b)])
    (kk : lK X p l e s m b below meth c cells slots n) : W p l e room_1 s m #[Value.ref b] below meth c H locs cells slots (lw_Z below #[Value.ref b] s) (F0 m 1174 ls []) := by
  have hx := hE.1
  have hb := hE.2.1
  obtain ⟨r, M1, M2, e1, e2, hR2⟩ := r_chance hR (xs (7 * n + 1)) (xs (7 * n + 2))
  refine lv_aload_n hx hb dL_law_1174 rfl (lv_at hl 3 rfl) ?_
  refine lv_aload_n hx hb dL_law_1175 rfl (lv_at hl 4 rfl) ?_
  refine lv_iload hx hb dL_law_1176 (lv_at hl 0 rfl) ?_
  refine lv_iconst (v := 1) hx hb dL_law_1178 (by decide) ?_
  refine lv_iadd hx hb dL_law_1179 ?_
  refine lq_ld (k := 1) hE hX hH rfl (by omega) dL_law_1180 ?_
  refine lv_aload_n hx hb dL_law_1181 rfl (lv_at hl 4 rfl) ?_
  refine lv_iload hx hb dL_law_1182 (lv_at hl 0 rfl) ?_
  refine lv_iconst (v := 2) hx hb dL_law_1184 (by decide) ?_
  refine lv_iadd hx hb dL_law_1185 ?_
  refine lq_ld (k := 2) hE hX hH rfl (by omega) dL_law_1186 ?_
  refine lq_calli (M1 := M1) (lq_runV (As := [.int (xs (7 * n + 1)), .int (xs (7 * n + 2))]) (rest := []) hE hH (tz_X11_chance l X (M := M) (hf := e1)) kv_L_122 qk_0 (by decide) rfl hl.1 rfl (Nat.le_of_ble_eq_true rfl) dL_law_1187 (by omega) (by omega)) hH (fun H locs hH => ?_)
  refine lv_aload_n hx hb dL_law_1190 rfl (lv_at hl 2 rfl) ?_
  refine lv_aload_n hx hb dL_law_1191 rfl (lv_at hl 4 rfl) ?_
  refine lv_iload hx hb dL_law_1192 (lv_at hl 0 rfl) ?_
  refine lv_iconst (v := 1) hx hb dL_law_1194 (by decide) ?_
  refine lv_iadd hx hb dL_law_1195 ?_
  refine lq_ld (k := 1) hE hX hH rfl (by omega) dL_law_1196 ?_
  refine lv_aload_n hx hb dL_law_1197 rfl (lv_at hl 4 rfl) ?_
  refine lv_iload hx hb dL_law_1198 (lv_at hl 0 rfl) ?_
  refine lv_iconst (v := 2) hx hb dL_law_1200 (by decide) ?_
  refine lv_iadd hx hb dL_law_1201 ?_
  refine lq_ld (k := 2) hE hX hH rfl (by omega) dL_law_1202 ?_
  refine lq_calli (M1 := M2) (lq_runV (As := [.int (xs (7 * n + 1)), .int (xs (7 * n + 2))]) (rest := [.int (b2i r)]) hE hH (tz_X12_chance l X (M := M1) (hf := e2)) kv_L_125 qk_91 (by decide) rfl hl.1 rfl (Nat.le_of_ble_eq_true rfl) dL_law_1203 (by omega) (by omega)) hH (fun H locs hH => ?_)
  refine lv_icmp_eq (tgt := 2039) hx hb dL_law_1206 (by decide) (fun _ => ?_) (fun hc => absurd rfl hc)
  exact W.widen (by omega) (by omega) (kk H locs M2 hH hR2 ls hl)
theorem lc_22 {X : qX} {p : Program} {l : Launch} {e : Env} {s : State} {m : MethodId} {below : List Frame} {meth : Method} {c : Code} {H : Heap} {locs : List Loc} {cells slots : Nat} {b L n : Nat} {xs : Nat → Int32} {M : qM} {ls : Array Slot} (hl9 : l.stackTraces = false) (hV : lV X s s.heap) (hE : qE X p s m #[Value.ref b] c code 8 RL) (hX : lX X b L n xs s) (hH : q_H X M s H locs) (hR : RR M) (hc : cells + 1 ≤ 601024) (hs : slots + 6 ≤ 7293034) (hl : lv_has ls 8 [(4, .int (nI (7 * n))), (3, .ref (X.1 122)), (2, .ref (X.1 91)), (1, .ref (X.1 0)), (0, .ref b)])
    (kk : lK X p l e s m b below meth c cells slots n) : W p l e room_1 s m #[Value.ref b] below meth c H locs cells slots (lw_Z below #[Value.ref b] s) (F0 m 1211 ls []) := by
  have hx := hE.1
  have hb := hE.2.1
  obtain ⟨r, M1, M2, e1, e2, hR2⟩ := r_taken hR (xs (7 * n + 1))
  refine lv_aload_n hx hb dL_law_1211 rfl (lv_at hl 3 rfl) ?_
  refine lv_aload_n hx hb dL_law_1212 rfl (lv_at hl 4 rfl) ?_
  refine lv_iload hx hb dL_law_1213 (lv_at hl 0 rfl) ?_
  refine lv_iconst (v := 1) hx hb dL_law_1215 (by decide) ?_
  refine lv_iadd hx hb dL_law_1216 ?_
  refine lq_ld (k := 1) hE hX hH rfl (by omega) dL_law_1217 ?_
  refine lq_calli (M1 := M1) (lq_runV (As := [.int (xs (7 * n + 1))]) (rest := []) hE hH (tz_X11_taken l X (M := M) (hf := e1)) kv_L_126 qk_0 (by decide) rfl hl.1 rfl (Nat.le_of_ble_eq_true rfl) dL_law_1218 (by omega) (by omega)) hH (fun H locs hH => ?_)
  refine lv_aload_n hx hb dL_law_1221 rfl (lv_at hl 2 rfl) ?_
  refine lv_aload_n hx hb dL_law_1222 rfl (lv_at hl 4 rfl) ?_
  refine lv_iload hx hb dL_law_1223 (lv_at hl 0 rfl) ?_
  refine lv_iconst (v := 1) hx hb dL_law_1225 (by decide) ?_
  refine lv_iadd hx hb dL_law_1226 ?_
  refine lq_ld (k := 1) hE hX hH rfl (by omega) dL_law_1227 ?_
  refine lq_calli (M1 := M2) (lq_runV (As := [.int (xs (7 * n + 1))]) (rest := [.int (r)]) hE hH (tz_X12_taken l X (M := M1) (hf := e2)) kv_L_129 qk_91 (by decide) rfl hl.1 rfl (Nat.le_of_ble_eq_true rfl) dL_law_1228 (by omega) (by omega)) hH (fun H locs hH => ?_)
  refine lv_icmp_eq (tgt := 2039) hx hb dL_law_1231 (by decide) (fun _ => ?_) (fun hc => absurd rfl hc)
  exact W.widen (by omega) (by omega) (kk H locs M2 hH hR2 ls hl)
theorem lc_24 {X : qX} {p : Program} {l : Launch} {e : Env} {s : State} {m : MethodId} {below : List Frame} {meth : Method} {c : Code} {H : Heap} {locs : List Loc} {cells slots : Nat} {b L n : Nat} {xs : Nat → Int32} {M : qM} {ls : Array Slot} (hl9 : l.stackTraces = false) (hV : lV X s s.heap) (hE : qE X p s m #[Value.ref b] c code 8 RL) (hX : lX X b L n xs s) (hH : q_H X M s H locs) (hR : RR M) (hc : cells + 1 ≤ 601024) (hs : slots + 6 ≤ 7293034) (hl : lv_has ls 8 [(4, .int (nI (7 * n))), (3, .ref (X.1 122)), (2, .ref (X.1 91)), (1, .ref (X.1 0)), (0, .ref b)])
    (kk : lK X p l e s m b below meth c cells slots n) : W p l e room_1 s m #[Value.ref b] below meth c H locs cells slots (lw_Z below #[Value.ref b] s) (F0 m 1291 ls []) := by
  have hx := hE.1
  have hb := hE.2.1
  obtain ⟨r, M1, M2, e1, e2, hR2⟩ := r_best hR 
  refine lv_aload_n hx hb dL_law_1291 rfl (lv_at hl 3 rfl) ?_
  refine lq_calli (M1 := M1) (lq_runV (As := []) (rest := []) hE hH (tz_X11_best l X (M := M) (hf := e1)) kv_L_134 qk_0 (by decide) rfl hl.1 rfl (Nat.le_of_ble_eq_true rfl) dL_law_1292 (by omega) (by omega)) hH (fun H locs hH => ?_)
  refine lv_aload_n hx hb dL_law_1295 rfl (lv_at hl 2 rfl) ?_
  refine lq_calli (M1 := M2) (lq_runV (As := []) (rest := [.int (r)]) hE hH (tz_X12_best l X (M := M1) (hf := e2)) kv_L_137 qk_91 (by decide) rfl hl.1 rfl (Nat.le_of_ble_eq_true rfl) dL_law_1296 (by omega) (by omega)) hH (fun H locs hH => ?_)
  refine lv_icmp_eq (tgt := 2039) hx hb dL_law_1299 (by decide) (fun _ => ?_) (fun hc => absurd rfl hc)
  exact W.widen (by omega) (by omega) (kk H locs M2 hH hR2 ls hl)
theorem lc_25 {X : qX} {p : Program} {l : Launch} {e : Env} {s : State} {m : MethodId} {below : List Frame} {meth : Method} {c : Code} {H : Heap} {locs : List Loc} {cells slots : Nat} {b L n : Nat} {xs : Nat → Int32} {M : qM} {ls : Array Slot} (hl9 : l.stackTraces = false) (hV : lV X s s.heap) (hE : qE X p s m #[Value.ref b] c code 8 RL) (hX : lX X b L n xs s) (hH : q_H X M s H locs) (hR : RR M) (hc : cells + 1 ≤ 601024) (hs : slots + 6 ≤ 7293034) (hl : lv_has ls 8 [(4, .int (nI (7 * n))), (3, .ref (X.1 122)), (2, .ref (X.1 91)), (1, .ref (X.1 0)), (0, .ref b)])
    (kk : lK X p l e s m b below meth c cells slots n) : W p l e room_1 s m #[Value.ref b] below meth c H locs cells slots (lw_Z below #[Value.ref b] s) (F0 m 1304 ls []) := by
  have hx := hE.1
  have hb := hE.2.1
  obtain ⟨r, M1, M2, e1, e2, hR2⟩ := r_rest hR (xs (7 * n + 1))
  refine lv_aload_n hx hb dL_law_1304 rfl (lv_at hl 3 rfl) ?_
  refine lv_aload_n hx hb dL_law_1305 rfl (lv_at hl 4 rfl) ?_
  refine lv_iload hx hb dL_law_1306 (lv_at hl 0 rfl) ?_
  refine lv_iconst (v := 1) hx hb dL_law_1308 (by decide) ?_
  refine lv_iadd hx hb dL_law_1309 ?_
  refine lq_ld (k := 1) hE hX hH rfl (by omega) dL_law_1310 ?_
  refine lq_calli (M1 := M1) (lq_runV (As := [.int (xs (7 * n + 1))]) (rest := []) hE hH (tz_X11_rest l X (M := M) (hf := e1)) kv_L_138 qk_0 (by decide) rfl hl.1 rfl (Nat.le_of_ble_eq_true rfl) dL_law_1311 (by omega) (by omega)) hH (fun H locs hH => ?_)
  refine lv_aload_n hx hb dL_law_1314 rfl (lv_at hl 2 rfl) ?_
  refine lv_aload_n hx hb dL_law_1315 rfl (lv_at hl 4 rfl) ?_
  refine lv_iload hx hb dL_law_1316 (lv_at hl 0 rfl) ?_
  refine lv_iconst (v := 1) hx hb dL_law_1318 (by decide) ?_
  refine lv_iadd hx hb dL_law_1319 ?_
  refine lq_ld (k := 1) hE hX hH rfl (by omega) dL_law_1320 ?_
  refine lq_calli (M1 := M2) (lq_runV (As := [.int (xs (7 * n + 1))]) (rest := [.int (r)]) hE hH (tz_X12_rest l X (M := M1) (hf := e2)) kv_L_141 qk_91 (by decide) rfl hl.1 rfl (Nat.le_of_ble_eq_true rfl) dL_law_1321 (by omega) (by omega)) hH (fun H locs hH => ?_)
  refine lv_icmp_eq (tgt := 2039) hx hb dL_law_1324 (by decide) (fun _ => ?_) (fun hc => absurd rfl hc)
  exact W.widen (by omega) (by omega) (kk H locs M2 hH hR2 ls hl)
