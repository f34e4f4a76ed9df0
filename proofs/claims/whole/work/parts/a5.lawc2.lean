/-! ===== the law: its plain cases ===== -/
theorem lc_26 {X : qX} {p : Program} {l : Launch} {e : Env} {s : State} {m : MethodId} {below : List Frame} {meth : Method} {c : Code} {H : Heap} {locs : List Loc} {cells slots : Nat} {b L n : Nat} {xs : Nat → Int32} {M : qM} {ls : Array Slot} (hl9 : l.stackTraces = false) (hV : lV X s s.heap) (hE : qE X p s m #[Value.ref b] c code 8 RL) (hX : lX X b L n xs s) (hH : q_H X M s H locs) (hR : RR M) (hc : cells + 1 ≤ 601024) (hs : slots + 6 ≤ 7293034) (hl : lv_has ls 8 [(4, .int (nI (7 * n))), (3, .ref (X.1 122)), (2, .ref (X.1 91)), (1, .ref (X.1 0)), (0, .ref b)])
    (kk : lK X p l e s m b below meth c cells slots n) : W p l e room_1 s m #[Value.ref b] below meth c H locs cells slots (lw_Z below #[Value.ref b] s) (F0 m 1329 ls []) := by
  have hx := hE.1
  have hb := hE.2.1
  obtain ⟨r, M1, M2, e1, e2, hR2⟩ := r_found hR (xs (7 * n + 1)) (xs (7 * n + 2))
  refine lv_aload_n hx hb dL_law_1329 rfl (lv_at hl 3 rfl) ?_
  refine lv_aload_n hx hb dL_law_1330 rfl (lv_at hl 4 rfl) ?_
  refine lv_iload hx hb dL_law_1331 (lv_at hl 0 rfl) ?_
  refine lv_iconst (v := 1) hx hb dL_law_1333 (by decide) ?_
  refine lv_iadd hx hb dL_law_1334 ?_
  refine lq_ld (k := 1) hE hX hH rfl (by omega) dL_law_1335 ?_
  refine lv_aload_n hx hb dL_law_1336 rfl (lv_at hl 4 rfl) ?_
  refine lv_iload hx hb dL_law_1337 (lv_at hl 0 rfl) ?_
  refine lv_iconst (v := 2) hx hb dL_law_1339 (by decide) ?_
  refine lv_iadd hx hb dL_law_1340 ?_
  refine lq_ld (k := 2) hE hX hH rfl (by omega) dL_law_1341 ?_
  refine lq_calli (M1 := M1) (lq_runV (As := [.int (xs (7 * n + 1)), .int (xs (7 * n + 2))]) (rest := []) hE hH (tz_X11_found l X (M := M) (hf := e1)) kv_L_142 qk_0 (by decide) rfl hl.1 rfl (Nat.le_of_ble_eq_true rfl) dL_law_1342 (by omega) (by omega)) hH (fun H locs hH => ?_)
  refine lv_aload_n hx hb dL_law_1345 rfl (lv_at hl 2 rfl) ?_
  refine lv_aload_n hx hb dL_law_1346 rfl (lv_at hl 4 rfl) ?_
  refine lv_iload hx hb dL_law_1347 (lv_at hl 0 rfl) ?_
  refine lv_iconst (v := 1) hx hb dL_law_1349 (by decide) ?_
  refine lv_iadd hx hb dL_law_1350 ?_
  refine lq_ld (k := 1) hE hX hH rfl (by omega) dL_law_1351 ?_
  refine lv_aload_n hx hb dL_law_1352 rfl (lv_at hl 4 rfl) ?_
  refine lv_iload hx hb dL_law_1353 (lv_at hl 0 rfl) ?_
  refine lv_iconst (v := 2) hx hb dL_law_1355 (by decide) ?_
  refine lv_iadd hx hb dL_law_1356 ?_
  refine lq_ld (k := 2) hE hX hH rfl (by omega) dL_law_1357 ?_
  refine lq_calli (M1 := M2) (lq_runV (As := [.int (xs (7 * n + 1)), .int (xs (7 * n + 2))]) (rest := [.int (r)]) hE hH (tz_X12_found l X (M := M1) (hf := e2)) kv_L_145 qk_91 (by decide) rfl hl.1 rfl (Nat.le_of_ble_eq_true rfl) dL_law_1358 (by omega) (by omega)) hH (fun H locs hH => ?_)
  refine lv_icmp_eq (tgt := 2039) hx hb dL_law_1361 (by decide) (fun _ => ?_) (fun hc => absurd rfl hc)
  exact W.widen (by omega) (by omega) (kk H locs M2 hH hR2 ls hl)
theorem lc_27 {X : qX} {p : Program} {l : Launch} {e : Env} {s : State} {m : MethodId} {below : List Frame} {meth : Method} {c : Code} {H : Heap} {locs : List Loc} {cells slots : Nat} {b L n : Nat} {xs : Nat → Int32} {M : qM} {ls : Array Slot} (hl9 : l.stackTraces = false) (hV : lV X s s.heap) (hE : qE X p s m #[Value.ref b] c code 8 RL) (hX : lX X b L n xs s) (hH : q_H X M s H locs) (hR : RR M) (hc : cells + 1 ≤ 601024) (hs : slots + 6 ≤ 7293034) (hl : lv_has ls 8 [(4, .int (nI (7 * n))), (3, .ref (X.1 122)), (2, .ref (X.1 91)), (1, .ref (X.1 0)), (0, .ref b)])
    (kk : lK X p l e s m b below meth c cells slots n) : W p l e room_1 s m #[Value.ref b] below meth c H locs cells slots (lw_Z below #[Value.ref b] s) (F0 m 1366 ls []) := by
  have hx := hE.1
  have hb := hE.2.1
  obtain ⟨r, M1, M2, e1, e2, hR2⟩ := r_tell hR (xs (7 * n + 1)) (xs (7 * n + 2))
  refine lv_aload_n hx hb dL_law_1366 rfl (lv_at hl 3 rfl) ?_
  refine lv_aload_n hx hb dL_law_1367 rfl (lv_at hl 4 rfl) ?_
  refine lv_iload hx hb dL_law_1368 (lv_at hl 0 rfl) ?_
  refine lv_iconst (v := 1) hx hb dL_law_1370 (by decide) ?_
  refine lv_iadd hx hb dL_law_1371 ?_
  refine lq_ld (k := 1) hE hX hH rfl (by omega) dL_law_1372 ?_
  refine lv_aload_n hx hb dL_law_1373 rfl (lv_at hl 4 rfl) ?_
  refine lv_iload hx hb dL_law_1374 (lv_at hl 0 rfl) ?_
  refine lv_iconst (v := 2) hx hb dL_law_1376 (by decide) ?_
  refine lv_iadd hx hb dL_law_1377 ?_
  refine lq_ld (k := 2) hE hX hH rfl (by omega) dL_law_1378 ?_
  refine lq_calli (M1 := M1) (lq_runV (As := [.int (xs (7 * n + 1)), .int (xs (7 * n + 2))]) (rest := []) hE hH (tz_X11_tell l X (M := M) (hf := e1)) kv_L_146 qk_0 (by decide) rfl hl.1 rfl (Nat.le_of_ble_eq_true rfl) dL_law_1379 (by omega) (by omega)) hH (fun H locs hH => ?_)
  refine lv_aload_n hx hb dL_law_1382 rfl (lv_at hl 2 rfl) ?_
  refine lv_aload_n hx hb dL_law_1383 rfl (lv_at hl 4 rfl) ?_
  refine lv_iload hx hb dL_law_1384 (lv_at hl 0 rfl) ?_
  refine lv_iconst (v := 1) hx hb dL_law_1386 (by decide) ?_
  refine lv_iadd hx hb dL_law_1387 ?_
  refine lq_ld (k := 1) hE hX hH rfl (by omega) dL_law_1388 ?_
  refine lv_aload_n hx hb dL_law_1389 rfl (lv_at hl 4 rfl) ?_
  refine lv_iload hx hb dL_law_1390 (lv_at hl 0 rfl) ?_
  refine lv_iconst (v := 2) hx hb dL_law_1392 (by decide) ?_
  refine lv_iadd hx hb dL_law_1393 ?_
  refine lq_ld (k := 2) hE hX hH rfl (by omega) dL_law_1394 ?_
  refine lq_calli (M1 := M2) (lq_runV (As := [.int (xs (7 * n + 1)), .int (xs (7 * n + 2))]) (rest := [.int (b2i r)]) hE hH (tz_X12_tell l X (M := M1) (hf := e2)) kv_L_149 qk_91 (by decide) rfl hl.1 rfl (Nat.le_of_ble_eq_true rfl) dL_law_1395 (by omega) (by omega)) hH (fun H locs hH => ?_)
  refine lv_icmp_eq (tgt := 2039) hx hb dL_law_1398 (by decide) (fun _ => ?_) (fun hc => absurd rfl hc)
  exact W.widen (by omega) (by omega) (kk H locs M2 hH hR2 ls hl)
theorem lc_28 {X : qX} {p : Program} {l : Launch} {e : Env} {s : State} {m : MethodId} {below : List Frame} {meth : Method} {c : Code} {H : Heap} {locs : List Loc} {cells slots : Nat} {b L n : Nat} {xs : Nat → Int32} {M : qM} {ls : Array Slot} (hl9 : l.stackTraces = false) (hV : lV X s s.heap) (hE : qE X p s m #[Value.ref b] c code 8 RL) (hX : lX X b L n xs s) (hH : q_H X M s H locs) (hR : RR M) (hc : cells + 1 ≤ 601024) (hs : slots + 6 ≤ 7293034) (hl : lv_has ls 8 [(4, .int (nI (7 * n))), (3, .ref (X.1 122)), (2, .ref (X.1 91)), (1, .ref (X.1 0)), (0, .ref b)])
    (kk : lK X p l e s m b below meth c cells slots n) : W p l e room_1 s m #[Value.ref b] below meth c H locs cells slots (lw_Z below #[Value.ref b] s) (F0 m 1403 ls []) := by
  have hx := hE.1
  have hb := hE.2.1
  obtain ⟨r, M1, M2, e1, e2, hR2⟩ := r_came hR (xs (7 * n + 1)) (xs (7 * n + 2))
  refine lv_aload_n hx hb dL_law_1403 rfl (lv_at hl 3 rfl) ?_
  refine lv_aload_n hx hb dL_law_1404 rfl (lv_at hl 4 rfl) ?_
  refine lv_iload hx hb dL_law_1405 (lv_at hl 0 rfl) ?_
  refine lv_iconst (v := 1) hx hb dL_law_1407 (by decide) ?_
  refine lv_iadd hx hb dL_law_1408 ?_
  refine lq_ld (k := 1) hE hX hH rfl (by omega) dL_law_1409 ?_
  refine lv_aload_n hx hb dL_law_1410 rfl (lv_at hl 4 rfl) ?_
  refine lv_iload hx hb dL_law_1411 (lv_at hl 0 rfl) ?_
  refine lv_iconst (v := 2) hx hb dL_law_1413 (by decide) ?_
  refine lv_iadd hx hb dL_law_1414 ?_
  refine lq_ld (k := 2) hE hX hH rfl (by omega) dL_law_1415 ?_
  refine lq_calli (M1 := M1) (lq_runV (As := [.int (xs (7 * n + 1)), .int (xs (7 * n + 2))]) (rest := []) hE hH (tz_X11_came l X (M := M) (hf := e1)) kv_L_150 qk_0 (by decide) rfl hl.1 rfl (Nat.le_of_ble_eq_true rfl) dL_law_1416 (by omega) (by omega)) hH (fun H locs hH => ?_)
  refine lv_aload_n hx hb dL_law_1419 rfl (lv_at hl 2 rfl) ?_
  refine lv_aload_n hx hb dL_law_1420 rfl (lv_at hl 4 rfl) ?_
  refine lv_iload hx hb dL_law_1421 (lv_at hl 0 rfl) ?_
  refine lv_iconst (v := 1) hx hb dL_law_1423 (by decide) ?_
  refine lv_iadd hx hb dL_law_1424 ?_
  refine lq_ld (k := 1) hE hX hH rfl (by omega) dL_law_1425 ?_
  refine lv_aload_n hx hb dL_law_1426 rfl (lv_at hl 4 rfl) ?_
  refine lv_iload hx hb dL_law_1427 (lv_at hl 0 rfl) ?_
  refine lv_iconst (v := 2) hx hb dL_law_1429 (by decide) ?_
  refine lv_iadd hx hb dL_law_1430 ?_
  refine lq_ld (k := 2) hE hX hH rfl (by omega) dL_law_1431 ?_
  refine lq_calli (M1 := M2) (lq_runV (As := [.int (xs (7 * n + 1)), .int (xs (7 * n + 2))]) (rest := [.int (b2i r)]) hE hH (tz_X12_came l X (M := M1) (hf := e2)) kv_L_153 qk_91 (by decide) rfl hl.1 rfl (Nat.le_of_ble_eq_true rfl) dL_law_1432 (by omega) (by omega)) hH (fun H locs hH => ?_)
  refine lv_icmp_eq (tgt := 2039) hx hb dL_law_1435 (by decide) (fun _ => ?_) (fun hc => absurd rfl hc)
  exact W.widen (by omega) (by omega) (kk H locs M2 hH hR2 ls hl)
theorem lc_29 {X : qX} {p : Program} {l : Launch} {e : Env} {s : State} {m : MethodId} {below : List Frame} {meth : Method} {c : Code} {H : Heap} {locs : List Loc} {cells slots : Nat} {b L n : Nat} {xs : Nat → Int32} {M : qM} {ls : Array Slot} (hl9 : l.stackTraces = false) (hV : lV X s s.heap) (hE : qE X p s m #[Value.ref b] c code 8 RL) (hX : lX X b L n xs s) (hH : q_H X M s H locs) (hR : RR M) (hc : cells + 1 ≤ 601024) (hs : slots + 6 ≤ 7293034) (hl : lv_has ls 8 [(4, .int (nI (7 * n))), (3, .ref (X.1 122)), (2, .ref (X.1 91)), (1, .ref (X.1 0)), (0, .ref b)])
    (kk : lK X p l e s m b below meth c cells slots n) : W p l e room_1 s m #[Value.ref b] below meth c H locs cells slots (lw_Z below #[Value.ref b] s) (F0 m 1440 ls []) := by
  have hx := hE.1
  have hb := hE.2.1
  obtain ⟨r, M1, M2, e1, e2, hR2⟩ := r_told hR (xs (7 * n + 1)) (xs (7 * n + 2))
  refine lv_aload_n hx hb dL_law_1440 rfl (lv_at hl 3 rfl) ?_
  refine lv_aload_n hx hb dL_law_1441 rfl (lv_at hl 4 rfl) ?_
  refine lv_iload hx hb dL_law_1442 (lv_at hl 0 rfl) ?_
  refine lv_iconst (v := 1) hx hb dL_law_1444 (by decide) ?_
  refine lv_iadd hx hb dL_law_1445 ?_
  refine lq_ld (k := 1) hE hX hH rfl (by omega) dL_law_1446 ?_
  refine lv_aload_n hx hb dL_law_1447 rfl (lv_at hl 4 rfl) ?_
  refine lv_iload hx hb dL_law_1448 (lv_at hl 0 rfl) ?_
  refine lv_iconst (v := 2) hx hb dL_law_1450 (by decide) ?_
  refine lv_iadd hx hb dL_law_1451 ?_
  refine lq_ld (k := 2) hE hX hH rfl (by omega) dL_law_1452 ?_
  refine lq_calli (M1 := M1) (lq_runV (As := [.int (xs (7 * n + 1)), .int (xs (7 * n + 2))]) (rest := []) hE hH (tz_X11_told l X (M := M) (hf := e1)) kv_L_154 qk_0 (by decide) rfl hl.1 rfl (Nat.le_of_ble_eq_true rfl) dL_law_1453 (by omega) (by omega)) hH (fun H locs hH => ?_)
  refine lv_aload_n hx hb dL_law_1456 rfl (lv_at hl 2 rfl) ?_
  refine lv_aload_n hx hb dL_law_1457 rfl (lv_at hl 4 rfl) ?_
  refine lv_iload hx hb dL_law_1458 (lv_at hl 0 rfl) ?_
  refine lv_iconst (v := 1) hx hb dL_law_1460 (by decide) ?_
  refine lv_iadd hx hb dL_law_1461 ?_
  refine lq_ld (k := 1) hE hX hH rfl (by omega) dL_law_1462 ?_
  refine lv_aload_n hx hb dL_law_1463 rfl (lv_at hl 4 rfl) ?_
  refine lv_iload hx hb dL_law_1464 (lv_at hl 0 rfl) ?_
  refine lv_iconst (v := 2) hx hb dL_law_1466 (by decide) ?_
  refine lv_iadd hx hb dL_law_1467 ?_
  refine lq_ld (k := 2) hE hX hH rfl (by omega) dL_law_1468 ?_
  refine lq_calli (M1 := M2) (lq_runV (As := [.int (xs (7 * n + 1)), .int (xs (7 * n + 2))]) (rest := [.int (r)]) hE hH (tz_X12_told l X (M := M1) (hf := e2)) kv_L_157 qk_91 (by decide) rfl hl.1 rfl (Nat.le_of_ble_eq_true rfl) dL_law_1469 (by omega) (by omega)) hH (fun H locs hH => ?_)
  refine lv_icmp_eq (tgt := 2039) hx hb dL_law_1472 (by decide) (fun _ => ?_) (fun hc => absurd rfl hc)
  exact W.widen (by omega) (by omega) (kk H locs M2 hH hR2 ls hl)
theorem lc_30 {X : qX} {p : Program} {l : Launch} {e : Env} {s : State} {m : MethodId} {below : List Frame} {meth : Method} {c : Code} {H : Heap} {locs : List Loc} {cells slots : Nat} {b L n : Nat} {xs : Nat → Int32} {M : qM} {ls : Array Slot} (hl9 : l.stackTraces = false) (hV : lV X s s.heap) (hE : qE X p s m #[Value.ref b] c code 8 RL) (hX : lX X b L n xs s) (hH : q_H X M s H locs) (hR : RR M) (hc : cells + 1 ≤ 601024) (hs : slots + 6 ≤ 7293034) (hl : lv_has ls 8 [(4, .int (nI (7 * n))), (3, .ref (X.1 122)), (2, .ref (X.1 91)), (1, .ref (X.1 0)), (0, .ref b)])
    (kk : lK X p l e s m b below meth c cells slots n) : W p l e room_1 s m #[Value.ref b] below meth c H locs cells slots (lw_Z below #[Value.ref b] s) (F0 m 1477 ls []) := by
  have hx := hE.1
  have hb := hE.2.1
  obtain ⟨r, M1, M2, e1, e2, hR2⟩ := r_ill hR 
  refine lv_aload_n hx hb dL_law_1477 rfl (lv_at hl 3 rfl) ?_
  refine lq_calli (M1 := M1) (lq_runV (As := []) (rest := []) hE hH (tz_X11_ill l X (M := M) (hf := e1)) kv_L_158 qk_0 (by decide) rfl hl.1 rfl (Nat.le_of_ble_eq_true rfl) dL_law_1478 (by omega) (by omega)) hH (fun H locs hH => ?_)
  refine lv_aload_n hx hb dL_law_1481 rfl (lv_at hl 2 rfl) ?_
  refine lq_calli (M1 := M2) (lq_runV (As := []) (rest := [.int (r)]) hE hH (tz_X12_ill l X (M := M1) (hf := e2)) kv_L_161 qk_91 (by decide) rfl hl.1 rfl (Nat.le_of_ble_eq_true rfl) dL_law_1482 (by omega) (by omega)) hH (fun H locs hH => ?_)
  refine lv_icmp_eq (tgt := 2039) hx hb dL_law_1485 (by decide) (fun _ => ?_) (fun hc => absurd rfl hc)
  exact W.widen (by omega) (by omega) (kk H locs M2 hH hR2 ls hl)
theorem lc_31 {X : qX} {p : Program} {l : Launch} {e : Env} {s : State} {m : MethodId} {below : List Frame} {meth : Method} {c : Code} {H : Heap} {locs : List Loc} {cells slots : Nat} {b L n : Nat} {xs : Nat → Int32} {M : qM} {ls : Array Slot} (hl9 : l.stackTraces = false) (hV : lV X s s.heap) (hE : qE X p s m #[Value.ref b] c code 8 RL) (hX : lX X b L n xs s) (hH : q_H X M s H locs) (hR : RR M) (hc : cells + 1 ≤ 601024) (hs : slots + 6 ≤ 7293034) (hl : lv_has ls 8 [(4, .int (nI (7 * n))), (3, .ref (X.1 122)), (2, .ref (X.1 91)), (1, .ref (X.1 0)), (0, .ref b)])
    (kk : lK X p l e s m b below meth c cells slots n) : W p l e room_1 s m #[Value.ref b] below meth c H locs cells slots (lw_Z below #[Value.ref b] s) (F0 m 1490 ls []) := by
  have hx := hE.1
  have hb := hE.2.1
  obtain ⟨r, M1, M2, e1, e2, hR2⟩ := r_settle hR 
  refine lv_aload_n hx hb dL_law_1490 rfl (lv_at hl 3 rfl) ?_
  refine lq_calli (M1 := M1) (lq_runV (As := []) (rest := []) hE hH (tz_X11_settle l X (M := M) (hf := e1)) kv_L_162 qk_0 (by decide) rfl hl.1 rfl (Nat.le_of_ble_eq_true rfl) dL_law_1491 (by omega) (by omega)) hH (fun H locs hH => ?_)
  refine lv_aload_n hx hb dL_law_1494 rfl (lv_at hl 2 rfl) ?_
  refine lq_calli (M1 := M2) (lq_runV (As := []) (rest := [.int (r)]) hE hH (tz_X12_settle l X (M := M1) (hf := e2)) kv_L_165 qk_91 (by decide) rfl hl.1 rfl (Nat.le_of_ble_eq_true rfl) dL_law_1495 (by omega) (by omega)) hH (fun H locs hH => ?_)
  refine lv_icmp_eq (tgt := 2039) hx hb dL_law_1498 (by decide) (fun _ => ?_) (fun hc => absurd rfl hc)
  exact W.widen (by omega) (by omega) (kk H locs M2 hH hR2 ls hl)
theorem lc_32 {X : qX} {p : Program} {l : Launch} {e : Env} {s : State} {m : MethodId} {below : List Frame} {meth : Method} {c : Code} {H : Heap} {locs : List Loc} {cells slots : Nat} {b L n : Nat} {xs : Nat → Int32} {M : qM} {ls : Array Slot} (hl9 : l.stackTraces = false) (hV : lV X s s.heap) (hE : qE X p s m #[Value.ref b] c code 8 RL) (hX : lX X b L n xs s) (hH : q_H X M s H locs) (hR : RR M) (hc : cells + 1 ≤ 601024) (hs : slots + 6 ≤ 7293034) (hl : lv_has ls 8 [(4, .int (nI (7 * n))), (3, .ref (X.1 122)), (2, .ref (X.1 91)), (1, .ref (X.1 0)), (0, .ref b)])
    (kk : lK X p l e s m b below meth c cells slots n) : W p l e room_1 s m #[Value.ref b] below meth c H locs cells slots (lw_Z below #[Value.ref b] s) (F0 m 1503 ls []) := by
  have hx := hE.1
  have hb := hE.2.1
  obtain ⟨r, M1, M2, e1, e2, hR2⟩ := r_between hR (xs (7 * n + 1))
  refine lv_aload_n hx hb dL_law_1503 rfl (lv_at hl 3 rfl) ?_
  refine lv_aload_n hx hb dL_law_1504 rfl (lv_at hl 4 rfl) ?_
  refine lv_iload hx hb dL_law_1505 (lv_at hl 0 rfl) ?_
  refine lv_iconst (v := 1) hx hb dL_law_1507 (by decide) ?_
  refine lv_iadd hx hb dL_law_1508 ?_
  refine lq_ld (k := 1) hE hX hH rfl (by omega) dL_law_1509 ?_
  refine lq_calli (M1 := M1) (lq_runV (As := [.int (xs (7 * n + 1))]) (rest := []) hE hH (tz_X11_between l X (M := M) (hf := e1)) kv_L_166 qk_0 (by decide) rfl hl.1 rfl (Nat.le_of_ble_eq_true rfl) dL_law_1510 (by omega) (by omega)) hH (fun H locs hH => ?_)
  refine lv_aload_n hx hb dL_law_1513 rfl (lv_at hl 2 rfl) ?_
  refine lv_aload_n hx hb dL_law_1514 rfl (lv_at hl 4 rfl) ?_
  refine lv_iload hx hb dL_law_1515 (lv_at hl 0 rfl) ?_
  refine lv_iconst (v := 1) hx hb dL_law_1517 (by decide) ?_
  refine lv_iadd hx hb dL_law_1518 ?_
  refine lq_ld (k := 1) hE hX hH rfl (by omega) dL_law_1519 ?_
  refine lq_calli (M1 := M2) (lq_runV (As := [.int (xs (7 * n + 1))]) (rest := [.int (b2i r)]) hE hH (tz_X12_between l X (M := M1) (hf := e2)) kv_L_169 qk_91 (by decide) rfl hl.1 rfl (Nat.le_of_ble_eq_true rfl) dL_law_1520 (by omega) (by omega)) hH (fun H locs hH => ?_)
  refine lv_icmp_eq (tgt := 2039) hx hb dL_law_1523 (by decide) (fun _ => ?_) (fun hc => absurd rfl hc)
  exact W.widen (by omega) (by omega) (kk H locs M2 hH hR2 ls hl)
theorem lc_33 {X : qX} {p : Program} {l : Launch} {e : Env} {s : State} {m : MethodId} {below : List Frame} {meth : Method} {c : Code} {H : Heap} {locs : List Loc} {cells slots : Nat} {b L n : Nat} {xs : Nat → Int32} {M : qM} {ls : Array Slot} (hl9 : l.stackTraces = false) (hV : lV X s s.heap) (hE : qE X p s m #[Value.ref b] c code 8 RL) (hX : lX X b L n xs s) (hH : q_H X M s H locs) (hR : RR M) (hc : cells + 1 ≤ 601024) (hs : slots + 6 ≤ 7293034) (hl : lv_has ls 8 [(4, .int (nI (7 * n))), (3, .ref (X.1 122)), (2, .ref (X.1 91)), (1, .ref (X.1 0)), (0, .ref b)])
    (kk : lK X p l e s m b below meth c cells slots n) : W p l e room_1 s m #[Value.ref b] below meth c H locs cells slots (lw_Z below #[Value.ref b] s) (F0 m 1528 ls []) := by
  have hx := hE.1
  have hb := hE.2.1
  obtain ⟨r, M1, M2, e1, e2, hR2⟩ := RR_round hR (xs (7 * n + 1)) (xs (7 * n + 2))
  refine lv_aload_n hx hb dL_law_1528 rfl (lv_at hl 3 rfl) ?_
  refine lv_aload_n hx hb dL_law_1529 rfl (lv_at hl 4 rfl) ?_
  refine lv_iload hx hb dL_law_1530 (lv_at hl 0 rfl) ?_
  refine lv_iconst (v := 1) hx hb dL_law_1532 (by decide) ?_
  refine lv_iadd hx hb dL_law_1533 ?_
  refine lq_ld (k := 1) hE hX hH rfl (by omega) dL_law_1534 ?_
  refine lv_aload_n hx hb dL_law_1535 rfl (lv_at hl 4 rfl) ?_
  refine lv_iload hx hb dL_law_1536 (lv_at hl 0 rfl) ?_
  refine lv_iconst (v := 2) hx hb dL_law_1538 (by decide) ?_
  refine lv_iadd hx hb dL_law_1539 ?_
  refine lq_ld (k := 2) hE hX hH rfl (by omega) dL_law_1540 ?_
  refine lq_calli (M1 := M1) (lq_runV (As := [.int (xs (7 * n + 1)), .int (xs (7 * n + 2))]) (rest := []) hE hH (tz_X11_round l X (M := M) (hf := e1)) kv_L_170 qk_0 (by decide) rfl hl.1 rfl (Nat.le_of_ble_eq_true rfl) dL_law_1541 (by omega) (by omega)) hH (fun H locs hH => ?_)
  refine lv_aload_n hx hb dL_law_1544 rfl (lv_at hl 2 rfl) ?_
  refine lv_aload_n hx hb dL_law_1545 rfl (lv_at hl 4 rfl) ?_
  refine lv_iload hx hb dL_law_1546 (lv_at hl 0 rfl) ?_
  refine lv_iconst (v := 1) hx hb dL_law_1548 (by decide) ?_
  refine lv_iadd hx hb dL_law_1549 ?_
  refine lq_ld (k := 1) hE hX hH rfl (by omega) dL_law_1550 ?_
  refine lv_aload_n hx hb dL_law_1551 rfl (lv_at hl 4 rfl) ?_
  refine lv_iload hx hb dL_law_1552 (lv_at hl 0 rfl) ?_
  refine lv_iconst (v := 2) hx hb dL_law_1554 (by decide) ?_
  refine lv_iadd hx hb dL_law_1555 ?_
  refine lq_ld (k := 2) hE hX hH rfl (by omega) dL_law_1556 ?_
  refine lq_calli (M1 := M2) (lq_runV (As := [.int (xs (7 * n + 1)), .int (xs (7 * n + 2))]) (rest := [.int (r)]) hE hH (tz_X12_round l X (M := M1) (hf := e2)) kv_L_173 qk_91 (by decide) rfl hl.1 rfl (Nat.le_of_ble_eq_true rfl) dL_law_1557 (by omega) (by omega)) hH (fun H locs hH => ?_)
  refine lv_icmp_eq (tgt := 2039) hx hb dL_law_1560 (by decide) (fun _ => ?_) (fun hc => absurd rfl hc)
  exact W.widen (by omega) (by omega) (kk H locs M2 hH hR2 ls hl)
theorem lc_34 {X : qX} {p : Program} {l : Launch} {e : Env} {s : State} {m : MethodId} {below : List Frame} {meth : Method} {c : Code} {H : Heap} {locs : List Loc} {cells slots : Nat} {b L n : Nat} {xs : Nat → Int32} {M : qM} {ls : Array Slot} (hl9 : l.stackTraces = false) (hV : lV X s s.heap) (hE : qE X p s m #[Value.ref b] c code 8 RL) (hX : lX X b L n xs s) (hH : q_H X M s H locs) (hR : RR M) (hc : cells + 1 ≤ 601024) (hs : slots + 6 ≤ 7293034) (hl : lv_has ls 8 [(4, .int (nI (7 * n))), (3, .ref (X.1 122)), (2, .ref (X.1 91)), (1, .ref (X.1 0)), (0, .ref b)])
    (kk : lK X p l e s m b below meth c cells slots n) : W p l e room_1 s m #[Value.ref b] below meth c H locs cells slots (lw_Z below #[Value.ref b] s) (F0 m 1565 ls []) := by
  have hx := hE.1
  have hb := hE.2.1
  obtain ⟨r, M1, M2, e1, e2, hR2⟩ := r_ends hR (xs (7 * n + 1)) (xs (7 * n + 2))
  refine lv_aload_n hx hb dL_law_1565 rfl (lv_at hl 3 rfl) ?_
  refine lv_aload_n hx hb dL_law_1566 rfl (lv_at hl 4 rfl) ?_
  refine lv_iload hx hb dL_law_1567 (lv_at hl 0 rfl) ?_
  refine lv_iconst (v := 1) hx hb dL_law_1569 (by decide) ?_
  refine lv_iadd hx hb dL_law_1570 ?_
  refine lq_ld (k := 1) hE hX hH rfl (by omega) dL_law_1571 ?_
  refine lv_aload_n hx hb dL_law_1572 rfl (lv_at hl 4 rfl) ?_
  refine lv_iload hx hb dL_law_1573 (lv_at hl 0 rfl) ?_
  refine lv_iconst (v := 2) hx hb dL_law_1575 (by decide) ?_
  refine lv_iadd hx hb dL_law_1576 ?_
  refine lq_ld (k := 2) hE hX hH rfl (by omega) dL_law_1577 ?_
  refine lq_calli (M1 := M1) (lq_runV (As := [.int (xs (7 * n + 1)), .int (xs (7 * n + 2))]) (rest := []) hE hH (tz_X11_ends l X (M := M) (hf := e1)) kv_L_174 qk_0 (by decide) rfl hl.1 rfl (Nat.le_of_ble_eq_true rfl) dL_law_1578 (by omega) (by omega)) hH (fun H locs hH => ?_)
  refine lv_aload_n hx hb dL_law_1581 rfl (lv_at hl 2 rfl) ?_
  refine lv_aload_n hx hb dL_law_1582 rfl (lv_at hl 4 rfl) ?_
  refine lv_iload hx hb dL_law_1583 (lv_at hl 0 rfl) ?_
  refine lv_iconst (v := 1) hx hb dL_law_1585 (by decide) ?_
  refine lv_iadd hx hb dL_law_1586 ?_
  refine lq_ld (k := 1) hE hX hH rfl (by omega) dL_law_1587 ?_
  refine lv_aload_n hx hb dL_law_1588 rfl (lv_at hl 4 rfl) ?_
  refine lv_iload hx hb dL_law_1589 (lv_at hl 0 rfl) ?_
  refine lv_iconst (v := 2) hx hb dL_law_1591 (by decide) ?_
  refine lv_iadd hx hb dL_law_1592 ?_
  refine lq_ld (k := 2) hE hX hH rfl (by omega) dL_law_1593 ?_
  refine lq_calli (M1 := M2) (lq_runV (As := [.int (xs (7 * n + 1)), .int (xs (7 * n + 2))]) (rest := [.int (r)]) hE hH (tz_X12_ends l X (M := M1) (hf := e2)) kv_L_177 qk_91 (by decide) rfl hl.1 rfl (Nat.le_of_ble_eq_true rfl) dL_law_1594 (by omega) (by omega)) hH (fun H locs hH => ?_)
  refine lv_icmp_eq (tgt := 2039) hx hb dL_law_1597 (by decide) (fun _ => ?_) (fun hc => absurd rfl hc)
  exact W.widen (by omega) (by omega) (kk H locs M2 hH hR2 ls hl)
theorem lc_35 {X : qX} {p : Program} {l : Launch} {e : Env} {s : State} {m : MethodId} {below : List Frame} {meth : Method} {c : Code} {H : Heap} {locs : List Loc} {cells slots : Nat} {b L n : Nat} {xs : Nat → Int32} {M : qM} {ls : Array Slot} (hl9 : l.stackTraces = false) (hV : lV X s s.heap) (hE : qE X p s m #[Value.ref b] c code 8 RL) (hX : lX X b L n xs s) (hH : q_H X M s H locs) (hR : RR M) (hc : cells + 1 ≤ 601024) (hs : slots + 6 ≤ 7293034) (hl : lv_has ls 8 [(4, .int (nI (7 * n))), (3, .ref (X.1 122)), (2, .ref (X.1 91)), (1, .ref (X.1 0)), (0, .ref b)])
    (kk : lK X p l e s m b below meth c cells slots n) : W p l e room_1 s m #[Value.ref b] below meth c H locs cells slots (lw_Z below #[Value.ref b] s) (F0 m 1602 ls []) := by
  have hx := hE.1
  have hb := hE.2.1
  obtain ⟨r, M1, M2, e1, e2, hR2⟩ := r_both hR (xs (7 * n + 1)) (xs (7 * n + 2)) (xs (7 * n + 3))
  refine lv_aload_n hx hb dL_law_1602 rfl (lv_at hl 3 rfl) ?_
  refine lv_aload_n hx hb dL_law_1603 rfl (lv_at hl 4 rfl) ?_
  refine lv_iload hx hb dL_law_1604 (lv_at hl 0 rfl) ?_
  refine lv_iconst (v := 1) hx hb dL_law_1606 (by decide) ?_
  refine lv_iadd hx hb dL_law_1607 ?_
  refine lq_ld (k := 1) hE hX hH rfl (by omega) dL_law_1608 ?_
  refine lv_aload_n hx hb dL_law_1609 rfl (lv_at hl 4 rfl) ?_
  refine lv_iload hx hb dL_law_1610 (lv_at hl 0 rfl) ?_
  refine lv_iconst (v := 2) hx hb dL_law_1612 (by decide) ?_
  refine lv_iadd hx hb dL_law_1613 ?_
  refine lq_ld (k := 2) hE hX hH rfl (by omega) dL_law_1614 ?_
  refine lv_aload_n hx hb dL_law_1615 rfl (lv_at hl 4 rfl) ?_
  refine lv_iload hx hb dL_law_1616 (lv_at hl 0 rfl) ?_
  refine lv_iconst (v := 3) hx hb dL_law_1618 (by decide) ?_
  refine lv_iadd hx hb dL_law_1619 ?_
  refine lq_ld (k := 3) hE hX hH rfl (by omega) dL_law_1620 ?_
  refine lq_calli (M1 := M1) (lq_runV (As := [.int (xs (7 * n + 1)), .int (xs (7 * n + 2)), .int (xs (7 * n + 3))]) (rest := []) hE hH (tz_X11_both l X (M := M) (hf := e1)) kv_L_178 qk_0 (by decide) rfl hl.1 rfl (Nat.le_of_ble_eq_true rfl) dL_law_1621 (by omega) (by omega)) hH (fun H locs hH => ?_)
  refine lv_aload_n hx hb dL_law_1624 rfl (lv_at hl 2 rfl) ?_
  refine lv_aload_n hx hb dL_law_1625 rfl (lv_at hl 4 rfl) ?_
  refine lv_iload hx hb dL_law_1626 (lv_at hl 0 rfl) ?_
  refine lv_iconst (v := 1) hx hb dL_law_1628 (by decide) ?_
  refine lv_iadd hx hb dL_law_1629 ?_
  refine lq_ld (k := 1) hE hX hH rfl (by omega) dL_law_1630 ?_
  refine lv_aload_n hx hb dL_law_1631 rfl (lv_at hl 4 rfl) ?_
  refine lv_iload hx hb dL_law_1632 (lv_at hl 0 rfl) ?_
  refine lv_iconst (v := 2) hx hb dL_law_1634 (by decide) ?_
  refine lv_iadd hx hb dL_law_1635 ?_
  refine lq_ld (k := 2) hE hX hH rfl (by omega) dL_law_1636 ?_
  refine lv_aload_n hx hb dL_law_1637 rfl (lv_at hl 4 rfl) ?_
  refine lv_iload hx hb dL_law_1638 (lv_at hl 0 rfl) ?_
  refine lv_iconst (v := 3) hx hb dL_law_1640 (by decide) ?_
  refine lv_iadd hx hb dL_law_1641 ?_
  refine lq_ld (k := 3) hE hX hH rfl (by omega) dL_law_1642 ?_
  refine lq_calli (M1 := M2) (lq_runV (As := [.int (xs (7 * n + 1)), .int (xs (7 * n + 2)), .int (xs (7 * n + 3))]) (rest := [.int (r)]) hE hH (tz_X12_both l X (M := M1) (hf := e2)) kv_L_181 qk_91 (by decide) rfl hl.1 rfl (Nat.le_of_ble_eq_true rfl) dL_law_1643 (by omega) (by omega)) hH (fun H locs hH => ?_)
  refine lv_icmp_eq (tgt := 2039) hx hb dL_law_1646 (by decide) (fun _ => ?_) (fun hc => absurd rfl hc)
  exact W.widen (by omega) (by omega) (kk H locs M2 hH hR2 ls hl)
theorem lc_36 {X : qX} {p : Program} {l : Launch} {e : Env} {s : State} {m : MethodId} {below : List Frame} {meth : Method} {c : Code} {H : Heap} {locs : List Loc} {cells slots : Nat} {b L n : Nat} {xs : Nat → Int32} {M : qM} {ls : Array Slot} (hl9 : l.stackTraces = false) (hV : lV X s s.heap) (hE : qE X p s m #[Value.ref b] c code 8 RL) (hX : lX X b L n xs s) (hH : q_H X M s H locs) (hR : RR M) (hc : cells + 1 ≤ 601024) (hs : slots + 6 ≤ 7293034) (hl : lv_has ls 8 [(4, .int (nI (7 * n))), (3, .ref (X.1 122)), (2, .ref (X.1 91)), (1, .ref (X.1 0)), (0, .ref b)])
    (kk : lK X p l e s m b below meth c cells slots n) : W p l e room_1 s m #[Value.ref b] below meth c H locs cells slots (lw_Z below #[Value.ref b] s) (F0 m 1651 ls []) := by
  have hx := hE.1
  have hb := hE.2.1
  obtain ⟨r, M1, M2, e1, e2, hR2⟩ := r_kin hR (xs (7 * n + 1)) (xs (7 * n + 2)) (xs (7 * n + 3))
  refine lv_aload_n hx hb dL_law_1651 rfl (lv_at hl 3 rfl) ?_
  refine lv_aload_n hx hb dL_law_1652 rfl (lv_at hl 4 rfl) ?_
  refine lv_iload hx hb dL_law_1653 (lv_at hl 0 rfl) ?_
  refine lv_iconst (v := 1) hx hb dL_law_1655 (by decide) ?_
  refine lv_iadd hx hb dL_law_1656 ?_
  refine lq_ld (k := 1) hE hX hH rfl (by omega) dL_law_1657 ?_
  refine lv_aload_n hx hb dL_law_1658 rfl (lv_at hl 4 rfl) ?_
  refine lv_iload hx hb dL_law_1659 (lv_at hl 0 rfl) ?_
  refine lv_iconst (v := 2) hx hb dL_law_1661 (by decide) ?_
  refine lv_iadd hx hb dL_law_1662 ?_
  refine lq_ld (k := 2) hE hX hH rfl (by omega) dL_law_1663 ?_
  refine lv_aload_n hx hb dL_law_1664 rfl (lv_at hl 4 rfl) ?_
  refine lv_iload hx hb dL_law_1665 (lv_at hl 0 rfl) ?_
  refine lv_iconst (v := 3) hx hb dL_law_1667 (by decide) ?_
  refine lv_iadd hx hb dL_law_1668 ?_
  refine lq_ld (k := 3) hE hX hH rfl (by omega) dL_law_1669 ?_
  refine lq_calli (M1 := M1) (lq_runV (As := [.int (xs (7 * n + 1)), .int (xs (7 * n + 2)), .int (xs (7 * n + 3))]) (rest := []) hE hH (tz_X11_kin l X (M := M) (hf := e1)) kv_L_182 qk_0 (by decide) rfl hl.1 rfl (Nat.le_of_ble_eq_true rfl) dL_law_1670 (by omega) (by omega)) hH (fun H locs hH => ?_)
  refine lv_aload_n hx hb dL_law_1673 rfl (lv_at hl 2 rfl) ?_
  refine lv_aload_n hx hb dL_law_1674 rfl (lv_at hl 4 rfl) ?_
  refine lv_iload hx hb dL_law_1675 (lv_at hl 0 rfl) ?_
  refine lv_iconst (v := 1) hx hb dL_law_1677 (by decide) ?_
  refine lv_iadd hx hb dL_law_1678 ?_
  refine lq_ld (k := 1) hE hX hH rfl (by omega) dL_law_1679 ?_
  refine lv_aload_n hx hb dL_law_1680 rfl (lv_at hl 4 rfl) ?_
  refine lv_iload hx hb dL_law_1681 (lv_at hl 0 rfl) ?_
  refine lv_iconst (v := 2) hx hb dL_law_1683 (by decide) ?_
  refine lv_iadd hx hb dL_law_1684 ?_
  refine lq_ld (k := 2) hE hX hH rfl (by omega) dL_law_1685 ?_
  refine lv_aload_n hx hb dL_law_1686 rfl (lv_at hl 4 rfl) ?_
  refine lv_iload hx hb dL_law_1687 (lv_at hl 0 rfl) ?_
  refine lv_iconst (v := 3) hx hb dL_law_1689 (by decide) ?_
  refine lv_iadd hx hb dL_law_1690 ?_
  refine lq_ld (k := 3) hE hX hH rfl (by omega) dL_law_1691 ?_
  refine lq_calli (M1 := M2) (lq_runV (As := [.int (xs (7 * n + 1)), .int (xs (7 * n + 2)), .int (xs (7 * n + 3))]) (rest := [.int (r)]) hE hH (tz_X12_kin l X (M := M1) (hf := e2)) kv_L_185 qk_91 (by decide) rfl hl.1 rfl (Nat.le_of_ble_eq_true rfl) dL_law_1692 (by omega) (by omega)) hH (fun H locs hH => ?_)
  refine lv_icmp_eq (tgt := 2039) hx hb dL_law_1695 (by decide) (fun _ => ?_) (fun hc => absurd rfl hc)
  exact W.widen (by omega) (by omega) (kk H locs M2 hH hR2 ls hl)
theorem lc_37 {X : qX} {p : Program} {l : Launch} {e : Env} {s : State} {m : MethodId} {below : List Frame} {meth : Method} {c : Code} {H : Heap} {locs : List Loc} {cells slots : Nat} {b L n : Nat} {xs : Nat → Int32} {M : qM} {ls : Array Slot} (hl9 : l.stackTraces = false) (hV : lV X s s.heap) (hE : qE X p s m #[Value.ref b] c code 8 RL) (hX : lX X b L n xs s) (hH : q_H X M s H locs) (hR : RR M) (hc : cells + 1 ≤ 601024) (hs : slots + 6 ≤ 7293034) (hl : lv_has ls 8 [(4, .int (nI (7 * n))), (3, .ref (X.1 122)), (2, .ref (X.1 91)), (1, .ref (X.1 0)), (0, .ref b)])
    (kk : lK X p l e s m b below meth c cells slots n) : W p l e room_1 s m #[Value.ref b] below meth c H locs cells slots (lw_Z below #[Value.ref b] s) (F0 m 1700 ls []) := by
  have hx := hE.1
  have hb := hE.2.1
  obtain ⟨r, M1, M2, e1, e2, hR2⟩ := r_seen hR (xs (7 * n + 1))
  refine lv_aload_n hx hb dL_law_1700 rfl (lv_at hl 3 rfl) ?_
  refine lv_aload_n hx hb dL_law_1701 rfl (lv_at hl 4 rfl) ?_
  refine lv_iload hx hb dL_law_1702 (lv_at hl 0 rfl) ?_
  refine lv_iconst (v := 1) hx hb dL_law_1704 (by decide) ?_
  refine lv_iadd hx hb dL_law_1705 ?_
  refine lq_ld (k := 1) hE hX hH rfl (by omega) dL_law_1706 ?_
  refine lq_calli (M1 := M1) (lq_runV (As := [.int (xs (7 * n + 1))]) (rest := []) hE hH (tz_X11_seen l X (M := M) (hf := e1)) kv_L_186 qk_0 (by decide) rfl hl.1 rfl (Nat.le_of_ble_eq_true rfl) dL_law_1707 (by omega) (by omega)) hH (fun H locs hH => ?_)
  refine lv_aload_n hx hb dL_law_1710 rfl (lv_at hl 2 rfl) ?_
  refine lv_aload_n hx hb dL_law_1711 rfl (lv_at hl 4 rfl) ?_
  refine lv_iload hx hb dL_law_1712 (lv_at hl 0 rfl) ?_
  refine lv_iconst (v := 1) hx hb dL_law_1714 (by decide) ?_
  refine lv_iadd hx hb dL_law_1715 ?_
  refine lq_ld (k := 1) hE hX hH rfl (by omega) dL_law_1716 ?_
  refine lq_calli (M1 := M2) (lq_runV (As := [.int (xs (7 * n + 1))]) (rest := [.int (r)]) hE hH (tz_X12_seen l X (M := M1) (hf := e2)) kv_L_189 qk_91 (by decide) rfl hl.1 rfl (Nat.le_of_ble_eq_true rfl) dL_law_1717 (by omega) (by omega)) hH (fun H locs hH => ?_)
  refine lv_icmp_eq (tgt := 2039) hx hb dL_law_1720 (by decide) (fun _ => ?_) (fun hc => absurd rfl hc)
  exact W.widen (by omega) (by omega) (kk H locs M2 hH hR2 ls hl)
theorem lc_38 {X : qX} {p : Program} {l : Launch} {e : Env} {s : State} {m : MethodId} {below : List Frame} {meth : Method} {c : Code} {H : Heap} {locs : List Loc} {cells slots : Nat} {b L n : Nat} {xs : Nat → Int32} {M : qM} {ls : Array Slot} (hl9 : l.stackTraces = false) (hV : lV X s s.heap) (hE : qE X p s m #[Value.ref b] c code 8 RL) (hX : lX X b L n xs s) (hH : q_H X M s H locs) (hR : RR M) (hc : cells + 1 ≤ 601024) (hs : slots + 6 ≤ 7293034) (hl : lv_has ls 8 [(4, .int (nI (7 * n))), (3, .ref (X.1 122)), (2, .ref (X.1 91)), (1, .ref (X.1 0)), (0, .ref b)])
    (kk : lK X p l e s m b below meth c cells slots n) : W p l e room_1 s m #[Value.ref b] below meth c H locs cells slots (lw_Z below #[Value.ref b] s) (F0 m 1725 ls []) := by
  have hx := hE.1
  have hb := hE.2.1
  obtain ⟨r, M1, M2, e1, e2, hR2⟩ := r_gains hR (xs (7 * n + 1)) (xs (7 * n + 2))
  refine lv_aload_n hx hb dL_law_1725 rfl (lv_at hl 3 rfl) ?_
  refine lv_aload_n hx hb dL_law_1726 rfl (lv_at hl 4 rfl) ?_
  refine lv_iload hx hb dL_law_1727 (lv_at hl 0 rfl) ?_
  refine lv_iconst (v := 1) hx hb dL_law_1729 (by decide) ?_
  refine lv_iadd hx hb dL_law_1730 ?_
  refine lq_ld (k := 1) hE hX hH rfl (by omega) dL_law_1731 ?_
  refine lv_aload_n hx hb dL_law_1732 rfl (lv_at hl 4 rfl) ?_
  refine lv_iload hx hb dL_law_1733 (lv_at hl 0 rfl) ?_
  refine lv_iconst (v := 2) hx hb dL_law_1735 (by decide) ?_
  refine lv_iadd hx hb dL_law_1736 ?_
  refine lq_ld (k := 2) hE hX hH rfl (by omega) dL_law_1737 ?_
  refine lq_calli (M1 := M1) (lq_runV (As := [.int (xs (7 * n + 1)), .int (xs (7 * n + 2))]) (rest := []) hE hH (tz_X11_gains l X (M := M) (hf := e1)) kv_L_190 qk_0 (by decide) rfl hl.1 rfl (Nat.le_of_ble_eq_true rfl) dL_law_1738 (by omega) (by omega)) hH (fun H locs hH => ?_)
  refine lv_aload_n hx hb dL_law_1741 rfl (lv_at hl 2 rfl) ?_
  refine lv_aload_n hx hb dL_law_1742 rfl (lv_at hl 4 rfl) ?_
  refine lv_iload hx hb dL_law_1743 (lv_at hl 0 rfl) ?_
  refine lv_iconst (v := 1) hx hb dL_law_1745 (by decide) ?_
  refine lv_iadd hx hb dL_law_1746 ?_
  refine lq_ld (k := 1) hE hX hH rfl (by omega) dL_law_1747 ?_
  refine lv_aload_n hx hb dL_law_1748 rfl (lv_at hl 4 rfl) ?_
  refine lv_iload hx hb dL_law_1749 (lv_at hl 0 rfl) ?_
  refine lv_iconst (v := 2) hx hb dL_law_1751 (by decide) ?_
  refine lv_iadd hx hb dL_law_1752 ?_
  refine lq_ld (k := 2) hE hX hH rfl (by omega) dL_law_1753 ?_
  refine lq_calli (M1 := M2) (lq_runV (As := [.int (xs (7 * n + 1)), .int (xs (7 * n + 2))]) (rest := [.int (r)]) hE hH (tz_X12_gains l X (M := M1) (hf := e2)) kv_L_193 qk_91 (by decide) rfl hl.1 rfl (Nat.le_of_ble_eq_true rfl) dL_law_1754 (by omega) (by omega)) hH (fun H locs hH => ?_)
  refine lv_icmp_eq (tgt := 2039) hx hb dL_law_1757 (by decide) (fun _ => ?_) (fun hc => absurd rfl hc)
  exact W.widen (by omega) (by omega) (kk H locs M2 hH hR2 ls hl)
theorem lc_39 {X : qX} {p : Program} {l : Launch} {e : Env} {s : State} {m : MethodId} {below : List Frame} {meth : Method} {c : Code} {H : Heap} {locs : List Loc} {cells slots : Nat} {b L n : Nat} {xs : Nat → Int32} {M : qM} {ls : Array Slot} (hl9 : l.stackTraces = false) (hV : lV X s s.heap) (hE : qE X p s m #[Value.ref b] c code 8 RL) (hX : lX X b L n xs s) (hH : q_H X M s H locs) (hR : RR M) (hc : cells + 1 ≤ 601024) (hs : slots + 6 ≤ 7293034) (hl : lv_has ls 8 [(4, .int (nI (7 * n))), (3, .ref (X.1 122)), (2, .ref (X.1 91)), (1, .ref (X.1 0)), (0, .ref b)])
    (kk : lK X p l e s m b below meth c cells slots n) : W p l e room_1 s m #[Value.ref b] below meth c H locs cells slots (lw_Z below #[Value.ref b] s) (F0 m 1762 ls []) := by
  have hx := hE.1
  have hb := hE.2.1
  obtain ⟨r, M1, M2, e1, e2, hR2⟩ := r_better hR (xs (7 * n + 1)) (xs (7 * n + 2))
  refine lv_aload_n hx hb dL_law_1762 rfl (lv_at hl 3 rfl) ?_
  refine lv_aload_n hx hb dL_law_1763 rfl (lv_at hl 4 rfl) ?_
  refine lv_iload hx hb dL_law_1764 (lv_at hl 0 rfl) ?_
  refine lv_iconst (v := 1) hx hb dL_law_1766 (by decide) ?_
  refine lv_iadd hx hb dL_law_1767 ?_
  refine lq_ld (k := 1) hE hX hH rfl (by omega) dL_law_1768 ?_
  refine lv_aload_n hx hb dL_law_1769 rfl (lv_at hl 4 rfl) ?_
  refine lv_iload hx hb dL_law_1770 (lv_at hl 0 rfl) ?_
  refine lv_iconst (v := 2) hx hb dL_law_1772 (by decide) ?_
  refine lv_iadd hx hb dL_law_1773 ?_
  refine lq_ld (k := 2) hE hX hH rfl (by omega) dL_law_1774 ?_
  refine lq_calli (M1 := M1) (lq_runV (As := [.int (xs (7 * n + 1)), .int (xs (7 * n + 2))]) (rest := []) hE hH (tz_X11_better l X (M := M) (hf := e1)) kv_L_194 qk_0 (by decide) rfl hl.1 rfl (Nat.le_of_ble_eq_true rfl) dL_law_1775 (by omega) (by omega)) hH (fun H locs hH => ?_)
  refine lv_aload_n hx hb dL_law_1778 rfl (lv_at hl 2 rfl) ?_
  refine lv_aload_n hx hb dL_law_1779 rfl (lv_at hl 4 rfl) ?_
  refine lv_iload hx hb dL_law_1780 (lv_at hl 0 rfl) ?_
  refine lv_iconst (v := 1) hx hb dL_law_1782 (by decide) ?_
  refine lv_iadd hx hb dL_law_1783 ?_
  refine lq_ld (k := 1) hE hX hH rfl (by omega) dL_law_1784 ?_
  refine lv_aload_n hx hb dL_law_1785 rfl (lv_at hl 4 rfl) ?_
  refine lv_iload hx hb dL_law_1786 (lv_at hl 0 rfl) ?_
  refine lv_iconst (v := 2) hx hb dL_law_1788 (by decide) ?_
  refine lv_iadd hx hb dL_law_1789 ?_
  refine lq_ld (k := 2) hE hX hH rfl (by omega) dL_law_1790 ?_
  refine lq_calli (M1 := M2) (lq_runV (As := [.int (xs (7 * n + 1)), .int (xs (7 * n + 2))]) (rest := [.int (r)]) hE hH (tz_X12_better l X (M := M1) (hf := e2)) kv_L_197 qk_91 (by decide) rfl hl.1 rfl (Nat.le_of_ble_eq_true rfl) dL_law_1791 (by omega) (by omega)) hH (fun H locs hH => ?_)
  refine lv_icmp_eq (tgt := 2039) hx hb dL_law_1794 (by decide) (fun _ => ?_) (fun hc => absurd rfl hc)
  exact W.widen (by omega) (by omega) (kk H locs M2 hH hR2 ls hl)
theorem lc_40 {X : qX} {p : Program} {l : Launch} {e : Env} {s : State} {m : MethodId} {below : List Frame} {meth : Method} {c : Code} {H : Heap} {locs : List Loc} {cells slots : Nat} {b L n : Nat} {xs : Nat → Int32} {M : qM} {ls : Array Slot} (hl9 : l.stackTraces = false) (hV : lV X s s.heap) (hE : qE X p s m #[Value.ref b] c code 8 RL) (hX : lX X b L n xs s) (hH : q_H X M s H locs) (hR : RR M) (hc : cells + 1 ≤ 601024) (hs : slots + 6 ≤ 7293034) (hl : lv_has ls 8 [(4, .int (nI (7 * n))), (3, .ref (X.1 122)), (2, .ref (X.1 91)), (1, .ref (X.1 0)), (0, .ref b)])
    (kk : lK X p l e s m b below meth c cells slots n) : W p l e room_1 s m #[Value.ref b] below meth c H locs cells slots (lw_Z below #[Value.ref b] s) (F0 m 1799 ls []) := by
  have hx := hE.1
  have hb := hE.2.1
  obtain ⟨r, M1, M2, e1, e2, hR2⟩ := r_agree hR (xs (7 * n + 1))
  refine lv_aload_n hx hb dL_law_1799 rfl (lv_at hl 3 rfl) ?_
  refine lv_aload_n hx hb dL_law_1800 rfl (lv_at hl 4 rfl) ?_
  refine lv_iload hx hb dL_law_1801 (lv_at hl 0 rfl) ?_
  refine lv_iconst (v := 1) hx hb dL_law_1803 (by decide) ?_
  refine lv_iadd hx hb dL_law_1804 ?_
  refine lq_ld (k := 1) hE hX hH rfl (by omega) dL_law_1805 ?_
  refine lq_calli (M1 := M1) (lq_runV (As := [.int (xs (7 * n + 1))]) (rest := []) hE hH (tz_X11_agree l X (M := M) (hf := e1)) kv_L_198 qk_0 (by decide) rfl hl.1 rfl (Nat.le_of_ble_eq_true rfl) dL_law_1806 (by omega) (by omega)) hH (fun H locs hH => ?_)
  refine lv_aload_n hx hb dL_law_1809 rfl (lv_at hl 2 rfl) ?_
  refine lv_aload_n hx hb dL_law_1810 rfl (lv_at hl 4 rfl) ?_
  refine lv_iload hx hb dL_law_1811 (lv_at hl 0 rfl) ?_
  refine lv_iconst (v := 1) hx hb dL_law_1813 (by decide) ?_
  refine lv_iadd hx hb dL_law_1814 ?_
  refine lq_ld (k := 1) hE hX hH rfl (by omega) dL_law_1815 ?_
  refine lq_calli (M1 := M2) (lq_runV (As := [.int (xs (7 * n + 1))]) (rest := [.int (r)]) hE hH (tz_X12_agree l X (M := M1) (hf := e2)) kv_L_201 qk_91 (by decide) rfl hl.1 rfl (Nat.le_of_ble_eq_true rfl) dL_law_1816 (by omega) (by omega)) hH (fun H locs hH => ?_)
  refine lv_icmp_eq (tgt := 2039) hx hb dL_law_1819 (by decide) (fun _ => ?_) (fun hc => absurd rfl hc)
  exact W.widen (by omega) (by omega) (kk H locs M2 hH hR2 ls hl)
theorem lc_41 {X : qX} {p : Program} {l : Launch} {e : Env} {s : State} {m : MethodId} {below : List Frame} {meth : Method} {c : Code} {H : Heap} {locs : List Loc} {cells slots : Nat} {b L n : Nat} {xs : Nat → Int32} {M : qM} {ls : Array Slot} (hl9 : l.stackTraces = false) (hV : lV X s s.heap) (hE : qE X p s m #[Value.ref b] c code 8 RL) (hX : lX X b L n xs s) (hH : q_H X M s H locs) (hR : RR M) (hc : cells + 1 ≤ 601024) (hs : slots + 6 ≤ 7293034) (hl : lv_has ls 8 [(4, .int (nI (7 * n))), (3, .ref (X.1 122)), (2, .ref (X.1 91)), (1, .ref (X.1 0)), (0, .ref b)])
    (kk : lK X p l e s m b below meth c cells slots n) : W p l e room_1 s m #[Value.ref b] below meth c H locs cells slots (lw_Z below #[Value.ref b] s) (F0 m 1824 ls []) := by
  have hx := hE.1
  have hb := hE.2.1
  obtain ⟨r, e1, e2⟩ := r_wayOf hR (xs (7 * n + 1))
  refine lv_aload_n hx hb dL_law_1824 rfl (lv_at hl 3 rfl) ?_
  refine lv_aload_n hx hb dL_law_1825 rfl (lv_at hl 4 rfl) ?_
  refine lv_iload hx hb dL_law_1826 (lv_at hl 0 rfl) ?_
  refine lv_iconst (v := 1) hx hb dL_law_1828 (by decide) ?_
  refine lv_iadd hx hb dL_law_1829 ?_
  refine lq_ld (k := 1) hE hX hH rfl (by omega) dL_law_1830 ?_
  refine lq_calli (M1 := M) (lq_runV (As := [.int (xs (7 * n + 1))]) (rest := []) hE hH (tz_X11_wayOf l X (M := M) (hf := e1)) kv_L_202 qk_0 (by decide) rfl hl.1 rfl (Nat.le_of_ble_eq_true rfl) dL_law_1831 (by omega) (by omega)) hH (fun H locs hH => ?_)
  refine lv_aload_n hx hb dL_law_1834 rfl (lv_at hl 2 rfl) ?_
  refine lv_aload_n hx hb dL_law_1835 rfl (lv_at hl 4 rfl) ?_
  refine lv_iload hx hb dL_law_1836 (lv_at hl 0 rfl) ?_
  refine lv_iconst (v := 1) hx hb dL_law_1838 (by decide) ?_
  refine lv_iadd hx hb dL_law_1839 ?_
  refine lq_ld (k := 1) hE hX hH rfl (by omega) dL_law_1840 ?_
  refine lq_calli (M1 := M) (lq_runV (As := [.int (xs (7 * n + 1))]) (rest := [.int (r)]) hE hH (tz_X12_wayOf l X (M := M) (hf := e2)) kv_L_205 qk_91 (by decide) rfl hl.1 rfl (Nat.le_of_ble_eq_true rfl) dL_law_1841 (by omega) (by omega)) hH (fun H locs hH => ?_)
  refine lv_icmp_eq (tgt := 2039) hx hb dL_law_1844 (by decide) (fun _ => ?_) (fun hc => absurd rfl hc)
  exact W.widen (by omega) (by omega) (kk H locs M hH hR ls hl)
theorem lc_42 {X : qX} {p : Program} {l : Launch} {e : Env} {s : State} {m : MethodId} {below : List Frame} {meth : Method} {c : Code} {H : Heap} {locs : List Loc} {cells slots : Nat} {b L n : Nat} {xs : Nat → Int32} {M : qM} {ls : Array Slot} (hl9 : l.stackTraces = false) (hV : lV X s s.heap) (hE : qE X p s m #[Value.ref b] c code 8 RL) (hX : lX X b L n xs s) (hH : q_H X M s H locs) (hR : RR M) (hc : cells + 1 ≤ 601024) (hs : slots + 6 ≤ 7293034) (hl : lv_has ls 8 [(4, .int (nI (7 * n))), (3, .ref (X.1 122)), (2, .ref (X.1 91)), (1, .ref (X.1 0)), (0, .ref b)])
    (kk : lK X p l e s m b below meth c cells slots n) : W p l e room_1 s m #[Value.ref b] below meth c H locs cells slots (lw_Z below #[Value.ref b] s) (F0 m 1849 ls []) := by
  have hx := hE.1
  have hb := hE.2.1
  obtain ⟨r, M1, M2, e1, e2, hR2⟩ := r_mean hR 
  refine lv_aload_n hx hb dL_law_1849 rfl (lv_at hl 3 rfl) ?_
  refine lq_calli (M1 := M1) (lq_runV (As := []) (rest := []) hE hH (tz_X11_mean l X (M := M) (hf := e1)) kv_L_206 qk_0 (by decide) rfl hl.1 rfl (Nat.le_of_ble_eq_true rfl) dL_law_1850 (by omega) (by omega)) hH (fun H locs hH => ?_)
  refine lv_aload_n hx hb dL_law_1853 rfl (lv_at hl 2 rfl) ?_
  refine lq_calli (M1 := M2) (lq_runV (As := []) (rest := [.int (r)]) hE hH (tz_X12_mean l X (M := M1) (hf := e2)) kv_L_209 qk_91 (by decide) rfl hl.1 rfl (Nat.le_of_ble_eq_true rfl) dL_law_1854 (by omega) (by omega)) hH (fun H locs hH => ?_)
  refine lv_icmp_eq (tgt := 2039) hx hb dL_law_1857 (by decide) (fun _ => ?_) (fun hc => absurd rfl hc)
  exact W.widen (by omega) (by omega) (kk H locs M2 hH hR2 ls hl)
theorem lc_43 {X : qX} {p : Program} {l : Launch} {e : Env} {s : State} {m : MethodId} {below : List Frame} {meth : Method} {c : Code} {H : Heap} {locs : List Loc} {cells slots : Nat} {b L n : Nat} {xs : Nat → Int32} {M : qM} {ls : Array Slot} (hl9 : l.stackTraces = false) (hV : lV X s s.heap) (hE : qE X p s m #[Value.ref b] c code 8 RL) (hX : lX X b L n xs s) (hH : q_H X M s H locs) (hR : RR M) (hc : cells + 1 ≤ 601024) (hs : slots + 6 ≤ 7293034) (hl : lv_has ls 8 [(4, .int (nI (7 * n))), (3, .ref (X.1 122)), (2, .ref (X.1 91)), (1, .ref (X.1 0)), (0, .ref b)])
    (kk : lK X p l e s m b below meth c cells slots n) : W p l e room_1 s m #[Value.ref b] below meth c H locs cells slots (lw_Z below #[Value.ref b] s) (F0 m 1862 ls []) := by
  have hx := hE.1
  have hb := hE.2.1
  obtain ⟨r, M1, M2, e1, e2, hR2⟩ := r_gone hR (xs (7 * n + 1))
  refine lv_aload_n hx hb dL_law_1862 rfl (lv_at hl 3 rfl) ?_
  refine lv_aload_n hx hb dL_law_1863 rfl (lv_at hl 4 rfl) ?_
  refine lv_iload hx hb dL_law_1864 (lv_at hl 0 rfl) ?_
  refine lv_iconst (v := 1) hx hb dL_law_1866 (by decide) ?_
  refine lv_iadd hx hb dL_law_1867 ?_
  refine lq_ld (k := 1) hE hX hH rfl (by omega) dL_law_1868 ?_
  refine lq_calll (M1 := M1) (lq_runV (As := [.int (xs (7 * n + 1))]) (rest := []) hE hH (tz_X11_gone l X (M := M) (hf := e1)) kv_L_210 qk_0 (by decide) rfl hl.1 rfl (Nat.le_of_ble_eq_true rfl) dL_law_1869 (by omega) (by omega)) hH (fun H locs hH => ?_)
  refine lv_aload_n hx hb dL_law_1872 rfl (lv_at hl 2 rfl) ?_
  refine lv_aload_n hx hb dL_law_1873 rfl (lv_at hl 4 rfl) ?_
  refine lv_iload hx hb dL_law_1874 (lv_at hl 0 rfl) ?_
  refine lv_iconst (v := 1) hx hb dL_law_1876 (by decide) ?_
  refine lv_iadd hx hb dL_law_1877 ?_
  refine lq_ld (k := 1) hE hX hH rfl (by omega) dL_law_1878 ?_
  refine lq_calll (M1 := M2) (lq_runV (As := [.int (xs (7 * n + 1))]) (rest := [.long (r)]) hE hH (tz_X12_gone l X (M := M1) (hf := e2)) kv_L_213 qk_91 (by decide) rfl hl.1 rfl (Nat.le_of_ble_eq_true rfl) dL_law_1879 (by omega) (by omega)) hH (fun H locs hH => ?_)
  refine W.lcmp hx hb dL_law_1882 ?_
  refine lv_if_eq (tgt := 2039) hx hb dL_law_1883 (by decide) (fun _ => ?_) (fun hc => absurd ?_ hc)
  · exact W.widen (by omega) (by omega) (kk H locs M2 hH hR2 ls hl)
  · exact lq_cmp r
theorem lc_44 {X : qX} {p : Program} {l : Launch} {e : Env} {s : State} {m : MethodId} {below : List Frame} {meth : Method} {c : Code} {H : Heap} {locs : List Loc} {cells slots : Nat} {b L n : Nat} {xs : Nat → Int32} {M : qM} {ls : Array Slot} (hl9 : l.stackTraces = false) (hV : lV X s s.heap) (hE : qE X p s m #[Value.ref b] c code 8 RL) (hX : lX X b L n xs s) (hH : q_H X M s H locs) (hR : RR M) (hc : cells + 1 ≤ 601024) (hs : slots + 6 ≤ 7293034) (hl : lv_has ls 8 [(4, .int (nI (7 * n))), (3, .ref (X.1 122)), (2, .ref (X.1 91)), (1, .ref (X.1 0)), (0, .ref b)])
    (kk : lK X p l e s m b below meth c cells slots n) : W p l e room_1 s m #[Value.ref b] below meth c H locs cells slots (lw_Z below #[Value.ref b] s) (F0 m 1888 ls []) := by
  have hx := hE.1
  have hb := hE.2.1
  obtain ⟨r, M1, M2, e1, e2, hR2⟩ := r_like hR (xs (7 * n + 1))
  refine lv_aload_n hx hb dL_law_1888 rfl (lv_at hl 3 rfl) ?_
  refine lv_aload_n hx hb dL_law_1889 rfl (lv_at hl 4 rfl) ?_
  refine lv_iload hx hb dL_law_1890 (lv_at hl 0 rfl) ?_
  refine lv_iconst (v := 1) hx hb dL_law_1892 (by decide) ?_
  refine lv_iadd hx hb dL_law_1893 ?_
  refine lq_ld (k := 1) hE hX hH rfl (by omega) dL_law_1894 ?_
  refine lq_calli (M1 := M1) (lq_runV (As := [.int (xs (7 * n + 1))]) (rest := []) hE hH (tz_X11_like l X (M := M) (hf := e1)) kv_L_214 qk_0 (by decide) rfl hl.1 rfl (Nat.le_of_ble_eq_true rfl) dL_law_1895 (by omega) (by omega)) hH (fun H locs hH => ?_)
  refine lv_aload_n hx hb dL_law_1898 rfl (lv_at hl 2 rfl) ?_
  refine lv_aload_n hx hb dL_law_1899 rfl (lv_at hl 4 rfl) ?_
  refine lv_iload hx hb dL_law_1900 (lv_at hl 0 rfl) ?_
  refine lv_iconst (v := 1) hx hb dL_law_1902 (by decide) ?_
  refine lv_iadd hx hb dL_law_1903 ?_
  refine lq_ld (k := 1) hE hX hH rfl (by omega) dL_law_1904 ?_
  refine lq_calli (M1 := M2) (lq_runV (As := [.int (xs (7 * n + 1))]) (rest := [.int (r)]) hE hH (tz_X12_like l X (M := M1) (hf := e2)) kv_L_217 qk_91 (by decide) rfl hl.1 rfl (Nat.le_of_ble_eq_true rfl) dL_law_1905 (by omega) (by omega)) hH (fun H locs hH => ?_)
  refine lv_icmp_eq (tgt := 2039) hx hb dL_law_1908 (by decide) (fun _ => ?_) (fun hc => absurd rfl hc)
  exact W.widen (by omega) (by omega) (kk H locs M2 hH hR2 ls hl)
theorem lc_45 {X : qX} {p : Program} {l : Launch} {e : Env} {s : State} {m : MethodId} {below : List Frame} {meth : Method} {c : Code} {H : Heap} {locs : List Loc} {cells slots : Nat} {b L n : Nat} {xs : Nat → Int32} {M : qM} {ls : Array Slot} (hl9 : l.stackTraces = false) (hV : lV X s s.heap) (hE : qE X p s m #[Value.ref b] c code 8 RL) (hX : lX X b L n xs s) (hH : q_H X M s H locs) (hR : RR M) (hc : cells + 1 ≤ 601024) (hs : slots + 6 ≤ 7293034) (hl : lv_has ls 8 [(4, .int (nI (7 * n))), (3, .ref (X.1 122)), (2, .ref (X.1 91)), (1, .ref (X.1 0)), (0, .ref b)])
    (kk : lK X p l e s m b below meth c cells slots n) : W p l e room_1 s m #[Value.ref b] below meth c H locs cells slots (lw_Z below #[Value.ref b] s) (F0 m 1913 ls []) := by
  have hx := hE.1
  have hb := hE.2.1
  obtain ⟨r, M1, M2, e1, e2, hR2⟩ := r_swap hR (xs (7 * n + 1)) (xs (7 * n + 2))
  refine lv_aload_n hx hb dL_law_1913 rfl (lv_at hl 3 rfl) ?_
  refine lv_aload_n hx hb dL_law_1914 rfl (lv_at hl 4 rfl) ?_
  refine lv_iload hx hb dL_law_1915 (lv_at hl 0 rfl) ?_
  refine lv_iconst (v := 1) hx hb dL_law_1917 (by decide) ?_
  refine lv_iadd hx hb dL_law_1918 ?_
  refine lq_ld (k := 1) hE hX hH rfl (by omega) dL_law_1919 ?_
  refine lv_aload_n hx hb dL_law_1920 rfl (lv_at hl 4 rfl) ?_
  refine lv_iload hx hb dL_law_1921 (lv_at hl 0 rfl) ?_
  refine lv_iconst (v := 2) hx hb dL_law_1923 (by decide) ?_
  refine lv_iadd hx hb dL_law_1924 ?_
  refine lq_ld (k := 2) hE hX hH rfl (by omega) dL_law_1925 ?_
  refine lq_calli (M1 := M1) (lq_runV (As := [.int (xs (7 * n + 1)), .int (xs (7 * n + 2))]) (rest := []) hE hH (tz_X11_swap l X (M := M) (hf := e1)) kv_L_218 qk_0 (by decide) rfl hl.1 rfl (Nat.le_of_ble_eq_true rfl) dL_law_1926 (by omega) (by omega)) hH (fun H locs hH => ?_)
  refine lv_aload_n hx hb dL_law_1929 rfl (lv_at hl 2 rfl) ?_
  refine lv_aload_n hx hb dL_law_1930 rfl (lv_at hl 4 rfl) ?_
  refine lv_iload hx hb dL_law_1931 (lv_at hl 0 rfl) ?_
  refine lv_iconst (v := 1) hx hb dL_law_1933 (by decide) ?_
  refine lv_iadd hx hb dL_law_1934 ?_
  refine lq_ld (k := 1) hE hX hH rfl (by omega) dL_law_1935 ?_
  refine lv_aload_n hx hb dL_law_1936 rfl (lv_at hl 4 rfl) ?_
  refine lv_iload hx hb dL_law_1937 (lv_at hl 0 rfl) ?_
  refine lv_iconst (v := 2) hx hb dL_law_1939 (by decide) ?_
  refine lv_iadd hx hb dL_law_1940 ?_
  refine lq_ld (k := 2) hE hX hH rfl (by omega) dL_law_1941 ?_
  refine lq_calli (M1 := M2) (lq_runV (As := [.int (xs (7 * n + 1)), .int (xs (7 * n + 2))]) (rest := [.int (r)]) hE hH (tz_X12_swap l X (M := M1) (hf := e2)) kv_L_221 qk_91 (by decide) rfl hl.1 rfl (Nat.le_of_ble_eq_true rfl) dL_law_1942 (by omega) (by omega)) hH (fun H locs hH => ?_)
  refine lv_icmp_eq (tgt := 2039) hx hb dL_law_1945 (by decide) (fun _ => ?_) (fun hc => absurd rfl hc)
  exact W.widen (by omega) (by omega) (kk H locs M2 hH hR2 ls hl)
theorem lc_46 {X : qX} {p : Program} {l : Launch} {e : Env} {s : State} {m : MethodId} {below : List Frame} {meth : Method} {c : Code} {H : Heap} {locs : List Loc} {cells slots : Nat} {b L n : Nat} {xs : Nat → Int32} {M : qM} {ls : Array Slot} (hl9 : l.stackTraces = false) (hV : lV X s s.heap) (hE : qE X p s m #[Value.ref b] c code 8 RL) (hX : lX X b L n xs s) (hH : q_H X M s H locs) (hR : RR M) (hc : cells + 1 ≤ 601024) (hs : slots + 6 ≤ 7293034) (hl : lv_has ls 8 [(4, .int (nI (7 * n))), (3, .ref (X.1 122)), (2, .ref (X.1 91)), (1, .ref (X.1 0)), (0, .ref b)])
    (kk : lK X p l e s m b below meth c cells slots n) : W p l e room_1 s m #[Value.ref b] below meth c H locs cells slots (lw_Z below #[Value.ref b] s) (F0 m 1950 ls []) := by
  have hx := hE.1
  have hb := hE.2.1
  obtain ⟨r, M1, e1, e2, hR2⟩ := r_crowd hR 
  refine lv_aload_n hx hb dL_law_1950 rfl (lv_at hl 3 rfl) ?_
  refine lq_calli (M1 := M1) (lq_runV (As := []) (rest := []) hE hH (tz_X11_crowd l X (M := M) (hf := e1)) kv_L_222 qk_0 (by decide) rfl hl.1 rfl (Nat.le_of_ble_eq_true rfl) dL_law_1951 (by omega) (by omega)) hH (fun H locs hH => ?_)
  refine lv_aload_n hx hb dL_law_1954 rfl (lv_at hl 2 rfl) ?_
  refine lq_calli (M1 := M1) (lq_runV (As := []) (rest := [.int (r)]) hE hH (tz_X12_crowd l X (M := M1) (hf := e2)) kv_L_225 qk_91 (by decide) rfl hl.1 rfl (Nat.le_of_ble_eq_true rfl) dL_law_1955 (by omega) (by omega)) hH (fun H locs hH => ?_)
  refine lv_icmp_eq (tgt := 2039) hx hb dL_law_1958 (by decide) (fun _ => ?_) (fun hc => absurd rfl hc)
  exact W.widen (by omega) (by omega) (kk H locs M1 hH hR2 ls hl)
theorem lc_47 {X : qX} {p : Program} {l : Launch} {e : Env} {s : State} {m : MethodId} {below : List Frame} {meth : Method} {c : Code} {H : Heap} {locs : List Loc} {cells slots : Nat} {b L n : Nat} {xs : Nat → Int32} {M : qM} {ls : Array Slot} (hl9 : l.stackTraces = false) (hV : lV X s s.heap) (hE : qE X p s m #[Value.ref b] c code 8 RL) (hX : lX X b L n xs s) (hH : q_H X M s H locs) (hR : RR M) (hc : cells + 1 ≤ 601024) (hs : slots + 6 ≤ 7293034) (hl : lv_has ls 8 [(4, .int (nI (7 * n))), (3, .ref (X.1 122)), (2, .ref (X.1 91)), (1, .ref (X.1 0)), (0, .ref b)])
    (kk : lK X p l e s m b below meth c cells slots n) : W p l e room_1 s m #[Value.ref b] below meth c H locs cells slots (lw_Z below #[Value.ref b] s) (F0 m 1963 ls []) := by
  have hx := hE.1
  have hb := hE.2.1
  obtain ⟨r, M1, M2, e1, e2, hR2⟩ := r_free hR (xs (7 * n + 1))
  refine lv_aload_n hx hb dL_law_1963 rfl (lv_at hl 3 rfl) ?_
  refine lv_aload_n hx hb dL_law_1964 rfl (lv_at hl 4 rfl) ?_
  refine lv_iload hx hb dL_law_1965 (lv_at hl 0 rfl) ?_
  refine lv_iconst (v := 1) hx hb dL_law_1967 (by decide) ?_
  refine lv_iadd hx hb dL_law_1968 ?_
  refine lq_ld (k := 1) hE hX hH rfl (by omega) dL_law_1969 ?_
  refine lq_calli (M1 := M1) (lq_runV (As := [.int (xs (7 * n + 1))]) (rest := []) hE hH (tz_X11_free l X (M := M) (hf := e1)) kv_L_226 qk_0 (by decide) rfl hl.1 rfl (Nat.le_of_ble_eq_true rfl) dL_law_1970 (by omega) (by omega)) hH (fun H locs hH => ?_)
  refine lv_aload_n hx hb dL_law_1973 rfl (lv_at hl 2 rfl) ?_
  refine lv_aload_n hx hb dL_law_1974 rfl (lv_at hl 4 rfl) ?_
  refine lv_iload hx hb dL_law_1975 (lv_at hl 0 rfl) ?_
  refine lv_iconst (v := 1) hx hb dL_law_1977 (by decide) ?_
  refine lv_iadd hx hb dL_law_1978 ?_
  refine lq_ld (k := 1) hE hX hH rfl (by omega) dL_law_1979 ?_
  refine lq_calli (M1 := M2) (lq_runV (As := [.int (xs (7 * n + 1))]) (rest := [.int (r)]) hE hH (tz_X12_free l X (M := M1) (hf := e2)) kv_L_229 qk_91 (by decide) rfl hl.1 rfl (Nat.le_of_ble_eq_true rfl) dL_law_1980 (by omega) (by omega)) hH (fun H locs hH => ?_)
  refine lv_icmp_eq (tgt := 2039) hx hb dL_law_1983 (by decide) (fun _ => ?_) (fun hc => absurd rfl hc)
  exact W.widen (by omega) (by omega) (kk H locs M2 hH hR2 ls hl)
theorem lc_48 {X : qX} {p : Program} {l : Launch} {e : Env} {s : State} {m : MethodId} {below : List Frame} {meth : Method} {c : Code} {H : Heap} {locs : List Loc} {cells slots : Nat} {b L n : Nat} {xs : Nat → Int32} {M : qM} {ls : Array Slot} (hl9 : l.stackTraces = false) (hV : lV X s s.heap) (hE : qE X p s m #[Value.ref b] c code 8 RL) (hX : lX X b L n xs s) (hH : q_H X M s H locs) (hR : RR M) (hc : cells + 1 ≤ 601024) (hs : slots + 6 ≤ 7293034) (hl : lv_has ls 8 [(4, .int (nI (7 * n))), (3, .ref (X.1 122)), (2, .ref (X.1 91)), (1, .ref (X.1 0)), (0, .ref b)])
    (kk : lK X p l e s m b below meth c cells slots n) : W p l e room_1 s m #[Value.ref b] below meth c H locs cells slots (lw_Z below #[Value.ref b] s) (F0 m 1988 ls []) := by
  have hx := hE.1
  have hb := hE.2.1
  obtain ⟨r, M1, M2, e1, e2, hR2⟩ := r_image hR 
  refine lv_aload_n hx hb dL_law_1988 rfl (lv_at hl 3 rfl) ?_
  refine lq_calli (M1 := M1) (lq_runV (As := []) (rest := []) hE hH (tz_X11_image l X (M := M) (hf := e1)) kv_L_230 qk_0 (by decide) rfl hl.1 rfl (Nat.le_of_ble_eq_true rfl) dL_law_1989 (by omega) (by omega)) hH (fun H locs hH => ?_)
  refine lv_aload_n hx hb dL_law_1992 rfl (lv_at hl 2 rfl) ?_
  refine lq_calli (M1 := M2) (lq_runV (As := []) (rest := [.int (r)]) hE hH (tz_X12_image l X (M := M1) (hf := e2)) kv_L_233 qk_91 (by decide) rfl hl.1 rfl (Nat.le_of_ble_eq_true rfl) dL_law_1993 (by omega) (by omega)) hH (fun H locs hH => ?_)
  refine lv_icmp_eq (tgt := 2039) hx hb dL_law_1996 (by decide) (fun _ => ?_) (fun hc => absurd rfl hc)
  exact W.widen (by omega) (by omega) (kk H locs M2 hH hR2 ls hl)
theorem lc_49 {X : qX} {p : Program} {l : Launch} {e : Env} {s : State} {m : MethodId} {below : List Frame} {meth : Method} {c : Code} {H : Heap} {locs : List Loc} {cells slots : Nat} {b L n : Nat} {xs : Nat → Int32} {M : qM} {ls : Array Slot} (hl9 : l.stackTraces = false) (hV : lV X s s.heap) (hE : qE X p s m #[Value.ref b] c code 8 RL) (hX : lX X b L n xs s) (hH : q_H X M s H locs) (hR : RR M) (hc : cells + 1 ≤ 601024) (hs : slots + 6 ≤ 7293034) (hl : lv_has ls 8 [(4, .int (nI (7 * n))), (3, .ref (X.1 122)), (2, .ref (X.1 91)), (1, .ref (X.1 0)), (0, .ref b)])
    (kk : lK X p l e s m b below meth c cells slots n) : W p l e room_1 s m #[Value.ref b] below meth c H locs cells slots (lw_Z below #[Value.ref b] s) (F0 m 2001 ls []) := by
  have hx := hE.1
  have hb := hE.2.1
  obtain ⟨r, M1, M2, e1, e2, hR2⟩ := r_back hR 
  refine lv_aload_n hx hb dL_law_2001 rfl (lv_at hl 3 rfl) ?_
  refine lq_calli (M1 := M1) (lq_runV (As := []) (rest := []) hE hH (tz_X11_back l X (M := M) (hf := e1)) kv_L_234 qk_0 (by decide) rfl hl.1 rfl (Nat.le_of_ble_eq_true rfl) dL_law_2002 (by omega) (by omega)) hH (fun H locs hH => ?_)
  refine lv_aload_n hx hb dL_law_2005 rfl (lv_at hl 2 rfl) ?_
  refine lq_calli (M1 := M2) (lq_runV (As := []) (rest := [.int (r)]) hE hH (tz_X12_back l X (M := M1) (hf := e2)) kv_L_237 qk_91 (by decide) rfl hl.1 rfl (Nat.le_of_ble_eq_true rfl) dL_law_2006 (by omega) (by omega)) hH (fun H locs hH => ?_)
  refine lv_icmp_eq (tgt := 2039) hx hb dL_law_2009 (by decide) (fun _ => ?_) (fun hc => absurd rfl hc)
  exact W.widen (by omega) (by omega) (kk H locs M2 hH hR2 ls hl)
theorem lc_50 {X : qX} {p : Program} {l : Launch} {e : Env} {s : State} {m : MethodId} {below : List Frame} {meth : Method} {c : Code} {H : Heap} {locs : List Loc} {cells slots : Nat} {b L n : Nat} {xs : Nat → Int32} {M : qM} {ls : Array Slot} (hl9 : l.stackTraces = false) (hV : lV X s s.heap) (hE : qE X p s m #[Value.ref b] c code 8 RL) (hX : lX X b L n xs s) (hH : q_H X M s H locs) (hR : RR M) (hc : cells + 1 ≤ 601024) (hs : slots + 6 ≤ 7293034) (hl : lv_has ls 8 [(4, .int (nI (7 * n))), (3, .ref (X.1 122)), (2, .ref (X.1 91)), (1, .ref (X.1 0)), (0, .ref b)])
    (kk : lK X p l e s m b below meth c cells slots n) : W p l e room_1 s m #[Value.ref b] below meth c H locs cells slots (lw_Z below #[Value.ref b] s) (F0 m 2014 ls []) := by
  have hx := hE.1
  have hb := hE.2.1
  obtain ⟨r, e1, e2⟩ := r_count hR (xs (7 * n + 1))
  refine lv_aload_n hx hb dL_law_2014 rfl (lv_at hl 3 rfl) ?_
  refine lv_aload_n hx hb dL_law_2015 rfl (lv_at hl 4 rfl) ?_
  refine lv_iload hx hb dL_law_2016 (lv_at hl 0 rfl) ?_
  refine lv_iconst (v := 1) hx hb dL_law_2018 (by decide) ?_
  refine lv_iadd hx hb dL_law_2019 ?_
  refine lq_ld (k := 1) hE hX hH rfl (by omega) dL_law_2020 ?_
  refine lq_calli (M1 := M) (lq_runV (As := [.int (xs (7 * n + 1))]) (rest := []) hE hH (tz_X11_count l X (M := M) (hf := e1)) kv_L_238 qk_0 (by decide) rfl hl.1 rfl (Nat.le_of_ble_eq_true rfl) dL_law_2021 (by omega) (by omega)) hH (fun H locs hH => ?_)
  refine lv_aload_n hx hb dL_law_2024 rfl (lv_at hl 2 rfl) ?_
  refine lv_aload_n hx hb dL_law_2025 rfl (lv_at hl 4 rfl) ?_
  refine lv_iload hx hb dL_law_2026 (lv_at hl 0 rfl) ?_
  refine lv_iconst (v := 1) hx hb dL_law_2028 (by decide) ?_
  refine lv_iadd hx hb dL_law_2029 ?_
  refine lq_ld (k := 1) hE hX hH rfl (by omega) dL_law_2030 ?_
  refine lq_calli (M1 := M) (lq_runV (As := [.int (xs (7 * n + 1))]) (rest := [.int (r)]) hE hH (tz_X12_count l X (M := M) (hf := e2)) kv_L_241 qk_91 (by decide) rfl hl.1 rfl (Nat.le_of_ble_eq_true rfl) dL_law_2031 (by omega) (by omega)) hH (fun H locs hH => ?_)
  refine lv_icmp_eq (tgt := 2039) hx hb dL_law_2034 (by decide) (fun _ => ?_) (fun hc => absurd rfl hc)
  exact W.widen (by omega) (by omega) (kk H locs M hH hR ls hl)
