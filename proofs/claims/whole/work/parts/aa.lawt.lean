/-! ===== the law: the cases whose calls may throw ===== -/
theorem kv_L_47 : q_KV RL 47 yX12_village cX12_village 3 (some .int) 2 12 := ⟨⟨by decide +kernel, by decide +kernel, by decide +kernel, by decide +kernel, by decide⟩, by decide +kernel, by decide +kernel, TX12, 70, rfl, by decide⟩
theorem kv_L_133 : q_KV RL 133 yX12_value cX12_value 2 (some .long) 1 12 := ⟨⟨by decide +kernel, by decide +kernel, by decide +kernel, by decide +kernel, by decide⟩, by decide +kernel, by decide +kernel, TX12, 70, rfl, by decide⟩
theorem kv_L_48 : q_KV RL 48 yX12_thrown cX12_thrown 1 (some .int) 0 12 := ⟨⟨by decide +kernel, by decide +kernel, by decide +kernel, by decide +kernel, by decide⟩, by decide +kernel, by decide +kernel, TX12, 70, rfl, by decide⟩
theorem wl_42 : Cond.codeWith yL_village cL_village 5 (some .int) hh4 ∈ q_tbl ∧ Cond.initialized RL ∈ q_tbl ∧ Cond.methodLink RL 42 yL_village ∈ q_tbl ∧ Cond.static yL_village ∈ q_tbl := by decide +kernel
theorem wl_130 : Cond.codeWith yL_value cL_value 4 (some .int) hh3 ∈ q_tbl ∧ Cond.initialized RL ∈ q_tbl ∧ Cond.methodLink RL 130 yL_value ∈ q_tbl ∧ Cond.static yL_value ∈ q_tbl := by decide +kernel
theorem pm_4 : (parseMethodDescriptor yL_village.desc).map (fun d => d.parameters.length) = some 4 := by decide +kernel
theorem pm_3 : (parseMethodDescriptor yL_value.desc).map (fun d => d.parameters.length) = some 3 := by decide +kernel
section LS
variable {X : qX} {p : Program} {l : Launch} {e : Env} {s : State} {m : MethodId} {args : Array Value} {below : List Frame} {meth : Method} {c : Code} {H : Heap} {locs : List Loc} {cells slots : Nat} {Q : State → Prop}
variable {cc cc1 : ByteArray} {pc : Nat} {ls : Array Slot} {st0 rest As : List Value} {M M1 : qM} {nL idx np n1 : Nat} {y : MethodName} {hh : List (Nat × Nat × Nat × Nat)}
theorem lx_callS {o : Int32} (hE : qE X p s m args c cc nL RL) (hV : lV X s s.heap) (hH : q_H X M s H locs) (hM : vx_Met l y (Cond.codeWith y cc1 n1 (some .int) hh :: q_tbl) (lx_rm 8) (lx_Pc X M As) (q_Qi X o M1) (lx_X0 X) 1 6 (q_A X))
    (hw : Cond.codeWith y cc1 n1 (some .int) hh ∈ q_tbl ∧ Cond.initialized y.cls ∈ q_tbl ∧ Cond.methodLink RL idx y ∈ q_tbl ∧ Cond.static y ∈ q_tbl) (hp : (parseMethodDescriptor y.desc).map (fun d => d.parameters.length) = some np) (hy : y.cls ≠ "java/lang/invoke/MethodHandle" ∧ y.cls ≠ "java/lang/invoke/VarHandle") (hn1 : n1 ≤ 40) (hn : As.length = np) (hls : ls.size = nL) (hst : st0 = As.reverse ++ rest) (hW : (rest.map fun v => v.category).sum ≤ 8) (hdg : decode cc pc = .ok (.invokestatic idx, 3)) (hc : cells + 1 ≤ 601024) (hs : slots + 6 ≤ 7293034)
    (kk : ∀ (H : Heap) (locs : List Loc), q_H X M1 s H locs → W p l e room_1 s m args below meth c H locs (cells + 1) (slots + 6) Q (F0 m (pc + 3) ls (.int o :: rest))) : W p l e room_1 s m args below meth c H locs cells slots Q (F0 m pc ls st0) := by
  have hE0 := hE
  obtain ⟨hx, hb, hml, ho, hts, hKK, hi, -⟩ := hE
  obtain ⟨w1, w2, w3, w4⟩ := hw
  refine vx_calli (A0 := q_A X) (vx_runSX (Ts := q_tbl) (As := As) (rest := rest) (hh := hh) (bytes := cc1) (maxL := n1) (ret := some .int) (n := np) ⟨hx, hb, hml, ho, hts⟩ hM ⟨⟨rfl, rfl, by decide, ?_, pay_in hts ?_, List.mem_cons_self⟩, hts _ w1, hts _ w2, hy, ?_, hts _ w3, hts _ w4⟩ ⟨lx_blind, lx_pre hE0 hV hH⟩ rfl hn hls hst (lv_room hW) hdg ⟨hc, hs⟩) hH.2 (fun _ _ h => h) (fun _ h => h) (fun _ _ h => h) (fun E ce q9 u t H1 locs1 _ _ hp => hp.elim) (fun r' u t H1 locs1 ht hvm hw hB _ _ hS => ?_)
  · show 8 + (n1 + 11) + 64 * 8 ≤ 84000
    omega
  · intro w hw
    rcases List.mem_cons.mp hw with rfl | hw
    · exact ⟨w1, q_good w1⟩
    · exact ⟨hw, q_good hw⟩
  · intro sig h
    rw [h] at hp
    exact (Option.some.inj hp).symm
  · subst hw
    have hB : q_P X M1 t.heap := hB
    rw [ht] at hB
    exact kk H1 locs1 ⟨hB, hS⟩
end LS
theorem lc_4 {X : qX} {p : Program} {l : Launch} {e : Env} {s : State} {m : MethodId} {below : List Frame} {meth : Method} {c : Code} {H : Heap} {locs : List Loc} {cells slots : Nat} {b L n : Nat} {xs : Nat → Int32} {M : qM} {ls : Array Slot} (hl9 : l.stackTraces = false) (hV : lV X s s.heap) (hE : qE X p s m #[Value.ref b] c code 8 RL) (hX : lX X b L n xs s) (hH : q_H X M s H locs) (hR : RR M) (hc : cells + 1 ≤ 601024) (hs : slots + 6 ≤ 7293034) (hl : lv_has ls 8 [(4, .int (nI (7 * n))), (3, .ref (X.1 122)), (2, .ref (X.1 91)), (1, .ref (X.1 0)), (0, .ref b)])
    (kk : lK X p l e s m b below meth c cells slots n) : W p l e room_1 s m #[Value.ref b] below meth c H locs cells slots (lw_Z below #[Value.ref b] s) (F0 m 408 ls []) := by
  have hx := hE.1
  have hb := hE.2.1
  have key : ∃ (o r : Int32) (v : Int64) (M1 M2 : qM), ((∃ r, jTc_village (xs (7 * n + 1)) (xs (7 * n + 2)) M = some r ∧ o = 0 ∧ M1 = qJ M 122 0 r.toInt64) ∨ ((jTc_isVillage (xs (7 * n + 1)) M = false ∨ jTc_isOf (xs (7 * n + 2)) 3 = false) ∧ o = 1 ∧ M1 = M)) ∧ jMd_village (xs (7 * n + 1)) (xs (7 * n + 2)) M1 = some (r, M2) ∧ M2.1 91 0 = o ∧ (o = 0 → M2.2.1 122 0 = r.toInt64) ∧ RR M2 := by
    rcases r_villageO hR (xs (7 * n + 1)) (xs (7 * n + 2)) with ⟨-, -, r, e1, e2⟩ | ⟨e1, M2, e2, e3, e4⟩
    · obtain ⟨M2, e3, e4, e5, e6⟩ := e2 r.toInt64
      exact ⟨0, r, 0, _, M2, .inl ⟨r, e1, rfl, rfl⟩, e3, e4, fun _ => e5, e6⟩
    · exact ⟨1, 0, 0, M, M2, .inr ⟨e1, rfl, rfl⟩, e2, e3, fun h => absurd h (by decide), e4⟩
  obtain ⟨o, r, v, M1, M2, hf, e2, e3, e4, hR2⟩ := key
  refine lv_aload_n hx hb dL_law_408 rfl (lv_at hl 3 rfl) ?_
  refine lv_aload_n hx hb dL_law_409 rfl (lv_at hl 4 rfl) ?_
  refine lv_iload hx hb dL_law_410 (lv_at hl 0 rfl) ?_
  refine lv_iconst (v := 1) hx hb dL_law_412 (by decide) ?_
  refine lv_iadd hx hb dL_law_413 ?_
  refine lq_ld (k := 1) hE hX hH rfl (by omega) dL_law_414 ?_
  refine lv_aload_n hx hb dL_law_415 rfl (lv_at hl 4 rfl) ?_
  refine lv_iload hx hb dL_law_416 (lv_at hl 0 rfl) ?_
  refine lv_iconst (v := 2) hx hb dL_law_418 (by decide) ?_
  refine lv_iadd hx hb dL_law_419 ?_
  refine lq_ld (k := 2) hE hX hH rfl (by omega) dL_law_420 ?_
  refine lv_aload_n hx hb dL_law_421 rfl (lv_at hl 1 rfl) ?_
  refine lx_callS (M1 := M1) (o := o) (As := [.ref (X.1 0), .int (xs (7 * n + 1)), .int (xs (7 * n + 2)), .ref (X.1 122)]) (rest := []) hE hV hH (tl_village l hl9 X hf) wl_42 pm_4 (by decide) (by decide) rfl hl.1 rfl (Nat.le_of_ble_eq_true rfl) dL_law_422 hc hs (fun H locs hH => ?_)
  refine lv_istore (lv' := [(5, .int o), (4, .int (nI (7 * n))), (3, .ref (X.1 122)), (2, .ref (X.1 91)), (1, .ref (X.1 0)), (0, .ref b)]) hx hb dL_law_425 hl (by decide) rfl (fun ls hl => ?_)
  refine lv_aload_n hx hb dL_law_427 rfl (lv_at hl 3 rfl) ?_
  refine lv_aload_n hx hb dL_law_428 rfl (lv_at hl 5 rfl) ?_
  refine lv_iload hx hb dL_law_429 (lv_at hl 1 rfl) ?_
  refine lv_iconst (v := 1) hx hb dL_law_431 (by decide) ?_
  refine lv_iadd hx hb dL_law_432 ?_
  refine lq_ld (k := 1) hE hX hH rfl (by omega) dL_law_433 ?_
  refine lv_aload_n hx hb dL_law_434 rfl (lv_at hl 5 rfl) ?_
  refine lv_iload hx hb dL_law_435 (lv_at hl 1 rfl) ?_
  refine lv_iconst (v := 2) hx hb dL_law_437 (by decide) ?_
  refine lv_iadd hx hb dL_law_438 ?_
  refine lq_ld (k := 2) hE hX hH rfl (by omega) dL_law_439 ?_
  refine lq_calli (M1 := M2) (lq_runV (As := [.int (xs (7 * n + 1)), .int (xs (7 * n + 2))]) (rest := []) hE hH (tz_X12_village l X (M := M1) (hf := e2)) kv_L_47 qk_91 (by decide) rfl hl.1 rfl (Nat.le_of_ble_eq_true rfl) dL_law_440 hc hs) hH (fun H locs hH => ?_)
  refine lv_istore (lv' := [(6, .int r), (5, .int o), (4, .int (nI (7 * n))), (3, .ref (X.1 122)), (2, .ref (X.1 91)), (1, .ref (X.1 0)), (0, .ref b)]) hx hb dL_law_443 hl (by decide) rfl (fun ls hl => ?_)
  refine lv_aload_n hx hb dL_law_445 rfl (lv_at hl 4 rfl) ?_
  refine lq_calli (M1 := M2) (lq_runV (As := []) (rest := []) hE hH (tz_X12_thrown l X (M := M2) (hf := rfl)) kv_L_48 qk_91 (by decide) rfl hl.1 rfl (Nat.le_of_ble_eq_true rfl) dL_law_446 hc hs) hH (fun H locs hH => ?_)
  have e3 : jMd_thrown M2 = o := e3
  rw [e3]
  refine lv_iload hx hb dL_law_449 (lv_at hl 1 rfl) ?_
  refine lv_icmp_eq (tgt := 456) hx hb dL_law_451 (by decide) (fun _ => ?_) (fun h => absurd rfl h)
  have hl5 : lv_has ls 8 [(4, .int (nI (7 * n))), (3, .ref (X.1 122)), (2, .ref (X.1 91)), (1, .ref (X.1 0)), (0, .ref b)] := lv_sub hl [2, 3, 4, 5, 6] rfl
  refine lv_iload hx hb dL_law_456 (lv_at hl 1 rfl) ?_
  refine lv_if_ne (tgt := 473) hx hb dL_law_458 (by decide) (fun _ => ?_) (fun ho => ?_)
  · refine lv_goto (tgt := 2039) hx hb dL_law_473 (by decide) ?_
    exact kk H locs M2 hH hR2 ls hl5
  · refine lv_aload_n hx hb dL_law_461 rfl (lv_at hl 3 rfl) ?_
    refine lv_iconst (v := 0) hx hb dL_law_462 (by decide) ?_
    refine pz_lald (v := r.toInt64) hE hH qk_122 (by rw [← e4 ho]; rfl) dL_law_463 ?_
    refine lv_iload hx hb dL_law_464 (lv_at hl 0 rfl) ?_
    refine lv_i2l (v := r.toInt64) hx hb dL_law_466 rfl ?_
    refine W.lcmp hx hb dL_law_467 ?_
    refine lv_if_eq (tgt := 473) hx hb dL_law_468 (by decide) (fun _ => ?_) (fun hc => absurd (lq_cmp _) hc)
    refine lv_goto (tgt := 2039) hx hb dL_law_473 (by decide) ?_
    exact kk H locs M2 hH hR2 ls hl5
theorem lc_23 {X : qX} {p : Program} {l : Launch} {e : Env} {s : State} {m : MethodId} {below : List Frame} {meth : Method} {c : Code} {H : Heap} {locs : List Loc} {cells slots : Nat} {b L n : Nat} {xs : Nat → Int32} {M : qM} {ls : Array Slot} (hl9 : l.stackTraces = false) (hV : lV X s s.heap) (hE : qE X p s m #[Value.ref b] c code 8 RL) (hX : lX X b L n xs s) (hH : q_H X M s H locs) (hR : RR M) (hc : cells + 1 ≤ 601024) (hs : slots + 6 ≤ 7293034) (hl : lv_has ls 8 [(4, .int (nI (7 * n))), (3, .ref (X.1 122)), (2, .ref (X.1 91)), (1, .ref (X.1 0)), (0, .ref b)])
    (kk : lK X p l e s m b below meth c cells slots n) : W p l e room_1 s m #[Value.ref b] below meth c H locs cells slots (lw_Z below #[Value.ref b] s) (F0 m 1236 ls []) := by
  have hx := hE.1
  have hb := hE.2.1
  have key : ∃ (o : Int32) (r : Int64) (M1 M2 : qM), ((∃ r M3, jTc_value (xs (7 * n + 1)) M = some (r, M3) ∧ o = 0 ∧ M1 = qJ M3 122 0 r) ∨ ((jRo_isThere M = false ∨ jTc_isOf (xs (7 * n + 1)) (M.1 49 5 + 1) = false) ∧ o = 1 ∧ M1 = M)) ∧ jMd_value (xs (7 * n + 1)) M1 = some (r, M2) ∧ M2.1 91 0 = o ∧ (o = 0 → M2.2.1 122 0 = r) ∧ RR M2 := by
    rcases r_valueO hR (xs (7 * n + 1)) with ⟨-, -, r, M3, M2, e1, e3, e4, e5, e6⟩ | ⟨e1, M2, e2, e3, e4⟩
    · exact ⟨0, r, _, M2, .inl ⟨r, M3, e1, rfl, rfl⟩, e3, e4, fun _ => e5, e6⟩
    · exact ⟨1, 0, M, M2, .inr ⟨e1, rfl, rfl⟩, e2, e3, fun h => absurd h (by decide), e4⟩
  obtain ⟨o, r, M1, M2, hf, e2, e3, e4, hR2⟩ := key
  refine lv_aload_n hx hb dL_law_1236 rfl (lv_at hl 3 rfl) ?_
  refine lv_aload_n hx hb dL_law_1237 rfl (lv_at hl 4 rfl) ?_
  refine lv_iload hx hb dL_law_1238 (lv_at hl 0 rfl) ?_
  refine lv_iconst (v := 1) hx hb dL_law_1240 (by decide) ?_
  refine lv_iadd hx hb dL_law_1241 ?_
  refine lq_ld (k := 1) hE hX hH rfl (by omega) dL_law_1242 ?_
  refine lv_aload_n hx hb dL_law_1243 rfl (lv_at hl 1 rfl) ?_
  refine lx_callS (M1 := M1) (o := o) (As := [.ref (X.1 0), .int (xs (7 * n + 1)), .ref (X.1 122)]) (rest := []) hE hV hH (tl_value l hl9 X hf) wl_130 pm_3 (by decide) (by decide) rfl hl.1 rfl (Nat.le_of_ble_eq_true rfl) dL_law_1244 hc hs (fun H locs hH => ?_)
  refine lv_istore (lv' := [(5, .int o), (4, .int (nI (7 * n))), (3, .ref (X.1 122)), (2, .ref (X.1 91)), (1, .ref (X.1 0)), (0, .ref b)]) hx hb dL_law_1247 hl (by decide) rfl (fun ls hl => ?_)
  refine lv_aload_n hx hb dL_law_1249 rfl (lv_at hl 3 rfl) ?_
  refine lv_aload_n hx hb dL_law_1250 rfl (lv_at hl 5 rfl) ?_
  refine lv_iload hx hb dL_law_1251 (lv_at hl 1 rfl) ?_
  refine lv_iconst (v := 1) hx hb dL_law_1253 (by decide) ?_
  refine lv_iadd hx hb dL_law_1254 ?_
  refine lq_ld (k := 1) hE hX hH rfl (by omega) dL_law_1255 ?_
  refine lq_calll (M1 := M2) (lq_runV (As := [.int (xs (7 * n + 1))]) (rest := []) hE hH (tz_X12_value l X (M := M1) (hf := e2)) kv_L_133 qk_91 (by decide) rfl hl.1 rfl (Nat.le_of_ble_eq_true rfl) dL_law_1256 hc hs) hH (fun H locs hH => ?_)
  refine lv_lstore (lv' := [(6, .long r), (5, .int o), (4, .int (nI (7 * n))), (3, .ref (X.1 122)), (2, .ref (X.1 91)), (1, .ref (X.1 0)), (0, .ref b)]) hx hb dL_law_1259 hl (by decide) rfl (fun ls hl => ?_)
  refine lv_aload_n hx hb dL_law_1261 rfl (lv_at hl 4 rfl) ?_
  refine lq_calli (M1 := M2) (lq_runV (As := []) (rest := []) hE hH (tz_X12_thrown l X (M := M2) (hf := rfl)) kv_L_48 qk_91 (by decide) rfl hl.1 rfl (Nat.le_of_ble_eq_true rfl) dL_law_1262 hc hs) hH (fun H locs hH => ?_)
  have e3 : jMd_thrown M2 = o := e3
  rw [e3]
  refine lv_iload hx hb dL_law_1265 (lv_at hl 1 rfl) ?_
  refine lv_icmp_eq (tgt := 1272) hx hb dL_law_1267 (by decide) (fun _ => ?_) (fun h => absurd rfl h)
  have hl5 : lv_has ls 8 [(4, .int (nI (7 * n))), (3, .ref (X.1 122)), (2, .ref (X.1 91)), (1, .ref (X.1 0)), (0, .ref b)] := lv_sub hl [2, 3, 4, 5, 6] rfl
  refine lv_iload hx hb dL_law_1272 (lv_at hl 1 rfl) ?_
  refine lv_if_ne (tgt := 1288) hx hb dL_law_1274 (by decide) (fun _ => ?_) (fun ho => ?_)
  · refine lv_goto (tgt := 2039) hx hb dL_law_1288 (by decide) ?_
    exact kk H locs M2 hH hR2 ls hl5
  · refine lv_aload_n hx hb dL_law_1277 rfl (lv_at hl 3 rfl) ?_
    refine lv_iconst (v := 0) hx hb dL_law_1278 (by decide) ?_
    refine pz_lald (v := r) hE hH qk_122 (by rw [← e4 ho]; rfl) dL_law_1279 ?_
    refine lv_lload hx hb dL_law_1280 (lv_at hl 0 rfl) ?_
    refine W.lcmp hx hb dL_law_1282 ?_
    refine lv_if_eq (tgt := 1288) hx hb dL_law_1283 (by decide) (fun _ => ?_) (fun hc => absurd (lq_cmp _) hc)
    refine lv_goto (tgt := 2039) hx hb dL_law_1288 (by decide) ?_
    exact kk H locs M2 hH hR2 ls hl5
