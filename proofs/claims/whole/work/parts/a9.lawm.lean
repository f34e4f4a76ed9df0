/-! ===== the law's own methods around the calls that may throw ===== -/
theorem dL_village_0 : decode cL_village 0 = .ok (.aload_n 3, 1) := by decide +kernel
theorem dL_village_1 : decode cL_village 1 = .ok (.iconst 0, 1) := by decide +kernel
theorem dL_village_2 : decode cL_village 2 = .ok (.aload_n 0, 1) := by decide +kernel
theorem dL_village_3 : decode cL_village 3 = .ok (.iload_n 1, 1) := by decide +kernel
theorem dL_village_4 : decode cL_village 4 = .ok (.iload_n 2, 1) := by decide +kernel
theorem dL_village_5 : decode cL_village 5 = .ok (.invokevirtual 7, 3) := by decide +kernel
theorem dL_village_8 : decode cL_village 8 = .ok (.i2l, 1) := by decide +kernel
theorem dL_village_9 : decode cL_village 9 = .ok (.lastore, 1) := by decide +kernel
theorem dL_village_10 : decode cL_village 10 = .ok (.goto 7, 3) := by decide +kernel
theorem dL_village_13 : decode cL_village 13 = .ok (.astore 4, 2) := by decide +kernel
theorem dL_village_15 : decode cL_village 15 = .ok (.iconst 1, 1) := by decide +kernel
theorem dL_village_16 : decode cL_village 16 = .ok (.ireturn, 1) := by decide +kernel
theorem dL_village_17 : decode cL_village 17 = .ok (.iconst 0, 1) := by decide +kernel
theorem dL_village_18 : decode cL_village 18 = .ok (.ireturn, 1) := by decide +kernel
theorem dL_value_0 : decode cL_value 0 = .ok (.aload_n 2, 1) := by decide +kernel
theorem dL_value_1 : decode cL_value 1 = .ok (.iconst 0, 1) := by decide +kernel
theorem dL_value_2 : decode cL_value 2 = .ok (.aload_n 0, 1) := by decide +kernel
theorem dL_value_3 : decode cL_value 3 = .ok (.iload_n 1, 1) := by decide +kernel
theorem dL_value_4 : decode cL_value 4 = .ok (.invokevirtual 15, 3) := by decide +kernel
theorem dL_value_7 : decode cL_value 7 = .ok (.lastore, 1) := by decide +kernel
theorem dL_value_8 : decode cL_value 8 = .ok (.goto 6, 3) := by decide +kernel
theorem dL_value_11 : decode cL_value 11 = .ok (.astore_n 3, 1) := by decide +kernel
theorem dL_value_12 : decode cL_value 12 = .ok (.iconst 1, 1) := by decide +kernel
theorem dL_value_13 : decode cL_value 13 = .ok (.ireturn, 1) := by decide +kernel
theorem dL_value_14 : decode cL_value 14 = .ok (.iconst 0, 1) := by decide +kernel
theorem dL_value_15 : decode cL_value 15 = .ok (.ireturn, 1) := by decide +kernel
theorem kv_L_7 : q_KV RL 7 yX11_village cX11_village 4 (some .int) 2 11 := ⟨⟨by decide +kernel, by decide +kernel, by decide +kernel, by decide +kernel, by decide⟩, by decide +kernel, by decide +kernel, TX11, 13, rfl, by decide⟩
theorem kv_L_15 : q_KV RL 15 yX11_value cX11_value 2 (some .long) 1 11 := ⟨⟨by decide +kernel, by decide +kernel, by decide +kernel, by decide +kernel, by decide⟩, by decide +kernel, by decide +kernel, TX11, 13, rfl, by decide⟩
theorem ks_c13 : Cond.classLink RL 13 nsE ∈ q_tbl := by decide +kernel
theorem lx_cast {X : qX} {s : State} {args : Array Value} (hV : lV X s s.heap) : (Cond.castable nsE nsE).before args s = true := va_any rfl (hV.2.2 (.castable nsE nsE) (by decide))
def hh4 : List (Nat × Nat × Nat × Nat) := [(0, 10, 13, 13)]
def hh3 : List (Nat × Nat × Nat × Nat) := [(0, 8, 11, 13)]
theorem tl_village (l : Launch) (hl9 : l.stackTraces = false) (X : qX) {a b o : Int32} {M M2 : qM} (hf : (∃ r, jTc_village a b M = some r ∧ o = 0 ∧ M2 = qJ M 122 0 r.toInt64) ∨ ((jTc_isVillage a M = false ∨ jTc_isOf b 3 = false) ∧ o = 1 ∧ M2 = M)) : vx_Met l yL_village (Cond.codeWith yL_village cL_village 5 (some .int) hh4 :: q_tbl) (lx_rm 8) (lx_Pc X M [.ref (X.1 0), .int a, .int b, .ref (X.1 122)]) (q_Qi X o M2) (lx_X0 X) 1 6 (q_A X) := by
  refine vx_ofWH (cc := cL_village) (maxL := 5) (ret := some .int) (hh := hh4) (by decide) rfl ?_
  intro p e s m args below meth c s₁ B hml hv
  obtain ⟨rfl, hP, hK, hi, hS, hV⟩ := hv
  have hts := atoms_spec (ws := Cond.codeWith yL_village cL_village 5 (some .int) hh4 :: q_tbl) B.pre
  have htab : c.exceptionTable.toList = [⟨0, 10, 13, 13⟩] := vx_table (x := yL_village) B (hts _ List.mem_cons_self)
  rw [lg_entry_eq]
  have hE : qE X p s m ([.ref (X.1 0), .int a, .int b, .ref (X.1 122)] : List Value).toArray c cL_village 5 RL := ⟨B.exec, B.bytes, hml, findClass_of_methodNamed B.named, fun w hw => hts w (List.mem_cons_of_mem _ hw), hK, hi, hS⟩
  have hlk := B.notSynchronized
  have hrt := B.returns
  have hH : q_H X M s s.heap [] := ⟨hP, va_S.rf⟩
  have hx := hE.1
  have hb := hE.2.1
  refine (fun (body : ∀ ls : Array Slot, lv_has ls 5 [(0, .ref (X.1 0)), (1, .int a), (2, .int b), (3, .ref (X.1 122))] → W p l e (lx_rm 8) s m ([.ref (X.1 0), .int a, .int b, .ref (X.1 122)] : List Value).toArray below meth c s.heap [] 0 0 (vx_MQ below (q_Qi X o M2) (lx_X0 X) ([.ref (X.1 0), .int a, .int b, .ref (X.1 122)] : List Value).toArray s 1 6 (q_A X)) (F0 m 0 ls [])) => body _ (lv_entry (n := 5) ([.ref (X.1 0), .int a, .int b, .ref (X.1 122)] : List Value) (Nat.le_of_ble_eq_true rfl))) ?_
  intro ls hl
  refine lv_aload_n hx hb dL_village_0 rfl (lv_at hl 3 rfl) ?_
  refine lv_iconst (v := 0) hx hb dL_village_1 (by decide) ?_
  refine lv_aload_n hx hb dL_village_2 rfl (lv_at hl 0 rfl) ?_
  refine lv_iload_n hx hb dL_village_3 rfl (lv_at hl 1 rfl) ?_
  refine lv_iload_n hx hb dL_village_4 rfl (lv_at hl 2 rfl) ?_
  rcases hf with ⟨r, hf, rfl, rfl⟩ | ⟨hf, rfl, rfl⟩
  · skip
    refine lr_calli (M1 := M) (lr_runV (As := [.int a, .int b]) (rest := [.int 0, .ref (X.1 122)]) hE hH (tz_X11_village l X (hf := hf)) kv_L_7 qk_0 (by decide) rfl hl.1 rfl (Nat.le_of_ble_eq_true rfl) dL_village_5 (by decide) (by decide)) hH (fun H locs hH => ?_)
    refine lv_i2l (v := r.toInt64) hx hb dL_village_8 rfl ?_
    refine pz_last (M1 := qJ M 122 0 r.toInt64) hE hH qk_122 rfl dL_village_9 (fun H locs hH => ?_)
    refine lv_goto (tgt := 17) hx hb dL_village_10 (by decide) ?_
    refine lv_iconst (v := 0) hx hb dL_village_17 (by decide) ?_
    exact vx_ret (W.widen (k := 1) (n := 6) (by decide) (by decide) (pz_reti hE hrt hlk hH dL_village_18))
  · have hE0 := hE
    obtain ⟨hx, hb, hml, ho, hts, hKK, hi, hSS⟩ := hE
    obtain ⟨k0, k6, k7, T, N, k8, k9⟩ := kv_L_7
    refine vx_calli (vx_runV (Ts := q_tbl) (As := [.int a, .int b]) (rest := [.int 0, .ref (X.1 122)]) (b := X.1 0) ⟨hx, hb, hml, ho, hts⟩ (tx_village l hl9 X hf) ⟨lr_callB hE0 k0 rfl rfl (by decide), hts _ k6, hts _ k7⟩ ⟨lx_blind, va_recv hKK hH.1.1 k8 (by rw [q_W_get qk_0.2.1, q_E_obj qk_0 k9]), lx_pre hE0 hV hH⟩ rfl rfl hl.1 rfl (lv_room (Nat.le_of_ble_eq_true rfl)) dL_village_5 (by decide)) hH.2 (fun _ _ h => h) (fun _ h => h) (fun _ _ h => h) ?_ (fun r u t H1 locs1 _ _ hp => hp.elim)
    rintro E ce q9 u t H1 locs1 ht - - ⟨rfl, hB⟩ - - hS1 hce hcv hcl
    have hB : q_P X M2 t.heap := hB
    rw [ht] at hB
    refine vx_catch (name := nsE) ho ⟨0, 10, 13, 13⟩ [] htab (by decide) (by decide) (hts _ ks_c13) (lx_cast hV) hce hcv hcl ?_
    refine lv_astore (i := 4) hx hb dL_village_13 hl (by decide) rfl (fun ls hl => ?_)
    refine lv_iconst (v := 1) hx hb dL_village_15 (by decide) ?_
    exact vx_ret (pz_reti hE0 hrt hlk ⟨hB, hS1⟩ dL_village_16)
theorem tl_value (l : Launch) (hl9 : l.stackTraces = false) (X : qX) {a o : Int32} {M M2 : qM} (hf : (∃ r M1, jTc_value a M = some (r, M1) ∧ o = 0 ∧ M2 = qJ M1 122 0 r) ∨ ((jRo_isThere M = false ∨ jTc_isOf a (M.1 49 5 + 1) = false) ∧ o = 1 ∧ M2 = M)) : vx_Met l yL_value (Cond.codeWith yL_value cL_value 4 (some .int) hh3 :: q_tbl) (lx_rm 8) (lx_Pc X M [.ref (X.1 0), .int a, .ref (X.1 122)]) (q_Qi X o M2) (lx_X0 X) 1 6 (q_A X) := by
  refine vx_ofWH (cc := cL_value) (maxL := 4) (ret := some .int) (hh := hh3) (by decide) rfl ?_
  intro p e s m args below meth c s₁ B hml hv
  obtain ⟨rfl, hP, hK, hi, hS, hV⟩ := hv
  have hts := atoms_spec (ws := Cond.codeWith yL_value cL_value 4 (some .int) hh3 :: q_tbl) B.pre
  have htab : c.exceptionTable.toList = [⟨0, 8, 11, 13⟩] := vx_table (x := yL_village) B (hts _ List.mem_cons_self)
  rw [lg_entry_eq]
  have hE : qE X p s m ([.ref (X.1 0), .int a, .ref (X.1 122)] : List Value).toArray c cL_value 4 RL := ⟨B.exec, B.bytes, hml, findClass_of_methodNamed B.named, fun w hw => hts w (List.mem_cons_of_mem _ hw), hK, hi, hS⟩
  have hlk := B.notSynchronized
  have hrt := B.returns
  have hH : q_H X M s s.heap [] := ⟨hP, va_S.rf⟩
  have hx := hE.1
  have hb := hE.2.1
  refine (fun (body : ∀ ls : Array Slot, lv_has ls 4 [(0, .ref (X.1 0)), (1, .int a), (2, .ref (X.1 122))] → W p l e (lx_rm 8) s m ([.ref (X.1 0), .int a, .ref (X.1 122)] : List Value).toArray below meth c s.heap [] 0 0 (vx_MQ below (q_Qi X o M2) (lx_X0 X) ([.ref (X.1 0), .int a, .ref (X.1 122)] : List Value).toArray s 1 6 (q_A X)) (F0 m 0 ls [])) => body _ (lv_entry (n := 4) ([.ref (X.1 0), .int a, .ref (X.1 122)] : List Value) (Nat.le_of_ble_eq_true rfl))) ?_
  intro ls hl
  refine lv_aload_n hx hb dL_value_0 rfl (lv_at hl 2 rfl) ?_
  refine lv_iconst (v := 0) hx hb dL_value_1 (by decide) ?_
  refine lv_aload_n hx hb dL_value_2 rfl (lv_at hl 0 rfl) ?_
  refine lv_iload_n hx hb dL_value_3 rfl (lv_at hl 1 rfl) ?_
  rcases hf with ⟨r, M1, hf, rfl, rfl⟩ | ⟨hf, rfl, rfl⟩
  · skip
    refine lr_calll (M1 := M1) (lr_runV (As := [.int a]) (rest := [.int 0, .ref (X.1 122)]) hE hH (tz_X11_value l X (hf := hf)) kv_L_15 qk_0 (by decide) rfl hl.1 rfl (Nat.le_of_ble_eq_true rfl) dL_value_4 (by decide) (by decide)) hH (fun H locs hH => ?_)
    refine pz_last (M1 := qJ M1 122 0 r) hE hH qk_122 rfl dL_value_7 (fun H locs hH => ?_)
    refine lv_goto (tgt := 14) hx hb dL_value_8 (by decide) ?_
    refine lv_iconst (v := 0) hx hb dL_value_14 (by decide) ?_
    exact vx_ret (W.widen (k := 1) (n := 6) (by decide) (by decide) (pz_reti hE hrt hlk hH dL_value_15))
  · have hE0 := hE
    obtain ⟨hx, hb, hml, ho, hts, hKK, hi, hSS⟩ := hE
    obtain ⟨k0, k6, k7, T, N, k8, k9⟩ := kv_L_15
    refine vx_calll (vx_runV (Ts := q_tbl) (As := [.int a]) (rest := [.int 0, .ref (X.1 122)]) (b := X.1 0) ⟨hx, hb, hml, ho, hts⟩ (tx_value l hl9 X hf) ⟨lr_callB hE0 k0 rfl rfl (by decide), hts _ k6, hts _ k7⟩ ⟨lx_blind, va_recv hKK hH.1.1 k8 (by rw [q_W_get qk_0.2.1, q_E_obj qk_0 k9]), lx_pre hE0 hV hH⟩ rfl rfl hl.1 rfl (lv_room (Nat.le_of_ble_eq_true rfl)) dL_value_4 (by decide)) hH.2 (fun _ _ h => h) (fun _ h => h) (fun _ _ h => h) ?_ (fun r u t H1 locs1 _ _ hp => hp.elim)
    rintro E ce q9 u t H1 locs1 ht - - ⟨rfl, hB⟩ - - hS1 hce hcv hcl
    have hB : q_P X M2 t.heap := hB
    rw [ht] at hB
    refine vx_catch (name := nsE) ho ⟨0, 8, 11, 13⟩ [] htab (by decide) (by decide) (hts _ ks_c13) (lx_cast hV) hce hcv hcl ?_
    refine lv_astore_n (i := 3) hx hb dL_value_11 rfl hl (by decide) rfl (fun ls hl => ?_)
    refine lv_iconst (v := 1) hx hb dL_value_12 (by decide) ?_
    exact vx_ret (pz_reti hE0 hrt hlk ⟨hB, hS1⟩ dL_value_13)
