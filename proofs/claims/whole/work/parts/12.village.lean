theorem dX7_clear_0 : decode cX7_clear 0 = .ok (.aload_n 0, 1) := by decide +kernel
theorem dX7_clear_1 : decode cX7_clear 1 = .ok (.iconst 0, 1) := by decide +kernel
theorem dX7_clear_2 : decode cX7_clear 2 = .ok (.putfield 9, 3) := by decide +kernel
theorem dX7_clear_5 : decode cX7_clear 5 = .ok (.aload_n 0, 1) := by decide +kernel
theorem dX7_clear_6 : decode cX7_clear 6 = .ok (.iconst 0, 1) := by decide +kernel
theorem dX7_clear_7 : decode cX7_clear 7 = .ok (.putfield 15, 3) := by decide +kernel
theorem dX7_clear_10 : decode cX7_clear 10 = .ok (.aload_n 0, 1) := by decide +kernel
theorem dX7_clear_11 : decode cX7_clear 11 = .ok (.iconst 0, 1) := by decide +kernel
theorem dX7_clear_12 : decode cX7_clear 12 = .ok (.putfield 18, 3) := by decide +kernel
theorem dX7_clear_15 : decode cX7_clear 15 = .ok (.return_, 1) := by decide +kernel
set_option maxRecDepth 100000 in
set_option maxHeartbeats 4000000 in
theorem tz_X7_clear (l : Launch) (X : qX) {k : Nat} {M MR : qM} (hk : q_vil k = true) (hf : jVi_clear k M = MR) : q_Met l X yX7_clear cX7_clear 1 none (1) M [.ref (X.1 k)] (q_Qv X MR) := by
  refine q_enter (by decide) (Nat.le_of_ble_eq_true rfl) ?_
  intro p e s m args below meth c hE hrt hlk H locs hH ls hl
  have hx := hE.1
  have hb := hE.2.1
  have hl : lv_has ls 1 [(0, .ref (X.1 k))] := hl
  unfold jVi_clear at hf
  refine lv_aload_n hx hb dX7_clear_0 rfl (lv_at hl 0 rfl) ?_
  refine lv_iconst (v := 0) hx hb dX7_clear_1 (by decide) ?_
  obtain ⟨M1, eM1, hf⟩ := st_lty hf
  refine pz_pI hE hH fw_X7_9 (q_vil_0 hk)  eM1 dX7_clear_2 (fun H locs hH => ?_)
  refine lv_aload_n hx hb dX7_clear_5 rfl (lv_at hl 0 rfl) ?_
  refine lv_iconst (v := 0) hx hb dX7_clear_6 (by decide) ?_
  obtain ⟨M2, eM2, hf⟩ := st_lty hf
  refine pz_pI hE hH fw_X7_15 (q_vil_0 hk)  eM2 dX7_clear_7 (fun H locs hH => ?_)
  refine lv_aload_n hx hb dX7_clear_10 rfl (lv_at hl 0 rfl) ?_
  refine lv_iconst (v := 0) hx hb dX7_clear_11 (by decide) ?_
  obtain ⟨M3, eM3, hf⟩ := st_lty hf
  refine pz_pI hE hH fw_X7_18 (q_vil_0 hk)  eM3 dX7_clear_12 (fun H locs hH => ?_)
  subst hf
  exact pz_retv hE hrt hlk hH dX7_clear_15

theorem dX7_addThing_0 : decode cX7_addThing 0 = .ok (.aload_n 0, 1) := by decide +kernel
theorem dX7_addThing_1 : decode cX7_addThing 1 = .ok (.getfield 9, 3) := by decide +kernel
theorem dX7_addThing_4 : decode cX7_addThing 4 = .ok (.iconst 4, 1) := by decide +kernel
theorem dX7_addThing_5 : decode cX7_addThing 5 = .ok (.imul, 1) := by decide +kernel
theorem dX7_addThing_6 : decode cX7_addThing 6 = .ok (.istore_n 1, 1) := by decide +kernel
theorem dX7_addThing_7 : decode cX7_addThing 7 = .ok (.getstatic 31, 3) := by decide +kernel
theorem dX7_addThing_10 : decode cX7_addThing 10 = .ok (.iconst 0, 1) := by decide +kernel
theorem dX7_addThing_11 : decode cX7_addThing 11 = .ok (.aload_n 0, 1) := by decide +kernel
theorem dX7_addThing_12 : decode cX7_addThing 12 = .ok (.getfield 21, 3) := by decide +kernel
theorem dX7_addThing_15 : decode cX7_addThing 15 = .ok (.iload_n 1, 1) := by decide +kernel
theorem dX7_addThing_16 : decode cX7_addThing 16 = .ok (.iconst 4, 1) := by decide +kernel
theorem dX7_addThing_17 : decode cX7_addThing 17 = .ok (.invokestatic 34, 3) := by decide +kernel
theorem dX7_addThing_20 : decode cX7_addThing 20 = .ok (.aload_n 0, 1) := by decide +kernel
theorem dX7_addThing_21 : decode cX7_addThing 21 = .ok (.dup, 1) := by decide +kernel
theorem dX7_addThing_22 : decode cX7_addThing 22 = .ok (.getfield 9, 3) := by decide +kernel
theorem dX7_addThing_25 : decode cX7_addThing 25 = .ok (.iconst 1, 1) := by decide +kernel
theorem dX7_addThing_26 : decode cX7_addThing 26 = .ok (.iadd, 1) := by decide +kernel
theorem dX7_addThing_27 : decode cX7_addThing 27 = .ok (.putfield 9, 3) := by decide +kernel
theorem dX7_addThing_30 : decode cX7_addThing 30 = .ok (.iload_n 1, 1) := by decide +kernel
theorem dX7_addThing_31 : decode cX7_addThing 31 = .ok (.ireturn, 1) := by decide +kernel
set_option maxRecDepth 100000 in
set_option maxHeartbeats 4000000 in
theorem tz_X7_addThing (l : Launch) (X : qX) {k : Nat} {M MR : qM} {r0 : Int32} (hk : q_vil k = true) (hf : jVi_addThing k M = some (r0, MR)) : q_Met l X yX7_addThing cX7_addThing 2 (some .int) (1) M [.ref (X.1 k)] (q_Qi X r0 MR) := by
  refine q_enter (by decide) (Nat.le_of_ble_eq_true rfl) ?_
  intro p e s m args below meth c hE hrt hlk H locs hH ls hl
  have hx := hE.1
  have hb := hE.2.1
  have hl : lv_has ls 2 [(0, .ref (X.1 k))] := hl
  unfold jVi_addThing at hf
  refine lv_aload_n hx hb dX7_addThing_0 rfl (lv_at hl 0 rfl) ?_
  refine pz_gI hE hH fr_X7_9 (q_vil_0 hk) dX7_addThing_1 ?_
  refine lv_iconst (v := 4) hx hb dX7_addThing_4 (by decide) ?_
  refine lv_imul hx hb dX7_addThing_5 ?_
  refine lv_topi (fun x1 ex1 => ?_)
  replace hf := st_lt hf ex1
  refine lv_istore_n (lv' := [(1, .int x1), (0, .ref (X.1 k))]) hx hb dX7_addThing_6 rfl hl (by decide) rfl (fun ls hl => ?_)
  refine pz_gT 0 hE hH (by decide) (q_in _ 501 (by decide +kernel) rfl) dX7_addThing_7 ?_
  refine lv_iconst (v := 0) hx hb dX7_addThing_10 (by decide) ?_
  refine lv_aload_n hx hb dX7_addThing_11 rfl (lv_at hl 1 rfl) ?_
  refine pz_gS (a := k + 1) hE hH fr_X7_21 (q_vil_0 hk) rfl dX7_addThing_12 ?_
  refine lv_iload_n hx hb dX7_addThing_15 rfl (lv_at hl 0 rfl) ?_
  refine lv_iconst (v := 4) hx hb dX7_addThing_16 (by decide) ?_
  obtain ⟨M2, eM2, hf⟩ := st_bd hf
  refine pz_cpt 0 (rest := []) hE hH (q_in _ 503 (by decide +kernel) rfl) (q_in _ 505 (by decide +kernel) rfl) (q_in _ 504 (by decide +kernel) rfl) (q_in _ 14 (by decide +kernel) rfl) (by decide) (by decide) (q_vil_1 hk) eM2 hl.1 (by decide) (Nat.le_of_ble_eq_true rfl) dX7_addThing_17 (fun H locs hH => ?_)
  refine lv_aload_n hx hb dX7_addThing_20 rfl (lv_at hl 1 rfl) ?_
  refine lv_dup hx hb dX7_addThing_21 rfl ?_
  refine pz_gI hE hH fr_X7_9 (q_vil_0 hk) dX7_addThing_22 ?_
  refine lv_iconst (v := 1) hx hb dX7_addThing_25 (by decide) ?_
  refine lv_iadd hx hb dX7_addThing_26 ?_
  obtain ⟨M3, eM3, hf⟩ := st_lty hf
  refine pz_pI hE hH fw_X7_9 (q_vil_0 hk)  eM3 dX7_addThing_27 (fun H locs hH => ?_)
  refine lv_iload_n hx hb dX7_addThing_30 rfl (lv_at hl 0 rfl) ?_
  replace hf := Option.some.inj hf
  obtain ⟨rfl, rfl⟩ := qi2 hf
  exact pz_reti hE hrt hlk hH dX7_addThing_31

theorem dX7_addSort_0 : decode cX7_addSort 0 = .ok (.aload_n 0, 1) := by decide +kernel
theorem dX7_addSort_1 : decode cX7_addSort 1 = .ok (.getfield 15, 3) := by decide +kernel
theorem dX7_addSort_4 : decode cX7_addSort 4 = .ok (.iconst 4, 1) := by decide +kernel
theorem dX7_addSort_5 : decode cX7_addSort 5 = .ok (.imul, 1) := by decide +kernel
theorem dX7_addSort_6 : decode cX7_addSort 6 = .ok (.istore_n 1, 1) := by decide +kernel
theorem dX7_addSort_7 : decode cX7_addSort 7 = .ok (.getstatic 40, 3) := by decide +kernel
theorem dX7_addSort_10 : decode cX7_addSort 10 = .ok (.iconst 0, 1) := by decide +kernel
theorem dX7_addSort_11 : decode cX7_addSort 11 = .ok (.aload_n 0, 1) := by decide +kernel
theorem dX7_addSort_12 : decode cX7_addSort 12 = .ok (.getfield 25, 3) := by decide +kernel
theorem dX7_addSort_15 : decode cX7_addSort 15 = .ok (.iload_n 1, 1) := by decide +kernel
theorem dX7_addSort_16 : decode cX7_addSort 16 = .ok (.iconst 4, 1) := by decide +kernel
theorem dX7_addSort_17 : decode cX7_addSort 17 = .ok (.invokestatic 34, 3) := by decide +kernel
theorem dX7_addSort_20 : decode cX7_addSort 20 = .ok (.aload_n 0, 1) := by decide +kernel
theorem dX7_addSort_21 : decode cX7_addSort 21 = .ok (.dup, 1) := by decide +kernel
theorem dX7_addSort_22 : decode cX7_addSort 22 = .ok (.getfield 15, 3) := by decide +kernel
theorem dX7_addSort_25 : decode cX7_addSort 25 = .ok (.iconst 1, 1) := by decide +kernel
theorem dX7_addSort_26 : decode cX7_addSort 26 = .ok (.iadd, 1) := by decide +kernel
theorem dX7_addSort_27 : decode cX7_addSort 27 = .ok (.putfield 15, 3) := by decide +kernel
theorem dX7_addSort_30 : decode cX7_addSort 30 = .ok (.iload_n 1, 1) := by decide +kernel
theorem dX7_addSort_31 : decode cX7_addSort 31 = .ok (.ireturn, 1) := by decide +kernel
set_option maxRecDepth 100000 in
set_option maxHeartbeats 4000000 in
theorem tz_X7_addSort (l : Launch) (X : qX) {k : Nat} {M MR : qM} {r0 : Int32} (hk : q_vil k = true) (hf : jVi_addSort k M = some (r0, MR)) : q_Met l X yX7_addSort cX7_addSort 2 (some .int) (1) M [.ref (X.1 k)] (q_Qi X r0 MR) := by
  refine q_enter (by decide) (Nat.le_of_ble_eq_true rfl) ?_
  intro p e s m args below meth c hE hrt hlk H locs hH ls hl
  have hx := hE.1
  have hb := hE.2.1
  have hl : lv_has ls 2 [(0, .ref (X.1 k))] := hl
  unfold jVi_addSort at hf
  refine lv_aload_n hx hb dX7_addSort_0 rfl (lv_at hl 0 rfl) ?_
  refine pz_gI hE hH fr_X7_15 (q_vil_0 hk) dX7_addSort_1 ?_
  refine lv_iconst (v := 4) hx hb dX7_addSort_4 (by decide) ?_
  refine lv_imul hx hb dX7_addSort_5 ?_
  refine lv_topi (fun x1 ex1 => ?_)
  replace hf := st_lt hf ex1
  refine lv_istore_n (lv' := [(1, .int x1), (0, .ref (X.1 k))]) hx hb dX7_addSort_6 rfl hl (by decide) rfl (fun ls hl => ?_)
  refine pz_gT 1 hE hH (by decide) (q_in _ 626 (by decide +kernel) rfl) dX7_addSort_7 ?_
  refine lv_iconst (v := 0) hx hb dX7_addSort_10 (by decide) ?_
  refine lv_aload_n hx hb dX7_addSort_11 rfl (lv_at hl 1 rfl) ?_
  refine pz_gS (a := k + 2) hE hH fr_X7_25 (q_vil_0 hk) rfl dX7_addSort_12 ?_
  refine lv_iload_n hx hb dX7_addSort_15 rfl (lv_at hl 0 rfl) ?_
  refine lv_iconst (v := 4) hx hb dX7_addSort_16 (by decide) ?_
  obtain ⟨M2, eM2, hf⟩ := st_bd hf
  refine pz_cpt 1 (rest := []) hE hH (q_in _ 503 (by decide +kernel) rfl) (q_in _ 505 (by decide +kernel) rfl) (q_in _ 504 (by decide +kernel) rfl) (q_in _ 14 (by decide +kernel) rfl) (by decide) (by decide) (q_vil_2 hk) eM2 hl.1 (by decide) (Nat.le_of_ble_eq_true rfl) dX7_addSort_17 (fun H locs hH => ?_)
  refine lv_aload_n hx hb dX7_addSort_20 rfl (lv_at hl 1 rfl) ?_
  refine lv_dup hx hb dX7_addSort_21 rfl ?_
  refine pz_gI hE hH fr_X7_15 (q_vil_0 hk) dX7_addSort_22 ?_
  refine lv_iconst (v := 1) hx hb dX7_addSort_25 (by decide) ?_
  refine lv_iadd hx hb dX7_addSort_26 ?_
  obtain ⟨M3, eM3, hf⟩ := st_lty hf
  refine pz_pI hE hH fw_X7_15 (q_vil_0 hk)  eM3 dX7_addSort_27 (fun H locs hH => ?_)
  refine lv_iload_n hx hb dX7_addSort_30 rfl (lv_at hl 0 rfl) ?_
  replace hf := Option.some.inj hf
  obtain ⟨rfl, rfl⟩ := qi2 hf
  exact pz_reti hE hrt hlk hH dX7_addSort_31

theorem dX7_ofSort_0 : decode cX7_ofSort 0 = .ok (.iload_n 1, 1) := by decide +kernel
theorem dX7_ofSort_1 : decode cX7_ofSort 1 = .ok (.iconst 4, 1) := by decide +kernel
theorem dX7_ofSort_2 : decode cX7_ofSort 2 = .ok (.imul, 1) := by decide +kernel
theorem dX7_ofSort_3 : decode cX7_ofSort 3 = .ok (.iload_n 2, 1) := by decide +kernel
theorem dX7_ofSort_4 : decode cX7_ofSort 4 = .ok (.iadd, 1) := by decide +kernel
theorem dX7_ofSort_5 : decode cX7_ofSort 5 = .ok (.istore_n 3, 1) := by decide +kernel
theorem dX7_ofSort_6 : decode cX7_ofSort 6 = .ok (.iload_n 3, 1) := by decide +kernel
theorem dX7_ofSort_7 : decode cX7_ofSort 7 = .ok (.ifCond .lt 21, 3) := by decide +kernel
theorem dX7_ofSort_10 : decode cX7_ofSort 10 = .ok (.iload_n 3, 1) := by decide +kernel
theorem dX7_ofSort_11 : decode cX7_ofSort 11 = .ok (.aload_n 0, 1) := by decide +kernel
theorem dX7_ofSort_12 : decode cX7_ofSort 12 = .ok (.getfield 25, 3) := by decide +kernel
theorem dX7_ofSort_15 : decode cX7_ofSort 15 = .ok (.arraylength, 1) := by decide +kernel
theorem dX7_ofSort_16 : decode cX7_ofSort 16 = .ok (.if_icmp .ge 12, 3) := by decide +kernel
theorem dX7_ofSort_19 : decode cX7_ofSort 19 = .ok (.aload_n 0, 1) := by decide +kernel
theorem dX7_ofSort_20 : decode cX7_ofSort 20 = .ok (.getfield 25, 3) := by decide +kernel
theorem dX7_ofSort_23 : decode cX7_ofSort 23 = .ok (.iload_n 3, 1) := by decide +kernel
theorem dX7_ofSort_24 : decode cX7_ofSort 24 = .ok (.iaload, 1) := by decide +kernel
theorem dX7_ofSort_25 : decode cX7_ofSort 25 = .ok (.goto 4, 3) := by decide +kernel
theorem dX7_ofSort_28 : decode cX7_ofSort 28 = .ok (.iconst 0, 1) := by decide +kernel
theorem dX7_ofSort_29 : decode cX7_ofSort 29 = .ok (.ireturn, 1) := by decide +kernel
set_option maxRecDepth 100000 in
set_option maxHeartbeats 4000000 in
theorem tz_X7_ofSort (l : Launch) (X : qX) {k : Nat} {p0 : Int32} {p1 : Int32} {M : qM} {r0 : Int32} (hk : q_vil k = true) (hf : jVi_ofSort k p0 p1 M = some r0) : q_Met l X yX7_ofSort cX7_ofSort 4 (some .int) (1) M [.ref (X.1 k), .int p0, .int p1] (q_Qi X r0 M) := by
  refine q_enter (by decide) (Nat.le_of_ble_eq_true rfl) ?_
  intro p e s m args below meth c hE hrt hlk H locs hH ls hl
  have hx := hE.1
  have hb := hE.2.1
  have hl : lv_has ls 4 [(0, .ref (X.1 k)), (1, .int p0), (2, .int p1)] := hl
  unfold jVi_ofSort at hf
  refine lv_iload_n hx hb dX7_ofSort_0 rfl (lv_at hl 1 rfl) ?_
  refine lv_iconst (v := 4) hx hb dX7_ofSort_1 (by decide) ?_
  refine lv_imul hx hb dX7_ofSort_2 ?_
  refine lv_iload_n hx hb dX7_ofSort_3 rfl (lv_at hl 2 rfl) ?_
  refine lv_iadd hx hb dX7_ofSort_4 ?_
  refine lv_topi (fun x1 ex1 => ?_)
  replace hf := st_lt hf ex1
  refine lv_istore_n (lv' := [(3, .int x1), (0, .ref (X.1 k)), (1, .int p0), (2, .int p1)]) hx hb dX7_ofSort_5 rfl hl (by decide) rfl (fun ls hl => ?_)
  refine lv_iload_n hx hb dX7_ofSort_6 rfl (lv_at hl 0 rfl) ?_
  obtain ⟨x2, hr, hf⟩ := st_bd hf
  have hJ : ∀ (ls : Array Slot) (H : Heap) (locs : List Loc), q_H X M s H locs → lv_has ls 4 [] → W p l e (q_rm (1)) s m args below meth c H locs 0 0 (MQ below (q_Qi X r0 M) args s 0 0 (q_A X)) (F0 m 29 ls [.int x2]) := by
    intro ls H locs hH hl
    replace hf := Option.some.inj hf
    subst hf
    exact pz_reti hE hrt hlk hH dX7_ofSort_29
  clear hf
  replace hf := hr
  refine lv_if_lt (tgt := 28) hx hb dX7_ofSort_7 (by decide) (fun hc => ?_) (fun hc => ?_)
  · replace hf := (if_pos hc).symm.trans hf
    refine lv_iconst (v := 0) hx hb dX7_ofSort_28 (by decide) ?_
    replace hf := Option.some.inj hf
    subst hf
    exact hJ ls H locs hH (lv_sub hl [] rfl)
  · replace hf := (if_neg hc).symm.trans hf
    refine lv_iload_n hx hb dX7_ofSort_10 rfl (lv_at hl 0 rfl) ?_
    refine lv_aload_n hx hb dX7_ofSort_11 rfl (lv_at hl 1 rfl) ?_
    refine pz_gS (a := k + 2) hE hH fr_X7_25 (q_vil_0 hk) rfl dX7_ofSort_12 ?_
    refine pz_alenI (v := 24) hE hH (q_vil_2 hk) (by decide) dX7_ofSort_15 ?_
    refine lv_icmp_ge (tgt := 28) hx hb dX7_ofSort_16 (by decide) (fun hc => ?_) (fun hc => ?_)
    · replace hf := (if_pos hc).symm.trans hf
      refine lv_iconst (v := 0) hx hb dX7_ofSort_28 (by decide) ?_
      replace hf := Option.some.inj hf
      subst hf
      exact hJ ls H locs hH (lv_sub hl [] rfl)
    · replace hf := (if_neg hc).symm.trans hf
      refine lv_aload_n hx hb dX7_ofSort_19 rfl (lv_at hl 1 rfl) ?_
      refine pz_gS (a := k + 2) hE hH fr_X7_25 (q_vil_0 hk) rfl dX7_ofSort_20 ?_
      refine lv_iload_n hx hb dX7_ofSort_23 rfl (lv_at hl 0 rfl) ?_
      obtain ⟨v3, ev3, hf⟩ := st_bd hf
      refine pz_iald hE hH (q_vil_2 hk) ev3 dX7_ofSort_24 ?_
      refine lv_goto (tgt := 29) hx hb dX7_ofSort_25 (by decide) ?_
      replace hf := Option.some.inj hf
      subst hf
      exact hJ ls H locs hH (lv_sub hl [] rfl)

theorem dX7_settlePeople_0 : decode cX7_settlePeople 0 = .ok (.aload_n 0, 1) := by decide +kernel
theorem dX7_settlePeople_1 : decode cX7_settlePeople 1 = .ok (.getfield 15, 3) := by decide +kernel
theorem dX7_settlePeople_4 : decode cX7_settlePeople 4 = .ok (.iconst 1, 1) := by decide +kernel
theorem dX7_settlePeople_5 : decode cX7_settlePeople 5 = .ok (.isub, 1) := by decide +kernel
theorem dX7_settlePeople_6 : decode cX7_settlePeople 6 = .ok (.istore_n 1, 1) := by decide +kernel
theorem dX7_settlePeople_7 : decode cX7_settlePeople 7 = .ok (.aload_n 0, 1) := by decide +kernel
theorem dX7_settlePeople_8 : decode cX7_settlePeople 8 = .ok (.getfield 18, 3) := by decide +kernel
theorem dX7_settlePeople_11 : decode cX7_settlePeople 11 = .ok (.aload_n 0, 1) := by decide +kernel
theorem dX7_settlePeople_12 : decode cX7_settlePeople 12 = .ok (.iload_n 1, 1) := by decide +kernel
theorem dX7_settlePeople_13 : decode cX7_settlePeople 13 = .ok (.iconst 0, 1) := by decide +kernel
theorem dX7_settlePeople_14 : decode cX7_settlePeople 14 = .ok (.invokevirtual 43, 3) := by decide +kernel
theorem dX7_settlePeople_17 : decode cX7_settlePeople 17 = .ok (.iadd, 1) := by decide +kernel
theorem dX7_settlePeople_18 : decode cX7_settlePeople 18 = .ok (.istore_n 2, 1) := by decide +kernel
theorem dX7_settlePeople_19 : decode cX7_settlePeople 19 = .ok (.iload_n 2, 1) := by decide +kernel
theorem dX7_settlePeople_20 : decode cX7_settlePeople 20 = .ok (.bipush 20, 2) := by decide +kernel
theorem dX7_settlePeople_22 : decode cX7_settlePeople 22 = .ok (.if_icmp .le 5, 3) := by decide +kernel
theorem dX7_settlePeople_25 : decode cX7_settlePeople 25 = .ok (.iconst 0, 1) := by decide +kernel
theorem dX7_settlePeople_26 : decode cX7_settlePeople 26 = .ok (.ireturn, 1) := by decide +kernel
theorem dX7_settlePeople_27 : decode cX7_settlePeople 27 = .ok (.aload_n 0, 1) := by decide +kernel
theorem dX7_settlePeople_28 : decode cX7_settlePeople 28 = .ok (.getfield 28, 3) := by decide +kernel
theorem dX7_settlePeople_31 : decode cX7_settlePeople 31 = .ok (.aload_n 0, 1) := by decide +kernel
theorem dX7_settlePeople_32 : decode cX7_settlePeople 32 = .ok (.getfield 18, 3) := by decide +kernel
theorem dX7_settlePeople_35 : decode cX7_settlePeople 35 = .ok (.iload_n 2, 1) := by decide +kernel
theorem dX7_settlePeople_36 : decode cX7_settlePeople 36 = .ok (.iload_n 1, 1) := by decide +kernel
theorem dX7_settlePeople_37 : decode cX7_settlePeople 37 = .ok (.invokestatic 47, 3) := by decide +kernel
theorem dX7_settlePeople_40 : decode cX7_settlePeople 40 = .ok (.aload_n 0, 1) := by decide +kernel
theorem dX7_settlePeople_41 : decode cX7_settlePeople 41 = .ok (.iload_n 2, 1) := by decide +kernel
theorem dX7_settlePeople_42 : decode cX7_settlePeople 42 = .ok (.putfield 18, 3) := by decide +kernel
theorem dX7_settlePeople_45 : decode cX7_settlePeople 45 = .ok (.iconst 1, 1) := by decide +kernel
theorem dX7_settlePeople_46 : decode cX7_settlePeople 46 = .ok (.ireturn, 1) := by decide +kernel
set_option maxRecDepth 100000 in
set_option maxHeartbeats 4000000 in
theorem tz_X7_settlePeople (l : Launch) (X : qX) {k : Nat} {M MR : qM} {r0 : Bool} (hk : q_vil k = true) (hf : jVi_settlePeople k M = some (r0, MR)) : q_Met l X yX7_settlePeople cX7_settlePeople 3 (some .boolean) (3) M [.ref (X.1 k)] (q_Qi X (b2i r0) MR) := by
  refine q_enter (by decide) (Nat.le_of_ble_eq_true rfl) ?_
  intro p e s m args below meth c hE hrt hlk H locs hH ls hl
  have hx := hE.1
  have hb := hE.2.1
  have hl : lv_has ls 3 [(0, .ref (X.1 k))] := hl
  unfold jVi_settlePeople at hf
  refine lv_aload_n hx hb dX7_settlePeople_0 rfl (lv_at hl 0 rfl) ?_
  refine pz_gI hE hH fr_X7_15 (q_vil_0 hk) dX7_settlePeople_1 ?_
  refine lv_iconst (v := 1) hx hb dX7_settlePeople_4 (by decide) ?_
  refine lv_isub hx hb dX7_settlePeople_5 ?_
  refine lv_topi (fun x1 ex1 => ?_)
  replace hf := st_lt hf ex1
  refine lv_istore_n (lv' := [(1, .int x1), (0, .ref (X.1 k))]) hx hb dX7_settlePeople_6 rfl hl (by decide) rfl (fun ls hl => ?_)
  refine lv_aload_n hx hb dX7_settlePeople_7 rfl (lv_at hl 1 rfl) ?_
  refine pz_gI hE hH fr_X7_18 (q_vil_0 hk) dX7_settlePeople_8 ?_
  refine lv_aload_n hx hb dX7_settlePeople_11 rfl (lv_at hl 1 rfl) ?_
  refine lv_iload_n hx hb dX7_settlePeople_12 rfl (lv_at hl 0 rfl) ?_
  refine lv_iconst (v := 0) hx hb dX7_settlePeople_13 (by decide) ?_
  obtain ⟨r2, er2, hf⟩ := st_bd hf
  refine q_calli (q_runV (As := [.int x1, .int 0]) (rest := [.int (M.1 k 2)]) hE hH (tz_X7_ofSort l X hk (hf := er2)) kv_X7_43 (q_vil_0 hk) (by decide) rfl hl.1 rfl (Nat.le_of_ble_eq_true rfl) dX7_settlePeople_14) hH (fun H locs hH => ?_)
  refine lv_iadd hx hb dX7_settlePeople_17 ?_
  refine lv_topi (fun x3 ex3 => ?_)
  replace hf := st_lt hf ex3
  refine lv_istore_n (lv' := [(2, .int x3), (1, .int x1), (0, .ref (X.1 k))]) hx hb dX7_settlePeople_18 rfl hl (by decide) rfl (fun ls hl => ?_)
  refine lv_iload_n hx hb dX7_settlePeople_19 rfl (lv_at hl 0 rfl) ?_
  refine lv_bipush (v := 20) hx hb dX7_settlePeople_20 (by decide) ?_
  refine lv_icmp_le (tgt := 27) hx hb dX7_settlePeople_22 (by decide) (fun hc => ?_) (fun hc => ?_)
  · replace hf := (if_pos hc).symm.trans hf
    refine lv_aload_n hx hb dX7_settlePeople_27 rfl (lv_at hl 2 rfl) ?_
    refine pz_gS (a := k + 3) hE hH fr_X7_28 (q_vil_0 hk) rfl dX7_settlePeople_28 ?_
    refine lv_aload_n hx hb dX7_settlePeople_31 rfl (lv_at hl 2 rfl) ?_
    refine pz_gI hE hH fr_X7_18 (q_vil_0 hk) dX7_settlePeople_32 ?_
    refine lv_iload_n hx hb dX7_settlePeople_35 rfl (lv_at hl 0 rfl) ?_
    refine lv_iload_n hx hb dX7_settlePeople_36 rfl (lv_at hl 1 rfl) ?_
    obtain ⟨M4, eM4, hf⟩ := st_bd hf
    refine q_callv (q_runS (As := [.ref (X.1 (k + 3)), .int (M.1 k 2), .int x3, .int x1]) (rest := []) hE hH (tz_J7_fill_fda19 l X (q_isal (q_vil_3 hk)) (hf := eM4)) ks_X7_47 (by decide) rfl hl.1 rfl (Nat.le_of_ble_eq_true rfl) dX7_settlePeople_37) hH (fun H locs hH => ?_)
    refine lv_aload_n hx hb dX7_settlePeople_40 rfl (lv_at hl 2 rfl) ?_
    refine lv_iload_n hx hb dX7_settlePeople_41 rfl (lv_at hl 0 rfl) ?_
    obtain ⟨M5, eM5, hf⟩ := st_lty hf
    refine pz_pI hE hH fw_X7_18 (q_vil_0 hk)  eM5 dX7_settlePeople_42 (fun H locs hH => ?_)
    refine lv_iconst (v := 1) hx hb dX7_settlePeople_45 (by decide) ?_
    replace hf := Option.some.inj hf
    obtain ⟨rfl, rfl⟩ := qi2 hf
    exact pz_retz hE hrt hlk hH rfl dX7_settlePeople_46
  · replace hf := (if_neg hc).symm.trans hf
    refine lv_iconst (v := 0) hx hb dX7_settlePeople_25 (by decide) ?_
    replace hf := Option.some.inj hf
    obtain ⟨rfl, rfl⟩ := qi2 hf
    exact pz_retz hE hrt hlk hH rfl dX7_settlePeople_26

theorem dX7_ofThing_0 : decode cX7_ofThing 0 = .ok (.iload_n 1, 1) := by decide +kernel
theorem dX7_ofThing_1 : decode cX7_ofThing 1 = .ok (.iconst 4, 1) := by decide +kernel
theorem dX7_ofThing_2 : decode cX7_ofThing 2 = .ok (.imul, 1) := by decide +kernel
theorem dX7_ofThing_3 : decode cX7_ofThing 3 = .ok (.iload_n 2, 1) := by decide +kernel
theorem dX7_ofThing_4 : decode cX7_ofThing 4 = .ok (.iadd, 1) := by decide +kernel
theorem dX7_ofThing_5 : decode cX7_ofThing 5 = .ok (.istore_n 3, 1) := by decide +kernel
theorem dX7_ofThing_6 : decode cX7_ofThing 6 = .ok (.iload_n 3, 1) := by decide +kernel
theorem dX7_ofThing_7 : decode cX7_ofThing 7 = .ok (.ifCond .lt 21, 3) := by decide +kernel
theorem dX7_ofThing_10 : decode cX7_ofThing 10 = .ok (.iload_n 3, 1) := by decide +kernel
theorem dX7_ofThing_11 : decode cX7_ofThing 11 = .ok (.aload_n 0, 1) := by decide +kernel
theorem dX7_ofThing_12 : decode cX7_ofThing 12 = .ok (.getfield 21, 3) := by decide +kernel
theorem dX7_ofThing_15 : decode cX7_ofThing 15 = .ok (.arraylength, 1) := by decide +kernel
theorem dX7_ofThing_16 : decode cX7_ofThing 16 = .ok (.if_icmp .ge 12, 3) := by decide +kernel
theorem dX7_ofThing_19 : decode cX7_ofThing 19 = .ok (.aload_n 0, 1) := by decide +kernel
theorem dX7_ofThing_20 : decode cX7_ofThing 20 = .ok (.getfield 21, 3) := by decide +kernel
theorem dX7_ofThing_23 : decode cX7_ofThing 23 = .ok (.iload_n 3, 1) := by decide +kernel
theorem dX7_ofThing_24 : decode cX7_ofThing 24 = .ok (.iaload, 1) := by decide +kernel
theorem dX7_ofThing_25 : decode cX7_ofThing 25 = .ok (.goto 4, 3) := by decide +kernel
theorem dX7_ofThing_28 : decode cX7_ofThing 28 = .ok (.iconst 0, 1) := by decide +kernel
theorem dX7_ofThing_29 : decode cX7_ofThing 29 = .ok (.ireturn, 1) := by decide +kernel
set_option maxRecDepth 100000 in
set_option maxHeartbeats 4000000 in
theorem tz_X7_ofThing (l : Launch) (X : qX) {k : Nat} {p0 : Int32} {p1 : Int32} {M : qM} {r0 : Int32} (hk : q_vil k = true) (hf : jVi_ofThing k p0 p1 M = some r0) : q_Met l X yX7_ofThing cX7_ofThing 4 (some .int) (1) M [.ref (X.1 k), .int p0, .int p1] (q_Qi X r0 M) := by
  refine q_enter (by decide) (Nat.le_of_ble_eq_true rfl) ?_
  intro p e s m args below meth c hE hrt hlk H locs hH ls hl
  have hx := hE.1
  have hb := hE.2.1
  have hl : lv_has ls 4 [(0, .ref (X.1 k)), (1, .int p0), (2, .int p1)] := hl
  unfold jVi_ofThing at hf
  refine lv_iload_n hx hb dX7_ofThing_0 rfl (lv_at hl 1 rfl) ?_
  refine lv_iconst (v := 4) hx hb dX7_ofThing_1 (by decide) ?_
  refine lv_imul hx hb dX7_ofThing_2 ?_
  refine lv_iload_n hx hb dX7_ofThing_3 rfl (lv_at hl 2 rfl) ?_
  refine lv_iadd hx hb dX7_ofThing_4 ?_
  refine lv_topi (fun x1 ex1 => ?_)
  replace hf := st_lt hf ex1
  refine lv_istore_n (lv' := [(3, .int x1), (0, .ref (X.1 k)), (1, .int p0), (2, .int p1)]) hx hb dX7_ofThing_5 rfl hl (by decide) rfl (fun ls hl => ?_)
  refine lv_iload_n hx hb dX7_ofThing_6 rfl (lv_at hl 0 rfl) ?_
  obtain ⟨x2, hr, hf⟩ := st_bd hf
  have hJ : ∀ (ls : Array Slot) (H : Heap) (locs : List Loc), q_H X M s H locs → lv_has ls 4 [] → W p l e (q_rm (1)) s m args below meth c H locs 0 0 (MQ below (q_Qi X r0 M) args s 0 0 (q_A X)) (F0 m 29 ls [.int x2]) := by
    intro ls H locs hH hl
    replace hf := Option.some.inj hf
    subst hf
    exact pz_reti hE hrt hlk hH dX7_ofThing_29
  clear hf
  replace hf := hr
  refine lv_if_lt (tgt := 28) hx hb dX7_ofThing_7 (by decide) (fun hc => ?_) (fun hc => ?_)
  · replace hf := (if_pos hc).symm.trans hf
    refine lv_iconst (v := 0) hx hb dX7_ofThing_28 (by decide) ?_
    replace hf := Option.some.inj hf
    subst hf
    exact hJ ls H locs hH (lv_sub hl [] rfl)
  · replace hf := (if_neg hc).symm.trans hf
    refine lv_iload_n hx hb dX7_ofThing_10 rfl (lv_at hl 0 rfl) ?_
    refine lv_aload_n hx hb dX7_ofThing_11 rfl (lv_at hl 1 rfl) ?_
    refine pz_gS (a := k + 1) hE hH fr_X7_21 (q_vil_0 hk) rfl dX7_ofThing_12 ?_
    refine pz_alenI (v := 16) hE hH (q_vil_1 hk) (by decide) dX7_ofThing_15 ?_
    refine lv_icmp_ge (tgt := 28) hx hb dX7_ofThing_16 (by decide) (fun hc => ?_) (fun hc => ?_)
    · replace hf := (if_pos hc).symm.trans hf
      refine lv_iconst (v := 0) hx hb dX7_ofThing_28 (by decide) ?_
      replace hf := Option.some.inj hf
      subst hf
      exact hJ ls H locs hH (lv_sub hl [] rfl)
    · replace hf := (if_neg hc).symm.trans hf
      refine lv_aload_n hx hb dX7_ofThing_19 rfl (lv_at hl 1 rfl) ?_
      refine pz_gS (a := k + 1) hE hH fr_X7_21 (q_vil_0 hk) rfl dX7_ofThing_20 ?_
      refine lv_iload_n hx hb dX7_ofThing_23 rfl (lv_at hl 0 rfl) ?_
      obtain ⟨v3, ev3, hf⟩ := st_bd hf
      refine pz_iald hE hH (q_vil_1 hk) ev3 dX7_ofThing_24 ?_
      refine lv_goto (tgt := 29) hx hb dX7_ofThing_25 (by decide) ?_
      replace hf := Option.some.inj hf
      subst hf
      exact hJ ls H locs hH (lv_sub hl [] rfl)

theorem dX7_ofPerson_0 : decode cX7_ofPerson 0 = .ok (.iload_n 1, 1) := by decide +kernel
theorem dX7_ofPerson_1 : decode cX7_ofPerson 1 = .ok (.aload_n 0, 1) := by decide +kernel
theorem dX7_ofPerson_2 : decode cX7_ofPerson 2 = .ok (.getfield 18, 3) := by decide +kernel
theorem dX7_ofPerson_5 : decode cX7_ofPerson 5 = .ok (.invokestatic 53, 3) := by decide +kernel
theorem dX7_ofPerson_8 : decode cX7_ofPerson 8 = .ok (.ifCond .eq 17, 3) := by decide +kernel
theorem dX7_ofPerson_11 : decode cX7_ofPerson 11 = .ok (.aload_n 0, 1) := by decide +kernel
theorem dX7_ofPerson_12 : decode cX7_ofPerson 12 = .ok (.aload_n 0, 1) := by decide +kernel
theorem dX7_ofPerson_13 : decode cX7_ofPerson 13 = .ok (.getfield 28, 3) := by decide +kernel
theorem dX7_ofPerson_16 : decode cX7_ofPerson 16 = .ok (.iload_n 1, 1) := by decide +kernel
theorem dX7_ofPerson_17 : decode cX7_ofPerson 17 = .ok (.iaload, 1) := by decide +kernel
theorem dX7_ofPerson_18 : decode cX7_ofPerson 18 = .ok (.iload_n 2, 1) := by decide +kernel
theorem dX7_ofPerson_19 : decode cX7_ofPerson 19 = .ok (.invokevirtual 43, 3) := by decide +kernel
theorem dX7_ofPerson_22 : decode cX7_ofPerson 22 = .ok (.goto 4, 3) := by decide +kernel
theorem dX7_ofPerson_25 : decode cX7_ofPerson 25 = .ok (.iconst 0, 1) := by decide +kernel
theorem dX7_ofPerson_26 : decode cX7_ofPerson 26 = .ok (.ireturn, 1) := by decide +kernel
set_option maxRecDepth 100000 in
set_option maxHeartbeats 4000000 in
theorem tz_X7_ofPerson (l : Launch) (X : qX) {k : Nat} {p0 : Int32} {p1 : Int32} {M : qM} {r0 : Int32} (hk : q_vil k = true) (hf : jVi_ofPerson k p0 p1 M = some r0) : q_Met l X yX7_ofPerson cX7_ofPerson 3 (some .int) (2) M [.ref (X.1 k), .int p0, .int p1] (q_Qi X r0 M) := by
  refine q_enter (by decide) (Nat.le_of_ble_eq_true rfl) ?_
  intro p e s m args below meth c hE hrt hlk H locs hH ls hl
  have hx := hE.1
  have hb := hE.2.1
  have hl : lv_has ls 3 [(0, .ref (X.1 k)), (1, .int p0), (2, .int p1)] := hl
  unfold jVi_ofPerson at hf
  refine lv_iload_n hx hb dX7_ofPerson_0 rfl (lv_at hl 1 rfl) ?_
  refine lv_aload_n hx hb dX7_ofPerson_1 rfl (lv_at hl 0 rfl) ?_
  refine pz_gI hE hH fr_X7_18 (q_vil_0 hk) dX7_ofPerson_2 ?_
  refine q_calli (q_runSN (As := [.int p0, .int (M.1 k 2)]) (rest := []) hE hH (tz_X11_isOf l X (M := M) (hf := rfl)) kn_X7_53 (by decide) rfl hl.1 rfl (Nat.le_of_ble_eq_true rfl) dX7_ofPerson_5) hH (fun H locs hH => ?_)
  obtain ⟨x1, hr, hf⟩ := st_bd hf
  have hJ : ∀ (ls : Array Slot) (H : Heap) (locs : List Loc), q_H X M s H locs → lv_has ls 3 [] → W p l e (q_rm (2)) s m args below meth c H locs 0 0 (MQ below (q_Qi X r0 M) args s 0 0 (q_A X)) (F0 m 26 ls [.int x1]) := by
    intro ls H locs hH hl
    replace hf := Option.some.inj hf
    subst hf
    exact pz_reti hE hrt hlk hH dX7_ofPerson_26
  clear hf
  replace hf := hr
  refine lv_if_eq (tgt := 25) hx hb dX7_ofPerson_8 (by decide) (fun hc => ?_) (fun hc => ?_)
  · replace hf := (if_pos hc).symm.trans hf
    refine lv_iconst (v := 0) hx hb dX7_ofPerson_25 (by decide) ?_
    replace hf := Option.some.inj hf
    subst hf
    exact hJ ls H locs hH (lv_sub hl [] rfl)
  · replace hf := (if_neg hc).symm.trans hf
    refine lv_aload_n hx hb dX7_ofPerson_11 rfl (lv_at hl 0 rfl) ?_
    refine lv_aload_n hx hb dX7_ofPerson_12 rfl (lv_at hl 0 rfl) ?_
    refine pz_gS (a := k + 3) hE hH fr_X7_28 (q_vil_0 hk) rfl dX7_ofPerson_13 ?_
    refine lv_iload_n hx hb dX7_ofPerson_16 rfl (lv_at hl 1 rfl) ?_
    obtain ⟨v2, ev2, hf⟩ := st_bd hf
    refine pz_iald hE hH (q_vil_3 hk) ev2 dX7_ofPerson_17 ?_
    refine lv_iload_n hx hb dX7_ofPerson_18 rfl (lv_at hl 2 rfl) ?_
    obtain ⟨r3, er3, hf⟩ := st_bd hf
    refine q_calli (q_runV (As := [.int v2, .int p1]) (rest := []) hE hH (tz_X7_ofSort l X hk (hf := er3)) kv_X7_43 (q_vil_0 hk) (by decide) rfl hl.1 rfl (Nat.le_of_ble_eq_true rfl) dX7_ofPerson_19) hH (fun H locs hH => ?_)
    refine lv_goto (tgt := 26) hx hb dX7_ofPerson_22 (by decide) ?_
    replace hf := Option.some.inj hf
    subst hf
    exact hJ ls H locs hH (lv_sub hl [] rfl)

theorem dX7_worthIn_0 : decode cX7_worthIn 0 = .ok (.iconst 0, 1) := by decide +kernel
theorem dX7_worthIn_1 : decode cX7_worthIn 1 = .ok (.aload_n 0, 1) := by decide +kernel
theorem dX7_worthIn_2 : decode cX7_worthIn 2 = .ok (.iload_n 1, 1) := by decide +kernel
theorem dX7_worthIn_3 : decode cX7_worthIn 3 = .ok (.iconst 2, 1) := by decide +kernel
theorem dX7_worthIn_4 : decode cX7_worthIn 4 = .ok (.invokevirtual 57, 3) := by decide +kernel
theorem dX7_worthIn_7 : decode cX7_worthIn 7 = .ok (.aload_n 0, 1) := by decide +kernel
theorem dX7_worthIn_8 : decode cX7_worthIn 8 = .ok (.iload_n 1, 1) := by decide +kernel
theorem dX7_worthIn_9 : decode cX7_worthIn 9 = .ok (.iconst 3, 1) := by decide +kernel
theorem dX7_worthIn_10 : decode cX7_worthIn 10 = .ok (.invokevirtual 57, 3) := by decide +kernel
theorem dX7_worthIn_13 : decode cX7_worthIn 13 = .ok (.iload_n 2, 1) := by decide +kernel
theorem dX7_worthIn_14 : decode cX7_worthIn 14 = .ok (.imul, 1) := by decide +kernel
theorem dX7_worthIn_15 : decode cX7_worthIn 15 = .ok (.isub, 1) := by decide +kernel
theorem dX7_worthIn_16 : decode cX7_worthIn 16 = .ok (.invokestatic 60, 3) := by decide +kernel
theorem dX7_worthIn_19 : decode cX7_worthIn 19 = .ok (.ireturn, 1) := by decide +kernel
set_option maxRecDepth 100000 in
set_option maxHeartbeats 4000000 in
theorem tz_X7_worthIn (l : Launch) (X : qX) {k : Nat} {p0 : Int32} {p1 : Int32} {M : qM} {r0 : Int32} (hk : q_vil k = true) (hf : jVi_worthIn k p0 p1 M = some r0) : q_Met l X yX7_worthIn cX7_worthIn 3 (some .int) (2) M [.ref (X.1 k), .int p0, .int p1] (q_Qi X r0 M) := by
  refine q_enter (by decide) (Nat.le_of_ble_eq_true rfl) ?_
  intro p e s m args below meth c hE hrt hlk H locs hH ls hl
  have hx := hE.1
  have hb := hE.2.1
  have hl : lv_has ls 3 [(0, .ref (X.1 k)), (1, .int p0), (2, .int p1)] := hl
  unfold jVi_worthIn at hf
  refine lv_iconst (v := 0) hx hb dX7_worthIn_0 (by decide) ?_
  refine lv_aload_n hx hb dX7_worthIn_1 rfl (lv_at hl 0 rfl) ?_
  refine lv_iload_n hx hb dX7_worthIn_2 rfl (lv_at hl 1 rfl) ?_
  refine lv_iconst (v := 2) hx hb dX7_worthIn_3 (by decide) ?_
  obtain ⟨r1, er1, hf⟩ := st_bd hf
  refine q_calli (q_runV (As := [.int p0, .int 2]) (rest := [.int 0]) hE hH (tz_X7_ofThing l X hk (hf := er1)) kv_X7_57 (q_vil_0 hk) (by decide) rfl hl.1 rfl (Nat.le_of_ble_eq_true rfl) dX7_worthIn_4) hH (fun H locs hH => ?_)
  refine lv_aload_n hx hb dX7_worthIn_7 rfl (lv_at hl 0 rfl) ?_
  refine lv_iload_n hx hb dX7_worthIn_8 rfl (lv_at hl 1 rfl) ?_
  refine lv_iconst (v := 3) hx hb dX7_worthIn_9 (by decide) ?_
  obtain ⟨r2, er2, hf⟩ := st_bd hf
  refine q_calli (q_runV (As := [.int p0, .int 3]) (rest := [.int r1, .int 0]) hE hH (tz_X7_ofThing l X hk (hf := er2)) kv_X7_57 (q_vil_0 hk) (by decide) rfl hl.1 rfl (Nat.le_of_ble_eq_true rfl) dX7_worthIn_10) hH (fun H locs hH => ?_)
  refine lv_iload_n hx hb dX7_worthIn_13 rfl (lv_at hl 2 rfl) ?_
  refine lv_imul hx hb dX7_worthIn_14 ?_
  refine lv_isub hx hb dX7_worthIn_15 ?_
  refine pz_maxI (rest := []) hE (q_in _ 836 (by decide +kernel) rfl) (q_in _ 549 (by decide +kernel) rfl) (q_in _ 17 (by decide +kernel) rfl) (q_in _ 550 (by decide +kernel) rfl) hl.1 (by decide) (Nat.le_of_ble_eq_true rfl) (Nat.zero_le _) (Nat.zero_le _) dX7_worthIn_16 ?_
  replace hf := Option.some.inj hf
  subst hf
  exact pz_reti hE hrt hlk hH dX7_worthIn_19

