theorem dX11_feed_0 : decode cX11_feed 0 = .ok (.iload_n 1, 1) := by decide +kernel
theorem dX11_feed_1 : decode cX11_feed 1 = .ok (.invokestatic 91, 3) := by decide +kernel
theorem dX11_feed_4 : decode cX11_feed 4 = .ok (.iload_n 2, 1) := by decide +kernel
theorem dX11_feed_5 : decode cX11_feed 5 = .ok (.invokestatic 91, 3) := by decide +kernel
theorem dX11_feed_8 : decode cX11_feed 8 = .ok (.iadd, 1) := by decide +kernel
theorem dX11_feed_9 : decode cX11_feed 9 = .ok (.iload_n 3, 1) := by decide +kernel
theorem dX11_feed_10 : decode cX11_feed 10 = .ok (.invokestatic 91, 3) := by decide +kernel
theorem dX11_feed_13 : decode cX11_feed 13 = .ok (.iadd, 1) := by decide +kernel
theorem dX11_feed_14 : decode cX11_feed 14 = .ok (.iload 4, 2) := by decide +kernel
theorem dX11_feed_16 : decode cX11_feed 16 = .ok (.invokestatic 91, 3) := by decide +kernel
theorem dX11_feed_19 : decode cX11_feed 19 = .ok (.iadd, 1) := by decide +kernel
theorem dX11_feed_20 : decode cX11_feed 20 = .ok (.iload 5, 2) := by decide +kernel
theorem dX11_feed_22 : decode cX11_feed 22 = .ok (.invokestatic 91, 3) := by decide +kernel
theorem dX11_feed_25 : decode cX11_feed 25 = .ok (.iadd, 1) := by decide +kernel
theorem dX11_feed_26 : decode cX11_feed 26 = .ok (.istore 6, 2) := by decide +kernel
theorem dX11_feed_28 : decode cX11_feed 28 = .ok (.aload_n 0, 1) := by decide +kernel
theorem dX11_feed_29 : decode cX11_feed 29 = .ok (.getfield 10, 3) := by decide +kernel
theorem dX11_feed_32 : decode cX11_feed 32 = .ok (.getfield 95, 3) := by decide +kernel
theorem dX11_feed_35 : decode cX11_feed 35 = .ok (.iload 6, 2) := by decide +kernel
theorem dX11_feed_37 : decode cX11_feed 37 = .ok (.iadd, 1) := by decide +kernel
theorem dX11_feed_38 : decode cX11_feed 38 = .ok (.sipush 160, 3) := by decide +kernel
theorem dX11_feed_41 : decode cX11_feed 41 = .ok (.if_icmp .le 5, 3) := by decide +kernel
theorem dX11_feed_44 : decode cX11_feed 44 = .ok (.iconst (-1), 1) := by decide +kernel
theorem dX11_feed_45 : decode cX11_feed 45 = .ok (.ireturn, 1) := by decide +kernel
theorem dX11_feed_46 : decode cX11_feed 46 = .ok (.aload_n 0, 1) := by decide +kernel
theorem dX11_feed_47 : decode cX11_feed 47 = .ok (.getfield 10, 3) := by decide +kernel
theorem dX11_feed_50 : decode cX11_feed 50 = .ok (.iload_n 1, 1) := by decide +kernel
theorem dX11_feed_51 : decode cX11_feed 51 = .ok (.invokevirtual 98, 3) := by decide +kernel
theorem dX11_feed_54 : decode cX11_feed 54 = .ok (.aload_n 0, 1) := by decide +kernel
theorem dX11_feed_55 : decode cX11_feed 55 = .ok (.getfield 10, 3) := by decide +kernel
theorem dX11_feed_58 : decode cX11_feed 58 = .ok (.iload_n 2, 1) := by decide +kernel
theorem dX11_feed_59 : decode cX11_feed 59 = .ok (.invokevirtual 98, 3) := by decide +kernel
theorem dX11_feed_62 : decode cX11_feed 62 = .ok (.aload_n 0, 1) := by decide +kernel
theorem dX11_feed_63 : decode cX11_feed 63 = .ok (.getfield 10, 3) := by decide +kernel
theorem dX11_feed_66 : decode cX11_feed 66 = .ok (.iload_n 3, 1) := by decide +kernel
theorem dX11_feed_67 : decode cX11_feed 67 = .ok (.invokevirtual 98, 3) := by decide +kernel
theorem dX11_feed_70 : decode cX11_feed 70 = .ok (.aload_n 0, 1) := by decide +kernel
theorem dX11_feed_71 : decode cX11_feed 71 = .ok (.getfield 10, 3) := by decide +kernel
theorem dX11_feed_74 : decode cX11_feed 74 = .ok (.iload 4, 2) := by decide +kernel
theorem dX11_feed_76 : decode cX11_feed 76 = .ok (.invokevirtual 98, 3) := by decide +kernel
theorem dX11_feed_79 : decode cX11_feed 79 = .ok (.aload_n 0, 1) := by decide +kernel
theorem dX11_feed_80 : decode cX11_feed 80 = .ok (.getfield 10, 3) := by decide +kernel
theorem dX11_feed_83 : decode cX11_feed 83 = .ok (.iload 5, 2) := by decide +kernel
theorem dX11_feed_85 : decode cX11_feed 85 = .ok (.invokevirtual 98, 3) := by decide +kernel
theorem dX11_feed_88 : decode cX11_feed 88 = .ok (.aload_n 0, 1) := by decide +kernel
theorem dX11_feed_89 : decode cX11_feed 89 = .ok (.getfield 10, 3) := by decide +kernel
theorem dX11_feed_92 : decode cX11_feed 92 = .ok (.getfield 95, 3) := by decide +kernel
theorem dX11_feed_95 : decode cX11_feed 95 = .ok (.ireturn, 1) := by decide +kernel
set_option maxRecDepth 100000 in
set_option maxHeartbeats 4000000 in
theorem tz_X11_feed (l : Launch) (X : qX) {p0 : Int32} {p1 : Int32} {p2 : Int32} {p3 : Int32} {p4 : Int32} {M MR : qM} {r0 : Int32} (hf : jTc_feed p0 p1 p2 p3 p4 M = some (r0, MR)) : q_Met l X yX11_feed cX11_feed 7 (some .int) (2) M [.ref (X.1 0), .int p0, .int p1, .int p2, .int p3, .int p4] (q_Qi X r0 MR) := by
  refine q_enter (by decide) (Nat.le_of_ble_eq_true rfl) ?_
  intro p e s m args below meth c hE hrt hlk H locs hH ls hl
  have hx := hE.1
  have hb := hE.2.1
  have hl : lv_has ls 7 [(0, .ref (X.1 0)), (1, .int p0), (2, .int p1), (3, .int p2), (4, .int p3), (5, .int p4)] := hl
  unfold jTc_feed at hf
  refine lv_iload_n hx hb dX11_feed_0 rfl (lv_at hl 1 rfl) ?_
  obtain ⟨r1, er1, hf⟩ := st_bd hf
  refine q_calli (q_runS (As := [.int p0]) (rest := []) hE hH (tz_X4_bytesOf l X (M := M) (hf := er1)) ks_X11_91 (by decide) rfl hl.1 rfl (Nat.le_of_ble_eq_true rfl) dX11_feed_1) hH (fun H locs hH => ?_)
  refine lv_iload_n hx hb dX11_feed_4 rfl (lv_at hl 2 rfl) ?_
  obtain ⟨r2, er2, hf⟩ := st_bd hf
  refine q_calli (q_runS (As := [.int p1]) (rest := [.int r1]) hE hH (tz_X4_bytesOf l X (M := M) (hf := er2)) ks_X11_91 (by decide) rfl hl.1 rfl (Nat.le_of_ble_eq_true rfl) dX11_feed_5) hH (fun H locs hH => ?_)
  refine lv_iadd hx hb dX11_feed_8 ?_
  refine lv_iload_n hx hb dX11_feed_9 rfl (lv_at hl 3 rfl) ?_
  obtain ⟨r3, er3, hf⟩ := st_bd hf
  refine q_calli (q_runS (As := [.int p2]) (rest := [.int (r1 + r2)]) hE hH (tz_X4_bytesOf l X (M := M) (hf := er3)) ks_X11_91 (by decide) rfl hl.1 rfl (Nat.le_of_ble_eq_true rfl) dX11_feed_10) hH (fun H locs hH => ?_)
  refine lv_iadd hx hb dX11_feed_13 ?_
  refine lv_iload hx hb dX11_feed_14 (lv_at hl 4 rfl) ?_
  obtain ⟨r4, er4, hf⟩ := st_bd hf
  refine q_calli (q_runS (As := [.int p3]) (rest := [.int ((r1 + r2) + r3)]) hE hH (tz_X4_bytesOf l X (M := M) (hf := er4)) ks_X11_91 (by decide) rfl hl.1 rfl (Nat.le_of_ble_eq_true rfl) dX11_feed_16) hH (fun H locs hH => ?_)
  refine lv_iadd hx hb dX11_feed_19 ?_
  refine lv_iload hx hb dX11_feed_20 (lv_at hl 5 rfl) ?_
  obtain ⟨r5, er5, hf⟩ := st_bd hf
  refine q_calli (q_runS (As := [.int p4]) (rest := [.int (((r1 + r2) + r3) + r4)]) hE hH (tz_X4_bytesOf l X (M := M) (hf := er5)) ks_X11_91 (by decide) rfl hl.1 rfl (Nat.le_of_ble_eq_true rfl) dX11_feed_22) hH (fun H locs hH => ?_)
  refine lv_iadd hx hb dX11_feed_25 ?_
  refine lv_topi (fun x6 ex6 => ?_)
  replace hf := st_lt hf ex6
  refine lv_istore (lv' := [(6, .int x6), (0, .ref (X.1 0)), (1, .int p0), (2, .int p1), (3, .int p2), (4, .int p3), (5, .int p4)]) hx hb dX11_feed_26 hl (by decide) rfl (fun ls hl => ?_)
  refine lv_aload_n hx hb dX11_feed_28 rfl (lv_at hl 1 rfl) ?_
  refine pz_gS (a := 1) hE hH fr_X11_10 qk_0 (by decide) dX11_feed_29 ?_
  refine pz_gI hE hH fr_X11_95 qk_1 dX11_feed_32 ?_
  refine lv_iload hx hb dX11_feed_35 (lv_at hl 0 rfl) ?_
  refine lv_iadd hx hb dX11_feed_37 ?_
  refine lv_sipush (v := 160) hx hb dX11_feed_38 (by decide) ?_
  refine lv_icmp_le (tgt := 46) hx hb dX11_feed_41 (by decide) (fun hc => ?_) (fun hc => ?_)
  · replace hf := (if_pos hc).symm.trans hf
    refine lv_aload_n hx hb dX11_feed_46 rfl (lv_at hl 1 rfl) ?_
    refine pz_gS (a := 1) hE hH fr_X11_10 qk_0 (by decide) dX11_feed_47 ?_
    refine lv_iload_n hx hb dX11_feed_50 rfl (lv_at hl 2 rfl) ?_
    obtain ⟨M7, eM7, hf⟩ := st_bd hf
    refine q_callv (q_runV (As := [.int p0]) (rest := []) hE hH (tz_X4_add l X (hf := eM7)) kv_X11_98 qk_1 (by decide) rfl hl.1 rfl (Nat.le_of_ble_eq_true rfl) dX11_feed_51) hH (fun H locs hH => ?_)
    refine lv_aload_n hx hb dX11_feed_54 rfl (lv_at hl 1 rfl) ?_
    refine pz_gS (a := 1) hE hH fr_X11_10 qk_0 (by decide) dX11_feed_55 ?_
    refine lv_iload_n hx hb dX11_feed_58 rfl (lv_at hl 3 rfl) ?_
    obtain ⟨M8, eM8, hf⟩ := st_bd hf
    refine q_callv (q_runV (As := [.int p1]) (rest := []) hE hH (tz_X4_add l X (hf := eM8)) kv_X11_98 qk_1 (by decide) rfl hl.1 rfl (Nat.le_of_ble_eq_true rfl) dX11_feed_59) hH (fun H locs hH => ?_)
    refine lv_aload_n hx hb dX11_feed_62 rfl (lv_at hl 1 rfl) ?_
    refine pz_gS (a := 1) hE hH fr_X11_10 qk_0 (by decide) dX11_feed_63 ?_
    refine lv_iload_n hx hb dX11_feed_66 rfl (lv_at hl 4 rfl) ?_
    obtain ⟨M9, eM9, hf⟩ := st_bd hf
    refine q_callv (q_runV (As := [.int p2]) (rest := []) hE hH (tz_X4_add l X (hf := eM9)) kv_X11_98 qk_1 (by decide) rfl hl.1 rfl (Nat.le_of_ble_eq_true rfl) dX11_feed_67) hH (fun H locs hH => ?_)
    refine lv_aload_n hx hb dX11_feed_70 rfl (lv_at hl 1 rfl) ?_
    refine pz_gS (a := 1) hE hH fr_X11_10 qk_0 (by decide) dX11_feed_71 ?_
    refine lv_iload hx hb dX11_feed_74 (lv_at hl 5 rfl) ?_
    obtain ⟨M10, eM10, hf⟩ := st_bd hf
    refine q_callv (q_runV (As := [.int p3]) (rest := []) hE hH (tz_X4_add l X (hf := eM10)) kv_X11_98 qk_1 (by decide) rfl hl.1 rfl (Nat.le_of_ble_eq_true rfl) dX11_feed_76) hH (fun H locs hH => ?_)
    refine lv_aload_n hx hb dX11_feed_79 rfl (lv_at hl 1 rfl) ?_
    refine pz_gS (a := 1) hE hH fr_X11_10 qk_0 (by decide) dX11_feed_80 ?_
    refine lv_iload hx hb dX11_feed_83 (lv_at hl 6 rfl) ?_
    obtain ⟨M11, eM11, hf⟩ := st_bd hf
    refine q_callv (q_runV (As := [.int p4]) (rest := []) hE hH (tz_X4_add l X (hf := eM11)) kv_X11_98 qk_1 (by decide) rfl hl.1 rfl (Nat.le_of_ble_eq_true rfl) dX11_feed_85) hH (fun H locs hH => ?_)
    refine lv_aload_n hx hb dX11_feed_88 rfl (lv_at hl 1 rfl) ?_
    refine pz_gS (a := 1) hE hH fr_X11_10 qk_0 (by decide) dX11_feed_89 ?_
    refine pz_gI hE hH fr_X11_95 qk_1 dX11_feed_92 ?_
    replace hf := Option.some.inj hf
    obtain ⟨rfl, rfl⟩ := qi2 hf
    exact pz_reti hE hrt hlk hH dX11_feed_95
  · replace hf := (if_neg hc).symm.trans hf
    refine lv_iconst (v := (-1)) hx hb dX11_feed_44 (by decide) ?_
    replace hf := Option.some.inj hf
    obtain ⟨rfl, rfl⟩ := qi2 hf
    exact pz_reti hE hrt hlk hH dX11_feed_45

theorem dX11_end_0 : decode cX11_end 0 = .ok (.iload_n 1, 1) := by decide +kernel
theorem dX11_end_1 : decode cX11_end 1 = .ok (.ifCond .lt 14, 3) := by decide +kernel
theorem dX11_end_4 : decode cX11_end 4 = .ok (.iload_n 1, 1) := by decide +kernel
theorem dX11_end_5 : decode cX11_end 5 = .ok (.aload_n 0, 1) := by decide +kernel
theorem dX11_end_6 : decode cX11_end 6 = .ok (.getfield 10, 3) := by decide +kernel
theorem dX11_end_9 : decode cX11_end 9 = .ok (.getfield 95, 3) := by decide +kernel
theorem dX11_end_12 : decode cX11_end 12 = .ok (.if_icmp .le 5, 3) := by decide +kernel
theorem dX11_end_15 : decode cX11_end 15 = .ok (.iconst 0, 1) := by decide +kernel
theorem dX11_end_16 : decode cX11_end 16 = .ok (.ireturn, 1) := by decide +kernel
theorem dX11_end_17 : decode cX11_end 17 = .ok (.aload_n 0, 1) := by decide +kernel
theorem dX11_end_18 : decode cX11_end 18 = .ok (.getfield 10, 3) := by decide +kernel
theorem dX11_end_21 : decode cX11_end 21 = .ok (.iload_n 1, 1) := by decide +kernel
theorem dX11_end_22 : decode cX11_end 22 = .ok (.putfield 95, 3) := by decide +kernel
theorem dX11_end_25 : decode cX11_end 25 = .ok (.iconst 1, 1) := by decide +kernel
theorem dX11_end_26 : decode cX11_end 26 = .ok (.ireturn, 1) := by decide +kernel
set_option maxRecDepth 100000 in
set_option maxHeartbeats 4000000 in
theorem tz_X11_end (l : Launch) (X : qX) {p0 : Int32} {M MR : qM} {r0 : Bool} (hf : jTc_end p0 M = (r0, MR)) : q_Met l X yX11_end cX11_end 2 (some .boolean) (1) M [.ref (X.1 0), .int p0] (q_Qi X (b2i r0) MR) := by
  refine q_enter (by decide) (Nat.le_of_ble_eq_true rfl) ?_
  intro p e s m args below meth c hE hrt hlk H locs hH ls hl
  have hx := hE.1
  have hb := hE.2.1
  have hl : lv_has ls 2 [(0, .ref (X.1 0)), (1, .int p0)] := hl
  unfold jTc_end at hf
  refine lv_iload_n hx hb dX11_end_0 rfl (lv_at hl 1 rfl) ?_
  refine lv_if_lt (tgt := 15) hx hb dX11_end_1 (by decide) (fun hc => ?_) (fun hc => ?_)
  · replace hf := (if_pos hc).symm.trans hf
    refine lv_iconst (v := 0) hx hb dX11_end_15 (by decide) ?_
    obtain ⟨rfl, rfl⟩ := qi2 hf
    exact pz_retz hE hrt hlk hH rfl dX11_end_16
  · replace hf := (if_neg hc).symm.trans hf
    refine lv_iload_n hx hb dX11_end_4 rfl (lv_at hl 1 rfl) ?_
    refine lv_aload_n hx hb dX11_end_5 rfl (lv_at hl 0 rfl) ?_
    refine pz_gS (a := 1) hE hH fr_X11_10 qk_0 (by decide) dX11_end_6 ?_
    refine pz_gI hE hH fr_X11_95 qk_1 dX11_end_9 ?_
    refine lv_icmp_le (tgt := 17) hx hb dX11_end_12 (by decide) (fun hc => ?_) (fun hc => ?_)
    · replace hf := (if_pos hc).symm.trans hf
      refine lv_aload_n hx hb dX11_end_17 rfl (lv_at hl 0 rfl) ?_
      refine pz_gS (a := 1) hE hH fr_X11_10 qk_0 (by decide) dX11_end_18 ?_
      refine lv_iload_n hx hb dX11_end_21 rfl (lv_at hl 1 rfl) ?_
      obtain ⟨M1, eM1, hf⟩ := st_lty hf
      refine pz_pI hE hH fw_X11_95 qk_1  eM1 dX11_end_22 (fun H locs hH => ?_)
      refine lv_iconst (v := 1) hx hb dX11_end_25 (by decide) ?_
      obtain ⟨rfl, rfl⟩ := qi2 hf
      exact pz_retz hE hrt hlk hH rfl dX11_end_26
    · replace hf := (if_neg hc).symm.trans hf
      refine lv_iconst (v := 0) hx hb dX11_end_15 (by decide) ?_
      obtain ⟨rfl, rfl⟩ := qi2 hf
      exact pz_retz hE hrt hlk hH rfl dX11_end_16

theorem dX11_fault_0 : decode cX11_fault 0 = .ok (.iload_n 1, 1) := by decide +kernel
theorem dX11_fault_1 : decode cX11_fault 1 = .ok (.ifCond .ne 20, 3) := by decide +kernel
theorem dX11_fault_4 : decode cX11_fault 4 = .ok (.aload_n 0, 1) := by decide +kernel
theorem dX11_fault_5 : decode cX11_fault 5 = .ok (.getfield 21, 3) := by decide +kernel
theorem dX11_fault_8 : decode cX11_fault 8 = .ok (.aload_n 0, 1) := by decide +kernel
theorem dX11_fault_9 : decode cX11_fault 9 = .ok (.getfield 34, 3) := by decide +kernel
theorem dX11_fault_12 : decode cX11_fault 12 = .ok (.aload_n 0, 1) := by decide +kernel
theorem dX11_fault_13 : decode cX11_fault 13 = .ok (.getfield 38, 3) := by decide +kernel
theorem dX11_fault_16 : decode cX11_fault 16 = .ok (.aaload, 1) := by decide +kernel
theorem dX11_fault_17 : decode cX11_fault 17 = .ok (.invokevirtual 102, 3) := by decide +kernel
theorem dX11_fault_20 : decode cX11_fault 20 = .ok (.ireturn, 1) := by decide +kernel
theorem dX11_fault_21 : decode cX11_fault 21 = .ok (.iload_n 1, 1) := by decide +kernel
theorem dX11_fault_22 : decode cX11_fault 22 = .ok (.iconst 1, 1) := by decide +kernel
theorem dX11_fault_23 : decode cX11_fault 23 = .ok (.if_icmp .ne 18, 3) := by decide +kernel
theorem dX11_fault_26 : decode cX11_fault 26 = .ok (.aload_n 0, 1) := by decide +kernel
theorem dX11_fault_27 : decode cX11_fault 27 = .ok (.getfield 28, 3) := by decide +kernel
theorem dX11_fault_30 : decode cX11_fault 30 = .ok (.aload_n 0, 1) := by decide +kernel
theorem dX11_fault_31 : decode cX11_fault 31 = .ok (.getfield 45, 3) := by decide +kernel
theorem dX11_fault_34 : decode cX11_fault 34 = .ok (.invokevirtual 106, 3) := by decide +kernel
theorem dX11_fault_37 : decode cX11_fault 37 = .ok (.invokevirtual 110, 3) := by decide +kernel
theorem dX11_fault_40 : decode cX11_fault 40 = .ok (.ireturn, 1) := by decide +kernel
theorem dX11_fault_41 : decode cX11_fault 41 = .ok (.bipush (-2), 2) := by decide +kernel
theorem dX11_fault_43 : decode cX11_fault 43 = .ok (.ireturn, 1) := by decide +kernel
set_option maxRecDepth 100000 in
set_option maxHeartbeats 4000000 in
theorem tz_X11_fault (l : Launch) (X : qX) {p0 : Int32} {M MR : qM} {r0 : Int32} (hf : jTc_fault p0 M = some (r0, MR)) : q_Met l X yX11_fault cX11_fault 2 (some .int) (63) M [.ref (X.1 0), .int p0] (q_Qi X r0 MR) := by
  refine q_enter (by decide) (Nat.le_of_ble_eq_true rfl) ?_
  intro p e s m args below meth c hE hrt hlk H locs hH ls hl
  have hx := hE.1
  have hb := hE.2.1
  have hl : lv_has ls 2 [(0, .ref (X.1 0)), (1, .int p0)] := hl
  unfold jTc_fault at hf
  refine lv_iload_n hx hb dX11_fault_0 rfl (lv_at hl 1 rfl) ?_
  refine lv_if_ne (tgt := 21) hx hb dX11_fault_1 (by decide) (fun hc => ?_) (fun hc => ?_)
  · replace hf := (if_neg hc).symm.trans hf
    refine lv_iload_n hx hb dX11_fault_21 rfl (lv_at hl 1 rfl) ?_
    refine lv_iconst (v := 1) hx hb dX11_fault_22 (by decide) ?_
    refine lv_icmp_ne (tgt := 41) hx hb dX11_fault_23 (by decide) (fun hc => ?_) (fun hc => ?_)
    · replace hf := (if_neg hc).symm.trans hf
      refine lv_bipush (v := (-2)) hx hb dX11_fault_41 (by decide) ?_
      replace hf := Option.some.inj hf
      obtain ⟨rfl, rfl⟩ := qi2 hf
      exact pz_reti hE hrt hlk hH dX11_fault_43
    · replace hf := (if_pos hc).symm.trans hf
      refine lv_aload_n hx hb dX11_fault_26 rfl (lv_at hl 0 rfl) ?_
      refine pz_gS (a := 4) hE hH fr_X11_28 qk_0 (by decide) dX11_fault_27 ?_
      refine lv_aload_n hx hb dX11_fault_30 rfl (lv_at hl 0 rfl) ?_
      refine pz_gS (a := 6) hE hH fr_X11_45 qk_0 (by decide) dX11_fault_31 ?_
      obtain ⟨r1, er1, hf⟩ := st_bd hf
      refine q_callq (q_runV (As := []) (rest := [.ref (X.1 4)]) hE hH (tz_X0_spare l X (hf := er1)) kv_X11_106 qk_6 (by decide) rfl hl.1 rfl (Nat.le_of_ble_eq_true rfl) dX11_fault_34) hH (fun H locs hH => ?_)
      obtain ⟨a2, ea2, hf⟩ := st_bd hf
      subst ea2
      obtain ⟨ha2, hf⟩ := st_gd hf
      obtain ⟨w3, ew3, hf⟩ := st_bd hf
      obtain ⟨r4, M5⟩ := w3
      replace hf := st_u2 hf
      refine q_calli (q_runV (As := [.ref (X.1 a2)]) (rest := []) hE hH (tz_X10_read l X ha2 (hf := ew3)) kv_X11_110 qk_4 (by decide) rfl hl.1 rfl (Nat.le_of_ble_eq_true rfl) dX11_fault_37) hH (fun H locs hH => ?_)
      replace hf := Option.some.inj hf
      obtain ⟨rfl, rfl⟩ := qi2 hf
      exact pz_reti hE hrt hlk hH dX11_fault_40
  · replace hf := (if_pos hc).symm.trans hf
    refine lv_aload_n hx hb dX11_fault_4 rfl (lv_at hl 0 rfl) ?_
    refine pz_gS (a := 3) hE hH fr_X11_21 qk_0 (by decide) dX11_fault_5 ?_
    refine lv_aload_n hx hb dX11_fault_8 rfl (lv_at hl 0 rfl) ?_
    refine pz_gS (a := 5) hE hH fr_X11_34 qk_0 (by decide) dX11_fault_9 ?_
    refine lv_aload_n hx hb dX11_fault_12 rfl (lv_at hl 0 rfl) ?_
    refine pz_gI hE hH fr_X11_38 qk_0 dX11_fault_13 ?_
    obtain ⟨t6, et6, hf⟩ := st_bd hf
    refine pz_aldV hE hH qk_5 et6 dX11_fault_16 (fun ht6 => ?_)
    obtain ⟨w7, ew7, hf⟩ := st_bd hf
    obtain ⟨r8, M9⟩ := w7
    replace hf := st_u2 hf
    refine q_calli (q_runV (As := [.ref (X.1 (71 + 4 * t6))]) (rest := []) hE hH (tz_X8_read l X ht6 (hf := ew7)) kv_X11_102 qk_3 (by decide) rfl hl.1 rfl (Nat.le_of_ble_eq_true rfl) dX11_fault_17) hH (fun H locs hH => ?_)
    replace hf := Option.some.inj hf
    obtain ⟨rfl, rfl⟩ := qi2 hf
    exact pz_reti hE hrt hlk hH dX11_fault_20

theorem dX11_text_0 : decode cX11_text 0 = .ok (.aload_n 0, 1) := by decide +kernel
theorem dX11_text_1 : decode cX11_text 1 = .ok (.iload_n 1, 1) := by decide +kernel
theorem dX11_text_2 : decode cX11_text 2 = .ok (.invokevirtual 113, 3) := by decide +kernel
theorem dX11_text_5 : decode cX11_text 5 = .ok (.iconst (-1), 1) := by decide +kernel
theorem dX11_text_6 : decode cX11_text 6 = .ok (.if_icmp .eq 5, 3) := by decide +kernel
theorem dX11_text_9 : decode cX11_text 9 = .ok (.iconst (-1), 1) := by decide +kernel
theorem dX11_text_10 : decode cX11_text 10 = .ok (.ireturn, 1) := by decide +kernel
theorem dX11_text_11 : decode cX11_text 11 = .ok (.iload_n 1, 1) := by decide +kernel
theorem dX11_text_12 : decode cX11_text 12 = .ok (.ifCond .ne 10, 3) := by decide +kernel
theorem dX11_text_15 : decode cX11_text 15 = .ok (.aload_n 0, 1) := by decide +kernel
theorem dX11_text_16 : decode cX11_text 16 = .ok (.getfield 38, 3) := by decide +kernel
theorem dX11_text_19 : decode cX11_text 19 = .ok (.goto 10, 3) := by decide +kernel
theorem dX11_text_22 : decode cX11_text 22 = .ok (.aload_n 0, 1) := by decide +kernel
theorem dX11_text_23 : decode cX11_text 23 = .ok (.getfield 45, 3) := by decide +kernel
theorem dX11_text_26 : decode cX11_text 26 = .ok (.getfield 116, 3) := by decide +kernel
theorem dX11_text_29 : decode cX11_text 29 = .ok (.istore_n 2, 1) := by decide +kernel
theorem dX11_text_30 : decode cX11_text 30 = .ok (.iload_n 2, 1) := by decide +kernel
theorem dX11_text_31 : decode cX11_text 31 = .ok (.iload_n 1, 1) := by decide +kernel
theorem dX11_text_32 : decode cX11_text 32 = .ok (.ifCond .ne 7, 3) := by decide +kernel
theorem dX11_text_35 : decode cX11_text 35 = .ok (.iconst 4, 1) := by decide +kernel
theorem dX11_text_36 : decode cX11_text 36 = .ok (.goto 5, 3) := by decide +kernel
theorem dX11_text_39 : decode cX11_text 39 = .ok (.bipush 6, 2) := by decide +kernel
theorem dX11_text_41 : decode cX11_text 41 = .ok (.if_icmp .lt 5, 3) := by decide +kernel
theorem dX11_text_44 : decode cX11_text 44 = .ok (.iconst (-1), 1) := by decide +kernel
theorem dX11_text_45 : decode cX11_text 45 = .ok (.ireturn, 1) := by decide +kernel
theorem dX11_text_46 : decode cX11_text 46 = .ok (.iload_n 1, 1) := by decide +kernel
theorem dX11_text_47 : decode cX11_text 47 = .ok (.ifCond .ne 16, 3) := by decide +kernel
theorem dX11_text_50 : decode cX11_text 50 = .ok (.aload_n 0, 1) := by decide +kernel
theorem dX11_text_51 : decode cX11_text 51 = .ok (.dup, 1) := by decide +kernel
theorem dX11_text_52 : decode cX11_text 52 = .ok (.getfield 38, 3) := by decide +kernel
theorem dX11_text_55 : decode cX11_text 55 = .ok (.iconst 1, 1) := by decide +kernel
theorem dX11_text_56 : decode cX11_text 56 = .ok (.iadd, 1) := by decide +kernel
theorem dX11_text_57 : decode cX11_text 57 = .ok (.putfield 38, 3) := by decide +kernel
theorem dX11_text_60 : decode cX11_text 60 = .ok (.goto 16, 3) := by decide +kernel
theorem dX11_text_63 : decode cX11_text 63 = .ok (.aload_n 0, 1) := by decide +kernel
theorem dX11_text_64 : decode cX11_text 64 = .ok (.getfield 45, 3) := by decide +kernel
theorem dX11_text_67 : decode cX11_text 67 = .ok (.dup, 1) := by decide +kernel
theorem dX11_text_68 : decode cX11_text 68 = .ok (.getfield 116, 3) := by decide +kernel
theorem dX11_text_71 : decode cX11_text 71 = .ok (.iconst 1, 1) := by decide +kernel
theorem dX11_text_72 : decode cX11_text 72 = .ok (.iadd, 1) := by decide +kernel
theorem dX11_text_73 : decode cX11_text 73 = .ok (.putfield 116, 3) := by decide +kernel
theorem dX11_text_76 : decode cX11_text 76 = .ok (.aload_n 0, 1) := by decide +kernel
theorem dX11_text_77 : decode cX11_text 77 = .ok (.getfield 10, 3) := by decide +kernel
theorem dX11_text_80 : decode cX11_text 80 = .ok (.iconst 0, 1) := by decide +kernel
theorem dX11_text_81 : decode cX11_text 81 = .ok (.putfield 95, 3) := by decide +kernel
theorem dX11_text_84 : decode cX11_text 84 = .ok (.iload_n 2, 1) := by decide +kernel
theorem dX11_text_85 : decode cX11_text 85 = .ok (.ireturn, 1) := by decide +kernel
set_option maxRecDepth 100000 in
set_option maxHeartbeats 4000000 in
theorem tz_X11_text (l : Launch) (X : qX) {p0 : Int32} {M MR : qM} {r0 : Int32} (hf : jTc_text p0 M = some (r0, MR)) : q_Met l X yX11_text cX11_text 3 (some .int) (64) M [.ref (X.1 0), .int p0] (q_Qi X r0 MR) := by
  refine q_enter (by decide) (Nat.le_of_ble_eq_true rfl) ?_
  intro p e s m args below meth c hE hrt hlk H locs hH ls hl
  have hx := hE.1
  have hb := hE.2.1
  have hl : lv_has ls 3 [(0, .ref (X.1 0)), (1, .int p0)] := hl
  unfold jTc_text at hf
  refine lv_aload_n hx hb dX11_text_0 rfl (lv_at hl 0 rfl) ?_
  refine lv_iload_n hx hb dX11_text_1 rfl (lv_at hl 1 rfl) ?_
  obtain ⟨w1, ew1, hf⟩ := st_bd hf
  obtain ⟨r2, M3⟩ := w1
  replace hf := st_u2 hf
  refine q_calli (q_runV (As := [.int p0]) (rest := []) hE hH (tz_X11_fault l X (hf := ew1)) kv_X11_113 qk_0 (by decide) rfl hl.1 rfl (Nat.le_of_ble_eq_true rfl) dX11_text_2) hH (fun H locs hH => ?_)
  refine lv_iconst (v := (-1)) hx hb dX11_text_5 (by decide) ?_
  refine lv_icmp_eq (tgt := 11) hx hb dX11_text_6 (by decide) (fun hc => ?_) (fun hc => ?_)
  · replace hf := (if_pos hc).symm.trans hf
    refine lv_iload_n hx hb dX11_text_11 rfl (lv_at hl 1 rfl) ?_
    obtain ⟨x4, hr, hf⟩ := st_ltx hf
    have hJ : ∀ (ls : Array Slot) (H : Heap) (locs : List Loc), q_H X M3 s H locs → lv_has ls 3 [(0, .ref (X.1 0)), (1, .int p0)] → W p l e (q_rm (64)) s m args below meth c H locs 0 0 (MQ below (q_Qi X r0 MR) args s 0 0 (q_A X)) (F0 m 29 ls [.int x4]) := by
      intro ls H locs hH hl
      refine lv_istore_n (lv' := [(2, .int x4), (0, .ref (X.1 0)), (1, .int p0)]) hx hb dX11_text_29 rfl hl (by decide) rfl (fun ls hl => ?_)
      refine lv_iload_n hx hb dX11_text_30 rfl (lv_at hl 0 rfl) ?_
      refine lv_iload_n hx hb dX11_text_31 rfl (lv_at hl 2 rfl) ?_
      obtain ⟨x5, hr, hf⟩ := st_ltx hf
      have hJ : ∀ (ls : Array Slot) (H : Heap) (locs : List Loc), q_H X M3 s H locs → lv_has ls 3 [(0, .ref (X.1 0)), (1, .int p0), (2, .int x4)] → W p l e (q_rm (64)) s m args below meth c H locs 0 0 (MQ below (q_Qi X r0 MR) args s 0 0 (q_A X)) (F0 m 41 ls [.int x5, .int x4]) := by
        intro ls H locs hH hl
        refine lv_icmp_lt (tgt := 46) hx hb dX11_text_41 (by decide) (fun hc => ?_) (fun hc => ?_)
        · replace hf := (if_pos hc).symm.trans hf
          refine lv_iload_n hx hb dX11_text_46 rfl (lv_at hl 1 rfl) ?_
          obtain ⟨M6, hr, hf⟩ := st_ltx hf
          have hJ : ∀ (ls : Array Slot) (H : Heap) (locs : List Loc), q_H X M6 s H locs → lv_has ls 3 [(0, .ref (X.1 0)), (2, .int x4)] → W p l e (q_rm (64)) s m args below meth c H locs 0 0 (MQ below (q_Qi X r0 MR) args s 0 0 (q_A X)) (F0 m 76 ls []) := by
            intro ls H locs hH hl
            refine lv_aload_n hx hb dX11_text_76 rfl (lv_at hl 0 rfl) ?_
            refine pz_gS (a := 1) hE hH fr_X11_10 qk_0 (by decide) dX11_text_77 ?_
            refine lv_iconst (v := 0) hx hb dX11_text_80 (by decide) ?_
            obtain ⟨M7, eM7, hf⟩ := st_lty hf
            refine pz_pI hE hH fw_X11_95 qk_1  eM7 dX11_text_81 (fun H locs hH => ?_)
            refine lv_iload_n hx hb dX11_text_84 rfl (lv_at hl 1 rfl) ?_
            replace hf := Option.some.inj hf
            obtain ⟨rfl, rfl⟩ := qi2 hf
            exact pz_reti hE hrt hlk hH dX11_text_85
          clear hf
          replace hf := hr
          refine lv_if_ne (tgt := 63) hx hb dX11_text_47 (by decide) (fun hc => ?_) (fun hc => ?_)
          · replace hf := (if_neg hc).symm.trans hf
            refine lv_aload_n hx hb dX11_text_63 rfl (lv_at hl 0 rfl) ?_
            refine pz_gS (a := 6) hE hH fr_X11_45 qk_0 (by decide) dX11_text_64 ?_
            refine lv_dup hx hb dX11_text_67 rfl ?_
            refine pz_gI hE hH fr_X11_116 qk_6 dX11_text_68 ?_
            refine lv_iconst (v := 1) hx hb dX11_text_71 (by decide) ?_
            refine lv_iadd hx hb dX11_text_72 ?_
            obtain ⟨M8, eM8, hf⟩ := st_lty hf
            refine pz_pI hE hH fw_X11_116 qk_6  eM8 dX11_text_73 (fun H locs hH => ?_)
            subst hf
            exact hJ ls H locs hH (lv_sub hl [0, 2] rfl)
          · replace hf := (if_pos hc).symm.trans hf
            refine lv_aload_n hx hb dX11_text_50 rfl (lv_at hl 0 rfl) ?_
            refine lv_dup hx hb dX11_text_51 rfl ?_
            refine pz_gI hE hH fr_X11_38 qk_0 dX11_text_52 ?_
            refine lv_iconst (v := 1) hx hb dX11_text_55 (by decide) ?_
            refine lv_iadd hx hb dX11_text_56 ?_
            obtain ⟨M9, eM9, hf⟩ := st_lty hf
            refine pz_pI hE hH fw_X11_38 qk_0  eM9 dX11_text_57 (fun H locs hH => ?_)
            refine lv_goto (tgt := 76) hx hb dX11_text_60 (by decide) ?_
            subst hf
            exact hJ ls H locs hH (lv_sub hl [0, 2] rfl)
        · replace hf := (if_neg hc).symm.trans hf
          refine lv_iconst (v := (-1)) hx hb dX11_text_44 (by decide) ?_
          replace hf := Option.some.inj hf
          obtain ⟨rfl, rfl⟩ := qi2 hf
          exact pz_reti hE hrt hlk hH dX11_text_45
      clear hf
      replace hf := hr
      refine lv_if_ne (tgt := 39) hx hb dX11_text_32 (by decide) (fun hc => ?_) (fun hc => ?_)
      · replace hf := (if_neg hc).symm.trans hf
        refine lv_bipush (v := 6) hx hb dX11_text_39 (by decide) ?_
        subst hf
        exact hJ ls H locs hH (lv_sub hl [1, 2, 0] rfl)
      · replace hf := (if_pos hc).symm.trans hf
        refine lv_iconst (v := 4) hx hb dX11_text_35 (by decide) ?_
        refine lv_goto (tgt := 41) hx hb dX11_text_36 (by decide) ?_
        subst hf
        exact hJ ls H locs hH (lv_sub hl [1, 2, 0] rfl)
    clear hf
    replace hf := hr
    refine lv_if_ne (tgt := 22) hx hb dX11_text_12 (by decide) (fun hc => ?_) (fun hc => ?_)
    · replace hf := (if_neg hc).symm.trans hf
      refine lv_aload_n hx hb dX11_text_22 rfl (lv_at hl 0 rfl) ?_
      refine pz_gS (a := 6) hE hH fr_X11_45 qk_0 (by decide) dX11_text_23 ?_
      refine pz_gI hE hH fr_X11_116 qk_6 dX11_text_26 ?_
      subst hf
      exact hJ ls H locs hH (lv_sub hl [0, 1] rfl)
    · replace hf := (if_pos hc).symm.trans hf
      refine lv_aload_n hx hb dX11_text_15 rfl (lv_at hl 0 rfl) ?_
      refine pz_gI hE hH fr_X11_38 qk_0 dX11_text_16 ?_
      refine lv_goto (tgt := 29) hx hb dX11_text_19 (by decide) ?_
      subst hf
      exact hJ ls H locs hH (lv_sub hl [0, 1] rfl)
  · replace hf := (if_neg hc).symm.trans hf
    refine lv_iconst (v := (-1)) hx hb dX11_text_9 (by decide) ?_
    replace hf := Option.some.inj hf
    obtain ⟨rfl, rfl⟩ := qi2 hf
    exact pz_reti hE hrt hlk hH dX11_text_10

theorem dX11_isVillage_0 : decode cX11_isVillage 0 = .ok (.iload_n 1, 1) := by decide +kernel
theorem dX11_isVillage_1 : decode cX11_isVillage 1 = .ok (.aload_n 0, 1) := by decide +kernel
theorem dX11_isVillage_2 : decode cX11_isVillage 2 = .ok (.getfield 38, 3) := by decide +kernel
theorem dX11_isVillage_5 : decode cX11_isVillage 5 = .ok (.invokestatic 123, 3) := by decide +kernel
theorem dX11_isVillage_8 : decode cX11_isVillage 8 = .ok (.ireturn, 1) := by decide +kernel
set_option maxRecDepth 100000 in
set_option maxHeartbeats 4000000 in
theorem tz_X11_isVillage (l : Launch) (X : qX) {p0 : Int32} {M : qM} {r0 : Bool} (hf : jTc_isVillage p0 M = r0) : q_Met l X yX11_isVillage cX11_isVillage 2 (some .boolean) (2) M [.ref (X.1 0), .int p0] (q_Qi X (b2i r0) M) := by
  refine q_enter (by decide) (Nat.le_of_ble_eq_true rfl) ?_
  intro p e s m args below meth c hE hrt hlk H locs hH ls hl
  have hx := hE.1
  have hb := hE.2.1
  have hl : lv_has ls 2 [(0, .ref (X.1 0)), (1, .int p0)] := hl
  unfold jTc_isVillage at hf
  refine lv_iload_n hx hb dX11_isVillage_0 rfl (lv_at hl 1 rfl) ?_
  refine lv_aload_n hx hb dX11_isVillage_1 rfl (lv_at hl 0 rfl) ?_
  refine pz_gI hE hH fr_X11_38 qk_0 dX11_isVillage_2 ?_
  refine q_calli (q_runS (As := [.int p0, .int (M.1 0 4)]) (rest := []) hE hH (tz_X11_isOf l X (M := M) (hf := rfl)) ks_X11_123 (by decide) rfl hl.1 rfl (Nat.le_of_ble_eq_true rfl) dX11_isVillage_5) hH (fun H locs hH => ?_)
  subst hf
  exact pz_retz hE hrt hlk hH rfl dX11_isVillage_8

theorem dX11_village_0 : decode cX11_village 0 = .ok (.aload_n 0, 1) := by decide +kernel
theorem dX11_village_1 : decode cX11_village 1 = .ok (.iload_n 1, 1) := by decide +kernel
theorem dX11_village_2 : decode cX11_village 2 = .ok (.invokevirtual 119, 3) := by decide +kernel
theorem dX11_village_5 : decode cX11_village 5 = .ok (.ifCond .eq 11, 3) := by decide +kernel
theorem dX11_village_8 : decode cX11_village 8 = .ok (.iload_n 2, 1) := by decide +kernel
theorem dX11_village_9 : decode cX11_village 9 = .ok (.iconst 3, 1) := by decide +kernel
theorem dX11_village_10 : decode cX11_village 10 = .ok (.invokestatic 123, 3) := by decide +kernel
theorem dX11_village_13 : decode cX11_village 13 = .ok (.ifCond .ne 13, 3) := by decide +kernel
theorem dX11_village_26 : decode cX11_village 26 = .ok (.aload_n 0, 1) := by decide +kernel
theorem dX11_village_27 : decode cX11_village 27 = .ok (.getfield 34, 3) := by decide +kernel
theorem dX11_village_30 : decode cX11_village 30 = .ok (.iload_n 1, 1) := by decide +kernel
theorem dX11_village_31 : decode cX11_village 31 = .ok (.aaload, 1) := by decide +kernel
theorem dX11_village_32 : decode cX11_village 32 = .ok (.astore_n 3, 1) := by decide +kernel
theorem dX11_village_33 : decode cX11_village 33 = .ok (.iload_n 2, 1) := by decide +kernel
theorem dX11_village_34 : decode cX11_village 34 = .ok (.ifCond .ne 10, 3) := by decide +kernel
theorem dX11_village_37 : decode cX11_village 37 = .ok (.aload_n 3, 1) := by decide +kernel
theorem dX11_village_38 : decode cX11_village 38 = .ok (.getfield 134, 3) := by decide +kernel
theorem dX11_village_41 : decode cX11_village 41 = .ok (.goto 19, 3) := by decide +kernel
theorem dX11_village_44 : decode cX11_village 44 = .ok (.iload_n 2, 1) := by decide +kernel
theorem dX11_village_45 : decode cX11_village 45 = .ok (.iconst 1, 1) := by decide +kernel
theorem dX11_village_46 : decode cX11_village 46 = .ok (.if_icmp .ne 10, 3) := by decide +kernel
theorem dX11_village_49 : decode cX11_village 49 = .ok (.aload_n 3, 1) := by decide +kernel
theorem dX11_village_50 : decode cX11_village 50 = .ok (.getfield 137, 3) := by decide +kernel
theorem dX11_village_53 : decode cX11_village 53 = .ok (.goto 7, 3) := by decide +kernel
theorem dX11_village_56 : decode cX11_village 56 = .ok (.aload_n 3, 1) := by decide +kernel
theorem dX11_village_57 : decode cX11_village 57 = .ok (.getfield 140, 3) := by decide +kernel
theorem dX11_village_60 : decode cX11_village 60 = .ok (.ireturn, 1) := by decide +kernel
set_option maxRecDepth 100000 in
set_option maxHeartbeats 4000000 in
theorem tz_X11_village (l : Launch) (X : qX) {p0 : Int32} {p1 : Int32} {M : qM} {r0 : Int32} (hf : jTc_village p0 p1 M = some r0) : q_Met l X yX11_village cX11_village 4 (some .int) (3) M [.ref (X.1 0), .int p0, .int p1] (q_Qi X r0 M) := by
  refine q_enter (by decide) (Nat.le_of_ble_eq_true rfl) ?_
  intro p e s m args below meth c hE hrt hlk H locs hH ls hl
  have hx := hE.1
  have hb := hE.2.1
  have hl : lv_has ls 4 [(0, .ref (X.1 0)), (1, .int p0), (2, .int p1)] := hl
  unfold jTc_village at hf
  refine lv_aload_n hx hb dX11_village_0 rfl (lv_at hl 0 rfl) ?_
  refine lv_iload_n hx hb dX11_village_1 rfl (lv_at hl 1 rfl) ?_
  refine q_calli (q_runV (As := [.int p0]) (rest := []) hE hH (tz_X11_isVillage l X (hf := rfl)) kv_X11_119 qk_0 (by decide) rfl hl.1 rfl (Nat.le_of_ble_eq_true rfl) dX11_village_2) hH (fun H locs hH => ?_)
  refine lv_if_eq (tgt := 16) hx hb dX11_village_5 (by decide) (fun hc => ?_) (fun hc => ?_)
  · replace hf := (if_pos hc).symm.trans hf
    exact st_nn hf
  · replace hf := (if_neg hc).symm.trans hf
    refine lv_iload_n hx hb dX11_village_8 rfl (lv_at hl 2 rfl) ?_
    refine lv_iconst (v := 3) hx hb dX11_village_9 (by decide) ?_
    refine q_calli (q_runS (As := [.int p1, .int 3]) (rest := []) hE hH (tz_X11_isOf l X (M := M) (hf := rfl)) ks_X11_123 (by decide) rfl hl.1 rfl (Nat.le_of_ble_eq_true rfl) dX11_village_10) hH (fun H locs hH => ?_)
    refine lv_if_ne (tgt := 26) hx hb dX11_village_13 (by decide) (fun hc => ?_) (fun hc => ?_)
    · replace hf := (if_neg hc).symm.trans hf
      refine lv_aload_n hx hb dX11_village_26 rfl (lv_at hl 0 rfl) ?_
      refine pz_gS (a := 5) hE hH fr_X11_34 qk_0 (by decide) dX11_village_27 ?_
      refine lv_iload_n hx hb dX11_village_30 rfl (lv_at hl 1 rfl) ?_
      obtain ⟨t1, et1, hf⟩ := st_bd hf
      refine pz_aldV hE hH qk_5 et1 dX11_village_31 (fun ht1 => ?_)
      refine lv_astore_n (lv' := [(3, .ref (X.1 (71 + 4 * t1))), (0, .ref (X.1 0)), (1, .int p0), (2, .int p1)]) hx hb dX11_village_32 rfl hl (by decide) rfl (fun ls hl => ?_)
      refine lv_iload_n hx hb dX11_village_33 rfl (lv_at hl 3 rfl) ?_
      obtain ⟨x2, hr, hf⟩ := st_ltx hf
      have hJ : ∀ (ls : Array Slot) (H : Heap) (locs : List Loc), q_H X M s H locs → lv_has ls 4 [] → W p l e (q_rm (3)) s m args below meth c H locs 0 0 (MQ below (q_Qi X r0 M) args s 0 0 (q_A X)) (F0 m 60 ls [.int x2]) := by
        intro ls H locs hH hl
        replace hf := Option.some.inj hf
        subst hf
        exact pz_reti hE hrt hlk hH dX11_village_60
      clear hf
      replace hf := hr
      refine lv_if_ne (tgt := 44) hx hb dX11_village_34 (by decide) (fun hc => ?_) (fun hc => ?_)
      · replace hf := (if_neg hc).symm.trans hf
        refine lv_iload_n hx hb dX11_village_44 rfl (lv_at hl 3 rfl) ?_
        refine lv_iconst (v := 1) hx hb dX11_village_45 (by decide) ?_
        refine lv_icmp_ne (tgt := 56) hx hb dX11_village_46 (by decide) (fun hc => ?_) (fun hc => ?_)
        · replace hf := (if_neg hc).symm.trans hf
          refine lv_aload_n hx hb dX11_village_56 rfl (lv_at hl 0 rfl) ?_
          refine pz_gI hE hH fr_X11_140 (q_vil_0 ht1) dX11_village_57 ?_
          subst hf
          exact hJ ls H locs hH (lv_sub hl [] rfl)
        · replace hf := (if_pos hc).symm.trans hf
          refine lv_aload_n hx hb dX11_village_49 rfl (lv_at hl 0 rfl) ?_
          refine pz_gI hE hH fr_X11_137 (q_vil_0 ht1) dX11_village_50 ?_
          refine lv_goto (tgt := 60) hx hb dX11_village_53 (by decide) ?_
          subst hf
          exact hJ ls H locs hH (lv_sub hl [] rfl)
      · replace hf := (if_pos hc).symm.trans hf
        refine lv_aload_n hx hb dX11_village_37 rfl (lv_at hl 0 rfl) ?_
        refine pz_gI hE hH fr_X11_134 (q_vil_0 ht1) dX11_village_38 ?_
        refine lv_goto (tgt := 60) hx hb dX11_village_41 (by decide) ?_
        subst hf
        exact hJ ls H locs hH (lv_sub hl [] rfl)
    · replace hf := (if_pos hc).symm.trans hf
      exact st_nn hf

theorem dX11_isThing_0 : decode cX11_isThing 0 = .ok (.aload_n 0, 1) := by decide +kernel
theorem dX11_isThing_1 : decode cX11_isThing 1 = .ok (.iload_n 1, 1) := by decide +kernel
theorem dX11_isThing_2 : decode cX11_isThing 2 = .ok (.invokevirtual 119, 3) := by decide +kernel
theorem dX11_isThing_5 : decode cX11_isThing 5 = .ok (.ifCond .eq 23, 3) := by decide +kernel
theorem dX11_isThing_8 : decode cX11_isThing 8 = .ok (.iload_n 2, 1) := by decide +kernel
theorem dX11_isThing_9 : decode cX11_isThing 9 = .ok (.aload_n 0, 1) := by decide +kernel
theorem dX11_isThing_10 : decode cX11_isThing 10 = .ok (.getfield 34, 3) := by decide +kernel
theorem dX11_isThing_13 : decode cX11_isThing 13 = .ok (.iload_n 1, 1) := by decide +kernel
theorem dX11_isThing_14 : decode cX11_isThing 14 = .ok (.aaload, 1) := by decide +kernel
theorem dX11_isThing_15 : decode cX11_isThing 15 = .ok (.getfield 134, 3) := by decide +kernel
theorem dX11_isThing_18 : decode cX11_isThing 18 = .ok (.invokestatic 123, 3) := by decide +kernel
theorem dX11_isThing_21 : decode cX11_isThing 21 = .ok (.ifCond .eq 7, 3) := by decide +kernel
theorem dX11_isThing_24 : decode cX11_isThing 24 = .ok (.iconst 1, 1) := by decide +kernel
theorem dX11_isThing_25 : decode cX11_isThing 25 = .ok (.goto 4, 3) := by decide +kernel
theorem dX11_isThing_28 : decode cX11_isThing 28 = .ok (.iconst 0, 1) := by decide +kernel
theorem dX11_isThing_29 : decode cX11_isThing 29 = .ok (.ireturn, 1) := by decide +kernel
set_option maxRecDepth 100000 in
set_option maxHeartbeats 4000000 in
theorem tz_X11_isThing (l : Launch) (X : qX) {p0 : Int32} {p1 : Int32} {M : qM} {r0 : Bool} (hf : jTc_isThing p0 p1 M = some r0) : q_Met l X yX11_isThing cX11_isThing 3 (some .boolean) (3) M [.ref (X.1 0), .int p0, .int p1] (q_Qi X (b2i r0) M) := by
  refine q_enter (by decide) (Nat.le_of_ble_eq_true rfl) ?_
  intro p e s m args below meth c hE hrt hlk H locs hH ls hl
  have hx := hE.1
  have hb := hE.2.1
  have hl : lv_has ls 3 [(0, .ref (X.1 0)), (1, .int p0), (2, .int p1)] := hl
  unfold jTc_isThing at hf
  refine lv_aload_n hx hb dX11_isThing_0 rfl (lv_at hl 0 rfl) ?_
  refine lv_iload_n hx hb dX11_isThing_1 rfl (lv_at hl 1 rfl) ?_
  refine q_calli (q_runV (As := [.int p0]) (rest := []) hE hH (tz_X11_isVillage l X (hf := rfl)) kv_X11_119 qk_0 (by decide) rfl hl.1 rfl (Nat.le_of_ble_eq_true rfl) dX11_isThing_2) hH (fun H locs hH => ?_)
  obtain ⟨z1, hr, hf⟩ := st_bd hf
  have hJ : ∀ (ls : Array Slot) (H : Heap) (locs : List Loc), q_H X M s H locs → lv_has ls 3 [] → W p l e (q_rm (3)) s m args below meth c H locs 0 0 (MQ below (q_Qi X (b2i r0) M) args s 0 0 (q_A X)) (F0 m 29 ls [.int (b2i z1)]) := by
    intro ls H locs hH hl
    replace hf := Option.some.inj hf
    subst hf
    exact pz_retz hE hrt hlk hH rfl dX11_isThing_29
  clear hf
  replace hf := hr
  refine lv_if_eq (tgt := 28) hx hb dX11_isThing_5 (by decide) (fun hc => ?_) (fun hc => ?_)
  · replace hf := (if_pos hc).symm.trans hf
    refine lv_iconst (v := 0) hx hb dX11_isThing_28 (by decide) ?_
    replace hf := Option.some.inj hf
    subst hf
    exact hJ ls H locs hH (lv_sub hl [] rfl)
  · replace hf := (if_neg hc).symm.trans hf
    refine lv_iload_n hx hb dX11_isThing_8 rfl (lv_at hl 2 rfl) ?_
    refine lv_aload_n hx hb dX11_isThing_9 rfl (lv_at hl 0 rfl) ?_
    refine pz_gS (a := 5) hE hH fr_X11_34 qk_0 (by decide) dX11_isThing_10 ?_
    refine lv_iload_n hx hb dX11_isThing_13 rfl (lv_at hl 1 rfl) ?_
    obtain ⟨t2, et2, hf⟩ := st_bd hf
    refine pz_aldV hE hH qk_5 et2 dX11_isThing_14 (fun ht2 => ?_)
    refine pz_gI hE hH fr_X11_134 (q_vil_0 ht2) dX11_isThing_15 ?_
    refine q_calli (q_runS (As := [.int p1, .int (M.1 (71 + 4 * t2) 0)]) (rest := []) hE hH (tz_X11_isOf l X (M := M) (hf := rfl)) ks_X11_123 (by decide) rfl hl.1 rfl (Nat.le_of_ble_eq_true rfl) dX11_isThing_18) hH (fun H locs hH => ?_)
    refine lv_if_eq (tgt := 28) hx hb dX11_isThing_21 (by decide) (fun hc => ?_) (fun hc => ?_)
    · replace hf := (if_pos hc).symm.trans hf
      refine lv_iconst (v := 0) hx hb dX11_isThing_28 (by decide) ?_
      replace hf := Option.some.inj hf
      subst hf
      exact hJ ls H locs hH (lv_sub hl [] rfl)
    · replace hf := (if_neg hc).symm.trans hf
      refine lv_iconst (v := 1) hx hb dX11_isThing_24 (by decide) ?_
      refine lv_goto (tgt := 29) hx hb dX11_isThing_25 (by decide) ?_
      replace hf := Option.some.inj hf
      subst hf
      exact hJ ls H locs hH (lv_sub hl [] rfl)

theorem dX11_thing_0 : decode cX11_thing 0 = .ok (.aload_n 0, 1) := by decide +kernel
theorem dX11_thing_1 : decode cX11_thing 1 = .ok (.iload_n 1, 1) := by decide +kernel
theorem dX11_thing_2 : decode cX11_thing 2 = .ok (.iload_n 2, 1) := by decide +kernel
theorem dX11_thing_3 : decode cX11_thing 3 = .ok (.invokevirtual 143, 3) := by decide +kernel
theorem dX11_thing_6 : decode cX11_thing 6 = .ok (.ifCond .eq 11, 3) := by decide +kernel
theorem dX11_thing_9 : decode cX11_thing 9 = .ok (.iload_n 3, 1) := by decide +kernel
theorem dX11_thing_10 : decode cX11_thing 10 = .ok (.iconst 4, 1) := by decide +kernel
theorem dX11_thing_11 : decode cX11_thing 11 = .ok (.invokestatic 123, 3) := by decide +kernel
theorem dX11_thing_14 : decode cX11_thing 14 = .ok (.ifCond .ne 5, 3) := by decide +kernel
theorem dX11_thing_17 : decode cX11_thing 17 = .ok (.iconst (-1), 1) := by decide +kernel
theorem dX11_thing_18 : decode cX11_thing 18 = .ok (.ireturn, 1) := by decide +kernel
theorem dX11_thing_19 : decode cX11_thing 19 = .ok (.aload_n 0, 1) := by decide +kernel
theorem dX11_thing_20 : decode cX11_thing 20 = .ok (.getfield 34, 3) := by decide +kernel
theorem dX11_thing_23 : decode cX11_thing 23 = .ok (.iload_n 1, 1) := by decide +kernel
theorem dX11_thing_24 : decode cX11_thing 24 = .ok (.aaload, 1) := by decide +kernel
theorem dX11_thing_25 : decode cX11_thing 25 = .ok (.iload_n 2, 1) := by decide +kernel
theorem dX11_thing_26 : decode cX11_thing 26 = .ok (.iload_n 3, 1) := by decide +kernel
theorem dX11_thing_27 : decode cX11_thing 27 = .ok (.invokevirtual 146, 3) := by decide +kernel
theorem dX11_thing_30 : decode cX11_thing 30 = .ok (.ireturn, 1) := by decide +kernel
set_option maxRecDepth 100000 in
set_option maxHeartbeats 4000000 in
theorem tz_X11_thing (l : Launch) (X : qX) {p0 : Int32} {p1 : Int32} {p2 : Int32} {M : qM} {r0 : Int32} (hf : jTc_thing p0 p1 p2 M = some r0) : q_Met l X yX11_thing cX11_thing 4 (some .int) (4) M [.ref (X.1 0), .int p0, .int p1, .int p2] (q_Qi X r0 M) := by
  refine q_enter (by decide) (Nat.le_of_ble_eq_true rfl) ?_
  intro p e s m args below meth c hE hrt hlk H locs hH ls hl
  have hx := hE.1
  have hb := hE.2.1
  have hl : lv_has ls 4 [(0, .ref (X.1 0)), (1, .int p0), (2, .int p1), (3, .int p2)] := hl
  unfold jTc_thing at hf
  refine lv_aload_n hx hb dX11_thing_0 rfl (lv_at hl 0 rfl) ?_
  refine lv_iload_n hx hb dX11_thing_1 rfl (lv_at hl 1 rfl) ?_
  refine lv_iload_n hx hb dX11_thing_2 rfl (lv_at hl 2 rfl) ?_
  obtain ⟨r1, er1, hf⟩ := st_bd hf
  refine q_calli (q_runV (As := [.int p0, .int p1]) (rest := []) hE hH (tz_X11_isThing l X (hf := er1)) kv_X11_143 qk_0 (by decide) rfl hl.1 rfl (Nat.le_of_ble_eq_true rfl) dX11_thing_3) hH (fun H locs hH => ?_)
  refine lv_if_eq (tgt := 17) hx hb dX11_thing_6 (by decide) (fun hc => ?_) (fun hc => ?_)
  · replace hf := (if_pos hc).symm.trans hf
    refine lv_iconst (v := (-1)) hx hb dX11_thing_17 (by decide) ?_
    replace hf := Option.some.inj hf
    subst hf
    exact pz_reti hE hrt hlk hH dX11_thing_18
  · replace hf := (if_neg hc).symm.trans hf
    refine lv_iload_n hx hb dX11_thing_9 rfl (lv_at hl 3 rfl) ?_
    refine lv_iconst (v := 4) hx hb dX11_thing_10 (by decide) ?_
    refine q_calli (q_runS (As := [.int p2, .int 4]) (rest := []) hE hH (tz_X11_isOf l X (M := M) (hf := rfl)) ks_X11_123 (by decide) rfl hl.1 rfl (Nat.le_of_ble_eq_true rfl) dX11_thing_11) hH (fun H locs hH => ?_)
    refine lv_if_ne (tgt := 19) hx hb dX11_thing_14 (by decide) (fun hc => ?_) (fun hc => ?_)
    · replace hf := (if_neg hc).symm.trans hf
      refine lv_aload_n hx hb dX11_thing_19 rfl (lv_at hl 0 rfl) ?_
      refine pz_gS (a := 5) hE hH fr_X11_34 qk_0 (by decide) dX11_thing_20 ?_
      refine lv_iload_n hx hb dX11_thing_23 rfl (lv_at hl 1 rfl) ?_
      obtain ⟨t2, et2, hf⟩ := st_bd hf
      refine pz_aldV hE hH qk_5 et2 dX11_thing_24 (fun ht2 => ?_)
      refine lv_iload_n hx hb dX11_thing_25 rfl (lv_at hl 2 rfl) ?_
      refine lv_iload_n hx hb dX11_thing_26 rfl (lv_at hl 3 rfl) ?_
      obtain ⟨r3, er3, hf⟩ := st_bd hf
      refine q_calli (q_runV (As := [.int p1, .int p2]) (rest := []) hE hH (tz_X7_ofThing l X ht2 (hf := er3)) kv_X11_146 (q_vil_0 ht2) (by decide) rfl hl.1 rfl (Nat.le_of_ble_eq_true rfl) dX11_thing_27) hH (fun H locs hH => ?_)
      replace hf := Option.some.inj hf
      subst hf
      exact pz_reti hE hrt hlk hH dX11_thing_30
    · replace hf := (if_pos hc).symm.trans hf
      refine lv_iconst (v := (-1)) hx hb dX11_thing_17 (by decide) ?_
      replace hf := Option.some.inj hf
      subst hf
      exact pz_reti hE hrt hlk hH dX11_thing_18

theorem dX11_sort_0 : decode cX11_sort 0 = .ok (.aload_n 0, 1) := by decide +kernel
theorem dX11_sort_1 : decode cX11_sort 1 = .ok (.iload_n 1, 1) := by decide +kernel
theorem dX11_sort_2 : decode cX11_sort 2 = .ok (.invokevirtual 119, 3) := by decide +kernel
theorem dX11_sort_5 : decode cX11_sort 5 = .ok (.ifCond .eq 27, 3) := by decide +kernel
theorem dX11_sort_8 : decode cX11_sort 8 = .ok (.iload_n 2, 1) := by decide +kernel
theorem dX11_sort_9 : decode cX11_sort 9 = .ok (.aload_n 0, 1) := by decide +kernel
theorem dX11_sort_10 : decode cX11_sort 10 = .ok (.getfield 34, 3) := by decide +kernel
theorem dX11_sort_13 : decode cX11_sort 13 = .ok (.iload_n 1, 1) := by decide +kernel
theorem dX11_sort_14 : decode cX11_sort 14 = .ok (.aaload, 1) := by decide +kernel
theorem dX11_sort_15 : decode cX11_sort 15 = .ok (.getfield 137, 3) := by decide +kernel
theorem dX11_sort_18 : decode cX11_sort 18 = .ok (.invokestatic 123, 3) := by decide +kernel
theorem dX11_sort_21 : decode cX11_sort 21 = .ok (.ifCond .eq 11, 3) := by decide +kernel
theorem dX11_sort_24 : decode cX11_sort 24 = .ok (.iload_n 3, 1) := by decide +kernel
theorem dX11_sort_25 : decode cX11_sort 25 = .ok (.iconst 4, 1) := by decide +kernel
theorem dX11_sort_26 : decode cX11_sort 26 = .ok (.invokestatic 123, 3) := by decide +kernel
theorem dX11_sort_29 : decode cX11_sort 29 = .ok (.ifCond .ne 5, 3) := by decide +kernel
theorem dX11_sort_32 : decode cX11_sort 32 = .ok (.iconst (-1), 1) := by decide +kernel
theorem dX11_sort_33 : decode cX11_sort 33 = .ok (.ireturn, 1) := by decide +kernel
theorem dX11_sort_34 : decode cX11_sort 34 = .ok (.aload_n 0, 1) := by decide +kernel
theorem dX11_sort_35 : decode cX11_sort 35 = .ok (.getfield 34, 3) := by decide +kernel
theorem dX11_sort_38 : decode cX11_sort 38 = .ok (.iload_n 1, 1) := by decide +kernel
theorem dX11_sort_39 : decode cX11_sort 39 = .ok (.aaload, 1) := by decide +kernel
theorem dX11_sort_40 : decode cX11_sort 40 = .ok (.iload_n 2, 1) := by decide +kernel
theorem dX11_sort_41 : decode cX11_sort 41 = .ok (.iload_n 3, 1) := by decide +kernel
theorem dX11_sort_42 : decode cX11_sort 42 = .ok (.invokevirtual 150, 3) := by decide +kernel
theorem dX11_sort_45 : decode cX11_sort 45 = .ok (.ireturn, 1) := by decide +kernel
set_option maxRecDepth 100000 in
set_option maxHeartbeats 4000000 in
theorem tz_X11_sort (l : Launch) (X : qX) {p0 : Int32} {p1 : Int32} {p2 : Int32} {M : qM} {r0 : Int32} (hf : jTc_sort p0 p1 p2 M = some r0) : q_Met l X yX11_sort cX11_sort 4 (some .int) (3) M [.ref (X.1 0), .int p0, .int p1, .int p2] (q_Qi X r0 M) := by
  refine q_enter (by decide) (Nat.le_of_ble_eq_true rfl) ?_
  intro p e s m args below meth c hE hrt hlk H locs hH ls hl
  have hx := hE.1
  have hb := hE.2.1
  have hl : lv_has ls 4 [(0, .ref (X.1 0)), (1, .int p0), (2, .int p1), (3, .int p2)] := hl
  unfold jTc_sort at hf
  refine lv_aload_n hx hb dX11_sort_0 rfl (lv_at hl 0 rfl) ?_
  refine lv_iload_n hx hb dX11_sort_1 rfl (lv_at hl 1 rfl) ?_
  refine q_calli (q_runV (As := [.int p0]) (rest := []) hE hH (tz_X11_isVillage l X (hf := rfl)) kv_X11_119 qk_0 (by decide) rfl hl.1 rfl (Nat.le_of_ble_eq_true rfl) dX11_sort_2) hH (fun H locs hH => ?_)
  refine lv_if_eq (tgt := 32) hx hb dX11_sort_5 (by decide) (fun hc => ?_) (fun hc => ?_)
  · replace hf := (if_pos hc).symm.trans hf
    refine lv_iconst (v := (-1)) hx hb dX11_sort_32 (by decide) ?_
    replace hf := Option.some.inj hf
    subst hf
    exact pz_reti hE hrt hlk hH dX11_sort_33
  · replace hf := (if_neg hc).symm.trans hf
    refine lv_iload_n hx hb dX11_sort_8 rfl (lv_at hl 2 rfl) ?_
    refine lv_aload_n hx hb dX11_sort_9 rfl (lv_at hl 0 rfl) ?_
    refine pz_gS (a := 5) hE hH fr_X11_34 qk_0 (by decide) dX11_sort_10 ?_
    refine lv_iload_n hx hb dX11_sort_13 rfl (lv_at hl 1 rfl) ?_
    obtain ⟨t1, et1, hf⟩ := st_bd hf
    refine pz_aldV hE hH qk_5 et1 dX11_sort_14 (fun ht1 => ?_)
    refine pz_gI hE hH fr_X11_137 (q_vil_0 ht1) dX11_sort_15 ?_
    refine q_calli (q_runS (As := [.int p1, .int (M.1 (71 + 4 * t1) 1)]) (rest := []) hE hH (tz_X11_isOf l X (M := M) (hf := rfl)) ks_X11_123 (by decide) rfl hl.1 rfl (Nat.le_of_ble_eq_true rfl) dX11_sort_18) hH (fun H locs hH => ?_)
    refine lv_if_eq (tgt := 32) hx hb dX11_sort_21 (by decide) (fun hc => ?_) (fun hc => ?_)
    · replace hf := (if_pos hc).symm.trans hf
      refine lv_iconst (v := (-1)) hx hb dX11_sort_32 (by decide) ?_
      replace hf := Option.some.inj hf
      subst hf
      exact pz_reti hE hrt hlk hH dX11_sort_33
    · replace hf := (if_neg hc).symm.trans hf
      refine lv_iload_n hx hb dX11_sort_24 rfl (lv_at hl 3 rfl) ?_
      refine lv_iconst (v := 4) hx hb dX11_sort_25 (by decide) ?_
      refine q_calli (q_runS (As := [.int p2, .int 4]) (rest := []) hE hH (tz_X11_isOf l X (M := M) (hf := rfl)) ks_X11_123 (by decide) rfl hl.1 rfl (Nat.le_of_ble_eq_true rfl) dX11_sort_26) hH (fun H locs hH => ?_)
      refine lv_if_ne (tgt := 34) hx hb dX11_sort_29 (by decide) (fun hc => ?_) (fun hc => ?_)
      · replace hf := (if_neg hc).symm.trans hf
        refine lv_aload_n hx hb dX11_sort_34 rfl (lv_at hl 0 rfl) ?_
        refine pz_gS (a := 5) hE hH fr_X11_34 qk_0 (by decide) dX11_sort_35 ?_
        refine lv_iload_n hx hb dX11_sort_38 rfl (lv_at hl 1 rfl) ?_
        obtain ⟨t2, et2, hf⟩ := st_bd hf
        refine pz_aldV hE hH qk_5 et2 dX11_sort_39 (fun ht2 => ?_)
        refine lv_iload_n hx hb dX11_sort_40 rfl (lv_at hl 2 rfl) ?_
        refine lv_iload_n hx hb dX11_sort_41 rfl (lv_at hl 3 rfl) ?_
        obtain ⟨r3, er3, hf⟩ := st_bd hf
        refine q_calli (q_runV (As := [.int p1, .int p2]) (rest := []) hE hH (tz_X7_ofSort l X ht2 (hf := er3)) kv_X11_150 (q_vil_0 ht2) (by decide) rfl hl.1 rfl (Nat.le_of_ble_eq_true rfl) dX11_sort_42) hH (fun H locs hH => ?_)
        replace hf := Option.some.inj hf
        subst hf
        exact pz_reti hE hrt hlk hH dX11_sort_45
      · replace hf := (if_pos hc).symm.trans hf
        refine lv_iconst (v := (-1)) hx hb dX11_sort_32 (by decide) ?_
        replace hf := Option.some.inj hf
        subst hf
        exact pz_reti hE hrt hlk hH dX11_sort_33

theorem dX11_of_0 : decode cX11_of 0 = .ok (.aload_n 0, 1) := by decide +kernel
theorem dX11_of_1 : decode cX11_of 1 = .ok (.iload_n 1, 1) := by decide +kernel
theorem dX11_of_2 : decode cX11_of 2 = .ok (.invokevirtual 119, 3) := by decide +kernel
theorem dX11_of_5 : decode cX11_of 5 = .ok (.ifCond .eq 19, 3) := by decide +kernel
theorem dX11_of_8 : decode cX11_of 8 = .ok (.iload_n 2, 1) := by decide +kernel
theorem dX11_of_9 : decode cX11_of 9 = .ok (.aload_n 0, 1) := by decide +kernel
theorem dX11_of_10 : decode cX11_of 10 = .ok (.getfield 34, 3) := by decide +kernel
theorem dX11_of_13 : decode cX11_of 13 = .ok (.iload_n 1, 1) := by decide +kernel
theorem dX11_of_14 : decode cX11_of 14 = .ok (.aaload, 1) := by decide +kernel
theorem dX11_of_15 : decode cX11_of 15 = .ok (.getfield 140, 3) := by decide +kernel
theorem dX11_of_18 : decode cX11_of 18 = .ok (.invokestatic 123, 3) := by decide +kernel
theorem dX11_of_21 : decode cX11_of 21 = .ok (.ifCond .ne 5, 3) := by decide +kernel
theorem dX11_of_24 : decode cX11_of 24 = .ok (.iconst (-1), 1) := by decide +kernel
theorem dX11_of_25 : decode cX11_of 25 = .ok (.ireturn, 1) := by decide +kernel
theorem dX11_of_26 : decode cX11_of 26 = .ok (.aload_n 0, 1) := by decide +kernel
theorem dX11_of_27 : decode cX11_of 27 = .ok (.getfield 34, 3) := by decide +kernel
theorem dX11_of_30 : decode cX11_of 30 = .ok (.iload_n 1, 1) := by decide +kernel
theorem dX11_of_31 : decode cX11_of 31 = .ok (.aaload, 1) := by decide +kernel
theorem dX11_of_32 : decode cX11_of 32 = .ok (.getfield 153, 3) := by decide +kernel
theorem dX11_of_35 : decode cX11_of 35 = .ok (.iload_n 2, 1) := by decide +kernel
theorem dX11_of_36 : decode cX11_of 36 = .ok (.iaload, 1) := by decide +kernel
theorem dX11_of_37 : decode cX11_of 37 = .ok (.ireturn, 1) := by decide +kernel
set_option maxRecDepth 100000 in
set_option maxHeartbeats 4000000 in
theorem tz_X11_of (l : Launch) (X : qX) {p0 : Int32} {p1 : Int32} {M : qM} {r0 : Int32} (hf : jTc_of p0 p1 M = some r0) : q_Met l X yX11_of cX11_of 3 (some .int) (3) M [.ref (X.1 0), .int p0, .int p1] (q_Qi X r0 M) := by
  refine q_enter (by decide) (Nat.le_of_ble_eq_true rfl) ?_
  intro p e s m args below meth c hE hrt hlk H locs hH ls hl
  have hx := hE.1
  have hb := hE.2.1
  have hl : lv_has ls 3 [(0, .ref (X.1 0)), (1, .int p0), (2, .int p1)] := hl
  unfold jTc_of at hf
  refine lv_aload_n hx hb dX11_of_0 rfl (lv_at hl 0 rfl) ?_
  refine lv_iload_n hx hb dX11_of_1 rfl (lv_at hl 1 rfl) ?_
  refine q_calli (q_runV (As := [.int p0]) (rest := []) hE hH (tz_X11_isVillage l X (hf := rfl)) kv_X11_119 qk_0 (by decide) rfl hl.1 rfl (Nat.le_of_ble_eq_true rfl) dX11_of_2) hH (fun H locs hH => ?_)
  refine lv_if_eq (tgt := 24) hx hb dX11_of_5 (by decide) (fun hc => ?_) (fun hc => ?_)
  · replace hf := (if_pos hc).symm.trans hf
    refine lv_iconst (v := (-1)) hx hb dX11_of_24 (by decide) ?_
    replace hf := Option.some.inj hf
    subst hf
    exact pz_reti hE hrt hlk hH dX11_of_25
  · replace hf := (if_neg hc).symm.trans hf
    refine lv_iload_n hx hb dX11_of_8 rfl (lv_at hl 2 rfl) ?_
    refine lv_aload_n hx hb dX11_of_9 rfl (lv_at hl 0 rfl) ?_
    refine pz_gS (a := 5) hE hH fr_X11_34 qk_0 (by decide) dX11_of_10 ?_
    refine lv_iload_n hx hb dX11_of_13 rfl (lv_at hl 1 rfl) ?_
    obtain ⟨t1, et1, hf⟩ := st_bd hf
    refine pz_aldV hE hH qk_5 et1 dX11_of_14 (fun ht1 => ?_)
    refine pz_gI hE hH fr_X11_140 (q_vil_0 ht1) dX11_of_15 ?_
    refine q_calli (q_runS (As := [.int p1, .int (M.1 (71 + 4 * t1) 2)]) (rest := []) hE hH (tz_X11_isOf l X (M := M) (hf := rfl)) ks_X11_123 (by decide) rfl hl.1 rfl (Nat.le_of_ble_eq_true rfl) dX11_of_18) hH (fun H locs hH => ?_)
    refine lv_if_ne (tgt := 26) hx hb dX11_of_21 (by decide) (fun hc => ?_) (fun hc => ?_)
    · replace hf := (if_neg hc).symm.trans hf
      refine lv_aload_n hx hb dX11_of_26 rfl (lv_at hl 0 rfl) ?_
      refine pz_gS (a := 5) hE hH fr_X11_34 qk_0 (by decide) dX11_of_27 ?_
      refine lv_iload_n hx hb dX11_of_30 rfl (lv_at hl 1 rfl) ?_
      obtain ⟨t2, et2, hf⟩ := st_bd hf
      refine pz_aldV hE hH qk_5 et2 dX11_of_31 (fun ht2 => ?_)
      refine pz_gS (a := 71 + 4 * t2 + 3) hE hH fr_X11_153 (q_vil_0 ht2) rfl dX11_of_32 ?_
      refine lv_iload_n hx hb dX11_of_35 rfl (lv_at hl 2 rfl) ?_
      obtain ⟨v3, ev3, hf⟩ := st_bd hf
      refine pz_iald hE hH (q_vil_3 ht2) ev3 dX11_of_36 ?_
      replace hf := Option.some.inj hf
      subst hf
      exact pz_reti hE hrt hlk hH dX11_of_37
    · replace hf := (if_pos hc).symm.trans hf
      refine lv_iconst (v := (-1)) hx hb dX11_of_24 (by decide) ?_
      replace hf := Option.some.inj hf
      subst hf
      exact pz_reti hE hrt hlk hH dX11_of_25

theorem dX11_way_0 : decode cX11_way 0 = .ok (.iload_n 1, 1) := by decide +kernel
theorem dX11_way_1 : decode cX11_way 1 = .ok (.bipush 6, 2) := by decide +kernel
theorem dX11_way_3 : decode cX11_way 3 = .ok (.invokestatic 123, 3) := by decide +kernel
theorem dX11_way_6 : decode cX11_way 6 = .ok (.ifCond .eq 12, 3) := by decide +kernel
theorem dX11_way_9 : decode cX11_way 9 = .ok (.iload_n 2, 1) := by decide +kernel
theorem dX11_way_10 : decode cX11_way 10 = .ok (.bipush 6, 2) := by decide +kernel
theorem dX11_way_12 : decode cX11_way 12 = .ok (.invokestatic 123, 3) := by decide +kernel
theorem dX11_way_15 : decode cX11_way 15 = .ok (.ifCond .ne 5, 3) := by decide +kernel
theorem dX11_way_18 : decode cX11_way 18 = .ok (.iconst 0, 1) := by decide +kernel
theorem dX11_way_19 : decode cX11_way 19 = .ok (.ireturn, 1) := by decide +kernel
theorem dX11_way_20 : decode cX11_way 20 = .ok (.aload_n 0, 1) := by decide +kernel
theorem dX11_way_21 : decode cX11_way 21 = .ok (.getfield 45, 3) := by decide +kernel
theorem dX11_way_24 : decode cX11_way 24 = .ok (.getfield 157, 3) := by decide +kernel
theorem dX11_way_27 : decode cX11_way 27 = .ok (.iload_n 1, 1) := by decide +kernel
theorem dX11_way_28 : decode cX11_way 28 = .ok (.iload_n 2, 1) := by decide +kernel
theorem dX11_way_29 : decode cX11_way 29 = .ok (.iastore, 1) := by decide +kernel
theorem dX11_way_30 : decode cX11_way 30 = .ok (.iconst 1, 1) := by decide +kernel
theorem dX11_way_31 : decode cX11_way 31 = .ok (.ireturn, 1) := by decide +kernel
set_option maxRecDepth 100000 in
set_option maxHeartbeats 4000000 in
theorem tz_X11_way (l : Launch) (X : qX) {p0 : Int32} {p1 : Int32} {M MR : qM} {r0 : Bool} (hf : jTc_way p0 p1 M = some (r0, MR)) : q_Met l X yX11_way cX11_way 3 (some .boolean) (2) M [.ref (X.1 0), .int p0, .int p1] (q_Qi X (b2i r0) MR) := by
  refine q_enter (by decide) (Nat.le_of_ble_eq_true rfl) ?_
  intro p e s m args below meth c hE hrt hlk H locs hH ls hl
  have hx := hE.1
  have hb := hE.2.1
  have hl : lv_has ls 3 [(0, .ref (X.1 0)), (1, .int p0), (2, .int p1)] := hl
  unfold jTc_way at hf
  refine lv_iload_n hx hb dX11_way_0 rfl (lv_at hl 1 rfl) ?_
  refine lv_bipush (v := 6) hx hb dX11_way_1 (by decide) ?_
  refine q_calli (q_runS (As := [.int p0, .int 6]) (rest := []) hE hH (tz_X11_isOf l X (M := M) (hf := rfl)) ks_X11_123 (by decide) rfl hl.1 rfl (Nat.le_of_ble_eq_true rfl) dX11_way_3) hH (fun H locs hH => ?_)
  refine lv_if_eq (tgt := 18) hx hb dX11_way_6 (by decide) (fun hc => ?_) (fun hc => ?_)
  · replace hf := (if_pos hc).symm.trans hf
    refine lv_iconst (v := 0) hx hb dX11_way_18 (by decide) ?_
    replace hf := Option.some.inj hf
    obtain ⟨rfl, rfl⟩ := qi2 hf
    exact pz_retz hE hrt hlk hH rfl dX11_way_19
  · replace hf := (if_neg hc).symm.trans hf
    refine lv_iload_n hx hb dX11_way_9 rfl (lv_at hl 2 rfl) ?_
    refine lv_bipush (v := 6) hx hb dX11_way_10 (by decide) ?_
    refine q_calli (q_runS (As := [.int p1, .int 6]) (rest := []) hE hH (tz_X11_isOf l X (M := M) (hf := rfl)) ks_X11_123 (by decide) rfl hl.1 rfl (Nat.le_of_ble_eq_true rfl) dX11_way_12) hH (fun H locs hH => ?_)
    refine lv_if_ne (tgt := 20) hx hb dX11_way_15 (by decide) (fun hc => ?_) (fun hc => ?_)
    · replace hf := (if_neg hc).symm.trans hf
      refine lv_aload_n hx hb dX11_way_20 rfl (lv_at hl 0 rfl) ?_
      refine pz_gS (a := 6) hE hH fr_X11_45 qk_0 (by decide) dX11_way_21 ?_
      refine pz_gS (a := 8) hE hH fr_X11_157 qk_6 (by decide) dX11_way_24 ?_
      refine lv_iload_n hx hb dX11_way_27 rfl (lv_at hl 1 rfl) ?_
      refine lv_iload_n hx hb dX11_way_28 rfl (lv_at hl 2 rfl) ?_
      obtain ⟨M1, eM1, hf⟩ := st_bd hf
      refine pz_iast hE hH qk_8 eM1 dX11_way_29 (fun H locs hH => ?_)
      refine lv_iconst (v := 1) hx hb dX11_way_30 (by decide) ?_
      replace hf := Option.some.inj hf
      obtain ⟨rfl, rfl⟩ := qi2 hf
      exact pz_retz hE hrt hlk hH rfl dX11_way_31
    · replace hf := (if_pos hc).symm.trans hf
      refine lv_iconst (v := 0) hx hb dX11_way_18 (by decide) ?_
      replace hf := Option.some.inj hf
      obtain ⟨rfl, rfl⟩ := qi2 hf
      exact pz_retz hE hrt hlk hH rfl dX11_way_19

theorem dX11_wayOf_0 : decode cX11_wayOf 0 = .ok (.iload_n 1, 1) := by decide +kernel
theorem dX11_wayOf_1 : decode cX11_wayOf 1 = .ok (.bipush 6, 2) := by decide +kernel
theorem dX11_wayOf_3 : decode cX11_wayOf 3 = .ok (.invokestatic 123, 3) := by decide +kernel
theorem dX11_wayOf_6 : decode cX11_wayOf 6 = .ok (.ifCond .eq 15, 3) := by decide +kernel
theorem dX11_wayOf_9 : decode cX11_wayOf 9 = .ok (.aload_n 0, 1) := by decide +kernel
theorem dX11_wayOf_10 : decode cX11_wayOf 10 = .ok (.getfield 45, 3) := by decide +kernel
theorem dX11_wayOf_13 : decode cX11_wayOf 13 = .ok (.getfield 157, 3) := by decide +kernel
theorem dX11_wayOf_16 : decode cX11_wayOf 16 = .ok (.iload_n 1, 1) := by decide +kernel
theorem dX11_wayOf_17 : decode cX11_wayOf 17 = .ok (.iaload, 1) := by decide +kernel
theorem dX11_wayOf_18 : decode cX11_wayOf 18 = .ok (.goto 4, 3) := by decide +kernel
theorem dX11_wayOf_21 : decode cX11_wayOf 21 = .ok (.iconst (-1), 1) := by decide +kernel
theorem dX11_wayOf_22 : decode cX11_wayOf 22 = .ok (.ireturn, 1) := by decide +kernel
set_option maxRecDepth 100000 in
set_option maxHeartbeats 4000000 in
theorem tz_X11_wayOf (l : Launch) (X : qX) {p0 : Int32} {M : qM} {r0 : Int32} (hf : jTc_wayOf p0 M = some r0) : q_Met l X yX11_wayOf cX11_wayOf 2 (some .int) (2) M [.ref (X.1 0), .int p0] (q_Qi X r0 M) := by
  refine q_enter (by decide) (Nat.le_of_ble_eq_true rfl) ?_
  intro p e s m args below meth c hE hrt hlk H locs hH ls hl
  have hx := hE.1
  have hb := hE.2.1
  have hl : lv_has ls 2 [(0, .ref (X.1 0)), (1, .int p0)] := hl
  unfold jTc_wayOf at hf
  refine lv_iload_n hx hb dX11_wayOf_0 rfl (lv_at hl 1 rfl) ?_
  refine lv_bipush (v := 6) hx hb dX11_wayOf_1 (by decide) ?_
  refine q_calli (q_runS (As := [.int p0, .int 6]) (rest := []) hE hH (tz_X11_isOf l X (M := M) (hf := rfl)) ks_X11_123 (by decide) rfl hl.1 rfl (Nat.le_of_ble_eq_true rfl) dX11_wayOf_3) hH (fun H locs hH => ?_)
  obtain ⟨x1, hr, hf⟩ := st_bd hf
  have hJ : ∀ (ls : Array Slot) (H : Heap) (locs : List Loc), q_H X M s H locs → lv_has ls 2 [] → W p l e (q_rm (2)) s m args below meth c H locs 0 0 (MQ below (q_Qi X r0 M) args s 0 0 (q_A X)) (F0 m 22 ls [.int x1]) := by
    intro ls H locs hH hl
    replace hf := Option.some.inj hf
    subst hf
    exact pz_reti hE hrt hlk hH dX11_wayOf_22
  clear hf
  replace hf := hr
  refine lv_if_eq (tgt := 21) hx hb dX11_wayOf_6 (by decide) (fun hc => ?_) (fun hc => ?_)
  · replace hf := (if_pos hc).symm.trans hf
    refine lv_iconst (v := (-1)) hx hb dX11_wayOf_21 (by decide) ?_
    replace hf := Option.some.inj hf
    subst hf
    exact hJ ls H locs hH (lv_sub hl [] rfl)
  · replace hf := (if_neg hc).symm.trans hf
    refine lv_aload_n hx hb dX11_wayOf_9 rfl (lv_at hl 0 rfl) ?_
    refine pz_gS (a := 6) hE hH fr_X11_45 qk_0 (by decide) dX11_wayOf_10 ?_
    refine pz_gS (a := 8) hE hH fr_X11_157 qk_6 (by decide) dX11_wayOf_13 ?_
    refine lv_iload_n hx hb dX11_wayOf_16 rfl (lv_at hl 1 rfl) ?_
    obtain ⟨v2, ev2, hf⟩ := st_bd hf
    refine pz_iald hE hH qk_8 ev2 dX11_wayOf_17 ?_
    refine lv_goto (tgt := 22) hx hb dX11_wayOf_18 (by decide) ?_
    replace hf := Option.some.inj hf
    subst hf
    exact hJ ls H locs hH (lv_sub hl [] rfl)

theorem dX11_count_0 : decode cX11_count 0 = .ok (.iload_n 1, 1) := by decide +kernel
theorem dX11_count_1 : decode cX11_count 1 = .ok (.tableswitch 141 0 6 #[43, 48, 56, 64, 69, 91, 116], 43) := by decide +kernel
theorem dX11_count_44 : decode cX11_count 44 = .ok (.aload_n 0, 1) := by decide +kernel
theorem dX11_count_45 : decode cX11_count 45 = .ok (.getfield 38, 3) := by decide +kernel
theorem dX11_count_48 : decode cX11_count 48 = .ok (.ireturn, 1) := by decide +kernel
theorem dX11_count_49 : decode cX11_count 49 = .ok (.aload_n 0, 1) := by decide +kernel
theorem dX11_count_50 : decode cX11_count 50 = .ok (.getfield 45, 3) := by decide +kernel
theorem dX11_count_53 : decode cX11_count 53 = .ok (.getfield 116, 3) := by decide +kernel
theorem dX11_count_56 : decode cX11_count 56 = .ok (.ireturn, 1) := by decide +kernel
theorem dX11_count_57 : decode cX11_count 57 = .ok (.aload_n 0, 1) := by decide +kernel
theorem dX11_count_58 : decode cX11_count 58 = .ok (.getfield 10, 3) := by decide +kernel
theorem dX11_count_61 : decode cX11_count 61 = .ok (.getfield 95, 3) := by decide +kernel
theorem dX11_count_64 : decode cX11_count 64 = .ok (.ireturn, 1) := by decide +kernel
theorem dX11_count_65 : decode cX11_count 65 = .ok (.aload_n 0, 1) := by decide +kernel
theorem dX11_count_66 : decode cX11_count 66 = .ok (.getfield 87, 3) := by decide +kernel
theorem dX11_count_69 : decode cX11_count 69 = .ok (.ireturn, 1) := by decide +kernel
theorem dX11_count_70 : decode cX11_count 70 = .ok (.aload_n 0, 1) := by decide +kernel
theorem dX11_count_71 : decode cX11_count 71 = .ok (.getfield 69, 3) := by decide +kernel
theorem dX11_count_74 : decode cX11_count 74 = .ok (.invokevirtual 159, 3) := by decide +kernel
theorem dX11_count_77 : decode cX11_count 77 = .ok (.ifCond .eq 13, 3) := by decide +kernel
theorem dX11_count_80 : decode cX11_count 80 = .ok (.aload_n 0, 1) := by decide +kernel
theorem dX11_count_81 : decode cX11_count 81 = .ok (.getfield 69, 3) := by decide +kernel
theorem dX11_count_84 : decode cX11_count 84 = .ok (.getfield 163, 3) := by decide +kernel
theorem dX11_count_87 : decode cX11_count 87 = .ok (.goto 4, 3) := by decide +kernel
theorem dX11_count_90 : decode cX11_count 90 = .ok (.iconst (-1), 1) := by decide +kernel
theorem dX11_count_91 : decode cX11_count 91 = .ok (.ireturn, 1) := by decide +kernel
theorem dX11_count_92 : decode cX11_count 92 = .ok (.aload_n 0, 1) := by decide +kernel
theorem dX11_count_93 : decode cX11_count 93 = .ok (.getfield 52, 3) := by decide +kernel
theorem dX11_count_96 : decode cX11_count 96 = .ok (.invokevirtual 166, 3) := by decide +kernel
theorem dX11_count_99 : decode cX11_count 99 = .ok (.ifCond .eq 16, 3) := by decide +kernel
theorem dX11_count_102 : decode cX11_count 102 = .ok (.aload_n 0, 1) := by decide +kernel
theorem dX11_count_103 : decode cX11_count 103 = .ok (.getfield 52, 3) := by decide +kernel
theorem dX11_count_106 : decode cX11_count 106 = .ok (.getfield 169, 3) := by decide +kernel
theorem dX11_count_109 : decode cX11_count 109 = .ok (.getfield 140, 3) := by decide +kernel
theorem dX11_count_112 : decode cX11_count 112 = .ok (.goto 4, 3) := by decide +kernel
theorem dX11_count_115 : decode cX11_count 115 = .ok (.iconst (-1), 1) := by decide +kernel
theorem dX11_count_116 : decode cX11_count 116 = .ok (.ireturn, 1) := by decide +kernel
theorem dX11_count_117 : decode cX11_count 117 = .ok (.aload_n 0, 1) := by decide +kernel
theorem dX11_count_118 : decode cX11_count 118 = .ok (.getfield 76, 3) := by decide +kernel
theorem dX11_count_121 : decode cX11_count 121 = .ok (.invokevirtual 173, 3) := by decide +kernel
theorem dX11_count_124 : decode cX11_count 124 = .ok (.ifCond .eq 16, 3) := by decide +kernel
theorem dX11_count_127 : decode cX11_count 127 = .ok (.aload_n 0, 1) := by decide +kernel
theorem dX11_count_128 : decode cX11_count 128 = .ok (.getfield 76, 3) := by decide +kernel
theorem dX11_count_131 : decode cX11_count 131 = .ok (.getfield 174, 3) := by decide +kernel
theorem dX11_count_134 : decode cX11_count 134 = .ok (.getfield 140, 3) := by decide +kernel
theorem dX11_count_137 : decode cX11_count 137 = .ok (.goto 4, 3) := by decide +kernel
theorem dX11_count_140 : decode cX11_count 140 = .ok (.iconst (-1), 1) := by decide +kernel
theorem dX11_count_141 : decode cX11_count 141 = .ok (.ireturn, 1) := by decide +kernel
theorem dX11_count_142 : decode cX11_count 142 = .ok (.ldc 175, 2) := by decide +kernel
theorem dX11_count_144 : decode cX11_count 144 = .ok (.ireturn, 1) := by decide +kernel
set_option maxRecDepth 100000 in
set_option maxHeartbeats 4000000 in
theorem tz_X11_count (l : Launch) (X : qX) {p0 : Int32} {M : qM} {r0 : Int32} (hf : jTc_count p0 M = some r0) : q_Met l X yX11_count cX11_count 2 (some .int) (2) M [.ref (X.1 0), .int p0] (q_Qi X r0 M) := by
  refine q_enter (by decide) (Nat.le_of_ble_eq_true rfl) ?_
  intro p e s m args below meth c hE hrt hlk H locs hH ls hl
  have hx := hE.1
  have hb := hE.2.1
  have hl : lv_has ls 2 [(0, .ref (X.1 0)), (1, .int p0)] := hl
  unfold jTc_count at hf
  refine lv_iload_n hx hb dX11_count_0 rfl (lv_at hl 1 rfl) ?_
  by_cases hc0 : (p0 : Int32) = 0
  · replace hf := (if_pos hc0).symm.trans hf
    refine lv_tableIn (off := 43) (tgt := 44) hx hb dX11_count_1 (by rw [hc0]; decide) (by rw [hc0]; decide) (by rw [hc0]; decide) (by decide) ?_
    refine lv_aload_n hx hb dX11_count_44 rfl (lv_at hl 0 rfl) ?_
    refine pz_gI hE hH fr_X11_38 qk_0 dX11_count_45 ?_
    replace hf := Option.some.inj hf
    subst hf
    exact pz_reti hE hrt hlk hH dX11_count_48
  · replace hf := (if_neg hc0).symm.trans hf
    by_cases hc1 : (p0 : Int32) = 1
    · replace hf := (if_pos hc1).symm.trans hf
      refine lv_tableIn (off := 48) (tgt := 49) hx hb dX11_count_1 (by rw [hc1]; decide) (by rw [hc1]; decide) (by rw [hc1]; decide) (by decide) ?_
      refine lv_aload_n hx hb dX11_count_49 rfl (lv_at hl 0 rfl) ?_
      refine pz_gS (a := 6) hE hH fr_X11_45 qk_0 (by decide) dX11_count_50 ?_
      refine pz_gI hE hH fr_X11_116 qk_6 dX11_count_53 ?_
      replace hf := Option.some.inj hf
      subst hf
      exact pz_reti hE hrt hlk hH dX11_count_56
    · replace hf := (if_neg hc1).symm.trans hf
      by_cases hc2 : (p0 : Int32) = 2
      · replace hf := (if_pos hc2).symm.trans hf
        refine lv_tableIn (off := 56) (tgt := 57) hx hb dX11_count_1 (by rw [hc2]; decide) (by rw [hc2]; decide) (by rw [hc2]; decide) (by decide) ?_
        refine lv_aload_n hx hb dX11_count_57 rfl (lv_at hl 0 rfl) ?_
        refine pz_gS (a := 1) hE hH fr_X11_10 qk_0 (by decide) dX11_count_58 ?_
        refine pz_gI hE hH fr_X11_95 qk_1 dX11_count_61 ?_
        replace hf := Option.some.inj hf
        subst hf
        exact pz_reti hE hrt hlk hH dX11_count_64
      · replace hf := (if_neg hc2).symm.trans hf
        by_cases hc3 : (p0 : Int32) = 3
        · replace hf := (if_pos hc3).symm.trans hf
          refine lv_tableIn (off := 64) (tgt := 65) hx hb dX11_count_1 (by rw [hc3]; decide) (by rw [hc3]; decide) (by rw [hc3]; decide) (by decide) ?_
          refine lv_aload_n hx hb dX11_count_65 rfl (lv_at hl 0 rfl) ?_
          refine pz_gI hE hH fr_X11_87 qk_0 dX11_count_66 ?_
          replace hf := Option.some.inj hf
          subst hf
          exact pz_reti hE hrt hlk hH dX11_count_69
        · replace hf := (if_neg hc3).symm.trans hf
          by_cases hc4 : (p0 : Int32) = 4
          · replace hf := (if_pos hc4).symm.trans hf
            refine lv_tableIn (off := 69) (tgt := 70) hx hb dX11_count_1 (by rw [hc4]; decide) (by rw [hc4]; decide) (by rw [hc4]; decide) (by decide) ?_
            refine lv_aload_n hx hb dX11_count_70 rfl (lv_at hl 0 rfl) ?_
            refine pz_gS (a := 49) hE hH fr_X11_69 qk_0 (by decide) dX11_count_71 ?_
            refine q_calli (q_runV (As := []) (rest := []) hE hH (tz_X2_isThere l X (hf := rfl)) kv_X11_159 qk_49 (by decide) rfl hl.1 rfl (Nat.le_of_ble_eq_true rfl) dX11_count_74) hH (fun H locs hH => ?_)
            obtain ⟨x1, hr, hf⟩ := st_ltx hf
            have hJ : ∀ (ls : Array Slot) (H : Heap) (locs : List Loc), q_H X M s H locs → lv_has ls 2 [] → W p l e (q_rm (2)) s m args below meth c H locs 0 0 (MQ below (q_Qi X r0 M) args s 0 0 (q_A X)) (F0 m 91 ls [.int x1]) := by
              intro ls H locs hH hl
              replace hf := Option.some.inj hf
              subst hf
              exact pz_reti hE hrt hlk hH dX11_count_91
            clear hf
            replace hf := hr
            refine lv_if_eq (tgt := 90) hx hb dX11_count_77 (by decide) (fun hc => ?_) (fun hc => ?_)
            · replace hf := (if_pos hc).symm.trans hf
              refine lv_iconst (v := (-1)) hx hb dX11_count_90 (by decide) ?_
              subst hf
              exact hJ ls H locs hH (lv_sub hl [] rfl)
            · replace hf := (if_neg hc).symm.trans hf
              refine lv_aload_n hx hb dX11_count_80 rfl (lv_at hl 0 rfl) ?_
              refine pz_gS (a := 49) hE hH fr_X11_69 qk_0 (by decide) dX11_count_81 ?_
              refine pz_gI hE hH fr_X11_163 qk_49 dX11_count_84 ?_
              refine lv_goto (tgt := 91) hx hb dX11_count_87 (by decide) ?_
              subst hf
              exact hJ ls H locs hH (lv_sub hl [] rfl)
          · replace hf := (if_neg hc4).symm.trans hf
            by_cases hc5 : (p0 : Int32) = 5
            · replace hf := (if_pos hc5).symm.trans hf
              refine lv_tableIn (off := 91) (tgt := 92) hx hb dX11_count_1 (by rw [hc5]; decide) (by rw [hc5]; decide) (by rw [hc5]; decide) (by decide) ?_
              refine lv_aload_n hx hb dX11_count_92 rfl (lv_at hl 0 rfl) ?_
              refine pz_gS (a := 33) hE hH fr_X11_52 qk_0 (by decide) dX11_count_93 ?_
              refine q_calli (q_runV (As := []) (rest := []) hE hH (tz_X1_began l X (by decide) (hf := rfl)) kv_X11_166 qk_33 (by decide) rfl hl.1 rfl (Nat.le_of_ble_eq_true rfl) dX11_count_96) hH (fun H locs hH => ?_)
              obtain ⟨x2, hr, hf⟩ := st_bd hf
              have hJ : ∀ (ls : Array Slot) (H : Heap) (locs : List Loc), q_H X M s H locs → lv_has ls 2 [] → W p l e (q_rm (2)) s m args below meth c H locs 0 0 (MQ below (q_Qi X r0 M) args s 0 0 (q_A X)) (F0 m 116 ls [.int x2]) := by
                intro ls H locs hH hl
                replace hf := Option.some.inj hf
                subst hf
                exact pz_reti hE hrt hlk hH dX11_count_116
              clear hf
              replace hf := hr
              refine lv_if_eq (tgt := 115) hx hb dX11_count_99 (by decide) (fun hc => ?_) (fun hc => ?_)
              · replace hf := (if_pos hc).symm.trans hf
                refine lv_iconst (v := (-1)) hx hb dX11_count_115 (by decide) ?_
                replace hf := Option.some.inj hf
                subst hf
                exact hJ ls H locs hH (lv_sub hl [] rfl)
              · replace hf := (if_neg hc).symm.trans hf
                refine lv_aload_n hx hb dX11_count_102 rfl (lv_at hl 0 rfl) ?_
                refine pz_gS (a := 33) hE hH fr_X11_52 qk_0 (by decide) dX11_count_103 ?_
                obtain ⟨a3, ea3, hf⟩ := st_bd hf
                refine pz_gR hE hH fr_X11_169 qk_33 ea3 dX11_count_106 (fun ha3 => ?_)
                replace ha3 : q_vil a3 = true := ha3
                refine pz_gI hE hH fr_X11_140 (q_vil_0 ha3) dX11_count_109 ?_
                refine lv_goto (tgt := 116) hx hb dX11_count_112 (by decide) ?_
                replace hf := Option.some.inj hf
                subst hf
                exact hJ ls H locs hH (lv_sub hl [] rfl)
            · replace hf := (if_neg hc5).symm.trans hf
              by_cases hc6 : (p0 : Int32) = 6
              · replace hf := (if_pos hc6).symm.trans hf
                refine lv_tableIn (off := 116) (tgt := 117) hx hb dX11_count_1 (by rw [hc6]; decide) (by rw [hc6]; decide) (by rw [hc6]; decide) (by decide) ?_
                refine lv_aload_n hx hb dX11_count_117 rfl (lv_at hl 0 rfl) ?_
                refine pz_gS (a := 60) hE hH fr_X11_76 qk_0 (by decide) dX11_count_118 ?_
                refine q_calli (q_runV (As := []) (rest := []) hE hH (tz_X5_began l X (hf := rfl)) kv_X11_173 qk_60 (by decide) rfl hl.1 rfl (Nat.le_of_ble_eq_true rfl) dX11_count_121) hH (fun H locs hH => ?_)
                obtain ⟨x4, hr, hf⟩ := st_bd hf
                have hJ : ∀ (ls : Array Slot) (H : Heap) (locs : List Loc), q_H X M s H locs → lv_has ls 2 [] → W p l e (q_rm (2)) s m args below meth c H locs 0 0 (MQ below (q_Qi X r0 M) args s 0 0 (q_A X)) (F0 m 141 ls [.int x4]) := by
                  intro ls H locs hH hl
                  replace hf := Option.some.inj hf
                  subst hf
                  exact pz_reti hE hrt hlk hH dX11_count_141
                clear hf
                replace hf := hr
                refine lv_if_eq (tgt := 140) hx hb dX11_count_124 (by decide) (fun hc => ?_) (fun hc => ?_)
                · replace hf := (if_pos hc).symm.trans hf
                  refine lv_iconst (v := (-1)) hx hb dX11_count_140 (by decide) ?_
                  replace hf := Option.some.inj hf
                  subst hf
                  exact hJ ls H locs hH (lv_sub hl [] rfl)
                · replace hf := (if_neg hc).symm.trans hf
                  refine lv_aload_n hx hb dX11_count_127 rfl (lv_at hl 0 rfl) ?_
                  refine pz_gS (a := 60) hE hH fr_X11_76 qk_0 (by decide) dX11_count_128 ?_
                  obtain ⟨a5, ea5, hf⟩ := st_bd hf
                  refine pz_gR hE hH fr_X11_174 qk_60 ea5 dX11_count_131 (fun ha5 => ?_)
                  replace ha5 : q_vil a5 = true := ha5
                  refine pz_gI hE hH fr_X11_140 (q_vil_0 ha5) dX11_count_134 ?_
                  refine lv_goto (tgt := 141) hx hb dX11_count_137 (by decide) ?_
                  replace hf := Option.some.inj hf
                  subst hf
                  exact hJ ls H locs hH (lv_sub hl [] rfl)
              · replace hf := (if_neg hc6).symm.trans hf
                refine lv_tableOut (tgt := 142) hx hb dX11_count_1 (by have := lv_neT hc0 (a := 0) (by decide); have := lv_neT hc1 (a := 1) (by decide); have := lv_neT hc2 (a := 2) (by decide); have := lv_neT hc3 (a := 3) (by decide); have := lv_neT hc4 (a := 4) (by decide); have := lv_neT hc5 (a := 5) (by decide); have := lv_neT hc6 (a := 6) (by decide); omega) (by decide) ?_
                refine pz_ldc (v := (-1000000)) hE (q_in _ 768 (by decide +kernel) rfl) dX11_count_142 ?_
                replace hf := Option.some.inj hf
                subst hf
                exact pz_reti hE hrt hlk hH dX11_count_144

theorem dX11_start_0 : decode cX11_start 0 = .ok (.aload_n 0, 1) := by decide +kernel
theorem dX11_start_1 : decode cX11_start 1 = .ok (.iload_n 1, 1) := by decide +kernel
theorem dX11_start_2 : decode cX11_start 2 = .ok (.iload_n 2, 1) := by decide +kernel
theorem dX11_start_3 : decode cX11_start 3 = .ok (.invokevirtual 143, 3) := by decide +kernel
theorem dX11_start_6 : decode cX11_start 6 = .ok (.ifCond .eq 11, 3) := by decide +kernel
theorem dX11_start_9 : decode cX11_start 9 = .ok (.iload_n 3, 1) := by decide +kernel
theorem dX11_start_10 : decode cX11_start 10 = .ok (.iconst 2, 1) := by decide +kernel
theorem dX11_start_11 : decode cX11_start 11 = .ok (.invokestatic 123, 3) := by decide +kernel
theorem dX11_start_14 : decode cX11_start 14 = .ok (.ifCond .ne 5, 3) := by decide +kernel
theorem dX11_start_17 : decode cX11_start 17 = .ok (.iconst 0, 1) := by decide +kernel
theorem dX11_start_18 : decode cX11_start 18 = .ok (.ireturn, 1) := by decide +kernel
theorem dX11_start_19 : decode cX11_start 19 = .ok (.aload_n 0, 1) := by decide +kernel
theorem dX11_start_20 : decode cX11_start 20 = .ok (.getfield 52, 3) := by decide +kernel
theorem dX11_start_23 : decode cX11_start 23 = .ok (.aload_n 0, 1) := by decide +kernel
theorem dX11_start_24 : decode cX11_start 24 = .ok (.getfield 34, 3) := by decide +kernel
theorem dX11_start_27 : decode cX11_start 27 = .ok (.iload_n 1, 1) := by decide +kernel
theorem dX11_start_28 : decode cX11_start 28 = .ok (.aaload, 1) := by decide +kernel
theorem dX11_start_29 : decode cX11_start 29 = .ok (.iload_n 2, 1) := by decide +kernel
theorem dX11_start_30 : decode cX11_start 30 = .ok (.iload_n 3, 1) := by decide +kernel
theorem dX11_start_31 : decode cX11_start 31 = .ok (.invokevirtual 176, 3) := by decide +kernel
theorem dX11_start_34 : decode cX11_start 34 = .ok (.aload_n 0, 1) := by decide +kernel
theorem dX11_start_35 : decode cX11_start 35 = .ok (.getfield 52, 3) := by decide +kernel
theorem dX11_start_38 : decode cX11_start 38 = .ok (.lload 4, 2) := by decide +kernel
theorem dX11_start_40 : decode cX11_start 40 = .ok (.invokevirtual 180, 3) := by decide +kernel
theorem dX11_start_43 : decode cX11_start 43 = .ok (.iconst 1, 1) := by decide +kernel
theorem dX11_start_44 : decode cX11_start 44 = .ok (.ireturn, 1) := by decide +kernel
set_option maxRecDepth 100000 in
set_option maxHeartbeats 4000000 in
theorem tz_X11_start (l : Launch) (X : qX) {p0 : Int32} {p1 : Int32} {p2 : Int32} {p3 : Int64} {M MR : qM} {r0 : Bool} (hf : jTc_start p0 p1 p2 p3 M = some (r0, MR)) : q_Met l X yX11_start cX11_start 6 (some .boolean) (4) M [.ref (X.1 0), .int p0, .int p1, .int p2, .long p3] (q_Qi X (b2i r0) MR) := by
  refine q_enter (by decide) (Nat.le_of_ble_eq_true rfl) ?_
  intro p e s m args below meth c hE hrt hlk H locs hH ls hl
  have hx := hE.1
  have hb := hE.2.1
  have hl : lv_has ls 6 [(0, .ref (X.1 0)), (1, .int p0), (2, .int p1), (3, .int p2), (4, .long p3)] := hl
  unfold jTc_start at hf
  refine lv_aload_n hx hb dX11_start_0 rfl (lv_at hl 0 rfl) ?_
  refine lv_iload_n hx hb dX11_start_1 rfl (lv_at hl 1 rfl) ?_
  refine lv_iload_n hx hb dX11_start_2 rfl (lv_at hl 2 rfl) ?_
  obtain ⟨r1, er1, hf⟩ := st_bd hf
  refine q_calli (q_runV (As := [.int p0, .int p1]) (rest := []) hE hH (tz_X11_isThing l X (hf := er1)) kv_X11_143 qk_0 (by decide) rfl hl.1 rfl (Nat.le_of_ble_eq_true rfl) dX11_start_3) hH (fun H locs hH => ?_)
  refine lv_if_eq (tgt := 17) hx hb dX11_start_6 (by decide) (fun hc => ?_) (fun hc => ?_)
  · replace hf := (if_pos hc).symm.trans hf
    refine lv_iconst (v := 0) hx hb dX11_start_17 (by decide) ?_
    replace hf := Option.some.inj hf
    obtain ⟨rfl, rfl⟩ := qi2 hf
    exact pz_retz hE hrt hlk hH rfl dX11_start_18
  · replace hf := (if_neg hc).symm.trans hf
    refine lv_iload_n hx hb dX11_start_9 rfl (lv_at hl 3 rfl) ?_
    refine lv_iconst (v := 2) hx hb dX11_start_10 (by decide) ?_
    refine q_calli (q_runS (As := [.int p2, .int 2]) (rest := []) hE hH (tz_X11_isOf l X (M := M) (hf := rfl)) ks_X11_123 (by decide) rfl hl.1 rfl (Nat.le_of_ble_eq_true rfl) dX11_start_11) hH (fun H locs hH => ?_)
    refine lv_if_ne (tgt := 19) hx hb dX11_start_14 (by decide) (fun hc => ?_) (fun hc => ?_)
    · replace hf := (if_neg hc).symm.trans hf
      refine lv_aload_n hx hb dX11_start_19 rfl (lv_at hl 0 rfl) ?_
      refine pz_gS (a := 33) hE hH fr_X11_52 qk_0 (by decide) dX11_start_20 ?_
      refine lv_aload_n hx hb dX11_start_23 rfl (lv_at hl 0 rfl) ?_
      refine pz_gS (a := 5) hE hH fr_X11_34 qk_0 (by decide) dX11_start_24 ?_
      refine lv_iload_n hx hb dX11_start_27 rfl (lv_at hl 1 rfl) ?_
      obtain ⟨t2, et2, hf⟩ := st_bd hf
      refine pz_aldV hE hH qk_5 et2 dX11_start_28 (fun ht2 => ?_)
      refine lv_iload_n hx hb dX11_start_29 rfl (lv_at hl 2 rfl) ?_
      refine lv_iload_n hx hb dX11_start_30 rfl (lv_at hl 3 rfl) ?_
      obtain ⟨M3, eM3, hf⟩ := st_bd hf
      refine q_callv (q_runV (As := [.ref (X.1 (71 + 4 * t2)), .int p1, .int p2]) (rest := []) hE hH (tz_X1_beOf l X (by decide) ht2 (hf := eM3)) kv_X11_176 qk_33 (by decide) rfl hl.1 rfl (Nat.le_of_ble_eq_true rfl) dX11_start_31) hH (fun H locs hH => ?_)
      refine lv_aload_n hx hb dX11_start_34 rfl (lv_at hl 0 rfl) ?_
      refine pz_gS (a := 33) hE hH fr_X11_52 qk_0 (by decide) dX11_start_35 ?_
      refine lv_lload hx hb dX11_start_38 (lv_at hl 4 rfl) ?_
      obtain ⟨M4, eM4, hf⟩ := st_bd hf
      refine q_callv (q_runV (As := [.long p3]) (rest := []) hE hH (tz_X1_begin l X (by decide) (hf := eM4)) kv_X11_180 qk_33 (by decide) rfl hl.1 rfl (Nat.le_of_ble_eq_true rfl) dX11_start_40) hH (fun H locs hH => ?_)
      refine lv_iconst (v := 1) hx hb dX11_start_43 (by decide) ?_
      replace hf := Option.some.inj hf
      obtain ⟨rfl, rfl⟩ := qi2 hf
      exact pz_retz hE hrt hlk hH rfl dX11_start_44
    · replace hf := (if_pos hc).symm.trans hf
      refine lv_iconst (v := 0) hx hb dX11_start_17 (by decide) ?_
      replace hf := Option.some.inj hf
      obtain ⟨rfl, rfl⟩ := qi2 hf
      exact pz_retz hE hrt hlk hH rfl dX11_start_18

theorem dX11_minutes_0 : decode cX11_minutes 0 = .ok (.aload_n 0, 1) := by decide +kernel
theorem dX11_minutes_1 : decode cX11_minutes 1 = .ok (.getfield 52, 3) := by decide +kernel
theorem dX11_minutes_4 : decode cX11_minutes 4 = .ok (.invokevirtual 166, 3) := by decide +kernel
theorem dX11_minutes_7 : decode cX11_minutes 7 = .ok (.ifCond .eq 14, 3) := by decide +kernel
theorem dX11_minutes_10 : decode cX11_minutes 10 = .ok (.iload_n 1, 1) := by decide +kernel
theorem dX11_minutes_11 : decode cX11_minutes 11 = .ok (.iconst 1, 1) := by decide +kernel
theorem dX11_minutes_12 : decode cX11_minutes 12 = .ok (.if_icmp .lt 9, 3) := by decide +kernel
theorem dX11_minutes_15 : decode cX11_minutes 15 = .ok (.iload_n 1, 1) := by decide +kernel
theorem dX11_minutes_16 : decode cX11_minutes 16 = .ok (.bipush 61, 2) := by decide +kernel
theorem dX11_minutes_18 : decode cX11_minutes 18 = .ok (.if_icmp .le 5, 3) := by decide +kernel
theorem dX11_minutes_21 : decode cX11_minutes 21 = .ok (.iconst (-1), 1) := by decide +kernel
theorem dX11_minutes_22 : decode cX11_minutes 22 = .ok (.ireturn, 1) := by decide +kernel
theorem dX11_minutes_23 : decode cX11_minutes 23 = .ok (.aload_n 0, 1) := by decide +kernel
theorem dX11_minutes_24 : decode cX11_minutes 24 = .ok (.getfield 52, 3) := by decide +kernel
theorem dX11_minutes_27 : decode cX11_minutes 27 = .ok (.iload_n 1, 1) := by decide +kernel
theorem dX11_minutes_28 : decode cX11_minutes 28 = .ok (.aload_n 0, 1) := by decide +kernel
theorem dX11_minutes_29 : decode cX11_minutes 29 = .ok (.getfield 45, 3) := by decide +kernel
theorem dX11_minutes_32 : decode cX11_minutes 32 = .ok (.invokevirtual 184, 3) := by decide +kernel
theorem dX11_minutes_35 : decode cX11_minutes 35 = .ok (.ireturn, 1) := by decide +kernel
set_option maxRecDepth 100000 in
set_option maxHeartbeats 4000000 in
theorem tz_X11_minutes (l : Launch) (X : qX) {p0 : Int32} {M MR : qM} {r0 : Int32} (hf : jTc_minutes p0 M = some (r0, MR)) : q_Met l X yX11_minutes cX11_minutes 2 (some .int) (6) M [.ref (X.1 0), .int p0] (q_Qi X r0 MR) := by
  refine q_enter (by decide) (Nat.le_of_ble_eq_true rfl) ?_
  intro p e s m args below meth c hE hrt hlk H locs hH ls hl
  have hx := hE.1
  have hb := hE.2.1
  have hl : lv_has ls 2 [(0, .ref (X.1 0)), (1, .int p0)] := hl
  unfold jTc_minutes at hf
  refine lv_aload_n hx hb dX11_minutes_0 rfl (lv_at hl 0 rfl) ?_
  refine pz_gS (a := 33) hE hH fr_X11_52 qk_0 (by decide) dX11_minutes_1 ?_
  refine q_calli (q_runV (As := []) (rest := []) hE hH (tz_X1_began l X (by decide) (hf := rfl)) kv_X11_166 qk_33 (by decide) rfl hl.1 rfl (Nat.le_of_ble_eq_true rfl) dX11_minutes_4) hH (fun H locs hH => ?_)
  refine lv_if_eq (tgt := 21) hx hb dX11_minutes_7 (by decide) (fun hc => ?_) (fun hc => ?_)
  · replace hf := (if_pos hc).symm.trans hf
    refine lv_iconst (v := (-1)) hx hb dX11_minutes_21 (by decide) ?_
    replace hf := Option.some.inj hf
    obtain ⟨rfl, rfl⟩ := qi2 hf
    exact pz_reti hE hrt hlk hH dX11_minutes_22
  · replace hf := (if_neg hc).symm.trans hf
    refine lv_iload_n hx hb dX11_minutes_10 rfl (lv_at hl 1 rfl) ?_
    refine lv_iconst (v := 1) hx hb dX11_minutes_11 (by decide) ?_
    refine lv_icmp_lt (tgt := 21) hx hb dX11_minutes_12 (by decide) (fun hc => ?_) (fun hc => ?_)
    · replace hf := (if_pos hc).symm.trans hf
      refine lv_iconst (v := (-1)) hx hb dX11_minutes_21 (by decide) ?_
      replace hf := Option.some.inj hf
      obtain ⟨rfl, rfl⟩ := qi2 hf
      exact pz_reti hE hrt hlk hH dX11_minutes_22
    · replace hf := (if_neg hc).symm.trans hf
      refine lv_iload_n hx hb dX11_minutes_15 rfl (lv_at hl 1 rfl) ?_
      refine lv_bipush (v := 61) hx hb dX11_minutes_16 (by decide) ?_
      refine lv_icmp_le (tgt := 23) hx hb dX11_minutes_18 (by decide) (fun hc => ?_) (fun hc => ?_)
      · replace hf := (if_pos hc).symm.trans hf
        refine lv_aload_n hx hb dX11_minutes_23 rfl (lv_at hl 0 rfl) ?_
        refine pz_gS (a := 33) hE hH fr_X11_52 qk_0 (by decide) dX11_minutes_24 ?_
        refine lv_iload_n hx hb dX11_minutes_27 rfl (lv_at hl 1 rfl) ?_
        refine lv_aload_n hx hb dX11_minutes_28 rfl (lv_at hl 0 rfl) ?_
        refine pz_gS (a := 6) hE hH fr_X11_45 qk_0 (by decide) dX11_minutes_29 ?_
        obtain ⟨w1, ew1, hf⟩ := st_bd hf
        obtain ⟨r2, M3⟩ := w1
        replace hf := st_u2 hf
        refine q_calli (q_runV (As := [.int p0, .ref (X.1 6)]) (rest := []) hE hH (tz_X1_pass l X (by decide) (hf := ew1)) kv_X11_184 qk_33 (by decide) rfl hl.1 rfl (Nat.le_of_ble_eq_true rfl) dX11_minutes_32) hH (fun H locs hH => ?_)
        replace hf := Option.some.inj hf
        obtain ⟨rfl, rfl⟩ := qi2 hf
        exact pz_reti hE hrt hlk hH dX11_minutes_35
      · replace hf := (if_neg hc).symm.trans hf
        refine lv_iconst (v := (-1)) hx hb dX11_minutes_21 (by decide) ?_
        replace hf := Option.some.inj hf
        obtain ⟨rfl, rfl⟩ := qi2 hf
        exact pz_reti hE hrt hlk hH dX11_minutes_22

theorem dX11_isPerson_0 : decode cX11_isPerson 0 = .ok (.aload_n 0, 1) := by decide +kernel
theorem dX11_isPerson_1 : decode cX11_isPerson 1 = .ok (.getfield 52, 3) := by decide +kernel
theorem dX11_isPerson_4 : decode cX11_isPerson 4 = .ok (.invokevirtual 166, 3) := by decide +kernel
theorem dX11_isPerson_7 : decode cX11_isPerson 7 = .ok (.ifCond .eq 24, 3) := by decide +kernel
theorem dX11_isPerson_10 : decode cX11_isPerson 10 = .ok (.iload_n 1, 1) := by decide +kernel
theorem dX11_isPerson_11 : decode cX11_isPerson 11 = .ok (.aload_n 0, 1) := by decide +kernel
theorem dX11_isPerson_12 : decode cX11_isPerson 12 = .ok (.getfield 52, 3) := by decide +kernel
theorem dX11_isPerson_15 : decode cX11_isPerson 15 = .ok (.getfield 169, 3) := by decide +kernel
theorem dX11_isPerson_18 : decode cX11_isPerson 18 = .ok (.getfield 140, 3) := by decide +kernel
theorem dX11_isPerson_21 : decode cX11_isPerson 21 = .ok (.invokestatic 123, 3) := by decide +kernel
theorem dX11_isPerson_24 : decode cX11_isPerson 24 = .ok (.ifCond .eq 7, 3) := by decide +kernel
theorem dX11_isPerson_27 : decode cX11_isPerson 27 = .ok (.iconst 1, 1) := by decide +kernel
theorem dX11_isPerson_28 : decode cX11_isPerson 28 = .ok (.goto 4, 3) := by decide +kernel
theorem dX11_isPerson_31 : decode cX11_isPerson 31 = .ok (.iconst 0, 1) := by decide +kernel
theorem dX11_isPerson_32 : decode cX11_isPerson 32 = .ok (.ireturn, 1) := by decide +kernel
set_option maxRecDepth 100000 in
set_option maxHeartbeats 4000000 in
theorem tz_X11_isPerson (l : Launch) (X : qX) {p0 : Int32} {M : qM} {r0 : Bool} (hf : jTc_isPerson p0 M = some r0) : q_Met l X yX11_isPerson cX11_isPerson 2 (some .boolean) (2) M [.ref (X.1 0), .int p0] (q_Qi X (b2i r0) M) := by
  refine q_enter (by decide) (Nat.le_of_ble_eq_true rfl) ?_
  intro p e s m args below meth c hE hrt hlk H locs hH ls hl
  have hx := hE.1
  have hb := hE.2.1
  have hl : lv_has ls 2 [(0, .ref (X.1 0)), (1, .int p0)] := hl
  unfold jTc_isPerson at hf
  refine lv_aload_n hx hb dX11_isPerson_0 rfl (lv_at hl 0 rfl) ?_
  refine pz_gS (a := 33) hE hH fr_X11_52 qk_0 (by decide) dX11_isPerson_1 ?_
  refine q_calli (q_runV (As := []) (rest := []) hE hH (tz_X1_began l X (by decide) (hf := rfl)) kv_X11_166 qk_33 (by decide) rfl hl.1 rfl (Nat.le_of_ble_eq_true rfl) dX11_isPerson_4) hH (fun H locs hH => ?_)
  obtain ⟨z1, hr, hf⟩ := st_bd hf
  have hJ : ∀ (ls : Array Slot) (H : Heap) (locs : List Loc), q_H X M s H locs → lv_has ls 2 [] → W p l e (q_rm (2)) s m args below meth c H locs 0 0 (MQ below (q_Qi X (b2i r0) M) args s 0 0 (q_A X)) (F0 m 32 ls [.int (b2i z1)]) := by
    intro ls H locs hH hl
    replace hf := Option.some.inj hf
    subst hf
    exact pz_retz hE hrt hlk hH rfl dX11_isPerson_32
  clear hf
  replace hf := hr
  refine lv_if_eq (tgt := 31) hx hb dX11_isPerson_7 (by decide) (fun hc => ?_) (fun hc => ?_)
  · replace hf := (if_pos hc).symm.trans hf
    refine lv_iconst (v := 0) hx hb dX11_isPerson_31 (by decide) ?_
    replace hf := Option.some.inj hf
    subst hf
    exact hJ ls H locs hH (lv_sub hl [] rfl)
  · replace hf := (if_neg hc).symm.trans hf
    refine lv_iload_n hx hb dX11_isPerson_10 rfl (lv_at hl 1 rfl) ?_
    refine lv_aload_n hx hb dX11_isPerson_11 rfl (lv_at hl 0 rfl) ?_
    refine pz_gS (a := 33) hE hH fr_X11_52 qk_0 (by decide) dX11_isPerson_12 ?_
    obtain ⟨a2, ea2, hf⟩ := st_bd hf
    refine pz_gR hE hH fr_X11_169 qk_33 ea2 dX11_isPerson_15 (fun ha2 => ?_)
    replace ha2 : q_vil a2 = true := ha2
    refine pz_gI hE hH fr_X11_140 (q_vil_0 ha2) dX11_isPerson_18 ?_
    refine q_calli (q_runS (As := [.int p0, .int (M.1 a2 2)]) (rest := []) hE hH (tz_X11_isOf l X (M := M) (hf := rfl)) ks_X11_123 (by decide) rfl hl.1 rfl (Nat.le_of_ble_eq_true rfl) dX11_isPerson_21) hH (fun H locs hH => ?_)
    refine lv_if_eq (tgt := 31) hx hb dX11_isPerson_24 (by decide) (fun hc => ?_) (fun hc => ?_)
    · replace hf := (if_pos hc).symm.trans hf
      refine lv_iconst (v := 0) hx hb dX11_isPerson_31 (by decide) ?_
      replace hf := Option.some.inj hf
      subst hf
      exact hJ ls H locs hH (lv_sub hl [] rfl)
    · replace hf := (if_neg hc).symm.trans hf
      refine lv_iconst (v := 1) hx hb dX11_isPerson_27 (by decide) ?_
      refine lv_goto (tgt := 32) hx hb dX11_isPerson_28 (by decide) ?_
      replace hf := Option.some.inj hf
      subst hf
      exact hJ ls H locs hH (lv_sub hl [] rfl)

theorem dX11_who_0 : decode cX11_who 0 = .ok (.aload_n 0, 1) := by decide +kernel
theorem dX11_who_1 : decode cX11_who 1 = .ok (.iload_n 1, 1) := by decide +kernel
theorem dX11_who_2 : decode cX11_who 2 = .ok (.invokevirtual 188, 3) := by decide +kernel
theorem dX11_who_5 : decode cX11_who 5 = .ok (.ifCond .ne 6, 3) := by decide +kernel
theorem dX11_who_8 : decode cX11_who 8 = .ok (.ldc 175, 2) := by decide +kernel
theorem dX11_who_10 : decode cX11_who 10 = .ok (.ireturn, 1) := by decide +kernel
theorem dX11_who_11 : decode cX11_who 11 = .ok (.iload_n 2, 1) := by decide +kernel
theorem dX11_who_12 : decode cX11_who 12 = .ok (.tableswitch 104 0 5 #[40, 49, 59, 68, 78, 95], 40) := by decide +kernel
theorem dX11_who_52 : decode cX11_who 52 = .ok (.aload_n 0, 1) := by decide +kernel
theorem dX11_who_53 : decode cX11_who 53 = .ok (.getfield 52, 3) := by decide +kernel
theorem dX11_who_56 : decode cX11_who 56 = .ok (.iload_n 1, 1) := by decide +kernel
theorem dX11_who_57 : decode cX11_who 57 = .ok (.invokevirtual 191, 3) := by decide +kernel
theorem dX11_who_60 : decode cX11_who 60 = .ok (.ireturn, 1) := by decide +kernel
theorem dX11_who_61 : decode cX11_who 61 = .ok (.aload_n 0, 1) := by decide +kernel
theorem dX11_who_62 : decode cX11_who 62 = .ok (.getfield 52, 3) := by decide +kernel
theorem dX11_who_65 : decode cX11_who 65 = .ok (.getfield 194, 3) := by decide +kernel
theorem dX11_who_68 : decode cX11_who 68 = .ok (.iload_n 1, 1) := by decide +kernel
theorem dX11_who_69 : decode cX11_who 69 = .ok (.iaload, 1) := by decide +kernel
theorem dX11_who_70 : decode cX11_who 70 = .ok (.ireturn, 1) := by decide +kernel
theorem dX11_who_71 : decode cX11_who 71 = .ok (.aload_n 0, 1) := by decide +kernel
theorem dX11_who_72 : decode cX11_who 72 = .ok (.getfield 52, 3) := by decide +kernel
theorem dX11_who_75 : decode cX11_who 75 = .ok (.iload_n 1, 1) := by decide +kernel
theorem dX11_who_76 : decode cX11_who 76 = .ok (.invokevirtual 197, 3) := by decide +kernel
theorem dX11_who_79 : decode cX11_who 79 = .ok (.ireturn, 1) := by decide +kernel
theorem dX11_who_80 : decode cX11_who 80 = .ok (.aload_n 0, 1) := by decide +kernel
theorem dX11_who_81 : decode cX11_who 81 = .ok (.getfield 52, 3) := by decide +kernel
theorem dX11_who_84 : decode cX11_who 84 = .ok (.getfield 200, 3) := by decide +kernel
theorem dX11_who_87 : decode cX11_who 87 = .ok (.iload_n 1, 1) := by decide +kernel
theorem dX11_who_88 : decode cX11_who 88 = .ok (.iaload, 1) := by decide +kernel
theorem dX11_who_89 : decode cX11_who 89 = .ok (.ireturn, 1) := by decide +kernel
theorem dX11_who_90 : decode cX11_who 90 = .ok (.aload_n 0, 1) := by decide +kernel
theorem dX11_who_91 : decode cX11_who 91 = .ok (.getfield 52, 3) := by decide +kernel
theorem dX11_who_94 : decode cX11_who 94 = .ok (.iload_n 1, 1) := by decide +kernel
theorem dX11_who_95 : decode cX11_who 95 = .ok (.invokevirtual 203, 3) := by decide +kernel
theorem dX11_who_98 : decode cX11_who 98 = .ok (.ifCond .eq 7, 3) := by decide +kernel
theorem dX11_who_101 : decode cX11_who 101 = .ok (.iconst 1, 1) := by decide +kernel
theorem dX11_who_102 : decode cX11_who 102 = .ok (.goto 4, 3) := by decide +kernel
theorem dX11_who_105 : decode cX11_who 105 = .ok (.iconst 0, 1) := by decide +kernel
theorem dX11_who_106 : decode cX11_who 106 = .ok (.ireturn, 1) := by decide +kernel
theorem dX11_who_107 : decode cX11_who 107 = .ok (.aload_n 0, 1) := by decide +kernel
theorem dX11_who_108 : decode cX11_who 108 = .ok (.getfield 52, 3) := by decide +kernel
theorem dX11_who_111 : decode cX11_who 111 = .ok (.iload_n 1, 1) := by decide +kernel
theorem dX11_who_112 : decode cX11_who 112 = .ok (.invokevirtual 206, 3) := by decide +kernel
theorem dX11_who_115 : decode cX11_who 115 = .ok (.ireturn, 1) := by decide +kernel
theorem dX11_who_116 : decode cX11_who 116 = .ok (.ldc 175, 2) := by decide +kernel
theorem dX11_who_118 : decode cX11_who 118 = .ok (.ireturn, 1) := by decide +kernel
set_option maxRecDepth 100000 in
set_option maxHeartbeats 4000000 in
theorem tz_X11_who (l : Launch) (X : qX) {p0 : Int32} {p1 : Int32} {M : qM} {r0 : Int32} (hf : jTc_who p0 p1 M = some r0) : q_Met l X yX11_who cX11_who 3 (some .int) (5) M [.ref (X.1 0), .int p0, .int p1] (q_Qi X r0 M) := by
  refine q_enter (by decide) (Nat.le_of_ble_eq_true rfl) ?_
  intro p e s m args below meth c hE hrt hlk H locs hH ls hl
  have hx := hE.1
  have hb := hE.2.1
  have hl : lv_has ls 3 [(0, .ref (X.1 0)), (1, .int p0), (2, .int p1)] := hl
  unfold jTc_who at hf
  refine lv_aload_n hx hb dX11_who_0 rfl (lv_at hl 0 rfl) ?_
  refine lv_iload_n hx hb dX11_who_1 rfl (lv_at hl 1 rfl) ?_
  obtain ⟨r1, er1, hf⟩ := st_bd hf
  refine q_calli (q_runV (As := [.int p0]) (rest := []) hE hH (tz_X11_isPerson l X (hf := er1)) kv_X11_188 qk_0 (by decide) rfl hl.1 rfl (Nat.le_of_ble_eq_true rfl) dX11_who_2) hH (fun H locs hH => ?_)
  refine lv_if_ne (tgt := 11) hx hb dX11_who_5 (by decide) (fun hc => ?_) (fun hc => ?_)
  · replace hf := (if_neg hc).symm.trans hf
    refine lv_iload_n hx hb dX11_who_11 rfl (lv_at hl 2 rfl) ?_
    by_cases hc0 : (p1 : Int32) = 0
    · replace hf := (if_pos hc0).symm.trans hf
      refine lv_tableIn (off := 40) (tgt := 52) hx hb dX11_who_12 (by rw [hc0]; decide) (by rw [hc0]; decide) (by rw [hc0]; decide) (by decide) ?_
      refine lv_aload_n hx hb dX11_who_52 rfl (lv_at hl 0 rfl) ?_
      refine pz_gS (a := 33) hE hH fr_X11_52 qk_0 (by decide) dX11_who_53 ?_
      refine lv_iload_n hx hb dX11_who_56 rfl (lv_at hl 1 rfl) ?_
      obtain ⟨r2, er2, hf⟩ := st_bd hf
      refine q_calli (q_runV (As := [.int p0]) (rest := []) hE hH (tz_X1_stateOf l X (by decide) (hf := er2)) kv_X11_191 qk_33 (by decide) rfl hl.1 rfl (Nat.le_of_ble_eq_true rfl) dX11_who_57) hH (fun H locs hH => ?_)
      replace hf := Option.some.inj hf
      subst hf
      exact pz_reti hE hrt hlk hH dX11_who_60
    · replace hf := (if_neg hc0).symm.trans hf
      by_cases hc1 : (p1 : Int32) = 1
      · replace hf := (if_pos hc1).symm.trans hf
        refine lv_tableIn (off := 49) (tgt := 61) hx hb dX11_who_12 (by rw [hc1]; decide) (by rw [hc1]; decide) (by rw [hc1]; decide) (by decide) ?_
        refine lv_aload_n hx hb dX11_who_61 rfl (lv_at hl 0 rfl) ?_
        refine pz_gS (a := 33) hE hH fr_X11_52 qk_0 (by decide) dX11_who_62 ?_
        refine pz_gS (a := 34) hE hH fr_X11_194 qk_33 (by decide) dX11_who_65 ?_
        refine lv_iload_n hx hb dX11_who_68 rfl (lv_at hl 1 rfl) ?_
        obtain ⟨v3, ev3, hf⟩ := st_bd hf
        refine pz_iald hE hH qk_34 ev3 dX11_who_69 ?_
        replace hf := Option.some.inj hf
        subst hf
        exact pz_reti hE hrt hlk hH dX11_who_70
      · replace hf := (if_neg hc1).symm.trans hf
        by_cases hc2 : (p1 : Int32) = 2
        · replace hf := (if_pos hc2).symm.trans hf
          refine lv_tableIn (off := 59) (tgt := 71) hx hb dX11_who_12 (by rw [hc2]; decide) (by rw [hc2]; decide) (by rw [hc2]; decide) (by decide) ?_
          refine lv_aload_n hx hb dX11_who_71 rfl (lv_at hl 0 rfl) ?_
          refine pz_gS (a := 33) hE hH fr_X11_52 qk_0 (by decide) dX11_who_72 ?_
          refine lv_iload_n hx hb dX11_who_75 rfl (lv_at hl 1 rfl) ?_
          obtain ⟨r4, er4, hf⟩ := st_bd hf
          refine q_calli (q_runV (As := [.int p0]) (rest := []) hE hH (tz_X1_minuteOf l X (by decide) (hf := er4)) kv_X11_197 qk_33 (by decide) rfl hl.1 rfl (Nat.le_of_ble_eq_true rfl) dX11_who_76) hH (fun H locs hH => ?_)
          replace hf := Option.some.inj hf
          subst hf
          exact pz_reti hE hrt hlk hH dX11_who_79
        · replace hf := (if_neg hc2).symm.trans hf
          by_cases hc3 : (p1 : Int32) = 3
          · replace hf := (if_pos hc3).symm.trans hf
            refine lv_tableIn (off := 68) (tgt := 80) hx hb dX11_who_12 (by rw [hc3]; decide) (by rw [hc3]; decide) (by rw [hc3]; decide) (by decide) ?_
            refine lv_aload_n hx hb dX11_who_80 rfl (lv_at hl 0 rfl) ?_
            refine pz_gS (a := 33) hE hH fr_X11_52 qk_0 (by decide) dX11_who_81 ?_
            refine pz_gS (a := 35) hE hH fr_X11_200 qk_33 (by decide) dX11_who_84 ?_
            refine lv_iload_n hx hb dX11_who_87 rfl (lv_at hl 1 rfl) ?_
            obtain ⟨v5, ev5, hf⟩ := st_bd hf
            refine pz_iald hE hH qk_35 ev5 dX11_who_88 ?_
            replace hf := Option.some.inj hf
            subst hf
            exact pz_reti hE hrt hlk hH dX11_who_89
          · replace hf := (if_neg hc3).symm.trans hf
            by_cases hc4 : (p1 : Int32) = 4
            · replace hf := (if_pos hc4).symm.trans hf
              refine lv_tableIn (off := 78) (tgt := 90) hx hb dX11_who_12 (by rw [hc4]; decide) (by rw [hc4]; decide) (by rw [hc4]; decide) (by decide) ?_
              refine lv_aload_n hx hb dX11_who_90 rfl (lv_at hl 0 rfl) ?_
              refine pz_gS (a := 33) hE hH fr_X11_52 qk_0 (by decide) dX11_who_91 ?_
              refine lv_iload_n hx hb dX11_who_94 rfl (lv_at hl 1 rfl) ?_
              obtain ⟨r6, er6, hf⟩ := st_bd hf
              refine q_calli (q_runV (As := [.int p0]) (rest := []) hE hH (tz_X1_has l X (by decide) (hf := er6)) kv_X11_203 qk_33 (by decide) rfl hl.1 rfl (Nat.le_of_ble_eq_true rfl) dX11_who_95) hH (fun H locs hH => ?_)
              obtain ⟨z7, hr, hf⟩ := st_ltx hf
              have hJ : ∀ (ls : Array Slot) (H : Heap) (locs : List Loc), q_H X M s H locs → lv_has ls 3 [] → W p l e (q_rm (5)) s m args below meth c H locs 0 0 (MQ below (q_Qi X r0 M) args s 0 0 (q_A X)) (F0 m 106 ls [.int (b2i z7)]) := by
                intro ls H locs hH hl
                replace hf := Option.some.inj hf
                subst hf
                exact pz_reti hE hrt hlk hH dX11_who_106
              clear hf
              replace hf := hr
              refine lv_if_eq (tgt := 105) hx hb dX11_who_98 (by decide) (fun hc => ?_) (fun hc => ?_)
              · replace hf := (if_pos hc).symm.trans hf
                refine lv_iconst (v := 0) hx hb dX11_who_105 (by decide) ?_
                subst hf
                exact hJ ls H locs hH (lv_sub hl [] rfl)
              · replace hf := (if_neg hc).symm.trans hf
                refine lv_iconst (v := 1) hx hb dX11_who_101 (by decide) ?_
                refine lv_goto (tgt := 106) hx hb dX11_who_102 (by decide) ?_
                subst hf
                exact hJ ls H locs hH (lv_sub hl [] rfl)
            · replace hf := (if_neg hc4).symm.trans hf
              by_cases hc5 : (p1 : Int32) = 5
              · replace hf := (if_pos hc5).symm.trans hf
                refine lv_tableIn (off := 95) (tgt := 107) hx hb dX11_who_12 (by rw [hc5]; decide) (by rw [hc5]; decide) (by rw [hc5]; decide) (by decide) ?_
                refine lv_aload_n hx hb dX11_who_107 rfl (lv_at hl 0 rfl) ?_
                refine pz_gS (a := 33) hE hH fr_X11_52 qk_0 (by decide) dX11_who_108 ?_
                refine lv_iload_n hx hb dX11_who_111 rfl (lv_at hl 1 rfl) ?_
                obtain ⟨r8, er8, hf⟩ := st_bd hf
                refine q_calli (q_runV (As := [.int p0]) (rest := []) hE hH (tz_X1_gainOf l X (by decide) (hf := er8)) kv_X11_206 qk_33 (by decide) rfl hl.1 rfl (Nat.le_of_ble_eq_true rfl) dX11_who_112) hH (fun H locs hH => ?_)
                replace hf := Option.some.inj hf
                subst hf
                exact pz_reti hE hrt hlk hH dX11_who_115
              · replace hf := (if_neg hc5).symm.trans hf
                refine lv_tableOut (tgt := 116) hx hb dX11_who_12 (by have := lv_neT hc0 (a := 0) (by decide); have := lv_neT hc1 (a := 1) (by decide); have := lv_neT hc2 (a := 2) (by decide); have := lv_neT hc3 (a := 3) (by decide); have := lv_neT hc4 (a := 4) (by decide); have := lv_neT hc5 (a := 5) (by decide); omega) (by decide) ?_
                refine pz_ldc (v := (-1000000)) hE (q_in _ 768 (by decide +kernel) rfl) dX11_who_116 ?_
                replace hf := Option.some.inj hf
                subst hf
                exact pz_reti hE hrt hlk hH dX11_who_118
  · replace hf := (if_pos hc).symm.trans hf
    refine pz_ldc (v := (-1000000)) hE (q_in _ 768 (by decide +kernel) rfl) dX11_who_8 ?_
    replace hf := Option.some.inj hf
    subst hf
    exact pz_reti hE hrt hlk hH dX11_who_10

theorem dX11_about_0 : decode cX11_about 0 = .ok (.aload_n 0, 1) := by decide +kernel
theorem dX11_about_1 : decode cX11_about 1 = .ok (.getfield 52, 3) := by decide +kernel
theorem dX11_about_4 : decode cX11_about 4 = .ok (.invokevirtual 166, 3) := by decide +kernel
theorem dX11_about_7 : decode cX11_about 7 = .ok (.ifCond .ne 6, 3) := by decide +kernel
theorem dX11_about_10 : decode cX11_about 10 = .ok (.ldc 175, 2) := by decide +kernel
theorem dX11_about_12 : decode cX11_about 12 = .ok (.ireturn, 1) := by decide +kernel
theorem dX11_about_13 : decode cX11_about 13 = .ok (.iload_n 1, 1) := by decide +kernel
theorem dX11_about_14 : decode cX11_about 14 = .ok (.tableswitch 118 0 7 #[46, 54, 62, 70, 78, 86, 102, 110], 46) := by decide +kernel
theorem dX11_about_60 : decode cX11_about 60 = .ok (.aload_n 0, 1) := by decide +kernel
theorem dX11_about_61 : decode cX11_about 61 = .ok (.getfield 52, 3) := by decide +kernel
theorem dX11_about_64 : decode cX11_about 64 = .ok (.getfield 209, 3) := by decide +kernel
theorem dX11_about_67 : decode cX11_about 67 = .ok (.ireturn, 1) := by decide +kernel
theorem dX11_about_68 : decode cX11_about 68 = .ok (.aload_n 0, 1) := by decide +kernel
theorem dX11_about_69 : decode cX11_about 69 = .ok (.getfield 52, 3) := by decide +kernel
theorem dX11_about_72 : decode cX11_about 72 = .ok (.getfield 212, 3) := by decide +kernel
theorem dX11_about_75 : decode cX11_about 75 = .ok (.ireturn, 1) := by decide +kernel
theorem dX11_about_76 : decode cX11_about 76 = .ok (.aload_n 0, 1) := by decide +kernel
theorem dX11_about_77 : decode cX11_about 77 = .ok (.getfield 52, 3) := by decide +kernel
theorem dX11_about_80 : decode cX11_about 80 = .ok (.getfield 215, 3) := by decide +kernel
theorem dX11_about_83 : decode cX11_about 83 = .ok (.ireturn, 1) := by decide +kernel
theorem dX11_about_84 : decode cX11_about 84 = .ok (.aload_n 0, 1) := by decide +kernel
theorem dX11_about_85 : decode cX11_about 85 = .ok (.getfield 52, 3) := by decide +kernel
theorem dX11_about_88 : decode cX11_about 88 = .ok (.invokevirtual 218, 3) := by decide +kernel
theorem dX11_about_91 : decode cX11_about 91 = .ok (.ireturn, 1) := by decide +kernel
theorem dX11_about_92 : decode cX11_about 92 = .ok (.aload_n 0, 1) := by decide +kernel
theorem dX11_about_93 : decode cX11_about 93 = .ok (.getfield 52, 3) := by decide +kernel
theorem dX11_about_96 : decode cX11_about 96 = .ok (.getfield 222, 3) := by decide +kernel
theorem dX11_about_99 : decode cX11_about 99 = .ok (.ireturn, 1) := by decide +kernel
theorem dX11_about_100 : decode cX11_about 100 = .ok (.aload_n 0, 1) := by decide +kernel
theorem dX11_about_101 : decode cX11_about 101 = .ok (.getfield 52, 3) := by decide +kernel
theorem dX11_about_104 : decode cX11_about 104 = .ok (.getfield 225, 3) := by decide +kernel
theorem dX11_about_107 : decode cX11_about 107 = .ok (.ifCond .eq 7, 3) := by decide +kernel
theorem dX11_about_110 : decode cX11_about 110 = .ok (.iconst 1, 1) := by decide +kernel
theorem dX11_about_111 : decode cX11_about 111 = .ok (.goto 4, 3) := by decide +kernel
theorem dX11_about_114 : decode cX11_about 114 = .ok (.iconst 0, 1) := by decide +kernel
theorem dX11_about_115 : decode cX11_about 115 = .ok (.ireturn, 1) := by decide +kernel
theorem dX11_about_116 : decode cX11_about 116 = .ok (.aload_n 0, 1) := by decide +kernel
theorem dX11_about_117 : decode cX11_about 117 = .ok (.getfield 52, 3) := by decide +kernel
theorem dX11_about_120 : decode cX11_about 120 = .ok (.getfield 229, 3) := by decide +kernel
theorem dX11_about_123 : decode cX11_about 123 = .ok (.ireturn, 1) := by decide +kernel
theorem dX11_about_124 : decode cX11_about 124 = .ok (.aload_n 0, 1) := by decide +kernel
theorem dX11_about_125 : decode cX11_about 125 = .ok (.getfield 52, 3) := by decide +kernel
theorem dX11_about_128 : decode cX11_about 128 = .ok (.getfield 232, 3) := by decide +kernel
theorem dX11_about_131 : decode cX11_about 131 = .ok (.ireturn, 1) := by decide +kernel
theorem dX11_about_132 : decode cX11_about 132 = .ok (.ldc 175, 2) := by decide +kernel
theorem dX11_about_134 : decode cX11_about 134 = .ok (.ireturn, 1) := by decide +kernel
set_option maxRecDepth 100000 in
set_option maxHeartbeats 4000000 in
theorem tz_X11_about (l : Launch) (X : qX) {p0 : Int32} {M : qM} {r0 : Int32} (hf : jTc_about p0 M = some r0) : q_Met l X yX11_about cX11_about 2 (some .int) (2) M [.ref (X.1 0), .int p0] (q_Qi X r0 M) := by
  refine q_enter (by decide) (Nat.le_of_ble_eq_true rfl) ?_
  intro p e s m args below meth c hE hrt hlk H locs hH ls hl
  have hx := hE.1
  have hb := hE.2.1
  have hl : lv_has ls 2 [(0, .ref (X.1 0)), (1, .int p0)] := hl
  unfold jTc_about at hf
  refine lv_aload_n hx hb dX11_about_0 rfl (lv_at hl 0 rfl) ?_
  refine pz_gS (a := 33) hE hH fr_X11_52 qk_0 (by decide) dX11_about_1 ?_
  refine q_calli (q_runV (As := []) (rest := []) hE hH (tz_X1_began l X (by decide) (hf := rfl)) kv_X11_166 qk_33 (by decide) rfl hl.1 rfl (Nat.le_of_ble_eq_true rfl) dX11_about_4) hH (fun H locs hH => ?_)
  refine lv_if_ne (tgt := 13) hx hb dX11_about_7 (by decide) (fun hc => ?_) (fun hc => ?_)
  · replace hf := (if_neg hc).symm.trans hf
    refine lv_iload_n hx hb dX11_about_13 rfl (lv_at hl 1 rfl) ?_
    by_cases hc0 : (p0 : Int32) = 0
    · replace hf := (if_pos hc0).symm.trans hf
      refine lv_tableIn (off := 46) (tgt := 60) hx hb dX11_about_14 (by rw [hc0]; decide) (by rw [hc0]; decide) (by rw [hc0]; decide) (by decide) ?_
      refine lv_aload_n hx hb dX11_about_60 rfl (lv_at hl 0 rfl) ?_
      refine pz_gS (a := 33) hE hH fr_X11_52 qk_0 (by decide) dX11_about_61 ?_
      refine pz_gI hE hH fr_X11_209 qk_33 dX11_about_64 ?_
      replace hf := Option.some.inj hf
      subst hf
      exact pz_reti hE hrt hlk hH dX11_about_67
    · replace hf := (if_neg hc0).symm.trans hf
      by_cases hc1 : (p0 : Int32) = 1
      · replace hf := (if_pos hc1).symm.trans hf
        refine lv_tableIn (off := 54) (tgt := 68) hx hb dX11_about_14 (by rw [hc1]; decide) (by rw [hc1]; decide) (by rw [hc1]; decide) (by decide) ?_
        refine lv_aload_n hx hb dX11_about_68 rfl (lv_at hl 0 rfl) ?_
        refine pz_gS (a := 33) hE hH fr_X11_52 qk_0 (by decide) dX11_about_69 ?_
        refine pz_gI hE hH fr_X11_212 qk_33 dX11_about_72 ?_
        replace hf := Option.some.inj hf
        subst hf
        exact pz_reti hE hrt hlk hH dX11_about_75
      · replace hf := (if_neg hc1).symm.trans hf
        by_cases hc2 : (p0 : Int32) = 2
        · replace hf := (if_pos hc2).symm.trans hf
          refine lv_tableIn (off := 62) (tgt := 76) hx hb dX11_about_14 (by rw [hc2]; decide) (by rw [hc2]; decide) (by rw [hc2]; decide) (by decide) ?_
          refine lv_aload_n hx hb dX11_about_76 rfl (lv_at hl 0 rfl) ?_
          refine pz_gS (a := 33) hE hH fr_X11_52 qk_0 (by decide) dX11_about_77 ?_
          refine pz_gI hE hH fr_X11_215 qk_33 dX11_about_80 ?_
          replace hf := Option.some.inj hf
          subst hf
          exact pz_reti hE hrt hlk hH dX11_about_83
        · replace hf := (if_neg hc2).symm.trans hf
          by_cases hc3 : (p0 : Int32) = 3
          · replace hf := (if_pos hc3).symm.trans hf
            refine lv_tableIn (off := 70) (tgt := 84) hx hb dX11_about_14 (by rw [hc3]; decide) (by rw [hc3]; decide) (by rw [hc3]; decide) (by decide) ?_
            refine lv_aload_n hx hb dX11_about_84 rfl (lv_at hl 0 rfl) ?_
            refine pz_gS (a := 33) hE hH fr_X11_52 qk_0 (by decide) dX11_about_85 ?_
            obtain ⟨r1, er1, hf⟩ := st_bd hf
            refine q_calli (q_runV (As := []) (rest := []) hE hH (tz_X1_underway l X (by decide) (hf := er1)) kv_X11_218 qk_33 (by decide) rfl hl.1 rfl (Nat.le_of_ble_eq_true rfl) dX11_about_88) hH (fun H locs hH => ?_)
            replace hf := Option.some.inj hf
            subst hf
            exact pz_reti hE hrt hlk hH dX11_about_91
          · replace hf := (if_neg hc3).symm.trans hf
            by_cases hc4 : (p0 : Int32) = 4
            · replace hf := (if_pos hc4).symm.trans hf
              refine lv_tableIn (off := 78) (tgt := 92) hx hb dX11_about_14 (by rw [hc4]; decide) (by rw [hc4]; decide) (by rw [hc4]; decide) (by decide) ?_
              refine lv_aload_n hx hb dX11_about_92 rfl (lv_at hl 0 rfl) ?_
              refine pz_gS (a := 33) hE hH fr_X11_52 qk_0 (by decide) dX11_about_93 ?_
              refine pz_gI hE hH fr_X11_222 qk_33 dX11_about_96 ?_
              replace hf := Option.some.inj hf
              subst hf
              exact pz_reti hE hrt hlk hH dX11_about_99
            · replace hf := (if_neg hc4).symm.trans hf
              by_cases hc5 : (p0 : Int32) = 5
              · replace hf := (if_pos hc5).symm.trans hf
                refine lv_tableIn (off := 86) (tgt := 100) hx hb dX11_about_14 (by rw [hc5]; decide) (by rw [hc5]; decide) (by rw [hc5]; decide) (by decide) ?_
                refine lv_aload_n hx hb dX11_about_100 rfl (lv_at hl 0 rfl) ?_
                refine pz_gS (a := 33) hE hH fr_X11_52 qk_0 (by decide) dX11_about_101 ?_
                refine pz_gI hE hH fr_X11_225 qk_33 dX11_about_104 ?_
                obtain ⟨z2, hr, hf⟩ := st_ltx hf
                have hJ : ∀ (ls : Array Slot) (H : Heap) (locs : List Loc), q_H X M s H locs → lv_has ls 2 [] → W p l e (q_rm (2)) s m args below meth c H locs 0 0 (MQ below (q_Qi X r0 M) args s 0 0 (q_A X)) (F0 m 115 ls [.int (b2i z2)]) := by
                  intro ls H locs hH hl
                  replace hf := Option.some.inj hf
                  subst hf
                  exact pz_reti hE hrt hlk hH dX11_about_115
                clear hf
                replace hf := hr
                refine lv_if_eq (tgt := 114) hx hb dX11_about_107 (by decide) (fun hc => ?_) (fun hc => ?_)
                · replace hf := (if_pos hc).symm.trans hf
                  refine lv_iconst (v := 0) hx hb dX11_about_114 (by decide) ?_
                  subst hf
                  exact hJ ls H locs hH (lv_sub hl [] rfl)
                · replace hf := (if_neg hc).symm.trans hf
                  refine lv_iconst (v := 1) hx hb dX11_about_110 (by decide) ?_
                  refine lv_goto (tgt := 115) hx hb dX11_about_111 (by decide) ?_
                  subst hf
                  exact hJ ls H locs hH (lv_sub hl [] rfl)
              · replace hf := (if_neg hc5).symm.trans hf
                by_cases hc6 : (p0 : Int32) = 6
                · replace hf := (if_pos hc6).symm.trans hf
                  refine lv_tableIn (off := 102) (tgt := 116) hx hb dX11_about_14 (by rw [hc6]; decide) (by rw [hc6]; decide) (by rw [hc6]; decide) (by decide) ?_
                  refine lv_aload_n hx hb dX11_about_116 rfl (lv_at hl 0 rfl) ?_
                  refine pz_gS (a := 33) hE hH fr_X11_52 qk_0 (by decide) dX11_about_117 ?_
                  refine pz_gI hE hH fr_X11_229 qk_33 dX11_about_120 ?_
                  replace hf := Option.some.inj hf
                  subst hf
                  exact pz_reti hE hrt hlk hH dX11_about_123
                · replace hf := (if_neg hc6).symm.trans hf
                  by_cases hc7 : (p0 : Int32) = 7
                  · replace hf := (if_pos hc7).symm.trans hf
                    refine lv_tableIn (off := 110) (tgt := 124) hx hb dX11_about_14 (by rw [hc7]; decide) (by rw [hc7]; decide) (by rw [hc7]; decide) (by decide) ?_
                    refine lv_aload_n hx hb dX11_about_124 rfl (lv_at hl 0 rfl) ?_
                    refine pz_gS (a := 33) hE hH fr_X11_52 qk_0 (by decide) dX11_about_125 ?_
                    refine pz_gI hE hH fr_X11_232 qk_33 dX11_about_128 ?_
                    replace hf := Option.some.inj hf
                    subst hf
                    exact pz_reti hE hrt hlk hH dX11_about_131
                  · replace hf := (if_neg hc7).symm.trans hf
                    refine lv_tableOut (tgt := 132) hx hb dX11_about_14 (by have := lv_neT hc0 (a := 0) (by decide); have := lv_neT hc1 (a := 1) (by decide); have := lv_neT hc2 (a := 2) (by decide); have := lv_neT hc3 (a := 3) (by decide); have := lv_neT hc4 (a := 4) (by decide); have := lv_neT hc5 (a := 5) (by decide); have := lv_neT hc6 (a := 6) (by decide); have := lv_neT hc7 (a := 7) (by decide); omega) (by decide) ?_
                    refine pz_ldc (v := (-1000000)) hE (q_in _ 768 (by decide +kernel) rfl) dX11_about_132 ?_
                    replace hf := Option.some.inj hf
                    subst hf
                    exact pz_reti hE hrt hlk hH dX11_about_134
  · replace hf := (if_pos hc).symm.trans hf
    refine pz_ldc (v := (-1000000)) hE (q_in _ 768 (by decide +kernel) rfl) dX11_about_10 ?_
    replace hf := Option.some.inj hf
    subst hf
    exact pz_reti hE hrt hlk hH dX11_about_12

theorem dX11_image_0 : decode cX11_image 0 = .ok (.aload_n 0, 1) := by decide +kernel
theorem dX11_image_1 : decode cX11_image 1 = .ok (.getfield 52, 3) := by decide +kernel
theorem dX11_image_4 : decode cX11_image 4 = .ok (.invokevirtual 166, 3) := by decide +kernel
theorem dX11_image_7 : decode cX11_image 7 = .ok (.ifCond .ne 5, 3) := by decide +kernel
theorem dX11_image_10 : decode cX11_image 10 = .ok (.iconst (-1), 1) := by decide +kernel
theorem dX11_image_11 : decode cX11_image 11 = .ok (.ireturn, 1) := by decide +kernel
theorem dX11_image_12 : decode cX11_image 12 = .ok (.aload_n 0, 1) := by decide +kernel
theorem dX11_image_13 : decode cX11_image 13 = .ok (.getfield 56, 3) := by decide +kernel
theorem dX11_image_16 : decode cX11_image 16 = .ok (.aload_n 0, 1) := by decide +kernel
theorem dX11_image_17 : decode cX11_image 17 = .ok (.getfield 52, 3) := by decide +kernel
theorem dX11_image_20 : decode cX11_image 20 = .ok (.invokevirtual 235, 3) := by decide +kernel
theorem dX11_image_23 : decode cX11_image 23 = .ok (.aload_n 0, 1) := by decide +kernel
theorem dX11_image_24 : decode cX11_image 24 = .ok (.getfield 56, 3) := by decide +kernel
theorem dX11_image_27 : decode cX11_image 27 = .ok (.getfield 209, 3) := by decide +kernel
theorem dX11_image_30 : decode cX11_image 30 = .ok (.ireturn, 1) := by decide +kernel
set_option maxRecDepth 100000 in
set_option maxHeartbeats 4000000 in
theorem tz_X11_image (l : Launch) (X : qX) {M MR : qM} {r0 : Int32} (hf : jTc_image M = some (r0, MR)) : q_Met l X yX11_image cX11_image 1 (some .int) (2) M [.ref (X.1 0)] (q_Qi X r0 MR) := by
  refine q_enter (by decide) (Nat.le_of_ble_eq_true rfl) ?_
  intro p e s m args below meth c hE hrt hlk H locs hH ls hl
  have hx := hE.1
  have hb := hE.2.1
  have hl : lv_has ls 1 [(0, .ref (X.1 0))] := hl
  unfold jTc_image at hf
  refine lv_aload_n hx hb dX11_image_0 rfl (lv_at hl 0 rfl) ?_
  refine pz_gS (a := 33) hE hH fr_X11_52 qk_0 (by decide) dX11_image_1 ?_
  refine q_calli (q_runV (As := []) (rest := []) hE hH (tz_X1_began l X (by decide) (hf := rfl)) kv_X11_166 qk_33 (by decide) rfl hl.1 rfl (Nat.le_of_ble_eq_true rfl) dX11_image_4) hH (fun H locs hH => ?_)
  refine lv_if_ne (tgt := 12) hx hb dX11_image_7 (by decide) (fun hc => ?_) (fun hc => ?_)
  · replace hf := (if_neg hc).symm.trans hf
    refine lv_aload_n hx hb dX11_image_12 rfl (lv_at hl 0 rfl) ?_
    refine pz_gS (a := 37) hE hH fr_X11_56 qk_0 (by decide) dX11_image_13 ?_
    refine lv_aload_n hx hb dX11_image_16 rfl (lv_at hl 0 rfl) ?_
    refine pz_gS (a := 33) hE hH fr_X11_52 qk_0 (by decide) dX11_image_17 ?_
    obtain ⟨M1, eM1, hf⟩ := st_bd hf
    refine q_callv (q_runV (As := [.ref (X.1 33)]) (rest := []) hE hH (tz_X1_copy l X (by decide) (by decide) (hf := eM1)) kv_X11_235 qk_37 (by decide) rfl hl.1 rfl (Nat.le_of_ble_eq_true rfl) dX11_image_20) hH (fun H locs hH => ?_)
    refine lv_aload_n hx hb dX11_image_23 rfl (lv_at hl 0 rfl) ?_
    refine pz_gS (a := 37) hE hH fr_X11_56 qk_0 (by decide) dX11_image_24 ?_
    refine pz_gI hE hH fr_X11_209 qk_37 dX11_image_27 ?_
    replace hf := Option.some.inj hf
    obtain ⟨rfl, rfl⟩ := qi2 hf
    exact pz_reti hE hrt hlk hH dX11_image_30
  · replace hf := (if_pos hc).symm.trans hf
    refine lv_iconst (v := (-1)) hx hb dX11_image_10 (by decide) ?_
    replace hf := Option.some.inj hf
    obtain ⟨rfl, rfl⟩ := qi2 hf
    exact pz_reti hE hrt hlk hH dX11_image_11

theorem dX11_back_0 : decode cX11_back 0 = .ok (.aload_n 0, 1) := by decide +kernel
theorem dX11_back_1 : decode cX11_back 1 = .ok (.getfield 56, 3) := by decide +kernel
theorem dX11_back_4 : decode cX11_back 4 = .ok (.invokevirtual 166, 3) := by decide +kernel
theorem dX11_back_7 : decode cX11_back 7 = .ok (.ifCond .ne 5, 3) := by decide +kernel
theorem dX11_back_10 : decode cX11_back 10 = .ok (.iconst (-1), 1) := by decide +kernel
theorem dX11_back_11 : decode cX11_back 11 = .ok (.ireturn, 1) := by decide +kernel
theorem dX11_back_12 : decode cX11_back 12 = .ok (.aload_n 0, 1) := by decide +kernel
theorem dX11_back_13 : decode cX11_back 13 = .ok (.getfield 52, 3) := by decide +kernel
theorem dX11_back_16 : decode cX11_back 16 = .ok (.aload_n 0, 1) := by decide +kernel
theorem dX11_back_17 : decode cX11_back 17 = .ok (.getfield 56, 3) := by decide +kernel
theorem dX11_back_20 : decode cX11_back 20 = .ok (.invokevirtual 235, 3) := by decide +kernel
theorem dX11_back_23 : decode cX11_back 23 = .ok (.aload_n 0, 1) := by decide +kernel
theorem dX11_back_24 : decode cX11_back 24 = .ok (.getfield 52, 3) := by decide +kernel
theorem dX11_back_27 : decode cX11_back 27 = .ok (.getfield 209, 3) := by decide +kernel
theorem dX11_back_30 : decode cX11_back 30 = .ok (.ireturn, 1) := by decide +kernel
set_option maxRecDepth 100000 in
set_option maxHeartbeats 4000000 in
theorem tz_X11_back (l : Launch) (X : qX) {M MR : qM} {r0 : Int32} (hf : jTc_back M = some (r0, MR)) : q_Met l X yX11_back cX11_back 1 (some .int) (2) M [.ref (X.1 0)] (q_Qi X r0 MR) := by
  refine q_enter (by decide) (Nat.le_of_ble_eq_true rfl) ?_
  intro p e s m args below meth c hE hrt hlk H locs hH ls hl
  have hx := hE.1
  have hb := hE.2.1
  have hl : lv_has ls 1 [(0, .ref (X.1 0))] := hl
  unfold jTc_back at hf
  refine lv_aload_n hx hb dX11_back_0 rfl (lv_at hl 0 rfl) ?_
  refine pz_gS (a := 37) hE hH fr_X11_56 qk_0 (by decide) dX11_back_1 ?_
  refine q_calli (q_runV (As := []) (rest := []) hE hH (tz_X1_began l X (by decide) (hf := rfl)) kv_X11_166 qk_37 (by decide) rfl hl.1 rfl (Nat.le_of_ble_eq_true rfl) dX11_back_4) hH (fun H locs hH => ?_)
  refine lv_if_ne (tgt := 12) hx hb dX11_back_7 (by decide) (fun hc => ?_) (fun hc => ?_)
  · replace hf := (if_neg hc).symm.trans hf
    refine lv_aload_n hx hb dX11_back_12 rfl (lv_at hl 0 rfl) ?_
    refine pz_gS (a := 33) hE hH fr_X11_52 qk_0 (by decide) dX11_back_13 ?_
    refine lv_aload_n hx hb dX11_back_16 rfl (lv_at hl 0 rfl) ?_
    refine pz_gS (a := 37) hE hH fr_X11_56 qk_0 (by decide) dX11_back_17 ?_
    obtain ⟨M1, eM1, hf⟩ := st_bd hf
    refine q_callv (q_runV (As := [.ref (X.1 37)]) (rest := []) hE hH (tz_X1_copy l X (by decide) (by decide) (hf := eM1)) kv_X11_235 qk_33 (by decide) rfl hl.1 rfl (Nat.le_of_ble_eq_true rfl) dX11_back_20) hH (fun H locs hH => ?_)
    refine lv_aload_n hx hb dX11_back_23 rfl (lv_at hl 0 rfl) ?_
    refine pz_gS (a := 33) hE hH fr_X11_52 qk_0 (by decide) dX11_back_24 ?_
    refine pz_gI hE hH fr_X11_209 qk_33 dX11_back_27 ?_
    replace hf := Option.some.inj hf
    obtain ⟨rfl, rfl⟩ := qi2 hf
    exact pz_reti hE hrt hlk hH dX11_back_30
  · replace hf := (if_pos hc).symm.trans hf
    refine lv_iconst (v := (-1)) hx hb dX11_back_10 (by decide) ?_
    replace hf := Option.some.inj hf
    obtain ⟨rfl, rfl⟩ := qi2 hf
    exact pz_reti hE hrt hlk hH dX11_back_11

theorem dX11_isSeeds_0 : decode cX11_isSeeds 0 = .ok (.iload_n 0, 1) := by decide +kernel
theorem dX11_isSeeds_1 : decode cX11_isSeeds 1 = .ok (.iconst 1, 1) := by decide +kernel
theorem dX11_isSeeds_2 : decode cX11_isSeeds 2 = .ok (.if_icmp .lt 13, 3) := by decide +kernel
theorem dX11_isSeeds_5 : decode cX11_isSeeds 5 = .ok (.iload_n 0, 1) := by decide +kernel
theorem dX11_isSeeds_6 : decode cX11_isSeeds 6 = .ok (.bipush 40, 2) := by decide +kernel
theorem dX11_isSeeds_8 : decode cX11_isSeeds 8 = .ok (.if_icmp .gt 7, 3) := by decide +kernel
theorem dX11_isSeeds_11 : decode cX11_isSeeds 11 = .ok (.iconst 1, 1) := by decide +kernel
theorem dX11_isSeeds_12 : decode cX11_isSeeds 12 = .ok (.goto 4, 3) := by decide +kernel
theorem dX11_isSeeds_15 : decode cX11_isSeeds 15 = .ok (.iconst 0, 1) := by decide +kernel
theorem dX11_isSeeds_16 : decode cX11_isSeeds 16 = .ok (.ireturn, 1) := by decide +kernel
set_option maxRecDepth 100000 in
set_option maxHeartbeats 4000000 in
theorem tz_X11_isSeeds (l : Launch) (X : qX) {p0 : Int32} {M : qM} {r0 : Bool} (hf : jTc_isSeeds p0 = r0) : q_Met l X yX11_isSeeds cX11_isSeeds 1 (some .boolean) (1) M [.int p0] (q_Qi X (b2i r0) M) := by
  refine q_enter (by decide) (Nat.le_of_ble_eq_true rfl) ?_
  intro p e s m args below meth c hE hrt hlk H locs hH ls hl
  have hx := hE.1
  have hb := hE.2.1
  have hl : lv_has ls 1 [(0, .int p0)] := hl
  unfold jTc_isSeeds at hf
  refine lv_iload_n hx hb dX11_isSeeds_0 rfl (lv_at hl 0 rfl) ?_
  refine lv_iconst (v := 1) hx hb dX11_isSeeds_1 (by decide) ?_
  obtain ⟨z1, hr, hf⟩ := st_ltx hf
  have hJ : ∀ (ls : Array Slot) (H : Heap) (locs : List Loc), q_H X M s H locs → lv_has ls 1 [] → W p l e (q_rm (1)) s m args below meth c H locs 0 0 (MQ below (q_Qi X (b2i r0) M) args s 0 0 (q_A X)) (F0 m 16 ls [.int (b2i z1)]) := by
    intro ls H locs hH hl
    subst hf
    exact pz_retz hE hrt hlk hH rfl dX11_isSeeds_16
  clear hf
  replace hf := hr
  refine lv_icmp_lt (tgt := 15) hx hb dX11_isSeeds_2 (by decide) (fun hc => ?_) (fun hc => ?_)
  · replace hf := (if_pos hc).symm.trans hf
    refine lv_iconst (v := 0) hx hb dX11_isSeeds_15 (by decide) ?_
    subst hf
    exact hJ ls H locs hH (lv_sub hl [] rfl)
  · replace hf := (if_neg hc).symm.trans hf
    refine lv_iload_n hx hb dX11_isSeeds_5 rfl (lv_at hl 0 rfl) ?_
    refine lv_bipush (v := 40) hx hb dX11_isSeeds_6 (by decide) ?_
    refine lv_icmp_gt (tgt := 15) hx hb dX11_isSeeds_8 (by decide) (fun hc => ?_) (fun hc => ?_)
    · replace hf := (if_pos hc).symm.trans hf
      refine lv_iconst (v := 0) hx hb dX11_isSeeds_15 (by decide) ?_
      subst hf
      exact hJ ls H locs hH (lv_sub hl [] rfl)
    · replace hf := (if_neg hc).symm.trans hf
      refine lv_iconst (v := 1) hx hb dX11_isSeeds_11 (by decide) ?_
      refine lv_goto (tgt := 16) hx hb dX11_isSeeds_12 (by decide) ?_
      subst hf
      exact hJ ls H locs hH (lv_sub hl [] rfl)

theorem dX11_runPlain_0 : decode cX11_runPlain 0 = .ok (.aload_n 0, 1) := by decide +kernel
theorem dX11_runPlain_1 : decode cX11_runPlain 1 = .ok (.getfield 62, 3) := by decide +kernel
theorem dX11_runPlain_4 : decode cX11_runPlain 4 = .ok (.aload_n 0, 1) := by decide +kernel
theorem dX11_runPlain_5 : decode cX11_runPlain 5 = .ok (.getfield 52, 3) := by decide +kernel
theorem dX11_runPlain_8 : decode cX11_runPlain 8 = .ok (.invokevirtual 303, 3) := by decide +kernel
theorem dX11_runPlain_11 : decode cX11_runPlain 11 = .ok (.aload_n 0, 1) := by decide +kernel
theorem dX11_runPlain_12 : decode cX11_runPlain 12 = .ok (.getfield 62, 3) := by decide +kernel
theorem dX11_runPlain_15 : decode cX11_runPlain 15 = .ok (.iload_n 1, 1) := by decide +kernel
theorem dX11_runPlain_16 : decode cX11_runPlain 16 = .ok (.aload_n 0, 1) := by decide +kernel
theorem dX11_runPlain_17 : decode cX11_runPlain 17 = .ok (.getfield 45, 3) := by decide +kernel
theorem dX11_runPlain_20 : decode cX11_runPlain 20 = .ok (.invokevirtual 284, 3) := by decide +kernel
theorem dX11_runPlain_23 : decode cX11_runPlain 23 = .ok (.return_, 1) := by decide +kernel
set_option maxRecDepth 100000 in
set_option maxHeartbeats 4000000 in
theorem tz_X11_runPlain (l : Launch) (X : qX) {p0 : Int32} {M MR : qM} (hf : jTc_runPlain p0 M = some MR) : q_Met l X yX11_runPlain cX11_runPlain 2 none (7) M [.ref (X.1 0), .int p0] (q_Qv X MR) := by
  refine q_enter (by decide) (Nat.le_of_ble_eq_true rfl) ?_
  intro p e s m args below meth c hE hrt hlk H locs hH ls hl
  have hx := hE.1
  have hb := hE.2.1
  have hl : lv_has ls 2 [(0, .ref (X.1 0)), (1, .int p0)] := hl
  unfold jTc_runPlain at hf
  refine lv_aload_n hx hb dX11_runPlain_0 rfl (lv_at hl 0 rfl) ?_
  refine pz_gS (a := 41) hE hH fr_X11_62 qk_0 (by decide) dX11_runPlain_1 ?_
  refine lv_aload_n hx hb dX11_runPlain_4 rfl (lv_at hl 0 rfl) ?_
  refine pz_gS (a := 33) hE hH fr_X11_52 qk_0 (by decide) dX11_runPlain_5 ?_
  obtain ⟨M1, eM1, hf⟩ := st_bd hf
  refine q_callv (q_runV (As := [.ref (X.1 33)]) (rest := []) hE hH (tz_X3_takeAfter l X (by decide) (hf := eM1)) kv_X11_303 qk_41 (by decide) rfl hl.1 rfl (Nat.le_of_ble_eq_true rfl) dX11_runPlain_8) hH (fun H locs hH => ?_)
  refine lv_aload_n hx hb dX11_runPlain_11 rfl (lv_at hl 0 rfl) ?_
  refine pz_gS (a := 41) hE hH fr_X11_62 qk_0 (by decide) dX11_runPlain_12 ?_
  refine lv_iload_n hx hb dX11_runPlain_15 rfl (lv_at hl 1 rfl) ?_
  refine lv_aload_n hx hb dX11_runPlain_16 rfl (lv_at hl 0 rfl) ?_
  refine pz_gS (a := 6) hE hH fr_X11_45 qk_0 (by decide) dX11_runPlain_17 ?_
  obtain ⟨M2, eM2, hf⟩ := st_bd hf
  refine q_callv (q_runV (As := [.int p0, .ref (X.1 6)]) (rest := []) hE hH (tz_X3_run l X (hf := eM2)) kv_X11_284 qk_41 (by decide) rfl hl.1 rfl (Nat.le_of_ble_eq_true rfl) dX11_runPlain_20) hH (fun H locs hH => ?_)
  replace hf := Option.some.inj hf
  subst hf
  exact pz_retv hE hrt hlk hH dX11_runPlain_23

theorem dX11_odds_0 : decode cX11_odds 0 = .ok (.aload_n 0, 1) := by decide +kernel
theorem dX11_odds_1 : decode cX11_odds 1 = .ok (.iload_n 1, 1) := by decide +kernel
theorem dX11_odds_2 : decode cX11_odds 2 = .ok (.invokevirtual 188, 3) := by decide +kernel
theorem dX11_odds_5 : decode cX11_odds 5 = .ok (.ifCond .eq 18, 3) := by decide +kernel
theorem dX11_odds_8 : decode cX11_odds 8 = .ok (.iload_n 2, 1) := by decide +kernel
theorem dX11_odds_9 : decode cX11_odds 9 = .ok (.invokestatic 239, 3) := by decide +kernel
theorem dX11_odds_12 : decode cX11_odds 12 = .ok (.ifCond .eq 11, 3) := by decide +kernel
theorem dX11_odds_15 : decode cX11_odds 15 = .ok (.iload_n 3, 1) := by decide +kernel
theorem dX11_odds_16 : decode cX11_odds 16 = .ok (.iconst 2, 1) := by decide +kernel
theorem dX11_odds_17 : decode cX11_odds 17 = .ok (.invokestatic 123, 3) := by decide +kernel
theorem dX11_odds_20 : decode cX11_odds 20 = .ok (.ifCond .ne 6, 3) := by decide +kernel
theorem dX11_odds_23 : decode cX11_odds 23 = .ok (.ldc 175, 2) := by decide +kernel
theorem dX11_odds_25 : decode cX11_odds 25 = .ok (.ireturn, 1) := by decide +kernel
theorem dX11_odds_26 : decode cX11_odds 26 = .ok (.aload_n 0, 1) := by decide +kernel
theorem dX11_odds_27 : decode cX11_odds 27 = .ok (.iload_n 2, 1) := by decide +kernel
theorem dX11_odds_28 : decode cX11_odds 28 = .ok (.invokevirtual 242, 3) := by decide +kernel
theorem dX11_odds_31 : decode cX11_odds 31 = .ok (.iload_n 3, 1) := by decide +kernel
theorem dX11_odds_32 : decode cX11_odds 32 = .ok (.ifCond .ne 14, 3) := by decide +kernel
theorem dX11_odds_35 : decode cX11_odds 35 = .ok (.aload_n 0, 1) := by decide +kernel
theorem dX11_odds_36 : decode cX11_odds 36 = .ok (.getfield 62, 3) := by decide +kernel
theorem dX11_odds_39 : decode cX11_odds 39 = .ok (.iload_n 1, 1) := by decide +kernel
theorem dX11_odds_40 : decode cX11_odds 40 = .ok (.invokevirtual 245, 3) := by decide +kernel
theorem dX11_odds_43 : decode cX11_odds 43 = .ok (.goto 12, 3) := by decide +kernel
theorem dX11_odds_46 : decode cX11_odds 46 = .ok (.aload_n 0, 1) := by decide +kernel
theorem dX11_odds_47 : decode cX11_odds 47 = .ok (.getfield 62, 3) := by decide +kernel
theorem dX11_odds_50 : decode cX11_odds 50 = .ok (.getfield 248, 3) := by decide +kernel
theorem dX11_odds_53 : decode cX11_odds 53 = .ok (.iload_n 1, 1) := by decide +kernel
theorem dX11_odds_54 : decode cX11_odds 54 = .ok (.iaload, 1) := by decide +kernel
theorem dX11_odds_55 : decode cX11_odds 55 = .ok (.ireturn, 1) := by decide +kernel
set_option maxRecDepth 100000 in
set_option maxHeartbeats 4000000 in
theorem tz_X11_odds (l : Launch) (X : qX) {p0 : Int32} {p1 : Int32} {p2 : Int32} {M MR : qM} {r0 : Int32} (hf : jTc_odds p0 p1 p2 M = some (r0, MR)) : q_Met l X yX11_odds cX11_odds 4 (some .int) (8) M [.ref (X.1 0), .int p0, .int p1, .int p2] (q_Qi X r0 MR) := by
  refine q_enter (by decide) (Nat.le_of_ble_eq_true rfl) ?_
  intro p e s m args below meth c hE hrt hlk H locs hH ls hl
  have hx := hE.1
  have hb := hE.2.1
  have hl : lv_has ls 4 [(0, .ref (X.1 0)), (1, .int p0), (2, .int p1), (3, .int p2)] := hl
  unfold jTc_odds at hf
  refine lv_aload_n hx hb dX11_odds_0 rfl (lv_at hl 0 rfl) ?_
  refine lv_iload_n hx hb dX11_odds_1 rfl (lv_at hl 1 rfl) ?_
  obtain ⟨r1, er1, hf⟩ := st_bd hf
  refine q_calli (q_runV (As := [.int p0]) (rest := []) hE hH (tz_X11_isPerson l X (hf := er1)) kv_X11_188 qk_0 (by decide) rfl hl.1 rfl (Nat.le_of_ble_eq_true rfl) dX11_odds_2) hH (fun H locs hH => ?_)
  refine lv_if_eq (tgt := 23) hx hb dX11_odds_5 (by decide) (fun hc => ?_) (fun hc => ?_)
  · replace hf := (if_pos hc).symm.trans hf
    refine pz_ldc (v := (-1000000)) hE (q_in _ 768 (by decide +kernel) rfl) dX11_odds_23 ?_
    replace hf := Option.some.inj hf
    obtain ⟨rfl, rfl⟩ := qi2 hf
    exact pz_reti hE hrt hlk hH dX11_odds_25
  · replace hf := (if_neg hc).symm.trans hf
    refine lv_iload_n hx hb dX11_odds_8 rfl (lv_at hl 2 rfl) ?_
    refine q_calli (q_runS (As := [.int p1]) (rest := []) hE hH (tz_X11_isSeeds l X (M := M) (hf := rfl)) ks_X11_239 (by decide) rfl hl.1 rfl (Nat.le_of_ble_eq_true rfl) dX11_odds_9) hH (fun H locs hH => ?_)
    refine lv_if_eq (tgt := 23) hx hb dX11_odds_12 (by decide) (fun hc => ?_) (fun hc => ?_)
    · replace hf := (if_pos hc).symm.trans hf
      refine pz_ldc (v := (-1000000)) hE (q_in _ 768 (by decide +kernel) rfl) dX11_odds_23 ?_
      replace hf := Option.some.inj hf
      obtain ⟨rfl, rfl⟩ := qi2 hf
      exact pz_reti hE hrt hlk hH dX11_odds_25
    · replace hf := (if_neg hc).symm.trans hf
      refine lv_iload_n hx hb dX11_odds_15 rfl (lv_at hl 3 rfl) ?_
      refine lv_iconst (v := 2) hx hb dX11_odds_16 (by decide) ?_
      refine q_calli (q_runS (As := [.int p2, .int 2]) (rest := []) hE hH (tz_X11_isOf l X (M := M) (hf := rfl)) ks_X11_123 (by decide) rfl hl.1 rfl (Nat.le_of_ble_eq_true rfl) dX11_odds_17) hH (fun H locs hH => ?_)
      refine lv_if_ne (tgt := 26) hx hb dX11_odds_20 (by decide) (fun hc => ?_) (fun hc => ?_)
      · replace hf := (if_neg hc).symm.trans hf
        refine lv_aload_n hx hb dX11_odds_26 rfl (lv_at hl 0 rfl) ?_
        refine lv_iload_n hx hb dX11_odds_27 rfl (lv_at hl 2 rfl) ?_
        obtain ⟨M2, eM2, hf⟩ := st_bd hf
        refine q_callv (q_runV (As := [.int p1]) (rest := []) hE hH (tz_X11_runPlain l X (hf := eM2)) kv_X11_242 qk_0 (by decide) rfl hl.1 rfl (Nat.le_of_ble_eq_true rfl) dX11_odds_28) hH (fun H locs hH => ?_)
        refine lv_iload_n hx hb dX11_odds_31 rfl (lv_at hl 3 rfl) ?_
        obtain ⟨x3, hr, hf⟩ := st_bd hf
        have hJ : ∀ (ls : Array Slot) (H : Heap) (locs : List Loc), q_H X M2 s H locs → lv_has ls 4 [] → W p l e (q_rm (8)) s m args below meth c H locs 0 0 (MQ below (q_Qi X r0 MR) args s 0 0 (q_A X)) (F0 m 55 ls [.int x3]) := by
          intro ls H locs hH hl
          replace hf := Option.some.inj hf
          obtain ⟨rfl, rfl⟩ := qi2 hf
          exact pz_reti hE hrt hlk hH dX11_odds_55
        clear hf
        replace hf := hr
        refine lv_if_ne (tgt := 46) hx hb dX11_odds_32 (by decide) (fun hc => ?_) (fun hc => ?_)
        · replace hf := (if_neg hc).symm.trans hf
          refine lv_aload_n hx hb dX11_odds_46 rfl (lv_at hl 0 rfl) ?_
          refine pz_gS (a := 41) hE hH fr_X11_62 qk_0 (by decide) dX11_odds_47 ?_
          refine pz_gS (a := 46) hE hH fr_X11_248 qk_41 (by decide) dX11_odds_50 ?_
          refine lv_iload_n hx hb dX11_odds_53 rfl (lv_at hl 1 rfl) ?_
          obtain ⟨v4, ev4, hf⟩ := st_bd hf
          refine pz_iald hE hH qk_46 ev4 dX11_odds_54 ?_
          replace hf := Option.some.inj hf
          subst hf
          exact hJ ls H locs hH (lv_sub hl [] rfl)
        · replace hf := (if_pos hc).symm.trans hf
          refine lv_aload_n hx hb dX11_odds_35 rfl (lv_at hl 0 rfl) ?_
          refine pz_gS (a := 41) hE hH fr_X11_62 qk_0 (by decide) dX11_odds_36 ?_
          refine lv_iload_n hx hb dX11_odds_39 rfl (lv_at hl 1 rfl) ?_
          obtain ⟨r5, er5, hf⟩ := st_bd hf
          refine q_calli (q_runV (As := [.int p0]) (rest := []) hE hH (tz_X3_hadBy l X (hf := er5)) kv_X11_245 qk_41 (by decide) rfl hl.1 rfl (Nat.le_of_ble_eq_true rfl) dX11_odds_40) hH (fun H locs hH => ?_)
          refine lv_goto (tgt := 55) hx hb dX11_odds_43 (by decide) ?_
          replace hf := Option.some.inj hf
          subst hf
          exact hJ ls H locs hH (lv_sub hl [] rfl)
      · replace hf := (if_pos hc).symm.trans hf
        refine pz_ldc (v := (-1000000)) hE (q_in _ 768 (by decide +kernel) rfl) dX11_odds_23 ?_
        replace hf := Option.some.inj hf
        obtain ⟨rfl, rfl⟩ := qi2 hf
        exact pz_reti hE hrt hlk hH dX11_odds_25

theorem dX11_lateBy_0 : decode cX11_lateBy 0 = .ok (.aload_n 0, 1) := by decide +kernel
theorem dX11_lateBy_1 : decode cX11_lateBy 1 = .ok (.getfield 62, 3) := by decide +kernel
theorem dX11_lateBy_4 : decode cX11_lateBy 4 = .ok (.aload_n 0, 1) := by decide +kernel
theorem dX11_lateBy_5 : decode cX11_lateBy 5 = .ok (.getfield 52, 3) := by decide +kernel
theorem dX11_lateBy_8 : decode cX11_lateBy 8 = .ok (.invokevirtual 303, 3) := by decide +kernel
theorem dX11_lateBy_11 : decode cX11_lateBy 11 = .ok (.aload_n 0, 1) := by decide +kernel
theorem dX11_lateBy_12 : decode cX11_lateBy 12 = .ok (.getfield 62, 3) := by decide +kernel
theorem dX11_lateBy_15 : decode cX11_lateBy 15 = .ok (.getfield 278, 3) := by decide +kernel
theorem dX11_lateBy_18 : decode cX11_lateBy 18 = .ok (.iload_n 1, 1) := by decide +kernel
theorem dX11_lateBy_19 : decode cX11_lateBy 19 = .ok (.putfield 251, 3) := by decide +kernel
theorem dX11_lateBy_22 : decode cX11_lateBy 22 = .ok (.aload_n 0, 1) := by decide +kernel
theorem dX11_lateBy_23 : decode cX11_lateBy 23 = .ok (.getfield 62, 3) := by decide +kernel
theorem dX11_lateBy_26 : decode cX11_lateBy 26 = .ok (.iload_n 2, 1) := by decide +kernel
theorem dX11_lateBy_27 : decode cX11_lateBy 27 = .ok (.aload_n 0, 1) := by decide +kernel
theorem dX11_lateBy_28 : decode cX11_lateBy 28 = .ok (.getfield 45, 3) := by decide +kernel
theorem dX11_lateBy_31 : decode cX11_lateBy 31 = .ok (.invokevirtual 284, 3) := by decide +kernel
theorem dX11_lateBy_34 : decode cX11_lateBy 34 = .ok (.aload_n 0, 1) := by decide +kernel
theorem dX11_lateBy_35 : decode cX11_lateBy 35 = .ok (.getfield 62, 3) := by decide +kernel
theorem dX11_lateBy_38 : decode cX11_lateBy 38 = .ok (.invokevirtual 275, 3) := by decide +kernel
theorem dX11_lateBy_41 : decode cX11_lateBy 41 = .ok (.ireturn, 1) := by decide +kernel
set_option maxRecDepth 100000 in
set_option maxHeartbeats 4000000 in
theorem tz_X11_lateBy (l : Launch) (X : qX) {p0 : Int32} {p1 : Int32} {M MR : qM} {r0 : Int32} (hf : jTc_lateBy p0 p1 M = some (r0, MR)) : q_Met l X yX11_lateBy cX11_lateBy 3 (some .int) (7) M [.ref (X.1 0), .int p0, .int p1] (q_Qi X r0 MR) := by
  refine q_enter (by decide) (Nat.le_of_ble_eq_true rfl) ?_
  intro p e s m args below meth c hE hrt hlk H locs hH ls hl
  have hx := hE.1
  have hb := hE.2.1
  have hl : lv_has ls 3 [(0, .ref (X.1 0)), (1, .int p0), (2, .int p1)] := hl
  unfold jTc_lateBy at hf
  refine lv_aload_n hx hb dX11_lateBy_0 rfl (lv_at hl 0 rfl) ?_
  refine pz_gS (a := 41) hE hH fr_X11_62 qk_0 (by decide) dX11_lateBy_1 ?_
  refine lv_aload_n hx hb dX11_lateBy_4 rfl (lv_at hl 0 rfl) ?_
  refine pz_gS (a := 33) hE hH fr_X11_52 qk_0 (by decide) dX11_lateBy_5 ?_
  obtain ⟨M1, eM1, hf⟩ := st_bd hf
  refine q_callv (q_runV (As := [.ref (X.1 33)]) (rest := []) hE hH (tz_X3_takeAfter l X (by decide) (hf := eM1)) kv_X11_303 qk_41 (by decide) rfl hl.1 rfl (Nat.le_of_ble_eq_true rfl) dX11_lateBy_8) hH (fun H locs hH => ?_)
  refine lv_aload_n hx hb dX11_lateBy_11 rfl (lv_at hl 0 rfl) ?_
  refine pz_gS (a := 41) hE hH fr_X11_62 qk_0 (by decide) dX11_lateBy_12 ?_
  refine pz_gS (a := 42) hE hH fr_X11_278 qk_41 (by decide) dX11_lateBy_15 ?_
  refine lv_iload_n hx hb dX11_lateBy_18 rfl (lv_at hl 1 rfl) ?_
  obtain ⟨M2, eM2, hf⟩ := st_lty hf
  refine pz_pI hE hH fw_X11_251 qk_42  eM2 dX11_lateBy_19 (fun H locs hH => ?_)
  refine lv_aload_n hx hb dX11_lateBy_22 rfl (lv_at hl 0 rfl) ?_
  refine pz_gS (a := 41) hE hH fr_X11_62 qk_0 (by decide) dX11_lateBy_23 ?_
  refine lv_iload_n hx hb dX11_lateBy_26 rfl (lv_at hl 2 rfl) ?_
  refine lv_aload_n hx hb dX11_lateBy_27 rfl (lv_at hl 0 rfl) ?_
  refine pz_gS (a := 6) hE hH fr_X11_45 qk_0 (by decide) dX11_lateBy_28 ?_
  obtain ⟨M3, eM3, hf⟩ := st_bd hf
  refine q_callv (q_runV (As := [.int p1, .ref (X.1 6)]) (rest := []) hE hH (tz_X3_run l X (hf := eM3)) kv_X11_284 qk_41 (by decide) rfl hl.1 rfl (Nat.le_of_ble_eq_true rfl) dX11_lateBy_31) hH (fun H locs hH => ?_)
  refine lv_aload_n hx hb dX11_lateBy_34 rfl (lv_at hl 0 rfl) ?_
  refine pz_gS (a := 41) hE hH fr_X11_62 qk_0 (by decide) dX11_lateBy_35 ?_
  obtain ⟨r4, er4, hf⟩ := st_bd hf
  refine q_calli (q_runV (As := []) (rest := []) hE hH (tz_X3_late l X (hf := er4)) kv_X11_275 qk_41 (by decide) rfl hl.1 rfl (Nat.le_of_ble_eq_true rfl) dX11_lateBy_38) hH (fun H locs hH => ?_)
  replace hf := Option.some.inj hf
  obtain ⟨rfl, rfl⟩ := qi2 hf
  exact pz_reti hE hrt hlk hH dX11_lateBy_41

theorem dX11_law_0 : decode cX11_law 0 = .ok (.aload_n 0, 1) := by decide +kernel
theorem dX11_law_1 : decode cX11_law 1 = .ok (.getfield 52, 3) := by decide +kernel
theorem dX11_law_4 : decode cX11_law 4 = .ok (.invokevirtual 166, 3) := by decide +kernel
theorem dX11_law_7 : decode cX11_law 7 = .ok (.ifCond .eq 26, 3) := by decide +kernel
theorem dX11_law_10 : decode cX11_law 10 = .ok (.iload_n 2, 1) := by decide +kernel
theorem dX11_law_11 : decode cX11_law 11 = .ok (.invokestatic 239, 3) := by decide +kernel
theorem dX11_law_14 : decode cX11_law 14 = .ok (.ifCond .eq 19, 3) := by decide +kernel
theorem dX11_law_17 : decode cX11_law 17 = .ok (.iload_n 1, 1) := by decide +kernel
theorem dX11_law_18 : decode cX11_law 18 = .ok (.iconst (-1), 1) := by decide +kernel
theorem dX11_law_19 : decode cX11_law 19 = .ok (.if_icmp .eq 16, 3) := by decide +kernel
theorem dX11_law_22 : decode cX11_law 22 = .ok (.iload_n 1, 1) := by decide +kernel
theorem dX11_law_23 : decode cX11_law 23 = .ok (.iconst 1, 1) := by decide +kernel
theorem dX11_law_24 : decode cX11_law 24 = .ok (.if_icmp .lt 9, 3) := by decide +kernel
theorem dX11_law_27 : decode cX11_law 27 = .ok (.iload_n 1, 1) := by decide +kernel
theorem dX11_law_28 : decode cX11_law 28 = .ok (.bipush 9, 2) := by decide +kernel
theorem dX11_law_30 : decode cX11_law 30 = .ok (.if_icmp .le 5, 3) := by decide +kernel
theorem dX11_law_33 : decode cX11_law 33 = .ok (.iconst (-1), 1) := by decide +kernel
theorem dX11_law_34 : decode cX11_law 34 = .ok (.ireturn, 1) := by decide +kernel
theorem dX11_law_35 : decode cX11_law 35 = .ok (.aload_n 0, 1) := by decide +kernel
theorem dX11_law_36 : decode cX11_law 36 = .ok (.iload_n 1, 1) := by decide +kernel
theorem dX11_law_37 : decode cX11_law 37 = .ok (.iconst (-1), 1) := by decide +kernel
theorem dX11_law_38 : decode cX11_law 38 = .ok (.if_icmp .ne 13, 3) := by decide +kernel
theorem dX11_law_41 : decode cX11_law 41 = .ok (.aload_n 0, 1) := by decide +kernel
theorem dX11_law_42 : decode cX11_law 42 = .ok (.getfield 52, 3) := by decide +kernel
theorem dX11_law_45 : decode cX11_law 45 = .ok (.getfield 251, 3) := by decide +kernel
theorem dX11_law_48 : decode cX11_law 48 = .ok (.goto 4, 3) := by decide +kernel
theorem dX11_law_51 : decode cX11_law 51 = .ok (.iload_n 1, 1) := by decide +kernel
theorem dX11_law_52 : decode cX11_law 52 = .ok (.iload_n 2, 1) := by decide +kernel
theorem dX11_law_53 : decode cX11_law 53 = .ok (.invokevirtual 254, 3) := by decide +kernel
theorem dX11_law_56 : decode cX11_law 56 = .ok (.ireturn, 1) := by decide +kernel
set_option maxRecDepth 100000 in
set_option maxHeartbeats 4000000 in
theorem tz_X11_law (l : Launch) (X : qX) {p0 : Int32} {p1 : Int32} {M MR : qM} {r0 : Int32} (hf : jTc_law p0 p1 M = some (r0, MR)) : q_Met l X yX11_law cX11_law 3 (some .int) (8) M [.ref (X.1 0), .int p0, .int p1] (q_Qi X r0 MR) := by
  refine q_enter (by decide) (Nat.le_of_ble_eq_true rfl) ?_
  intro p e s m args below meth c hE hrt hlk H locs hH ls hl
  have hx := hE.1
  have hb := hE.2.1
  have hl : lv_has ls 3 [(0, .ref (X.1 0)), (1, .int p0), (2, .int p1)] := hl
  unfold jTc_law at hf
  refine lv_aload_n hx hb dX11_law_0 rfl (lv_at hl 0 rfl) ?_
  refine pz_gS (a := 33) hE hH fr_X11_52 qk_0 (by decide) dX11_law_1 ?_
  refine q_calli (q_runV (As := []) (rest := []) hE hH (tz_X1_began l X (by decide) (hf := rfl)) kv_X11_166 qk_33 (by decide) rfl hl.1 rfl (Nat.le_of_ble_eq_true rfl) dX11_law_4) hH (fun H locs hH => ?_)
  refine lv_if_eq (tgt := 33) hx hb dX11_law_7 (by decide) (fun hc => ?_) (fun hc => ?_)
  · replace hf := (if_pos hc).symm.trans hf
    refine lv_iconst (v := (-1)) hx hb dX11_law_33 (by decide) ?_
    replace hf := Option.some.inj hf
    obtain ⟨rfl, rfl⟩ := qi2 hf
    exact pz_reti hE hrt hlk hH dX11_law_34
  · replace hf := (if_neg hc).symm.trans hf
    refine lv_iload_n hx hb dX11_law_10 rfl (lv_at hl 2 rfl) ?_
    refine q_calli (q_runS (As := [.int p1]) (rest := []) hE hH (tz_X11_isSeeds l X (M := M) (hf := rfl)) ks_X11_239 (by decide) rfl hl.1 rfl (Nat.le_of_ble_eq_true rfl) dX11_law_11) hH (fun H locs hH => ?_)
    refine lv_if_eq (tgt := 33) hx hb dX11_law_14 (by decide) (fun hc => ?_) (fun hc => ?_)
    · replace hf := (if_pos hc).symm.trans hf
      refine lv_iconst (v := (-1)) hx hb dX11_law_33 (by decide) ?_
      replace hf := Option.some.inj hf
      obtain ⟨rfl, rfl⟩ := qi2 hf
      exact pz_reti hE hrt hlk hH dX11_law_34
    · replace hf := (if_neg hc).symm.trans hf
      refine lv_iload_n hx hb dX11_law_17 rfl (lv_at hl 1 rfl) ?_
      refine lv_iconst (v := (-1)) hx hb dX11_law_18 (by decide) ?_
      refine lv_icmp_eq (tgt := 35) hx hb dX11_law_19 (by decide) (fun hc => ?_) (fun hc => ?_)
      · replace hf := (if_pos hc).symm.trans hf
        refine lv_aload_n hx hb dX11_law_35 rfl (lv_at hl 0 rfl) ?_
        refine lv_iload_n hx hb dX11_law_36 rfl (lv_at hl 1 rfl) ?_
        refine lv_iconst (v := (-1)) hx hb dX11_law_37 (by decide) ?_
        obtain ⟨x1, hr, hf⟩ := st_ltx hf
        have hJ : ∀ (ls : Array Slot) (H : Heap) (locs : List Loc), q_H X M s H locs → lv_has ls 3 [(2, .int p1)] → W p l e (q_rm (8)) s m args below meth c H locs 0 0 (MQ below (q_Qi X r0 MR) args s 0 0 (q_A X)) (F0 m 52 ls [.int x1, .ref (X.1 0)]) := by
          intro ls H locs hH hl
          refine lv_iload_n hx hb dX11_law_52 rfl (lv_at hl 0 rfl) ?_
          obtain ⟨w2, ew2, hf⟩ := st_bd hf
          obtain ⟨r3, M4⟩ := w2
          replace hf := st_u2 hf
          refine q_calli (q_runV (As := [.int x1, .int p1]) (rest := []) hE hH (tz_X11_lateBy l X (hf := ew2)) kv_X11_254 qk_0 (by decide) rfl hl.1 rfl (Nat.le_of_ble_eq_true rfl) dX11_law_53) hH (fun H locs hH => ?_)
          replace hf := Option.some.inj hf
          obtain ⟨rfl, rfl⟩ := qi2 hf
          exact pz_reti hE hrt hlk hH dX11_law_56
        clear hf
        replace hf := hr
        refine lv_icmp_ne (tgt := 51) hx hb dX11_law_38 (by decide) (fun hc => ?_) (fun hc => ?_)
        · replace hf := (if_neg hc).symm.trans hf
          refine lv_iload_n hx hb dX11_law_51 rfl (lv_at hl 1 rfl) ?_
          subst hf
          exact hJ ls H locs hH (lv_sub hl [2] rfl)
        · replace hf := (if_pos hc).symm.trans hf
          refine lv_aload_n hx hb dX11_law_41 rfl (lv_at hl 0 rfl) ?_
          refine pz_gS (a := 33) hE hH fr_X11_52 qk_0 (by decide) dX11_law_42 ?_
          refine pz_gI hE hH fr_X11_251 qk_33 dX11_law_45 ?_
          refine lv_goto (tgt := 52) hx hb dX11_law_48 (by decide) ?_
          subst hf
          exact hJ ls H locs hH (lv_sub hl [2] rfl)
      · replace hf := (if_neg hc).symm.trans hf
        refine lv_iload_n hx hb dX11_law_22 rfl (lv_at hl 1 rfl) ?_
        refine lv_iconst (v := 1) hx hb dX11_law_23 (by decide) ?_
        refine lv_icmp_lt (tgt := 33) hx hb dX11_law_24 (by decide) (fun hc => ?_) (fun hc => ?_)
        · replace hf := (if_pos hc).symm.trans hf
          refine lv_iconst (v := (-1)) hx hb dX11_law_33 (by decide) ?_
          replace hf := Option.some.inj hf
          obtain ⟨rfl, rfl⟩ := qi2 hf
          exact pz_reti hE hrt hlk hH dX11_law_34
        · replace hf := (if_neg hc).symm.trans hf
          refine lv_iload_n hx hb dX11_law_27 rfl (lv_at hl 1 rfl) ?_
          refine lv_bipush (v := 9) hx hb dX11_law_28 (by decide) ?_
          refine lv_icmp_le (tgt := 35) hx hb dX11_law_30 (by decide) (fun hc => ?_) (fun hc => ?_)
          · replace hf := (if_pos hc).symm.trans hf
            refine lv_aload_n hx hb dX11_law_35 rfl (lv_at hl 0 rfl) ?_
            refine lv_iload_n hx hb dX11_law_36 rfl (lv_at hl 1 rfl) ?_
            refine lv_iconst (v := (-1)) hx hb dX11_law_37 (by decide) ?_
            obtain ⟨x5, hr, hf⟩ := st_ltx hf
            have hJ : ∀ (ls : Array Slot) (H : Heap) (locs : List Loc), q_H X M s H locs → lv_has ls 3 [(2, .int p1)] → W p l e (q_rm (8)) s m args below meth c H locs 0 0 (MQ below (q_Qi X r0 MR) args s 0 0 (q_A X)) (F0 m 52 ls [.int x5, .ref (X.1 0)]) := by
              intro ls H locs hH hl
              refine lv_iload_n hx hb dX11_law_52 rfl (lv_at hl 0 rfl) ?_
              obtain ⟨w6, ew6, hf⟩ := st_bd hf
              obtain ⟨r7, M8⟩ := w6
              replace hf := st_u2 hf
              refine q_calli (q_runV (As := [.int x5, .int p1]) (rest := []) hE hH (tz_X11_lateBy l X (hf := ew6)) kv_X11_254 qk_0 (by decide) rfl hl.1 rfl (Nat.le_of_ble_eq_true rfl) dX11_law_53) hH (fun H locs hH => ?_)
              replace hf := Option.some.inj hf
              obtain ⟨rfl, rfl⟩ := qi2 hf
              exact pz_reti hE hrt hlk hH dX11_law_56
            clear hf
            replace hf := hr
            refine lv_icmp_ne (tgt := 51) hx hb dX11_law_38 (by decide) (fun hc => ?_) (fun hc => ?_)
            · replace hf := (if_neg hc).symm.trans hf
              refine lv_iload_n hx hb dX11_law_51 rfl (lv_at hl 1 rfl) ?_
              subst hf
              exact hJ ls H locs hH (lv_sub hl [2] rfl)
            · replace hf := (if_pos hc).symm.trans hf
              refine lv_aload_n hx hb dX11_law_41 rfl (lv_at hl 0 rfl) ?_
              refine pz_gS (a := 33) hE hH fr_X11_52 qk_0 (by decide) dX11_law_42 ?_
              refine pz_gI hE hH fr_X11_251 qk_33 dX11_law_45 ?_
              refine lv_goto (tgt := 52) hx hb dX11_law_48 (by decide) ?_
              subst hf
              exact hJ ls H locs hH (lv_sub hl [2] rfl)
          · replace hf := (if_neg hc).symm.trans hf
            refine lv_iconst (v := (-1)) hx hb dX11_law_33 (by decide) ?_
            replace hf := Option.some.inj hf
            obtain ⟨rfl, rfl⟩ := qi2 hf
            exact pz_reti hE hrt hlk hH dX11_law_34

theorem dX11_which_0 : decode cX11_which 0 = .ok (.aload_n 0, 1) := by decide +kernel
theorem dX11_which_1 : decode cX11_which 1 = .ok (.getfield 52, 3) := by decide +kernel
theorem dX11_which_4 : decode cX11_which 4 = .ok (.invokevirtual 166, 3) := by decide +kernel
theorem dX11_which_7 : decode cX11_which 7 = .ok (.ifCond .eq 10, 3) := by decide +kernel
theorem dX11_which_10 : decode cX11_which 10 = .ok (.iload_n 1, 1) := by decide +kernel
theorem dX11_which_11 : decode cX11_which 11 = .ok (.invokestatic 239, 3) := by decide +kernel
theorem dX11_which_14 : decode cX11_which 14 = .ok (.ifCond .ne 5, 3) := by decide +kernel
theorem dX11_which_17 : decode cX11_which 17 = .ok (.iconst (-1), 1) := by decide +kernel
theorem dX11_which_18 : decode cX11_which 18 = .ok (.ireturn, 1) := by decide +kernel
theorem dX11_which_19 : decode cX11_which 19 = .ok (.aload_n 0, 1) := by decide +kernel
theorem dX11_which_20 : decode cX11_which 20 = .ok (.iconst 1, 1) := by decide +kernel
theorem dX11_which_21 : decode cX11_which 21 = .ok (.iload_n 1, 1) := by decide +kernel
theorem dX11_which_22 : decode cX11_which 22 = .ok (.invokevirtual 254, 3) := by decide +kernel
theorem dX11_which_25 : decode cX11_which 25 = .ok (.istore_n 2, 1) := by decide +kernel
theorem dX11_which_26 : decode cX11_which 26 = .ok (.iconst 1, 1) := by decide +kernel
theorem dX11_which_27 : decode cX11_which 27 = .ok (.istore_n 3, 1) := by decide +kernel
theorem dX11_which_28 : decode cX11_which 28 = .ok (.iconst 2, 1) := by decide +kernel
theorem dX11_which_29 : decode cX11_which 29 = .ok (.istore 4, 2) := by decide +kernel
theorem dX11_which_31 : decode cX11_which 31 = .ok (.iload 4, 2) := by decide +kernel
theorem dX11_which_33 : decode cX11_which 33 = .ok (.bipush 9, 2) := by decide +kernel
theorem dX11_which_35 : decode cX11_which 35 = .ok (.if_icmp .gt 30, 3) := by decide +kernel
theorem dX11_which_38 : decode cX11_which 38 = .ok (.aload_n 0, 1) := by decide +kernel
theorem dX11_which_39 : decode cX11_which 39 = .ok (.iload 4, 2) := by decide +kernel
theorem dX11_which_41 : decode cX11_which 41 = .ok (.iload_n 1, 1) := by decide +kernel
theorem dX11_which_42 : decode cX11_which 42 = .ok (.invokevirtual 254, 3) := by decide +kernel
theorem dX11_which_45 : decode cX11_which 45 = .ok (.istore 5, 2) := by decide +kernel
theorem dX11_which_47 : decode cX11_which 47 = .ok (.iload 5, 2) := by decide +kernel
theorem dX11_which_49 : decode cX11_which 49 = .ok (.iload_n 2, 1) := by decide +kernel
theorem dX11_which_50 : decode cX11_which 50 = .ok (.if_icmp .ge 9, 3) := by decide +kernel
theorem dX11_which_53 : decode cX11_which 53 = .ok (.iload 5, 2) := by decide +kernel
theorem dX11_which_55 : decode cX11_which 55 = .ok (.istore_n 2, 1) := by decide +kernel
theorem dX11_which_56 : decode cX11_which 56 = .ok (.iload 4, 2) := by decide +kernel
theorem dX11_which_58 : decode cX11_which 58 = .ok (.istore_n 3, 1) := by decide +kernel
theorem dX11_which_59 : decode cX11_which 59 = .ok (.iinc 4 1, 3) := by decide +kernel
theorem dX11_which_62 : decode cX11_which 62 = .ok (.goto (-31), 3) := by decide +kernel
theorem dX11_which_65 : decode cX11_which 65 = .ok (.iload_n 3, 1) := by decide +kernel
theorem dX11_which_66 : decode cX11_which 66 = .ok (.ireturn, 1) := by decide +kernel
set_option maxRecDepth 100000 in
set_option maxHeartbeats 4000000 in
theorem tz_X11_which (l : Launch) (X : qX) {p0 : Int32} {M MR : qM} {r0 : Int32} (hf : jTc_which p0 M = some (r0, MR)) : q_Met l X yX11_which cX11_which 6 (some .int) (8) M [.ref (X.1 0), .int p0] (q_Qi X r0 MR) := by
  refine q_enter (by decide) (Nat.le_of_ble_eq_true rfl) ?_
  intro p e s m args below meth c hE hrt hlk H locs hH ls hl
  have hx := hE.1
  have hb := hE.2.1
  have hl : lv_has ls 6 [(0, .ref (X.1 0)), (1, .int p0)] := hl
  unfold jTc_which at hf
  refine lv_aload_n hx hb dX11_which_0 rfl (lv_at hl 0 rfl) ?_
  refine pz_gS (a := 33) hE hH fr_X11_52 qk_0 (by decide) dX11_which_1 ?_
  refine q_calli (q_runV (As := []) (rest := []) hE hH (tz_X1_began l X (by decide) (hf := rfl)) kv_X11_166 qk_33 (by decide) rfl hl.1 rfl (Nat.le_of_ble_eq_true rfl) dX11_which_4) hH (fun H locs hH => ?_)
  refine lv_if_eq (tgt := 17) hx hb dX11_which_7 (by decide) (fun hc => ?_) (fun hc => ?_)
  · replace hf := (if_pos hc).symm.trans hf
    refine lv_iconst (v := (-1)) hx hb dX11_which_17 (by decide) ?_
    replace hf := Option.some.inj hf
    obtain ⟨rfl, rfl⟩ := qi2 hf
    exact pz_reti hE hrt hlk hH dX11_which_18
  · replace hf := (if_neg hc).symm.trans hf
    refine lv_iload_n hx hb dX11_which_10 rfl (lv_at hl 1 rfl) ?_
    refine q_calli (q_runS (As := [.int p0]) (rest := []) hE hH (tz_X11_isSeeds l X (M := M) (hf := rfl)) ks_X11_239 (by decide) rfl hl.1 rfl (Nat.le_of_ble_eq_true rfl) dX11_which_11) hH (fun H locs hH => ?_)
    refine lv_if_ne (tgt := 19) hx hb dX11_which_14 (by decide) (fun hc => ?_) (fun hc => ?_)
    · replace hf := (if_neg hc).symm.trans hf
      refine lv_aload_n hx hb dX11_which_19 rfl (lv_at hl 0 rfl) ?_
      refine lv_iconst (v := 1) hx hb dX11_which_20 (by decide) ?_
      refine lv_iload_n hx hb dX11_which_21 rfl (lv_at hl 1 rfl) ?_
      obtain ⟨w1, ew1, hf⟩ := st_bd hf
      obtain ⟨r2, M3⟩ := w1
      replace hf := st_u2 hf
      refine q_calli (q_runV (As := [.int 1, .int p0]) (rest := []) hE hH (tz_X11_lateBy l X (hf := ew1)) kv_X11_254 qk_0 (by decide) rfl hl.1 rfl (Nat.le_of_ble_eq_true rfl) dX11_which_22) hH (fun H locs hH => ?_)
      refine lv_istore_n (lv' := [(2, .int r2), (0, .ref (X.1 0)), (1, .int p0)]) hx hb dX11_which_25 rfl hl (by decide) rfl (fun ls hl => ?_)
      refine lv_iconst (v := 1) hx hb dX11_which_26 (by decide) ?_
      refine lv_istore_n (lv' := [(3, .int 1), (2, .int r2), (0, .ref (X.1 0)), (1, .int p0)]) hx hb dX11_which_27 rfl hl (by decide) rfl (fun ls hl => ?_)
      refine lv_iconst (v := 2) hx hb dX11_which_28 (by decide) ?_
      refine lv_istore (lv' := [(4, .int 2), (3, .int 1), (2, .int r2), (0, .ref (X.1 0)), (1, .int p0)]) hx hb dX11_which_29 hl (by decide) rfl (fun ls hl => ?_)
      obtain ⟨r10, hlp, hf⟩ := st_bd hf
      have hX : (fun q0 => qu2 q0 (fun x8 M9 => ∀ (ls : Array Slot) (H : Heap) (locs : List Loc), q_H X M9 s H locs → lv_has ls 6 [(3, .int x8)] → W p l e (q_rm (8)) s m args below meth c H locs 0 0 (MQ below (q_Qi X r0 MR) args s 0 0 (q_A X)) (F0 m 65 ls [])) : (Int32 × qM) → Prop) r10 := by
        obtain ⟨x8, M9⟩ := r10
        replace hf := st_u2 hf
        intro ls H locs hH hl
        refine lv_iload_n hx hb dX11_which_65 rfl (lv_at hl 0 rfl) ?_
        replace hf := Option.some.inj hf
        obtain ⟨rfl, rfl⟩ := qi2 hf
        exact pz_reti hE hrt hlk hH dX11_which_66
      clear hf
      have hG := qlp_ind (r := r10) (fun q => qu4 q (fun x4 x5 x6 M7 => ∀ (ls : Array Slot) (H : Heap) (locs : List Loc), q_H X M7 s H locs → lv_has ls 6 [(0, .ref (X.1 0)), (1, .int p0), (2, .int x4), (3, .int x5), (4, .int x6)] → W p l e (q_rm (8)) s m args below meth c H locs 0 0 (MQ below (q_Qi X r0 MR) args s 0 0 (q_A X)) (F0 m 31 ls []))) (by
          intro q o hf hK1 hK2
          obtain ⟨x4, x5, x6, M7⟩ := q
          replace hf := st_u4 hf
          intro ls H locs hH hl
          refine lv_iload hx hb dX11_which_31 (lv_at hl 4 rfl) ?_
          refine lv_bipush (v := 9) hx hb dX11_which_33 (by decide) ?_
          refine lv_icmp_gt (tgt := 65) hx hb dX11_which_35 (by decide) (fun hc => ?_) (fun hc => ?_)
          · replace hf := (if_pos hc).symm.trans hf
            replace hf := hK2 _ (Option.some.inj hf).symm
            subst hf
            exact hX ls H locs hH (lv_sub hl [3] rfl)
          · replace hf := (if_neg hc).symm.trans hf
            refine lv_aload_n hx hb dX11_which_38 rfl (lv_at hl 0 rfl) ?_
            refine lv_iload hx hb dX11_which_39 (lv_at hl 4 rfl) ?_
            refine lv_iload_n hx hb dX11_which_41 rfl (lv_at hl 1 rfl) ?_
            obtain ⟨w11, ew11, hf⟩ := st_bd hf
            obtain ⟨r12, M13⟩ := w11
            replace hf := st_u2 hf
            refine q_calli (q_runV (As := [.int x6, .int p0]) (rest := []) hE hH (tz_X11_lateBy l X (hf := ew11)) kv_X11_254 qk_0 (by decide) rfl hl.1 rfl (Nat.le_of_ble_eq_true rfl) dX11_which_42) hH (fun H locs hH => ?_)
            refine lv_istore (lv' := [(5, .int r12), (0, .ref (X.1 0)), (1, .int p0), (2, .int x4), (3, .int x5), (4, .int x6)]) hx hb dX11_which_45 hl (by decide) rfl (fun ls hl => ?_)
            refine lv_iload hx hb dX11_which_47 (lv_at hl 0 rfl) ?_
            refine lv_iload_n hx hb dX11_which_49 rfl (lv_at hl 3 rfl) ?_
            obtain ⟨w16, hr, hf⟩ := st_ltx hf
            have hJ : qu2 w16 (fun x14 x15 => ∀ (ls : Array Slot) (H : Heap) (locs : List Loc), q_H X M13 s H locs → lv_has ls 6 [(0, .ref (X.1 0)), (1, .int p0), (2, .int x14), (3, .int x15), (4, .int x6)] → W p l e (q_rm (8)) s m args below meth c H locs 0 0 (MQ below (q_Qi X r0 MR) args s 0 0 (q_A X)) (F0 m 59 ls [])) := by
              obtain ⟨x14, x15⟩ := w16
              replace hf := st_u2 hf
              intro ls H locs hH hl
              obtain ⟨x17, ex17, hf⟩ := st_lty hf
              refine lv_iinc (v := x17) (lv' := [(4, .int x17), (0, .ref (X.1 0)), (1, .int p0), (2, .int x14), (3, .int x15)]) hx hb dX11_which_59 hl (k := 4) rfl (by rw [ex17]; rfl) (by decide) rfl (fun ls hl => ?_)
              refine lv_goto (tgt := 31) hx hb dX11_which_62 (by decide) ?_
              exact hK1 _ (Option.some.inj hf).symm ls H locs hH (lv_sub hl [1, 2, 3, 4, 0] rfl)
            clear hf
            replace hf := hr
            refine lv_icmp_ge (tgt := 59) hx hb dX11_which_50 (by decide) (fun hc => ?_) (fun hc => ?_)
            · replace hf := (if_pos hc).symm.trans hf
              subst hf
              exact hJ ls H locs hH (lv_sub hl [1, 2, 3, 4, 5] rfl)
            · replace hf := (if_neg hc).symm.trans hf
              refine lv_iload hx hb dX11_which_53 (lv_at hl 0 rfl) ?_
              refine lv_istore_n (lv' := [(2, .int r12), (5, .int r12), (0, .ref (X.1 0)), (1, .int p0), (3, .int x5), (4, .int x6)]) hx hb dX11_which_55 rfl hl (by decide) rfl (fun ls hl => ?_)
              refine lv_iload hx hb dX11_which_56 (lv_at hl 5 rfl) ?_
              refine lv_istore_n (lv' := [(3, .int x6), (2, .int r12), (5, .int r12), (0, .ref (X.1 0)), (1, .int p0), (4, .int x6)]) hx hb dX11_which_58 rfl hl (by decide) rfl (fun ls hl => ?_)
              subst hf
              exact hJ ls H locs hH (lv_sub hl [3, 4, 1, 0, 5] rfl)) _ hlp
      exact hG ls H locs hH (lv_sub hl [3, 4, 2, 1, 0] rfl)
    · replace hf := (if_pos hc).symm.trans hf
      refine lv_iconst (v := (-1)) hx hb dX11_which_17 (by decide) ?_
      replace hf := Option.some.inj hf
      obtain ⟨rfl, rfl⟩ := qi2 hf
      exact pz_reti hE hrt hlk hH dX11_which_18

theorem dX11_quiet_0 : decode cX11_quiet 0 = .ok (.aload_n 0, 1) := by decide +kernel
theorem dX11_quiet_1 : decode cX11_quiet 1 = .ok (.getfield 52, 3) := by decide +kernel
theorem dX11_quiet_4 : decode cX11_quiet 4 = .ok (.invokevirtual 166, 3) := by decide +kernel
theorem dX11_quiet_7 : decode cX11_quiet 7 = .ok (.ifCond .eq 10, 3) := by decide +kernel
theorem dX11_quiet_10 : decode cX11_quiet 10 = .ok (.iload_n 1, 1) := by decide +kernel
theorem dX11_quiet_11 : decode cX11_quiet 11 = .ok (.invokestatic 239, 3) := by decide +kernel
theorem dX11_quiet_14 : decode cX11_quiet 14 = .ok (.ifCond .ne 5, 3) := by decide +kernel
theorem dX11_quiet_17 : decode cX11_quiet 17 = .ok (.iconst (-1), 1) := by decide +kernel
theorem dX11_quiet_18 : decode cX11_quiet 18 = .ok (.ireturn, 1) := by decide +kernel
theorem dX11_quiet_19 : decode cX11_quiet 19 = .ok (.iconst 0, 1) := by decide +kernel
theorem dX11_quiet_20 : decode cX11_quiet 20 = .ok (.istore_n 2, 1) := by decide +kernel
theorem dX11_quiet_21 : decode cX11_quiet 21 = .ok (.iconst 1, 1) := by decide +kernel
theorem dX11_quiet_22 : decode cX11_quiet 22 = .ok (.istore_n 3, 1) := by decide +kernel
theorem dX11_quiet_23 : decode cX11_quiet 23 = .ok (.iload_n 3, 1) := by decide +kernel
theorem dX11_quiet_24 : decode cX11_quiet 24 = .ok (.bipush 9, 2) := by decide +kernel
theorem dX11_quiet_26 : decode cX11_quiet 26 = .ok (.if_icmp .gt 34, 3) := by decide +kernel
theorem dX11_quiet_29 : decode cX11_quiet 29 = .ok (.aload_n 0, 1) := by decide +kernel
theorem dX11_quiet_30 : decode cX11_quiet 30 = .ok (.iload_n 3, 1) := by decide +kernel
theorem dX11_quiet_31 : decode cX11_quiet 31 = .ok (.iload_n 1, 1) := by decide +kernel
theorem dX11_quiet_32 : decode cX11_quiet 32 = .ok (.invokevirtual 254, 3) := by decide +kernel
theorem dX11_quiet_35 : decode cX11_quiet 35 = .ok (.pop, 1) := by decide +kernel
theorem dX11_quiet_36 : decode cX11_quiet 36 = .ok (.aload_n 0, 1) := by decide +kernel
theorem dX11_quiet_37 : decode cX11_quiet 37 = .ok (.getfield 62, 3) := by decide +kernel
theorem dX11_quiet_40 : decode cX11_quiet 40 = .ok (.getfield 257, 3) := by decide +kernel
theorem dX11_quiet_43 : decode cX11_quiet 43 = .ok (.ifCond .eq 11, 3) := by decide +kernel
theorem dX11_quiet_46 : decode cX11_quiet 46 = .ok (.iload_n 2, 1) := by decide +kernel
theorem dX11_quiet_47 : decode cX11_quiet 47 = .ok (.iconst 1, 1) := by decide +kernel
theorem dX11_quiet_48 : decode cX11_quiet 48 = .ok (.iload_n 3, 1) := by decide +kernel
theorem dX11_quiet_49 : decode cX11_quiet 49 = .ok (.iconst 1, 1) := by decide +kernel
theorem dX11_quiet_50 : decode cX11_quiet 50 = .ok (.isub, 1) := by decide +kernel
theorem dX11_quiet_51 : decode cX11_quiet 51 = .ok (.ishl, 1) := by decide +kernel
theorem dX11_quiet_52 : decode cX11_quiet 52 = .ok (.ior, 1) := by decide +kernel
theorem dX11_quiet_53 : decode cX11_quiet 53 = .ok (.istore_n 2, 1) := by decide +kernel
theorem dX11_quiet_54 : decode cX11_quiet 54 = .ok (.iinc 3 1, 3) := by decide +kernel
theorem dX11_quiet_57 : decode cX11_quiet 57 = .ok (.goto (-34), 3) := by decide +kernel
theorem dX11_quiet_60 : decode cX11_quiet 60 = .ok (.iload_n 2, 1) := by decide +kernel
theorem dX11_quiet_61 : decode cX11_quiet 61 = .ok (.ireturn, 1) := by decide +kernel
set_option maxRecDepth 100000 in
set_option maxHeartbeats 4000000 in
theorem tz_X11_quiet (l : Launch) (X : qX) {p0 : Int32} {M MR : qM} {r0 : Int32} (hf : jTc_quiet p0 M = some (r0, MR)) : q_Met l X yX11_quiet cX11_quiet 4 (some .int) (8) M [.ref (X.1 0), .int p0] (q_Qi X r0 MR) := by
  refine q_enter (by decide) (Nat.le_of_ble_eq_true rfl) ?_
  intro p e s m args below meth c hE hrt hlk H locs hH ls hl
  have hx := hE.1
  have hb := hE.2.1
  have hl : lv_has ls 4 [(0, .ref (X.1 0)), (1, .int p0)] := hl
  unfold jTc_quiet at hf
  refine lv_aload_n hx hb dX11_quiet_0 rfl (lv_at hl 0 rfl) ?_
  refine pz_gS (a := 33) hE hH fr_X11_52 qk_0 (by decide) dX11_quiet_1 ?_
  refine q_calli (q_runV (As := []) (rest := []) hE hH (tz_X1_began l X (by decide) (hf := rfl)) kv_X11_166 qk_33 (by decide) rfl hl.1 rfl (Nat.le_of_ble_eq_true rfl) dX11_quiet_4) hH (fun H locs hH => ?_)
  refine lv_if_eq (tgt := 17) hx hb dX11_quiet_7 (by decide) (fun hc => ?_) (fun hc => ?_)
  · replace hf := (if_pos hc).symm.trans hf
    refine lv_iconst (v := (-1)) hx hb dX11_quiet_17 (by decide) ?_
    replace hf := Option.some.inj hf
    obtain ⟨rfl, rfl⟩ := qi2 hf
    exact pz_reti hE hrt hlk hH dX11_quiet_18
  · replace hf := (if_neg hc).symm.trans hf
    refine lv_iload_n hx hb dX11_quiet_10 rfl (lv_at hl 1 rfl) ?_
    refine q_calli (q_runS (As := [.int p0]) (rest := []) hE hH (tz_X11_isSeeds l X (M := M) (hf := rfl)) ks_X11_239 (by decide) rfl hl.1 rfl (Nat.le_of_ble_eq_true rfl) dX11_quiet_11) hH (fun H locs hH => ?_)
    refine lv_if_ne (tgt := 19) hx hb dX11_quiet_14 (by decide) (fun hc => ?_) (fun hc => ?_)
    · replace hf := (if_neg hc).symm.trans hf
      refine lv_iconst (v := 0) hx hb dX11_quiet_19 (by decide) ?_
      refine lv_istore_n (lv' := [(2, .int 0), (0, .ref (X.1 0)), (1, .int p0)]) hx hb dX11_quiet_20 rfl hl (by decide) rfl (fun ls hl => ?_)
      refine lv_iconst (v := 1) hx hb dX11_quiet_21 (by decide) ?_
      refine lv_istore_n (lv' := [(3, .int 1), (2, .int 0), (0, .ref (X.1 0)), (1, .int p0)]) hx hb dX11_quiet_22 rfl hl (by decide) rfl (fun ls hl => ?_)
      obtain ⟨r6, hlp, hf⟩ := st_bd hf
      have hX : (fun q0 => qu2 q0 (fun x4 M5 => ∀ (ls : Array Slot) (H : Heap) (locs : List Loc), q_H X M5 s H locs → lv_has ls 4 [(2, .int x4)] → W p l e (q_rm (8)) s m args below meth c H locs 0 0 (MQ below (q_Qi X r0 MR) args s 0 0 (q_A X)) (F0 m 60 ls [])) : (Int32 × qM) → Prop) r6 := by
        obtain ⟨x4, M5⟩ := r6
        replace hf := st_u2 hf
        intro ls H locs hH hl
        refine lv_iload_n hx hb dX11_quiet_60 rfl (lv_at hl 0 rfl) ?_
        replace hf := Option.some.inj hf
        obtain ⟨rfl, rfl⟩ := qi2 hf
        exact pz_reti hE hrt hlk hH dX11_quiet_61
      clear hf
      have hG := qlp_ind (r := r6) (fun q => qu3 q (fun x1 x2 M3 => ∀ (ls : Array Slot) (H : Heap) (locs : List Loc), q_H X M3 s H locs → lv_has ls 4 [(0, .ref (X.1 0)), (1, .int p0), (2, .int x1), (3, .int x2)] → W p l e (q_rm (8)) s m args below meth c H locs 0 0 (MQ below (q_Qi X r0 MR) args s 0 0 (q_A X)) (F0 m 23 ls []))) (by
          intro q o hf hK1 hK2
          obtain ⟨x1, x2, M3⟩ := q
          replace hf := st_u3 hf
          intro ls H locs hH hl
          refine lv_iload_n hx hb dX11_quiet_23 rfl (lv_at hl 3 rfl) ?_
          refine lv_bipush (v := 9) hx hb dX11_quiet_24 (by decide) ?_
          refine lv_icmp_gt (tgt := 60) hx hb dX11_quiet_26 (by decide) (fun hc => ?_) (fun hc => ?_)
          · replace hf := (if_pos hc).symm.trans hf
            replace hf := hK2 _ (Option.some.inj hf).symm
            subst hf
            exact hX ls H locs hH (lv_sub hl [2] rfl)
          · replace hf := (if_neg hc).symm.trans hf
            refine lv_aload_n hx hb dX11_quiet_29 rfl (lv_at hl 0 rfl) ?_
            refine lv_iload_n hx hb dX11_quiet_30 rfl (lv_at hl 3 rfl) ?_
            refine lv_iload_n hx hb dX11_quiet_31 rfl (lv_at hl 1 rfl) ?_
            obtain ⟨w7, ew7, hf⟩ := st_bd hf
            obtain ⟨r8, M9⟩ := w7
            replace hf := st_u2 hf
            refine q_calli (q_runV (As := [.int x2, .int p0]) (rest := []) hE hH (tz_X11_lateBy l X (hf := ew7)) kv_X11_254 qk_0 (by decide) rfl hl.1 rfl (Nat.le_of_ble_eq_true rfl) dX11_quiet_32) hH (fun H locs hH => ?_)
            refine lv_pop hx hb dX11_quiet_35 rfl ?_
            refine lv_aload_n hx hb dX11_quiet_36 rfl (lv_at hl 0 rfl) ?_
            refine pz_gS (a := 41) hE hH fr_X11_62 qk_0 (by decide) dX11_quiet_37 ?_
            refine pz_gI hE hH fr_X11_257 qk_41 dX11_quiet_40 ?_
            obtain ⟨x10, hr, hf⟩ := st_ltx hf
            have hJ : ∀ (ls : Array Slot) (H : Heap) (locs : List Loc), q_H X M9 s H locs → lv_has ls 4 [(0, .ref (X.1 0)), (1, .int p0), (2, .int x10), (3, .int x2)] → W p l e (q_rm (8)) s m args below meth c H locs 0 0 (MQ below (q_Qi X r0 MR) args s 0 0 (q_A X)) (F0 m 54 ls []) := by
              intro ls H locs hH hl
              obtain ⟨x11, ex11, hf⟩ := st_lty hf
              refine lv_iinc (v := x11) (lv' := [(3, .int x11), (0, .ref (X.1 0)), (1, .int p0), (2, .int x10)]) hx hb dX11_quiet_54 hl (k := 3) rfl (by rw [ex11]; rfl) (by decide) rfl (fun ls hl => ?_)
              refine lv_goto (tgt := 23) hx hb dX11_quiet_57 (by decide) ?_
              exact hK1 _ (Option.some.inj hf).symm ls H locs hH (lv_sub hl [1, 2, 3, 0] rfl)
            clear hf
            replace hf := hr
            refine lv_if_eq (tgt := 54) hx hb dX11_quiet_43 (by decide) (fun hc => ?_) (fun hc => ?_)
            · replace hf := (if_pos hc).symm.trans hf
              subst hf
              exact hJ ls H locs hH (lv_sub hl [0, 1, 2, 3] rfl)
            · replace hf := (if_neg hc).symm.trans hf
              refine lv_iload_n hx hb dX11_quiet_46 rfl (lv_at hl 2 rfl) ?_
              refine lv_iconst (v := 1) hx hb dX11_quiet_47 (by decide) ?_
              refine lv_iload_n hx hb dX11_quiet_48 rfl (lv_at hl 3 rfl) ?_
              refine lv_iconst (v := 1) hx hb dX11_quiet_49 (by decide) ?_
              refine lv_isub hx hb dX11_quiet_50 ?_
              refine lv_ishl hx hb dX11_quiet_51 ?_
              refine lv_ior hx hb dX11_quiet_52 ?_
              refine lv_topi (fun x12 ex12 => ?_)
              replace hf := st_lt hf ex12
              refine lv_istore_n (lv' := [(2, .int x12), (0, .ref (X.1 0)), (1, .int p0), (3, .int x2)]) hx hb dX11_quiet_53 rfl hl (by decide) rfl (fun ls hl => ?_)
              subst hf
              exact hJ ls H locs hH (lv_sub hl [1, 2, 0, 3] rfl)) _ hlp
      exact hG ls H locs hH (lv_sub hl [2, 3, 1, 0] rfl)
    · replace hf := (if_pos hc).symm.trans hf
      refine lv_iconst (v := (-1)) hx hb dX11_quiet_17 (by decide) ?_
      replace hf := Option.some.inj hf
      obtain ⟨rfl, rfl⟩ := qi2 hf
      exact pz_reti hE hrt hlk hH dX11_quiet_18

theorem dX11_isPair_0 : decode cX11_isPair 0 = .ok (.aload_n 0, 1) := by decide +kernel
theorem dX11_isPair_1 : decode cX11_isPair 1 = .ok (.iload_n 1, 1) := by decide +kernel
theorem dX11_isPair_2 : decode cX11_isPair 2 = .ok (.invokevirtual 188, 3) := by decide +kernel
theorem dX11_isPair_5 : decode cX11_isPair 5 = .ok (.ifCond .eq 20, 3) := by decide +kernel
theorem dX11_isPair_8 : decode cX11_isPair 8 = .ok (.aload_n 0, 1) := by decide +kernel
theorem dX11_isPair_9 : decode cX11_isPair 9 = .ok (.iload_n 2, 1) := by decide +kernel
theorem dX11_isPair_10 : decode cX11_isPair 10 = .ok (.invokevirtual 188, 3) := by decide +kernel
theorem dX11_isPair_13 : decode cX11_isPair 13 = .ok (.ifCond .eq 12, 3) := by decide +kernel
theorem dX11_isPair_16 : decode cX11_isPair 16 = .ok (.iload_n 1, 1) := by decide +kernel
theorem dX11_isPair_17 : decode cX11_isPair 17 = .ok (.iload_n 2, 1) := by decide +kernel
theorem dX11_isPair_18 : decode cX11_isPair 18 = .ok (.if_icmp .eq 7, 3) := by decide +kernel
theorem dX11_isPair_21 : decode cX11_isPair 21 = .ok (.iconst 1, 1) := by decide +kernel
theorem dX11_isPair_22 : decode cX11_isPair 22 = .ok (.goto 4, 3) := by decide +kernel
theorem dX11_isPair_25 : decode cX11_isPair 25 = .ok (.iconst 0, 1) := by decide +kernel
theorem dX11_isPair_26 : decode cX11_isPair 26 = .ok (.ireturn, 1) := by decide +kernel
set_option maxRecDepth 100000 in
set_option maxHeartbeats 4000000 in
theorem tz_X11_isPair (l : Launch) (X : qX) {p0 : Int32} {p1 : Int32} {M : qM} {r0 : Bool} (hf : jTc_isPair p0 p1 M = some r0) : q_Met l X yX11_isPair cX11_isPair 3 (some .boolean) (3) M [.ref (X.1 0), .int p0, .int p1] (q_Qi X (b2i r0) M) := by
  refine q_enter (by decide) (Nat.le_of_ble_eq_true rfl) ?_
  intro p e s m args below meth c hE hrt hlk H locs hH ls hl
  have hx := hE.1
  have hb := hE.2.1
  have hl : lv_has ls 3 [(0, .ref (X.1 0)), (1, .int p0), (2, .int p1)] := hl
  unfold jTc_isPair at hf
  refine lv_aload_n hx hb dX11_isPair_0 rfl (lv_at hl 0 rfl) ?_
  refine lv_iload_n hx hb dX11_isPair_1 rfl (lv_at hl 1 rfl) ?_
  obtain ⟨r1, er1, hf⟩ := st_bd hf
  refine q_calli (q_runV (As := [.int p0]) (rest := []) hE hH (tz_X11_isPerson l X (hf := er1)) kv_X11_188 qk_0 (by decide) rfl hl.1 rfl (Nat.le_of_ble_eq_true rfl) dX11_isPair_2) hH (fun H locs hH => ?_)
  obtain ⟨z2, hr, hf⟩ := st_bd hf
  have hJ : ∀ (ls : Array Slot) (H : Heap) (locs : List Loc), q_H X M s H locs → lv_has ls 3 [] → W p l e (q_rm (3)) s m args below meth c H locs 0 0 (MQ below (q_Qi X (b2i r0) M) args s 0 0 (q_A X)) (F0 m 26 ls [.int (b2i z2)]) := by
    intro ls H locs hH hl
    replace hf := Option.some.inj hf
    subst hf
    exact pz_retz hE hrt hlk hH rfl dX11_isPair_26
  clear hf
  replace hf := hr
  refine lv_if_eq (tgt := 25) hx hb dX11_isPair_5 (by decide) (fun hc => ?_) (fun hc => ?_)
  · replace hf := (if_pos hc).symm.trans hf
    refine lv_iconst (v := 0) hx hb dX11_isPair_25 (by decide) ?_
    replace hf := Option.some.inj hf
    subst hf
    exact hJ ls H locs hH (lv_sub hl [] rfl)
  · replace hf := (if_neg hc).symm.trans hf
    refine lv_aload_n hx hb dX11_isPair_8 rfl (lv_at hl 0 rfl) ?_
    refine lv_iload_n hx hb dX11_isPair_9 rfl (lv_at hl 2 rfl) ?_
    obtain ⟨r3, er3, hf⟩ := st_bd hf
    refine q_calli (q_runV (As := [.int p1]) (rest := []) hE hH (tz_X11_isPerson l X (hf := er3)) kv_X11_188 qk_0 (by decide) rfl hl.1 rfl (Nat.le_of_ble_eq_true rfl) dX11_isPair_10) hH (fun H locs hH => ?_)
    refine lv_if_eq (tgt := 25) hx hb dX11_isPair_13 (by decide) (fun hc => ?_) (fun hc => ?_)
    · replace hf := (if_pos hc).symm.trans hf
      refine lv_iconst (v := 0) hx hb dX11_isPair_25 (by decide) ?_
      replace hf := Option.some.inj hf
      subst hf
      exact hJ ls H locs hH (lv_sub hl [] rfl)
    · replace hf := (if_neg hc).symm.trans hf
      refine lv_iload_n hx hb dX11_isPair_16 rfl (lv_at hl 1 rfl) ?_
      refine lv_iload_n hx hb dX11_isPair_17 rfl (lv_at hl 2 rfl) ?_
      refine lv_icmp_eq (tgt := 25) hx hb dX11_isPair_18 (by decide) (fun hc => ?_) (fun hc => ?_)
      · replace hf := (if_pos hc).symm.trans hf
        refine lv_iconst (v := 0) hx hb dX11_isPair_25 (by decide) ?_
        replace hf := Option.some.inj hf
        subst hf
        exact hJ ls H locs hH (lv_sub hl [] rfl)
      · replace hf := (if_neg hc).symm.trans hf
        refine lv_iconst (v := 1) hx hb dX11_isPair_21 (by decide) ?_
        refine lv_goto (tgt := 26) hx hb dX11_isPair_22 (by decide) ?_
        replace hf := Option.some.inj hf
        subst hf
        exact hJ ls H locs hH (lv_sub hl [] rfl)

theorem dX11_runSent_0 : decode cX11_runSent 0 = .ok (.aload_n 0, 1) := by decide +kernel
theorem dX11_runSent_1 : decode cX11_runSent 1 = .ok (.getfield 62, 3) := by decide +kernel
theorem dX11_runSent_4 : decode cX11_runSent 4 = .ok (.aload_n 0, 1) := by decide +kernel
theorem dX11_runSent_5 : decode cX11_runSent 5 = .ok (.getfield 52, 3) := by decide +kernel
theorem dX11_runSent_8 : decode cX11_runSent 8 = .ok (.invokevirtual 303, 3) := by decide +kernel
theorem dX11_runSent_11 : decode cX11_runSent 11 = .ok (.aload_n 0, 1) := by decide +kernel
theorem dX11_runSent_12 : decode cX11_runSent 12 = .ok (.getfield 62, 3) := by decide +kernel
theorem dX11_runSent_15 : decode cX11_runSent 15 = .ok (.getfield 278, 3) := by decide +kernel
theorem dX11_runSent_18 : decode cX11_runSent 18 = .ok (.iload_n 1, 1) := by decide +kernel
theorem dX11_runSent_19 : decode cX11_runSent 19 = .ok (.putfield 426, 3) := by decide +kernel
theorem dX11_runSent_22 : decode cX11_runSent 22 = .ok (.aload_n 0, 1) := by decide +kernel
theorem dX11_runSent_23 : decode cX11_runSent 23 = .ok (.getfield 62, 3) := by decide +kernel
theorem dX11_runSent_26 : decode cX11_runSent 26 = .ok (.iload_n 2, 1) := by decide +kernel
theorem dX11_runSent_27 : decode cX11_runSent 27 = .ok (.aload_n 0, 1) := by decide +kernel
theorem dX11_runSent_28 : decode cX11_runSent 28 = .ok (.getfield 45, 3) := by decide +kernel
theorem dX11_runSent_31 : decode cX11_runSent 31 = .ok (.invokevirtual 284, 3) := by decide +kernel
theorem dX11_runSent_34 : decode cX11_runSent 34 = .ok (.return_, 1) := by decide +kernel
set_option maxRecDepth 100000 in
set_option maxHeartbeats 4000000 in
theorem tz_X11_runSent (l : Launch) (X : qX) {p0 : Int32} {p1 : Int32} {M MR : qM} (hf : jTc_runSent p0 p1 M = some MR) : q_Met l X yX11_runSent cX11_runSent 3 none (7) M [.ref (X.1 0), .int p0, .int p1] (q_Qv X MR) := by
  refine q_enter (by decide) (Nat.le_of_ble_eq_true rfl) ?_
  intro p e s m args below meth c hE hrt hlk H locs hH ls hl
  have hx := hE.1
  have hb := hE.2.1
  have hl : lv_has ls 3 [(0, .ref (X.1 0)), (1, .int p0), (2, .int p1)] := hl
  unfold jTc_runSent at hf
  refine lv_aload_n hx hb dX11_runSent_0 rfl (lv_at hl 0 rfl) ?_
  refine pz_gS (a := 41) hE hH fr_X11_62 qk_0 (by decide) dX11_runSent_1 ?_
  refine lv_aload_n hx hb dX11_runSent_4 rfl (lv_at hl 0 rfl) ?_
  refine pz_gS (a := 33) hE hH fr_X11_52 qk_0 (by decide) dX11_runSent_5 ?_
  obtain ⟨M1, eM1, hf⟩ := st_bd hf
  refine q_callv (q_runV (As := [.ref (X.1 33)]) (rest := []) hE hH (tz_X3_takeAfter l X (by decide) (hf := eM1)) kv_X11_303 qk_41 (by decide) rfl hl.1 rfl (Nat.le_of_ble_eq_true rfl) dX11_runSent_8) hH (fun H locs hH => ?_)
  refine lv_aload_n hx hb dX11_runSent_11 rfl (lv_at hl 0 rfl) ?_
  refine pz_gS (a := 41) hE hH fr_X11_62 qk_0 (by decide) dX11_runSent_12 ?_
  refine pz_gS (a := 42) hE hH fr_X11_278 qk_41 (by decide) dX11_runSent_15 ?_
  refine lv_iload_n hx hb dX11_runSent_18 rfl (lv_at hl 1 rfl) ?_
  obtain ⟨M2, eM2, hf⟩ := st_lty hf
  refine pz_pI hE hH fw_X11_426 qk_42  eM2 dX11_runSent_19 (fun H locs hH => ?_)
  refine lv_aload_n hx hb dX11_runSent_22 rfl (lv_at hl 0 rfl) ?_
  refine pz_gS (a := 41) hE hH fr_X11_62 qk_0 (by decide) dX11_runSent_23 ?_
  refine lv_iload_n hx hb dX11_runSent_26 rfl (lv_at hl 2 rfl) ?_
  refine lv_aload_n hx hb dX11_runSent_27 rfl (lv_at hl 0 rfl) ?_
  refine pz_gS (a := 6) hE hH fr_X11_45 qk_0 (by decide) dX11_runSent_28 ?_
  obtain ⟨M3, eM3, hf⟩ := st_bd hf
  refine q_callv (q_runV (As := [.int p1, .ref (X.1 6)]) (rest := []) hE hH (tz_X3_run l X (hf := eM3)) kv_X11_284 qk_41 (by decide) rfl hl.1 rfl (Nat.le_of_ble_eq_true rfl) dX11_runSent_31) hH (fun H locs hH => ?_)
  replace hf := Option.some.inj hf
  subst hf
  exact pz_retv hE hrt hlk hH dX11_runSent_34

theorem dX11_pay_0 : decode cX11_pay 0 = .ok (.aload_n 0, 1) := by decide +kernel
theorem dX11_pay_1 : decode cX11_pay 1 = .ok (.iload_n 1, 1) := by decide +kernel
theorem dX11_pay_2 : decode cX11_pay 2 = .ok (.iload_n 2, 1) := by decide +kernel
theorem dX11_pay_3 : decode cX11_pay 3 = .ok (.invokevirtual 260, 3) := by decide +kernel
theorem dX11_pay_6 : decode cX11_pay 6 = .ok (.ifCond .eq 10, 3) := by decide +kernel
theorem dX11_pay_9 : decode cX11_pay 9 = .ok (.iload_n 3, 1) := by decide +kernel
theorem dX11_pay_10 : decode cX11_pay 10 = .ok (.invokestatic 239, 3) := by decide +kernel
theorem dX11_pay_13 : decode cX11_pay 13 = .ok (.ifCond .ne 6, 3) := by decide +kernel
theorem dX11_pay_16 : decode cX11_pay 16 = .ok (.ldc 175, 2) := by decide +kernel
theorem dX11_pay_18 : decode cX11_pay 18 = .ok (.ireturn, 1) := by decide +kernel
theorem dX11_pay_19 : decode cX11_pay 19 = .ok (.aload_n 0, 1) := by decide +kernel
theorem dX11_pay_20 : decode cX11_pay 20 = .ok (.iload_n 3, 1) := by decide +kernel
theorem dX11_pay_21 : decode cX11_pay 21 = .ok (.invokevirtual 242, 3) := by decide +kernel
theorem dX11_pay_24 : decode cX11_pay 24 = .ok (.aload_n 0, 1) := by decide +kernel
theorem dX11_pay_25 : decode cX11_pay 25 = .ok (.getfield 62, 3) := by decide +kernel
theorem dX11_pay_28 : decode cX11_pay 28 = .ok (.getfield 248, 3) := by decide +kernel
theorem dX11_pay_31 : decode cX11_pay 31 = .ok (.iload_n 1, 1) := by decide +kernel
theorem dX11_pay_32 : decode cX11_pay 32 = .ok (.iaload, 1) := by decide +kernel
theorem dX11_pay_33 : decode cX11_pay 33 = .ok (.istore 4, 2) := by decide +kernel
theorem dX11_pay_35 : decode cX11_pay 35 = .ok (.aload_n 0, 1) := by decide +kernel
theorem dX11_pay_36 : decode cX11_pay 36 = .ok (.iload_n 2, 1) := by decide +kernel
theorem dX11_pay_37 : decode cX11_pay 37 = .ok (.iload_n 3, 1) := by decide +kernel
theorem dX11_pay_38 : decode cX11_pay 38 = .ok (.invokevirtual 263, 3) := by decide +kernel
theorem dX11_pay_41 : decode cX11_pay 41 = .ok (.aload_n 0, 1) := by decide +kernel
theorem dX11_pay_42 : decode cX11_pay 42 = .ok (.getfield 62, 3) := by decide +kernel
theorem dX11_pay_45 : decode cX11_pay 45 = .ok (.getfield 248, 3) := by decide +kernel
theorem dX11_pay_48 : decode cX11_pay 48 = .ok (.iload_n 1, 1) := by decide +kernel
theorem dX11_pay_49 : decode cX11_pay 49 = .ok (.iaload, 1) := by decide +kernel
theorem dX11_pay_50 : decode cX11_pay 50 = .ok (.iload 4, 2) := by decide +kernel
theorem dX11_pay_52 : decode cX11_pay 52 = .ok (.isub, 1) := by decide +kernel
theorem dX11_pay_53 : decode cX11_pay 53 = .ok (.ireturn, 1) := by decide +kernel
set_option maxRecDepth 100000 in
set_option maxHeartbeats 4000000 in
theorem tz_X11_pay (l : Launch) (X : qX) {p0 : Int32} {p1 : Int32} {p2 : Int32} {M MR : qM} {r0 : Int32} (hf : jTc_pay p0 p1 p2 M = some (r0, MR)) : q_Met l X yX11_pay cX11_pay 5 (some .int) (8) M [.ref (X.1 0), .int p0, .int p1, .int p2] (q_Qi X r0 MR) := by
  refine q_enter (by decide) (Nat.le_of_ble_eq_true rfl) ?_
  intro p e s m args below meth c hE hrt hlk H locs hH ls hl
  have hx := hE.1
  have hb := hE.2.1
  have hl : lv_has ls 5 [(0, .ref (X.1 0)), (1, .int p0), (2, .int p1), (3, .int p2)] := hl
  unfold jTc_pay at hf
  refine lv_aload_n hx hb dX11_pay_0 rfl (lv_at hl 0 rfl) ?_
  refine lv_iload_n hx hb dX11_pay_1 rfl (lv_at hl 1 rfl) ?_
  refine lv_iload_n hx hb dX11_pay_2 rfl (lv_at hl 2 rfl) ?_
  obtain ⟨r1, er1, hf⟩ := st_bd hf
  refine q_calli (q_runV (As := [.int p0, .int p1]) (rest := []) hE hH (tz_X11_isPair l X (hf := er1)) kv_X11_260 qk_0 (by decide) rfl hl.1 rfl (Nat.le_of_ble_eq_true rfl) dX11_pay_3) hH (fun H locs hH => ?_)
  refine lv_if_eq (tgt := 16) hx hb dX11_pay_6 (by decide) (fun hc => ?_) (fun hc => ?_)
  · replace hf := (if_pos hc).symm.trans hf
    refine pz_ldc (v := (-1000000)) hE (q_in _ 768 (by decide +kernel) rfl) dX11_pay_16 ?_
    replace hf := Option.some.inj hf
    obtain ⟨rfl, rfl⟩ := qi2 hf
    exact pz_reti hE hrt hlk hH dX11_pay_18
  · replace hf := (if_neg hc).symm.trans hf
    refine lv_iload_n hx hb dX11_pay_9 rfl (lv_at hl 3 rfl) ?_
    refine q_calli (q_runS (As := [.int p2]) (rest := []) hE hH (tz_X11_isSeeds l X (M := M) (hf := rfl)) ks_X11_239 (by decide) rfl hl.1 rfl (Nat.le_of_ble_eq_true rfl) dX11_pay_10) hH (fun H locs hH => ?_)
    refine lv_if_ne (tgt := 19) hx hb dX11_pay_13 (by decide) (fun hc => ?_) (fun hc => ?_)
    · replace hf := (if_neg hc).symm.trans hf
      refine lv_aload_n hx hb dX11_pay_19 rfl (lv_at hl 0 rfl) ?_
      refine lv_iload_n hx hb dX11_pay_20 rfl (lv_at hl 3 rfl) ?_
      obtain ⟨M2, eM2, hf⟩ := st_bd hf
      refine q_callv (q_runV (As := [.int p2]) (rest := []) hE hH (tz_X11_runPlain l X (hf := eM2)) kv_X11_242 qk_0 (by decide) rfl hl.1 rfl (Nat.le_of_ble_eq_true rfl) dX11_pay_21) hH (fun H locs hH => ?_)
      refine lv_aload_n hx hb dX11_pay_24 rfl (lv_at hl 0 rfl) ?_
      refine pz_gS (a := 41) hE hH fr_X11_62 qk_0 (by decide) dX11_pay_25 ?_
      refine pz_gS (a := 46) hE hH fr_X11_248 qk_41 (by decide) dX11_pay_28 ?_
      refine lv_iload_n hx hb dX11_pay_31 rfl (lv_at hl 1 rfl) ?_
      obtain ⟨v3, ev3, hf⟩ := st_bd hf
      refine pz_iald hE hH qk_46 ev3 dX11_pay_32 ?_
      refine lv_istore (lv' := [(4, .int v3), (0, .ref (X.1 0)), (1, .int p0), (2, .int p1), (3, .int p2)]) hx hb dX11_pay_33 hl (by decide) rfl (fun ls hl => ?_)
      refine lv_aload_n hx hb dX11_pay_35 rfl (lv_at hl 1 rfl) ?_
      refine lv_iload_n hx hb dX11_pay_36 rfl (lv_at hl 3 rfl) ?_
      refine lv_iload_n hx hb dX11_pay_37 rfl (lv_at hl 4 rfl) ?_
      obtain ⟨M4, eM4, hf⟩ := st_bd hf
      refine q_callv (q_runV (As := [.int p1, .int p2]) (rest := []) hE hH (tz_X11_runSent l X (hf := eM4)) kv_X11_263 qk_0 (by decide) rfl hl.1 rfl (Nat.le_of_ble_eq_true rfl) dX11_pay_38) hH (fun H locs hH => ?_)
      refine lv_aload_n hx hb dX11_pay_41 rfl (lv_at hl 1 rfl) ?_
      refine pz_gS (a := 41) hE hH fr_X11_62 qk_0 (by decide) dX11_pay_42 ?_
      refine pz_gS (a := 46) hE hH fr_X11_248 qk_41 (by decide) dX11_pay_45 ?_
      refine lv_iload_n hx hb dX11_pay_48 rfl (lv_at hl 2 rfl) ?_
      obtain ⟨v5, ev5, hf⟩ := st_bd hf
      refine pz_iald hE hH qk_46 ev5 dX11_pay_49 ?_
      refine lv_iload hx hb dX11_pay_50 (lv_at hl 0 rfl) ?_
      refine lv_isub hx hb dX11_pay_52 ?_
      replace hf := Option.some.inj hf
      obtain ⟨rfl, rfl⟩ := qi2 hf
      exact pz_reti hE hrt hlk hH dX11_pay_53
    · replace hf := (if_pos hc).symm.trans hf
      refine pz_ldc (v := (-1000000)) hE (q_in _ 768 (by decide +kernel) rfl) dX11_pay_16 ?_
      replace hf := Option.some.inj hf
      obtain ⟨rfl, rfl⟩ := qi2 hf
      exact pz_reti hE hrt hlk hH dX11_pay_18

theorem dX11_price_0 : decode cX11_price 0 = .ok (.aload_n 0, 1) := by decide +kernel
theorem dX11_price_1 : decode cX11_price 1 = .ok (.iload_n 1, 1) := by decide +kernel
theorem dX11_price_2 : decode cX11_price 2 = .ok (.invokevirtual 188, 3) := by decide +kernel
theorem dX11_price_5 : decode cX11_price 5 = .ok (.ifCond .eq 10, 3) := by decide +kernel
theorem dX11_price_8 : decode cX11_price 8 = .ok (.iload_n 2, 1) := by decide +kernel
theorem dX11_price_9 : decode cX11_price 9 = .ok (.invokestatic 239, 3) := by decide +kernel
theorem dX11_price_12 : decode cX11_price 12 = .ok (.ifCond .ne 5, 3) := by decide +kernel
theorem dX11_price_15 : decode cX11_price 15 = .ok (.iconst (-1), 1) := by decide +kernel
theorem dX11_price_16 : decode cX11_price 16 = .ok (.ireturn, 1) := by decide +kernel
theorem dX11_price_17 : decode cX11_price 17 = .ok (.aload_n 0, 1) := by decide +kernel
theorem dX11_price_18 : decode cX11_price 18 = .ok (.iload_n 2, 1) := by decide +kernel
theorem dX11_price_19 : decode cX11_price 19 = .ok (.invokevirtual 242, 3) := by decide +kernel
theorem dX11_price_22 : decode cX11_price 22 = .ok (.aload_n 0, 1) := by decide +kernel
theorem dX11_price_23 : decode cX11_price 23 = .ok (.getfield 62, 3) := by decide +kernel
theorem dX11_price_26 : decode cX11_price 26 = .ok (.getfield 248, 3) := by decide +kernel
theorem dX11_price_29 : decode cX11_price 29 = .ok (.iload_n 1, 1) := by decide +kernel
theorem dX11_price_30 : decode cX11_price 30 = .ok (.iaload, 1) := by decide +kernel
theorem dX11_price_31 : decode cX11_price 31 = .ok (.istore_n 3, 1) := by decide +kernel
theorem dX11_price_32 : decode cX11_price 32 = .ok (.aload_n 0, 1) := by decide +kernel
theorem dX11_price_33 : decode cX11_price 33 = .ok (.iload_n 1, 1) := by decide +kernel
theorem dX11_price_34 : decode cX11_price 34 = .ok (.iload_n 2, 1) := by decide +kernel
theorem dX11_price_35 : decode cX11_price 35 = .ok (.invokevirtual 263, 3) := by decide +kernel
theorem dX11_price_38 : decode cX11_price 38 = .ok (.iconst 0, 1) := by decide +kernel
theorem dX11_price_39 : decode cX11_price 39 = .ok (.iload_n 3, 1) := by decide +kernel
theorem dX11_price_40 : decode cX11_price 40 = .ok (.aload_n 0, 1) := by decide +kernel
theorem dX11_price_41 : decode cX11_price 41 = .ok (.getfield 62, 3) := by decide +kernel
theorem dX11_price_44 : decode cX11_price 44 = .ok (.getfield 248, 3) := by decide +kernel
theorem dX11_price_47 : decode cX11_price 47 = .ok (.iload_n 1, 1) := by decide +kernel
theorem dX11_price_48 : decode cX11_price 48 = .ok (.iaload, 1) := by decide +kernel
theorem dX11_price_49 : decode cX11_price 49 = .ok (.isub, 1) := by decide +kernel
theorem dX11_price_50 : decode cX11_price 50 = .ok (.invokestatic 267, 3) := by decide +kernel
theorem dX11_price_53 : decode cX11_price 53 = .ok (.ireturn, 1) := by decide +kernel
set_option maxRecDepth 100000 in
set_option maxHeartbeats 4000000 in
theorem tz_X11_price (l : Launch) (X : qX) {p0 : Int32} {p1 : Int32} {M MR : qM} {r0 : Int32} (hf : jTc_price p0 p1 M = some (r0, MR)) : q_Met l X yX11_price cX11_price 4 (some .int) (8) M [.ref (X.1 0), .int p0, .int p1] (q_Qi X r0 MR) := by
  refine q_enter (by decide) (Nat.le_of_ble_eq_true rfl) ?_
  intro p e s m args below meth c hE hrt hlk H locs hH ls hl
  have hx := hE.1
  have hb := hE.2.1
  have hl : lv_has ls 4 [(0, .ref (X.1 0)), (1, .int p0), (2, .int p1)] := hl
  unfold jTc_price at hf
  refine lv_aload_n hx hb dX11_price_0 rfl (lv_at hl 0 rfl) ?_
  refine lv_iload_n hx hb dX11_price_1 rfl (lv_at hl 1 rfl) ?_
  obtain ⟨r1, er1, hf⟩ := st_bd hf
  refine q_calli (q_runV (As := [.int p0]) (rest := []) hE hH (tz_X11_isPerson l X (hf := er1)) kv_X11_188 qk_0 (by decide) rfl hl.1 rfl (Nat.le_of_ble_eq_true rfl) dX11_price_2) hH (fun H locs hH => ?_)
  refine lv_if_eq (tgt := 15) hx hb dX11_price_5 (by decide) (fun hc => ?_) (fun hc => ?_)
  · replace hf := (if_pos hc).symm.trans hf
    refine lv_iconst (v := (-1)) hx hb dX11_price_15 (by decide) ?_
    replace hf := Option.some.inj hf
    obtain ⟨rfl, rfl⟩ := qi2 hf
    exact pz_reti hE hrt hlk hH dX11_price_16
  · replace hf := (if_neg hc).symm.trans hf
    refine lv_iload_n hx hb dX11_price_8 rfl (lv_at hl 2 rfl) ?_
    refine q_calli (q_runS (As := [.int p1]) (rest := []) hE hH (tz_X11_isSeeds l X (M := M) (hf := rfl)) ks_X11_239 (by decide) rfl hl.1 rfl (Nat.le_of_ble_eq_true rfl) dX11_price_9) hH (fun H locs hH => ?_)
    refine lv_if_ne (tgt := 17) hx hb dX11_price_12 (by decide) (fun hc => ?_) (fun hc => ?_)
    · replace hf := (if_neg hc).symm.trans hf
      refine lv_aload_n hx hb dX11_price_17 rfl (lv_at hl 0 rfl) ?_
      refine lv_iload_n hx hb dX11_price_18 rfl (lv_at hl 2 rfl) ?_
      obtain ⟨M2, eM2, hf⟩ := st_bd hf
      refine q_callv (q_runV (As := [.int p1]) (rest := []) hE hH (tz_X11_runPlain l X (hf := eM2)) kv_X11_242 qk_0 (by decide) rfl hl.1 rfl (Nat.le_of_ble_eq_true rfl) dX11_price_19) hH (fun H locs hH => ?_)
      refine lv_aload_n hx hb dX11_price_22 rfl (lv_at hl 0 rfl) ?_
      refine pz_gS (a := 41) hE hH fr_X11_62 qk_0 (by decide) dX11_price_23 ?_
      refine pz_gS (a := 46) hE hH fr_X11_248 qk_41 (by decide) dX11_price_26 ?_
      refine lv_iload_n hx hb dX11_price_29 rfl (lv_at hl 1 rfl) ?_
      obtain ⟨v3, ev3, hf⟩ := st_bd hf
      refine pz_iald hE hH qk_46 ev3 dX11_price_30 ?_
      refine lv_istore_n (lv' := [(3, .int v3), (0, .ref (X.1 0)), (1, .int p0), (2, .int p1)]) hx hb dX11_price_31 rfl hl (by decide) rfl (fun ls hl => ?_)
      refine lv_aload_n hx hb dX11_price_32 rfl (lv_at hl 1 rfl) ?_
      refine lv_iload_n hx hb dX11_price_33 rfl (lv_at hl 2 rfl) ?_
      refine lv_iload_n hx hb dX11_price_34 rfl (lv_at hl 3 rfl) ?_
      obtain ⟨M4, eM4, hf⟩ := st_bd hf
      refine q_callv (q_runV (As := [.int p0, .int p1]) (rest := []) hE hH (tz_X11_runSent l X (hf := eM4)) kv_X11_263 qk_0 (by decide) rfl hl.1 rfl (Nat.le_of_ble_eq_true rfl) dX11_price_35) hH (fun H locs hH => ?_)
      refine lv_iconst (v := 0) hx hb dX11_price_38 (by decide) ?_
      refine lv_iload_n hx hb dX11_price_39 rfl (lv_at hl 0 rfl) ?_
      refine lv_aload_n hx hb dX11_price_40 rfl (lv_at hl 1 rfl) ?_
      refine pz_gS (a := 41) hE hH fr_X11_62 qk_0 (by decide) dX11_price_41 ?_
      refine pz_gS (a := 46) hE hH fr_X11_248 qk_41 (by decide) dX11_price_44 ?_
      refine lv_iload_n hx hb dX11_price_47 rfl (lv_at hl 2 rfl) ?_
      obtain ⟨v5, ev5, hf⟩ := st_bd hf
      refine pz_iald hE hH qk_46 ev5 dX11_price_48 ?_
      refine lv_isub hx hb dX11_price_49 ?_
      refine pz_maxI (rest := []) hE (q_in _ 976 (by decide +kernel) rfl) (q_in _ 549 (by decide +kernel) rfl) (q_in _ 17 (by decide +kernel) rfl) (q_in _ 550 (by decide +kernel) rfl) hl.1 (by decide) (Nat.le_of_ble_eq_true rfl) (Nat.zero_le _) (Nat.zero_le _) dX11_price_50 ?_
      replace hf := Option.some.inj hf
      obtain ⟨rfl, rfl⟩ := qi2 hf
      exact pz_reti hE hrt hlk hH dX11_price_53
    · replace hf := (if_pos hc).symm.trans hf
      refine lv_iconst (v := (-1)) hx hb dX11_price_15 (by decide) ?_
      replace hf := Option.some.inj hf
      obtain ⟨rfl, rfl⟩ := qi2 hf
      exact pz_reti hE hrt hlk hH dX11_price_16

theorem dX11_isSortOfMorning_0 : decode cX11_isSortOfMorning 0 = .ok (.aload_n 0, 1) := by decide +kernel
theorem dX11_isSortOfMorning_1 : decode cX11_isSortOfMorning 1 = .ok (.getfield 52, 3) := by decide +kernel
theorem dX11_isSortOfMorning_4 : decode cX11_isSortOfMorning 4 = .ok (.invokevirtual 166, 3) := by decide +kernel
theorem dX11_isSortOfMorning_7 : decode cX11_isSortOfMorning 7 = .ok (.ifCond .eq 24, 3) := by decide +kernel
theorem dX11_isSortOfMorning_10 : decode cX11_isSortOfMorning 10 = .ok (.iload_n 1, 1) := by decide +kernel
theorem dX11_isSortOfMorning_11 : decode cX11_isSortOfMorning 11 = .ok (.aload_n 0, 1) := by decide +kernel
theorem dX11_isSortOfMorning_12 : decode cX11_isSortOfMorning 12 = .ok (.getfield 52, 3) := by decide +kernel
theorem dX11_isSortOfMorning_15 : decode cX11_isSortOfMorning 15 = .ok (.getfield 169, 3) := by decide +kernel
theorem dX11_isSortOfMorning_18 : decode cX11_isSortOfMorning 18 = .ok (.getfield 137, 3) := by decide +kernel
theorem dX11_isSortOfMorning_21 : decode cX11_isSortOfMorning 21 = .ok (.invokestatic 123, 3) := by decide +kernel
theorem dX11_isSortOfMorning_24 : decode cX11_isSortOfMorning 24 = .ok (.ifCond .eq 7, 3) := by decide +kernel
theorem dX11_isSortOfMorning_27 : decode cX11_isSortOfMorning 27 = .ok (.iconst 1, 1) := by decide +kernel
theorem dX11_isSortOfMorning_28 : decode cX11_isSortOfMorning 28 = .ok (.goto 4, 3) := by decide +kernel
theorem dX11_isSortOfMorning_31 : decode cX11_isSortOfMorning 31 = .ok (.iconst 0, 1) := by decide +kernel
theorem dX11_isSortOfMorning_32 : decode cX11_isSortOfMorning 32 = .ok (.ireturn, 1) := by decide +kernel
set_option maxRecDepth 100000 in
set_option maxHeartbeats 4000000 in
theorem tz_X11_isSortOfMorning (l : Launch) (X : qX) {p0 : Int32} {M : qM} {r0 : Bool} (hf : jTc_isSortOfMorning p0 M = some r0) : q_Met l X yX11_isSortOfMorning cX11_isSortOfMorning 2 (some .boolean) (2) M [.ref (X.1 0), .int p0] (q_Qi X (b2i r0) M) := by
  refine q_enter (by decide) (Nat.le_of_ble_eq_true rfl) ?_
  intro p e s m args below meth c hE hrt hlk H locs hH ls hl
  have hx := hE.1
  have hb := hE.2.1
  have hl : lv_has ls 2 [(0, .ref (X.1 0)), (1, .int p0)] := hl
  unfold jTc_isSortOfMorning at hf
  refine lv_aload_n hx hb dX11_isSortOfMorning_0 rfl (lv_at hl 0 rfl) ?_
  refine pz_gS (a := 33) hE hH fr_X11_52 qk_0 (by decide) dX11_isSortOfMorning_1 ?_
  refine q_calli (q_runV (As := []) (rest := []) hE hH (tz_X1_began l X (by decide) (hf := rfl)) kv_X11_166 qk_33 (by decide) rfl hl.1 rfl (Nat.le_of_ble_eq_true rfl) dX11_isSortOfMorning_4) hH (fun H locs hH => ?_)
  obtain ⟨z1, hr, hf⟩ := st_bd hf
  have hJ : ∀ (ls : Array Slot) (H : Heap) (locs : List Loc), q_H X M s H locs → lv_has ls 2 [] → W p l e (q_rm (2)) s m args below meth c H locs 0 0 (MQ below (q_Qi X (b2i r0) M) args s 0 0 (q_A X)) (F0 m 32 ls [.int (b2i z1)]) := by
    intro ls H locs hH hl
    replace hf := Option.some.inj hf
    subst hf
    exact pz_retz hE hrt hlk hH rfl dX11_isSortOfMorning_32
  clear hf
  replace hf := hr
  refine lv_if_eq (tgt := 31) hx hb dX11_isSortOfMorning_7 (by decide) (fun hc => ?_) (fun hc => ?_)
  · replace hf := (if_pos hc).symm.trans hf
    refine lv_iconst (v := 0) hx hb dX11_isSortOfMorning_31 (by decide) ?_
    replace hf := Option.some.inj hf
    subst hf
    exact hJ ls H locs hH (lv_sub hl [] rfl)
  · replace hf := (if_neg hc).symm.trans hf
    refine lv_iload_n hx hb dX11_isSortOfMorning_10 rfl (lv_at hl 1 rfl) ?_
    refine lv_aload_n hx hb dX11_isSortOfMorning_11 rfl (lv_at hl 0 rfl) ?_
    refine pz_gS (a := 33) hE hH fr_X11_52 qk_0 (by decide) dX11_isSortOfMorning_12 ?_
    obtain ⟨a2, ea2, hf⟩ := st_bd hf
    refine pz_gR hE hH fr_X11_169 qk_33 ea2 dX11_isSortOfMorning_15 (fun ha2 => ?_)
    replace ha2 : q_vil a2 = true := ha2
    refine pz_gI hE hH fr_X11_137 (q_vil_0 ha2) dX11_isSortOfMorning_18 ?_
    refine q_calli (q_runS (As := [.int p0, .int (M.1 a2 1)]) (rest := []) hE hH (tz_X11_isOf l X (M := M) (hf := rfl)) ks_X11_123 (by decide) rfl hl.1 rfl (Nat.le_of_ble_eq_true rfl) dX11_isSortOfMorning_21) hH (fun H locs hH => ?_)
    refine lv_if_eq (tgt := 31) hx hb dX11_isSortOfMorning_24 (by decide) (fun hc => ?_) (fun hc => ?_)
    · replace hf := (if_pos hc).symm.trans hf
      refine lv_iconst (v := 0) hx hb dX11_isSortOfMorning_31 (by decide) ?_
      replace hf := Option.some.inj hf
      subst hf
      exact hJ ls H locs hH (lv_sub hl [] rfl)
    · replace hf := (if_neg hc).symm.trans hf
      refine lv_iconst (v := 1) hx hb dX11_isSortOfMorning_27 (by decide) ?_
      refine lv_goto (tgt := 32) hx hb dX11_isSortOfMorning_28 (by decide) ?_
      replace hf := Option.some.inj hf
      subst hf
      exact hJ ls H locs hH (lv_sub hl [] rfl)

theorem dX11_strangers_0 : decode cX11_strangers 0 = .ok (.aload_n 0, 1) := by decide +kernel
theorem dX11_strangers_1 : decode cX11_strangers 1 = .ok (.iload_n 1, 1) := by decide +kernel
theorem dX11_strangers_2 : decode cX11_strangers 2 = .ok (.invokevirtual 272, 3) := by decide +kernel
theorem dX11_strangers_5 : decode cX11_strangers 5 = .ok (.ifCond .eq 10, 3) := by decide +kernel
theorem dX11_strangers_8 : decode cX11_strangers 8 = .ok (.iload_n 2, 1) := by decide +kernel
theorem dX11_strangers_9 : decode cX11_strangers 9 = .ok (.invokestatic 239, 3) := by decide +kernel
theorem dX11_strangers_12 : decode cX11_strangers 12 = .ok (.ifCond .ne 6, 3) := by decide +kernel
theorem dX11_strangers_15 : decode cX11_strangers 15 = .ok (.ldc 175, 2) := by decide +kernel
theorem dX11_strangers_17 : decode cX11_strangers 17 = .ok (.ireturn, 1) := by decide +kernel
theorem dX11_strangers_18 : decode cX11_strangers 18 = .ok (.aload_n 0, 1) := by decide +kernel
theorem dX11_strangers_19 : decode cX11_strangers 19 = .ok (.iload_n 2, 1) := by decide +kernel
theorem dX11_strangers_20 : decode cX11_strangers 20 = .ok (.invokevirtual 242, 3) := by decide +kernel
theorem dX11_strangers_23 : decode cX11_strangers 23 = .ok (.aload_n 0, 1) := by decide +kernel
theorem dX11_strangers_24 : decode cX11_strangers 24 = .ok (.getfield 62, 3) := by decide +kernel
theorem dX11_strangers_27 : decode cX11_strangers 27 = .ok (.invokevirtual 275, 3) := by decide +kernel
theorem dX11_strangers_30 : decode cX11_strangers 30 = .ok (.istore_n 3, 1) := by decide +kernel
theorem dX11_strangers_31 : decode cX11_strangers 31 = .ok (.aload_n 0, 1) := by decide +kernel
theorem dX11_strangers_32 : decode cX11_strangers 32 = .ok (.getfield 62, 3) := by decide +kernel
theorem dX11_strangers_35 : decode cX11_strangers 35 = .ok (.getfield 278, 3) := by decide +kernel
theorem dX11_strangers_38 : decode cX11_strangers 38 = .ok (.iload_n 1, 1) := by decide +kernel
theorem dX11_strangers_39 : decode cX11_strangers 39 = .ok (.putfield 281, 3) := by decide +kernel
theorem dX11_strangers_42 : decode cX11_strangers 42 = .ok (.aload_n 0, 1) := by decide +kernel
theorem dX11_strangers_43 : decode cX11_strangers 43 = .ok (.getfield 62, 3) := by decide +kernel
theorem dX11_strangers_46 : decode cX11_strangers 46 = .ok (.iload_n 2, 1) := by decide +kernel
theorem dX11_strangers_47 : decode cX11_strangers 47 = .ok (.aload_n 0, 1) := by decide +kernel
theorem dX11_strangers_48 : decode cX11_strangers 48 = .ok (.getfield 45, 3) := by decide +kernel
theorem dX11_strangers_51 : decode cX11_strangers 51 = .ok (.invokevirtual 284, 3) := by decide +kernel
theorem dX11_strangers_54 : decode cX11_strangers 54 = .ok (.aload_n 0, 1) := by decide +kernel
theorem dX11_strangers_55 : decode cX11_strangers 55 = .ok (.getfield 62, 3) := by decide +kernel
theorem dX11_strangers_58 : decode cX11_strangers 58 = .ok (.invokevirtual 275, 3) := by decide +kernel
theorem dX11_strangers_61 : decode cX11_strangers 61 = .ok (.iload_n 3, 1) := by decide +kernel
theorem dX11_strangers_62 : decode cX11_strangers 62 = .ok (.isub, 1) := by decide +kernel
theorem dX11_strangers_63 : decode cX11_strangers 63 = .ok (.ireturn, 1) := by decide +kernel
set_option maxRecDepth 100000 in
set_option maxHeartbeats 4000000 in
theorem tz_X11_strangers (l : Launch) (X : qX) {p0 : Int32} {p1 : Int32} {M MR : qM} {r0 : Int32} (hf : jTc_strangers p0 p1 M = some (r0, MR)) : q_Met l X yX11_strangers cX11_strangers 4 (some .int) (8) M [.ref (X.1 0), .int p0, .int p1] (q_Qi X r0 MR) := by
  refine q_enter (by decide) (Nat.le_of_ble_eq_true rfl) ?_
  intro p e s m args below meth c hE hrt hlk H locs hH ls hl
  have hx := hE.1
  have hb := hE.2.1
  have hl : lv_has ls 4 [(0, .ref (X.1 0)), (1, .int p0), (2, .int p1)] := hl
  unfold jTc_strangers at hf
  refine lv_aload_n hx hb dX11_strangers_0 rfl (lv_at hl 0 rfl) ?_
  refine lv_iload_n hx hb dX11_strangers_1 rfl (lv_at hl 1 rfl) ?_
  obtain ⟨r1, er1, hf⟩ := st_bd hf
  refine q_calli (q_runV (As := [.int p0]) (rest := []) hE hH (tz_X11_isSortOfMorning l X (hf := er1)) kv_X11_272 qk_0 (by decide) rfl hl.1 rfl (Nat.le_of_ble_eq_true rfl) dX11_strangers_2) hH (fun H locs hH => ?_)
  refine lv_if_eq (tgt := 15) hx hb dX11_strangers_5 (by decide) (fun hc => ?_) (fun hc => ?_)
  · replace hf := (if_pos hc).symm.trans hf
    refine pz_ldc (v := (-1000000)) hE (q_in _ 768 (by decide +kernel) rfl) dX11_strangers_15 ?_
    replace hf := Option.some.inj hf
    obtain ⟨rfl, rfl⟩ := qi2 hf
    exact pz_reti hE hrt hlk hH dX11_strangers_17
  · replace hf := (if_neg hc).symm.trans hf
    refine lv_iload_n hx hb dX11_strangers_8 rfl (lv_at hl 2 rfl) ?_
    refine q_calli (q_runS (As := [.int p1]) (rest := []) hE hH (tz_X11_isSeeds l X (M := M) (hf := rfl)) ks_X11_239 (by decide) rfl hl.1 rfl (Nat.le_of_ble_eq_true rfl) dX11_strangers_9) hH (fun H locs hH => ?_)
    refine lv_if_ne (tgt := 18) hx hb dX11_strangers_12 (by decide) (fun hc => ?_) (fun hc => ?_)
    · replace hf := (if_neg hc).symm.trans hf
      refine lv_aload_n hx hb dX11_strangers_18 rfl (lv_at hl 0 rfl) ?_
      refine lv_iload_n hx hb dX11_strangers_19 rfl (lv_at hl 2 rfl) ?_
      obtain ⟨M2, eM2, hf⟩ := st_bd hf
      refine q_callv (q_runV (As := [.int p1]) (rest := []) hE hH (tz_X11_runPlain l X (hf := eM2)) kv_X11_242 qk_0 (by decide) rfl hl.1 rfl (Nat.le_of_ble_eq_true rfl) dX11_strangers_20) hH (fun H locs hH => ?_)
      refine lv_aload_n hx hb dX11_strangers_23 rfl (lv_at hl 0 rfl) ?_
      refine pz_gS (a := 41) hE hH fr_X11_62 qk_0 (by decide) dX11_strangers_24 ?_
      obtain ⟨r3, er3, hf⟩ := st_bd hf
      refine q_calli (q_runV (As := []) (rest := []) hE hH (tz_X3_late l X (hf := er3)) kv_X11_275 qk_41 (by decide) rfl hl.1 rfl (Nat.le_of_ble_eq_true rfl) dX11_strangers_27) hH (fun H locs hH => ?_)
      refine lv_istore_n (lv' := [(3, .int r3), (0, .ref (X.1 0)), (1, .int p0), (2, .int p1)]) hx hb dX11_strangers_30 rfl hl (by decide) rfl (fun ls hl => ?_)
      refine lv_aload_n hx hb dX11_strangers_31 rfl (lv_at hl 1 rfl) ?_
      refine pz_gS (a := 41) hE hH fr_X11_62 qk_0 (by decide) dX11_strangers_32 ?_
      refine pz_gS (a := 42) hE hH fr_X11_278 qk_41 (by decide) dX11_strangers_35 ?_
      refine lv_iload_n hx hb dX11_strangers_38 rfl (lv_at hl 2 rfl) ?_
      obtain ⟨M4, eM4, hf⟩ := st_lty hf
      refine pz_pI hE hH fw_X11_281 qk_42  eM4 dX11_strangers_39 (fun H locs hH => ?_)
      refine lv_aload_n hx hb dX11_strangers_42 rfl (lv_at hl 1 rfl) ?_
      refine pz_gS (a := 41) hE hH fr_X11_62 qk_0 (by decide) dX11_strangers_43 ?_
      refine lv_iload_n hx hb dX11_strangers_46 rfl (lv_at hl 3 rfl) ?_
      refine lv_aload_n hx hb dX11_strangers_47 rfl (lv_at hl 1 rfl) ?_
      refine pz_gS (a := 6) hE hH fr_X11_45 qk_0 (by decide) dX11_strangers_48 ?_
      obtain ⟨M5, eM5, hf⟩ := st_bd hf
      refine q_callv (q_runV (As := [.int p1, .ref (X.1 6)]) (rest := []) hE hH (tz_X3_run l X (hf := eM5)) kv_X11_284 qk_41 (by decide) rfl hl.1 rfl (Nat.le_of_ble_eq_true rfl) dX11_strangers_51) hH (fun H locs hH => ?_)
      refine lv_aload_n hx hb dX11_strangers_54 rfl (lv_at hl 1 rfl) ?_
      refine pz_gS (a := 41) hE hH fr_X11_62 qk_0 (by decide) dX11_strangers_55 ?_
      obtain ⟨r6, er6, hf⟩ := st_bd hf
      refine q_calli (q_runV (As := []) (rest := []) hE hH (tz_X3_late l X (hf := er6)) kv_X11_275 qk_41 (by decide) rfl hl.1 rfl (Nat.le_of_ble_eq_true rfl) dX11_strangers_58) hH (fun H locs hH => ?_)
      refine lv_iload_n hx hb dX11_strangers_61 rfl (lv_at hl 0 rfl) ?_
      refine lv_isub hx hb dX11_strangers_62 ?_
      replace hf := Option.some.inj hf
      obtain ⟨rfl, rfl⟩ := qi2 hf
      exact pz_reti hE hrt hlk hH dX11_strangers_63
    · replace hf := (if_pos hc).symm.trans hf
      refine pz_ldc (v := (-1000000)) hE (q_in _ 768 (by decide +kernel) rfl) dX11_strangers_15 ?_
      replace hf := Option.some.inj hf
      obtain ⟨rfl, rfl⟩ := qi2 hf
      exact pz_reti hE hrt hlk hH dX11_strangers_17

theorem dX11_isMinuteOrNone_0 : decode cX11_isMinuteOrNone 0 = .ok (.iload_n 0, 1) := by decide +kernel
theorem dX11_isMinuteOrNone_1 : decode cX11_isMinuteOrNone 1 = .ok (.iconst (-1), 1) := by decide +kernel
theorem dX11_isMinuteOrNone_2 : decode cX11_isMinuteOrNone 2 = .ok (.if_icmp .eq 12, 3) := by decide +kernel
theorem dX11_isMinuteOrNone_5 : decode cX11_isMinuteOrNone 5 = .ok (.iload_n 0, 1) := by decide +kernel
theorem dX11_isMinuteOrNone_6 : decode cX11_isMinuteOrNone 6 = .ok (.bipush 61, 2) := by decide +kernel
theorem dX11_isMinuteOrNone_8 : decode cX11_isMinuteOrNone 8 = .ok (.invokestatic 123, 3) := by decide +kernel
theorem dX11_isMinuteOrNone_11 : decode cX11_isMinuteOrNone 11 = .ok (.ifCond .eq 7, 3) := by decide +kernel
theorem dX11_isMinuteOrNone_14 : decode cX11_isMinuteOrNone 14 = .ok (.iconst 1, 1) := by decide +kernel
theorem dX11_isMinuteOrNone_15 : decode cX11_isMinuteOrNone 15 = .ok (.goto 4, 3) := by decide +kernel
theorem dX11_isMinuteOrNone_18 : decode cX11_isMinuteOrNone 18 = .ok (.iconst 0, 1) := by decide +kernel
theorem dX11_isMinuteOrNone_19 : decode cX11_isMinuteOrNone 19 = .ok (.ireturn, 1) := by decide +kernel
set_option maxRecDepth 100000 in
set_option maxHeartbeats 4000000 in
theorem tz_X11_isMinuteOrNone (l : Launch) (X : qX) {p0 : Int32} {M : qM} {r0 : Bool} (hf : jTc_isMinuteOrNone p0 = r0) : q_Met l X yX11_isMinuteOrNone cX11_isMinuteOrNone 1 (some .boolean) (2) M [.int p0] (q_Qi X (b2i r0) M) := by
  refine q_enter (by decide) (Nat.le_of_ble_eq_true rfl) ?_
  intro p e s m args below meth c hE hrt hlk H locs hH ls hl
  have hx := hE.1
  have hb := hE.2.1
  have hl : lv_has ls 1 [(0, .int p0)] := hl
  unfold jTc_isMinuteOrNone at hf
  refine lv_iload_n hx hb dX11_isMinuteOrNone_0 rfl (lv_at hl 0 rfl) ?_
  refine lv_iconst (v := (-1)) hx hb dX11_isMinuteOrNone_1 (by decide) ?_
  obtain ⟨z1, hr, hf⟩ := st_ltx hf
  have hJ : ∀ (ls : Array Slot) (H : Heap) (locs : List Loc), q_H X M s H locs → lv_has ls 1 [] → W p l e (q_rm (2)) s m args below meth c H locs 0 0 (MQ below (q_Qi X (b2i r0) M) args s 0 0 (q_A X)) (F0 m 19 ls [.int (b2i z1)]) := by
    intro ls H locs hH hl
    subst hf
    exact pz_retz hE hrt hlk hH rfl dX11_isMinuteOrNone_19
  clear hf
  replace hf := hr
  refine lv_icmp_eq (tgt := 14) hx hb dX11_isMinuteOrNone_2 (by decide) (fun hc => ?_) (fun hc => ?_)
  · replace hf := (if_pos hc).symm.trans hf
    refine lv_iconst (v := 1) hx hb dX11_isMinuteOrNone_14 (by decide) ?_
    refine lv_goto (tgt := 19) hx hb dX11_isMinuteOrNone_15 (by decide) ?_
    subst hf
    exact hJ ls H locs hH (lv_sub hl [] rfl)
  · replace hf := (if_neg hc).symm.trans hf
    refine lv_iload_n hx hb dX11_isMinuteOrNone_5 rfl (lv_at hl 0 rfl) ?_
    refine lv_bipush (v := 61) hx hb dX11_isMinuteOrNone_6 (by decide) ?_
    refine q_calli (q_runS (As := [.int p0, .int 61]) (rest := []) hE hH (tz_X11_isOf l X (M := M) (hf := rfl)) ks_X11_123 (by decide) rfl hl.1 rfl (Nat.le_of_ble_eq_true rfl) dX11_isMinuteOrNone_8) hH (fun H locs hH => ?_)
    refine lv_if_eq (tgt := 18) hx hb dX11_isMinuteOrNone_11 (by decide) (fun hc => ?_) (fun hc => ?_)
    · replace hf := (if_pos hc).symm.trans hf
      refine lv_iconst (v := 0) hx hb dX11_isMinuteOrNone_18 (by decide) ?_
      subst hf
      exact hJ ls H locs hH (lv_sub hl [] rfl)
    · replace hf := (if_neg hc).symm.trans hf
      refine lv_iconst (v := 1) hx hb dX11_isMinuteOrNone_14 (by decide) ?_
      refine lv_goto (tgt := 19) hx hb dX11_isMinuteOrNone_15 (by decide) ?_
      subst hf
      exact hJ ls H locs hH (lv_sub hl [] rfl)

theorem dX11_ends_0 : decode cX11_ends 0 = .ok (.aload_n 0, 1) := by decide +kernel
theorem dX11_ends_1 : decode cX11_ends 1 = .ok (.getfield 52, 3) := by decide +kernel
theorem dX11_ends_4 : decode cX11_ends 4 = .ok (.invokevirtual 166, 3) := by decide +kernel
theorem dX11_ends_7 : decode cX11_ends 7 = .ok (.ifCond .eq 17, 3) := by decide +kernel
theorem dX11_ends_10 : decode cX11_ends 10 = .ok (.iload_n 2, 1) := by decide +kernel
theorem dX11_ends_11 : decode cX11_ends 11 = .ok (.invokestatic 239, 3) := by decide +kernel
theorem dX11_ends_14 : decode cX11_ends 14 = .ok (.ifCond .eq 10, 3) := by decide +kernel
theorem dX11_ends_17 : decode cX11_ends 17 = .ok (.iload_n 1, 1) := by decide +kernel
theorem dX11_ends_18 : decode cX11_ends 18 = .ok (.invokestatic 288, 3) := by decide +kernel
theorem dX11_ends_21 : decode cX11_ends 21 = .ok (.ifCond .ne 5, 3) := by decide +kernel
theorem dX11_ends_24 : decode cX11_ends 24 = .ok (.iconst (-1), 1) := by decide +kernel
theorem dX11_ends_25 : decode cX11_ends 25 = .ok (.ireturn, 1) := by decide +kernel
theorem dX11_ends_26 : decode cX11_ends 26 = .ok (.aload_n 0, 1) := by decide +kernel
theorem dX11_ends_27 : decode cX11_ends 27 = .ok (.iload_n 2, 1) := by decide +kernel
theorem dX11_ends_28 : decode cX11_ends 28 = .ok (.invokevirtual 242, 3) := by decide +kernel
theorem dX11_ends_31 : decode cX11_ends 31 = .ok (.aload_n 0, 1) := by decide +kernel
theorem dX11_ends_32 : decode cX11_ends 32 = .ok (.getfield 62, 3) := by decide +kernel
theorem dX11_ends_35 : decode cX11_ends 35 = .ok (.iload_n 1, 1) := by decide +kernel
theorem dX11_ends_36 : decode cX11_ends 36 = .ok (.invokevirtual 291, 3) := by decide +kernel
theorem dX11_ends_39 : decode cX11_ends 39 = .ok (.ireturn, 1) := by decide +kernel
set_option maxRecDepth 100000 in
set_option maxHeartbeats 4000000 in
theorem tz_X11_ends (l : Launch) (X : qX) {p0 : Int32} {p1 : Int32} {M MR : qM} {r0 : Int32} (hf : jTc_ends p0 p1 M = some (r0, MR)) : q_Met l X yX11_ends cX11_ends 3 (some .int) (8) M [.ref (X.1 0), .int p0, .int p1] (q_Qi X r0 MR) := by
  refine q_enter (by decide) (Nat.le_of_ble_eq_true rfl) ?_
  intro p e s m args below meth c hE hrt hlk H locs hH ls hl
  have hx := hE.1
  have hb := hE.2.1
  have hl : lv_has ls 3 [(0, .ref (X.1 0)), (1, .int p0), (2, .int p1)] := hl
  unfold jTc_ends at hf
  refine lv_aload_n hx hb dX11_ends_0 rfl (lv_at hl 0 rfl) ?_
  refine pz_gS (a := 33) hE hH fr_X11_52 qk_0 (by decide) dX11_ends_1 ?_
  refine q_calli (q_runV (As := []) (rest := []) hE hH (tz_X1_began l X (by decide) (hf := rfl)) kv_X11_166 qk_33 (by decide) rfl hl.1 rfl (Nat.le_of_ble_eq_true rfl) dX11_ends_4) hH (fun H locs hH => ?_)
  refine lv_if_eq (tgt := 24) hx hb dX11_ends_7 (by decide) (fun hc => ?_) (fun hc => ?_)
  · replace hf := (if_pos hc).symm.trans hf
    refine lv_iconst (v := (-1)) hx hb dX11_ends_24 (by decide) ?_
    replace hf := Option.some.inj hf
    obtain ⟨rfl, rfl⟩ := qi2 hf
    exact pz_reti hE hrt hlk hH dX11_ends_25
  · replace hf := (if_neg hc).symm.trans hf
    refine lv_iload_n hx hb dX11_ends_10 rfl (lv_at hl 2 rfl) ?_
    refine q_calli (q_runS (As := [.int p1]) (rest := []) hE hH (tz_X11_isSeeds l X (M := M) (hf := rfl)) ks_X11_239 (by decide) rfl hl.1 rfl (Nat.le_of_ble_eq_true rfl) dX11_ends_11) hH (fun H locs hH => ?_)
    refine lv_if_eq (tgt := 24) hx hb dX11_ends_14 (by decide) (fun hc => ?_) (fun hc => ?_)
    · replace hf := (if_pos hc).symm.trans hf
      refine lv_iconst (v := (-1)) hx hb dX11_ends_24 (by decide) ?_
      replace hf := Option.some.inj hf
      obtain ⟨rfl, rfl⟩ := qi2 hf
      exact pz_reti hE hrt hlk hH dX11_ends_25
    · replace hf := (if_neg hc).symm.trans hf
      refine lv_iload_n hx hb dX11_ends_17 rfl (lv_at hl 1 rfl) ?_
      refine q_calli (q_runS (As := [.int p0]) (rest := []) hE hH (tz_X11_isMinuteOrNone l X (M := M) (hf := rfl)) ks_X11_288 (by decide) rfl hl.1 rfl (Nat.le_of_ble_eq_true rfl) dX11_ends_18) hH (fun H locs hH => ?_)
      refine lv_if_ne (tgt := 26) hx hb dX11_ends_21 (by decide) (fun hc => ?_) (fun hc => ?_)
      · replace hf := (if_neg hc).symm.trans hf
        refine lv_aload_n hx hb dX11_ends_26 rfl (lv_at hl 0 rfl) ?_
        refine lv_iload_n hx hb dX11_ends_27 rfl (lv_at hl 2 rfl) ?_
        obtain ⟨M1, eM1, hf⟩ := st_bd hf
        refine q_callv (q_runV (As := [.int p1]) (rest := []) hE hH (tz_X11_runPlain l X (hf := eM1)) kv_X11_242 qk_0 (by decide) rfl hl.1 rfl (Nat.le_of_ble_eq_true rfl) dX11_ends_28) hH (fun H locs hH => ?_)
        refine lv_aload_n hx hb dX11_ends_31 rfl (lv_at hl 0 rfl) ?_
        refine pz_gS (a := 41) hE hH fr_X11_62 qk_0 (by decide) dX11_ends_32 ?_
        refine lv_iload_n hx hb dX11_ends_35 rfl (lv_at hl 1 rfl) ?_
        obtain ⟨r2, er2, hf⟩ := st_bd hf
        refine q_calli (q_runV (As := [.int p0]) (rest := []) hE hH (tz_X3_endsIn l X (hf := er2)) kv_X11_291 qk_41 (by decide) rfl hl.1 rfl (Nat.le_of_ble_eq_true rfl) dX11_ends_36) hH (fun H locs hH => ?_)
        replace hf := Option.some.inj hf
        obtain ⟨rfl, rfl⟩ := qi2 hf
        exact pz_reti hE hrt hlk hH dX11_ends_39
      · replace hf := (if_pos hc).symm.trans hf
        refine lv_iconst (v := (-1)) hx hb dX11_ends_24 (by decide) ?_
        replace hf := Option.some.inj hf
        obtain ⟨rfl, rfl⟩ := qi2 hf
        exact pz_reti hE hrt hlk hH dX11_ends_25

theorem dX11_both_0 : decode cX11_both 0 = .ok (.aload_n 0, 1) := by decide +kernel
theorem dX11_both_1 : decode cX11_both 1 = .ok (.iload_n 1, 1) := by decide +kernel
theorem dX11_both_2 : decode cX11_both 2 = .ok (.iload_n 2, 1) := by decide +kernel
theorem dX11_both_3 : decode cX11_both 3 = .ok (.invokevirtual 260, 3) := by decide +kernel
theorem dX11_both_6 : decode cX11_both 6 = .ok (.ifCond .eq 10, 3) := by decide +kernel
theorem dX11_both_9 : decode cX11_both 9 = .ok (.iload_n 3, 1) := by decide +kernel
theorem dX11_both_10 : decode cX11_both 10 = .ok (.invokestatic 239, 3) := by decide +kernel
theorem dX11_both_13 : decode cX11_both 13 = .ok (.ifCond .ne 5, 3) := by decide +kernel
theorem dX11_both_16 : decode cX11_both 16 = .ok (.iconst (-1), 1) := by decide +kernel
theorem dX11_both_17 : decode cX11_both 17 = .ok (.ireturn, 1) := by decide +kernel
theorem dX11_both_18 : decode cX11_both 18 = .ok (.aload_n 0, 1) := by decide +kernel
theorem dX11_both_19 : decode cX11_both 19 = .ok (.iload_n 3, 1) := by decide +kernel
theorem dX11_both_20 : decode cX11_both 20 = .ok (.invokevirtual 242, 3) := by decide +kernel
theorem dX11_both_23 : decode cX11_both 23 = .ok (.aload_n 0, 1) := by decide +kernel
theorem dX11_both_24 : decode cX11_both 24 = .ok (.getfield 62, 3) := by decide +kernel
theorem dX11_both_27 : decode cX11_both 27 = .ok (.iload_n 1, 1) := by decide +kernel
theorem dX11_both_28 : decode cX11_both 28 = .ok (.iload_n 2, 1) := by decide +kernel
theorem dX11_both_29 : decode cX11_both 29 = .ok (.invokevirtual 294, 3) := by decide +kernel
theorem dX11_both_32 : decode cX11_both 32 = .ok (.ireturn, 1) := by decide +kernel
set_option maxRecDepth 100000 in
set_option maxHeartbeats 4000000 in
theorem tz_X11_both (l : Launch) (X : qX) {p0 : Int32} {p1 : Int32} {p2 : Int32} {M MR : qM} {r0 : Int32} (hf : jTc_both p0 p1 p2 M = some (r0, MR)) : q_Met l X yX11_both cX11_both 4 (some .int) (8) M [.ref (X.1 0), .int p0, .int p1, .int p2] (q_Qi X r0 MR) := by
  refine q_enter (by decide) (Nat.le_of_ble_eq_true rfl) ?_
  intro p e s m args below meth c hE hrt hlk H locs hH ls hl
  have hx := hE.1
  have hb := hE.2.1
  have hl : lv_has ls 4 [(0, .ref (X.1 0)), (1, .int p0), (2, .int p1), (3, .int p2)] := hl
  unfold jTc_both at hf
  refine lv_aload_n hx hb dX11_both_0 rfl (lv_at hl 0 rfl) ?_
  refine lv_iload_n hx hb dX11_both_1 rfl (lv_at hl 1 rfl) ?_
  refine lv_iload_n hx hb dX11_both_2 rfl (lv_at hl 2 rfl) ?_
  obtain ⟨r1, er1, hf⟩ := st_bd hf
  refine q_calli (q_runV (As := [.int p0, .int p1]) (rest := []) hE hH (tz_X11_isPair l X (hf := er1)) kv_X11_260 qk_0 (by decide) rfl hl.1 rfl (Nat.le_of_ble_eq_true rfl) dX11_both_3) hH (fun H locs hH => ?_)
  refine lv_if_eq (tgt := 16) hx hb dX11_both_6 (by decide) (fun hc => ?_) (fun hc => ?_)
  · replace hf := (if_pos hc).symm.trans hf
    refine lv_iconst (v := (-1)) hx hb dX11_both_16 (by decide) ?_
    replace hf := Option.some.inj hf
    obtain ⟨rfl, rfl⟩ := qi2 hf
    exact pz_reti hE hrt hlk hH dX11_both_17
  · replace hf := (if_neg hc).symm.trans hf
    refine lv_iload_n hx hb dX11_both_9 rfl (lv_at hl 3 rfl) ?_
    refine q_calli (q_runS (As := [.int p2]) (rest := []) hE hH (tz_X11_isSeeds l X (M := M) (hf := rfl)) ks_X11_239 (by decide) rfl hl.1 rfl (Nat.le_of_ble_eq_true rfl) dX11_both_10) hH (fun H locs hH => ?_)
    refine lv_if_ne (tgt := 18) hx hb dX11_both_13 (by decide) (fun hc => ?_) (fun hc => ?_)
    · replace hf := (if_neg hc).symm.trans hf
      refine lv_aload_n hx hb dX11_both_18 rfl (lv_at hl 0 rfl) ?_
      refine lv_iload_n hx hb dX11_both_19 rfl (lv_at hl 3 rfl) ?_
      obtain ⟨M2, eM2, hf⟩ := st_bd hf
      refine q_callv (q_runV (As := [.int p2]) (rest := []) hE hH (tz_X11_runPlain l X (hf := eM2)) kv_X11_242 qk_0 (by decide) rfl hl.1 rfl (Nat.le_of_ble_eq_true rfl) dX11_both_20) hH (fun H locs hH => ?_)
      refine lv_aload_n hx hb dX11_both_23 rfl (lv_at hl 0 rfl) ?_
      refine pz_gS (a := 41) hE hH fr_X11_62 qk_0 (by decide) dX11_both_24 ?_
      refine lv_iload_n hx hb dX11_both_27 rfl (lv_at hl 1 rfl) ?_
      refine lv_iload_n hx hb dX11_both_28 rfl (lv_at hl 2 rfl) ?_
      obtain ⟨r3, er3, hf⟩ := st_bd hf
      refine q_calli (q_runV (As := [.int p0, .int p1]) (rest := []) hE hH (tz_X3_hadByBoth l X (hf := er3)) kv_X11_294 qk_41 (by decide) rfl hl.1 rfl (Nat.le_of_ble_eq_true rfl) dX11_both_29) hH (fun H locs hH => ?_)
      replace hf := Option.some.inj hf
      obtain ⟨rfl, rfl⟩ := qi2 hf
      exact pz_reti hE hrt hlk hH dX11_both_32
    · replace hf := (if_pos hc).symm.trans hf
      refine lv_iconst (v := (-1)) hx hb dX11_both_16 (by decide) ?_
      replace hf := Option.some.inj hf
      obtain ⟨rfl, rfl⟩ := qi2 hf
      exact pz_reti hE hrt hlk hH dX11_both_17

theorem dX11_kin_0 : decode cX11_kin 0 = .ok (.aload_n 0, 1) := by decide +kernel
theorem dX11_kin_1 : decode cX11_kin 1 = .ok (.iload_n 1, 1) := by decide +kernel
theorem dX11_kin_2 : decode cX11_kin 2 = .ok (.iload_n 2, 1) := by decide +kernel
theorem dX11_kin_3 : decode cX11_kin 3 = .ok (.invokevirtual 260, 3) := by decide +kernel
theorem dX11_kin_6 : decode cX11_kin 6 = .ok (.ifCond .eq 10, 3) := by decide +kernel
theorem dX11_kin_9 : decode cX11_kin 9 = .ok (.iload_n 3, 1) := by decide +kernel
theorem dX11_kin_10 : decode cX11_kin 10 = .ok (.invokestatic 239, 3) := by decide +kernel
theorem dX11_kin_13 : decode cX11_kin 13 = .ok (.ifCond .ne 6, 3) := by decide +kernel
theorem dX11_kin_16 : decode cX11_kin 16 = .ok (.ldc 175, 2) := by decide +kernel
theorem dX11_kin_18 : decode cX11_kin 18 = .ok (.ireturn, 1) := by decide +kernel
theorem dX11_kin_19 : decode cX11_kin 19 = .ok (.aload_n 0, 1) := by decide +kernel
theorem dX11_kin_20 : decode cX11_kin 20 = .ok (.iload_n 3, 1) := by decide +kernel
theorem dX11_kin_21 : decode cX11_kin 21 = .ok (.invokevirtual 242, 3) := by decide +kernel
theorem dX11_kin_24 : decode cX11_kin 24 = .ok (.aload_n 0, 1) := by decide +kernel
theorem dX11_kin_25 : decode cX11_kin 25 = .ok (.getfield 62, 3) := by decide +kernel
theorem dX11_kin_28 : decode cX11_kin 28 = .ok (.getfield 248, 3) := by decide +kernel
theorem dX11_kin_31 : decode cX11_kin 31 = .ok (.iload_n 1, 1) := by decide +kernel
theorem dX11_kin_32 : decode cX11_kin 32 = .ok (.iaload, 1) := by decide +kernel
theorem dX11_kin_33 : decode cX11_kin 33 = .ok (.aload_n 0, 1) := by decide +kernel
theorem dX11_kin_34 : decode cX11_kin 34 = .ok (.getfield 62, 3) := by decide +kernel
theorem dX11_kin_37 : decode cX11_kin 37 = .ok (.getfield 248, 3) := by decide +kernel
theorem dX11_kin_40 : decode cX11_kin 40 = .ok (.iload_n 2, 1) := by decide +kernel
theorem dX11_kin_41 : decode cX11_kin 41 = .ok (.iaload, 1) := by decide +kernel
theorem dX11_kin_42 : decode cX11_kin 42 = .ok (.iadd, 1) := by decide +kernel
theorem dX11_kin_43 : decode cX11_kin 43 = .ok (.istore 4, 2) := by decide +kernel
theorem dX11_kin_45 : decode cX11_kin 45 = .ok (.aload_n 0, 1) := by decide +kernel
theorem dX11_kin_46 : decode cX11_kin 46 = .ok (.iload_n 1, 1) := by decide +kernel
theorem dX11_kin_47 : decode cX11_kin 47 = .ok (.iload_n 3, 1) := by decide +kernel
theorem dX11_kin_48 : decode cX11_kin 48 = .ok (.invokevirtual 263, 3) := by decide +kernel
theorem dX11_kin_51 : decode cX11_kin 51 = .ok (.aload_n 0, 1) := by decide +kernel
theorem dX11_kin_52 : decode cX11_kin 52 = .ok (.getfield 62, 3) := by decide +kernel
theorem dX11_kin_55 : decode cX11_kin 55 = .ok (.getfield 248, 3) := by decide +kernel
theorem dX11_kin_58 : decode cX11_kin 58 = .ok (.iload_n 1, 1) := by decide +kernel
theorem dX11_kin_59 : decode cX11_kin 59 = .ok (.iaload, 1) := by decide +kernel
theorem dX11_kin_60 : decode cX11_kin 60 = .ok (.aload_n 0, 1) := by decide +kernel
theorem dX11_kin_61 : decode cX11_kin 61 = .ok (.getfield 62, 3) := by decide +kernel
theorem dX11_kin_64 : decode cX11_kin 64 = .ok (.getfield 248, 3) := by decide +kernel
theorem dX11_kin_67 : decode cX11_kin 67 = .ok (.iload_n 2, 1) := by decide +kernel
theorem dX11_kin_68 : decode cX11_kin 68 = .ok (.iaload, 1) := by decide +kernel
theorem dX11_kin_69 : decode cX11_kin 69 = .ok (.iadd, 1) := by decide +kernel
theorem dX11_kin_70 : decode cX11_kin 70 = .ok (.iload 4, 2) := by decide +kernel
theorem dX11_kin_72 : decode cX11_kin 72 = .ok (.isub, 1) := by decide +kernel
theorem dX11_kin_73 : decode cX11_kin 73 = .ok (.ireturn, 1) := by decide +kernel
set_option maxRecDepth 100000 in
set_option maxHeartbeats 4000000 in
theorem tz_X11_kin (l : Launch) (X : qX) {p0 : Int32} {p1 : Int32} {p2 : Int32} {M MR : qM} {r0 : Int32} (hf : jTc_kin p0 p1 p2 M = some (r0, MR)) : q_Met l X yX11_kin cX11_kin 5 (some .int) (8) M [.ref (X.1 0), .int p0, .int p1, .int p2] (q_Qi X r0 MR) := by
  refine q_enter (by decide) (Nat.le_of_ble_eq_true rfl) ?_
  intro p e s m args below meth c hE hrt hlk H locs hH ls hl
  have hx := hE.1
  have hb := hE.2.1
  have hl : lv_has ls 5 [(0, .ref (X.1 0)), (1, .int p0), (2, .int p1), (3, .int p2)] := hl
  unfold jTc_kin at hf
  refine lv_aload_n hx hb dX11_kin_0 rfl (lv_at hl 0 rfl) ?_
  refine lv_iload_n hx hb dX11_kin_1 rfl (lv_at hl 1 rfl) ?_
  refine lv_iload_n hx hb dX11_kin_2 rfl (lv_at hl 2 rfl) ?_
  obtain ⟨r1, er1, hf⟩ := st_bd hf
  refine q_calli (q_runV (As := [.int p0, .int p1]) (rest := []) hE hH (tz_X11_isPair l X (hf := er1)) kv_X11_260 qk_0 (by decide) rfl hl.1 rfl (Nat.le_of_ble_eq_true rfl) dX11_kin_3) hH (fun H locs hH => ?_)
  refine lv_if_eq (tgt := 16) hx hb dX11_kin_6 (by decide) (fun hc => ?_) (fun hc => ?_)
  · replace hf := (if_pos hc).symm.trans hf
    refine pz_ldc (v := (-1000000)) hE (q_in _ 768 (by decide +kernel) rfl) dX11_kin_16 ?_
    replace hf := Option.some.inj hf
    obtain ⟨rfl, rfl⟩ := qi2 hf
    exact pz_reti hE hrt hlk hH dX11_kin_18
  · replace hf := (if_neg hc).symm.trans hf
    refine lv_iload_n hx hb dX11_kin_9 rfl (lv_at hl 3 rfl) ?_
    refine q_calli (q_runS (As := [.int p2]) (rest := []) hE hH (tz_X11_isSeeds l X (M := M) (hf := rfl)) ks_X11_239 (by decide) rfl hl.1 rfl (Nat.le_of_ble_eq_true rfl) dX11_kin_10) hH (fun H locs hH => ?_)
    refine lv_if_ne (tgt := 19) hx hb dX11_kin_13 (by decide) (fun hc => ?_) (fun hc => ?_)
    · replace hf := (if_neg hc).symm.trans hf
      refine lv_aload_n hx hb dX11_kin_19 rfl (lv_at hl 0 rfl) ?_
      refine lv_iload_n hx hb dX11_kin_20 rfl (lv_at hl 3 rfl) ?_
      obtain ⟨M2, eM2, hf⟩ := st_bd hf
      refine q_callv (q_runV (As := [.int p2]) (rest := []) hE hH (tz_X11_runPlain l X (hf := eM2)) kv_X11_242 qk_0 (by decide) rfl hl.1 rfl (Nat.le_of_ble_eq_true rfl) dX11_kin_21) hH (fun H locs hH => ?_)
      refine lv_aload_n hx hb dX11_kin_24 rfl (lv_at hl 0 rfl) ?_
      refine pz_gS (a := 41) hE hH fr_X11_62 qk_0 (by decide) dX11_kin_25 ?_
      refine pz_gS (a := 46) hE hH fr_X11_248 qk_41 (by decide) dX11_kin_28 ?_
      refine lv_iload_n hx hb dX11_kin_31 rfl (lv_at hl 1 rfl) ?_
      obtain ⟨v3, ev3, hf⟩ := st_bd hf
      refine pz_iald hE hH qk_46 ev3 dX11_kin_32 ?_
      refine lv_aload_n hx hb dX11_kin_33 rfl (lv_at hl 0 rfl) ?_
      refine pz_gS (a := 41) hE hH fr_X11_62 qk_0 (by decide) dX11_kin_34 ?_
      refine pz_gS (a := 46) hE hH fr_X11_248 qk_41 (by decide) dX11_kin_37 ?_
      refine lv_iload_n hx hb dX11_kin_40 rfl (lv_at hl 2 rfl) ?_
      obtain ⟨v4, ev4, hf⟩ := st_bd hf
      refine pz_iald hE hH qk_46 ev4 dX11_kin_41 ?_
      refine lv_iadd hx hb dX11_kin_42 ?_
      refine lv_topi (fun x5 ex5 => ?_)
      replace hf := st_lt hf ex5
      refine lv_istore (lv' := [(4, .int x5), (0, .ref (X.1 0)), (1, .int p0), (2, .int p1), (3, .int p2)]) hx hb dX11_kin_43 hl (by decide) rfl (fun ls hl => ?_)
      refine lv_aload_n hx hb dX11_kin_45 rfl (lv_at hl 1 rfl) ?_
      refine lv_iload_n hx hb dX11_kin_46 rfl (lv_at hl 2 rfl) ?_
      refine lv_iload_n hx hb dX11_kin_47 rfl (lv_at hl 4 rfl) ?_
      obtain ⟨M6, eM6, hf⟩ := st_bd hf
      refine q_callv (q_runV (As := [.int p0, .int p2]) (rest := []) hE hH (tz_X11_runSent l X (hf := eM6)) kv_X11_263 qk_0 (by decide) rfl hl.1 rfl (Nat.le_of_ble_eq_true rfl) dX11_kin_48) hH (fun H locs hH => ?_)
      refine lv_aload_n hx hb dX11_kin_51 rfl (lv_at hl 1 rfl) ?_
      refine pz_gS (a := 41) hE hH fr_X11_62 qk_0 (by decide) dX11_kin_52 ?_
      refine pz_gS (a := 46) hE hH fr_X11_248 qk_41 (by decide) dX11_kin_55 ?_
      refine lv_iload_n hx hb dX11_kin_58 rfl (lv_at hl 2 rfl) ?_
      obtain ⟨v7, ev7, hf⟩ := st_bd hf
      refine pz_iald hE hH qk_46 ev7 dX11_kin_59 ?_
      refine lv_aload_n hx hb dX11_kin_60 rfl (lv_at hl 1 rfl) ?_
      refine pz_gS (a := 41) hE hH fr_X11_62 qk_0 (by decide) dX11_kin_61 ?_
      refine pz_gS (a := 46) hE hH fr_X11_248 qk_41 (by decide) dX11_kin_64 ?_
      refine lv_iload_n hx hb dX11_kin_67 rfl (lv_at hl 3 rfl) ?_
      obtain ⟨v8, ev8, hf⟩ := st_bd hf
      refine pz_iald hE hH qk_46 ev8 dX11_kin_68 ?_
      refine lv_iadd hx hb dX11_kin_69 ?_
      refine lv_iload hx hb dX11_kin_70 (lv_at hl 0 rfl) ?_
      refine lv_isub hx hb dX11_kin_72 ?_
      replace hf := Option.some.inj hf
      obtain ⟨rfl, rfl⟩ := qi2 hf
      exact pz_reti hE hrt hlk hH dX11_kin_73
    · replace hf := (if_pos hc).symm.trans hf
      refine pz_ldc (v := (-1000000)) hE (q_in _ 768 (by decide +kernel) rfl) dX11_kin_16 ?_
      replace hf := Option.some.inj hf
      obtain ⟨rfl, rfl⟩ := qi2 hf
      exact pz_reti hE hrt hlk hH dX11_kin_18

theorem dX11_lateLooking_0 : decode cX11_lateLooking 0 = .ok (.aload_n 0, 1) := by decide +kernel
theorem dX11_lateLooking_1 : decode cX11_lateLooking 1 = .ok (.getfield 62, 3) := by decide +kernel
theorem dX11_lateLooking_4 : decode cX11_lateLooking 4 = .ok (.aload_n 0, 1) := by decide +kernel
theorem dX11_lateLooking_5 : decode cX11_lateLooking 5 = .ok (.getfield 52, 3) := by decide +kernel
theorem dX11_lateLooking_8 : decode cX11_lateLooking 8 = .ok (.invokevirtual 303, 3) := by decide +kernel
theorem dX11_lateLooking_11 : decode cX11_lateLooking 11 = .ok (.aload_n 0, 1) := by decide +kernel
theorem dX11_lateLooking_12 : decode cX11_lateLooking 12 = .ok (.getfield 62, 3) := by decide +kernel
theorem dX11_lateLooking_15 : decode cX11_lateLooking 15 = .ok (.getfield 278, 3) := by decide +kernel
theorem dX11_lateLooking_18 : decode cX11_lateLooking 18 = .ok (.iload_n 1, 1) := by decide +kernel
theorem dX11_lateLooking_19 : decode cX11_lateLooking 19 = .ok (.putfield 429, 3) := by decide +kernel
theorem dX11_lateLooking_22 : decode cX11_lateLooking 22 = .ok (.aload_n 0, 1) := by decide +kernel
theorem dX11_lateLooking_23 : decode cX11_lateLooking 23 = .ok (.getfield 62, 3) := by decide +kernel
theorem dX11_lateLooking_26 : decode cX11_lateLooking 26 = .ok (.iload_n 2, 1) := by decide +kernel
theorem dX11_lateLooking_27 : decode cX11_lateLooking 27 = .ok (.aload_n 0, 1) := by decide +kernel
theorem dX11_lateLooking_28 : decode cX11_lateLooking 28 = .ok (.getfield 45, 3) := by decide +kernel
theorem dX11_lateLooking_31 : decode cX11_lateLooking 31 = .ok (.invokevirtual 284, 3) := by decide +kernel
theorem dX11_lateLooking_34 : decode cX11_lateLooking 34 = .ok (.aload_n 0, 1) := by decide +kernel
theorem dX11_lateLooking_35 : decode cX11_lateLooking 35 = .ok (.getfield 62, 3) := by decide +kernel
theorem dX11_lateLooking_38 : decode cX11_lateLooking 38 = .ok (.invokevirtual 275, 3) := by decide +kernel
theorem dX11_lateLooking_41 : decode cX11_lateLooking 41 = .ok (.ireturn, 1) := by decide +kernel
set_option maxRecDepth 100000 in
set_option maxHeartbeats 4000000 in
theorem tz_X11_lateLooking (l : Launch) (X : qX) {p0 : Int32} {p1 : Int32} {M MR : qM} {r0 : Int32} (hf : jTc_lateLooking p0 p1 M = some (r0, MR)) : q_Met l X yX11_lateLooking cX11_lateLooking 3 (some .int) (7) M [.ref (X.1 0), .int p0, .int p1] (q_Qi X r0 MR) := by
  refine q_enter (by decide) (Nat.le_of_ble_eq_true rfl) ?_
  intro p e s m args below meth c hE hrt hlk H locs hH ls hl
  have hx := hE.1
  have hb := hE.2.1
  have hl : lv_has ls 3 [(0, .ref (X.1 0)), (1, .int p0), (2, .int p1)] := hl
  unfold jTc_lateLooking at hf
  refine lv_aload_n hx hb dX11_lateLooking_0 rfl (lv_at hl 0 rfl) ?_
  refine pz_gS (a := 41) hE hH fr_X11_62 qk_0 (by decide) dX11_lateLooking_1 ?_
  refine lv_aload_n hx hb dX11_lateLooking_4 rfl (lv_at hl 0 rfl) ?_
  refine pz_gS (a := 33) hE hH fr_X11_52 qk_0 (by decide) dX11_lateLooking_5 ?_
  obtain ⟨M1, eM1, hf⟩ := st_bd hf
  refine q_callv (q_runV (As := [.ref (X.1 33)]) (rest := []) hE hH (tz_X3_takeAfter l X (by decide) (hf := eM1)) kv_X11_303 qk_41 (by decide) rfl hl.1 rfl (Nat.le_of_ble_eq_true rfl) dX11_lateLooking_8) hH (fun H locs hH => ?_)
  refine lv_aload_n hx hb dX11_lateLooking_11 rfl (lv_at hl 0 rfl) ?_
  refine pz_gS (a := 41) hE hH fr_X11_62 qk_0 (by decide) dX11_lateLooking_12 ?_
  refine pz_gS (a := 42) hE hH fr_X11_278 qk_41 (by decide) dX11_lateLooking_15 ?_
  refine lv_iload_n hx hb dX11_lateLooking_18 rfl (lv_at hl 1 rfl) ?_
  obtain ⟨M2, eM2, hf⟩ := st_lty hf
  refine pz_pI hE hH fw_X11_429 qk_42  eM2 dX11_lateLooking_19 (fun H locs hH => ?_)
  refine lv_aload_n hx hb dX11_lateLooking_22 rfl (lv_at hl 0 rfl) ?_
  refine pz_gS (a := 41) hE hH fr_X11_62 qk_0 (by decide) dX11_lateLooking_23 ?_
  refine lv_iload_n hx hb dX11_lateLooking_26 rfl (lv_at hl 2 rfl) ?_
  refine lv_aload_n hx hb dX11_lateLooking_27 rfl (lv_at hl 0 rfl) ?_
  refine pz_gS (a := 6) hE hH fr_X11_45 qk_0 (by decide) dX11_lateLooking_28 ?_
  obtain ⟨M3, eM3, hf⟩ := st_bd hf
  refine q_callv (q_runV (As := [.int p1, .ref (X.1 6)]) (rest := []) hE hH (tz_X3_run l X (hf := eM3)) kv_X11_284 qk_41 (by decide) rfl hl.1 rfl (Nat.le_of_ble_eq_true rfl) dX11_lateLooking_31) hH (fun H locs hH => ?_)
  refine lv_aload_n hx hb dX11_lateLooking_34 rfl (lv_at hl 0 rfl) ?_
  refine pz_gS (a := 41) hE hH fr_X11_62 qk_0 (by decide) dX11_lateLooking_35 ?_
  obtain ⟨r4, er4, hf⟩ := st_bd hf
  refine q_calli (q_runV (As := []) (rest := []) hE hH (tz_X3_late l X (hf := er4)) kv_X11_275 qk_41 (by decide) rfl hl.1 rfl (Nat.le_of_ble_eq_true rfl) dX11_lateLooking_38) hH (fun H locs hH => ?_)
  replace hf := Option.some.inj hf
  obtain ⟨rfl, rfl⟩ := qi2 hf
  exact pz_reti hE hrt hlk hH dX11_lateLooking_41

theorem dX11_seen_0 : decode cX11_seen 0 = .ok (.aload_n 0, 1) := by decide +kernel
theorem dX11_seen_1 : decode cX11_seen 1 = .ok (.getfield 52, 3) := by decide +kernel
theorem dX11_seen_4 : decode cX11_seen 4 = .ok (.invokevirtual 166, 3) := by decide +kernel
theorem dX11_seen_7 : decode cX11_seen 7 = .ok (.ifCond .eq 10, 3) := by decide +kernel
theorem dX11_seen_10 : decode cX11_seen 10 = .ok (.iload_n 1, 1) := by decide +kernel
theorem dX11_seen_11 : decode cX11_seen 11 = .ok (.invokestatic 239, 3) := by decide +kernel
theorem dX11_seen_14 : decode cX11_seen 14 = .ok (.ifCond .ne 6, 3) := by decide +kernel
theorem dX11_seen_17 : decode cX11_seen 17 = .ok (.ldc 175, 2) := by decide +kernel
theorem dX11_seen_19 : decode cX11_seen 19 = .ok (.ireturn, 1) := by decide +kernel
theorem dX11_seen_20 : decode cX11_seen 20 = .ok (.aload_n 0, 1) := by decide +kernel
theorem dX11_seen_21 : decode cX11_seen 21 = .ok (.iconst 1, 1) := by decide +kernel
theorem dX11_seen_22 : decode cX11_seen 22 = .ok (.iload_n 1, 1) := by decide +kernel
theorem dX11_seen_23 : decode cX11_seen 23 = .ok (.invokevirtual 297, 3) := by decide +kernel
theorem dX11_seen_26 : decode cX11_seen 26 = .ok (.aload_n 0, 1) := by decide +kernel
theorem dX11_seen_27 : decode cX11_seen 27 = .ok (.iconst 0, 1) := by decide +kernel
theorem dX11_seen_28 : decode cX11_seen 28 = .ok (.iload_n 1, 1) := by decide +kernel
theorem dX11_seen_29 : decode cX11_seen 29 = .ok (.invokevirtual 297, 3) := by decide +kernel
theorem dX11_seen_32 : decode cX11_seen 32 = .ok (.isub, 1) := by decide +kernel
theorem dX11_seen_33 : decode cX11_seen 33 = .ok (.ireturn, 1) := by decide +kernel
set_option maxRecDepth 100000 in
set_option maxHeartbeats 4000000 in
theorem tz_X11_seen (l : Launch) (X : qX) {p0 : Int32} {M MR : qM} {r0 : Int32} (hf : jTc_seen p0 M = some (r0, MR)) : q_Met l X yX11_seen cX11_seen 2 (some .int) (8) M [.ref (X.1 0), .int p0] (q_Qi X r0 MR) := by
  refine q_enter (by decide) (Nat.le_of_ble_eq_true rfl) ?_
  intro p e s m args below meth c hE hrt hlk H locs hH ls hl
  have hx := hE.1
  have hb := hE.2.1
  have hl : lv_has ls 2 [(0, .ref (X.1 0)), (1, .int p0)] := hl
  unfold jTc_seen at hf
  refine lv_aload_n hx hb dX11_seen_0 rfl (lv_at hl 0 rfl) ?_
  refine pz_gS (a := 33) hE hH fr_X11_52 qk_0 (by decide) dX11_seen_1 ?_
  refine q_calli (q_runV (As := []) (rest := []) hE hH (tz_X1_began l X (by decide) (hf := rfl)) kv_X11_166 qk_33 (by decide) rfl hl.1 rfl (Nat.le_of_ble_eq_true rfl) dX11_seen_4) hH (fun H locs hH => ?_)
  refine lv_if_eq (tgt := 17) hx hb dX11_seen_7 (by decide) (fun hc => ?_) (fun hc => ?_)
  · replace hf := (if_pos hc).symm.trans hf
    refine pz_ldc (v := (-1000000)) hE (q_in _ 768 (by decide +kernel) rfl) dX11_seen_17 ?_
    replace hf := Option.some.inj hf
    obtain ⟨rfl, rfl⟩ := qi2 hf
    exact pz_reti hE hrt hlk hH dX11_seen_19
  · replace hf := (if_neg hc).symm.trans hf
    refine lv_iload_n hx hb dX11_seen_10 rfl (lv_at hl 1 rfl) ?_
    refine q_calli (q_runS (As := [.int p0]) (rest := []) hE hH (tz_X11_isSeeds l X (M := M) (hf := rfl)) ks_X11_239 (by decide) rfl hl.1 rfl (Nat.le_of_ble_eq_true rfl) dX11_seen_11) hH (fun H locs hH => ?_)
    refine lv_if_ne (tgt := 20) hx hb dX11_seen_14 (by decide) (fun hc => ?_) (fun hc => ?_)
    · replace hf := (if_neg hc).symm.trans hf
      refine lv_aload_n hx hb dX11_seen_20 rfl (lv_at hl 0 rfl) ?_
      refine lv_iconst (v := 1) hx hb dX11_seen_21 (by decide) ?_
      refine lv_iload_n hx hb dX11_seen_22 rfl (lv_at hl 1 rfl) ?_
      obtain ⟨w1, ew1, hf⟩ := st_bd hf
      obtain ⟨r2, M3⟩ := w1
      replace hf := st_u2 hf
      refine q_calli (q_runV (As := [.int 1, .int p0]) (rest := []) hE hH (tz_X11_lateLooking l X (hf := ew1)) kv_X11_297 qk_0 (by decide) rfl hl.1 rfl (Nat.le_of_ble_eq_true rfl) dX11_seen_23) hH (fun H locs hH => ?_)
      refine lv_aload_n hx hb dX11_seen_26 rfl (lv_at hl 0 rfl) ?_
      refine lv_iconst (v := 0) hx hb dX11_seen_27 (by decide) ?_
      refine lv_iload_n hx hb dX11_seen_28 rfl (lv_at hl 1 rfl) ?_
      obtain ⟨w4, ew4, hf⟩ := st_bd hf
      obtain ⟨r5, M6⟩ := w4
      replace hf := st_u2 hf
      refine q_calli (q_runV (As := [.int 0, .int p0]) (rest := [.int r2]) hE hH (tz_X11_lateLooking l X (hf := ew4)) kv_X11_297 qk_0 (by decide) rfl hl.1 rfl (Nat.le_of_ble_eq_true rfl) dX11_seen_29) hH (fun H locs hH => ?_)
      refine lv_isub hx hb dX11_seen_32 ?_
      replace hf := Option.some.inj hf
      obtain ⟨rfl, rfl⟩ := qi2 hf
      exact pz_reti hE hrt hlk hH dX11_seen_33
    · replace hf := (if_pos hc).symm.trans hf
      refine pz_ldc (v := (-1000000)) hE (q_in _ 768 (by decide +kernel) rfl) dX11_seen_17 ?_
      replace hf := Option.some.inj hf
      obtain ⟨rfl, rfl⟩ := qi2 hf
      exact pz_reti hE hrt hlk hH dX11_seen_19

theorem dX11_gains_0 : decode cX11_gains 0 = .ok (.aload_n 0, 1) := by decide +kernel
theorem dX11_gains_1 : decode cX11_gains 1 = .ok (.iload_n 1, 1) := by decide +kernel
theorem dX11_gains_2 : decode cX11_gains 2 = .ok (.invokevirtual 272, 3) := by decide +kernel
theorem dX11_gains_5 : decode cX11_gains 5 = .ok (.ifCond .eq 10, 3) := by decide +kernel
theorem dX11_gains_8 : decode cX11_gains 8 = .ok (.iload_n 2, 1) := by decide +kernel
theorem dX11_gains_9 : decode cX11_gains 9 = .ok (.invokestatic 239, 3) := by decide +kernel
theorem dX11_gains_12 : decode cX11_gains 12 = .ok (.ifCond .ne 6, 3) := by decide +kernel
theorem dX11_gains_15 : decode cX11_gains 15 = .ok (.ldc 175, 2) := by decide +kernel
theorem dX11_gains_17 : decode cX11_gains 17 = .ok (.ireturn, 1) := by decide +kernel
theorem dX11_gains_18 : decode cX11_gains 18 = .ok (.aload_n 0, 1) := by decide +kernel
theorem dX11_gains_19 : decode cX11_gains 19 = .ok (.iload_n 2, 1) := by decide +kernel
theorem dX11_gains_20 : decode cX11_gains 20 = .ok (.invokevirtual 242, 3) := by decide +kernel
theorem dX11_gains_23 : decode cX11_gains 23 = .ok (.aload_n 0, 1) := by decide +kernel
theorem dX11_gains_24 : decode cX11_gains 24 = .ok (.getfield 62, 3) := by decide +kernel
theorem dX11_gains_27 : decode cX11_gains 27 = .ok (.iload_n 1, 1) := by decide +kernel
theorem dX11_gains_28 : decode cX11_gains 28 = .ok (.invokevirtual 300, 3) := by decide +kernel
theorem dX11_gains_31 : decode cX11_gains 31 = .ok (.ireturn, 1) := by decide +kernel
set_option maxRecDepth 100000 in
set_option maxHeartbeats 4000000 in
theorem tz_X11_gains (l : Launch) (X : qX) {p0 : Int32} {p1 : Int32} {M MR : qM} {r0 : Int32} (hf : jTc_gains p0 p1 M = some (r0, MR)) : q_Met l X yX11_gains cX11_gains 3 (some .int) (8) M [.ref (X.1 0), .int p0, .int p1] (q_Qi X r0 MR) := by
  refine q_enter (by decide) (Nat.le_of_ble_eq_true rfl) ?_
  intro p e s m args below meth c hE hrt hlk H locs hH ls hl
  have hx := hE.1
  have hb := hE.2.1
  have hl : lv_has ls 3 [(0, .ref (X.1 0)), (1, .int p0), (2, .int p1)] := hl
  unfold jTc_gains at hf
  refine lv_aload_n hx hb dX11_gains_0 rfl (lv_at hl 0 rfl) ?_
  refine lv_iload_n hx hb dX11_gains_1 rfl (lv_at hl 1 rfl) ?_
  obtain ⟨r1, er1, hf⟩ := st_bd hf
  refine q_calli (q_runV (As := [.int p0]) (rest := []) hE hH (tz_X11_isSortOfMorning l X (hf := er1)) kv_X11_272 qk_0 (by decide) rfl hl.1 rfl (Nat.le_of_ble_eq_true rfl) dX11_gains_2) hH (fun H locs hH => ?_)
  refine lv_if_eq (tgt := 15) hx hb dX11_gains_5 (by decide) (fun hc => ?_) (fun hc => ?_)
  · replace hf := (if_pos hc).symm.trans hf
    refine pz_ldc (v := (-1000000)) hE (q_in _ 768 (by decide +kernel) rfl) dX11_gains_15 ?_
    replace hf := Option.some.inj hf
    obtain ⟨rfl, rfl⟩ := qi2 hf
    exact pz_reti hE hrt hlk hH dX11_gains_17
  · replace hf := (if_neg hc).symm.trans hf
    refine lv_iload_n hx hb dX11_gains_8 rfl (lv_at hl 2 rfl) ?_
    refine q_calli (q_runS (As := [.int p1]) (rest := []) hE hH (tz_X11_isSeeds l X (M := M) (hf := rfl)) ks_X11_239 (by decide) rfl hl.1 rfl (Nat.le_of_ble_eq_true rfl) dX11_gains_9) hH (fun H locs hH => ?_)
    refine lv_if_ne (tgt := 18) hx hb dX11_gains_12 (by decide) (fun hc => ?_) (fun hc => ?_)
    · replace hf := (if_neg hc).symm.trans hf
      refine lv_aload_n hx hb dX11_gains_18 rfl (lv_at hl 0 rfl) ?_
      refine lv_iload_n hx hb dX11_gains_19 rfl (lv_at hl 2 rfl) ?_
      obtain ⟨M2, eM2, hf⟩ := st_bd hf
      refine q_callv (q_runV (As := [.int p1]) (rest := []) hE hH (tz_X11_runPlain l X (hf := eM2)) kv_X11_242 qk_0 (by decide) rfl hl.1 rfl (Nat.le_of_ble_eq_true rfl) dX11_gains_20) hH (fun H locs hH => ?_)
      refine lv_aload_n hx hb dX11_gains_23 rfl (lv_at hl 0 rfl) ?_
      refine pz_gS (a := 41) hE hH fr_X11_62 qk_0 (by decide) dX11_gains_24 ?_
      refine lv_iload_n hx hb dX11_gains_27 rfl (lv_at hl 1 rfl) ?_
      obtain ⟨r3, er3, hf⟩ := st_bd hf
      refine q_calli (q_runV (As := [.int p0]) (rest := []) hE hH (tz_X3_gainsOf l X (hf := er3)) kv_X11_300 qk_41 (by decide) rfl hl.1 rfl (Nat.le_of_ble_eq_true rfl) dX11_gains_28) hH (fun H locs hH => ?_)
      replace hf := Option.some.inj hf
      obtain ⟨rfl, rfl⟩ := qi2 hf
      exact pz_reti hE hrt hlk hH dX11_gains_31
    · replace hf := (if_pos hc).symm.trans hf
      refine pz_ldc (v := (-1000000)) hE (q_in _ 768 (by decide +kernel) rfl) dX11_gains_15 ?_
      replace hf := Option.some.inj hf
      obtain ⟨rfl, rfl⟩ := qi2 hf
      exact pz_reti hE hrt hlk hH dX11_gains_17

theorem dX11_better_0 : decode cX11_better 0 = .ok (.aload_n 0, 1) := by decide +kernel
theorem dX11_better_1 : decode cX11_better 1 = .ok (.getfield 45, 3) := by decide +kernel
theorem dX11_better_4 : decode cX11_better 4 = .ok (.getfield 116, 3) := by decide +kernel
theorem dX11_better_7 : decode cX11_better 7 = .ok (.ifCond .eq 18, 3) := by decide +kernel
theorem dX11_better_10 : decode cX11_better 10 = .ok (.aload_n 0, 1) := by decide +kernel
theorem dX11_better_11 : decode cX11_better 11 = .ok (.iload_n 1, 1) := by decide +kernel
theorem dX11_better_12 : decode cX11_better 12 = .ok (.invokevirtual 272, 3) := by decide +kernel
theorem dX11_better_15 : decode cX11_better 15 = .ok (.ifCond .eq 10, 3) := by decide +kernel
theorem dX11_better_18 : decode cX11_better 18 = .ok (.iload_n 2, 1) := by decide +kernel
theorem dX11_better_19 : decode cX11_better 19 = .ok (.invokestatic 239, 3) := by decide +kernel
theorem dX11_better_22 : decode cX11_better 22 = .ok (.ifCond .ne 5, 3) := by decide +kernel
theorem dX11_better_25 : decode cX11_better 25 = .ok (.iconst (-1), 1) := by decide +kernel
theorem dX11_better_26 : decode cX11_better 26 = .ok (.ireturn, 1) := by decide +kernel
theorem dX11_better_27 : decode cX11_better 27 = .ok (.aload_n 0, 1) := by decide +kernel
theorem dX11_better_28 : decode cX11_better 28 = .ok (.getfield 62, 3) := by decide +kernel
theorem dX11_better_31 : decode cX11_better 31 = .ok (.aload_n 0, 1) := by decide +kernel
theorem dX11_better_32 : decode cX11_better 32 = .ok (.getfield 52, 3) := by decide +kernel
theorem dX11_better_35 : decode cX11_better 35 = .ok (.invokevirtual 303, 3) := by decide +kernel
theorem dX11_better_38 : decode cX11_better 38 = .ok (.aload_n 0, 1) := by decide +kernel
theorem dX11_better_39 : decode cX11_better 39 = .ok (.getfield 62, 3) := by decide +kernel
theorem dX11_better_42 : decode cX11_better 42 = .ok (.iload_n 1, 1) := by decide +kernel
theorem dX11_better_43 : decode cX11_better 43 = .ok (.iload_n 2, 1) := by decide +kernel
theorem dX11_better_44 : decode cX11_better 44 = .ok (.aload_n 0, 1) := by decide +kernel
theorem dX11_better_45 : decode cX11_better 45 = .ok (.getfield 45, 3) := by decide +kernel
theorem dX11_better_48 : decode cX11_better 48 = .ok (.invokevirtual 306, 3) := by decide +kernel
theorem dX11_better_51 : decode cX11_better 51 = .ok (.ireturn, 1) := by decide +kernel
set_option maxRecDepth 100000 in
set_option maxHeartbeats 4000000 in
theorem tz_X11_better (l : Launch) (X : qX) {p0 : Int32} {p1 : Int32} {M MR : qM} {r0 : Int32} (hf : jTc_better p0 p1 M = some (r0, MR)) : q_Met l X yX11_better cX11_better 3 (some .int) (8) M [.ref (X.1 0), .int p0, .int p1] (q_Qi X r0 MR) := by
  refine q_enter (by decide) (Nat.le_of_ble_eq_true rfl) ?_
  intro p e s m args below meth c hE hrt hlk H locs hH ls hl
  have hx := hE.1
  have hb := hE.2.1
  have hl : lv_has ls 3 [(0, .ref (X.1 0)), (1, .int p0), (2, .int p1)] := hl
  unfold jTc_better at hf
  refine lv_aload_n hx hb dX11_better_0 rfl (lv_at hl 0 rfl) ?_
  refine pz_gS (a := 6) hE hH fr_X11_45 qk_0 (by decide) dX11_better_1 ?_
  refine pz_gI hE hH fr_X11_116 qk_6 dX11_better_4 ?_
  refine lv_if_eq (tgt := 25) hx hb dX11_better_7 (by decide) (fun hc => ?_) (fun hc => ?_)
  · replace hf := (if_pos hc).symm.trans hf
    refine lv_iconst (v := (-1)) hx hb dX11_better_25 (by decide) ?_
    replace hf := Option.some.inj hf
    obtain ⟨rfl, rfl⟩ := qi2 hf
    exact pz_reti hE hrt hlk hH dX11_better_26
  · replace hf := (if_neg hc).symm.trans hf
    refine lv_aload_n hx hb dX11_better_10 rfl (lv_at hl 0 rfl) ?_
    refine lv_iload_n hx hb dX11_better_11 rfl (lv_at hl 1 rfl) ?_
    obtain ⟨r1, er1, hf⟩ := st_bd hf
    refine q_calli (q_runV (As := [.int p0]) (rest := []) hE hH (tz_X11_isSortOfMorning l X (hf := er1)) kv_X11_272 qk_0 (by decide) rfl hl.1 rfl (Nat.le_of_ble_eq_true rfl) dX11_better_12) hH (fun H locs hH => ?_)
    refine lv_if_eq (tgt := 25) hx hb dX11_better_15 (by decide) (fun hc => ?_) (fun hc => ?_)
    · replace hf := (if_pos hc).symm.trans hf
      refine lv_iconst (v := (-1)) hx hb dX11_better_25 (by decide) ?_
      replace hf := Option.some.inj hf
      obtain ⟨rfl, rfl⟩ := qi2 hf
      exact pz_reti hE hrt hlk hH dX11_better_26
    · replace hf := (if_neg hc).symm.trans hf
      refine lv_iload_n hx hb dX11_better_18 rfl (lv_at hl 2 rfl) ?_
      refine q_calli (q_runS (As := [.int p1]) (rest := []) hE hH (tz_X11_isSeeds l X (M := M) (hf := rfl)) ks_X11_239 (by decide) rfl hl.1 rfl (Nat.le_of_ble_eq_true rfl) dX11_better_19) hH (fun H locs hH => ?_)
      refine lv_if_ne (tgt := 27) hx hb dX11_better_22 (by decide) (fun hc => ?_) (fun hc => ?_)
      · replace hf := (if_neg hc).symm.trans hf
        refine lv_aload_n hx hb dX11_better_27 rfl (lv_at hl 0 rfl) ?_
        refine pz_gS (a := 41) hE hH fr_X11_62 qk_0 (by decide) dX11_better_28 ?_
        refine lv_aload_n hx hb dX11_better_31 rfl (lv_at hl 0 rfl) ?_
        refine pz_gS (a := 33) hE hH fr_X11_52 qk_0 (by decide) dX11_better_32 ?_
        obtain ⟨M2, eM2, hf⟩ := st_bd hf
        refine q_callv (q_runV (As := [.ref (X.1 33)]) (rest := []) hE hH (tz_X3_takeAfter l X (by decide) (hf := eM2)) kv_X11_303 qk_41 (by decide) rfl hl.1 rfl (Nat.le_of_ble_eq_true rfl) dX11_better_35) hH (fun H locs hH => ?_)
        refine lv_aload_n hx hb dX11_better_38 rfl (lv_at hl 0 rfl) ?_
        refine pz_gS (a := 41) hE hH fr_X11_62 qk_0 (by decide) dX11_better_39 ?_
        refine lv_iload_n hx hb dX11_better_42 rfl (lv_at hl 1 rfl) ?_
        refine lv_iload_n hx hb dX11_better_43 rfl (lv_at hl 2 rfl) ?_
        refine lv_aload_n hx hb dX11_better_44 rfl (lv_at hl 0 rfl) ?_
        refine pz_gS (a := 6) hE hH fr_X11_45 qk_0 (by decide) dX11_better_45 ?_
        obtain ⟨w3, ew3, hf⟩ := st_bd hf
        obtain ⟨r4, M5⟩ := w3
        replace hf := st_u2 hf
        refine q_calli (q_runV (As := [.int p0, .int p1, .ref (X.1 6)]) (rest := []) hE hH (tz_X3_bestWay l X (hf := ew3)) kv_X11_306 qk_41 (by decide) rfl hl.1 rfl (Nat.le_of_ble_eq_true rfl) dX11_better_48) hH (fun H locs hH => ?_)
        replace hf := Option.some.inj hf
        obtain ⟨rfl, rfl⟩ := qi2 hf
        exact pz_reti hE hrt hlk hH dX11_better_51
      · replace hf := (if_pos hc).symm.trans hf
        refine lv_iconst (v := (-1)) hx hb dX11_better_25 (by decide) ?_
        replace hf := Option.some.inj hf
        obtain ⟨rfl, rfl⟩ := qi2 hf
        exact pz_reti hE hrt hlk hH dX11_better_26

theorem dX11_agree_0 : decode cX11_agree 0 = .ok (.aload_n 0, 1) := by decide +kernel
theorem dX11_agree_1 : decode cX11_agree 1 = .ok (.getfield 45, 3) := by decide +kernel
theorem dX11_agree_4 : decode cX11_agree 4 = .ok (.getfield 116, 3) := by decide +kernel
theorem dX11_agree_7 : decode cX11_agree 7 = .ok (.ifCond .eq 20, 3) := by decide +kernel
theorem dX11_agree_10 : decode cX11_agree 10 = .ok (.aload_n 0, 1) := by decide +kernel
theorem dX11_agree_11 : decode cX11_agree 11 = .ok (.getfield 52, 3) := by decide +kernel
theorem dX11_agree_14 : decode cX11_agree 14 = .ok (.invokevirtual 166, 3) := by decide +kernel
theorem dX11_agree_17 : decode cX11_agree 17 = .ok (.ifCond .eq 10, 3) := by decide +kernel
theorem dX11_agree_20 : decode cX11_agree 20 = .ok (.iload_n 1, 1) := by decide +kernel
theorem dX11_agree_21 : decode cX11_agree 21 = .ok (.invokestatic 239, 3) := by decide +kernel
theorem dX11_agree_24 : decode cX11_agree 24 = .ok (.ifCond .ne 5, 3) := by decide +kernel
theorem dX11_agree_27 : decode cX11_agree 27 = .ok (.iconst (-1), 1) := by decide +kernel
theorem dX11_agree_28 : decode cX11_agree 28 = .ok (.ireturn, 1) := by decide +kernel
theorem dX11_agree_29 : decode cX11_agree 29 = .ok (.aload_n 0, 1) := by decide +kernel
theorem dX11_agree_30 : decode cX11_agree 30 = .ok (.getfield 45, 3) := by decide +kernel
theorem dX11_agree_33 : decode cX11_agree 33 = .ok (.invokevirtual 310, 3) := by decide +kernel
theorem dX11_agree_36 : decode cX11_agree 36 = .ok (.aload_n 0, 1) := by decide +kernel
theorem dX11_agree_37 : decode cX11_agree 37 = .ok (.getfield 62, 3) := by decide +kernel
theorem dX11_agree_40 : decode cX11_agree 40 = .ok (.aload_n 0, 1) := by decide +kernel
theorem dX11_agree_41 : decode cX11_agree 41 = .ok (.getfield 52, 3) := by decide +kernel
theorem dX11_agree_44 : decode cX11_agree 44 = .ok (.invokevirtual 303, 3) := by decide +kernel
theorem dX11_agree_47 : decode cX11_agree 47 = .ok (.iconst 0, 1) := by decide +kernel
theorem dX11_agree_48 : decode cX11_agree 48 = .ok (.istore_n 2, 1) := by decide +kernel
theorem dX11_agree_49 : decode cX11_agree 49 = .ok (.iconst 0, 1) := by decide +kernel
theorem dX11_agree_50 : decode cX11_agree 50 = .ok (.istore_n 3, 1) := by decide +kernel
theorem dX11_agree_51 : decode cX11_agree 51 = .ok (.iload_n 3, 1) := by decide +kernel
theorem dX11_agree_52 : decode cX11_agree 52 = .ok (.bipush 30, 2) := by decide +kernel
theorem dX11_agree_54 : decode cX11_agree 54 = .ok (.if_icmp .gt 107, 3) := by decide +kernel
theorem dX11_agree_57 : decode cX11_agree 57 = .ok (.iload_n 2, 1) := by decide +kernel
theorem dX11_agree_58 : decode cX11_agree 58 = .ok (.istore 4, 2) := by decide +kernel
theorem dX11_agree_60 : decode cX11_agree 60 = .ok (.iconst 0, 1) := by decide +kernel
theorem dX11_agree_61 : decode cX11_agree 61 = .ok (.istore 5, 2) := by decide +kernel
theorem dX11_agree_63 : decode cX11_agree 63 = .ok (.iload 5, 2) := by decide +kernel
theorem dX11_agree_65 : decode cX11_agree 65 = .ok (.aload_n 0, 1) := by decide +kernel
theorem dX11_agree_66 : decode cX11_agree 66 = .ok (.getfield 52, 3) := by decide +kernel
theorem dX11_agree_69 : decode cX11_agree 69 = .ok (.getfield 169, 3) := by decide +kernel
theorem dX11_agree_72 : decode cX11_agree 72 = .ok (.getfield 137, 3) := by decide +kernel
theorem dX11_agree_75 : decode cX11_agree 75 = .ok (.if_icmp .ge 63, 3) := by decide +kernel
theorem dX11_agree_78 : decode cX11_agree 78 = .ok (.iload_n 2, 1) := by decide +kernel
theorem dX11_agree_79 : decode cX11_agree 79 = .ok (.bipush 30, 2) := by decide +kernel
theorem dX11_agree_81 : decode cX11_agree 81 = .ok (.if_icmp .gt 57, 3) := by decide +kernel
theorem dX11_agree_84 : decode cX11_agree 84 = .ok (.aload_n 0, 1) := by decide +kernel
theorem dX11_agree_85 : decode cX11_agree 85 = .ok (.getfield 62, 3) := by decide +kernel
theorem dX11_agree_88 : decode cX11_agree 88 = .ok (.iload 5, 2) := by decide +kernel
theorem dX11_agree_90 : decode cX11_agree 90 = .ok (.iload_n 1, 1) := by decide +kernel
theorem dX11_agree_91 : decode cX11_agree 91 = .ok (.aload_n 0, 1) := by decide +kernel
theorem dX11_agree_92 : decode cX11_agree 92 = .ok (.getfield 45, 3) := by decide +kernel
theorem dX11_agree_95 : decode cX11_agree 95 = .ok (.invokevirtual 306, 3) := by decide +kernel
theorem dX11_agree_98 : decode cX11_agree 98 = .ok (.istore 6, 2) := by decide +kernel
theorem dX11_agree_100 : decode cX11_agree 100 = .ok (.aload_n 0, 1) := by decide +kernel
theorem dX11_agree_101 : decode cX11_agree 101 = .ok (.getfield 62, 3) := by decide +kernel
theorem dX11_agree_104 : decode cX11_agree 104 = .ok (.getfield 313, 3) := by decide +kernel
theorem dX11_agree_107 : decode cX11_agree 107 = .ok (.aload_n 0, 1) := by decide +kernel
theorem dX11_agree_108 : decode cX11_agree 108 = .ok (.getfield 62, 3) := by decide +kernel
theorem dX11_agree_111 : decode cX11_agree 111 = .ok (.getfield 316, 3) := by decide +kernel
theorem dX11_agree_114 : decode cX11_agree 114 = .ok (.if_icmp .le 18, 3) := by decide +kernel
theorem dX11_agree_117 : decode cX11_agree 117 = .ok (.aload_n 0, 1) := by decide +kernel
theorem dX11_agree_118 : decode cX11_agree 118 = .ok (.getfield 45, 3) := by decide +kernel
theorem dX11_agree_121 : decode cX11_agree 121 = .ok (.getfield 157, 3) := by decide +kernel
theorem dX11_agree_124 : decode cX11_agree 124 = .ok (.iload 5, 2) := by decide +kernel
theorem dX11_agree_126 : decode cX11_agree 126 = .ok (.iload 6, 2) := by decide +kernel
theorem dX11_agree_128 : decode cX11_agree 128 = .ok (.iastore, 1) := by decide +kernel
theorem dX11_agree_129 : decode cX11_agree 129 = .ok (.iinc 2 1, 3) := by decide +kernel
theorem dX11_agree_132 : decode cX11_agree 132 = .ok (.iinc 5 1, 3) := by decide +kernel
theorem dX11_agree_135 : decode cX11_agree 135 = .ok (.goto (-72), 3) := by decide +kernel
theorem dX11_agree_138 : decode cX11_agree 138 = .ok (.iload_n 2, 1) := by decide +kernel
theorem dX11_agree_139 : decode cX11_agree 139 = .ok (.bipush 30, 2) := by decide +kernel
theorem dX11_agree_141 : decode cX11_agree 141 = .ok (.if_icmp .le 6, 3) := by decide +kernel
theorem dX11_agree_144 : decode cX11_agree 144 = .ok (.goto 17, 3) := by decide +kernel
theorem dX11_agree_147 : decode cX11_agree 147 = .ok (.iload_n 2, 1) := by decide +kernel
theorem dX11_agree_148 : decode cX11_agree 148 = .ok (.iload 4, 2) := by decide +kernel
theorem dX11_agree_150 : decode cX11_agree 150 = .ok (.if_icmp .ne 5, 3) := by decide +kernel
theorem dX11_agree_153 : decode cX11_agree 153 = .ok (.iload_n 2, 1) := by decide +kernel
theorem dX11_agree_154 : decode cX11_agree 154 = .ok (.ireturn, 1) := by decide +kernel
theorem dX11_agree_155 : decode cX11_agree 155 = .ok (.iinc 3 1, 3) := by decide +kernel
theorem dX11_agree_158 : decode cX11_agree 158 = .ok (.goto (-107), 3) := by decide +kernel
theorem dX11_agree_161 : decode cX11_agree 161 = .ok (.aload_n 0, 1) := by decide +kernel
theorem dX11_agree_162 : decode cX11_agree 162 = .ok (.getfield 45, 3) := by decide +kernel
theorem dX11_agree_165 : decode cX11_agree 165 = .ok (.invokevirtual 319, 3) := by decide +kernel
theorem dX11_agree_168 : decode cX11_agree 168 = .ok (.iconst (-1), 1) := by decide +kernel
theorem dX11_agree_169 : decode cX11_agree 169 = .ok (.ireturn, 1) := by decide +kernel
set_option maxRecDepth 100000 in
set_option maxHeartbeats 4000000 in
theorem tz_X11_agree (l : Launch) (X : qX) {p0 : Int32} {M MR : qM} {r0 : Int32} (hf : jTc_agree p0 M = some (r0, MR)) : q_Met l X yX11_agree cX11_agree 7 (some .int) (8) M [.ref (X.1 0), .int p0] (q_Qi X r0 MR) := by
  refine q_enter (by decide) (Nat.le_of_ble_eq_true rfl) ?_
  intro p e s m args below meth c hE hrt hlk H locs hH ls hl
  have hx := hE.1
  have hb := hE.2.1
  have hl : lv_has ls 7 [(0, .ref (X.1 0)), (1, .int p0)] := hl
  unfold jTc_agree at hf
  refine lv_aload_n hx hb dX11_agree_0 rfl (lv_at hl 0 rfl) ?_
  refine pz_gS (a := 6) hE hH fr_X11_45 qk_0 (by decide) dX11_agree_1 ?_
  refine pz_gI hE hH fr_X11_116 qk_6 dX11_agree_4 ?_
  refine lv_if_eq (tgt := 27) hx hb dX11_agree_7 (by decide) (fun hc => ?_) (fun hc => ?_)
  · replace hf := (if_pos hc).symm.trans hf
    refine lv_iconst (v := (-1)) hx hb dX11_agree_27 (by decide) ?_
    replace hf := Option.some.inj hf
    obtain ⟨rfl, rfl⟩ := qi2 hf
    exact pz_reti hE hrt hlk hH dX11_agree_28
  · replace hf := (if_neg hc).symm.trans hf
    refine lv_aload_n hx hb dX11_agree_10 rfl (lv_at hl 0 rfl) ?_
    refine pz_gS (a := 33) hE hH fr_X11_52 qk_0 (by decide) dX11_agree_11 ?_
    refine q_calli (q_runV (As := []) (rest := []) hE hH (tz_X1_began l X (by decide) (hf := rfl)) kv_X11_166 qk_33 (by decide) rfl hl.1 rfl (Nat.le_of_ble_eq_true rfl) dX11_agree_14) hH (fun H locs hH => ?_)
    refine lv_if_eq (tgt := 27) hx hb dX11_agree_17 (by decide) (fun hc => ?_) (fun hc => ?_)
    · replace hf := (if_pos hc).symm.trans hf
      refine lv_iconst (v := (-1)) hx hb dX11_agree_27 (by decide) ?_
      replace hf := Option.some.inj hf
      obtain ⟨rfl, rfl⟩ := qi2 hf
      exact pz_reti hE hrt hlk hH dX11_agree_28
    · replace hf := (if_neg hc).symm.trans hf
      refine lv_iload_n hx hb dX11_agree_20 rfl (lv_at hl 1 rfl) ?_
      refine q_calli (q_runS (As := [.int p0]) (rest := []) hE hH (tz_X11_isSeeds l X (M := M) (hf := rfl)) ks_X11_239 (by decide) rfl hl.1 rfl (Nat.le_of_ble_eq_true rfl) dX11_agree_21) hH (fun H locs hH => ?_)
      refine lv_if_ne (tgt := 29) hx hb dX11_agree_24 (by decide) (fun hc => ?_) (fun hc => ?_)
      · replace hf := (if_neg hc).symm.trans hf
        refine lv_aload_n hx hb dX11_agree_29 rfl (lv_at hl 0 rfl) ?_
        refine pz_gS (a := 6) hE hH fr_X11_45 qk_0 (by decide) dX11_agree_30 ?_
        obtain ⟨M1, eM1, hf⟩ := st_bd hf
        refine q_callv (q_runV (As := []) (rest := []) hE hH (tz_X0_keep l X (hf := eM1)) kv_X11_310 qk_6 (by decide) rfl hl.1 rfl (Nat.le_of_ble_eq_true rfl) dX11_agree_33) hH (fun H locs hH => ?_)
        refine lv_aload_n hx hb dX11_agree_36 rfl (lv_at hl 0 rfl) ?_
        refine pz_gS (a := 41) hE hH fr_X11_62 qk_0 (by decide) dX11_agree_37 ?_
        refine lv_aload_n hx hb dX11_agree_40 rfl (lv_at hl 0 rfl) ?_
        refine pz_gS (a := 33) hE hH fr_X11_52 qk_0 (by decide) dX11_agree_41 ?_
        obtain ⟨M2, eM2, hf⟩ := st_bd hf
        refine q_callv (q_runV (As := [.ref (X.1 33)]) (rest := []) hE hH (tz_X3_takeAfter l X (by decide) (hf := eM2)) kv_X11_303 qk_41 (by decide) rfl hl.1 rfl (Nat.le_of_ble_eq_true rfl) dX11_agree_44) hH (fun H locs hH => ?_)
        refine lv_iconst (v := 0) hx hb dX11_agree_47 (by decide) ?_
        refine lv_istore_n (lv' := [(2, .int 0), (0, .ref (X.1 0)), (1, .int p0)]) hx hb dX11_agree_48 rfl hl (by decide) rfl (fun ls hl => ?_)
        refine lv_iconst (v := 0) hx hb dX11_agree_49 (by decide) ?_
        refine lv_istore_n (lv' := [(3, .int 0), (2, .int 0), (0, .ref (X.1 0)), (1, .int p0)]) hx hb dX11_agree_50 rfl hl (by decide) rfl (fun ls hl => ?_)
        obtain ⟨r10, hlp, hf⟩ := st_bd hf
        have hX : (fun q0a => qse q0a (fun M6 => ∀ (ls : Array Slot) (H : Heap) (locs : List Loc), q_H X M6 s H locs → lv_has ls 7 [(0, .ref (X.1 0))] → W p l e (q_rm (8)) s m args below meth c H locs 0 0 (MQ below (q_Qi X r0 MR) args s 0 0 (q_A X)) (F0 m 144 ls [])) (fun q1a => qse q1a (fun q1 => qu2 q1 (fun x7 M8 => ∀ (ls : Array Slot) (H : Heap) (locs : List Loc), q_H X M8 s H locs → lv_has ls 7 [(2, .int x7)] → W p l e (q_rm (8)) s m args below meth c H locs 0 0 (MQ below (q_Qi X r0 MR) args s 0 0 (q_A X)) (F0 m 153 ls []))) (fun M9 => ∀ (ls : Array Slot) (H : Heap) (locs : List Loc), q_H X M9 s H locs → lv_has ls 7 [(0, .ref (X.1 0))] → W p l e (q_rm (8)) s m args below meth c H locs 0 0 (MQ below (q_Qi X r0 MR) args s 0 0 (q_A X)) (F0 m 161 ls []))) : (qM ⊕ ((Int32 × qM) ⊕ qM)) → Prop) r10 := by
          rcases r10 with M6 | r10
          · replace hf := st_seL hf
            intro ls H locs hH hl
            refine lv_goto (tgt := 161) hx hb dX11_agree_144 (by decide) ?_
            refine lv_aload_n hx hb dX11_agree_161 rfl (lv_at hl 0 rfl) ?_
            refine pz_gS (a := 6) hE hH fr_X11_45 qk_0 (by decide) dX11_agree_162 ?_
            obtain ⟨M11, eM11, hf⟩ := st_bd hf
            refine q_callv (q_runV (As := []) (rest := []) hE hH (tz_X0_restore l X (hf := eM11)) kv_X11_319 qk_6 (by decide) rfl hl.1 rfl (Nat.le_of_ble_eq_true rfl) dX11_agree_165) hH (fun H locs hH => ?_)
            refine lv_iconst (v := (-1)) hx hb dX11_agree_168 (by decide) ?_
            replace hf := Option.some.inj hf
            obtain ⟨rfl, rfl⟩ := qi2 hf
            exact pz_reti hE hrt hlk hH dX11_agree_169
          · replace hf := st_seR hf
            rcases r10 with r10 | M9
            · replace hf := st_seL hf
              obtain ⟨x7, M8⟩ := r10
              replace hf := st_u2 hf
              intro ls H locs hH hl
              refine lv_iload_n hx hb dX11_agree_153 rfl (lv_at hl 0 rfl) ?_
              replace hf := Option.some.inj hf
              obtain ⟨rfl, rfl⟩ := qi2 hf
              exact pz_reti hE hrt hlk hH dX11_agree_154
            · replace hf := st_seR hf
              intro ls H locs hH hl
              refine lv_aload_n hx hb dX11_agree_161 rfl (lv_at hl 0 rfl) ?_
              refine pz_gS (a := 6) hE hH fr_X11_45 qk_0 (by decide) dX11_agree_162 ?_
              obtain ⟨M12, eM12, hf⟩ := st_bd hf
              refine q_callv (q_runV (As := []) (rest := []) hE hH (tz_X0_restore l X (hf := eM12)) kv_X11_319 qk_6 (by decide) rfl hl.1 rfl (Nat.le_of_ble_eq_true rfl) dX11_agree_165) hH (fun H locs hH => ?_)
              refine lv_iconst (v := (-1)) hx hb dX11_agree_168 (by decide) ?_
              replace hf := Option.some.inj hf
              obtain ⟨rfl, rfl⟩ := qi2 hf
              exact pz_reti hE hrt hlk hH dX11_agree_169
        clear hf
        have hG := qlp_ind (r := r10) (fun q => qu3 q (fun x3 x4 M5 => ∀ (ls : Array Slot) (H : Heap) (locs : List Loc), q_H X M5 s H locs → lv_has ls 7 [(0, .ref (X.1 0)), (1, .int p0), (2, .int x3), (3, .int x4)] → W p l e (q_rm (8)) s m args below meth c H locs 0 0 (MQ below (q_Qi X r0 MR) args s 0 0 (q_A X)) (F0 m 51 ls []))) (by
            intro q o hf hK1 hK2
            obtain ⟨x3, x4, M5⟩ := q
            replace hf := st_u3 hf
            intro ls H locs hH hl
            refine lv_iload_n hx hb dX11_agree_51 rfl (lv_at hl 3 rfl) ?_
            refine lv_bipush (v := 30) hx hb dX11_agree_52 (by decide) ?_
            refine lv_icmp_gt (tgt := 161) hx hb dX11_agree_54 (by decide) (fun hc => ?_) (fun hc => ?_)
            · replace hf := (if_pos hc).symm.trans hf
              replace hf := hK2 _ (Option.some.inj hf).symm
              subst hf
              exact hX ls H locs hH (lv_sub hl [0] rfl)
            · replace hf := (if_neg hc).symm.trans hf
              refine lv_iload_n hx hb dX11_agree_57 rfl (lv_at hl 2 rfl) ?_
              refine lv_istore (lv' := [(4, .int x3), (0, .ref (X.1 0)), (1, .int p0), (2, .int x3), (3, .int x4)]) hx hb dX11_agree_58 hl (by decide) rfl (fun ls hl => ?_)
              refine lv_iconst (v := 0) hx hb dX11_agree_60 (by decide) ?_
              refine lv_istore (lv' := [(5, .int 0), (4, .int x3), (0, .ref (X.1 0)), (1, .int p0), (2, .int x3), (3, .int x4)]) hx hb dX11_agree_61 hl (by decide) rfl (fun ls hl => ?_)
              obtain ⟨r18, hlp, hf⟩ := st_bd hf
              have hX : (fun q0 => qu2 q0 (fun x16 M17 => ∀ (ls : Array Slot) (H : Heap) (locs : List Loc), q_H X M17 s H locs → lv_has ls 7 [(0, .ref (X.1 0)), (1, .int p0), (2, .int x16), (3, .int x4), (4, .int x3)] → W p l e (q_rm (8)) s m args below meth c H locs 0 0 (MQ below (q_Qi X r0 MR) args s 0 0 (q_A X)) (F0 m 138 ls [])) : (Int32 × qM) → Prop) r18 := by
                obtain ⟨x16, M17⟩ := r18
                replace hf := st_u2 hf
                intro ls H locs hH hl
                refine lv_iload_n hx hb dX11_agree_138 rfl (lv_at hl 2 rfl) ?_
                refine lv_bipush (v := 30) hx hb dX11_agree_139 (by decide) ?_
                refine lv_icmp_le (tgt := 147) hx hb dX11_agree_141 (by decide) (fun hc => ?_) (fun hc => ?_)
                · replace hf := (if_pos hc).symm.trans hf
                  refine lv_iload_n hx hb dX11_agree_147 rfl (lv_at hl 2 rfl) ?_
                  refine lv_iload hx hb dX11_agree_148 (lv_at hl 4 rfl) ?_
                  refine lv_icmp_ne (tgt := 155) hx hb dX11_agree_150 (by decide) (fun hc => ?_) (fun hc => ?_)
                  · replace hf := (if_neg hc).symm.trans hf
                    obtain ⟨x19, ex19, hf⟩ := st_lty hf
                    refine lv_iinc (v := x19) (lv' := [(3, .int x19), (0, .ref (X.1 0)), (1, .int p0), (2, .int x16), (4, .int x3)]) hx hb dX11_agree_155 hl (k := 3) rfl (by rw [ex19]; rfl) (by decide) rfl (fun ls hl => ?_)
                    refine lv_goto (tgt := 51) hx hb dX11_agree_158 (by decide) ?_
                    exact hK1 _ (Option.some.inj hf).symm ls H locs hH (lv_sub hl [1, 2, 3, 0] rfl)
                  · replace hf := (if_pos hc).symm.trans hf
                    replace hf := hK2 _ (Option.some.inj hf).symm
                    subst hf
                    exact hX ls H locs hH (lv_sub hl [2] rfl)
                · replace hf := (if_neg hc).symm.trans hf
                  replace hf := hK2 _ (Option.some.inj hf).symm
                  subst hf
                  exact hX ls H locs hH (lv_sub hl [0] rfl)
              clear hf
              have hG := qlp_ind (r := r18) (fun q => qu3 q (fun x13 x14 M15 => ∀ (ls : Array Slot) (H : Heap) (locs : List Loc), q_H X M15 s H locs → lv_has ls 7 [(0, .ref (X.1 0)), (1, .int p0), (2, .int x13), (3, .int x4), (4, .int x3), (5, .int x14)] → W p l e (q_rm (8)) s m args below meth c H locs 0 0 (MQ below (q_Qi X r0 MR) args s 0 0 (q_A X)) (F0 m 63 ls []))) (by
                  intro q o hf hK1 hK2
                  obtain ⟨x13, x14, M15⟩ := q
                  replace hf := st_u3 hf
                  intro ls H locs hH hl
                  refine lv_iload hx hb dX11_agree_63 (lv_at hl 5 rfl) ?_
                  refine lv_aload_n hx hb dX11_agree_65 rfl (lv_at hl 0 rfl) ?_
                  refine pz_gS (a := 33) hE hH fr_X11_52 qk_0 (by decide) dX11_agree_66 ?_
                  obtain ⟨a20, ea20, hf⟩ := st_bd hf
                  refine pz_gR hE hH fr_X11_169 qk_33 ea20 dX11_agree_69 (fun ha20 => ?_)
                  replace ha20 : q_vil a20 = true := ha20
                  refine pz_gI hE hH fr_X11_137 (q_vil_0 ha20) dX11_agree_72 ?_
                  refine lv_icmp_ge (tgt := 138) hx hb dX11_agree_75 (by decide) (fun hc => ?_) (fun hc => ?_)
                  · replace hf := (if_pos hc).symm.trans hf
                    replace hf := hK2 _ (Option.some.inj hf).symm
                    subst hf
                    exact hX ls H locs hH (lv_sub hl [0, 1, 2, 3, 4] rfl)
                  · replace hf := (if_neg hc).symm.trans hf
                    refine lv_iload_n hx hb dX11_agree_78 rfl (lv_at hl 2 rfl) ?_
                    refine lv_bipush (v := 30) hx hb dX11_agree_79 (by decide) ?_
                    refine lv_icmp_gt (tgt := 138) hx hb dX11_agree_81 (by decide) (fun hc => ?_) (fun hc => ?_)
                    · replace hf := (if_pos hc).symm.trans hf
                      replace hf := hK2 _ (Option.some.inj hf).symm
                      subst hf
                      exact hX ls H locs hH (lv_sub hl [0, 1, 2, 3, 4] rfl)
                    · replace hf := (if_neg hc).symm.trans hf
                      refine lv_aload_n hx hb dX11_agree_84 rfl (lv_at hl 0 rfl) ?_
                      refine pz_gS (a := 41) hE hH fr_X11_62 qk_0 (by decide) dX11_agree_85 ?_
                      refine lv_iload hx hb dX11_agree_88 (lv_at hl 5 rfl) ?_
                      refine lv_iload_n hx hb dX11_agree_90 rfl (lv_at hl 1 rfl) ?_
                      refine lv_aload_n hx hb dX11_agree_91 rfl (lv_at hl 0 rfl) ?_
                      refine pz_gS (a := 6) hE hH fr_X11_45 qk_0 (by decide) dX11_agree_92 ?_
                      obtain ⟨w21, ew21, hf⟩ := st_bd hf
                      obtain ⟨r22, M23⟩ := w21
                      replace hf := st_u2 hf
                      refine q_calli (q_runV (As := [.int x14, .int p0, .ref (X.1 6)]) (rest := []) hE hH (tz_X3_bestWay l X (hf := ew21)) kv_X11_306 qk_41 (by decide) rfl hl.1 rfl (Nat.le_of_ble_eq_true rfl) dX11_agree_95) hH (fun H locs hH => ?_)
                      refine lv_istore (lv' := [(6, .int r22), (0, .ref (X.1 0)), (1, .int p0), (2, .int x13), (3, .int x4), (4, .int x3), (5, .int x14)]) hx hb dX11_agree_98 hl (by decide) rfl (fun ls hl => ?_)
                      refine lv_aload_n hx hb dX11_agree_100 rfl (lv_at hl 1 rfl) ?_
                      refine pz_gS (a := 41) hE hH fr_X11_62 qk_0 (by decide) dX11_agree_101 ?_
                      refine pz_gI hE hH fr_X11_313 qk_41 dX11_agree_104 ?_
                      refine lv_aload_n hx hb dX11_agree_107 rfl (lv_at hl 1 rfl) ?_
                      refine pz_gS (a := 41) hE hH fr_X11_62 qk_0 (by decide) dX11_agree_108 ?_
                      refine pz_gI hE hH fr_X11_316 qk_41 dX11_agree_111 ?_
                      obtain ⟨w26, hr, hf⟩ := st_bd hf
                      have hJ : qu2 w26 (fun x24 M25 => ∀ (ls : Array Slot) (H : Heap) (locs : List Loc), q_H X M25 s H locs → lv_has ls 7 [(0, .ref (X.1 0)), (1, .int p0), (2, .int x24), (3, .int x4), (4, .int x3), (5, .int x14)] → W p l e (q_rm (8)) s m args below meth c H locs 0 0 (MQ below (q_Qi X r0 MR) args s 0 0 (q_A X)) (F0 m 132 ls [])) := by
                        obtain ⟨x24, M25⟩ := w26
                        replace hf := st_u2 hf
                        intro ls H locs hH hl
                        obtain ⟨x27, ex27, hf⟩ := st_lty hf
                        refine lv_iinc (v := x27) (lv' := [(5, .int x27), (0, .ref (X.1 0)), (1, .int p0), (2, .int x24), (3, .int x4), (4, .int x3)]) hx hb dX11_agree_132 hl (k := 5) rfl (by rw [ex27]; rfl) (by decide) rfl (fun ls hl => ?_)
                        refine lv_goto (tgt := 63) hx hb dX11_agree_135 (by decide) ?_
                        exact hK1 _ (Option.some.inj hf).symm ls H locs hH (lv_sub hl [1, 2, 3, 4, 5, 0] rfl)
                      clear hf
                      replace hf := hr
                      refine lv_icmp_le (tgt := 132) hx hb dX11_agree_114 (by decide) (fun hc => ?_) (fun hc => ?_)
                      · replace hf := (if_pos hc).symm.trans hf
                        replace hf := Option.some.inj hf
                        subst hf
                        exact hJ ls H locs hH (lv_sub hl [1, 2, 3, 4, 5, 6] rfl)
                      · replace hf := (if_neg hc).symm.trans hf
                        refine lv_aload_n hx hb dX11_agree_117 rfl (lv_at hl 1 rfl) ?_
                        refine pz_gS (a := 6) hE hH fr_X11_45 qk_0 (by decide) dX11_agree_118 ?_
                        refine pz_gS (a := 8) hE hH fr_X11_157 qk_6 (by decide) dX11_agree_121 ?_
                        refine lv_iload hx hb dX11_agree_124 (lv_at hl 6 rfl) ?_
                        refine lv_iload hx hb dX11_agree_126 (lv_at hl 0 rfl) ?_
                        obtain ⟨M28, eM28, hf⟩ := st_bd hf
                        refine pz_iast hE hH qk_8 eM28 dX11_agree_128 (fun H locs hH => ?_)
                        obtain ⟨x29, ex29, hf⟩ := st_lty hf
                        refine lv_iinc (v := x29) (lv' := [(2, .int x29), (6, .int r22), (0, .ref (X.1 0)), (1, .int p0), (3, .int x4), (4, .int x3), (5, .int x14)]) hx hb dX11_agree_129 hl (k := 3) rfl (by rw [ex29]; rfl) (by decide) rfl (fun ls hl => ?_)
                        replace hf := Option.some.inj hf
                        subst hf
                        exact hJ ls H locs hH (lv_sub hl [2, 3, 0, 4, 5, 6] rfl)) _ hlp
              exact hG ls H locs hH (lv_sub hl [2, 3, 4, 5, 1, 0] rfl)) _ hlp
        exact hG ls H locs hH (lv_sub hl [2, 3, 1, 0] rfl)
      · replace hf := (if_pos hc).symm.trans hf
        refine lv_iconst (v := (-1)) hx hb dX11_agree_27 (by decide) ?_
        replace hf := Option.some.inj hf
        obtain ⟨rfl, rfl⟩ := qi2 hf
        exact pz_reti hE hrt hlk hH dX11_agree_28

theorem dX11_row_0 : decode cX11_row 0 = .ok (.iload_n 1, 1) := by decide +kernel
theorem dX11_row_1 : decode cX11_row 1 = .ok (.iconst 2, 1) := by decide +kernel
theorem dX11_row_2 : decode cX11_row 2 = .ok (.if_icmp .lt 23, 3) := by decide +kernel
theorem dX11_row_5 : decode cX11_row 5 = .ok (.iload_n 1, 1) := by decide +kernel
theorem dX11_row_6 : decode cX11_row 6 = .ok (.bipush 9, 2) := by decide +kernel
theorem dX11_row_8 : decode cX11_row 8 = .ok (.if_icmp .gt 17, 3) := by decide +kernel
theorem dX11_row_11 : decode cX11_row 11 = .ok (.iload_n 2, 1) := by decide +kernel
theorem dX11_row_12 : decode cX11_row 12 = .ok (.iconst 1, 1) := by decide +kernel
theorem dX11_row_13 : decode cX11_row 13 = .ok (.if_icmp .lt 12, 3) := by decide +kernel
theorem dX11_row_16 : decode cX11_row 16 = .ok (.iload_n 2, 1) := by decide +kernel
theorem dX11_row_17 : decode cX11_row 17 = .ok (.iload_n 1, 1) := by decide +kernel
theorem dX11_row_18 : decode cX11_row 18 = .ok (.if_icmp .gt 7, 3) := by decide +kernel
theorem dX11_row_21 : decode cX11_row 21 = .ok (.iconst 1, 1) := by decide +kernel
theorem dX11_row_22 : decode cX11_row 22 = .ok (.goto 4, 3) := by decide +kernel
theorem dX11_row_25 : decode cX11_row 25 = .ok (.iconst 0, 1) := by decide +kernel
theorem dX11_row_26 : decode cX11_row 26 = .ok (.istore 7, 2) := by decide +kernel
theorem dX11_row_28 : decode cX11_row 28 = .ok (.iload 7, 2) := by decide +kernel
theorem dX11_row_30 : decode cX11_row 30 = .ok (.ifCond .eq 33, 3) := by decide +kernel
theorem dX11_row_33 : decode cX11_row 33 = .ok (.iload_n 3, 1) := by decide +kernel
theorem dX11_row_34 : decode cX11_row 34 = .ok (.sipush 1000, 3) := by decide +kernel
theorem dX11_row_37 : decode cX11_row 37 = .ok (.invokestatic 123, 3) := by decide +kernel
theorem dX11_row_40 : decode cX11_row 40 = .ok (.ifCond .eq 23, 3) := by decide +kernel
theorem dX11_row_43 : decode cX11_row 43 = .ok (.iload 4, 2) := by decide +kernel
theorem dX11_row_45 : decode cX11_row 45 = .ok (.bipush 100, 2) := by decide +kernel
theorem dX11_row_47 : decode cX11_row 47 = .ok (.invokestatic 123, 3) := by decide +kernel
theorem dX11_row_50 : decode cX11_row 50 = .ok (.ifCond .eq 13, 3) := by decide +kernel
theorem dX11_row_53 : decode cX11_row 53 = .ok (.iload 5, 2) := by decide +kernel
theorem dX11_row_55 : decode cX11_row 55 = .ok (.bipush 100, 2) := by decide +kernel
theorem dX11_row_57 : decode cX11_row 57 = .ok (.invokestatic 123, 3) := by decide +kernel
theorem dX11_row_60 : decode cX11_row 60 = .ok (.ifCond .ne 5, 3) := by decide +kernel
theorem dX11_row_63 : decode cX11_row 63 = .ok (.iconst 0, 1) := by decide +kernel
theorem dX11_row_64 : decode cX11_row 64 = .ok (.ireturn, 1) := by decide +kernel
theorem dX11_row_65 : decode cX11_row 65 = .ok (.iload 6, 2) := by decide +kernel
theorem dX11_row_67 : decode cX11_row 67 = .ok (.iconst 1, 1) := by decide +kernel
theorem dX11_row_68 : decode cX11_row 68 = .ok (.if_icmp .lt 10, 3) := by decide +kernel
theorem dX11_row_71 : decode cX11_row 71 = .ok (.iload 6, 2) := by decide +kernel
theorem dX11_row_73 : decode cX11_row 73 = .ok (.bipush 12, 2) := by decide +kernel
theorem dX11_row_75 : decode cX11_row 75 = .ok (.if_icmp .le 5, 3) := by decide +kernel
theorem dX11_row_78 : decode cX11_row 78 = .ok (.iconst 0, 1) := by decide +kernel
theorem dX11_row_79 : decode cX11_row 79 = .ok (.ireturn, 1) := by decide +kernel
theorem dX11_row_80 : decode cX11_row 80 = .ok (.aload_n 0, 1) := by decide +kernel
theorem dX11_row_81 : decode cX11_row 81 = .ok (.getfield 69, 3) := by decide +kernel
theorem dX11_row_84 : decode cX11_row 84 = .ok (.iload_n 1, 1) := by decide +kernel
theorem dX11_row_85 : decode cX11_row 85 = .ok (.iload_n 2, 1) := by decide +kernel
theorem dX11_row_86 : decode cX11_row 86 = .ok (.iload 6, 2) := by decide +kernel
theorem dX11_row_88 : decode cX11_row 88 = .ok (.invokevirtual 322, 3) := by decide +kernel
theorem dX11_row_91 : decode cX11_row 91 = .ok (.aload_n 0, 1) := by decide +kernel
theorem dX11_row_92 : decode cX11_row 92 = .ok (.getfield 69, 3) := by decide +kernel
theorem dX11_row_95 : decode cX11_row 95 = .ok (.iload_n 3, 1) := by decide +kernel
theorem dX11_row_96 : decode cX11_row 96 = .ok (.putfield 325, 3) := by decide +kernel
theorem dX11_row_99 : decode cX11_row 99 = .ok (.aload_n 0, 1) := by decide +kernel
theorem dX11_row_100 : decode cX11_row 100 = .ok (.getfield 69, 3) := by decide +kernel
theorem dX11_row_103 : decode cX11_row 103 = .ok (.iload 4, 2) := by decide +kernel
theorem dX11_row_105 : decode cX11_row 105 = .ok (.putfield 328, 3) := by decide +kernel
theorem dX11_row_108 : decode cX11_row 108 = .ok (.aload_n 0, 1) := by decide +kernel
theorem dX11_row_109 : decode cX11_row 109 = .ok (.getfield 69, 3) := by decide +kernel
theorem dX11_row_112 : decode cX11_row 112 = .ok (.iload 5, 2) := by decide +kernel
theorem dX11_row_114 : decode cX11_row 114 = .ok (.putfield 331, 3) := by decide +kernel
theorem dX11_row_117 : decode cX11_row 117 = .ok (.iconst 1, 1) := by decide +kernel
theorem dX11_row_118 : decode cX11_row 118 = .ok (.ireturn, 1) := by decide +kernel
set_option maxRecDepth 100000 in
set_option maxHeartbeats 4000000 in
theorem tz_X11_row (l : Launch) (X : qX) {p0 : Int32} {p1 : Int32} {p2 : Int32} {p3 : Int32} {p4 : Int32} {p5 : Int32} {M MR : qM} {r0 : Bool} (hf : jTc_row p0 p1 p2 p3 p4 p5 M = some (r0, MR)) : q_Met l X yX11_row cX11_row 8 (some .boolean) (3) M [.ref (X.1 0), .int p0, .int p1, .int p2, .int p3, .int p4, .int p5] (q_Qi X (b2i r0) MR) := by
  refine q_enter (by decide) (Nat.le_of_ble_eq_true rfl) ?_
  intro p e s m args below meth c hE hrt hlk H locs hH ls hl
  have hx := hE.1
  have hb := hE.2.1
  have hl : lv_has ls 8 [(0, .ref (X.1 0)), (1, .int p0), (2, .int p1), (3, .int p2), (4, .int p3), (5, .int p4), (6, .int p5)] := hl
  unfold jTc_row at hf
  refine lv_iload_n hx hb dX11_row_0 rfl (lv_at hl 1 rfl) ?_
  refine lv_iconst (v := 2) hx hb dX11_row_1 (by decide) ?_
  obtain ⟨z1, hr, hf⟩ := st_ltx hf
  have hJ : ∀ (ls : Array Slot) (H : Heap) (locs : List Loc), q_H X M s H locs → lv_has ls 8 [(0, .ref (X.1 0)), (1, .int p0), (2, .int p1), (3, .int p2), (4, .int p3), (5, .int p4), (6, .int p5)] → W p l e (q_rm (3)) s m args below meth c H locs 0 0 (MQ below (q_Qi X (b2i r0) MR) args s 0 0 (q_A X)) (F0 m 26 ls [.int (b2i z1)]) := by
    intro ls H locs hH hl
    refine lv_istore (lv' := [(7, .int (b2i z1)), (0, .ref (X.1 0)), (1, .int p0), (2, .int p1), (3, .int p2), (4, .int p3), (5, .int p4), (6, .int p5)]) hx hb dX11_row_26 hl (by decide) rfl (fun ls hl => ?_)
    refine lv_iload hx hb dX11_row_28 (lv_at hl 0 rfl) ?_
    refine lv_if_eq (tgt := 63) hx hb dX11_row_30 (by decide) (fun hc => ?_) (fun hc => ?_)
    · replace hf := (if_pos hc).symm.trans hf
      refine lv_iconst (v := 0) hx hb dX11_row_63 (by decide) ?_
      replace hf := Option.some.inj hf
      obtain ⟨rfl, rfl⟩ := qi2 hf
      exact pz_retz hE hrt hlk hH rfl dX11_row_64
    · replace hf := (if_neg hc).symm.trans hf
      refine lv_iload_n hx hb dX11_row_33 rfl (lv_at hl 4 rfl) ?_
      refine lv_sipush (v := 1000) hx hb dX11_row_34 (by decide) ?_
      refine q_calli (q_runS (As := [.int p2, .int 1000]) (rest := []) hE hH (tz_X11_isOf l X (M := M) (hf := rfl)) ks_X11_123 (by decide) rfl hl.1 rfl (Nat.le_of_ble_eq_true rfl) dX11_row_37) hH (fun H locs hH => ?_)
      refine lv_if_eq (tgt := 63) hx hb dX11_row_40 (by decide) (fun hc => ?_) (fun hc => ?_)
      · replace hf := (if_pos hc).symm.trans hf
        refine lv_iconst (v := 0) hx hb dX11_row_63 (by decide) ?_
        replace hf := Option.some.inj hf
        obtain ⟨rfl, rfl⟩ := qi2 hf
        exact pz_retz hE hrt hlk hH rfl dX11_row_64
      · replace hf := (if_neg hc).symm.trans hf
        refine lv_iload hx hb dX11_row_43 (lv_at hl 5 rfl) ?_
        refine lv_bipush (v := 100) hx hb dX11_row_45 (by decide) ?_
        refine q_calli (q_runS (As := [.int p3, .int 100]) (rest := []) hE hH (tz_X11_isOf l X (M := M) (hf := rfl)) ks_X11_123 (by decide) rfl hl.1 rfl (Nat.le_of_ble_eq_true rfl) dX11_row_47) hH (fun H locs hH => ?_)
        refine lv_if_eq (tgt := 63) hx hb dX11_row_50 (by decide) (fun hc => ?_) (fun hc => ?_)
        · replace hf := (if_pos hc).symm.trans hf
          refine lv_iconst (v := 0) hx hb dX11_row_63 (by decide) ?_
          replace hf := Option.some.inj hf
          obtain ⟨rfl, rfl⟩ := qi2 hf
          exact pz_retz hE hrt hlk hH rfl dX11_row_64
        · replace hf := (if_neg hc).symm.trans hf
          refine lv_iload hx hb dX11_row_53 (lv_at hl 6 rfl) ?_
          refine lv_bipush (v := 100) hx hb dX11_row_55 (by decide) ?_
          refine q_calli (q_runS (As := [.int p4, .int 100]) (rest := []) hE hH (tz_X11_isOf l X (M := M) (hf := rfl)) ks_X11_123 (by decide) rfl hl.1 rfl (Nat.le_of_ble_eq_true rfl) dX11_row_57) hH (fun H locs hH => ?_)
          refine lv_if_ne (tgt := 65) hx hb dX11_row_60 (by decide) (fun hc => ?_) (fun hc => ?_)
          · replace hf := (if_neg hc).symm.trans hf
            refine lv_iload hx hb dX11_row_65 (lv_at hl 7 rfl) ?_
            refine lv_iconst (v := 1) hx hb dX11_row_67 (by decide) ?_
            refine lv_icmp_lt (tgt := 78) hx hb dX11_row_68 (by decide) (fun hc => ?_) (fun hc => ?_)
            · replace hf := (if_pos hc).symm.trans hf
              refine lv_iconst (v := 0) hx hb dX11_row_78 (by decide) ?_
              replace hf := Option.some.inj hf
              obtain ⟨rfl, rfl⟩ := qi2 hf
              exact pz_retz hE hrt hlk hH rfl dX11_row_79
            · replace hf := (if_neg hc).symm.trans hf
              refine lv_iload hx hb dX11_row_71 (lv_at hl 7 rfl) ?_
              refine lv_bipush (v := 12) hx hb dX11_row_73 (by decide) ?_
              refine lv_icmp_le (tgt := 80) hx hb dX11_row_75 (by decide) (fun hc => ?_) (fun hc => ?_)
              · replace hf := (if_pos hc).symm.trans hf
                refine lv_aload_n hx hb dX11_row_80 rfl (lv_at hl 1 rfl) ?_
                refine pz_gS (a := 49) hE hH fr_X11_69 qk_0 (by decide) dX11_row_81 ?_
                refine lv_iload_n hx hb dX11_row_84 rfl (lv_at hl 2 rfl) ?_
                refine lv_iload_n hx hb dX11_row_85 rfl (lv_at hl 3 rfl) ?_
                refine lv_iload hx hb dX11_row_86 (lv_at hl 7 rfl) ?_
                obtain ⟨M2, eM2, hf⟩ := st_bd hf
                refine q_callv (q_runV (As := [.int p0, .int p1, .int p5]) (rest := []) hE hH (tz_X2_begin l X (hf := eM2)) kv_X11_322 qk_49 (by decide) rfl hl.1 rfl (Nat.le_of_ble_eq_true rfl) dX11_row_88) hH (fun H locs hH => ?_)
                refine lv_aload_n hx hb dX11_row_91 rfl (lv_at hl 1 rfl) ?_
                refine pz_gS (a := 49) hE hH fr_X11_69 qk_0 (by decide) dX11_row_92 ?_
                refine lv_iload_n hx hb dX11_row_95 rfl (lv_at hl 4 rfl) ?_
                obtain ⟨M3, eM3, hf⟩ := st_lty hf
                refine pz_pI hE hH fw_X11_325 qk_49  eM3 dX11_row_96 (fun H locs hH => ?_)
                refine lv_aload_n hx hb dX11_row_99 rfl (lv_at hl 1 rfl) ?_
                refine pz_gS (a := 49) hE hH fr_X11_69 qk_0 (by decide) dX11_row_100 ?_
                refine lv_iload hx hb dX11_row_103 (lv_at hl 5 rfl) ?_
                obtain ⟨M4, eM4, hf⟩ := st_lty hf
                refine pz_pI hE hH fw_X11_328 qk_49  eM4 dX11_row_105 (fun H locs hH => ?_)
                refine lv_aload_n hx hb dX11_row_108 rfl (lv_at hl 1 rfl) ?_
                refine pz_gS (a := 49) hE hH fr_X11_69 qk_0 (by decide) dX11_row_109 ?_
                refine lv_iload hx hb dX11_row_112 (lv_at hl 6 rfl) ?_
                obtain ⟨M5, eM5, hf⟩ := st_lty hf
                refine pz_pI hE hH fw_X11_331 qk_49  eM5 dX11_row_114 (fun H locs hH => ?_)
                refine lv_iconst (v := 1) hx hb dX11_row_117 (by decide) ?_
                replace hf := Option.some.inj hf
                obtain ⟨rfl, rfl⟩ := qi2 hf
                exact pz_retz hE hrt hlk hH rfl dX11_row_118
              · replace hf := (if_neg hc).symm.trans hf
                refine lv_iconst (v := 0) hx hb dX11_row_78 (by decide) ?_
                replace hf := Option.some.inj hf
                obtain ⟨rfl, rfl⟩ := qi2 hf
                exact pz_retz hE hrt hlk hH rfl dX11_row_79
          · replace hf := (if_pos hc).symm.trans hf
            refine lv_iconst (v := 0) hx hb dX11_row_63 (by decide) ?_
            replace hf := Option.some.inj hf
            obtain ⟨rfl, rfl⟩ := qi2 hf
            exact pz_retz hE hrt hlk hH rfl dX11_row_64
  clear hf
  replace hf := hr
  refine lv_icmp_lt (tgt := 25) hx hb dX11_row_2 (by decide) (fun hc => ?_) (fun hc => ?_)
  · replace hf := (if_pos hc).symm.trans hf
    refine lv_iconst (v := 0) hx hb dX11_row_25 (by decide) ?_
    subst hf
    exact hJ ls H locs hH (lv_sub hl [0, 1, 2, 3, 4, 5, 6] rfl)
  · replace hf := (if_neg hc).symm.trans hf
    refine lv_iload_n hx hb dX11_row_5 rfl (lv_at hl 1 rfl) ?_
    refine lv_bipush (v := 9) hx hb dX11_row_6 (by decide) ?_
    refine lv_icmp_gt (tgt := 25) hx hb dX11_row_8 (by decide) (fun hc => ?_) (fun hc => ?_)
    · replace hf := (if_pos hc).symm.trans hf
      refine lv_iconst (v := 0) hx hb dX11_row_25 (by decide) ?_
      subst hf
      exact hJ ls H locs hH (lv_sub hl [0, 1, 2, 3, 4, 5, 6] rfl)
    · replace hf := (if_neg hc).symm.trans hf
      refine lv_iload_n hx hb dX11_row_11 rfl (lv_at hl 2 rfl) ?_
      refine lv_iconst (v := 1) hx hb dX11_row_12 (by decide) ?_
      refine lv_icmp_lt (tgt := 25) hx hb dX11_row_13 (by decide) (fun hc => ?_) (fun hc => ?_)
      · replace hf := (if_pos hc).symm.trans hf
        refine lv_iconst (v := 0) hx hb dX11_row_25 (by decide) ?_
        subst hf
        exact hJ ls H locs hH (lv_sub hl [0, 1, 2, 3, 4, 5, 6] rfl)
      · replace hf := (if_neg hc).symm.trans hf
        refine lv_iload_n hx hb dX11_row_16 rfl (lv_at hl 2 rfl) ?_
        refine lv_iload_n hx hb dX11_row_17 rfl (lv_at hl 1 rfl) ?_
        refine lv_icmp_gt (tgt := 25) hx hb dX11_row_18 (by decide) (fun hc => ?_) (fun hc => ?_)
        · replace hf := (if_pos hc).symm.trans hf
          refine lv_iconst (v := 0) hx hb dX11_row_25 (by decide) ?_
          subst hf
          exact hJ ls H locs hH (lv_sub hl [0, 1, 2, 3, 4, 5, 6] rfl)
        · replace hf := (if_neg hc).symm.trans hf
          refine lv_iconst (v := 1) hx hb dX11_row_21 (by decide) ?_
          refine lv_goto (tgt := 26) hx hb dX11_row_22 (by decide) ?_
          subst hf
          exact hJ ls H locs hH (lv_sub hl [0, 1, 2, 3, 4, 5, 6] rfl)

theorem dX11_chance_0 : decode cX11_chance 0 = .ok (.aload_n 0, 1) := by decide +kernel
theorem dX11_chance_1 : decode cX11_chance 1 = .ok (.getfield 69, 3) := by decide +kernel
theorem dX11_chance_4 : decode cX11_chance 4 = .ok (.invokevirtual 159, 3) := by decide +kernel
theorem dX11_chance_7 : decode cX11_chance 7 = .ok (.ifCond .eq 26, 3) := by decide +kernel
theorem dX11_chance_10 : decode cX11_chance 10 = .ok (.iload_n 1, 1) := by decide +kernel
theorem dX11_chance_11 : decode cX11_chance 11 = .ok (.aload_n 0, 1) := by decide +kernel
theorem dX11_chance_12 : decode cX11_chance 12 = .ok (.getfield 69, 3) := by decide +kernel
theorem dX11_chance_15 : decode cX11_chance 15 = .ok (.getfield 163, 3) := by decide +kernel
theorem dX11_chance_18 : decode cX11_chance 18 = .ok (.invokestatic 123, 3) := by decide +kernel
theorem dX11_chance_21 : decode cX11_chance 21 = .ok (.ifCond .eq 12, 3) := by decide +kernel
theorem dX11_chance_24 : decode cX11_chance 24 = .ok (.iload_n 2, 1) := by decide +kernel
theorem dX11_chance_25 : decode cX11_chance 25 = .ok (.bipush 11, 2) := by decide +kernel
theorem dX11_chance_27 : decode cX11_chance 27 = .ok (.invokestatic 123, 3) := by decide +kernel
theorem dX11_chance_30 : decode cX11_chance 30 = .ok (.ifCond .ne 5, 3) := by decide +kernel
theorem dX11_chance_33 : decode cX11_chance 33 = .ok (.iconst 0, 1) := by decide +kernel
theorem dX11_chance_34 : decode cX11_chance 34 = .ok (.ireturn, 1) := by decide +kernel
theorem dX11_chance_35 : decode cX11_chance 35 = .ok (.aload_n 0, 1) := by decide +kernel
theorem dX11_chance_36 : decode cX11_chance 36 = .ok (.getfield 69, 3) := by decide +kernel
theorem dX11_chance_39 : decode cX11_chance 39 = .ok (.getfield 334, 3) := by decide +kernel
theorem dX11_chance_42 : decode cX11_chance 42 = .ok (.iload_n 1, 1) := by decide +kernel
theorem dX11_chance_43 : decode cX11_chance 43 = .ok (.iload_n 2, 1) := by decide +kernel
theorem dX11_chance_44 : decode cX11_chance 44 = .ok (.iastore, 1) := by decide +kernel
theorem dX11_chance_45 : decode cX11_chance 45 = .ok (.iconst 1, 1) := by decide +kernel
theorem dX11_chance_46 : decode cX11_chance 46 = .ok (.ireturn, 1) := by decide +kernel
set_option maxRecDepth 100000 in
set_option maxHeartbeats 4000000 in
theorem tz_X11_chance (l : Launch) (X : qX) {p0 : Int32} {p1 : Int32} {M MR : qM} {r0 : Bool} (hf : jTc_chance p0 p1 M = some (r0, MR)) : q_Met l X yX11_chance cX11_chance 3 (some .boolean) (2) M [.ref (X.1 0), .int p0, .int p1] (q_Qi X (b2i r0) MR) := by
  refine q_enter (by decide) (Nat.le_of_ble_eq_true rfl) ?_
  intro p e s m args below meth c hE hrt hlk H locs hH ls hl
  have hx := hE.1
  have hb := hE.2.1
  have hl : lv_has ls 3 [(0, .ref (X.1 0)), (1, .int p0), (2, .int p1)] := hl
  unfold jTc_chance at hf
  refine lv_aload_n hx hb dX11_chance_0 rfl (lv_at hl 0 rfl) ?_
  refine pz_gS (a := 49) hE hH fr_X11_69 qk_0 (by decide) dX11_chance_1 ?_
  refine q_calli (q_runV (As := []) (rest := []) hE hH (tz_X2_isThere l X (hf := rfl)) kv_X11_159 qk_49 (by decide) rfl hl.1 rfl (Nat.le_of_ble_eq_true rfl) dX11_chance_4) hH (fun H locs hH => ?_)
  refine lv_if_eq (tgt := 33) hx hb dX11_chance_7 (by decide) (fun hc => ?_) (fun hc => ?_)
  · replace hf := (if_pos hc).symm.trans hf
    refine lv_iconst (v := 0) hx hb dX11_chance_33 (by decide) ?_
    replace hf := Option.some.inj hf
    obtain ⟨rfl, rfl⟩ := qi2 hf
    exact pz_retz hE hrt hlk hH rfl dX11_chance_34
  · replace hf := (if_neg hc).symm.trans hf
    refine lv_iload_n hx hb dX11_chance_10 rfl (lv_at hl 1 rfl) ?_
    refine lv_aload_n hx hb dX11_chance_11 rfl (lv_at hl 0 rfl) ?_
    refine pz_gS (a := 49) hE hH fr_X11_69 qk_0 (by decide) dX11_chance_12 ?_
    refine pz_gI hE hH fr_X11_163 qk_49 dX11_chance_15 ?_
    refine q_calli (q_runS (As := [.int p0, .int (M.1 49 5)]) (rest := []) hE hH (tz_X11_isOf l X (M := M) (hf := rfl)) ks_X11_123 (by decide) rfl hl.1 rfl (Nat.le_of_ble_eq_true rfl) dX11_chance_18) hH (fun H locs hH => ?_)
    refine lv_if_eq (tgt := 33) hx hb dX11_chance_21 (by decide) (fun hc => ?_) (fun hc => ?_)
    · replace hf := (if_pos hc).symm.trans hf
      refine lv_iconst (v := 0) hx hb dX11_chance_33 (by decide) ?_
      replace hf := Option.some.inj hf
      obtain ⟨rfl, rfl⟩ := qi2 hf
      exact pz_retz hE hrt hlk hH rfl dX11_chance_34
    · replace hf := (if_neg hc).symm.trans hf
      refine lv_iload_n hx hb dX11_chance_24 rfl (lv_at hl 2 rfl) ?_
      refine lv_bipush (v := 11) hx hb dX11_chance_25 (by decide) ?_
      refine q_calli (q_runS (As := [.int p1, .int 11]) (rest := []) hE hH (tz_X11_isOf l X (M := M) (hf := rfl)) ks_X11_123 (by decide) rfl hl.1 rfl (Nat.le_of_ble_eq_true rfl) dX11_chance_27) hH (fun H locs hH => ?_)
      refine lv_if_ne (tgt := 35) hx hb dX11_chance_30 (by decide) (fun hc => ?_) (fun hc => ?_)
      · replace hf := (if_neg hc).symm.trans hf
        refine lv_aload_n hx hb dX11_chance_35 rfl (lv_at hl 0 rfl) ?_
        refine pz_gS (a := 49) hE hH fr_X11_69 qk_0 (by decide) dX11_chance_36 ?_
        refine pz_gS (a := 50) hE hH fr_X11_334 qk_49 (by decide) dX11_chance_39 ?_
        refine lv_iload_n hx hb dX11_chance_42 rfl (lv_at hl 1 rfl) ?_
        refine lv_iload_n hx hb dX11_chance_43 rfl (lv_at hl 2 rfl) ?_
        obtain ⟨M1, eM1, hf⟩ := st_bd hf
        refine pz_iast hE hH qk_50 eM1 dX11_chance_44 (fun H locs hH => ?_)
        refine lv_iconst (v := 1) hx hb dX11_chance_45 (by decide) ?_
        replace hf := Option.some.inj hf
        obtain ⟨rfl, rfl⟩ := qi2 hf
        exact pz_retz hE hrt hlk hH rfl dX11_chance_46
      · replace hf := (if_pos hc).symm.trans hf
        refine lv_iconst (v := 0) hx hb dX11_chance_33 (by decide) ?_
        replace hf := Option.some.inj hf
        obtain ⟨rfl, rfl⟩ := qi2 hf
        exact pz_retz hE hrt hlk hH rfl dX11_chance_34

theorem dX11_taken_0 : decode cX11_taken 0 = .ok (.aload_n 0, 1) := by decide +kernel
theorem dX11_taken_1 : decode cX11_taken 1 = .ok (.getfield 69, 3) := by decide +kernel
theorem dX11_taken_4 : decode cX11_taken 4 = .ok (.invokevirtual 159, 3) := by decide +kernel
theorem dX11_taken_7 : decode cX11_taken 7 = .ok (.ifCond .eq 22, 3) := by decide +kernel
theorem dX11_taken_10 : decode cX11_taken 10 = .ok (.iload_n 1, 1) := by decide +kernel
theorem dX11_taken_11 : decode cX11_taken 11 = .ok (.iconst (-1), 1) := by decide +kernel
theorem dX11_taken_12 : decode cX11_taken 12 = .ok (.if_icmp .eq 19, 3) := by decide +kernel
theorem dX11_taken_15 : decode cX11_taken 15 = .ok (.iload_n 1, 1) := by decide +kernel
theorem dX11_taken_16 : decode cX11_taken 16 = .ok (.aload_n 0, 1) := by decide +kernel
theorem dX11_taken_17 : decode cX11_taken 17 = .ok (.getfield 69, 3) := by decide +kernel
theorem dX11_taken_20 : decode cX11_taken 20 = .ok (.getfield 163, 3) := by decide +kernel
theorem dX11_taken_23 : decode cX11_taken 23 = .ok (.invokestatic 123, 3) := by decide +kernel
theorem dX11_taken_26 : decode cX11_taken 26 = .ok (.ifCond .ne 5, 3) := by decide +kernel
theorem dX11_taken_29 : decode cX11_taken 29 = .ok (.iconst (-1), 1) := by decide +kernel
theorem dX11_taken_30 : decode cX11_taken 30 = .ok (.ireturn, 1) := by decide +kernel
theorem dX11_taken_31 : decode cX11_taken 31 = .ok (.aload_n 0, 1) := by decide +kernel
theorem dX11_taken_32 : decode cX11_taken 32 = .ok (.getfield 69, 3) := by decide +kernel
theorem dX11_taken_35 : decode cX11_taken 35 = .ok (.invokevirtual 337, 3) := by decide +kernel
theorem dX11_taken_38 : decode cX11_taken 38 = .ok (.iload_n 1, 1) := by decide +kernel
theorem dX11_taken_39 : decode cX11_taken 39 = .ok (.iconst (-1), 1) := by decide +kernel
theorem dX11_taken_40 : decode cX11_taken 40 = .ok (.if_icmp .ne 13, 3) := by decide +kernel
theorem dX11_taken_43 : decode cX11_taken 43 = .ok (.aload_n 0, 1) := by decide +kernel
theorem dX11_taken_44 : decode cX11_taken 44 = .ok (.getfield 69, 3) := by decide +kernel
theorem dX11_taken_47 : decode cX11_taken 47 = .ok (.invokevirtual 340, 3) := by decide +kernel
theorem dX11_taken_50 : decode cX11_taken 50 = .ok (.goto 12, 3) := by decide +kernel
theorem dX11_taken_53 : decode cX11_taken 53 = .ok (.aload_n 0, 1) := by decide +kernel
theorem dX11_taken_54 : decode cX11_taken 54 = .ok (.getfield 69, 3) := by decide +kernel
theorem dX11_taken_57 : decode cX11_taken 57 = .ok (.getfield 344, 3) := by decide +kernel
theorem dX11_taken_60 : decode cX11_taken 60 = .ok (.iload_n 1, 1) := by decide +kernel
theorem dX11_taken_61 : decode cX11_taken 61 = .ok (.laload, 1) := by decide +kernel
theorem dX11_taken_62 : decode cX11_taken 62 = .ok (.l2i, 1) := by decide +kernel
theorem dX11_taken_63 : decode cX11_taken 63 = .ok (.ireturn, 1) := by decide +kernel
set_option maxRecDepth 100000 in
set_option maxHeartbeats 4000000 in
theorem tz_X11_taken (l : Launch) (X : qX) {p0 : Int32} {M MR : qM} {r0 : Int32} (hf : jTc_taken p0 M = some (r0, MR)) : q_Met l X yX11_taken cX11_taken 2 (some .int) (5) M [.ref (X.1 0), .int p0] (q_Qi X r0 MR) := by
  refine q_enter (by decide) (Nat.le_of_ble_eq_true rfl) ?_
  intro p e s m args below meth c hE hrt hlk H locs hH ls hl
  have hx := hE.1
  have hb := hE.2.1
  have hl : lv_has ls 2 [(0, .ref (X.1 0)), (1, .int p0)] := hl
  unfold jTc_taken at hf
  refine lv_aload_n hx hb dX11_taken_0 rfl (lv_at hl 0 rfl) ?_
  refine pz_gS (a := 49) hE hH fr_X11_69 qk_0 (by decide) dX11_taken_1 ?_
  refine q_calli (q_runV (As := []) (rest := []) hE hH (tz_X2_isThere l X (hf := rfl)) kv_X11_159 qk_49 (by decide) rfl hl.1 rfl (Nat.le_of_ble_eq_true rfl) dX11_taken_4) hH (fun H locs hH => ?_)
  obtain ⟨z1, hz, hf⟩ := st_ltx hf
  have hT : z1 = true → ∀ (H : Heap) (locs : List Loc), q_H X M s H locs → W p l e (q_rm (5)) s m args below meth c H locs 0 0 (MQ below (q_Qi X r0 MR) args s 0 0 (q_A X)) (F0 m 29 ls []) := by
    intro hc H locs hH
    replace hf := (if_pos hc).symm.trans hf
    refine lv_iconst (v := (-1)) hx hb dX11_taken_29 (by decide) ?_
    replace hf := Option.some.inj hf
    obtain ⟨rfl, rfl⟩ := qi2 hf
    exact pz_reti hE hrt hlk hH dX11_taken_30
  have hF : ¬ z1 = true → ∀ (H : Heap) (locs : List Loc), q_H X M s H locs → W p l e (q_rm (5)) s m args below meth c H locs 0 0 (MQ below (q_Qi X r0 MR) args s 0 0 (q_A X)) (F0 m 31 ls []) := by
    intro hc H locs hH
    replace hf := (if_neg hc).symm.trans hf
    refine lv_aload_n hx hb dX11_taken_31 rfl (lv_at hl 0 rfl) ?_
    refine pz_gS (a := 49) hE hH fr_X11_69 qk_0 (by decide) dX11_taken_32 ?_
    obtain ⟨M2, eM2, hf⟩ := st_bd hf
    refine q_callv (q_runV (As := []) (rest := []) hE hH (tz_X2_followAll l X (hf := eM2)) kv_X11_337 qk_49 (by decide) rfl hl.1 rfl (Nat.le_of_ble_eq_true rfl) dX11_taken_35) hH (fun H locs hH => ?_)
    refine lv_iload_n hx hb dX11_taken_38 rfl (lv_at hl 1 rfl) ?_
    refine lv_iconst (v := (-1)) hx hb dX11_taken_39 (by decide) ?_
    obtain ⟨x3, hr, hf⟩ := st_bd hf
    have hJ : ∀ (ls : Array Slot) (H : Heap) (locs : List Loc), q_H X M2 s H locs → lv_has ls 2 [] → W p l e (q_rm (5)) s m args below meth c H locs 0 0 (MQ below (q_Qi X r0 MR) args s 0 0 (q_A X)) (F0 m 62 ls [.long x3]) := by
      intro ls H locs hH hl
      refine lv_l2i (v := (x3 : Int64).toInt32) hx hb dX11_taken_62 rfl ?_
      replace hf := Option.some.inj hf
      obtain ⟨rfl, rfl⟩ := qi2 hf
      exact pz_reti hE hrt hlk hH dX11_taken_63
    clear hf
    replace hf := hr
    refine lv_icmp_ne (tgt := 53) hx hb dX11_taken_40 (by decide) (fun hc => ?_) (fun hc => ?_)
    · replace hf := (if_neg hc).symm.trans hf
      refine lv_aload_n hx hb dX11_taken_53 rfl (lv_at hl 0 rfl) ?_
      refine pz_gS (a := 49) hE hH fr_X11_69 qk_0 (by decide) dX11_taken_54 ?_
      refine pz_gS (a := 51) hE hH fr_X11_344 qk_49 (by decide) dX11_taken_57 ?_
      refine lv_iload_n hx hb dX11_taken_60 rfl (lv_at hl 1 rfl) ?_
      obtain ⟨v4, ev4, hf⟩ := st_bd hf
      refine pz_lald hE hH qk_51 ev4 dX11_taken_61 ?_
      replace hf := Option.some.inj hf
      subst hf
      exact hJ ls H locs hH (lv_sub hl [] rfl)
    · replace hf := (if_pos hc).symm.trans hf
      refine lv_aload_n hx hb dX11_taken_43 rfl (lv_at hl 0 rfl) ?_
      refine pz_gS (a := 49) hE hH fr_X11_69 qk_0 (by decide) dX11_taken_44 ?_
      obtain ⟨r5, er5, hf⟩ := st_bd hf
      refine q_calll (q_runV (As := []) (rest := []) hE hH (tz_X2_never l X (hf := er5)) kv_X11_340 qk_49 (by decide) rfl hl.1 rfl (Nat.le_of_ble_eq_true rfl) dX11_taken_47) hH (fun H locs hH => ?_)
      refine lv_goto (tgt := 62) hx hb dX11_taken_50 (by decide) ?_
      replace hf := Option.some.inj hf
      subst hf
      exact hJ ls H locs hH (lv_sub hl [] rfl)
  clear hf
  replace hf := hz
  refine lv_if_eq (tgt := 29) hx hb dX11_taken_7 (by decide) (fun hc => ?_) (fun hc => ?_)
  · replace hf := (if_pos hc).symm.trans hf
    exact hT (by rw [← hf]) H locs hH
  · replace hf := (if_neg hc).symm.trans hf
    refine lv_iload_n hx hb dX11_taken_10 rfl (lv_at hl 1 rfl) ?_
    refine lv_iconst (v := (-1)) hx hb dX11_taken_11 (by decide) ?_
    refine lv_icmp_eq (tgt := 31) hx hb dX11_taken_12 (by decide) (fun hc => ?_) (fun hc => ?_)
    · replace hf := (if_pos hc).symm.trans hf
      exact hF (by rw [← hf]; decide) H locs hH
    · replace hf := (if_neg hc).symm.trans hf
      refine lv_iload_n hx hb dX11_taken_15 rfl (lv_at hl 1 rfl) ?_
      refine lv_aload_n hx hb dX11_taken_16 rfl (lv_at hl 0 rfl) ?_
      refine pz_gS (a := 49) hE hH fr_X11_69 qk_0 (by decide) dX11_taken_17 ?_
      refine pz_gI hE hH fr_X11_163 qk_49 dX11_taken_20 ?_
      refine q_calli (q_runS (As := [.int p0, .int (M.1 49 5)]) (rest := []) hE hH (tz_X11_isOf l X (M := M) (hf := rfl)) ks_X11_123 (by decide) rfl hl.1 rfl (Nat.le_of_ble_eq_true rfl) dX11_taken_23) hH (fun H locs hH => ?_)
      refine lv_if_ne (tgt := 31) hx hb dX11_taken_26 (by decide) (fun hc => ?_) (fun hc => ?_)
      · replace hf := (if_neg hc).symm.trans hf
        exact hF (by rw [← hf]; decide) H locs hH
      · replace hf := (if_pos hc).symm.trans hf
        exact hT (by rw [← hf]) H locs hH

theorem dX11_value_0 : decode cX11_value 0 = .ok (.aload_n 0, 1) := by decide +kernel
theorem dX11_value_1 : decode cX11_value 1 = .ok (.getfield 69, 3) := by decide +kernel
theorem dX11_value_4 : decode cX11_value 4 = .ok (.invokevirtual 159, 3) := by decide +kernel
theorem dX11_value_7 : decode cX11_value 7 = .ok (.ifCond .eq 19, 3) := by decide +kernel
theorem dX11_value_10 : decode cX11_value 10 = .ok (.iload_n 1, 1) := by decide +kernel
theorem dX11_value_11 : decode cX11_value 11 = .ok (.aload_n 0, 1) := by decide +kernel
theorem dX11_value_12 : decode cX11_value 12 = .ok (.getfield 69, 3) := by decide +kernel
theorem dX11_value_15 : decode cX11_value 15 = .ok (.getfield 163, 3) := by decide +kernel
theorem dX11_value_18 : decode cX11_value 18 = .ok (.iconst 1, 1) := by decide +kernel
theorem dX11_value_19 : decode cX11_value 19 = .ok (.iadd, 1) := by decide +kernel
theorem dX11_value_20 : decode cX11_value 20 = .ok (.invokestatic 123, 3) := by decide +kernel
theorem dX11_value_23 : decode cX11_value 23 = .ok (.ifCond .ne 14, 3) := by decide +kernel
theorem dX11_value_37 : decode cX11_value 37 = .ok (.aload_n 0, 1) := by decide +kernel
theorem dX11_value_38 : decode cX11_value 38 = .ok (.getfield 69, 3) := by decide +kernel
theorem dX11_value_41 : decode cX11_value 41 = .ok (.aload_n 0, 1) := by decide +kernel
theorem dX11_value_42 : decode cX11_value 42 = .ok (.getfield 69, 3) := by decide +kernel
theorem dX11_value_45 : decode cX11_value 45 = .ok (.getfield 334, 3) := by decide +kernel
theorem dX11_value_48 : decode cX11_value 48 = .ok (.invokevirtual 350, 3) := by decide +kernel
theorem dX11_value_51 : decode cX11_value 51 = .ok (.aload_n 0, 1) := by decide +kernel
theorem dX11_value_52 : decode cX11_value 52 = .ok (.getfield 69, 3) := by decide +kernel
theorem dX11_value_55 : decode cX11_value 55 = .ok (.getfield 354, 3) := by decide +kernel
theorem dX11_value_58 : decode cX11_value 58 = .ok (.iload_n 1, 1) := by decide +kernel
theorem dX11_value_59 : decode cX11_value 59 = .ok (.laload, 1) := by decide +kernel
theorem dX11_value_60 : decode cX11_value 60 = .ok (.lreturn, 1) := by decide +kernel
set_option maxRecDepth 100000 in
set_option maxHeartbeats 4000000 in
theorem tz_X11_value (l : Launch) (X : qX) {p0 : Int32} {M MR : qM} {r0 : Int64} (hf : jTc_value p0 M = some (r0, MR)) : q_Met l X yX11_value cX11_value 2 (some .long) (5) M [.ref (X.1 0), .int p0] (q_Ql X r0 MR) := by
  refine q_enter (by decide) (Nat.le_of_ble_eq_true rfl) ?_
  intro p e s m args below meth c hE hrt hlk H locs hH ls hl
  have hx := hE.1
  have hb := hE.2.1
  have hl : lv_has ls 2 [(0, .ref (X.1 0)), (1, .int p0)] := hl
  unfold jTc_value at hf
  refine lv_aload_n hx hb dX11_value_0 rfl (lv_at hl 0 rfl) ?_
  refine pz_gS (a := 49) hE hH fr_X11_69 qk_0 (by decide) dX11_value_1 ?_
  refine q_calli (q_runV (As := []) (rest := []) hE hH (tz_X2_isThere l X (hf := rfl)) kv_X11_159 qk_49 (by decide) rfl hl.1 rfl (Nat.le_of_ble_eq_true rfl) dX11_value_4) hH (fun H locs hH => ?_)
  refine lv_if_eq (tgt := 26) hx hb dX11_value_7 (by decide) (fun hc => ?_) (fun hc => ?_)
  · replace hf := (if_pos hc).symm.trans hf
    exact st_nn hf
  · replace hf := (if_neg hc).symm.trans hf
    refine lv_iload_n hx hb dX11_value_10 rfl (lv_at hl 1 rfl) ?_
    refine lv_aload_n hx hb dX11_value_11 rfl (lv_at hl 0 rfl) ?_
    refine pz_gS (a := 49) hE hH fr_X11_69 qk_0 (by decide) dX11_value_12 ?_
    refine pz_gI hE hH fr_X11_163 qk_49 dX11_value_15 ?_
    refine lv_iconst (v := 1) hx hb dX11_value_18 (by decide) ?_
    refine lv_iadd hx hb dX11_value_19 ?_
    refine q_calli (q_runS (As := [.int p0, .int ((M.1 49 5) + 1)]) (rest := []) hE hH (tz_X11_isOf l X (M := M) (hf := rfl)) ks_X11_123 (by decide) rfl hl.1 rfl (Nat.le_of_ble_eq_true rfl) dX11_value_20) hH (fun H locs hH => ?_)
    refine lv_if_ne (tgt := 37) hx hb dX11_value_23 (by decide) (fun hc => ?_) (fun hc => ?_)
    · replace hf := (if_neg hc).symm.trans hf
      refine lv_aload_n hx hb dX11_value_37 rfl (lv_at hl 0 rfl) ?_
      refine pz_gS (a := 49) hE hH fr_X11_69 qk_0 (by decide) dX11_value_38 ?_
      refine lv_aload_n hx hb dX11_value_41 rfl (lv_at hl 0 rfl) ?_
      refine pz_gS (a := 49) hE hH fr_X11_69 qk_0 (by decide) dX11_value_42 ?_
      refine pz_gS (a := 50) hE hH fr_X11_334 qk_49 (by decide) dX11_value_45 ?_
      obtain ⟨M1, eM1, hf⟩ := st_bd hf
      refine q_callv (q_runV (As := [.ref (X.1 50)]) (rest := []) hE hH (tz_X2_weigh l X qk_50 (hf := eM1)) kv_X11_350 qk_49 (by decide) rfl hl.1 rfl (Nat.le_of_ble_eq_true rfl) dX11_value_48) hH (fun H locs hH => ?_)
      refine lv_aload_n hx hb dX11_value_51 rfl (lv_at hl 0 rfl) ?_
      refine pz_gS (a := 49) hE hH fr_X11_69 qk_0 (by decide) dX11_value_52 ?_
      refine pz_gS (a := 53) hE hH fr_X11_354 qk_49 (by decide) dX11_value_55 ?_
      refine lv_iload_n hx hb dX11_value_58 rfl (lv_at hl 1 rfl) ?_
      obtain ⟨v2, ev2, hf⟩ := st_bd hf
      refine pz_lald hE hH qk_53 ev2 dX11_value_59 ?_
      replace hf := Option.some.inj hf
      obtain ⟨rfl, rfl⟩ := qi2 hf
      exact pz_retl hE hrt hlk hH dX11_value_60
    · replace hf := (if_pos hc).symm.trans hf
      exact st_nn hf

theorem dX11_best_0 : decode cX11_best 0 = .ok (.aload_n 0, 1) := by decide +kernel
theorem dX11_best_1 : decode cX11_best 1 = .ok (.getfield 69, 3) := by decide +kernel
theorem dX11_best_4 : decode cX11_best 4 = .ok (.invokevirtual 159, 3) := by decide +kernel
theorem dX11_best_7 : decode cX11_best 7 = .ok (.ifCond .ne 5, 3) := by decide +kernel
theorem dX11_best_10 : decode cX11_best 10 = .ok (.iconst (-1), 1) := by decide +kernel
theorem dX11_best_11 : decode cX11_best 11 = .ok (.ireturn, 1) := by decide +kernel
theorem dX11_best_12 : decode cX11_best 12 = .ok (.aload_n 0, 1) := by decide +kernel
theorem dX11_best_13 : decode cX11_best 13 = .ok (.getfield 69, 3) := by decide +kernel
theorem dX11_best_16 : decode cX11_best 16 = .ok (.aload_n 0, 1) := by decide +kernel
theorem dX11_best_17 : decode cX11_best 17 = .ok (.getfield 69, 3) := by decide +kernel
theorem dX11_best_20 : decode cX11_best 20 = .ok (.getfield 334, 3) := by decide +kernel
theorem dX11_best_23 : decode cX11_best 23 = .ok (.invokevirtual 350, 3) := by decide +kernel
theorem dX11_best_26 : decode cX11_best 26 = .ok (.aload_n 0, 1) := by decide +kernel
theorem dX11_best_27 : decode cX11_best 27 = .ok (.getfield 69, 3) := by decide +kernel
theorem dX11_best_30 : decode cX11_best 30 = .ok (.invokevirtual 357, 3) := by decide +kernel
theorem dX11_best_33 : decode cX11_best 33 = .ok (.ireturn, 1) := by decide +kernel
set_option maxRecDepth 100000 in
set_option maxHeartbeats 4000000 in
theorem tz_X11_best (l : Launch) (X : qX) {M MR : qM} {r0 : Int32} (hf : jTc_best M = some (r0, MR)) : q_Met l X yX11_best cX11_best 1 (some .int) (5) M [.ref (X.1 0)] (q_Qi X r0 MR) := by
  refine q_enter (by decide) (Nat.le_of_ble_eq_true rfl) ?_
  intro p e s m args below meth c hE hrt hlk H locs hH ls hl
  have hx := hE.1
  have hb := hE.2.1
  have hl : lv_has ls 1 [(0, .ref (X.1 0))] := hl
  unfold jTc_best at hf
  refine lv_aload_n hx hb dX11_best_0 rfl (lv_at hl 0 rfl) ?_
  refine pz_gS (a := 49) hE hH fr_X11_69 qk_0 (by decide) dX11_best_1 ?_
  refine q_calli (q_runV (As := []) (rest := []) hE hH (tz_X2_isThere l X (hf := rfl)) kv_X11_159 qk_49 (by decide) rfl hl.1 rfl (Nat.le_of_ble_eq_true rfl) dX11_best_4) hH (fun H locs hH => ?_)
  refine lv_if_ne (tgt := 12) hx hb dX11_best_7 (by decide) (fun hc => ?_) (fun hc => ?_)
  · replace hf := (if_neg hc).symm.trans hf
    refine lv_aload_n hx hb dX11_best_12 rfl (lv_at hl 0 rfl) ?_
    refine pz_gS (a := 49) hE hH fr_X11_69 qk_0 (by decide) dX11_best_13 ?_
    refine lv_aload_n hx hb dX11_best_16 rfl (lv_at hl 0 rfl) ?_
    refine pz_gS (a := 49) hE hH fr_X11_69 qk_0 (by decide) dX11_best_17 ?_
    refine pz_gS (a := 50) hE hH fr_X11_334 qk_49 (by decide) dX11_best_20 ?_
    obtain ⟨M1, eM1, hf⟩ := st_bd hf
    refine q_callv (q_runV (As := [.ref (X.1 50)]) (rest := []) hE hH (tz_X2_weigh l X qk_50 (hf := eM1)) kv_X11_350 qk_49 (by decide) rfl hl.1 rfl (Nat.le_of_ble_eq_true rfl) dX11_best_23) hH (fun H locs hH => ?_)
    refine lv_aload_n hx hb dX11_best_26 rfl (lv_at hl 0 rfl) ?_
    refine pz_gS (a := 49) hE hH fr_X11_69 qk_0 (by decide) dX11_best_27 ?_
    obtain ⟨r2, er2, hf⟩ := st_bd hf
    refine q_calli (q_runV (As := []) (rest := []) hE hH (tz_X2_greatest l X (hf := er2)) kv_X11_357 qk_49 (by decide) rfl hl.1 rfl (Nat.le_of_ble_eq_true rfl) dX11_best_30) hH (fun H locs hH => ?_)
    replace hf := Option.some.inj hf
    obtain ⟨rfl, rfl⟩ := qi2 hf
    exact pz_reti hE hrt hlk hH dX11_best_33
  · replace hf := (if_pos hc).symm.trans hf
    refine lv_iconst (v := (-1)) hx hb dX11_best_10 (by decide) ?_
    replace hf := Option.some.inj hf
    obtain ⟨rfl, rfl⟩ := qi2 hf
    exact pz_reti hE hrt hlk hH dX11_best_11

theorem dX11_rest_0 : decode cX11_rest 0 = .ok (.aload_n 0, 1) := by decide +kernel
theorem dX11_rest_1 : decode cX11_rest 1 = .ok (.getfield 69, 3) := by decide +kernel
theorem dX11_rest_4 : decode cX11_rest 4 = .ok (.invokevirtual 159, 3) := by decide +kernel
theorem dX11_rest_7 : decode cX11_rest 7 = .ok (.ifCond .eq 12, 3) := by decide +kernel
theorem dX11_rest_10 : decode cX11_rest 10 = .ok (.iload_n 1, 1) := by decide +kernel
theorem dX11_rest_11 : decode cX11_rest 11 = .ok (.bipush 100, 2) := by decide +kernel
theorem dX11_rest_13 : decode cX11_rest 13 = .ok (.invokestatic 123, 3) := by decide +kernel
theorem dX11_rest_16 : decode cX11_rest 16 = .ok (.ifCond .ne 5, 3) := by decide +kernel
theorem dX11_rest_19 : decode cX11_rest 19 = .ok (.iconst (-1), 1) := by decide +kernel
theorem dX11_rest_20 : decode cX11_rest 20 = .ok (.ireturn, 1) := by decide +kernel
theorem dX11_rest_21 : decode cX11_rest 21 = .ok (.aload_n 0, 1) := by decide +kernel
theorem dX11_rest_22 : decode cX11_rest 22 = .ok (.getfield 69, 3) := by decide +kernel
theorem dX11_rest_25 : decode cX11_rest 25 = .ok (.iload_n 1, 1) := by decide +kernel
theorem dX11_rest_26 : decode cX11_rest 26 = .ok (.aload_n 0, 1) := by decide +kernel
theorem dX11_rest_27 : decode cX11_rest 27 = .ok (.getfield 69, 3) := by decide +kernel
theorem dX11_rest_30 : decode cX11_rest 30 = .ok (.getfield 334, 3) := by decide +kernel
theorem dX11_rest_33 : decode cX11_rest 33 = .ok (.invokevirtual 360, 3) := by decide +kernel
theorem dX11_rest_36 : decode cX11_rest 36 = .ok (.ifCond .eq 7, 3) := by decide +kernel
theorem dX11_rest_39 : decode cX11_rest 39 = .ok (.iconst 1, 1) := by decide +kernel
theorem dX11_rest_40 : decode cX11_rest 40 = .ok (.goto 4, 3) := by decide +kernel
theorem dX11_rest_43 : decode cX11_rest 43 = .ok (.iconst 0, 1) := by decide +kernel
theorem dX11_rest_44 : decode cX11_rest 44 = .ok (.ireturn, 1) := by decide +kernel
set_option maxRecDepth 100000 in
set_option maxHeartbeats 4000000 in
theorem tz_X11_rest (l : Launch) (X : qX) {p0 : Int32} {M MR : qM} {r0 : Int32} (hf : jTc_rest p0 M = some (r0, MR)) : q_Met l X yX11_rest cX11_rest 2 (some .int) (6) M [.ref (X.1 0), .int p0] (q_Qi X r0 MR) := by
  refine q_enter (by decide) (Nat.le_of_ble_eq_true rfl) ?_
  intro p e s m args below meth c hE hrt hlk H locs hH ls hl
  have hx := hE.1
  have hb := hE.2.1
  have hl : lv_has ls 2 [(0, .ref (X.1 0)), (1, .int p0)] := hl
  unfold jTc_rest at hf
  refine lv_aload_n hx hb dX11_rest_0 rfl (lv_at hl 0 rfl) ?_
  refine pz_gS (a := 49) hE hH fr_X11_69 qk_0 (by decide) dX11_rest_1 ?_
  refine q_calli (q_runV (As := []) (rest := []) hE hH (tz_X2_isThere l X (hf := rfl)) kv_X11_159 qk_49 (by decide) rfl hl.1 rfl (Nat.le_of_ble_eq_true rfl) dX11_rest_4) hH (fun H locs hH => ?_)
  refine lv_if_eq (tgt := 19) hx hb dX11_rest_7 (by decide) (fun hc => ?_) (fun hc => ?_)
  · replace hf := (if_pos hc).symm.trans hf
    refine lv_iconst (v := (-1)) hx hb dX11_rest_19 (by decide) ?_
    replace hf := Option.some.inj hf
    obtain ⟨rfl, rfl⟩ := qi2 hf
    exact pz_reti hE hrt hlk hH dX11_rest_20
  · replace hf := (if_neg hc).symm.trans hf
    refine lv_iload_n hx hb dX11_rest_10 rfl (lv_at hl 1 rfl) ?_
    refine lv_bipush (v := 100) hx hb dX11_rest_11 (by decide) ?_
    refine q_calli (q_runS (As := [.int p0, .int 100]) (rest := []) hE hH (tz_X11_isOf l X (M := M) (hf := rfl)) ks_X11_123 (by decide) rfl hl.1 rfl (Nat.le_of_ble_eq_true rfl) dX11_rest_13) hH (fun H locs hH => ?_)
    refine lv_if_ne (tgt := 21) hx hb dX11_rest_16 (by decide) (fun hc => ?_) (fun hc => ?_)
    · replace hf := (if_neg hc).symm.trans hf
      refine lv_aload_n hx hb dX11_rest_21 rfl (lv_at hl 0 rfl) ?_
      refine pz_gS (a := 49) hE hH fr_X11_69 qk_0 (by decide) dX11_rest_22 ?_
      refine lv_iload_n hx hb dX11_rest_25 rfl (lv_at hl 1 rfl) ?_
      refine lv_aload_n hx hb dX11_rest_26 rfl (lv_at hl 0 rfl) ?_
      refine pz_gS (a := 49) hE hH fr_X11_69 qk_0 (by decide) dX11_rest_27 ?_
      refine pz_gS (a := 50) hE hH fr_X11_334 qk_49 (by decide) dX11_rest_30 ?_
      obtain ⟨w1, ew1, hf⟩ := st_bd hf
      obtain ⟨r2, M3⟩ := w1
      replace hf := st_u2 hf
      refine q_calli (q_runV (As := [.int p0, .ref (X.1 50)]) (rest := []) hE hH (tz_X2_restsBy l X qk_50 (hf := ew1)) kv_X11_360 qk_49 (by decide) rfl hl.1 rfl (Nat.le_of_ble_eq_true rfl) dX11_rest_33) hH (fun H locs hH => ?_)
      obtain ⟨z4, hr, hf⟩ := st_ltx hf
      have hJ : ∀ (ls : Array Slot) (H : Heap) (locs : List Loc), q_H X M3 s H locs → lv_has ls 2 [] → W p l e (q_rm (6)) s m args below meth c H locs 0 0 (MQ below (q_Qi X r0 MR) args s 0 0 (q_A X)) (F0 m 44 ls [.int (b2i z4)]) := by
        intro ls H locs hH hl
        replace hf := Option.some.inj hf
        obtain ⟨rfl, rfl⟩ := qi2 hf
        exact pz_reti hE hrt hlk hH dX11_rest_44
      clear hf
      replace hf := hr
      refine lv_if_eq (tgt := 43) hx hb dX11_rest_36 (by decide) (fun hc => ?_) (fun hc => ?_)
      · replace hf := (if_pos hc).symm.trans hf
        refine lv_iconst (v := 0) hx hb dX11_rest_43 (by decide) ?_
        subst hf
        exact hJ ls H locs hH (lv_sub hl [] rfl)
      · replace hf := (if_neg hc).symm.trans hf
        refine lv_iconst (v := 1) hx hb dX11_rest_39 (by decide) ?_
        refine lv_goto (tgt := 44) hx hb dX11_rest_40 (by decide) ?_
        subst hf
        exact hJ ls H locs hH (lv_sub hl [] rfl)
    · replace hf := (if_pos hc).symm.trans hf
      refine lv_iconst (v := (-1)) hx hb dX11_rest_19 (by decide) ?_
      replace hf := Option.some.inj hf
      obtain ⟨rfl, rfl⟩ := qi2 hf
      exact pz_reti hE hrt hlk hH dX11_rest_20

theorem dX11_found_0 : decode cX11_found 0 = .ok (.aload_n 0, 1) := by decide +kernel
theorem dX11_found_1 : decode cX11_found 1 = .ok (.getfield 69, 3) := by decide +kernel
theorem dX11_found_4 : decode cX11_found 4 = .ok (.invokevirtual 159, 3) := by decide +kernel
theorem dX11_found_7 : decode cX11_found 7 = .ok (.ifCond .eq 23, 3) := by decide +kernel
theorem dX11_found_10 : decode cX11_found 10 = .ok (.aload_n 0, 1) := by decide +kernel
theorem dX11_found_11 : decode cX11_found 11 = .ok (.getfield 69, 3) := by decide +kernel
theorem dX11_found_14 : decode cX11_found 14 = .ok (.getfield 163, 3) := by decide +kernel
theorem dX11_found_17 : decode cX11_found 17 = .ok (.iconst 3, 1) := by decide +kernel
theorem dX11_found_18 : decode cX11_found 18 = .ok (.if_icmp .gt 12, 3) := by decide +kernel
theorem dX11_found_21 : decode cX11_found 21 = .ok (.iload_n 1, 1) := by decide +kernel
theorem dX11_found_22 : decode cX11_found 22 = .ok (.bipush 100, 2) := by decide +kernel
theorem dX11_found_24 : decode cX11_found 24 = .ok (.invokestatic 123, 3) := by decide +kernel
theorem dX11_found_27 : decode cX11_found 27 = .ok (.ifCond .ne 5, 3) := by decide +kernel
theorem dX11_found_30 : decode cX11_found 30 = .ok (.iconst (-1), 1) := by decide +kernel
theorem dX11_found_31 : decode cX11_found 31 = .ok (.ireturn, 1) := by decide +kernel
theorem dX11_found_32 : decode cX11_found 32 = .ok (.aload_n 0, 1) := by decide +kernel
theorem dX11_found_33 : decode cX11_found 33 = .ok (.getfield 69, 3) := by decide +kernel
theorem dX11_found_36 : decode cX11_found 36 = .ok (.iload_n 1, 1) := by decide +kernel
theorem dX11_found_37 : decode cX11_found 37 = .ok (.invokevirtual 364, 3) := by decide +kernel
theorem dX11_found_40 : decode cX11_found 40 = .ok (.iload_n 2, 1) := by decide +kernel
theorem dX11_found_41 : decode cX11_found 41 = .ok (.iconst (-1), 1) := by decide +kernel
theorem dX11_found_42 : decode cX11_found 42 = .ok (.if_icmp .ne 11, 3) := by decide +kernel
theorem dX11_found_45 : decode cX11_found 45 = .ok (.aload_n 0, 1) := by decide +kernel
theorem dX11_found_46 : decode cX11_found 46 = .ok (.getfield 69, 3) := by decide +kernel
theorem dX11_found_49 : decode cX11_found 49 = .ok (.getfield 367, 3) := by decide +kernel
theorem dX11_found_52 : decode cX11_found 52 = .ok (.ireturn, 1) := by decide +kernel
theorem dX11_found_53 : decode cX11_found 53 = .ok (.iload_n 2, 1) := by decide +kernel
theorem dX11_found_54 : decode cX11_found 54 = .ok (.aload_n 0, 1) := by decide +kernel
theorem dX11_found_55 : decode cX11_found 55 = .ok (.getfield 69, 3) := by decide +kernel
theorem dX11_found_58 : decode cX11_found 58 = .ok (.getfield 367, 3) := by decide +kernel
theorem dX11_found_61 : decode cX11_found 61 = .ok (.invokestatic 123, 3) := by decide +kernel
theorem dX11_found_64 : decode cX11_found 64 = .ok (.ifCond .eq 15, 3) := by decide +kernel
theorem dX11_found_67 : decode cX11_found 67 = .ok (.aload_n 0, 1) := by decide +kernel
theorem dX11_found_68 : decode cX11_found 68 = .ok (.getfield 69, 3) := by decide +kernel
theorem dX11_found_71 : decode cX11_found 71 = .ok (.getfield 370, 3) := by decide +kernel
theorem dX11_found_74 : decode cX11_found 74 = .ok (.iload_n 2, 1) := by decide +kernel
theorem dX11_found_75 : decode cX11_found 75 = .ok (.iaload, 1) := by decide +kernel
theorem dX11_found_76 : decode cX11_found 76 = .ok (.goto 4, 3) := by decide +kernel
theorem dX11_found_79 : decode cX11_found 79 = .ok (.iconst (-1), 1) := by decide +kernel
theorem dX11_found_80 : decode cX11_found 80 = .ok (.ireturn, 1) := by decide +kernel
set_option maxRecDepth 100000 in
set_option maxHeartbeats 4000000 in
theorem tz_X11_found (l : Launch) (X : qX) {p0 : Int32} {p1 : Int32} {M MR : qM} {r0 : Int32} (hf : jTc_found p0 p1 M = some (r0, MR)) : q_Met l X yX11_found cX11_found 3 (some .int) (7) M [.ref (X.1 0), .int p0, .int p1] (q_Qi X r0 MR) := by
  refine q_enter (by decide) (Nat.le_of_ble_eq_true rfl) ?_
  intro p e s m args below meth c hE hrt hlk H locs hH ls hl
  have hx := hE.1
  have hb := hE.2.1
  have hl : lv_has ls 3 [(0, .ref (X.1 0)), (1, .int p0), (2, .int p1)] := hl
  unfold jTc_found at hf
  refine lv_aload_n hx hb dX11_found_0 rfl (lv_at hl 0 rfl) ?_
  refine pz_gS (a := 49) hE hH fr_X11_69 qk_0 (by decide) dX11_found_1 ?_
  refine q_calli (q_runV (As := []) (rest := []) hE hH (tz_X2_isThere l X (hf := rfl)) kv_X11_159 qk_49 (by decide) rfl hl.1 rfl (Nat.le_of_ble_eq_true rfl) dX11_found_4) hH (fun H locs hH => ?_)
  refine lv_if_eq (tgt := 30) hx hb dX11_found_7 (by decide) (fun hc => ?_) (fun hc => ?_)
  · replace hf := (if_pos hc).symm.trans hf
    refine lv_iconst (v := (-1)) hx hb dX11_found_30 (by decide) ?_
    replace hf := Option.some.inj hf
    obtain ⟨rfl, rfl⟩ := qi2 hf
    exact pz_reti hE hrt hlk hH dX11_found_31
  · replace hf := (if_neg hc).symm.trans hf
    refine lv_aload_n hx hb dX11_found_10 rfl (lv_at hl 0 rfl) ?_
    refine pz_gS (a := 49) hE hH fr_X11_69 qk_0 (by decide) dX11_found_11 ?_
    refine pz_gI hE hH fr_X11_163 qk_49 dX11_found_14 ?_
    refine lv_iconst (v := 3) hx hb dX11_found_17 (by decide) ?_
    refine lv_icmp_gt (tgt := 30) hx hb dX11_found_18 (by decide) (fun hc => ?_) (fun hc => ?_)
    · replace hf := (if_pos hc).symm.trans hf
      refine lv_iconst (v := (-1)) hx hb dX11_found_30 (by decide) ?_
      replace hf := Option.some.inj hf
      obtain ⟨rfl, rfl⟩ := qi2 hf
      exact pz_reti hE hrt hlk hH dX11_found_31
    · replace hf := (if_neg hc).symm.trans hf
      refine lv_iload_n hx hb dX11_found_21 rfl (lv_at hl 1 rfl) ?_
      refine lv_bipush (v := 100) hx hb dX11_found_22 (by decide) ?_
      refine q_calli (q_runS (As := [.int p0, .int 100]) (rest := []) hE hH (tz_X11_isOf l X (M := M) (hf := rfl)) ks_X11_123 (by decide) rfl hl.1 rfl (Nat.le_of_ble_eq_true rfl) dX11_found_24) hH (fun H locs hH => ?_)
      refine lv_if_ne (tgt := 32) hx hb dX11_found_27 (by decide) (fun hc => ?_) (fun hc => ?_)
      · replace hf := (if_neg hc).symm.trans hf
        refine lv_aload_n hx hb dX11_found_32 rfl (lv_at hl 0 rfl) ?_
        refine pz_gS (a := 49) hE hH fr_X11_69 qk_0 (by decide) dX11_found_33 ?_
        refine lv_iload_n hx hb dX11_found_36 rfl (lv_at hl 1 rfl) ?_
        obtain ⟨M1, eM1, hf⟩ := st_bd hf
        refine q_callv (q_runV (As := [.int p0]) (rest := []) hE hH (tz_X2_search l X (hf := eM1)) kv_X11_364 qk_49 (by decide) rfl hl.1 rfl (Nat.le_of_ble_eq_true rfl) dX11_found_37) hH (fun H locs hH => ?_)
        refine lv_iload_n hx hb dX11_found_40 rfl (lv_at hl 2 rfl) ?_
        refine lv_iconst (v := (-1)) hx hb dX11_found_41 (by decide) ?_
        refine lv_icmp_ne (tgt := 53) hx hb dX11_found_42 (by decide) (fun hc => ?_) (fun hc => ?_)
        · replace hf := (if_neg hc).symm.trans hf
          refine lv_iload_n hx hb dX11_found_53 rfl (lv_at hl 2 rfl) ?_
          refine lv_aload_n hx hb dX11_found_54 rfl (lv_at hl 0 rfl) ?_
          refine pz_gS (a := 49) hE hH fr_X11_69 qk_0 (by decide) dX11_found_55 ?_
          refine pz_gI hE hH fr_X11_367 qk_49 dX11_found_58 ?_
          refine q_calli (q_runS (As := [.int p1, .int (M1.1 49 16)]) (rest := []) hE hH (tz_X11_isOf l X (M := M1) (hf := rfl)) ks_X11_123 (by decide) rfl hl.1 rfl (Nat.le_of_ble_eq_true rfl) dX11_found_61) hH (fun H locs hH => ?_)
          obtain ⟨x2, hr, hf⟩ := st_bd hf
          have hJ : ∀ (ls : Array Slot) (H : Heap) (locs : List Loc), q_H X M1 s H locs → lv_has ls 3 [] → W p l e (q_rm (7)) s m args below meth c H locs 0 0 (MQ below (q_Qi X r0 MR) args s 0 0 (q_A X)) (F0 m 80 ls [.int x2]) := by
            intro ls H locs hH hl
            replace hf := Option.some.inj hf
            obtain ⟨rfl, rfl⟩ := qi2 hf
            exact pz_reti hE hrt hlk hH dX11_found_80
          clear hf
          replace hf := hr
          refine lv_if_eq (tgt := 79) hx hb dX11_found_64 (by decide) (fun hc => ?_) (fun hc => ?_)
          · replace hf := (if_pos hc).symm.trans hf
            refine lv_iconst (v := (-1)) hx hb dX11_found_79 (by decide) ?_
            replace hf := Option.some.inj hf
            subst hf
            exact hJ ls H locs hH (lv_sub hl [] rfl)
          · replace hf := (if_neg hc).symm.trans hf
            refine lv_aload_n hx hb dX11_found_67 rfl (lv_at hl 0 rfl) ?_
            refine pz_gS (a := 49) hE hH fr_X11_69 qk_0 (by decide) dX11_found_68 ?_
            refine pz_gS (a := 59) hE hH fr_X11_370 qk_49 (by decide) dX11_found_71 ?_
            refine lv_iload_n hx hb dX11_found_74 rfl (lv_at hl 2 rfl) ?_
            obtain ⟨v3, ev3, hf⟩ := st_bd hf
            refine pz_iald hE hH qk_59 ev3 dX11_found_75 ?_
            refine lv_goto (tgt := 80) hx hb dX11_found_76 (by decide) ?_
            replace hf := Option.some.inj hf
            subst hf
            exact hJ ls H locs hH (lv_sub hl [] rfl)
        · replace hf := (if_pos hc).symm.trans hf
          refine lv_aload_n hx hb dX11_found_45 rfl (lv_at hl 0 rfl) ?_
          refine pz_gS (a := 49) hE hH fr_X11_69 qk_0 (by decide) dX11_found_46 ?_
          refine pz_gI hE hH fr_X11_367 qk_49 dX11_found_49 ?_
          replace hf := Option.some.inj hf
          obtain ⟨rfl, rfl⟩ := qi2 hf
          exact pz_reti hE hrt hlk hH dX11_found_52
      · replace hf := (if_pos hc).symm.trans hf
        refine lv_iconst (v := (-1)) hx hb dX11_found_30 (by decide) ?_
        replace hf := Option.some.inj hf
        obtain ⟨rfl, rfl⟩ := qi2 hf
        exact pz_reti hE hrt hlk hH dX11_found_31

theorem dX11_mean_0 : decode cX11_mean 0 = .ok (.aload_n 0, 1) := by decide +kernel
theorem dX11_mean_1 : decode cX11_mean 1 = .ok (.getfield 69, 3) := by decide +kernel
theorem dX11_mean_4 : decode cX11_mean 4 = .ok (.invokevirtual 159, 3) := by decide +kernel
theorem dX11_mean_7 : decode cX11_mean 7 = .ok (.ifCond .ne 5, 3) := by decide +kernel
theorem dX11_mean_10 : decode cX11_mean 10 = .ok (.iconst (-1), 1) := by decide +kernel
theorem dX11_mean_11 : decode cX11_mean 11 = .ok (.ireturn, 1) := by decide +kernel
theorem dX11_mean_12 : decode cX11_mean 12 = .ok (.aload_n 0, 1) := by decide +kernel
theorem dX11_mean_13 : decode cX11_mean 13 = .ok (.getfield 69, 3) := by decide +kernel
theorem dX11_mean_16 : decode cX11_mean 16 = .ok (.invokevirtual 337, 3) := by decide +kernel
theorem dX11_mean_19 : decode cX11_mean 19 = .ok (.aload_n 0, 1) := by decide +kernel
theorem dX11_mean_20 : decode cX11_mean 20 = .ok (.getfield 69, 3) := by decide +kernel
theorem dX11_mean_23 : decode cX11_mean 23 = .ok (.invokevirtual 373, 3) := by decide +kernel
theorem dX11_mean_26 : decode cX11_mean 26 = .ok (.ireturn, 1) := by decide +kernel
set_option maxRecDepth 100000 in
set_option maxHeartbeats 4000000 in
theorem tz_X11_mean (l : Launch) (X : qX) {M MR : qM} {r0 : Int32} (hf : jTc_mean M = some (r0, MR)) : q_Met l X yX11_mean cX11_mean 1 (some .int) (5) M [.ref (X.1 0)] (q_Qi X r0 MR) := by
  refine q_enter (by decide) (Nat.le_of_ble_eq_true rfl) ?_
  intro p e s m args below meth c hE hrt hlk H locs hH ls hl
  have hx := hE.1
  have hb := hE.2.1
  have hl : lv_has ls 1 [(0, .ref (X.1 0))] := hl
  unfold jTc_mean at hf
  refine lv_aload_n hx hb dX11_mean_0 rfl (lv_at hl 0 rfl) ?_
  refine pz_gS (a := 49) hE hH fr_X11_69 qk_0 (by decide) dX11_mean_1 ?_
  refine q_calli (q_runV (As := []) (rest := []) hE hH (tz_X2_isThere l X (hf := rfl)) kv_X11_159 qk_49 (by decide) rfl hl.1 rfl (Nat.le_of_ble_eq_true rfl) dX11_mean_4) hH (fun H locs hH => ?_)
  refine lv_if_ne (tgt := 12) hx hb dX11_mean_7 (by decide) (fun hc => ?_) (fun hc => ?_)
  · replace hf := (if_neg hc).symm.trans hf
    refine lv_aload_n hx hb dX11_mean_12 rfl (lv_at hl 0 rfl) ?_
    refine pz_gS (a := 49) hE hH fr_X11_69 qk_0 (by decide) dX11_mean_13 ?_
    obtain ⟨M1, eM1, hf⟩ := st_bd hf
    refine q_callv (q_runV (As := []) (rest := []) hE hH (tz_X2_followAll l X (hf := eM1)) kv_X11_337 qk_49 (by decide) rfl hl.1 rfl (Nat.le_of_ble_eq_true rfl) dX11_mean_16) hH (fun H locs hH => ?_)
    refine lv_aload_n hx hb dX11_mean_19 rfl (lv_at hl 0 rfl) ?_
    refine pz_gS (a := 49) hE hH fr_X11_69 qk_0 (by decide) dX11_mean_20 ?_
    obtain ⟨r2, er2, hf⟩ := st_bd hf
    refine q_calli (q_runV (As := []) (rest := []) hE hH (tz_X2_meanMinute l X (hf := er2)) kv_X11_373 qk_49 (by decide) rfl hl.1 rfl (Nat.le_of_ble_eq_true rfl) dX11_mean_23) hH (fun H locs hH => ?_)
    replace hf := Option.some.inj hf
    obtain ⟨rfl, rfl⟩ := qi2 hf
    exact pz_reti hE hrt hlk hH dX11_mean_26
  · replace hf := (if_pos hc).symm.trans hf
    refine lv_iconst (v := (-1)) hx hb dX11_mean_10 (by decide) ?_
    replace hf := Option.some.inj hf
    obtain ⟨rfl, rfl⟩ := qi2 hf
    exact pz_reti hE hrt hlk hH dX11_mean_11

theorem dX11_gone_0 : decode cX11_gone 0 = .ok (.aload_n 0, 1) := by decide +kernel
theorem dX11_gone_1 : decode cX11_gone 1 = .ok (.getfield 69, 3) := by decide +kernel
theorem dX11_gone_4 : decode cX11_gone 4 = .ok (.invokevirtual 159, 3) := by decide +kernel
theorem dX11_gone_7 : decode cX11_gone 7 = .ok (.ifCond .eq 19, 3) := by decide +kernel
theorem dX11_gone_10 : decode cX11_gone 10 = .ok (.iload_n 1, 1) := by decide +kernel
theorem dX11_gone_11 : decode cX11_gone 11 = .ok (.aload_n 0, 1) := by decide +kernel
theorem dX11_gone_12 : decode cX11_gone 12 = .ok (.getfield 69, 3) := by decide +kernel
theorem dX11_gone_15 : decode cX11_gone 15 = .ok (.getfield 163, 3) := by decide +kernel
theorem dX11_gone_18 : decode cX11_gone 18 = .ok (.iconst 1, 1) := by decide +kernel
theorem dX11_gone_19 : decode cX11_gone 19 = .ok (.iadd, 1) := by decide +kernel
theorem dX11_gone_20 : decode cX11_gone 20 = .ok (.invokestatic 123, 3) := by decide +kernel
theorem dX11_gone_23 : decode cX11_gone 23 = .ok (.ifCond .ne 7, 3) := by decide +kernel
theorem dX11_gone_26 : decode cX11_gone 26 = .ok (.ldc2_w 376, 3) := by decide +kernel
theorem dX11_gone_29 : decode cX11_gone 29 = .ok (.lreturn, 1) := by decide +kernel
theorem dX11_gone_30 : decode cX11_gone 30 = .ok (.aload_n 0, 1) := by decide +kernel
theorem dX11_gone_31 : decode cX11_gone 31 = .ok (.getfield 69, 3) := by decide +kernel
theorem dX11_gone_34 : decode cX11_gone 34 = .ok (.invokevirtual 337, 3) := by decide +kernel
theorem dX11_gone_37 : decode cX11_gone 37 = .ok (.aload_n 0, 1) := by decide +kernel
theorem dX11_gone_38 : decode cX11_gone 38 = .ok (.getfield 69, 3) := by decide +kernel
theorem dX11_gone_41 : decode cX11_gone 41 = .ok (.getfield 378, 3) := by decide +kernel
theorem dX11_gone_44 : decode cX11_gone 44 = .ok (.iload_n 1, 1) := by decide +kernel
theorem dX11_gone_45 : decode cX11_gone 45 = .ok (.laload, 1) := by decide +kernel
theorem dX11_gone_46 : decode cX11_gone 46 = .ok (.lreturn, 1) := by decide +kernel
set_option maxRecDepth 100000 in
set_option maxHeartbeats 4000000 in
theorem tz_X11_gone (l : Launch) (X : qX) {p0 : Int32} {M MR : qM} {r0 : Int64} (hf : jTc_gone p0 M = some (r0, MR)) : q_Met l X yX11_gone cX11_gone 2 (some .long) (5) M [.ref (X.1 0), .int p0] (q_Ql X r0 MR) := by
  refine q_enter (by decide) (Nat.le_of_ble_eq_true rfl) ?_
  intro p e s m args below meth c hE hrt hlk H locs hH ls hl
  have hx := hE.1
  have hb := hE.2.1
  have hl : lv_has ls 2 [(0, .ref (X.1 0)), (1, .int p0)] := hl
  unfold jTc_gone at hf
  refine lv_aload_n hx hb dX11_gone_0 rfl (lv_at hl 0 rfl) ?_
  refine pz_gS (a := 49) hE hH fr_X11_69 qk_0 (by decide) dX11_gone_1 ?_
  refine q_calli (q_runV (As := []) (rest := []) hE hH (tz_X2_isThere l X (hf := rfl)) kv_X11_159 qk_49 (by decide) rfl hl.1 rfl (Nat.le_of_ble_eq_true rfl) dX11_gone_4) hH (fun H locs hH => ?_)
  refine lv_if_eq (tgt := 26) hx hb dX11_gone_7 (by decide) (fun hc => ?_) (fun hc => ?_)
  · replace hf := (if_pos hc).symm.trans hf
    refine pz_ldc2 (v := (-1)) hE (q_in _ 1142 (by decide +kernel) rfl) dX11_gone_26 ?_
    replace hf := Option.some.inj hf
    obtain ⟨rfl, rfl⟩ := qi2 hf
    exact pz_retl hE hrt hlk hH dX11_gone_29
  · replace hf := (if_neg hc).symm.trans hf
    refine lv_iload_n hx hb dX11_gone_10 rfl (lv_at hl 1 rfl) ?_
    refine lv_aload_n hx hb dX11_gone_11 rfl (lv_at hl 0 rfl) ?_
    refine pz_gS (a := 49) hE hH fr_X11_69 qk_0 (by decide) dX11_gone_12 ?_
    refine pz_gI hE hH fr_X11_163 qk_49 dX11_gone_15 ?_
    refine lv_iconst (v := 1) hx hb dX11_gone_18 (by decide) ?_
    refine lv_iadd hx hb dX11_gone_19 ?_
    refine q_calli (q_runS (As := [.int p0, .int ((M.1 49 5) + 1)]) (rest := []) hE hH (tz_X11_isOf l X (M := M) (hf := rfl)) ks_X11_123 (by decide) rfl hl.1 rfl (Nat.le_of_ble_eq_true rfl) dX11_gone_20) hH (fun H locs hH => ?_)
    refine lv_if_ne (tgt := 30) hx hb dX11_gone_23 (by decide) (fun hc => ?_) (fun hc => ?_)
    · replace hf := (if_neg hc).symm.trans hf
      refine lv_aload_n hx hb dX11_gone_30 rfl (lv_at hl 0 rfl) ?_
      refine pz_gS (a := 49) hE hH fr_X11_69 qk_0 (by decide) dX11_gone_31 ?_
      obtain ⟨M1, eM1, hf⟩ := st_bd hf
      refine q_callv (q_runV (As := []) (rest := []) hE hH (tz_X2_followAll l X (hf := eM1)) kv_X11_337 qk_49 (by decide) rfl hl.1 rfl (Nat.le_of_ble_eq_true rfl) dX11_gone_34) hH (fun H locs hH => ?_)
      refine lv_aload_n hx hb dX11_gone_37 rfl (lv_at hl 0 rfl) ?_
      refine pz_gS (a := 49) hE hH fr_X11_69 qk_0 (by decide) dX11_gone_38 ?_
      refine pz_gS (a := 52) hE hH fr_X11_378 qk_49 (by decide) dX11_gone_41 ?_
      refine lv_iload_n hx hb dX11_gone_44 rfl (lv_at hl 1 rfl) ?_
      obtain ⟨v2, ev2, hf⟩ := st_bd hf
      refine pz_lald hE hH qk_52 ev2 dX11_gone_45 ?_
      replace hf := Option.some.inj hf
      obtain ⟨rfl, rfl⟩ := qi2 hf
      exact pz_retl hE hrt hlk hH dX11_gone_46
    · replace hf := (if_pos hc).symm.trans hf
      refine pz_ldc2 (v := (-1)) hE (q_in _ 1142 (by decide +kernel) rfl) dX11_gone_26 ?_
      replace hf := Option.some.inj hf
      obtain ⟨rfl, rfl⟩ := qi2 hf
      exact pz_retl hE hrt hlk hH dX11_gone_29

theorem dX11_like_0 : decode cX11_like 0 = .ok (.aload_n 0, 1) := by decide +kernel
theorem dX11_like_1 : decode cX11_like 1 = .ok (.getfield 69, 3) := by decide +kernel
theorem dX11_like_4 : decode cX11_like 4 = .ok (.invokevirtual 159, 3) := by decide +kernel
theorem dX11_like_7 : decode cX11_like 7 = .ok (.ifCond .eq 17, 3) := by decide +kernel
theorem dX11_like_10 : decode cX11_like 10 = .ok (.iload_n 1, 1) := by decide +kernel
theorem dX11_like_11 : decode cX11_like 11 = .ok (.aload_n 0, 1) := by decide +kernel
theorem dX11_like_12 : decode cX11_like 12 = .ok (.getfield 69, 3) := by decide +kernel
theorem dX11_like_15 : decode cX11_like 15 = .ok (.getfield 163, 3) := by decide +kernel
theorem dX11_like_18 : decode cX11_like 18 = .ok (.invokestatic 123, 3) := by decide +kernel
theorem dX11_like_21 : decode cX11_like 21 = .ok (.ifCond .ne 5, 3) := by decide +kernel
theorem dX11_like_24 : decode cX11_like 24 = .ok (.iconst (-1), 1) := by decide +kernel
theorem dX11_like_25 : decode cX11_like 25 = .ok (.ireturn, 1) := by decide +kernel
theorem dX11_like_26 : decode cX11_like 26 = .ok (.aload_n 0, 1) := by decide +kernel
theorem dX11_like_27 : decode cX11_like 27 = .ok (.getfield 69, 3) := by decide +kernel
theorem dX11_like_30 : decode cX11_like 30 = .ok (.iload_n 1, 1) := by decide +kernel
theorem dX11_like_31 : decode cX11_like 31 = .ok (.invokevirtual 381, 3) := by decide +kernel
theorem dX11_like_34 : decode cX11_like 34 = .ok (.ireturn, 1) := by decide +kernel
set_option maxRecDepth 100000 in
set_option maxHeartbeats 4000000 in
theorem tz_X11_like (l : Launch) (X : qX) {p0 : Int32} {M MR : qM} {r0 : Int32} (hf : jTc_like p0 M = some (r0, MR)) : q_Met l X yX11_like cX11_like 2 (some .int) (5) M [.ref (X.1 0), .int p0] (q_Qi X r0 MR) := by
  refine q_enter (by decide) (Nat.le_of_ble_eq_true rfl) ?_
  intro p e s m args below meth c hE hrt hlk H locs hH ls hl
  have hx := hE.1
  have hb := hE.2.1
  have hl : lv_has ls 2 [(0, .ref (X.1 0)), (1, .int p0)] := hl
  unfold jTc_like at hf
  refine lv_aload_n hx hb dX11_like_0 rfl (lv_at hl 0 rfl) ?_
  refine pz_gS (a := 49) hE hH fr_X11_69 qk_0 (by decide) dX11_like_1 ?_
  refine q_calli (q_runV (As := []) (rest := []) hE hH (tz_X2_isThere l X (hf := rfl)) kv_X11_159 qk_49 (by decide) rfl hl.1 rfl (Nat.le_of_ble_eq_true rfl) dX11_like_4) hH (fun H locs hH => ?_)
  refine lv_if_eq (tgt := 24) hx hb dX11_like_7 (by decide) (fun hc => ?_) (fun hc => ?_)
  · replace hf := (if_pos hc).symm.trans hf
    refine lv_iconst (v := (-1)) hx hb dX11_like_24 (by decide) ?_
    replace hf := Option.some.inj hf
    obtain ⟨rfl, rfl⟩ := qi2 hf
    exact pz_reti hE hrt hlk hH dX11_like_25
  · replace hf := (if_neg hc).symm.trans hf
    refine lv_iload_n hx hb dX11_like_10 rfl (lv_at hl 1 rfl) ?_
    refine lv_aload_n hx hb dX11_like_11 rfl (lv_at hl 0 rfl) ?_
    refine pz_gS (a := 49) hE hH fr_X11_69 qk_0 (by decide) dX11_like_12 ?_
    refine pz_gI hE hH fr_X11_163 qk_49 dX11_like_15 ?_
    refine q_calli (q_runS (As := [.int p0, .int (M.1 49 5)]) (rest := []) hE hH (tz_X11_isOf l X (M := M) (hf := rfl)) ks_X11_123 (by decide) rfl hl.1 rfl (Nat.le_of_ble_eq_true rfl) dX11_like_18) hH (fun H locs hH => ?_)
    refine lv_if_ne (tgt := 26) hx hb dX11_like_21 (by decide) (fun hc => ?_) (fun hc => ?_)
    · replace hf := (if_neg hc).symm.trans hf
      refine lv_aload_n hx hb dX11_like_26 rfl (lv_at hl 0 rfl) ?_
      refine pz_gS (a := 49) hE hH fr_X11_69 qk_0 (by decide) dX11_like_27 ?_
      refine lv_iload_n hx hb dX11_like_30 rfl (lv_at hl 1 rfl) ?_
      obtain ⟨w1, ew1, hf⟩ := st_bd hf
      obtain ⟨r2, M3⟩ := w1
      replace hf := st_u2 hf
      refine q_calli (q_runV (As := [.int p0]) (rest := []) hE hH (tz_X2_likeliest l X (hf := ew1)) kv_X11_381 qk_49 (by decide) rfl hl.1 rfl (Nat.le_of_ble_eq_true rfl) dX11_like_31) hH (fun H locs hH => ?_)
      replace hf := Option.some.inj hf
      obtain ⟨rfl, rfl⟩ := qi2 hf
      exact pz_reti hE hrt hlk hH dX11_like_34
    · replace hf := (if_pos hc).symm.trans hf
      refine lv_iconst (v := (-1)) hx hb dX11_like_24 (by decide) ?_
      replace hf := Option.some.inj hf
      obtain ⟨rfl, rfl⟩ := qi2 hf
      exact pz_reti hE hrt hlk hH dX11_like_25

theorem dX11_tell_0 : decode cX11_tell 0 = .ok (.aload_n 0, 1) := by decide +kernel
theorem dX11_tell_1 : decode cX11_tell 1 = .ok (.iload_n 1, 1) := by decide +kernel
theorem dX11_tell_2 : decode cX11_tell 2 = .ok (.iload_n 2, 1) := by decide +kernel
theorem dX11_tell_3 : decode cX11_tell 3 = .ok (.invokevirtual 143, 3) := by decide +kernel
theorem dX11_tell_6 : decode cX11_tell 6 = .ok (.ifCond .ne 5, 3) := by decide +kernel
theorem dX11_tell_9 : decode cX11_tell 9 = .ok (.iconst 0, 1) := by decide +kernel
theorem dX11_tell_10 : decode cX11_tell 10 = .ok (.ireturn, 1) := by decide +kernel
theorem dX11_tell_11 : decode cX11_tell 11 = .ok (.aload_n 0, 1) := by decide +kernel
theorem dX11_tell_12 : decode cX11_tell 12 = .ok (.getfield 76, 3) := by decide +kernel
theorem dX11_tell_15 : decode cX11_tell 15 = .ok (.aload_n 0, 1) := by decide +kernel
theorem dX11_tell_16 : decode cX11_tell 16 = .ok (.getfield 34, 3) := by decide +kernel
theorem dX11_tell_19 : decode cX11_tell 19 = .ok (.iload_n 1, 1) := by decide +kernel
theorem dX11_tell_20 : decode cX11_tell 20 = .ok (.aaload, 1) := by decide +kernel
theorem dX11_tell_21 : decode cX11_tell 21 = .ok (.iload_n 2, 1) := by decide +kernel
theorem dX11_tell_22 : decode cX11_tell 22 = .ok (.invokevirtual 384, 3) := by decide +kernel
theorem dX11_tell_25 : decode cX11_tell 25 = .ok (.iconst 1, 1) := by decide +kernel
theorem dX11_tell_26 : decode cX11_tell 26 = .ok (.ireturn, 1) := by decide +kernel
set_option maxRecDepth 100000 in
set_option maxHeartbeats 4000000 in
theorem tz_X11_tell (l : Launch) (X : qX) {p0 : Int32} {p1 : Int32} {M MR : qM} {r0 : Bool} (hf : jTc_tell p0 p1 M = some (r0, MR)) : q_Met l X yX11_tell cX11_tell 3 (some .boolean) (4) M [.ref (X.1 0), .int p0, .int p1] (q_Qi X (b2i r0) MR) := by
  refine q_enter (by decide) (Nat.le_of_ble_eq_true rfl) ?_
  intro p e s m args below meth c hE hrt hlk H locs hH ls hl
  have hx := hE.1
  have hb := hE.2.1
  have hl : lv_has ls 3 [(0, .ref (X.1 0)), (1, .int p0), (2, .int p1)] := hl
  unfold jTc_tell at hf
  refine lv_aload_n hx hb dX11_tell_0 rfl (lv_at hl 0 rfl) ?_
  refine lv_iload_n hx hb dX11_tell_1 rfl (lv_at hl 1 rfl) ?_
  refine lv_iload_n hx hb dX11_tell_2 rfl (lv_at hl 2 rfl) ?_
  obtain ⟨r1, er1, hf⟩ := st_bd hf
  refine q_calli (q_runV (As := [.int p0, .int p1]) (rest := []) hE hH (tz_X11_isThing l X (hf := er1)) kv_X11_143 qk_0 (by decide) rfl hl.1 rfl (Nat.le_of_ble_eq_true rfl) dX11_tell_3) hH (fun H locs hH => ?_)
  refine lv_if_ne (tgt := 11) hx hb dX11_tell_6 (by decide) (fun hc => ?_) (fun hc => ?_)
  · replace hf := (if_neg hc).symm.trans hf
    refine lv_aload_n hx hb dX11_tell_11 rfl (lv_at hl 0 rfl) ?_
    refine pz_gS (a := 60) hE hH fr_X11_76 qk_0 (by decide) dX11_tell_12 ?_
    refine lv_aload_n hx hb dX11_tell_15 rfl (lv_at hl 0 rfl) ?_
    refine pz_gS (a := 5) hE hH fr_X11_34 qk_0 (by decide) dX11_tell_16 ?_
    refine lv_iload_n hx hb dX11_tell_19 rfl (lv_at hl 1 rfl) ?_
    obtain ⟨t2, et2, hf⟩ := st_bd hf
    refine pz_aldV hE hH qk_5 et2 dX11_tell_20 (fun ht2 => ?_)
    refine lv_iload_n hx hb dX11_tell_21 rfl (lv_at hl 2 rfl) ?_
    obtain ⟨M3, eM3, hf⟩ := st_bd hf
    refine q_callv (q_runV (As := [.ref (X.1 (71 + 4 * t2)), .int p1]) (rest := []) hE hH (tz_X5_begin l X ht2 (hf := eM3)) kv_X11_384 qk_60 (by decide) rfl hl.1 rfl (Nat.le_of_ble_eq_true rfl) dX11_tell_22) hH (fun H locs hH => ?_)
    refine lv_iconst (v := 1) hx hb dX11_tell_25 (by decide) ?_
    replace hf := Option.some.inj hf
    obtain ⟨rfl, rfl⟩ := qi2 hf
    exact pz_retz hE hrt hlk hH rfl dX11_tell_26
  · replace hf := (if_pos hc).symm.trans hf
    refine lv_iconst (v := 0) hx hb dX11_tell_9 (by decide) ?_
    replace hf := Option.some.inj hf
    obtain ⟨rfl, rfl⟩ := qi2 hf
    exact pz_retz hE hrt hlk hH rfl dX11_tell_10

theorem dX11_isTold_0 : decode cX11_isTold 0 = .ok (.aload_n 0, 1) := by decide +kernel
theorem dX11_isTold_1 : decode cX11_isTold 1 = .ok (.getfield 76, 3) := by decide +kernel
theorem dX11_isTold_4 : decode cX11_isTold 4 = .ok (.invokevirtual 173, 3) := by decide +kernel
theorem dX11_isTold_7 : decode cX11_isTold 7 = .ok (.ifCond .eq 24, 3) := by decide +kernel
theorem dX11_isTold_10 : decode cX11_isTold 10 = .ok (.iload_n 1, 1) := by decide +kernel
theorem dX11_isTold_11 : decode cX11_isTold 11 = .ok (.aload_n 0, 1) := by decide +kernel
theorem dX11_isTold_12 : decode cX11_isTold 12 = .ok (.getfield 76, 3) := by decide +kernel
theorem dX11_isTold_15 : decode cX11_isTold 15 = .ok (.getfield 174, 3) := by decide +kernel
theorem dX11_isTold_18 : decode cX11_isTold 18 = .ok (.getfield 140, 3) := by decide +kernel
theorem dX11_isTold_21 : decode cX11_isTold 21 = .ok (.invokestatic 123, 3) := by decide +kernel
theorem dX11_isTold_24 : decode cX11_isTold 24 = .ok (.ifCond .eq 7, 3) := by decide +kernel
theorem dX11_isTold_27 : decode cX11_isTold 27 = .ok (.iconst 1, 1) := by decide +kernel
theorem dX11_isTold_28 : decode cX11_isTold 28 = .ok (.goto 4, 3) := by decide +kernel
theorem dX11_isTold_31 : decode cX11_isTold 31 = .ok (.iconst 0, 1) := by decide +kernel
theorem dX11_isTold_32 : decode cX11_isTold 32 = .ok (.ireturn, 1) := by decide +kernel
set_option maxRecDepth 100000 in
set_option maxHeartbeats 4000000 in
theorem tz_X11_isTold (l : Launch) (X : qX) {p0 : Int32} {M : qM} {r0 : Bool} (hf : jTc_isTold p0 M = some r0) : q_Met l X yX11_isTold cX11_isTold 2 (some .boolean) (2) M [.ref (X.1 0), .int p0] (q_Qi X (b2i r0) M) := by
  refine q_enter (by decide) (Nat.le_of_ble_eq_true rfl) ?_
  intro p e s m args below meth c hE hrt hlk H locs hH ls hl
  have hx := hE.1
  have hb := hE.2.1
  have hl : lv_has ls 2 [(0, .ref (X.1 0)), (1, .int p0)] := hl
  unfold jTc_isTold at hf
  refine lv_aload_n hx hb dX11_isTold_0 rfl (lv_at hl 0 rfl) ?_
  refine pz_gS (a := 60) hE hH fr_X11_76 qk_0 (by decide) dX11_isTold_1 ?_
  refine q_calli (q_runV (As := []) (rest := []) hE hH (tz_X5_began l X (hf := rfl)) kv_X11_173 qk_60 (by decide) rfl hl.1 rfl (Nat.le_of_ble_eq_true rfl) dX11_isTold_4) hH (fun H locs hH => ?_)
  obtain ⟨z1, hr, hf⟩ := st_bd hf
  have hJ : ∀ (ls : Array Slot) (H : Heap) (locs : List Loc), q_H X M s H locs → lv_has ls 2 [] → W p l e (q_rm (2)) s m args below meth c H locs 0 0 (MQ below (q_Qi X (b2i r0) M) args s 0 0 (q_A X)) (F0 m 32 ls [.int (b2i z1)]) := by
    intro ls H locs hH hl
    replace hf := Option.some.inj hf
    subst hf
    exact pz_retz hE hrt hlk hH rfl dX11_isTold_32
  clear hf
  replace hf := hr
  refine lv_if_eq (tgt := 31) hx hb dX11_isTold_7 (by decide) (fun hc => ?_) (fun hc => ?_)
  · replace hf := (if_pos hc).symm.trans hf
    refine lv_iconst (v := 0) hx hb dX11_isTold_31 (by decide) ?_
    replace hf := Option.some.inj hf
    subst hf
    exact hJ ls H locs hH (lv_sub hl [] rfl)
  · replace hf := (if_neg hc).symm.trans hf
    refine lv_iload_n hx hb dX11_isTold_10 rfl (lv_at hl 1 rfl) ?_
    refine lv_aload_n hx hb dX11_isTold_11 rfl (lv_at hl 0 rfl) ?_
    refine pz_gS (a := 60) hE hH fr_X11_76 qk_0 (by decide) dX11_isTold_12 ?_
    obtain ⟨a2, ea2, hf⟩ := st_bd hf
    refine pz_gR hE hH fr_X11_174 qk_60 ea2 dX11_isTold_15 (fun ha2 => ?_)
    replace ha2 : q_vil a2 = true := ha2
    refine pz_gI hE hH fr_X11_140 (q_vil_0 ha2) dX11_isTold_18 ?_
    refine q_calli (q_runS (As := [.int p0, .int (M.1 a2 2)]) (rest := []) hE hH (tz_X11_isOf l X (M := M) (hf := rfl)) ks_X11_123 (by decide) rfl hl.1 rfl (Nat.le_of_ble_eq_true rfl) dX11_isTold_21) hH (fun H locs hH => ?_)
    refine lv_if_eq (tgt := 31) hx hb dX11_isTold_24 (by decide) (fun hc => ?_) (fun hc => ?_)
    · replace hf := (if_pos hc).symm.trans hf
      refine lv_iconst (v := 0) hx hb dX11_isTold_31 (by decide) ?_
      replace hf := Option.some.inj hf
      subst hf
      exact hJ ls H locs hH (lv_sub hl [] rfl)
    · replace hf := (if_neg hc).symm.trans hf
      refine lv_iconst (v := 1) hx hb dX11_isTold_27 (by decide) ?_
      refine lv_goto (tgt := 32) hx hb dX11_isTold_28 (by decide) ?_
      replace hf := Option.some.inj hf
      subst hf
      exact hJ ls H locs hH (lv_sub hl [] rfl)

theorem dX11_came_0 : decode cX11_came 0 = .ok (.aload_n 0, 1) := by decide +kernel
theorem dX11_came_1 : decode cX11_came 1 = .ok (.iload_n 1, 1) := by decide +kernel
theorem dX11_came_2 : decode cX11_came 2 = .ok (.invokevirtual 387, 3) := by decide +kernel
theorem dX11_came_5 : decode cX11_came 5 = .ok (.ifCond .eq 10, 3) := by decide +kernel
theorem dX11_came_8 : decode cX11_came 8 = .ok (.iload_n 2, 1) := by decide +kernel
theorem dX11_came_9 : decode cX11_came 9 = .ok (.invokestatic 288, 3) := by decide +kernel
theorem dX11_came_12 : decode cX11_came 12 = .ok (.ifCond .ne 5, 3) := by decide +kernel
theorem dX11_came_15 : decode cX11_came 15 = .ok (.iconst 0, 1) := by decide +kernel
theorem dX11_came_16 : decode cX11_came 16 = .ok (.ireturn, 1) := by decide +kernel
theorem dX11_came_17 : decode cX11_came 17 = .ok (.aload_n 0, 1) := by decide +kernel
theorem dX11_came_18 : decode cX11_came 18 = .ok (.getfield 76, 3) := by decide +kernel
theorem dX11_came_21 : decode cX11_came 21 = .ok (.getfield 390, 3) := by decide +kernel
theorem dX11_came_24 : decode cX11_came 24 = .ok (.iload_n 1, 1) := by decide +kernel
theorem dX11_came_25 : decode cX11_came 25 = .ok (.iload_n 2, 1) := by decide +kernel
theorem dX11_came_26 : decode cX11_came 26 = .ok (.iastore, 1) := by decide +kernel
theorem dX11_came_27 : decode cX11_came 27 = .ok (.iconst 1, 1) := by decide +kernel
theorem dX11_came_28 : decode cX11_came 28 = .ok (.ireturn, 1) := by decide +kernel
set_option maxRecDepth 100000 in
set_option maxHeartbeats 4000000 in
theorem tz_X11_came (l : Launch) (X : qX) {p0 : Int32} {p1 : Int32} {M MR : qM} {r0 : Bool} (hf : jTc_came p0 p1 M = some (r0, MR)) : q_Met l X yX11_came cX11_came 3 (some .boolean) (3) M [.ref (X.1 0), .int p0, .int p1] (q_Qi X (b2i r0) MR) := by
  refine q_enter (by decide) (Nat.le_of_ble_eq_true rfl) ?_
  intro p e s m args below meth c hE hrt hlk H locs hH ls hl
  have hx := hE.1
  have hb := hE.2.1
  have hl : lv_has ls 3 [(0, .ref (X.1 0)), (1, .int p0), (2, .int p1)] := hl
  unfold jTc_came at hf
  refine lv_aload_n hx hb dX11_came_0 rfl (lv_at hl 0 rfl) ?_
  refine lv_iload_n hx hb dX11_came_1 rfl (lv_at hl 1 rfl) ?_
  obtain ⟨r1, er1, hf⟩ := st_bd hf
  refine q_calli (q_runV (As := [.int p0]) (rest := []) hE hH (tz_X11_isTold l X (hf := er1)) kv_X11_387 qk_0 (by decide) rfl hl.1 rfl (Nat.le_of_ble_eq_true rfl) dX11_came_2) hH (fun H locs hH => ?_)
  refine lv_if_eq (tgt := 15) hx hb dX11_came_5 (by decide) (fun hc => ?_) (fun hc => ?_)
  · replace hf := (if_pos hc).symm.trans hf
    refine lv_iconst (v := 0) hx hb dX11_came_15 (by decide) ?_
    replace hf := Option.some.inj hf
    obtain ⟨rfl, rfl⟩ := qi2 hf
    exact pz_retz hE hrt hlk hH rfl dX11_came_16
  · replace hf := (if_neg hc).symm.trans hf
    refine lv_iload_n hx hb dX11_came_8 rfl (lv_at hl 2 rfl) ?_
    refine q_calli (q_runS (As := [.int p1]) (rest := []) hE hH (tz_X11_isMinuteOrNone l X (M := M) (hf := rfl)) ks_X11_288 (by decide) rfl hl.1 rfl (Nat.le_of_ble_eq_true rfl) dX11_came_9) hH (fun H locs hH => ?_)
    refine lv_if_ne (tgt := 17) hx hb dX11_came_12 (by decide) (fun hc => ?_) (fun hc => ?_)
    · replace hf := (if_neg hc).symm.trans hf
      refine lv_aload_n hx hb dX11_came_17 rfl (lv_at hl 0 rfl) ?_
      refine pz_gS (a := 60) hE hH fr_X11_76 qk_0 (by decide) dX11_came_18 ?_
      refine pz_gS (a := 61) hE hH fr_X11_390 qk_60 (by decide) dX11_came_21 ?_
      refine lv_iload_n hx hb dX11_came_24 rfl (lv_at hl 1 rfl) ?_
      refine lv_iload_n hx hb dX11_came_25 rfl (lv_at hl 2 rfl) ?_
      obtain ⟨M2, eM2, hf⟩ := st_bd hf
      refine pz_iast hE hH qk_61 eM2 dX11_came_26 (fun H locs hH => ?_)
      refine lv_iconst (v := 1) hx hb dX11_came_27 (by decide) ?_
      replace hf := Option.some.inj hf
      obtain ⟨rfl, rfl⟩ := qi2 hf
      exact pz_retz hE hrt hlk hH rfl dX11_came_28
    · replace hf := (if_pos hc).symm.trans hf
      refine lv_iconst (v := 0) hx hb dX11_came_15 (by decide) ?_
      replace hf := Option.some.inj hf
      obtain ⟨rfl, rfl⟩ := qi2 hf
      exact pz_retz hE hrt hlk hH rfl dX11_came_16

theorem dX11_told_0 : decode cX11_told 0 = .ok (.aload_n 0, 1) := by decide +kernel
theorem dX11_told_1 : decode cX11_told 1 = .ok (.iload_n 1, 1) := by decide +kernel
theorem dX11_told_2 : decode cX11_told 2 = .ok (.invokevirtual 387, 3) := by decide +kernel
theorem dX11_told_5 : decode cX11_told 5 = .ok (.ifCond .ne 6, 3) := by decide +kernel
theorem dX11_told_8 : decode cX11_told 8 = .ok (.ldc 175, 2) := by decide +kernel
theorem dX11_told_10 : decode cX11_told 10 = .ok (.ireturn, 1) := by decide +kernel
theorem dX11_told_11 : decode cX11_told 11 = .ok (.iload_n 2, 1) := by decide +kernel
theorem dX11_told_12 : decode cX11_told 12 = .ok (.tableswitch 82 0 4 #[36, 46, 55, 64, 73], 36) := by decide +kernel
theorem dX11_told_48 : decode cX11_told 48 = .ok (.aload_n 0, 1) := by decide +kernel
theorem dX11_told_49 : decode cX11_told 49 = .ok (.getfield 76, 3) := by decide +kernel
theorem dX11_told_52 : decode cX11_told 52 = .ok (.getfield 390, 3) := by decide +kernel
theorem dX11_told_55 : decode cX11_told 55 = .ok (.iload_n 1, 1) := by decide +kernel
theorem dX11_told_56 : decode cX11_told 56 = .ok (.iaload, 1) := by decide +kernel
theorem dX11_told_57 : decode cX11_told 57 = .ok (.ireturn, 1) := by decide +kernel
theorem dX11_told_58 : decode cX11_told 58 = .ok (.aload_n 0, 1) := by decide +kernel
theorem dX11_told_59 : decode cX11_told 59 = .ok (.getfield 76, 3) := by decide +kernel
theorem dX11_told_62 : decode cX11_told 62 = .ok (.iload_n 1, 1) := by decide +kernel
theorem dX11_told_63 : decode cX11_told 63 = .ok (.invokevirtual 392, 3) := by decide +kernel
theorem dX11_told_66 : decode cX11_told 66 = .ok (.ireturn, 1) := by decide +kernel
theorem dX11_told_67 : decode cX11_told 67 = .ok (.aload_n 0, 1) := by decide +kernel
theorem dX11_told_68 : decode cX11_told 68 = .ok (.getfield 76, 3) := by decide +kernel
theorem dX11_told_71 : decode cX11_told 71 = .ok (.iload_n 1, 1) := by decide +kernel
theorem dX11_told_72 : decode cX11_told 72 = .ok (.invokevirtual 395, 3) := by decide +kernel
theorem dX11_told_75 : decode cX11_told 75 = .ok (.ireturn, 1) := by decide +kernel
theorem dX11_told_76 : decode cX11_told 76 = .ok (.aload_n 0, 1) := by decide +kernel
theorem dX11_told_77 : decode cX11_told 77 = .ok (.getfield 76, 3) := by decide +kernel
theorem dX11_told_80 : decode cX11_told 80 = .ok (.iload_n 1, 1) := by decide +kernel
theorem dX11_told_81 : decode cX11_told 81 = .ok (.invokevirtual 396, 3) := by decide +kernel
theorem dX11_told_84 : decode cX11_told 84 = .ok (.ireturn, 1) := by decide +kernel
theorem dX11_told_85 : decode cX11_told 85 = .ok (.aload_n 0, 1) := by decide +kernel
theorem dX11_told_86 : decode cX11_told 86 = .ok (.getfield 76, 3) := by decide +kernel
theorem dX11_told_89 : decode cX11_told 89 = .ok (.iload_n 1, 1) := by decide +kernel
theorem dX11_told_90 : decode cX11_told 90 = .ok (.invokevirtual 399, 3) := by decide +kernel
theorem dX11_told_93 : decode cX11_told 93 = .ok (.ireturn, 1) := by decide +kernel
theorem dX11_told_94 : decode cX11_told 94 = .ok (.ldc 175, 2) := by decide +kernel
theorem dX11_told_96 : decode cX11_told 96 = .ok (.ireturn, 1) := by decide +kernel
set_option maxRecDepth 100000 in
set_option maxHeartbeats 4000000 in
theorem tz_X11_told (l : Launch) (X : qX) {p0 : Int32} {p1 : Int32} {M MR : qM} {r0 : Int32} (hf : jTc_told p0 p1 M = some (r0, MR)) : q_Met l X yX11_told cX11_told 3 (some .int) (7) M [.ref (X.1 0), .int p0, .int p1] (q_Qi X r0 MR) := by
  refine q_enter (by decide) (Nat.le_of_ble_eq_true rfl) ?_
  intro p e s m args below meth c hE hrt hlk H locs hH ls hl
  have hx := hE.1
  have hb := hE.2.1
  have hl : lv_has ls 3 [(0, .ref (X.1 0)), (1, .int p0), (2, .int p1)] := hl
  unfold jTc_told at hf
  refine lv_aload_n hx hb dX11_told_0 rfl (lv_at hl 0 rfl) ?_
  refine lv_iload_n hx hb dX11_told_1 rfl (lv_at hl 1 rfl) ?_
  obtain ⟨r1, er1, hf⟩ := st_bd hf
  refine q_calli (q_runV (As := [.int p0]) (rest := []) hE hH (tz_X11_isTold l X (hf := er1)) kv_X11_387 qk_0 (by decide) rfl hl.1 rfl (Nat.le_of_ble_eq_true rfl) dX11_told_2) hH (fun H locs hH => ?_)
  refine lv_if_ne (tgt := 11) hx hb dX11_told_5 (by decide) (fun hc => ?_) (fun hc => ?_)
  · replace hf := (if_neg hc).symm.trans hf
    refine lv_iload_n hx hb dX11_told_11 rfl (lv_at hl 2 rfl) ?_
    by_cases hc0 : (p1 : Int32) = 0
    · replace hf := (if_pos hc0).symm.trans hf
      refine lv_tableIn (off := 36) (tgt := 48) hx hb dX11_told_12 (by rw [hc0]; decide) (by rw [hc0]; decide) (by rw [hc0]; decide) (by decide) ?_
      refine lv_aload_n hx hb dX11_told_48 rfl (lv_at hl 0 rfl) ?_
      refine pz_gS (a := 60) hE hH fr_X11_76 qk_0 (by decide) dX11_told_49 ?_
      refine pz_gS (a := 61) hE hH fr_X11_390 qk_60 (by decide) dX11_told_52 ?_
      refine lv_iload_n hx hb dX11_told_55 rfl (lv_at hl 1 rfl) ?_
      obtain ⟨v2, ev2, hf⟩ := st_bd hf
      refine pz_iald hE hH qk_61 ev2 dX11_told_56 ?_
      replace hf := Option.some.inj hf
      obtain ⟨rfl, rfl⟩ := qi2 hf
      exact pz_reti hE hrt hlk hH dX11_told_57
    · replace hf := (if_neg hc0).symm.trans hf
      by_cases hc1 : (p1 : Int32) = 1
      · replace hf := (if_pos hc1).symm.trans hf
        refine lv_tableIn (off := 46) (tgt := 58) hx hb dX11_told_12 (by rw [hc1]; decide) (by rw [hc1]; decide) (by rw [hc1]; decide) (by decide) ?_
        refine lv_aload_n hx hb dX11_told_58 rfl (lv_at hl 0 rfl) ?_
        refine pz_gS (a := 60) hE hH fr_X11_76 qk_0 (by decide) dX11_told_59 ?_
        refine lv_iload_n hx hb dX11_told_62 rfl (lv_at hl 1 rfl) ?_
        obtain ⟨w3, ew3, hf⟩ := st_bd hf
        obtain ⟨r4, M5⟩ := w3
        replace hf := st_u2 hf
        refine q_calli (q_runV (As := [.int p0]) (rest := []) hE hH (tz_X5_rankOf l X (hf := ew3)) kv_X11_392 qk_60 (by decide) rfl hl.1 rfl (Nat.le_of_ble_eq_true rfl) dX11_told_63) hH (fun H locs hH => ?_)
        replace hf := Option.some.inj hf
        obtain ⟨rfl, rfl⟩ := qi2 hf
        exact pz_reti hE hrt hlk hH dX11_told_66
      · replace hf := (if_neg hc1).symm.trans hf
        by_cases hc2 : (p1 : Int32) = 2
        · replace hf := (if_pos hc2).symm.trans hf
          refine lv_tableIn (off := 55) (tgt := 67) hx hb dX11_told_12 (by rw [hc2]; decide) (by rw [hc2]; decide) (by rw [hc2]; decide) (by decide) ?_
          refine lv_aload_n hx hb dX11_told_67 rfl (lv_at hl 0 rfl) ?_
          refine pz_gS (a := 60) hE hH fr_X11_76 qk_0 (by decide) dX11_told_68 ?_
          refine lv_iload_n hx hb dX11_told_71 rfl (lv_at hl 1 rfl) ?_
          obtain ⟨w6, ew6, hf⟩ := st_bd hf
          obtain ⟨r7, M8⟩ := w6
          replace hf := st_u2 hf
          refine q_calli (q_runV (As := [.int p0]) (rest := []) hE hH (tz_X5_gainOf l X (hf := ew6)) kv_X11_395 qk_60 (by decide) rfl hl.1 rfl (Nat.le_of_ble_eq_true rfl) dX11_told_72) hH (fun H locs hH => ?_)
          replace hf := Option.some.inj hf
          obtain ⟨rfl, rfl⟩ := qi2 hf
          exact pz_reti hE hrt hlk hH dX11_told_75
        · replace hf := (if_neg hc2).symm.trans hf
          by_cases hc3 : (p1 : Int32) = 3
          · replace hf := (if_pos hc3).symm.trans hf
            refine lv_tableIn (off := 64) (tgt := 76) hx hb dX11_told_12 (by rw [hc3]; decide) (by rw [hc3]; decide) (by rw [hc3]; decide) (by decide) ?_
            refine lv_aload_n hx hb dX11_told_76 rfl (lv_at hl 0 rfl) ?_
            refine pz_gS (a := 60) hE hH fr_X11_76 qk_0 (by decide) dX11_told_77 ?_
            refine lv_iload_n hx hb dX11_told_80 rfl (lv_at hl 1 rfl) ?_
            obtain ⟨w9, ew9, hf⟩ := st_bd hf
            obtain ⟨r10, M11⟩ := w9
            replace hf := st_u2 hf
            refine q_calli (q_runV (As := [.int p0]) (rest := []) hE hH (tz_X5_answerOf l X (hf := ew9)) kv_X11_396 qk_60 (by decide) rfl hl.1 rfl (Nat.le_of_ble_eq_true rfl) dX11_told_81) hH (fun H locs hH => ?_)
            replace hf := Option.some.inj hf
            obtain ⟨rfl, rfl⟩ := qi2 hf
            exact pz_reti hE hrt hlk hH dX11_told_84
          · replace hf := (if_neg hc3).symm.trans hf
            by_cases hc4 : (p1 : Int32) = 4
            · replace hf := (if_pos hc4).symm.trans hf
              refine lv_tableIn (off := 73) (tgt := 85) hx hb dX11_told_12 (by rw [hc4]; decide) (by rw [hc4]; decide) (by rw [hc4]; decide) (by decide) ?_
              refine lv_aload_n hx hb dX11_told_85 rfl (lv_at hl 0 rfl) ?_
              refine pz_gS (a := 60) hE hH fr_X11_76 qk_0 (by decide) dX11_told_86 ?_
              refine lv_iload_n hx hb dX11_told_89 rfl (lv_at hl 1 rfl) ?_
              obtain ⟨w12, ew12, hf⟩ := st_bd hf
              obtain ⟨r13, M14⟩ := w12
              replace hf := st_u2 hf
              refine q_calli (q_runV (As := [.int p0]) (rest := []) hE hH (tz_X5_regretOf l X (hf := ew12)) kv_X11_399 qk_60 (by decide) rfl hl.1 rfl (Nat.le_of_ble_eq_true rfl) dX11_told_90) hH (fun H locs hH => ?_)
              replace hf := Option.some.inj hf
              obtain ⟨rfl, rfl⟩ := qi2 hf
              exact pz_reti hE hrt hlk hH dX11_told_93
            · replace hf := (if_neg hc4).symm.trans hf
              refine lv_tableOut (tgt := 94) hx hb dX11_told_12 (by have := lv_neT hc0 (a := 0) (by decide); have := lv_neT hc1 (a := 1) (by decide); have := lv_neT hc2 (a := 2) (by decide); have := lv_neT hc3 (a := 3) (by decide); have := lv_neT hc4 (a := 4) (by decide); omega) (by decide) ?_
              refine pz_ldc (v := (-1000000)) hE (q_in _ 768 (by decide +kernel) rfl) dX11_told_94 ?_
              replace hf := Option.some.inj hf
              obtain ⟨rfl, rfl⟩ := qi2 hf
              exact pz_reti hE hrt hlk hH dX11_told_96
  · replace hf := (if_pos hc).symm.trans hf
    refine pz_ldc (v := (-1000000)) hE (q_in _ 768 (by decide +kernel) rfl) dX11_told_8 ?_
    replace hf := Option.some.inj hf
    obtain ⟨rfl, rfl⟩ := qi2 hf
    exact pz_reti hE hrt hlk hH dX11_told_10

theorem dX11_ill_0 : decode cX11_ill 0 = .ok (.aload_n 0, 1) := by decide +kernel
theorem dX11_ill_1 : decode cX11_ill 1 = .ok (.getfield 76, 3) := by decide +kernel
theorem dX11_ill_4 : decode cX11_ill 4 = .ok (.invokevirtual 173, 3) := by decide +kernel
theorem dX11_ill_7 : decode cX11_ill 7 = .ok (.ifCond .ne 5, 3) := by decide +kernel
theorem dX11_ill_10 : decode cX11_ill 10 = .ok (.iconst (-1), 1) := by decide +kernel
theorem dX11_ill_11 : decode cX11_ill 11 = .ok (.ireturn, 1) := by decide +kernel
theorem dX11_ill_12 : decode cX11_ill 12 = .ok (.iconst 0, 1) := by decide +kernel
theorem dX11_ill_13 : decode cX11_ill 13 = .ok (.istore_n 1, 1) := by decide +kernel
theorem dX11_ill_14 : decode cX11_ill 14 = .ok (.iconst 0, 1) := by decide +kernel
theorem dX11_ill_15 : decode cX11_ill 15 = .ok (.istore_n 2, 1) := by decide +kernel
theorem dX11_ill_16 : decode cX11_ill 16 = .ok (.iload_n 2, 1) := by decide +kernel
theorem dX11_ill_17 : decode cX11_ill 17 = .ok (.aload_n 0, 1) := by decide +kernel
theorem dX11_ill_18 : decode cX11_ill 18 = .ok (.getfield 76, 3) := by decide +kernel
theorem dX11_ill_21 : decode cX11_ill 21 = .ok (.getfield 174, 3) := by decide +kernel
theorem dX11_ill_24 : decode cX11_ill 24 = .ok (.getfield 140, 3) := by decide +kernel
theorem dX11_ill_27 : decode cX11_ill 27 = .ok (.if_icmp .ge 26, 3) := by decide +kernel
theorem dX11_ill_30 : decode cX11_ill 30 = .ok (.aload_n 0, 1) := by decide +kernel
theorem dX11_ill_31 : decode cX11_ill 31 = .ok (.getfield 76, 3) := by decide +kernel
theorem dX11_ill_34 : decode cX11_ill 34 = .ok (.iload_n 2, 1) := by decide +kernel
theorem dX11_ill_35 : decode cX11_ill 35 = .ok (.invokevirtual 399, 3) := by decide +kernel
theorem dX11_ill_38 : decode cX11_ill 38 = .ok (.ifCond .le 9, 3) := by decide +kernel
theorem dX11_ill_41 : decode cX11_ill 41 = .ok (.iload_n 1, 1) := by decide +kernel
theorem dX11_ill_42 : decode cX11_ill 42 = .ok (.iconst 1, 1) := by decide +kernel
theorem dX11_ill_43 : decode cX11_ill 43 = .ok (.iload_n 2, 1) := by decide +kernel
theorem dX11_ill_44 : decode cX11_ill 44 = .ok (.ishl, 1) := by decide +kernel
theorem dX11_ill_45 : decode cX11_ill 45 = .ok (.ior, 1) := by decide +kernel
theorem dX11_ill_46 : decode cX11_ill 46 = .ok (.istore_n 1, 1) := by decide +kernel
theorem dX11_ill_47 : decode cX11_ill 47 = .ok (.iinc 2 1, 3) := by decide +kernel
theorem dX11_ill_50 : decode cX11_ill 50 = .ok (.goto (-34), 3) := by decide +kernel
theorem dX11_ill_53 : decode cX11_ill 53 = .ok (.iload_n 1, 1) := by decide +kernel
theorem dX11_ill_54 : decode cX11_ill 54 = .ok (.ireturn, 1) := by decide +kernel
set_option maxRecDepth 100000 in
set_option maxHeartbeats 4000000 in
theorem tz_X11_ill (l : Launch) (X : qX) {M MR : qM} {r0 : Int32} (hf : jTc_ill M = some (r0, MR)) : q_Met l X yX11_ill cX11_ill 3 (some .int) (7) M [.ref (X.1 0)] (q_Qi X r0 MR) := by
  refine q_enter (by decide) (Nat.le_of_ble_eq_true rfl) ?_
  intro p e s m args below meth c hE hrt hlk H locs hH ls hl
  have hx := hE.1
  have hb := hE.2.1
  have hl : lv_has ls 3 [(0, .ref (X.1 0))] := hl
  unfold jTc_ill at hf
  refine lv_aload_n hx hb dX11_ill_0 rfl (lv_at hl 0 rfl) ?_
  refine pz_gS (a := 60) hE hH fr_X11_76 qk_0 (by decide) dX11_ill_1 ?_
  refine q_calli (q_runV (As := []) (rest := []) hE hH (tz_X5_began l X (hf := rfl)) kv_X11_173 qk_60 (by decide) rfl hl.1 rfl (Nat.le_of_ble_eq_true rfl) dX11_ill_4) hH (fun H locs hH => ?_)
  refine lv_if_ne (tgt := 12) hx hb dX11_ill_7 (by decide) (fun hc => ?_) (fun hc => ?_)
  · replace hf := (if_neg hc).symm.trans hf
    refine lv_iconst (v := 0) hx hb dX11_ill_12 (by decide) ?_
    refine lv_istore_n (lv' := [(1, .int 0), (0, .ref (X.1 0))]) hx hb dX11_ill_13 rfl hl (by decide) rfl (fun ls hl => ?_)
    refine lv_iconst (v := 0) hx hb dX11_ill_14 (by decide) ?_
    refine lv_istore_n (lv' := [(2, .int 0), (1, .int 0), (0, .ref (X.1 0))]) hx hb dX11_ill_15 rfl hl (by decide) rfl (fun ls hl => ?_)
    obtain ⟨r6, hlp, hf⟩ := st_bd hf
    have hX : (fun q0 => qu2 q0 (fun x4 M5 => ∀ (ls : Array Slot) (H : Heap) (locs : List Loc), q_H X M5 s H locs → lv_has ls 3 [(1, .int x4)] → W p l e (q_rm (7)) s m args below meth c H locs 0 0 (MQ below (q_Qi X r0 MR) args s 0 0 (q_A X)) (F0 m 53 ls [])) : (Int32 × qM) → Prop) r6 := by
      obtain ⟨x4, M5⟩ := r6
      replace hf := st_u2 hf
      intro ls H locs hH hl
      refine lv_iload_n hx hb dX11_ill_53 rfl (lv_at hl 0 rfl) ?_
      replace hf := Option.some.inj hf
      obtain ⟨rfl, rfl⟩ := qi2 hf
      exact pz_reti hE hrt hlk hH dX11_ill_54
    clear hf
    have hG := qlp_ind (r := r6) (fun q => qu3 q (fun x1 x2 M3 => ∀ (ls : Array Slot) (H : Heap) (locs : List Loc), q_H X M3 s H locs → lv_has ls 3 [(0, .ref (X.1 0)), (1, .int x1), (2, .int x2)] → W p l e (q_rm (7)) s m args below meth c H locs 0 0 (MQ below (q_Qi X r0 MR) args s 0 0 (q_A X)) (F0 m 16 ls []))) (by
        intro q o hf hK1 hK2
        obtain ⟨x1, x2, M3⟩ := q
        replace hf := st_u3 hf
        intro ls H locs hH hl
        refine lv_iload_n hx hb dX11_ill_16 rfl (lv_at hl 2 rfl) ?_
        refine lv_aload_n hx hb dX11_ill_17 rfl (lv_at hl 0 rfl) ?_
        refine pz_gS (a := 60) hE hH fr_X11_76 qk_0 (by decide) dX11_ill_18 ?_
        obtain ⟨a7, ea7, hf⟩ := st_bd hf
        refine pz_gR hE hH fr_X11_174 qk_60 ea7 dX11_ill_21 (fun ha7 => ?_)
        replace ha7 : q_vil a7 = true := ha7
        refine pz_gI hE hH fr_X11_140 (q_vil_0 ha7) dX11_ill_24 ?_
        refine lv_icmp_ge (tgt := 53) hx hb dX11_ill_27 (by decide) (fun hc => ?_) (fun hc => ?_)
        · replace hf := (if_pos hc).symm.trans hf
          replace hf := hK2 _ (Option.some.inj hf).symm
          subst hf
          exact hX ls H locs hH (lv_sub hl [1] rfl)
        · replace hf := (if_neg hc).symm.trans hf
          refine lv_aload_n hx hb dX11_ill_30 rfl (lv_at hl 0 rfl) ?_
          refine pz_gS (a := 60) hE hH fr_X11_76 qk_0 (by decide) dX11_ill_31 ?_
          refine lv_iload_n hx hb dX11_ill_34 rfl (lv_at hl 2 rfl) ?_
          obtain ⟨w8, ew8, hf⟩ := st_bd hf
          obtain ⟨r9, M10⟩ := w8
          replace hf := st_u2 hf
          refine q_calli (q_runV (As := [.int x2]) (rest := []) hE hH (tz_X5_regretOf l X (hf := ew8)) kv_X11_399 qk_60 (by decide) rfl hl.1 rfl (Nat.le_of_ble_eq_true rfl) dX11_ill_35) hH (fun H locs hH => ?_)
          obtain ⟨x11, hr, hf⟩ := st_ltx hf
          have hJ : ∀ (ls : Array Slot) (H : Heap) (locs : List Loc), q_H X M10 s H locs → lv_has ls 3 [(0, .ref (X.1 0)), (1, .int x11), (2, .int x2)] → W p l e (q_rm (7)) s m args below meth c H locs 0 0 (MQ below (q_Qi X r0 MR) args s 0 0 (q_A X)) (F0 m 47 ls []) := by
            intro ls H locs hH hl
            obtain ⟨x12, ex12, hf⟩ := st_lty hf
            refine lv_iinc (v := x12) (lv' := [(2, .int x12), (0, .ref (X.1 0)), (1, .int x11)]) hx hb dX11_ill_47 hl (k := 2) rfl (by rw [ex12]; rfl) (by decide) rfl (fun ls hl => ?_)
            refine lv_goto (tgt := 16) hx hb dX11_ill_50 (by decide) ?_
            exact hK1 _ (Option.some.inj hf).symm ls H locs hH (lv_sub hl [1, 2, 0] rfl)
          clear hf
          replace hf := hr
          refine lv_if_le (tgt := 47) hx hb dX11_ill_38 (by decide) (fun hc => ?_) (fun hc => ?_)
          · replace hf := (if_pos hc).symm.trans hf
            subst hf
            exact hJ ls H locs hH (lv_sub hl [0, 1, 2] rfl)
          · replace hf := (if_neg hc).symm.trans hf
            refine lv_iload_n hx hb dX11_ill_41 rfl (lv_at hl 1 rfl) ?_
            refine lv_iconst (v := 1) hx hb dX11_ill_42 (by decide) ?_
            refine lv_iload_n hx hb dX11_ill_43 rfl (lv_at hl 2 rfl) ?_
            refine lv_ishl hx hb dX11_ill_44 ?_
            refine lv_ior hx hb dX11_ill_45 ?_
            refine lv_topi (fun x13 ex13 => ?_)
            replace hf := st_lt hf ex13
            refine lv_istore_n (lv' := [(1, .int x13), (0, .ref (X.1 0)), (2, .int x2)]) hx hb dX11_ill_46 rfl hl (by decide) rfl (fun ls hl => ?_)
            subst hf
            exact hJ ls H locs hH (lv_sub hl [1, 0, 2] rfl)) _ hlp
    exact hG ls H locs hH (lv_sub hl [2, 1, 0] rfl)
  · replace hf := (if_pos hc).symm.trans hf
    refine lv_iconst (v := (-1)) hx hb dX11_ill_10 (by decide) ?_
    replace hf := Option.some.inj hf
    obtain ⟨rfl, rfl⟩ := qi2 hf
    exact pz_reti hE hrt hlk hH dX11_ill_11

theorem dX11_settle_0 : decode cX11_settle 0 = .ok (.aload_n 0, 1) := by decide +kernel
theorem dX11_settle_1 : decode cX11_settle 1 = .ok (.getfield 76, 3) := by decide +kernel
theorem dX11_settle_4 : decode cX11_settle 4 = .ok (.invokevirtual 173, 3) := by decide +kernel
theorem dX11_settle_7 : decode cX11_settle 7 = .ok (.ifCond .eq 13, 3) := by decide +kernel
theorem dX11_settle_10 : decode cX11_settle 10 = .ok (.aload_n 0, 1) := by decide +kernel
theorem dX11_settle_11 : decode cX11_settle 11 = .ok (.getfield 76, 3) := by decide +kernel
theorem dX11_settle_14 : decode cX11_settle 14 = .ok (.invokevirtual 402, 3) := by decide +kernel
theorem dX11_settle_17 : decode cX11_settle 17 = .ok (.goto 4, 3) := by decide +kernel
theorem dX11_settle_20 : decode cX11_settle 20 = .ok (.iconst (-1), 1) := by decide +kernel
theorem dX11_settle_21 : decode cX11_settle 21 = .ok (.ireturn, 1) := by decide +kernel
set_option maxRecDepth 100000 in
set_option maxHeartbeats 4000000 in
theorem tz_X11_settle (l : Launch) (X : qX) {M MR : qM} {r0 : Int32} (hf : jTc_settle M = some (r0, MR)) : q_Met l X yX11_settle cX11_settle 1 (some .int) (8) M [.ref (X.1 0)] (q_Qi X r0 MR) := by
  refine q_enter (by decide) (Nat.le_of_ble_eq_true rfl) ?_
  intro p e s m args below meth c hE hrt hlk H locs hH ls hl
  have hx := hE.1
  have hb := hE.2.1
  have hl : lv_has ls 1 [(0, .ref (X.1 0))] := hl
  unfold jTc_settle at hf
  refine lv_aload_n hx hb dX11_settle_0 rfl (lv_at hl 0 rfl) ?_
  refine pz_gS (a := 60) hE hH fr_X11_76 qk_0 (by decide) dX11_settle_1 ?_
  refine q_calli (q_runV (As := []) (rest := []) hE hH (tz_X5_began l X (hf := rfl)) kv_X11_173 qk_60 (by decide) rfl hl.1 rfl (Nat.le_of_ble_eq_true rfl) dX11_settle_4) hH (fun H locs hH => ?_)
  obtain ⟨w3, hr, hf⟩ := st_bd hf
  have hJ : qu2 w3 (fun x1 M2 => ∀ (ls : Array Slot) (H : Heap) (locs : List Loc), q_H X M2 s H locs → lv_has ls 1 [] → W p l e (q_rm (8)) s m args below meth c H locs 0 0 (MQ below (q_Qi X r0 MR) args s 0 0 (q_A X)) (F0 m 21 ls [.int x1])) := by
    obtain ⟨x1, M2⟩ := w3
    replace hf := st_u2 hf
    intro ls H locs hH hl
    replace hf := Option.some.inj hf
    obtain ⟨rfl, rfl⟩ := qi2 hf
    exact pz_reti hE hrt hlk hH dX11_settle_21
  clear hf
  replace hf := hr
  refine lv_if_eq (tgt := 20) hx hb dX11_settle_7 (by decide) (fun hc => ?_) (fun hc => ?_)
  · replace hf := (if_pos hc).symm.trans hf
    refine lv_iconst (v := (-1)) hx hb dX11_settle_20 (by decide) ?_
    replace hf := Option.some.inj hf
    subst hf
    exact hJ ls H locs hH (lv_sub hl [] rfl)
  · replace hf := (if_neg hc).symm.trans hf
    refine lv_aload_n hx hb dX11_settle_10 rfl (lv_at hl 0 rfl) ?_
    refine pz_gS (a := 60) hE hH fr_X11_76 qk_0 (by decide) dX11_settle_11 ?_
    obtain ⟨w4, ew4, hf⟩ := st_bd hf
    obtain ⟨r5, M6⟩ := w4
    replace hf := st_u2 hf
    refine q_calli (q_runV (As := []) (rest := []) hE hH (tz_X5_takeTurns l X (hf := ew4)) kv_X11_402 qk_60 (by decide) rfl hl.1 rfl (Nat.le_of_ble_eq_true rfl) dX11_settle_14) hH (fun H locs hH => ?_)
    refine lv_goto (tgt := 21) hx hb dX11_settle_17 (by decide) ?_
    replace hf := Option.some.inj hf
    subst hf
    exact hJ ls H locs hH (lv_sub hl [] rfl)

theorem dX11_between_0 : decode cX11_between 0 = .ok (.iload_n 1, 1) := by decide +kernel
theorem dX11_between_1 : decode cX11_between 1 = .ok (.bipush 10, 2) := by decide +kernel
theorem dX11_between_3 : decode cX11_between 3 = .ok (.invokestatic 123, 3) := by decide +kernel
theorem dX11_between_6 : decode cX11_between 6 = .ok (.ifCond .ne 5, 3) := by decide +kernel
theorem dX11_between_9 : decode cX11_between 9 = .ok (.iconst 0, 1) := by decide +kernel
theorem dX11_between_10 : decode cX11_between 10 = .ok (.ireturn, 1) := by decide +kernel
theorem dX11_between_11 : decode cX11_between 11 = .ok (.aload_n 0, 1) := by decide +kernel
theorem dX11_between_12 : decode cX11_between 12 = .ok (.iload_n 1, 1) := by decide +kernel
theorem dX11_between_13 : decode cX11_between 13 = .ok (.putfield 87, 3) := by decide +kernel
theorem dX11_between_16 : decode cX11_between 16 = .ok (.iconst 1, 1) := by decide +kernel
theorem dX11_between_17 : decode cX11_between 17 = .ok (.ireturn, 1) := by decide +kernel
set_option maxRecDepth 100000 in
set_option maxHeartbeats 4000000 in
theorem tz_X11_between (l : Launch) (X : qX) {p0 : Int32} {M MR : qM} {r0 : Bool} (hf : jTc_between p0 M = (r0, MR)) : q_Met l X yX11_between cX11_between 2 (some .boolean) (2) M [.ref (X.1 0), .int p0] (q_Qi X (b2i r0) MR) := by
  refine q_enter (by decide) (Nat.le_of_ble_eq_true rfl) ?_
  intro p e s m args below meth c hE hrt hlk H locs hH ls hl
  have hx := hE.1
  have hb := hE.2.1
  have hl : lv_has ls 2 [(0, .ref (X.1 0)), (1, .int p0)] := hl
  unfold jTc_between at hf
  refine lv_iload_n hx hb dX11_between_0 rfl (lv_at hl 1 rfl) ?_
  refine lv_bipush (v := 10) hx hb dX11_between_1 (by decide) ?_
  refine q_calli (q_runS (As := [.int p0, .int 10]) (rest := []) hE hH (tz_X11_isOf l X (M := M) (hf := rfl)) ks_X11_123 (by decide) rfl hl.1 rfl (Nat.le_of_ble_eq_true rfl) dX11_between_3) hH (fun H locs hH => ?_)
  refine lv_if_ne (tgt := 11) hx hb dX11_between_6 (by decide) (fun hc => ?_) (fun hc => ?_)
  · replace hf := (if_neg hc).symm.trans hf
    refine lv_aload_n hx hb dX11_between_11 rfl (lv_at hl 0 rfl) ?_
    refine lv_iload_n hx hb dX11_between_12 rfl (lv_at hl 1 rfl) ?_
    obtain ⟨M1, eM1, hf⟩ := st_lty hf
    refine pz_pI hE hH fw_X11_87 qk_0  eM1 dX11_between_13 (fun H locs hH => ?_)
    refine lv_iconst (v := 1) hx hb dX11_between_16 (by decide) ?_
    obtain ⟨rfl, rfl⟩ := qi2 hf
    exact pz_retz hE hrt hlk hH rfl dX11_between_17
  · replace hf := (if_pos hc).symm.trans hf
    refine lv_iconst (v := 0) hx hb dX11_between_9 (by decide) ?_
    obtain ⟨rfl, rfl⟩ := qi2 hf
    exact pz_retz hE hrt hlk hH rfl dX11_between_10

theorem dX11_round_0 : decode cX11_round 0 = .ok (.aload_n 0, 1) := by decide +kernel
theorem dX11_round_1 : decode cX11_round 1 = .ok (.iload_n 1, 1) := by decide +kernel
theorem dX11_round_2 : decode cX11_round 2 = .ok (.invokevirtual 387, 3) := by decide +kernel
theorem dX11_round_5 : decode cX11_round 5 = .ok (.ifCond .eq 11, 3) := by decide +kernel
theorem dX11_round_8 : decode cX11_round 8 = .ok (.iload_n 2, 1) := by decide +kernel
theorem dX11_round_9 : decode cX11_round 9 = .ok (.iconst 3, 1) := by decide +kernel
theorem dX11_round_10 : decode cX11_round 10 = .ok (.invokestatic 123, 3) := by decide +kernel
theorem dX11_round_13 : decode cX11_round 13 = .ok (.ifCond .ne 6, 3) := by decide +kernel
theorem dX11_round_16 : decode cX11_round 16 = .ok (.ldc 175, 2) := by decide +kernel
theorem dX11_round_18 : decode cX11_round 18 = .ok (.ireturn, 1) := by decide +kernel
theorem dX11_round_19 : decode cX11_round 19 = .ok (.aload_n 0, 1) := by decide +kernel
theorem dX11_round_20 : decode cX11_round 20 = .ok (.getfield 83, 3) := by decide +kernel
theorem dX11_round_23 : decode cX11_round 23 = .ok (.aload_n 0, 1) := by decide +kernel
theorem dX11_round_24 : decode cX11_round 24 = .ok (.getfield 76, 3) := by decide +kernel
theorem dX11_round_27 : decode cX11_round 27 = .ok (.aload_n 0, 1) := by decide +kernel
theorem dX11_round_28 : decode cX11_round 28 = .ok (.getfield 87, 3) := by decide +kernel
theorem dX11_round_31 : decode cX11_round 31 = .ok (.invokevirtual 405, 3) := by decide +kernel
theorem dX11_round_34 : decode cX11_round 34 = .ok (.iload_n 2, 1) := by decide +kernel
theorem dX11_round_35 : decode cX11_round 35 = .ok (.ifCond .ne 15, 3) := by decide +kernel
theorem dX11_round_38 : decode cX11_round 38 = .ok (.aload_n 0, 1) := by decide +kernel
theorem dX11_round_39 : decode cX11_round 39 = .ok (.getfield 83, 3) := by decide +kernel
theorem dX11_round_42 : decode cX11_round 42 = .ok (.getfield 409, 3) := by decide +kernel
theorem dX11_round_45 : decode cX11_round 45 = .ok (.iload_n 1, 1) := by decide +kernel
theorem dX11_round_46 : decode cX11_round 46 = .ok (.iaload, 1) := by decide +kernel
theorem dX11_round_47 : decode cX11_round 47 = .ok (.goto 29, 3) := by decide +kernel
theorem dX11_round_50 : decode cX11_round 50 = .ok (.iload_n 2, 1) := by decide +kernel
theorem dX11_round_51 : decode cX11_round 51 = .ok (.iconst 1, 1) := by decide +kernel
theorem dX11_round_52 : decode cX11_round 52 = .ok (.if_icmp .ne 15, 3) := by decide +kernel
theorem dX11_round_55 : decode cX11_round 55 = .ok (.aload_n 0, 1) := by decide +kernel
theorem dX11_round_56 : decode cX11_round 56 = .ok (.getfield 83, 3) := by decide +kernel
theorem dX11_round_59 : decode cX11_round 59 = .ok (.getfield 412, 3) := by decide +kernel
theorem dX11_round_62 : decode cX11_round 62 = .ok (.iload_n 1, 1) := by decide +kernel
theorem dX11_round_63 : decode cX11_round 63 = .ok (.iaload, 1) := by decide +kernel
theorem dX11_round_64 : decode cX11_round 64 = .ok (.goto 12, 3) := by decide +kernel
theorem dX11_round_67 : decode cX11_round 67 = .ok (.aload_n 0, 1) := by decide +kernel
theorem dX11_round_68 : decode cX11_round 68 = .ok (.getfield 83, 3) := by decide +kernel
theorem dX11_round_71 : decode cX11_round 71 = .ok (.getfield 414, 3) := by decide +kernel
theorem dX11_round_74 : decode cX11_round 74 = .ok (.iload_n 1, 1) := by decide +kernel
theorem dX11_round_75 : decode cX11_round 75 = .ok (.iaload, 1) := by decide +kernel
theorem dX11_round_76 : decode cX11_round 76 = .ok (.ireturn, 1) := by decide +kernel
set_option maxRecDepth 100000 in
set_option maxHeartbeats 4000000 in
theorem tz_X11_round (l : Launch) (X : qX) {p0 : Int32} {p1 : Int32} {M MR : qM} {r0 : Int32} (hf : jTc_round p0 p1 M = some (r0, MR)) : q_Met l X yX11_round cX11_round 3 (some .int) (4) M [.ref (X.1 0), .int p0, .int p1] (q_Qi X r0 MR) := by
  refine q_enter (by decide) (Nat.le_of_ble_eq_true rfl) ?_
  intro p e s m args below meth c hE hrt hlk H locs hH ls hl
  have hx := hE.1
  have hb := hE.2.1
  have hl : lv_has ls 3 [(0, .ref (X.1 0)), (1, .int p0), (2, .int p1)] := hl
  unfold jTc_round at hf
  refine lv_aload_n hx hb dX11_round_0 rfl (lv_at hl 0 rfl) ?_
  refine lv_iload_n hx hb dX11_round_1 rfl (lv_at hl 1 rfl) ?_
  obtain ⟨r1, er1, hf⟩ := st_bd hf
  refine q_calli (q_runV (As := [.int p0]) (rest := []) hE hH (tz_X11_isTold l X (hf := er1)) kv_X11_387 qk_0 (by decide) rfl hl.1 rfl (Nat.le_of_ble_eq_true rfl) dX11_round_2) hH (fun H locs hH => ?_)
  refine lv_if_eq (tgt := 16) hx hb dX11_round_5 (by decide) (fun hc => ?_) (fun hc => ?_)
  · replace hf := (if_pos hc).symm.trans hf
    refine pz_ldc (v := (-1000000)) hE (q_in _ 768 (by decide +kernel) rfl) dX11_round_16 ?_
    replace hf := Option.some.inj hf
    obtain ⟨rfl, rfl⟩ := qi2 hf
    exact pz_reti hE hrt hlk hH dX11_round_18
  · replace hf := (if_neg hc).symm.trans hf
    refine lv_iload_n hx hb dX11_round_8 rfl (lv_at hl 2 rfl) ?_
    refine lv_iconst (v := 3) hx hb dX11_round_9 (by decide) ?_
    refine q_calli (q_runS (As := [.int p1, .int 3]) (rest := []) hE hH (tz_X11_isOf l X (M := M) (hf := rfl)) ks_X11_123 (by decide) rfl hl.1 rfl (Nat.le_of_ble_eq_true rfl) dX11_round_10) hH (fun H locs hH => ?_)
    refine lv_if_ne (tgt := 19) hx hb dX11_round_13 (by decide) (fun hc => ?_) (fun hc => ?_)
    · replace hf := (if_neg hc).symm.trans hf
      refine lv_aload_n hx hb dX11_round_19 rfl (lv_at hl 0 rfl) ?_
      refine pz_gS (a := 65) hE hH fr_X11_83 qk_0 (by decide) dX11_round_20 ?_
      refine lv_aload_n hx hb dX11_round_23 rfl (lv_at hl 0 rfl) ?_
      refine pz_gS (a := 60) hE hH fr_X11_76 qk_0 (by decide) dX11_round_24 ?_
      refine lv_aload_n hx hb dX11_round_27 rfl (lv_at hl 0 rfl) ?_
      refine pz_gI hE hH fr_X11_87 qk_0 dX11_round_28 ?_
      obtain ⟨M2, eM2, hf⟩ := st_bd hf
      refine q_callv (q_runV (As := [.ref (X.1 60), .int (M.1 0 12)]) (rest := []) hE hH (tz_X6_walk l X (hf := eM2)) kv_X11_405 qk_65 (by decide) rfl hl.1 rfl (Nat.le_of_ble_eq_true rfl) dX11_round_31) hH (fun H locs hH => ?_)
      refine lv_iload_n hx hb dX11_round_34 rfl (lv_at hl 2 rfl) ?_
      obtain ⟨x3, hr, hf⟩ := st_bd hf
      have hJ : ∀ (ls : Array Slot) (H : Heap) (locs : List Loc), q_H X M2 s H locs → lv_has ls 3 [] → W p l e (q_rm (4)) s m args below meth c H locs 0 0 (MQ below (q_Qi X r0 MR) args s 0 0 (q_A X)) (F0 m 76 ls [.int x3]) := by
        intro ls H locs hH hl
        replace hf := Option.some.inj hf
        obtain ⟨rfl, rfl⟩ := qi2 hf
        exact pz_reti hE hrt hlk hH dX11_round_76
      clear hf
      replace hf := hr
      refine lv_if_ne (tgt := 50) hx hb dX11_round_35 (by decide) (fun hc => ?_) (fun hc => ?_)
      · replace hf := (if_neg hc).symm.trans hf
        refine lv_iload_n hx hb dX11_round_50 rfl (lv_at hl 2 rfl) ?_
        refine lv_iconst (v := 1) hx hb dX11_round_51 (by decide) ?_
        refine lv_icmp_ne (tgt := 67) hx hb dX11_round_52 (by decide) (fun hc => ?_) (fun hc => ?_)
        · replace hf := (if_neg hc).symm.trans hf
          refine lv_aload_n hx hb dX11_round_67 rfl (lv_at hl 0 rfl) ?_
          refine pz_gS (a := 65) hE hH fr_X11_83 qk_0 (by decide) dX11_round_68 ?_
          refine pz_gS (a := 68) hE hH fr_X11_414 qk_65 (by decide) dX11_round_71 ?_
          refine lv_iload_n hx hb dX11_round_74 rfl (lv_at hl 1 rfl) ?_
          obtain ⟨v4, ev4, hf⟩ := st_bd hf
          refine pz_iald hE hH qk_68 ev4 dX11_round_75 ?_
          replace hf := Option.some.inj hf
          subst hf
          exact hJ ls H locs hH (lv_sub hl [] rfl)
        · replace hf := (if_pos hc).symm.trans hf
          refine lv_aload_n hx hb dX11_round_55 rfl (lv_at hl 0 rfl) ?_
          refine pz_gS (a := 65) hE hH fr_X11_83 qk_0 (by decide) dX11_round_56 ?_
          refine pz_gS (a := 67) hE hH fr_X11_412 qk_65 (by decide) dX11_round_59 ?_
          refine lv_iload_n hx hb dX11_round_62 rfl (lv_at hl 1 rfl) ?_
          obtain ⟨v5, ev5, hf⟩ := st_bd hf
          refine pz_iald hE hH qk_67 ev5 dX11_round_63 ?_
          refine lv_goto (tgt := 76) hx hb dX11_round_64 (by decide) ?_
          replace hf := Option.some.inj hf
          subst hf
          exact hJ ls H locs hH (lv_sub hl [] rfl)
      · replace hf := (if_pos hc).symm.trans hf
        refine lv_aload_n hx hb dX11_round_38 rfl (lv_at hl 0 rfl) ?_
        refine pz_gS (a := 65) hE hH fr_X11_83 qk_0 (by decide) dX11_round_39 ?_
        refine pz_gS (a := 66) hE hH fr_X11_409 qk_65 (by decide) dX11_round_42 ?_
        refine lv_iload_n hx hb dX11_round_45 rfl (lv_at hl 1 rfl) ?_
        obtain ⟨v6, ev6, hf⟩ := st_bd hf
        refine pz_iald hE hH qk_66 ev6 dX11_round_46 ?_
        refine lv_goto (tgt := 76) hx hb dX11_round_47 (by decide) ?_
        replace hf := Option.some.inj hf
        subst hf
        exact hJ ls H locs hH (lv_sub hl [] rfl)
    · replace hf := (if_pos hc).symm.trans hf
      refine pz_ldc (v := (-1000000)) hE (q_in _ 768 (by decide +kernel) rfl) dX11_round_16 ?_
      replace hf := Option.some.inj hf
      obtain ⟨rfl, rfl⟩ := qi2 hf
      exact pz_reti hE hrt hlk hH dX11_round_18

theorem dX11_swap_0 : decode cX11_swap 0 = .ok (.aload_n 0, 1) := by decide +kernel
theorem dX11_swap_1 : decode cX11_swap 1 = .ok (.iload_n 1, 1) := by decide +kernel
theorem dX11_swap_2 : decode cX11_swap 2 = .ok (.invokevirtual 387, 3) := by decide +kernel
theorem dX11_swap_5 : decode cX11_swap 5 = .ok (.ifCond .eq 16, 3) := by decide +kernel
theorem dX11_swap_8 : decode cX11_swap 8 = .ok (.aload_n 0, 1) := by decide +kernel
theorem dX11_swap_9 : decode cX11_swap 9 = .ok (.iload_n 2, 1) := by decide +kernel
theorem dX11_swap_10 : decode cX11_swap 10 = .ok (.invokevirtual 387, 3) := by decide +kernel
theorem dX11_swap_13 : decode cX11_swap 13 = .ok (.ifCond .eq 8, 3) := by decide +kernel
theorem dX11_swap_16 : decode cX11_swap 16 = .ok (.iload_n 1, 1) := by decide +kernel
theorem dX11_swap_17 : decode cX11_swap 17 = .ok (.iload_n 2, 1) := by decide +kernel
theorem dX11_swap_18 : decode cX11_swap 18 = .ok (.if_icmp .ne 6, 3) := by decide +kernel
theorem dX11_swap_21 : decode cX11_swap 21 = .ok (.ldc 175, 2) := by decide +kernel
theorem dX11_swap_23 : decode cX11_swap 23 = .ok (.ireturn, 1) := by decide +kernel
theorem dX11_swap_24 : decode cX11_swap 24 = .ok (.aload_n 0, 1) := by decide +kernel
theorem dX11_swap_25 : decode cX11_swap 25 = .ok (.getfield 76, 3) := by decide +kernel
theorem dX11_swap_28 : decode cX11_swap 28 = .ok (.iload_n 1, 1) := by decide +kernel
theorem dX11_swap_29 : decode cX11_swap 29 = .ok (.iload_n 2, 1) := by decide +kernel
theorem dX11_swap_30 : decode cX11_swap 30 = .ok (.invokevirtual 417, 3) := by decide +kernel
theorem dX11_swap_33 : decode cX11_swap 33 = .ok (.ireturn, 1) := by decide +kernel
set_option maxRecDepth 100000 in
set_option maxHeartbeats 4000000 in
theorem tz_X11_swap (l : Launch) (X : qX) {p0 : Int32} {p1 : Int32} {M MR : qM} {r0 : Int32} (hf : jTc_swap p0 p1 M = some (r0, MR)) : q_Met l X yX11_swap cX11_swap 3 (some .int) (6) M [.ref (X.1 0), .int p0, .int p1] (q_Qi X r0 MR) := by
  refine q_enter (by decide) (Nat.le_of_ble_eq_true rfl) ?_
  intro p e s m args below meth c hE hrt hlk H locs hH ls hl
  have hx := hE.1
  have hb := hE.2.1
  have hl : lv_has ls 3 [(0, .ref (X.1 0)), (1, .int p0), (2, .int p1)] := hl
  unfold jTc_swap at hf
  refine lv_aload_n hx hb dX11_swap_0 rfl (lv_at hl 0 rfl) ?_
  refine lv_iload_n hx hb dX11_swap_1 rfl (lv_at hl 1 rfl) ?_
  obtain ⟨r1, er1, hf⟩ := st_bd hf
  refine q_calli (q_runV (As := [.int p0]) (rest := []) hE hH (tz_X11_isTold l X (hf := er1)) kv_X11_387 qk_0 (by decide) rfl hl.1 rfl (Nat.le_of_ble_eq_true rfl) dX11_swap_2) hH (fun H locs hH => ?_)
  refine lv_if_eq (tgt := 21) hx hb dX11_swap_5 (by decide) (fun hc => ?_) (fun hc => ?_)
  · replace hf := (if_pos hc).symm.trans hf
    refine pz_ldc (v := (-1000000)) hE (q_in _ 768 (by decide +kernel) rfl) dX11_swap_21 ?_
    replace hf := Option.some.inj hf
    obtain ⟨rfl, rfl⟩ := qi2 hf
    exact pz_reti hE hrt hlk hH dX11_swap_23
  · replace hf := (if_neg hc).symm.trans hf
    refine lv_aload_n hx hb dX11_swap_8 rfl (lv_at hl 0 rfl) ?_
    refine lv_iload_n hx hb dX11_swap_9 rfl (lv_at hl 2 rfl) ?_
    obtain ⟨r2, er2, hf⟩ := st_bd hf
    refine q_calli (q_runV (As := [.int p1]) (rest := []) hE hH (tz_X11_isTold l X (hf := er2)) kv_X11_387 qk_0 (by decide) rfl hl.1 rfl (Nat.le_of_ble_eq_true rfl) dX11_swap_10) hH (fun H locs hH => ?_)
    refine lv_if_eq (tgt := 21) hx hb dX11_swap_13 (by decide) (fun hc => ?_) (fun hc => ?_)
    · replace hf := (if_pos hc).symm.trans hf
      refine pz_ldc (v := (-1000000)) hE (q_in _ 768 (by decide +kernel) rfl) dX11_swap_21 ?_
      replace hf := Option.some.inj hf
      obtain ⟨rfl, rfl⟩ := qi2 hf
      exact pz_reti hE hrt hlk hH dX11_swap_23
    · replace hf := (if_neg hc).symm.trans hf
      refine lv_iload_n hx hb dX11_swap_16 rfl (lv_at hl 1 rfl) ?_
      refine lv_iload_n hx hb dX11_swap_17 rfl (lv_at hl 2 rfl) ?_
      refine lv_icmp_ne (tgt := 24) hx hb dX11_swap_18 (by decide) (fun hc => ?_) (fun hc => ?_)
      · replace hf := (if_neg hc).symm.trans hf
        refine lv_aload_n hx hb dX11_swap_24 rfl (lv_at hl 0 rfl) ?_
        refine pz_gS (a := 60) hE hH fr_X11_76 qk_0 (by decide) dX11_swap_25 ?_
        refine lv_iload_n hx hb dX11_swap_28 rfl (lv_at hl 1 rfl) ?_
        refine lv_iload_n hx hb dX11_swap_29 rfl (lv_at hl 2 rfl) ?_
        obtain ⟨w3, ew3, hf⟩ := st_bd hf
        obtain ⟨r4, M5⟩ := w3
        replace hf := st_u2 hf
        refine q_calli (q_runV (As := [.int p0, .int p1]) (rest := []) hE hH (tz_X5_gainBySwap l X (hf := ew3)) kv_X11_417 qk_60 (by decide) rfl hl.1 rfl (Nat.le_of_ble_eq_true rfl) dX11_swap_30) hH (fun H locs hH => ?_)
        replace hf := Option.some.inj hf
        obtain ⟨rfl, rfl⟩ := qi2 hf
        exact pz_reti hE hrt hlk hH dX11_swap_33
      · replace hf := (if_pos hc).symm.trans hf
        refine pz_ldc (v := (-1000000)) hE (q_in _ 768 (by decide +kernel) rfl) dX11_swap_21 ?_
        replace hf := Option.some.inj hf
        obtain ⟨rfl, rfl⟩ := qi2 hf
        exact pz_reti hE hrt hlk hH dX11_swap_23

theorem dX11_crowd_0 : decode cX11_crowd 0 = .ok (.aload_n 0, 1) := by decide +kernel
theorem dX11_crowd_1 : decode cX11_crowd 1 = .ok (.getfield 76, 3) := by decide +kernel
theorem dX11_crowd_4 : decode cX11_crowd 4 = .ok (.invokevirtual 173, 3) := by decide +kernel
theorem dX11_crowd_7 : decode cX11_crowd 7 = .ok (.ifCond .eq 13, 3) := by decide +kernel
theorem dX11_crowd_10 : decode cX11_crowd 10 = .ok (.aload_n 0, 1) := by decide +kernel
theorem dX11_crowd_11 : decode cX11_crowd 11 = .ok (.getfield 76, 3) := by decide +kernel
theorem dX11_crowd_14 : decode cX11_crowd 14 = .ok (.invokevirtual 420, 3) := by decide +kernel
theorem dX11_crowd_17 : decode cX11_crowd 17 = .ok (.goto 4, 3) := by decide +kernel
theorem dX11_crowd_20 : decode cX11_crowd 20 = .ok (.iconst (-1), 1) := by decide +kernel
theorem dX11_crowd_21 : decode cX11_crowd 21 = .ok (.ireturn, 1) := by decide +kernel
set_option maxRecDepth 100000 in
set_option maxHeartbeats 4000000 in
theorem tz_X11_crowd (l : Launch) (X : qX) {M MR : qM} {r0 : Int32} (hf : jTc_crowd M = some (r0, MR)) : q_Met l X yX11_crowd cX11_crowd 1 (some .int) (4) M [.ref (X.1 0)] (q_Qi X r0 MR) := by
  refine q_enter (by decide) (Nat.le_of_ble_eq_true rfl) ?_
  intro p e s m args below meth c hE hrt hlk H locs hH ls hl
  have hx := hE.1
  have hb := hE.2.1
  have hl : lv_has ls 1 [(0, .ref (X.1 0))] := hl
  unfold jTc_crowd at hf
  refine lv_aload_n hx hb dX11_crowd_0 rfl (lv_at hl 0 rfl) ?_
  refine pz_gS (a := 60) hE hH fr_X11_76 qk_0 (by decide) dX11_crowd_1 ?_
  refine q_calli (q_runV (As := []) (rest := []) hE hH (tz_X5_began l X (hf := rfl)) kv_X11_173 qk_60 (by decide) rfl hl.1 rfl (Nat.le_of_ble_eq_true rfl) dX11_crowd_4) hH (fun H locs hH => ?_)
  obtain ⟨w3, hr, hf⟩ := st_bd hf
  have hJ : qu2 w3 (fun x1 M2 => ∀ (ls : Array Slot) (H : Heap) (locs : List Loc), q_H X M2 s H locs → lv_has ls 1 [] → W p l e (q_rm (4)) s m args below meth c H locs 0 0 (MQ below (q_Qi X r0 MR) args s 0 0 (q_A X)) (F0 m 21 ls [.int x1])) := by
    obtain ⟨x1, M2⟩ := w3
    replace hf := st_u2 hf
    intro ls H locs hH hl
    replace hf := Option.some.inj hf
    obtain ⟨rfl, rfl⟩ := qi2 hf
    exact pz_reti hE hrt hlk hH dX11_crowd_21
  clear hf
  replace hf := hr
  refine lv_if_eq (tgt := 20) hx hb dX11_crowd_7 (by decide) (fun hc => ?_) (fun hc => ?_)
  · replace hf := (if_pos hc).symm.trans hf
    refine lv_iconst (v := (-1)) hx hb dX11_crowd_20 (by decide) ?_
    replace hf := Option.some.inj hf
    subst hf
    exact hJ ls H locs hH (lv_sub hl [] rfl)
  · replace hf := (if_neg hc).symm.trans hf
    refine lv_aload_n hx hb dX11_crowd_10 rfl (lv_at hl 0 rfl) ?_
    refine pz_gS (a := 60) hE hH fr_X11_76 qk_0 (by decide) dX11_crowd_11 ?_
    obtain ⟨w4, ew4, hf⟩ := st_bd hf
    obtain ⟨r5, M6⟩ := w4
    replace hf := st_u2 hf
    refine q_calli (q_runV (As := []) (rest := []) hE hH (tz_X5_fullest l X (hf := ew4)) kv_X11_420 qk_60 (by decide) rfl hl.1 rfl (Nat.le_of_ble_eq_true rfl) dX11_crowd_14) hH (fun H locs hH => ?_)
    refine lv_goto (tgt := 21) hx hb dX11_crowd_17 (by decide) ?_
    replace hf := Option.some.inj hf
    subst hf
    exact hJ ls H locs hH (lv_sub hl [] rfl)

theorem dX11_free_0 : decode cX11_free 0 = .ok (.aload_n 0, 1) := by decide +kernel
theorem dX11_free_1 : decode cX11_free 1 = .ok (.iload_n 1, 1) := by decide +kernel
theorem dX11_free_2 : decode cX11_free 2 = .ok (.invokevirtual 387, 3) := by decide +kernel
theorem dX11_free_5 : decode cX11_free 5 = .ok (.ifCond .eq 14, 3) := by decide +kernel
theorem dX11_free_8 : decode cX11_free 8 = .ok (.aload_n 0, 1) := by decide +kernel
theorem dX11_free_9 : decode cX11_free 9 = .ok (.getfield 76, 3) := by decide +kernel
theorem dX11_free_12 : decode cX11_free 12 = .ok (.iload_n 1, 1) := by decide +kernel
theorem dX11_free_13 : decode cX11_free 13 = .ok (.invokevirtual 423, 3) := by decide +kernel
theorem dX11_free_16 : decode cX11_free 16 = .ok (.goto 4, 3) := by decide +kernel
theorem dX11_free_19 : decode cX11_free 19 = .ok (.iconst (-1), 1) := by decide +kernel
theorem dX11_free_20 : decode cX11_free 20 = .ok (.ireturn, 1) := by decide +kernel
set_option maxRecDepth 100000 in
set_option maxHeartbeats 4000000 in
theorem tz_X11_free (l : Launch) (X : qX) {p0 : Int32} {M MR : qM} {r0 : Int32} (hf : jTc_free p0 M = some (r0, MR)) : q_Met l X yX11_free cX11_free 2 (some .int) (4) M [.ref (X.1 0), .int p0] (q_Qi X r0 MR) := by
  refine q_enter (by decide) (Nat.le_of_ble_eq_true rfl) ?_
  intro p e s m args below meth c hE hrt hlk H locs hH ls hl
  have hx := hE.1
  have hb := hE.2.1
  have hl : lv_has ls 2 [(0, .ref (X.1 0)), (1, .int p0)] := hl
  unfold jTc_free at hf
  refine lv_aload_n hx hb dX11_free_0 rfl (lv_at hl 0 rfl) ?_
  refine lv_iload_n hx hb dX11_free_1 rfl (lv_at hl 1 rfl) ?_
  obtain ⟨r1, er1, hf⟩ := st_bd hf
  refine q_calli (q_runV (As := [.int p0]) (rest := []) hE hH (tz_X11_isTold l X (hf := er1)) kv_X11_387 qk_0 (by decide) rfl hl.1 rfl (Nat.le_of_ble_eq_true rfl) dX11_free_2) hH (fun H locs hH => ?_)
  obtain ⟨w4, hr, hf⟩ := st_bd hf
  have hJ : qu2 w4 (fun x2 M3 => ∀ (ls : Array Slot) (H : Heap) (locs : List Loc), q_H X M3 s H locs → lv_has ls 2 [] → W p l e (q_rm (4)) s m args below meth c H locs 0 0 (MQ below (q_Qi X r0 MR) args s 0 0 (q_A X)) (F0 m 20 ls [.int x2])) := by
    obtain ⟨x2, M3⟩ := w4
    replace hf := st_u2 hf
    intro ls H locs hH hl
    replace hf := Option.some.inj hf
    obtain ⟨rfl, rfl⟩ := qi2 hf
    exact pz_reti hE hrt hlk hH dX11_free_20
  clear hf
  replace hf := hr
  refine lv_if_eq (tgt := 19) hx hb dX11_free_5 (by decide) (fun hc => ?_) (fun hc => ?_)
  · replace hf := (if_pos hc).symm.trans hf
    refine lv_iconst (v := (-1)) hx hb dX11_free_19 (by decide) ?_
    replace hf := Option.some.inj hf
    subst hf
    exact hJ ls H locs hH (lv_sub hl [] rfl)
  · replace hf := (if_neg hc).symm.trans hf
    refine lv_aload_n hx hb dX11_free_8 rfl (lv_at hl 0 rfl) ?_
    refine pz_gS (a := 60) hE hH fr_X11_76 qk_0 (by decide) dX11_free_9 ?_
    refine lv_iload_n hx hb dX11_free_12 rfl (lv_at hl 1 rfl) ?_
    obtain ⟨w5, ew5, hf⟩ := st_bd hf
    obtain ⟨r6, M7⟩ := w5
    replace hf := st_u2 hf
    refine q_calli (q_runV (As := [.int p0]) (rest := []) hE hH (tz_X5_firstWithPlace l X (hf := ew5)) kv_X11_423 qk_60 (by decide) rfl hl.1 rfl (Nat.le_of_ble_eq_true rfl) dX11_free_13) hH (fun H locs hH => ?_)
    refine lv_goto (tgt := 20) hx hb dX11_free_16 (by decide) ?_
    replace hf := Option.some.inj hf
    subst hf
    exact hJ ls H locs hH (lv_sub hl [] rfl)

