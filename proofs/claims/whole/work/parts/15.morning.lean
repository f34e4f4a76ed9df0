theorem dX1_began_0 : decode cX1_began 0 = .ok (.aload_n 0, 1) := by decide +kernel
theorem dX1_began_1 : decode cX1_began 1 = .ok (.getfield 9, 3) := by decide +kernel
theorem dX1_began_4 : decode cX1_began 4 = .ok (.ifnull 7, 3) := by decide +kernel
theorem dX1_began_7 : decode cX1_began 7 = .ok (.iconst 1, 1) := by decide +kernel
theorem dX1_began_8 : decode cX1_began 8 = .ok (.goto 4, 3) := by decide +kernel
theorem dX1_began_11 : decode cX1_began 11 = .ok (.iconst 0, 1) := by decide +kernel
theorem dX1_began_12 : decode cX1_began 12 = .ok (.ireturn, 1) := by decide +kernel
set_option maxRecDepth 100000 in
set_option maxHeartbeats 4000000 in
theorem tz_X1_began (l : Launch) (X : qX) {k : Nat} {M : qM} {r0 : Bool} (hk : q_mor k = true) (hf : jMo_began k M = r0) : q_Met l X yX1_began cX1_began 1 (some .boolean) (1) M [.ref (X.1 k)] (q_Qi X (b2i r0) M) := by
  refine q_enter (by decide) (Nat.le_of_ble_eq_true rfl) ?_
  intro p e s m args below meth c hE hrt hlk H locs hH ls hl
  have hx := hE.1
  have hb := hE.2.1
  have hl : lv_has ls 1 [(0, .ref (X.1 k))] := hl
  unfold jMo_began at hf
  refine lv_aload_n hx hb dX1_began_0 rfl (lv_at hl 0 rfl) ?_
  refine pz_gQ hE hH fr_X1_9 (q_mor_0 hk) dX1_began_1 ?_
  obtain ⟨z1, hr, hf⟩ := st_ltx hf
  have hJ : ∀ (ls : Array Slot) (H : Heap) (locs : List Loc), q_H X M s H locs → lv_has ls 1 [] → W p l e (q_rm (1)) s m args below meth c H locs 0 0 (MQ below (q_Qi X (b2i r0) M) args s 0 0 (q_A X)) (F0 m 12 ls [.int (b2i z1)]) := by
    intro ls H locs hH hl
    subst hf
    exact pz_retz hE hrt hlk hH rfl dX1_began_12
  clear hf
  replace hf := hr
  refine pz_ifnull (tgt := 11) hE dX1_began_4 (by decide) (fun hc => ?_) (fun hc => ?_)
  · replace hf := (if_pos hc).symm.trans hf
    refine lv_iconst (v := 0) hx hb dX1_began_11 (by decide) ?_
    subst hf
    exact hJ ls H locs hH (lv_sub hl [] rfl)
  · replace hf := (if_neg hc).symm.trans hf
    refine lv_iconst (v := 1) hx hb dX1_began_7 (by decide) ?_
    refine lv_goto (tgt := 12) hx hb dX1_began_8 (by decide) ?_
    subst hf
    exact hJ ls H locs hH (lv_sub hl [] rfl)

theorem dX1_beOf_0 : decode cX1_beOf 0 = .ok (.aload_n 0, 1) := by decide +kernel
theorem dX1_beOf_1 : decode cX1_beOf 1 = .ok (.aload_n 1, 1) := by decide +kernel
theorem dX1_beOf_2 : decode cX1_beOf 2 = .ok (.putfield 9, 3) := by decide +kernel
theorem dX1_beOf_5 : decode cX1_beOf 5 = .ok (.aload_n 0, 1) := by decide +kernel
theorem dX1_beOf_6 : decode cX1_beOf 6 = .ok (.iload_n 2, 1) := by decide +kernel
theorem dX1_beOf_7 : decode cX1_beOf 7 = .ok (.putfield 15, 3) := by decide +kernel
theorem dX1_beOf_10 : decode cX1_beOf 10 = .ok (.aload_n 0, 1) := by decide +kernel
theorem dX1_beOf_11 : decode cX1_beOf 11 = .ok (.iload_n 3, 1) := by decide +kernel
theorem dX1_beOf_12 : decode cX1_beOf 12 = .ok (.putfield 19, 3) := by decide +kernel
theorem dX1_beOf_15 : decode cX1_beOf 15 = .ok (.aload_n 0, 1) := by decide +kernel
theorem dX1_beOf_16 : decode cX1_beOf 16 = .ok (.aload_n 1, 1) := by decide +kernel
theorem dX1_beOf_17 : decode cX1_beOf 17 = .ok (.iload_n 2, 1) := by decide +kernel
theorem dX1_beOf_18 : decode cX1_beOf 18 = .ok (.iconst 0, 1) := by decide +kernel
theorem dX1_beOf_19 : decode cX1_beOf 19 = .ok (.invokevirtual 70, 3) := by decide +kernel
theorem dX1_beOf_22 : decode cX1_beOf 22 = .ok (.putfield 22, 3) := by decide +kernel
theorem dX1_beOf_25 : decode cX1_beOf 25 = .ok (.aload_n 0, 1) := by decide +kernel
theorem dX1_beOf_26 : decode cX1_beOf 26 = .ok (.aload_n 1, 1) := by decide +kernel
theorem dX1_beOf_27 : decode cX1_beOf 27 = .ok (.iload_n 2, 1) := by decide +kernel
theorem dX1_beOf_28 : decode cX1_beOf 28 = .ok (.iconst 1, 1) := by decide +kernel
theorem dX1_beOf_29 : decode cX1_beOf 29 = .ok (.invokevirtual 70, 3) := by decide +kernel
theorem dX1_beOf_32 : decode cX1_beOf 32 = .ok (.putfield 25, 3) := by decide +kernel
theorem dX1_beOf_35 : decode cX1_beOf 35 = .ok (.aload_n 0, 1) := by decide +kernel
theorem dX1_beOf_36 : decode cX1_beOf 36 = .ok (.iconst (-1), 1) := by decide +kernel
theorem dX1_beOf_37 : decode cX1_beOf 37 = .ok (.putfield 28, 3) := by decide +kernel
theorem dX1_beOf_40 : decode cX1_beOf 40 = .ok (.aload_n 0, 1) := by decide +kernel
theorem dX1_beOf_41 : decode cX1_beOf 41 = .ok (.iconst (-1), 1) := by decide +kernel
theorem dX1_beOf_42 : decode cX1_beOf 42 = .ok (.putfield 31, 3) := by decide +kernel
theorem dX1_beOf_45 : decode cX1_beOf 45 = .ok (.return_, 1) := by decide +kernel
set_option maxRecDepth 100000 in
set_option maxHeartbeats 4000000 in
theorem tz_X1_beOf (l : Launch) (X : qX) {k : Nat} {p0 : Nat} {p1 : Int32} {p2 : Int32} {M MR : qM} (hk : q_mor k = true) (hp0 : q_vil p0 = true) (hf : jMo_beOf k p0 p1 p2 M = some MR) : q_Met l X yX1_beOf cX1_beOf 4 none (2) M [.ref (X.1 k), .ref (X.1 p0), .int p1, .int p2] (q_Qv X MR) := by
  refine q_enter (by decide) (Nat.le_of_ble_eq_true rfl) ?_
  intro p e s m args below meth c hE hrt hlk H locs hH ls hl
  have hx := hE.1
  have hb := hE.2.1
  have hl : lv_has ls 4 [(0, .ref (X.1 k)), (1, .ref (X.1 p0)), (2, .int p1), (3, .int p2)] := hl
  unfold jMo_beOf at hf
  refine lv_aload_n hx hb dX1_beOf_0 rfl (lv_at hl 0 rfl) ?_
  refine lv_aload_n hx hb dX1_beOf_1 rfl (lv_at hl 1 rfl) ?_
  obtain ⟨M1, eM1, hf⟩ := st_lty hf
  refine pz_pR hE hH fw_X1_9 (q_mor_0 hk) (show q_ok 1 0 p0 = true from hp0) eM1 ⟨rfl, rfl⟩ dX1_beOf_2 (fun H locs hH => ?_)
  refine lv_aload_n hx hb dX1_beOf_5 rfl (lv_at hl 0 rfl) ?_
  refine lv_iload_n hx hb dX1_beOf_6 rfl (lv_at hl 2 rfl) ?_
  obtain ⟨M2, eM2, hf⟩ := st_lty hf
  refine pz_pI hE hH fw_X1_15 (q_mor_0 hk)  eM2 dX1_beOf_7 (fun H locs hH => ?_)
  refine lv_aload_n hx hb dX1_beOf_10 rfl (lv_at hl 0 rfl) ?_
  refine lv_iload_n hx hb dX1_beOf_11 rfl (lv_at hl 3 rfl) ?_
  obtain ⟨M3, eM3, hf⟩ := st_lty hf
  refine pz_pI hE hH fw_X1_19 (q_mor_0 hk)  eM3 dX1_beOf_12 (fun H locs hH => ?_)
  refine lv_aload_n hx hb dX1_beOf_15 rfl (lv_at hl 0 rfl) ?_
  refine lv_aload_n hx hb dX1_beOf_16 rfl (lv_at hl 1 rfl) ?_
  refine lv_iload_n hx hb dX1_beOf_17 rfl (lv_at hl 2 rfl) ?_
  refine lv_iconst (v := 0) hx hb dX1_beOf_18 (by decide) ?_
  obtain ⟨r4, er4, hf⟩ := st_bd hf
  refine q_calli (q_runV (As := [.int p1, .int 0]) (rest := [.ref (X.1 k)]) hE hH (tz_X7_ofThing l X hp0 (hf := er4)) kv_X1_70 (q_vil_0 hp0) (by decide) rfl hl.1 rfl (Nat.le_of_ble_eq_true rfl) dX1_beOf_19) hH (fun H locs hH => ?_)
  obtain ⟨M5, eM5, hf⟩ := st_lty hf
  refine pz_pI hE hH fw_X1_22 (q_mor_0 hk)  eM5 dX1_beOf_22 (fun H locs hH => ?_)
  refine lv_aload_n hx hb dX1_beOf_25 rfl (lv_at hl 0 rfl) ?_
  refine lv_aload_n hx hb dX1_beOf_26 rfl (lv_at hl 1 rfl) ?_
  refine lv_iload_n hx hb dX1_beOf_27 rfl (lv_at hl 2 rfl) ?_
  refine lv_iconst (v := 1) hx hb dX1_beOf_28 (by decide) ?_
  obtain ⟨r6, er6, hf⟩ := st_bd hf
  refine q_calli (q_runV (As := [.int p1, .int 1]) (rest := [.ref (X.1 k)]) hE hH (tz_X7_ofThing l X hp0 (hf := er6)) kv_X1_70 (q_vil_0 hp0) (by decide) rfl hl.1 rfl (Nat.le_of_ble_eq_true rfl) dX1_beOf_29) hH (fun H locs hH => ?_)
  obtain ⟨M7, eM7, hf⟩ := st_lty hf
  refine pz_pI hE hH fw_X1_25 (q_mor_0 hk)  eM7 dX1_beOf_32 (fun H locs hH => ?_)
  refine lv_aload_n hx hb dX1_beOf_35 rfl (lv_at hl 0 rfl) ?_
  refine lv_iconst (v := (-1)) hx hb dX1_beOf_36 (by decide) ?_
  obtain ⟨M8, eM8, hf⟩ := st_lty hf
  refine pz_pI hE hH fw_X1_28 (q_mor_0 hk)  eM8 dX1_beOf_37 (fun H locs hH => ?_)
  refine lv_aload_n hx hb dX1_beOf_40 rfl (lv_at hl 0 rfl) ?_
  refine lv_iconst (v := (-1)) hx hb dX1_beOf_41 (by decide) ?_
  obtain ⟨M9, eM9, hf⟩ := st_lty hf
  refine pz_pI hE hH fw_X1_31 (q_mor_0 hk)  eM9 dX1_beOf_42 (fun H locs hH => ?_)
  replace hf := Option.some.inj hf
  subst hf
  exact pz_retv hE hrt hlk hH dX1_beOf_45

theorem dX1_begin_0 : decode cX1_begin 0 = .ok (.aload_n 0, 1) := by decide +kernel
theorem dX1_begin_1 : decode cX1_begin 1 = .ok (.lload_n 1, 1) := by decide +kernel
theorem dX1_begin_2 : decode cX1_begin 2 = .ok (.putfield 34, 3) := by decide +kernel
theorem dX1_begin_5 : decode cX1_begin 5 = .ok (.aload_n 0, 1) := by decide +kernel
theorem dX1_begin_6 : decode cX1_begin 6 = .ok (.iconst 0, 1) := by decide +kernel
theorem dX1_begin_7 : decode cX1_begin 7 = .ok (.putfield 38, 3) := by decide +kernel
theorem dX1_begin_10 : decode cX1_begin 10 = .ok (.aload_n 0, 1) := by decide +kernel
theorem dX1_begin_11 : decode cX1_begin 11 = .ok (.iconst 0, 1) := by decide +kernel
theorem dX1_begin_12 : decode cX1_begin 12 = .ok (.putfield 41, 3) := by decide +kernel
theorem dX1_begin_15 : decode cX1_begin 15 = .ok (.aload_n 0, 1) := by decide +kernel
theorem dX1_begin_16 : decode cX1_begin 16 = .ok (.aload_n 0, 1) := by decide +kernel
theorem dX1_begin_17 : decode cX1_begin 17 = .ok (.getfield 9, 3) := by decide +kernel
theorem dX1_begin_20 : decode cX1_begin 20 = .ok (.getfield 76, 3) := by decide +kernel
theorem dX1_begin_23 : decode cX1_begin 23 = .ok (.putfield 44, 3) := by decide +kernel
theorem dX1_begin_26 : decode cX1_begin 26 = .ok (.aload_n 0, 1) := by decide +kernel
theorem dX1_begin_27 : decode cX1_begin 27 = .ok (.iconst 0, 1) := by decide +kernel
theorem dX1_begin_28 : decode cX1_begin 28 = .ok (.putfield 47, 3) := by decide +kernel
theorem dX1_begin_31 : decode cX1_begin 31 = .ok (.aload_n 0, 1) := by decide +kernel
theorem dX1_begin_32 : decode cX1_begin 32 = .ok (.iconst 0, 1) := by decide +kernel
theorem dX1_begin_33 : decode cX1_begin 33 = .ok (.putfield 50, 3) := by decide +kernel
theorem dX1_begin_36 : decode cX1_begin 36 = .ok (.aload_n 0, 1) := by decide +kernel
theorem dX1_begin_37 : decode cX1_begin 37 = .ok (.iconst (-1), 1) := by decide +kernel
theorem dX1_begin_38 : decode cX1_begin 38 = .ok (.putfield 54, 3) := by decide +kernel
theorem dX1_begin_41 : decode cX1_begin 41 = .ok (.aload_n 0, 1) := by decide +kernel
theorem dX1_begin_42 : decode cX1_begin 42 = .ok (.iconst (-1), 1) := by decide +kernel
theorem dX1_begin_43 : decode cX1_begin 43 = .ok (.putfield 57, 3) := by decide +kernel
theorem dX1_begin_46 : decode cX1_begin 46 = .ok (.aload_n 0, 1) := by decide +kernel
theorem dX1_begin_47 : decode cX1_begin 47 = .ok (.getfield 60, 3) := by decide +kernel
theorem dX1_begin_50 : decode cX1_begin 50 = .ok (.iconst (-1), 1) := by decide +kernel
theorem dX1_begin_51 : decode cX1_begin 51 = .ok (.invokestatic 79, 3) := by decide +kernel
theorem dX1_begin_54 : decode cX1_begin 54 = .ok (.aload_n 0, 1) := by decide +kernel
theorem dX1_begin_55 : decode cX1_begin 55 = .ok (.getfield 64, 3) := by decide +kernel
theorem dX1_begin_58 : decode cX1_begin 58 = .ok (.iconst (-1), 1) := by decide +kernel
theorem dX1_begin_59 : decode cX1_begin 59 = .ok (.invokestatic 79, 3) := by decide +kernel
theorem dX1_begin_62 : decode cX1_begin 62 = .ok (.iconst 0, 1) := by decide +kernel
theorem dX1_begin_63 : decode cX1_begin 63 = .ok (.istore_n 3, 1) := by decide +kernel
theorem dX1_begin_64 : decode cX1_begin 64 = .ok (.iload_n 3, 1) := by decide +kernel
theorem dX1_begin_65 : decode cX1_begin 65 = .ok (.aload_n 0, 1) := by decide +kernel
theorem dX1_begin_66 : decode cX1_begin 66 = .ok (.getfield 9, 3) := by decide +kernel
theorem dX1_begin_69 : decode cX1_begin 69 = .ok (.getfield 85, 3) := by decide +kernel
theorem dX1_begin_72 : decode cX1_begin 72 = .ok (.if_icmp .ge 24, 3) := by decide +kernel
theorem dX1_begin_75 : decode cX1_begin 75 = .ok (.aload_n 0, 1) := by decide +kernel
theorem dX1_begin_76 : decode cX1_begin 76 = .ok (.getfield 67, 3) := by decide +kernel
theorem dX1_begin_79 : decode cX1_begin 79 = .ok (.iload_n 3, 1) := by decide +kernel
theorem dX1_begin_80 : decode cX1_begin 80 = .ok (.aload_n 0, 1) := by decide +kernel
theorem dX1_begin_81 : decode cX1_begin 81 = .ok (.getfield 9, 3) := by decide +kernel
theorem dX1_begin_84 : decode cX1_begin 84 = .ok (.iload_n 3, 1) := by decide +kernel
theorem dX1_begin_85 : decode cX1_begin 85 = .ok (.iconst 0, 1) := by decide +kernel
theorem dX1_begin_86 : decode cX1_begin 86 = .ok (.invokevirtual 88, 3) := by decide +kernel
theorem dX1_begin_89 : decode cX1_begin 89 = .ok (.iastore, 1) := by decide +kernel
theorem dX1_begin_90 : decode cX1_begin 90 = .ok (.iinc 3 1, 3) := by decide +kernel
theorem dX1_begin_93 : decode cX1_begin 93 = .ok (.goto (-29), 3) := by decide +kernel
theorem dX1_begin_96 : decode cX1_begin 96 = .ok (.return_, 1) := by decide +kernel
set_option maxRecDepth 100000 in
set_option maxHeartbeats 4000000 in
theorem tz_X1_begin (l : Launch) (X : qX) {k : Nat} {p0 : Int64} {M MR : qM} (hk : q_mor k = true) (hf : jMo_begin k p0 M = some MR) : q_Met l X yX1_begin cX1_begin 4 none (2) M [.ref (X.1 k), .long p0] (q_Qv X MR) := by
  refine q_enter (by decide) (Nat.le_of_ble_eq_true rfl) ?_
  intro p e s m args below meth c hE hrt hlk H locs hH ls hl
  have hx := hE.1
  have hb := hE.2.1
  have hl : lv_has ls 4 [(0, .ref (X.1 k)), (1, .long p0)] := hl
  unfold jMo_begin at hf
  refine lv_aload_n hx hb dX1_begin_0 rfl (lv_at hl 0 rfl) ?_
  refine lv_lload_n hx hb dX1_begin_1 rfl (lv_at hl 1 rfl) ?_
  obtain ⟨M1, eM1, hf⟩ := st_lty hf
  refine pz_pJ hE hH fw_X1_34 (q_mor_0 hk)  eM1 dX1_begin_2 (fun H locs hH => ?_)
  refine lv_aload_n hx hb dX1_begin_5 rfl (lv_at hl 0 rfl) ?_
  refine lv_iconst (v := 0) hx hb dX1_begin_6 (by decide) ?_
  obtain ⟨M2, eM2, hf⟩ := st_lty hf
  refine pz_pI hE hH fw_X1_38 (q_mor_0 hk)  eM2 dX1_begin_7 (fun H locs hH => ?_)
  refine lv_aload_n hx hb dX1_begin_10 rfl (lv_at hl 0 rfl) ?_
  refine lv_iconst (v := 0) hx hb dX1_begin_11 (by decide) ?_
  obtain ⟨M3, eM3, hf⟩ := st_lty hf
  refine pz_pI hE hH fw_X1_41 (q_mor_0 hk)  eM3 dX1_begin_12 (fun H locs hH => ?_)
  refine lv_aload_n hx hb dX1_begin_15 rfl (lv_at hl 0 rfl) ?_
  refine lv_aload_n hx hb dX1_begin_16 rfl (lv_at hl 0 rfl) ?_
  obtain ⟨a4, ea4, hf⟩ := st_bd hf
  refine pz_gR hE hH fr_X1_9 (q_mor_0 hk) ea4 dX1_begin_17 (fun ha4 => ?_)
  replace ha4 : q_vil a4 = true := ha4
  refine pz_gI hE hH fr_X1_76 (q_vil_0 ha4) dX1_begin_20 ?_
  obtain ⟨M5, eM5, hf⟩ := st_lty hf
  refine pz_pI hE hH fw_X1_44 (q_mor_0 hk)  eM5 dX1_begin_23 (fun H locs hH => ?_)
  refine lv_aload_n hx hb dX1_begin_26 rfl (lv_at hl 0 rfl) ?_
  refine lv_iconst (v := 0) hx hb dX1_begin_27 (by decide) ?_
  obtain ⟨M6, eM6, hf⟩ := st_lty hf
  refine pz_pI hE hH fw_X1_47 (q_mor_0 hk)  eM6 dX1_begin_28 (fun H locs hH => ?_)
  refine lv_aload_n hx hb dX1_begin_31 rfl (lv_at hl 0 rfl) ?_
  refine lv_iconst (v := 0) hx hb dX1_begin_32 (by decide) ?_
  obtain ⟨M7, eM7, hf⟩ := st_lty hf
  refine pz_pZ hE hH fw_X1_50 (q_mor_0 hk) ⟨rfl, rfl⟩ eM7 dX1_begin_33 (fun H locs hH => ?_)
  refine lv_aload_n hx hb dX1_begin_36 rfl (lv_at hl 0 rfl) ?_
  refine lv_iconst (v := (-1)) hx hb dX1_begin_37 (by decide) ?_
  obtain ⟨M8, eM8, hf⟩ := st_lty hf
  refine pz_pI hE hH fw_X1_54 (q_mor_0 hk)  eM8 dX1_begin_38 (fun H locs hH => ?_)
  refine lv_aload_n hx hb dX1_begin_41 rfl (lv_at hl 0 rfl) ?_
  refine lv_iconst (v := (-1)) hx hb dX1_begin_42 (by decide) ?_
  obtain ⟨M9, eM9, hf⟩ := st_lty hf
  refine pz_pI hE hH fw_X1_57 (q_mor_0 hk)  eM9 dX1_begin_43 (fun H locs hH => ?_)
  refine lv_aload_n hx hb dX1_begin_46 rfl (lv_at hl 0 rfl) ?_
  refine pz_gS (a := k + 1) hE hH fr_X1_60 (q_mor_0 hk) rfl dX1_begin_47 ?_
  refine lv_iconst (v := (-1)) hx hb dX1_begin_50 (by decide) ?_
  obtain ⟨M10, eM10, hf⟩ := st_bd hf
  refine q_callv (q_runS (As := [.ref (X.1 (k + 1)), .int (-1)]) (rest := []) hE hH (tz_J7_fill_53178 l X (q_isal (q_mor_1 hk)) (hf := eM10)) ks_X1_79 (by decide) rfl hl.1 rfl (Nat.le_of_ble_eq_true rfl) dX1_begin_51) hH (fun H locs hH => ?_)
  refine lv_aload_n hx hb dX1_begin_54 rfl (lv_at hl 0 rfl) ?_
  refine pz_gS (a := k + 2) hE hH fr_X1_64 (q_mor_0 hk) rfl dX1_begin_55 ?_
  refine lv_iconst (v := (-1)) hx hb dX1_begin_58 (by decide) ?_
  obtain ⟨M11, eM11, hf⟩ := st_bd hf
  refine q_callv (q_runS (As := [.ref (X.1 (k + 2)), .int (-1)]) (rest := []) hE hH (tz_J7_fill_53178 l X (q_isal (q_mor_2 hk)) (hf := eM11)) ks_X1_79 (by decide) rfl hl.1 rfl (Nat.le_of_ble_eq_true rfl) dX1_begin_59) hH (fun H locs hH => ?_)
  refine lv_iconst (v := 0) hx hb dX1_begin_62 (by decide) ?_
  refine lv_istore_n (lv' := [(3, .int 0), (0, .ref (X.1 k)), (1, .long p0)]) hx hb dX1_begin_63 rfl hl (by decide) rfl (fun ls hl => ?_)
  obtain ⟨M14, hlp, hf⟩ := st_bd hf
  have hX : (fun M14 => ∀ (ls : Array Slot) (H : Heap) (locs : List Loc), q_H X M14 s H locs → lv_has ls 4 [] → W p l e (q_rm (2)) s m args below meth c H locs 0 0 (MQ below (q_Qv X MR) args s 0 0 (q_A X)) (F0 m 96 ls []) : qM → Prop) M14 := by
    intro ls H locs hH hl
    replace hf := Option.some.inj hf
    subst hf
    exact pz_retv hE hrt hlk hH dX1_begin_96
  clear hf
  have hG := qlp_ind (r := M14) (fun q => qu2 q (fun x12 M13 => ∀ (ls : Array Slot) (H : Heap) (locs : List Loc), q_H X M13 s H locs → lv_has ls 4 [(0, .ref (X.1 k)), (3, .int x12)] → W p l e (q_rm (2)) s m args below meth c H locs 0 0 (MQ below (q_Qv X MR) args s 0 0 (q_A X)) (F0 m 64 ls []))) (by
      intro q o hf hK1 hK2
      obtain ⟨x12, M13⟩ := q
      replace hf := st_u2 hf
      intro ls H locs hH hl
      refine lv_iload_n hx hb dX1_begin_64 rfl (lv_at hl 1 rfl) ?_
      refine lv_aload_n hx hb dX1_begin_65 rfl (lv_at hl 0 rfl) ?_
      obtain ⟨a16, ea16, hf⟩ := st_bd hf
      refine pz_gR hE hH fr_X1_9 (q_mor_0 hk) ea16 dX1_begin_66 (fun ha16 => ?_)
      replace ha16 : q_vil a16 = true := ha16
      refine pz_gI hE hH fr_X1_85 (q_vil_0 ha16) dX1_begin_69 ?_
      refine lv_icmp_ge (tgt := 96) hx hb dX1_begin_72 (by decide) (fun hc => ?_) (fun hc => ?_)
      · replace hf := (if_pos hc).symm.trans hf
        replace hf := hK2 _ (Option.some.inj hf).symm
        subst hf
        exact hX ls H locs hH (lv_sub hl [] rfl)
      · replace hf := (if_neg hc).symm.trans hf
        refine lv_aload_n hx hb dX1_begin_75 rfl (lv_at hl 0 rfl) ?_
        refine pz_gS (a := k + 3) hE hH fr_X1_67 (q_mor_0 hk) rfl dX1_begin_76 ?_
        refine lv_iload_n hx hb dX1_begin_79 rfl (lv_at hl 1 rfl) ?_
        refine lv_aload_n hx hb dX1_begin_80 rfl (lv_at hl 0 rfl) ?_
        obtain ⟨a17, ea17, hf⟩ := st_bd hf
        refine pz_gR hE hH fr_X1_9 (q_mor_0 hk) ea17 dX1_begin_81 (fun ha17 => ?_)
        replace ha17 : q_vil a17 = true := ha17
        refine lv_iload_n hx hb dX1_begin_84 rfl (lv_at hl 1 rfl) ?_
        refine lv_iconst (v := 0) hx hb dX1_begin_85 (by decide) ?_
        obtain ⟨r18, er18, hf⟩ := st_bd hf
        refine q_calli (q_runV (As := [.int x12, .int 0]) (rest := [.int x12, .ref (X.1 (k + 3))]) hE hH (tz_X7_ofSort l X ha17 (hf := er18)) kv_X1_88 (q_vil_0 ha17) (by decide) rfl hl.1 rfl (Nat.le_of_ble_eq_true rfl) dX1_begin_86) hH (fun H locs hH => ?_)
        obtain ⟨M19, eM19, hf⟩ := st_bd hf
        refine pz_iast hE hH (q_mor_3 hk) eM19 dX1_begin_89 (fun H locs hH => ?_)
        obtain ⟨x20, ex20, hf⟩ := st_lty hf
        refine lv_iinc (v := x20) (lv' := [(3, .int x20), (0, .ref (X.1 k))]) hx hb dX1_begin_90 hl (k := 1) rfl (by rw [ex20]; rfl) (by decide) rfl (fun ls hl => ?_)
        refine lv_goto (tgt := 64) hx hb dX1_begin_93 (by decide) ?_
        exact hK1 _ (Option.some.inj hf).symm ls H locs hH (lv_sub hl [1, 0] rfl)) _ hlp
  exact hG ls H locs hH (lv_sub hl [1, 0] rfl)

theorem dX1_copy_0 : decode cX1_copy 0 = .ok (.aload_n 0, 1) := by decide +kernel
theorem dX1_copy_1 : decode cX1_copy 1 = .ok (.aload_n 1, 1) := by decide +kernel
theorem dX1_copy_2 : decode cX1_copy 2 = .ok (.getfield 9, 3) := by decide +kernel
theorem dX1_copy_5 : decode cX1_copy 5 = .ok (.putfield 9, 3) := by decide +kernel
theorem dX1_copy_8 : decode cX1_copy 8 = .ok (.aload_n 0, 1) := by decide +kernel
theorem dX1_copy_9 : decode cX1_copy 9 = .ok (.aload_n 1, 1) := by decide +kernel
theorem dX1_copy_10 : decode cX1_copy 10 = .ok (.getfield 15, 3) := by decide +kernel
theorem dX1_copy_13 : decode cX1_copy 13 = .ok (.putfield 15, 3) := by decide +kernel
theorem dX1_copy_16 : decode cX1_copy 16 = .ok (.aload_n 0, 1) := by decide +kernel
theorem dX1_copy_17 : decode cX1_copy 17 = .ok (.aload_n 1, 1) := by decide +kernel
theorem dX1_copy_18 : decode cX1_copy 18 = .ok (.getfield 19, 3) := by decide +kernel
theorem dX1_copy_21 : decode cX1_copy 21 = .ok (.putfield 19, 3) := by decide +kernel
theorem dX1_copy_24 : decode cX1_copy 24 = .ok (.aload_n 0, 1) := by decide +kernel
theorem dX1_copy_25 : decode cX1_copy 25 = .ok (.aload_n 1, 1) := by decide +kernel
theorem dX1_copy_26 : decode cX1_copy 26 = .ok (.getfield 22, 3) := by decide +kernel
theorem dX1_copy_29 : decode cX1_copy 29 = .ok (.putfield 22, 3) := by decide +kernel
theorem dX1_copy_32 : decode cX1_copy 32 = .ok (.aload_n 0, 1) := by decide +kernel
theorem dX1_copy_33 : decode cX1_copy 33 = .ok (.aload_n 1, 1) := by decide +kernel
theorem dX1_copy_34 : decode cX1_copy 34 = .ok (.getfield 25, 3) := by decide +kernel
theorem dX1_copy_37 : decode cX1_copy 37 = .ok (.putfield 25, 3) := by decide +kernel
theorem dX1_copy_40 : decode cX1_copy 40 = .ok (.aload_n 0, 1) := by decide +kernel
theorem dX1_copy_41 : decode cX1_copy 41 = .ok (.aload_n 1, 1) := by decide +kernel
theorem dX1_copy_42 : decode cX1_copy 42 = .ok (.getfield 34, 3) := by decide +kernel
theorem dX1_copy_45 : decode cX1_copy 45 = .ok (.putfield 34, 3) := by decide +kernel
theorem dX1_copy_48 : decode cX1_copy 48 = .ok (.aload_n 0, 1) := by decide +kernel
theorem dX1_copy_49 : decode cX1_copy 49 = .ok (.aload_n 1, 1) := by decide +kernel
theorem dX1_copy_50 : decode cX1_copy 50 = .ok (.getfield 38, 3) := by decide +kernel
theorem dX1_copy_53 : decode cX1_copy 53 = .ok (.putfield 38, 3) := by decide +kernel
theorem dX1_copy_56 : decode cX1_copy 56 = .ok (.aload_n 0, 1) := by decide +kernel
theorem dX1_copy_57 : decode cX1_copy 57 = .ok (.aload_n 1, 1) := by decide +kernel
theorem dX1_copy_58 : decode cX1_copy 58 = .ok (.getfield 41, 3) := by decide +kernel
theorem dX1_copy_61 : decode cX1_copy 61 = .ok (.putfield 41, 3) := by decide +kernel
theorem dX1_copy_64 : decode cX1_copy 64 = .ok (.aload_n 0, 1) := by decide +kernel
theorem dX1_copy_65 : decode cX1_copy 65 = .ok (.aload_n 1, 1) := by decide +kernel
theorem dX1_copy_66 : decode cX1_copy 66 = .ok (.getfield 44, 3) := by decide +kernel
theorem dX1_copy_69 : decode cX1_copy 69 = .ok (.putfield 44, 3) := by decide +kernel
theorem dX1_copy_72 : decode cX1_copy 72 = .ok (.aload_n 0, 1) := by decide +kernel
theorem dX1_copy_73 : decode cX1_copy 73 = .ok (.aload_n 1, 1) := by decide +kernel
theorem dX1_copy_74 : decode cX1_copy 74 = .ok (.getfield 47, 3) := by decide +kernel
theorem dX1_copy_77 : decode cX1_copy 77 = .ok (.putfield 47, 3) := by decide +kernel
theorem dX1_copy_80 : decode cX1_copy 80 = .ok (.aload_n 0, 1) := by decide +kernel
theorem dX1_copy_81 : decode cX1_copy 81 = .ok (.aload_n 1, 1) := by decide +kernel
theorem dX1_copy_82 : decode cX1_copy 82 = .ok (.getfield 50, 3) := by decide +kernel
theorem dX1_copy_85 : decode cX1_copy 85 = .ok (.putfield 50, 3) := by decide +kernel
theorem dX1_copy_88 : decode cX1_copy 88 = .ok (.aload_n 0, 1) := by decide +kernel
theorem dX1_copy_89 : decode cX1_copy 89 = .ok (.aload_n 1, 1) := by decide +kernel
theorem dX1_copy_90 : decode cX1_copy 90 = .ok (.getfield 54, 3) := by decide +kernel
theorem dX1_copy_93 : decode cX1_copy 93 = .ok (.putfield 54, 3) := by decide +kernel
theorem dX1_copy_96 : decode cX1_copy 96 = .ok (.aload_n 0, 1) := by decide +kernel
theorem dX1_copy_97 : decode cX1_copy 97 = .ok (.aload_n 1, 1) := by decide +kernel
theorem dX1_copy_98 : decode cX1_copy 98 = .ok (.getfield 57, 3) := by decide +kernel
theorem dX1_copy_101 : decode cX1_copy 101 = .ok (.putfield 57, 3) := by decide +kernel
theorem dX1_copy_104 : decode cX1_copy 104 = .ok (.aload_n 1, 1) := by decide +kernel
theorem dX1_copy_105 : decode cX1_copy 105 = .ok (.getfield 60, 3) := by decide +kernel
theorem dX1_copy_108 : decode cX1_copy 108 = .ok (.iconst 0, 1) := by decide +kernel
theorem dX1_copy_109 : decode cX1_copy 109 = .ok (.aload_n 0, 1) := by decide +kernel
theorem dX1_copy_110 : decode cX1_copy 110 = .ok (.getfield 60, 3) := by decide +kernel
theorem dX1_copy_113 : decode cX1_copy 113 = .ok (.iconst 0, 1) := by decide +kernel
theorem dX1_copy_114 : decode cX1_copy 114 = .ok (.bipush 20, 2) := by decide +kernel
theorem dX1_copy_116 : decode cX1_copy 116 = .ok (.invokestatic 91, 3) := by decide +kernel
theorem dX1_copy_119 : decode cX1_copy 119 = .ok (.aload_n 1, 1) := by decide +kernel
theorem dX1_copy_120 : decode cX1_copy 120 = .ok (.getfield 64, 3) := by decide +kernel
theorem dX1_copy_123 : decode cX1_copy 123 = .ok (.iconst 0, 1) := by decide +kernel
theorem dX1_copy_124 : decode cX1_copy 124 = .ok (.aload_n 0, 1) := by decide +kernel
theorem dX1_copy_125 : decode cX1_copy 125 = .ok (.getfield 64, 3) := by decide +kernel
theorem dX1_copy_128 : decode cX1_copy 128 = .ok (.iconst 0, 1) := by decide +kernel
theorem dX1_copy_129 : decode cX1_copy 129 = .ok (.bipush 20, 2) := by decide +kernel
theorem dX1_copy_131 : decode cX1_copy 131 = .ok (.invokestatic 91, 3) := by decide +kernel
theorem dX1_copy_134 : decode cX1_copy 134 = .ok (.aload_n 1, 1) := by decide +kernel
theorem dX1_copy_135 : decode cX1_copy 135 = .ok (.getfield 67, 3) := by decide +kernel
theorem dX1_copy_138 : decode cX1_copy 138 = .ok (.iconst 0, 1) := by decide +kernel
theorem dX1_copy_139 : decode cX1_copy 139 = .ok (.aload_n 0, 1) := by decide +kernel
theorem dX1_copy_140 : decode cX1_copy 140 = .ok (.getfield 67, 3) := by decide +kernel
theorem dX1_copy_143 : decode cX1_copy 143 = .ok (.iconst 0, 1) := by decide +kernel
theorem dX1_copy_144 : decode cX1_copy 144 = .ok (.bipush 6, 2) := by decide +kernel
theorem dX1_copy_146 : decode cX1_copy 146 = .ok (.invokestatic 91, 3) := by decide +kernel
theorem dX1_copy_149 : decode cX1_copy 149 = .ok (.return_, 1) := by decide +kernel
set_option maxRecDepth 100000 in
set_option maxHeartbeats 4000000 in
theorem tz_X1_copy (l : Launch) (X : qX) {k : Nat} {p0 : Nat} {M MR : qM} (hk : q_mor k = true) (hp0 : q_mor p0 = true) (hf : jMo_copy k p0 M = some MR) : q_Met l X yX1_copy cX1_copy 2 none (1) M [.ref (X.1 k), .ref (X.1 p0)] (q_Qv X MR) := by
  refine q_enter (by decide) (Nat.le_of_ble_eq_true rfl) ?_
  intro p e s m args below meth c hE hrt hlk H locs hH ls hl
  have hx := hE.1
  have hb := hE.2.1
  have hl : lv_has ls 2 [(0, .ref (X.1 k)), (1, .ref (X.1 p0))] := hl
  unfold jMo_copy at hf
  refine lv_aload_n hx hb dX1_copy_0 rfl (lv_at hl 0 rfl) ?_
  refine lv_aload_n hx hb dX1_copy_1 rfl (lv_at hl 1 rfl) ?_
  obtain ⟨a1, ea1, hf⟩ := st_bd hf
  refine pz_gR hE hH fr_X1_9 (q_mor_0 hp0) ea1 dX1_copy_2 (fun ha1 => ?_)
  replace ha1 : q_vil a1 = true := ha1
  obtain ⟨M2, eM2, hf⟩ := st_lty hf
  refine pz_pR hE hH fw_X1_9 (q_mor_0 hk) (show q_ok 1 0 a1 = true from ha1) eM2 ⟨rfl, rfl⟩ dX1_copy_5 (fun H locs hH => ?_)
  refine lv_aload_n hx hb dX1_copy_8 rfl (lv_at hl 0 rfl) ?_
  refine lv_aload_n hx hb dX1_copy_9 rfl (lv_at hl 1 rfl) ?_
  refine pz_gI hE hH fr_X1_15 (q_mor_0 hp0) dX1_copy_10 ?_
  obtain ⟨M3, eM3, hf⟩ := st_lty hf
  refine pz_pI hE hH fw_X1_15 (q_mor_0 hk)  eM3 dX1_copy_13 (fun H locs hH => ?_)
  refine lv_aload_n hx hb dX1_copy_16 rfl (lv_at hl 0 rfl) ?_
  refine lv_aload_n hx hb dX1_copy_17 rfl (lv_at hl 1 rfl) ?_
  refine pz_gI hE hH fr_X1_19 (q_mor_0 hp0) dX1_copy_18 ?_
  obtain ⟨M4, eM4, hf⟩ := st_lty hf
  refine pz_pI hE hH fw_X1_19 (q_mor_0 hk)  eM4 dX1_copy_21 (fun H locs hH => ?_)
  refine lv_aload_n hx hb dX1_copy_24 rfl (lv_at hl 0 rfl) ?_
  refine lv_aload_n hx hb dX1_copy_25 rfl (lv_at hl 1 rfl) ?_
  refine pz_gI hE hH fr_X1_22 (q_mor_0 hp0) dX1_copy_26 ?_
  obtain ⟨M5, eM5, hf⟩ := st_lty hf
  refine pz_pI hE hH fw_X1_22 (q_mor_0 hk)  eM5 dX1_copy_29 (fun H locs hH => ?_)
  refine lv_aload_n hx hb dX1_copy_32 rfl (lv_at hl 0 rfl) ?_
  refine lv_aload_n hx hb dX1_copy_33 rfl (lv_at hl 1 rfl) ?_
  refine pz_gI hE hH fr_X1_25 (q_mor_0 hp0) dX1_copy_34 ?_
  obtain ⟨M6, eM6, hf⟩ := st_lty hf
  refine pz_pI hE hH fw_X1_25 (q_mor_0 hk)  eM6 dX1_copy_37 (fun H locs hH => ?_)
  refine lv_aload_n hx hb dX1_copy_40 rfl (lv_at hl 0 rfl) ?_
  refine lv_aload_n hx hb dX1_copy_41 rfl (lv_at hl 1 rfl) ?_
  refine pz_gJ hE hH fr_X1_34 (q_mor_0 hp0) dX1_copy_42 ?_
  obtain ⟨M7, eM7, hf⟩ := st_lty hf
  refine pz_pJ hE hH fw_X1_34 (q_mor_0 hk)  eM7 dX1_copy_45 (fun H locs hH => ?_)
  refine lv_aload_n hx hb dX1_copy_48 rfl (lv_at hl 0 rfl) ?_
  refine lv_aload_n hx hb dX1_copy_49 rfl (lv_at hl 1 rfl) ?_
  refine pz_gI hE hH fr_X1_38 (q_mor_0 hp0) dX1_copy_50 ?_
  obtain ⟨M8, eM8, hf⟩ := st_lty hf
  refine pz_pI hE hH fw_X1_38 (q_mor_0 hk)  eM8 dX1_copy_53 (fun H locs hH => ?_)
  refine lv_aload_n hx hb dX1_copy_56 rfl (lv_at hl 0 rfl) ?_
  refine lv_aload_n hx hb dX1_copy_57 rfl (lv_at hl 1 rfl) ?_
  refine pz_gI hE hH fr_X1_41 (q_mor_0 hp0) dX1_copy_58 ?_
  obtain ⟨M9, eM9, hf⟩ := st_lty hf
  refine pz_pI hE hH fw_X1_41 (q_mor_0 hk)  eM9 dX1_copy_61 (fun H locs hH => ?_)
  refine lv_aload_n hx hb dX1_copy_64 rfl (lv_at hl 0 rfl) ?_
  refine lv_aload_n hx hb dX1_copy_65 rfl (lv_at hl 1 rfl) ?_
  refine pz_gI hE hH fr_X1_44 (q_mor_0 hp0) dX1_copy_66 ?_
  obtain ⟨M10, eM10, hf⟩ := st_lty hf
  refine pz_pI hE hH fw_X1_44 (q_mor_0 hk)  eM10 dX1_copy_69 (fun H locs hH => ?_)
  refine lv_aload_n hx hb dX1_copy_72 rfl (lv_at hl 0 rfl) ?_
  refine lv_aload_n hx hb dX1_copy_73 rfl (lv_at hl 1 rfl) ?_
  refine pz_gI hE hH fr_X1_47 (q_mor_0 hp0) dX1_copy_74 ?_
  obtain ⟨M11, eM11, hf⟩ := st_lty hf
  refine pz_pI hE hH fw_X1_47 (q_mor_0 hk)  eM11 dX1_copy_77 (fun H locs hH => ?_)
  refine lv_aload_n hx hb dX1_copy_80 rfl (lv_at hl 0 rfl) ?_
  refine lv_aload_n hx hb dX1_copy_81 rfl (lv_at hl 1 rfl) ?_
  refine pz_gI hE hH fr_X1_50 (q_mor_0 hp0) dX1_copy_82 ?_
  obtain ⟨b12, eb12, hf⟩ := st_bd hf
  obtain ⟨M13, eM13, hf⟩ := st_lty hf
  refine pz_pZ hE hH fw_X1_50 (q_mor_0 hk) (q_nzb eb12) eM13 dX1_copy_85 (fun H locs hH => ?_)
  refine lv_aload_n hx hb dX1_copy_88 rfl (lv_at hl 0 rfl) ?_
  refine lv_aload_n hx hb dX1_copy_89 rfl (lv_at hl 1 rfl) ?_
  refine pz_gI hE hH fr_X1_54 (q_mor_0 hp0) dX1_copy_90 ?_
  obtain ⟨M14, eM14, hf⟩ := st_lty hf
  refine pz_pI hE hH fw_X1_54 (q_mor_0 hk)  eM14 dX1_copy_93 (fun H locs hH => ?_)
  refine lv_aload_n hx hb dX1_copy_96 rfl (lv_at hl 0 rfl) ?_
  refine lv_aload_n hx hb dX1_copy_97 rfl (lv_at hl 1 rfl) ?_
  refine pz_gI hE hH fr_X1_57 (q_mor_0 hp0) dX1_copy_98 ?_
  obtain ⟨M15, eM15, hf⟩ := st_lty hf
  refine pz_pI hE hH fw_X1_57 (q_mor_0 hk)  eM15 dX1_copy_101 (fun H locs hH => ?_)
  refine lv_aload_n hx hb dX1_copy_104 rfl (lv_at hl 1 rfl) ?_
  refine pz_gS (a := p0 + 1) hE hH fr_X1_60 (q_mor_0 hp0) rfl dX1_copy_105 ?_
  refine lv_iconst (v := 0) hx hb dX1_copy_108 (by decide) ?_
  refine lv_aload_n hx hb dX1_copy_109 rfl (lv_at hl 0 rfl) ?_
  refine pz_gS (a := k + 1) hE hH fr_X1_60 (q_mor_0 hk) rfl dX1_copy_110 ?_
  refine lv_iconst (v := 0) hx hb dX1_copy_113 (by decide) ?_
  refine lv_bipush (v := 20) hx hb dX1_copy_114 (by decide) ?_
  obtain ⟨M16, eM16, hf⟩ := st_bd hf
  refine pz_cpy (rest := []) hE hH (q_in _ 897 (by decide +kernel) rfl) (q_in _ 505 (by decide +kernel) rfl) (q_in _ 504 (by decide +kernel) rfl) (q_in _ 14 (by decide +kernel) rfl) (q_mor_1 hp0) (q_mor_1 hk) eM16 hl.1 (by decide) (Nat.le_of_ble_eq_true rfl) dX1_copy_116 (fun H locs hH => ?_)
  refine lv_aload_n hx hb dX1_copy_119 rfl (lv_at hl 1 rfl) ?_
  refine pz_gS (a := p0 + 2) hE hH fr_X1_64 (q_mor_0 hp0) rfl dX1_copy_120 ?_
  refine lv_iconst (v := 0) hx hb dX1_copy_123 (by decide) ?_
  refine lv_aload_n hx hb dX1_copy_124 rfl (lv_at hl 0 rfl) ?_
  refine pz_gS (a := k + 2) hE hH fr_X1_64 (q_mor_0 hk) rfl dX1_copy_125 ?_
  refine lv_iconst (v := 0) hx hb dX1_copy_128 (by decide) ?_
  refine lv_bipush (v := 20) hx hb dX1_copy_129 (by decide) ?_
  obtain ⟨M17, eM17, hf⟩ := st_bd hf
  refine pz_cpy (rest := []) hE hH (q_in _ 897 (by decide +kernel) rfl) (q_in _ 505 (by decide +kernel) rfl) (q_in _ 504 (by decide +kernel) rfl) (q_in _ 14 (by decide +kernel) rfl) (q_mor_2 hp0) (q_mor_2 hk) eM17 hl.1 (by decide) (Nat.le_of_ble_eq_true rfl) dX1_copy_131 (fun H locs hH => ?_)
  refine lv_aload_n hx hb dX1_copy_134 rfl (lv_at hl 1 rfl) ?_
  refine pz_gS (a := p0 + 3) hE hH fr_X1_67 (q_mor_0 hp0) rfl dX1_copy_135 ?_
  refine lv_iconst (v := 0) hx hb dX1_copy_138 (by decide) ?_
  refine lv_aload_n hx hb dX1_copy_139 rfl (lv_at hl 0 rfl) ?_
  refine pz_gS (a := k + 3) hE hH fr_X1_67 (q_mor_0 hk) rfl dX1_copy_140 ?_
  refine lv_iconst (v := 0) hx hb dX1_copy_143 (by decide) ?_
  refine lv_bipush (v := 6) hx hb dX1_copy_144 (by decide) ?_
  obtain ⟨M18, eM18, hf⟩ := st_bd hf
  refine pz_cpy (rest := []) hE hH (q_in _ 897 (by decide +kernel) rfl) (q_in _ 505 (by decide +kernel) rfl) (q_in _ 504 (by decide +kernel) rfl) (q_in _ 14 (by decide +kernel) rfl) (q_mor_3 hp0) (q_mor_3 hk) eM18 hl.1 (by decide) (Nat.le_of_ble_eq_true rfl) dX1_copy_146 (fun H locs hH => ?_)
  replace hf := Option.some.inj hf
  subst hf
  exact pz_retv hE hrt hlk hH dX1_copy_149

theorem dX1_underway_0 : decode cX1_underway 0 = .ok (.aload_n 0, 1) := by decide +kernel
theorem dX1_underway_1 : decode cX1_underway 1 = .ok (.getfield 9, 3) := by decide +kernel
theorem dX1_underway_4 : decode cX1_underway 4 = .ok (.getfield 76, 3) := by decide +kernel
theorem dX1_underway_7 : decode cX1_underway 7 = .ok (.aload_n 0, 1) := by decide +kernel
theorem dX1_underway_8 : decode cX1_underway 8 = .ok (.getfield 44, 3) := by decide +kernel
theorem dX1_underway_11 : decode cX1_underway 11 = .ok (.isub, 1) := by decide +kernel
theorem dX1_underway_12 : decode cX1_underway 12 = .ok (.aload_n 0, 1) := by decide +kernel
theorem dX1_underway_13 : decode cX1_underway 13 = .ok (.getfield 41, 3) := by decide +kernel
theorem dX1_underway_16 : decode cX1_underway 16 = .ok (.isub, 1) := by decide +kernel
theorem dX1_underway_17 : decode cX1_underway 17 = .ok (.ireturn, 1) := by decide +kernel
set_option maxRecDepth 100000 in
set_option maxHeartbeats 4000000 in
theorem tz_X1_underway (l : Launch) (X : qX) {k : Nat} {M : qM} {r0 : Int32} (hk : q_mor k = true) (hf : jMo_underway k M = some r0) : q_Met l X yX1_underway cX1_underway 1 (some .int) (1) M [.ref (X.1 k)] (q_Qi X r0 M) := by
  refine q_enter (by decide) (Nat.le_of_ble_eq_true rfl) ?_
  intro p e s m args below meth c hE hrt hlk H locs hH ls hl
  have hx := hE.1
  have hb := hE.2.1
  have hl : lv_has ls 1 [(0, .ref (X.1 k))] := hl
  unfold jMo_underway at hf
  refine lv_aload_n hx hb dX1_underway_0 rfl (lv_at hl 0 rfl) ?_
  obtain ⟨a1, ea1, hf⟩ := st_bd hf
  refine pz_gR hE hH fr_X1_9 (q_mor_0 hk) ea1 dX1_underway_1 (fun ha1 => ?_)
  replace ha1 : q_vil a1 = true := ha1
  refine pz_gI hE hH fr_X1_76 (q_vil_0 ha1) dX1_underway_4 ?_
  refine lv_aload_n hx hb dX1_underway_7 rfl (lv_at hl 0 rfl) ?_
  refine pz_gI hE hH fr_X1_44 (q_mor_0 hk) dX1_underway_8 ?_
  refine lv_isub hx hb dX1_underway_11 ?_
  refine lv_aload_n hx hb dX1_underway_12 rfl (lv_at hl 0 rfl) ?_
  refine pz_gI hE hH fr_X1_41 (q_mor_0 hk) dX1_underway_13 ?_
  refine lv_isub hx hb dX1_underway_16 ?_
  replace hf := Option.some.inj hf
  subst hf
  exact pz_reti hE hrt hlk hH dX1_underway_17

theorem dX1_stateOf_0 : decode cX1_stateOf 0 = .ok (.aload_n 0, 1) := by decide +kernel
theorem dX1_stateOf_1 : decode cX1_stateOf 1 = .ok (.getfield 60, 3) := by decide +kernel
theorem dX1_stateOf_4 : decode cX1_stateOf 4 = .ok (.iload_n 1, 1) := by decide +kernel
theorem dX1_stateOf_5 : decode cX1_stateOf 5 = .ok (.iaload, 1) := by decide +kernel
theorem dX1_stateOf_6 : decode cX1_stateOf 6 = .ok (.iconst (-1), 1) := by decide +kernel
theorem dX1_stateOf_7 : decode cX1_stateOf 7 = .ok (.if_icmp .ne 7, 3) := by decide +kernel
theorem dX1_stateOf_10 : decode cX1_stateOf 10 = .ok (.iconst 0, 1) := by decide +kernel
theorem dX1_stateOf_11 : decode cX1_stateOf 11 = .ok (.goto 18, 3) := by decide +kernel
theorem dX1_stateOf_14 : decode cX1_stateOf 14 = .ok (.aload_n 0, 1) := by decide +kernel
theorem dX1_stateOf_15 : decode cX1_stateOf 15 = .ok (.getfield 64, 3) := by decide +kernel
theorem dX1_stateOf_18 : decode cX1_stateOf 18 = .ok (.iload_n 1, 1) := by decide +kernel
theorem dX1_stateOf_19 : decode cX1_stateOf 19 = .ok (.iaload, 1) := by decide +kernel
theorem dX1_stateOf_20 : decode cX1_stateOf 20 = .ok (.iconst (-1), 1) := by decide +kernel
theorem dX1_stateOf_21 : decode cX1_stateOf 21 = .ok (.if_icmp .ne 7, 3) := by decide +kernel
theorem dX1_stateOf_24 : decode cX1_stateOf 24 = .ok (.iconst 1, 1) := by decide +kernel
theorem dX1_stateOf_25 : decode cX1_stateOf 25 = .ok (.goto 4, 3) := by decide +kernel
theorem dX1_stateOf_28 : decode cX1_stateOf 28 = .ok (.iconst 2, 1) := by decide +kernel
theorem dX1_stateOf_29 : decode cX1_stateOf 29 = .ok (.ireturn, 1) := by decide +kernel
set_option maxRecDepth 100000 in
set_option maxHeartbeats 4000000 in
theorem tz_X1_stateOf (l : Launch) (X : qX) {k : Nat} {p0 : Int32} {M : qM} {r0 : Int32} (hk : q_mor k = true) (hf : jMo_stateOf k p0 M = some r0) : q_Met l X yX1_stateOf cX1_stateOf 2 (some .int) (1) M [.ref (X.1 k), .int p0] (q_Qi X r0 M) := by
  refine q_enter (by decide) (Nat.le_of_ble_eq_true rfl) ?_
  intro p e s m args below meth c hE hrt hlk H locs hH ls hl
  have hx := hE.1
  have hb := hE.2.1
  have hl : lv_has ls 2 [(0, .ref (X.1 k)), (1, .int p0)] := hl
  unfold jMo_stateOf at hf
  refine lv_aload_n hx hb dX1_stateOf_0 rfl (lv_at hl 0 rfl) ?_
  refine pz_gS (a := k + 1) hE hH fr_X1_60 (q_mor_0 hk) rfl dX1_stateOf_1 ?_
  refine lv_iload_n hx hb dX1_stateOf_4 rfl (lv_at hl 1 rfl) ?_
  obtain ⟨v1, ev1, hf⟩ := st_bd hf
  refine pz_iald hE hH (q_mor_1 hk) ev1 dX1_stateOf_5 ?_
  refine lv_iconst (v := (-1)) hx hb dX1_stateOf_6 (by decide) ?_
  obtain ⟨x2, hr, hf⟩ := st_bd hf
  have hJ : ∀ (ls : Array Slot) (H : Heap) (locs : List Loc), q_H X M s H locs → lv_has ls 2 [] → W p l e (q_rm (1)) s m args below meth c H locs 0 0 (MQ below (q_Qi X r0 M) args s 0 0 (q_A X)) (F0 m 29 ls [.int x2]) := by
    intro ls H locs hH hl
    replace hf := Option.some.inj hf
    subst hf
    exact pz_reti hE hrt hlk hH dX1_stateOf_29
  clear hf
  replace hf := hr
  refine lv_icmp_ne (tgt := 14) hx hb dX1_stateOf_7 (by decide) (fun hc => ?_) (fun hc => ?_)
  · replace hf := (if_neg hc).symm.trans hf
    refine lv_aload_n hx hb dX1_stateOf_14 rfl (lv_at hl 0 rfl) ?_
    refine pz_gS (a := k + 2) hE hH fr_X1_64 (q_mor_0 hk) rfl dX1_stateOf_15 ?_
    refine lv_iload_n hx hb dX1_stateOf_18 rfl (lv_at hl 1 rfl) ?_
    obtain ⟨v3, ev3, hf⟩ := st_bd hf
    refine pz_iald hE hH (q_mor_2 hk) ev3 dX1_stateOf_19 ?_
    refine lv_iconst (v := (-1)) hx hb dX1_stateOf_20 (by decide) ?_
    refine lv_icmp_ne (tgt := 28) hx hb dX1_stateOf_21 (by decide) (fun hc => ?_) (fun hc => ?_)
    · replace hf := (if_neg hc).symm.trans hf
      refine lv_iconst (v := 2) hx hb dX1_stateOf_28 (by decide) ?_
      replace hf := Option.some.inj hf
      subst hf
      exact hJ ls H locs hH (lv_sub hl [] rfl)
    · replace hf := (if_pos hc).symm.trans hf
      refine lv_iconst (v := 1) hx hb dX1_stateOf_24 (by decide) ?_
      refine lv_goto (tgt := 29) hx hb dX1_stateOf_25 (by decide) ?_
      replace hf := Option.some.inj hf
      subst hf
      exact hJ ls H locs hH (lv_sub hl [] rfl)
  · replace hf := (if_pos hc).symm.trans hf
    refine lv_iconst (v := 0) hx hb dX1_stateOf_10 (by decide) ?_
    refine lv_goto (tgt := 29) hx hb dX1_stateOf_11 (by decide) ?_
    replace hf := Option.some.inj hf
    subst hf
    exact hJ ls H locs hH (lv_sub hl [] rfl)

theorem dX1_minuteOf_0 : decode cX1_minuteOf 0 = .ok (.aload_n 0, 1) := by decide +kernel
theorem dX1_minuteOf_1 : decode cX1_minuteOf 1 = .ok (.getfield 64, 3) := by decide +kernel
theorem dX1_minuteOf_4 : decode cX1_minuteOf 4 = .ok (.iload_n 1, 1) := by decide +kernel
theorem dX1_minuteOf_5 : decode cX1_minuteOf 5 = .ok (.iaload, 1) := by decide +kernel
theorem dX1_minuteOf_6 : decode cX1_minuteOf 6 = .ok (.iconst (-1), 1) := by decide +kernel
theorem dX1_minuteOf_7 : decode cX1_minuteOf 7 = .ok (.if_icmp .ne 7, 3) := by decide +kernel
theorem dX1_minuteOf_10 : decode cX1_minuteOf 10 = .ok (.iconst (-1), 1) := by decide +kernel
theorem dX1_minuteOf_11 : decode cX1_minuteOf 11 = .ok (.goto 19, 3) := by decide +kernel
theorem dX1_minuteOf_14 : decode cX1_minuteOf 14 = .ok (.aload_n 0, 1) := by decide +kernel
theorem dX1_minuteOf_15 : decode cX1_minuteOf 15 = .ok (.getfield 60, 3) := by decide +kernel
theorem dX1_minuteOf_18 : decode cX1_minuteOf 18 = .ok (.iload_n 1, 1) := by decide +kernel
theorem dX1_minuteOf_19 : decode cX1_minuteOf 19 = .ok (.iaload, 1) := by decide +kernel
theorem dX1_minuteOf_20 : decode cX1_minuteOf 20 = .ok (.aload_n 0, 1) := by decide +kernel
theorem dX1_minuteOf_21 : decode cX1_minuteOf 21 = .ok (.getfield 9, 3) := by decide +kernel
theorem dX1_minuteOf_24 : decode cX1_minuteOf 24 = .ok (.iload_n 1, 1) := by decide +kernel
theorem dX1_minuteOf_25 : decode cX1_minuteOf 25 = .ok (.iconst 1, 1) := by decide +kernel
theorem dX1_minuteOf_26 : decode cX1_minuteOf 26 = .ok (.invokevirtual 97, 3) := by decide +kernel
theorem dX1_minuteOf_29 : decode cX1_minuteOf 29 = .ok (.iadd, 1) := by decide +kernel
theorem dX1_minuteOf_30 : decode cX1_minuteOf 30 = .ok (.ireturn, 1) := by decide +kernel
set_option maxRecDepth 100000 in
set_option maxHeartbeats 4000000 in
theorem tz_X1_minuteOf (l : Launch) (X : qX) {k : Nat} {p0 : Int32} {M : qM} {r0 : Int32} (hk : q_mor k = true) (hf : jMo_minuteOf k p0 M = some r0) : q_Met l X yX1_minuteOf cX1_minuteOf 2 (some .int) (3) M [.ref (X.1 k), .int p0] (q_Qi X r0 M) := by
  refine q_enter (by decide) (Nat.le_of_ble_eq_true rfl) ?_
  intro p e s m args below meth c hE hrt hlk H locs hH ls hl
  have hx := hE.1
  have hb := hE.2.1
  have hl : lv_has ls 2 [(0, .ref (X.1 k)), (1, .int p0)] := hl
  unfold jMo_minuteOf at hf
  refine lv_aload_n hx hb dX1_minuteOf_0 rfl (lv_at hl 0 rfl) ?_
  refine pz_gS (a := k + 2) hE hH fr_X1_64 (q_mor_0 hk) rfl dX1_minuteOf_1 ?_
  refine lv_iload_n hx hb dX1_minuteOf_4 rfl (lv_at hl 1 rfl) ?_
  obtain ⟨v1, ev1, hf⟩ := st_bd hf
  refine pz_iald hE hH (q_mor_2 hk) ev1 dX1_minuteOf_5 ?_
  refine lv_iconst (v := (-1)) hx hb dX1_minuteOf_6 (by decide) ?_
  obtain ⟨x2, hr, hf⟩ := st_bd hf
  have hJ : ∀ (ls : Array Slot) (H : Heap) (locs : List Loc), q_H X M s H locs → lv_has ls 2 [] → W p l e (q_rm (3)) s m args below meth c H locs 0 0 (MQ below (q_Qi X r0 M) args s 0 0 (q_A X)) (F0 m 30 ls [.int x2]) := by
    intro ls H locs hH hl
    replace hf := Option.some.inj hf
    subst hf
    exact pz_reti hE hrt hlk hH dX1_minuteOf_30
  clear hf
  replace hf := hr
  refine lv_icmp_ne (tgt := 14) hx hb dX1_minuteOf_7 (by decide) (fun hc => ?_) (fun hc => ?_)
  · replace hf := (if_neg hc).symm.trans hf
    refine lv_aload_n hx hb dX1_minuteOf_14 rfl (lv_at hl 0 rfl) ?_
    refine pz_gS (a := k + 1) hE hH fr_X1_60 (q_mor_0 hk) rfl dX1_minuteOf_15 ?_
    refine lv_iload_n hx hb dX1_minuteOf_18 rfl (lv_at hl 1 rfl) ?_
    obtain ⟨v3, ev3, hf⟩ := st_bd hf
    refine pz_iald hE hH (q_mor_1 hk) ev3 dX1_minuteOf_19 ?_
    refine lv_aload_n hx hb dX1_minuteOf_20 rfl (lv_at hl 0 rfl) ?_
    obtain ⟨a4, ea4, hf⟩ := st_bd hf
    refine pz_gR hE hH fr_X1_9 (q_mor_0 hk) ea4 dX1_minuteOf_21 (fun ha4 => ?_)
    replace ha4 : q_vil a4 = true := ha4
    refine lv_iload_n hx hb dX1_minuteOf_24 rfl (lv_at hl 1 rfl) ?_
    refine lv_iconst (v := 1) hx hb dX1_minuteOf_25 (by decide) ?_
    obtain ⟨r5, er5, hf⟩ := st_bd hf
    refine q_calli (q_runV (As := [.int p0, .int 1]) (rest := [.int v3]) hE hH (tz_X7_ofPerson l X ha4 (hf := er5)) kv_X1_97 (q_vil_0 ha4) (by decide) rfl hl.1 rfl (Nat.le_of_ble_eq_true rfl) dX1_minuteOf_26) hH (fun H locs hH => ?_)
    refine lv_iadd hx hb dX1_minuteOf_29 ?_
    replace hf := Option.some.inj hf
    subst hf
    exact hJ ls H locs hH (lv_sub hl [] rfl)
  · replace hf := (if_pos hc).symm.trans hf
    refine lv_iconst (v := (-1)) hx hb dX1_minuteOf_10 (by decide) ?_
    refine lv_goto (tgt := 30) hx hb dX1_minuteOf_11 (by decide) ?_
    replace hf := Option.some.inj hf
    subst hf
    exact hJ ls H locs hH (lv_sub hl [] rfl)

theorem dX1_has_0 : decode cX1_has 0 = .ok (.aload_n 0, 1) := by decide +kernel
theorem dX1_has_1 : decode cX1_has 1 = .ok (.getfield 64, 3) := by decide +kernel
theorem dX1_has_4 : decode cX1_has 4 = .ok (.iload_n 1, 1) := by decide +kernel
theorem dX1_has_5 : decode cX1_has 5 = .ok (.iaload, 1) := by decide +kernel
theorem dX1_has_6 : decode cX1_has 6 = .ok (.aload_n 0, 1) := by decide +kernel
theorem dX1_has_7 : decode cX1_has 7 = .ok (.getfield 22, 3) := by decide +kernel
theorem dX1_has_10 : decode cX1_has 10 = .ok (.if_icmp .lt 25, 3) := by decide +kernel
theorem dX1_has_13 : decode cX1_has 13 = .ok (.aload_n 0, 1) := by decide +kernel
theorem dX1_has_14 : decode cX1_has 14 = .ok (.getfield 64, 3) := by decide +kernel
theorem dX1_has_17 : decode cX1_has 17 = .ok (.iload_n 1, 1) := by decide +kernel
theorem dX1_has_18 : decode cX1_has 18 = .ok (.iaload, 1) := by decide +kernel
theorem dX1_has_19 : decode cX1_has 19 = .ok (.aload_n 0, 1) := by decide +kernel
theorem dX1_has_20 : decode cX1_has 20 = .ok (.getfield 22, 3) := by decide +kernel
theorem dX1_has_23 : decode cX1_has 23 = .ok (.aload_n 0, 1) := by decide +kernel
theorem dX1_has_24 : decode cX1_has 24 = .ok (.getfield 25, 3) := by decide +kernel
theorem dX1_has_27 : decode cX1_has 27 = .ok (.iadd, 1) := by decide +kernel
theorem dX1_has_28 : decode cX1_has 28 = .ok (.if_icmp .ge 7, 3) := by decide +kernel
theorem dX1_has_31 : decode cX1_has 31 = .ok (.iconst 1, 1) := by decide +kernel
theorem dX1_has_32 : decode cX1_has 32 = .ok (.goto 4, 3) := by decide +kernel
theorem dX1_has_35 : decode cX1_has 35 = .ok (.iconst 0, 1) := by decide +kernel
theorem dX1_has_36 : decode cX1_has 36 = .ok (.ireturn, 1) := by decide +kernel
set_option maxRecDepth 100000 in
set_option maxHeartbeats 4000000 in
theorem tz_X1_has (l : Launch) (X : qX) {k : Nat} {p0 : Int32} {M : qM} {r0 : Bool} (hk : q_mor k = true) (hf : jMo_has k p0 M = some r0) : q_Met l X yX1_has cX1_has 2 (some .boolean) (1) M [.ref (X.1 k), .int p0] (q_Qi X (b2i r0) M) := by
  refine q_enter (by decide) (Nat.le_of_ble_eq_true rfl) ?_
  intro p e s m args below meth c hE hrt hlk H locs hH ls hl
  have hx := hE.1
  have hb := hE.2.1
  have hl : lv_has ls 2 [(0, .ref (X.1 k)), (1, .int p0)] := hl
  unfold jMo_has at hf
  refine lv_aload_n hx hb dX1_has_0 rfl (lv_at hl 0 rfl) ?_
  refine pz_gS (a := k + 2) hE hH fr_X1_64 (q_mor_0 hk) rfl dX1_has_1 ?_
  refine lv_iload_n hx hb dX1_has_4 rfl (lv_at hl 1 rfl) ?_
  obtain ⟨v1, ev1, hf⟩ := st_bd hf
  refine pz_iald hE hH (q_mor_2 hk) ev1 dX1_has_5 ?_
  refine lv_aload_n hx hb dX1_has_6 rfl (lv_at hl 0 rfl) ?_
  refine pz_gI hE hH fr_X1_22 (q_mor_0 hk) dX1_has_7 ?_
  obtain ⟨z2, hr, hf⟩ := st_bd hf
  have hJ : ∀ (ls : Array Slot) (H : Heap) (locs : List Loc), q_H X M s H locs → lv_has ls 2 [] → W p l e (q_rm (1)) s m args below meth c H locs 0 0 (MQ below (q_Qi X (b2i r0) M) args s 0 0 (q_A X)) (F0 m 36 ls [.int (b2i z2)]) := by
    intro ls H locs hH hl
    replace hf := Option.some.inj hf
    subst hf
    exact pz_retz hE hrt hlk hH rfl dX1_has_36
  clear hf
  replace hf := hr
  refine lv_icmp_lt (tgt := 35) hx hb dX1_has_10 (by decide) (fun hc => ?_) (fun hc => ?_)
  · replace hf := (if_pos hc).symm.trans hf
    refine lv_iconst (v := 0) hx hb dX1_has_35 (by decide) ?_
    replace hf := Option.some.inj hf
    subst hf
    exact hJ ls H locs hH (lv_sub hl [] rfl)
  · replace hf := (if_neg hc).symm.trans hf
    refine lv_aload_n hx hb dX1_has_13 rfl (lv_at hl 0 rfl) ?_
    refine pz_gS (a := k + 2) hE hH fr_X1_64 (q_mor_0 hk) rfl dX1_has_14 ?_
    refine lv_iload_n hx hb dX1_has_17 rfl (lv_at hl 1 rfl) ?_
    obtain ⟨v3, ev3, hf⟩ := st_bd hf
    refine pz_iald hE hH (q_mor_2 hk) ev3 dX1_has_18 ?_
    refine lv_aload_n hx hb dX1_has_19 rfl (lv_at hl 0 rfl) ?_
    refine pz_gI hE hH fr_X1_22 (q_mor_0 hk) dX1_has_20 ?_
    refine lv_aload_n hx hb dX1_has_23 rfl (lv_at hl 0 rfl) ?_
    refine pz_gI hE hH fr_X1_25 (q_mor_0 hk) dX1_has_24 ?_
    refine lv_iadd hx hb dX1_has_27 ?_
    refine lv_icmp_ge (tgt := 35) hx hb dX1_has_28 (by decide) (fun hc => ?_) (fun hc => ?_)
    · replace hf := (if_pos hc).symm.trans hf
      refine lv_iconst (v := 0) hx hb dX1_has_35 (by decide) ?_
      replace hf := Option.some.inj hf
      subst hf
      exact hJ ls H locs hH (lv_sub hl [] rfl)
    · replace hf := (if_neg hc).symm.trans hf
      refine lv_iconst (v := 1) hx hb dX1_has_31 (by decide) ?_
      refine lv_goto (tgt := 36) hx hb dX1_has_32 (by decide) ?_
      replace hf := Option.some.inj hf
      subst hf
      exact hJ ls H locs hH (lv_sub hl [] rfl)

theorem dX1_gainOf_0 : decode cX1_gainOf 0 = .ok (.aload_n 0, 1) := by decide +kernel
theorem dX1_gainOf_1 : decode cX1_gainOf 1 = .ok (.iload_n 1, 1) := by decide +kernel
theorem dX1_gainOf_2 : decode cX1_gainOf 2 = .ok (.invokevirtual 100, 3) := by decide +kernel
theorem dX1_gainOf_5 : decode cX1_gainOf 5 = .ok (.ifCond .eq 22, 3) := by decide +kernel
theorem dX1_gainOf_8 : decode cX1_gainOf 8 = .ok (.aload_n 0, 1) := by decide +kernel
theorem dX1_gainOf_9 : decode cX1_gainOf 9 = .ok (.getfield 9, 3) := by decide +kernel
theorem dX1_gainOf_12 : decode cX1_gainOf 12 = .ok (.aload_n 0, 1) := by decide +kernel
theorem dX1_gainOf_13 : decode cX1_gainOf 13 = .ok (.getfield 15, 3) := by decide +kernel
theorem dX1_gainOf_16 : decode cX1_gainOf 16 = .ok (.aload_n 0, 1) := by decide +kernel
theorem dX1_gainOf_17 : decode cX1_gainOf 17 = .ok (.iload_n 1, 1) := by decide +kernel
theorem dX1_gainOf_18 : decode cX1_gainOf 18 = .ok (.invokevirtual 104, 3) := by decide +kernel
theorem dX1_gainOf_21 : decode cX1_gainOf 21 = .ok (.invokevirtual 108, 3) := by decide +kernel
theorem dX1_gainOf_24 : decode cX1_gainOf 24 = .ok (.goto 4, 3) := by decide +kernel
theorem dX1_gainOf_27 : decode cX1_gainOf 27 = .ok (.iconst 0, 1) := by decide +kernel
theorem dX1_gainOf_28 : decode cX1_gainOf 28 = .ok (.istore_n 2, 1) := by decide +kernel
theorem dX1_gainOf_29 : decode cX1_gainOf 29 = .ok (.aload_n 0, 1) := by decide +kernel
theorem dX1_gainOf_30 : decode cX1_gainOf 30 = .ok (.getfield 60, 3) := by decide +kernel
theorem dX1_gainOf_33 : decode cX1_gainOf 33 = .ok (.iload_n 1, 1) := by decide +kernel
theorem dX1_gainOf_34 : decode cX1_gainOf 34 = .ok (.iaload, 1) := by decide +kernel
theorem dX1_gainOf_35 : decode cX1_gainOf 35 = .ok (.iconst (-1), 1) := by decide +kernel
theorem dX1_gainOf_36 : decode cX1_gainOf 36 = .ok (.if_icmp .ne 10, 3) := by decide +kernel
theorem dX1_gainOf_39 : decode cX1_gainOf 39 = .ok (.aload_n 0, 1) := by decide +kernel
theorem dX1_gainOf_40 : decode cX1_gainOf 40 = .ok (.getfield 38, 3) := by decide +kernel
theorem dX1_gainOf_43 : decode cX1_gainOf 43 = .ok (.goto 9, 3) := by decide +kernel
theorem dX1_gainOf_46 : decode cX1_gainOf 46 = .ok (.aload_n 0, 1) := by decide +kernel
theorem dX1_gainOf_47 : decode cX1_gainOf 47 = .ok (.getfield 60, 3) := by decide +kernel
theorem dX1_gainOf_50 : decode cX1_gainOf 50 = .ok (.iload_n 1, 1) := by decide +kernel
theorem dX1_gainOf_51 : decode cX1_gainOf 51 = .ok (.iaload, 1) := by decide +kernel
theorem dX1_gainOf_52 : decode cX1_gainOf 52 = .ok (.istore_n 3, 1) := by decide +kernel
theorem dX1_gainOf_53 : decode cX1_gainOf 53 = .ok (.iload_n 2, 1) := by decide +kernel
theorem dX1_gainOf_54 : decode cX1_gainOf 54 = .ok (.aload_n 0, 1) := by decide +kernel
theorem dX1_gainOf_55 : decode cX1_gainOf 55 = .ok (.getfield 9, 3) := by decide +kernel
theorem dX1_gainOf_58 : decode cX1_gainOf 58 = .ok (.iload_n 1, 1) := by decide +kernel
theorem dX1_gainOf_59 : decode cX1_gainOf 59 = .ok (.iconst 2, 1) := by decide +kernel
theorem dX1_gainOf_60 : decode cX1_gainOf 60 = .ok (.invokevirtual 97, 3) := by decide +kernel
theorem dX1_gainOf_63 : decode cX1_gainOf 63 = .ok (.iload_n 3, 1) := by decide +kernel
theorem dX1_gainOf_64 : decode cX1_gainOf 64 = .ok (.imul, 1) := by decide +kernel
theorem dX1_gainOf_65 : decode cX1_gainOf 65 = .ok (.isub, 1) := by decide +kernel
theorem dX1_gainOf_66 : decode cX1_gainOf 66 = .ok (.ireturn, 1) := by decide +kernel
set_option maxRecDepth 100000 in
set_option maxHeartbeats 4000000 in
theorem tz_X1_gainOf (l : Launch) (X : qX) {k : Nat} {p0 : Int32} {M : qM} {r0 : Int32} (hk : q_mor k = true) (hf : jMo_gainOf k p0 M = some r0) : q_Met l X yX1_gainOf cX1_gainOf 4 (some .int) (4) M [.ref (X.1 k), .int p0] (q_Qi X r0 M) := by
  refine q_enter (by decide) (Nat.le_of_ble_eq_true rfl) ?_
  intro p e s m args below meth c hE hrt hlk H locs hH ls hl
  have hx := hE.1
  have hb := hE.2.1
  have hl : lv_has ls 4 [(0, .ref (X.1 k)), (1, .int p0)] := hl
  unfold jMo_gainOf at hf
  refine lv_aload_n hx hb dX1_gainOf_0 rfl (lv_at hl 0 rfl) ?_
  refine lv_iload_n hx hb dX1_gainOf_1 rfl (lv_at hl 1 rfl) ?_
  obtain ⟨r1, er1, hf⟩ := st_bd hf
  refine q_calli (q_runV (As := [.int p0]) (rest := []) hE hH (tz_X1_has l X hk (hf := er1)) kv_X1_100 (q_mor_0 hk) (by decide) rfl hl.1 rfl (Nat.le_of_ble_eq_true rfl) dX1_gainOf_2) hH (fun H locs hH => ?_)
  obtain ⟨x2, hr, hf⟩ := st_bd hf
  have hJ : ∀ (ls : Array Slot) (H : Heap) (locs : List Loc), q_H X M s H locs → lv_has ls 4 [(0, .ref (X.1 k)), (1, .int p0)] → W p l e (q_rm (4)) s m args below meth c H locs 0 0 (MQ below (q_Qi X r0 M) args s 0 0 (q_A X)) (F0 m 28 ls [.int x2]) := by
    intro ls H locs hH hl
    refine lv_istore_n (lv' := [(2, .int x2), (0, .ref (X.1 k)), (1, .int p0)]) hx hb dX1_gainOf_28 rfl hl (by decide) rfl (fun ls hl => ?_)
    refine lv_aload_n hx hb dX1_gainOf_29 rfl (lv_at hl 1 rfl) ?_
    refine pz_gS (a := k + 1) hE hH fr_X1_60 (q_mor_0 hk) rfl dX1_gainOf_30 ?_
    refine lv_iload_n hx hb dX1_gainOf_33 rfl (lv_at hl 2 rfl) ?_
    obtain ⟨v3, ev3, hf⟩ := st_bd hf
    refine pz_iald hE hH (q_mor_1 hk) ev3 dX1_gainOf_34 ?_
    refine lv_iconst (v := (-1)) hx hb dX1_gainOf_35 (by decide) ?_
    obtain ⟨x4, hr, hf⟩ := st_bd hf
    have hJ : ∀ (ls : Array Slot) (H : Heap) (locs : List Loc), q_H X M s H locs → lv_has ls 4 [(0, .ref (X.1 k)), (1, .int p0), (2, .int x2)] → W p l e (q_rm (4)) s m args below meth c H locs 0 0 (MQ below (q_Qi X r0 M) args s 0 0 (q_A X)) (F0 m 52 ls [.int x4]) := by
      intro ls H locs hH hl
      refine lv_istore_n (lv' := [(3, .int x4), (0, .ref (X.1 k)), (1, .int p0), (2, .int x2)]) hx hb dX1_gainOf_52 rfl hl (by decide) rfl (fun ls hl => ?_)
      refine lv_iload_n hx hb dX1_gainOf_53 rfl (lv_at hl 3 rfl) ?_
      refine lv_aload_n hx hb dX1_gainOf_54 rfl (lv_at hl 1 rfl) ?_
      obtain ⟨a5, ea5, hf⟩ := st_bd hf
      refine pz_gR hE hH fr_X1_9 (q_mor_0 hk) ea5 dX1_gainOf_55 (fun ha5 => ?_)
      replace ha5 : q_vil a5 = true := ha5
      refine lv_iload_n hx hb dX1_gainOf_58 rfl (lv_at hl 2 rfl) ?_
      refine lv_iconst (v := 2) hx hb dX1_gainOf_59 (by decide) ?_
      obtain ⟨r6, er6, hf⟩ := st_bd hf
      refine q_calli (q_runV (As := [.int p0, .int 2]) (rest := [.int x2]) hE hH (tz_X7_ofPerson l X ha5 (hf := er6)) kv_X1_97 (q_vil_0 ha5) (by decide) rfl hl.1 rfl (Nat.le_of_ble_eq_true rfl) dX1_gainOf_60) hH (fun H locs hH => ?_)
      refine lv_iload_n hx hb dX1_gainOf_63 rfl (lv_at hl 0 rfl) ?_
      refine lv_imul hx hb dX1_gainOf_64 ?_
      refine lv_isub hx hb dX1_gainOf_65 ?_
      replace hf := Option.some.inj hf
      subst hf
      exact pz_reti hE hrt hlk hH dX1_gainOf_66
    clear hf
    replace hf := hr
    refine lv_icmp_ne (tgt := 46) hx hb dX1_gainOf_36 (by decide) (fun hc => ?_) (fun hc => ?_)
    · replace hf := (if_neg hc).symm.trans hf
      refine lv_aload_n hx hb dX1_gainOf_46 rfl (lv_at hl 1 rfl) ?_
      refine pz_gS (a := k + 1) hE hH fr_X1_60 (q_mor_0 hk) rfl dX1_gainOf_47 ?_
      refine lv_iload_n hx hb dX1_gainOf_50 rfl (lv_at hl 2 rfl) ?_
      obtain ⟨v7, ev7, hf⟩ := st_bd hf
      refine pz_iald hE hH (q_mor_1 hk) ev7 dX1_gainOf_51 ?_
      replace hf := Option.some.inj hf
      subst hf
      exact hJ ls H locs hH (lv_sub hl [1, 2, 0] rfl)
    · replace hf := (if_pos hc).symm.trans hf
      refine lv_aload_n hx hb dX1_gainOf_39 rfl (lv_at hl 1 rfl) ?_
      refine pz_gI hE hH fr_X1_38 (q_mor_0 hk) dX1_gainOf_40 ?_
      refine lv_goto (tgt := 52) hx hb dX1_gainOf_43 (by decide) ?_
      replace hf := Option.some.inj hf
      subst hf
      exact hJ ls H locs hH (lv_sub hl [1, 2, 0] rfl)
  clear hf
  replace hf := hr
  refine lv_if_eq (tgt := 27) hx hb dX1_gainOf_5 (by decide) (fun hc => ?_) (fun hc => ?_)
  · replace hf := (if_pos hc).symm.trans hf
    refine lv_iconst (v := 0) hx hb dX1_gainOf_27 (by decide) ?_
    replace hf := Option.some.inj hf
    subst hf
    exact hJ ls H locs hH (lv_sub hl [0, 1] rfl)
  · replace hf := (if_neg hc).symm.trans hf
    refine lv_aload_n hx hb dX1_gainOf_8 rfl (lv_at hl 0 rfl) ?_
    obtain ⟨a8, ea8, hf⟩ := st_bd hf
    refine pz_gR hE hH fr_X1_9 (q_mor_0 hk) ea8 dX1_gainOf_9 (fun ha8 => ?_)
    replace ha8 : q_vil a8 = true := ha8
    refine lv_aload_n hx hb dX1_gainOf_12 rfl (lv_at hl 0 rfl) ?_
    refine pz_gI hE hH fr_X1_15 (q_mor_0 hk) dX1_gainOf_13 ?_
    refine lv_aload_n hx hb dX1_gainOf_16 rfl (lv_at hl 0 rfl) ?_
    refine lv_iload_n hx hb dX1_gainOf_17 rfl (lv_at hl 1 rfl) ?_
    obtain ⟨r9, er9, hf⟩ := st_bd hf
    refine q_calli (q_runV (As := [.int p0]) (rest := [.int (M.1 k 1), .ref (X.1 a8)]) hE hH (tz_X1_minuteOf l X hk (hf := er9)) kv_X1_104 (q_mor_0 hk) (by decide) rfl hl.1 rfl (Nat.le_of_ble_eq_true rfl) dX1_gainOf_18) hH (fun H locs hH => ?_)
    obtain ⟨r10, er10, hf⟩ := st_bd hf
    refine q_calli (q_runV (As := [.int (M.1 k 1), .int r9]) (rest := []) hE hH (tz_X7_worthIn l X ha8 (hf := er10)) kv_X1_108 (q_vil_0 ha8) (by decide) rfl hl.1 rfl (Nat.le_of_ble_eq_true rfl) dX1_gainOf_21) hH (fun H locs hH => ?_)
    refine lv_goto (tgt := 28) hx hb dX1_gainOf_24 (by decide) ?_
    replace hf := Option.some.inj hf
    subst hf
    exact hJ ls H locs hH (lv_sub hl [0, 1] rfl)

theorem dX1_receive_0 : decode cX1_receive 0 = .ok (.aload_n 0, 1) := by decide +kernel
theorem dX1_receive_1 : decode cX1_receive 1 = .ok (.dup, 1) := by decide +kernel
theorem dX1_receive_2 : decode cX1_receive 2 = .ok (.getfield 41, 3) := by decide +kernel
theorem dX1_receive_5 : decode cX1_receive 5 = .ok (.iconst 1, 1) := by decide +kernel
theorem dX1_receive_6 : decode cX1_receive 6 = .ok (.iadd, 1) := by decide +kernel
theorem dX1_receive_7 : decode cX1_receive 7 = .ok (.putfield 41, 3) := by decide +kernel
theorem dX1_receive_10 : decode cX1_receive 10 = .ok (.aload_n 0, 1) := by decide +kernel
theorem dX1_receive_11 : decode cX1_receive 11 = .ok (.getfield 64, 3) := by decide +kernel
theorem dX1_receive_14 : decode cX1_receive 14 = .ok (.iload_n 1, 1) := by decide +kernel
theorem dX1_receive_15 : decode cX1_receive 15 = .ok (.aload_n 0, 1) := by decide +kernel
theorem dX1_receive_16 : decode cX1_receive 16 = .ok (.getfield 41, 3) := by decide +kernel
theorem dX1_receive_19 : decode cX1_receive 19 = .ok (.iastore, 1) := by decide +kernel
theorem dX1_receive_20 : decode cX1_receive 20 = .ok (.aload_n 0, 1) := by decide +kernel
theorem dX1_receive_21 : decode cX1_receive 21 = .ok (.iload_n 1, 1) := by decide +kernel
theorem dX1_receive_22 : decode cX1_receive 22 = .ok (.invokevirtual 100, 3) := by decide +kernel
theorem dX1_receive_25 : decode cX1_receive 25 = .ok (.ifCond .eq 37, 3) := by decide +kernel
theorem dX1_receive_28 : decode cX1_receive 28 = .ok (.aload_n 0, 1) := by decide +kernel
theorem dX1_receive_29 : decode cX1_receive 29 = .ok (.dup, 1) := by decide +kernel
theorem dX1_receive_30 : decode cX1_receive 30 = .ok (.getfield 47, 3) := by decide +kernel
theorem dX1_receive_33 : decode cX1_receive 33 = .ok (.iconst 1, 1) := by decide +kernel
theorem dX1_receive_34 : decode cX1_receive 34 = .ok (.iadd, 1) := by decide +kernel
theorem dX1_receive_35 : decode cX1_receive 35 = .ok (.putfield 47, 3) := by decide +kernel
theorem dX1_receive_38 : decode cX1_receive 38 = .ok (.aload_n 0, 1) := by decide +kernel
theorem dX1_receive_39 : decode cX1_receive 39 = .ok (.iload_n 1, 1) := by decide +kernel
theorem dX1_receive_40 : decode cX1_receive 40 = .ok (.putfield 57, 3) := by decide +kernel
theorem dX1_receive_43 : decode cX1_receive 43 = .ok (.aload_n 0, 1) := by decide +kernel
theorem dX1_receive_44 : decode cX1_receive 44 = .ok (.getfield 47, 3) := by decide +kernel
theorem dX1_receive_47 : decode cX1_receive 47 = .ok (.aload_n 0, 1) := by decide +kernel
theorem dX1_receive_48 : decode cX1_receive 48 = .ok (.getfield 25, 3) := by decide +kernel
theorem dX1_receive_51 : decode cX1_receive 51 = .ok (.if_icmp .lt 11, 3) := by decide +kernel
theorem dX1_receive_54 : decode cX1_receive 54 = .ok (.aload_n 0, 1) := by decide +kernel
theorem dX1_receive_55 : decode cX1_receive 55 = .ok (.aload_n 0, 1) := by decide +kernel
theorem dX1_receive_56 : decode cX1_receive 56 = .ok (.getfield 38, 3) := by decide +kernel
theorem dX1_receive_59 : decode cX1_receive 59 = .ok (.putfield 54, 3) := by decide +kernel
theorem dX1_receive_62 : decode cX1_receive 62 = .ok (.return_, 1) := by decide +kernel
set_option maxRecDepth 100000 in
set_option maxHeartbeats 4000000 in
theorem tz_X1_receive (l : Launch) (X : qX) {k : Nat} {p0 : Int32} {M MR : qM} (hk : q_mor k = true) (hf : jMo_receive k p0 M = some MR) : q_Met l X yX1_receive cX1_receive 2 none (2) M [.ref (X.1 k), .int p0] (q_Qv X MR) := by
  refine q_enter (by decide) (Nat.le_of_ble_eq_true rfl) ?_
  intro p e s m args below meth c hE hrt hlk H locs hH ls hl
  have hx := hE.1
  have hb := hE.2.1
  have hl : lv_has ls 2 [(0, .ref (X.1 k)), (1, .int p0)] := hl
  unfold jMo_receive at hf
  refine lv_aload_n hx hb dX1_receive_0 rfl (lv_at hl 0 rfl) ?_
  refine lv_dup hx hb dX1_receive_1 rfl ?_
  refine pz_gI hE hH fr_X1_41 (q_mor_0 hk) dX1_receive_2 ?_
  refine lv_iconst (v := 1) hx hb dX1_receive_5 (by decide) ?_
  refine lv_iadd hx hb dX1_receive_6 ?_
  obtain ⟨M1, eM1, hf⟩ := st_lty hf
  refine pz_pI hE hH fw_X1_41 (q_mor_0 hk)  eM1 dX1_receive_7 (fun H locs hH => ?_)
  refine lv_aload_n hx hb dX1_receive_10 rfl (lv_at hl 0 rfl) ?_
  refine pz_gS (a := k + 2) hE hH fr_X1_64 (q_mor_0 hk) rfl dX1_receive_11 ?_
  refine lv_iload_n hx hb dX1_receive_14 rfl (lv_at hl 1 rfl) ?_
  refine lv_aload_n hx hb dX1_receive_15 rfl (lv_at hl 0 rfl) ?_
  refine pz_gI hE hH fr_X1_41 (q_mor_0 hk) dX1_receive_16 ?_
  obtain ⟨M2, eM2, hf⟩ := st_bd hf
  refine pz_iast hE hH (q_mor_2 hk) eM2 dX1_receive_19 (fun H locs hH => ?_)
  refine lv_aload_n hx hb dX1_receive_20 rfl (lv_at hl 0 rfl) ?_
  refine lv_iload_n hx hb dX1_receive_21 rfl (lv_at hl 1 rfl) ?_
  obtain ⟨r3, er3, hf⟩ := st_bd hf
  refine q_calli (q_runV (As := [.int p0]) (rest := []) hE hH (tz_X1_has l X hk (hf := er3)) kv_X1_100 (q_mor_0 hk) (by decide) rfl hl.1 rfl (Nat.le_of_ble_eq_true rfl) dX1_receive_22) hH (fun H locs hH => ?_)
  obtain ⟨M4, hr, hf⟩ := st_ltx hf
  have hJ : ∀ (ls : Array Slot) (H : Heap) (locs : List Loc), q_H X M4 s H locs → lv_has ls 2 [] → W p l e (q_rm (2)) s m args below meth c H locs 0 0 (MQ below (q_Qv X MR) args s 0 0 (q_A X)) (F0 m 62 ls []) := by
    intro ls H locs hH hl
    replace hf := Option.some.inj hf
    subst hf
    exact pz_retv hE hrt hlk hH dX1_receive_62
  clear hf
  replace hf := hr
  refine lv_if_eq (tgt := 62) hx hb dX1_receive_25 (by decide) (fun hc => ?_) (fun hc => ?_)
  · replace hf := (if_pos hc).symm.trans hf
    subst hf
    exact hJ ls H locs hH (lv_sub hl [] rfl)
  · replace hf := (if_neg hc).symm.trans hf
    refine lv_aload_n hx hb dX1_receive_28 rfl (lv_at hl 0 rfl) ?_
    refine lv_dup hx hb dX1_receive_29 rfl ?_
    refine pz_gI hE hH fr_X1_47 (q_mor_0 hk) dX1_receive_30 ?_
    refine lv_iconst (v := 1) hx hb dX1_receive_33 (by decide) ?_
    refine lv_iadd hx hb dX1_receive_34 ?_
    obtain ⟨M5, eM5, hf⟩ := st_lty hf
    refine pz_pI hE hH fw_X1_47 (q_mor_0 hk)  eM5 dX1_receive_35 (fun H locs hH => ?_)
    refine lv_aload_n hx hb dX1_receive_38 rfl (lv_at hl 0 rfl) ?_
    refine lv_iload_n hx hb dX1_receive_39 rfl (lv_at hl 1 rfl) ?_
    obtain ⟨M6, eM6, hf⟩ := st_lty hf
    refine pz_pI hE hH fw_X1_57 (q_mor_0 hk)  eM6 dX1_receive_40 (fun H locs hH => ?_)
    refine lv_aload_n hx hb dX1_receive_43 rfl (lv_at hl 0 rfl) ?_
    refine pz_gI hE hH fr_X1_47 (q_mor_0 hk) dX1_receive_44 ?_
    refine lv_aload_n hx hb dX1_receive_47 rfl (lv_at hl 0 rfl) ?_
    refine pz_gI hE hH fr_X1_25 (q_mor_0 hk) dX1_receive_48 ?_
    refine lv_icmp_lt (tgt := 62) hx hb dX1_receive_51 (by decide) (fun hc => ?_) (fun hc => ?_)
    · replace hf := (if_pos hc).symm.trans hf
      subst hf
      exact hJ ls H locs hH (lv_sub hl [] rfl)
    · replace hf := (if_neg hc).symm.trans hf
      refine lv_aload_n hx hb dX1_receive_54 rfl (lv_at hl 0 rfl) ?_
      refine lv_aload_n hx hb dX1_receive_55 rfl (lv_at hl 0 rfl) ?_
      refine pz_gI hE hH fr_X1_38 (q_mor_0 hk) dX1_receive_56 ?_
      obtain ⟨M7, eM7, hf⟩ := st_lty hf
      refine pz_pI hE hH fw_X1_54 (q_mor_0 hk)  eM7 dX1_receive_59 (fun H locs hH => ?_)
      subst hf
      exact hJ ls H locs hH (lv_sub hl [] rfl)

theorem dX1_arrive_0 : decode cX1_arrive 0 = .ok (.aload_n 0, 1) := by decide +kernel
theorem dX1_arrive_1 : decode cX1_arrive 1 = .ok (.invokevirtual 118, 3) := by decide +kernel
theorem dX1_arrive_4 : decode cX1_arrive 4 = .ok (.ifCond .ne 4, 3) := by decide +kernel
theorem dX1_arrive_7 : decode cX1_arrive 7 = .ok (.return_, 1) := by decide +kernel
theorem dX1_arrive_8 : decode cX1_arrive 8 = .ok (.iconst 0, 1) := by decide +kernel
theorem dX1_arrive_9 : decode cX1_arrive 9 = .ok (.istore_n 1, 1) := by decide +kernel
theorem dX1_arrive_10 : decode cX1_arrive 10 = .ok (.iload_n 1, 1) := by decide +kernel
theorem dX1_arrive_11 : decode cX1_arrive 11 = .ok (.aload_n 0, 1) := by decide +kernel
theorem dX1_arrive_12 : decode cX1_arrive 12 = .ok (.getfield 9, 3) := by decide +kernel
theorem dX1_arrive_15 : decode cX1_arrive 15 = .ok (.getfield 76, 3) := by decide +kernel
theorem dX1_arrive_18 : decode cX1_arrive 18 = .ok (.if_icmp .ge 56, 3) := by decide +kernel
theorem dX1_arrive_21 : decode cX1_arrive 21 = .ok (.aload_n 0, 1) := by decide +kernel
theorem dX1_arrive_22 : decode cX1_arrive 22 = .ok (.iload_n 1, 1) := by decide +kernel
theorem dX1_arrive_23 : decode cX1_arrive 23 = .ok (.invokevirtual 122, 3) := by decide +kernel
theorem dX1_arrive_26 : decode cX1_arrive 26 = .ok (.iconst 1, 1) := by decide +kernel
theorem dX1_arrive_27 : decode cX1_arrive 27 = .ok (.if_icmp .ne 7, 3) := by decide +kernel
theorem dX1_arrive_30 : decode cX1_arrive 30 = .ok (.iconst 1, 1) := by decide +kernel
theorem dX1_arrive_31 : decode cX1_arrive 31 = .ok (.goto 4, 3) := by decide +kernel
theorem dX1_arrive_34 : decode cX1_arrive 34 = .ok (.iconst 0, 1) := by decide +kernel
theorem dX1_arrive_35 : decode cX1_arrive 35 = .ok (.istore_n 2, 1) := by decide +kernel
theorem dX1_arrive_36 : decode cX1_arrive 36 = .ok (.iload_n 2, 1) := by decide +kernel
theorem dX1_arrive_37 : decode cX1_arrive 37 = .ok (.ifCond .eq 31, 3) := by decide +kernel
theorem dX1_arrive_40 : decode cX1_arrive 40 = .ok (.aload_n 0, 1) := by decide +kernel
theorem dX1_arrive_41 : decode cX1_arrive 41 = .ok (.getfield 60, 3) := by decide +kernel
theorem dX1_arrive_44 : decode cX1_arrive 44 = .ok (.iload_n 1, 1) := by decide +kernel
theorem dX1_arrive_45 : decode cX1_arrive 45 = .ok (.iaload, 1) := by decide +kernel
theorem dX1_arrive_46 : decode cX1_arrive 46 = .ok (.aload_n 0, 1) := by decide +kernel
theorem dX1_arrive_47 : decode cX1_arrive 47 = .ok (.getfield 9, 3) := by decide +kernel
theorem dX1_arrive_50 : decode cX1_arrive 50 = .ok (.iload_n 1, 1) := by decide +kernel
theorem dX1_arrive_51 : decode cX1_arrive 51 = .ok (.iconst 1, 1) := by decide +kernel
theorem dX1_arrive_52 : decode cX1_arrive 52 = .ok (.invokevirtual 97, 3) := by decide +kernel
theorem dX1_arrive_55 : decode cX1_arrive 55 = .ok (.iadd, 1) := by decide +kernel
theorem dX1_arrive_56 : decode cX1_arrive 56 = .ok (.aload_n 0, 1) := by decide +kernel
theorem dX1_arrive_57 : decode cX1_arrive 57 = .ok (.getfield 38, 3) := by decide +kernel
theorem dX1_arrive_60 : decode cX1_arrive 60 = .ok (.if_icmp .ne 8, 3) := by decide +kernel
theorem dX1_arrive_63 : decode cX1_arrive 63 = .ok (.aload_n 0, 1) := by decide +kernel
theorem dX1_arrive_64 : decode cX1_arrive 64 = .ok (.iload_n 1, 1) := by decide +kernel
theorem dX1_arrive_65 : decode cX1_arrive 65 = .ok (.invokevirtual 125, 3) := by decide +kernel
theorem dX1_arrive_68 : decode cX1_arrive 68 = .ok (.iinc 1 1, 3) := by decide +kernel
theorem dX1_arrive_71 : decode cX1_arrive 71 = .ok (.goto (-61), 3) := by decide +kernel
theorem dX1_arrive_74 : decode cX1_arrive 74 = .ok (.return_, 1) := by decide +kernel
set_option maxRecDepth 100000 in
set_option maxHeartbeats 4000000 in
theorem tz_X1_arrive (l : Launch) (X : qX) {k : Nat} {M MR : qM} (hk : q_mor k = true) (hf : jMo_arrive k M = some MR) : q_Met l X yX1_arrive cX1_arrive 3 none (3) M [.ref (X.1 k)] (q_Qv X MR) := by
  refine q_enter (by decide) (Nat.le_of_ble_eq_true rfl) ?_
  intro p e s m args below meth c hE hrt hlk H locs hH ls hl
  have hx := hE.1
  have hb := hE.2.1
  have hl : lv_has ls 3 [(0, .ref (X.1 k))] := hl
  unfold jMo_arrive at hf
  refine lv_aload_n hx hb dX1_arrive_0 rfl (lv_at hl 0 rfl) ?_
  obtain ⟨r1, er1, hf⟩ := st_bd hf
  refine q_calli (q_runV (As := []) (rest := []) hE hH (tz_X1_underway l X hk (hf := er1)) kv_X1_118 (q_mor_0 hk) (by decide) rfl hl.1 rfl (Nat.le_of_ble_eq_true rfl) dX1_arrive_1) hH (fun H locs hH => ?_)
  refine lv_if_ne (tgt := 8) hx hb dX1_arrive_4 (by decide) (fun hc => ?_) (fun hc => ?_)
  · replace hf := (if_neg hc).symm.trans hf
    refine lv_iconst (v := 0) hx hb dX1_arrive_8 (by decide) ?_
    refine lv_istore_n (lv' := [(1, .int 0), (0, .ref (X.1 k))]) hx hb dX1_arrive_9 rfl hl (by decide) rfl (fun ls hl => ?_)
    obtain ⟨M4, hlp, hf⟩ := st_bd hf
    have hX : (fun M4 => ∀ (ls : Array Slot) (H : Heap) (locs : List Loc), q_H X M4 s H locs → lv_has ls 3 [] → W p l e (q_rm (3)) s m args below meth c H locs 0 0 (MQ below (q_Qv X MR) args s 0 0 (q_A X)) (F0 m 74 ls []) : qM → Prop) M4 := by
      intro ls H locs hH hl
      replace hf := Option.some.inj hf
      subst hf
      exact pz_retv hE hrt hlk hH dX1_arrive_74
    clear hf
    have hG := qlp_ind (r := M4) (fun q => qu2 q (fun x2 M3 => ∀ (ls : Array Slot) (H : Heap) (locs : List Loc), q_H X M3 s H locs → lv_has ls 3 [(0, .ref (X.1 k)), (1, .int x2)] → W p l e (q_rm (3)) s m args below meth c H locs 0 0 (MQ below (q_Qv X MR) args s 0 0 (q_A X)) (F0 m 10 ls []))) (by
        intro q o hf hK1 hK2
        obtain ⟨x2, M3⟩ := q
        replace hf := st_u2 hf
        intro ls H locs hH hl
        refine lv_iload_n hx hb dX1_arrive_10 rfl (lv_at hl 1 rfl) ?_
        refine lv_aload_n hx hb dX1_arrive_11 rfl (lv_at hl 0 rfl) ?_
        obtain ⟨a6, ea6, hf⟩ := st_bd hf
        refine pz_gR hE hH fr_X1_9 (q_mor_0 hk) ea6 dX1_arrive_12 (fun ha6 => ?_)
        replace ha6 : q_vil a6 = true := ha6
        refine pz_gI hE hH fr_X1_76 (q_vil_0 ha6) dX1_arrive_15 ?_
        refine lv_icmp_ge (tgt := 74) hx hb dX1_arrive_18 (by decide) (fun hc => ?_) (fun hc => ?_)
        · replace hf := (if_pos hc).symm.trans hf
          replace hf := hK2 _ (Option.some.inj hf).symm
          subst hf
          exact hX ls H locs hH (lv_sub hl [] rfl)
        · replace hf := (if_neg hc).symm.trans hf
          refine lv_aload_n hx hb dX1_arrive_21 rfl (lv_at hl 0 rfl) ?_
          refine lv_iload_n hx hb dX1_arrive_22 rfl (lv_at hl 1 rfl) ?_
          obtain ⟨r7, er7, hf⟩ := st_bd hf
          refine q_calli (q_runV (As := [.int x2]) (rest := []) hE hH (tz_X1_stateOf l X hk (hf := er7)) kv_X1_122 (q_mor_0 hk) (by decide) rfl hl.1 rfl (Nat.le_of_ble_eq_true rfl) dX1_arrive_23) hH (fun H locs hH => ?_)
          refine lv_iconst (v := 1) hx hb dX1_arrive_26 (by decide) ?_
          obtain ⟨z8, hr, hf⟩ := st_ltx hf
          have hJ : ∀ (ls : Array Slot) (H : Heap) (locs : List Loc), q_H X M3 s H locs → lv_has ls 3 [(0, .ref (X.1 k)), (1, .int x2)] → W p l e (q_rm (3)) s m args below meth c H locs 0 0 (MQ below (q_Qv X MR) args s 0 0 (q_A X)) (F0 m 35 ls [.int (b2i z8)]) := by
            intro ls H locs hH hl
            refine lv_istore_n (lv' := [(2, .int (b2i z8)), (0, .ref (X.1 k)), (1, .int x2)]) hx hb dX1_arrive_35 rfl hl (by decide) rfl (fun ls hl => ?_)
            refine lv_iload_n hx hb dX1_arrive_36 rfl (lv_at hl 0 rfl) ?_
            obtain ⟨M9, hr, hf⟩ := st_bd hf
            have hJ : ∀ (ls : Array Slot) (H : Heap) (locs : List Loc), q_H X M9 s H locs → lv_has ls 3 [(0, .ref (X.1 k)), (1, .int x2)] → W p l e (q_rm (3)) s m args below meth c H locs 0 0 (MQ below (q_Qv X MR) args s 0 0 (q_A X)) (F0 m 68 ls []) := by
              intro ls H locs hH hl
              obtain ⟨x10, ex10, hf⟩ := st_lty hf
              refine lv_iinc (v := x10) (lv' := [(1, .int x10), (0, .ref (X.1 k))]) hx hb dX1_arrive_68 hl (k := 1) rfl (by rw [ex10]; rfl) (by decide) rfl (fun ls hl => ?_)
              refine lv_goto (tgt := 10) hx hb dX1_arrive_71 (by decide) ?_
              exact hK1 _ (Option.some.inj hf).symm ls H locs hH (lv_sub hl [1, 0] rfl)
            clear hf
            replace hf := hr
            refine lv_if_eq (tgt := 68) hx hb dX1_arrive_37 (by decide) (fun hc => ?_) (fun hc => ?_)
            · replace hf := (if_pos hc).symm.trans hf
              replace hf := Option.some.inj hf
              subst hf
              exact hJ ls H locs hH (lv_sub hl [1, 2] rfl)
            · replace hf := (if_neg hc).symm.trans hf
              refine lv_aload_n hx hb dX1_arrive_40 rfl (lv_at hl 1 rfl) ?_
              refine pz_gS (a := k + 1) hE hH fr_X1_60 (q_mor_0 hk) rfl dX1_arrive_41 ?_
              refine lv_iload_n hx hb dX1_arrive_44 rfl (lv_at hl 2 rfl) ?_
              obtain ⟨v11, ev11, hf⟩ := st_bd hf
              refine pz_iald hE hH (q_mor_1 hk) ev11 dX1_arrive_45 ?_
              refine lv_aload_n hx hb dX1_arrive_46 rfl (lv_at hl 1 rfl) ?_
              obtain ⟨a12, ea12, hf⟩ := st_bd hf
              refine pz_gR hE hH fr_X1_9 (q_mor_0 hk) ea12 dX1_arrive_47 (fun ha12 => ?_)
              replace ha12 : q_vil a12 = true := ha12
              refine lv_iload_n hx hb dX1_arrive_50 rfl (lv_at hl 2 rfl) ?_
              refine lv_iconst (v := 1) hx hb dX1_arrive_51 (by decide) ?_
              obtain ⟨r13, er13, hf⟩ := st_bd hf
              refine q_calli (q_runV (As := [.int x2, .int 1]) (rest := [.int v11]) hE hH (tz_X7_ofPerson l X ha12 (hf := er13)) kv_X1_97 (q_vil_0 ha12) (by decide) rfl hl.1 rfl (Nat.le_of_ble_eq_true rfl) dX1_arrive_52) hH (fun H locs hH => ?_)
              refine lv_iadd hx hb dX1_arrive_55 ?_
              refine lv_aload_n hx hb dX1_arrive_56 rfl (lv_at hl 1 rfl) ?_
              refine pz_gI hE hH fr_X1_38 (q_mor_0 hk) dX1_arrive_57 ?_
              refine lv_icmp_ne (tgt := 68) hx hb dX1_arrive_60 (by decide) (fun hc => ?_) (fun hc => ?_)
              · replace hf := (if_neg hc).symm.trans hf
                replace hf := Option.some.inj hf
                subst hf
                exact hJ ls H locs hH (lv_sub hl [1, 2] rfl)
              · replace hf := (if_pos hc).symm.trans hf
                refine lv_aload_n hx hb dX1_arrive_63 rfl (lv_at hl 1 rfl) ?_
                refine lv_iload_n hx hb dX1_arrive_64 rfl (lv_at hl 2 rfl) ?_
                obtain ⟨M14, eM14, hf⟩ := st_bd hf
                refine q_callv (q_runV (As := [.int x2]) (rest := []) hE hH (tz_X1_receive l X hk (hf := eM14)) kv_X1_125 (q_mor_0 hk) (by decide) rfl hl.1 rfl (Nat.le_of_ble_eq_true rfl) dX1_arrive_65) hH (fun H locs hH => ?_)
                replace hf := Option.some.inj hf
                subst hf
                exact hJ ls H locs hH (lv_sub hl [1, 2] rfl)
          clear hf
          replace hf := hr
          refine lv_icmp_ne (tgt := 34) hx hb dX1_arrive_27 (by decide) (fun hc => ?_) (fun hc => ?_)
          · replace hf := (if_neg hc).symm.trans hf
            refine lv_iconst (v := 0) hx hb dX1_arrive_34 (by decide) ?_
            subst hf
            exact hJ ls H locs hH (lv_sub hl [0, 1] rfl)
          · replace hf := (if_pos hc).symm.trans hf
            refine lv_iconst (v := 1) hx hb dX1_arrive_30 (by decide) ?_
            refine lv_goto (tgt := 35) hx hb dX1_arrive_31 (by decide) ?_
            subst hf
            exact hJ ls H locs hH (lv_sub hl [0, 1] rfl)) _ hlp
    exact hG ls H locs hH (lv_sub hl [1, 0] rfl)
  · replace hf := (if_pos hc).symm.trans hf
    replace hf := Option.some.inj hf
    subst hf
    exact pz_retv hE hrt hlk hH dX1_arrive_7

theorem dX1_goesUnasked_0 : decode cX1_goesUnasked 0 = .ok (.iload_n 1, 1) := by decide +kernel
theorem dX1_goesUnasked_1 : decode cX1_goesUnasked 1 = .ok (.aload_n 0, 1) := by decide +kernel
theorem dX1_goesUnasked_2 : decode cX1_goesUnasked 2 = .ok (.getfield 28, 3) := by decide +kernel
theorem dX1_goesUnasked_5 : decode cX1_goesUnasked 5 = .ok (.if_icmp .eq 23, 3) := by decide +kernel
theorem dX1_goesUnasked_8 : decode cX1_goesUnasked 8 = .ok (.iload_n 2, 1) := by decide +kernel
theorem dX1_goesUnasked_9 : decode cX1_goesUnasked 9 = .ok (.aload_n 0, 1) := by decide +kernel
theorem dX1_goesUnasked_10 : decode cX1_goesUnasked 10 = .ok (.getfield 31, 3) := by decide +kernel
theorem dX1_goesUnasked_13 : decode cX1_goesUnasked 13 = .ok (.if_icmp .eq 15, 3) := by decide +kernel
theorem dX1_goesUnasked_16 : decode cX1_goesUnasked 16 = .ok (.aload_n 0, 1) := by decide +kernel
theorem dX1_goesUnasked_17 : decode cX1_goesUnasked 17 = .ok (.getfield 9, 3) := by decide +kernel
theorem dX1_goesUnasked_20 : decode cX1_goesUnasked 20 = .ok (.iload_n 2, 1) := by decide +kernel
theorem dX1_goesUnasked_21 : decode cX1_goesUnasked 21 = .ok (.iconst 3, 1) := by decide +kernel
theorem dX1_goesUnasked_22 : decode cX1_goesUnasked 22 = .ok (.invokevirtual 88, 3) := by decide +kernel
theorem dX1_goesUnasked_25 : decode cX1_goesUnasked 25 = .ok (.ifCond .ne 7, 3) := by decide +kernel
theorem dX1_goesUnasked_28 : decode cX1_goesUnasked 28 = .ok (.iconst 1, 1) := by decide +kernel
theorem dX1_goesUnasked_29 : decode cX1_goesUnasked 29 = .ok (.goto 4, 3) := by decide +kernel
theorem dX1_goesUnasked_32 : decode cX1_goesUnasked 32 = .ok (.iconst 0, 1) := by decide +kernel
theorem dX1_goesUnasked_33 : decode cX1_goesUnasked 33 = .ok (.ireturn, 1) := by decide +kernel
set_option maxRecDepth 100000 in
set_option maxHeartbeats 4000000 in
theorem tz_X1_goesUnasked (l : Launch) (X : qX) {k : Nat} {p0 : Int32} {p1 : Int32} {M : qM} {r0 : Bool} (hk : q_mor k = true) (hf : jMo_goesUnasked k p0 p1 M = some r0) : q_Met l X yX1_goesUnasked cX1_goesUnasked 3 (some .boolean) (2) M [.ref (X.1 k), .int p0, .int p1] (q_Qi X (b2i r0) M) := by
  refine q_enter (by decide) (Nat.le_of_ble_eq_true rfl) ?_
  intro p e s m args below meth c hE hrt hlk H locs hH ls hl
  have hx := hE.1
  have hb := hE.2.1
  have hl : lv_has ls 3 [(0, .ref (X.1 k)), (1, .int p0), (2, .int p1)] := hl
  unfold jMo_goesUnasked at hf
  refine lv_iload_n hx hb dX1_goesUnasked_0 rfl (lv_at hl 1 rfl) ?_
  refine lv_aload_n hx hb dX1_goesUnasked_1 rfl (lv_at hl 0 rfl) ?_
  refine pz_gI hE hH fr_X1_28 (q_mor_0 hk) dX1_goesUnasked_2 ?_
  obtain ⟨z1, hr, hf⟩ := st_bd hf
  have hJ : ∀ (ls : Array Slot) (H : Heap) (locs : List Loc), q_H X M s H locs → lv_has ls 3 [] → W p l e (q_rm (2)) s m args below meth c H locs 0 0 (MQ below (q_Qi X (b2i r0) M) args s 0 0 (q_A X)) (F0 m 33 ls [.int (b2i z1)]) := by
    intro ls H locs hH hl
    replace hf := Option.some.inj hf
    subst hf
    exact pz_retz hE hrt hlk hH rfl dX1_goesUnasked_33
  clear hf
  replace hf := hr
  refine lv_icmp_eq (tgt := 28) hx hb dX1_goesUnasked_5 (by decide) (fun hc => ?_) (fun hc => ?_)
  · replace hf := (if_pos hc).symm.trans hf
    refine lv_iconst (v := 1) hx hb dX1_goesUnasked_28 (by decide) ?_
    refine lv_goto (tgt := 33) hx hb dX1_goesUnasked_29 (by decide) ?_
    replace hf := Option.some.inj hf
    subst hf
    exact hJ ls H locs hH (lv_sub hl [] rfl)
  · replace hf := (if_neg hc).symm.trans hf
    refine lv_iload_n hx hb dX1_goesUnasked_8 rfl (lv_at hl 2 rfl) ?_
    refine lv_aload_n hx hb dX1_goesUnasked_9 rfl (lv_at hl 0 rfl) ?_
    refine pz_gI hE hH fr_X1_31 (q_mor_0 hk) dX1_goesUnasked_10 ?_
    refine lv_icmp_eq (tgt := 28) hx hb dX1_goesUnasked_13 (by decide) (fun hc => ?_) (fun hc => ?_)
    · replace hf := (if_pos hc).symm.trans hf
      refine lv_iconst (v := 1) hx hb dX1_goesUnasked_28 (by decide) ?_
      refine lv_goto (tgt := 33) hx hb dX1_goesUnasked_29 (by decide) ?_
      replace hf := Option.some.inj hf
      subst hf
      exact hJ ls H locs hH (lv_sub hl [] rfl)
    · replace hf := (if_neg hc).symm.trans hf
      refine lv_aload_n hx hb dX1_goesUnasked_16 rfl (lv_at hl 0 rfl) ?_
      obtain ⟨a2, ea2, hf⟩ := st_bd hf
      refine pz_gR hE hH fr_X1_9 (q_mor_0 hk) ea2 dX1_goesUnasked_17 (fun ha2 => ?_)
      replace ha2 : q_vil a2 = true := ha2
      refine lv_iload_n hx hb dX1_goesUnasked_20 rfl (lv_at hl 2 rfl) ?_
      refine lv_iconst (v := 3) hx hb dX1_goesUnasked_21 (by decide) ?_
      obtain ⟨r3, er3, hf⟩ := st_bd hf
      refine q_calli (q_runV (As := [.int p1, .int 3]) (rest := []) hE hH (tz_X7_ofSort l X ha2 (hf := er3)) kv_X1_88 (q_vil_0 ha2) (by decide) rfl hl.1 rfl (Nat.le_of_ble_eq_true rfl) dX1_goesUnasked_22) hH (fun H locs hH => ?_)
      refine lv_if_ne (tgt := 32) hx hb dX1_goesUnasked_25 (by decide) (fun hc => ?_) (fun hc => ?_)
      · replace hf := (if_neg hc).symm.trans hf
        refine lv_iconst (v := 0) hx hb dX1_goesUnasked_32 (by decide) ?_
        replace hf := Option.some.inj hf
        subst hf
        exact hJ ls H locs hH (lv_sub hl [] rfl)
      · replace hf := (if_pos hc).symm.trans hf
        refine lv_iconst (v := 1) hx hb dX1_goesUnasked_28 (by decide) ?_
        refine lv_goto (tgt := 33) hx hb dX1_goesUnasked_29 (by decide) ?_
        replace hf := Option.some.inj hf
        subst hf
        exact hJ ls H locs hH (lv_sub hl [] rfl)

theorem dX1_spell_0 : decode cX1_spell 0 = .ok (.aload_n 2, 1) := by decide +kernel
theorem dX1_spell_1 : decode cX1_spell 1 = .ok (.iconst 0, 1) := by decide +kernel
theorem dX1_spell_2 : decode cX1_spell 2 = .ok (.aload_n 0, 1) := by decide +kernel
theorem dX1_spell_3 : decode cX1_spell 3 = .ok (.getfield 38, 3) := by decide +kernel
theorem dX1_spell_6 : decode cX1_spell 6 = .ok (.iastore, 1) := by decide +kernel
theorem dX1_spell_7 : decode cX1_spell 7 = .ok (.aload_n 2, 1) := by decide +kernel
theorem dX1_spell_8 : decode cX1_spell 8 = .ok (.iconst 1, 1) := by decide +kernel
theorem dX1_spell_9 : decode cX1_spell 9 = .ok (.aload_n 0, 1) := by decide +kernel
theorem dX1_spell_10 : decode cX1_spell 10 = .ok (.getfield 41, 3) := by decide +kernel
theorem dX1_spell_13 : decode cX1_spell 13 = .ok (.iastore, 1) := by decide +kernel
theorem dX1_spell_14 : decode cX1_spell 14 = .ok (.aload_n 2, 1) := by decide +kernel
theorem dX1_spell_15 : decode cX1_spell 15 = .ok (.iconst 2, 1) := by decide +kernel
theorem dX1_spell_16 : decode cX1_spell 16 = .ok (.aload_n 0, 1) := by decide +kernel
theorem dX1_spell_17 : decode cX1_spell 17 = .ok (.getfield 19, 3) := by decide +kernel
theorem dX1_spell_20 : decode cX1_spell 20 = .ok (.ifCond .ne 7, 3) := by decide +kernel
theorem dX1_spell_23 : decode cX1_spell 23 = .ok (.iconst 0, 1) := by decide +kernel
theorem dX1_spell_24 : decode cX1_spell 24 = .ok (.goto 7, 3) := by decide +kernel
theorem dX1_spell_27 : decode cX1_spell 27 = .ok (.aload_n 0, 1) := by decide +kernel
theorem dX1_spell_28 : decode cX1_spell 28 = .ok (.invokevirtual 118, 3) := by decide +kernel
theorem dX1_spell_31 : decode cX1_spell 31 = .ok (.iastore, 1) := by decide +kernel
theorem dX1_spell_32 : decode cX1_spell 32 = .ok (.aload_n 2, 1) := by decide +kernel
theorem dX1_spell_33 : decode cX1_spell 33 = .ok (.iconst 3, 1) := by decide +kernel
theorem dX1_spell_34 : decode cX1_spell 34 = .ok (.aload_n 0, 1) := by decide +kernel
theorem dX1_spell_35 : decode cX1_spell 35 = .ok (.getfield 22, 3) := by decide +kernel
theorem dX1_spell_38 : decode cX1_spell 38 = .ok (.iastore, 1) := by decide +kernel
theorem dX1_spell_39 : decode cX1_spell 39 = .ok (.aload_n 2, 1) := by decide +kernel
theorem dX1_spell_40 : decode cX1_spell 40 = .ok (.iconst 4, 1) := by decide +kernel
theorem dX1_spell_41 : decode cX1_spell 41 = .ok (.aload_n 0, 1) := by decide +kernel
theorem dX1_spell_42 : decode cX1_spell 42 = .ok (.getfield 67, 3) := by decide +kernel
theorem dX1_spell_45 : decode cX1_spell 45 = .ok (.iload_n 1, 1) := by decide +kernel
theorem dX1_spell_46 : decode cX1_spell 46 = .ok (.iaload, 1) := by decide +kernel
theorem dX1_spell_47 : decode cX1_spell 47 = .ok (.iconst 1, 1) := by decide +kernel
theorem dX1_spell_48 : decode cX1_spell 48 = .ok (.isub, 1) := by decide +kernel
theorem dX1_spell_49 : decode cX1_spell 49 = .ok (.iastore, 1) := by decide +kernel
theorem dX1_spell_50 : decode cX1_spell 50 = .ok (.aload_n 2, 1) := by decide +kernel
theorem dX1_spell_51 : decode cX1_spell 51 = .ok (.iconst 5, 1) := by decide +kernel
theorem dX1_spell_52 : decode cX1_spell 52 = .ok (.aload_n 0, 1) := by decide +kernel
theorem dX1_spell_53 : decode cX1_spell 53 = .ok (.getfield 44, 3) := by decide +kernel
theorem dX1_spell_56 : decode cX1_spell 56 = .ok (.iconst 1, 1) := by decide +kernel
theorem dX1_spell_57 : decode cX1_spell 57 = .ok (.isub, 1) := by decide +kernel
theorem dX1_spell_58 : decode cX1_spell 58 = .ok (.iastore, 1) := by decide +kernel
theorem dX1_spell_59 : decode cX1_spell 59 = .ok (.aload_n 2, 1) := by decide +kernel
theorem dX1_spell_60 : decode cX1_spell 60 = .ok (.bipush 6, 2) := by decide +kernel
theorem dX1_spell_62 : decode cX1_spell 62 = .ok (.aload_n 0, 1) := by decide +kernel
theorem dX1_spell_63 : decode cX1_spell 63 = .ok (.getfield 9, 3) := by decide +kernel
theorem dX1_spell_66 : decode cX1_spell 66 = .ok (.aload_n 0, 1) := by decide +kernel
theorem dX1_spell_67 : decode cX1_spell 67 = .ok (.getfield 15, 3) := by decide +kernel
theorem dX1_spell_70 : decode cX1_spell 70 = .ok (.aload_n 0, 1) := by decide +kernel
theorem dX1_spell_71 : decode cX1_spell 71 = .ok (.getfield 38, 3) := by decide +kernel
theorem dX1_spell_74 : decode cX1_spell 74 = .ok (.invokevirtual 108, 3) := by decide +kernel
theorem dX1_spell_77 : decode cX1_spell 77 = .ok (.iastore, 1) := by decide +kernel
theorem dX1_spell_78 : decode cX1_spell 78 = .ok (.aload_n 2, 1) := by decide +kernel
theorem dX1_spell_79 : decode cX1_spell 79 = .ok (.bipush 7, 2) := by decide +kernel
theorem dX1_spell_81 : decode cX1_spell 81 = .ok (.aload_n 0, 1) := by decide +kernel
theorem dX1_spell_82 : decode cX1_spell 82 = .ok (.getfield 9, 3) := by decide +kernel
theorem dX1_spell_85 : decode cX1_spell 85 = .ok (.iload_n 1, 1) := by decide +kernel
theorem dX1_spell_86 : decode cX1_spell 86 = .ok (.iconst 2, 1) := by decide +kernel
theorem dX1_spell_87 : decode cX1_spell 87 = .ok (.invokevirtual 88, 3) := by decide +kernel
theorem dX1_spell_90 : decode cX1_spell 90 = .ok (.iastore, 1) := by decide +kernel
theorem dX1_spell_91 : decode cX1_spell 91 = .ok (.return_, 1) := by decide +kernel
set_option maxRecDepth 100000 in
set_option maxHeartbeats 4000000 in
theorem tz_X1_spell (l : Launch) (X : qX) {k : Nat} {p0 : Int32} {M MR : qM} (hk : q_mor k = true) (hf : jMo_spell k p0 M = some MR) : q_Met l X yX1_spell cX1_spell 3 none (3) M [.ref (X.1 k), .int p0, .ref (X.1 10)] (q_Qv X MR) := by
  refine q_enter (by decide) (Nat.le_of_ble_eq_true rfl) ?_
  intro p e s m args below meth c hE hrt hlk H locs hH ls hl
  have hx := hE.1
  have hb := hE.2.1
  have hl : lv_has ls 3 [(0, .ref (X.1 k)), (1, .int p0), (2, .ref (X.1 10))] := hl
  unfold jMo_spell at hf
  refine lv_aload_n hx hb dX1_spell_0 rfl (lv_at hl 2 rfl) ?_
  refine lv_iconst (v := 0) hx hb dX1_spell_1 (by decide) ?_
  refine lv_aload_n hx hb dX1_spell_2 rfl (lv_at hl 0 rfl) ?_
  refine pz_gI hE hH fr_X1_38 (q_mor_0 hk) dX1_spell_3 ?_
  obtain ⟨M1, eM1, hf⟩ := st_bd hf
  refine pz_iast hE hH qk_10 eM1 dX1_spell_6 (fun H locs hH => ?_)
  refine lv_aload_n hx hb dX1_spell_7 rfl (lv_at hl 2 rfl) ?_
  refine lv_iconst (v := 1) hx hb dX1_spell_8 (by decide) ?_
  refine lv_aload_n hx hb dX1_spell_9 rfl (lv_at hl 0 rfl) ?_
  refine pz_gI hE hH fr_X1_41 (q_mor_0 hk) dX1_spell_10 ?_
  obtain ⟨M2, eM2, hf⟩ := st_bd hf
  refine pz_iast hE hH qk_10 eM2 dX1_spell_13 (fun H locs hH => ?_)
  refine lv_aload_n hx hb dX1_spell_14 rfl (lv_at hl 2 rfl) ?_
  refine lv_iconst (v := 2) hx hb dX1_spell_15 (by decide) ?_
  refine lv_aload_n hx hb dX1_spell_16 rfl (lv_at hl 0 rfl) ?_
  refine pz_gI hE hH fr_X1_19 (q_mor_0 hk) dX1_spell_17 ?_
  obtain ⟨x3, hr, hf⟩ := st_bd hf
  have hJ : ∀ (ls : Array Slot) (H : Heap) (locs : List Loc), q_H X M2 s H locs → lv_has ls 3 [(0, .ref (X.1 k)), (1, .int p0), (2, .ref (X.1 10))] → W p l e (q_rm (3)) s m args below meth c H locs 0 0 (MQ below (q_Qv X MR) args s 0 0 (q_A X)) (F0 m 31 ls [.int x3, .int 2, .ref (X.1 10)]) := by
    intro ls H locs hH hl
    obtain ⟨M4, eM4, hf⟩ := st_bd hf
    refine pz_iast hE hH qk_10 eM4 dX1_spell_31 (fun H locs hH => ?_)
    refine lv_aload_n hx hb dX1_spell_32 rfl (lv_at hl 2 rfl) ?_
    refine lv_iconst (v := 3) hx hb dX1_spell_33 (by decide) ?_
    refine lv_aload_n hx hb dX1_spell_34 rfl (lv_at hl 0 rfl) ?_
    refine pz_gI hE hH fr_X1_22 (q_mor_0 hk) dX1_spell_35 ?_
    obtain ⟨M5, eM5, hf⟩ := st_bd hf
    refine pz_iast hE hH qk_10 eM5 dX1_spell_38 (fun H locs hH => ?_)
    refine lv_aload_n hx hb dX1_spell_39 rfl (lv_at hl 2 rfl) ?_
    refine lv_iconst (v := 4) hx hb dX1_spell_40 (by decide) ?_
    refine lv_aload_n hx hb dX1_spell_41 rfl (lv_at hl 0 rfl) ?_
    refine pz_gS (a := k + 3) hE hH fr_X1_67 (q_mor_0 hk) rfl dX1_spell_42 ?_
    refine lv_iload_n hx hb dX1_spell_45 rfl (lv_at hl 1 rfl) ?_
    obtain ⟨v6, ev6, hf⟩ := st_bd hf
    refine pz_iald hE hH (q_mor_3 hk) ev6 dX1_spell_46 ?_
    refine lv_iconst (v := 1) hx hb dX1_spell_47 (by decide) ?_
    refine lv_isub hx hb dX1_spell_48 ?_
    obtain ⟨M7, eM7, hf⟩ := st_bd hf
    refine pz_iast hE hH qk_10 eM7 dX1_spell_49 (fun H locs hH => ?_)
    refine lv_aload_n hx hb dX1_spell_50 rfl (lv_at hl 2 rfl) ?_
    refine lv_iconst (v := 5) hx hb dX1_spell_51 (by decide) ?_
    refine lv_aload_n hx hb dX1_spell_52 rfl (lv_at hl 0 rfl) ?_
    refine pz_gI hE hH fr_X1_44 (q_mor_0 hk) dX1_spell_53 ?_
    refine lv_iconst (v := 1) hx hb dX1_spell_56 (by decide) ?_
    refine lv_isub hx hb dX1_spell_57 ?_
    obtain ⟨M8, eM8, hf⟩ := st_bd hf
    refine pz_iast hE hH qk_10 eM8 dX1_spell_58 (fun H locs hH => ?_)
    refine lv_aload_n hx hb dX1_spell_59 rfl (lv_at hl 2 rfl) ?_
    refine lv_bipush (v := 6) hx hb dX1_spell_60 (by decide) ?_
    refine lv_aload_n hx hb dX1_spell_62 rfl (lv_at hl 0 rfl) ?_
    obtain ⟨a9, ea9, hf⟩ := st_bd hf
    refine pz_gR hE hH fr_X1_9 (q_mor_0 hk) ea9 dX1_spell_63 (fun ha9 => ?_)
    replace ha9 : q_vil a9 = true := ha9
    refine lv_aload_n hx hb dX1_spell_66 rfl (lv_at hl 0 rfl) ?_
    refine pz_gI hE hH fr_X1_15 (q_mor_0 hk) dX1_spell_67 ?_
    refine lv_aload_n hx hb dX1_spell_70 rfl (lv_at hl 0 rfl) ?_
    refine pz_gI hE hH fr_X1_38 (q_mor_0 hk) dX1_spell_71 ?_
    obtain ⟨r10, er10, hf⟩ := st_bd hf
    refine q_calli (q_runV (As := [.int (M8.1 k 1), .int (M8.1 k 8)]) (rest := [.int 6, .ref (X.1 10)]) hE hH (tz_X7_worthIn l X ha9 (hf := er10)) kv_X1_108 (q_vil_0 ha9) (by decide) rfl hl.1 rfl (Nat.le_of_ble_eq_true rfl) dX1_spell_74) hH (fun H locs hH => ?_)
    obtain ⟨M11, eM11, hf⟩ := st_bd hf
    refine pz_iast hE hH qk_10 eM11 dX1_spell_77 (fun H locs hH => ?_)
    refine lv_aload_n hx hb dX1_spell_78 rfl (lv_at hl 2 rfl) ?_
    refine lv_bipush (v := 7) hx hb dX1_spell_79 (by decide) ?_
    refine lv_aload_n hx hb dX1_spell_81 rfl (lv_at hl 0 rfl) ?_
    obtain ⟨a12, ea12, hf⟩ := st_bd hf
    refine pz_gR hE hH fr_X1_9 (q_mor_0 hk) ea12 dX1_spell_82 (fun ha12 => ?_)
    replace ha12 : q_vil a12 = true := ha12
    refine lv_iload_n hx hb dX1_spell_85 rfl (lv_at hl 1 rfl) ?_
    refine lv_iconst (v := 2) hx hb dX1_spell_86 (by decide) ?_
    obtain ⟨r13, er13, hf⟩ := st_bd hf
    refine q_calli (q_runV (As := [.int p0, .int 2]) (rest := [.int 7, .ref (X.1 10)]) hE hH (tz_X7_ofSort l X ha12 (hf := er13)) kv_X1_88 (q_vil_0 ha12) (by decide) rfl hl.1 rfl (Nat.le_of_ble_eq_true rfl) dX1_spell_87) hH (fun H locs hH => ?_)
    obtain ⟨M14, eM14, hf⟩ := st_bd hf
    refine pz_iast hE hH qk_10 eM14 dX1_spell_90 (fun H locs hH => ?_)
    replace hf := Option.some.inj hf
    subst hf
    exact pz_retv hE hrt hlk hH dX1_spell_91
  clear hf
  replace hf := hr
  refine lv_if_ne (tgt := 27) hx hb dX1_spell_20 (by decide) (fun hc => ?_) (fun hc => ?_)
  · replace hf := (if_neg hc).symm.trans hf
    refine lv_aload_n hx hb dX1_spell_27 rfl (lv_at hl 0 rfl) ?_
    obtain ⟨r15, er15, hf⟩ := st_bd hf
    refine q_calli (q_runV (As := []) (rest := [.int 2, .ref (X.1 10)]) hE hH (tz_X1_underway l X hk (hf := er15)) kv_X1_118 (q_mor_0 hk) (by decide) rfl hl.1 rfl (Nat.le_of_ble_eq_true rfl) dX1_spell_28) hH (fun H locs hH => ?_)
    replace hf := Option.some.inj hf
    subst hf
    exact hJ ls H locs hH (lv_sub hl [0, 1, 2] rfl)
  · replace hf := (if_pos hc).symm.trans hf
    refine lv_iconst (v := 0) hx hb dX1_spell_23 (by decide) ?_
    refine lv_goto (tgt := 31) hx hb dX1_spell_24 (by decide) ?_
    replace hf := Option.some.inj hf
    subst hf
    exact hJ ls H locs hH (lv_sub hl [0, 1, 2] rfl)

theorem dX1_drawOfTen_0 : decode cX1_drawOfTen 0 = .ok (.aload_n 0, 1) := by decide +kernel
theorem dX1_drawOfTen_1 : decode cX1_drawOfTen 1 = .ok (.aload_n 0, 1) := by decide +kernel
theorem dX1_drawOfTen_2 : decode cX1_drawOfTen 2 = .ok (.getfield 34, 3) := by decide +kernel
theorem dX1_drawOfTen_5 : decode cX1_drawOfTen 5 = .ok (.ldc2_w 165, 3) := by decide +kernel
theorem dX1_drawOfTen_8 : decode cX1_drawOfTen 8 = .ok (.lmul, 1) := by decide +kernel
theorem dX1_drawOfTen_9 : decode cX1_drawOfTen 9 = .ok (.ldc2_w 167, 3) := by decide +kernel
theorem dX1_drawOfTen_12 : decode cX1_drawOfTen 12 = .ok (.ladd, 1) := by decide +kernel
theorem dX1_drawOfTen_13 : decode cX1_drawOfTen 13 = .ok (.putfield 34, 3) := by decide +kernel
theorem dX1_drawOfTen_16 : decode cX1_drawOfTen 16 = .ok (.aload_n 0, 1) := by decide +kernel
theorem dX1_drawOfTen_17 : decode cX1_drawOfTen 17 = .ok (.getfield 34, 3) := by decide +kernel
theorem dX1_drawOfTen_20 : decode cX1_drawOfTen 20 = .ok (.bipush 33, 2) := by decide +kernel
theorem dX1_drawOfTen_22 : decode cX1_drawOfTen 22 = .ok (.lushr, 1) := by decide +kernel
theorem dX1_drawOfTen_23 : decode cX1_drawOfTen 23 = .ok (.ldc2_w 169, 3) := by decide +kernel
theorem dX1_drawOfTen_26 : decode cX1_drawOfTen 26 = .ok (.lrem, 1) := by decide +kernel
theorem dX1_drawOfTen_27 : decode cX1_drawOfTen 27 = .ok (.l2i, 1) := by decide +kernel
theorem dX1_drawOfTen_28 : decode cX1_drawOfTen 28 = .ok (.ireturn, 1) := by decide +kernel
set_option maxRecDepth 100000 in
set_option maxHeartbeats 4000000 in
theorem tz_X1_drawOfTen (l : Launch) (X : qX) {k : Nat} {M MR : qM} {r0 : Int32} (hk : q_mor k = true) (hf : jMo_drawOfTen k M = (r0, MR)) : q_Met l X yX1_drawOfTen cX1_drawOfTen 1 (some .int) (1) M [.ref (X.1 k)] (q_Qi X r0 MR) := by
  refine q_enter (by decide) (Nat.le_of_ble_eq_true rfl) ?_
  intro p e s m args below meth c hE hrt hlk H locs hH ls hl
  have hx := hE.1
  have hb := hE.2.1
  have hl : lv_has ls 1 [(0, .ref (X.1 k))] := hl
  unfold jMo_drawOfTen at hf
  refine lv_aload_n hx hb dX1_drawOfTen_0 rfl (lv_at hl 0 rfl) ?_
  refine lv_aload_n hx hb dX1_drawOfTen_1 rfl (lv_at hl 0 rfl) ?_
  refine pz_gJ hE hH fr_X1_34 (q_mor_0 hk) dX1_drawOfTen_2 ?_
  refine pz_ldc2 (v := 6364136223846793005) hE (q_in _ 858 (by decide +kernel) rfl) dX1_drawOfTen_5 ?_
  refine lv_lmul hx hb dX1_drawOfTen_8 ?_
  refine pz_ldc2 (v := 1442695040888963407) hE (q_in _ 859 (by decide +kernel) rfl) dX1_drawOfTen_9 ?_
  refine lv_ladd hx hb dX1_drawOfTen_12 ?_
  obtain ⟨M1, eM1, hf⟩ := st_lty hf
  refine pz_pJ hE hH fw_X1_34 (q_mor_0 hk)  eM1 dX1_drawOfTen_13 (fun H locs hH => ?_)
  refine lv_aload_n hx hb dX1_drawOfTen_16 rfl (lv_at hl 0 rfl) ?_
  refine pz_gJ hE hH fr_X1_34 (q_mor_0 hk) dX1_drawOfTen_17 ?_
  refine lv_bipush (v := 33) hx hb dX1_drawOfTen_20 (by decide) ?_
  refine lv_lushr (v := (((M1.2.1 k 7) : Int64).toUInt64 >>> ((33 : Int32).toInt64.toUInt64 &&& Int64.toUInt64 63)).toInt64) hx hb dX1_drawOfTen_22 rfl ?_
  refine pz_ldc2 (v := 10) hE (q_in _ 860 (by decide +kernel) rfl) dX1_drawOfTen_23 ?_
  refine lv_lrem hx hb dX1_drawOfTen_26 (by decide) ?_
  refine lv_l2i (v := ((((((M1.2.1 k 7) : Int64).toUInt64 >>> ((33 : Int32).toInt64.toUInt64 &&& Int64.toUInt64 63)).toInt64) - ((((M1.2.1 k 7) : Int64).toUInt64 >>> ((33 : Int32).toInt64.toUInt64 &&& Int64.toUInt64 63)).toInt64) / 10 * 10) : Int64).toInt32) hx hb dX1_drawOfTen_27 rfl ?_
  obtain ⟨rfl, rfl⟩ := qi2 hf
  exact pz_reti hE hrt hlk hH dX1_drawOfTen_28

theorem dX1_send_0 : decode cX1_send 0 = .ok (.aload_n 0, 1) := by decide +kernel
theorem dX1_send_1 : decode cX1_send 1 = .ok (.getfield 60, 3) := by decide +kernel
theorem dX1_send_4 : decode cX1_send 4 = .ok (.iload_n 1, 1) := by decide +kernel
theorem dX1_send_5 : decode cX1_send 5 = .ok (.aload_n 0, 1) := by decide +kernel
theorem dX1_send_6 : decode cX1_send 6 = .ok (.getfield 38, 3) := by decide +kernel
theorem dX1_send_9 : decode cX1_send 9 = .ok (.iastore, 1) := by decide +kernel
theorem dX1_send_10 : decode cX1_send 10 = .ok (.aload_n 0, 1) := by decide +kernel
theorem dX1_send_11 : decode cX1_send 11 = .ok (.dup, 1) := by decide +kernel
theorem dX1_send_12 : decode cX1_send 12 = .ok (.getfield 44, 3) := by decide +kernel
theorem dX1_send_15 : decode cX1_send 15 = .ok (.iconst 1, 1) := by decide +kernel
theorem dX1_send_16 : decode cX1_send 16 = .ok (.isub, 1) := by decide +kernel
theorem dX1_send_17 : decode cX1_send 17 = .ok (.putfield 44, 3) := by decide +kernel
theorem dX1_send_20 : decode cX1_send 20 = .ok (.aload_n 0, 1) := by decide +kernel
theorem dX1_send_21 : decode cX1_send 21 = .ok (.getfield 67, 3) := by decide +kernel
theorem dX1_send_24 : decode cX1_send 24 = .ok (.iload_n 2, 1) := by decide +kernel
theorem dX1_send_25 : decode cX1_send 25 = .ok (.dup2, 1) := by decide +kernel
theorem dX1_send_26 : decode cX1_send 26 = .ok (.iaload, 1) := by decide +kernel
theorem dX1_send_27 : decode cX1_send 27 = .ok (.iconst 1, 1) := by decide +kernel
theorem dX1_send_28 : decode cX1_send 28 = .ok (.isub, 1) := by decide +kernel
theorem dX1_send_29 : decode cX1_send 29 = .ok (.iastore, 1) := by decide +kernel
theorem dX1_send_30 : decode cX1_send 30 = .ok (.aload_n 0, 1) := by decide +kernel
theorem dX1_send_31 : decode cX1_send 31 = .ok (.getfield 9, 3) := by decide +kernel
theorem dX1_send_34 : decode cX1_send 34 = .ok (.iload_n 2, 1) := by decide +kernel
theorem dX1_send_35 : decode cX1_send 35 = .ok (.iconst 1, 1) := by decide +kernel
theorem dX1_send_36 : decode cX1_send 36 = .ok (.invokevirtual 88, 3) := by decide +kernel
theorem dX1_send_39 : decode cX1_send 39 = .ok (.ifCond .ne 8, 3) := by decide +kernel
theorem dX1_send_42 : decode cX1_send 42 = .ok (.aload_n 0, 1) := by decide +kernel
theorem dX1_send_43 : decode cX1_send 43 = .ok (.iload_n 1, 1) := by decide +kernel
theorem dX1_send_44 : decode cX1_send 44 = .ok (.invokevirtual 125, 3) := by decide +kernel
theorem dX1_send_47 : decode cX1_send 47 = .ok (.return_, 1) := by decide +kernel
set_option maxRecDepth 100000 in
set_option maxHeartbeats 4000000 in
theorem tz_X1_send (l : Launch) (X : qX) {k : Nat} {p0 : Int32} {p1 : Int32} {M MR : qM} (hk : q_mor k = true) (hf : jMo_send k p0 p1 M = some MR) : q_Met l X yX1_send cX1_send 3 none (3) M [.ref (X.1 k), .int p0, .int p1] (q_Qv X MR) := by
  refine q_enter (by decide) (Nat.le_of_ble_eq_true rfl) ?_
  intro p e s m args below meth c hE hrt hlk H locs hH ls hl
  have hx := hE.1
  have hb := hE.2.1
  have hl : lv_has ls 3 [(0, .ref (X.1 k)), (1, .int p0), (2, .int p1)] := hl
  unfold jMo_send at hf
  refine lv_aload_n hx hb dX1_send_0 rfl (lv_at hl 0 rfl) ?_
  refine pz_gS (a := k + 1) hE hH fr_X1_60 (q_mor_0 hk) rfl dX1_send_1 ?_
  refine lv_iload_n hx hb dX1_send_4 rfl (lv_at hl 1 rfl) ?_
  refine lv_aload_n hx hb dX1_send_5 rfl (lv_at hl 0 rfl) ?_
  refine pz_gI hE hH fr_X1_38 (q_mor_0 hk) dX1_send_6 ?_
  obtain ⟨M1, eM1, hf⟩ := st_bd hf
  refine pz_iast hE hH (q_mor_1 hk) eM1 dX1_send_9 (fun H locs hH => ?_)
  refine lv_aload_n hx hb dX1_send_10 rfl (lv_at hl 0 rfl) ?_
  refine lv_dup hx hb dX1_send_11 rfl ?_
  refine pz_gI hE hH fr_X1_44 (q_mor_0 hk) dX1_send_12 ?_
  refine lv_iconst (v := 1) hx hb dX1_send_15 (by decide) ?_
  refine lv_isub hx hb dX1_send_16 ?_
  obtain ⟨M2, eM2, hf⟩ := st_lty hf
  refine pz_pI hE hH fw_X1_44 (q_mor_0 hk)  eM2 dX1_send_17 (fun H locs hH => ?_)
  refine lv_aload_n hx hb dX1_send_20 rfl (lv_at hl 0 rfl) ?_
  refine pz_gS (a := k + 3) hE hH fr_X1_67 (q_mor_0 hk) rfl dX1_send_21 ?_
  refine lv_iload_n hx hb dX1_send_24 rfl (lv_at hl 2 rfl) ?_
  refine lv_dup2_11 hx hb dX1_send_25 rfl rfl ?_
  obtain ⟨v3, ev3, hf⟩ := st_bd hf
  refine pz_iald hE hH (q_mor_3 hk) ev3 dX1_send_26 ?_
  refine lv_iconst (v := 1) hx hb dX1_send_27 (by decide) ?_
  refine lv_isub hx hb dX1_send_28 ?_
  obtain ⟨M4, eM4, hf⟩ := st_bd hf
  refine pz_iast hE hH (q_mor_3 hk) eM4 dX1_send_29 (fun H locs hH => ?_)
  refine lv_aload_n hx hb dX1_send_30 rfl (lv_at hl 0 rfl) ?_
  obtain ⟨a5, ea5, hf⟩ := st_bd hf
  refine pz_gR hE hH fr_X1_9 (q_mor_0 hk) ea5 dX1_send_31 (fun ha5 => ?_)
  replace ha5 : q_vil a5 = true := ha5
  refine lv_iload_n hx hb dX1_send_34 rfl (lv_at hl 2 rfl) ?_
  refine lv_iconst (v := 1) hx hb dX1_send_35 (by decide) ?_
  obtain ⟨r6, er6, hf⟩ := st_bd hf
  refine q_calli (q_runV (As := [.int p1, .int 1]) (rest := []) hE hH (tz_X7_ofSort l X ha5 (hf := er6)) kv_X1_88 (q_vil_0 ha5) (by decide) rfl hl.1 rfl (Nat.le_of_ble_eq_true rfl) dX1_send_36) hH (fun H locs hH => ?_)
  obtain ⟨M7, hr, hf⟩ := st_bd hf
  have hJ : ∀ (ls : Array Slot) (H : Heap) (locs : List Loc), q_H X M7 s H locs → lv_has ls 3 [] → W p l e (q_rm (3)) s m args below meth c H locs 0 0 (MQ below (q_Qv X MR) args s 0 0 (q_A X)) (F0 m 47 ls []) := by
    intro ls H locs hH hl
    replace hf := Option.some.inj hf
    subst hf
    exact pz_retv hE hrt hlk hH dX1_send_47
  clear hf
  replace hf := hr
  refine lv_if_ne (tgt := 47) hx hb dX1_send_39 (by decide) (fun hc => ?_) (fun hc => ?_)
  · replace hf := (if_neg hc).symm.trans hf
    replace hf := Option.some.inj hf
    subst hf
    exact hJ ls H locs hH (lv_sub hl [] rfl)
  · replace hf := (if_pos hc).symm.trans hf
    refine lv_aload_n hx hb dX1_send_42 rfl (lv_at hl 0 rfl) ?_
    refine lv_iload_n hx hb dX1_send_43 rfl (lv_at hl 1 rfl) ?_
    obtain ⟨M8, eM8, hf⟩ := st_bd hf
    refine q_callv (q_runV (As := [.int p0]) (rest := []) hE hH (tz_X1_receive l X hk (hf := eM8)) kv_X1_125 (q_mor_0 hk) (by decide) rfl hl.1 rfl (Nat.le_of_ble_eq_true rfl) dX1_send_44) hH (fun H locs hH => ?_)
    replace hf := Option.some.inj hf
    subst hf
    exact hJ ls H locs hH (lv_sub hl [] rfl)

theorem dX1_decide_0 : decode cX1_decide 0 = .ok (.iconst (-1), 1) := by decide +kernel
theorem dX1_decide_1 : decode cX1_decide 1 = .ok (.istore_n 2, 1) := by decide +kernel
theorem dX1_decide_2 : decode cX1_decide 2 = .ok (.iconst 0, 1) := by decide +kernel
theorem dX1_decide_3 : decode cX1_decide 3 = .ok (.istore_n 3, 1) := by decide +kernel
theorem dX1_decide_4 : decode cX1_decide 4 = .ok (.iconst 0, 1) := by decide +kernel
theorem dX1_decide_5 : decode cX1_decide 5 = .ok (.istore 4, 2) := by decide +kernel
theorem dX1_decide_7 : decode cX1_decide 7 = .ok (.iload 4, 2) := by decide +kernel
theorem dX1_decide_9 : decode cX1_decide 9 = .ok (.aload_n 0, 1) := by decide +kernel
theorem dX1_decide_10 : decode cX1_decide 10 = .ok (.getfield 9, 3) := by decide +kernel
theorem dX1_decide_13 : decode cX1_decide 13 = .ok (.getfield 76, 3) := by decide +kernel
theorem dX1_decide_16 : decode cX1_decide 16 = .ok (.if_icmp .ge 156, 3) := by decide +kernel
theorem dX1_decide_19 : decode cX1_decide 19 = .ok (.aload_n 0, 1) := by decide +kernel
theorem dX1_decide_20 : decode cX1_decide 20 = .ok (.getfield 47, 3) := by decide +kernel
theorem dX1_decide_23 : decode cX1_decide 23 = .ok (.aload_n 0, 1) := by decide +kernel
theorem dX1_decide_24 : decode cX1_decide 24 = .ok (.getfield 25, 3) := by decide +kernel
theorem dX1_decide_27 : decode cX1_decide 27 = .ok (.if_icmp .ge 145, 3) := by decide +kernel
theorem dX1_decide_30 : decode cX1_decide 30 = .ok (.aload_n 0, 1) := by decide +kernel
theorem dX1_decide_31 : decode cX1_decide 31 = .ok (.getfield 60, 3) := by decide +kernel
theorem dX1_decide_34 : decode cX1_decide 34 = .ok (.iload 4, 2) := by decide +kernel
theorem dX1_decide_36 : decode cX1_decide 36 = .ok (.iaload, 1) := by decide +kernel
theorem dX1_decide_37 : decode cX1_decide 37 = .ok (.iconst (-1), 1) := by decide +kernel
theorem dX1_decide_38 : decode cX1_decide 38 = .ok (.if_icmp .eq 6, 3) := by decide +kernel
theorem dX1_decide_41 : decode cX1_decide 41 = .ok (.goto 125, 3) := by decide +kernel
theorem dX1_decide_44 : decode cX1_decide 44 = .ok (.aload_n 0, 1) := by decide +kernel
theorem dX1_decide_45 : decode cX1_decide 45 = .ok (.getfield 9, 3) := by decide +kernel
theorem dX1_decide_48 : decode cX1_decide 48 = .ok (.getfield 129, 3) := by decide +kernel
theorem dX1_decide_51 : decode cX1_decide 51 = .ok (.iload 4, 2) := by decide +kernel
theorem dX1_decide_53 : decode cX1_decide 53 = .ok (.iaload, 1) := by decide +kernel
theorem dX1_decide_54 : decode cX1_decide 54 = .ok (.istore 5, 2) := by decide +kernel
theorem dX1_decide_56 : decode cX1_decide 56 = .ok (.aload_n 0, 1) := by decide +kernel
theorem dX1_decide_57 : decode cX1_decide 57 = .ok (.getfield 38, 3) := by decide +kernel
theorem dX1_decide_60 : decode cX1_decide 60 = .ok (.ifCond .ne 18, 3) := by decide +kernel
theorem dX1_decide_63 : decode cX1_decide 63 = .ok (.aload_n 0, 1) := by decide +kernel
theorem dX1_decide_64 : decode cX1_decide 64 = .ok (.iload 4, 2) := by decide +kernel
theorem dX1_decide_66 : decode cX1_decide 66 = .ok (.iload 5, 2) := by decide +kernel
theorem dX1_decide_68 : decode cX1_decide 68 = .ok (.invokevirtual 132, 3) := by decide +kernel
theorem dX1_decide_71 : decode cX1_decide 71 = .ok (.ifCond .eq 7, 3) := by decide +kernel
theorem dX1_decide_74 : decode cX1_decide 74 = .ok (.iconst 1, 1) := by decide +kernel
theorem dX1_decide_75 : decode cX1_decide 75 = .ok (.goto 4, 3) := by decide +kernel
theorem dX1_decide_78 : decode cX1_decide 78 = .ok (.iconst 0, 1) := by decide +kernel
theorem dX1_decide_79 : decode cX1_decide 79 = .ok (.istore 6, 2) := by decide +kernel
theorem dX1_decide_81 : decode cX1_decide 81 = .ok (.iload 6, 2) := by decide +kernel
theorem dX1_decide_83 : decode cX1_decide 83 = .ok (.ifCond .ne 68, 3) := by decide +kernel
theorem dX1_decide_86 : decode cX1_decide 86 = .ok (.iload 5, 2) := by decide +kernel
theorem dX1_decide_88 : decode cX1_decide 88 = .ok (.iload_n 2, 1) := by decide +kernel
theorem dX1_decide_89 : decode cX1_decide 89 = .ok (.if_icmp .eq 47, 3) := by decide +kernel
theorem dX1_decide_92 : decode cX1_decide 92 = .ok (.aload_n 0, 1) := by decide +kernel
theorem dX1_decide_93 : decode cX1_decide 93 = .ok (.iload 5, 2) := by decide +kernel
theorem dX1_decide_95 : decode cX1_decide 95 = .ok (.aload_n 1, 1) := by decide +kernel
theorem dX1_decide_96 : decode cX1_decide 96 = .ok (.getfield 136, 3) := by decide +kernel
theorem dX1_decide_99 : decode cX1_decide 99 = .ok (.invokevirtual 141, 3) := by decide +kernel
theorem dX1_decide_102 : decode cX1_decide 102 = .ok (.aload_n 1, 1) := by decide +kernel
theorem dX1_decide_103 : decode cX1_decide 103 = .ok (.iload 5, 2) := by decide +kernel
theorem dX1_decide_105 : decode cX1_decide 105 = .ok (.invokevirtual 145, 3) := by decide +kernel
theorem dX1_decide_108 : decode cX1_decide 108 = .ok (.astore 7, 2) := by decide +kernel
theorem dX1_decide_110 : decode cX1_decide 110 = .ok (.aload 7, 2) := by decide +kernel
theorem dX1_decide_112 : decode cX1_decide 112 = .ok (.ifnonnull 7, 3) := by decide +kernel
theorem dX1_decide_115 : decode cX1_decide 115 = .ok (.iconst 0, 1) := by decide +kernel
theorem dX1_decide_116 : decode cX1_decide 116 = .ok (.goto 16, 3) := by decide +kernel
theorem dX1_decide_119 : decode cX1_decide 119 = .ok (.aload 7, 2) := by decide +kernel
theorem dX1_decide_121 : decode cX1_decide 121 = .ok (.aload_n 1, 1) := by decide +kernel
theorem dX1_decide_122 : decode cX1_decide 122 = .ok (.getfield 136, 3) := by decide +kernel
theorem dX1_decide_125 : decode cX1_decide 125 = .ok (.aload_n 1, 1) := by decide +kernel
theorem dX1_decide_126 : decode cX1_decide 126 = .ok (.getfield 149, 3) := by decide +kernel
theorem dX1_decide_129 : decode cX1_decide 129 = .ok (.invokevirtual 152, 3) := by decide +kernel
theorem dX1_decide_132 : decode cX1_decide 132 = .ok (.istore_n 3, 1) := by decide +kernel
theorem dX1_decide_133 : decode cX1_decide 133 = .ok (.iload 5, 2) := by decide +kernel
theorem dX1_decide_135 : decode cX1_decide 135 = .ok (.istore_n 2, 1) := by decide +kernel
theorem dX1_decide_136 : decode cX1_decide 136 = .ok (.aload_n 0, 1) := by decide +kernel
theorem dX1_decide_137 : decode cX1_decide 137 = .ok (.invokevirtual 158, 3) := by decide +kernel
theorem dX1_decide_140 : decode cX1_decide 140 = .ok (.iload_n 3, 1) := by decide +kernel
theorem dX1_decide_141 : decode cX1_decide 141 = .ok (.if_icmp .ge 7, 3) := by decide +kernel
theorem dX1_decide_144 : decode cX1_decide 144 = .ok (.iconst 1, 1) := by decide +kernel
theorem dX1_decide_145 : decode cX1_decide 145 = .ok (.goto 4, 3) := by decide +kernel
theorem dX1_decide_148 : decode cX1_decide 148 = .ok (.iconst 0, 1) := by decide +kernel
theorem dX1_decide_149 : decode cX1_decide 149 = .ok (.istore 6, 2) := by decide +kernel
theorem dX1_decide_151 : decode cX1_decide 151 = .ok (.iload 6, 2) := by decide +kernel
theorem dX1_decide_153 : decode cX1_decide 153 = .ok (.ifCond .eq 13, 3) := by decide +kernel
theorem dX1_decide_156 : decode cX1_decide 156 = .ok (.aload_n 0, 1) := by decide +kernel
theorem dX1_decide_157 : decode cX1_decide 157 = .ok (.iload 4, 2) := by decide +kernel
theorem dX1_decide_159 : decode cX1_decide 159 = .ok (.iload 5, 2) := by decide +kernel
theorem dX1_decide_161 : decode cX1_decide 161 = .ok (.invokevirtual 161, 3) := by decide +kernel
theorem dX1_decide_164 : decode cX1_decide 164 = .ok (.iconst (-1), 1) := by decide +kernel
theorem dX1_decide_165 : decode cX1_decide 165 = .ok (.istore_n 2, 1) := by decide +kernel
theorem dX1_decide_166 : decode cX1_decide 166 = .ok (.iinc 4 1, 3) := by decide +kernel
theorem dX1_decide_169 : decode cX1_decide 169 = .ok (.goto (-162), 3) := by decide +kernel
theorem dX1_decide_172 : decode cX1_decide 172 = .ok (.return_, 1) := by decide +kernel
set_option maxRecDepth 100000 in
set_option maxHeartbeats 4000000 in
theorem tz_X1_decide (l : Launch) (X : qX) {k : Nat} {M MR : qM} (hk : q_mor k = true) (hf : jMo_decide k M = some MR) : q_Met l X yX1_decide cX1_decide 8 none (4) M [.ref (X.1 k), .ref (X.1 6)] (q_Qv X MR) := by
  refine q_enter (by decide) (Nat.le_of_ble_eq_true rfl) ?_
  intro p e s m args below meth c hE hrt hlk H locs hH ls hl
  have hx := hE.1
  have hb := hE.2.1
  have hl : lv_has ls 8 [(0, .ref (X.1 k)), (1, .ref (X.1 6))] := hl
  unfold jMo_decide at hf
  refine lv_iconst (v := (-1)) hx hb dX1_decide_0 (by decide) ?_
  refine lv_istore_n (lv' := [(2, .int (-1)), (0, .ref (X.1 k)), (1, .ref (X.1 6))]) hx hb dX1_decide_1 rfl hl (by decide) rfl (fun ls hl => ?_)
  refine lv_iconst (v := 0) hx hb dX1_decide_2 (by decide) ?_
  refine lv_istore_n (lv' := [(3, .int 0), (2, .int (-1)), (0, .ref (X.1 k)), (1, .ref (X.1 6))]) hx hb dX1_decide_3 rfl hl (by decide) rfl (fun ls hl => ?_)
  refine lv_iconst (v := 0) hx hb dX1_decide_4 (by decide) ?_
  refine lv_istore (lv' := [(4, .int 0), (3, .int 0), (2, .int (-1)), (0, .ref (X.1 k)), (1, .ref (X.1 6))]) hx hb dX1_decide_5 hl (by decide) rfl (fun ls hl => ?_)
  obtain ⟨M5, hlp, hf⟩ := st_bd hf
  have hX : (fun M5 => ∀ (ls : Array Slot) (H : Heap) (locs : List Loc), q_H X M5 s H locs → lv_has ls 8 [] → W p l e (q_rm (4)) s m args below meth c H locs 0 0 (MQ below (q_Qv X MR) args s 0 0 (q_A X)) (F0 m 172 ls []) : qM → Prop) M5 := by
    intro ls H locs hH hl
    replace hf := Option.some.inj hf
    subst hf
    exact pz_retv hE hrt hlk hH dX1_decide_172
  clear hf
  have hG := qlp_ind (r := M5) (fun q => qu4 q (fun x1 x2 x3 M4 => ∀ (ls : Array Slot) (H : Heap) (locs : List Loc), q_H X M4 s H locs → lv_has ls 8 [(0, .ref (X.1 k)), (1, .ref (X.1 6)), (2, .int x1), (3, .int x2), (4, .int x3)] → W p l e (q_rm (4)) s m args below meth c H locs 0 0 (MQ below (q_Qv X MR) args s 0 0 (q_A X)) (F0 m 7 ls []))) (by
      intro q o hf hK1 hK2
      obtain ⟨x1, x2, x3, M4⟩ := q
      replace hf := st_u4 hf
      intro ls H locs hH hl
      refine lv_iload hx hb dX1_decide_7 (lv_at hl 4 rfl) ?_
      refine lv_aload_n hx hb dX1_decide_9 rfl (lv_at hl 0 rfl) ?_
      obtain ⟨a7, ea7, hf⟩ := st_bd hf
      refine pz_gR hE hH fr_X1_9 (q_mor_0 hk) ea7 dX1_decide_10 (fun ha7 => ?_)
      replace ha7 : q_vil a7 = true := ha7
      refine pz_gI hE hH fr_X1_76 (q_vil_0 ha7) dX1_decide_13 ?_
      refine lv_icmp_ge (tgt := 172) hx hb dX1_decide_16 (by decide) (fun hc => ?_) (fun hc => ?_)
      · replace hf := (if_pos hc).symm.trans hf
        replace hf := hK2 _ (Option.some.inj hf).symm
        subst hf
        exact hX ls H locs hH (lv_sub hl [] rfl)
      · replace hf := (if_neg hc).symm.trans hf
        refine lv_aload_n hx hb dX1_decide_19 rfl (lv_at hl 0 rfl) ?_
        refine pz_gI hE hH fr_X1_47 (q_mor_0 hk) dX1_decide_20 ?_
        refine lv_aload_n hx hb dX1_decide_23 rfl (lv_at hl 0 rfl) ?_
        refine pz_gI hE hH fr_X1_25 (q_mor_0 hk) dX1_decide_24 ?_
        refine lv_icmp_ge (tgt := 172) hx hb dX1_decide_27 (by decide) (fun hc => ?_) (fun hc => ?_)
        · replace hf := (if_pos hc).symm.trans hf
          replace hf := hK2 _ (Option.some.inj hf).symm
          subst hf
          exact hX ls H locs hH (lv_sub hl [] rfl)
        · replace hf := (if_neg hc).symm.trans hf
          refine lv_aload_n hx hb dX1_decide_30 rfl (lv_at hl 0 rfl) ?_
          refine pz_gS (a := k + 1) hE hH fr_X1_60 (q_mor_0 hk) rfl dX1_decide_31 ?_
          refine lv_iload hx hb dX1_decide_34 (lv_at hl 4 rfl) ?_
          obtain ⟨v8, ev8, hf⟩ := st_bd hf
          refine pz_iald hE hH (q_mor_1 hk) ev8 dX1_decide_36 ?_
          refine lv_iconst (v := (-1)) hx hb dX1_decide_37 (by decide) ?_
          obtain ⟨w12, hr, hf⟩ := st_bd hf
          have hJ : qu3 w12 (fun x9 x10 M11 => ∀ (ls : Array Slot) (H : Heap) (locs : List Loc), q_H X M11 s H locs → lv_has ls 8 [(0, .ref (X.1 k)), (1, .ref (X.1 6)), (2, .int x9), (3, .int x10), (4, .int x3)] → W p l e (q_rm (4)) s m args below meth c H locs 0 0 (MQ below (q_Qv X MR) args s 0 0 (q_A X)) (F0 m 166 ls [])) := by
            obtain ⟨x9, x10, M11⟩ := w12
            replace hf := st_u3 hf
            intro ls H locs hH hl
            obtain ⟨x13, ex13, hf⟩ := st_lty hf
            refine lv_iinc (v := x13) (lv' := [(4, .int x13), (0, .ref (X.1 k)), (1, .ref (X.1 6)), (2, .int x9), (3, .int x10)]) hx hb dX1_decide_166 hl (k := 4) rfl (by rw [ex13]; rfl) (by decide) rfl (fun ls hl => ?_)
            refine lv_goto (tgt := 7) hx hb dX1_decide_169 (by decide) ?_
            exact hK1 _ (Option.some.inj hf).symm ls H locs hH (lv_sub hl [1, 2, 3, 4, 0] rfl)
          clear hf
          replace hf := hr
          refine lv_icmp_eq (tgt := 44) hx hb dX1_decide_38 (by decide) (fun hc => ?_) (fun hc => ?_)
          · replace hf := (if_pos hc).symm.trans hf
            refine lv_aload_n hx hb dX1_decide_44 rfl (lv_at hl 0 rfl) ?_
            obtain ⟨a14, ea14, hf⟩ := st_bd hf
            refine pz_gR hE hH fr_X1_9 (q_mor_0 hk) ea14 dX1_decide_45 (fun ha14 => ?_)
            replace ha14 : q_vil a14 = true := ha14
            refine pz_gS (a := a14 + 3) hE hH fr_X1_129 (q_vil_0 ha14) rfl dX1_decide_48 ?_
            refine lv_iload hx hb dX1_decide_51 (lv_at hl 4 rfl) ?_
            obtain ⟨v15, ev15, hf⟩ := st_bd hf
            refine pz_iald hE hH (q_vil_3 ha14) ev15 dX1_decide_53 ?_
            refine lv_istore (lv' := [(5, .int v15), (0, .ref (X.1 k)), (1, .ref (X.1 6)), (2, .int x1), (3, .int x2), (4, .int x3)]) hx hb dX1_decide_54 hl (by decide) rfl (fun ls hl => ?_)
            refine lv_aload_n hx hb dX1_decide_56 rfl (lv_at hl 1 rfl) ?_
            refine pz_gI hE hH fr_X1_38 (q_mor_0 hk) dX1_decide_57 ?_
            obtain ⟨z16, hr, hf⟩ := st_bd hf
            have hJ : ∀ (ls : Array Slot) (H : Heap) (locs : List Loc), q_H X M4 s H locs → lv_has ls 8 [(0, .ref (X.1 k)), (1, .ref (X.1 6)), (2, .int x1), (3, .int x2), (4, .int x3), (5, .int v15)] → W p l e (q_rm (4)) s m args below meth c H locs 0 0 (MQ below (q_Qv X MR) args s 0 0 (q_A X)) (F0 m 79 ls [.int (b2i z16)]) := by
              intro ls H locs hH hl
              refine lv_istore (lv' := [(6, .int (b2i z16)), (0, .ref (X.1 k)), (1, .ref (X.1 6)), (2, .int x1), (3, .int x2), (4, .int x3), (5, .int v15)]) hx hb dX1_decide_79 hl (by decide) rfl (fun ls hl => ?_)
              refine lv_iload hx hb dX1_decide_81 (lv_at hl 0 rfl) ?_
              obtain ⟨w21, hr, hf⟩ := st_bd hf
              have hJ : qu4 w21 (fun x17 x18 z19 M20 => ∀ (ls : Array Slot) (H : Heap) (locs : List Loc), q_H X M20 s H locs → lv_has ls 8 [(0, .ref (X.1 k)), (1, .ref (X.1 6)), (2, .int x17), (3, .int x18), (4, .int x3), (5, .int v15), (6, .int (b2i z19))] → W p l e (q_rm (4)) s m args below meth c H locs 0 0 (MQ below (q_Qv X MR) args s 0 0 (q_A X)) (F0 m 151 ls [])) := by
                obtain ⟨x17, x18, z19, M20⟩ := w21
                replace hf := st_u4 hf
                intro ls H locs hH hl
                refine lv_iload hx hb dX1_decide_151 (lv_at hl 6 rfl) ?_
                refine lv_if_eq (tgt := 166) hx hb dX1_decide_153 (by decide) (fun hc => ?_) (fun hc => ?_)
                · replace hf := (if_pos hc).symm.trans hf
                  replace hf := Option.some.inj hf
                  subst hf
                  exact hJ ls H locs hH (lv_sub hl [0, 1, 2, 3, 4] rfl)
                · replace hf := (if_neg hc).symm.trans hf
                  refine lv_aload_n hx hb dX1_decide_156 rfl (lv_at hl 0 rfl) ?_
                  refine lv_iload hx hb dX1_decide_157 (lv_at hl 4 rfl) ?_
                  refine lv_iload hx hb dX1_decide_159 (lv_at hl 5 rfl) ?_
                  obtain ⟨M22, eM22, hf⟩ := st_bd hf
                  refine q_callv (q_runV (As := [.int x3, .int v15]) (rest := []) hE hH (tz_X1_send l X hk (hf := eM22)) kv_X1_161 (q_mor_0 hk) (by decide) rfl hl.1 rfl (Nat.le_of_ble_eq_true rfl) dX1_decide_161) hH (fun H locs hH => ?_)
                  refine lv_iconst (v := (-1)) hx hb dX1_decide_164 (by decide) ?_
                  refine lv_istore_n (lv' := [(2, .int (-1)), (0, .ref (X.1 k)), (1, .ref (X.1 6)), (3, .int x18), (4, .int x3), (5, .int v15), (6, .int (b2i z19))]) hx hb dX1_decide_165 rfl hl (by decide) rfl (fun ls hl => ?_)
                  replace hf := Option.some.inj hf
                  subst hf
                  exact hJ ls H locs hH (lv_sub hl [1, 2, 0, 3, 4] rfl)
              clear hf
              replace hf := hr
              refine lv_if_ne (tgt := 151) hx hb dX1_decide_83 (by decide) (fun hc => ?_) (fun hc => ?_)
              · replace hf := (if_neg hc).symm.trans hf
                replace hf := Option.some.inj hf
                subst hf
                exact hJ ls H locs hH (lv_sub hl [1, 2, 3, 4, 5, 6, 0] rfl)
              · replace hf := (if_pos hc).symm.trans hf
                refine lv_iload hx hb dX1_decide_86 (lv_at hl 6 rfl) ?_
                refine lv_iload_n hx hb dX1_decide_88 rfl (lv_at hl 3 rfl) ?_
                obtain ⟨w26, hr, hf⟩ := st_bd hf
                have hJ : qu3 w26 (fun x23 x24 M25 => ∀ (ls : Array Slot) (H : Heap) (locs : List Loc), q_H X M25 s H locs → lv_has ls 8 [(0, .ref (X.1 k)), (1, .ref (X.1 6)), (2, .int x23), (3, .int x24), (4, .int x3), (5, .int v15)] → W p l e (q_rm (4)) s m args below meth c H locs 0 0 (MQ below (q_Qv X MR) args s 0 0 (q_A X)) (F0 m 136 ls [])) := by
                  obtain ⟨x23, x24, M25⟩ := w26
                  replace hf := st_u3 hf
                  intro ls H locs hH hl
                  refine lv_aload_n hx hb dX1_decide_136 rfl (lv_at hl 0 rfl) ?_
                  obtain ⟨w27, ew27, hf⟩ := st_lty hf
                  obtain ⟨r28, M29⟩ := w27
                  replace hf := st_u2 hf
                  refine q_calli (q_runV (As := []) (rest := []) hE hH (tz_X1_drawOfTen l X hk (hf := ew27.symm)) kv_X1_158 (q_mor_0 hk) (by decide) rfl hl.1 rfl (Nat.le_of_ble_eq_true rfl) dX1_decide_137) hH (fun H locs hH => ?_)
                  refine lv_iload_n hx hb dX1_decide_140 rfl (lv_at hl 3 rfl) ?_
                  obtain ⟨z30, hr, hf⟩ := st_ltx hf
                  have hJ : ∀ (ls : Array Slot) (H : Heap) (locs : List Loc), q_H X M29 s H locs → lv_has ls 8 [(0, .ref (X.1 k)), (1, .ref (X.1 6)), (2, .int x23), (3, .int x24), (4, .int x3), (5, .int v15)] → W p l e (q_rm (4)) s m args below meth c H locs 0 0 (MQ below (q_Qv X MR) args s 0 0 (q_A X)) (F0 m 149 ls [.int (b2i z30)]) := by
                    intro ls H locs hH hl
                    refine lv_istore (lv' := [(6, .int (b2i z30)), (0, .ref (X.1 k)), (1, .ref (X.1 6)), (2, .int x23), (3, .int x24), (4, .int x3), (5, .int v15)]) hx hb dX1_decide_149 hl (by decide) rfl (fun ls hl => ?_)
                    replace hf := Option.some.inj hf
                    subst hf
                    exact hJ ls H locs hH (lv_sub hl [1, 2, 3, 4, 5, 6, 0] rfl)
                  clear hf
                  replace hf := hr
                  refine lv_icmp_ge (tgt := 148) hx hb dX1_decide_141 (by decide) (fun hc => ?_) (fun hc => ?_)
                  · replace hf := (if_pos hc).symm.trans hf
                    refine lv_iconst (v := 0) hx hb dX1_decide_148 (by decide) ?_
                    subst hf
                    exact hJ ls H locs hH (lv_sub hl [0, 1, 2, 3, 4, 5] rfl)
                  · replace hf := (if_neg hc).symm.trans hf
                    refine lv_iconst (v := 1) hx hb dX1_decide_144 (by decide) ?_
                    refine lv_goto (tgt := 149) hx hb dX1_decide_145 (by decide) ?_
                    subst hf
                    exact hJ ls H locs hH (lv_sub hl [0, 1, 2, 3, 4, 5] rfl)
                clear hf
                replace hf := hr
                refine lv_icmp_eq (tgt := 136) hx hb dX1_decide_89 (by decide) (fun hc => ?_) (fun hc => ?_)
                · replace hf := (if_pos hc).symm.trans hf
                  replace hf := Option.some.inj hf
                  subst hf
                  exact hJ ls H locs hH (lv_sub hl [1, 2, 3, 4, 5, 6] rfl)
                · replace hf := (if_neg hc).symm.trans hf
                  refine lv_aload_n hx hb dX1_decide_92 rfl (lv_at hl 1 rfl) ?_
                  refine lv_iload hx hb dX1_decide_93 (lv_at hl 6 rfl) ?_
                  refine lv_aload_n hx hb dX1_decide_95 rfl (lv_at hl 2 rfl) ?_
                  refine pz_gS (a := 10) hE hH fr_X1_136 qk_6 (by decide) dX1_decide_96 ?_
                  obtain ⟨M31, eM31, hf⟩ := st_bd hf
                  refine q_callv (q_runV (As := [.int v15, .ref (X.1 10)]) (rest := []) hE hH (tz_X1_spell l X hk (hf := eM31)) kv_X1_141 (q_mor_0 hk) (by decide) rfl hl.1 rfl (Nat.le_of_ble_eq_true rfl) dX1_decide_99) hH (fun H locs hH => ?_)
                  refine lv_aload_n hx hb dX1_decide_102 rfl (lv_at hl 2 rfl) ?_
                  refine lv_iload hx hb dX1_decide_103 (lv_at hl 6 rfl) ?_
                  obtain ⟨r32, er32, hf⟩ := st_bd hf
                  refine q_callq (q_runV (As := [.int v15]) (rest := []) hE hH (tz_X0_usedBy l X (hf := er32)) kv_X1_145 qk_6 (by decide) rfl hl.1 rfl (Nat.le_of_ble_eq_true rfl) dX1_decide_105) hH (fun H locs hH => ?_)
                  obtain ⟨w35, hr, hf⟩ := st_bd hf
                  have hJ : qu2 w35 (fun x33 M34 => ∀ (ls : Array Slot) (H : Heap) (locs : List Loc), q_H X M34 s H locs → lv_has ls 8 [(0, .ref (X.1 k)), (1, .ref (X.1 6)), (4, .int x3), (5, .int v15)] → W p l e (q_rm (4)) s m args below meth c H locs 0 0 (MQ below (q_Qv X MR) args s 0 0 (q_A X)) (F0 m 132 ls [.int x33])) := by
                    obtain ⟨x33, M34⟩ := w35
                    replace hf := st_u2 hf
                    intro ls H locs hH hl
                    refine lv_istore_n (lv' := [(3, .int x33), (0, .ref (X.1 k)), (1, .ref (X.1 6)), (4, .int x3), (5, .int v15)]) hx hb dX1_decide_132 rfl hl (by decide) rfl (fun ls hl => ?_)
                    refine lv_iload hx hb dX1_decide_133 (lv_at hl 4 rfl) ?_
                    refine lv_istore_n (lv' := [(2, .int v15), (3, .int x33), (0, .ref (X.1 k)), (1, .ref (X.1 6)), (4, .int x3), (5, .int v15)]) hx hb dX1_decide_135 rfl hl (by decide) rfl (fun ls hl => ?_)
                    replace hf := Option.some.inj hf
                    subst hf
                    exact hJ ls H locs hH (lv_sub hl [2, 3, 0, 1, 4, 5] rfl)
                  clear hf
                  replace hf := hr
                  rcases r32 with _ | a36
                  · replace hf := st_noN hf
                    refine lv_astoreN (lv' := [(7, .null), (6, .int (b2i z16)), (0, .ref (X.1 k)), (1, .ref (X.1 6)), (2, .int x1), (3, .int x2), (4, .int x3), (5, .int v15)]) hx hb dX1_decide_108 hl (by decide) rfl (fun ls hl => ?_)
                    refine lv_aloadN hx hb dX1_decide_110 (lv_at hl 0 rfl) ?_
                    refine lv_ifnonnullN hx hb dX1_decide_112 ?_
                    refine lv_iconst (v := 0) hx hb dX1_decide_115 (by decide) ?_
                    refine lv_goto (tgt := 132) hx hb dX1_decide_116 (by decide) ?_
                    replace hf := Option.some.inj hf
                    subst hf
                    exact hJ ls H locs hH (lv_sub hl [2, 3, 6, 7] rfl)
                  · replace hf := st_noS hf
                    obtain ⟨ha36, hf⟩ := st_gd hf
                    refine lv_astore (lv' := [(7, .ref (X.1 a36)), (6, .int (b2i z16)), (0, .ref (X.1 k)), (1, .ref (X.1 6)), (2, .int x1), (3, .int x2), (4, .int x3), (5, .int v15)]) hx hb dX1_decide_108 hl (by decide) rfl (fun ls hl => ?_)
                    refine lv_aload hx hb dX1_decide_110 (lv_at hl 0 rfl) ?_
                    refine lv_ifnonnull (tgt := 119) hx hb dX1_decide_112 (by decide) ?_
                    refine lv_aload hx hb dX1_decide_119 (lv_at hl 0 rfl) ?_
                    refine lv_aload_n hx hb dX1_decide_121 rfl (lv_at hl 3 rfl) ?_
                    refine pz_gS (a := 10) hE hH fr_X1_136 qk_6 (by decide) dX1_decide_122 ?_
                    refine lv_aload_n hx hb dX1_decide_125 rfl (lv_at hl 3 rfl) ?_
                    refine pz_gS (a := 11) hE hH fr_X1_149 qk_6 (by decide) dX1_decide_126 ?_
                    obtain ⟨w37, ew37, hf⟩ := st_bd hf
                    obtain ⟨r38, M39⟩ := w37
                    replace hf := st_u2 hf
                    refine q_calli (q_runV (As := [.ref (X.1 10), .ref (X.1 11)]) (rest := []) hE hH (tz_X9_valueIn l X ha36 (hf := ew37)) kv_X1_152 (q_way_0 ha36) (by decide) rfl hl.1 rfl (Nat.le_of_ble_eq_true rfl) dX1_decide_129) hH (fun H locs hH => ?_)
                    replace hf := Option.some.inj hf
                    subst hf
                    exact hJ ls H locs hH (lv_sub hl [2, 3, 6, 7] rfl)
            clear hf
            replace hf := hr
            refine lv_if_ne (tgt := 78) hx hb dX1_decide_60 (by decide) (fun hc => ?_) (fun hc => ?_)
            · replace hf := (if_neg hc).symm.trans hf
              refine lv_iconst (v := 0) hx hb dX1_decide_78 (by decide) ?_
              replace hf := Option.some.inj hf
              subst hf
              exact hJ ls H locs hH (lv_sub hl [1, 2, 3, 4, 5, 0] rfl)
            · replace hf := (if_pos hc).symm.trans hf
              refine lv_aload_n hx hb dX1_decide_63 rfl (lv_at hl 1 rfl) ?_
              refine lv_iload hx hb dX1_decide_64 (lv_at hl 5 rfl) ?_
              refine lv_iload hx hb dX1_decide_66 (lv_at hl 0 rfl) ?_
              obtain ⟨r40, er40, hf⟩ := st_bd hf
              refine q_calli (q_runV (As := [.int x3, .int v15]) (rest := []) hE hH (tz_X1_goesUnasked l X hk (hf := er40)) kv_X1_132 (q_mor_0 hk) (by decide) rfl hl.1 rfl (Nat.le_of_ble_eq_true rfl) dX1_decide_68) hH (fun H locs hH => ?_)
              refine lv_if_eq (tgt := 78) hx hb dX1_decide_71 (by decide) (fun hc => ?_) (fun hc => ?_)
              · replace hf := (if_pos hc).symm.trans hf
                refine lv_iconst (v := 0) hx hb dX1_decide_78 (by decide) ?_
                replace hf := Option.some.inj hf
                subst hf
                exact hJ ls H locs hH (lv_sub hl [1, 2, 3, 4, 5, 0] rfl)
              · replace hf := (if_neg hc).symm.trans hf
                refine lv_iconst (v := 1) hx hb dX1_decide_74 (by decide) ?_
                refine lv_goto (tgt := 79) hx hb dX1_decide_75 (by decide) ?_
                replace hf := Option.some.inj hf
                subst hf
                exact hJ ls H locs hH (lv_sub hl [1, 2, 3, 4, 5, 0] rfl)
          · replace hf := (if_neg hc).symm.trans hf
            refine lv_goto (tgt := 166) hx hb dX1_decide_41 (by decide) ?_
            replace hf := Option.some.inj hf
            subst hf
            exact hJ ls H locs hH (lv_sub hl [0, 1, 2, 3, 4] rfl)) _ hlp
  exact hG ls H locs hH (lv_sub hl [3, 4, 2, 1, 0] rfl)

theorem dX1_pass_0 : decode cX1_pass 0 = .ok (.iconst 0, 1) := by decide +kernel
theorem dX1_pass_1 : decode cX1_pass 1 = .ok (.istore_n 3, 1) := by decide +kernel
theorem dX1_pass_2 : decode cX1_pass 2 = .ok (.iconst 0, 1) := by decide +kernel
theorem dX1_pass_3 : decode cX1_pass 3 = .ok (.istore 4, 2) := by decide +kernel
theorem dX1_pass_5 : decode cX1_pass 5 = .ok (.iload 4, 2) := by decide +kernel
theorem dX1_pass_7 : decode cX1_pass 7 = .ok (.iload_n 1, 1) := by decide +kernel
theorem dX1_pass_8 : decode cX1_pass 8 = .ok (.if_icmp .ge 89, 3) := by decide +kernel
theorem dX1_pass_11 : decode cX1_pass 11 = .ok (.aload_n 0, 1) := by decide +kernel
theorem dX1_pass_12 : decode cX1_pass 12 = .ok (.getfield 50, 3) := by decide +kernel
theorem dX1_pass_15 : decode cX1_pass 15 = .ok (.ifCond .ne 82, 3) := by decide +kernel
theorem dX1_pass_18 : decode cX1_pass 18 = .ok (.aload_n 0, 1) := by decide +kernel
theorem dX1_pass_19 : decode cX1_pass 19 = .ok (.invokevirtual 111, 3) := by decide +kernel
theorem dX1_pass_22 : decode cX1_pass 22 = .ok (.aload_n 0, 1) := by decide +kernel
theorem dX1_pass_23 : decode cX1_pass 23 = .ok (.getfield 47, 3) := by decide +kernel
theorem dX1_pass_26 : decode cX1_pass 26 = .ok (.aload_n 0, 1) := by decide +kernel
theorem dX1_pass_27 : decode cX1_pass 27 = .ok (.getfield 25, 3) := by decide +kernel
theorem dX1_pass_30 : decode cX1_pass 30 = .ok (.if_icmp .ge 17, 3) := by decide +kernel
theorem dX1_pass_33 : decode cX1_pass 33 = .ok (.aload_n 0, 1) := by decide +kernel
theorem dX1_pass_34 : decode cX1_pass 34 = .ok (.getfield 41, 3) := by decide +kernel
theorem dX1_pass_37 : decode cX1_pass 37 = .ok (.aload_n 0, 1) := by decide +kernel
theorem dX1_pass_38 : decode cX1_pass 38 = .ok (.getfield 9, 3) := by decide +kernel
theorem dX1_pass_41 : decode cX1_pass 41 = .ok (.getfield 76, 3) := by decide +kernel
theorem dX1_pass_44 : decode cX1_pass 44 = .ok (.if_icmp .lt 11, 3) := by decide +kernel
theorem dX1_pass_47 : decode cX1_pass 47 = .ok (.aload_n 0, 1) := by decide +kernel
theorem dX1_pass_48 : decode cX1_pass 48 = .ok (.iconst 1, 1) := by decide +kernel
theorem dX1_pass_49 : decode cX1_pass 49 = .ok (.putfield 50, 3) := by decide +kernel
theorem dX1_pass_52 : decode cX1_pass 52 = .ok (.goto 39, 3) := by decide +kernel
theorem dX1_pass_55 : decode cX1_pass 55 = .ok (.aload_n 0, 1) := by decide +kernel
theorem dX1_pass_56 : decode cX1_pass 56 = .ok (.aload_n 2, 1) := by decide +kernel
theorem dX1_pass_57 : decode cX1_pass 57 = .ok (.invokevirtual 114, 3) := by decide +kernel
theorem dX1_pass_60 : decode cX1_pass 60 = .ok (.aload_n 0, 1) := by decide +kernel
theorem dX1_pass_61 : decode cX1_pass 61 = .ok (.dup, 1) := by decide +kernel
theorem dX1_pass_62 : decode cX1_pass 62 = .ok (.getfield 38, 3) := by decide +kernel
theorem dX1_pass_65 : decode cX1_pass 65 = .ok (.iconst 1, 1) := by decide +kernel
theorem dX1_pass_66 : decode cX1_pass 66 = .ok (.iadd, 1) := by decide +kernel
theorem dX1_pass_67 : decode cX1_pass 67 = .ok (.putfield 38, 3) := by decide +kernel
theorem dX1_pass_70 : decode cX1_pass 70 = .ok (.iinc 3 1, 3) := by decide +kernel
theorem dX1_pass_73 : decode cX1_pass 73 = .ok (.aload_n 0, 1) := by decide +kernel
theorem dX1_pass_74 : decode cX1_pass 74 = .ok (.aload_n 0, 1) := by decide +kernel
theorem dX1_pass_75 : decode cX1_pass 75 = .ok (.getfield 38, 3) := by decide +kernel
theorem dX1_pass_78 : decode cX1_pass 78 = .ok (.bipush 60, 2) := by decide +kernel
theorem dX1_pass_80 : decode cX1_pass 80 = .ok (.if_icmp .le 7, 3) := by decide +kernel
theorem dX1_pass_83 : decode cX1_pass 83 = .ok (.iconst 1, 1) := by decide +kernel
theorem dX1_pass_84 : decode cX1_pass 84 = .ok (.goto 4, 3) := by decide +kernel
theorem dX1_pass_87 : decode cX1_pass 87 = .ok (.iconst 0, 1) := by decide +kernel
theorem dX1_pass_88 : decode cX1_pass 88 = .ok (.putfield 50, 3) := by decide +kernel
theorem dX1_pass_91 : decode cX1_pass 91 = .ok (.iinc 4 1, 3) := by decide +kernel
theorem dX1_pass_94 : decode cX1_pass 94 = .ok (.goto (-89), 3) := by decide +kernel
theorem dX1_pass_97 : decode cX1_pass 97 = .ok (.iload_n 3, 1) := by decide +kernel
theorem dX1_pass_98 : decode cX1_pass 98 = .ok (.ireturn, 1) := by decide +kernel
set_option maxRecDepth 100000 in
set_option maxHeartbeats 4000000 in
theorem tz_X1_pass (l : Launch) (X : qX) {k : Nat} {p0 : Int32} {M MR : qM} {r0 : Int32} (hk : q_mor k = true) (hf : jMo_pass k p0 M = some (r0, MR)) : q_Met l X yX1_pass cX1_pass 5 (some .int) (5) M [.ref (X.1 k), .int p0, .ref (X.1 6)] (q_Qi X r0 MR) := by
  refine q_enter (by decide) (Nat.le_of_ble_eq_true rfl) ?_
  intro p e s m args below meth c hE hrt hlk H locs hH ls hl
  have hx := hE.1
  have hb := hE.2.1
  have hl : lv_has ls 5 [(0, .ref (X.1 k)), (1, .int p0), (2, .ref (X.1 6))] := hl
  unfold jMo_pass at hf
  refine lv_iconst (v := 0) hx hb dX1_pass_0 (by decide) ?_
  refine lv_istore_n (lv' := [(3, .int 0), (0, .ref (X.1 k)), (1, .int p0), (2, .ref (X.1 6))]) hx hb dX1_pass_1 rfl hl (by decide) rfl (fun ls hl => ?_)
  refine lv_iconst (v := 0) hx hb dX1_pass_2 (by decide) ?_
  refine lv_istore (lv' := [(4, .int 0), (3, .int 0), (0, .ref (X.1 k)), (1, .int p0), (2, .ref (X.1 6))]) hx hb dX1_pass_3 hl (by decide) rfl (fun ls hl => ?_)
  obtain ⟨r6, hlp, hf⟩ := st_bd hf
  have hX : (fun q0 => qu2 q0 (fun x4 M5 => ∀ (ls : Array Slot) (H : Heap) (locs : List Loc), q_H X M5 s H locs → lv_has ls 5 [(3, .int x4)] → W p l e (q_rm (5)) s m args below meth c H locs 0 0 (MQ below (q_Qi X r0 MR) args s 0 0 (q_A X)) (F0 m 97 ls [])) : (Int32 × qM) → Prop) r6 := by
    obtain ⟨x4, M5⟩ := r6
    replace hf := st_u2 hf
    intro ls H locs hH hl
    refine lv_iload_n hx hb dX1_pass_97 rfl (lv_at hl 0 rfl) ?_
    replace hf := Option.some.inj hf
    obtain ⟨rfl, rfl⟩ := qi2 hf
    exact pz_reti hE hrt hlk hH dX1_pass_98
  clear hf
  have hG := qlp_ind (r := r6) (fun q => qu3 q (fun x1 x2 M3 => ∀ (ls : Array Slot) (H : Heap) (locs : List Loc), q_H X M3 s H locs → lv_has ls 5 [(0, .ref (X.1 k)), (1, .int p0), (2, .ref (X.1 6)), (3, .int x1), (4, .int x2)] → W p l e (q_rm (5)) s m args below meth c H locs 0 0 (MQ below (q_Qi X r0 MR) args s 0 0 (q_A X)) (F0 m 5 ls []))) (by
      intro q o hf hK1 hK2
      obtain ⟨x1, x2, M3⟩ := q
      replace hf := st_u3 hf
      intro ls H locs hH hl
      refine lv_iload hx hb dX1_pass_5 (lv_at hl 4 rfl) ?_
      refine lv_iload_n hx hb dX1_pass_7 rfl (lv_at hl 1 rfl) ?_
      refine lv_icmp_ge (tgt := 97) hx hb dX1_pass_8 (by decide) (fun hc => ?_) (fun hc => ?_)
      · replace hf := (if_pos hc).symm.trans hf
        replace hf := hK2 _ (Option.some.inj hf).symm
        subst hf
        exact hX ls H locs hH (lv_sub hl [3] rfl)
      · replace hf := (if_neg hc).symm.trans hf
        refine lv_aload_n hx hb dX1_pass_11 rfl (lv_at hl 0 rfl) ?_
        refine pz_gI hE hH fr_X1_50 (q_mor_0 hk) dX1_pass_12 ?_
        refine lv_if_ne (tgt := 97) hx hb dX1_pass_15 (by decide) (fun hc => ?_) (fun hc => ?_)
        · replace hf := (if_neg hc).symm.trans hf
          replace hf := hK2 _ (Option.some.inj hf).symm
          subst hf
          exact hX ls H locs hH (lv_sub hl [3] rfl)
        · replace hf := (if_pos hc).symm.trans hf
          refine lv_aload_n hx hb dX1_pass_18 rfl (lv_at hl 0 rfl) ?_
          obtain ⟨M7, eM7, hf⟩ := st_bd hf
          refine q_callv (q_runV (As := []) (rest := []) hE hH (tz_X1_arrive l X hk (hf := eM7)) kv_X1_111 (q_mor_0 hk) (by decide) rfl hl.1 rfl (Nat.le_of_ble_eq_true rfl) dX1_pass_19) hH (fun H locs hH => ?_)
          refine lv_aload_n hx hb dX1_pass_22 rfl (lv_at hl 0 rfl) ?_
          refine pz_gI hE hH fr_X1_47 (q_mor_0 hk) dX1_pass_23 ?_
          refine lv_aload_n hx hb dX1_pass_26 rfl (lv_at hl 0 rfl) ?_
          refine pz_gI hE hH fr_X1_25 (q_mor_0 hk) dX1_pass_27 ?_
          obtain ⟨w10, hr, hf⟩ := st_bd hf
          have hJ : qu2 w10 (fun x8 M9 => ∀ (ls : Array Slot) (H : Heap) (locs : List Loc), q_H X M9 s H locs → lv_has ls 5 [(0, .ref (X.1 k)), (1, .int p0), (2, .ref (X.1 6)), (3, .int x8), (4, .int x2)] → W p l e (q_rm (5)) s m args below meth c H locs 0 0 (MQ below (q_Qi X r0 MR) args s 0 0 (q_A X)) (F0 m 91 ls [])) := by
            obtain ⟨x8, M9⟩ := w10
            replace hf := st_u2 hf
            intro ls H locs hH hl
            obtain ⟨x11, ex11, hf⟩ := st_lty hf
            refine lv_iinc (v := x11) (lv' := [(4, .int x11), (0, .ref (X.1 k)), (1, .int p0), (2, .ref (X.1 6)), (3, .int x8)]) hx hb dX1_pass_91 hl (k := 4) rfl (by rw [ex11]; rfl) (by decide) rfl (fun ls hl => ?_)
            refine lv_goto (tgt := 5) hx hb dX1_pass_94 (by decide) ?_
            exact hK1 _ (Option.some.inj hf).symm ls H locs hH (lv_sub hl [1, 2, 3, 4, 0] rfl)
          clear hf
          replace hf := hr
          refine lv_icmp_ge (tgt := 47) hx hb dX1_pass_30 (by decide) (fun hc => ?_) (fun hc => ?_)
          · replace hf := (if_pos hc).symm.trans hf
            refine lv_aload_n hx hb dX1_pass_47 rfl (lv_at hl 0 rfl) ?_
            refine lv_iconst (v := 1) hx hb dX1_pass_48 (by decide) ?_
            obtain ⟨M12, eM12, hf⟩ := st_lty hf
            refine pz_pZ hE hH fw_X1_50 (q_mor_0 hk) ⟨rfl, rfl⟩ eM12 dX1_pass_49 (fun H locs hH => ?_)
            refine lv_goto (tgt := 91) hx hb dX1_pass_52 (by decide) ?_
            replace hf := Option.some.inj hf
            subst hf
            exact hJ ls H locs hH (lv_sub hl [0, 1, 2, 3, 4] rfl)
          · replace hf := (if_neg hc).symm.trans hf
            refine lv_aload_n hx hb dX1_pass_33 rfl (lv_at hl 0 rfl) ?_
            refine pz_gI hE hH fr_X1_41 (q_mor_0 hk) dX1_pass_34 ?_
            refine lv_aload_n hx hb dX1_pass_37 rfl (lv_at hl 0 rfl) ?_
            obtain ⟨a13, ea13, hf⟩ := st_bd hf
            refine pz_gR hE hH fr_X1_9 (q_mor_0 hk) ea13 dX1_pass_38 (fun ha13 => ?_)
            replace ha13 : q_vil a13 = true := ha13
            refine pz_gI hE hH fr_X1_76 (q_vil_0 ha13) dX1_pass_41 ?_
            refine lv_icmp_lt (tgt := 55) hx hb dX1_pass_44 (by decide) (fun hc => ?_) (fun hc => ?_)
            · replace hf := (if_pos hc).symm.trans hf
              refine lv_aload_n hx hb dX1_pass_55 rfl (lv_at hl 0 rfl) ?_
              refine lv_aload_n hx hb dX1_pass_56 rfl (lv_at hl 2 rfl) ?_
              obtain ⟨M14, eM14, hf⟩ := st_bd hf
              refine q_callv (q_runV (As := [.ref (X.1 6)]) (rest := []) hE hH (tz_X1_decide l X hk (hf := eM14)) kv_X1_114 (q_mor_0 hk) (by decide) rfl hl.1 rfl (Nat.le_of_ble_eq_true rfl) dX1_pass_57) hH (fun H locs hH => ?_)
              refine lv_aload_n hx hb dX1_pass_60 rfl (lv_at hl 0 rfl) ?_
              refine lv_dup hx hb dX1_pass_61 rfl ?_
              refine pz_gI hE hH fr_X1_38 (q_mor_0 hk) dX1_pass_62 ?_
              refine lv_iconst (v := 1) hx hb dX1_pass_65 (by decide) ?_
              refine lv_iadd hx hb dX1_pass_66 ?_
              obtain ⟨M15, eM15, hf⟩ := st_lty hf
              refine pz_pI hE hH fw_X1_38 (q_mor_0 hk)  eM15 dX1_pass_67 (fun H locs hH => ?_)
              obtain ⟨x16, ex16, hf⟩ := st_lty hf
              refine lv_iinc (v := x16) (lv' := [(3, .int x16), (0, .ref (X.1 k)), (1, .int p0), (2, .ref (X.1 6)), (4, .int x2)]) hx hb dX1_pass_70 hl (k := 3) rfl (by rw [ex16]; rfl) (by decide) rfl (fun ls hl => ?_)
              refine lv_aload_n hx hb dX1_pass_73 rfl (lv_at hl 1 rfl) ?_
              refine lv_aload_n hx hb dX1_pass_74 rfl (lv_at hl 1 rfl) ?_
              refine pz_gI hE hH fr_X1_38 (q_mor_0 hk) dX1_pass_75 ?_
              refine lv_bipush (v := 60) hx hb dX1_pass_78 (by decide) ?_
              obtain ⟨z17, hr, hf⟩ := st_ltx hf
              have hJ : ∀ (ls : Array Slot) (H : Heap) (locs : List Loc), q_H X M15 s H locs → lv_has ls 5 [(0, .ref (X.1 k)), (1, .int p0), (2, .ref (X.1 6)), (3, .int x16), (4, .int x2)] → W p l e (q_rm (5)) s m args below meth c H locs 0 0 (MQ below (q_Qi X r0 MR) args s 0 0 (q_A X)) (F0 m 88 ls [.int (b2i z17), .ref (X.1 k)]) := by
                intro ls H locs hH hl
                obtain ⟨M18, eM18, hf⟩ := st_lty hf
                refine pz_pZ hE hH fw_X1_50 (q_mor_0 hk) (q_nz z17) eM18 dX1_pass_88 (fun H locs hH => ?_)
                replace hf := Option.some.inj hf
                subst hf
                exact hJ ls H locs hH (lv_sub hl [0, 1, 2, 3, 4] rfl)
              clear hf
              replace hf := hr
              refine lv_icmp_le (tgt := 87) hx hb dX1_pass_80 (by decide) (fun hc => ?_) (fun hc => ?_)
              · replace hf := (if_pos hc).symm.trans hf
                refine lv_iconst (v := 0) hx hb dX1_pass_87 (by decide) ?_
                subst hf
                exact hJ ls H locs hH (lv_sub hl [1, 2, 3, 0, 4] rfl)
              · replace hf := (if_neg hc).symm.trans hf
                refine lv_iconst (v := 1) hx hb dX1_pass_83 (by decide) ?_
                refine lv_goto (tgt := 88) hx hb dX1_pass_84 (by decide) ?_
                subst hf
                exact hJ ls H locs hH (lv_sub hl [1, 2, 3, 0, 4] rfl)
            · replace hf := (if_neg hc).symm.trans hf
              refine lv_aload_n hx hb dX1_pass_47 rfl (lv_at hl 0 rfl) ?_
              refine lv_iconst (v := 1) hx hb dX1_pass_48 (by decide) ?_
              obtain ⟨M19, eM19, hf⟩ := st_lty hf
              refine pz_pZ hE hH fw_X1_50 (q_mor_0 hk) ⟨rfl, rfl⟩ eM19 dX1_pass_49 (fun H locs hH => ?_)
              refine lv_goto (tgt := 91) hx hb dX1_pass_52 (by decide) ?_
              replace hf := Option.some.inj hf
              subst hf
              exact hJ ls H locs hH (lv_sub hl [0, 1, 2, 3, 4] rfl)) _ hlp
  exact hG ls H locs hH (lv_sub hl [2, 3, 4, 1, 0] rfl)

