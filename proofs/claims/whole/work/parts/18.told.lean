theorem dX5_began_0 : decode cX5_began 0 = .ok (.aload_n 0, 1) := by decide +kernel
theorem dX5_began_1 : decode cX5_began 1 = .ok (.getfield 9, 3) := by decide +kernel
theorem dX5_began_4 : decode cX5_began 4 = .ok (.ifnull 7, 3) := by decide +kernel
theorem dX5_began_7 : decode cX5_began 7 = .ok (.iconst 1, 1) := by decide +kernel
theorem dX5_began_8 : decode cX5_began 8 = .ok (.goto 4, 3) := by decide +kernel
theorem dX5_began_11 : decode cX5_began 11 = .ok (.iconst 0, 1) := by decide +kernel
theorem dX5_began_12 : decode cX5_began 12 = .ok (.ireturn, 1) := by decide +kernel
set_option maxRecDepth 100000 in
set_option maxHeartbeats 4000000 in
theorem tz_X5_began (l : Launch) (X : qX) {M : qM} {r0 : Bool} (hf : jTo_began M = r0) : q_Met l X yX5_began cX5_began 1 (some .boolean) (1) M [.ref (X.1 60)] (q_Qi X (b2i r0) M) := by
  refine q_enter (by decide) (Nat.le_of_ble_eq_true rfl) ?_
  intro p e s m args below meth c hE hrt hlk H locs hH ls hl
  have hx := hE.1
  have hb := hE.2.1
  have hl : lv_has ls 1 [(0, .ref (X.1 60))] := hl
  unfold jTo_began at hf
  refine lv_aload_n hx hb dX5_began_0 rfl (lv_at hl 0 rfl) ?_
  refine pz_gQ hE hH fr_X5_9 qk_60 dX5_began_1 ?_
  obtain ⟨z1, hr, hf⟩ := st_ltx hf
  have hJ : ∀ (ls : Array Slot) (H : Heap) (locs : List Loc), q_H X M s H locs → lv_has ls 1 [] → W p l e (q_rm (1)) s m args below meth c H locs 0 0 (MQ below (q_Qi X (b2i r0) M) args s 0 0 (q_A X)) (F0 m 12 ls [.int (b2i z1)]) := by
    intro ls H locs hH hl
    subst hf
    exact pz_retz hE hrt hlk hH rfl dX5_began_12
  clear hf
  replace hf := hr
  refine pz_ifnull (tgt := 11) hE dX5_began_4 (by decide) (fun hc => ?_) (fun hc => ?_)
  · replace hf := (if_pos hc).symm.trans hf
    refine lv_iconst (v := 0) hx hb dX5_began_11 (by decide) ?_
    subst hf
    exact hJ ls H locs hH (lv_sub hl [] rfl)
  · replace hf := (if_neg hc).symm.trans hf
    refine lv_iconst (v := 1) hx hb dX5_began_7 (by decide) ?_
    refine lv_goto (tgt := 12) hx hb dX5_began_8 (by decide) ?_
    subst hf
    exact hJ ls H locs hH (lv_sub hl [] rfl)

theorem dX5_begin_0 : decode cX5_begin 0 = .ok (.aload_n 0, 1) := by decide +kernel
theorem dX5_begin_1 : decode cX5_begin 1 = .ok (.aload_n 1, 1) := by decide +kernel
theorem dX5_begin_2 : decode cX5_begin 2 = .ok (.putfield 9, 3) := by decide +kernel
theorem dX5_begin_5 : decode cX5_begin 5 = .ok (.aload_n 0, 1) := by decide +kernel
theorem dX5_begin_6 : decode cX5_begin 6 = .ok (.iload_n 2, 1) := by decide +kernel
theorem dX5_begin_7 : decode cX5_begin 7 = .ok (.putfield 15, 3) := by decide +kernel
theorem dX5_begin_10 : decode cX5_begin 10 = .ok (.aload_n 0, 1) := by decide +kernel
theorem dX5_begin_11 : decode cX5_begin 11 = .ok (.getfield 19, 3) := by decide +kernel
theorem dX5_begin_14 : decode cX5_begin 14 = .ok (.iconst (-1), 1) := by decide +kernel
theorem dX5_begin_15 : decode cX5_begin 15 = .ok (.invokestatic 32, 3) := by decide +kernel
theorem dX5_begin_18 : decode cX5_begin 18 = .ok (.return_, 1) := by decide +kernel
set_option maxRecDepth 100000 in
set_option maxHeartbeats 4000000 in
theorem tz_X5_begin (l : Launch) (X : qX) {p0 : Nat} {p1 : Int32} {M MR : qM} (hp0 : q_vil p0 = true) (hf : jTo_begin p0 p1 M = some MR) : q_Met l X yX5_begin cX5_begin 3 none (2) M [.ref (X.1 60), .ref (X.1 p0), .int p1] (q_Qv X MR) := by
  refine q_enter (by decide) (Nat.le_of_ble_eq_true rfl) ?_
  intro p e s m args below meth c hE hrt hlk H locs hH ls hl
  have hx := hE.1
  have hb := hE.2.1
  have hl : lv_has ls 3 [(0, .ref (X.1 60)), (1, .ref (X.1 p0)), (2, .int p1)] := hl
  unfold jTo_begin at hf
  refine lv_aload_n hx hb dX5_begin_0 rfl (lv_at hl 0 rfl) ?_
  refine lv_aload_n hx hb dX5_begin_1 rfl (lv_at hl 1 rfl) ?_
  obtain ⟨M1, eM1, hf⟩ := st_lty hf
  refine pz_pR hE hH fw_X5_9 qk_60 (show q_ok 5 0 p0 = true from hp0) eM1 ⟨rfl, rfl⟩ dX5_begin_2 (fun H locs hH => ?_)
  refine lv_aload_n hx hb dX5_begin_5 rfl (lv_at hl 0 rfl) ?_
  refine lv_iload_n hx hb dX5_begin_6 rfl (lv_at hl 2 rfl) ?_
  obtain ⟨M2, eM2, hf⟩ := st_lty hf
  refine pz_pI hE hH fw_X5_15 qk_60  eM2 dX5_begin_7 (fun H locs hH => ?_)
  refine lv_aload_n hx hb dX5_begin_10 rfl (lv_at hl 0 rfl) ?_
  refine pz_gS (a := 61) hE hH fr_X5_19 qk_60 (by decide) dX5_begin_11 ?_
  refine lv_iconst (v := (-1)) hx hb dX5_begin_14 (by decide) ?_
  obtain ⟨M3, eM3, hf⟩ := st_bd hf
  refine q_callv (q_runS (As := [.ref (X.1 61), .int (-1)]) (rest := []) hE hH (tz_J7_fill_53178 l X (q_isal qk_61) (hf := eM3)) ks_X5_32 (by decide) rfl hl.1 rfl (Nat.le_of_ble_eq_true rfl) dX5_begin_15) hH (fun H locs hH => ?_)
  replace hf := Option.some.inj hf
  subst hf
  exact pz_retv hE hrt hlk hH dX5_begin_18

theorem dX5_rankBesideOthers_0 : decode cX5_rankBesideOthers 0 = .ok (.aload_n 0, 1) := by decide +kernel
theorem dX5_rankBesideOthers_1 : decode cX5_rankBesideOthers 1 = .ok (.getfield 26, 3) := by decide +kernel
theorem dX5_rankBesideOthers_4 : decode cX5_rankBesideOthers 4 = .ok (.iconst 0, 1) := by decide +kernel
theorem dX5_rankBesideOthers_5 : decode cX5_rankBesideOthers 5 = .ok (.invokestatic 32, 3) := by decide +kernel
theorem dX5_rankBesideOthers_8 : decode cX5_rankBesideOthers 8 = .ok (.aload_n 0, 1) := by decide +kernel
theorem dX5_rankBesideOthers_9 : decode cX5_rankBesideOthers 9 = .ok (.getfield 29, 3) := by decide +kernel
theorem dX5_rankBesideOthers_12 : decode cX5_rankBesideOthers 12 = .ok (.iconst 1, 1) := by decide +kernel
theorem dX5_rankBesideOthers_13 : decode cX5_rankBesideOthers 13 = .ok (.invokestatic 32, 3) := by decide +kernel
theorem dX5_rankBesideOthers_16 : decode cX5_rankBesideOthers 16 = .ok (.iconst 0, 1) := by decide +kernel
theorem dX5_rankBesideOthers_17 : decode cX5_rankBesideOthers 17 = .ok (.istore_n 2, 1) := by decide +kernel
theorem dX5_rankBesideOthers_18 : decode cX5_rankBesideOthers 18 = .ok (.iload_n 2, 1) := by decide +kernel
theorem dX5_rankBesideOthers_19 : decode cX5_rankBesideOthers 19 = .ok (.aload_n 0, 1) := by decide +kernel
theorem dX5_rankBesideOthers_20 : decode cX5_rankBesideOthers 20 = .ok (.getfield 9, 3) := by decide +kernel
theorem dX5_rankBesideOthers_23 : decode cX5_rankBesideOthers 23 = .ok (.getfield 38, 3) := by decide +kernel
theorem dX5_rankBesideOthers_26 : decode cX5_rankBesideOthers 26 = .ok (.if_icmp .ge 62, 3) := by decide +kernel
theorem dX5_rankBesideOthers_29 : decode cX5_rankBesideOthers 29 = .ok (.aload_n 0, 1) := by decide +kernel
theorem dX5_rankBesideOthers_30 : decode cX5_rankBesideOthers 30 = .ok (.getfield 19, 3) := by decide +kernel
theorem dX5_rankBesideOthers_33 : decode cX5_rankBesideOthers 33 = .ok (.iload_n 2, 1) := by decide +kernel
theorem dX5_rankBesideOthers_34 : decode cX5_rankBesideOthers 34 = .ok (.iaload, 1) := by decide +kernel
theorem dX5_rankBesideOthers_35 : decode cX5_rankBesideOthers 35 = .ok (.istore_n 3, 1) := by decide +kernel
theorem dX5_rankBesideOthers_36 : decode cX5_rankBesideOthers 36 = .ok (.iload_n 2, 1) := by decide +kernel
theorem dX5_rankBesideOthers_37 : decode cX5_rankBesideOthers 37 = .ok (.iload_n 1, 1) := by decide +kernel
theorem dX5_rankBesideOthers_38 : decode cX5_rankBesideOthers 38 = .ok (.if_icmp .eq 44, 3) := by decide +kernel
theorem dX5_rankBesideOthers_41 : decode cX5_rankBesideOthers 41 = .ok (.iload_n 3, 1) := by decide +kernel
theorem dX5_rankBesideOthers_42 : decode cX5_rankBesideOthers 42 = .ok (.aload_n 0, 1) := by decide +kernel
theorem dX5_rankBesideOthers_43 : decode cX5_rankBesideOthers 43 = .ok (.getfield 26, 3) := by decide +kernel
theorem dX5_rankBesideOthers_46 : decode cX5_rankBesideOthers 46 = .ok (.arraylength, 1) := by decide +kernel
theorem dX5_rankBesideOthers_47 : decode cX5_rankBesideOthers 47 = .ok (.invokestatic 43, 3) := by decide +kernel
theorem dX5_rankBesideOthers_50 : decode cX5_rankBesideOthers 50 = .ok (.ifCond .eq 32, 3) := by decide +kernel
theorem dX5_rankBesideOthers_53 : decode cX5_rankBesideOthers 53 = .ok (.aload_n 0, 1) := by decide +kernel
theorem dX5_rankBesideOthers_54 : decode cX5_rankBesideOthers 54 = .ok (.getfield 26, 3) := by decide +kernel
theorem dX5_rankBesideOthers_57 : decode cX5_rankBesideOthers 57 = .ok (.iload_n 3, 1) := by decide +kernel
theorem dX5_rankBesideOthers_58 : decode cX5_rankBesideOthers 58 = .ok (.dup2, 1) := by decide +kernel
theorem dX5_rankBesideOthers_59 : decode cX5_rankBesideOthers 59 = .ok (.iaload, 1) := by decide +kernel
theorem dX5_rankBesideOthers_60 : decode cX5_rankBesideOthers 60 = .ok (.iconst 1, 1) := by decide +kernel
theorem dX5_rankBesideOthers_61 : decode cX5_rankBesideOthers 61 = .ok (.iadd, 1) := by decide +kernel
theorem dX5_rankBesideOthers_62 : decode cX5_rankBesideOthers 62 = .ok (.iastore, 1) := by decide +kernel
theorem dX5_rankBesideOthers_63 : decode cX5_rankBesideOthers 63 = .ok (.aload_n 0, 1) := by decide +kernel
theorem dX5_rankBesideOthers_64 : decode cX5_rankBesideOthers 64 = .ok (.getfield 29, 3) := by decide +kernel
theorem dX5_rankBesideOthers_67 : decode cX5_rankBesideOthers 67 = .ok (.iload_n 3, 1) := by decide +kernel
theorem dX5_rankBesideOthers_68 : decode cX5_rankBesideOthers 68 = .ok (.dup2, 1) := by decide +kernel
theorem dX5_rankBesideOthers_69 : decode cX5_rankBesideOthers 69 = .ok (.iaload, 1) := by decide +kernel
theorem dX5_rankBesideOthers_70 : decode cX5_rankBesideOthers 70 = .ok (.iload_n 2, 1) := by decide +kernel
theorem dX5_rankBesideOthers_71 : decode cX5_rankBesideOthers 71 = .ok (.iload_n 1, 1) := by decide +kernel
theorem dX5_rankBesideOthers_72 : decode cX5_rankBesideOthers 72 = .ok (.if_icmp .ge 7, 3) := by decide +kernel
theorem dX5_rankBesideOthers_75 : decode cX5_rankBesideOthers 75 = .ok (.iconst 1, 1) := by decide +kernel
theorem dX5_rankBesideOthers_76 : decode cX5_rankBesideOthers 76 = .ok (.goto 4, 3) := by decide +kernel
theorem dX5_rankBesideOthers_79 : decode cX5_rankBesideOthers 79 = .ok (.iconst 0, 1) := by decide +kernel
theorem dX5_rankBesideOthers_80 : decode cX5_rankBesideOthers 80 = .ok (.iadd, 1) := by decide +kernel
theorem dX5_rankBesideOthers_81 : decode cX5_rankBesideOthers 81 = .ok (.iastore, 1) := by decide +kernel
theorem dX5_rankBesideOthers_82 : decode cX5_rankBesideOthers 82 = .ok (.iinc 2 1, 3) := by decide +kernel
theorem dX5_rankBesideOthers_85 : decode cX5_rankBesideOthers 85 = .ok (.goto (-67), 3) := by decide +kernel
theorem dX5_rankBesideOthers_88 : decode cX5_rankBesideOthers 88 = .ok (.iconst 0, 1) := by decide +kernel
theorem dX5_rankBesideOthers_89 : decode cX5_rankBesideOthers 89 = .ok (.istore_n 2, 1) := by decide +kernel
theorem dX5_rankBesideOthers_90 : decode cX5_rankBesideOthers 90 = .ok (.iconst 0, 1) := by decide +kernel
theorem dX5_rankBesideOthers_91 : decode cX5_rankBesideOthers 91 = .ok (.istore_n 3, 1) := by decide +kernel
theorem dX5_rankBesideOthers_92 : decode cX5_rankBesideOthers 92 = .ok (.iload_n 3, 1) := by decide +kernel
theorem dX5_rankBesideOthers_93 : decode cX5_rankBesideOthers 93 = .ok (.bipush 60, 2) := by decide +kernel
theorem dX5_rankBesideOthers_95 : decode cX5_rankBesideOthers 95 = .ok (.if_icmp .gt 28, 3) := by decide +kernel
theorem dX5_rankBesideOthers_98 : decode cX5_rankBesideOthers 98 = .ok (.aload_n 0, 1) := by decide +kernel
theorem dX5_rankBesideOthers_99 : decode cX5_rankBesideOthers 99 = .ok (.getfield 29, 3) := by decide +kernel
theorem dX5_rankBesideOthers_102 : decode cX5_rankBesideOthers 102 = .ok (.iload_n 3, 1) := by decide +kernel
theorem dX5_rankBesideOthers_103 : decode cX5_rankBesideOthers 103 = .ok (.dup2, 1) := by decide +kernel
theorem dX5_rankBesideOthers_104 : decode cX5_rankBesideOthers 104 = .ok (.iaload, 1) := by decide +kernel
theorem dX5_rankBesideOthers_105 : decode cX5_rankBesideOthers 105 = .ok (.iload_n 2, 1) := by decide +kernel
theorem dX5_rankBesideOthers_106 : decode cX5_rankBesideOthers 106 = .ok (.iadd, 1) := by decide +kernel
theorem dX5_rankBesideOthers_107 : decode cX5_rankBesideOthers 107 = .ok (.iastore, 1) := by decide +kernel
theorem dX5_rankBesideOthers_108 : decode cX5_rankBesideOthers 108 = .ok (.iload_n 2, 1) := by decide +kernel
theorem dX5_rankBesideOthers_109 : decode cX5_rankBesideOthers 109 = .ok (.aload_n 0, 1) := by decide +kernel
theorem dX5_rankBesideOthers_110 : decode cX5_rankBesideOthers 110 = .ok (.getfield 26, 3) := by decide +kernel
theorem dX5_rankBesideOthers_113 : decode cX5_rankBesideOthers 113 = .ok (.iload_n 3, 1) := by decide +kernel
theorem dX5_rankBesideOthers_114 : decode cX5_rankBesideOthers 114 = .ok (.iaload, 1) := by decide +kernel
theorem dX5_rankBesideOthers_115 : decode cX5_rankBesideOthers 115 = .ok (.iadd, 1) := by decide +kernel
theorem dX5_rankBesideOthers_116 : decode cX5_rankBesideOthers 116 = .ok (.istore_n 2, 1) := by decide +kernel
theorem dX5_rankBesideOthers_117 : decode cX5_rankBesideOthers 117 = .ok (.iinc 3 1, 3) := by decide +kernel
theorem dX5_rankBesideOthers_120 : decode cX5_rankBesideOthers 120 = .ok (.goto (-28), 3) := by decide +kernel
theorem dX5_rankBesideOthers_123 : decode cX5_rankBesideOthers 123 = .ok (.return_, 1) := by decide +kernel
set_option maxRecDepth 100000 in
set_option maxHeartbeats 4000000 in
theorem tz_X5_rankBesideOthers (l : Launch) (X : qX) {p0 : Int32} {M MR : qM} (hf : jTo_rankBesideOthers p0 M = some MR) : q_Met l X yX5_rankBesideOthers cX5_rankBesideOthers 4 none (2) M [.ref (X.1 60), .int p0] (q_Qv X MR) := by
  refine q_enter (by decide) (Nat.le_of_ble_eq_true rfl) ?_
  intro p e s m args below meth c hE hrt hlk H locs hH ls hl
  have hx := hE.1
  have hb := hE.2.1
  have hl : lv_has ls 4 [(0, .ref (X.1 60)), (1, .int p0)] := hl
  unfold jTo_rankBesideOthers at hf
  refine lv_aload_n hx hb dX5_rankBesideOthers_0 rfl (lv_at hl 0 rfl) ?_
  refine pz_gS (a := 63) hE hH fr_X5_26 qk_60 (by decide) dX5_rankBesideOthers_1 ?_
  refine lv_iconst (v := 0) hx hb dX5_rankBesideOthers_4 (by decide) ?_
  obtain ⟨M1, eM1, hf⟩ := st_bd hf
  refine q_callv (q_runS (As := [.ref (X.1 63), .int 0]) (rest := []) hE hH (tz_J7_fill_53178 l X (q_isal qk_63) (hf := eM1)) ks_X5_32 (by decide) rfl hl.1 rfl (Nat.le_of_ble_eq_true rfl) dX5_rankBesideOthers_5) hH (fun H locs hH => ?_)
  refine lv_aload_n hx hb dX5_rankBesideOthers_8 rfl (lv_at hl 0 rfl) ?_
  refine pz_gS (a := 64) hE hH fr_X5_29 qk_60 (by decide) dX5_rankBesideOthers_9 ?_
  refine lv_iconst (v := 1) hx hb dX5_rankBesideOthers_12 (by decide) ?_
  obtain ⟨M2, eM2, hf⟩ := st_bd hf
  refine q_callv (q_runS (As := [.ref (X.1 64), .int 1]) (rest := []) hE hH (tz_J7_fill_53178 l X (q_isal qk_64) (hf := eM2)) ks_X5_32 (by decide) rfl hl.1 rfl (Nat.le_of_ble_eq_true rfl) dX5_rankBesideOthers_13) hH (fun H locs hH => ?_)
  refine lv_iconst (v := 0) hx hb dX5_rankBesideOthers_16 (by decide) ?_
  refine lv_istore_n (lv' := [(2, .int 0), (0, .ref (X.1 60)), (1, .int p0)]) hx hb dX5_rankBesideOthers_17 rfl hl (by decide) rfl (fun ls hl => ?_)
  obtain ⟨M5, hlp, hf⟩ := st_bd hf
  have hX : (fun M5 => ∀ (ls : Array Slot) (H : Heap) (locs : List Loc), q_H X M5 s H locs → lv_has ls 4 [(0, .ref (X.1 60))] → W p l e (q_rm (2)) s m args below meth c H locs 0 0 (MQ below (q_Qv X MR) args s 0 0 (q_A X)) (F0 m 88 ls []) : qM → Prop) M5 := by
    intro ls H locs hH hl
    refine lv_iconst (v := 0) hx hb dX5_rankBesideOthers_88 (by decide) ?_
    refine lv_istore_n (lv' := [(2, .int 0), (0, .ref (X.1 60))]) hx hb dX5_rankBesideOthers_89 rfl hl (by decide) rfl (fun ls hl => ?_)
    refine lv_iconst (v := 0) hx hb dX5_rankBesideOthers_90 (by decide) ?_
    refine lv_istore_n (lv' := [(3, .int 0), (2, .int 0), (0, .ref (X.1 60))]) hx hb dX5_rankBesideOthers_91 rfl hl (by decide) rfl (fun ls hl => ?_)
    obtain ⟨M10, hlp, hf⟩ := st_bd hf
    have hX : (fun M10 => ∀ (ls : Array Slot) (H : Heap) (locs : List Loc), q_H X M10 s H locs → lv_has ls 4 [] → W p l e (q_rm (2)) s m args below meth c H locs 0 0 (MQ below (q_Qv X MR) args s 0 0 (q_A X)) (F0 m 123 ls []) : qM → Prop) M10 := by
      intro ls H locs hH hl
      replace hf := Option.some.inj hf
      subst hf
      exact pz_retv hE hrt hlk hH dX5_rankBesideOthers_123
    clear hf
    have hG := qlp_ind (r := M10) (fun q => qu3 q (fun x7 x8 M9 => ∀ (ls : Array Slot) (H : Heap) (locs : List Loc), q_H X M9 s H locs → lv_has ls 4 [(0, .ref (X.1 60)), (2, .int x7), (3, .int x8)] → W p l e (q_rm (2)) s m args below meth c H locs 0 0 (MQ below (q_Qv X MR) args s 0 0 (q_A X)) (F0 m 92 ls []))) (by
        intro q o hf hK1 hK2
        obtain ⟨x7, x8, M9⟩ := q
        replace hf := st_u3 hf
        intro ls H locs hH hl
        refine lv_iload_n hx hb dX5_rankBesideOthers_92 rfl (lv_at hl 2 rfl) ?_
        refine lv_bipush (v := 60) hx hb dX5_rankBesideOthers_93 (by decide) ?_
        refine lv_icmp_gt (tgt := 123) hx hb dX5_rankBesideOthers_95 (by decide) (fun hc => ?_) (fun hc => ?_)
        · replace hf := (if_pos hc).symm.trans hf
          replace hf := hK2 _ (Option.some.inj hf).symm
          subst hf
          exact hX ls H locs hH (lv_sub hl [] rfl)
        · replace hf := (if_neg hc).symm.trans hf
          refine lv_aload_n hx hb dX5_rankBesideOthers_98 rfl (lv_at hl 0 rfl) ?_
          refine pz_gS (a := 64) hE hH fr_X5_29 qk_60 (by decide) dX5_rankBesideOthers_99 ?_
          refine lv_iload_n hx hb dX5_rankBesideOthers_102 rfl (lv_at hl 2 rfl) ?_
          refine lv_dup2_11 hx hb dX5_rankBesideOthers_103 rfl rfl ?_
          obtain ⟨v12, ev12, hf⟩ := st_bd hf
          refine pz_iald hE hH qk_64 ev12 dX5_rankBesideOthers_104 ?_
          refine lv_iload_n hx hb dX5_rankBesideOthers_105 rfl (lv_at hl 1 rfl) ?_
          refine lv_iadd hx hb dX5_rankBesideOthers_106 ?_
          obtain ⟨M13, eM13, hf⟩ := st_bd hf
          refine pz_iast hE hH qk_64 eM13 dX5_rankBesideOthers_107 (fun H locs hH => ?_)
          refine lv_iload_n hx hb dX5_rankBesideOthers_108 rfl (lv_at hl 1 rfl) ?_
          refine lv_aload_n hx hb dX5_rankBesideOthers_109 rfl (lv_at hl 0 rfl) ?_
          refine pz_gS (a := 63) hE hH fr_X5_26 qk_60 (by decide) dX5_rankBesideOthers_110 ?_
          refine lv_iload_n hx hb dX5_rankBesideOthers_113 rfl (lv_at hl 2 rfl) ?_
          obtain ⟨v14, ev14, hf⟩ := st_bd hf
          refine pz_iald hE hH qk_63 ev14 dX5_rankBesideOthers_114 ?_
          refine lv_iadd hx hb dX5_rankBesideOthers_115 ?_
          refine lv_topi (fun x15 ex15 => ?_)
          replace hf := st_lt hf ex15
          refine lv_istore_n (lv' := [(2, .int x15), (0, .ref (X.1 60)), (3, .int x8)]) hx hb dX5_rankBesideOthers_116 rfl hl (by decide) rfl (fun ls hl => ?_)
          obtain ⟨x16, ex16, hf⟩ := st_lty hf
          refine lv_iinc (v := x16) (lv' := [(3, .int x16), (2, .int x15), (0, .ref (X.1 60))]) hx hb dX5_rankBesideOthers_117 hl (k := 2) rfl (by rw [ex16]; rfl) (by decide) rfl (fun ls hl => ?_)
          refine lv_goto (tgt := 92) hx hb dX5_rankBesideOthers_120 (by decide) ?_
          exact hK1 _ (Option.some.inj hf).symm ls H locs hH (lv_sub hl [2, 1, 0] rfl)) _ hlp
    exact hG ls H locs hH (lv_sub hl [2, 1, 0] rfl)
  clear hf
  have hG := qlp_ind (r := M5) (fun q => qu2 q (fun x3 M4 => ∀ (ls : Array Slot) (H : Heap) (locs : List Loc), q_H X M4 s H locs → lv_has ls 4 [(0, .ref (X.1 60)), (1, .int p0), (2, .int x3)] → W p l e (q_rm (2)) s m args below meth c H locs 0 0 (MQ below (q_Qv X MR) args s 0 0 (q_A X)) (F0 m 18 ls []))) (by
      intro q o hf hK1 hK2
      obtain ⟨x3, M4⟩ := q
      replace hf := st_u2 hf
      intro ls H locs hH hl
      refine lv_iload_n hx hb dX5_rankBesideOthers_18 rfl (lv_at hl 2 rfl) ?_
      refine lv_aload_n hx hb dX5_rankBesideOthers_19 rfl (lv_at hl 0 rfl) ?_
      obtain ⟨a17, ea17, hf⟩ := st_bd hf
      refine pz_gR hE hH fr_X5_9 qk_60 ea17 dX5_rankBesideOthers_20 (fun ha17 => ?_)
      replace ha17 : q_vil a17 = true := ha17
      refine pz_gI hE hH fr_X5_38 (q_vil_0 ha17) dX5_rankBesideOthers_23 ?_
      refine lv_icmp_ge (tgt := 88) hx hb dX5_rankBesideOthers_26 (by decide) (fun hc => ?_) (fun hc => ?_)
      · replace hf := (if_pos hc).symm.trans hf
        replace hf := hK2 _ (Option.some.inj hf).symm
        subst hf
        exact hX ls H locs hH (lv_sub hl [0] rfl)
      · replace hf := (if_neg hc).symm.trans hf
        refine lv_aload_n hx hb dX5_rankBesideOthers_29 rfl (lv_at hl 0 rfl) ?_
        refine pz_gS (a := 61) hE hH fr_X5_19 qk_60 (by decide) dX5_rankBesideOthers_30 ?_
        refine lv_iload_n hx hb dX5_rankBesideOthers_33 rfl (lv_at hl 2 rfl) ?_
        obtain ⟨v18, ev18, hf⟩ := st_bd hf
        refine pz_iald hE hH qk_61 ev18 dX5_rankBesideOthers_34 ?_
        refine lv_istore_n (lv' := [(3, .int v18), (0, .ref (X.1 60)), (1, .int p0), (2, .int x3)]) hx hb dX5_rankBesideOthers_35 rfl hl (by decide) rfl (fun ls hl => ?_)
        refine lv_iload_n hx hb dX5_rankBesideOthers_36 rfl (lv_at hl 3 rfl) ?_
        refine lv_iload_n hx hb dX5_rankBesideOthers_37 rfl (lv_at hl 2 rfl) ?_
        obtain ⟨M19, hr, hf⟩ := st_bd hf
        have hJ : ∀ (ls : Array Slot) (H : Heap) (locs : List Loc), q_H X M19 s H locs → lv_has ls 4 [(0, .ref (X.1 60)), (1, .int p0), (2, .int x3)] → W p l e (q_rm (2)) s m args below meth c H locs 0 0 (MQ below (q_Qv X MR) args s 0 0 (q_A X)) (F0 m 82 ls []) := by
          intro ls H locs hH hl
          obtain ⟨x20, ex20, hf⟩ := st_lty hf
          refine lv_iinc (v := x20) (lv' := [(2, .int x20), (0, .ref (X.1 60)), (1, .int p0)]) hx hb dX5_rankBesideOthers_82 hl (k := 2) rfl (by rw [ex20]; rfl) (by decide) rfl (fun ls hl => ?_)
          refine lv_goto (tgt := 18) hx hb dX5_rankBesideOthers_85 (by decide) ?_
          exact hK1 _ (Option.some.inj hf).symm ls H locs hH (lv_sub hl [1, 2, 0] rfl)
        clear hf
        replace hf := hr
        refine lv_icmp_eq (tgt := 82) hx hb dX5_rankBesideOthers_38 (by decide) (fun hc => ?_) (fun hc => ?_)
        · replace hf := (if_pos hc).symm.trans hf
          replace hf := Option.some.inj hf
          subst hf
          exact hJ ls H locs hH (lv_sub hl [1, 2, 3] rfl)
        · replace hf := (if_neg hc).symm.trans hf
          refine lv_iload_n hx hb dX5_rankBesideOthers_41 rfl (lv_at hl 0 rfl) ?_
          refine lv_aload_n hx hb dX5_rankBesideOthers_42 rfl (lv_at hl 1 rfl) ?_
          refine pz_gS (a := 63) hE hH fr_X5_26 qk_60 (by decide) dX5_rankBesideOthers_43 ?_
          refine pz_alenI (v := 61) hE hH qk_63 (by decide) dX5_rankBesideOthers_46 ?_
          refine q_calli (q_runSN (As := [.int v18, .int 61]) (rest := []) hE hH (tz_X11_isOf l X (M := M4) (hf := rfl)) kn_X5_43 (by decide) rfl hl.1 rfl (Nat.le_of_ble_eq_true rfl) dX5_rankBesideOthers_47) hH (fun H locs hH => ?_)
          refine lv_if_eq (tgt := 82) hx hb dX5_rankBesideOthers_50 (by decide) (fun hc => ?_) (fun hc => ?_)
          · replace hf := (if_pos hc).symm.trans hf
            replace hf := Option.some.inj hf
            subst hf
            exact hJ ls H locs hH (lv_sub hl [1, 2, 3] rfl)
          · replace hf := (if_neg hc).symm.trans hf
            refine lv_aload_n hx hb dX5_rankBesideOthers_53 rfl (lv_at hl 1 rfl) ?_
            refine pz_gS (a := 63) hE hH fr_X5_26 qk_60 (by decide) dX5_rankBesideOthers_54 ?_
            refine lv_iload_n hx hb dX5_rankBesideOthers_57 rfl (lv_at hl 0 rfl) ?_
            refine lv_dup2_11 hx hb dX5_rankBesideOthers_58 rfl rfl ?_
            obtain ⟨v21, ev21, hf⟩ := st_bd hf
            refine pz_iald hE hH qk_63 ev21 dX5_rankBesideOthers_59 ?_
            refine lv_iconst (v := 1) hx hb dX5_rankBesideOthers_60 (by decide) ?_
            refine lv_iadd hx hb dX5_rankBesideOthers_61 ?_
            obtain ⟨M22, eM22, hf⟩ := st_bd hf
            refine pz_iast hE hH qk_63 eM22 dX5_rankBesideOthers_62 (fun H locs hH => ?_)
            refine lv_aload_n hx hb dX5_rankBesideOthers_63 rfl (lv_at hl 1 rfl) ?_
            refine pz_gS (a := 64) hE hH fr_X5_29 qk_60 (by decide) dX5_rankBesideOthers_64 ?_
            refine lv_iload_n hx hb dX5_rankBesideOthers_67 rfl (lv_at hl 0 rfl) ?_
            refine lv_dup2_11 hx hb dX5_rankBesideOthers_68 rfl rfl ?_
            obtain ⟨v23, ev23, hf⟩ := st_bd hf
            refine pz_iald hE hH qk_64 ev23 dX5_rankBesideOthers_69 ?_
            refine lv_iload_n hx hb dX5_rankBesideOthers_70 rfl (lv_at hl 3 rfl) ?_
            refine lv_iload_n hx hb dX5_rankBesideOthers_71 rfl (lv_at hl 2 rfl) ?_
            obtain ⟨z24, hr, hf⟩ := st_ltx hf
            have hJ : ∀ (ls : Array Slot) (H : Heap) (locs : List Loc), q_H X M22 s H locs → lv_has ls 4 [(0, .ref (X.1 60)), (1, .int p0), (2, .int x3)] → W p l e (q_rm (2)) s m args below meth c H locs 0 0 (MQ below (q_Qv X MR) args s 0 0 (q_A X)) (F0 m 80 ls [.int (b2i z24), .int v23, .int v18, .ref (X.1 64)]) := by
              intro ls H locs hH hl
              refine lv_iadd hx hb dX5_rankBesideOthers_80 ?_
              obtain ⟨M25, eM25, hf⟩ := st_bd hf
              refine pz_iast hE hH qk_64 eM25 dX5_rankBesideOthers_81 (fun H locs hH => ?_)
              replace hf := Option.some.inj hf
              subst hf
              exact hJ ls H locs hH (lv_sub hl [0, 1, 2] rfl)
            clear hf
            replace hf := hr
            refine lv_icmp_ge (tgt := 79) hx hb dX5_rankBesideOthers_72 (by decide) (fun hc => ?_) (fun hc => ?_)
            · replace hf := (if_pos hc).symm.trans hf
              refine lv_iconst (v := 0) hx hb dX5_rankBesideOthers_79 (by decide) ?_
              subst hf
              exact hJ ls H locs hH (lv_sub hl [1, 2, 3] rfl)
            · replace hf := (if_neg hc).symm.trans hf
              refine lv_iconst (v := 1) hx hb dX5_rankBesideOthers_75 (by decide) ?_
              refine lv_goto (tgt := 80) hx hb dX5_rankBesideOthers_76 (by decide) ?_
              subst hf
              exact hJ ls H locs hH (lv_sub hl [1, 2, 3] rfl)) _ hlp
  exact hG ls H locs hH (lv_sub hl [1, 2, 0] rfl)

theorem dX5_hasBy_0 : decode cX5_hasBy 0 = .ok (.aload_n 0, 1) := by decide +kernel
theorem dX5_hasBy_1 : decode cX5_hasBy 1 = .ok (.getfield 9, 3) := by decide +kernel
theorem dX5_hasBy_4 : decode cX5_hasBy 4 = .ok (.aload_n 0, 1) := by decide +kernel
theorem dX5_hasBy_5 : decode cX5_hasBy 5 = .ok (.getfield 15, 3) := by decide +kernel
theorem dX5_hasBy_8 : decode cX5_hasBy 8 = .ok (.iconst 0, 1) := by decide +kernel
theorem dX5_hasBy_9 : decode cX5_hasBy 9 = .ok (.invokevirtual 47, 3) := by decide +kernel
theorem dX5_hasBy_12 : decode cX5_hasBy 12 = .ok (.istore_n 2, 1) := by decide +kernel
theorem dX5_hasBy_13 : decode cX5_hasBy 13 = .ok (.iload_n 1, 1) := by decide +kernel
theorem dX5_hasBy_14 : decode cX5_hasBy 14 = .ok (.iload_n 2, 1) := by decide +kernel
theorem dX5_hasBy_15 : decode cX5_hasBy 15 = .ok (.if_icmp .lt 25, 3) := by decide +kernel
theorem dX5_hasBy_18 : decode cX5_hasBy 18 = .ok (.iload_n 1, 1) := by decide +kernel
theorem dX5_hasBy_19 : decode cX5_hasBy 19 = .ok (.iload_n 2, 1) := by decide +kernel
theorem dX5_hasBy_20 : decode cX5_hasBy 20 = .ok (.aload_n 0, 1) := by decide +kernel
theorem dX5_hasBy_21 : decode cX5_hasBy 21 = .ok (.getfield 9, 3) := by decide +kernel
theorem dX5_hasBy_24 : decode cX5_hasBy 24 = .ok (.aload_n 0, 1) := by decide +kernel
theorem dX5_hasBy_25 : decode cX5_hasBy 25 = .ok (.getfield 15, 3) := by decide +kernel
theorem dX5_hasBy_28 : decode cX5_hasBy 28 = .ok (.iconst 1, 1) := by decide +kernel
theorem dX5_hasBy_29 : decode cX5_hasBy 29 = .ok (.invokevirtual 47, 3) := by decide +kernel
theorem dX5_hasBy_32 : decode cX5_hasBy 32 = .ok (.iadd, 1) := by decide +kernel
theorem dX5_hasBy_33 : decode cX5_hasBy 33 = .ok (.if_icmp .ge 7, 3) := by decide +kernel
theorem dX5_hasBy_36 : decode cX5_hasBy 36 = .ok (.iconst 1, 1) := by decide +kernel
theorem dX5_hasBy_37 : decode cX5_hasBy 37 = .ok (.goto 4, 3) := by decide +kernel
theorem dX5_hasBy_40 : decode cX5_hasBy 40 = .ok (.iconst 0, 1) := by decide +kernel
theorem dX5_hasBy_41 : decode cX5_hasBy 41 = .ok (.ireturn, 1) := by decide +kernel
set_option maxRecDepth 100000 in
set_option maxHeartbeats 4000000 in
theorem tz_X5_hasBy (l : Launch) (X : qX) {p0 : Int32} {M : qM} {r0 : Bool} (hf : jTo_hasBy p0 M = some r0) : q_Met l X yX5_hasBy cX5_hasBy 3 (some .boolean) (2) M [.ref (X.1 60), .int p0] (q_Qi X (b2i r0) M) := by
  refine q_enter (by decide) (Nat.le_of_ble_eq_true rfl) ?_
  intro p e s m args below meth c hE hrt hlk H locs hH ls hl
  have hx := hE.1
  have hb := hE.2.1
  have hl : lv_has ls 3 [(0, .ref (X.1 60)), (1, .int p0)] := hl
  unfold jTo_hasBy at hf
  refine lv_aload_n hx hb dX5_hasBy_0 rfl (lv_at hl 0 rfl) ?_
  obtain ⟨a1, ea1, hf⟩ := st_bd hf
  refine pz_gR hE hH fr_X5_9 qk_60 ea1 dX5_hasBy_1 (fun ha1 => ?_)
  replace ha1 : q_vil a1 = true := ha1
  refine lv_aload_n hx hb dX5_hasBy_4 rfl (lv_at hl 0 rfl) ?_
  refine pz_gI hE hH fr_X5_15 qk_60 dX5_hasBy_5 ?_
  refine lv_iconst (v := 0) hx hb dX5_hasBy_8 (by decide) ?_
  obtain ⟨r2, er2, hf⟩ := st_bd hf
  refine q_calli (q_runV (As := [.int (M.1 60 1), .int 0]) (rest := []) hE hH (tz_X7_ofThing l X ha1 (hf := er2)) kv_X5_47 (q_vil_0 ha1) (by decide) rfl hl.1 rfl (Nat.le_of_ble_eq_true rfl) dX5_hasBy_9) hH (fun H locs hH => ?_)
  refine lv_istore_n (lv' := [(2, .int r2), (0, .ref (X.1 60)), (1, .int p0)]) hx hb dX5_hasBy_12 rfl hl (by decide) rfl (fun ls hl => ?_)
  refine lv_iload_n hx hb dX5_hasBy_13 rfl (lv_at hl 2 rfl) ?_
  refine lv_iload_n hx hb dX5_hasBy_14 rfl (lv_at hl 0 rfl) ?_
  obtain ⟨z3, hr, hf⟩ := st_bd hf
  have hJ : ∀ (ls : Array Slot) (H : Heap) (locs : List Loc), q_H X M s H locs → lv_has ls 3 [] → W p l e (q_rm (2)) s m args below meth c H locs 0 0 (MQ below (q_Qi X (b2i r0) M) args s 0 0 (q_A X)) (F0 m 41 ls [.int (b2i z3)]) := by
    intro ls H locs hH hl
    replace hf := Option.some.inj hf
    subst hf
    exact pz_retz hE hrt hlk hH rfl dX5_hasBy_41
  clear hf
  replace hf := hr
  refine lv_icmp_lt (tgt := 40) hx hb dX5_hasBy_15 (by decide) (fun hc => ?_) (fun hc => ?_)
  · replace hf := (if_pos hc).symm.trans hf
    refine lv_iconst (v := 0) hx hb dX5_hasBy_40 (by decide) ?_
    replace hf := Option.some.inj hf
    subst hf
    exact hJ ls H locs hH (lv_sub hl [] rfl)
  · replace hf := (if_neg hc).symm.trans hf
    refine lv_iload_n hx hb dX5_hasBy_18 rfl (lv_at hl 2 rfl) ?_
    refine lv_iload_n hx hb dX5_hasBy_19 rfl (lv_at hl 0 rfl) ?_
    refine lv_aload_n hx hb dX5_hasBy_20 rfl (lv_at hl 1 rfl) ?_
    obtain ⟨a4, ea4, hf⟩ := st_bd hf
    refine pz_gR hE hH fr_X5_9 qk_60 ea4 dX5_hasBy_21 (fun ha4 => ?_)
    replace ha4 : q_vil a4 = true := ha4
    refine lv_aload_n hx hb dX5_hasBy_24 rfl (lv_at hl 1 rfl) ?_
    refine pz_gI hE hH fr_X5_15 qk_60 dX5_hasBy_25 ?_
    refine lv_iconst (v := 1) hx hb dX5_hasBy_28 (by decide) ?_
    obtain ⟨r5, er5, hf⟩ := st_bd hf
    refine q_calli (q_runV (As := [.int (M.1 60 1), .int 1]) (rest := [.int r2, .int p0]) hE hH (tz_X7_ofThing l X ha4 (hf := er5)) kv_X5_47 (q_vil_0 ha4) (by decide) rfl hl.1 rfl (Nat.le_of_ble_eq_true rfl) dX5_hasBy_29) hH (fun H locs hH => ?_)
    refine lv_iadd hx hb dX5_hasBy_32 ?_
    refine lv_icmp_ge (tgt := 40) hx hb dX5_hasBy_33 (by decide) (fun hc => ?_) (fun hc => ?_)
    · replace hf := (if_pos hc).symm.trans hf
      refine lv_iconst (v := 0) hx hb dX5_hasBy_40 (by decide) ?_
      replace hf := Option.some.inj hf
      subst hf
      exact hJ ls H locs hH (lv_sub hl [] rfl)
    · replace hf := (if_neg hc).symm.trans hf
      refine lv_iconst (v := 1) hx hb dX5_hasBy_36 (by decide) ?_
      refine lv_goto (tgt := 41) hx hb dX5_hasBy_37 (by decide) ?_
      replace hf := Option.some.inj hf
      subst hf
      exact hJ ls H locs hH (lv_sub hl [] rfl)

theorem dX5_gainBy_0 : decode cX5_gainBy 0 = .ok (.aload_n 0, 1) := by decide +kernel
theorem dX5_gainBy_1 : decode cX5_gainBy 1 = .ok (.getfield 9, 3) := by decide +kernel
theorem dX5_gainBy_4 : decode cX5_gainBy 4 = .ok (.iload_n 1, 1) := by decide +kernel
theorem dX5_gainBy_5 : decode cX5_gainBy 5 = .ok (.iconst 2, 1) := by decide +kernel
theorem dX5_gainBy_6 : decode cX5_gainBy 6 = .ok (.invokevirtual 51, 3) := by decide +kernel
theorem dX5_gainBy_9 : decode cX5_gainBy 9 = .ok (.istore_n 3, 1) := by decide +kernel
theorem dX5_gainBy_10 : decode cX5_gainBy 10 = .ok (.iload_n 2, 1) := by decide +kernel
theorem dX5_gainBy_11 : decode cX5_gainBy 11 = .ok (.aload_n 0, 1) := by decide +kernel
theorem dX5_gainBy_12 : decode cX5_gainBy 12 = .ok (.getfield 29, 3) := by decide +kernel
theorem dX5_gainBy_15 : decode cX5_gainBy 15 = .ok (.arraylength, 1) := by decide +kernel
theorem dX5_gainBy_16 : decode cX5_gainBy 16 = .ok (.invokestatic 43, 3) := by decide +kernel
theorem dX5_gainBy_19 : decode cX5_gainBy 19 = .ok (.ifCond .ne 9, 3) := by decide +kernel
theorem dX5_gainBy_22 : decode cX5_gainBy 22 = .ok (.iload_n 3, 1) := by decide +kernel
theorem dX5_gainBy_23 : decode cX5_gainBy 23 = .ok (.ineg, 1) := by decide +kernel
theorem dX5_gainBy_24 : decode cX5_gainBy 24 = .ok (.bipush 60, 2) := by decide +kernel
theorem dX5_gainBy_26 : decode cX5_gainBy 26 = .ok (.imul, 1) := by decide +kernel
theorem dX5_gainBy_27 : decode cX5_gainBy 27 = .ok (.ireturn, 1) := by decide +kernel
theorem dX5_gainBy_28 : decode cX5_gainBy 28 = .ok (.aload_n 0, 1) := by decide +kernel
theorem dX5_gainBy_29 : decode cX5_gainBy 29 = .ok (.aload_n 0, 1) := by decide +kernel
theorem dX5_gainBy_30 : decode cX5_gainBy 30 = .ok (.getfield 29, 3) := by decide +kernel
theorem dX5_gainBy_33 : decode cX5_gainBy 33 = .ok (.iload_n 2, 1) := by decide +kernel
theorem dX5_gainBy_34 : decode cX5_gainBy 34 = .ok (.iaload, 1) := by decide +kernel
theorem dX5_gainBy_35 : decode cX5_gainBy 35 = .ok (.invokevirtual 54, 3) := by decide +kernel
theorem dX5_gainBy_38 : decode cX5_gainBy 38 = .ok (.ifCond .eq 18, 3) := by decide +kernel
theorem dX5_gainBy_41 : decode cX5_gainBy 41 = .ok (.aload_n 0, 1) := by decide +kernel
theorem dX5_gainBy_42 : decode cX5_gainBy 42 = .ok (.getfield 9, 3) := by decide +kernel
theorem dX5_gainBy_45 : decode cX5_gainBy 45 = .ok (.aload_n 0, 1) := by decide +kernel
theorem dX5_gainBy_46 : decode cX5_gainBy 46 = .ok (.getfield 15, 3) := by decide +kernel
theorem dX5_gainBy_49 : decode cX5_gainBy 49 = .ok (.iload_n 2, 1) := by decide +kernel
theorem dX5_gainBy_50 : decode cX5_gainBy 50 = .ok (.invokevirtual 58, 3) := by decide +kernel
theorem dX5_gainBy_53 : decode cX5_gainBy 53 = .ok (.goto 4, 3) := by decide +kernel
theorem dX5_gainBy_56 : decode cX5_gainBy 56 = .ok (.iconst 0, 1) := by decide +kernel
theorem dX5_gainBy_57 : decode cX5_gainBy 57 = .ok (.iload_n 3, 1) := by decide +kernel
theorem dX5_gainBy_58 : decode cX5_gainBy 58 = .ok (.iload_n 2, 1) := by decide +kernel
theorem dX5_gainBy_59 : decode cX5_gainBy 59 = .ok (.imul, 1) := by decide +kernel
theorem dX5_gainBy_60 : decode cX5_gainBy 60 = .ok (.isub, 1) := by decide +kernel
theorem dX5_gainBy_61 : decode cX5_gainBy 61 = .ok (.ireturn, 1) := by decide +kernel
set_option maxRecDepth 100000 in
set_option maxHeartbeats 4000000 in
theorem tz_X5_gainBy (l : Launch) (X : qX) {p0 : Int32} {p1 : Int32} {M : qM} {r0 : Int32} (hf : jTo_gainBy p0 p1 M = some r0) : q_Met l X yX5_gainBy cX5_gainBy 4 (some .int) (3) M [.ref (X.1 60), .int p0, .int p1] (q_Qi X r0 M) := by
  refine q_enter (by decide) (Nat.le_of_ble_eq_true rfl) ?_
  intro p e s m args below meth c hE hrt hlk H locs hH ls hl
  have hx := hE.1
  have hb := hE.2.1
  have hl : lv_has ls 4 [(0, .ref (X.1 60)), (1, .int p0), (2, .int p1)] := hl
  unfold jTo_gainBy at hf
  refine lv_aload_n hx hb dX5_gainBy_0 rfl (lv_at hl 0 rfl) ?_
  obtain ⟨a1, ea1, hf⟩ := st_bd hf
  refine pz_gR hE hH fr_X5_9 qk_60 ea1 dX5_gainBy_1 (fun ha1 => ?_)
  replace ha1 : q_vil a1 = true := ha1
  refine lv_iload_n hx hb dX5_gainBy_4 rfl (lv_at hl 1 rfl) ?_
  refine lv_iconst (v := 2) hx hb dX5_gainBy_5 (by decide) ?_
  obtain ⟨r2, er2, hf⟩ := st_bd hf
  refine q_calli (q_runV (As := [.int p0, .int 2]) (rest := []) hE hH (tz_X7_ofPerson l X ha1 (hf := er2)) kv_X5_51 (q_vil_0 ha1) (by decide) rfl hl.1 rfl (Nat.le_of_ble_eq_true rfl) dX5_gainBy_6) hH (fun H locs hH => ?_)
  refine lv_istore_n (lv' := [(3, .int r2), (0, .ref (X.1 60)), (1, .int p0), (2, .int p1)]) hx hb dX5_gainBy_9 rfl hl (by decide) rfl (fun ls hl => ?_)
  refine lv_iload_n hx hb dX5_gainBy_10 rfl (lv_at hl 3 rfl) ?_
  refine lv_aload_n hx hb dX5_gainBy_11 rfl (lv_at hl 1 rfl) ?_
  refine pz_gS (a := 64) hE hH fr_X5_29 qk_60 (by decide) dX5_gainBy_12 ?_
  refine pz_alenI (v := 61) hE hH qk_64 (by decide) dX5_gainBy_15 ?_
  refine q_calli (q_runSN (As := [.int p1, .int 61]) (rest := []) hE hH (tz_X11_isOf l X (M := M) (hf := rfl)) kn_X5_43 (by decide) rfl hl.1 rfl (Nat.le_of_ble_eq_true rfl) dX5_gainBy_16) hH (fun H locs hH => ?_)
  refine lv_if_ne (tgt := 28) hx hb dX5_gainBy_19 (by decide) (fun hc => ?_) (fun hc => ?_)
  · replace hf := (if_neg hc).symm.trans hf
    refine lv_aload_n hx hb dX5_gainBy_28 rfl (lv_at hl 1 rfl) ?_
    refine lv_aload_n hx hb dX5_gainBy_29 rfl (lv_at hl 1 rfl) ?_
    refine pz_gS (a := 64) hE hH fr_X5_29 qk_60 (by decide) dX5_gainBy_30 ?_
    refine lv_iload_n hx hb dX5_gainBy_33 rfl (lv_at hl 3 rfl) ?_
    obtain ⟨v3, ev3, hf⟩ := st_bd hf
    refine pz_iald hE hH qk_64 ev3 dX5_gainBy_34 ?_
    obtain ⟨r4, er4, hf⟩ := st_bd hf
    refine q_calli (q_runV (As := [.int v3]) (rest := []) hE hH (tz_X5_hasBy l X (hf := er4)) kv_X5_54 qk_60 (by decide) rfl hl.1 rfl (Nat.le_of_ble_eq_true rfl) dX5_gainBy_35) hH (fun H locs hH => ?_)
    obtain ⟨x5, hr, hf⟩ := st_bd hf
    have hJ : ∀ (ls : Array Slot) (H : Heap) (locs : List Loc), q_H X M s H locs → lv_has ls 4 [(2, .int p1), (3, .int r2)] → W p l e (q_rm (3)) s m args below meth c H locs 0 0 (MQ below (q_Qi X r0 M) args s 0 0 (q_A X)) (F0 m 57 ls [.int x5]) := by
      intro ls H locs hH hl
      refine lv_iload_n hx hb dX5_gainBy_57 rfl (lv_at hl 1 rfl) ?_
      refine lv_iload_n hx hb dX5_gainBy_58 rfl (lv_at hl 0 rfl) ?_
      refine lv_imul hx hb dX5_gainBy_59 ?_
      refine lv_isub hx hb dX5_gainBy_60 ?_
      replace hf := Option.some.inj hf
      subst hf
      exact pz_reti hE hrt hlk hH dX5_gainBy_61
    clear hf
    replace hf := hr
    refine lv_if_eq (tgt := 56) hx hb dX5_gainBy_38 (by decide) (fun hc => ?_) (fun hc => ?_)
    · replace hf := (if_pos hc).symm.trans hf
      refine lv_iconst (v := 0) hx hb dX5_gainBy_56 (by decide) ?_
      replace hf := Option.some.inj hf
      subst hf
      exact hJ ls H locs hH (lv_sub hl [3, 0] rfl)
    · replace hf := (if_neg hc).symm.trans hf
      refine lv_aload_n hx hb dX5_gainBy_41 rfl (lv_at hl 1 rfl) ?_
      obtain ⟨a6, ea6, hf⟩ := st_bd hf
      refine pz_gR hE hH fr_X5_9 qk_60 ea6 dX5_gainBy_42 (fun ha6 => ?_)
      replace ha6 : q_vil a6 = true := ha6
      refine lv_aload_n hx hb dX5_gainBy_45 rfl (lv_at hl 1 rfl) ?_
      refine pz_gI hE hH fr_X5_15 qk_60 dX5_gainBy_46 ?_
      refine lv_iload_n hx hb dX5_gainBy_49 rfl (lv_at hl 3 rfl) ?_
      obtain ⟨r7, er7, hf⟩ := st_bd hf
      refine q_calli (q_runV (As := [.int (M.1 60 1), .int p1]) (rest := []) hE hH (tz_X7_worthIn l X ha6 (hf := er7)) kv_X5_58 (q_vil_0 ha6) (by decide) rfl hl.1 rfl (Nat.le_of_ble_eq_true rfl) dX5_gainBy_50) hH (fun H locs hH => ?_)
      refine lv_goto (tgt := 57) hx hb dX5_gainBy_53 (by decide) ?_
      replace hf := Option.some.inj hf
      subst hf
      exact hJ ls H locs hH (lv_sub hl [3, 0] rfl)
  · replace hf := (if_pos hc).symm.trans hf
    refine lv_iload_n hx hb dX5_gainBy_22 rfl (lv_at hl 0 rfl) ?_
    refine lv_ineg hx hb dX5_gainBy_23 ?_
    refine lv_bipush (v := 60) hx hb dX5_gainBy_24 (by decide) ?_
    refine lv_imul hx hb dX5_gainBy_26 ?_
    replace hf := Option.some.inj hf
    subst hf
    exact pz_reti hE hrt hlk hH dX5_gainBy_27

theorem dX5_bestBesideOthers_0 : decode cX5_bestBesideOthers 0 = .ok (.iconst 0, 1) := by decide +kernel
theorem dX5_bestBesideOthers_1 : decode cX5_bestBesideOthers 1 = .ok (.istore_n 2, 1) := by decide +kernel
theorem dX5_bestBesideOthers_2 : decode cX5_bestBesideOthers 2 = .ok (.aload_n 0, 1) := by decide +kernel
theorem dX5_bestBesideOthers_3 : decode cX5_bestBesideOthers 3 = .ok (.iload_n 1, 1) := by decide +kernel
theorem dX5_bestBesideOthers_4 : decode cX5_bestBesideOthers 4 = .ok (.iconst 0, 1) := by decide +kernel
theorem dX5_bestBesideOthers_5 : decode cX5_bestBesideOthers 5 = .ok (.invokevirtual 61, 3) := by decide +kernel
theorem dX5_bestBesideOthers_8 : decode cX5_bestBesideOthers 8 = .ok (.istore_n 3, 1) := by decide +kernel
theorem dX5_bestBesideOthers_9 : decode cX5_bestBesideOthers 9 = .ok (.iconst 1, 1) := by decide +kernel
theorem dX5_bestBesideOthers_10 : decode cX5_bestBesideOthers 10 = .ok (.istore 4, 2) := by decide +kernel
theorem dX5_bestBesideOthers_12 : decode cX5_bestBesideOthers 12 = .ok (.iload 4, 2) := by decide +kernel
theorem dX5_bestBesideOthers_14 : decode cX5_bestBesideOthers 14 = .ok (.bipush 60, 2) := by decide +kernel
theorem dX5_bestBesideOthers_16 : decode cX5_bestBesideOthers 16 = .ok (.if_icmp .gt 30, 3) := by decide +kernel
theorem dX5_bestBesideOthers_19 : decode cX5_bestBesideOthers 19 = .ok (.aload_n 0, 1) := by decide +kernel
theorem dX5_bestBesideOthers_20 : decode cX5_bestBesideOthers 20 = .ok (.iload_n 1, 1) := by decide +kernel
theorem dX5_bestBesideOthers_21 : decode cX5_bestBesideOthers 21 = .ok (.iload 4, 2) := by decide +kernel
theorem dX5_bestBesideOthers_23 : decode cX5_bestBesideOthers 23 = .ok (.invokevirtual 61, 3) := by decide +kernel
theorem dX5_bestBesideOthers_26 : decode cX5_bestBesideOthers 26 = .ok (.istore 5, 2) := by decide +kernel
theorem dX5_bestBesideOthers_28 : decode cX5_bestBesideOthers 28 = .ok (.iload 5, 2) := by decide +kernel
theorem dX5_bestBesideOthers_30 : decode cX5_bestBesideOthers 30 = .ok (.iload_n 3, 1) := by decide +kernel
theorem dX5_bestBesideOthers_31 : decode cX5_bestBesideOthers 31 = .ok (.if_icmp .le 9, 3) := by decide +kernel
theorem dX5_bestBesideOthers_34 : decode cX5_bestBesideOthers 34 = .ok (.iload 5, 2) := by decide +kernel
theorem dX5_bestBesideOthers_36 : decode cX5_bestBesideOthers 36 = .ok (.istore_n 3, 1) := by decide +kernel
theorem dX5_bestBesideOthers_37 : decode cX5_bestBesideOthers 37 = .ok (.iload 4, 2) := by decide +kernel
theorem dX5_bestBesideOthers_39 : decode cX5_bestBesideOthers 39 = .ok (.istore_n 2, 1) := by decide +kernel
theorem dX5_bestBesideOthers_40 : decode cX5_bestBesideOthers 40 = .ok (.iinc 4 1, 3) := by decide +kernel
theorem dX5_bestBesideOthers_43 : decode cX5_bestBesideOthers 43 = .ok (.goto (-31), 3) := by decide +kernel
theorem dX5_bestBesideOthers_46 : decode cX5_bestBesideOthers 46 = .ok (.aload_n 0, 1) := by decide +kernel
theorem dX5_bestBesideOthers_47 : decode cX5_bestBesideOthers 47 = .ok (.iload_n 1, 1) := by decide +kernel
theorem dX5_bestBesideOthers_48 : decode cX5_bestBesideOthers 48 = .ok (.iconst (-1), 1) := by decide +kernel
theorem dX5_bestBesideOthers_49 : decode cX5_bestBesideOthers 49 = .ok (.invokevirtual 61, 3) := by decide +kernel
theorem dX5_bestBesideOthers_52 : decode cX5_bestBesideOthers 52 = .ok (.iload_n 3, 1) := by decide +kernel
theorem dX5_bestBesideOthers_53 : decode cX5_bestBesideOthers 53 = .ok (.if_icmp .le 7, 3) := by decide +kernel
theorem dX5_bestBesideOthers_56 : decode cX5_bestBesideOthers 56 = .ok (.iconst (-1), 1) := by decide +kernel
theorem dX5_bestBesideOthers_57 : decode cX5_bestBesideOthers 57 = .ok (.goto 4, 3) := by decide +kernel
theorem dX5_bestBesideOthers_60 : decode cX5_bestBesideOthers 60 = .ok (.iload_n 2, 1) := by decide +kernel
theorem dX5_bestBesideOthers_61 : decode cX5_bestBesideOthers 61 = .ok (.ireturn, 1) := by decide +kernel
set_option maxRecDepth 100000 in
set_option maxHeartbeats 4000000 in
theorem tz_X5_bestBesideOthers (l : Launch) (X : qX) {p0 : Int32} {M : qM} {r0 : Int32} (hf : jTo_bestBesideOthers p0 M = some r0) : q_Met l X yX5_bestBesideOthers cX5_bestBesideOthers 6 (some .int) (4) M [.ref (X.1 60), .int p0] (q_Qi X r0 M) := by
  refine q_enter (by decide) (Nat.le_of_ble_eq_true rfl) ?_
  intro p e s m args below meth c hE hrt hlk H locs hH ls hl
  have hx := hE.1
  have hb := hE.2.1
  have hl : lv_has ls 6 [(0, .ref (X.1 60)), (1, .int p0)] := hl
  unfold jTo_bestBesideOthers at hf
  refine lv_iconst (v := 0) hx hb dX5_bestBesideOthers_0 (by decide) ?_
  refine lv_istore_n (lv' := [(2, .int 0), (0, .ref (X.1 60)), (1, .int p0)]) hx hb dX5_bestBesideOthers_1 rfl hl (by decide) rfl (fun ls hl => ?_)
  refine lv_aload_n hx hb dX5_bestBesideOthers_2 rfl (lv_at hl 1 rfl) ?_
  refine lv_iload_n hx hb dX5_bestBesideOthers_3 rfl (lv_at hl 2 rfl) ?_
  refine lv_iconst (v := 0) hx hb dX5_bestBesideOthers_4 (by decide) ?_
  obtain ⟨r1, er1, hf⟩ := st_bd hf
  refine q_calli (q_runV (As := [.int p0, .int 0]) (rest := []) hE hH (tz_X5_gainBy l X (hf := er1)) kv_X5_61 qk_60 (by decide) rfl hl.1 rfl (Nat.le_of_ble_eq_true rfl) dX5_bestBesideOthers_5) hH (fun H locs hH => ?_)
  refine lv_istore_n (lv' := [(3, .int r1), (2, .int 0), (0, .ref (X.1 60)), (1, .int p0)]) hx hb dX5_bestBesideOthers_8 rfl hl (by decide) rfl (fun ls hl => ?_)
  refine lv_iconst (v := 1) hx hb dX5_bestBesideOthers_9 (by decide) ?_
  refine lv_istore (lv' := [(4, .int 1), (3, .int r1), (2, .int 0), (0, .ref (X.1 60)), (1, .int p0)]) hx hb dX5_bestBesideOthers_10 hl (by decide) rfl (fun ls hl => ?_)
  obtain ⟨r7, hlp, hf⟩ := st_bd hf
  have hX : (fun q0 => qu2 q0 (fun x5 x6 => ∀ (ls : Array Slot) (H : Heap) (locs : List Loc), q_H X M s H locs → lv_has ls 6 [(0, .ref (X.1 60)), (1, .int p0), (2, .int x5), (3, .int x6)] → W p l e (q_rm (4)) s m args below meth c H locs 0 0 (MQ below (q_Qi X r0 M) args s 0 0 (q_A X)) (F0 m 46 ls [])) : (Int32 × Int32) → Prop) r7 := by
    obtain ⟨x5, x6⟩ := r7
    replace hf := st_u2 hf
    intro ls H locs hH hl
    refine lv_aload_n hx hb dX5_bestBesideOthers_46 rfl (lv_at hl 0 rfl) ?_
    refine lv_iload_n hx hb dX5_bestBesideOthers_47 rfl (lv_at hl 1 rfl) ?_
    refine lv_iconst (v := (-1)) hx hb dX5_bestBesideOthers_48 (by decide) ?_
    obtain ⟨r8, er8, hf⟩ := st_bd hf
    refine q_calli (q_runV (As := [.int p0, .int (-1)]) (rest := []) hE hH (tz_X5_gainBy l X (hf := er8)) kv_X5_61 qk_60 (by decide) rfl hl.1 rfl (Nat.le_of_ble_eq_true rfl) dX5_bestBesideOthers_49) hH (fun H locs hH => ?_)
    refine lv_iload_n hx hb dX5_bestBesideOthers_52 rfl (lv_at hl 3 rfl) ?_
    obtain ⟨x9, hr, hf⟩ := st_ltx hf
    have hJ : ∀ (ls : Array Slot) (H : Heap) (locs : List Loc), q_H X M s H locs → lv_has ls 6 [] → W p l e (q_rm (4)) s m args below meth c H locs 0 0 (MQ below (q_Qi X r0 M) args s 0 0 (q_A X)) (F0 m 61 ls [.int x9]) := by
      intro ls H locs hH hl
      replace hf := Option.some.inj hf
      subst hf
      exact pz_reti hE hrt hlk hH dX5_bestBesideOthers_61
    clear hf
    replace hf := hr
    refine lv_icmp_le (tgt := 60) hx hb dX5_bestBesideOthers_53 (by decide) (fun hc => ?_) (fun hc => ?_)
    · replace hf := (if_pos hc).symm.trans hf
      refine lv_iload_n hx hb dX5_bestBesideOthers_60 rfl (lv_at hl 2 rfl) ?_
      subst hf
      exact hJ ls H locs hH (lv_sub hl [] rfl)
    · replace hf := (if_neg hc).symm.trans hf
      refine lv_iconst (v := (-1)) hx hb dX5_bestBesideOthers_56 (by decide) ?_
      refine lv_goto (tgt := 61) hx hb dX5_bestBesideOthers_57 (by decide) ?_
      subst hf
      exact hJ ls H locs hH (lv_sub hl [] rfl)
  clear hf
  have hG := qlp_ind (r := r7) (fun q => qu3 q (fun x2 x3 x4 => ∀ (ls : Array Slot) (H : Heap) (locs : List Loc), q_H X M s H locs → lv_has ls 6 [(0, .ref (X.1 60)), (1, .int p0), (2, .int x2), (3, .int x3), (4, .int x4)] → W p l e (q_rm (4)) s m args below meth c H locs 0 0 (MQ below (q_Qi X r0 M) args s 0 0 (q_A X)) (F0 m 12 ls []))) (by
      intro q o hf hK1 hK2
      obtain ⟨x2, x3, x4⟩ := q
      replace hf := st_u3 hf
      intro ls H locs hH hl
      refine lv_iload hx hb dX5_bestBesideOthers_12 (lv_at hl 4 rfl) ?_
      refine lv_bipush (v := 60) hx hb dX5_bestBesideOthers_14 (by decide) ?_
      refine lv_icmp_gt (tgt := 46) hx hb dX5_bestBesideOthers_16 (by decide) (fun hc => ?_) (fun hc => ?_)
      · replace hf := (if_pos hc).symm.trans hf
        replace hf := hK2 _ (Option.some.inj hf).symm
        subst hf
        exact hX ls H locs hH (lv_sub hl [0, 1, 2, 3] rfl)
      · replace hf := (if_neg hc).symm.trans hf
        refine lv_aload_n hx hb dX5_bestBesideOthers_19 rfl (lv_at hl 0 rfl) ?_
        refine lv_iload_n hx hb dX5_bestBesideOthers_20 rfl (lv_at hl 1 rfl) ?_
        refine lv_iload hx hb dX5_bestBesideOthers_21 (lv_at hl 4 rfl) ?_
        obtain ⟨r10, er10, hf⟩ := st_bd hf
        refine q_calli (q_runV (As := [.int p0, .int x4]) (rest := []) hE hH (tz_X5_gainBy l X (hf := er10)) kv_X5_61 qk_60 (by decide) rfl hl.1 rfl (Nat.le_of_ble_eq_true rfl) dX5_bestBesideOthers_23) hH (fun H locs hH => ?_)
        refine lv_istore (lv' := [(5, .int r10), (0, .ref (X.1 60)), (1, .int p0), (2, .int x2), (3, .int x3), (4, .int x4)]) hx hb dX5_bestBesideOthers_26 hl (by decide) rfl (fun ls hl => ?_)
        refine lv_iload hx hb dX5_bestBesideOthers_28 (lv_at hl 0 rfl) ?_
        refine lv_iload_n hx hb dX5_bestBesideOthers_30 rfl (lv_at hl 4 rfl) ?_
        obtain ⟨w13, hr, hf⟩ := st_ltx hf
        have hJ : qu2 w13 (fun x11 x12 => ∀ (ls : Array Slot) (H : Heap) (locs : List Loc), q_H X M s H locs → lv_has ls 6 [(0, .ref (X.1 60)), (1, .int p0), (2, .int x11), (3, .int x12), (4, .int x4)] → W p l e (q_rm (4)) s m args below meth c H locs 0 0 (MQ below (q_Qi X r0 M) args s 0 0 (q_A X)) (F0 m 40 ls [])) := by
          obtain ⟨x11, x12⟩ := w13
          replace hf := st_u2 hf
          intro ls H locs hH hl
          obtain ⟨x14, ex14, hf⟩ := st_lty hf
          refine lv_iinc (v := x14) (lv' := [(4, .int x14), (0, .ref (X.1 60)), (1, .int p0), (2, .int x11), (3, .int x12)]) hx hb dX5_bestBesideOthers_40 hl (k := 4) rfl (by rw [ex14]; rfl) (by decide) rfl (fun ls hl => ?_)
          refine lv_goto (tgt := 12) hx hb dX5_bestBesideOthers_43 (by decide) ?_
          exact hK1 _ (Option.some.inj hf).symm ls H locs hH (lv_sub hl [1, 2, 3, 4, 0] rfl)
        clear hf
        replace hf := hr
        refine lv_icmp_le (tgt := 40) hx hb dX5_bestBesideOthers_31 (by decide) (fun hc => ?_) (fun hc => ?_)
        · replace hf := (if_pos hc).symm.trans hf
          subst hf
          exact hJ ls H locs hH (lv_sub hl [1, 2, 3, 4, 5] rfl)
        · replace hf := (if_neg hc).symm.trans hf
          refine lv_iload hx hb dX5_bestBesideOthers_34 (lv_at hl 0 rfl) ?_
          refine lv_istore_n (lv' := [(3, .int r10), (5, .int r10), (0, .ref (X.1 60)), (1, .int p0), (2, .int x2), (4, .int x4)]) hx hb dX5_bestBesideOthers_36 rfl hl (by decide) rfl (fun ls hl => ?_)
          refine lv_iload hx hb dX5_bestBesideOthers_37 (lv_at hl 5 rfl) ?_
          refine lv_istore_n (lv' := [(2, .int x4), (3, .int r10), (5, .int r10), (0, .ref (X.1 60)), (1, .int p0), (4, .int x4)]) hx hb dX5_bestBesideOthers_39 rfl hl (by decide) rfl (fun ls hl => ?_)
          subst hf
          exact hJ ls H locs hH (lv_sub hl [3, 4, 0, 1, 5] rfl)) _ hlp
  exact hG ls H locs hH (lv_sub hl [3, 4, 2, 1, 0] rfl)

theorem dX5_rankOf_0 : decode cX5_rankOf 0 = .ok (.aload_n 0, 1) := by decide +kernel
theorem dX5_rankOf_1 : decode cX5_rankOf 1 = .ok (.iload_n 1, 1) := by decide +kernel
theorem dX5_rankOf_2 : decode cX5_rankOf 2 = .ok (.invokevirtual 64, 3) := by decide +kernel
theorem dX5_rankOf_5 : decode cX5_rankOf 5 = .ok (.aload_n 0, 1) := by decide +kernel
theorem dX5_rankOf_6 : decode cX5_rankOf 6 = .ok (.getfield 19, 3) := by decide +kernel
theorem dX5_rankOf_9 : decode cX5_rankOf 9 = .ok (.iload_n 1, 1) := by decide +kernel
theorem dX5_rankOf_10 : decode cX5_rankOf 10 = .ok (.iaload, 1) := by decide +kernel
theorem dX5_rankOf_11 : decode cX5_rankOf 11 = .ok (.aload_n 0, 1) := by decide +kernel
theorem dX5_rankOf_12 : decode cX5_rankOf 12 = .ok (.getfield 29, 3) := by decide +kernel
theorem dX5_rankOf_15 : decode cX5_rankOf 15 = .ok (.arraylength, 1) := by decide +kernel
theorem dX5_rankOf_16 : decode cX5_rankOf 16 = .ok (.invokestatic 43, 3) := by decide +kernel
theorem dX5_rankOf_19 : decode cX5_rankOf 19 = .ok (.ifCond .eq 17, 3) := by decide +kernel
theorem dX5_rankOf_22 : decode cX5_rankOf 22 = .ok (.aload_n 0, 1) := by decide +kernel
theorem dX5_rankOf_23 : decode cX5_rankOf 23 = .ok (.getfield 29, 3) := by decide +kernel
theorem dX5_rankOf_26 : decode cX5_rankOf 26 = .ok (.aload_n 0, 1) := by decide +kernel
theorem dX5_rankOf_27 : decode cX5_rankOf 27 = .ok (.getfield 19, 3) := by decide +kernel
theorem dX5_rankOf_30 : decode cX5_rankOf 30 = .ok (.iload_n 1, 1) := by decide +kernel
theorem dX5_rankOf_31 : decode cX5_rankOf 31 = .ok (.iaload, 1) := by decide +kernel
theorem dX5_rankOf_32 : decode cX5_rankOf 32 = .ok (.iaload, 1) := by decide +kernel
theorem dX5_rankOf_33 : decode cX5_rankOf 33 = .ok (.goto 4, 3) := by decide +kernel
theorem dX5_rankOf_36 : decode cX5_rankOf 36 = .ok (.iconst (-1), 1) := by decide +kernel
theorem dX5_rankOf_37 : decode cX5_rankOf 37 = .ok (.ireturn, 1) := by decide +kernel
set_option maxRecDepth 100000 in
set_option maxHeartbeats 4000000 in
theorem tz_X5_rankOf (l : Launch) (X : qX) {p0 : Int32} {M MR : qM} {r0 : Int32} (hf : jTo_rankOf p0 M = some (r0, MR)) : q_Met l X yX5_rankOf cX5_rankOf 2 (some .int) (3) M [.ref (X.1 60), .int p0] (q_Qi X r0 MR) := by
  refine q_enter (by decide) (Nat.le_of_ble_eq_true rfl) ?_
  intro p e s m args below meth c hE hrt hlk H locs hH ls hl
  have hx := hE.1
  have hb := hE.2.1
  have hl : lv_has ls 2 [(0, .ref (X.1 60)), (1, .int p0)] := hl
  unfold jTo_rankOf at hf
  refine lv_aload_n hx hb dX5_rankOf_0 rfl (lv_at hl 0 rfl) ?_
  refine lv_iload_n hx hb dX5_rankOf_1 rfl (lv_at hl 1 rfl) ?_
  obtain ⟨M1, eM1, hf⟩ := st_bd hf
  refine q_callv (q_runV (As := [.int p0]) (rest := []) hE hH (tz_X5_rankBesideOthers l X (hf := eM1)) kv_X5_64 qk_60 (by decide) rfl hl.1 rfl (Nat.le_of_ble_eq_true rfl) dX5_rankOf_2) hH (fun H locs hH => ?_)
  refine lv_aload_n hx hb dX5_rankOf_5 rfl (lv_at hl 0 rfl) ?_
  refine pz_gS (a := 61) hE hH fr_X5_19 qk_60 (by decide) dX5_rankOf_6 ?_
  refine lv_iload_n hx hb dX5_rankOf_9 rfl (lv_at hl 1 rfl) ?_
  obtain ⟨v2, ev2, hf⟩ := st_bd hf
  refine pz_iald hE hH qk_61 ev2 dX5_rankOf_10 ?_
  refine lv_aload_n hx hb dX5_rankOf_11 rfl (lv_at hl 0 rfl) ?_
  refine pz_gS (a := 64) hE hH fr_X5_29 qk_60 (by decide) dX5_rankOf_12 ?_
  refine pz_alenI (v := 61) hE hH qk_64 (by decide) dX5_rankOf_15 ?_
  refine q_calli (q_runSN (As := [.int v2, .int 61]) (rest := []) hE hH (tz_X11_isOf l X (M := M1) (hf := rfl)) kn_X5_43 (by decide) rfl hl.1 rfl (Nat.le_of_ble_eq_true rfl) dX5_rankOf_16) hH (fun H locs hH => ?_)
  obtain ⟨x3, hr, hf⟩ := st_bd hf
  have hJ : ∀ (ls : Array Slot) (H : Heap) (locs : List Loc), q_H X M1 s H locs → lv_has ls 2 [] → W p l e (q_rm (3)) s m args below meth c H locs 0 0 (MQ below (q_Qi X r0 MR) args s 0 0 (q_A X)) (F0 m 37 ls [.int x3]) := by
    intro ls H locs hH hl
    replace hf := Option.some.inj hf
    obtain ⟨rfl, rfl⟩ := qi2 hf
    exact pz_reti hE hrt hlk hH dX5_rankOf_37
  clear hf
  replace hf := hr
  refine lv_if_eq (tgt := 36) hx hb dX5_rankOf_19 (by decide) (fun hc => ?_) (fun hc => ?_)
  · replace hf := (if_pos hc).symm.trans hf
    refine lv_iconst (v := (-1)) hx hb dX5_rankOf_36 (by decide) ?_
    replace hf := Option.some.inj hf
    subst hf
    exact hJ ls H locs hH (lv_sub hl [] rfl)
  · replace hf := (if_neg hc).symm.trans hf
    refine lv_aload_n hx hb dX5_rankOf_22 rfl (lv_at hl 0 rfl) ?_
    refine pz_gS (a := 64) hE hH fr_X5_29 qk_60 (by decide) dX5_rankOf_23 ?_
    refine lv_aload_n hx hb dX5_rankOf_26 rfl (lv_at hl 0 rfl) ?_
    refine pz_gS (a := 61) hE hH fr_X5_19 qk_60 (by decide) dX5_rankOf_27 ?_
    refine lv_iload_n hx hb dX5_rankOf_30 rfl (lv_at hl 1 rfl) ?_
    obtain ⟨v4, ev4, hf⟩ := st_bd hf
    refine pz_iald hE hH qk_61 ev4 dX5_rankOf_31 ?_
    obtain ⟨v5, ev5, hf⟩ := st_bd hf
    refine pz_iald hE hH qk_64 ev5 dX5_rankOf_32 ?_
    refine lv_goto (tgt := 37) hx hb dX5_rankOf_33 (by decide) ?_
    replace hf := Option.some.inj hf
    subst hf
    exact hJ ls H locs hH (lv_sub hl [] rfl)

theorem dX5_gainOf_0 : decode cX5_gainOf 0 = .ok (.aload_n 0, 1) := by decide +kernel
theorem dX5_gainOf_1 : decode cX5_gainOf 1 = .ok (.iload_n 1, 1) := by decide +kernel
theorem dX5_gainOf_2 : decode cX5_gainOf 2 = .ok (.invokevirtual 64, 3) := by decide +kernel
theorem dX5_gainOf_5 : decode cX5_gainOf 5 = .ok (.aload_n 0, 1) := by decide +kernel
theorem dX5_gainOf_6 : decode cX5_gainOf 6 = .ok (.iload_n 1, 1) := by decide +kernel
theorem dX5_gainOf_7 : decode cX5_gainOf 7 = .ok (.aload_n 0, 1) := by decide +kernel
theorem dX5_gainOf_8 : decode cX5_gainOf 8 = .ok (.getfield 19, 3) := by decide +kernel
theorem dX5_gainOf_11 : decode cX5_gainOf 11 = .ok (.iload_n 1, 1) := by decide +kernel
theorem dX5_gainOf_12 : decode cX5_gainOf 12 = .ok (.iaload, 1) := by decide +kernel
theorem dX5_gainOf_13 : decode cX5_gainOf 13 = .ok (.invokevirtual 61, 3) := by decide +kernel
theorem dX5_gainOf_16 : decode cX5_gainOf 16 = .ok (.ireturn, 1) := by decide +kernel
set_option maxRecDepth 100000 in
set_option maxHeartbeats 4000000 in
theorem tz_X5_gainOf (l : Launch) (X : qX) {p0 : Int32} {M MR : qM} {r0 : Int32} (hf : jTo_gainOf p0 M = some (r0, MR)) : q_Met l X yX5_gainOf cX5_gainOf 2 (some .int) (4) M [.ref (X.1 60), .int p0] (q_Qi X r0 MR) := by
  refine q_enter (by decide) (Nat.le_of_ble_eq_true rfl) ?_
  intro p e s m args below meth c hE hrt hlk H locs hH ls hl
  have hx := hE.1
  have hb := hE.2.1
  have hl : lv_has ls 2 [(0, .ref (X.1 60)), (1, .int p0)] := hl
  unfold jTo_gainOf at hf
  refine lv_aload_n hx hb dX5_gainOf_0 rfl (lv_at hl 0 rfl) ?_
  refine lv_iload_n hx hb dX5_gainOf_1 rfl (lv_at hl 1 rfl) ?_
  obtain ⟨M1, eM1, hf⟩ := st_bd hf
  refine q_callv (q_runV (As := [.int p0]) (rest := []) hE hH (tz_X5_rankBesideOthers l X (hf := eM1)) kv_X5_64 qk_60 (by decide) rfl hl.1 rfl (Nat.le_of_ble_eq_true rfl) dX5_gainOf_2) hH (fun H locs hH => ?_)
  refine lv_aload_n hx hb dX5_gainOf_5 rfl (lv_at hl 0 rfl) ?_
  refine lv_iload_n hx hb dX5_gainOf_6 rfl (lv_at hl 1 rfl) ?_
  refine lv_aload_n hx hb dX5_gainOf_7 rfl (lv_at hl 0 rfl) ?_
  refine pz_gS (a := 61) hE hH fr_X5_19 qk_60 (by decide) dX5_gainOf_8 ?_
  refine lv_iload_n hx hb dX5_gainOf_11 rfl (lv_at hl 1 rfl) ?_
  obtain ⟨v2, ev2, hf⟩ := st_bd hf
  refine pz_iald hE hH qk_61 ev2 dX5_gainOf_12 ?_
  obtain ⟨r3, er3, hf⟩ := st_bd hf
  refine q_calli (q_runV (As := [.int p0, .int v2]) (rest := []) hE hH (tz_X5_gainBy l X (hf := er3)) kv_X5_61 qk_60 (by decide) rfl hl.1 rfl (Nat.le_of_ble_eq_true rfl) dX5_gainOf_13) hH (fun H locs hH => ?_)
  replace hf := Option.some.inj hf
  obtain ⟨rfl, rfl⟩ := qi2 hf
  exact pz_reti hE hrt hlk hH dX5_gainOf_16

theorem dX5_answerOf_0 : decode cX5_answerOf 0 = .ok (.aload_n 0, 1) := by decide +kernel
theorem dX5_answerOf_1 : decode cX5_answerOf 1 = .ok (.iload_n 1, 1) := by decide +kernel
theorem dX5_answerOf_2 : decode cX5_answerOf 2 = .ok (.invokevirtual 64, 3) := by decide +kernel
theorem dX5_answerOf_5 : decode cX5_answerOf 5 = .ok (.aload_n 0, 1) := by decide +kernel
theorem dX5_answerOf_6 : decode cX5_answerOf 6 = .ok (.iload_n 1, 1) := by decide +kernel
theorem dX5_answerOf_7 : decode cX5_answerOf 7 = .ok (.invokevirtual 68, 3) := by decide +kernel
theorem dX5_answerOf_10 : decode cX5_answerOf 10 = .ok (.ireturn, 1) := by decide +kernel
set_option maxRecDepth 100000 in
set_option maxHeartbeats 4000000 in
theorem tz_X5_answerOf (l : Launch) (X : qX) {p0 : Int32} {M MR : qM} {r0 : Int32} (hf : jTo_answerOf p0 M = some (r0, MR)) : q_Met l X yX5_answerOf cX5_answerOf 2 (some .int) (5) M [.ref (X.1 60), .int p0] (q_Qi X r0 MR) := by
  refine q_enter (by decide) (Nat.le_of_ble_eq_true rfl) ?_
  intro p e s m args below meth c hE hrt hlk H locs hH ls hl
  have hx := hE.1
  have hb := hE.2.1
  have hl : lv_has ls 2 [(0, .ref (X.1 60)), (1, .int p0)] := hl
  unfold jTo_answerOf at hf
  refine lv_aload_n hx hb dX5_answerOf_0 rfl (lv_at hl 0 rfl) ?_
  refine lv_iload_n hx hb dX5_answerOf_1 rfl (lv_at hl 1 rfl) ?_
  obtain ⟨M1, eM1, hf⟩ := st_bd hf
  refine q_callv (q_runV (As := [.int p0]) (rest := []) hE hH (tz_X5_rankBesideOthers l X (hf := eM1)) kv_X5_64 qk_60 (by decide) rfl hl.1 rfl (Nat.le_of_ble_eq_true rfl) dX5_answerOf_2) hH (fun H locs hH => ?_)
  refine lv_aload_n hx hb dX5_answerOf_5 rfl (lv_at hl 0 rfl) ?_
  refine lv_iload_n hx hb dX5_answerOf_6 rfl (lv_at hl 1 rfl) ?_
  obtain ⟨r2, er2, hf⟩ := st_bd hf
  refine q_calli (q_runV (As := [.int p0]) (rest := []) hE hH (tz_X5_bestBesideOthers l X (hf := er2)) kv_X5_68 qk_60 (by decide) rfl hl.1 rfl (Nat.le_of_ble_eq_true rfl) dX5_answerOf_7) hH (fun H locs hH => ?_)
  replace hf := Option.some.inj hf
  obtain ⟨rfl, rfl⟩ := qi2 hf
  exact pz_reti hE hrt hlk hH dX5_answerOf_10

theorem dX5_regretOf_0 : decode cX5_regretOf 0 = .ok (.aload_n 0, 1) := by decide +kernel
theorem dX5_regretOf_1 : decode cX5_regretOf 1 = .ok (.iload_n 1, 1) := by decide +kernel
theorem dX5_regretOf_2 : decode cX5_regretOf 2 = .ok (.invokevirtual 72, 3) := by decide +kernel
theorem dX5_regretOf_5 : decode cX5_regretOf 5 = .ok (.istore_n 2, 1) := by decide +kernel
theorem dX5_regretOf_6 : decode cX5_regretOf 6 = .ok (.aload_n 0, 1) := by decide +kernel
theorem dX5_regretOf_7 : decode cX5_regretOf 7 = .ok (.iload_n 1, 1) := by decide +kernel
theorem dX5_regretOf_8 : decode cX5_regretOf 8 = .ok (.iload_n 2, 1) := by decide +kernel
theorem dX5_regretOf_9 : decode cX5_regretOf 9 = .ok (.invokevirtual 61, 3) := by decide +kernel
theorem dX5_regretOf_12 : decode cX5_regretOf 12 = .ok (.aload_n 0, 1) := by decide +kernel
theorem dX5_regretOf_13 : decode cX5_regretOf 13 = .ok (.iload_n 1, 1) := by decide +kernel
theorem dX5_regretOf_14 : decode cX5_regretOf 14 = .ok (.aload_n 0, 1) := by decide +kernel
theorem dX5_regretOf_15 : decode cX5_regretOf 15 = .ok (.getfield 19, 3) := by decide +kernel
theorem dX5_regretOf_18 : decode cX5_regretOf 18 = .ok (.iload_n 1, 1) := by decide +kernel
theorem dX5_regretOf_19 : decode cX5_regretOf 19 = .ok (.iaload, 1) := by decide +kernel
theorem dX5_regretOf_20 : decode cX5_regretOf 20 = .ok (.invokevirtual 61, 3) := by decide +kernel
theorem dX5_regretOf_23 : decode cX5_regretOf 23 = .ok (.isub, 1) := by decide +kernel
theorem dX5_regretOf_24 : decode cX5_regretOf 24 = .ok (.ireturn, 1) := by decide +kernel
set_option maxRecDepth 100000 in
set_option maxHeartbeats 4000000 in
theorem tz_X5_regretOf (l : Launch) (X : qX) {p0 : Int32} {M MR : qM} {r0 : Int32} (hf : jTo_regretOf p0 M = some (r0, MR)) : q_Met l X yX5_regretOf cX5_regretOf 3 (some .int) (6) M [.ref (X.1 60), .int p0] (q_Qi X r0 MR) := by
  refine q_enter (by decide) (Nat.le_of_ble_eq_true rfl) ?_
  intro p e s m args below meth c hE hrt hlk H locs hH ls hl
  have hx := hE.1
  have hb := hE.2.1
  have hl : lv_has ls 3 [(0, .ref (X.1 60)), (1, .int p0)] := hl
  unfold jTo_regretOf at hf
  refine lv_aload_n hx hb dX5_regretOf_0 rfl (lv_at hl 0 rfl) ?_
  refine lv_iload_n hx hb dX5_regretOf_1 rfl (lv_at hl 1 rfl) ?_
  obtain ⟨w1, ew1, hf⟩ := st_bd hf
  obtain ⟨r2, M3⟩ := w1
  replace hf := st_u2 hf
  refine q_calli (q_runV (As := [.int p0]) (rest := []) hE hH (tz_X5_answerOf l X (hf := ew1)) kv_X5_72 qk_60 (by decide) rfl hl.1 rfl (Nat.le_of_ble_eq_true rfl) dX5_regretOf_2) hH (fun H locs hH => ?_)
  refine lv_istore_n (lv' := [(2, .int r2), (0, .ref (X.1 60)), (1, .int p0)]) hx hb dX5_regretOf_5 rfl hl (by decide) rfl (fun ls hl => ?_)
  refine lv_aload_n hx hb dX5_regretOf_6 rfl (lv_at hl 1 rfl) ?_
  refine lv_iload_n hx hb dX5_regretOf_7 rfl (lv_at hl 2 rfl) ?_
  refine lv_iload_n hx hb dX5_regretOf_8 rfl (lv_at hl 0 rfl) ?_
  obtain ⟨r4, er4, hf⟩ := st_bd hf
  refine q_calli (q_runV (As := [.int p0, .int r2]) (rest := []) hE hH (tz_X5_gainBy l X (hf := er4)) kv_X5_61 qk_60 (by decide) rfl hl.1 rfl (Nat.le_of_ble_eq_true rfl) dX5_regretOf_9) hH (fun H locs hH => ?_)
  refine lv_aload_n hx hb dX5_regretOf_12 rfl (lv_at hl 1 rfl) ?_
  refine lv_iload_n hx hb dX5_regretOf_13 rfl (lv_at hl 2 rfl) ?_
  refine lv_aload_n hx hb dX5_regretOf_14 rfl (lv_at hl 1 rfl) ?_
  refine pz_gS (a := 61) hE hH fr_X5_19 qk_60 (by decide) dX5_regretOf_15 ?_
  refine lv_iload_n hx hb dX5_regretOf_18 rfl (lv_at hl 2 rfl) ?_
  obtain ⟨v5, ev5, hf⟩ := st_bd hf
  refine pz_iald hE hH qk_61 ev5 dX5_regretOf_19 ?_
  obtain ⟨r6, er6, hf⟩ := st_bd hf
  refine q_calli (q_runV (As := [.int p0, .int v5]) (rest := [.int r4]) hE hH (tz_X5_gainBy l X (hf := er6)) kv_X5_61 qk_60 (by decide) rfl hl.1 rfl (Nat.le_of_ble_eq_true rfl) dX5_regretOf_20) hH (fun H locs hH => ?_)
  refine lv_isub hx hb dX5_regretOf_23 ?_
  replace hf := Option.some.inj hf
  obtain ⟨rfl, rfl⟩ := qi2 hf
  exact pz_reti hE hrt hlk hH dX5_regretOf_24

theorem dX5_takeTurns_0 : decode cX5_takeTurns 0 = .ok (.aload_n 0, 1) := by decide +kernel
theorem dX5_takeTurns_1 : decode cX5_takeTurns 1 = .ok (.getfield 19, 3) := by decide +kernel
theorem dX5_takeTurns_4 : decode cX5_takeTurns 4 = .ok (.iconst 0, 1) := by decide +kernel
theorem dX5_takeTurns_5 : decode cX5_takeTurns 5 = .ok (.aload_n 0, 1) := by decide +kernel
theorem dX5_takeTurns_6 : decode cX5_takeTurns 6 = .ok (.getfield 23, 3) := by decide +kernel
theorem dX5_takeTurns_9 : decode cX5_takeTurns 9 = .ok (.iconst 0, 1) := by decide +kernel
theorem dX5_takeTurns_10 : decode cX5_takeTurns 10 = .ok (.bipush 20, 2) := by decide +kernel
theorem dX5_takeTurns_12 : decode cX5_takeTurns 12 = .ok (.invokestatic 75, 3) := by decide +kernel
theorem dX5_takeTurns_15 : decode cX5_takeTurns 15 = .ok (.iconst 0, 1) := by decide +kernel
theorem dX5_takeTurns_16 : decode cX5_takeTurns 16 = .ok (.istore_n 1, 1) := by decide +kernel
theorem dX5_takeTurns_17 : decode cX5_takeTurns 17 = .ok (.iconst 0, 1) := by decide +kernel
theorem dX5_takeTurns_18 : decode cX5_takeTurns 18 = .ok (.istore_n 2, 1) := by decide +kernel
theorem dX5_takeTurns_19 : decode cX5_takeTurns 19 = .ok (.iload_n 2, 1) := by decide +kernel
theorem dX5_takeTurns_20 : decode cX5_takeTurns 20 = .ok (.sipush 1000, 3) := by decide +kernel
theorem dX5_takeTurns_23 : decode cX5_takeTurns 23 = .ok (.if_icmp .gt 81, 3) := by decide +kernel
theorem dX5_takeTurns_26 : decode cX5_takeTurns 26 = .ok (.iload_n 1, 1) := by decide +kernel
theorem dX5_takeTurns_27 : decode cX5_takeTurns 27 = .ok (.istore_n 3, 1) := by decide +kernel
theorem dX5_takeTurns_28 : decode cX5_takeTurns 28 = .ok (.iconst 0, 1) := by decide +kernel
theorem dX5_takeTurns_29 : decode cX5_takeTurns 29 = .ok (.istore 4, 2) := by decide +kernel
theorem dX5_takeTurns_31 : decode cX5_takeTurns 31 = .ok (.iload 4, 2) := by decide +kernel
theorem dX5_takeTurns_33 : decode cX5_takeTurns 33 = .ok (.aload_n 0, 1) := by decide +kernel
theorem dX5_takeTurns_34 : decode cX5_takeTurns 34 = .ok (.getfield 9, 3) := by decide +kernel
theorem dX5_takeTurns_37 : decode cX5_takeTurns 37 = .ok (.getfield 38, 3) := by decide +kernel
theorem dX5_takeTurns_40 : decode cX5_takeTurns 40 = .ok (.if_icmp .ge 41, 3) := by decide +kernel
theorem dX5_takeTurns_43 : decode cX5_takeTurns 43 = .ok (.iload_n 1, 1) := by decide +kernel
theorem dX5_takeTurns_44 : decode cX5_takeTurns 44 = .ok (.sipush 1000, 3) := by decide +kernel
theorem dX5_takeTurns_47 : decode cX5_takeTurns 47 = .ok (.if_icmp .gt 34, 3) := by decide +kernel
theorem dX5_takeTurns_50 : decode cX5_takeTurns 50 = .ok (.aload_n 0, 1) := by decide +kernel
theorem dX5_takeTurns_51 : decode cX5_takeTurns 51 = .ok (.iload 4, 2) := by decide +kernel
theorem dX5_takeTurns_53 : decode cX5_takeTurns 53 = .ok (.invokevirtual 81, 3) := by decide +kernel
theorem dX5_takeTurns_56 : decode cX5_takeTurns 56 = .ok (.ifCond .le 19, 3) := by decide +kernel
theorem dX5_takeTurns_59 : decode cX5_takeTurns 59 = .ok (.aload_n 0, 1) := by decide +kernel
theorem dX5_takeTurns_60 : decode cX5_takeTurns 60 = .ok (.getfield 19, 3) := by decide +kernel
theorem dX5_takeTurns_63 : decode cX5_takeTurns 63 = .ok (.iload 4, 2) := by decide +kernel
theorem dX5_takeTurns_65 : decode cX5_takeTurns 65 = .ok (.aload_n 0, 1) := by decide +kernel
theorem dX5_takeTurns_66 : decode cX5_takeTurns 66 = .ok (.iload 4, 2) := by decide +kernel
theorem dX5_takeTurns_68 : decode cX5_takeTurns 68 = .ok (.invokevirtual 72, 3) := by decide +kernel
theorem dX5_takeTurns_71 : decode cX5_takeTurns 71 = .ok (.iastore, 1) := by decide +kernel
theorem dX5_takeTurns_72 : decode cX5_takeTurns 72 = .ok (.iinc 1 1, 3) := by decide +kernel
theorem dX5_takeTurns_75 : decode cX5_takeTurns 75 = .ok (.iinc 4 1, 3) := by decide +kernel
theorem dX5_takeTurns_78 : decode cX5_takeTurns 78 = .ok (.goto (-47), 3) := by decide +kernel
theorem dX5_takeTurns_81 : decode cX5_takeTurns 81 = .ok (.iload_n 1, 1) := by decide +kernel
theorem dX5_takeTurns_82 : decode cX5_takeTurns 82 = .ok (.sipush 1000, 3) := by decide +kernel
theorem dX5_takeTurns_85 : decode cX5_takeTurns 85 = .ok (.if_icmp .le 6, 3) := by decide +kernel
theorem dX5_takeTurns_88 : decode cX5_takeTurns 88 = .ok (.goto 16, 3) := by decide +kernel
theorem dX5_takeTurns_91 : decode cX5_takeTurns 91 = .ok (.iload_n 1, 1) := by decide +kernel
theorem dX5_takeTurns_92 : decode cX5_takeTurns 92 = .ok (.iload_n 3, 1) := by decide +kernel
theorem dX5_takeTurns_93 : decode cX5_takeTurns 93 = .ok (.if_icmp .ne 5, 3) := by decide +kernel
theorem dX5_takeTurns_96 : decode cX5_takeTurns 96 = .ok (.iload_n 1, 1) := by decide +kernel
theorem dX5_takeTurns_97 : decode cX5_takeTurns 97 = .ok (.ireturn, 1) := by decide +kernel
theorem dX5_takeTurns_98 : decode cX5_takeTurns 98 = .ok (.iinc 2 1, 3) := by decide +kernel
theorem dX5_takeTurns_101 : decode cX5_takeTurns 101 = .ok (.goto (-82), 3) := by decide +kernel
theorem dX5_takeTurns_104 : decode cX5_takeTurns 104 = .ok (.aload_n 0, 1) := by decide +kernel
theorem dX5_takeTurns_105 : decode cX5_takeTurns 105 = .ok (.getfield 23, 3) := by decide +kernel
theorem dX5_takeTurns_108 : decode cX5_takeTurns 108 = .ok (.iconst 0, 1) := by decide +kernel
theorem dX5_takeTurns_109 : decode cX5_takeTurns 109 = .ok (.aload_n 0, 1) := by decide +kernel
theorem dX5_takeTurns_110 : decode cX5_takeTurns 110 = .ok (.getfield 19, 3) := by decide +kernel
theorem dX5_takeTurns_113 : decode cX5_takeTurns 113 = .ok (.iconst 0, 1) := by decide +kernel
theorem dX5_takeTurns_114 : decode cX5_takeTurns 114 = .ok (.bipush 20, 2) := by decide +kernel
theorem dX5_takeTurns_116 : decode cX5_takeTurns 116 = .ok (.invokestatic 75, 3) := by decide +kernel
theorem dX5_takeTurns_119 : decode cX5_takeTurns 119 = .ok (.iconst (-1), 1) := by decide +kernel
theorem dX5_takeTurns_120 : decode cX5_takeTurns 120 = .ok (.ireturn, 1) := by decide +kernel
set_option maxRecDepth 100000 in
set_option maxHeartbeats 4000000 in
theorem tz_X5_takeTurns (l : Launch) (X : qX) {M MR : qM} {r0 : Int32} (hf : jTo_takeTurns M = some (r0, MR)) : q_Met l X yX5_takeTurns cX5_takeTurns 5 (some .int) (7) M [.ref (X.1 60)] (q_Qi X r0 MR) := by
  refine q_enter (by decide) (Nat.le_of_ble_eq_true rfl) ?_
  intro p e s m args below meth c hE hrt hlk H locs hH ls hl
  have hx := hE.1
  have hb := hE.2.1
  have hl : lv_has ls 5 [(0, .ref (X.1 60))] := hl
  unfold jTo_takeTurns at hf
  refine lv_aload_n hx hb dX5_takeTurns_0 rfl (lv_at hl 0 rfl) ?_
  refine pz_gS (a := 61) hE hH fr_X5_19 qk_60 (by decide) dX5_takeTurns_1 ?_
  refine lv_iconst (v := 0) hx hb dX5_takeTurns_4 (by decide) ?_
  refine lv_aload_n hx hb dX5_takeTurns_5 rfl (lv_at hl 0 rfl) ?_
  refine pz_gS (a := 62) hE hH fr_X5_23 qk_60 (by decide) dX5_takeTurns_6 ?_
  refine lv_iconst (v := 0) hx hb dX5_takeTurns_9 (by decide) ?_
  refine lv_bipush (v := 20) hx hb dX5_takeTurns_10 (by decide) ?_
  obtain ⟨M1, eM1, hf⟩ := st_bd hf
  refine pz_cpy (rest := []) hE hH (q_in _ 1223 (by decide +kernel) rfl) (q_in _ 505 (by decide +kernel) rfl) (q_in _ 504 (by decide +kernel) rfl) (q_in _ 14 (by decide +kernel) rfl) qk_61 qk_62 eM1 hl.1 (by decide) (Nat.le_of_ble_eq_true rfl) dX5_takeTurns_12 (fun H locs hH => ?_)
  refine lv_iconst (v := 0) hx hb dX5_takeTurns_15 (by decide) ?_
  refine lv_istore_n (lv' := [(1, .int 0), (0, .ref (X.1 60))]) hx hb dX5_takeTurns_16 rfl hl (by decide) rfl (fun ls hl => ?_)
  refine lv_iconst (v := 0) hx hb dX5_takeTurns_17 (by decide) ?_
  refine lv_istore_n (lv' := [(2, .int 0), (1, .int 0), (0, .ref (X.1 60))]) hx hb dX5_takeTurns_18 rfl hl (by decide) rfl (fun ls hl => ?_)
  obtain ⟨r9, hlp, hf⟩ := st_bd hf
  have hX : (fun q0a => qse q0a (fun M5 => ∀ (ls : Array Slot) (H : Heap) (locs : List Loc), q_H X M5 s H locs → lv_has ls 5 [(0, .ref (X.1 60))] → W p l e (q_rm (7)) s m args below meth c H locs 0 0 (MQ below (q_Qi X r0 MR) args s 0 0 (q_A X)) (F0 m 88 ls [])) (fun q1a => qse q1a (fun q1 => qu2 q1 (fun x6 M7 => ∀ (ls : Array Slot) (H : Heap) (locs : List Loc), q_H X M7 s H locs → lv_has ls 5 [(1, .int x6)] → W p l e (q_rm (7)) s m args below meth c H locs 0 0 (MQ below (q_Qi X r0 MR) args s 0 0 (q_A X)) (F0 m 96 ls []))) (fun M8 => ∀ (ls : Array Slot) (H : Heap) (locs : List Loc), q_H X M8 s H locs → lv_has ls 5 [(0, .ref (X.1 60))] → W p l e (q_rm (7)) s m args below meth c H locs 0 0 (MQ below (q_Qi X r0 MR) args s 0 0 (q_A X)) (F0 m 104 ls []))) : (qM ⊕ ((Int32 × qM) ⊕ qM)) → Prop) r9 := by
    rcases r9 with M5 | r9
    · replace hf := st_seL hf
      intro ls H locs hH hl
      refine lv_goto (tgt := 104) hx hb dX5_takeTurns_88 (by decide) ?_
      refine lv_aload_n hx hb dX5_takeTurns_104 rfl (lv_at hl 0 rfl) ?_
      refine pz_gS (a := 62) hE hH fr_X5_23 qk_60 (by decide) dX5_takeTurns_105 ?_
      refine lv_iconst (v := 0) hx hb dX5_takeTurns_108 (by decide) ?_
      refine lv_aload_n hx hb dX5_takeTurns_109 rfl (lv_at hl 0 rfl) ?_
      refine pz_gS (a := 61) hE hH fr_X5_19 qk_60 (by decide) dX5_takeTurns_110 ?_
      refine lv_iconst (v := 0) hx hb dX5_takeTurns_113 (by decide) ?_
      refine lv_bipush (v := 20) hx hb dX5_takeTurns_114 (by decide) ?_
      obtain ⟨M10, eM10, hf⟩ := st_bd hf
      refine pz_cpy (rest := []) hE hH (q_in _ 1223 (by decide +kernel) rfl) (q_in _ 505 (by decide +kernel) rfl) (q_in _ 504 (by decide +kernel) rfl) (q_in _ 14 (by decide +kernel) rfl) qk_62 qk_61 eM10 hl.1 (by decide) (Nat.le_of_ble_eq_true rfl) dX5_takeTurns_116 (fun H locs hH => ?_)
      refine lv_iconst (v := (-1)) hx hb dX5_takeTurns_119 (by decide) ?_
      replace hf := Option.some.inj hf
      obtain ⟨rfl, rfl⟩ := qi2 hf
      exact pz_reti hE hrt hlk hH dX5_takeTurns_120
    · replace hf := st_seR hf
      rcases r9 with r9 | M8
      · replace hf := st_seL hf
        obtain ⟨x6, M7⟩ := r9
        replace hf := st_u2 hf
        intro ls H locs hH hl
        refine lv_iload_n hx hb dX5_takeTurns_96 rfl (lv_at hl 0 rfl) ?_
        replace hf := Option.some.inj hf
        obtain ⟨rfl, rfl⟩ := qi2 hf
        exact pz_reti hE hrt hlk hH dX5_takeTurns_97
      · replace hf := st_seR hf
        intro ls H locs hH hl
        refine lv_aload_n hx hb dX5_takeTurns_104 rfl (lv_at hl 0 rfl) ?_
        refine pz_gS (a := 62) hE hH fr_X5_23 qk_60 (by decide) dX5_takeTurns_105 ?_
        refine lv_iconst (v := 0) hx hb dX5_takeTurns_108 (by decide) ?_
        refine lv_aload_n hx hb dX5_takeTurns_109 rfl (lv_at hl 0 rfl) ?_
        refine pz_gS (a := 61) hE hH fr_X5_19 qk_60 (by decide) dX5_takeTurns_110 ?_
        refine lv_iconst (v := 0) hx hb dX5_takeTurns_113 (by decide) ?_
        refine lv_bipush (v := 20) hx hb dX5_takeTurns_114 (by decide) ?_
        obtain ⟨M11, eM11, hf⟩ := st_bd hf
        refine pz_cpy (rest := []) hE hH (q_in _ 1223 (by decide +kernel) rfl) (q_in _ 505 (by decide +kernel) rfl) (q_in _ 504 (by decide +kernel) rfl) (q_in _ 14 (by decide +kernel) rfl) qk_62 qk_61 eM11 hl.1 (by decide) (Nat.le_of_ble_eq_true rfl) dX5_takeTurns_116 (fun H locs hH => ?_)
        refine lv_iconst (v := (-1)) hx hb dX5_takeTurns_119 (by decide) ?_
        replace hf := Option.some.inj hf
        obtain ⟨rfl, rfl⟩ := qi2 hf
        exact pz_reti hE hrt hlk hH dX5_takeTurns_120
  clear hf
  have hG := qlp_ind (r := r9) (fun q => qu3 q (fun x2 x3 M4 => ∀ (ls : Array Slot) (H : Heap) (locs : List Loc), q_H X M4 s H locs → lv_has ls 5 [(0, .ref (X.1 60)), (1, .int x2), (2, .int x3)] → W p l e (q_rm (7)) s m args below meth c H locs 0 0 (MQ below (q_Qi X r0 MR) args s 0 0 (q_A X)) (F0 m 19 ls []))) (by
      intro q o hf hK1 hK2
      obtain ⟨x2, x3, M4⟩ := q
      replace hf := st_u3 hf
      intro ls H locs hH hl
      refine lv_iload_n hx hb dX5_takeTurns_19 rfl (lv_at hl 2 rfl) ?_
      refine lv_sipush (v := 1000) hx hb dX5_takeTurns_20 (by decide) ?_
      refine lv_icmp_gt (tgt := 104) hx hb dX5_takeTurns_23 (by decide) (fun hc => ?_) (fun hc => ?_)
      · replace hf := (if_pos hc).symm.trans hf
        replace hf := hK2 _ (Option.some.inj hf).symm
        subst hf
        exact hX ls H locs hH (lv_sub hl [0] rfl)
      · replace hf := (if_neg hc).symm.trans hf
        refine lv_iload_n hx hb dX5_takeTurns_26 rfl (lv_at hl 1 rfl) ?_
        refine lv_istore_n (lv' := [(3, .int x2), (0, .ref (X.1 60)), (1, .int x2), (2, .int x3)]) hx hb dX5_takeTurns_27 rfl hl (by decide) rfl (fun ls hl => ?_)
        refine lv_iconst (v := 0) hx hb dX5_takeTurns_28 (by decide) ?_
        refine lv_istore (lv' := [(4, .int 0), (3, .int x2), (0, .ref (X.1 60)), (1, .int x2), (2, .int x3)]) hx hb dX5_takeTurns_29 hl (by decide) rfl (fun ls hl => ?_)
        obtain ⟨r17, hlp, hf⟩ := st_bd hf
        have hX : (fun q0 => qu2 q0 (fun x15 M16 => ∀ (ls : Array Slot) (H : Heap) (locs : List Loc), q_H X M16 s H locs → lv_has ls 5 [(0, .ref (X.1 60)), (1, .int x15), (2, .int x3), (3, .int x2)] → W p l e (q_rm (7)) s m args below meth c H locs 0 0 (MQ below (q_Qi X r0 MR) args s 0 0 (q_A X)) (F0 m 81 ls [])) : (Int32 × qM) → Prop) r17 := by
          obtain ⟨x15, M16⟩ := r17
          replace hf := st_u2 hf
          intro ls H locs hH hl
          refine lv_iload_n hx hb dX5_takeTurns_81 rfl (lv_at hl 1 rfl) ?_
          refine lv_sipush (v := 1000) hx hb dX5_takeTurns_82 (by decide) ?_
          refine lv_icmp_le (tgt := 91) hx hb dX5_takeTurns_85 (by decide) (fun hc => ?_) (fun hc => ?_)
          · replace hf := (if_pos hc).symm.trans hf
            refine lv_iload_n hx hb dX5_takeTurns_91 rfl (lv_at hl 1 rfl) ?_
            refine lv_iload_n hx hb dX5_takeTurns_92 rfl (lv_at hl 3 rfl) ?_
            refine lv_icmp_ne (tgt := 98) hx hb dX5_takeTurns_93 (by decide) (fun hc => ?_) (fun hc => ?_)
            · replace hf := (if_neg hc).symm.trans hf
              obtain ⟨x18, ex18, hf⟩ := st_lty hf
              refine lv_iinc (v := x18) (lv' := [(2, .int x18), (0, .ref (X.1 60)), (1, .int x15), (3, .int x2)]) hx hb dX5_takeTurns_98 hl (k := 2) rfl (by rw [ex18]; rfl) (by decide) rfl (fun ls hl => ?_)
              refine lv_goto (tgt := 19) hx hb dX5_takeTurns_101 (by decide) ?_
              exact hK1 _ (Option.some.inj hf).symm ls H locs hH (lv_sub hl [1, 2, 0] rfl)
            · replace hf := (if_pos hc).symm.trans hf
              replace hf := hK2 _ (Option.some.inj hf).symm
              subst hf
              exact hX ls H locs hH (lv_sub hl [1] rfl)
          · replace hf := (if_neg hc).symm.trans hf
            replace hf := hK2 _ (Option.some.inj hf).symm
            subst hf
            exact hX ls H locs hH (lv_sub hl [0] rfl)
        clear hf
        have hG := qlp_ind (r := r17) (fun q => qu3 q (fun x12 x13 M14 => ∀ (ls : Array Slot) (H : Heap) (locs : List Loc), q_H X M14 s H locs → lv_has ls 5 [(0, .ref (X.1 60)), (1, .int x12), (2, .int x3), (3, .int x2), (4, .int x13)] → W p l e (q_rm (7)) s m args below meth c H locs 0 0 (MQ below (q_Qi X r0 MR) args s 0 0 (q_A X)) (F0 m 31 ls []))) (by
            intro q o hf hK1 hK2
            obtain ⟨x12, x13, M14⟩ := q
            replace hf := st_u3 hf
            intro ls H locs hH hl
            refine lv_iload hx hb dX5_takeTurns_31 (lv_at hl 4 rfl) ?_
            refine lv_aload_n hx hb dX5_takeTurns_33 rfl (lv_at hl 0 rfl) ?_
            obtain ⟨a19, ea19, hf⟩ := st_bd hf
            refine pz_gR hE hH fr_X5_9 qk_60 ea19 dX5_takeTurns_34 (fun ha19 => ?_)
            replace ha19 : q_vil a19 = true := ha19
            refine pz_gI hE hH fr_X5_38 (q_vil_0 ha19) dX5_takeTurns_37 ?_
            refine lv_icmp_ge (tgt := 81) hx hb dX5_takeTurns_40 (by decide) (fun hc => ?_) (fun hc => ?_)
            · replace hf := (if_pos hc).symm.trans hf
              replace hf := hK2 _ (Option.some.inj hf).symm
              subst hf
              exact hX ls H locs hH (lv_sub hl [0, 1, 2, 3] rfl)
            · replace hf := (if_neg hc).symm.trans hf
              refine lv_iload_n hx hb dX5_takeTurns_43 rfl (lv_at hl 1 rfl) ?_
              refine lv_sipush (v := 1000) hx hb dX5_takeTurns_44 (by decide) ?_
              refine lv_icmp_gt (tgt := 81) hx hb dX5_takeTurns_47 (by decide) (fun hc => ?_) (fun hc => ?_)
              · replace hf := (if_pos hc).symm.trans hf
                replace hf := hK2 _ (Option.some.inj hf).symm
                subst hf
                exact hX ls H locs hH (lv_sub hl [0, 1, 2, 3] rfl)
              · replace hf := (if_neg hc).symm.trans hf
                refine lv_aload_n hx hb dX5_takeTurns_50 rfl (lv_at hl 0 rfl) ?_
                refine lv_iload hx hb dX5_takeTurns_51 (lv_at hl 4 rfl) ?_
                obtain ⟨w20, ew20, hf⟩ := st_bd hf
                obtain ⟨r21, M22⟩ := w20
                replace hf := st_u2 hf
                refine q_calli (q_runV (As := [.int x13]) (rest := []) hE hH (tz_X5_regretOf l X (hf := ew20)) kv_X5_81 qk_60 (by decide) rfl hl.1 rfl (Nat.le_of_ble_eq_true rfl) dX5_takeTurns_53) hH (fun H locs hH => ?_)
                obtain ⟨w25, hr, hf⟩ := st_bd hf
                have hJ : qu2 w25 (fun x23 M24 => ∀ (ls : Array Slot) (H : Heap) (locs : List Loc), q_H X M24 s H locs → lv_has ls 5 [(0, .ref (X.1 60)), (1, .int x23), (2, .int x3), (3, .int x2), (4, .int x13)] → W p l e (q_rm (7)) s m args below meth c H locs 0 0 (MQ below (q_Qi X r0 MR) args s 0 0 (q_A X)) (F0 m 75 ls [])) := by
                  obtain ⟨x23, M24⟩ := w25
                  replace hf := st_u2 hf
                  intro ls H locs hH hl
                  obtain ⟨x26, ex26, hf⟩ := st_lty hf
                  refine lv_iinc (v := x26) (lv' := [(4, .int x26), (0, .ref (X.1 60)), (1, .int x23), (2, .int x3), (3, .int x2)]) hx hb dX5_takeTurns_75 hl (k := 4) rfl (by rw [ex26]; rfl) (by decide) rfl (fun ls hl => ?_)
                  refine lv_goto (tgt := 31) hx hb dX5_takeTurns_78 (by decide) ?_
                  exact hK1 _ (Option.some.inj hf).symm ls H locs hH (lv_sub hl [1, 2, 3, 4, 0] rfl)
                clear hf
                replace hf := hr
                refine lv_if_le (tgt := 75) hx hb dX5_takeTurns_56 (by decide) (fun hc => ?_) (fun hc => ?_)
                · replace hf := (if_pos hc).symm.trans hf
                  replace hf := Option.some.inj hf
                  subst hf
                  exact hJ ls H locs hH (lv_sub hl [0, 1, 2, 3, 4] rfl)
                · replace hf := (if_neg hc).symm.trans hf
                  refine lv_aload_n hx hb dX5_takeTurns_59 rfl (lv_at hl 0 rfl) ?_
                  refine pz_gS (a := 61) hE hH fr_X5_19 qk_60 (by decide) dX5_takeTurns_60 ?_
                  refine lv_iload hx hb dX5_takeTurns_63 (lv_at hl 4 rfl) ?_
                  refine lv_aload_n hx hb dX5_takeTurns_65 rfl (lv_at hl 0 rfl) ?_
                  refine lv_iload hx hb dX5_takeTurns_66 (lv_at hl 4 rfl) ?_
                  obtain ⟨w27, ew27, hf⟩ := st_bd hf
                  obtain ⟨r28, M29⟩ := w27
                  replace hf := st_u2 hf
                  refine q_calli (q_runV (As := [.int x13]) (rest := [.int x13, .ref (X.1 61)]) hE hH (tz_X5_answerOf l X (hf := ew27)) kv_X5_72 qk_60 (by decide) rfl hl.1 rfl (Nat.le_of_ble_eq_true rfl) dX5_takeTurns_68) hH (fun H locs hH => ?_)
                  obtain ⟨M30, eM30, hf⟩ := st_bd hf
                  refine pz_iast hE hH qk_61 eM30 dX5_takeTurns_71 (fun H locs hH => ?_)
                  obtain ⟨x31, ex31, hf⟩ := st_lty hf
                  refine lv_iinc (v := x31) (lv' := [(1, .int x31), (0, .ref (X.1 60)), (2, .int x3), (3, .int x2), (4, .int x13)]) hx hb dX5_takeTurns_72 hl (k := 1) rfl (by rw [ex31]; rfl) (by decide) rfl (fun ls hl => ?_)
                  replace hf := Option.some.inj hf
                  subst hf
                  exact hJ ls H locs hH (lv_sub hl [1, 0, 2, 3, 4] rfl)) _ hlp
        exact hG ls H locs hH (lv_sub hl [2, 3, 4, 1, 0] rfl)) _ hlp
  exact hG ls H locs hH (lv_sub hl [2, 1, 0] rfl)

theorem dX5_exchange_0 : decode cX5_exchange 0 = .ok (.aload_n 0, 1) := by decide +kernel
theorem dX5_exchange_1 : decode cX5_exchange 1 = .ok (.getfield 19, 3) := by decide +kernel
theorem dX5_exchange_4 : decode cX5_exchange 4 = .ok (.iload_n 1, 1) := by decide +kernel
theorem dX5_exchange_5 : decode cX5_exchange 5 = .ok (.iaload, 1) := by decide +kernel
theorem dX5_exchange_6 : decode cX5_exchange 6 = .ok (.istore_n 3, 1) := by decide +kernel
theorem dX5_exchange_7 : decode cX5_exchange 7 = .ok (.aload_n 0, 1) := by decide +kernel
theorem dX5_exchange_8 : decode cX5_exchange 8 = .ok (.getfield 19, 3) := by decide +kernel
theorem dX5_exchange_11 : decode cX5_exchange 11 = .ok (.iload_n 1, 1) := by decide +kernel
theorem dX5_exchange_12 : decode cX5_exchange 12 = .ok (.aload_n 0, 1) := by decide +kernel
theorem dX5_exchange_13 : decode cX5_exchange 13 = .ok (.getfield 19, 3) := by decide +kernel
theorem dX5_exchange_16 : decode cX5_exchange 16 = .ok (.iload_n 2, 1) := by decide +kernel
theorem dX5_exchange_17 : decode cX5_exchange 17 = .ok (.iaload, 1) := by decide +kernel
theorem dX5_exchange_18 : decode cX5_exchange 18 = .ok (.iastore, 1) := by decide +kernel
theorem dX5_exchange_19 : decode cX5_exchange 19 = .ok (.aload_n 0, 1) := by decide +kernel
theorem dX5_exchange_20 : decode cX5_exchange 20 = .ok (.getfield 19, 3) := by decide +kernel
theorem dX5_exchange_23 : decode cX5_exchange 23 = .ok (.iload_n 2, 1) := by decide +kernel
theorem dX5_exchange_24 : decode cX5_exchange 24 = .ok (.iload_n 3, 1) := by decide +kernel
theorem dX5_exchange_25 : decode cX5_exchange 25 = .ok (.iastore, 1) := by decide +kernel
theorem dX5_exchange_26 : decode cX5_exchange 26 = .ok (.return_, 1) := by decide +kernel
set_option maxRecDepth 100000 in
set_option maxHeartbeats 4000000 in
theorem tz_X5_exchange (l : Launch) (X : qX) {p0 : Int32} {p1 : Int32} {M MR : qM} (hf : jTo_exchange p0 p1 M = some MR) : q_Met l X yX5_exchange cX5_exchange 4 none (1) M [.ref (X.1 60), .int p0, .int p1] (q_Qv X MR) := by
  refine q_enter (by decide) (Nat.le_of_ble_eq_true rfl) ?_
  intro p e s m args below meth c hE hrt hlk H locs hH ls hl
  have hx := hE.1
  have hb := hE.2.1
  have hl : lv_has ls 4 [(0, .ref (X.1 60)), (1, .int p0), (2, .int p1)] := hl
  unfold jTo_exchange at hf
  refine lv_aload_n hx hb dX5_exchange_0 rfl (lv_at hl 0 rfl) ?_
  refine pz_gS (a := 61) hE hH fr_X5_19 qk_60 (by decide) dX5_exchange_1 ?_
  refine lv_iload_n hx hb dX5_exchange_4 rfl (lv_at hl 1 rfl) ?_
  obtain ⟨v1, ev1, hf⟩ := st_bd hf
  refine pz_iald hE hH qk_61 ev1 dX5_exchange_5 ?_
  refine lv_istore_n (lv' := [(3, .int v1), (0, .ref (X.1 60)), (1, .int p0), (2, .int p1)]) hx hb dX5_exchange_6 rfl hl (by decide) rfl (fun ls hl => ?_)
  refine lv_aload_n hx hb dX5_exchange_7 rfl (lv_at hl 1 rfl) ?_
  refine pz_gS (a := 61) hE hH fr_X5_19 qk_60 (by decide) dX5_exchange_8 ?_
  refine lv_iload_n hx hb dX5_exchange_11 rfl (lv_at hl 2 rfl) ?_
  refine lv_aload_n hx hb dX5_exchange_12 rfl (lv_at hl 1 rfl) ?_
  refine pz_gS (a := 61) hE hH fr_X5_19 qk_60 (by decide) dX5_exchange_13 ?_
  refine lv_iload_n hx hb dX5_exchange_16 rfl (lv_at hl 3 rfl) ?_
  obtain ⟨v2, ev2, hf⟩ := st_bd hf
  refine pz_iald hE hH qk_61 ev2 dX5_exchange_17 ?_
  obtain ⟨M3, eM3, hf⟩ := st_bd hf
  refine pz_iast hE hH qk_61 eM3 dX5_exchange_18 (fun H locs hH => ?_)
  refine lv_aload_n hx hb dX5_exchange_19 rfl (lv_at hl 1 rfl) ?_
  refine pz_gS (a := 61) hE hH fr_X5_19 qk_60 (by decide) dX5_exchange_20 ?_
  refine lv_iload_n hx hb dX5_exchange_23 rfl (lv_at hl 3 rfl) ?_
  refine lv_iload_n hx hb dX5_exchange_24 rfl (lv_at hl 0 rfl) ?_
  obtain ⟨M4, eM4, hf⟩ := st_bd hf
  refine pz_iast hE hH qk_61 eM4 dX5_exchange_25 (fun H locs hH => ?_)
  replace hf := Option.some.inj hf
  subst hf
  exact pz_retv hE hrt hlk hH dX5_exchange_26

theorem dX5_gainBySwap_0 : decode cX5_gainBySwap 0 = .ok (.aload_n 0, 1) := by decide +kernel
theorem dX5_gainBySwap_1 : decode cX5_gainBySwap 1 = .ok (.iload_n 1, 1) := by decide +kernel
theorem dX5_gainBySwap_2 : decode cX5_gainBySwap 2 = .ok (.invokevirtual 84, 3) := by decide +kernel
theorem dX5_gainBySwap_5 : decode cX5_gainBySwap 5 = .ok (.aload_n 0, 1) := by decide +kernel
theorem dX5_gainBySwap_6 : decode cX5_gainBySwap 6 = .ok (.iload_n 2, 1) := by decide +kernel
theorem dX5_gainBySwap_7 : decode cX5_gainBySwap 7 = .ok (.invokevirtual 84, 3) := by decide +kernel
theorem dX5_gainBySwap_10 : decode cX5_gainBySwap 10 = .ok (.iadd, 1) := by decide +kernel
theorem dX5_gainBySwap_11 : decode cX5_gainBySwap 11 = .ok (.istore_n 3, 1) := by decide +kernel
theorem dX5_gainBySwap_12 : decode cX5_gainBySwap 12 = .ok (.aload_n 0, 1) := by decide +kernel
theorem dX5_gainBySwap_13 : decode cX5_gainBySwap 13 = .ok (.iload_n 1, 1) := by decide +kernel
theorem dX5_gainBySwap_14 : decode cX5_gainBySwap 14 = .ok (.iload_n 2, 1) := by decide +kernel
theorem dX5_gainBySwap_15 : decode cX5_gainBySwap 15 = .ok (.invokevirtual 87, 3) := by decide +kernel
theorem dX5_gainBySwap_18 : decode cX5_gainBySwap 18 = .ok (.aload_n 0, 1) := by decide +kernel
theorem dX5_gainBySwap_19 : decode cX5_gainBySwap 19 = .ok (.iload_n 1, 1) := by decide +kernel
theorem dX5_gainBySwap_20 : decode cX5_gainBySwap 20 = .ok (.invokevirtual 84, 3) := by decide +kernel
theorem dX5_gainBySwap_23 : decode cX5_gainBySwap 23 = .ok (.aload_n 0, 1) := by decide +kernel
theorem dX5_gainBySwap_24 : decode cX5_gainBySwap 24 = .ok (.iload_n 2, 1) := by decide +kernel
theorem dX5_gainBySwap_25 : decode cX5_gainBySwap 25 = .ok (.invokevirtual 84, 3) := by decide +kernel
theorem dX5_gainBySwap_28 : decode cX5_gainBySwap 28 = .ok (.iadd, 1) := by decide +kernel
theorem dX5_gainBySwap_29 : decode cX5_gainBySwap 29 = .ok (.istore 4, 2) := by decide +kernel
theorem dX5_gainBySwap_31 : decode cX5_gainBySwap 31 = .ok (.aload_n 0, 1) := by decide +kernel
theorem dX5_gainBySwap_32 : decode cX5_gainBySwap 32 = .ok (.iload_n 1, 1) := by decide +kernel
theorem dX5_gainBySwap_33 : decode cX5_gainBySwap 33 = .ok (.iload_n 2, 1) := by decide +kernel
theorem dX5_gainBySwap_34 : decode cX5_gainBySwap 34 = .ok (.invokevirtual 87, 3) := by decide +kernel
theorem dX5_gainBySwap_37 : decode cX5_gainBySwap 37 = .ok (.iload 4, 2) := by decide +kernel
theorem dX5_gainBySwap_39 : decode cX5_gainBySwap 39 = .ok (.iload_n 3, 1) := by decide +kernel
theorem dX5_gainBySwap_40 : decode cX5_gainBySwap 40 = .ok (.isub, 1) := by decide +kernel
theorem dX5_gainBySwap_41 : decode cX5_gainBySwap 41 = .ok (.ireturn, 1) := by decide +kernel
set_option maxRecDepth 100000 in
set_option maxHeartbeats 4000000 in
theorem tz_X5_gainBySwap (l : Launch) (X : qX) {p0 : Int32} {p1 : Int32} {M MR : qM} {r0 : Int32} (hf : jTo_gainBySwap p0 p1 M = some (r0, MR)) : q_Met l X yX5_gainBySwap cX5_gainBySwap 5 (some .int) (5) M [.ref (X.1 60), .int p0, .int p1] (q_Qi X r0 MR) := by
  refine q_enter (by decide) (Nat.le_of_ble_eq_true rfl) ?_
  intro p e s m args below meth c hE hrt hlk H locs hH ls hl
  have hx := hE.1
  have hb := hE.2.1
  have hl : lv_has ls 5 [(0, .ref (X.1 60)), (1, .int p0), (2, .int p1)] := hl
  unfold jTo_gainBySwap at hf
  refine lv_aload_n hx hb dX5_gainBySwap_0 rfl (lv_at hl 0 rfl) ?_
  refine lv_iload_n hx hb dX5_gainBySwap_1 rfl (lv_at hl 1 rfl) ?_
  obtain ⟨w1, ew1, hf⟩ := st_bd hf
  obtain ⟨r2, M3⟩ := w1
  replace hf := st_u2 hf
  refine q_calli (q_runV (As := [.int p0]) (rest := []) hE hH (tz_X5_gainOf l X (hf := ew1)) kv_X5_84 qk_60 (by decide) rfl hl.1 rfl (Nat.le_of_ble_eq_true rfl) dX5_gainBySwap_2) hH (fun H locs hH => ?_)
  refine lv_aload_n hx hb dX5_gainBySwap_5 rfl (lv_at hl 0 rfl) ?_
  refine lv_iload_n hx hb dX5_gainBySwap_6 rfl (lv_at hl 2 rfl) ?_
  obtain ⟨w4, ew4, hf⟩ := st_bd hf
  obtain ⟨r5, M6⟩ := w4
  replace hf := st_u2 hf
  refine q_calli (q_runV (As := [.int p1]) (rest := [.int r2]) hE hH (tz_X5_gainOf l X (hf := ew4)) kv_X5_84 qk_60 (by decide) rfl hl.1 rfl (Nat.le_of_ble_eq_true rfl) dX5_gainBySwap_7) hH (fun H locs hH => ?_)
  refine lv_iadd hx hb dX5_gainBySwap_10 ?_
  refine lv_topi (fun x7 ex7 => ?_)
  replace hf := st_lt hf ex7
  refine lv_istore_n (lv' := [(3, .int x7), (0, .ref (X.1 60)), (1, .int p0), (2, .int p1)]) hx hb dX5_gainBySwap_11 rfl hl (by decide) rfl (fun ls hl => ?_)
  refine lv_aload_n hx hb dX5_gainBySwap_12 rfl (lv_at hl 1 rfl) ?_
  refine lv_iload_n hx hb dX5_gainBySwap_13 rfl (lv_at hl 2 rfl) ?_
  refine lv_iload_n hx hb dX5_gainBySwap_14 rfl (lv_at hl 3 rfl) ?_
  obtain ⟨M8, eM8, hf⟩ := st_bd hf
  refine q_callv (q_runV (As := [.int p0, .int p1]) (rest := []) hE hH (tz_X5_exchange l X (hf := eM8)) kv_X5_87 qk_60 (by decide) rfl hl.1 rfl (Nat.le_of_ble_eq_true rfl) dX5_gainBySwap_15) hH (fun H locs hH => ?_)
  refine lv_aload_n hx hb dX5_gainBySwap_18 rfl (lv_at hl 1 rfl) ?_
  refine lv_iload_n hx hb dX5_gainBySwap_19 rfl (lv_at hl 2 rfl) ?_
  obtain ⟨w9, ew9, hf⟩ := st_bd hf
  obtain ⟨r10, M11⟩ := w9
  replace hf := st_u2 hf
  refine q_calli (q_runV (As := [.int p0]) (rest := []) hE hH (tz_X5_gainOf l X (hf := ew9)) kv_X5_84 qk_60 (by decide) rfl hl.1 rfl (Nat.le_of_ble_eq_true rfl) dX5_gainBySwap_20) hH (fun H locs hH => ?_)
  refine lv_aload_n hx hb dX5_gainBySwap_23 rfl (lv_at hl 1 rfl) ?_
  refine lv_iload_n hx hb dX5_gainBySwap_24 rfl (lv_at hl 3 rfl) ?_
  obtain ⟨w12, ew12, hf⟩ := st_bd hf
  obtain ⟨r13, M14⟩ := w12
  replace hf := st_u2 hf
  refine q_calli (q_runV (As := [.int p1]) (rest := [.int r10]) hE hH (tz_X5_gainOf l X (hf := ew12)) kv_X5_84 qk_60 (by decide) rfl hl.1 rfl (Nat.le_of_ble_eq_true rfl) dX5_gainBySwap_25) hH (fun H locs hH => ?_)
  refine lv_iadd hx hb dX5_gainBySwap_28 ?_
  refine lv_topi (fun x15 ex15 => ?_)
  replace hf := st_lt hf ex15
  refine lv_istore (lv' := [(4, .int x15), (3, .int x7), (0, .ref (X.1 60)), (1, .int p0), (2, .int p1)]) hx hb dX5_gainBySwap_29 hl (by decide) rfl (fun ls hl => ?_)
  refine lv_aload_n hx hb dX5_gainBySwap_31 rfl (lv_at hl 2 rfl) ?_
  refine lv_iload_n hx hb dX5_gainBySwap_32 rfl (lv_at hl 3 rfl) ?_
  refine lv_iload_n hx hb dX5_gainBySwap_33 rfl (lv_at hl 4 rfl) ?_
  obtain ⟨M16, eM16, hf⟩ := st_bd hf
  refine q_callv (q_runV (As := [.int p0, .int p1]) (rest := []) hE hH (tz_X5_exchange l X (hf := eM16)) kv_X5_87 qk_60 (by decide) rfl hl.1 rfl (Nat.le_of_ble_eq_true rfl) dX5_gainBySwap_34) hH (fun H locs hH => ?_)
  refine lv_iload hx hb dX5_gainBySwap_37 (lv_at hl 0 rfl) ?_
  refine lv_iload_n hx hb dX5_gainBySwap_39 rfl (lv_at hl 1 rfl) ?_
  refine lv_isub hx hb dX5_gainBySwap_40 ?_
  replace hf := Option.some.inj hf
  obtain ⟨rfl, rfl⟩ := qi2 hf
  exact pz_reti hE hrt hlk hH dX5_gainBySwap_41

theorem dX5_fullest_0 : decode cX5_fullest 0 = .ok (.aload_n 0, 1) := by decide +kernel
theorem dX5_fullest_1 : decode cX5_fullest 1 = .ok (.iconst (-1), 1) := by decide +kernel
theorem dX5_fullest_2 : decode cX5_fullest 2 = .ok (.invokevirtual 64, 3) := by decide +kernel
theorem dX5_fullest_5 : decode cX5_fullest 5 = .ok (.iconst (-1), 1) := by decide +kernel
theorem dX5_fullest_6 : decode cX5_fullest 6 = .ok (.istore_n 1, 1) := by decide +kernel
theorem dX5_fullest_7 : decode cX5_fullest 7 = .ok (.iconst 0, 1) := by decide +kernel
theorem dX5_fullest_8 : decode cX5_fullest 8 = .ok (.istore_n 2, 1) := by decide +kernel
theorem dX5_fullest_9 : decode cX5_fullest 9 = .ok (.iconst 0, 1) := by decide +kernel
theorem dX5_fullest_10 : decode cX5_fullest 10 = .ok (.istore_n 3, 1) := by decide +kernel
theorem dX5_fullest_11 : decode cX5_fullest 11 = .ok (.iload_n 3, 1) := by decide +kernel
theorem dX5_fullest_12 : decode cX5_fullest 12 = .ok (.bipush 60, 2) := by decide +kernel
theorem dX5_fullest_14 : decode cX5_fullest 14 = .ok (.if_icmp .gt 28, 3) := by decide +kernel
theorem dX5_fullest_17 : decode cX5_fullest 17 = .ok (.aload_n 0, 1) := by decide +kernel
theorem dX5_fullest_18 : decode cX5_fullest 18 = .ok (.getfield 26, 3) := by decide +kernel
theorem dX5_fullest_21 : decode cX5_fullest 21 = .ok (.iload_n 3, 1) := by decide +kernel
theorem dX5_fullest_22 : decode cX5_fullest 22 = .ok (.iaload, 1) := by decide +kernel
theorem dX5_fullest_23 : decode cX5_fullest 23 = .ok (.iload_n 2, 1) := by decide +kernel
theorem dX5_fullest_24 : decode cX5_fullest 24 = .ok (.if_icmp .le 12, 3) := by decide +kernel
theorem dX5_fullest_27 : decode cX5_fullest 27 = .ok (.aload_n 0, 1) := by decide +kernel
theorem dX5_fullest_28 : decode cX5_fullest 28 = .ok (.getfield 26, 3) := by decide +kernel
theorem dX5_fullest_31 : decode cX5_fullest 31 = .ok (.iload_n 3, 1) := by decide +kernel
theorem dX5_fullest_32 : decode cX5_fullest 32 = .ok (.iaload, 1) := by decide +kernel
theorem dX5_fullest_33 : decode cX5_fullest 33 = .ok (.istore_n 2, 1) := by decide +kernel
theorem dX5_fullest_34 : decode cX5_fullest 34 = .ok (.iload_n 3, 1) := by decide +kernel
theorem dX5_fullest_35 : decode cX5_fullest 35 = .ok (.istore_n 1, 1) := by decide +kernel
theorem dX5_fullest_36 : decode cX5_fullest 36 = .ok (.iinc 3 1, 3) := by decide +kernel
theorem dX5_fullest_39 : decode cX5_fullest 39 = .ok (.goto (-28), 3) := by decide +kernel
theorem dX5_fullest_42 : decode cX5_fullest 42 = .ok (.iload_n 1, 1) := by decide +kernel
theorem dX5_fullest_43 : decode cX5_fullest 43 = .ok (.ireturn, 1) := by decide +kernel
set_option maxRecDepth 100000 in
set_option maxHeartbeats 4000000 in
theorem tz_X5_fullest (l : Launch) (X : qX) {M MR : qM} {r0 : Int32} (hf : jTo_fullest M = some (r0, MR)) : q_Met l X yX5_fullest cX5_fullest 4 (some .int) (3) M [.ref (X.1 60)] (q_Qi X r0 MR) := by
  refine q_enter (by decide) (Nat.le_of_ble_eq_true rfl) ?_
  intro p e s m args below meth c hE hrt hlk H locs hH ls hl
  have hx := hE.1
  have hb := hE.2.1
  have hl : lv_has ls 4 [(0, .ref (X.1 60))] := hl
  unfold jTo_fullest at hf
  refine lv_aload_n hx hb dX5_fullest_0 rfl (lv_at hl 0 rfl) ?_
  refine lv_iconst (v := (-1)) hx hb dX5_fullest_1 (by decide) ?_
  obtain ⟨M1, eM1, hf⟩ := st_bd hf
  refine q_callv (q_runV (As := [.int (-1)]) (rest := []) hE hH (tz_X5_rankBesideOthers l X (hf := eM1)) kv_X5_64 qk_60 (by decide) rfl hl.1 rfl (Nat.le_of_ble_eq_true rfl) dX5_fullest_2) hH (fun H locs hH => ?_)
  refine lv_iconst (v := (-1)) hx hb dX5_fullest_5 (by decide) ?_
  refine lv_istore_n (lv' := [(1, .int (-1)), (0, .ref (X.1 60))]) hx hb dX5_fullest_6 rfl hl (by decide) rfl (fun ls hl => ?_)
  refine lv_iconst (v := 0) hx hb dX5_fullest_7 (by decide) ?_
  refine lv_istore_n (lv' := [(2, .int 0), (1, .int (-1)), (0, .ref (X.1 60))]) hx hb dX5_fullest_8 rfl hl (by decide) rfl (fun ls hl => ?_)
  refine lv_iconst (v := 0) hx hb dX5_fullest_9 (by decide) ?_
  refine lv_istore_n (lv' := [(3, .int 0), (2, .int 0), (1, .int (-1)), (0, .ref (X.1 60))]) hx hb dX5_fullest_10 rfl hl (by decide) rfl (fun ls hl => ?_)
  obtain ⟨x5, hlp, hf⟩ := st_bd hf
  have hX : (fun x5 => ∀ (ls : Array Slot) (H : Heap) (locs : List Loc), q_H X M1 s H locs → lv_has ls 4 [(1, .int x5)] → W p l e (q_rm (3)) s m args below meth c H locs 0 0 (MQ below (q_Qi X r0 MR) args s 0 0 (q_A X)) (F0 m 42 ls []) : Int32 → Prop) x5 := by
    intro ls H locs hH hl
    refine lv_iload_n hx hb dX5_fullest_42 rfl (lv_at hl 0 rfl) ?_
    replace hf := Option.some.inj hf
    obtain ⟨rfl, rfl⟩ := qi2 hf
    exact pz_reti hE hrt hlk hH dX5_fullest_43
  clear hf
  have hG := qlp_ind (r := x5) (fun q => qu3 q (fun x2 x3 x4 => ∀ (ls : Array Slot) (H : Heap) (locs : List Loc), q_H X M1 s H locs → lv_has ls 4 [(0, .ref (X.1 60)), (1, .int x2), (2, .int x3), (3, .int x4)] → W p l e (q_rm (3)) s m args below meth c H locs 0 0 (MQ below (q_Qi X r0 MR) args s 0 0 (q_A X)) (F0 m 11 ls []))) (by
      intro q o hf hK1 hK2
      obtain ⟨x2, x3, x4⟩ := q
      replace hf := st_u3 hf
      intro ls H locs hH hl
      refine lv_iload_n hx hb dX5_fullest_11 rfl (lv_at hl 3 rfl) ?_
      refine lv_bipush (v := 60) hx hb dX5_fullest_12 (by decide) ?_
      refine lv_icmp_gt (tgt := 42) hx hb dX5_fullest_14 (by decide) (fun hc => ?_) (fun hc => ?_)
      · replace hf := (if_pos hc).symm.trans hf
        replace hf := hK2 _ (Option.some.inj hf).symm
        subst hf
        exact hX ls H locs hH (lv_sub hl [1] rfl)
      · replace hf := (if_neg hc).symm.trans hf
        refine lv_aload_n hx hb dX5_fullest_17 rfl (lv_at hl 0 rfl) ?_
        refine pz_gS (a := 63) hE hH fr_X5_26 qk_60 (by decide) dX5_fullest_18 ?_
        refine lv_iload_n hx hb dX5_fullest_21 rfl (lv_at hl 3 rfl) ?_
        obtain ⟨v7, ev7, hf⟩ := st_bd hf
        refine pz_iald hE hH qk_63 ev7 dX5_fullest_22 ?_
        refine lv_iload_n hx hb dX5_fullest_23 rfl (lv_at hl 2 rfl) ?_
        obtain ⟨w10, hr, hf⟩ := st_bd hf
        have hJ : qu2 w10 (fun x8 x9 => ∀ (ls : Array Slot) (H : Heap) (locs : List Loc), q_H X M1 s H locs → lv_has ls 4 [(0, .ref (X.1 60)), (1, .int x8), (2, .int x9), (3, .int x4)] → W p l e (q_rm (3)) s m args below meth c H locs 0 0 (MQ below (q_Qi X r0 MR) args s 0 0 (q_A X)) (F0 m 36 ls [])) := by
          obtain ⟨x8, x9⟩ := w10
          replace hf := st_u2 hf
          intro ls H locs hH hl
          obtain ⟨x11, ex11, hf⟩ := st_lty hf
          refine lv_iinc (v := x11) (lv' := [(3, .int x11), (0, .ref (X.1 60)), (1, .int x8), (2, .int x9)]) hx hb dX5_fullest_36 hl (k := 3) rfl (by rw [ex11]; rfl) (by decide) rfl (fun ls hl => ?_)
          refine lv_goto (tgt := 11) hx hb dX5_fullest_39 (by decide) ?_
          exact hK1 _ (Option.some.inj hf).symm ls H locs hH (lv_sub hl [1, 2, 3, 0] rfl)
        clear hf
        replace hf := hr
        refine lv_icmp_le (tgt := 36) hx hb dX5_fullest_24 (by decide) (fun hc => ?_) (fun hc => ?_)
        · replace hf := (if_pos hc).symm.trans hf
          replace hf := Option.some.inj hf
          subst hf
          exact hJ ls H locs hH (lv_sub hl [0, 1, 2, 3] rfl)
        · replace hf := (if_neg hc).symm.trans hf
          refine lv_aload_n hx hb dX5_fullest_27 rfl (lv_at hl 0 rfl) ?_
          refine pz_gS (a := 63) hE hH fr_X5_26 qk_60 (by decide) dX5_fullest_28 ?_
          refine lv_iload_n hx hb dX5_fullest_31 rfl (lv_at hl 3 rfl) ?_
          obtain ⟨v12, ev12, hf⟩ := st_bd hf
          refine pz_iald hE hH qk_63 ev12 dX5_fullest_32 ?_
          refine lv_istore_n (lv' := [(2, .int v12), (0, .ref (X.1 60)), (1, .int x2), (3, .int x4)]) hx hb dX5_fullest_33 rfl hl (by decide) rfl (fun ls hl => ?_)
          refine lv_iload_n hx hb dX5_fullest_34 rfl (lv_at hl 3 rfl) ?_
          refine lv_istore_n (lv' := [(1, .int x4), (2, .int v12), (0, .ref (X.1 60)), (3, .int x4)]) hx hb dX5_fullest_35 rfl hl (by decide) rfl (fun ls hl => ?_)
          replace hf := Option.some.inj hf
          subst hf
          exact hJ ls H locs hH (lv_sub hl [2, 0, 1, 3] rfl)) _ hlp
  exact hG ls H locs hH (lv_sub hl [3, 2, 1, 0] rfl)

theorem dX5_firstWithPlace_0 : decode cX5_firstWithPlace 0 = .ok (.aload_n 0, 1) := by decide +kernel
theorem dX5_firstWithPlace_1 : decode cX5_firstWithPlace 1 = .ok (.iload_n 1, 1) := by decide +kernel
theorem dX5_firstWithPlace_2 : decode cX5_firstWithPlace 2 = .ok (.invokevirtual 64, 3) := by decide +kernel
theorem dX5_firstWithPlace_5 : decode cX5_firstWithPlace 5 = .ok (.iconst 0, 1) := by decide +kernel
theorem dX5_firstWithPlace_6 : decode cX5_firstWithPlace 6 = .ok (.istore_n 2, 1) := by decide +kernel
theorem dX5_firstWithPlace_7 : decode cX5_firstWithPlace 7 = .ok (.iload_n 2, 1) := by decide +kernel
theorem dX5_firstWithPlace_8 : decode cX5_firstWithPlace 8 = .ok (.bipush 60, 2) := by decide +kernel
theorem dX5_firstWithPlace_10 : decode cX5_firstWithPlace 10 = .ok (.if_icmp .gt 24, 3) := by decide +kernel
theorem dX5_firstWithPlace_13 : decode cX5_firstWithPlace 13 = .ok (.aload_n 0, 1) := by decide +kernel
theorem dX5_firstWithPlace_14 : decode cX5_firstWithPlace 14 = .ok (.aload_n 0, 1) := by decide +kernel
theorem dX5_firstWithPlace_15 : decode cX5_firstWithPlace 15 = .ok (.getfield 29, 3) := by decide +kernel
theorem dX5_firstWithPlace_18 : decode cX5_firstWithPlace 18 = .ok (.iload_n 2, 1) := by decide +kernel
theorem dX5_firstWithPlace_19 : decode cX5_firstWithPlace 19 = .ok (.iaload, 1) := by decide +kernel
theorem dX5_firstWithPlace_20 : decode cX5_firstWithPlace 20 = .ok (.invokevirtual 54, 3) := by decide +kernel
theorem dX5_firstWithPlace_23 : decode cX5_firstWithPlace 23 = .ok (.ifCond .eq 5, 3) := by decide +kernel
theorem dX5_firstWithPlace_26 : decode cX5_firstWithPlace 26 = .ok (.iload_n 2, 1) := by decide +kernel
theorem dX5_firstWithPlace_27 : decode cX5_firstWithPlace 27 = .ok (.ireturn, 1) := by decide +kernel
theorem dX5_firstWithPlace_28 : decode cX5_firstWithPlace 28 = .ok (.iinc 2 1, 3) := by decide +kernel
theorem dX5_firstWithPlace_31 : decode cX5_firstWithPlace 31 = .ok (.goto (-24), 3) := by decide +kernel
theorem dX5_firstWithPlace_34 : decode cX5_firstWithPlace 34 = .ok (.iconst (-1), 1) := by decide +kernel
theorem dX5_firstWithPlace_35 : decode cX5_firstWithPlace 35 = .ok (.ireturn, 1) := by decide +kernel
set_option maxRecDepth 100000 in
set_option maxHeartbeats 4000000 in
theorem tz_X5_firstWithPlace (l : Launch) (X : qX) {p0 : Int32} {M MR : qM} {r0 : Int32} (hf : jTo_firstWithPlace p0 M = some (r0, MR)) : q_Met l X yX5_firstWithPlace cX5_firstWithPlace 3 (some .int) (3) M [.ref (X.1 60), .int p0] (q_Qi X r0 MR) := by
  refine q_enter (by decide) (Nat.le_of_ble_eq_true rfl) ?_
  intro p e s m args below meth c hE hrt hlk H locs hH ls hl
  have hx := hE.1
  have hb := hE.2.1
  have hl : lv_has ls 3 [(0, .ref (X.1 60)), (1, .int p0)] := hl
  unfold jTo_firstWithPlace at hf
  refine lv_aload_n hx hb dX5_firstWithPlace_0 rfl (lv_at hl 0 rfl) ?_
  refine lv_iload_n hx hb dX5_firstWithPlace_1 rfl (lv_at hl 1 rfl) ?_
  obtain ⟨M1, eM1, hf⟩ := st_bd hf
  refine q_callv (q_runV (As := [.int p0]) (rest := []) hE hH (tz_X5_rankBesideOthers l X (hf := eM1)) kv_X5_64 qk_60 (by decide) rfl hl.1 rfl (Nat.le_of_ble_eq_true rfl) dX5_firstWithPlace_2) hH (fun H locs hH => ?_)
  refine lv_iconst (v := 0) hx hb dX5_firstWithPlace_5 (by decide) ?_
  refine lv_istore_n (lv' := [(2, .int 0), (0, .ref (X.1 60)), (1, .int p0)]) hx hb dX5_firstWithPlace_6 rfl hl (by decide) rfl (fun ls hl => ?_)
  obtain ⟨r4, hlp, hf⟩ := st_bd hf
  have hX : (fun q0a => qse q0a (fun x3 => ∀ (ls : Array Slot) (H : Heap) (locs : List Loc), q_H X M1 s H locs → lv_has ls 3 [(2, .int x3)] → W p l e (q_rm (3)) s m args below meth c H locs 0 0 (MQ below (q_Qi X r0 MR) args s 0 0 (q_A X)) (F0 m 26 ls [])) (fun (_ : Unit) => ∀ (ls : Array Slot) (H : Heap) (locs : List Loc), q_H X M1 s H locs → lv_has ls 3 [] → W p l e (q_rm (3)) s m args below meth c H locs 0 0 (MQ below (q_Qi X r0 MR) args s 0 0 (q_A X)) (F0 m 34 ls [])) : (Int32 ⊕ Unit) → Prop) r4 := by
    rcases r4 with x3 | r4
    · replace hf := st_seL hf
      intro ls H locs hH hl
      refine lv_iload_n hx hb dX5_firstWithPlace_26 rfl (lv_at hl 0 rfl) ?_
      replace hf := Option.some.inj hf
      obtain ⟨rfl, rfl⟩ := qi2 hf
      exact pz_reti hE hrt hlk hH dX5_firstWithPlace_27
    · replace hf := st_seR hf
      intro ls H locs hH hl
      refine lv_iconst (v := (-1)) hx hb dX5_firstWithPlace_34 (by decide) ?_
      replace hf := Option.some.inj hf
      obtain ⟨rfl, rfl⟩ := qi2 hf
      exact pz_reti hE hrt hlk hH dX5_firstWithPlace_35
  clear hf
  have hG := qlp_ind (r := r4) (fun x2 => ∀ (ls : Array Slot) (H : Heap) (locs : List Loc), q_H X M1 s H locs → lv_has ls 3 [(0, .ref (X.1 60)), (2, .int x2)] → W p l e (q_rm (3)) s m args below meth c H locs 0 0 (MQ below (q_Qi X r0 MR) args s 0 0 (q_A X)) (F0 m 7 ls [])) (by
      intro x2 o hf hK1 hK2
      intro ls H locs hH hl
      refine lv_iload_n hx hb dX5_firstWithPlace_7 rfl (lv_at hl 1 rfl) ?_
      refine lv_bipush (v := 60) hx hb dX5_firstWithPlace_8 (by decide) ?_
      refine lv_icmp_gt (tgt := 34) hx hb dX5_firstWithPlace_10 (by decide) (fun hc => ?_) (fun hc => ?_)
      · replace hf := (if_pos hc).symm.trans hf
        replace hf := hK2 _ (Option.some.inj hf).symm
        subst hf
        exact hX ls H locs hH (lv_sub hl [] rfl)
      · replace hf := (if_neg hc).symm.trans hf
        refine lv_aload_n hx hb dX5_firstWithPlace_13 rfl (lv_at hl 0 rfl) ?_
        refine lv_aload_n hx hb dX5_firstWithPlace_14 rfl (lv_at hl 0 rfl) ?_
        refine pz_gS (a := 64) hE hH fr_X5_29 qk_60 (by decide) dX5_firstWithPlace_15 ?_
        refine lv_iload_n hx hb dX5_firstWithPlace_18 rfl (lv_at hl 1 rfl) ?_
        obtain ⟨v5, ev5, hf⟩ := st_bd hf
        refine pz_iald hE hH qk_64 ev5 dX5_firstWithPlace_19 ?_
        obtain ⟨r6, er6, hf⟩ := st_bd hf
        refine q_calli (q_runV (As := [.int v5]) (rest := []) hE hH (tz_X5_hasBy l X (hf := er6)) kv_X5_54 qk_60 (by decide) rfl hl.1 rfl (Nat.le_of_ble_eq_true rfl) dX5_firstWithPlace_20) hH (fun H locs hH => ?_)
        refine lv_if_eq (tgt := 28) hx hb dX5_firstWithPlace_23 (by decide) (fun hc => ?_) (fun hc => ?_)
        · replace hf := (if_pos hc).symm.trans hf
          obtain ⟨x7, ex7, hf⟩ := st_lty hf
          refine lv_iinc (v := x7) (lv' := [(2, .int x7), (0, .ref (X.1 60))]) hx hb dX5_firstWithPlace_28 hl (k := 1) rfl (by rw [ex7]; rfl) (by decide) rfl (fun ls hl => ?_)
          refine lv_goto (tgt := 7) hx hb dX5_firstWithPlace_31 (by decide) ?_
          exact hK1 _ (Option.some.inj hf).symm ls H locs hH (lv_sub hl [1, 0] rfl)
        · replace hf := (if_neg hc).symm.trans hf
          replace hf := hK2 _ (Option.some.inj hf).symm
          subst hf
          exact hX ls H locs hH (lv_sub hl [1] rfl)) _ hlp
  exact hG ls H locs hH (lv_sub hl [1, 0] rfl)

