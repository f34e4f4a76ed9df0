theorem dX10_openAt_0 : decode cX10_openAt 0 = .ok (.iload_n 1, 1) := by decide +kernel
theorem dX10_openAt_1 : decode cX10_openAt 1 = .ok (.bipush 6, 2) := by decide +kernel
theorem dX10_openAt_3 : decode cX10_openAt 3 = .ok (.if_icmp .lt 18, 3) := by decide +kernel
theorem dX10_openAt_6 : decode cX10_openAt 6 = .ok (.aload_n 0, 1) := by decide +kernel
theorem dX10_openAt_7 : decode cX10_openAt 7 = .ok (.getfield 15, 3) := by decide +kernel
theorem dX10_openAt_10 : decode cX10_openAt 10 = .ok (.aload_n 0, 1) := by decide +kernel
theorem dX10_openAt_11 : decode cX10_openAt 11 = .ok (.getfield 15, 3) := by decide +kernel
theorem dX10_openAt_14 : decode cX10_openAt 14 = .ok (.getfield 45, 3) := by decide +kernel
theorem dX10_openAt_17 : decode cX10_openAt 17 = .ok (.invokevirtual 79, 3) := by decide +kernel
theorem dX10_openAt_20 : decode cX10_openAt 20 = .ok (.ireturn, 1) := by decide +kernel
theorem dX10_openAt_21 : decode cX10_openAt 21 = .ok (.aload_n 0, 1) := by decide +kernel
theorem dX10_openAt_22 : decode cX10_openAt 22 = .ok (.getfield 15, 3) := by decide +kernel
theorem dX10_openAt_25 : decode cX10_openAt 25 = .ok (.dup, 1) := by decide +kernel
theorem dX10_openAt_26 : decode cX10_openAt 26 = .ok (.getfield 45, 3) := by decide +kernel
theorem dX10_openAt_29 : decode cX10_openAt 29 = .ok (.iconst 1, 1) := by decide +kernel
theorem dX10_openAt_30 : decode cX10_openAt 30 = .ok (.iadd, 1) := by decide +kernel
theorem dX10_openAt_31 : decode cX10_openAt 31 = .ok (.putfield 45, 3) := by decide +kernel
theorem dX10_openAt_34 : decode cX10_openAt 34 = .ok (.iconst 1, 1) := by decide +kernel
theorem dX10_openAt_35 : decode cX10_openAt 35 = .ok (.ireturn, 1) := by decide +kernel
set_option maxRecDepth 100000 in
set_option maxHeartbeats 4000000 in
theorem tz_X10_openAt (l : Launch) (X : qX) {p0 : Int32} {M MR : qM} {r0 : Bool} (hf : jWr_openAt p0 M = (r0, MR)) : q_Met l X yX10_openAt cX10_openAt 2 (some .boolean) (2) M [.ref (X.1 4), .int p0] (q_Qi X (b2i r0) MR) := by
  refine q_enter (by decide) (Nat.le_of_ble_eq_true rfl) ?_
  intro p e s m args below meth c hE hrt hlk H locs hH ls hl
  have hx := hE.1
  have hb := hE.2.1
  have hl : lv_has ls 2 [(0, .ref (X.1 4)), (1, .int p0)] := hl
  unfold jWr_openAt at hf
  refine lv_iload_n hx hb dX10_openAt_0 rfl (lv_at hl 1 rfl) ?_
  refine lv_bipush (v := 6) hx hb dX10_openAt_1 (by decide) ?_
  refine lv_icmp_lt (tgt := 21) hx hb dX10_openAt_3 (by decide) (fun hc => ?_) (fun hc => ?_)
  · replace hf := (if_pos hc).symm.trans hf
    refine lv_aload_n hx hb dX10_openAt_21 rfl (lv_at hl 0 rfl) ?_
    refine pz_gS (a := 1) hE hH fr_X10_15 qk_4 (by decide) dX10_openAt_22 ?_
    refine lv_dup hx hb dX10_openAt_25 rfl ?_
    refine pz_gI hE hH fr_X10_45 qk_1 dX10_openAt_26 ?_
    refine lv_iconst (v := 1) hx hb dX10_openAt_29 (by decide) ?_
    refine lv_iadd hx hb dX10_openAt_30 ?_
    obtain ⟨M1, eM1, hf⟩ := st_lty hf
    refine pz_pI hE hH fw_X10_45 qk_1  eM1 dX10_openAt_31 (fun H locs hH => ?_)
    refine lv_iconst (v := 1) hx hb dX10_openAt_34 (by decide) ?_
    obtain ⟨rfl, rfl⟩ := qi2 hf
    exact pz_retz hE hrt hlk hH rfl dX10_openAt_35
  · replace hf := (if_neg hc).symm.trans hf
    refine lv_aload_n hx hb dX10_openAt_6 rfl (lv_at hl 0 rfl) ?_
    refine pz_gS (a := 1) hE hH fr_X10_15 qk_4 (by decide) dX10_openAt_7 ?_
    refine lv_aload_n hx hb dX10_openAt_10 rfl (lv_at hl 0 rfl) ?_
    refine pz_gS (a := 1) hE hH fr_X10_15 qk_4 (by decide) dX10_openAt_11 ?_
    refine pz_gI hE hH fr_X10_45 qk_1 dX10_openAt_14 ?_
    obtain ⟨w2, ew2, hf⟩ := st_lty hf
    obtain ⟨r3, M4⟩ := w2
    replace hf := st_u2 hf
    refine q_calli (q_runV (As := [.int (M.1 1 2)]) (rest := []) hE hH (tz_X4_fail l X (hf := ew2.symm)) kv_X10_79 qk_1 (by decide) rfl hl.1 rfl (Nat.le_of_ble_eq_true rfl) dX10_openAt_17) hH (fun H locs hH => ?_)
    obtain ⟨rfl, rfl⟩ := qi2 hf
    exact pz_retz hE hrt hlk hH rfl dX10_openAt_20

theorem dX10_readAtom_0 : decode cX10_readAtom 0 = .ok (.aload_n 0, 1) := by decide +kernel
theorem dX10_readAtom_1 : decode cX10_readAtom 1 = .ok (.getfield 15, 3) := by decide +kernel
theorem dX10_readAtom_4 : decode cX10_readAtom 4 = .ok (.invokevirtual 37, 3) := by decide +kernel
theorem dX10_readAtom_7 : decode cX10_readAtom 7 = .ok (.istore_n 2, 1) := by decide +kernel
theorem dX10_readAtom_8 : decode cX10_readAtom 8 = .ok (.iload_n 2, 1) := by decide +kernel
theorem dX10_readAtom_9 : decode cX10_readAtom 9 = .ok (.bipush 91, 2) := by decide +kernel
theorem dX10_readAtom_11 : decode cX10_readAtom 11 = .ok (.if_icmp .ne 39, 3) := by decide +kernel
theorem dX10_readAtom_14 : decode cX10_readAtom 14 = .ok (.aload_n 0, 1) := by decide +kernel
theorem dX10_readAtom_15 : decode cX10_readAtom 15 = .ok (.iload_n 1, 1) := by decide +kernel
theorem dX10_readAtom_16 : decode cX10_readAtom 16 = .ok (.invokevirtual 76, 3) := by decide +kernel
theorem dX10_readAtom_19 : decode cX10_readAtom 19 = .ok (.ifCond .eq 29, 3) := by decide +kernel
theorem dX10_readAtom_22 : decode cX10_readAtom 22 = .ok (.aload_n 0, 1) := by decide +kernel
theorem dX10_readAtom_23 : decode cX10_readAtom 23 = .ok (.iload_n 1, 1) := by decide +kernel
theorem dX10_readAtom_24 : decode cX10_readAtom 24 = .ok (.iconst 1, 1) := by decide +kernel
theorem dX10_readAtom_25 : decode cX10_readAtom 25 = .ok (.iadd, 1) := by decide +kernel
theorem dX10_readAtom_26 : decode cX10_readAtom 26 = .ok (.invokevirtual 48, 3) := by decide +kernel
theorem dX10_readAtom_29 : decode cX10_readAtom 29 = .ok (.ifCond .eq 19, 3) := by decide +kernel
theorem dX10_readAtom_32 : decode cX10_readAtom 32 = .ok (.aload_n 0, 1) := by decide +kernel
theorem dX10_readAtom_33 : decode cX10_readAtom 33 = .ok (.getfield 15, 3) := by decide +kernel
theorem dX10_readAtom_36 : decode cX10_readAtom 36 = .ok (.bipush 93, 2) := by decide +kernel
theorem dX10_readAtom_38 : decode cX10_readAtom 38 = .ok (.invokevirtual 41, 3) := by decide +kernel
theorem dX10_readAtom_41 : decode cX10_readAtom 41 = .ok (.ifCond .eq 7, 3) := by decide +kernel
theorem dX10_readAtom_44 : decode cX10_readAtom 44 = .ok (.iconst 1, 1) := by decide +kernel
theorem dX10_readAtom_45 : decode cX10_readAtom 45 = .ok (.goto 4, 3) := by decide +kernel
theorem dX10_readAtom_48 : decode cX10_readAtom 48 = .ok (.iconst 0, 1) := by decide +kernel
theorem dX10_readAtom_49 : decode cX10_readAtom 49 = .ok (.ireturn, 1) := by decide +kernel
theorem dX10_readAtom_50 : decode cX10_readAtom 50 = .ok (.aload_n 0, 1) := by decide +kernel
theorem dX10_readAtom_51 : decode cX10_readAtom 51 = .ok (.getfield 15, 3) := by decide +kernel
theorem dX10_readAtom_54 : decode cX10_readAtom 54 = .ok (.ldc 88, 2) := by decide +kernel
theorem dX10_readAtom_56 : decode cX10_readAtom 56 = .ok (.invokevirtual 90, 3) := by decide +kernel
theorem dX10_readAtom_59 : decode cX10_readAtom 59 = .ok (.istore_n 3, 1) := by decide +kernel
theorem dX10_readAtom_60 : decode cX10_readAtom 60 = .ok (.iload_n 3, 1) := by decide +kernel
theorem dX10_readAtom_61 : decode cX10_readAtom 61 = .ok (.ifCond .lt 27, 3) := by decide +kernel
theorem dX10_readAtom_64 : decode cX10_readAtom 64 = .ok (.aload_n 0, 1) := by decide +kernel
theorem dX10_readAtom_65 : decode cX10_readAtom 65 = .ok (.getfield 15, 3) := by decide +kernel
theorem dX10_readAtom_68 : decode cX10_readAtom 68 = .ok (.dup, 1) := by decide +kernel
theorem dX10_readAtom_69 : decode cX10_readAtom 69 = .ok (.getfield 45, 3) := by decide +kernel
theorem dX10_readAtom_72 : decode cX10_readAtom 72 = .ok (.iconst 1, 1) := by decide +kernel
theorem dX10_readAtom_73 : decode cX10_readAtom 73 = .ok (.iadd, 1) := by decide +kernel
theorem dX10_readAtom_74 : decode cX10_readAtom 74 = .ok (.putfield 45, 3) := by decide +kernel
theorem dX10_readAtom_77 : decode cX10_readAtom 77 = .ok (.aload_n 0, 1) := by decide +kernel
theorem dX10_readAtom_78 : decode cX10_readAtom 78 = .ok (.getfield 9, 3) := by decide +kernel
theorem dX10_readAtom_81 : decode cX10_readAtom 81 = .ok (.bipush 97, 2) := by decide +kernel
theorem dX10_readAtom_83 : decode cX10_readAtom 83 = .ok (.iload_n 3, 1) := by decide +kernel
theorem dX10_readAtom_84 : decode cX10_readAtom 84 = .ok (.invokevirtual 55, 3) := by decide +kernel
theorem dX10_readAtom_87 : decode cX10_readAtom 87 = .ok (.ireturn, 1) := by decide +kernel
theorem dX10_readAtom_88 : decode cX10_readAtom 88 = .ok (.aload_n 0, 1) := by decide +kernel
theorem dX10_readAtom_89 : decode cX10_readAtom 89 = .ok (.getfield 15, 3) := by decide +kernel
theorem dX10_readAtom_92 : decode cX10_readAtom 92 = .ok (.iconst 4, 1) := by decide +kernel
theorem dX10_readAtom_93 : decode cX10_readAtom 93 = .ok (.invokevirtual 94, 3) := by decide +kernel
theorem dX10_readAtom_96 : decode cX10_readAtom 96 = .ok (.istore 4, 2) := by decide +kernel
theorem dX10_readAtom_98 : decode cX10_readAtom 98 = .ok (.iload 4, 2) := by decide +kernel
theorem dX10_readAtom_100 : decode cX10_readAtom 100 = .ok (.iconst (-1), 1) := by decide +kernel
theorem dX10_readAtom_101 : decode cX10_readAtom 101 = .ok (.if_icmp .eq 21, 3) := by decide +kernel
theorem dX10_readAtom_104 : decode cX10_readAtom 104 = .ok (.aload_n 0, 1) := by decide +kernel
theorem dX10_readAtom_105 : decode cX10_readAtom 105 = .ok (.getfield 9, 3) := by decide +kernel
theorem dX10_readAtom_108 : decode cX10_readAtom 108 = .ok (.bipush 48, 2) := by decide +kernel
theorem dX10_readAtom_110 : decode cX10_readAtom 110 = .ok (.iload 4, 2) := by decide +kernel
theorem dX10_readAtom_112 : decode cX10_readAtom 112 = .ok (.invokevirtual 55, 3) := by decide +kernel
theorem dX10_readAtom_115 : decode cX10_readAtom 115 = .ok (.ifCond .eq 7, 3) := by decide +kernel
theorem dX10_readAtom_118 : decode cX10_readAtom 118 = .ok (.iconst 1, 1) := by decide +kernel
theorem dX10_readAtom_119 : decode cX10_readAtom 119 = .ok (.goto 4, 3) := by decide +kernel
theorem dX10_readAtom_122 : decode cX10_readAtom 122 = .ok (.iconst 0, 1) := by decide +kernel
theorem dX10_readAtom_123 : decode cX10_readAtom 123 = .ok (.ireturn, 1) := by decide +kernel
set_option maxRecDepth 100000 in
set_option maxHeartbeats 4000000 in
theorem tzF_X10_readAtom (l : Launch) (X : qX) {rc : Int32 → qM → Option (Bool × qM)} {lvr : Nat} (hlv : 6 ≤ lvr) (hrc : ∀ {p0 : Int32} {M MR : qM} {r0 : Bool}, rc p0 M = some (r0, MR) → q_Met l X yX10_readSum cX10_readSum 4 (some .boolean) (lvr) M [.ref (X.1 4), .int p0] (q_Qi X (b2i r0) MR)) {p0 : Int32} {M MR : qM} {r0 : Bool} (hf : jWr_readAtomF rc p0 M = some (r0, MR)) : q_Met l X yX10_readAtom cX10_readAtom 5 (some .boolean) (lvr + 1) M [.ref (X.1 4), .int p0] (q_Qi X (b2i r0) MR) := by
  refine q_enter (by decide) (Nat.le_of_ble_eq_true rfl) ?_
  intro p e s m args below meth c hE hrt hlk H locs hH ls hl
  have hx := hE.1
  have hb := hE.2.1
  have hl : lv_has ls 5 [(0, .ref (X.1 4)), (1, .int p0)] := hl
  unfold jWr_readAtomF at hf
  refine lv_aload_n hx hb dX10_readAtom_0 rfl (lv_at hl 0 rfl) ?_
  refine pz_gS (a := 1) hE hH fr_X10_15 qk_4 (by decide) dX10_readAtom_1 ?_
  obtain ⟨w1, ew1, hf⟩ := st_bd hf
  obtain ⟨r2, M3⟩ := w1
  replace hf := st_u2 hf
  refine q_calli (q_runV (As := []) (rest := []) hE hH (tz_X4_peek l X (hf := ew1)) kv_X10_37 qk_1 (by omega) rfl hl.1 rfl (Nat.le_of_ble_eq_true rfl) dX10_readAtom_4) hH (fun H locs hH => ?_)
  refine lv_istore_n (lv' := [(2, .int r2), (0, .ref (X.1 4)), (1, .int p0)]) hx hb dX10_readAtom_7 rfl hl (by decide) rfl (fun ls hl => ?_)
  refine lv_iload_n hx hb dX10_readAtom_8 rfl (lv_at hl 0 rfl) ?_
  refine lv_bipush (v := 91) hx hb dX10_readAtom_9 (by decide) ?_
  refine lv_icmp_ne (tgt := 50) hx hb dX10_readAtom_11 (by decide) (fun hc => ?_) (fun hc => ?_)
  · replace hf := (if_neg hc).symm.trans hf
    refine lv_aload_n hx hb dX10_readAtom_50 rfl (lv_at hl 1 rfl) ?_
    refine pz_gS (a := 1) hE hH fr_X10_15 qk_4 (by decide) dX10_readAtom_51 ?_
    refine pz_ldcS 2 hE (by decide) rfl rfl rfl dX10_readAtom_54 ?_
    obtain ⟨w4, ew4, hf⟩ := st_bd hf
    obtain ⟨r5, M6⟩ := w4
    replace hf := st_u2 hf
    refine q_calli (q_runV (As := [.ref (X.2.2.2.2.1 2)]) (rest := []) hE hH (tz_X4_peekAmong l X (by decide) (hf := ew4)) kv_X10_90 qk_1 (by omega) rfl hl.1 rfl (Nat.le_of_ble_eq_true rfl) dX10_readAtom_56) hH (fun H locs hH => ?_)
    refine lv_istore_n (lv' := [(3, .int r5), (2, .int r2), (0, .ref (X.1 4)), (1, .int p0)]) hx hb dX10_readAtom_59 rfl hl (by decide) rfl (fun ls hl => ?_)
    refine lv_iload_n hx hb dX10_readAtom_60 rfl (lv_at hl 0 rfl) ?_
    refine lv_if_lt (tgt := 88) hx hb dX10_readAtom_61 (by decide) (fun hc => ?_) (fun hc => ?_)
    · replace hf := (if_pos hc).symm.trans hf
      refine lv_aload_n hx hb dX10_readAtom_88 rfl (lv_at hl 2 rfl) ?_
      refine pz_gS (a := 1) hE hH fr_X10_15 qk_4 (by decide) dX10_readAtom_89 ?_
      refine lv_iconst (v := 4) hx hb dX10_readAtom_92 (by decide) ?_
      obtain ⟨w7, ew7, hf⟩ := st_bd hf
      obtain ⟨r8, M9⟩ := w7
      replace hf := st_u2 hf
      refine q_calli (q_runV (As := [.int 4]) (rest := []) hE hH (tz_X4_takeNumber l X (hf := ew7)) kv_X10_94 qk_1 (by omega) rfl hl.1 rfl (Nat.le_of_ble_eq_true rfl) dX10_readAtom_93) hH (fun H locs hH => ?_)
      refine lv_istore (lv' := [(4, .int r8), (3, .int r5), (2, .int r2), (0, .ref (X.1 4)), (1, .int p0)]) hx hb dX10_readAtom_96 hl (by decide) rfl (fun ls hl => ?_)
      refine lv_iload hx hb dX10_readAtom_98 (lv_at hl 0 rfl) ?_
      refine lv_iconst (v := (-1)) hx hb dX10_readAtom_100 (by decide) ?_
      obtain ⟨w12, hr, hf⟩ := st_bd hf
      have hJ : qu2 w12 (fun z10 M11 => ∀ (ls : Array Slot) (H : Heap) (locs : List Loc), q_H X M11 s H locs → lv_has ls 5 [] → W p l e (q_rm (lvr + 1)) s m args below meth c H locs 0 0 (MQ below (q_Qi X (b2i r0) MR) args s 0 0 (q_A X)) (F0 m 123 ls [.int (b2i z10)])) := by
        obtain ⟨z10, M11⟩ := w12
        replace hf := st_u2 hf
        intro ls H locs hH hl
        replace hf := Option.some.inj hf
        obtain ⟨rfl, rfl⟩ := qi2 hf
        exact pz_retz hE hrt hlk hH rfl dX10_readAtom_123
      clear hf
      replace hf := hr
      refine lv_icmp_eq (tgt := 122) hx hb dX10_readAtom_101 (by decide) (fun hc => ?_) (fun hc => ?_)
      · replace hf := (if_pos hc).symm.trans hf
        refine lv_iconst (v := 0) hx hb dX10_readAtom_122 (by decide) ?_
        replace hf := Option.some.inj hf
        subst hf
        exact hJ ls H locs hH (lv_sub hl [] rfl)
      · replace hf := (if_neg hc).symm.trans hf
        refine lv_aload_n hx hb dX10_readAtom_104 rfl (lv_at hl 3 rfl) ?_
        obtain ⟨a13, ea13, hf⟩ := st_bd hf
        refine pz_gR hE hH fr_X10_9 qk_4 ea13 dX10_readAtom_105 (fun ha13 => ?_)
        replace ha13 : q_way a13 = true := ha13
        refine lv_bipush (v := 48) hx hb dX10_readAtom_108 (by decide) ?_
        refine lv_iload hx hb dX10_readAtom_110 (lv_at hl 0 rfl) ?_
        obtain ⟨w14, ew14, hf⟩ := st_bd hf
        obtain ⟨r15, M16⟩ := w14
        replace hf := st_u2 hf
        refine q_calli (q_runV (As := [.int 48, .int r8]) (rest := []) hE hH (tz_X9_add l X ha13 (hf := ew14)) kv_X10_55 (q_way_0 ha13) (by omega) rfl hl.1 rfl (Nat.le_of_ble_eq_true rfl) dX10_readAtom_112) hH (fun H locs hH => ?_)
        refine lv_if_eq (tgt := 122) hx hb dX10_readAtom_115 (by decide) (fun hc => ?_) (fun hc => ?_)
        · replace hf := (if_pos hc).symm.trans hf
          refine lv_iconst (v := 0) hx hb dX10_readAtom_122 (by decide) ?_
          replace hf := Option.some.inj hf
          subst hf
          exact hJ ls H locs hH (lv_sub hl [] rfl)
        · replace hf := (if_neg hc).symm.trans hf
          refine lv_iconst (v := 1) hx hb dX10_readAtom_118 (by decide) ?_
          refine lv_goto (tgt := 123) hx hb dX10_readAtom_119 (by decide) ?_
          replace hf := Option.some.inj hf
          subst hf
          exact hJ ls H locs hH (lv_sub hl [] rfl)
    · replace hf := (if_neg hc).symm.trans hf
      refine lv_aload_n hx hb dX10_readAtom_64 rfl (lv_at hl 2 rfl) ?_
      refine pz_gS (a := 1) hE hH fr_X10_15 qk_4 (by decide) dX10_readAtom_65 ?_
      refine lv_dup hx hb dX10_readAtom_68 rfl ?_
      refine pz_gI hE hH fr_X10_45 qk_1 dX10_readAtom_69 ?_
      refine lv_iconst (v := 1) hx hb dX10_readAtom_72 (by decide) ?_
      refine lv_iadd hx hb dX10_readAtom_73 ?_
      obtain ⟨M17, eM17, hf⟩ := st_lty hf
      refine pz_pI hE hH fw_X10_45 qk_1  eM17 dX10_readAtom_74 (fun H locs hH => ?_)
      refine lv_aload_n hx hb dX10_readAtom_77 rfl (lv_at hl 2 rfl) ?_
      obtain ⟨a18, ea18, hf⟩ := st_bd hf
      refine pz_gR hE hH fr_X10_9 qk_4 ea18 dX10_readAtom_78 (fun ha18 => ?_)
      replace ha18 : q_way a18 = true := ha18
      refine lv_bipush (v := 97) hx hb dX10_readAtom_81 (by decide) ?_
      refine lv_iload_n hx hb dX10_readAtom_83 rfl (lv_at hl 0 rfl) ?_
      obtain ⟨w19, ew19, hf⟩ := st_bd hf
      obtain ⟨r20, M21⟩ := w19
      replace hf := st_u2 hf
      refine q_calli (q_runV (As := [.int 97, .int r5]) (rest := []) hE hH (tz_X9_add l X ha18 (hf := ew19)) kv_X10_55 (q_way_0 ha18) (by omega) rfl hl.1 rfl (Nat.le_of_ble_eq_true rfl) dX10_readAtom_84) hH (fun H locs hH => ?_)
      replace hf := Option.some.inj hf
      obtain ⟨rfl, rfl⟩ := qi2 hf
      exact pz_retz hE hrt hlk hH rfl dX10_readAtom_87
  · replace hf := (if_pos hc).symm.trans hf
    refine lv_aload_n hx hb dX10_readAtom_14 rfl (lv_at hl 1 rfl) ?_
    refine lv_iload_n hx hb dX10_readAtom_15 rfl (lv_at hl 2 rfl) ?_
    obtain ⟨w22, ew22, hf⟩ := st_lty hf
    obtain ⟨r23, M24⟩ := w22
    replace hf := st_u2 hf
    refine q_calli (q_runV (As := [.int p0]) (rest := []) hE hH (tz_X10_openAt l X (hf := ew22.symm)) kv_X10_76 qk_4 (by omega) rfl hl.1 rfl (Nat.le_of_ble_eq_true rfl) dX10_readAtom_16) hH (fun H locs hH => ?_)
    obtain ⟨w27, hr, hf⟩ := st_bd hf
    have hJ : qu2 w27 (fun z25 M26 => ∀ (ls : Array Slot) (H : Heap) (locs : List Loc), q_H X M26 s H locs → lv_has ls 5 [] → W p l e (q_rm (lvr + 1)) s m args below meth c H locs 0 0 (MQ below (q_Qi X (b2i r0) MR) args s 0 0 (q_A X)) (F0 m 49 ls [.int (b2i z25)])) := by
      obtain ⟨z25, M26⟩ := w27
      replace hf := st_u2 hf
      intro ls H locs hH hl
      replace hf := Option.some.inj hf
      obtain ⟨rfl, rfl⟩ := qi2 hf
      exact pz_retz hE hrt hlk hH rfl dX10_readAtom_49
    clear hf
    replace hf := hr
    refine lv_if_eq (tgt := 48) hx hb dX10_readAtom_19 (by decide) (fun hc => ?_) (fun hc => ?_)
    · replace hf := (if_pos hc).symm.trans hf
      refine lv_iconst (v := 0) hx hb dX10_readAtom_48 (by decide) ?_
      replace hf := Option.some.inj hf
      subst hf
      exact hJ ls H locs hH (lv_sub hl [] rfl)
    · replace hf := (if_neg hc).symm.trans hf
      refine lv_aload_n hx hb dX10_readAtom_22 rfl (lv_at hl 1 rfl) ?_
      refine lv_iload_n hx hb dX10_readAtom_23 rfl (lv_at hl 2 rfl) ?_
      refine lv_iconst (v := 1) hx hb dX10_readAtom_24 (by decide) ?_
      refine lv_iadd hx hb dX10_readAtom_25 ?_
      obtain ⟨w28, ew28, hf⟩ := st_bd hf
      obtain ⟨r29, M30⟩ := w28
      replace hf := st_u2 hf
      refine q_calli (q_runV (As := [.int (p0 + 1)]) (rest := []) hE hH (hrc ew28) kv_X10_48 qk_4 (by omega) rfl hl.1 rfl (Nat.le_of_ble_eq_true rfl) dX10_readAtom_26) hH (fun H locs hH => ?_)
      refine lv_if_eq (tgt := 48) hx hb dX10_readAtom_29 (by decide) (fun hc => ?_) (fun hc => ?_)
      · replace hf := (if_pos hc).symm.trans hf
        refine lv_iconst (v := 0) hx hb dX10_readAtom_48 (by decide) ?_
        replace hf := Option.some.inj hf
        subst hf
        exact hJ ls H locs hH (lv_sub hl [] rfl)
      · replace hf := (if_neg hc).symm.trans hf
        refine lv_aload_n hx hb dX10_readAtom_32 rfl (lv_at hl 1 rfl) ?_
        refine pz_gS (a := 1) hE hH fr_X10_15 qk_4 (by decide) dX10_readAtom_33 ?_
        refine lv_bipush (v := 93) hx hb dX10_readAtom_36 (by decide) ?_
        obtain ⟨w31, ew31, hf⟩ := st_bd hf
        obtain ⟨r32, M33⟩ := w31
        replace hf := st_u2 hf
        refine q_calli (q_runV (As := [.int 93]) (rest := []) hE hH (tz_X4_take l X (hf := ew31)) kv_X10_41 qk_1 (by omega) rfl hl.1 rfl (Nat.le_of_ble_eq_true rfl) dX10_readAtom_38) hH (fun H locs hH => ?_)
        refine lv_if_eq (tgt := 48) hx hb dX10_readAtom_41 (by decide) (fun hc => ?_) (fun hc => ?_)
        · replace hf := (if_pos hc).symm.trans hf
          refine lv_iconst (v := 0) hx hb dX10_readAtom_48 (by decide) ?_
          replace hf := Option.some.inj hf
          subst hf
          exact hJ ls H locs hH (lv_sub hl [] rfl)
        · replace hf := (if_neg hc).symm.trans hf
          refine lv_iconst (v := 1) hx hb dX10_readAtom_44 (by decide) ?_
          refine lv_goto (tgt := 49) hx hb dX10_readAtom_45 (by decide) ?_
          replace hf := Option.some.inj hf
          subst hf
          exact hJ ls H locs hH (lv_sub hl [] rfl)

theorem dX10_readTerm_0 : decode cX10_readTerm 0 = .ok (.aload_n 0, 1) := by decide +kernel
theorem dX10_readTerm_1 : decode cX10_readTerm 1 = .ok (.iload_n 1, 1) := by decide +kernel
theorem dX10_readTerm_2 : decode cX10_readTerm 2 = .ok (.invokevirtual 85, 3) := by decide +kernel
theorem dX10_readTerm_5 : decode cX10_readTerm 5 = .ok (.istore_n 2, 1) := by decide +kernel
theorem dX10_readTerm_6 : decode cX10_readTerm 6 = .ok (.aload_n 0, 1) := by decide +kernel
theorem dX10_readTerm_7 : decode cX10_readTerm 7 = .ok (.getfield 15, 3) := by decide +kernel
theorem dX10_readTerm_10 : decode cX10_readTerm 10 = .ok (.invokevirtual 37, 3) := by decide +kernel
theorem dX10_readTerm_13 : decode cX10_readTerm 13 = .ok (.istore_n 3, 1) := by decide +kernel
theorem dX10_readTerm_14 : decode cX10_readTerm 14 = .ok (.iload_n 2, 1) := by decide +kernel
theorem dX10_readTerm_15 : decode cX10_readTerm 15 = .ok (.ifCond .eq 82, 3) := by decide +kernel
theorem dX10_readTerm_18 : decode cX10_readTerm 18 = .ok (.iload_n 3, 1) := by decide +kernel
theorem dX10_readTerm_19 : decode cX10_readTerm 19 = .ok (.bipush 42, 2) := by decide +kernel
theorem dX10_readTerm_21 : decode cX10_readTerm 21 = .ok (.if_icmp .eq 9, 3) := by decide +kernel
theorem dX10_readTerm_24 : decode cX10_readTerm 24 = .ok (.iload_n 3, 1) := by decide +kernel
theorem dX10_readTerm_25 : decode cX10_readTerm 25 = .ok (.bipush 47, 2) := by decide +kernel
theorem dX10_readTerm_27 : decode cX10_readTerm 27 = .ok (.if_icmp .ne 70, 3) := by decide +kernel
theorem dX10_readTerm_30 : decode cX10_readTerm 30 = .ok (.aload_n 0, 1) := by decide +kernel
theorem dX10_readTerm_31 : decode cX10_readTerm 31 = .ok (.getfield 15, 3) := by decide +kernel
theorem dX10_readTerm_34 : decode cX10_readTerm 34 = .ok (.getfield 45, 3) := by decide +kernel
theorem dX10_readTerm_37 : decode cX10_readTerm 37 = .ok (.aload_n 0, 1) := by decide +kernel
theorem dX10_readTerm_38 : decode cX10_readTerm 38 = .ok (.getfield 15, 3) := by decide +kernel
theorem dX10_readTerm_41 : decode cX10_readTerm 41 = .ok (.getfield 70, 3) := by decide +kernel
theorem dX10_readTerm_44 : decode cX10_readTerm 44 = .ok (.if_icmp .ge 53, 3) := by decide +kernel
theorem dX10_readTerm_47 : decode cX10_readTerm 47 = .ok (.aload_n 0, 1) := by decide +kernel
theorem dX10_readTerm_48 : decode cX10_readTerm 48 = .ok (.getfield 15, 3) := by decide +kernel
theorem dX10_readTerm_51 : decode cX10_readTerm 51 = .ok (.dup, 1) := by decide +kernel
theorem dX10_readTerm_52 : decode cX10_readTerm 52 = .ok (.getfield 45, 3) := by decide +kernel
theorem dX10_readTerm_55 : decode cX10_readTerm 55 = .ok (.iconst 1, 1) := by decide +kernel
theorem dX10_readTerm_56 : decode cX10_readTerm 56 = .ok (.iadd, 1) := by decide +kernel
theorem dX10_readTerm_57 : decode cX10_readTerm 57 = .ok (.putfield 45, 3) := by decide +kernel
theorem dX10_readTerm_60 : decode cX10_readTerm 60 = .ok (.aload_n 0, 1) := by decide +kernel
theorem dX10_readTerm_61 : decode cX10_readTerm 61 = .ok (.iload_n 1, 1) := by decide +kernel
theorem dX10_readTerm_62 : decode cX10_readTerm 62 = .ok (.invokevirtual 85, 3) := by decide +kernel
theorem dX10_readTerm_65 : decode cX10_readTerm 65 = .ok (.ifCond .eq 19, 3) := by decide +kernel
theorem dX10_readTerm_68 : decode cX10_readTerm 68 = .ok (.aload_n 0, 1) := by decide +kernel
theorem dX10_readTerm_69 : decode cX10_readTerm 69 = .ok (.getfield 9, 3) := by decide +kernel
theorem dX10_readTerm_72 : decode cX10_readTerm 72 = .ok (.iload_n 3, 1) := by decide +kernel
theorem dX10_readTerm_73 : decode cX10_readTerm 73 = .ok (.iconst 0, 1) := by decide +kernel
theorem dX10_readTerm_74 : decode cX10_readTerm 74 = .ok (.invokevirtual 55, 3) := by decide +kernel
theorem dX10_readTerm_77 : decode cX10_readTerm 77 = .ok (.ifCond .eq 7, 3) := by decide +kernel
theorem dX10_readTerm_80 : decode cX10_readTerm 80 = .ok (.iconst 1, 1) := by decide +kernel
theorem dX10_readTerm_81 : decode cX10_readTerm 81 = .ok (.goto 4, 3) := by decide +kernel
theorem dX10_readTerm_84 : decode cX10_readTerm 84 = .ok (.iconst 0, 1) := by decide +kernel
theorem dX10_readTerm_85 : decode cX10_readTerm 85 = .ok (.istore_n 2, 1) := by decide +kernel
theorem dX10_readTerm_86 : decode cX10_readTerm 86 = .ok (.aload_n 0, 1) := by decide +kernel
theorem dX10_readTerm_87 : decode cX10_readTerm 87 = .ok (.getfield 15, 3) := by decide +kernel
theorem dX10_readTerm_90 : decode cX10_readTerm 90 = .ok (.invokevirtual 37, 3) := by decide +kernel
theorem dX10_readTerm_93 : decode cX10_readTerm 93 = .ok (.istore_n 3, 1) := by decide +kernel
theorem dX10_readTerm_94 : decode cX10_readTerm 94 = .ok (.goto (-80), 3) := by decide +kernel
theorem dX10_readTerm_97 : decode cX10_readTerm 97 = .ok (.iload_n 2, 1) := by decide +kernel
theorem dX10_readTerm_98 : decode cX10_readTerm 98 = .ok (.ireturn, 1) := by decide +kernel
set_option maxRecDepth 100000 in
set_option maxHeartbeats 4000000 in
theorem tzF_X10_readTerm (l : Launch) (X : qX) {rc : Int32 → qM → Option (Bool × qM)} {lvr : Nat} (hlv : 6 ≤ lvr) (hrc : ∀ {p0 : Int32} {M MR : qM} {r0 : Bool}, rc p0 M = some (r0, MR) → q_Met l X yX10_readSum cX10_readSum 4 (some .boolean) (lvr) M [.ref (X.1 4), .int p0] (q_Qi X (b2i r0) MR)) {p0 : Int32} {M MR : qM} {r0 : Bool} (hf : jWr_readTermF rc p0 M = some (r0, MR)) : q_Met l X yX10_readTerm cX10_readTerm 4 (some .boolean) (lvr + 2) M [.ref (X.1 4), .int p0] (q_Qi X (b2i r0) MR) := by
  refine q_enter (by decide) (Nat.le_of_ble_eq_true rfl) ?_
  intro p e s m args below meth c hE hrt hlk H locs hH ls hl
  have hx := hE.1
  have hb := hE.2.1
  have hl : lv_has ls 4 [(0, .ref (X.1 4)), (1, .int p0)] := hl
  unfold jWr_readTermF at hf
  refine lv_aload_n hx hb dX10_readTerm_0 rfl (lv_at hl 0 rfl) ?_
  refine lv_iload_n hx hb dX10_readTerm_1 rfl (lv_at hl 1 rfl) ?_
  obtain ⟨w1, ew1, hf⟩ := st_bd hf
  obtain ⟨r2, M3⟩ := w1
  replace hf := st_u2 hf
  refine q_calli (q_runV (As := [.int p0]) (rest := []) hE hH (tzF_X10_readAtom l X hlv hrc (hf := ew1)) kv_X10_85 qk_4 (by omega) rfl hl.1 rfl (Nat.le_of_ble_eq_true rfl) dX10_readTerm_2) hH (fun H locs hH => ?_)
  refine lv_istore_n (lv' := [(2, .int (b2i r2)), (0, .ref (X.1 4)), (1, .int p0)]) hx hb dX10_readTerm_5 rfl hl (by decide) rfl (fun ls hl => ?_)
  refine lv_aload_n hx hb dX10_readTerm_6 rfl (lv_at hl 1 rfl) ?_
  refine pz_gS (a := 1) hE hH fr_X10_15 qk_4 (by decide) dX10_readTerm_7 ?_
  obtain ⟨w4, ew4, hf⟩ := st_bd hf
  obtain ⟨r5, M6⟩ := w4
  replace hf := st_u2 hf
  refine q_calli (q_runV (As := []) (rest := []) hE hH (tz_X4_peek l X (hf := ew4)) kv_X10_37 qk_1 (by omega) rfl hl.1 rfl (Nat.le_of_ble_eq_true rfl) dX10_readTerm_10) hH (fun H locs hH => ?_)
  refine lv_istore_n (lv' := [(3, .int r5), (2, .int (b2i r2)), (0, .ref (X.1 4)), (1, .int p0)]) hx hb dX10_readTerm_13 rfl hl (by decide) rfl (fun ls hl => ?_)
  obtain ⟨r12, hlp, hf⟩ := st_bd hf
  have hX : (fun q0 => qu2 q0 (fun z10 M11 => ∀ (ls : Array Slot) (H : Heap) (locs : List Loc), q_H X M11 s H locs → lv_has ls 4 [(2, .int (b2i z10))] → W p l e (q_rm (lvr + 2)) s m args below meth c H locs 0 0 (MQ below (q_Qi X (b2i r0) MR) args s 0 0 (q_A X)) (F0 m 97 ls [])) : (Bool × qM) → Prop) r12 := by
    obtain ⟨z10, M11⟩ := r12
    replace hf := st_u2 hf
    intro ls H locs hH hl
    refine lv_iload_n hx hb dX10_readTerm_97 rfl (lv_at hl 0 rfl) ?_
    replace hf := Option.some.inj hf
    obtain ⟨rfl, rfl⟩ := qi2 hf
    exact pz_retz hE hrt hlk hH rfl dX10_readTerm_98
  clear hf
  have hG := qlp_ind (r := r12) (fun q => qu3 q (fun z7 x8 M9 => ∀ (ls : Array Slot) (H : Heap) (locs : List Loc), q_H X M9 s H locs → lv_has ls 4 [(0, .ref (X.1 4)), (1, .int p0), (2, .int (b2i z7)), (3, .int x8)] → W p l e (q_rm (lvr + 2)) s m args below meth c H locs 0 0 (MQ below (q_Qi X (b2i r0) MR) args s 0 0 (q_A X)) (F0 m 14 ls []))) (by
      intro q o hf hK1 hK2
      obtain ⟨z7, x8, M9⟩ := q
      replace hf := st_u3 hf
      intro ls H locs hH hl
      refine lv_iload_n hx hb dX10_readTerm_14 rfl (lv_at hl 2 rfl) ?_
      refine lv_if_eq (tgt := 97) hx hb dX10_readTerm_15 (by decide) (fun hc => ?_) (fun hc => ?_)
      · replace hf := (if_pos hc).symm.trans hf
        replace hf := hK2 _ (Option.some.inj hf).symm
        subst hf
        exact hX ls H locs hH (lv_sub hl [2] rfl)
      · replace hf := (if_neg hc).symm.trans hf
        refine lv_iload_n hx hb dX10_readTerm_18 rfl (lv_at hl 3 rfl) ?_
        refine lv_bipush (v := 42) hx hb dX10_readTerm_19 (by decide) ?_
        refine lv_icmp_eq (tgt := 30) hx hb dX10_readTerm_21 (by decide) (fun hc => ?_) (fun hc => ?_)
        · replace hf := (if_pos hc).symm.trans hf
          refine lv_aload_n hx hb dX10_readTerm_30 rfl (lv_at hl 0 rfl) ?_
          refine pz_gS (a := 1) hE hH fr_X10_15 qk_4 (by decide) dX10_readTerm_31 ?_
          refine pz_gI hE hH fr_X10_45 qk_1 dX10_readTerm_34 ?_
          refine lv_aload_n hx hb dX10_readTerm_37 rfl (lv_at hl 0 rfl) ?_
          refine pz_gS (a := 1) hE hH fr_X10_15 qk_4 (by decide) dX10_readTerm_38 ?_
          refine pz_gI hE hH fr_X10_70 qk_1 dX10_readTerm_41 ?_
          refine lv_icmp_ge (tgt := 97) hx hb dX10_readTerm_44 (by decide) (fun hc => ?_) (fun hc => ?_)
          · replace hf := (if_pos hc).symm.trans hf
            replace hf := hK2 _ (Option.some.inj hf).symm
            subst hf
            exact hX ls H locs hH (lv_sub hl [2] rfl)
          · replace hf := (if_neg hc).symm.trans hf
            refine lv_aload_n hx hb dX10_readTerm_47 rfl (lv_at hl 0 rfl) ?_
            refine pz_gS (a := 1) hE hH fr_X10_15 qk_4 (by decide) dX10_readTerm_48 ?_
            refine lv_dup hx hb dX10_readTerm_51 rfl ?_
            refine pz_gI hE hH fr_X10_45 qk_1 dX10_readTerm_52 ?_
            refine lv_iconst (v := 1) hx hb dX10_readTerm_55 (by decide) ?_
            refine lv_iadd hx hb dX10_readTerm_56 ?_
            obtain ⟨M13, eM13, hf⟩ := st_lty hf
            refine pz_pI hE hH fw_X10_45 qk_1  eM13 dX10_readTerm_57 (fun H locs hH => ?_)
            refine lv_aload_n hx hb dX10_readTerm_60 rfl (lv_at hl 0 rfl) ?_
            refine lv_iload_n hx hb dX10_readTerm_61 rfl (lv_at hl 1 rfl) ?_
            obtain ⟨w14, ew14, hf⟩ := st_bd hf
            obtain ⟨r15, M16⟩ := w14
            replace hf := st_u2 hf
            refine q_calli (q_runV (As := [.int p0]) (rest := []) hE hH (tzF_X10_readAtom l X hlv hrc (hf := ew14)) kv_X10_85 qk_4 (by omega) rfl hl.1 rfl (Nat.le_of_ble_eq_true rfl) dX10_readTerm_62) hH (fun H locs hH => ?_)
            obtain ⟨w19, hr, hf⟩ := st_bd hf
            have hJ : qu2 w19 (fun z17 M18 => ∀ (ls : Array Slot) (H : Heap) (locs : List Loc), q_H X M18 s H locs → lv_has ls 4 [(0, .ref (X.1 4)), (1, .int p0)] → W p l e (q_rm (lvr + 2)) s m args below meth c H locs 0 0 (MQ below (q_Qi X (b2i r0) MR) args s 0 0 (q_A X)) (F0 m 85 ls [.int (b2i z17)])) := by
              obtain ⟨z17, M18⟩ := w19
              replace hf := st_u2 hf
              intro ls H locs hH hl
              refine lv_istore_n (lv' := [(2, .int (b2i z17)), (0, .ref (X.1 4)), (1, .int p0)]) hx hb dX10_readTerm_85 rfl hl (by decide) rfl (fun ls hl => ?_)
              refine lv_aload_n hx hb dX10_readTerm_86 rfl (lv_at hl 1 rfl) ?_
              refine pz_gS (a := 1) hE hH fr_X10_15 qk_4 (by decide) dX10_readTerm_87 ?_
              obtain ⟨w20, ew20, hf⟩ := st_bd hf
              obtain ⟨r21, M22⟩ := w20
              replace hf := st_u2 hf
              refine q_calli (q_runV (As := []) (rest := []) hE hH (tz_X4_peek l X (hf := ew20)) kv_X10_37 qk_1 (by omega) rfl hl.1 rfl (Nat.le_of_ble_eq_true rfl) dX10_readTerm_90) hH (fun H locs hH => ?_)
              refine lv_istore_n (lv' := [(3, .int r21), (2, .int (b2i z17)), (0, .ref (X.1 4)), (1, .int p0)]) hx hb dX10_readTerm_93 rfl hl (by decide) rfl (fun ls hl => ?_)
              refine lv_goto (tgt := 14) hx hb dX10_readTerm_94 (by decide) ?_
              exact hK1 _ (Option.some.inj hf).symm ls H locs hH (lv_sub hl [2, 3, 1, 0] rfl)
            clear hf
            replace hf := hr
            refine lv_if_eq (tgt := 84) hx hb dX10_readTerm_65 (by decide) (fun hc => ?_) (fun hc => ?_)
            · replace hf := (if_pos hc).symm.trans hf
              refine lv_iconst (v := 0) hx hb dX10_readTerm_84 (by decide) ?_
              replace hf := Option.some.inj hf
              subst hf
              exact hJ ls H locs hH (lv_sub hl [0, 1] rfl)
            · replace hf := (if_neg hc).symm.trans hf
              refine lv_aload_n hx hb dX10_readTerm_68 rfl (lv_at hl 0 rfl) ?_
              obtain ⟨a23, ea23, hf⟩ := st_bd hf
              refine pz_gR hE hH fr_X10_9 qk_4 ea23 dX10_readTerm_69 (fun ha23 => ?_)
              replace ha23 : q_way a23 = true := ha23
              refine lv_iload_n hx hb dX10_readTerm_72 rfl (lv_at hl 3 rfl) ?_
              refine lv_iconst (v := 0) hx hb dX10_readTerm_73 (by decide) ?_
              obtain ⟨w24, ew24, hf⟩ := st_bd hf
              obtain ⟨r25, M26⟩ := w24
              replace hf := st_u2 hf
              refine q_calli (q_runV (As := [.int x8, .int 0]) (rest := []) hE hH (tz_X9_add l X ha23 (hf := ew24)) kv_X10_55 (q_way_0 ha23) (by omega) rfl hl.1 rfl (Nat.le_of_ble_eq_true rfl) dX10_readTerm_74) hH (fun H locs hH => ?_)
              refine lv_if_eq (tgt := 84) hx hb dX10_readTerm_77 (by decide) (fun hc => ?_) (fun hc => ?_)
              · replace hf := (if_pos hc).symm.trans hf
                refine lv_iconst (v := 0) hx hb dX10_readTerm_84 (by decide) ?_
                replace hf := Option.some.inj hf
                subst hf
                exact hJ ls H locs hH (lv_sub hl [0, 1] rfl)
              · replace hf := (if_neg hc).symm.trans hf
                refine lv_iconst (v := 1) hx hb dX10_readTerm_80 (by decide) ?_
                refine lv_goto (tgt := 85) hx hb dX10_readTerm_81 (by decide) ?_
                replace hf := Option.some.inj hf
                subst hf
                exact hJ ls H locs hH (lv_sub hl [0, 1] rfl)
        · replace hf := (if_neg hc).symm.trans hf
          refine lv_iload_n hx hb dX10_readTerm_24 rfl (lv_at hl 3 rfl) ?_
          refine lv_bipush (v := 47) hx hb dX10_readTerm_25 (by decide) ?_
          refine lv_icmp_ne (tgt := 97) hx hb dX10_readTerm_27 (by decide) (fun hc => ?_) (fun hc => ?_)
          · replace hf := (if_neg hc).symm.trans hf
            replace hf := hK2 _ (Option.some.inj hf).symm
            subst hf
            exact hX ls H locs hH (lv_sub hl [2] rfl)
          · replace hf := (if_pos hc).symm.trans hf
            refine lv_aload_n hx hb dX10_readTerm_30 rfl (lv_at hl 0 rfl) ?_
            refine pz_gS (a := 1) hE hH fr_X10_15 qk_4 (by decide) dX10_readTerm_31 ?_
            refine pz_gI hE hH fr_X10_45 qk_1 dX10_readTerm_34 ?_
            refine lv_aload_n hx hb dX10_readTerm_37 rfl (lv_at hl 0 rfl) ?_
            refine pz_gS (a := 1) hE hH fr_X10_15 qk_4 (by decide) dX10_readTerm_38 ?_
            refine pz_gI hE hH fr_X10_70 qk_1 dX10_readTerm_41 ?_
            refine lv_icmp_ge (tgt := 97) hx hb dX10_readTerm_44 (by decide) (fun hc => ?_) (fun hc => ?_)
            · replace hf := (if_pos hc).symm.trans hf
              replace hf := hK2 _ (Option.some.inj hf).symm
              subst hf
              exact hX ls H locs hH (lv_sub hl [2] rfl)
            · replace hf := (if_neg hc).symm.trans hf
              refine lv_aload_n hx hb dX10_readTerm_47 rfl (lv_at hl 0 rfl) ?_
              refine pz_gS (a := 1) hE hH fr_X10_15 qk_4 (by decide) dX10_readTerm_48 ?_
              refine lv_dup hx hb dX10_readTerm_51 rfl ?_
              refine pz_gI hE hH fr_X10_45 qk_1 dX10_readTerm_52 ?_
              refine lv_iconst (v := 1) hx hb dX10_readTerm_55 (by decide) ?_
              refine lv_iadd hx hb dX10_readTerm_56 ?_
              obtain ⟨M27, eM27, hf⟩ := st_lty hf
              refine pz_pI hE hH fw_X10_45 qk_1  eM27 dX10_readTerm_57 (fun H locs hH => ?_)
              refine lv_aload_n hx hb dX10_readTerm_60 rfl (lv_at hl 0 rfl) ?_
              refine lv_iload_n hx hb dX10_readTerm_61 rfl (lv_at hl 1 rfl) ?_
              obtain ⟨w28, ew28, hf⟩ := st_bd hf
              obtain ⟨r29, M30⟩ := w28
              replace hf := st_u2 hf
              refine q_calli (q_runV (As := [.int p0]) (rest := []) hE hH (tzF_X10_readAtom l X hlv hrc (hf := ew28)) kv_X10_85 qk_4 (by omega) rfl hl.1 rfl (Nat.le_of_ble_eq_true rfl) dX10_readTerm_62) hH (fun H locs hH => ?_)
              obtain ⟨w33, hr, hf⟩ := st_bd hf
              have hJ : qu2 w33 (fun z31 M32 => ∀ (ls : Array Slot) (H : Heap) (locs : List Loc), q_H X M32 s H locs → lv_has ls 4 [(0, .ref (X.1 4)), (1, .int p0)] → W p l e (q_rm (lvr + 2)) s m args below meth c H locs 0 0 (MQ below (q_Qi X (b2i r0) MR) args s 0 0 (q_A X)) (F0 m 85 ls [.int (b2i z31)])) := by
                obtain ⟨z31, M32⟩ := w33
                replace hf := st_u2 hf
                intro ls H locs hH hl
                refine lv_istore_n (lv' := [(2, .int (b2i z31)), (0, .ref (X.1 4)), (1, .int p0)]) hx hb dX10_readTerm_85 rfl hl (by decide) rfl (fun ls hl => ?_)
                refine lv_aload_n hx hb dX10_readTerm_86 rfl (lv_at hl 1 rfl) ?_
                refine pz_gS (a := 1) hE hH fr_X10_15 qk_4 (by decide) dX10_readTerm_87 ?_
                obtain ⟨w34, ew34, hf⟩ := st_bd hf
                obtain ⟨r35, M36⟩ := w34
                replace hf := st_u2 hf
                refine q_calli (q_runV (As := []) (rest := []) hE hH (tz_X4_peek l X (hf := ew34)) kv_X10_37 qk_1 (by omega) rfl hl.1 rfl (Nat.le_of_ble_eq_true rfl) dX10_readTerm_90) hH (fun H locs hH => ?_)
                refine lv_istore_n (lv' := [(3, .int r35), (2, .int (b2i z31)), (0, .ref (X.1 4)), (1, .int p0)]) hx hb dX10_readTerm_93 rfl hl (by decide) rfl (fun ls hl => ?_)
                refine lv_goto (tgt := 14) hx hb dX10_readTerm_94 (by decide) ?_
                exact hK1 _ (Option.some.inj hf).symm ls H locs hH (lv_sub hl [2, 3, 1, 0] rfl)
              clear hf
              replace hf := hr
              refine lv_if_eq (tgt := 84) hx hb dX10_readTerm_65 (by decide) (fun hc => ?_) (fun hc => ?_)
              · replace hf := (if_pos hc).symm.trans hf
                refine lv_iconst (v := 0) hx hb dX10_readTerm_84 (by decide) ?_
                replace hf := Option.some.inj hf
                subst hf
                exact hJ ls H locs hH (lv_sub hl [0, 1] rfl)
              · replace hf := (if_neg hc).symm.trans hf
                refine lv_aload_n hx hb dX10_readTerm_68 rfl (lv_at hl 0 rfl) ?_
                obtain ⟨a37, ea37, hf⟩ := st_bd hf
                refine pz_gR hE hH fr_X10_9 qk_4 ea37 dX10_readTerm_69 (fun ha37 => ?_)
                replace ha37 : q_way a37 = true := ha37
                refine lv_iload_n hx hb dX10_readTerm_72 rfl (lv_at hl 3 rfl) ?_
                refine lv_iconst (v := 0) hx hb dX10_readTerm_73 (by decide) ?_
                obtain ⟨w38, ew38, hf⟩ := st_bd hf
                obtain ⟨r39, M40⟩ := w38
                replace hf := st_u2 hf
                refine q_calli (q_runV (As := [.int x8, .int 0]) (rest := []) hE hH (tz_X9_add l X ha37 (hf := ew38)) kv_X10_55 (q_way_0 ha37) (by omega) rfl hl.1 rfl (Nat.le_of_ble_eq_true rfl) dX10_readTerm_74) hH (fun H locs hH => ?_)
                refine lv_if_eq (tgt := 84) hx hb dX10_readTerm_77 (by decide) (fun hc => ?_) (fun hc => ?_)
                · replace hf := (if_pos hc).symm.trans hf
                  refine lv_iconst (v := 0) hx hb dX10_readTerm_84 (by decide) ?_
                  replace hf := Option.some.inj hf
                  subst hf
                  exact hJ ls H locs hH (lv_sub hl [0, 1] rfl)
                · replace hf := (if_neg hc).symm.trans hf
                  refine lv_iconst (v := 1) hx hb dX10_readTerm_80 (by decide) ?_
                  refine lv_goto (tgt := 85) hx hb dX10_readTerm_81 (by decide) ?_
                  replace hf := Option.some.inj hf
                  subst hf
                  exact hJ ls H locs hH (lv_sub hl [0, 1] rfl)) _ hlp
  exact hG ls H locs hH (lv_sub hl [2, 3, 1, 0] rfl)

theorem dX10_readSum_0 : decode cX10_readSum 0 = .ok (.aload_n 0, 1) := by decide +kernel
theorem dX10_readSum_1 : decode cX10_readSum 1 = .ok (.iload_n 1, 1) := by decide +kernel
theorem dX10_readSum_2 : decode cX10_readSum 2 = .ok (.invokevirtual 82, 3) := by decide +kernel
theorem dX10_readSum_5 : decode cX10_readSum 5 = .ok (.istore_n 2, 1) := by decide +kernel
theorem dX10_readSum_6 : decode cX10_readSum 6 = .ok (.aload_n 0, 1) := by decide +kernel
theorem dX10_readSum_7 : decode cX10_readSum 7 = .ok (.getfield 15, 3) := by decide +kernel
theorem dX10_readSum_10 : decode cX10_readSum 10 = .ok (.invokevirtual 37, 3) := by decide +kernel
theorem dX10_readSum_13 : decode cX10_readSum 13 = .ok (.istore_n 3, 1) := by decide +kernel
theorem dX10_readSum_14 : decode cX10_readSum 14 = .ok (.iload_n 2, 1) := by decide +kernel
theorem dX10_readSum_15 : decode cX10_readSum 15 = .ok (.ifCond .eq 82, 3) := by decide +kernel
theorem dX10_readSum_18 : decode cX10_readSum 18 = .ok (.iload_n 3, 1) := by decide +kernel
theorem dX10_readSum_19 : decode cX10_readSum 19 = .ok (.bipush 43, 2) := by decide +kernel
theorem dX10_readSum_21 : decode cX10_readSum 21 = .ok (.if_icmp .eq 9, 3) := by decide +kernel
theorem dX10_readSum_24 : decode cX10_readSum 24 = .ok (.iload_n 3, 1) := by decide +kernel
theorem dX10_readSum_25 : decode cX10_readSum 25 = .ok (.bipush 45, 2) := by decide +kernel
theorem dX10_readSum_27 : decode cX10_readSum 27 = .ok (.if_icmp .ne 70, 3) := by decide +kernel
theorem dX10_readSum_30 : decode cX10_readSum 30 = .ok (.aload_n 0, 1) := by decide +kernel
theorem dX10_readSum_31 : decode cX10_readSum 31 = .ok (.getfield 15, 3) := by decide +kernel
theorem dX10_readSum_34 : decode cX10_readSum 34 = .ok (.getfield 45, 3) := by decide +kernel
theorem dX10_readSum_37 : decode cX10_readSum 37 = .ok (.aload_n 0, 1) := by decide +kernel
theorem dX10_readSum_38 : decode cX10_readSum 38 = .ok (.getfield 15, 3) := by decide +kernel
theorem dX10_readSum_41 : decode cX10_readSum 41 = .ok (.getfield 70, 3) := by decide +kernel
theorem dX10_readSum_44 : decode cX10_readSum 44 = .ok (.if_icmp .ge 53, 3) := by decide +kernel
theorem dX10_readSum_47 : decode cX10_readSum 47 = .ok (.aload_n 0, 1) := by decide +kernel
theorem dX10_readSum_48 : decode cX10_readSum 48 = .ok (.getfield 15, 3) := by decide +kernel
theorem dX10_readSum_51 : decode cX10_readSum 51 = .ok (.dup, 1) := by decide +kernel
theorem dX10_readSum_52 : decode cX10_readSum 52 = .ok (.getfield 45, 3) := by decide +kernel
theorem dX10_readSum_55 : decode cX10_readSum 55 = .ok (.iconst 1, 1) := by decide +kernel
theorem dX10_readSum_56 : decode cX10_readSum 56 = .ok (.iadd, 1) := by decide +kernel
theorem dX10_readSum_57 : decode cX10_readSum 57 = .ok (.putfield 45, 3) := by decide +kernel
theorem dX10_readSum_60 : decode cX10_readSum 60 = .ok (.aload_n 0, 1) := by decide +kernel
theorem dX10_readSum_61 : decode cX10_readSum 61 = .ok (.iload_n 1, 1) := by decide +kernel
theorem dX10_readSum_62 : decode cX10_readSum 62 = .ok (.invokevirtual 82, 3) := by decide +kernel
theorem dX10_readSum_65 : decode cX10_readSum 65 = .ok (.ifCond .eq 19, 3) := by decide +kernel
theorem dX10_readSum_68 : decode cX10_readSum 68 = .ok (.aload_n 0, 1) := by decide +kernel
theorem dX10_readSum_69 : decode cX10_readSum 69 = .ok (.getfield 9, 3) := by decide +kernel
theorem dX10_readSum_72 : decode cX10_readSum 72 = .ok (.iload_n 3, 1) := by decide +kernel
theorem dX10_readSum_73 : decode cX10_readSum 73 = .ok (.iconst 0, 1) := by decide +kernel
theorem dX10_readSum_74 : decode cX10_readSum 74 = .ok (.invokevirtual 55, 3) := by decide +kernel
theorem dX10_readSum_77 : decode cX10_readSum 77 = .ok (.ifCond .eq 7, 3) := by decide +kernel
theorem dX10_readSum_80 : decode cX10_readSum 80 = .ok (.iconst 1, 1) := by decide +kernel
theorem dX10_readSum_81 : decode cX10_readSum 81 = .ok (.goto 4, 3) := by decide +kernel
theorem dX10_readSum_84 : decode cX10_readSum 84 = .ok (.iconst 0, 1) := by decide +kernel
theorem dX10_readSum_85 : decode cX10_readSum 85 = .ok (.istore_n 2, 1) := by decide +kernel
theorem dX10_readSum_86 : decode cX10_readSum 86 = .ok (.aload_n 0, 1) := by decide +kernel
theorem dX10_readSum_87 : decode cX10_readSum 87 = .ok (.getfield 15, 3) := by decide +kernel
theorem dX10_readSum_90 : decode cX10_readSum 90 = .ok (.invokevirtual 37, 3) := by decide +kernel
theorem dX10_readSum_93 : decode cX10_readSum 93 = .ok (.istore_n 3, 1) := by decide +kernel
theorem dX10_readSum_94 : decode cX10_readSum 94 = .ok (.goto (-80), 3) := by decide +kernel
theorem dX10_readSum_97 : decode cX10_readSum 97 = .ok (.iload_n 2, 1) := by decide +kernel
theorem dX10_readSum_98 : decode cX10_readSum 98 = .ok (.ireturn, 1) := by decide +kernel
set_option maxRecDepth 100000 in
set_option maxHeartbeats 4000000 in
theorem tzF_X10_readSum (l : Launch) (X : qX) {rc : Int32 → qM → Option (Bool × qM)} {lvr : Nat} (hlv : 6 ≤ lvr) (hrc : ∀ {p0 : Int32} {M MR : qM} {r0 : Bool}, rc p0 M = some (r0, MR) → q_Met l X yX10_readSum cX10_readSum 4 (some .boolean) (lvr) M [.ref (X.1 4), .int p0] (q_Qi X (b2i r0) MR)) {p0 : Int32} {M MR : qM} {r0 : Bool} (hf : jWr_readSumF rc p0 M = some (r0, MR)) : q_Met l X yX10_readSum cX10_readSum 4 (some .boolean) (lvr + 3) M [.ref (X.1 4), .int p0] (q_Qi X (b2i r0) MR) := by
  refine q_enter (by decide) (Nat.le_of_ble_eq_true rfl) ?_
  intro p e s m args below meth c hE hrt hlk H locs hH ls hl
  have hx := hE.1
  have hb := hE.2.1
  have hl : lv_has ls 4 [(0, .ref (X.1 4)), (1, .int p0)] := hl
  unfold jWr_readSumF at hf
  refine lv_aload_n hx hb dX10_readSum_0 rfl (lv_at hl 0 rfl) ?_
  refine lv_iload_n hx hb dX10_readSum_1 rfl (lv_at hl 1 rfl) ?_
  obtain ⟨w1, ew1, hf⟩ := st_bd hf
  obtain ⟨r2, M3⟩ := w1
  replace hf := st_u2 hf
  refine q_calli (q_runV (As := [.int p0]) (rest := []) hE hH (tzF_X10_readTerm l X hlv hrc (hf := ew1)) kv_X10_82 qk_4 (by omega) rfl hl.1 rfl (Nat.le_of_ble_eq_true rfl) dX10_readSum_2) hH (fun H locs hH => ?_)
  refine lv_istore_n (lv' := [(2, .int (b2i r2)), (0, .ref (X.1 4)), (1, .int p0)]) hx hb dX10_readSum_5 rfl hl (by decide) rfl (fun ls hl => ?_)
  refine lv_aload_n hx hb dX10_readSum_6 rfl (lv_at hl 1 rfl) ?_
  refine pz_gS (a := 1) hE hH fr_X10_15 qk_4 (by decide) dX10_readSum_7 ?_
  obtain ⟨w4, ew4, hf⟩ := st_bd hf
  obtain ⟨r5, M6⟩ := w4
  replace hf := st_u2 hf
  refine q_calli (q_runV (As := []) (rest := []) hE hH (tz_X4_peek l X (hf := ew4)) kv_X10_37 qk_1 (by omega) rfl hl.1 rfl (Nat.le_of_ble_eq_true rfl) dX10_readSum_10) hH (fun H locs hH => ?_)
  refine lv_istore_n (lv' := [(3, .int r5), (2, .int (b2i r2)), (0, .ref (X.1 4)), (1, .int p0)]) hx hb dX10_readSum_13 rfl hl (by decide) rfl (fun ls hl => ?_)
  obtain ⟨r12, hlp, hf⟩ := st_bd hf
  have hX : (fun q0 => qu2 q0 (fun z10 M11 => ∀ (ls : Array Slot) (H : Heap) (locs : List Loc), q_H X M11 s H locs → lv_has ls 4 [(2, .int (b2i z10))] → W p l e (q_rm (lvr + 3)) s m args below meth c H locs 0 0 (MQ below (q_Qi X (b2i r0) MR) args s 0 0 (q_A X)) (F0 m 97 ls [])) : (Bool × qM) → Prop) r12 := by
    obtain ⟨z10, M11⟩ := r12
    replace hf := st_u2 hf
    intro ls H locs hH hl
    refine lv_iload_n hx hb dX10_readSum_97 rfl (lv_at hl 0 rfl) ?_
    replace hf := Option.some.inj hf
    obtain ⟨rfl, rfl⟩ := qi2 hf
    exact pz_retz hE hrt hlk hH rfl dX10_readSum_98
  clear hf
  have hG := qlp_ind (r := r12) (fun q => qu3 q (fun z7 x8 M9 => ∀ (ls : Array Slot) (H : Heap) (locs : List Loc), q_H X M9 s H locs → lv_has ls 4 [(0, .ref (X.1 4)), (1, .int p0), (2, .int (b2i z7)), (3, .int x8)] → W p l e (q_rm (lvr + 3)) s m args below meth c H locs 0 0 (MQ below (q_Qi X (b2i r0) MR) args s 0 0 (q_A X)) (F0 m 14 ls []))) (by
      intro q o hf hK1 hK2
      obtain ⟨z7, x8, M9⟩ := q
      replace hf := st_u3 hf
      intro ls H locs hH hl
      refine lv_iload_n hx hb dX10_readSum_14 rfl (lv_at hl 2 rfl) ?_
      refine lv_if_eq (tgt := 97) hx hb dX10_readSum_15 (by decide) (fun hc => ?_) (fun hc => ?_)
      · replace hf := (if_pos hc).symm.trans hf
        replace hf := hK2 _ (Option.some.inj hf).symm
        subst hf
        exact hX ls H locs hH (lv_sub hl [2] rfl)
      · replace hf := (if_neg hc).symm.trans hf
        refine lv_iload_n hx hb dX10_readSum_18 rfl (lv_at hl 3 rfl) ?_
        refine lv_bipush (v := 43) hx hb dX10_readSum_19 (by decide) ?_
        refine lv_icmp_eq (tgt := 30) hx hb dX10_readSum_21 (by decide) (fun hc => ?_) (fun hc => ?_)
        · replace hf := (if_pos hc).symm.trans hf
          refine lv_aload_n hx hb dX10_readSum_30 rfl (lv_at hl 0 rfl) ?_
          refine pz_gS (a := 1) hE hH fr_X10_15 qk_4 (by decide) dX10_readSum_31 ?_
          refine pz_gI hE hH fr_X10_45 qk_1 dX10_readSum_34 ?_
          refine lv_aload_n hx hb dX10_readSum_37 rfl (lv_at hl 0 rfl) ?_
          refine pz_gS (a := 1) hE hH fr_X10_15 qk_4 (by decide) dX10_readSum_38 ?_
          refine pz_gI hE hH fr_X10_70 qk_1 dX10_readSum_41 ?_
          refine lv_icmp_ge (tgt := 97) hx hb dX10_readSum_44 (by decide) (fun hc => ?_) (fun hc => ?_)
          · replace hf := (if_pos hc).symm.trans hf
            replace hf := hK2 _ (Option.some.inj hf).symm
            subst hf
            exact hX ls H locs hH (lv_sub hl [2] rfl)
          · replace hf := (if_neg hc).symm.trans hf
            refine lv_aload_n hx hb dX10_readSum_47 rfl (lv_at hl 0 rfl) ?_
            refine pz_gS (a := 1) hE hH fr_X10_15 qk_4 (by decide) dX10_readSum_48 ?_
            refine lv_dup hx hb dX10_readSum_51 rfl ?_
            refine pz_gI hE hH fr_X10_45 qk_1 dX10_readSum_52 ?_
            refine lv_iconst (v := 1) hx hb dX10_readSum_55 (by decide) ?_
            refine lv_iadd hx hb dX10_readSum_56 ?_
            obtain ⟨M13, eM13, hf⟩ := st_lty hf
            refine pz_pI hE hH fw_X10_45 qk_1  eM13 dX10_readSum_57 (fun H locs hH => ?_)
            refine lv_aload_n hx hb dX10_readSum_60 rfl (lv_at hl 0 rfl) ?_
            refine lv_iload_n hx hb dX10_readSum_61 rfl (lv_at hl 1 rfl) ?_
            obtain ⟨w14, ew14, hf⟩ := st_bd hf
            obtain ⟨r15, M16⟩ := w14
            replace hf := st_u2 hf
            refine q_calli (q_runV (As := [.int p0]) (rest := []) hE hH (tzF_X10_readTerm l X hlv hrc (hf := ew14)) kv_X10_82 qk_4 (by omega) rfl hl.1 rfl (Nat.le_of_ble_eq_true rfl) dX10_readSum_62) hH (fun H locs hH => ?_)
            obtain ⟨w19, hr, hf⟩ := st_bd hf
            have hJ : qu2 w19 (fun z17 M18 => ∀ (ls : Array Slot) (H : Heap) (locs : List Loc), q_H X M18 s H locs → lv_has ls 4 [(0, .ref (X.1 4)), (1, .int p0)] → W p l e (q_rm (lvr + 3)) s m args below meth c H locs 0 0 (MQ below (q_Qi X (b2i r0) MR) args s 0 0 (q_A X)) (F0 m 85 ls [.int (b2i z17)])) := by
              obtain ⟨z17, M18⟩ := w19
              replace hf := st_u2 hf
              intro ls H locs hH hl
              refine lv_istore_n (lv' := [(2, .int (b2i z17)), (0, .ref (X.1 4)), (1, .int p0)]) hx hb dX10_readSum_85 rfl hl (by decide) rfl (fun ls hl => ?_)
              refine lv_aload_n hx hb dX10_readSum_86 rfl (lv_at hl 1 rfl) ?_
              refine pz_gS (a := 1) hE hH fr_X10_15 qk_4 (by decide) dX10_readSum_87 ?_
              obtain ⟨w20, ew20, hf⟩ := st_bd hf
              obtain ⟨r21, M22⟩ := w20
              replace hf := st_u2 hf
              refine q_calli (q_runV (As := []) (rest := []) hE hH (tz_X4_peek l X (hf := ew20)) kv_X10_37 qk_1 (by omega) rfl hl.1 rfl (Nat.le_of_ble_eq_true rfl) dX10_readSum_90) hH (fun H locs hH => ?_)
              refine lv_istore_n (lv' := [(3, .int r21), (2, .int (b2i z17)), (0, .ref (X.1 4)), (1, .int p0)]) hx hb dX10_readSum_93 rfl hl (by decide) rfl (fun ls hl => ?_)
              refine lv_goto (tgt := 14) hx hb dX10_readSum_94 (by decide) ?_
              exact hK1 _ (Option.some.inj hf).symm ls H locs hH (lv_sub hl [2, 3, 1, 0] rfl)
            clear hf
            replace hf := hr
            refine lv_if_eq (tgt := 84) hx hb dX10_readSum_65 (by decide) (fun hc => ?_) (fun hc => ?_)
            · replace hf := (if_pos hc).symm.trans hf
              refine lv_iconst (v := 0) hx hb dX10_readSum_84 (by decide) ?_
              replace hf := Option.some.inj hf
              subst hf
              exact hJ ls H locs hH (lv_sub hl [0, 1] rfl)
            · replace hf := (if_neg hc).symm.trans hf
              refine lv_aload_n hx hb dX10_readSum_68 rfl (lv_at hl 0 rfl) ?_
              obtain ⟨a23, ea23, hf⟩ := st_bd hf
              refine pz_gR hE hH fr_X10_9 qk_4 ea23 dX10_readSum_69 (fun ha23 => ?_)
              replace ha23 : q_way a23 = true := ha23
              refine lv_iload_n hx hb dX10_readSum_72 rfl (lv_at hl 3 rfl) ?_
              refine lv_iconst (v := 0) hx hb dX10_readSum_73 (by decide) ?_
              obtain ⟨w24, ew24, hf⟩ := st_bd hf
              obtain ⟨r25, M26⟩ := w24
              replace hf := st_u2 hf
              refine q_calli (q_runV (As := [.int x8, .int 0]) (rest := []) hE hH (tz_X9_add l X ha23 (hf := ew24)) kv_X10_55 (q_way_0 ha23) (by omega) rfl hl.1 rfl (Nat.le_of_ble_eq_true rfl) dX10_readSum_74) hH (fun H locs hH => ?_)
              refine lv_if_eq (tgt := 84) hx hb dX10_readSum_77 (by decide) (fun hc => ?_) (fun hc => ?_)
              · replace hf := (if_pos hc).symm.trans hf
                refine lv_iconst (v := 0) hx hb dX10_readSum_84 (by decide) ?_
                replace hf := Option.some.inj hf
                subst hf
                exact hJ ls H locs hH (lv_sub hl [0, 1] rfl)
              · replace hf := (if_neg hc).symm.trans hf
                refine lv_iconst (v := 1) hx hb dX10_readSum_80 (by decide) ?_
                refine lv_goto (tgt := 85) hx hb dX10_readSum_81 (by decide) ?_
                replace hf := Option.some.inj hf
                subst hf
                exact hJ ls H locs hH (lv_sub hl [0, 1] rfl)
        · replace hf := (if_neg hc).symm.trans hf
          refine lv_iload_n hx hb dX10_readSum_24 rfl (lv_at hl 3 rfl) ?_
          refine lv_bipush (v := 45) hx hb dX10_readSum_25 (by decide) ?_
          refine lv_icmp_ne (tgt := 97) hx hb dX10_readSum_27 (by decide) (fun hc => ?_) (fun hc => ?_)
          · replace hf := (if_neg hc).symm.trans hf
            replace hf := hK2 _ (Option.some.inj hf).symm
            subst hf
            exact hX ls H locs hH (lv_sub hl [2] rfl)
          · replace hf := (if_pos hc).symm.trans hf
            refine lv_aload_n hx hb dX10_readSum_30 rfl (lv_at hl 0 rfl) ?_
            refine pz_gS (a := 1) hE hH fr_X10_15 qk_4 (by decide) dX10_readSum_31 ?_
            refine pz_gI hE hH fr_X10_45 qk_1 dX10_readSum_34 ?_
            refine lv_aload_n hx hb dX10_readSum_37 rfl (lv_at hl 0 rfl) ?_
            refine pz_gS (a := 1) hE hH fr_X10_15 qk_4 (by decide) dX10_readSum_38 ?_
            refine pz_gI hE hH fr_X10_70 qk_1 dX10_readSum_41 ?_
            refine lv_icmp_ge (tgt := 97) hx hb dX10_readSum_44 (by decide) (fun hc => ?_) (fun hc => ?_)
            · replace hf := (if_pos hc).symm.trans hf
              replace hf := hK2 _ (Option.some.inj hf).symm
              subst hf
              exact hX ls H locs hH (lv_sub hl [2] rfl)
            · replace hf := (if_neg hc).symm.trans hf
              refine lv_aload_n hx hb dX10_readSum_47 rfl (lv_at hl 0 rfl) ?_
              refine pz_gS (a := 1) hE hH fr_X10_15 qk_4 (by decide) dX10_readSum_48 ?_
              refine lv_dup hx hb dX10_readSum_51 rfl ?_
              refine pz_gI hE hH fr_X10_45 qk_1 dX10_readSum_52 ?_
              refine lv_iconst (v := 1) hx hb dX10_readSum_55 (by decide) ?_
              refine lv_iadd hx hb dX10_readSum_56 ?_
              obtain ⟨M27, eM27, hf⟩ := st_lty hf
              refine pz_pI hE hH fw_X10_45 qk_1  eM27 dX10_readSum_57 (fun H locs hH => ?_)
              refine lv_aload_n hx hb dX10_readSum_60 rfl (lv_at hl 0 rfl) ?_
              refine lv_iload_n hx hb dX10_readSum_61 rfl (lv_at hl 1 rfl) ?_
              obtain ⟨w28, ew28, hf⟩ := st_bd hf
              obtain ⟨r29, M30⟩ := w28
              replace hf := st_u2 hf
              refine q_calli (q_runV (As := [.int p0]) (rest := []) hE hH (tzF_X10_readTerm l X hlv hrc (hf := ew28)) kv_X10_82 qk_4 (by omega) rfl hl.1 rfl (Nat.le_of_ble_eq_true rfl) dX10_readSum_62) hH (fun H locs hH => ?_)
              obtain ⟨w33, hr, hf⟩ := st_bd hf
              have hJ : qu2 w33 (fun z31 M32 => ∀ (ls : Array Slot) (H : Heap) (locs : List Loc), q_H X M32 s H locs → lv_has ls 4 [(0, .ref (X.1 4)), (1, .int p0)] → W p l e (q_rm (lvr + 3)) s m args below meth c H locs 0 0 (MQ below (q_Qi X (b2i r0) MR) args s 0 0 (q_A X)) (F0 m 85 ls [.int (b2i z31)])) := by
                obtain ⟨z31, M32⟩ := w33
                replace hf := st_u2 hf
                intro ls H locs hH hl
                refine lv_istore_n (lv' := [(2, .int (b2i z31)), (0, .ref (X.1 4)), (1, .int p0)]) hx hb dX10_readSum_85 rfl hl (by decide) rfl (fun ls hl => ?_)
                refine lv_aload_n hx hb dX10_readSum_86 rfl (lv_at hl 1 rfl) ?_
                refine pz_gS (a := 1) hE hH fr_X10_15 qk_4 (by decide) dX10_readSum_87 ?_
                obtain ⟨w34, ew34, hf⟩ := st_bd hf
                obtain ⟨r35, M36⟩ := w34
                replace hf := st_u2 hf
                refine q_calli (q_runV (As := []) (rest := []) hE hH (tz_X4_peek l X (hf := ew34)) kv_X10_37 qk_1 (by omega) rfl hl.1 rfl (Nat.le_of_ble_eq_true rfl) dX10_readSum_90) hH (fun H locs hH => ?_)
                refine lv_istore_n (lv' := [(3, .int r35), (2, .int (b2i z31)), (0, .ref (X.1 4)), (1, .int p0)]) hx hb dX10_readSum_93 rfl hl (by decide) rfl (fun ls hl => ?_)
                refine lv_goto (tgt := 14) hx hb dX10_readSum_94 (by decide) ?_
                exact hK1 _ (Option.some.inj hf).symm ls H locs hH (lv_sub hl [2, 3, 1, 0] rfl)
              clear hf
              replace hf := hr
              refine lv_if_eq (tgt := 84) hx hb dX10_readSum_65 (by decide) (fun hc => ?_) (fun hc => ?_)
              · replace hf := (if_pos hc).symm.trans hf
                refine lv_iconst (v := 0) hx hb dX10_readSum_84 (by decide) ?_
                replace hf := Option.some.inj hf
                subst hf
                exact hJ ls H locs hH (lv_sub hl [0, 1] rfl)
              · replace hf := (if_neg hc).symm.trans hf
                refine lv_aload_n hx hb dX10_readSum_68 rfl (lv_at hl 0 rfl) ?_
                obtain ⟨a37, ea37, hf⟩ := st_bd hf
                refine pz_gR hE hH fr_X10_9 qk_4 ea37 dX10_readSum_69 (fun ha37 => ?_)
                replace ha37 : q_way a37 = true := ha37
                refine lv_iload_n hx hb dX10_readSum_72 rfl (lv_at hl 3 rfl) ?_
                refine lv_iconst (v := 0) hx hb dX10_readSum_73 (by decide) ?_
                obtain ⟨w38, ew38, hf⟩ := st_bd hf
                obtain ⟨r39, M40⟩ := w38
                replace hf := st_u2 hf
                refine q_calli (q_runV (As := [.int x8, .int 0]) (rest := []) hE hH (tz_X9_add l X ha37 (hf := ew38)) kv_X10_55 (q_way_0 ha37) (by omega) rfl hl.1 rfl (Nat.le_of_ble_eq_true rfl) dX10_readSum_74) hH (fun H locs hH => ?_)
                refine lv_if_eq (tgt := 84) hx hb dX10_readSum_77 (by decide) (fun hc => ?_) (fun hc => ?_)
                · replace hf := (if_pos hc).symm.trans hf
                  refine lv_iconst (v := 0) hx hb dX10_readSum_84 (by decide) ?_
                  replace hf := Option.some.inj hf
                  subst hf
                  exact hJ ls H locs hH (lv_sub hl [0, 1] rfl)
                · replace hf := (if_neg hc).symm.trans hf
                  refine lv_iconst (v := 1) hx hb dX10_readSum_80 (by decide) ?_
                  refine lv_goto (tgt := 85) hx hb dX10_readSum_81 (by decide) ?_
                  replace hf := Option.some.inj hf
                  subst hf
                  exact hJ ls H locs hH (lv_sub hl [0, 1] rfl)) _ hlp
  exact hG ls H locs hH (lv_sub hl [2, 3, 1, 0] rfl)

theorem tzN_X10_readSum (l : Launch) (X : qX) (n : Nat) : ∀ {p0 : Int32} {M MR : qM} {r0 : Bool}, jWr_readSumN n p0 M = some (r0, MR) → q_Met l X yX10_readSum cX10_readSum 4 (some .boolean) (6 + 3 * n) M [.ref (X.1 4), .int p0] (q_Qi X (b2i r0) MR) := by
  induction n with
  | zero => intro p0 M MR r0 h; exact st_nn h
  | succ n ih =>
    intro p0 M MR r0 h
    have h1 := tzF_X10_readSum l X (rc := jWr_readSumN n) (lvr := 6 + 3 * n) (by omega) (fun h => ih h) (hf := h)
    rw [show 6 + 3 * (n + 1) = 6 + 3 * n + 3 by omega]
    exact h1
theorem tz_X10_readAtom (l : Launch) (X : qX) {p0 : Int32} {M MR : qM} {r0 : Bool} (hf : jWr_readAtom p0 M = some (r0, MR)) : q_Met l X yX10_readAtom cX10_readAtom 5 (some .boolean) 31 M [.ref (X.1 4), .int p0] (q_Qi X (b2i r0) MR) := tzF_X10_readAtom l X (rc := jWr_readSumN 8) (lvr := 6 + 3 * 8) (by omega) (fun h => tzN_X10_readSum l X 8 h) (hf := hf)
theorem tz_X10_readTerm (l : Launch) (X : qX) {p0 : Int32} {M MR : qM} {r0 : Bool} (hf : jWr_readTerm p0 M = some (r0, MR)) : q_Met l X yX10_readTerm cX10_readTerm 4 (some .boolean) 32 M [.ref (X.1 4), .int p0] (q_Qi X (b2i r0) MR) := tzF_X10_readTerm l X (rc := jWr_readSumN 8) (lvr := 6 + 3 * 8) (by omega) (fun h => tzN_X10_readSum l X 8 h) (hf := hf)
theorem tz_X10_readSum (l : Launch) (X : qX) {p0 : Int32} {M MR : qM} {r0 : Bool} (hf : jWr_readSum p0 M = some (r0, MR)) : q_Met l X yX10_readSum cX10_readSum 4 (some .boolean) 33 M [.ref (X.1 4), .int p0] (q_Qi X (b2i r0) MR) := tzF_X10_readSum l X (rc := jWr_readSumN 8) (lvr := 6 + 3 * 8) (by omega) (fun h => tzN_X10_readSum l X 8 h) (hf := hf)

theorem dX10_isComparison_0 : decode cX10_isComparison 0 = .ok (.iload_n 0, 1) := by decide +kernel
theorem dX10_isComparison_1 : decode cX10_isComparison 1 = .ok (.bipush 61, 2) := by decide +kernel
theorem dX10_isComparison_3 : decode cX10_isComparison 3 = .ok (.if_icmp .eq 15, 3) := by decide +kernel
theorem dX10_isComparison_6 : decode cX10_isComparison 6 = .ok (.iload_n 0, 1) := by decide +kernel
theorem dX10_isComparison_7 : decode cX10_isComparison 7 = .ok (.bipush 60, 2) := by decide +kernel
theorem dX10_isComparison_9 : decode cX10_isComparison 9 = .ok (.if_icmp .eq 9, 3) := by decide +kernel
theorem dX10_isComparison_12 : decode cX10_isComparison 12 = .ok (.iload_n 0, 1) := by decide +kernel
theorem dX10_isComparison_13 : decode cX10_isComparison 13 = .ok (.bipush 62, 2) := by decide +kernel
theorem dX10_isComparison_15 : decode cX10_isComparison 15 = .ok (.if_icmp .ne 7, 3) := by decide +kernel
theorem dX10_isComparison_18 : decode cX10_isComparison 18 = .ok (.iconst 1, 1) := by decide +kernel
theorem dX10_isComparison_19 : decode cX10_isComparison 19 = .ok (.goto 4, 3) := by decide +kernel
theorem dX10_isComparison_22 : decode cX10_isComparison 22 = .ok (.iconst 0, 1) := by decide +kernel
theorem dX10_isComparison_23 : decode cX10_isComparison 23 = .ok (.ireturn, 1) := by decide +kernel
set_option maxRecDepth 100000 in
set_option maxHeartbeats 4000000 in
theorem tz_X10_isComparison (l : Launch) (X : qX) {p0 : Int32} {M : qM} {r0 : Bool} (hf : jWr_isComparison p0 = r0) : q_Met l X yX10_isComparison cX10_isComparison 1 (some .boolean) (1) M [.int p0] (q_Qi X (b2i r0) M) := by
  refine q_enter (by decide) (Nat.le_of_ble_eq_true rfl) ?_
  intro p e s m args below meth c hE hrt hlk H locs hH ls hl
  have hx := hE.1
  have hb := hE.2.1
  have hl : lv_has ls 1 [(0, .int p0)] := hl
  unfold jWr_isComparison at hf
  refine lv_iload_n hx hb dX10_isComparison_0 rfl (lv_at hl 0 rfl) ?_
  refine lv_bipush (v := 61) hx hb dX10_isComparison_1 (by decide) ?_
  obtain ⟨z1, hr, hf⟩ := st_ltx hf
  have hJ : ∀ (ls : Array Slot) (H : Heap) (locs : List Loc), q_H X M s H locs → lv_has ls 1 [] → W p l e (q_rm (1)) s m args below meth c H locs 0 0 (MQ below (q_Qi X (b2i r0) M) args s 0 0 (q_A X)) (F0 m 23 ls [.int (b2i z1)]) := by
    intro ls H locs hH hl
    subst hf
    exact pz_retz hE hrt hlk hH rfl dX10_isComparison_23
  clear hf
  replace hf := hr
  refine lv_icmp_eq (tgt := 18) hx hb dX10_isComparison_3 (by decide) (fun hc => ?_) (fun hc => ?_)
  · replace hf := (if_pos hc).symm.trans hf
    refine lv_iconst (v := 1) hx hb dX10_isComparison_18 (by decide) ?_
    refine lv_goto (tgt := 23) hx hb dX10_isComparison_19 (by decide) ?_
    subst hf
    exact hJ ls H locs hH (lv_sub hl [] rfl)
  · replace hf := (if_neg hc).symm.trans hf
    refine lv_iload_n hx hb dX10_isComparison_6 rfl (lv_at hl 0 rfl) ?_
    refine lv_bipush (v := 60) hx hb dX10_isComparison_7 (by decide) ?_
    refine lv_icmp_eq (tgt := 18) hx hb dX10_isComparison_9 (by decide) (fun hc => ?_) (fun hc => ?_)
    · replace hf := (if_pos hc).symm.trans hf
      refine lv_iconst (v := 1) hx hb dX10_isComparison_18 (by decide) ?_
      refine lv_goto (tgt := 23) hx hb dX10_isComparison_19 (by decide) ?_
      subst hf
      exact hJ ls H locs hH (lv_sub hl [] rfl)
    · replace hf := (if_neg hc).symm.trans hf
      refine lv_iload_n hx hb dX10_isComparison_12 rfl (lv_at hl 0 rfl) ?_
      refine lv_bipush (v := 62) hx hb dX10_isComparison_13 (by decide) ?_
      refine lv_icmp_ne (tgt := 22) hx hb dX10_isComparison_15 (by decide) (fun hc => ?_) (fun hc => ?_)
      · replace hf := (if_neg hc).symm.trans hf
        refine lv_iconst (v := 0) hx hb dX10_isComparison_22 (by decide) ?_
        subst hf
        exact hJ ls H locs hH (lv_sub hl [] rfl)
      · replace hf := (if_pos hc).symm.trans hf
        refine lv_iconst (v := 1) hx hb dX10_isComparison_18 (by decide) ?_
        refine lv_goto (tgt := 23) hx hb dX10_isComparison_19 (by decide) ?_
        subst hf
        exact hJ ls H locs hH (lv_sub hl [] rfl)

theorem dX10_readTruth_0 : decode cX10_readTruth 0 = .ok (.aload_n 0, 1) := by decide +kernel
theorem dX10_readTruth_1 : decode cX10_readTruth 1 = .ok (.iload_n 1, 1) := by decide +kernel
theorem dX10_readTruth_2 : decode cX10_readTruth 2 = .ok (.iload_n 2, 1) := by decide +kernel
theorem dX10_readTruth_3 : decode cX10_readTruth 3 = .ok (.invokevirtual 73, 3) := by decide +kernel
theorem dX10_readTruth_6 : decode cX10_readTruth 6 = .ok (.istore_n 3, 1) := by decide +kernel
theorem dX10_readTruth_7 : decode cX10_readTruth 7 = .ok (.iload_n 3, 1) := by decide +kernel
theorem dX10_readTruth_8 : decode cX10_readTruth 8 = .ok (.ifCond .eq 76, 3) := by decide +kernel
theorem dX10_readTruth_11 : decode cX10_readTruth 11 = .ok (.aload_n 0, 1) := by decide +kernel
theorem dX10_readTruth_12 : decode cX10_readTruth 12 = .ok (.getfield 15, 3) := by decide +kernel
theorem dX10_readTruth_15 : decode cX10_readTruth 15 = .ok (.invokevirtual 37, 3) := by decide +kernel
theorem dX10_readTruth_18 : decode cX10_readTruth 18 = .ok (.bipush 38, 2) := by decide +kernel
theorem dX10_readTruth_20 : decode cX10_readTruth 20 = .ok (.if_icmp .ne 64, 3) := by decide +kernel
theorem dX10_readTruth_23 : decode cX10_readTruth 23 = .ok (.aload_n 0, 1) := by decide +kernel
theorem dX10_readTruth_24 : decode cX10_readTruth 24 = .ok (.getfield 15, 3) := by decide +kernel
theorem dX10_readTruth_27 : decode cX10_readTruth 27 = .ok (.getfield 45, 3) := by decide +kernel
theorem dX10_readTruth_30 : decode cX10_readTruth 30 = .ok (.aload_n 0, 1) := by decide +kernel
theorem dX10_readTruth_31 : decode cX10_readTruth 31 = .ok (.getfield 15, 3) := by decide +kernel
theorem dX10_readTruth_34 : decode cX10_readTruth 34 = .ok (.getfield 70, 3) := by decide +kernel
theorem dX10_readTruth_37 : decode cX10_readTruth 37 = .ok (.if_icmp .ge 47, 3) := by decide +kernel
theorem dX10_readTruth_40 : decode cX10_readTruth 40 = .ok (.aload_n 0, 1) := by decide +kernel
theorem dX10_readTruth_41 : decode cX10_readTruth 41 = .ok (.getfield 15, 3) := by decide +kernel
theorem dX10_readTruth_44 : decode cX10_readTruth 44 = .ok (.dup, 1) := by decide +kernel
theorem dX10_readTruth_45 : decode cX10_readTruth 45 = .ok (.getfield 45, 3) := by decide +kernel
theorem dX10_readTruth_48 : decode cX10_readTruth 48 = .ok (.iconst 1, 1) := by decide +kernel
theorem dX10_readTruth_49 : decode cX10_readTruth 49 = .ok (.iadd, 1) := by decide +kernel
theorem dX10_readTruth_50 : decode cX10_readTruth 50 = .ok (.putfield 45, 3) := by decide +kernel
theorem dX10_readTruth_53 : decode cX10_readTruth 53 = .ok (.aload_n 0, 1) := by decide +kernel
theorem dX10_readTruth_54 : decode cX10_readTruth 54 = .ok (.iload_n 1, 1) := by decide +kernel
theorem dX10_readTruth_55 : decode cX10_readTruth 55 = .ok (.iconst 0, 1) := by decide +kernel
theorem dX10_readTruth_56 : decode cX10_readTruth 56 = .ok (.invokevirtual 73, 3) := by decide +kernel
theorem dX10_readTruth_59 : decode cX10_readTruth 59 = .ok (.ifCond .eq 20, 3) := by decide +kernel
theorem dX10_readTruth_62 : decode cX10_readTruth 62 = .ok (.aload_n 0, 1) := by decide +kernel
theorem dX10_readTruth_63 : decode cX10_readTruth 63 = .ok (.getfield 9, 3) := by decide +kernel
theorem dX10_readTruth_66 : decode cX10_readTruth 66 = .ok (.bipush 38, 2) := by decide +kernel
theorem dX10_readTruth_68 : decode cX10_readTruth 68 = .ok (.iconst 0, 1) := by decide +kernel
theorem dX10_readTruth_69 : decode cX10_readTruth 69 = .ok (.invokevirtual 55, 3) := by decide +kernel
theorem dX10_readTruth_72 : decode cX10_readTruth 72 = .ok (.ifCond .eq 7, 3) := by decide +kernel
theorem dX10_readTruth_75 : decode cX10_readTruth 75 = .ok (.iconst 1, 1) := by decide +kernel
theorem dX10_readTruth_76 : decode cX10_readTruth 76 = .ok (.goto 4, 3) := by decide +kernel
theorem dX10_readTruth_79 : decode cX10_readTruth 79 = .ok (.iconst 0, 1) := by decide +kernel
theorem dX10_readTruth_80 : decode cX10_readTruth 80 = .ok (.istore_n 3, 1) := by decide +kernel
theorem dX10_readTruth_81 : decode cX10_readTruth 81 = .ok (.goto (-74), 3) := by decide +kernel
theorem dX10_readTruth_84 : decode cX10_readTruth 84 = .ok (.iload_n 3, 1) := by decide +kernel
theorem dX10_readTruth_85 : decode cX10_readTruth 85 = .ok (.ireturn, 1) := by decide +kernel
set_option maxRecDepth 100000 in
set_option maxHeartbeats 4000000 in
theorem tzF_X10_readTruth (l : Launch) (X : qX) {rc : Int32 → Bool → qM → Option (Bool × qM)} {lvr : Nat} (hlv : 34 ≤ lvr) (hrc : ∀ {p0 : Int32} {p1 : Bool} {M MR : qM} {r0 : Bool}, rc p0 p1 M = some (r0, MR) → q_Met l X yX10_readUnit cX10_readUnit 5 (some .boolean) (lvr) M [.ref (X.1 4), .int p0, .int (b2i p1)] (q_Qi X (b2i r0) MR)) {p0 : Int32} {p1 : Bool} {M MR : qM} {r0 : Bool} (hf : jWr_readTruthF rc p0 p1 M = some (r0, MR)) : q_Met l X yX10_readTruth cX10_readTruth 4 (some .boolean) (lvr + 1) M [.ref (X.1 4), .int p0, .int (b2i p1)] (q_Qi X (b2i r0) MR) := by
  refine q_enter (by decide) (Nat.le_of_ble_eq_true rfl) ?_
  intro p e s m args below meth c hE hrt hlk H locs hH ls hl
  have hx := hE.1
  have hb := hE.2.1
  have hl : lv_has ls 4 [(0, .ref (X.1 4)), (1, .int p0), (2, .int (b2i p1))] := hl
  unfold jWr_readTruthF at hf
  refine lv_aload_n hx hb dX10_readTruth_0 rfl (lv_at hl 0 rfl) ?_
  refine lv_iload_n hx hb dX10_readTruth_1 rfl (lv_at hl 1 rfl) ?_
  refine lv_iload_n hx hb dX10_readTruth_2 rfl (lv_at hl 2 rfl) ?_
  obtain ⟨w1, ew1, hf⟩ := st_bd hf
  obtain ⟨r2, M3⟩ := w1
  replace hf := st_u2 hf
  refine q_calli (q_runV (As := [.int p0, .int (b2i p1)]) (rest := []) hE hH (hrc ew1) kv_X10_73 qk_4 (by omega) rfl hl.1 rfl (Nat.le_of_ble_eq_true rfl) dX10_readTruth_3) hH (fun H locs hH => ?_)
  refine lv_istore_n (lv' := [(3, .int (b2i r2)), (0, .ref (X.1 4)), (1, .int p0), (2, .int (b2i p1))]) hx hb dX10_readTruth_6 rfl hl (by decide) rfl (fun ls hl => ?_)
  obtain ⟨r8, hlp, hf⟩ := st_bd hf
  have hX : (fun q0 => qu2 q0 (fun z6 M7 => ∀ (ls : Array Slot) (H : Heap) (locs : List Loc), q_H X M7 s H locs → lv_has ls 4 [(3, .int (b2i z6))] → W p l e (q_rm (lvr + 1)) s m args below meth c H locs 0 0 (MQ below (q_Qi X (b2i r0) MR) args s 0 0 (q_A X)) (F0 m 84 ls [])) : (Bool × qM) → Prop) r8 := by
    obtain ⟨z6, M7⟩ := r8
    replace hf := st_u2 hf
    intro ls H locs hH hl
    refine lv_iload_n hx hb dX10_readTruth_84 rfl (lv_at hl 0 rfl) ?_
    replace hf := Option.some.inj hf
    obtain ⟨rfl, rfl⟩ := qi2 hf
    exact pz_retz hE hrt hlk hH rfl dX10_readTruth_85
  clear hf
  have hG := qlp_ind (r := r8) (fun q => qu2 q (fun z4 M5 => ∀ (ls : Array Slot) (H : Heap) (locs : List Loc), q_H X M5 s H locs → lv_has ls 4 [(0, .ref (X.1 4)), (1, .int p0), (3, .int (b2i z4))] → W p l e (q_rm (lvr + 1)) s m args below meth c H locs 0 0 (MQ below (q_Qi X (b2i r0) MR) args s 0 0 (q_A X)) (F0 m 7 ls []))) (by
      intro q o hf hK1 hK2
      obtain ⟨z4, M5⟩ := q
      replace hf := st_u2 hf
      intro ls H locs hH hl
      refine lv_iload_n hx hb dX10_readTruth_7 rfl (lv_at hl 2 rfl) ?_
      refine lv_if_eq (tgt := 84) hx hb dX10_readTruth_8 (by decide) (fun hc => ?_) (fun hc => ?_)
      · replace hf := (if_pos hc).symm.trans hf
        replace hf := hK2 _ (Option.some.inj hf).symm
        subst hf
        exact hX ls H locs hH (lv_sub hl [2] rfl)
      · replace hf := (if_neg hc).symm.trans hf
        refine lv_aload_n hx hb dX10_readTruth_11 rfl (lv_at hl 0 rfl) ?_
        refine pz_gS (a := 1) hE hH fr_X10_15 qk_4 (by decide) dX10_readTruth_12 ?_
        obtain ⟨w9, ew9, hf⟩ := st_bd hf
        obtain ⟨r10, M11⟩ := w9
        replace hf := st_u2 hf
        refine q_calli (q_runV (As := []) (rest := []) hE hH (tz_X4_peek l X (hf := ew9)) kv_X10_37 qk_1 (by omega) rfl hl.1 rfl (Nat.le_of_ble_eq_true rfl) dX10_readTruth_15) hH (fun H locs hH => ?_)
        refine lv_bipush (v := 38) hx hb dX10_readTruth_18 (by decide) ?_
        refine lv_icmp_ne (tgt := 84) hx hb dX10_readTruth_20 (by decide) (fun hc => ?_) (fun hc => ?_)
        · replace hf := (if_neg hc).symm.trans hf
          replace hf := hK2 _ (Option.some.inj hf).symm
          subst hf
          exact hX ls H locs hH (lv_sub hl [2] rfl)
        · replace hf := (if_pos hc).symm.trans hf
          refine lv_aload_n hx hb dX10_readTruth_23 rfl (lv_at hl 0 rfl) ?_
          refine pz_gS (a := 1) hE hH fr_X10_15 qk_4 (by decide) dX10_readTruth_24 ?_
          refine pz_gI hE hH fr_X10_45 qk_1 dX10_readTruth_27 ?_
          refine lv_aload_n hx hb dX10_readTruth_30 rfl (lv_at hl 0 rfl) ?_
          refine pz_gS (a := 1) hE hH fr_X10_15 qk_4 (by decide) dX10_readTruth_31 ?_
          refine pz_gI hE hH fr_X10_70 qk_1 dX10_readTruth_34 ?_
          refine lv_icmp_ge (tgt := 84) hx hb dX10_readTruth_37 (by decide) (fun hc => ?_) (fun hc => ?_)
          · replace hf := (if_pos hc).symm.trans hf
            replace hf := hK2 _ (Option.some.inj hf).symm
            subst hf
            exact hX ls H locs hH (lv_sub hl [2] rfl)
          · replace hf := (if_neg hc).symm.trans hf
            refine lv_aload_n hx hb dX10_readTruth_40 rfl (lv_at hl 0 rfl) ?_
            refine pz_gS (a := 1) hE hH fr_X10_15 qk_4 (by decide) dX10_readTruth_41 ?_
            refine lv_dup hx hb dX10_readTruth_44 rfl ?_
            refine pz_gI hE hH fr_X10_45 qk_1 dX10_readTruth_45 ?_
            refine lv_iconst (v := 1) hx hb dX10_readTruth_48 (by decide) ?_
            refine lv_iadd hx hb dX10_readTruth_49 ?_
            obtain ⟨M12, eM12, hf⟩ := st_lty hf
            refine pz_pI hE hH fw_X10_45 qk_1  eM12 dX10_readTruth_50 (fun H locs hH => ?_)
            refine lv_aload_n hx hb dX10_readTruth_53 rfl (lv_at hl 0 rfl) ?_
            refine lv_iload_n hx hb dX10_readTruth_54 rfl (lv_at hl 1 rfl) ?_
            refine lv_iconst (v := 0) hx hb dX10_readTruth_55 (by decide) ?_
            obtain ⟨w13, ew13, hf⟩ := st_bd hf
            obtain ⟨r14, M15⟩ := w13
            replace hf := st_u2 hf
            refine q_calli (q_runV (As := [.int p0, .int 0]) (rest := []) hE hH (hrc ew13) kv_X10_73 qk_4 (by omega) rfl hl.1 rfl (Nat.le_of_ble_eq_true rfl) dX10_readTruth_56) hH (fun H locs hH => ?_)
            obtain ⟨w18, hr, hf⟩ := st_bd hf
            have hJ : qu2 w18 (fun z16 M17 => ∀ (ls : Array Slot) (H : Heap) (locs : List Loc), q_H X M17 s H locs → lv_has ls 4 [(0, .ref (X.1 4)), (1, .int p0)] → W p l e (q_rm (lvr + 1)) s m args below meth c H locs 0 0 (MQ below (q_Qi X (b2i r0) MR) args s 0 0 (q_A X)) (F0 m 80 ls [.int (b2i z16)])) := by
              obtain ⟨z16, M17⟩ := w18
              replace hf := st_u2 hf
              intro ls H locs hH hl
              refine lv_istore_n (lv' := [(3, .int (b2i z16)), (0, .ref (X.1 4)), (1, .int p0)]) hx hb dX10_readTruth_80 rfl hl (by decide) rfl (fun ls hl => ?_)
              refine lv_goto (tgt := 7) hx hb dX10_readTruth_81 (by decide) ?_
              exact hK1 _ (Option.some.inj hf).symm ls H locs hH (lv_sub hl [1, 2, 0] rfl)
            clear hf
            replace hf := hr
            refine lv_if_eq (tgt := 79) hx hb dX10_readTruth_59 (by decide) (fun hc => ?_) (fun hc => ?_)
            · replace hf := (if_pos hc).symm.trans hf
              refine lv_iconst (v := 0) hx hb dX10_readTruth_79 (by decide) ?_
              replace hf := Option.some.inj hf
              subst hf
              exact hJ ls H locs hH (lv_sub hl [0, 1] rfl)
            · replace hf := (if_neg hc).symm.trans hf
              refine lv_aload_n hx hb dX10_readTruth_62 rfl (lv_at hl 0 rfl) ?_
              obtain ⟨a19, ea19, hf⟩ := st_bd hf
              refine pz_gR hE hH fr_X10_9 qk_4 ea19 dX10_readTruth_63 (fun ha19 => ?_)
              replace ha19 : q_way a19 = true := ha19
              refine lv_bipush (v := 38) hx hb dX10_readTruth_66 (by decide) ?_
              refine lv_iconst (v := 0) hx hb dX10_readTruth_68 (by decide) ?_
              obtain ⟨w20, ew20, hf⟩ := st_bd hf
              obtain ⟨r21, M22⟩ := w20
              replace hf := st_u2 hf
              refine q_calli (q_runV (As := [.int 38, .int 0]) (rest := []) hE hH (tz_X9_add l X ha19 (hf := ew20)) kv_X10_55 (q_way_0 ha19) (by omega) rfl hl.1 rfl (Nat.le_of_ble_eq_true rfl) dX10_readTruth_69) hH (fun H locs hH => ?_)
              refine lv_if_eq (tgt := 79) hx hb dX10_readTruth_72 (by decide) (fun hc => ?_) (fun hc => ?_)
              · replace hf := (if_pos hc).symm.trans hf
                refine lv_iconst (v := 0) hx hb dX10_readTruth_79 (by decide) ?_
                replace hf := Option.some.inj hf
                subst hf
                exact hJ ls H locs hH (lv_sub hl [0, 1] rfl)
              · replace hf := (if_neg hc).symm.trans hf
                refine lv_iconst (v := 1) hx hb dX10_readTruth_75 (by decide) ?_
                refine lv_goto (tgt := 80) hx hb dX10_readTruth_76 (by decide) ?_
                replace hf := Option.some.inj hf
                subst hf
                exact hJ ls H locs hH (lv_sub hl [0, 1] rfl)) _ hlp
  exact hG ls H locs hH (lv_sub hl [1, 2, 0] rfl)

theorem dX10_readCondition_0 : decode cX10_readCondition 0 = .ok (.aload_n 0, 1) := by decide +kernel
theorem dX10_readCondition_1 : decode cX10_readCondition 1 = .ok (.iload_n 1, 1) := by decide +kernel
theorem dX10_readCondition_2 : decode cX10_readCondition 2 = .ok (.iload_n 2, 1) := by decide +kernel
theorem dX10_readCondition_3 : decode cX10_readCondition 3 = .ok (.invokevirtual 67, 3) := by decide +kernel
theorem dX10_readCondition_6 : decode cX10_readCondition 6 = .ok (.istore_n 3, 1) := by decide +kernel
theorem dX10_readCondition_7 : decode cX10_readCondition 7 = .ok (.iload_n 3, 1) := by decide +kernel
theorem dX10_readCondition_8 : decode cX10_readCondition 8 = .ok (.ifCond .eq 76, 3) := by decide +kernel
theorem dX10_readCondition_11 : decode cX10_readCondition 11 = .ok (.aload_n 0, 1) := by decide +kernel
theorem dX10_readCondition_12 : decode cX10_readCondition 12 = .ok (.getfield 15, 3) := by decide +kernel
theorem dX10_readCondition_15 : decode cX10_readCondition 15 = .ok (.invokevirtual 37, 3) := by decide +kernel
theorem dX10_readCondition_18 : decode cX10_readCondition 18 = .ok (.bipush 124, 2) := by decide +kernel
theorem dX10_readCondition_20 : decode cX10_readCondition 20 = .ok (.if_icmp .ne 64, 3) := by decide +kernel
theorem dX10_readCondition_23 : decode cX10_readCondition 23 = .ok (.aload_n 0, 1) := by decide +kernel
theorem dX10_readCondition_24 : decode cX10_readCondition 24 = .ok (.getfield 15, 3) := by decide +kernel
theorem dX10_readCondition_27 : decode cX10_readCondition 27 = .ok (.getfield 45, 3) := by decide +kernel
theorem dX10_readCondition_30 : decode cX10_readCondition 30 = .ok (.aload_n 0, 1) := by decide +kernel
theorem dX10_readCondition_31 : decode cX10_readCondition 31 = .ok (.getfield 15, 3) := by decide +kernel
theorem dX10_readCondition_34 : decode cX10_readCondition 34 = .ok (.getfield 70, 3) := by decide +kernel
theorem dX10_readCondition_37 : decode cX10_readCondition 37 = .ok (.if_icmp .ge 47, 3) := by decide +kernel
theorem dX10_readCondition_40 : decode cX10_readCondition 40 = .ok (.aload_n 0, 1) := by decide +kernel
theorem dX10_readCondition_41 : decode cX10_readCondition 41 = .ok (.getfield 15, 3) := by decide +kernel
theorem dX10_readCondition_44 : decode cX10_readCondition 44 = .ok (.dup, 1) := by decide +kernel
theorem dX10_readCondition_45 : decode cX10_readCondition 45 = .ok (.getfield 45, 3) := by decide +kernel
theorem dX10_readCondition_48 : decode cX10_readCondition 48 = .ok (.iconst 1, 1) := by decide +kernel
theorem dX10_readCondition_49 : decode cX10_readCondition 49 = .ok (.iadd, 1) := by decide +kernel
theorem dX10_readCondition_50 : decode cX10_readCondition 50 = .ok (.putfield 45, 3) := by decide +kernel
theorem dX10_readCondition_53 : decode cX10_readCondition 53 = .ok (.aload_n 0, 1) := by decide +kernel
theorem dX10_readCondition_54 : decode cX10_readCondition 54 = .ok (.iload_n 1, 1) := by decide +kernel
theorem dX10_readCondition_55 : decode cX10_readCondition 55 = .ok (.iconst 0, 1) := by decide +kernel
theorem dX10_readCondition_56 : decode cX10_readCondition 56 = .ok (.invokevirtual 67, 3) := by decide +kernel
theorem dX10_readCondition_59 : decode cX10_readCondition 59 = .ok (.ifCond .eq 20, 3) := by decide +kernel
theorem dX10_readCondition_62 : decode cX10_readCondition 62 = .ok (.aload_n 0, 1) := by decide +kernel
theorem dX10_readCondition_63 : decode cX10_readCondition 63 = .ok (.getfield 9, 3) := by decide +kernel
theorem dX10_readCondition_66 : decode cX10_readCondition 66 = .ok (.bipush 124, 2) := by decide +kernel
theorem dX10_readCondition_68 : decode cX10_readCondition 68 = .ok (.iconst 0, 1) := by decide +kernel
theorem dX10_readCondition_69 : decode cX10_readCondition 69 = .ok (.invokevirtual 55, 3) := by decide +kernel
theorem dX10_readCondition_72 : decode cX10_readCondition 72 = .ok (.ifCond .eq 7, 3) := by decide +kernel
theorem dX10_readCondition_75 : decode cX10_readCondition 75 = .ok (.iconst 1, 1) := by decide +kernel
theorem dX10_readCondition_76 : decode cX10_readCondition 76 = .ok (.goto 4, 3) := by decide +kernel
theorem dX10_readCondition_79 : decode cX10_readCondition 79 = .ok (.iconst 0, 1) := by decide +kernel
theorem dX10_readCondition_80 : decode cX10_readCondition 80 = .ok (.istore_n 3, 1) := by decide +kernel
theorem dX10_readCondition_81 : decode cX10_readCondition 81 = .ok (.goto (-74), 3) := by decide +kernel
theorem dX10_readCondition_84 : decode cX10_readCondition 84 = .ok (.iload_n 3, 1) := by decide +kernel
theorem dX10_readCondition_85 : decode cX10_readCondition 85 = .ok (.ireturn, 1) := by decide +kernel
set_option maxRecDepth 100000 in
set_option maxHeartbeats 4000000 in
theorem tzF_X10_readCondition (l : Launch) (X : qX) {rc : Int32 → Bool → qM → Option (Bool × qM)} {lvr : Nat} (hlv : 34 ≤ lvr) (hrc : ∀ {p0 : Int32} {p1 : Bool} {M MR : qM} {r0 : Bool}, rc p0 p1 M = some (r0, MR) → q_Met l X yX10_readUnit cX10_readUnit 5 (some .boolean) (lvr) M [.ref (X.1 4), .int p0, .int (b2i p1)] (q_Qi X (b2i r0) MR)) {p0 : Int32} {p1 : Bool} {M MR : qM} {r0 : Bool} (hf : jWr_readConditionF rc p0 p1 M = some (r0, MR)) : q_Met l X yX10_readCondition cX10_readCondition 4 (some .boolean) (lvr + 2) M [.ref (X.1 4), .int p0, .int (b2i p1)] (q_Qi X (b2i r0) MR) := by
  refine q_enter (by decide) (Nat.le_of_ble_eq_true rfl) ?_
  intro p e s m args below meth c hE hrt hlk H locs hH ls hl
  have hx := hE.1
  have hb := hE.2.1
  have hl : lv_has ls 4 [(0, .ref (X.1 4)), (1, .int p0), (2, .int (b2i p1))] := hl
  unfold jWr_readConditionF at hf
  refine lv_aload_n hx hb dX10_readCondition_0 rfl (lv_at hl 0 rfl) ?_
  refine lv_iload_n hx hb dX10_readCondition_1 rfl (lv_at hl 1 rfl) ?_
  refine lv_iload_n hx hb dX10_readCondition_2 rfl (lv_at hl 2 rfl) ?_
  obtain ⟨w1, ew1, hf⟩ := st_bd hf
  obtain ⟨r2, M3⟩ := w1
  replace hf := st_u2 hf
  refine q_calli (q_runV (As := [.int p0, .int (b2i p1)]) (rest := []) hE hH (tzF_X10_readTruth l X hlv hrc (hf := ew1)) kv_X10_67 qk_4 (by omega) rfl hl.1 rfl (Nat.le_of_ble_eq_true rfl) dX10_readCondition_3) hH (fun H locs hH => ?_)
  refine lv_istore_n (lv' := [(3, .int (b2i r2)), (0, .ref (X.1 4)), (1, .int p0), (2, .int (b2i p1))]) hx hb dX10_readCondition_6 rfl hl (by decide) rfl (fun ls hl => ?_)
  obtain ⟨r8, hlp, hf⟩ := st_bd hf
  have hX : (fun q0 => qu2 q0 (fun z6 M7 => ∀ (ls : Array Slot) (H : Heap) (locs : List Loc), q_H X M7 s H locs → lv_has ls 4 [(3, .int (b2i z6))] → W p l e (q_rm (lvr + 2)) s m args below meth c H locs 0 0 (MQ below (q_Qi X (b2i r0) MR) args s 0 0 (q_A X)) (F0 m 84 ls [])) : (Bool × qM) → Prop) r8 := by
    obtain ⟨z6, M7⟩ := r8
    replace hf := st_u2 hf
    intro ls H locs hH hl
    refine lv_iload_n hx hb dX10_readCondition_84 rfl (lv_at hl 0 rfl) ?_
    replace hf := Option.some.inj hf
    obtain ⟨rfl, rfl⟩ := qi2 hf
    exact pz_retz hE hrt hlk hH rfl dX10_readCondition_85
  clear hf
  have hG := qlp_ind (r := r8) (fun q => qu2 q (fun z4 M5 => ∀ (ls : Array Slot) (H : Heap) (locs : List Loc), q_H X M5 s H locs → lv_has ls 4 [(0, .ref (X.1 4)), (1, .int p0), (3, .int (b2i z4))] → W p l e (q_rm (lvr + 2)) s m args below meth c H locs 0 0 (MQ below (q_Qi X (b2i r0) MR) args s 0 0 (q_A X)) (F0 m 7 ls []))) (by
      intro q o hf hK1 hK2
      obtain ⟨z4, M5⟩ := q
      replace hf := st_u2 hf
      intro ls H locs hH hl
      refine lv_iload_n hx hb dX10_readCondition_7 rfl (lv_at hl 2 rfl) ?_
      refine lv_if_eq (tgt := 84) hx hb dX10_readCondition_8 (by decide) (fun hc => ?_) (fun hc => ?_)
      · replace hf := (if_pos hc).symm.trans hf
        replace hf := hK2 _ (Option.some.inj hf).symm
        subst hf
        exact hX ls H locs hH (lv_sub hl [2] rfl)
      · replace hf := (if_neg hc).symm.trans hf
        refine lv_aload_n hx hb dX10_readCondition_11 rfl (lv_at hl 0 rfl) ?_
        refine pz_gS (a := 1) hE hH fr_X10_15 qk_4 (by decide) dX10_readCondition_12 ?_
        obtain ⟨w9, ew9, hf⟩ := st_bd hf
        obtain ⟨r10, M11⟩ := w9
        replace hf := st_u2 hf
        refine q_calli (q_runV (As := []) (rest := []) hE hH (tz_X4_peek l X (hf := ew9)) kv_X10_37 qk_1 (by omega) rfl hl.1 rfl (Nat.le_of_ble_eq_true rfl) dX10_readCondition_15) hH (fun H locs hH => ?_)
        refine lv_bipush (v := 124) hx hb dX10_readCondition_18 (by decide) ?_
        refine lv_icmp_ne (tgt := 84) hx hb dX10_readCondition_20 (by decide) (fun hc => ?_) (fun hc => ?_)
        · replace hf := (if_neg hc).symm.trans hf
          replace hf := hK2 _ (Option.some.inj hf).symm
          subst hf
          exact hX ls H locs hH (lv_sub hl [2] rfl)
        · replace hf := (if_pos hc).symm.trans hf
          refine lv_aload_n hx hb dX10_readCondition_23 rfl (lv_at hl 0 rfl) ?_
          refine pz_gS (a := 1) hE hH fr_X10_15 qk_4 (by decide) dX10_readCondition_24 ?_
          refine pz_gI hE hH fr_X10_45 qk_1 dX10_readCondition_27 ?_
          refine lv_aload_n hx hb dX10_readCondition_30 rfl (lv_at hl 0 rfl) ?_
          refine pz_gS (a := 1) hE hH fr_X10_15 qk_4 (by decide) dX10_readCondition_31 ?_
          refine pz_gI hE hH fr_X10_70 qk_1 dX10_readCondition_34 ?_
          refine lv_icmp_ge (tgt := 84) hx hb dX10_readCondition_37 (by decide) (fun hc => ?_) (fun hc => ?_)
          · replace hf := (if_pos hc).symm.trans hf
            replace hf := hK2 _ (Option.some.inj hf).symm
            subst hf
            exact hX ls H locs hH (lv_sub hl [2] rfl)
          · replace hf := (if_neg hc).symm.trans hf
            refine lv_aload_n hx hb dX10_readCondition_40 rfl (lv_at hl 0 rfl) ?_
            refine pz_gS (a := 1) hE hH fr_X10_15 qk_4 (by decide) dX10_readCondition_41 ?_
            refine lv_dup hx hb dX10_readCondition_44 rfl ?_
            refine pz_gI hE hH fr_X10_45 qk_1 dX10_readCondition_45 ?_
            refine lv_iconst (v := 1) hx hb dX10_readCondition_48 (by decide) ?_
            refine lv_iadd hx hb dX10_readCondition_49 ?_
            obtain ⟨M12, eM12, hf⟩ := st_lty hf
            refine pz_pI hE hH fw_X10_45 qk_1  eM12 dX10_readCondition_50 (fun H locs hH => ?_)
            refine lv_aload_n hx hb dX10_readCondition_53 rfl (lv_at hl 0 rfl) ?_
            refine lv_iload_n hx hb dX10_readCondition_54 rfl (lv_at hl 1 rfl) ?_
            refine lv_iconst (v := 0) hx hb dX10_readCondition_55 (by decide) ?_
            obtain ⟨w13, ew13, hf⟩ := st_bd hf
            obtain ⟨r14, M15⟩ := w13
            replace hf := st_u2 hf
            refine q_calli (q_runV (As := [.int p0, .int 0]) (rest := []) hE hH (tzF_X10_readTruth l X hlv hrc (hf := ew13)) kv_X10_67 qk_4 (by omega) rfl hl.1 rfl (Nat.le_of_ble_eq_true rfl) dX10_readCondition_56) hH (fun H locs hH => ?_)
            obtain ⟨w18, hr, hf⟩ := st_bd hf
            have hJ : qu2 w18 (fun z16 M17 => ∀ (ls : Array Slot) (H : Heap) (locs : List Loc), q_H X M17 s H locs → lv_has ls 4 [(0, .ref (X.1 4)), (1, .int p0)] → W p l e (q_rm (lvr + 2)) s m args below meth c H locs 0 0 (MQ below (q_Qi X (b2i r0) MR) args s 0 0 (q_A X)) (F0 m 80 ls [.int (b2i z16)])) := by
              obtain ⟨z16, M17⟩ := w18
              replace hf := st_u2 hf
              intro ls H locs hH hl
              refine lv_istore_n (lv' := [(3, .int (b2i z16)), (0, .ref (X.1 4)), (1, .int p0)]) hx hb dX10_readCondition_80 rfl hl (by decide) rfl (fun ls hl => ?_)
              refine lv_goto (tgt := 7) hx hb dX10_readCondition_81 (by decide) ?_
              exact hK1 _ (Option.some.inj hf).symm ls H locs hH (lv_sub hl [1, 2, 0] rfl)
            clear hf
            replace hf := hr
            refine lv_if_eq (tgt := 79) hx hb dX10_readCondition_59 (by decide) (fun hc => ?_) (fun hc => ?_)
            · replace hf := (if_pos hc).symm.trans hf
              refine lv_iconst (v := 0) hx hb dX10_readCondition_79 (by decide) ?_
              replace hf := Option.some.inj hf
              subst hf
              exact hJ ls H locs hH (lv_sub hl [0, 1] rfl)
            · replace hf := (if_neg hc).symm.trans hf
              refine lv_aload_n hx hb dX10_readCondition_62 rfl (lv_at hl 0 rfl) ?_
              obtain ⟨a19, ea19, hf⟩ := st_bd hf
              refine pz_gR hE hH fr_X10_9 qk_4 ea19 dX10_readCondition_63 (fun ha19 => ?_)
              replace ha19 : q_way a19 = true := ha19
              refine lv_bipush (v := 124) hx hb dX10_readCondition_66 (by decide) ?_
              refine lv_iconst (v := 0) hx hb dX10_readCondition_68 (by decide) ?_
              obtain ⟨w20, ew20, hf⟩ := st_bd hf
              obtain ⟨r21, M22⟩ := w20
              replace hf := st_u2 hf
              refine q_calli (q_runV (As := [.int 124, .int 0]) (rest := []) hE hH (tz_X9_add l X ha19 (hf := ew20)) kv_X10_55 (q_way_0 ha19) (by omega) rfl hl.1 rfl (Nat.le_of_ble_eq_true rfl) dX10_readCondition_69) hH (fun H locs hH => ?_)
              refine lv_if_eq (tgt := 79) hx hb dX10_readCondition_72 (by decide) (fun hc => ?_) (fun hc => ?_)
              · replace hf := (if_pos hc).symm.trans hf
                refine lv_iconst (v := 0) hx hb dX10_readCondition_79 (by decide) ?_
                replace hf := Option.some.inj hf
                subst hf
                exact hJ ls H locs hH (lv_sub hl [0, 1] rfl)
              · replace hf := (if_neg hc).symm.trans hf
                refine lv_iconst (v := 1) hx hb dX10_readCondition_75 (by decide) ?_
                refine lv_goto (tgt := 80) hx hb dX10_readCondition_76 (by decide) ?_
                replace hf := Option.some.inj hf
                subst hf
                exact hJ ls H locs hH (lv_sub hl [0, 1] rfl)) _ hlp
  exact hG ls H locs hH (lv_sub hl [1, 2, 0] rfl)

theorem dX10_readUnit_0 : decode cX10_readUnit 0 = .ok (.aload_n 0, 1) := by decide +kernel
theorem dX10_readUnit_1 : decode cX10_readUnit 1 = .ok (.getfield 15, 3) := by decide +kernel
theorem dX10_readUnit_4 : decode cX10_readUnit 4 = .ok (.invokevirtual 37, 3) := by decide +kernel
theorem dX10_readUnit_7 : decode cX10_readUnit 7 = .ok (.istore_n 3, 1) := by decide +kernel
theorem dX10_readUnit_8 : decode cX10_readUnit 8 = .ok (.iload_n 2, 1) := by decide +kernel
theorem dX10_readUnit_9 : decode cX10_readUnit 9 = .ok (.ifCond .ne 47, 3) := by decide +kernel
theorem dX10_readUnit_12 : decode cX10_readUnit 12 = .ok (.iload_n 3, 1) := by decide +kernel
theorem dX10_readUnit_13 : decode cX10_readUnit 13 = .ok (.bipush 33, 2) := by decide +kernel
theorem dX10_readUnit_15 : decode cX10_readUnit 15 = .ok (.if_icmp .ne 41, 3) := by decide +kernel
theorem dX10_readUnit_18 : decode cX10_readUnit 18 = .ok (.aload_n 0, 1) := by decide +kernel
theorem dX10_readUnit_19 : decode cX10_readUnit 19 = .ok (.iload_n 1, 1) := by decide +kernel
theorem dX10_readUnit_20 : decode cX10_readUnit 20 = .ok (.invokevirtual 76, 3) := by decide +kernel
theorem dX10_readUnit_23 : decode cX10_readUnit 23 = .ok (.ifCond .eq 31, 3) := by decide +kernel
theorem dX10_readUnit_26 : decode cX10_readUnit 26 = .ok (.aload_n 0, 1) := by decide +kernel
theorem dX10_readUnit_27 : decode cX10_readUnit 27 = .ok (.iload_n 1, 1) := by decide +kernel
theorem dX10_readUnit_28 : decode cX10_readUnit 28 = .ok (.iconst 1, 1) := by decide +kernel
theorem dX10_readUnit_29 : decode cX10_readUnit 29 = .ok (.iadd, 1) := by decide +kernel
theorem dX10_readUnit_30 : decode cX10_readUnit 30 = .ok (.iconst 0, 1) := by decide +kernel
theorem dX10_readUnit_31 : decode cX10_readUnit 31 = .ok (.invokevirtual 73, 3) := by decide +kernel
theorem dX10_readUnit_34 : decode cX10_readUnit 34 = .ok (.ifCond .eq 20, 3) := by decide +kernel
theorem dX10_readUnit_37 : decode cX10_readUnit 37 = .ok (.aload_n 0, 1) := by decide +kernel
theorem dX10_readUnit_38 : decode cX10_readUnit 38 = .ok (.getfield 9, 3) := by decide +kernel
theorem dX10_readUnit_41 : decode cX10_readUnit 41 = .ok (.bipush 33, 2) := by decide +kernel
theorem dX10_readUnit_43 : decode cX10_readUnit 43 = .ok (.iconst 0, 1) := by decide +kernel
theorem dX10_readUnit_44 : decode cX10_readUnit 44 = .ok (.invokevirtual 55, 3) := by decide +kernel
theorem dX10_readUnit_47 : decode cX10_readUnit 47 = .ok (.ifCond .eq 7, 3) := by decide +kernel
theorem dX10_readUnit_50 : decode cX10_readUnit 50 = .ok (.iconst 1, 1) := by decide +kernel
theorem dX10_readUnit_51 : decode cX10_readUnit 51 = .ok (.goto 4, 3) := by decide +kernel
theorem dX10_readUnit_54 : decode cX10_readUnit 54 = .ok (.iconst 0, 1) := by decide +kernel
theorem dX10_readUnit_55 : decode cX10_readUnit 55 = .ok (.ireturn, 1) := by decide +kernel
theorem dX10_readUnit_56 : decode cX10_readUnit 56 = .ok (.iload_n 2, 1) := by decide +kernel
theorem dX10_readUnit_57 : decode cX10_readUnit 57 = .ok (.ifCond .ne 46, 3) := by decide +kernel
theorem dX10_readUnit_60 : decode cX10_readUnit 60 = .ok (.iload_n 3, 1) := by decide +kernel
theorem dX10_readUnit_61 : decode cX10_readUnit 61 = .ok (.bipush 40, 2) := by decide +kernel
theorem dX10_readUnit_63 : decode cX10_readUnit 63 = .ok (.if_icmp .ne 40, 3) := by decide +kernel
theorem dX10_readUnit_66 : decode cX10_readUnit 66 = .ok (.aload_n 0, 1) := by decide +kernel
theorem dX10_readUnit_67 : decode cX10_readUnit 67 = .ok (.iload_n 1, 1) := by decide +kernel
theorem dX10_readUnit_68 : decode cX10_readUnit 68 = .ok (.invokevirtual 76, 3) := by decide +kernel
theorem dX10_readUnit_71 : decode cX10_readUnit 71 = .ok (.ifCond .eq 30, 3) := by decide +kernel
theorem dX10_readUnit_74 : decode cX10_readUnit 74 = .ok (.aload_n 0, 1) := by decide +kernel
theorem dX10_readUnit_75 : decode cX10_readUnit 75 = .ok (.iload_n 1, 1) := by decide +kernel
theorem dX10_readUnit_76 : decode cX10_readUnit 76 = .ok (.iconst 1, 1) := by decide +kernel
theorem dX10_readUnit_77 : decode cX10_readUnit 77 = .ok (.iadd, 1) := by decide +kernel
theorem dX10_readUnit_78 : decode cX10_readUnit 78 = .ok (.iconst 0, 1) := by decide +kernel
theorem dX10_readUnit_79 : decode cX10_readUnit 79 = .ok (.invokevirtual 59, 3) := by decide +kernel
theorem dX10_readUnit_82 : decode cX10_readUnit 82 = .ok (.ifCond .eq 19, 3) := by decide +kernel
theorem dX10_readUnit_85 : decode cX10_readUnit 85 = .ok (.aload_n 0, 1) := by decide +kernel
theorem dX10_readUnit_86 : decode cX10_readUnit 86 = .ok (.getfield 15, 3) := by decide +kernel
theorem dX10_readUnit_89 : decode cX10_readUnit 89 = .ok (.bipush 41, 2) := by decide +kernel
theorem dX10_readUnit_91 : decode cX10_readUnit 91 = .ok (.invokevirtual 41, 3) := by decide +kernel
theorem dX10_readUnit_94 : decode cX10_readUnit 94 = .ok (.ifCond .eq 7, 3) := by decide +kernel
theorem dX10_readUnit_97 : decode cX10_readUnit 97 = .ok (.iconst 1, 1) := by decide +kernel
theorem dX10_readUnit_98 : decode cX10_readUnit 98 = .ok (.goto 4, 3) := by decide +kernel
theorem dX10_readUnit_101 : decode cX10_readUnit 101 = .ok (.iconst 0, 1) := by decide +kernel
theorem dX10_readUnit_102 : decode cX10_readUnit 102 = .ok (.ireturn, 1) := by decide +kernel
theorem dX10_readUnit_103 : decode cX10_readUnit 103 = .ok (.iload_n 2, 1) := by decide +kernel
theorem dX10_readUnit_104 : decode cX10_readUnit 104 = .ok (.ifCond .ne 13, 3) := by decide +kernel
theorem dX10_readUnit_107 : decode cX10_readUnit 107 = .ok (.aload_n 0, 1) := by decide +kernel
theorem dX10_readUnit_108 : decode cX10_readUnit 108 = .ok (.iload_n 1, 1) := by decide +kernel
theorem dX10_readUnit_109 : decode cX10_readUnit 109 = .ok (.invokevirtual 48, 3) := by decide +kernel
theorem dX10_readUnit_112 : decode cX10_readUnit 112 = .ok (.ifCond .ne 5, 3) := by decide +kernel
theorem dX10_readUnit_115 : decode cX10_readUnit 115 = .ok (.iconst 0, 1) := by decide +kernel
theorem dX10_readUnit_116 : decode cX10_readUnit 116 = .ok (.ireturn, 1) := by decide +kernel
theorem dX10_readUnit_117 : decode cX10_readUnit 117 = .ok (.aload_n 0, 1) := by decide +kernel
theorem dX10_readUnit_118 : decode cX10_readUnit 118 = .ok (.getfield 15, 3) := by decide +kernel
theorem dX10_readUnit_121 : decode cX10_readUnit 121 = .ok (.invokevirtual 37, 3) := by decide +kernel
theorem dX10_readUnit_124 : decode cX10_readUnit 124 = .ok (.istore 4, 2) := by decide +kernel
theorem dX10_readUnit_126 : decode cX10_readUnit 126 = .ok (.iload 4, 2) := by decide +kernel
theorem dX10_readUnit_128 : decode cX10_readUnit 128 = .ok (.invokestatic 52, 3) := by decide +kernel
theorem dX10_readUnit_131 : decode cX10_readUnit 131 = .ok (.ifCond .ne 18, 3) := by decide +kernel
theorem dX10_readUnit_134 : decode cX10_readUnit 134 = .ok (.aload_n 0, 1) := by decide +kernel
theorem dX10_readUnit_135 : decode cX10_readUnit 135 = .ok (.getfield 15, 3) := by decide +kernel
theorem dX10_readUnit_138 : decode cX10_readUnit 138 = .ok (.aload_n 0, 1) := by decide +kernel
theorem dX10_readUnit_139 : decode cX10_readUnit 139 = .ok (.getfield 15, 3) := by decide +kernel
theorem dX10_readUnit_142 : decode cX10_readUnit 142 = .ok (.getfield 45, 3) := by decide +kernel
theorem dX10_readUnit_145 : decode cX10_readUnit 145 = .ok (.invokevirtual 79, 3) := by decide +kernel
theorem dX10_readUnit_148 : decode cX10_readUnit 148 = .ok (.ireturn, 1) := by decide +kernel
theorem dX10_readUnit_149 : decode cX10_readUnit 149 = .ok (.aload_n 0, 1) := by decide +kernel
theorem dX10_readUnit_150 : decode cX10_readUnit 150 = .ok (.getfield 15, 3) := by decide +kernel
theorem dX10_readUnit_153 : decode cX10_readUnit 153 = .ok (.dup, 1) := by decide +kernel
theorem dX10_readUnit_154 : decode cX10_readUnit 154 = .ok (.getfield 45, 3) := by decide +kernel
theorem dX10_readUnit_157 : decode cX10_readUnit 157 = .ok (.iconst 1, 1) := by decide +kernel
theorem dX10_readUnit_158 : decode cX10_readUnit 158 = .ok (.iadd, 1) := by decide +kernel
theorem dX10_readUnit_159 : decode cX10_readUnit 159 = .ok (.putfield 45, 3) := by decide +kernel
theorem dX10_readUnit_162 : decode cX10_readUnit 162 = .ok (.aload_n 0, 1) := by decide +kernel
theorem dX10_readUnit_163 : decode cX10_readUnit 163 = .ok (.iload_n 1, 1) := by decide +kernel
theorem dX10_readUnit_164 : decode cX10_readUnit 164 = .ok (.invokevirtual 48, 3) := by decide +kernel
theorem dX10_readUnit_167 : decode cX10_readUnit 167 = .ok (.ifCond .eq 20, 3) := by decide +kernel
theorem dX10_readUnit_170 : decode cX10_readUnit 170 = .ok (.aload_n 0, 1) := by decide +kernel
theorem dX10_readUnit_171 : decode cX10_readUnit 171 = .ok (.getfield 9, 3) := by decide +kernel
theorem dX10_readUnit_174 : decode cX10_readUnit 174 = .ok (.iload 4, 2) := by decide +kernel
theorem dX10_readUnit_176 : decode cX10_readUnit 176 = .ok (.iconst 0, 1) := by decide +kernel
theorem dX10_readUnit_177 : decode cX10_readUnit 177 = .ok (.invokevirtual 55, 3) := by decide +kernel
theorem dX10_readUnit_180 : decode cX10_readUnit 180 = .ok (.ifCond .eq 7, 3) := by decide +kernel
theorem dX10_readUnit_183 : decode cX10_readUnit 183 = .ok (.iconst 1, 1) := by decide +kernel
theorem dX10_readUnit_184 : decode cX10_readUnit 184 = .ok (.goto 4, 3) := by decide +kernel
theorem dX10_readUnit_187 : decode cX10_readUnit 187 = .ok (.iconst 0, 1) := by decide +kernel
theorem dX10_readUnit_188 : decode cX10_readUnit 188 = .ok (.ireturn, 1) := by decide +kernel
set_option maxRecDepth 100000 in
set_option maxHeartbeats 4000000 in
theorem tzF_X10_readUnit (l : Launch) (X : qX) {rc : Int32 → Bool → qM → Option (Bool × qM)} {lvr : Nat} (hlv : 34 ≤ lvr) (hrc : ∀ {p0 : Int32} {p1 : Bool} {M MR : qM} {r0 : Bool}, rc p0 p1 M = some (r0, MR) → q_Met l X yX10_readUnit cX10_readUnit 5 (some .boolean) (lvr) M [.ref (X.1 4), .int p0, .int (b2i p1)] (q_Qi X (b2i r0) MR)) {p0 : Int32} {p1 : Bool} {M MR : qM} {r0 : Bool} (hf : jWr_readUnitF rc p0 p1 M = some (r0, MR)) : q_Met l X yX10_readUnit cX10_readUnit 5 (some .boolean) (lvr + 3) M [.ref (X.1 4), .int p0, .int (b2i p1)] (q_Qi X (b2i r0) MR) := by
  refine q_enter (by decide) (Nat.le_of_ble_eq_true rfl) ?_
  intro p e s m args below meth c hE hrt hlk H locs hH ls hl
  have hx := hE.1
  have hb := hE.2.1
  have hl : lv_has ls 5 [(0, .ref (X.1 4)), (1, .int p0), (2, .int (b2i p1))] := hl
  unfold jWr_readUnitF at hf
  refine lv_aload_n hx hb dX10_readUnit_0 rfl (lv_at hl 0 rfl) ?_
  refine pz_gS (a := 1) hE hH fr_X10_15 qk_4 (by decide) dX10_readUnit_1 ?_
  obtain ⟨w1, ew1, hf⟩ := st_bd hf
  obtain ⟨r2, M3⟩ := w1
  replace hf := st_u2 hf
  refine q_calli (q_runV (As := []) (rest := []) hE hH (tz_X4_peek l X (hf := ew1)) kv_X10_37 qk_1 (by omega) rfl hl.1 rfl (Nat.le_of_ble_eq_true rfl) dX10_readUnit_4) hH (fun H locs hH => ?_)
  refine lv_istore_n (lv' := [(3, .int r2), (0, .ref (X.1 4)), (1, .int p0), (2, .int (b2i p1))]) hx hb dX10_readUnit_7 rfl hl (by decide) rfl (fun ls hl => ?_)
  refine lv_iload_n hx hb dX10_readUnit_8 rfl (lv_at hl 3 rfl) ?_
  refine lv_if_ne (tgt := 56) hx hb dX10_readUnit_9 (by decide) (fun hc => ?_) (fun hc => ?_)
  · replace hf := (if_neg hc).symm.trans hf
    refine lv_iload_n hx hb dX10_readUnit_56 rfl (lv_at hl 3 rfl) ?_
    refine lv_if_ne (tgt := 103) hx hb dX10_readUnit_57 (by decide) (fun hc => ?_) (fun hc => ?_)
    · replace hf := (if_neg hc).symm.trans hf
      refine lv_iload_n hx hb dX10_readUnit_103 rfl (lv_at hl 3 rfl) ?_
      refine lv_if_ne (tgt := 117) hx hb dX10_readUnit_104 (by decide) (fun hc => ?_) (fun hc => ?_)
      · replace hf := (if_neg hc).symm.trans hf
        refine lv_aload_n hx hb dX10_readUnit_117 rfl (lv_at hl 1 rfl) ?_
        refine pz_gS (a := 1) hE hH fr_X10_15 qk_4 (by decide) dX10_readUnit_118 ?_
        obtain ⟨w4, ew4, hf⟩ := st_bd hf
        obtain ⟨r5, M6⟩ := w4
        replace hf := st_u2 hf
        refine q_calli (q_runV (As := []) (rest := []) hE hH (tz_X4_peek l X (hf := ew4)) kv_X10_37 qk_1 (by omega) rfl hl.1 rfl (Nat.le_of_ble_eq_true rfl) dX10_readUnit_121) hH (fun H locs hH => ?_)
        refine lv_istore (lv' := [(4, .int r5), (3, .int r2), (0, .ref (X.1 4)), (1, .int p0), (2, .int (b2i p1))]) hx hb dX10_readUnit_124 hl (by decide) rfl (fun ls hl => ?_)
        refine lv_iload hx hb dX10_readUnit_126 (lv_at hl 0 rfl) ?_
        refine q_calli (q_runS (As := [.int r5]) (rest := []) hE hH (tz_X10_isComparison l X (M := M6) (hf := rfl)) ks_X10_52 (by omega) rfl hl.1 rfl (Nat.le_of_ble_eq_true rfl) dX10_readUnit_128) hH (fun H locs hH => ?_)
        refine lv_if_ne (tgt := 149) hx hb dX10_readUnit_131 (by decide) (fun hc => ?_) (fun hc => ?_)
        · replace hf := (if_neg hc).symm.trans hf
          refine lv_aload_n hx hb dX10_readUnit_149 rfl (lv_at hl 2 rfl) ?_
          refine pz_gS (a := 1) hE hH fr_X10_15 qk_4 (by decide) dX10_readUnit_150 ?_
          refine lv_dup hx hb dX10_readUnit_153 rfl ?_
          refine pz_gI hE hH fr_X10_45 qk_1 dX10_readUnit_154 ?_
          refine lv_iconst (v := 1) hx hb dX10_readUnit_157 (by decide) ?_
          refine lv_iadd hx hb dX10_readUnit_158 ?_
          obtain ⟨M7, eM7, hf⟩ := st_lty hf
          refine pz_pI hE hH fw_X10_45 qk_1  eM7 dX10_readUnit_159 (fun H locs hH => ?_)
          refine lv_aload_n hx hb dX10_readUnit_162 rfl (lv_at hl 2 rfl) ?_
          refine lv_iload_n hx hb dX10_readUnit_163 rfl (lv_at hl 3 rfl) ?_
          obtain ⟨w8, ew8, hf⟩ := st_bd hf
          obtain ⟨r9, M10⟩ := w8
          replace hf := st_u2 hf
          refine q_calli (q_runV (As := [.int p0]) (rest := []) hE hH (tz_X10_readSum l X (hf := ew8)) kv_X10_48 qk_4 (by omega) rfl hl.1 rfl (Nat.le_of_ble_eq_true rfl) dX10_readUnit_164) hH (fun H locs hH => ?_)
          obtain ⟨w13, hr, hf⟩ := st_bd hf
          have hJ : qu2 w13 (fun z11 M12 => ∀ (ls : Array Slot) (H : Heap) (locs : List Loc), q_H X M12 s H locs → lv_has ls 5 [] → W p l e (q_rm (lvr + 3)) s m args below meth c H locs 0 0 (MQ below (q_Qi X (b2i r0) MR) args s 0 0 (q_A X)) (F0 m 188 ls [.int (b2i z11)])) := by
            obtain ⟨z11, M12⟩ := w13
            replace hf := st_u2 hf
            intro ls H locs hH hl
            replace hf := Option.some.inj hf
            obtain ⟨rfl, rfl⟩ := qi2 hf
            exact pz_retz hE hrt hlk hH rfl dX10_readUnit_188
          clear hf
          replace hf := hr
          refine lv_if_eq (tgt := 187) hx hb dX10_readUnit_167 (by decide) (fun hc => ?_) (fun hc => ?_)
          · replace hf := (if_pos hc).symm.trans hf
            refine lv_iconst (v := 0) hx hb dX10_readUnit_187 (by decide) ?_
            replace hf := Option.some.inj hf
            subst hf
            exact hJ ls H locs hH (lv_sub hl [] rfl)
          · replace hf := (if_neg hc).symm.trans hf
            refine lv_aload_n hx hb dX10_readUnit_170 rfl (lv_at hl 2 rfl) ?_
            obtain ⟨a14, ea14, hf⟩ := st_bd hf
            refine pz_gR hE hH fr_X10_9 qk_4 ea14 dX10_readUnit_171 (fun ha14 => ?_)
            replace ha14 : q_way a14 = true := ha14
            refine lv_iload hx hb dX10_readUnit_174 (lv_at hl 0 rfl) ?_
            refine lv_iconst (v := 0) hx hb dX10_readUnit_176 (by decide) ?_
            obtain ⟨w15, ew15, hf⟩ := st_bd hf
            obtain ⟨r16, M17⟩ := w15
            replace hf := st_u2 hf
            refine q_calli (q_runV (As := [.int r5, .int 0]) (rest := []) hE hH (tz_X9_add l X ha14 (hf := ew15)) kv_X10_55 (q_way_0 ha14) (by omega) rfl hl.1 rfl (Nat.le_of_ble_eq_true rfl) dX10_readUnit_177) hH (fun H locs hH => ?_)
            refine lv_if_eq (tgt := 187) hx hb dX10_readUnit_180 (by decide) (fun hc => ?_) (fun hc => ?_)
            · replace hf := (if_pos hc).symm.trans hf
              refine lv_iconst (v := 0) hx hb dX10_readUnit_187 (by decide) ?_
              replace hf := Option.some.inj hf
              subst hf
              exact hJ ls H locs hH (lv_sub hl [] rfl)
            · replace hf := (if_neg hc).symm.trans hf
              refine lv_iconst (v := 1) hx hb dX10_readUnit_183 (by decide) ?_
              refine lv_goto (tgt := 188) hx hb dX10_readUnit_184 (by decide) ?_
              replace hf := Option.some.inj hf
              subst hf
              exact hJ ls H locs hH (lv_sub hl [] rfl)
        · replace hf := (if_pos hc).symm.trans hf
          refine lv_aload_n hx hb dX10_readUnit_134 rfl (lv_at hl 2 rfl) ?_
          refine pz_gS (a := 1) hE hH fr_X10_15 qk_4 (by decide) dX10_readUnit_135 ?_
          refine lv_aload_n hx hb dX10_readUnit_138 rfl (lv_at hl 2 rfl) ?_
          refine pz_gS (a := 1) hE hH fr_X10_15 qk_4 (by decide) dX10_readUnit_139 ?_
          refine pz_gI hE hH fr_X10_45 qk_1 dX10_readUnit_142 ?_
          obtain ⟨w18, ew18, hf⟩ := st_lty hf
          obtain ⟨r19, M20⟩ := w18
          replace hf := st_u2 hf
          refine q_calli (q_runV (As := [.int (M6.1 1 2)]) (rest := []) hE hH (tz_X4_fail l X (hf := ew18.symm)) kv_X10_79 qk_1 (by omega) rfl hl.1 rfl (Nat.le_of_ble_eq_true rfl) dX10_readUnit_145) hH (fun H locs hH => ?_)
          replace hf := Option.some.inj hf
          obtain ⟨rfl, rfl⟩ := qi2 hf
          exact pz_retz hE hrt hlk hH rfl dX10_readUnit_148
      · replace hf := (if_pos hc).symm.trans hf
        refine lv_aload_n hx hb dX10_readUnit_107 rfl (lv_at hl 1 rfl) ?_
        refine lv_iload_n hx hb dX10_readUnit_108 rfl (lv_at hl 2 rfl) ?_
        obtain ⟨w21, ew21, hf⟩ := st_bd hf
        obtain ⟨r22, M23⟩ := w21
        replace hf := st_u2 hf
        refine q_calli (q_runV (As := [.int p0]) (rest := []) hE hH (tz_X10_readSum l X (hf := ew21)) kv_X10_48 qk_4 (by omega) rfl hl.1 rfl (Nat.le_of_ble_eq_true rfl) dX10_readUnit_109) hH (fun H locs hH => ?_)
        refine lv_if_ne (tgt := 117) hx hb dX10_readUnit_112 (by decide) (fun hc => ?_) (fun hc => ?_)
        · replace hf := (if_neg hc).symm.trans hf
          refine lv_aload_n hx hb dX10_readUnit_117 rfl (lv_at hl 1 rfl) ?_
          refine pz_gS (a := 1) hE hH fr_X10_15 qk_4 (by decide) dX10_readUnit_118 ?_
          obtain ⟨w24, ew24, hf⟩ := st_bd hf
          obtain ⟨r25, M26⟩ := w24
          replace hf := st_u2 hf
          refine q_calli (q_runV (As := []) (rest := []) hE hH (tz_X4_peek l X (hf := ew24)) kv_X10_37 qk_1 (by omega) rfl hl.1 rfl (Nat.le_of_ble_eq_true rfl) dX10_readUnit_121) hH (fun H locs hH => ?_)
          refine lv_istore (lv' := [(4, .int r25), (3, .int r2), (0, .ref (X.1 4)), (1, .int p0), (2, .int (b2i p1))]) hx hb dX10_readUnit_124 hl (by decide) rfl (fun ls hl => ?_)
          refine lv_iload hx hb dX10_readUnit_126 (lv_at hl 0 rfl) ?_
          refine q_calli (q_runS (As := [.int r25]) (rest := []) hE hH (tz_X10_isComparison l X (M := M26) (hf := rfl)) ks_X10_52 (by omega) rfl hl.1 rfl (Nat.le_of_ble_eq_true rfl) dX10_readUnit_128) hH (fun H locs hH => ?_)
          refine lv_if_ne (tgt := 149) hx hb dX10_readUnit_131 (by decide) (fun hc => ?_) (fun hc => ?_)
          · replace hf := (if_neg hc).symm.trans hf
            refine lv_aload_n hx hb dX10_readUnit_149 rfl (lv_at hl 2 rfl) ?_
            refine pz_gS (a := 1) hE hH fr_X10_15 qk_4 (by decide) dX10_readUnit_150 ?_
            refine lv_dup hx hb dX10_readUnit_153 rfl ?_
            refine pz_gI hE hH fr_X10_45 qk_1 dX10_readUnit_154 ?_
            refine lv_iconst (v := 1) hx hb dX10_readUnit_157 (by decide) ?_
            refine lv_iadd hx hb dX10_readUnit_158 ?_
            obtain ⟨M27, eM27, hf⟩ := st_lty hf
            refine pz_pI hE hH fw_X10_45 qk_1  eM27 dX10_readUnit_159 (fun H locs hH => ?_)
            refine lv_aload_n hx hb dX10_readUnit_162 rfl (lv_at hl 2 rfl) ?_
            refine lv_iload_n hx hb dX10_readUnit_163 rfl (lv_at hl 3 rfl) ?_
            obtain ⟨w28, ew28, hf⟩ := st_bd hf
            obtain ⟨r29, M30⟩ := w28
            replace hf := st_u2 hf
            refine q_calli (q_runV (As := [.int p0]) (rest := []) hE hH (tz_X10_readSum l X (hf := ew28)) kv_X10_48 qk_4 (by omega) rfl hl.1 rfl (Nat.le_of_ble_eq_true rfl) dX10_readUnit_164) hH (fun H locs hH => ?_)
            obtain ⟨w33, hr, hf⟩ := st_bd hf
            have hJ : qu2 w33 (fun z31 M32 => ∀ (ls : Array Slot) (H : Heap) (locs : List Loc), q_H X M32 s H locs → lv_has ls 5 [] → W p l e (q_rm (lvr + 3)) s m args below meth c H locs 0 0 (MQ below (q_Qi X (b2i r0) MR) args s 0 0 (q_A X)) (F0 m 188 ls [.int (b2i z31)])) := by
              obtain ⟨z31, M32⟩ := w33
              replace hf := st_u2 hf
              intro ls H locs hH hl
              replace hf := Option.some.inj hf
              obtain ⟨rfl, rfl⟩ := qi2 hf
              exact pz_retz hE hrt hlk hH rfl dX10_readUnit_188
            clear hf
            replace hf := hr
            refine lv_if_eq (tgt := 187) hx hb dX10_readUnit_167 (by decide) (fun hc => ?_) (fun hc => ?_)
            · replace hf := (if_pos hc).symm.trans hf
              refine lv_iconst (v := 0) hx hb dX10_readUnit_187 (by decide) ?_
              replace hf := Option.some.inj hf
              subst hf
              exact hJ ls H locs hH (lv_sub hl [] rfl)
            · replace hf := (if_neg hc).symm.trans hf
              refine lv_aload_n hx hb dX10_readUnit_170 rfl (lv_at hl 2 rfl) ?_
              obtain ⟨a34, ea34, hf⟩ := st_bd hf
              refine pz_gR hE hH fr_X10_9 qk_4 ea34 dX10_readUnit_171 (fun ha34 => ?_)
              replace ha34 : q_way a34 = true := ha34
              refine lv_iload hx hb dX10_readUnit_174 (lv_at hl 0 rfl) ?_
              refine lv_iconst (v := 0) hx hb dX10_readUnit_176 (by decide) ?_
              obtain ⟨w35, ew35, hf⟩ := st_bd hf
              obtain ⟨r36, M37⟩ := w35
              replace hf := st_u2 hf
              refine q_calli (q_runV (As := [.int r25, .int 0]) (rest := []) hE hH (tz_X9_add l X ha34 (hf := ew35)) kv_X10_55 (q_way_0 ha34) (by omega) rfl hl.1 rfl (Nat.le_of_ble_eq_true rfl) dX10_readUnit_177) hH (fun H locs hH => ?_)
              refine lv_if_eq (tgt := 187) hx hb dX10_readUnit_180 (by decide) (fun hc => ?_) (fun hc => ?_)
              · replace hf := (if_pos hc).symm.trans hf
                refine lv_iconst (v := 0) hx hb dX10_readUnit_187 (by decide) ?_
                replace hf := Option.some.inj hf
                subst hf
                exact hJ ls H locs hH (lv_sub hl [] rfl)
              · replace hf := (if_neg hc).symm.trans hf
                refine lv_iconst (v := 1) hx hb dX10_readUnit_183 (by decide) ?_
                refine lv_goto (tgt := 188) hx hb dX10_readUnit_184 (by decide) ?_
                replace hf := Option.some.inj hf
                subst hf
                exact hJ ls H locs hH (lv_sub hl [] rfl)
          · replace hf := (if_pos hc).symm.trans hf
            refine lv_aload_n hx hb dX10_readUnit_134 rfl (lv_at hl 2 rfl) ?_
            refine pz_gS (a := 1) hE hH fr_X10_15 qk_4 (by decide) dX10_readUnit_135 ?_
            refine lv_aload_n hx hb dX10_readUnit_138 rfl (lv_at hl 2 rfl) ?_
            refine pz_gS (a := 1) hE hH fr_X10_15 qk_4 (by decide) dX10_readUnit_139 ?_
            refine pz_gI hE hH fr_X10_45 qk_1 dX10_readUnit_142 ?_
            obtain ⟨w38, ew38, hf⟩ := st_lty hf
            obtain ⟨r39, M40⟩ := w38
            replace hf := st_u2 hf
            refine q_calli (q_runV (As := [.int (M26.1 1 2)]) (rest := []) hE hH (tz_X4_fail l X (hf := ew38.symm)) kv_X10_79 qk_1 (by omega) rfl hl.1 rfl (Nat.le_of_ble_eq_true rfl) dX10_readUnit_145) hH (fun H locs hH => ?_)
            replace hf := Option.some.inj hf
            obtain ⟨rfl, rfl⟩ := qi2 hf
            exact pz_retz hE hrt hlk hH rfl dX10_readUnit_148
        · replace hf := (if_pos hc).symm.trans hf
          refine lv_iconst (v := 0) hx hb dX10_readUnit_115 (by decide) ?_
          replace hf := Option.some.inj hf
          obtain ⟨rfl, rfl⟩ := qi2 hf
          exact pz_retz hE hrt hlk hH rfl dX10_readUnit_116
    · replace hf := (if_pos hc).symm.trans hf
      refine lv_iload_n hx hb dX10_readUnit_60 rfl (lv_at hl 0 rfl) ?_
      refine lv_bipush (v := 40) hx hb dX10_readUnit_61 (by decide) ?_
      refine lv_icmp_ne (tgt := 103) hx hb dX10_readUnit_63 (by decide) (fun hc => ?_) (fun hc => ?_)
      · replace hf := (if_neg hc).symm.trans hf
        refine lv_iload_n hx hb dX10_readUnit_103 rfl (lv_at hl 3 rfl) ?_
        refine lv_if_ne (tgt := 117) hx hb dX10_readUnit_104 (by decide) (fun hc => ?_) (fun hc => ?_)
        · replace hf := (if_neg hc).symm.trans hf
          refine lv_aload_n hx hb dX10_readUnit_117 rfl (lv_at hl 1 rfl) ?_
          refine pz_gS (a := 1) hE hH fr_X10_15 qk_4 (by decide) dX10_readUnit_118 ?_
          obtain ⟨w41, ew41, hf⟩ := st_bd hf
          obtain ⟨r42, M43⟩ := w41
          replace hf := st_u2 hf
          refine q_calli (q_runV (As := []) (rest := []) hE hH (tz_X4_peek l X (hf := ew41)) kv_X10_37 qk_1 (by omega) rfl hl.1 rfl (Nat.le_of_ble_eq_true rfl) dX10_readUnit_121) hH (fun H locs hH => ?_)
          refine lv_istore (lv' := [(4, .int r42), (3, .int r2), (0, .ref (X.1 4)), (1, .int p0), (2, .int (b2i p1))]) hx hb dX10_readUnit_124 hl (by decide) rfl (fun ls hl => ?_)
          refine lv_iload hx hb dX10_readUnit_126 (lv_at hl 0 rfl) ?_
          refine q_calli (q_runS (As := [.int r42]) (rest := []) hE hH (tz_X10_isComparison l X (M := M43) (hf := rfl)) ks_X10_52 (by omega) rfl hl.1 rfl (Nat.le_of_ble_eq_true rfl) dX10_readUnit_128) hH (fun H locs hH => ?_)
          refine lv_if_ne (tgt := 149) hx hb dX10_readUnit_131 (by decide) (fun hc => ?_) (fun hc => ?_)
          · replace hf := (if_neg hc).symm.trans hf
            refine lv_aload_n hx hb dX10_readUnit_149 rfl (lv_at hl 2 rfl) ?_
            refine pz_gS (a := 1) hE hH fr_X10_15 qk_4 (by decide) dX10_readUnit_150 ?_
            refine lv_dup hx hb dX10_readUnit_153 rfl ?_
            refine pz_gI hE hH fr_X10_45 qk_1 dX10_readUnit_154 ?_
            refine lv_iconst (v := 1) hx hb dX10_readUnit_157 (by decide) ?_
            refine lv_iadd hx hb dX10_readUnit_158 ?_
            obtain ⟨M44, eM44, hf⟩ := st_lty hf
            refine pz_pI hE hH fw_X10_45 qk_1  eM44 dX10_readUnit_159 (fun H locs hH => ?_)
            refine lv_aload_n hx hb dX10_readUnit_162 rfl (lv_at hl 2 rfl) ?_
            refine lv_iload_n hx hb dX10_readUnit_163 rfl (lv_at hl 3 rfl) ?_
            obtain ⟨w45, ew45, hf⟩ := st_bd hf
            obtain ⟨r46, M47⟩ := w45
            replace hf := st_u2 hf
            refine q_calli (q_runV (As := [.int p0]) (rest := []) hE hH (tz_X10_readSum l X (hf := ew45)) kv_X10_48 qk_4 (by omega) rfl hl.1 rfl (Nat.le_of_ble_eq_true rfl) dX10_readUnit_164) hH (fun H locs hH => ?_)
            obtain ⟨w50, hr, hf⟩ := st_bd hf
            have hJ : qu2 w50 (fun z48 M49 => ∀ (ls : Array Slot) (H : Heap) (locs : List Loc), q_H X M49 s H locs → lv_has ls 5 [] → W p l e (q_rm (lvr + 3)) s m args below meth c H locs 0 0 (MQ below (q_Qi X (b2i r0) MR) args s 0 0 (q_A X)) (F0 m 188 ls [.int (b2i z48)])) := by
              obtain ⟨z48, M49⟩ := w50
              replace hf := st_u2 hf
              intro ls H locs hH hl
              replace hf := Option.some.inj hf
              obtain ⟨rfl, rfl⟩ := qi2 hf
              exact pz_retz hE hrt hlk hH rfl dX10_readUnit_188
            clear hf
            replace hf := hr
            refine lv_if_eq (tgt := 187) hx hb dX10_readUnit_167 (by decide) (fun hc => ?_) (fun hc => ?_)
            · replace hf := (if_pos hc).symm.trans hf
              refine lv_iconst (v := 0) hx hb dX10_readUnit_187 (by decide) ?_
              replace hf := Option.some.inj hf
              subst hf
              exact hJ ls H locs hH (lv_sub hl [] rfl)
            · replace hf := (if_neg hc).symm.trans hf
              refine lv_aload_n hx hb dX10_readUnit_170 rfl (lv_at hl 2 rfl) ?_
              obtain ⟨a51, ea51, hf⟩ := st_bd hf
              refine pz_gR hE hH fr_X10_9 qk_4 ea51 dX10_readUnit_171 (fun ha51 => ?_)
              replace ha51 : q_way a51 = true := ha51
              refine lv_iload hx hb dX10_readUnit_174 (lv_at hl 0 rfl) ?_
              refine lv_iconst (v := 0) hx hb dX10_readUnit_176 (by decide) ?_
              obtain ⟨w52, ew52, hf⟩ := st_bd hf
              obtain ⟨r53, M54⟩ := w52
              replace hf := st_u2 hf
              refine q_calli (q_runV (As := [.int r42, .int 0]) (rest := []) hE hH (tz_X9_add l X ha51 (hf := ew52)) kv_X10_55 (q_way_0 ha51) (by omega) rfl hl.1 rfl (Nat.le_of_ble_eq_true rfl) dX10_readUnit_177) hH (fun H locs hH => ?_)
              refine lv_if_eq (tgt := 187) hx hb dX10_readUnit_180 (by decide) (fun hc => ?_) (fun hc => ?_)
              · replace hf := (if_pos hc).symm.trans hf
                refine lv_iconst (v := 0) hx hb dX10_readUnit_187 (by decide) ?_
                replace hf := Option.some.inj hf
                subst hf
                exact hJ ls H locs hH (lv_sub hl [] rfl)
              · replace hf := (if_neg hc).symm.trans hf
                refine lv_iconst (v := 1) hx hb dX10_readUnit_183 (by decide) ?_
                refine lv_goto (tgt := 188) hx hb dX10_readUnit_184 (by decide) ?_
                replace hf := Option.some.inj hf
                subst hf
                exact hJ ls H locs hH (lv_sub hl [] rfl)
          · replace hf := (if_pos hc).symm.trans hf
            refine lv_aload_n hx hb dX10_readUnit_134 rfl (lv_at hl 2 rfl) ?_
            refine pz_gS (a := 1) hE hH fr_X10_15 qk_4 (by decide) dX10_readUnit_135 ?_
            refine lv_aload_n hx hb dX10_readUnit_138 rfl (lv_at hl 2 rfl) ?_
            refine pz_gS (a := 1) hE hH fr_X10_15 qk_4 (by decide) dX10_readUnit_139 ?_
            refine pz_gI hE hH fr_X10_45 qk_1 dX10_readUnit_142 ?_
            obtain ⟨w55, ew55, hf⟩ := st_lty hf
            obtain ⟨r56, M57⟩ := w55
            replace hf := st_u2 hf
            refine q_calli (q_runV (As := [.int (M43.1 1 2)]) (rest := []) hE hH (tz_X4_fail l X (hf := ew55.symm)) kv_X10_79 qk_1 (by omega) rfl hl.1 rfl (Nat.le_of_ble_eq_true rfl) dX10_readUnit_145) hH (fun H locs hH => ?_)
            replace hf := Option.some.inj hf
            obtain ⟨rfl, rfl⟩ := qi2 hf
            exact pz_retz hE hrt hlk hH rfl dX10_readUnit_148
        · replace hf := (if_pos hc).symm.trans hf
          refine lv_aload_n hx hb dX10_readUnit_107 rfl (lv_at hl 1 rfl) ?_
          refine lv_iload_n hx hb dX10_readUnit_108 rfl (lv_at hl 2 rfl) ?_
          obtain ⟨w58, ew58, hf⟩ := st_bd hf
          obtain ⟨r59, M60⟩ := w58
          replace hf := st_u2 hf
          refine q_calli (q_runV (As := [.int p0]) (rest := []) hE hH (tz_X10_readSum l X (hf := ew58)) kv_X10_48 qk_4 (by omega) rfl hl.1 rfl (Nat.le_of_ble_eq_true rfl) dX10_readUnit_109) hH (fun H locs hH => ?_)
          refine lv_if_ne (tgt := 117) hx hb dX10_readUnit_112 (by decide) (fun hc => ?_) (fun hc => ?_)
          · replace hf := (if_neg hc).symm.trans hf
            refine lv_aload_n hx hb dX10_readUnit_117 rfl (lv_at hl 1 rfl) ?_
            refine pz_gS (a := 1) hE hH fr_X10_15 qk_4 (by decide) dX10_readUnit_118 ?_
            obtain ⟨w61, ew61, hf⟩ := st_bd hf
            obtain ⟨r62, M63⟩ := w61
            replace hf := st_u2 hf
            refine q_calli (q_runV (As := []) (rest := []) hE hH (tz_X4_peek l X (hf := ew61)) kv_X10_37 qk_1 (by omega) rfl hl.1 rfl (Nat.le_of_ble_eq_true rfl) dX10_readUnit_121) hH (fun H locs hH => ?_)
            refine lv_istore (lv' := [(4, .int r62), (3, .int r2), (0, .ref (X.1 4)), (1, .int p0), (2, .int (b2i p1))]) hx hb dX10_readUnit_124 hl (by decide) rfl (fun ls hl => ?_)
            refine lv_iload hx hb dX10_readUnit_126 (lv_at hl 0 rfl) ?_
            refine q_calli (q_runS (As := [.int r62]) (rest := []) hE hH (tz_X10_isComparison l X (M := M63) (hf := rfl)) ks_X10_52 (by omega) rfl hl.1 rfl (Nat.le_of_ble_eq_true rfl) dX10_readUnit_128) hH (fun H locs hH => ?_)
            refine lv_if_ne (tgt := 149) hx hb dX10_readUnit_131 (by decide) (fun hc => ?_) (fun hc => ?_)
            · replace hf := (if_neg hc).symm.trans hf
              refine lv_aload_n hx hb dX10_readUnit_149 rfl (lv_at hl 2 rfl) ?_
              refine pz_gS (a := 1) hE hH fr_X10_15 qk_4 (by decide) dX10_readUnit_150 ?_
              refine lv_dup hx hb dX10_readUnit_153 rfl ?_
              refine pz_gI hE hH fr_X10_45 qk_1 dX10_readUnit_154 ?_
              refine lv_iconst (v := 1) hx hb dX10_readUnit_157 (by decide) ?_
              refine lv_iadd hx hb dX10_readUnit_158 ?_
              obtain ⟨M64, eM64, hf⟩ := st_lty hf
              refine pz_pI hE hH fw_X10_45 qk_1  eM64 dX10_readUnit_159 (fun H locs hH => ?_)
              refine lv_aload_n hx hb dX10_readUnit_162 rfl (lv_at hl 2 rfl) ?_
              refine lv_iload_n hx hb dX10_readUnit_163 rfl (lv_at hl 3 rfl) ?_
              obtain ⟨w65, ew65, hf⟩ := st_bd hf
              obtain ⟨r66, M67⟩ := w65
              replace hf := st_u2 hf
              refine q_calli (q_runV (As := [.int p0]) (rest := []) hE hH (tz_X10_readSum l X (hf := ew65)) kv_X10_48 qk_4 (by omega) rfl hl.1 rfl (Nat.le_of_ble_eq_true rfl) dX10_readUnit_164) hH (fun H locs hH => ?_)
              obtain ⟨w70, hr, hf⟩ := st_bd hf
              have hJ : qu2 w70 (fun z68 M69 => ∀ (ls : Array Slot) (H : Heap) (locs : List Loc), q_H X M69 s H locs → lv_has ls 5 [] → W p l e (q_rm (lvr + 3)) s m args below meth c H locs 0 0 (MQ below (q_Qi X (b2i r0) MR) args s 0 0 (q_A X)) (F0 m 188 ls [.int (b2i z68)])) := by
                obtain ⟨z68, M69⟩ := w70
                replace hf := st_u2 hf
                intro ls H locs hH hl
                replace hf := Option.some.inj hf
                obtain ⟨rfl, rfl⟩ := qi2 hf
                exact pz_retz hE hrt hlk hH rfl dX10_readUnit_188
              clear hf
              replace hf := hr
              refine lv_if_eq (tgt := 187) hx hb dX10_readUnit_167 (by decide) (fun hc => ?_) (fun hc => ?_)
              · replace hf := (if_pos hc).symm.trans hf
                refine lv_iconst (v := 0) hx hb dX10_readUnit_187 (by decide) ?_
                replace hf := Option.some.inj hf
                subst hf
                exact hJ ls H locs hH (lv_sub hl [] rfl)
              · replace hf := (if_neg hc).symm.trans hf
                refine lv_aload_n hx hb dX10_readUnit_170 rfl (lv_at hl 2 rfl) ?_
                obtain ⟨a71, ea71, hf⟩ := st_bd hf
                refine pz_gR hE hH fr_X10_9 qk_4 ea71 dX10_readUnit_171 (fun ha71 => ?_)
                replace ha71 : q_way a71 = true := ha71
                refine lv_iload hx hb dX10_readUnit_174 (lv_at hl 0 rfl) ?_
                refine lv_iconst (v := 0) hx hb dX10_readUnit_176 (by decide) ?_
                obtain ⟨w72, ew72, hf⟩ := st_bd hf
                obtain ⟨r73, M74⟩ := w72
                replace hf := st_u2 hf
                refine q_calli (q_runV (As := [.int r62, .int 0]) (rest := []) hE hH (tz_X9_add l X ha71 (hf := ew72)) kv_X10_55 (q_way_0 ha71) (by omega) rfl hl.1 rfl (Nat.le_of_ble_eq_true rfl) dX10_readUnit_177) hH (fun H locs hH => ?_)
                refine lv_if_eq (tgt := 187) hx hb dX10_readUnit_180 (by decide) (fun hc => ?_) (fun hc => ?_)
                · replace hf := (if_pos hc).symm.trans hf
                  refine lv_iconst (v := 0) hx hb dX10_readUnit_187 (by decide) ?_
                  replace hf := Option.some.inj hf
                  subst hf
                  exact hJ ls H locs hH (lv_sub hl [] rfl)
                · replace hf := (if_neg hc).symm.trans hf
                  refine lv_iconst (v := 1) hx hb dX10_readUnit_183 (by decide) ?_
                  refine lv_goto (tgt := 188) hx hb dX10_readUnit_184 (by decide) ?_
                  replace hf := Option.some.inj hf
                  subst hf
                  exact hJ ls H locs hH (lv_sub hl [] rfl)
            · replace hf := (if_pos hc).symm.trans hf
              refine lv_aload_n hx hb dX10_readUnit_134 rfl (lv_at hl 2 rfl) ?_
              refine pz_gS (a := 1) hE hH fr_X10_15 qk_4 (by decide) dX10_readUnit_135 ?_
              refine lv_aload_n hx hb dX10_readUnit_138 rfl (lv_at hl 2 rfl) ?_
              refine pz_gS (a := 1) hE hH fr_X10_15 qk_4 (by decide) dX10_readUnit_139 ?_
              refine pz_gI hE hH fr_X10_45 qk_1 dX10_readUnit_142 ?_
              obtain ⟨w75, ew75, hf⟩ := st_lty hf
              obtain ⟨r76, M77⟩ := w75
              replace hf := st_u2 hf
              refine q_calli (q_runV (As := [.int (M63.1 1 2)]) (rest := []) hE hH (tz_X4_fail l X (hf := ew75.symm)) kv_X10_79 qk_1 (by omega) rfl hl.1 rfl (Nat.le_of_ble_eq_true rfl) dX10_readUnit_145) hH (fun H locs hH => ?_)
              replace hf := Option.some.inj hf
              obtain ⟨rfl, rfl⟩ := qi2 hf
              exact pz_retz hE hrt hlk hH rfl dX10_readUnit_148
          · replace hf := (if_pos hc).symm.trans hf
            refine lv_iconst (v := 0) hx hb dX10_readUnit_115 (by decide) ?_
            replace hf := Option.some.inj hf
            obtain ⟨rfl, rfl⟩ := qi2 hf
            exact pz_retz hE hrt hlk hH rfl dX10_readUnit_116
      · replace hf := (if_pos hc).symm.trans hf
        refine lv_aload_n hx hb dX10_readUnit_66 rfl (lv_at hl 1 rfl) ?_
        refine lv_iload_n hx hb dX10_readUnit_67 rfl (lv_at hl 2 rfl) ?_
        obtain ⟨w78, ew78, hf⟩ := st_lty hf
        obtain ⟨r79, M80⟩ := w78
        replace hf := st_u2 hf
        refine q_calli (q_runV (As := [.int p0]) (rest := []) hE hH (tz_X10_openAt l X (hf := ew78.symm)) kv_X10_76 qk_4 (by omega) rfl hl.1 rfl (Nat.le_of_ble_eq_true rfl) dX10_readUnit_68) hH (fun H locs hH => ?_)
        obtain ⟨w83, hr, hf⟩ := st_bd hf
        have hJ : qu2 w83 (fun z81 M82 => ∀ (ls : Array Slot) (H : Heap) (locs : List Loc), q_H X M82 s H locs → lv_has ls 5 [] → W p l e (q_rm (lvr + 3)) s m args below meth c H locs 0 0 (MQ below (q_Qi X (b2i r0) MR) args s 0 0 (q_A X)) (F0 m 102 ls [.int (b2i z81)])) := by
          obtain ⟨z81, M82⟩ := w83
          replace hf := st_u2 hf
          intro ls H locs hH hl
          replace hf := Option.some.inj hf
          obtain ⟨rfl, rfl⟩ := qi2 hf
          exact pz_retz hE hrt hlk hH rfl dX10_readUnit_102
        clear hf
        replace hf := hr
        refine lv_if_eq (tgt := 101) hx hb dX10_readUnit_71 (by decide) (fun hc => ?_) (fun hc => ?_)
        · replace hf := (if_pos hc).symm.trans hf
          refine lv_iconst (v := 0) hx hb dX10_readUnit_101 (by decide) ?_
          replace hf := Option.some.inj hf
          subst hf
          exact hJ ls H locs hH (lv_sub hl [] rfl)
        · replace hf := (if_neg hc).symm.trans hf
          refine lv_aload_n hx hb dX10_readUnit_74 rfl (lv_at hl 1 rfl) ?_
          refine lv_iload_n hx hb dX10_readUnit_75 rfl (lv_at hl 2 rfl) ?_
          refine lv_iconst (v := 1) hx hb dX10_readUnit_76 (by decide) ?_
          refine lv_iadd hx hb dX10_readUnit_77 ?_
          refine lv_iconst (v := 0) hx hb dX10_readUnit_78 (by decide) ?_
          obtain ⟨w84, ew84, hf⟩ := st_bd hf
          obtain ⟨r85, M86⟩ := w84
          replace hf := st_u2 hf
          refine q_calli (q_runV (As := [.int (p0 + 1), .int 0]) (rest := []) hE hH (tzF_X10_readCondition l X hlv hrc (hf := ew84)) kv_X10_59 qk_4 (by omega) rfl hl.1 rfl (Nat.le_of_ble_eq_true rfl) dX10_readUnit_79) hH (fun H locs hH => ?_)
          refine lv_if_eq (tgt := 101) hx hb dX10_readUnit_82 (by decide) (fun hc => ?_) (fun hc => ?_)
          · replace hf := (if_pos hc).symm.trans hf
            refine lv_iconst (v := 0) hx hb dX10_readUnit_101 (by decide) ?_
            replace hf := Option.some.inj hf
            subst hf
            exact hJ ls H locs hH (lv_sub hl [] rfl)
          · replace hf := (if_neg hc).symm.trans hf
            refine lv_aload_n hx hb dX10_readUnit_85 rfl (lv_at hl 1 rfl) ?_
            refine pz_gS (a := 1) hE hH fr_X10_15 qk_4 (by decide) dX10_readUnit_86 ?_
            refine lv_bipush (v := 41) hx hb dX10_readUnit_89 (by decide) ?_
            obtain ⟨w87, ew87, hf⟩ := st_bd hf
            obtain ⟨r88, M89⟩ := w87
            replace hf := st_u2 hf
            refine q_calli (q_runV (As := [.int 41]) (rest := []) hE hH (tz_X4_take l X (hf := ew87)) kv_X10_41 qk_1 (by omega) rfl hl.1 rfl (Nat.le_of_ble_eq_true rfl) dX10_readUnit_91) hH (fun H locs hH => ?_)
            refine lv_if_eq (tgt := 101) hx hb dX10_readUnit_94 (by decide) (fun hc => ?_) (fun hc => ?_)
            · replace hf := (if_pos hc).symm.trans hf
              refine lv_iconst (v := 0) hx hb dX10_readUnit_101 (by decide) ?_
              replace hf := Option.some.inj hf
              subst hf
              exact hJ ls H locs hH (lv_sub hl [] rfl)
            · replace hf := (if_neg hc).symm.trans hf
              refine lv_iconst (v := 1) hx hb dX10_readUnit_97 (by decide) ?_
              refine lv_goto (tgt := 102) hx hb dX10_readUnit_98 (by decide) ?_
              replace hf := Option.some.inj hf
              subst hf
              exact hJ ls H locs hH (lv_sub hl [] rfl)
  · replace hf := (if_pos hc).symm.trans hf
    refine lv_iload_n hx hb dX10_readUnit_12 rfl (lv_at hl 0 rfl) ?_
    refine lv_bipush (v := 33) hx hb dX10_readUnit_13 (by decide) ?_
    refine lv_icmp_ne (tgt := 56) hx hb dX10_readUnit_15 (by decide) (fun hc => ?_) (fun hc => ?_)
    · replace hf := (if_neg hc).symm.trans hf
      refine lv_iload_n hx hb dX10_readUnit_56 rfl (lv_at hl 3 rfl) ?_
      refine lv_if_ne (tgt := 103) hx hb dX10_readUnit_57 (by decide) (fun hc => ?_) (fun hc => ?_)
      · replace hf := (if_neg hc).symm.trans hf
        refine lv_iload_n hx hb dX10_readUnit_103 rfl (lv_at hl 3 rfl) ?_
        refine lv_if_ne (tgt := 117) hx hb dX10_readUnit_104 (by decide) (fun hc => ?_) (fun hc => ?_)
        · replace hf := (if_neg hc).symm.trans hf
          refine lv_aload_n hx hb dX10_readUnit_117 rfl (lv_at hl 1 rfl) ?_
          refine pz_gS (a := 1) hE hH fr_X10_15 qk_4 (by decide) dX10_readUnit_118 ?_
          obtain ⟨w90, ew90, hf⟩ := st_bd hf
          obtain ⟨r91, M92⟩ := w90
          replace hf := st_u2 hf
          refine q_calli (q_runV (As := []) (rest := []) hE hH (tz_X4_peek l X (hf := ew90)) kv_X10_37 qk_1 (by omega) rfl hl.1 rfl (Nat.le_of_ble_eq_true rfl) dX10_readUnit_121) hH (fun H locs hH => ?_)
          refine lv_istore (lv' := [(4, .int r91), (3, .int r2), (0, .ref (X.1 4)), (1, .int p0), (2, .int (b2i p1))]) hx hb dX10_readUnit_124 hl (by decide) rfl (fun ls hl => ?_)
          refine lv_iload hx hb dX10_readUnit_126 (lv_at hl 0 rfl) ?_
          refine q_calli (q_runS (As := [.int r91]) (rest := []) hE hH (tz_X10_isComparison l X (M := M92) (hf := rfl)) ks_X10_52 (by omega) rfl hl.1 rfl (Nat.le_of_ble_eq_true rfl) dX10_readUnit_128) hH (fun H locs hH => ?_)
          refine lv_if_ne (tgt := 149) hx hb dX10_readUnit_131 (by decide) (fun hc => ?_) (fun hc => ?_)
          · replace hf := (if_neg hc).symm.trans hf
            refine lv_aload_n hx hb dX10_readUnit_149 rfl (lv_at hl 2 rfl) ?_
            refine pz_gS (a := 1) hE hH fr_X10_15 qk_4 (by decide) dX10_readUnit_150 ?_
            refine lv_dup hx hb dX10_readUnit_153 rfl ?_
            refine pz_gI hE hH fr_X10_45 qk_1 dX10_readUnit_154 ?_
            refine lv_iconst (v := 1) hx hb dX10_readUnit_157 (by decide) ?_
            refine lv_iadd hx hb dX10_readUnit_158 ?_
            obtain ⟨M93, eM93, hf⟩ := st_lty hf
            refine pz_pI hE hH fw_X10_45 qk_1  eM93 dX10_readUnit_159 (fun H locs hH => ?_)
            refine lv_aload_n hx hb dX10_readUnit_162 rfl (lv_at hl 2 rfl) ?_
            refine lv_iload_n hx hb dX10_readUnit_163 rfl (lv_at hl 3 rfl) ?_
            obtain ⟨w94, ew94, hf⟩ := st_bd hf
            obtain ⟨r95, M96⟩ := w94
            replace hf := st_u2 hf
            refine q_calli (q_runV (As := [.int p0]) (rest := []) hE hH (tz_X10_readSum l X (hf := ew94)) kv_X10_48 qk_4 (by omega) rfl hl.1 rfl (Nat.le_of_ble_eq_true rfl) dX10_readUnit_164) hH (fun H locs hH => ?_)
            obtain ⟨w99, hr, hf⟩ := st_bd hf
            have hJ : qu2 w99 (fun z97 M98 => ∀ (ls : Array Slot) (H : Heap) (locs : List Loc), q_H X M98 s H locs → lv_has ls 5 [] → W p l e (q_rm (lvr + 3)) s m args below meth c H locs 0 0 (MQ below (q_Qi X (b2i r0) MR) args s 0 0 (q_A X)) (F0 m 188 ls [.int (b2i z97)])) := by
              obtain ⟨z97, M98⟩ := w99
              replace hf := st_u2 hf
              intro ls H locs hH hl
              replace hf := Option.some.inj hf
              obtain ⟨rfl, rfl⟩ := qi2 hf
              exact pz_retz hE hrt hlk hH rfl dX10_readUnit_188
            clear hf
            replace hf := hr
            refine lv_if_eq (tgt := 187) hx hb dX10_readUnit_167 (by decide) (fun hc => ?_) (fun hc => ?_)
            · replace hf := (if_pos hc).symm.trans hf
              refine lv_iconst (v := 0) hx hb dX10_readUnit_187 (by decide) ?_
              replace hf := Option.some.inj hf
              subst hf
              exact hJ ls H locs hH (lv_sub hl [] rfl)
            · replace hf := (if_neg hc).symm.trans hf
              refine lv_aload_n hx hb dX10_readUnit_170 rfl (lv_at hl 2 rfl) ?_
              obtain ⟨a100, ea100, hf⟩ := st_bd hf
              refine pz_gR hE hH fr_X10_9 qk_4 ea100 dX10_readUnit_171 (fun ha100 => ?_)
              replace ha100 : q_way a100 = true := ha100
              refine lv_iload hx hb dX10_readUnit_174 (lv_at hl 0 rfl) ?_
              refine lv_iconst (v := 0) hx hb dX10_readUnit_176 (by decide) ?_
              obtain ⟨w101, ew101, hf⟩ := st_bd hf
              obtain ⟨r102, M103⟩ := w101
              replace hf := st_u2 hf
              refine q_calli (q_runV (As := [.int r91, .int 0]) (rest := []) hE hH (tz_X9_add l X ha100 (hf := ew101)) kv_X10_55 (q_way_0 ha100) (by omega) rfl hl.1 rfl (Nat.le_of_ble_eq_true rfl) dX10_readUnit_177) hH (fun H locs hH => ?_)
              refine lv_if_eq (tgt := 187) hx hb dX10_readUnit_180 (by decide) (fun hc => ?_) (fun hc => ?_)
              · replace hf := (if_pos hc).symm.trans hf
                refine lv_iconst (v := 0) hx hb dX10_readUnit_187 (by decide) ?_
                replace hf := Option.some.inj hf
                subst hf
                exact hJ ls H locs hH (lv_sub hl [] rfl)
              · replace hf := (if_neg hc).symm.trans hf
                refine lv_iconst (v := 1) hx hb dX10_readUnit_183 (by decide) ?_
                refine lv_goto (tgt := 188) hx hb dX10_readUnit_184 (by decide) ?_
                replace hf := Option.some.inj hf
                subst hf
                exact hJ ls H locs hH (lv_sub hl [] rfl)
          · replace hf := (if_pos hc).symm.trans hf
            refine lv_aload_n hx hb dX10_readUnit_134 rfl (lv_at hl 2 rfl) ?_
            refine pz_gS (a := 1) hE hH fr_X10_15 qk_4 (by decide) dX10_readUnit_135 ?_
            refine lv_aload_n hx hb dX10_readUnit_138 rfl (lv_at hl 2 rfl) ?_
            refine pz_gS (a := 1) hE hH fr_X10_15 qk_4 (by decide) dX10_readUnit_139 ?_
            refine pz_gI hE hH fr_X10_45 qk_1 dX10_readUnit_142 ?_
            obtain ⟨w104, ew104, hf⟩ := st_lty hf
            obtain ⟨r105, M106⟩ := w104
            replace hf := st_u2 hf
            refine q_calli (q_runV (As := [.int (M92.1 1 2)]) (rest := []) hE hH (tz_X4_fail l X (hf := ew104.symm)) kv_X10_79 qk_1 (by omega) rfl hl.1 rfl (Nat.le_of_ble_eq_true rfl) dX10_readUnit_145) hH (fun H locs hH => ?_)
            replace hf := Option.some.inj hf
            obtain ⟨rfl, rfl⟩ := qi2 hf
            exact pz_retz hE hrt hlk hH rfl dX10_readUnit_148
        · replace hf := (if_pos hc).symm.trans hf
          refine lv_aload_n hx hb dX10_readUnit_107 rfl (lv_at hl 1 rfl) ?_
          refine lv_iload_n hx hb dX10_readUnit_108 rfl (lv_at hl 2 rfl) ?_
          obtain ⟨w107, ew107, hf⟩ := st_bd hf
          obtain ⟨r108, M109⟩ := w107
          replace hf := st_u2 hf
          refine q_calli (q_runV (As := [.int p0]) (rest := []) hE hH (tz_X10_readSum l X (hf := ew107)) kv_X10_48 qk_4 (by omega) rfl hl.1 rfl (Nat.le_of_ble_eq_true rfl) dX10_readUnit_109) hH (fun H locs hH => ?_)
          refine lv_if_ne (tgt := 117) hx hb dX10_readUnit_112 (by decide) (fun hc => ?_) (fun hc => ?_)
          · replace hf := (if_neg hc).symm.trans hf
            refine lv_aload_n hx hb dX10_readUnit_117 rfl (lv_at hl 1 rfl) ?_
            refine pz_gS (a := 1) hE hH fr_X10_15 qk_4 (by decide) dX10_readUnit_118 ?_
            obtain ⟨w110, ew110, hf⟩ := st_bd hf
            obtain ⟨r111, M112⟩ := w110
            replace hf := st_u2 hf
            refine q_calli (q_runV (As := []) (rest := []) hE hH (tz_X4_peek l X (hf := ew110)) kv_X10_37 qk_1 (by omega) rfl hl.1 rfl (Nat.le_of_ble_eq_true rfl) dX10_readUnit_121) hH (fun H locs hH => ?_)
            refine lv_istore (lv' := [(4, .int r111), (3, .int r2), (0, .ref (X.1 4)), (1, .int p0), (2, .int (b2i p1))]) hx hb dX10_readUnit_124 hl (by decide) rfl (fun ls hl => ?_)
            refine lv_iload hx hb dX10_readUnit_126 (lv_at hl 0 rfl) ?_
            refine q_calli (q_runS (As := [.int r111]) (rest := []) hE hH (tz_X10_isComparison l X (M := M112) (hf := rfl)) ks_X10_52 (by omega) rfl hl.1 rfl (Nat.le_of_ble_eq_true rfl) dX10_readUnit_128) hH (fun H locs hH => ?_)
            refine lv_if_ne (tgt := 149) hx hb dX10_readUnit_131 (by decide) (fun hc => ?_) (fun hc => ?_)
            · replace hf := (if_neg hc).symm.trans hf
              refine lv_aload_n hx hb dX10_readUnit_149 rfl (lv_at hl 2 rfl) ?_
              refine pz_gS (a := 1) hE hH fr_X10_15 qk_4 (by decide) dX10_readUnit_150 ?_
              refine lv_dup hx hb dX10_readUnit_153 rfl ?_
              refine pz_gI hE hH fr_X10_45 qk_1 dX10_readUnit_154 ?_
              refine lv_iconst (v := 1) hx hb dX10_readUnit_157 (by decide) ?_
              refine lv_iadd hx hb dX10_readUnit_158 ?_
              obtain ⟨M113, eM113, hf⟩ := st_lty hf
              refine pz_pI hE hH fw_X10_45 qk_1  eM113 dX10_readUnit_159 (fun H locs hH => ?_)
              refine lv_aload_n hx hb dX10_readUnit_162 rfl (lv_at hl 2 rfl) ?_
              refine lv_iload_n hx hb dX10_readUnit_163 rfl (lv_at hl 3 rfl) ?_
              obtain ⟨w114, ew114, hf⟩ := st_bd hf
              obtain ⟨r115, M116⟩ := w114
              replace hf := st_u2 hf
              refine q_calli (q_runV (As := [.int p0]) (rest := []) hE hH (tz_X10_readSum l X (hf := ew114)) kv_X10_48 qk_4 (by omega) rfl hl.1 rfl (Nat.le_of_ble_eq_true rfl) dX10_readUnit_164) hH (fun H locs hH => ?_)
              obtain ⟨w119, hr, hf⟩ := st_bd hf
              have hJ : qu2 w119 (fun z117 M118 => ∀ (ls : Array Slot) (H : Heap) (locs : List Loc), q_H X M118 s H locs → lv_has ls 5 [] → W p l e (q_rm (lvr + 3)) s m args below meth c H locs 0 0 (MQ below (q_Qi X (b2i r0) MR) args s 0 0 (q_A X)) (F0 m 188 ls [.int (b2i z117)])) := by
                obtain ⟨z117, M118⟩ := w119
                replace hf := st_u2 hf
                intro ls H locs hH hl
                replace hf := Option.some.inj hf
                obtain ⟨rfl, rfl⟩ := qi2 hf
                exact pz_retz hE hrt hlk hH rfl dX10_readUnit_188
              clear hf
              replace hf := hr
              refine lv_if_eq (tgt := 187) hx hb dX10_readUnit_167 (by decide) (fun hc => ?_) (fun hc => ?_)
              · replace hf := (if_pos hc).symm.trans hf
                refine lv_iconst (v := 0) hx hb dX10_readUnit_187 (by decide) ?_
                replace hf := Option.some.inj hf
                subst hf
                exact hJ ls H locs hH (lv_sub hl [] rfl)
              · replace hf := (if_neg hc).symm.trans hf
                refine lv_aload_n hx hb dX10_readUnit_170 rfl (lv_at hl 2 rfl) ?_
                obtain ⟨a120, ea120, hf⟩ := st_bd hf
                refine pz_gR hE hH fr_X10_9 qk_4 ea120 dX10_readUnit_171 (fun ha120 => ?_)
                replace ha120 : q_way a120 = true := ha120
                refine lv_iload hx hb dX10_readUnit_174 (lv_at hl 0 rfl) ?_
                refine lv_iconst (v := 0) hx hb dX10_readUnit_176 (by decide) ?_
                obtain ⟨w121, ew121, hf⟩ := st_bd hf
                obtain ⟨r122, M123⟩ := w121
                replace hf := st_u2 hf
                refine q_calli (q_runV (As := [.int r111, .int 0]) (rest := []) hE hH (tz_X9_add l X ha120 (hf := ew121)) kv_X10_55 (q_way_0 ha120) (by omega) rfl hl.1 rfl (Nat.le_of_ble_eq_true rfl) dX10_readUnit_177) hH (fun H locs hH => ?_)
                refine lv_if_eq (tgt := 187) hx hb dX10_readUnit_180 (by decide) (fun hc => ?_) (fun hc => ?_)
                · replace hf := (if_pos hc).symm.trans hf
                  refine lv_iconst (v := 0) hx hb dX10_readUnit_187 (by decide) ?_
                  replace hf := Option.some.inj hf
                  subst hf
                  exact hJ ls H locs hH (lv_sub hl [] rfl)
                · replace hf := (if_neg hc).symm.trans hf
                  refine lv_iconst (v := 1) hx hb dX10_readUnit_183 (by decide) ?_
                  refine lv_goto (tgt := 188) hx hb dX10_readUnit_184 (by decide) ?_
                  replace hf := Option.some.inj hf
                  subst hf
                  exact hJ ls H locs hH (lv_sub hl [] rfl)
            · replace hf := (if_pos hc).symm.trans hf
              refine lv_aload_n hx hb dX10_readUnit_134 rfl (lv_at hl 2 rfl) ?_
              refine pz_gS (a := 1) hE hH fr_X10_15 qk_4 (by decide) dX10_readUnit_135 ?_
              refine lv_aload_n hx hb dX10_readUnit_138 rfl (lv_at hl 2 rfl) ?_
              refine pz_gS (a := 1) hE hH fr_X10_15 qk_4 (by decide) dX10_readUnit_139 ?_
              refine pz_gI hE hH fr_X10_45 qk_1 dX10_readUnit_142 ?_
              obtain ⟨w124, ew124, hf⟩ := st_lty hf
              obtain ⟨r125, M126⟩ := w124
              replace hf := st_u2 hf
              refine q_calli (q_runV (As := [.int (M112.1 1 2)]) (rest := []) hE hH (tz_X4_fail l X (hf := ew124.symm)) kv_X10_79 qk_1 (by omega) rfl hl.1 rfl (Nat.le_of_ble_eq_true rfl) dX10_readUnit_145) hH (fun H locs hH => ?_)
              replace hf := Option.some.inj hf
              obtain ⟨rfl, rfl⟩ := qi2 hf
              exact pz_retz hE hrt hlk hH rfl dX10_readUnit_148
          · replace hf := (if_pos hc).symm.trans hf
            refine lv_iconst (v := 0) hx hb dX10_readUnit_115 (by decide) ?_
            replace hf := Option.some.inj hf
            obtain ⟨rfl, rfl⟩ := qi2 hf
            exact pz_retz hE hrt hlk hH rfl dX10_readUnit_116
      · replace hf := (if_pos hc).symm.trans hf
        refine lv_iload_n hx hb dX10_readUnit_60 rfl (lv_at hl 0 rfl) ?_
        refine lv_bipush (v := 40) hx hb dX10_readUnit_61 (by decide) ?_
        refine lv_icmp_ne (tgt := 103) hx hb dX10_readUnit_63 (by decide) (fun hc => ?_) (fun hc => ?_)
        · replace hf := (if_neg hc).symm.trans hf
          refine lv_iload_n hx hb dX10_readUnit_103 rfl (lv_at hl 3 rfl) ?_
          refine lv_if_ne (tgt := 117) hx hb dX10_readUnit_104 (by decide) (fun hc => ?_) (fun hc => ?_)
          · replace hf := (if_neg hc).symm.trans hf
            refine lv_aload_n hx hb dX10_readUnit_117 rfl (lv_at hl 1 rfl) ?_
            refine pz_gS (a := 1) hE hH fr_X10_15 qk_4 (by decide) dX10_readUnit_118 ?_
            obtain ⟨w127, ew127, hf⟩ := st_bd hf
            obtain ⟨r128, M129⟩ := w127
            replace hf := st_u2 hf
            refine q_calli (q_runV (As := []) (rest := []) hE hH (tz_X4_peek l X (hf := ew127)) kv_X10_37 qk_1 (by omega) rfl hl.1 rfl (Nat.le_of_ble_eq_true rfl) dX10_readUnit_121) hH (fun H locs hH => ?_)
            refine lv_istore (lv' := [(4, .int r128), (3, .int r2), (0, .ref (X.1 4)), (1, .int p0), (2, .int (b2i p1))]) hx hb dX10_readUnit_124 hl (by decide) rfl (fun ls hl => ?_)
            refine lv_iload hx hb dX10_readUnit_126 (lv_at hl 0 rfl) ?_
            refine q_calli (q_runS (As := [.int r128]) (rest := []) hE hH (tz_X10_isComparison l X (M := M129) (hf := rfl)) ks_X10_52 (by omega) rfl hl.1 rfl (Nat.le_of_ble_eq_true rfl) dX10_readUnit_128) hH (fun H locs hH => ?_)
            refine lv_if_ne (tgt := 149) hx hb dX10_readUnit_131 (by decide) (fun hc => ?_) (fun hc => ?_)
            · replace hf := (if_neg hc).symm.trans hf
              refine lv_aload_n hx hb dX10_readUnit_149 rfl (lv_at hl 2 rfl) ?_
              refine pz_gS (a := 1) hE hH fr_X10_15 qk_4 (by decide) dX10_readUnit_150 ?_
              refine lv_dup hx hb dX10_readUnit_153 rfl ?_
              refine pz_gI hE hH fr_X10_45 qk_1 dX10_readUnit_154 ?_
              refine lv_iconst (v := 1) hx hb dX10_readUnit_157 (by decide) ?_
              refine lv_iadd hx hb dX10_readUnit_158 ?_
              obtain ⟨M130, eM130, hf⟩ := st_lty hf
              refine pz_pI hE hH fw_X10_45 qk_1  eM130 dX10_readUnit_159 (fun H locs hH => ?_)
              refine lv_aload_n hx hb dX10_readUnit_162 rfl (lv_at hl 2 rfl) ?_
              refine lv_iload_n hx hb dX10_readUnit_163 rfl (lv_at hl 3 rfl) ?_
              obtain ⟨w131, ew131, hf⟩ := st_bd hf
              obtain ⟨r132, M133⟩ := w131
              replace hf := st_u2 hf
              refine q_calli (q_runV (As := [.int p0]) (rest := []) hE hH (tz_X10_readSum l X (hf := ew131)) kv_X10_48 qk_4 (by omega) rfl hl.1 rfl (Nat.le_of_ble_eq_true rfl) dX10_readUnit_164) hH (fun H locs hH => ?_)
              obtain ⟨w136, hr, hf⟩ := st_bd hf
              have hJ : qu2 w136 (fun z134 M135 => ∀ (ls : Array Slot) (H : Heap) (locs : List Loc), q_H X M135 s H locs → lv_has ls 5 [] → W p l e (q_rm (lvr + 3)) s m args below meth c H locs 0 0 (MQ below (q_Qi X (b2i r0) MR) args s 0 0 (q_A X)) (F0 m 188 ls [.int (b2i z134)])) := by
                obtain ⟨z134, M135⟩ := w136
                replace hf := st_u2 hf
                intro ls H locs hH hl
                replace hf := Option.some.inj hf
                obtain ⟨rfl, rfl⟩ := qi2 hf
                exact pz_retz hE hrt hlk hH rfl dX10_readUnit_188
              clear hf
              replace hf := hr
              refine lv_if_eq (tgt := 187) hx hb dX10_readUnit_167 (by decide) (fun hc => ?_) (fun hc => ?_)
              · replace hf := (if_pos hc).symm.trans hf
                refine lv_iconst (v := 0) hx hb dX10_readUnit_187 (by decide) ?_
                replace hf := Option.some.inj hf
                subst hf
                exact hJ ls H locs hH (lv_sub hl [] rfl)
              · replace hf := (if_neg hc).symm.trans hf
                refine lv_aload_n hx hb dX10_readUnit_170 rfl (lv_at hl 2 rfl) ?_
                obtain ⟨a137, ea137, hf⟩ := st_bd hf
                refine pz_gR hE hH fr_X10_9 qk_4 ea137 dX10_readUnit_171 (fun ha137 => ?_)
                replace ha137 : q_way a137 = true := ha137
                refine lv_iload hx hb dX10_readUnit_174 (lv_at hl 0 rfl) ?_
                refine lv_iconst (v := 0) hx hb dX10_readUnit_176 (by decide) ?_
                obtain ⟨w138, ew138, hf⟩ := st_bd hf
                obtain ⟨r139, M140⟩ := w138
                replace hf := st_u2 hf
                refine q_calli (q_runV (As := [.int r128, .int 0]) (rest := []) hE hH (tz_X9_add l X ha137 (hf := ew138)) kv_X10_55 (q_way_0 ha137) (by omega) rfl hl.1 rfl (Nat.le_of_ble_eq_true rfl) dX10_readUnit_177) hH (fun H locs hH => ?_)
                refine lv_if_eq (tgt := 187) hx hb dX10_readUnit_180 (by decide) (fun hc => ?_) (fun hc => ?_)
                · replace hf := (if_pos hc).symm.trans hf
                  refine lv_iconst (v := 0) hx hb dX10_readUnit_187 (by decide) ?_
                  replace hf := Option.some.inj hf
                  subst hf
                  exact hJ ls H locs hH (lv_sub hl [] rfl)
                · replace hf := (if_neg hc).symm.trans hf
                  refine lv_iconst (v := 1) hx hb dX10_readUnit_183 (by decide) ?_
                  refine lv_goto (tgt := 188) hx hb dX10_readUnit_184 (by decide) ?_
                  replace hf := Option.some.inj hf
                  subst hf
                  exact hJ ls H locs hH (lv_sub hl [] rfl)
            · replace hf := (if_pos hc).symm.trans hf
              refine lv_aload_n hx hb dX10_readUnit_134 rfl (lv_at hl 2 rfl) ?_
              refine pz_gS (a := 1) hE hH fr_X10_15 qk_4 (by decide) dX10_readUnit_135 ?_
              refine lv_aload_n hx hb dX10_readUnit_138 rfl (lv_at hl 2 rfl) ?_
              refine pz_gS (a := 1) hE hH fr_X10_15 qk_4 (by decide) dX10_readUnit_139 ?_
              refine pz_gI hE hH fr_X10_45 qk_1 dX10_readUnit_142 ?_
              obtain ⟨w141, ew141, hf⟩ := st_lty hf
              obtain ⟨r142, M143⟩ := w141
              replace hf := st_u2 hf
              refine q_calli (q_runV (As := [.int (M129.1 1 2)]) (rest := []) hE hH (tz_X4_fail l X (hf := ew141.symm)) kv_X10_79 qk_1 (by omega) rfl hl.1 rfl (Nat.le_of_ble_eq_true rfl) dX10_readUnit_145) hH (fun H locs hH => ?_)
              replace hf := Option.some.inj hf
              obtain ⟨rfl, rfl⟩ := qi2 hf
              exact pz_retz hE hrt hlk hH rfl dX10_readUnit_148
          · replace hf := (if_pos hc).symm.trans hf
            refine lv_aload_n hx hb dX10_readUnit_107 rfl (lv_at hl 1 rfl) ?_
            refine lv_iload_n hx hb dX10_readUnit_108 rfl (lv_at hl 2 rfl) ?_
            obtain ⟨w144, ew144, hf⟩ := st_bd hf
            obtain ⟨r145, M146⟩ := w144
            replace hf := st_u2 hf
            refine q_calli (q_runV (As := [.int p0]) (rest := []) hE hH (tz_X10_readSum l X (hf := ew144)) kv_X10_48 qk_4 (by omega) rfl hl.1 rfl (Nat.le_of_ble_eq_true rfl) dX10_readUnit_109) hH (fun H locs hH => ?_)
            refine lv_if_ne (tgt := 117) hx hb dX10_readUnit_112 (by decide) (fun hc => ?_) (fun hc => ?_)
            · replace hf := (if_neg hc).symm.trans hf
              refine lv_aload_n hx hb dX10_readUnit_117 rfl (lv_at hl 1 rfl) ?_
              refine pz_gS (a := 1) hE hH fr_X10_15 qk_4 (by decide) dX10_readUnit_118 ?_
              obtain ⟨w147, ew147, hf⟩ := st_bd hf
              obtain ⟨r148, M149⟩ := w147
              replace hf := st_u2 hf
              refine q_calli (q_runV (As := []) (rest := []) hE hH (tz_X4_peek l X (hf := ew147)) kv_X10_37 qk_1 (by omega) rfl hl.1 rfl (Nat.le_of_ble_eq_true rfl) dX10_readUnit_121) hH (fun H locs hH => ?_)
              refine lv_istore (lv' := [(4, .int r148), (3, .int r2), (0, .ref (X.1 4)), (1, .int p0), (2, .int (b2i p1))]) hx hb dX10_readUnit_124 hl (by decide) rfl (fun ls hl => ?_)
              refine lv_iload hx hb dX10_readUnit_126 (lv_at hl 0 rfl) ?_
              refine q_calli (q_runS (As := [.int r148]) (rest := []) hE hH (tz_X10_isComparison l X (M := M149) (hf := rfl)) ks_X10_52 (by omega) rfl hl.1 rfl (Nat.le_of_ble_eq_true rfl) dX10_readUnit_128) hH (fun H locs hH => ?_)
              refine lv_if_ne (tgt := 149) hx hb dX10_readUnit_131 (by decide) (fun hc => ?_) (fun hc => ?_)
              · replace hf := (if_neg hc).symm.trans hf
                refine lv_aload_n hx hb dX10_readUnit_149 rfl (lv_at hl 2 rfl) ?_
                refine pz_gS (a := 1) hE hH fr_X10_15 qk_4 (by decide) dX10_readUnit_150 ?_
                refine lv_dup hx hb dX10_readUnit_153 rfl ?_
                refine pz_gI hE hH fr_X10_45 qk_1 dX10_readUnit_154 ?_
                refine lv_iconst (v := 1) hx hb dX10_readUnit_157 (by decide) ?_
                refine lv_iadd hx hb dX10_readUnit_158 ?_
                obtain ⟨M150, eM150, hf⟩ := st_lty hf
                refine pz_pI hE hH fw_X10_45 qk_1  eM150 dX10_readUnit_159 (fun H locs hH => ?_)
                refine lv_aload_n hx hb dX10_readUnit_162 rfl (lv_at hl 2 rfl) ?_
                refine lv_iload_n hx hb dX10_readUnit_163 rfl (lv_at hl 3 rfl) ?_
                obtain ⟨w151, ew151, hf⟩ := st_bd hf
                obtain ⟨r152, M153⟩ := w151
                replace hf := st_u2 hf
                refine q_calli (q_runV (As := [.int p0]) (rest := []) hE hH (tz_X10_readSum l X (hf := ew151)) kv_X10_48 qk_4 (by omega) rfl hl.1 rfl (Nat.le_of_ble_eq_true rfl) dX10_readUnit_164) hH (fun H locs hH => ?_)
                obtain ⟨w156, hr, hf⟩ := st_bd hf
                have hJ : qu2 w156 (fun z154 M155 => ∀ (ls : Array Slot) (H : Heap) (locs : List Loc), q_H X M155 s H locs → lv_has ls 5 [] → W p l e (q_rm (lvr + 3)) s m args below meth c H locs 0 0 (MQ below (q_Qi X (b2i r0) MR) args s 0 0 (q_A X)) (F0 m 188 ls [.int (b2i z154)])) := by
                  obtain ⟨z154, M155⟩ := w156
                  replace hf := st_u2 hf
                  intro ls H locs hH hl
                  replace hf := Option.some.inj hf
                  obtain ⟨rfl, rfl⟩ := qi2 hf
                  exact pz_retz hE hrt hlk hH rfl dX10_readUnit_188
                clear hf
                replace hf := hr
                refine lv_if_eq (tgt := 187) hx hb dX10_readUnit_167 (by decide) (fun hc => ?_) (fun hc => ?_)
                · replace hf := (if_pos hc).symm.trans hf
                  refine lv_iconst (v := 0) hx hb dX10_readUnit_187 (by decide) ?_
                  replace hf := Option.some.inj hf
                  subst hf
                  exact hJ ls H locs hH (lv_sub hl [] rfl)
                · replace hf := (if_neg hc).symm.trans hf
                  refine lv_aload_n hx hb dX10_readUnit_170 rfl (lv_at hl 2 rfl) ?_
                  obtain ⟨a157, ea157, hf⟩ := st_bd hf
                  refine pz_gR hE hH fr_X10_9 qk_4 ea157 dX10_readUnit_171 (fun ha157 => ?_)
                  replace ha157 : q_way a157 = true := ha157
                  refine lv_iload hx hb dX10_readUnit_174 (lv_at hl 0 rfl) ?_
                  refine lv_iconst (v := 0) hx hb dX10_readUnit_176 (by decide) ?_
                  obtain ⟨w158, ew158, hf⟩ := st_bd hf
                  obtain ⟨r159, M160⟩ := w158
                  replace hf := st_u2 hf
                  refine q_calli (q_runV (As := [.int r148, .int 0]) (rest := []) hE hH (tz_X9_add l X ha157 (hf := ew158)) kv_X10_55 (q_way_0 ha157) (by omega) rfl hl.1 rfl (Nat.le_of_ble_eq_true rfl) dX10_readUnit_177) hH (fun H locs hH => ?_)
                  refine lv_if_eq (tgt := 187) hx hb dX10_readUnit_180 (by decide) (fun hc => ?_) (fun hc => ?_)
                  · replace hf := (if_pos hc).symm.trans hf
                    refine lv_iconst (v := 0) hx hb dX10_readUnit_187 (by decide) ?_
                    replace hf := Option.some.inj hf
                    subst hf
                    exact hJ ls H locs hH (lv_sub hl [] rfl)
                  · replace hf := (if_neg hc).symm.trans hf
                    refine lv_iconst (v := 1) hx hb dX10_readUnit_183 (by decide) ?_
                    refine lv_goto (tgt := 188) hx hb dX10_readUnit_184 (by decide) ?_
                    replace hf := Option.some.inj hf
                    subst hf
                    exact hJ ls H locs hH (lv_sub hl [] rfl)
              · replace hf := (if_pos hc).symm.trans hf
                refine lv_aload_n hx hb dX10_readUnit_134 rfl (lv_at hl 2 rfl) ?_
                refine pz_gS (a := 1) hE hH fr_X10_15 qk_4 (by decide) dX10_readUnit_135 ?_
                refine lv_aload_n hx hb dX10_readUnit_138 rfl (lv_at hl 2 rfl) ?_
                refine pz_gS (a := 1) hE hH fr_X10_15 qk_4 (by decide) dX10_readUnit_139 ?_
                refine pz_gI hE hH fr_X10_45 qk_1 dX10_readUnit_142 ?_
                obtain ⟨w161, ew161, hf⟩ := st_lty hf
                obtain ⟨r162, M163⟩ := w161
                replace hf := st_u2 hf
                refine q_calli (q_runV (As := [.int (M149.1 1 2)]) (rest := []) hE hH (tz_X4_fail l X (hf := ew161.symm)) kv_X10_79 qk_1 (by omega) rfl hl.1 rfl (Nat.le_of_ble_eq_true rfl) dX10_readUnit_145) hH (fun H locs hH => ?_)
                replace hf := Option.some.inj hf
                obtain ⟨rfl, rfl⟩ := qi2 hf
                exact pz_retz hE hrt hlk hH rfl dX10_readUnit_148
            · replace hf := (if_pos hc).symm.trans hf
              refine lv_iconst (v := 0) hx hb dX10_readUnit_115 (by decide) ?_
              replace hf := Option.some.inj hf
              obtain ⟨rfl, rfl⟩ := qi2 hf
              exact pz_retz hE hrt hlk hH rfl dX10_readUnit_116
        · replace hf := (if_pos hc).symm.trans hf
          refine lv_aload_n hx hb dX10_readUnit_66 rfl (lv_at hl 1 rfl) ?_
          refine lv_iload_n hx hb dX10_readUnit_67 rfl (lv_at hl 2 rfl) ?_
          obtain ⟨w164, ew164, hf⟩ := st_lty hf
          obtain ⟨r165, M166⟩ := w164
          replace hf := st_u2 hf
          refine q_calli (q_runV (As := [.int p0]) (rest := []) hE hH (tz_X10_openAt l X (hf := ew164.symm)) kv_X10_76 qk_4 (by omega) rfl hl.1 rfl (Nat.le_of_ble_eq_true rfl) dX10_readUnit_68) hH (fun H locs hH => ?_)
          obtain ⟨w169, hr, hf⟩ := st_bd hf
          have hJ : qu2 w169 (fun z167 M168 => ∀ (ls : Array Slot) (H : Heap) (locs : List Loc), q_H X M168 s H locs → lv_has ls 5 [] → W p l e (q_rm (lvr + 3)) s m args below meth c H locs 0 0 (MQ below (q_Qi X (b2i r0) MR) args s 0 0 (q_A X)) (F0 m 102 ls [.int (b2i z167)])) := by
            obtain ⟨z167, M168⟩ := w169
            replace hf := st_u2 hf
            intro ls H locs hH hl
            replace hf := Option.some.inj hf
            obtain ⟨rfl, rfl⟩ := qi2 hf
            exact pz_retz hE hrt hlk hH rfl dX10_readUnit_102
          clear hf
          replace hf := hr
          refine lv_if_eq (tgt := 101) hx hb dX10_readUnit_71 (by decide) (fun hc => ?_) (fun hc => ?_)
          · replace hf := (if_pos hc).symm.trans hf
            refine lv_iconst (v := 0) hx hb dX10_readUnit_101 (by decide) ?_
            replace hf := Option.some.inj hf
            subst hf
            exact hJ ls H locs hH (lv_sub hl [] rfl)
          · replace hf := (if_neg hc).symm.trans hf
            refine lv_aload_n hx hb dX10_readUnit_74 rfl (lv_at hl 1 rfl) ?_
            refine lv_iload_n hx hb dX10_readUnit_75 rfl (lv_at hl 2 rfl) ?_
            refine lv_iconst (v := 1) hx hb dX10_readUnit_76 (by decide) ?_
            refine lv_iadd hx hb dX10_readUnit_77 ?_
            refine lv_iconst (v := 0) hx hb dX10_readUnit_78 (by decide) ?_
            obtain ⟨w170, ew170, hf⟩ := st_bd hf
            obtain ⟨r171, M172⟩ := w170
            replace hf := st_u2 hf
            refine q_calli (q_runV (As := [.int (p0 + 1), .int 0]) (rest := []) hE hH (tzF_X10_readCondition l X hlv hrc (hf := ew170)) kv_X10_59 qk_4 (by omega) rfl hl.1 rfl (Nat.le_of_ble_eq_true rfl) dX10_readUnit_79) hH (fun H locs hH => ?_)
            refine lv_if_eq (tgt := 101) hx hb dX10_readUnit_82 (by decide) (fun hc => ?_) (fun hc => ?_)
            · replace hf := (if_pos hc).symm.trans hf
              refine lv_iconst (v := 0) hx hb dX10_readUnit_101 (by decide) ?_
              replace hf := Option.some.inj hf
              subst hf
              exact hJ ls H locs hH (lv_sub hl [] rfl)
            · replace hf := (if_neg hc).symm.trans hf
              refine lv_aload_n hx hb dX10_readUnit_85 rfl (lv_at hl 1 rfl) ?_
              refine pz_gS (a := 1) hE hH fr_X10_15 qk_4 (by decide) dX10_readUnit_86 ?_
              refine lv_bipush (v := 41) hx hb dX10_readUnit_89 (by decide) ?_
              obtain ⟨w173, ew173, hf⟩ := st_bd hf
              obtain ⟨r174, M175⟩ := w173
              replace hf := st_u2 hf
              refine q_calli (q_runV (As := [.int 41]) (rest := []) hE hH (tz_X4_take l X (hf := ew173)) kv_X10_41 qk_1 (by omega) rfl hl.1 rfl (Nat.le_of_ble_eq_true rfl) dX10_readUnit_91) hH (fun H locs hH => ?_)
              refine lv_if_eq (tgt := 101) hx hb dX10_readUnit_94 (by decide) (fun hc => ?_) (fun hc => ?_)
              · replace hf := (if_pos hc).symm.trans hf
                refine lv_iconst (v := 0) hx hb dX10_readUnit_101 (by decide) ?_
                replace hf := Option.some.inj hf
                subst hf
                exact hJ ls H locs hH (lv_sub hl [] rfl)
              · replace hf := (if_neg hc).symm.trans hf
                refine lv_iconst (v := 1) hx hb dX10_readUnit_97 (by decide) ?_
                refine lv_goto (tgt := 102) hx hb dX10_readUnit_98 (by decide) ?_
                replace hf := Option.some.inj hf
                subst hf
                exact hJ ls H locs hH (lv_sub hl [] rfl)
    · replace hf := (if_pos hc).symm.trans hf
      refine lv_aload_n hx hb dX10_readUnit_18 rfl (lv_at hl 1 rfl) ?_
      refine lv_iload_n hx hb dX10_readUnit_19 rfl (lv_at hl 2 rfl) ?_
      obtain ⟨w176, ew176, hf⟩ := st_lty hf
      obtain ⟨r177, M178⟩ := w176
      replace hf := st_u2 hf
      refine q_calli (q_runV (As := [.int p0]) (rest := []) hE hH (tz_X10_openAt l X (hf := ew176.symm)) kv_X10_76 qk_4 (by omega) rfl hl.1 rfl (Nat.le_of_ble_eq_true rfl) dX10_readUnit_20) hH (fun H locs hH => ?_)
      obtain ⟨w181, hr, hf⟩ := st_bd hf
      have hJ : qu2 w181 (fun z179 M180 => ∀ (ls : Array Slot) (H : Heap) (locs : List Loc), q_H X M180 s H locs → lv_has ls 5 [] → W p l e (q_rm (lvr + 3)) s m args below meth c H locs 0 0 (MQ below (q_Qi X (b2i r0) MR) args s 0 0 (q_A X)) (F0 m 55 ls [.int (b2i z179)])) := by
        obtain ⟨z179, M180⟩ := w181
        replace hf := st_u2 hf
        intro ls H locs hH hl
        replace hf := Option.some.inj hf
        obtain ⟨rfl, rfl⟩ := qi2 hf
        exact pz_retz hE hrt hlk hH rfl dX10_readUnit_55
      clear hf
      replace hf := hr
      refine lv_if_eq (tgt := 54) hx hb dX10_readUnit_23 (by decide) (fun hc => ?_) (fun hc => ?_)
      · replace hf := (if_pos hc).symm.trans hf
        refine lv_iconst (v := 0) hx hb dX10_readUnit_54 (by decide) ?_
        replace hf := Option.some.inj hf
        subst hf
        exact hJ ls H locs hH (lv_sub hl [] rfl)
      · replace hf := (if_neg hc).symm.trans hf
        refine lv_aload_n hx hb dX10_readUnit_26 rfl (lv_at hl 1 rfl) ?_
        refine lv_iload_n hx hb dX10_readUnit_27 rfl (lv_at hl 2 rfl) ?_
        refine lv_iconst (v := 1) hx hb dX10_readUnit_28 (by decide) ?_
        refine lv_iadd hx hb dX10_readUnit_29 ?_
        refine lv_iconst (v := 0) hx hb dX10_readUnit_30 (by decide) ?_
        obtain ⟨w182, ew182, hf⟩ := st_bd hf
        obtain ⟨r183, M184⟩ := w182
        replace hf := st_u2 hf
        refine q_calli (q_runV (As := [.int (p0 + 1), .int 0]) (rest := []) hE hH (hrc ew182) kv_X10_73 qk_4 (by omega) rfl hl.1 rfl (Nat.le_of_ble_eq_true rfl) dX10_readUnit_31) hH (fun H locs hH => ?_)
        refine lv_if_eq (tgt := 54) hx hb dX10_readUnit_34 (by decide) (fun hc => ?_) (fun hc => ?_)
        · replace hf := (if_pos hc).symm.trans hf
          refine lv_iconst (v := 0) hx hb dX10_readUnit_54 (by decide) ?_
          replace hf := Option.some.inj hf
          subst hf
          exact hJ ls H locs hH (lv_sub hl [] rfl)
        · replace hf := (if_neg hc).symm.trans hf
          refine lv_aload_n hx hb dX10_readUnit_37 rfl (lv_at hl 1 rfl) ?_
          obtain ⟨a185, ea185, hf⟩ := st_bd hf
          refine pz_gR hE hH fr_X10_9 qk_4 ea185 dX10_readUnit_38 (fun ha185 => ?_)
          replace ha185 : q_way a185 = true := ha185
          refine lv_bipush (v := 33) hx hb dX10_readUnit_41 (by decide) ?_
          refine lv_iconst (v := 0) hx hb dX10_readUnit_43 (by decide) ?_
          obtain ⟨w186, ew186, hf⟩ := st_bd hf
          obtain ⟨r187, M188⟩ := w186
          replace hf := st_u2 hf
          refine q_calli (q_runV (As := [.int 33, .int 0]) (rest := []) hE hH (tz_X9_add l X ha185 (hf := ew186)) kv_X10_55 (q_way_0 ha185) (by omega) rfl hl.1 rfl (Nat.le_of_ble_eq_true rfl) dX10_readUnit_44) hH (fun H locs hH => ?_)
          refine lv_if_eq (tgt := 54) hx hb dX10_readUnit_47 (by decide) (fun hc => ?_) (fun hc => ?_)
          · replace hf := (if_pos hc).symm.trans hf
            refine lv_iconst (v := 0) hx hb dX10_readUnit_54 (by decide) ?_
            replace hf := Option.some.inj hf
            subst hf
            exact hJ ls H locs hH (lv_sub hl [] rfl)
          · replace hf := (if_neg hc).symm.trans hf
            refine lv_iconst (v := 1) hx hb dX10_readUnit_50 (by decide) ?_
            refine lv_goto (tgt := 55) hx hb dX10_readUnit_51 (by decide) ?_
            replace hf := Option.some.inj hf
            subst hf
            exact hJ ls H locs hH (lv_sub hl [] rfl)

theorem tzN_X10_readUnit (l : Launch) (X : qX) (n : Nat) : ∀ {p0 : Int32} {p1 : Bool} {M MR : qM} {r0 : Bool}, jWr_readUnitN n p0 p1 M = some (r0, MR) → q_Met l X yX10_readUnit cX10_readUnit 5 (some .boolean) (34 + 3 * n) M [.ref (X.1 4), .int p0, .int (b2i p1)] (q_Qi X (b2i r0) MR) := by
  induction n with
  | zero => intro p0 p1 M MR r0 h; exact st_nn h
  | succ n ih =>
    intro p0 p1 M MR r0 h
    have h1 := tzF_X10_readUnit l X (rc := jWr_readUnitN n) (lvr := 34 + 3 * n) (by omega) (fun h => ih h) (hf := h)
    rw [show 34 + 3 * (n + 1) = 34 + 3 * n + 3 by omega]
    exact h1
theorem tz_X10_readTruth (l : Launch) (X : qX) {p0 : Int32} {p1 : Bool} {M MR : qM} {r0 : Bool} (hf : jWr_readTruth p0 p1 M = some (r0, MR)) : q_Met l X yX10_readTruth cX10_readTruth 4 (some .boolean) 59 M [.ref (X.1 4), .int p0, .int (b2i p1)] (q_Qi X (b2i r0) MR) := tzF_X10_readTruth l X (rc := jWr_readUnitN 8) (lvr := 34 + 3 * 8) (by omega) (fun h => tzN_X10_readUnit l X 8 h) (hf := hf)
theorem tz_X10_readCondition (l : Launch) (X : qX) {p0 : Int32} {p1 : Bool} {M MR : qM} {r0 : Bool} (hf : jWr_readCondition p0 p1 M = some (r0, MR)) : q_Met l X yX10_readCondition cX10_readCondition 4 (some .boolean) 60 M [.ref (X.1 4), .int p0, .int (b2i p1)] (q_Qi X (b2i r0) MR) := tzF_X10_readCondition l X (rc := jWr_readUnitN 8) (lvr := 34 + 3 * 8) (by omega) (fun h => tzN_X10_readUnit l X 8 h) (hf := hf)
theorem tz_X10_readUnit (l : Launch) (X : qX) {p0 : Int32} {p1 : Bool} {M MR : qM} {r0 : Bool} (hf : jWr_readUnit p0 p1 M = some (r0, MR)) : q_Met l X yX10_readUnit cX10_readUnit 5 (some .boolean) 61 M [.ref (X.1 4), .int p0, .int (b2i p1)] (q_Qi X (b2i r0) MR) := tzF_X10_readUnit l X (rc := jWr_readUnitN 8) (lvr := 34 + 3 * 8) (by omega) (fun h => tzN_X10_readUnit l X 8 h) (hf := hf)

theorem dX10_readClause_0 : decode cX10_readClause 0 = .ok (.aload_n 0, 1) := by decide +kernel
theorem dX10_readClause_1 : decode cX10_readClause 1 = .ok (.getfield 15, 3) := by decide +kernel
theorem dX10_readClause_4 : decode cX10_readClause 4 = .ok (.bipush 121, 2) := by decide +kernel
theorem dX10_readClause_6 : decode cX10_readClause 6 = .ok (.invokevirtual 41, 3) := by decide +kernel
theorem dX10_readClause_9 : decode cX10_readClause 9 = .ok (.ifCond .eq 15, 3) := by decide +kernel
theorem dX10_readClause_12 : decode cX10_readClause 12 = .ok (.aload_n 0, 1) := by decide +kernel
theorem dX10_readClause_13 : decode cX10_readClause 13 = .ok (.getfield 15, 3) := by decide +kernel
theorem dX10_readClause_16 : decode cX10_readClause 16 = .ok (.bipush 58, 2) := by decide +kernel
theorem dX10_readClause_18 : decode cX10_readClause 18 = .ok (.invokevirtual 41, 3) := by decide +kernel
theorem dX10_readClause_21 : decode cX10_readClause 21 = .ok (.ifCond .ne 5, 3) := by decide +kernel
theorem dX10_readClause_24 : decode cX10_readClause 24 = .ok (.iconst 0, 1) := by decide +kernel
theorem dX10_readClause_25 : decode cX10_readClause 25 = .ok (.ireturn, 1) := by decide +kernel
theorem dX10_readClause_26 : decode cX10_readClause 26 = .ok (.aload_n 0, 1) := by decide +kernel
theorem dX10_readClause_27 : decode cX10_readClause 27 = .ok (.getfield 15, 3) := by decide +kernel
theorem dX10_readClause_30 : decode cX10_readClause 30 = .ok (.invokevirtual 37, 3) := by decide +kernel
theorem dX10_readClause_33 : decode cX10_readClause 33 = .ok (.istore_n 1, 1) := by decide +kernel
theorem dX10_readClause_34 : decode cX10_readClause 34 = .ok (.iload_n 1, 1) := by decide +kernel
theorem dX10_readClause_35 : decode cX10_readClause 35 = .ok (.bipush 33, 2) := by decide +kernel
theorem dX10_readClause_37 : decode cX10_readClause 37 = .ok (.if_icmp .eq 13, 3) := by decide +kernel
theorem dX10_readClause_40 : decode cX10_readClause 40 = .ok (.iload_n 1, 1) := by decide +kernel
theorem dX10_readClause_41 : decode cX10_readClause 41 = .ok (.bipush 40, 2) := by decide +kernel
theorem dX10_readClause_43 : decode cX10_readClause 43 = .ok (.if_icmp .eq 7, 3) := by decide +kernel
theorem dX10_readClause_46 : decode cX10_readClause 46 = .ok (.iconst 1, 1) := by decide +kernel
theorem dX10_readClause_47 : decode cX10_readClause 47 = .ok (.goto 4, 3) := by decide +kernel
theorem dX10_readClause_50 : decode cX10_readClause 50 = .ok (.iconst 0, 1) := by decide +kernel
theorem dX10_readClause_51 : decode cX10_readClause 51 = .ok (.istore_n 2, 1) := by decide +kernel
theorem dX10_readClause_52 : decode cX10_readClause 52 = .ok (.iload_n 2, 1) := by decide +kernel
theorem dX10_readClause_53 : decode cX10_readClause 53 = .ok (.ifCond .eq 13, 3) := by decide +kernel
theorem dX10_readClause_56 : decode cX10_readClause 56 = .ok (.aload_n 0, 1) := by decide +kernel
theorem dX10_readClause_57 : decode cX10_readClause 57 = .ok (.iconst 0, 1) := by decide +kernel
theorem dX10_readClause_58 : decode cX10_readClause 58 = .ok (.invokevirtual 48, 3) := by decide +kernel
theorem dX10_readClause_61 : decode cX10_readClause 61 = .ok (.ifCond .ne 5, 3) := by decide +kernel
theorem dX10_readClause_64 : decode cX10_readClause 64 = .ok (.iconst 0, 1) := by decide +kernel
theorem dX10_readClause_65 : decode cX10_readClause 65 = .ok (.ireturn, 1) := by decide +kernel
theorem dX10_readClause_66 : decode cX10_readClause 66 = .ok (.iload_n 2, 1) := by decide +kernel
theorem dX10_readClause_67 : decode cX10_readClause 67 = .ok (.ifCond .eq 27, 3) := by decide +kernel
theorem dX10_readClause_70 : decode cX10_readClause 70 = .ok (.aload_n 0, 1) := by decide +kernel
theorem dX10_readClause_71 : decode cX10_readClause 71 = .ok (.getfield 15, 3) := by decide +kernel
theorem dX10_readClause_74 : decode cX10_readClause 74 = .ok (.invokevirtual 37, 3) := by decide +kernel
theorem dX10_readClause_77 : decode cX10_readClause 77 = .ok (.invokestatic 52, 3) := by decide +kernel
theorem dX10_readClause_80 : decode cX10_readClause 80 = .ok (.ifCond .ne 14, 3) := by decide +kernel
theorem dX10_readClause_83 : decode cX10_readClause 83 = .ok (.aload_n 0, 1) := by decide +kernel
theorem dX10_readClause_84 : decode cX10_readClause 84 = .ok (.getfield 9, 3) := by decide +kernel
theorem dX10_readClause_87 : decode cX10_readClause 87 = .ok (.bipush 59, 2) := by decide +kernel
theorem dX10_readClause_89 : decode cX10_readClause 89 = .ok (.iconst 0, 1) := by decide +kernel
theorem dX10_readClause_90 : decode cX10_readClause 90 = .ok (.invokevirtual 55, 3) := by decide +kernel
theorem dX10_readClause_93 : decode cX10_readClause 93 = .ok (.ireturn, 1) := by decide +kernel
theorem dX10_readClause_94 : decode cX10_readClause 94 = .ok (.aload_n 0, 1) := by decide +kernel
theorem dX10_readClause_95 : decode cX10_readClause 95 = .ok (.iconst 0, 1) := by decide +kernel
theorem dX10_readClause_96 : decode cX10_readClause 96 = .ok (.iload_n 2, 1) := by decide +kernel
theorem dX10_readClause_97 : decode cX10_readClause 97 = .ok (.invokevirtual 59, 3) := by decide +kernel
theorem dX10_readClause_100 : decode cX10_readClause 100 = .ok (.ifCond .eq 15, 3) := by decide +kernel
theorem dX10_readClause_103 : decode cX10_readClause 103 = .ok (.aload_n 0, 1) := by decide +kernel
theorem dX10_readClause_104 : decode cX10_readClause 104 = .ok (.getfield 15, 3) := by decide +kernel
theorem dX10_readClause_107 : decode cX10_readClause 107 = .ok (.bipush 63, 2) := by decide +kernel
theorem dX10_readClause_109 : decode cX10_readClause 109 = .ok (.invokevirtual 41, 3) := by decide +kernel
theorem dX10_readClause_112 : decode cX10_readClause 112 = .ok (.ifCond .ne 5, 3) := by decide +kernel
theorem dX10_readClause_115 : decode cX10_readClause 115 = .ok (.iconst 0, 1) := by decide +kernel
theorem dX10_readClause_116 : decode cX10_readClause 116 = .ok (.ireturn, 1) := by decide +kernel
theorem dX10_readClause_117 : decode cX10_readClause 117 = .ok (.aload_n 0, 1) := by decide +kernel
theorem dX10_readClause_118 : decode cX10_readClause 118 = .ok (.getfield 9, 3) := by decide +kernel
theorem dX10_readClause_121 : decode cX10_readClause 121 = .ok (.getfield 24, 3) := by decide +kernel
theorem dX10_readClause_124 : decode cX10_readClause 124 = .ok (.istore_n 3, 1) := by decide +kernel
theorem dX10_readClause_125 : decode cX10_readClause 125 = .ok (.aload_n 0, 1) := by decide +kernel
theorem dX10_readClause_126 : decode cX10_readClause 126 = .ok (.getfield 9, 3) := by decide +kernel
theorem dX10_readClause_129 : decode cX10_readClause 129 = .ok (.bipush 63, 2) := by decide +kernel
theorem dX10_readClause_131 : decode cX10_readClause 131 = .ok (.iconst 0, 1) := by decide +kernel
theorem dX10_readClause_132 : decode cX10_readClause 132 = .ok (.invokevirtual 55, 3) := by decide +kernel
theorem dX10_readClause_135 : decode cX10_readClause 135 = .ok (.pop, 1) := by decide +kernel
theorem dX10_readClause_136 : decode cX10_readClause 136 = .ok (.aload_n 0, 1) := by decide +kernel
theorem dX10_readClause_137 : decode cX10_readClause 137 = .ok (.iconst 0, 1) := by decide +kernel
theorem dX10_readClause_138 : decode cX10_readClause 138 = .ok (.invokevirtual 48, 3) := by decide +kernel
theorem dX10_readClause_141 : decode cX10_readClause 141 = .ok (.ifCond .eq 20, 3) := by decide +kernel
theorem dX10_readClause_144 : decode cX10_readClause 144 = .ok (.aload_n 0, 1) := by decide +kernel
theorem dX10_readClause_145 : decode cX10_readClause 145 = .ok (.getfield 9, 3) := by decide +kernel
theorem dX10_readClause_148 : decode cX10_readClause 148 = .ok (.bipush 59, 2) := by decide +kernel
theorem dX10_readClause_150 : decode cX10_readClause 150 = .ok (.iconst 0, 1) := by decide +kernel
theorem dX10_readClause_151 : decode cX10_readClause 151 = .ok (.invokevirtual 55, 3) := by decide +kernel
theorem dX10_readClause_154 : decode cX10_readClause 154 = .ok (.ifCond .eq 7, 3) := by decide +kernel
theorem dX10_readClause_157 : decode cX10_readClause 157 = .ok (.iconst 1, 1) := by decide +kernel
theorem dX10_readClause_158 : decode cX10_readClause 158 = .ok (.goto 4, 3) := by decide +kernel
theorem dX10_readClause_161 : decode cX10_readClause 161 = .ok (.iconst 0, 1) := by decide +kernel
theorem dX10_readClause_162 : decode cX10_readClause 162 = .ok (.istore 4, 2) := by decide +kernel
theorem dX10_readClause_164 : decode cX10_readClause 164 = .ok (.aload_n 0, 1) := by decide +kernel
theorem dX10_readClause_165 : decode cX10_readClause 165 = .ok (.getfield 9, 3) := by decide +kernel
theorem dX10_readClause_168 : decode cX10_readClause 168 = .ok (.iload_n 3, 1) := by decide +kernel
theorem dX10_readClause_169 : decode cX10_readClause 169 = .ok (.aload_n 0, 1) := by decide +kernel
theorem dX10_readClause_170 : decode cX10_readClause 170 = .ok (.getfield 9, 3) := by decide +kernel
theorem dX10_readClause_173 : decode cX10_readClause 173 = .ok (.getfield 24, 3) := by decide +kernel
theorem dX10_readClause_176 : decode cX10_readClause 176 = .ok (.invokevirtual 63, 3) := by decide +kernel
theorem dX10_readClause_179 : decode cX10_readClause 179 = .ok (.iload 4, 2) := by decide +kernel
theorem dX10_readClause_181 : decode cX10_readClause 181 = .ok (.ireturn, 1) := by decide +kernel
set_option maxRecDepth 100000 in
set_option maxHeartbeats 4000000 in
theorem tz_X10_readClause (l : Launch) (X : qX) {M MR : qM} {r0 : Bool} (hf : jWr_readClause M = some (r0, MR)) : q_Met l X yX10_readClause cX10_readClause 5 (some .boolean) (61) M [.ref (X.1 4)] (q_Qi X (b2i r0) MR) := by
  refine q_enter (by decide) (Nat.le_of_ble_eq_true rfl) ?_
  intro p e s m args below meth c hE hrt hlk H locs hH ls hl
  have hx := hE.1
  have hb := hE.2.1
  have hl : lv_has ls 5 [(0, .ref (X.1 4))] := hl
  unfold jWr_readClause at hf
  refine lv_aload_n hx hb dX10_readClause_0 rfl (lv_at hl 0 rfl) ?_
  refine pz_gS (a := 1) hE hH fr_X10_15 qk_4 (by decide) dX10_readClause_1 ?_
  refine lv_bipush (v := 121) hx hb dX10_readClause_4 (by decide) ?_
  obtain ⟨w1, ew1, hf⟩ := st_bd hf
  obtain ⟨r2, M3⟩ := w1
  replace hf := st_u2 hf
  refine q_calli (q_runV (As := [.int 121]) (rest := []) hE hH (tz_X4_take l X (hf := ew1)) kv_X10_41 qk_1 (by decide) rfl hl.1 rfl (Nat.le_of_ble_eq_true rfl) dX10_readClause_6) hH (fun H locs hH => ?_)
  refine lv_if_eq (tgt := 24) hx hb dX10_readClause_9 (by decide) (fun hc => ?_) (fun hc => ?_)
  · replace hf := (if_pos hc).symm.trans hf
    refine lv_iconst (v := 0) hx hb dX10_readClause_24 (by decide) ?_
    replace hf := Option.some.inj hf
    obtain ⟨rfl, rfl⟩ := qi2 hf
    exact pz_retz hE hrt hlk hH rfl dX10_readClause_25
  · replace hf := (if_neg hc).symm.trans hf
    refine lv_aload_n hx hb dX10_readClause_12 rfl (lv_at hl 0 rfl) ?_
    refine pz_gS (a := 1) hE hH fr_X10_15 qk_4 (by decide) dX10_readClause_13 ?_
    refine lv_bipush (v := 58) hx hb dX10_readClause_16 (by decide) ?_
    obtain ⟨w4, ew4, hf⟩ := st_bd hf
    obtain ⟨r5, M6⟩ := w4
    replace hf := st_u2 hf
    refine q_calli (q_runV (As := [.int 58]) (rest := []) hE hH (tz_X4_take l X (hf := ew4)) kv_X10_41 qk_1 (by decide) rfl hl.1 rfl (Nat.le_of_ble_eq_true rfl) dX10_readClause_18) hH (fun H locs hH => ?_)
    refine lv_if_ne (tgt := 26) hx hb dX10_readClause_21 (by decide) (fun hc => ?_) (fun hc => ?_)
    · replace hf := (if_neg hc).symm.trans hf
      refine lv_aload_n hx hb dX10_readClause_26 rfl (lv_at hl 0 rfl) ?_
      refine pz_gS (a := 1) hE hH fr_X10_15 qk_4 (by decide) dX10_readClause_27 ?_
      obtain ⟨w7, ew7, hf⟩ := st_bd hf
      obtain ⟨r8, M9⟩ := w7
      replace hf := st_u2 hf
      refine q_calli (q_runV (As := []) (rest := []) hE hH (tz_X4_peek l X (hf := ew7)) kv_X10_37 qk_1 (by decide) rfl hl.1 rfl (Nat.le_of_ble_eq_true rfl) dX10_readClause_30) hH (fun H locs hH => ?_)
      refine lv_istore_n (lv' := [(1, .int r8), (0, .ref (X.1 4))]) hx hb dX10_readClause_33 rfl hl (by decide) rfl (fun ls hl => ?_)
      refine lv_iload_n hx hb dX10_readClause_34 rfl (lv_at hl 0 rfl) ?_
      refine lv_bipush (v := 33) hx hb dX10_readClause_35 (by decide) ?_
      obtain ⟨z10, hr, hf⟩ := st_ltx hf
      have hJ : ∀ (ls : Array Slot) (H : Heap) (locs : List Loc), q_H X M9 s H locs → lv_has ls 5 [(0, .ref (X.1 4))] → W p l e (q_rm (61)) s m args below meth c H locs 0 0 (MQ below (q_Qi X (b2i r0) MR) args s 0 0 (q_A X)) (F0 m 51 ls [.int (b2i z10)]) := by
        intro ls H locs hH hl
        refine lv_istore_n (lv' := [(2, .int (b2i z10)), (0, .ref (X.1 4))]) hx hb dX10_readClause_51 rfl hl (by decide) rfl (fun ls hl => ?_)
        refine lv_iload_n hx hb dX10_readClause_52 rfl (lv_at hl 0 rfl) ?_
        refine lv_if_eq (tgt := 66) hx hb dX10_readClause_53 (by decide) (fun hc => ?_) (fun hc => ?_)
        · replace hf := (if_pos hc).symm.trans hf
          refine lv_iload_n hx hb dX10_readClause_66 rfl (lv_at hl 0 rfl) ?_
          refine lv_if_eq (tgt := 94) hx hb dX10_readClause_67 (by decide) (fun hc => ?_) (fun hc => ?_)
          · replace hf := (if_pos hc).symm.trans hf
            refine lv_aload_n hx hb dX10_readClause_94 rfl (lv_at hl 1 rfl) ?_
            refine lv_iconst (v := 0) hx hb dX10_readClause_95 (by decide) ?_
            refine lv_iload_n hx hb dX10_readClause_96 rfl (lv_at hl 0 rfl) ?_
            obtain ⟨w11, ew11, hf⟩ := st_bd hf
            obtain ⟨r12, M13⟩ := w11
            replace hf := st_u2 hf
            refine q_calli (q_runV (As := [.int 0, .int (b2i z10)]) (rest := []) hE hH (tz_X10_readCondition l X (hf := ew11)) kv_X10_59 qk_4 (by decide) rfl hl.1 rfl (Nat.le_of_ble_eq_true rfl) dX10_readClause_97) hH (fun H locs hH => ?_)
            refine lv_if_eq (tgt := 115) hx hb dX10_readClause_100 (by decide) (fun hc => ?_) (fun hc => ?_)
            · replace hf := (if_pos hc).symm.trans hf
              refine lv_iconst (v := 0) hx hb dX10_readClause_115 (by decide) ?_
              replace hf := Option.some.inj hf
              obtain ⟨rfl, rfl⟩ := qi2 hf
              exact pz_retz hE hrt hlk hH rfl dX10_readClause_116
            · replace hf := (if_neg hc).symm.trans hf
              refine lv_aload_n hx hb dX10_readClause_103 rfl (lv_at hl 1 rfl) ?_
              refine pz_gS (a := 1) hE hH fr_X10_15 qk_4 (by decide) dX10_readClause_104 ?_
              refine lv_bipush (v := 63) hx hb dX10_readClause_107 (by decide) ?_
              obtain ⟨w14, ew14, hf⟩ := st_bd hf
              obtain ⟨r15, M16⟩ := w14
              replace hf := st_u2 hf
              refine q_calli (q_runV (As := [.int 63]) (rest := []) hE hH (tz_X4_take l X (hf := ew14)) kv_X10_41 qk_1 (by decide) rfl hl.1 rfl (Nat.le_of_ble_eq_true rfl) dX10_readClause_109) hH (fun H locs hH => ?_)
              refine lv_if_ne (tgt := 117) hx hb dX10_readClause_112 (by decide) (fun hc => ?_) (fun hc => ?_)
              · replace hf := (if_neg hc).symm.trans hf
                refine lv_aload_n hx hb dX10_readClause_117 rfl (lv_at hl 1 rfl) ?_
                obtain ⟨a17, ea17, hf⟩ := st_bd hf
                refine pz_gR hE hH fr_X10_9 qk_4 ea17 dX10_readClause_118 (fun ha17 => ?_)
                replace ha17 : q_way a17 = true := ha17
                refine pz_gI hE hH fr_X10_24 (q_way_0 ha17) dX10_readClause_121 ?_
                refine lv_topi (fun x18 ex18 => ?_)
                replace hf := st_lt hf ex18
                refine lv_istore_n (lv' := [(3, .int x18), (2, .int (b2i z10)), (0, .ref (X.1 4))]) hx hb dX10_readClause_124 rfl hl (by decide) rfl (fun ls hl => ?_)
                refine lv_aload_n hx hb dX10_readClause_125 rfl (lv_at hl 2 rfl) ?_
                obtain ⟨a19, ea19, hf⟩ := st_bd hf
                refine pz_gR hE hH fr_X10_9 qk_4 ea19 dX10_readClause_126 (fun ha19 => ?_)
                replace ha19 : q_way a19 = true := ha19
                refine lv_bipush (v := 63) hx hb dX10_readClause_129 (by decide) ?_
                refine lv_iconst (v := 0) hx hb dX10_readClause_131 (by decide) ?_
                obtain ⟨w20, ew20, hf⟩ := st_bd hf
                obtain ⟨r21, M22⟩ := w20
                replace hf := st_u2 hf
                refine q_calli (q_runV (As := [.int 63, .int 0]) (rest := []) hE hH (tz_X9_add l X ha19 (hf := ew20)) kv_X10_55 (q_way_0 ha19) (by decide) rfl hl.1 rfl (Nat.le_of_ble_eq_true rfl) dX10_readClause_132) hH (fun H locs hH => ?_)
                refine lv_pop hx hb dX10_readClause_135 rfl ?_
                refine lv_aload_n hx hb dX10_readClause_136 rfl (lv_at hl 2 rfl) ?_
                refine lv_iconst (v := 0) hx hb dX10_readClause_137 (by decide) ?_
                obtain ⟨w23, ew23, hf⟩ := st_bd hf
                obtain ⟨r24, M25⟩ := w23
                replace hf := st_u2 hf
                refine q_calli (q_runV (As := [.int 0]) (rest := []) hE hH (tz_X10_readSum l X (hf := ew23)) kv_X10_48 qk_4 (by decide) rfl hl.1 rfl (Nat.le_of_ble_eq_true rfl) dX10_readClause_138) hH (fun H locs hH => ?_)
                obtain ⟨w28, hr, hf⟩ := st_bd hf
                have hJ : qu2 w28 (fun z26 M27 => ∀ (ls : Array Slot) (H : Heap) (locs : List Loc), q_H X M27 s H locs → lv_has ls 5 [(0, .ref (X.1 4)), (3, .int x18)] → W p l e (q_rm (61)) s m args below meth c H locs 0 0 (MQ below (q_Qi X (b2i r0) MR) args s 0 0 (q_A X)) (F0 m 162 ls [.int (b2i z26)])) := by
                  obtain ⟨z26, M27⟩ := w28
                  replace hf := st_u2 hf
                  intro ls H locs hH hl
                  refine lv_istore (lv' := [(4, .int (b2i z26)), (0, .ref (X.1 4)), (3, .int x18)]) hx hb dX10_readClause_162 hl (by decide) rfl (fun ls hl => ?_)
                  refine lv_aload_n hx hb dX10_readClause_164 rfl (lv_at hl 1 rfl) ?_
                  obtain ⟨a29, ea29, hf⟩ := st_bd hf
                  refine pz_gR hE hH fr_X10_9 qk_4 ea29 dX10_readClause_165 (fun ha29 => ?_)
                  replace ha29 : q_way a29 = true := ha29
                  refine lv_iload_n hx hb dX10_readClause_168 rfl (lv_at hl 2 rfl) ?_
                  refine lv_aload_n hx hb dX10_readClause_169 rfl (lv_at hl 1 rfl) ?_
                  obtain ⟨a30, ea30, hf⟩ := st_bd hf
                  refine pz_gR hE hH fr_X10_9 qk_4 ea30 dX10_readClause_170 (fun ha30 => ?_)
                  replace ha30 : q_way a30 = true := ha30
                  refine pz_gI hE hH fr_X10_24 (q_way_0 ha30) dX10_readClause_173 ?_
                  obtain ⟨M31, eM31, hf⟩ := st_bd hf
                  refine q_callv (q_runV (As := [.int x18, .int (M27.1 a30 2)]) (rest := []) hE hH (tz_X9_leadTo l X ha29 (hf := eM31)) kv_X10_63 (q_way_0 ha29) (by decide) rfl hl.1 rfl (Nat.le_of_ble_eq_true rfl) dX10_readClause_176) hH (fun H locs hH => ?_)
                  refine lv_iload hx hb dX10_readClause_179 (lv_at hl 0 rfl) ?_
                  replace hf := Option.some.inj hf
                  obtain ⟨rfl, rfl⟩ := qi2 hf
                  exact pz_retz hE hrt hlk hH rfl dX10_readClause_181
                clear hf
                replace hf := hr
                refine lv_if_eq (tgt := 161) hx hb dX10_readClause_141 (by decide) (fun hc => ?_) (fun hc => ?_)
                · replace hf := (if_pos hc).symm.trans hf
                  refine lv_iconst (v := 0) hx hb dX10_readClause_161 (by decide) ?_
                  replace hf := Option.some.inj hf
                  subst hf
                  exact hJ ls H locs hH (lv_sub hl [2, 0] rfl)
                · replace hf := (if_neg hc).symm.trans hf
                  refine lv_aload_n hx hb dX10_readClause_144 rfl (lv_at hl 2 rfl) ?_
                  obtain ⟨a32, ea32, hf⟩ := st_bd hf
                  refine pz_gR hE hH fr_X10_9 qk_4 ea32 dX10_readClause_145 (fun ha32 => ?_)
                  replace ha32 : q_way a32 = true := ha32
                  refine lv_bipush (v := 59) hx hb dX10_readClause_148 (by decide) ?_
                  refine lv_iconst (v := 0) hx hb dX10_readClause_150 (by decide) ?_
                  obtain ⟨w33, ew33, hf⟩ := st_bd hf
                  obtain ⟨r34, M35⟩ := w33
                  replace hf := st_u2 hf
                  refine q_calli (q_runV (As := [.int 59, .int 0]) (rest := []) hE hH (tz_X9_add l X ha32 (hf := ew33)) kv_X10_55 (q_way_0 ha32) (by decide) rfl hl.1 rfl (Nat.le_of_ble_eq_true rfl) dX10_readClause_151) hH (fun H locs hH => ?_)
                  refine lv_if_eq (tgt := 161) hx hb dX10_readClause_154 (by decide) (fun hc => ?_) (fun hc => ?_)
                  · replace hf := (if_pos hc).symm.trans hf
                    refine lv_iconst (v := 0) hx hb dX10_readClause_161 (by decide) ?_
                    replace hf := Option.some.inj hf
                    subst hf
                    exact hJ ls H locs hH (lv_sub hl [2, 0] rfl)
                  · replace hf := (if_neg hc).symm.trans hf
                    refine lv_iconst (v := 1) hx hb dX10_readClause_157 (by decide) ?_
                    refine lv_goto (tgt := 162) hx hb dX10_readClause_158 (by decide) ?_
                    replace hf := Option.some.inj hf
                    subst hf
                    exact hJ ls H locs hH (lv_sub hl [2, 0] rfl)
              · replace hf := (if_pos hc).symm.trans hf
                refine lv_iconst (v := 0) hx hb dX10_readClause_115 (by decide) ?_
                replace hf := Option.some.inj hf
                obtain ⟨rfl, rfl⟩ := qi2 hf
                exact pz_retz hE hrt hlk hH rfl dX10_readClause_116
          · replace hf := (if_neg hc).symm.trans hf
            refine lv_aload_n hx hb dX10_readClause_70 rfl (lv_at hl 1 rfl) ?_
            refine pz_gS (a := 1) hE hH fr_X10_15 qk_4 (by decide) dX10_readClause_71 ?_
            obtain ⟨w36, ew36, hf⟩ := st_bd hf
            obtain ⟨r37, M38⟩ := w36
            replace hf := st_u2 hf
            refine q_calli (q_runV (As := []) (rest := []) hE hH (tz_X4_peek l X (hf := ew36)) kv_X10_37 qk_1 (by decide) rfl hl.1 rfl (Nat.le_of_ble_eq_true rfl) dX10_readClause_74) hH (fun H locs hH => ?_)
            refine q_calli (q_runS (As := [.int r37]) (rest := []) hE hH (tz_X10_isComparison l X (M := M38) (hf := rfl)) ks_X10_52 (by decide) rfl hl.1 rfl (Nat.le_of_ble_eq_true rfl) dX10_readClause_77) hH (fun H locs hH => ?_)
            refine lv_if_ne (tgt := 94) hx hb dX10_readClause_80 (by decide) (fun hc => ?_) (fun hc => ?_)
            · replace hf := (if_neg hc).symm.trans hf
              refine lv_aload_n hx hb dX10_readClause_94 rfl (lv_at hl 1 rfl) ?_
              refine lv_iconst (v := 0) hx hb dX10_readClause_95 (by decide) ?_
              refine lv_iload_n hx hb dX10_readClause_96 rfl (lv_at hl 0 rfl) ?_
              obtain ⟨w39, ew39, hf⟩ := st_bd hf
              obtain ⟨r40, M41⟩ := w39
              replace hf := st_u2 hf
              refine q_calli (q_runV (As := [.int 0, .int (b2i z10)]) (rest := []) hE hH (tz_X10_readCondition l X (hf := ew39)) kv_X10_59 qk_4 (by decide) rfl hl.1 rfl (Nat.le_of_ble_eq_true rfl) dX10_readClause_97) hH (fun H locs hH => ?_)
              refine lv_if_eq (tgt := 115) hx hb dX10_readClause_100 (by decide) (fun hc => ?_) (fun hc => ?_)
              · replace hf := (if_pos hc).symm.trans hf
                refine lv_iconst (v := 0) hx hb dX10_readClause_115 (by decide) ?_
                replace hf := Option.some.inj hf
                obtain ⟨rfl, rfl⟩ := qi2 hf
                exact pz_retz hE hrt hlk hH rfl dX10_readClause_116
              · replace hf := (if_neg hc).symm.trans hf
                refine lv_aload_n hx hb dX10_readClause_103 rfl (lv_at hl 1 rfl) ?_
                refine pz_gS (a := 1) hE hH fr_X10_15 qk_4 (by decide) dX10_readClause_104 ?_
                refine lv_bipush (v := 63) hx hb dX10_readClause_107 (by decide) ?_
                obtain ⟨w42, ew42, hf⟩ := st_bd hf
                obtain ⟨r43, M44⟩ := w42
                replace hf := st_u2 hf
                refine q_calli (q_runV (As := [.int 63]) (rest := []) hE hH (tz_X4_take l X (hf := ew42)) kv_X10_41 qk_1 (by decide) rfl hl.1 rfl (Nat.le_of_ble_eq_true rfl) dX10_readClause_109) hH (fun H locs hH => ?_)
                refine lv_if_ne (tgt := 117) hx hb dX10_readClause_112 (by decide) (fun hc => ?_) (fun hc => ?_)
                · replace hf := (if_neg hc).symm.trans hf
                  refine lv_aload_n hx hb dX10_readClause_117 rfl (lv_at hl 1 rfl) ?_
                  obtain ⟨a45, ea45, hf⟩ := st_bd hf
                  refine pz_gR hE hH fr_X10_9 qk_4 ea45 dX10_readClause_118 (fun ha45 => ?_)
                  replace ha45 : q_way a45 = true := ha45
                  refine pz_gI hE hH fr_X10_24 (q_way_0 ha45) dX10_readClause_121 ?_
                  refine lv_topi (fun x46 ex46 => ?_)
                  replace hf := st_lt hf ex46
                  refine lv_istore_n (lv' := [(3, .int x46), (2, .int (b2i z10)), (0, .ref (X.1 4))]) hx hb dX10_readClause_124 rfl hl (by decide) rfl (fun ls hl => ?_)
                  refine lv_aload_n hx hb dX10_readClause_125 rfl (lv_at hl 2 rfl) ?_
                  obtain ⟨a47, ea47, hf⟩ := st_bd hf
                  refine pz_gR hE hH fr_X10_9 qk_4 ea47 dX10_readClause_126 (fun ha47 => ?_)
                  replace ha47 : q_way a47 = true := ha47
                  refine lv_bipush (v := 63) hx hb dX10_readClause_129 (by decide) ?_
                  refine lv_iconst (v := 0) hx hb dX10_readClause_131 (by decide) ?_
                  obtain ⟨w48, ew48, hf⟩ := st_bd hf
                  obtain ⟨r49, M50⟩ := w48
                  replace hf := st_u2 hf
                  refine q_calli (q_runV (As := [.int 63, .int 0]) (rest := []) hE hH (tz_X9_add l X ha47 (hf := ew48)) kv_X10_55 (q_way_0 ha47) (by decide) rfl hl.1 rfl (Nat.le_of_ble_eq_true rfl) dX10_readClause_132) hH (fun H locs hH => ?_)
                  refine lv_pop hx hb dX10_readClause_135 rfl ?_
                  refine lv_aload_n hx hb dX10_readClause_136 rfl (lv_at hl 2 rfl) ?_
                  refine lv_iconst (v := 0) hx hb dX10_readClause_137 (by decide) ?_
                  obtain ⟨w51, ew51, hf⟩ := st_bd hf
                  obtain ⟨r52, M53⟩ := w51
                  replace hf := st_u2 hf
                  refine q_calli (q_runV (As := [.int 0]) (rest := []) hE hH (tz_X10_readSum l X (hf := ew51)) kv_X10_48 qk_4 (by decide) rfl hl.1 rfl (Nat.le_of_ble_eq_true rfl) dX10_readClause_138) hH (fun H locs hH => ?_)
                  obtain ⟨w56, hr, hf⟩ := st_bd hf
                  have hJ : qu2 w56 (fun z54 M55 => ∀ (ls : Array Slot) (H : Heap) (locs : List Loc), q_H X M55 s H locs → lv_has ls 5 [(0, .ref (X.1 4)), (3, .int x46)] → W p l e (q_rm (61)) s m args below meth c H locs 0 0 (MQ below (q_Qi X (b2i r0) MR) args s 0 0 (q_A X)) (F0 m 162 ls [.int (b2i z54)])) := by
                    obtain ⟨z54, M55⟩ := w56
                    replace hf := st_u2 hf
                    intro ls H locs hH hl
                    refine lv_istore (lv' := [(4, .int (b2i z54)), (0, .ref (X.1 4)), (3, .int x46)]) hx hb dX10_readClause_162 hl (by decide) rfl (fun ls hl => ?_)
                    refine lv_aload_n hx hb dX10_readClause_164 rfl (lv_at hl 1 rfl) ?_
                    obtain ⟨a57, ea57, hf⟩ := st_bd hf
                    refine pz_gR hE hH fr_X10_9 qk_4 ea57 dX10_readClause_165 (fun ha57 => ?_)
                    replace ha57 : q_way a57 = true := ha57
                    refine lv_iload_n hx hb dX10_readClause_168 rfl (lv_at hl 2 rfl) ?_
                    refine lv_aload_n hx hb dX10_readClause_169 rfl (lv_at hl 1 rfl) ?_
                    obtain ⟨a58, ea58, hf⟩ := st_bd hf
                    refine pz_gR hE hH fr_X10_9 qk_4 ea58 dX10_readClause_170 (fun ha58 => ?_)
                    replace ha58 : q_way a58 = true := ha58
                    refine pz_gI hE hH fr_X10_24 (q_way_0 ha58) dX10_readClause_173 ?_
                    obtain ⟨M59, eM59, hf⟩ := st_bd hf
                    refine q_callv (q_runV (As := [.int x46, .int (M55.1 a58 2)]) (rest := []) hE hH (tz_X9_leadTo l X ha57 (hf := eM59)) kv_X10_63 (q_way_0 ha57) (by decide) rfl hl.1 rfl (Nat.le_of_ble_eq_true rfl) dX10_readClause_176) hH (fun H locs hH => ?_)
                    refine lv_iload hx hb dX10_readClause_179 (lv_at hl 0 rfl) ?_
                    replace hf := Option.some.inj hf
                    obtain ⟨rfl, rfl⟩ := qi2 hf
                    exact pz_retz hE hrt hlk hH rfl dX10_readClause_181
                  clear hf
                  replace hf := hr
                  refine lv_if_eq (tgt := 161) hx hb dX10_readClause_141 (by decide) (fun hc => ?_) (fun hc => ?_)
                  · replace hf := (if_pos hc).symm.trans hf
                    refine lv_iconst (v := 0) hx hb dX10_readClause_161 (by decide) ?_
                    replace hf := Option.some.inj hf
                    subst hf
                    exact hJ ls H locs hH (lv_sub hl [2, 0] rfl)
                  · replace hf := (if_neg hc).symm.trans hf
                    refine lv_aload_n hx hb dX10_readClause_144 rfl (lv_at hl 2 rfl) ?_
                    obtain ⟨a60, ea60, hf⟩ := st_bd hf
                    refine pz_gR hE hH fr_X10_9 qk_4 ea60 dX10_readClause_145 (fun ha60 => ?_)
                    replace ha60 : q_way a60 = true := ha60
                    refine lv_bipush (v := 59) hx hb dX10_readClause_148 (by decide) ?_
                    refine lv_iconst (v := 0) hx hb dX10_readClause_150 (by decide) ?_
                    obtain ⟨w61, ew61, hf⟩ := st_bd hf
                    obtain ⟨r62, M63⟩ := w61
                    replace hf := st_u2 hf
                    refine q_calli (q_runV (As := [.int 59, .int 0]) (rest := []) hE hH (tz_X9_add l X ha60 (hf := ew61)) kv_X10_55 (q_way_0 ha60) (by decide) rfl hl.1 rfl (Nat.le_of_ble_eq_true rfl) dX10_readClause_151) hH (fun H locs hH => ?_)
                    refine lv_if_eq (tgt := 161) hx hb dX10_readClause_154 (by decide) (fun hc => ?_) (fun hc => ?_)
                    · replace hf := (if_pos hc).symm.trans hf
                      refine lv_iconst (v := 0) hx hb dX10_readClause_161 (by decide) ?_
                      replace hf := Option.some.inj hf
                      subst hf
                      exact hJ ls H locs hH (lv_sub hl [2, 0] rfl)
                    · replace hf := (if_neg hc).symm.trans hf
                      refine lv_iconst (v := 1) hx hb dX10_readClause_157 (by decide) ?_
                      refine lv_goto (tgt := 162) hx hb dX10_readClause_158 (by decide) ?_
                      replace hf := Option.some.inj hf
                      subst hf
                      exact hJ ls H locs hH (lv_sub hl [2, 0] rfl)
                · replace hf := (if_pos hc).symm.trans hf
                  refine lv_iconst (v := 0) hx hb dX10_readClause_115 (by decide) ?_
                  replace hf := Option.some.inj hf
                  obtain ⟨rfl, rfl⟩ := qi2 hf
                  exact pz_retz hE hrt hlk hH rfl dX10_readClause_116
            · replace hf := (if_pos hc).symm.trans hf
              refine lv_aload_n hx hb dX10_readClause_83 rfl (lv_at hl 1 rfl) ?_
              obtain ⟨a64, ea64, hf⟩ := st_bd hf
              refine pz_gR hE hH fr_X10_9 qk_4 ea64 dX10_readClause_84 (fun ha64 => ?_)
              replace ha64 : q_way a64 = true := ha64
              refine lv_bipush (v := 59) hx hb dX10_readClause_87 (by decide) ?_
              refine lv_iconst (v := 0) hx hb dX10_readClause_89 (by decide) ?_
              obtain ⟨w65, ew65, hf⟩ := st_bd hf
              obtain ⟨r66, M67⟩ := w65
              replace hf := st_u2 hf
              refine q_calli (q_runV (As := [.int 59, .int 0]) (rest := []) hE hH (tz_X9_add l X ha64 (hf := ew65)) kv_X10_55 (q_way_0 ha64) (by decide) rfl hl.1 rfl (Nat.le_of_ble_eq_true rfl) dX10_readClause_90) hH (fun H locs hH => ?_)
              replace hf := Option.some.inj hf
              obtain ⟨rfl, rfl⟩ := qi2 hf
              exact pz_retz hE hrt hlk hH rfl dX10_readClause_93
        · replace hf := (if_neg hc).symm.trans hf
          refine lv_aload_n hx hb dX10_readClause_56 rfl (lv_at hl 1 rfl) ?_
          refine lv_iconst (v := 0) hx hb dX10_readClause_57 (by decide) ?_
          obtain ⟨w68, ew68, hf⟩ := st_bd hf
          obtain ⟨r69, M70⟩ := w68
          replace hf := st_u2 hf
          refine q_calli (q_runV (As := [.int 0]) (rest := []) hE hH (tz_X10_readSum l X (hf := ew68)) kv_X10_48 qk_4 (by decide) rfl hl.1 rfl (Nat.le_of_ble_eq_true rfl) dX10_readClause_58) hH (fun H locs hH => ?_)
          refine lv_if_ne (tgt := 66) hx hb dX10_readClause_61 (by decide) (fun hc => ?_) (fun hc => ?_)
          · replace hf := (if_neg hc).symm.trans hf
            refine lv_iload_n hx hb dX10_readClause_66 rfl (lv_at hl 0 rfl) ?_
            refine lv_if_eq (tgt := 94) hx hb dX10_readClause_67 (by decide) (fun hc => ?_) (fun hc => ?_)
            · replace hf := (if_pos hc).symm.trans hf
              refine lv_aload_n hx hb dX10_readClause_94 rfl (lv_at hl 1 rfl) ?_
              refine lv_iconst (v := 0) hx hb dX10_readClause_95 (by decide) ?_
              refine lv_iload_n hx hb dX10_readClause_96 rfl (lv_at hl 0 rfl) ?_
              obtain ⟨w71, ew71, hf⟩ := st_bd hf
              obtain ⟨r72, M73⟩ := w71
              replace hf := st_u2 hf
              refine q_calli (q_runV (As := [.int 0, .int (b2i z10)]) (rest := []) hE hH (tz_X10_readCondition l X (hf := ew71)) kv_X10_59 qk_4 (by decide) rfl hl.1 rfl (Nat.le_of_ble_eq_true rfl) dX10_readClause_97) hH (fun H locs hH => ?_)
              refine lv_if_eq (tgt := 115) hx hb dX10_readClause_100 (by decide) (fun hc => ?_) (fun hc => ?_)
              · replace hf := (if_pos hc).symm.trans hf
                refine lv_iconst (v := 0) hx hb dX10_readClause_115 (by decide) ?_
                replace hf := Option.some.inj hf
                obtain ⟨rfl, rfl⟩ := qi2 hf
                exact pz_retz hE hrt hlk hH rfl dX10_readClause_116
              · replace hf := (if_neg hc).symm.trans hf
                refine lv_aload_n hx hb dX10_readClause_103 rfl (lv_at hl 1 rfl) ?_
                refine pz_gS (a := 1) hE hH fr_X10_15 qk_4 (by decide) dX10_readClause_104 ?_
                refine lv_bipush (v := 63) hx hb dX10_readClause_107 (by decide) ?_
                obtain ⟨w74, ew74, hf⟩ := st_bd hf
                obtain ⟨r75, M76⟩ := w74
                replace hf := st_u2 hf
                refine q_calli (q_runV (As := [.int 63]) (rest := []) hE hH (tz_X4_take l X (hf := ew74)) kv_X10_41 qk_1 (by decide) rfl hl.1 rfl (Nat.le_of_ble_eq_true rfl) dX10_readClause_109) hH (fun H locs hH => ?_)
                refine lv_if_ne (tgt := 117) hx hb dX10_readClause_112 (by decide) (fun hc => ?_) (fun hc => ?_)
                · replace hf := (if_neg hc).symm.trans hf
                  refine lv_aload_n hx hb dX10_readClause_117 rfl (lv_at hl 1 rfl) ?_
                  obtain ⟨a77, ea77, hf⟩ := st_bd hf
                  refine pz_gR hE hH fr_X10_9 qk_4 ea77 dX10_readClause_118 (fun ha77 => ?_)
                  replace ha77 : q_way a77 = true := ha77
                  refine pz_gI hE hH fr_X10_24 (q_way_0 ha77) dX10_readClause_121 ?_
                  refine lv_topi (fun x78 ex78 => ?_)
                  replace hf := st_lt hf ex78
                  refine lv_istore_n (lv' := [(3, .int x78), (2, .int (b2i z10)), (0, .ref (X.1 4))]) hx hb dX10_readClause_124 rfl hl (by decide) rfl (fun ls hl => ?_)
                  refine lv_aload_n hx hb dX10_readClause_125 rfl (lv_at hl 2 rfl) ?_
                  obtain ⟨a79, ea79, hf⟩ := st_bd hf
                  refine pz_gR hE hH fr_X10_9 qk_4 ea79 dX10_readClause_126 (fun ha79 => ?_)
                  replace ha79 : q_way a79 = true := ha79
                  refine lv_bipush (v := 63) hx hb dX10_readClause_129 (by decide) ?_
                  refine lv_iconst (v := 0) hx hb dX10_readClause_131 (by decide) ?_
                  obtain ⟨w80, ew80, hf⟩ := st_bd hf
                  obtain ⟨r81, M82⟩ := w80
                  replace hf := st_u2 hf
                  refine q_calli (q_runV (As := [.int 63, .int 0]) (rest := []) hE hH (tz_X9_add l X ha79 (hf := ew80)) kv_X10_55 (q_way_0 ha79) (by decide) rfl hl.1 rfl (Nat.le_of_ble_eq_true rfl) dX10_readClause_132) hH (fun H locs hH => ?_)
                  refine lv_pop hx hb dX10_readClause_135 rfl ?_
                  refine lv_aload_n hx hb dX10_readClause_136 rfl (lv_at hl 2 rfl) ?_
                  refine lv_iconst (v := 0) hx hb dX10_readClause_137 (by decide) ?_
                  obtain ⟨w83, ew83, hf⟩ := st_bd hf
                  obtain ⟨r84, M85⟩ := w83
                  replace hf := st_u2 hf
                  refine q_calli (q_runV (As := [.int 0]) (rest := []) hE hH (tz_X10_readSum l X (hf := ew83)) kv_X10_48 qk_4 (by decide) rfl hl.1 rfl (Nat.le_of_ble_eq_true rfl) dX10_readClause_138) hH (fun H locs hH => ?_)
                  obtain ⟨w88, hr, hf⟩ := st_bd hf
                  have hJ : qu2 w88 (fun z86 M87 => ∀ (ls : Array Slot) (H : Heap) (locs : List Loc), q_H X M87 s H locs → lv_has ls 5 [(0, .ref (X.1 4)), (3, .int x78)] → W p l e (q_rm (61)) s m args below meth c H locs 0 0 (MQ below (q_Qi X (b2i r0) MR) args s 0 0 (q_A X)) (F0 m 162 ls [.int (b2i z86)])) := by
                    obtain ⟨z86, M87⟩ := w88
                    replace hf := st_u2 hf
                    intro ls H locs hH hl
                    refine lv_istore (lv' := [(4, .int (b2i z86)), (0, .ref (X.1 4)), (3, .int x78)]) hx hb dX10_readClause_162 hl (by decide) rfl (fun ls hl => ?_)
                    refine lv_aload_n hx hb dX10_readClause_164 rfl (lv_at hl 1 rfl) ?_
                    obtain ⟨a89, ea89, hf⟩ := st_bd hf
                    refine pz_gR hE hH fr_X10_9 qk_4 ea89 dX10_readClause_165 (fun ha89 => ?_)
                    replace ha89 : q_way a89 = true := ha89
                    refine lv_iload_n hx hb dX10_readClause_168 rfl (lv_at hl 2 rfl) ?_
                    refine lv_aload_n hx hb dX10_readClause_169 rfl (lv_at hl 1 rfl) ?_
                    obtain ⟨a90, ea90, hf⟩ := st_bd hf
                    refine pz_gR hE hH fr_X10_9 qk_4 ea90 dX10_readClause_170 (fun ha90 => ?_)
                    replace ha90 : q_way a90 = true := ha90
                    refine pz_gI hE hH fr_X10_24 (q_way_0 ha90) dX10_readClause_173 ?_
                    obtain ⟨M91, eM91, hf⟩ := st_bd hf
                    refine q_callv (q_runV (As := [.int x78, .int (M87.1 a90 2)]) (rest := []) hE hH (tz_X9_leadTo l X ha89 (hf := eM91)) kv_X10_63 (q_way_0 ha89) (by decide) rfl hl.1 rfl (Nat.le_of_ble_eq_true rfl) dX10_readClause_176) hH (fun H locs hH => ?_)
                    refine lv_iload hx hb dX10_readClause_179 (lv_at hl 0 rfl) ?_
                    replace hf := Option.some.inj hf
                    obtain ⟨rfl, rfl⟩ := qi2 hf
                    exact pz_retz hE hrt hlk hH rfl dX10_readClause_181
                  clear hf
                  replace hf := hr
                  refine lv_if_eq (tgt := 161) hx hb dX10_readClause_141 (by decide) (fun hc => ?_) (fun hc => ?_)
                  · replace hf := (if_pos hc).symm.trans hf
                    refine lv_iconst (v := 0) hx hb dX10_readClause_161 (by decide) ?_
                    replace hf := Option.some.inj hf
                    subst hf
                    exact hJ ls H locs hH (lv_sub hl [2, 0] rfl)
                  · replace hf := (if_neg hc).symm.trans hf
                    refine lv_aload_n hx hb dX10_readClause_144 rfl (lv_at hl 2 rfl) ?_
                    obtain ⟨a92, ea92, hf⟩ := st_bd hf
                    refine pz_gR hE hH fr_X10_9 qk_4 ea92 dX10_readClause_145 (fun ha92 => ?_)
                    replace ha92 : q_way a92 = true := ha92
                    refine lv_bipush (v := 59) hx hb dX10_readClause_148 (by decide) ?_
                    refine lv_iconst (v := 0) hx hb dX10_readClause_150 (by decide) ?_
                    obtain ⟨w93, ew93, hf⟩ := st_bd hf
                    obtain ⟨r94, M95⟩ := w93
                    replace hf := st_u2 hf
                    refine q_calli (q_runV (As := [.int 59, .int 0]) (rest := []) hE hH (tz_X9_add l X ha92 (hf := ew93)) kv_X10_55 (q_way_0 ha92) (by decide) rfl hl.1 rfl (Nat.le_of_ble_eq_true rfl) dX10_readClause_151) hH (fun H locs hH => ?_)
                    refine lv_if_eq (tgt := 161) hx hb dX10_readClause_154 (by decide) (fun hc => ?_) (fun hc => ?_)
                    · replace hf := (if_pos hc).symm.trans hf
                      refine lv_iconst (v := 0) hx hb dX10_readClause_161 (by decide) ?_
                      replace hf := Option.some.inj hf
                      subst hf
                      exact hJ ls H locs hH (lv_sub hl [2, 0] rfl)
                    · replace hf := (if_neg hc).symm.trans hf
                      refine lv_iconst (v := 1) hx hb dX10_readClause_157 (by decide) ?_
                      refine lv_goto (tgt := 162) hx hb dX10_readClause_158 (by decide) ?_
                      replace hf := Option.some.inj hf
                      subst hf
                      exact hJ ls H locs hH (lv_sub hl [2, 0] rfl)
                · replace hf := (if_pos hc).symm.trans hf
                  refine lv_iconst (v := 0) hx hb dX10_readClause_115 (by decide) ?_
                  replace hf := Option.some.inj hf
                  obtain ⟨rfl, rfl⟩ := qi2 hf
                  exact pz_retz hE hrt hlk hH rfl dX10_readClause_116
            · replace hf := (if_neg hc).symm.trans hf
              refine lv_aload_n hx hb dX10_readClause_70 rfl (lv_at hl 1 rfl) ?_
              refine pz_gS (a := 1) hE hH fr_X10_15 qk_4 (by decide) dX10_readClause_71 ?_
              obtain ⟨w96, ew96, hf⟩ := st_bd hf
              obtain ⟨r97, M98⟩ := w96
              replace hf := st_u2 hf
              refine q_calli (q_runV (As := []) (rest := []) hE hH (tz_X4_peek l X (hf := ew96)) kv_X10_37 qk_1 (by decide) rfl hl.1 rfl (Nat.le_of_ble_eq_true rfl) dX10_readClause_74) hH (fun H locs hH => ?_)
              refine q_calli (q_runS (As := [.int r97]) (rest := []) hE hH (tz_X10_isComparison l X (M := M98) (hf := rfl)) ks_X10_52 (by decide) rfl hl.1 rfl (Nat.le_of_ble_eq_true rfl) dX10_readClause_77) hH (fun H locs hH => ?_)
              refine lv_if_ne (tgt := 94) hx hb dX10_readClause_80 (by decide) (fun hc => ?_) (fun hc => ?_)
              · replace hf := (if_neg hc).symm.trans hf
                refine lv_aload_n hx hb dX10_readClause_94 rfl (lv_at hl 1 rfl) ?_
                refine lv_iconst (v := 0) hx hb dX10_readClause_95 (by decide) ?_
                refine lv_iload_n hx hb dX10_readClause_96 rfl (lv_at hl 0 rfl) ?_
                obtain ⟨w99, ew99, hf⟩ := st_bd hf
                obtain ⟨r100, M101⟩ := w99
                replace hf := st_u2 hf
                refine q_calli (q_runV (As := [.int 0, .int (b2i z10)]) (rest := []) hE hH (tz_X10_readCondition l X (hf := ew99)) kv_X10_59 qk_4 (by decide) rfl hl.1 rfl (Nat.le_of_ble_eq_true rfl) dX10_readClause_97) hH (fun H locs hH => ?_)
                refine lv_if_eq (tgt := 115) hx hb dX10_readClause_100 (by decide) (fun hc => ?_) (fun hc => ?_)
                · replace hf := (if_pos hc).symm.trans hf
                  refine lv_iconst (v := 0) hx hb dX10_readClause_115 (by decide) ?_
                  replace hf := Option.some.inj hf
                  obtain ⟨rfl, rfl⟩ := qi2 hf
                  exact pz_retz hE hrt hlk hH rfl dX10_readClause_116
                · replace hf := (if_neg hc).symm.trans hf
                  refine lv_aload_n hx hb dX10_readClause_103 rfl (lv_at hl 1 rfl) ?_
                  refine pz_gS (a := 1) hE hH fr_X10_15 qk_4 (by decide) dX10_readClause_104 ?_
                  refine lv_bipush (v := 63) hx hb dX10_readClause_107 (by decide) ?_
                  obtain ⟨w102, ew102, hf⟩ := st_bd hf
                  obtain ⟨r103, M104⟩ := w102
                  replace hf := st_u2 hf
                  refine q_calli (q_runV (As := [.int 63]) (rest := []) hE hH (tz_X4_take l X (hf := ew102)) kv_X10_41 qk_1 (by decide) rfl hl.1 rfl (Nat.le_of_ble_eq_true rfl) dX10_readClause_109) hH (fun H locs hH => ?_)
                  refine lv_if_ne (tgt := 117) hx hb dX10_readClause_112 (by decide) (fun hc => ?_) (fun hc => ?_)
                  · replace hf := (if_neg hc).symm.trans hf
                    refine lv_aload_n hx hb dX10_readClause_117 rfl (lv_at hl 1 rfl) ?_
                    obtain ⟨a105, ea105, hf⟩ := st_bd hf
                    refine pz_gR hE hH fr_X10_9 qk_4 ea105 dX10_readClause_118 (fun ha105 => ?_)
                    replace ha105 : q_way a105 = true := ha105
                    refine pz_gI hE hH fr_X10_24 (q_way_0 ha105) dX10_readClause_121 ?_
                    refine lv_topi (fun x106 ex106 => ?_)
                    replace hf := st_lt hf ex106
                    refine lv_istore_n (lv' := [(3, .int x106), (2, .int (b2i z10)), (0, .ref (X.1 4))]) hx hb dX10_readClause_124 rfl hl (by decide) rfl (fun ls hl => ?_)
                    refine lv_aload_n hx hb dX10_readClause_125 rfl (lv_at hl 2 rfl) ?_
                    obtain ⟨a107, ea107, hf⟩ := st_bd hf
                    refine pz_gR hE hH fr_X10_9 qk_4 ea107 dX10_readClause_126 (fun ha107 => ?_)
                    replace ha107 : q_way a107 = true := ha107
                    refine lv_bipush (v := 63) hx hb dX10_readClause_129 (by decide) ?_
                    refine lv_iconst (v := 0) hx hb dX10_readClause_131 (by decide) ?_
                    obtain ⟨w108, ew108, hf⟩ := st_bd hf
                    obtain ⟨r109, M110⟩ := w108
                    replace hf := st_u2 hf
                    refine q_calli (q_runV (As := [.int 63, .int 0]) (rest := []) hE hH (tz_X9_add l X ha107 (hf := ew108)) kv_X10_55 (q_way_0 ha107) (by decide) rfl hl.1 rfl (Nat.le_of_ble_eq_true rfl) dX10_readClause_132) hH (fun H locs hH => ?_)
                    refine lv_pop hx hb dX10_readClause_135 rfl ?_
                    refine lv_aload_n hx hb dX10_readClause_136 rfl (lv_at hl 2 rfl) ?_
                    refine lv_iconst (v := 0) hx hb dX10_readClause_137 (by decide) ?_
                    obtain ⟨w111, ew111, hf⟩ := st_bd hf
                    obtain ⟨r112, M113⟩ := w111
                    replace hf := st_u2 hf
                    refine q_calli (q_runV (As := [.int 0]) (rest := []) hE hH (tz_X10_readSum l X (hf := ew111)) kv_X10_48 qk_4 (by decide) rfl hl.1 rfl (Nat.le_of_ble_eq_true rfl) dX10_readClause_138) hH (fun H locs hH => ?_)
                    obtain ⟨w116, hr, hf⟩ := st_bd hf
                    have hJ : qu2 w116 (fun z114 M115 => ∀ (ls : Array Slot) (H : Heap) (locs : List Loc), q_H X M115 s H locs → lv_has ls 5 [(0, .ref (X.1 4)), (3, .int x106)] → W p l e (q_rm (61)) s m args below meth c H locs 0 0 (MQ below (q_Qi X (b2i r0) MR) args s 0 0 (q_A X)) (F0 m 162 ls [.int (b2i z114)])) := by
                      obtain ⟨z114, M115⟩ := w116
                      replace hf := st_u2 hf
                      intro ls H locs hH hl
                      refine lv_istore (lv' := [(4, .int (b2i z114)), (0, .ref (X.1 4)), (3, .int x106)]) hx hb dX10_readClause_162 hl (by decide) rfl (fun ls hl => ?_)
                      refine lv_aload_n hx hb dX10_readClause_164 rfl (lv_at hl 1 rfl) ?_
                      obtain ⟨a117, ea117, hf⟩ := st_bd hf
                      refine pz_gR hE hH fr_X10_9 qk_4 ea117 dX10_readClause_165 (fun ha117 => ?_)
                      replace ha117 : q_way a117 = true := ha117
                      refine lv_iload_n hx hb dX10_readClause_168 rfl (lv_at hl 2 rfl) ?_
                      refine lv_aload_n hx hb dX10_readClause_169 rfl (lv_at hl 1 rfl) ?_
                      obtain ⟨a118, ea118, hf⟩ := st_bd hf
                      refine pz_gR hE hH fr_X10_9 qk_4 ea118 dX10_readClause_170 (fun ha118 => ?_)
                      replace ha118 : q_way a118 = true := ha118
                      refine pz_gI hE hH fr_X10_24 (q_way_0 ha118) dX10_readClause_173 ?_
                      obtain ⟨M119, eM119, hf⟩ := st_bd hf
                      refine q_callv (q_runV (As := [.int x106, .int (M115.1 a118 2)]) (rest := []) hE hH (tz_X9_leadTo l X ha117 (hf := eM119)) kv_X10_63 (q_way_0 ha117) (by decide) rfl hl.1 rfl (Nat.le_of_ble_eq_true rfl) dX10_readClause_176) hH (fun H locs hH => ?_)
                      refine lv_iload hx hb dX10_readClause_179 (lv_at hl 0 rfl) ?_
                      replace hf := Option.some.inj hf
                      obtain ⟨rfl, rfl⟩ := qi2 hf
                      exact pz_retz hE hrt hlk hH rfl dX10_readClause_181
                    clear hf
                    replace hf := hr
                    refine lv_if_eq (tgt := 161) hx hb dX10_readClause_141 (by decide) (fun hc => ?_) (fun hc => ?_)
                    · replace hf := (if_pos hc).symm.trans hf
                      refine lv_iconst (v := 0) hx hb dX10_readClause_161 (by decide) ?_
                      replace hf := Option.some.inj hf
                      subst hf
                      exact hJ ls H locs hH (lv_sub hl [2, 0] rfl)
                    · replace hf := (if_neg hc).symm.trans hf
                      refine lv_aload_n hx hb dX10_readClause_144 rfl (lv_at hl 2 rfl) ?_
                      obtain ⟨a120, ea120, hf⟩ := st_bd hf
                      refine pz_gR hE hH fr_X10_9 qk_4 ea120 dX10_readClause_145 (fun ha120 => ?_)
                      replace ha120 : q_way a120 = true := ha120
                      refine lv_bipush (v := 59) hx hb dX10_readClause_148 (by decide) ?_
                      refine lv_iconst (v := 0) hx hb dX10_readClause_150 (by decide) ?_
                      obtain ⟨w121, ew121, hf⟩ := st_bd hf
                      obtain ⟨r122, M123⟩ := w121
                      replace hf := st_u2 hf
                      refine q_calli (q_runV (As := [.int 59, .int 0]) (rest := []) hE hH (tz_X9_add l X ha120 (hf := ew121)) kv_X10_55 (q_way_0 ha120) (by decide) rfl hl.1 rfl (Nat.le_of_ble_eq_true rfl) dX10_readClause_151) hH (fun H locs hH => ?_)
                      refine lv_if_eq (tgt := 161) hx hb dX10_readClause_154 (by decide) (fun hc => ?_) (fun hc => ?_)
                      · replace hf := (if_pos hc).symm.trans hf
                        refine lv_iconst (v := 0) hx hb dX10_readClause_161 (by decide) ?_
                        replace hf := Option.some.inj hf
                        subst hf
                        exact hJ ls H locs hH (lv_sub hl [2, 0] rfl)
                      · replace hf := (if_neg hc).symm.trans hf
                        refine lv_iconst (v := 1) hx hb dX10_readClause_157 (by decide) ?_
                        refine lv_goto (tgt := 162) hx hb dX10_readClause_158 (by decide) ?_
                        replace hf := Option.some.inj hf
                        subst hf
                        exact hJ ls H locs hH (lv_sub hl [2, 0] rfl)
                  · replace hf := (if_pos hc).symm.trans hf
                    refine lv_iconst (v := 0) hx hb dX10_readClause_115 (by decide) ?_
                    replace hf := Option.some.inj hf
                    obtain ⟨rfl, rfl⟩ := qi2 hf
                    exact pz_retz hE hrt hlk hH rfl dX10_readClause_116
              · replace hf := (if_pos hc).symm.trans hf
                refine lv_aload_n hx hb dX10_readClause_83 rfl (lv_at hl 1 rfl) ?_
                obtain ⟨a124, ea124, hf⟩ := st_bd hf
                refine pz_gR hE hH fr_X10_9 qk_4 ea124 dX10_readClause_84 (fun ha124 => ?_)
                replace ha124 : q_way a124 = true := ha124
                refine lv_bipush (v := 59) hx hb dX10_readClause_87 (by decide) ?_
                refine lv_iconst (v := 0) hx hb dX10_readClause_89 (by decide) ?_
                obtain ⟨w125, ew125, hf⟩ := st_bd hf
                obtain ⟨r126, M127⟩ := w125
                replace hf := st_u2 hf
                refine q_calli (q_runV (As := [.int 59, .int 0]) (rest := []) hE hH (tz_X9_add l X ha124 (hf := ew125)) kv_X10_55 (q_way_0 ha124) (by decide) rfl hl.1 rfl (Nat.le_of_ble_eq_true rfl) dX10_readClause_90) hH (fun H locs hH => ?_)
                replace hf := Option.some.inj hf
                obtain ⟨rfl, rfl⟩ := qi2 hf
                exact pz_retz hE hrt hlk hH rfl dX10_readClause_93
          · replace hf := (if_pos hc).symm.trans hf
            refine lv_iconst (v := 0) hx hb dX10_readClause_64 (by decide) ?_
            replace hf := Option.some.inj hf
            obtain ⟨rfl, rfl⟩ := qi2 hf
            exact pz_retz hE hrt hlk hH rfl dX10_readClause_65
      clear hf
      replace hf := hr
      refine lv_icmp_eq (tgt := 50) hx hb dX10_readClause_37 (by decide) (fun hc => ?_) (fun hc => ?_)
      · replace hf := (if_pos hc).symm.trans hf
        refine lv_iconst (v := 0) hx hb dX10_readClause_50 (by decide) ?_
        subst hf
        exact hJ ls H locs hH (lv_sub hl [1] rfl)
      · replace hf := (if_neg hc).symm.trans hf
        refine lv_iload_n hx hb dX10_readClause_40 rfl (lv_at hl 0 rfl) ?_
        refine lv_bipush (v := 40) hx hb dX10_readClause_41 (by decide) ?_
        refine lv_icmp_eq (tgt := 50) hx hb dX10_readClause_43 (by decide) (fun hc => ?_) (fun hc => ?_)
        · replace hf := (if_pos hc).symm.trans hf
          refine lv_iconst (v := 0) hx hb dX10_readClause_50 (by decide) ?_
          subst hf
          exact hJ ls H locs hH (lv_sub hl [1] rfl)
        · replace hf := (if_neg hc).symm.trans hf
          refine lv_iconst (v := 1) hx hb dX10_readClause_46 (by decide) ?_
          refine lv_goto (tgt := 51) hx hb dX10_readClause_47 (by decide) ?_
          subst hf
          exact hJ ls H locs hH (lv_sub hl [1] rfl)
    · replace hf := (if_pos hc).symm.trans hf
      refine lv_iconst (v := 0) hx hb dX10_readClause_24 (by decide) ?_
      replace hf := Option.some.inj hf
      obtain ⟨rfl, rfl⟩ := qi2 hf
      exact pz_retz hE hrt hlk hH rfl dX10_readClause_25

theorem dX10_read_0 : decode cX10_read 0 = .ok (.aload_n 0, 1) := by decide +kernel
theorem dX10_read_1 : decode cX10_read 1 = .ok (.getfield 15, 3) := by decide +kernel
theorem dX10_read_4 : decode cX10_read 4 = .ok (.invokevirtual 19, 3) := by decide +kernel
theorem dX10_read_7 : decode cX10_read 7 = .ok (.aload_n 0, 1) := by decide +kernel
theorem dX10_read_8 : decode cX10_read 8 = .ok (.aload_n 1, 1) := by decide +kernel
theorem dX10_read_9 : decode cX10_read 9 = .ok (.putfield 9, 3) := by decide +kernel
theorem dX10_read_12 : decode cX10_read 12 = .ok (.aload_n 0, 1) := by decide +kernel
theorem dX10_read_13 : decode cX10_read 13 = .ok (.getfield 9, 3) := by decide +kernel
theorem dX10_read_16 : decode cX10_read 16 = .ok (.iconst 0, 1) := by decide +kernel
theorem dX10_read_17 : decode cX10_read 17 = .ok (.putfield 24, 3) := by decide +kernel
theorem dX10_read_20 : decode cX10_read 20 = .ok (.iconst 0, 1) := by decide +kernel
theorem dX10_read_21 : decode cX10_read 21 = .ok (.istore_n 2, 1) := by decide +kernel
theorem dX10_read_22 : decode cX10_read 22 = .ok (.iload_n 2, 1) := by decide +kernel
theorem dX10_read_23 : decode cX10_read 23 = .ok (.sipush 160, 3) := by decide +kernel
theorem dX10_read_26 : decode cX10_read 26 = .ok (.if_icmp .ge 57, 3) := by decide +kernel
theorem dX10_read_29 : decode cX10_read 29 = .ok (.aload_n 0, 1) := by decide +kernel
theorem dX10_read_30 : decode cX10_read 30 = .ok (.invokevirtual 30, 3) := by decide +kernel
theorem dX10_read_33 : decode cX10_read 33 = .ok (.ifCond .ne 11, 3) := by decide +kernel
theorem dX10_read_36 : decode cX10_read 36 = .ok (.aload_n 0, 1) := by decide +kernel
theorem dX10_read_37 : decode cX10_read 37 = .ok (.getfield 15, 3) := by decide +kernel
theorem dX10_read_40 : decode cX10_read 40 = .ok (.getfield 34, 3) := by decide +kernel
theorem dX10_read_43 : decode cX10_read 43 = .ok (.ireturn, 1) := by decide +kernel
theorem dX10_read_44 : decode cX10_read 44 = .ok (.aload_n 0, 1) := by decide +kernel
theorem dX10_read_45 : decode cX10_read 45 = .ok (.getfield 15, 3) := by decide +kernel
theorem dX10_read_48 : decode cX10_read 48 = .ok (.invokevirtual 37, 3) := by decide +kernel
theorem dX10_read_51 : decode cX10_read 51 = .ok (.iconst (-1), 1) := by decide +kernel
theorem dX10_read_52 : decode cX10_read 52 = .ok (.if_icmp .ne 5, 3) := by decide +kernel
theorem dX10_read_55 : decode cX10_read 55 = .ok (.iconst (-1), 1) := by decide +kernel
theorem dX10_read_56 : decode cX10_read 56 = .ok (.ireturn, 1) := by decide +kernel
theorem dX10_read_57 : decode cX10_read 57 = .ok (.aload_n 0, 1) := by decide +kernel
theorem dX10_read_58 : decode cX10_read 58 = .ok (.getfield 15, 3) := by decide +kernel
theorem dX10_read_61 : decode cX10_read 61 = .ok (.bipush 59, 2) := by decide +kernel
theorem dX10_read_63 : decode cX10_read 63 = .ok (.invokevirtual 41, 3) := by decide +kernel
theorem dX10_read_66 : decode cX10_read 66 = .ok (.ifCond .ne 11, 3) := by decide +kernel
theorem dX10_read_69 : decode cX10_read 69 = .ok (.aload_n 0, 1) := by decide +kernel
theorem dX10_read_70 : decode cX10_read 70 = .ok (.getfield 15, 3) := by decide +kernel
theorem dX10_read_73 : decode cX10_read 73 = .ok (.getfield 34, 3) := by decide +kernel
theorem dX10_read_76 : decode cX10_read 76 = .ok (.ireturn, 1) := by decide +kernel
theorem dX10_read_77 : decode cX10_read 77 = .ok (.iinc 2 1, 3) := by decide +kernel
theorem dX10_read_80 : decode cX10_read 80 = .ok (.goto (-58), 3) := by decide +kernel
theorem dX10_read_83 : decode cX10_read 83 = .ok (.aload_n 0, 1) := by decide +kernel
theorem dX10_read_84 : decode cX10_read 84 = .ok (.getfield 15, 3) := by decide +kernel
theorem dX10_read_87 : decode cX10_read 87 = .ok (.getfield 45, 3) := by decide +kernel
theorem dX10_read_90 : decode cX10_read 90 = .ok (.ireturn, 1) := by decide +kernel
set_option maxRecDepth 100000 in
set_option maxHeartbeats 4000000 in
theorem tz_X10_read (l : Launch) (X : qX) {p0 : Nat} {M MR : qM} {r0 : Int32} (hp0 : q_way p0 = true) (hf : jWr_read p0 M = some (r0, MR)) : q_Met l X yX10_read cX10_read 3 (some .int) (62) M [.ref (X.1 4), .ref (X.1 p0)] (q_Qi X r0 MR) := by
  refine q_enter (by decide) (Nat.le_of_ble_eq_true rfl) ?_
  intro p e s m args below meth c hE hrt hlk H locs hH ls hl
  have hx := hE.1
  have hb := hE.2.1
  have hl : lv_has ls 3 [(0, .ref (X.1 4)), (1, .ref (X.1 p0))] := hl
  unfold jWr_read at hf
  refine lv_aload_n hx hb dX10_read_0 rfl (lv_at hl 0 rfl) ?_
  refine pz_gS (a := 1) hE hH fr_X10_15 qk_4 (by decide) dX10_read_1 ?_
  obtain ⟨M1, eM1, hf⟩ := st_lty hf
  refine q_callv (q_runV (As := []) (rest := []) hE hH (tz_X4_rewind l X (hf := eM1.symm)) kv_X10_19 qk_1 (by decide) rfl hl.1 rfl (Nat.le_of_ble_eq_true rfl) dX10_read_4) hH (fun H locs hH => ?_)
  refine lv_aload_n hx hb dX10_read_7 rfl (lv_at hl 0 rfl) ?_
  refine lv_aload_n hx hb dX10_read_8 rfl (lv_at hl 1 rfl) ?_
  obtain ⟨M2, eM2, hf⟩ := st_lty hf
  refine pz_pR hE hH fw_X10_9 qk_4 (show q_ok 10 1 p0 = true from hp0) eM2 ⟨rfl, rfl⟩ dX10_read_9 (fun H locs hH => ?_)
  refine lv_aload_n hx hb dX10_read_12 rfl (lv_at hl 0 rfl) ?_
  obtain ⟨a3, ea3, hf⟩ := st_bd hf
  refine pz_gR hE hH fr_X10_9 qk_4 ea3 dX10_read_13 (fun ha3 => ?_)
  replace ha3 : q_way a3 = true := ha3
  refine lv_iconst (v := 0) hx hb dX10_read_16 (by decide) ?_
  obtain ⟨M4, eM4, hf⟩ := st_lty hf
  refine pz_pI hE hH fw_X10_24 (q_way_0 ha3)  eM4 dX10_read_17 (fun H locs hH => ?_)
  refine lv_iconst (v := 0) hx hb dX10_read_20 (by decide) ?_
  refine lv_istore_n (lv' := [(2, .int 0), (0, .ref (X.1 4)), (1, .ref (X.1 p0))]) hx hb dX10_read_21 rfl hl (by decide) rfl (fun ls hl => ?_)
  obtain ⟨r11, hlp, hf⟩ := st_bd hf
  have hX : (fun q0a => qse q0a (fun M7 => ∀ (ls : Array Slot) (H : Heap) (locs : List Loc), q_H X M7 s H locs → lv_has ls 3 [(0, .ref (X.1 4))] → W p l e (q_rm (62)) s m args below meth c H locs 0 0 (MQ below (q_Qi X r0 MR) args s 0 0 (q_A X)) (F0 m 36 ls [])) (fun q1a => qse q1a (fun M8 => ∀ (ls : Array Slot) (H : Heap) (locs : List Loc), q_H X M8 s H locs → lv_has ls 3 [] → W p l e (q_rm (62)) s m args below meth c H locs 0 0 (MQ below (q_Qi X r0 MR) args s 0 0 (q_A X)) (F0 m 55 ls [])) (fun q2a => qse q2a (fun M9 => ∀ (ls : Array Slot) (H : Heap) (locs : List Loc), q_H X M9 s H locs → lv_has ls 3 [(0, .ref (X.1 4))] → W p l e (q_rm (62)) s m args below meth c H locs 0 0 (MQ below (q_Qi X r0 MR) args s 0 0 (q_A X)) (F0 m 69 ls [])) (fun M10 => ∀ (ls : Array Slot) (H : Heap) (locs : List Loc), q_H X M10 s H locs → lv_has ls 3 [(0, .ref (X.1 4))] → W p l e (q_rm (62)) s m args below meth c H locs 0 0 (MQ below (q_Qi X r0 MR) args s 0 0 (q_A X)) (F0 m 83 ls [])))) : (qM ⊕ (qM ⊕ (qM ⊕ qM))) → Prop) r11 := by
    rcases r11 with M7 | r11
    · replace hf := st_seL hf
      intro ls H locs hH hl
      refine lv_aload_n hx hb dX10_read_36 rfl (lv_at hl 0 rfl) ?_
      refine pz_gS (a := 1) hE hH fr_X10_15 qk_4 (by decide) dX10_read_37 ?_
      refine pz_gI hE hH fr_X10_34 qk_1 dX10_read_40 ?_
      replace hf := Option.some.inj hf
      obtain ⟨rfl, rfl⟩ := qi2 hf
      exact pz_reti hE hrt hlk hH dX10_read_43
    · replace hf := st_seR hf
      rcases r11 with M8 | r11
      · replace hf := st_seL hf
        intro ls H locs hH hl
        refine lv_iconst (v := (-1)) hx hb dX10_read_55 (by decide) ?_
        replace hf := Option.some.inj hf
        obtain ⟨rfl, rfl⟩ := qi2 hf
        exact pz_reti hE hrt hlk hH dX10_read_56
      · replace hf := st_seR hf
        rcases r11 with M9 | M10
        · replace hf := st_seL hf
          intro ls H locs hH hl
          refine lv_aload_n hx hb dX10_read_69 rfl (lv_at hl 0 rfl) ?_
          refine pz_gS (a := 1) hE hH fr_X10_15 qk_4 (by decide) dX10_read_70 ?_
          refine pz_gI hE hH fr_X10_34 qk_1 dX10_read_73 ?_
          replace hf := Option.some.inj hf
          obtain ⟨rfl, rfl⟩ := qi2 hf
          exact pz_reti hE hrt hlk hH dX10_read_76
        · replace hf := st_seR hf
          intro ls H locs hH hl
          refine lv_aload_n hx hb dX10_read_83 rfl (lv_at hl 0 rfl) ?_
          refine pz_gS (a := 1) hE hH fr_X10_15 qk_4 (by decide) dX10_read_84 ?_
          refine pz_gI hE hH fr_X10_45 qk_1 dX10_read_87 ?_
          replace hf := Option.some.inj hf
          obtain ⟨rfl, rfl⟩ := qi2 hf
          exact pz_reti hE hrt hlk hH dX10_read_90
  clear hf
  have hG := qlp_ind (r := r11) (fun q => qu2 q (fun x5 M6 => ∀ (ls : Array Slot) (H : Heap) (locs : List Loc), q_H X M6 s H locs → lv_has ls 3 [(0, .ref (X.1 4)), (2, .int x5)] → W p l e (q_rm (62)) s m args below meth c H locs 0 0 (MQ below (q_Qi X r0 MR) args s 0 0 (q_A X)) (F0 m 22 ls []))) (by
      intro q o hf hK1 hK2
      obtain ⟨x5, M6⟩ := q
      replace hf := st_u2 hf
      intro ls H locs hH hl
      refine lv_iload_n hx hb dX10_read_22 rfl (lv_at hl 1 rfl) ?_
      refine lv_sipush (v := 160) hx hb dX10_read_23 (by decide) ?_
      refine lv_icmp_ge (tgt := 83) hx hb dX10_read_26 (by decide) (fun hc => ?_) (fun hc => ?_)
      · replace hf := (if_pos hc).symm.trans hf
        replace hf := hK2 _ (Option.some.inj hf).symm
        subst hf
        exact hX ls H locs hH (lv_sub hl [0] rfl)
      · replace hf := (if_neg hc).symm.trans hf
        refine lv_aload_n hx hb dX10_read_29 rfl (lv_at hl 0 rfl) ?_
        obtain ⟨w12, ew12, hf⟩ := st_bd hf
        obtain ⟨r13, M14⟩ := w12
        replace hf := st_u2 hf
        refine q_calli (q_runV (As := []) (rest := []) hE hH (tz_X10_readClause l X (hf := ew12)) kv_X10_30 qk_4 (by decide) rfl hl.1 rfl (Nat.le_of_ble_eq_true rfl) dX10_read_30) hH (fun H locs hH => ?_)
        refine lv_if_ne (tgt := 44) hx hb dX10_read_33 (by decide) (fun hc => ?_) (fun hc => ?_)
        · replace hf := (if_neg hc).symm.trans hf
          refine lv_aload_n hx hb dX10_read_44 rfl (lv_at hl 0 rfl) ?_
          refine pz_gS (a := 1) hE hH fr_X10_15 qk_4 (by decide) dX10_read_45 ?_
          obtain ⟨w15, ew15, hf⟩ := st_bd hf
          obtain ⟨r16, M17⟩ := w15
          replace hf := st_u2 hf
          refine q_calli (q_runV (As := []) (rest := []) hE hH (tz_X4_peek l X (hf := ew15)) kv_X10_37 qk_1 (by decide) rfl hl.1 rfl (Nat.le_of_ble_eq_true rfl) dX10_read_48) hH (fun H locs hH => ?_)
          refine lv_iconst (v := (-1)) hx hb dX10_read_51 (by decide) ?_
          refine lv_icmp_ne (tgt := 57) hx hb dX10_read_52 (by decide) (fun hc => ?_) (fun hc => ?_)
          · replace hf := (if_neg hc).symm.trans hf
            refine lv_aload_n hx hb dX10_read_57 rfl (lv_at hl 0 rfl) ?_
            refine pz_gS (a := 1) hE hH fr_X10_15 qk_4 (by decide) dX10_read_58 ?_
            refine lv_bipush (v := 59) hx hb dX10_read_61 (by decide) ?_
            obtain ⟨w18, ew18, hf⟩ := st_bd hf
            obtain ⟨r19, M20⟩ := w18
            replace hf := st_u2 hf
            refine q_calli (q_runV (As := [.int 59]) (rest := []) hE hH (tz_X4_take l X (hf := ew18)) kv_X10_41 qk_1 (by decide) rfl hl.1 rfl (Nat.le_of_ble_eq_true rfl) dX10_read_63) hH (fun H locs hH => ?_)
            refine lv_if_ne (tgt := 77) hx hb dX10_read_66 (by decide) (fun hc => ?_) (fun hc => ?_)
            · replace hf := (if_neg hc).symm.trans hf
              obtain ⟨x21, ex21, hf⟩ := st_lty hf
              refine lv_iinc (v := x21) (lv' := [(2, .int x21), (0, .ref (X.1 4))]) hx hb dX10_read_77 hl (k := 1) rfl (by rw [ex21]; rfl) (by decide) rfl (fun ls hl => ?_)
              refine lv_goto (tgt := 22) hx hb dX10_read_80 (by decide) ?_
              exact hK1 _ (Option.some.inj hf).symm ls H locs hH (lv_sub hl [1, 0] rfl)
            · replace hf := (if_pos hc).symm.trans hf
              replace hf := hK2 _ (Option.some.inj hf).symm
              subst hf
              exact hX ls H locs hH (lv_sub hl [0] rfl)
          · replace hf := (if_pos hc).symm.trans hf
            replace hf := hK2 _ (Option.some.inj hf).symm
            subst hf
            exact hX ls H locs hH (lv_sub hl [] rfl)
        · replace hf := (if_pos hc).symm.trans hf
          replace hf := hK2 _ (Option.some.inj hf).symm
          subst hf
          exact hX ls H locs hH (lv_sub hl [0] rfl)) _ hlp
  exact hG ls H locs hH (lv_sub hl [1, 0] rfl)

