theorem dX8_readItems_0 : decode cX8_readItems 0 = .ok (.iconst 0, 1) := by decide +kernel
theorem dX8_readItems_1 : decode cX8_readItems 1 = .ok (.istore 6, 2) := by decide +kernel
theorem dX8_readItems_3 : decode cX8_readItems 3 = .ok (.iconst 0, 1) := by decide +kernel
theorem dX8_readItems_4 : decode cX8_readItems 4 = .ok (.istore 7, 2) := by decide +kernel
theorem dX8_readItems_6 : decode cX8_readItems 6 = .ok (.iload 7, 2) := by decide +kernel
theorem dX8_readItems_8 : decode cX8_readItems 8 = .ok (.iconst 4, 1) := by decide +kernel
theorem dX8_readItems_9 : decode cX8_readItems 9 = .ok (.if_icmp .gt 142, 3) := by decide +kernel
theorem dX8_readItems_12 : decode cX8_readItems 12 = .ok (.aload_n 0, 1) := by decide +kernel
theorem dX8_readItems_13 : decode cX8_readItems 13 = .ok (.getfield 9, 3) := by decide +kernel
theorem dX8_readItems_16 : decode cX8_readItems 16 = .ok (.aload_n 1, 1) := by decide +kernel
theorem dX8_readItems_17 : decode cX8_readItems 17 = .ok (.invokevirtual 87, 3) := by decide +kernel
theorem dX8_readItems_20 : decode cX8_readItems 20 = .ok (.istore 8, 2) := by decide +kernel
theorem dX8_readItems_22 : decode cX8_readItems 22 = .ok (.iload 8, 2) := by decide +kernel
theorem dX8_readItems_24 : decode cX8_readItems 24 = .ok (.ifCond .lt 9, 3) := by decide +kernel
theorem dX8_readItems_27 : decode cX8_readItems 27 = .ok (.iload 8, 2) := by decide +kernel
theorem dX8_readItems_29 : decode cX8_readItems 29 = .ok (.iconst 4, 1) := by decide +kernel
theorem dX8_readItems_30 : decode cX8_readItems 30 = .ok (.if_icmp .lt 5, 3) := by decide +kernel
theorem dX8_readItems_33 : decode cX8_readItems 33 = .ok (.iconst 1, 1) := by decide +kernel
theorem dX8_readItems_34 : decode cX8_readItems 34 = .ok (.ireturn, 1) := by decide +kernel
theorem dX8_readItems_35 : decode cX8_readItems 35 = .ok (.iload 6, 2) := by decide +kernel
theorem dX8_readItems_37 : decode cX8_readItems 37 = .ok (.iload 8, 2) := by decide +kernel
theorem dX8_readItems_39 : decode cX8_readItems 39 = .ok (.ishr, 1) := by decide +kernel
theorem dX8_readItems_40 : decode cX8_readItems 40 = .ok (.iconst 1, 1) := by decide +kernel
theorem dX8_readItems_41 : decode cX8_readItems 41 = .ok (.iand, 1) := by decide +kernel
theorem dX8_readItems_42 : decode cX8_readItems 42 = .ok (.ifCond .eq 18, 3) := by decide +kernel
theorem dX8_readItems_45 : decode cX8_readItems 45 = .ok (.aload_n 0, 1) := by decide +kernel
theorem dX8_readItems_46 : decode cX8_readItems 46 = .ok (.getfield 9, 3) := by decide +kernel
theorem dX8_readItems_49 : decode cX8_readItems 49 = .ok (.aload_n 0, 1) := by decide +kernel
theorem dX8_readItems_50 : decode cX8_readItems 50 = .ok (.getfield 9, 3) := by decide +kernel
theorem dX8_readItems_53 : decode cX8_readItems 53 = .ok (.getfield 43, 3) := by decide +kernel
theorem dX8_readItems_56 : decode cX8_readItems 56 = .ok (.invokevirtual 65, 3) := by decide +kernel
theorem dX8_readItems_59 : decode cX8_readItems 59 = .ok (.ireturn, 1) := by decide +kernel
theorem dX8_readItems_60 : decode cX8_readItems 60 = .ok (.iload 6, 2) := by decide +kernel
theorem dX8_readItems_62 : decode cX8_readItems 62 = .ok (.iconst 1, 1) := by decide +kernel
theorem dX8_readItems_63 : decode cX8_readItems 63 = .ok (.iload 8, 2) := by decide +kernel
theorem dX8_readItems_65 : decode cX8_readItems 65 = .ok (.ishl, 1) := by decide +kernel
theorem dX8_readItems_66 : decode cX8_readItems 66 = .ok (.ior, 1) := by decide +kernel
theorem dX8_readItems_67 : decode cX8_readItems 67 = .ok (.istore 6, 2) := by decide +kernel
theorem dX8_readItems_69 : decode cX8_readItems 69 = .ok (.aload_n 0, 1) := by decide +kernel
theorem dX8_readItems_70 : decode cX8_readItems 70 = .ok (.getfield 9, 3) := by decide +kernel
theorem dX8_readItems_73 : decode cX8_readItems 73 = .ok (.dup, 1) := by decide +kernel
theorem dX8_readItems_74 : decode cX8_readItems 74 = .ok (.getfield 43, 3) := by decide +kernel
theorem dX8_readItems_77 : decode cX8_readItems 77 = .ok (.iconst 1, 1) := by decide +kernel
theorem dX8_readItems_78 : decode cX8_readItems 78 = .ok (.iadd, 1) := by decide +kernel
theorem dX8_readItems_79 : decode cX8_readItems 79 = .ok (.putfield 43, 3) := by decide +kernel
theorem dX8_readItems_82 : decode cX8_readItems 82 = .ok (.aload_n 0, 1) := by decide +kernel
theorem dX8_readItems_83 : decode cX8_readItems 83 = .ok (.getfield 9, 3) := by decide +kernel
theorem dX8_readItems_86 : decode cX8_readItems 86 = .ok (.iconst 3, 1) := by decide +kernel
theorem dX8_readItems_87 : decode cX8_readItems 87 = .ok (.invokevirtual 91, 3) := by decide +kernel
theorem dX8_readItems_90 : decode cX8_readItems 90 = .ok (.istore 9, 2) := by decide +kernel
theorem dX8_readItems_92 : decode cX8_readItems 92 = .ok (.iload 9, 2) := by decide +kernel
theorem dX8_readItems_94 : decode cX8_readItems 94 = .ok (.iconst (-1), 1) := by decide +kernel
theorem dX8_readItems_95 : decode cX8_readItems 95 = .ok (.if_icmp .ne 5, 3) := by decide +kernel
theorem dX8_readItems_98 : decode cX8_readItems 98 = .ok (.iconst 0, 1) := by decide +kernel
theorem dX8_readItems_99 : decode cX8_readItems 99 = .ok (.ireturn, 1) := by decide +kernel
theorem dX8_readItems_100 : decode cX8_readItems 100 = .ok (.iload 9, 2) := by decide +kernel
theorem dX8_readItems_102 : decode cX8_readItems 102 = .ok (.aload_n 2, 1) := by decide +kernel
theorem dX8_readItems_103 : decode cX8_readItems 103 = .ok (.iload 8, 2) := by decide +kernel
theorem dX8_readItems_105 : decode cX8_readItems 105 = .ok (.iaload, 1) := by decide +kernel
theorem dX8_readItems_106 : decode cX8_readItems 106 = .ok (.if_icmp .lt 12, 3) := by decide +kernel
theorem dX8_readItems_109 : decode cX8_readItems 109 = .ok (.iload 9, 2) := by decide +kernel
theorem dX8_readItems_111 : decode cX8_readItems 111 = .ok (.aload_n 3, 1) := by decide +kernel
theorem dX8_readItems_112 : decode cX8_readItems 112 = .ok (.iload 8, 2) := by decide +kernel
theorem dX8_readItems_114 : decode cX8_readItems 114 = .ok (.iaload, 1) := by decide +kernel
theorem dX8_readItems_115 : decode cX8_readItems 115 = .ok (.if_icmp .le 20, 3) := by decide +kernel
theorem dX8_readItems_118 : decode cX8_readItems 118 = .ok (.aload_n 0, 1) := by decide +kernel
theorem dX8_readItems_119 : decode cX8_readItems 119 = .ok (.getfield 9, 3) := by decide +kernel
theorem dX8_readItems_122 : decode cX8_readItems 122 = .ok (.aload_n 0, 1) := by decide +kernel
theorem dX8_readItems_123 : decode cX8_readItems 123 = .ok (.getfield 9, 3) := by decide +kernel
theorem dX8_readItems_126 : decode cX8_readItems 126 = .ok (.getfield 43, 3) := by decide +kernel
theorem dX8_readItems_129 : decode cX8_readItems 129 = .ok (.iconst 1, 1) := by decide +kernel
theorem dX8_readItems_130 : decode cX8_readItems 130 = .ok (.isub, 1) := by decide +kernel
theorem dX8_readItems_131 : decode cX8_readItems 131 = .ok (.invokevirtual 65, 3) := by decide +kernel
theorem dX8_readItems_134 : decode cX8_readItems 134 = .ok (.ireturn, 1) := by decide +kernel
theorem dX8_readItems_135 : decode cX8_readItems 135 = .ok (.aload 4, 2) := by decide +kernel
theorem dX8_readItems_137 : decode cX8_readItems 137 = .ok (.iload 5, 2) := by decide +kernel
theorem dX8_readItems_139 : decode cX8_readItems 139 = .ok (.iload 8, 2) := by decide +kernel
theorem dX8_readItems_141 : decode cX8_readItems 141 = .ok (.iadd, 1) := by decide +kernel
theorem dX8_readItems_142 : decode cX8_readItems 142 = .ok (.iload 9, 2) := by decide +kernel
theorem dX8_readItems_144 : decode cX8_readItems 144 = .ok (.iastore, 1) := by decide +kernel
theorem dX8_readItems_145 : decode cX8_readItems 145 = .ok (.iinc 7 1, 3) := by decide +kernel
theorem dX8_readItems_148 : decode cX8_readItems 148 = .ok (.goto (-142), 3) := by decide +kernel
theorem dX8_readItems_151 : decode cX8_readItems 151 = .ok (.iconst 1, 1) := by decide +kernel
theorem dX8_readItems_152 : decode cX8_readItems 152 = .ok (.ireturn, 1) := by decide +kernel
set_option maxRecDepth 100000 in
set_option maxHeartbeats 4000000 in
theorem tz_X8_readItems (l : Launch) (X : qX) {p0 : Nat} {p1 : Nat} {p2 : Nat} {p3 : Nat} {p4 : Int32} {M MR : qM} {r0 : Bool} (hp0 : p0 < 3) (hp1 : p1 < 7) (lp1 : q_sl p1 = 4) (hp2 : p2 < 7) (lp2 : q_sl p2 = 4) (hp3 : q_is p3 20 (q_al p3)) (hf : jVr_readItems p0 p1 p2 p3 p4 M = some (r0, MR)) : q_Met l X yX8_readItems cX8_readItems 10 (some .boolean) (6) M [.ref (X.1 3), .ref (X.2.2.2.2.1 p0), .ref (X.2.2.2.1 p1), .ref (X.2.2.2.1 p2), .ref (X.1 p3), .int p4] (q_Qi X (b2i r0) MR) := by
  refine q_enter (by decide) (Nat.le_of_ble_eq_true rfl) ?_
  intro p e s m args below meth c hE hrt hlk H locs hH ls hl
  have hx := hE.1
  have hb := hE.2.1
  have hl : lv_has ls 10 [(0, .ref (X.1 3)), (1, .ref (X.2.2.2.2.1 p0)), (2, .ref (X.2.2.2.1 p1)), (3, .ref (X.2.2.2.1 p2)), (4, .ref (X.1 p3)), (5, .int p4)] := hl
  unfold jVr_readItems at hf
  refine lv_iconst (v := 0) hx hb dX8_readItems_0 (by decide) ?_
  refine lv_istore (lv' := [(6, .int 0), (0, .ref (X.1 3)), (1, .ref (X.2.2.2.2.1 p0)), (2, .ref (X.2.2.2.1 p1)), (3, .ref (X.2.2.2.1 p2)), (4, .ref (X.1 p3)), (5, .int p4)]) hx hb dX8_readItems_1 hl (by decide) rfl (fun ls hl => ?_)
  refine lv_iconst (v := 0) hx hb dX8_readItems_3 (by decide) ?_
  refine lv_istore (lv' := [(7, .int 0), (6, .int 0), (0, .ref (X.1 3)), (1, .ref (X.2.2.2.2.1 p0)), (2, .ref (X.2.2.2.1 p1)), (3, .ref (X.2.2.2.1 p2)), (4, .ref (X.1 p3)), (5, .int p4)]) hx hb dX8_readItems_4 hl (by decide) rfl (fun ls hl => ?_)
  obtain ⟨r9, hlp, hf⟩ := st_bd hf
  have hX : (fun q0a => qse q0a (fun M4 => ∀ (ls : Array Slot) (H : Heap) (locs : List Loc), q_H X M4 s H locs → lv_has ls 10 [] → W p l e (q_rm (6)) s m args below meth c H locs 0 0 (MQ below (q_Qi X (b2i r0) MR) args s 0 0 (q_A X)) (F0 m 33 ls [])) (fun q1a => qse q1a (fun M5 => ∀ (ls : Array Slot) (H : Heap) (locs : List Loc), q_H X M5 s H locs → lv_has ls 10 [(0, .ref (X.1 3))] → W p l e (q_rm (6)) s m args below meth c H locs 0 0 (MQ below (q_Qi X (b2i r0) MR) args s 0 0 (q_A X)) (F0 m 45 ls [])) (fun q2a => qse q2a (fun M6 => ∀ (ls : Array Slot) (H : Heap) (locs : List Loc), q_H X M6 s H locs → lv_has ls 10 [] → W p l e (q_rm (6)) s m args below meth c H locs 0 0 (MQ below (q_Qi X (b2i r0) MR) args s 0 0 (q_A X)) (F0 m 98 ls [])) (fun q3a => qse q3a (fun M7 => ∀ (ls : Array Slot) (H : Heap) (locs : List Loc), q_H X M7 s H locs → lv_has ls 10 [(0, .ref (X.1 3))] → W p l e (q_rm (6)) s m args below meth c H locs 0 0 (MQ below (q_Qi X (b2i r0) MR) args s 0 0 (q_A X)) (F0 m 118 ls [])) (fun M8 => ∀ (ls : Array Slot) (H : Heap) (locs : List Loc), q_H X M8 s H locs → lv_has ls 10 [] → W p l e (q_rm (6)) s m args below meth c H locs 0 0 (MQ below (q_Qi X (b2i r0) MR) args s 0 0 (q_A X)) (F0 m 151 ls []))))) : (qM ⊕ (qM ⊕ (qM ⊕ (qM ⊕ qM)))) → Prop) r9 := by
    rcases r9 with M4 | r9
    · replace hf := st_seL hf
      intro ls H locs hH hl
      refine lv_iconst (v := 1) hx hb dX8_readItems_33 (by decide) ?_
      replace hf := Option.some.inj hf
      obtain ⟨rfl, rfl⟩ := qi2 hf
      exact pz_retz hE hrt hlk hH rfl dX8_readItems_34
    · replace hf := st_seR hf
      rcases r9 with M5 | r9
      · replace hf := st_seL hf
        intro ls H locs hH hl
        refine lv_aload_n hx hb dX8_readItems_45 rfl (lv_at hl 0 rfl) ?_
        refine pz_gS (a := 1) hE hH fr_X8_9 qk_3 (by decide) dX8_readItems_46 ?_
        refine lv_aload_n hx hb dX8_readItems_49 rfl (lv_at hl 0 rfl) ?_
        refine pz_gS (a := 1) hE hH fr_X8_9 qk_3 (by decide) dX8_readItems_50 ?_
        refine pz_gI hE hH fr_X8_43 qk_1 dX8_readItems_53 ?_
        obtain ⟨w10, ew10, hf⟩ := st_lty hf
        obtain ⟨r11, M12⟩ := w10
        replace hf := st_u2 hf
        refine q_calli (q_runV (As := [.int (M5.1 1 2)]) (rest := []) hE hH (tz_X4_fail l X (hf := ew10.symm)) kv_X8_65 qk_1 (by decide) rfl hl.1 rfl (Nat.le_of_ble_eq_true rfl) dX8_readItems_56) hH (fun H locs hH => ?_)
        replace hf := Option.some.inj hf
        obtain ⟨rfl, rfl⟩ := qi2 hf
        exact pz_retz hE hrt hlk hH rfl dX8_readItems_59
      · replace hf := st_seR hf
        rcases r9 with M6 | r9
        · replace hf := st_seL hf
          intro ls H locs hH hl
          refine lv_iconst (v := 0) hx hb dX8_readItems_98 (by decide) ?_
          replace hf := Option.some.inj hf
          obtain ⟨rfl, rfl⟩ := qi2 hf
          exact pz_retz hE hrt hlk hH rfl dX8_readItems_99
        · replace hf := st_seR hf
          rcases r9 with M7 | M8
          · replace hf := st_seL hf
            intro ls H locs hH hl
            refine lv_aload_n hx hb dX8_readItems_118 rfl (lv_at hl 0 rfl) ?_
            refine pz_gS (a := 1) hE hH fr_X8_9 qk_3 (by decide) dX8_readItems_119 ?_
            refine lv_aload_n hx hb dX8_readItems_122 rfl (lv_at hl 0 rfl) ?_
            refine pz_gS (a := 1) hE hH fr_X8_9 qk_3 (by decide) dX8_readItems_123 ?_
            refine pz_gI hE hH fr_X8_43 qk_1 dX8_readItems_126 ?_
            refine lv_iconst (v := 1) hx hb dX8_readItems_129 (by decide) ?_
            refine lv_isub hx hb dX8_readItems_130 ?_
            obtain ⟨w13, ew13, hf⟩ := st_lty hf
            obtain ⟨r14, M15⟩ := w13
            replace hf := st_u2 hf
            refine q_calli (q_runV (As := [.int ((M7.1 1 2) - 1)]) (rest := []) hE hH (tz_X4_fail l X (hf := ew13.symm)) kv_X8_65 qk_1 (by decide) rfl hl.1 rfl (Nat.le_of_ble_eq_true rfl) dX8_readItems_131) hH (fun H locs hH => ?_)
            replace hf := Option.some.inj hf
            obtain ⟨rfl, rfl⟩ := qi2 hf
            exact pz_retz hE hrt hlk hH rfl dX8_readItems_134
          · replace hf := st_seR hf
            intro ls H locs hH hl
            refine lv_iconst (v := 1) hx hb dX8_readItems_151 (by decide) ?_
            replace hf := Option.some.inj hf
            obtain ⟨rfl, rfl⟩ := qi2 hf
            exact pz_retz hE hrt hlk hH rfl dX8_readItems_152
  clear hf
  have hG := qlp_ind (r := r9) (fun q => qu3 q (fun x1 x2 M3 => ∀ (ls : Array Slot) (H : Heap) (locs : List Loc), q_H X M3 s H locs → lv_has ls 10 [(0, .ref (X.1 3)), (1, .ref (X.2.2.2.2.1 p0)), (2, .ref (X.2.2.2.1 p1)), (3, .ref (X.2.2.2.1 p2)), (4, .ref (X.1 p3)), (5, .int p4), (6, .int x1), (7, .int x2)] → W p l e (q_rm (6)) s m args below meth c H locs 0 0 (MQ below (q_Qi X (b2i r0) MR) args s 0 0 (q_A X)) (F0 m 6 ls []))) (by
      intro q o hf hK1 hK2
      obtain ⟨x1, x2, M3⟩ := q
      replace hf := st_u3 hf
      intro ls H locs hH hl
      refine lv_iload hx hb dX8_readItems_6 (lv_at hl 7 rfl) ?_
      refine lv_iconst (v := 4) hx hb dX8_readItems_8 (by decide) ?_
      refine lv_icmp_gt (tgt := 151) hx hb dX8_readItems_9 (by decide) (fun hc => ?_) (fun hc => ?_)
      · replace hf := (if_pos hc).symm.trans hf
        replace hf := hK2 _ (Option.some.inj hf).symm
        subst hf
        exact hX ls H locs hH (lv_sub hl [] rfl)
      · replace hf := (if_neg hc).symm.trans hf
        refine lv_aload_n hx hb dX8_readItems_12 rfl (lv_at hl 0 rfl) ?_
        refine pz_gS (a := 1) hE hH fr_X8_9 qk_3 (by decide) dX8_readItems_13 ?_
        refine lv_aload_n hx hb dX8_readItems_16 rfl (lv_at hl 1 rfl) ?_
        obtain ⟨w16, ew16, hf⟩ := st_bd hf
        obtain ⟨r17, M18⟩ := w16
        replace hf := st_u2 hf
        refine q_calli (q_runV (As := [.ref (X.2.2.2.2.1 p0)]) (rest := []) hE hH (tz_X4_peekAmong l X hp0 (hf := ew16)) kv_X8_87 qk_1 (by decide) rfl hl.1 rfl (Nat.le_of_ble_eq_true rfl) dX8_readItems_17) hH (fun H locs hH => ?_)
        refine lv_istore (lv' := [(8, .int r17), (0, .ref (X.1 3)), (1, .ref (X.2.2.2.2.1 p0)), (2, .ref (X.2.2.2.1 p1)), (3, .ref (X.2.2.2.1 p2)), (4, .ref (X.1 p3)), (5, .int p4), (6, .int x1), (7, .int x2)]) hx hb dX8_readItems_20 hl (by decide) rfl (fun ls hl => ?_)
        refine lv_iload hx hb dX8_readItems_22 (lv_at hl 0 rfl) ?_
        refine lv_if_lt (tgt := 33) hx hb dX8_readItems_24 (by decide) (fun hc => ?_) (fun hc => ?_)
        · replace hf := (if_pos hc).symm.trans hf
          replace hf := hK2 _ (Option.some.inj hf).symm
          subst hf
          exact hX ls H locs hH (lv_sub hl [] rfl)
        · replace hf := (if_neg hc).symm.trans hf
          refine lv_iload hx hb dX8_readItems_27 (lv_at hl 0 rfl) ?_
          refine lv_iconst (v := 4) hx hb dX8_readItems_29 (by decide) ?_
          refine lv_icmp_lt (tgt := 35) hx hb dX8_readItems_30 (by decide) (fun hc => ?_) (fun hc => ?_)
          · replace hf := (if_pos hc).symm.trans hf
            refine lv_iload hx hb dX8_readItems_35 (lv_at hl 7 rfl) ?_
            refine lv_iload hx hb dX8_readItems_37 (lv_at hl 0 rfl) ?_
            refine lv_ishr hx hb dX8_readItems_39 ?_
            refine lv_iconst (v := 1) hx hb dX8_readItems_40 (by decide) ?_
            refine lv_iand hx hb dX8_readItems_41 ?_
            refine lv_if_eq (tgt := 60) hx hb dX8_readItems_42 (by decide) (fun hc => ?_) (fun hc => ?_)
            · replace hf := (if_pos hc).symm.trans hf
              refine lv_iload hx hb dX8_readItems_60 (lv_at hl 7 rfl) ?_
              refine lv_iconst (v := 1) hx hb dX8_readItems_62 (by decide) ?_
              refine lv_iload hx hb dX8_readItems_63 (lv_at hl 0 rfl) ?_
              refine lv_ishl hx hb dX8_readItems_65 ?_
              refine lv_ior hx hb dX8_readItems_66 ?_
              refine lv_topi (fun x19 ex19 => ?_)
              replace hf := st_lt hf ex19
              refine lv_istore (lv' := [(6, .int x19), (8, .int r17), (0, .ref (X.1 3)), (1, .ref (X.2.2.2.2.1 p0)), (2, .ref (X.2.2.2.1 p1)), (3, .ref (X.2.2.2.1 p2)), (4, .ref (X.1 p3)), (5, .int p4), (7, .int x2)]) hx hb dX8_readItems_67 hl (by decide) rfl (fun ls hl => ?_)
              refine lv_aload_n hx hb dX8_readItems_69 rfl (lv_at hl 2 rfl) ?_
              refine pz_gS (a := 1) hE hH fr_X8_9 qk_3 (by decide) dX8_readItems_70 ?_
              refine lv_dup hx hb dX8_readItems_73 rfl ?_
              refine pz_gI hE hH fr_X8_43 qk_1 dX8_readItems_74 ?_
              refine lv_iconst (v := 1) hx hb dX8_readItems_77 (by decide) ?_
              refine lv_iadd hx hb dX8_readItems_78 ?_
              obtain ⟨M20, eM20, hf⟩ := st_lty hf
              refine pz_pI hE hH fw_X8_43 qk_1  eM20 dX8_readItems_79 (fun H locs hH => ?_)
              refine lv_aload_n hx hb dX8_readItems_82 rfl (lv_at hl 2 rfl) ?_
              refine pz_gS (a := 1) hE hH fr_X8_9 qk_3 (by decide) dX8_readItems_83 ?_
              refine lv_iconst (v := 3) hx hb dX8_readItems_86 (by decide) ?_
              obtain ⟨w21, ew21, hf⟩ := st_bd hf
              obtain ⟨r22, M23⟩ := w21
              replace hf := st_u2 hf
              refine q_calli (q_runV (As := [.int 3]) (rest := []) hE hH (tz_X4_takeNumber l X (hf := ew21)) kv_X8_91 qk_1 (by decide) rfl hl.1 rfl (Nat.le_of_ble_eq_true rfl) dX8_readItems_87) hH (fun H locs hH => ?_)
              refine lv_istore (lv' := [(9, .int r22), (6, .int x19), (8, .int r17), (0, .ref (X.1 3)), (1, .ref (X.2.2.2.2.1 p0)), (2, .ref (X.2.2.2.1 p1)), (3, .ref (X.2.2.2.1 p2)), (4, .ref (X.1 p3)), (5, .int p4), (7, .int x2)]) hx hb dX8_readItems_90 hl (by decide) rfl (fun ls hl => ?_)
              refine lv_iload hx hb dX8_readItems_92 (lv_at hl 0 rfl) ?_
              refine lv_iconst (v := (-1)) hx hb dX8_readItems_94 (by decide) ?_
              refine lv_icmp_ne (tgt := 100) hx hb dX8_readItems_95 (by decide) (fun hc => ?_) (fun hc => ?_)
              · replace hf := (if_neg hc).symm.trans hf
                refine lv_iload hx hb dX8_readItems_100 (lv_at hl 0 rfl) ?_
                refine lv_aload_n hx hb dX8_readItems_102 rfl (lv_at hl 5 rfl) ?_
                refine lv_iload hx hb dX8_readItems_103 (lv_at hl 2 rfl) ?_
                obtain ⟨v24, ev24, hf⟩ := st_bd hf
                refine pz_tld p1 hE hH hp1 lp1 ev24 dX8_readItems_105 ?_
                refine lv_icmp_lt (tgt := 118) hx hb dX8_readItems_106 (by decide) (fun hc => ?_) (fun hc => ?_)
                · replace hf := (if_pos hc).symm.trans hf
                  replace hf := hK2 _ (Option.some.inj hf).symm
                  subst hf
                  exact hX ls H locs hH (lv_sub hl [3] rfl)
                · replace hf := (if_neg hc).symm.trans hf
                  refine lv_iload hx hb dX8_readItems_109 (lv_at hl 0 rfl) ?_
                  refine lv_aload_n hx hb dX8_readItems_111 rfl (lv_at hl 6 rfl) ?_
                  refine lv_iload hx hb dX8_readItems_112 (lv_at hl 2 rfl) ?_
                  obtain ⟨v25, ev25, hf⟩ := st_bd hf
                  refine pz_tld p2 hE hH hp2 lp2 ev25 dX8_readItems_114 ?_
                  refine lv_icmp_le (tgt := 135) hx hb dX8_readItems_115 (by decide) (fun hc => ?_) (fun hc => ?_)
                  · replace hf := (if_pos hc).symm.trans hf
                    refine lv_aload hx hb dX8_readItems_135 (lv_at hl 7 rfl) ?_
                    refine lv_iload hx hb dX8_readItems_137 (lv_at hl 8 rfl) ?_
                    refine lv_iload hx hb dX8_readItems_139 (lv_at hl 2 rfl) ?_
                    refine lv_iadd hx hb dX8_readItems_141 ?_
                    refine lv_iload hx hb dX8_readItems_142 (lv_at hl 0 rfl) ?_
                    obtain ⟨M26, eM26, hf⟩ := st_bd hf
                    refine pz_iast hE hH hp3 eM26 dX8_readItems_144 (fun H locs hH => ?_)
                    obtain ⟨x27, ex27, hf⟩ := st_lty hf
                    refine lv_iinc (v := x27) (lv' := [(7, .int x27), (9, .int r22), (6, .int x19), (8, .int r17), (0, .ref (X.1 3)), (1, .ref (X.2.2.2.2.1 p0)), (2, .ref (X.2.2.2.1 p1)), (3, .ref (X.2.2.2.1 p2)), (4, .ref (X.1 p3)), (5, .int p4)]) hx hb dX8_readItems_145 hl (k := 9) rfl (by rw [ex27]; rfl) (by decide) rfl (fun ls hl => ?_)
                    refine lv_goto (tgt := 6) hx hb dX8_readItems_148 (by decide) ?_
                    exact hK1 _ (Option.some.inj hf).symm ls H locs hH (lv_sub hl [4, 5, 6, 7, 8, 9, 2, 0] rfl)
                  · replace hf := (if_neg hc).symm.trans hf
                    replace hf := hK2 _ (Option.some.inj hf).symm
                    subst hf
                    exact hX ls H locs hH (lv_sub hl [3] rfl)
              · replace hf := (if_pos hc).symm.trans hf
                replace hf := hK2 _ (Option.some.inj hf).symm
                subst hf
                exact hX ls H locs hH (lv_sub hl [] rfl)
            · replace hf := (if_neg hc).symm.trans hf
              replace hf := hK2 _ (Option.some.inj hf).symm
              subst hf
              exact hX ls H locs hH (lv_sub hl [1] rfl)
          · replace hf := (if_neg hc).symm.trans hf
            replace hf := hK2 _ (Option.some.inj hf).symm
            subst hf
            exact hX ls H locs hH (lv_sub hl [] rfl)) _ hlp
  exact hG ls H locs hH (lv_sub hl [2, 3, 4, 5, 6, 7, 1, 0] rfl)

theorem dX8_readClause_0 : decode cX8_readClause 0 = .ok (.aload_n 0, 1) := by decide +kernel
theorem dX8_readClause_1 : decode cX8_readClause 1 = .ok (.getfield 9, 3) := by decide +kernel
theorem dX8_readClause_4 : decode cX8_readClause 4 = .ok (.invokevirtual 33, 3) := by decide +kernel
theorem dX8_readClause_7 : decode cX8_readClause 7 = .ok (.istore_n 2, 1) := by decide +kernel
theorem dX8_readClause_8 : decode cX8_readClause 8 = .ok (.iload_n 2, 1) := by decide +kernel
theorem dX8_readClause_9 : decode cX8_readClause 9 = .ok (.bipush 116, 2) := by decide +kernel
theorem dX8_readClause_11 : decode cX8_readClause 11 = .ok (.if_icmp .ne 47, 3) := by decide +kernel
theorem dX8_readClause_14 : decode cX8_readClause 14 = .ok (.aload_n 1, 1) := by decide +kernel
theorem dX8_readClause_15 : decode cX8_readClause 15 = .ok (.getfield 37, 3) := by decide +kernel
theorem dX8_readClause_18 : decode cX8_readClause 18 = .ok (.iconst 4, 1) := by decide +kernel
theorem dX8_readClause_19 : decode cX8_readClause 19 = .ok (.if_icmp .ge 39, 3) := by decide +kernel
theorem dX8_readClause_22 : decode cX8_readClause 22 = .ok (.aload_n 0, 1) := by decide +kernel
theorem dX8_readClause_23 : decode cX8_readClause 23 = .ok (.getfield 9, 3) := by decide +kernel
theorem dX8_readClause_26 : decode cX8_readClause 26 = .ok (.dup, 1) := by decide +kernel
theorem dX8_readClause_27 : decode cX8_readClause 27 = .ok (.getfield 43, 3) := by decide +kernel
theorem dX8_readClause_30 : decode cX8_readClause 30 = .ok (.iconst 1, 1) := by decide +kernel
theorem dX8_readClause_31 : decode cX8_readClause 31 = .ok (.iadd, 1) := by decide +kernel
theorem dX8_readClause_32 : decode cX8_readClause 32 = .ok (.putfield 43, 3) := by decide +kernel
theorem dX8_readClause_35 : decode cX8_readClause 35 = .ok (.aload_n 1, 1) := by decide +kernel
theorem dX8_readClause_36 : decode cX8_readClause 36 = .ok (.invokevirtual 46, 3) := by decide +kernel
theorem dX8_readClause_39 : decode cX8_readClause 39 = .ok (.istore_n 3, 1) := by decide +kernel
theorem dX8_readClause_40 : decode cX8_readClause 40 = .ok (.aload_n 0, 1) := by decide +kernel
theorem dX8_readClause_41 : decode cX8_readClause 41 = .ok (.ldc 49, 2) := by decide +kernel
theorem dX8_readClause_43 : decode cX8_readClause 43 = .ok (.getstatic 51, 3) := by decide +kernel
theorem dX8_readClause_46 : decode cX8_readClause 46 = .ok (.getstatic 55, 3) := by decide +kernel
theorem dX8_readClause_49 : decode cX8_readClause 49 = .ok (.aload_n 1, 1) := by decide +kernel
theorem dX8_readClause_50 : decode cX8_readClause 50 = .ok (.getfield 58, 3) := by decide +kernel
theorem dX8_readClause_53 : decode cX8_readClause 53 = .ok (.iload_n 3, 1) := by decide +kernel
theorem dX8_readClause_54 : decode cX8_readClause 54 = .ok (.invokevirtual 61, 3) := by decide +kernel
theorem dX8_readClause_57 : decode cX8_readClause 57 = .ok (.ireturn, 1) := by decide +kernel
theorem dX8_readClause_58 : decode cX8_readClause 58 = .ok (.iload_n 2, 1) := by decide +kernel
theorem dX8_readClause_59 : decode cX8_readClause 59 = .ok (.bipush 115, 2) := by decide +kernel
theorem dX8_readClause_61 : decode cX8_readClause 61 = .ok (.if_icmp .ne 12, 3) := by decide +kernel
theorem dX8_readClause_64 : decode cX8_readClause 64 = .ok (.aload_n 1, 1) := by decide +kernel
theorem dX8_readClause_65 : decode cX8_readClause 65 = .ok (.getfield 40, 3) := by decide +kernel
theorem dX8_readClause_68 : decode cX8_readClause 68 = .ok (.bipush 6, 2) := by decide +kernel
theorem dX8_readClause_70 : decode cX8_readClause 70 = .ok (.if_icmp .lt 18, 3) := by decide +kernel
theorem dX8_readClause_73 : decode cX8_readClause 73 = .ok (.aload_n 0, 1) := by decide +kernel
theorem dX8_readClause_74 : decode cX8_readClause 74 = .ok (.getfield 9, 3) := by decide +kernel
theorem dX8_readClause_77 : decode cX8_readClause 77 = .ok (.aload_n 0, 1) := by decide +kernel
theorem dX8_readClause_78 : decode cX8_readClause 78 = .ok (.getfield 9, 3) := by decide +kernel
theorem dX8_readClause_81 : decode cX8_readClause 81 = .ok (.getfield 43, 3) := by decide +kernel
theorem dX8_readClause_84 : decode cX8_readClause 84 = .ok (.invokevirtual 65, 3) := by decide +kernel
theorem dX8_readClause_87 : decode cX8_readClause 87 = .ok (.ireturn, 1) := by decide +kernel
theorem dX8_readClause_88 : decode cX8_readClause 88 = .ok (.aload_n 0, 1) := by decide +kernel
theorem dX8_readClause_89 : decode cX8_readClause 89 = .ok (.getfield 9, 3) := by decide +kernel
theorem dX8_readClause_92 : decode cX8_readClause 92 = .ok (.dup, 1) := by decide +kernel
theorem dX8_readClause_93 : decode cX8_readClause 93 = .ok (.getfield 43, 3) := by decide +kernel
theorem dX8_readClause_96 : decode cX8_readClause 96 = .ok (.iconst 1, 1) := by decide +kernel
theorem dX8_readClause_97 : decode cX8_readClause 97 = .ok (.iadd, 1) := by decide +kernel
theorem dX8_readClause_98 : decode cX8_readClause 98 = .ok (.putfield 43, 3) := by decide +kernel
theorem dX8_readClause_101 : decode cX8_readClause 101 = .ok (.aload_n 1, 1) := by decide +kernel
theorem dX8_readClause_102 : decode cX8_readClause 102 = .ok (.invokevirtual 69, 3) := by decide +kernel
theorem dX8_readClause_105 : decode cX8_readClause 105 = .ok (.istore_n 3, 1) := by decide +kernel
theorem dX8_readClause_106 : decode cX8_readClause 106 = .ok (.aload_n 0, 1) := by decide +kernel
theorem dX8_readClause_107 : decode cX8_readClause 107 = .ok (.ldc 72, 2) := by decide +kernel
theorem dX8_readClause_109 : decode cX8_readClause 109 = .ok (.getstatic 74, 3) := by decide +kernel
theorem dX8_readClause_112 : decode cX8_readClause 112 = .ok (.getstatic 77, 3) := by decide +kernel
theorem dX8_readClause_115 : decode cX8_readClause 115 = .ok (.aload_n 1, 1) := by decide +kernel
theorem dX8_readClause_116 : decode cX8_readClause 116 = .ok (.getfield 80, 3) := by decide +kernel
theorem dX8_readClause_119 : decode cX8_readClause 119 = .ok (.iload_n 3, 1) := by decide +kernel
theorem dX8_readClause_120 : decode cX8_readClause 120 = .ok (.invokevirtual 61, 3) := by decide +kernel
theorem dX8_readClause_123 : decode cX8_readClause 123 = .ok (.ifCond .ne 5, 3) := by decide +kernel
theorem dX8_readClause_126 : decode cX8_readClause 126 = .ok (.iconst 0, 1) := by decide +kernel
theorem dX8_readClause_127 : decode cX8_readClause 127 = .ok (.ireturn, 1) := by decide +kernel
theorem dX8_readClause_128 : decode cX8_readClause 128 = .ok (.aload_n 1, 1) := by decide +kernel
theorem dX8_readClause_129 : decode cX8_readClause 129 = .ok (.invokevirtual 83, 3) := by decide +kernel
theorem dX8_readClause_132 : decode cX8_readClause 132 = .ok (.ifCond .ne 20, 3) := by decide +kernel
theorem dX8_readClause_135 : decode cX8_readClause 135 = .ok (.aload_n 0, 1) := by decide +kernel
theorem dX8_readClause_136 : decode cX8_readClause 136 = .ok (.getfield 9, 3) := by decide +kernel
theorem dX8_readClause_139 : decode cX8_readClause 139 = .ok (.aload_n 0, 1) := by decide +kernel
theorem dX8_readClause_140 : decode cX8_readClause 140 = .ok (.getfield 9, 3) := by decide +kernel
theorem dX8_readClause_143 : decode cX8_readClause 143 = .ok (.getfield 43, 3) := by decide +kernel
theorem dX8_readClause_146 : decode cX8_readClause 146 = .ok (.invokevirtual 65, 3) := by decide +kernel
theorem dX8_readClause_149 : decode cX8_readClause 149 = .ok (.ifCond .eq 7, 3) := by decide +kernel
theorem dX8_readClause_152 : decode cX8_readClause 152 = .ok (.iconst 1, 1) := by decide +kernel
theorem dX8_readClause_153 : decode cX8_readClause 153 = .ok (.goto 4, 3) := by decide +kernel
theorem dX8_readClause_156 : decode cX8_readClause 156 = .ok (.iconst 0, 1) := by decide +kernel
theorem dX8_readClause_157 : decode cX8_readClause 157 = .ok (.ireturn, 1) := by decide +kernel
set_option maxRecDepth 100000 in
set_option maxHeartbeats 4000000 in
theorem tz_X8_readClause (l : Launch) (X : qX) {p0 : Nat} {M MR : qM} {r0 : Bool} (hp0 : q_vil p0 = true) (hf : jVr_readClause p0 M = some (r0, MR)) : q_Met l X yX8_readClause cX8_readClause 4 (some .boolean) (7) M [.ref (X.1 3), .ref (X.1 p0)] (q_Qi X (b2i r0) MR) := by
  refine q_enter (by decide) (Nat.le_of_ble_eq_true rfl) ?_
  intro p e s m args below meth c hE hrt hlk H locs hH ls hl
  have hx := hE.1
  have hb := hE.2.1
  have hl : lv_has ls 4 [(0, .ref (X.1 3)), (1, .ref (X.1 p0))] := hl
  unfold jVr_readClause at hf
  refine lv_aload_n hx hb dX8_readClause_0 rfl (lv_at hl 0 rfl) ?_
  refine pz_gS (a := 1) hE hH fr_X8_9 qk_3 (by decide) dX8_readClause_1 ?_
  obtain ⟨w1, ew1, hf⟩ := st_bd hf
  obtain ⟨r2, M3⟩ := w1
  replace hf := st_u2 hf
  refine q_calli (q_runV (As := []) (rest := []) hE hH (tz_X4_peek l X (hf := ew1)) kv_X8_33 qk_1 (by decide) rfl hl.1 rfl (Nat.le_of_ble_eq_true rfl) dX8_readClause_4) hH (fun H locs hH => ?_)
  refine lv_istore_n (lv' := [(2, .int r2), (0, .ref (X.1 3)), (1, .ref (X.1 p0))]) hx hb dX8_readClause_7 rfl hl (by decide) rfl (fun ls hl => ?_)
  refine lv_iload_n hx hb dX8_readClause_8 rfl (lv_at hl 0 rfl) ?_
  refine lv_bipush (v := 116) hx hb dX8_readClause_9 (by decide) ?_
  refine lv_icmp_ne (tgt := 58) hx hb dX8_readClause_11 (by decide) (fun hc => ?_) (fun hc => ?_)
  · replace hf := (if_neg hc).symm.trans hf
    refine lv_iload_n hx hb dX8_readClause_58 rfl (lv_at hl 0 rfl) ?_
    refine lv_bipush (v := 115) hx hb dX8_readClause_59 (by decide) ?_
    obtain ⟨z4, hz, hf⟩ := st_ltx hf
    have hT : z4 = true → ∀ (H : Heap) (locs : List Loc), q_H X M3 s H locs → W p l e (q_rm (7)) s m args below meth c H locs 0 0 (MQ below (q_Qi X (b2i r0) MR) args s 0 0 (q_A X)) (F0 m 73 ls []) := by
      intro hc H locs hH
      replace hf := (if_pos hc).symm.trans hf
      refine lv_aload_n hx hb dX8_readClause_73 rfl (lv_at hl 1 rfl) ?_
      refine pz_gS (a := 1) hE hH fr_X8_9 qk_3 (by decide) dX8_readClause_74 ?_
      refine lv_aload_n hx hb dX8_readClause_77 rfl (lv_at hl 1 rfl) ?_
      refine pz_gS (a := 1) hE hH fr_X8_9 qk_3 (by decide) dX8_readClause_78 ?_
      refine pz_gI hE hH fr_X8_43 qk_1 dX8_readClause_81 ?_
      obtain ⟨w5, ew5, hf⟩ := st_lty hf
      obtain ⟨r6, M7⟩ := w5
      replace hf := st_u2 hf
      refine q_calli (q_runV (As := [.int (M3.1 1 2)]) (rest := []) hE hH (tz_X4_fail l X (hf := ew5.symm)) kv_X8_65 qk_1 (by decide) rfl hl.1 rfl (Nat.le_of_ble_eq_true rfl) dX8_readClause_84) hH (fun H locs hH => ?_)
      replace hf := Option.some.inj hf
      obtain ⟨rfl, rfl⟩ := qi2 hf
      exact pz_retz hE hrt hlk hH rfl dX8_readClause_87
    have hF : ¬ z4 = true → ∀ (H : Heap) (locs : List Loc), q_H X M3 s H locs → W p l e (q_rm (7)) s m args below meth c H locs 0 0 (MQ below (q_Qi X (b2i r0) MR) args s 0 0 (q_A X)) (F0 m 88 ls []) := by
      intro hc H locs hH
      replace hf := (if_neg hc).symm.trans hf
      refine lv_aload_n hx hb dX8_readClause_88 rfl (lv_at hl 1 rfl) ?_
      refine pz_gS (a := 1) hE hH fr_X8_9 qk_3 (by decide) dX8_readClause_89 ?_
      refine lv_dup hx hb dX8_readClause_92 rfl ?_
      refine pz_gI hE hH fr_X8_43 qk_1 dX8_readClause_93 ?_
      refine lv_iconst (v := 1) hx hb dX8_readClause_96 (by decide) ?_
      refine lv_iadd hx hb dX8_readClause_97 ?_
      obtain ⟨M8, eM8, hf⟩ := st_lty hf
      refine pz_pI hE hH fw_X8_43 qk_1  eM8 dX8_readClause_98 (fun H locs hH => ?_)
      refine lv_aload_n hx hb dX8_readClause_101 rfl (lv_at hl 2 rfl) ?_
      obtain ⟨w9, ew9, hf⟩ := st_bd hf
      obtain ⟨r10, M11⟩ := w9
      replace hf := st_u2 hf
      refine q_calli (q_runV (As := []) (rest := []) hE hH (tz_X7_addSort l X hp0 (hf := ew9)) kv_X8_69 (q_vil_0 hp0) (by decide) rfl hl.1 rfl (Nat.le_of_ble_eq_true rfl) dX8_readClause_102) hH (fun H locs hH => ?_)
      refine lv_istore_n (lv' := [(3, .int r10), (2, .int r2), (0, .ref (X.1 3)), (1, .ref (X.1 p0))]) hx hb dX8_readClause_105 rfl hl (by decide) rfl (fun ls hl => ?_)
      refine lv_aload_n hx hb dX8_readClause_106 rfl (lv_at hl 2 rfl) ?_
      refine pz_ldcS 1 hE (by decide) rfl rfl rfl dX8_readClause_107 ?_
      refine pz_gT 4 hE hH (by decide) (q_in _ 629 (by decide +kernel) rfl) dX8_readClause_109 ?_
      refine pz_gT 5 hE hH (by decide) (q_in _ 631 (by decide +kernel) rfl) dX8_readClause_112 ?_
      refine lv_aload_n hx hb dX8_readClause_115 rfl (lv_at hl 3 rfl) ?_
      refine pz_gS (a := p0 + 2) hE hH fr_X8_80 (q_vil_0 hp0) rfl dX8_readClause_116 ?_
      refine lv_iload_n hx hb dX8_readClause_119 rfl (lv_at hl 0 rfl) ?_
      obtain ⟨w12, ew12, hf⟩ := st_bd hf
      obtain ⟨r13, M14⟩ := w12
      replace hf := st_u2 hf
      refine q_calli (q_runV (As := [.ref (X.2.2.2.2.1 1), .ref (X.2.2.2.1 4), .ref (X.2.2.2.1 5), .ref (X.1 (p0 + 2)), .int r10]) (rest := []) hE hH (tz_X8_readItems l X (by decide) (by decide) (by decide) (by decide) (by decide) (q_isal (q_vil_2 hp0)) (hf := ew12)) kv_X8_61 qk_3 (by decide) rfl hl.1 rfl (Nat.le_of_ble_eq_true rfl) dX8_readClause_120) hH (fun H locs hH => ?_)
      refine lv_if_ne (tgt := 128) hx hb dX8_readClause_123 (by decide) (fun hc => ?_) (fun hc => ?_)
      · replace hf := (if_neg hc).symm.trans hf
        refine lv_aload_n hx hb dX8_readClause_128 rfl (lv_at hl 3 rfl) ?_
        obtain ⟨w15, ew15, hf⟩ := st_bd hf
        obtain ⟨r16, M17⟩ := w15
        replace hf := st_u2 hf
        refine q_calli (q_runV (As := []) (rest := []) hE hH (tz_X7_settlePeople l X hp0 (hf := ew15)) kv_X8_83 (q_vil_0 hp0) (by decide) rfl hl.1 rfl (Nat.le_of_ble_eq_true rfl) dX8_readClause_129) hH (fun H locs hH => ?_)
        obtain ⟨w20, hr, hf⟩ := st_ltx hf
        have hJ : qu2 w20 (fun z18 M19 => ∀ (ls : Array Slot) (H : Heap) (locs : List Loc), q_H X M19 s H locs → lv_has ls 4 [] → W p l e (q_rm (7)) s m args below meth c H locs 0 0 (MQ below (q_Qi X (b2i r0) MR) args s 0 0 (q_A X)) (F0 m 157 ls [.int (b2i z18)])) := by
          obtain ⟨z18, M19⟩ := w20
          replace hf := st_u2 hf
          intro ls H locs hH hl
          replace hf := Option.some.inj hf
          obtain ⟨rfl, rfl⟩ := qi2 hf
          exact pz_retz hE hrt hlk hH rfl dX8_readClause_157
        clear hf
        replace hf := hr
        refine lv_if_ne (tgt := 152) hx hb dX8_readClause_132 (by decide) (fun hc => ?_) (fun hc => ?_)
        · replace hf := (if_neg hc).symm.trans hf
          refine lv_iconst (v := 1) hx hb dX8_readClause_152 (by decide) ?_
          refine lv_goto (tgt := 157) hx hb dX8_readClause_153 (by decide) ?_
          subst hf
          exact hJ ls H locs hH (lv_sub hl [] rfl)
        · replace hf := (if_pos hc).symm.trans hf
          refine lv_aload_n hx hb dX8_readClause_135 rfl (lv_at hl 2 rfl) ?_
          refine pz_gS (a := 1) hE hH fr_X8_9 qk_3 (by decide) dX8_readClause_136 ?_
          refine lv_aload_n hx hb dX8_readClause_139 rfl (lv_at hl 2 rfl) ?_
          refine pz_gS (a := 1) hE hH fr_X8_9 qk_3 (by decide) dX8_readClause_140 ?_
          refine pz_gI hE hH fr_X8_43 qk_1 dX8_readClause_143 ?_
          obtain ⟨w21, ew21, hf⟩ := st_lty hf
          obtain ⟨r22, M23⟩ := w21
          replace hf := st_u2 hf
          refine q_calli (q_runV (As := [.int (M17.1 1 2)]) (rest := []) hE hH (tz_X4_fail l X (hf := ew21.symm)) kv_X8_65 qk_1 (by decide) rfl hl.1 rfl (Nat.le_of_ble_eq_true rfl) dX8_readClause_146) hH (fun H locs hH => ?_)
          refine lv_if_eq (tgt := 156) hx hb dX8_readClause_149 (by decide) (fun hc => ?_) (fun hc => ?_)
          · replace hf := (if_pos hc).symm.trans hf
            refine lv_iconst (v := 0) hx hb dX8_readClause_156 (by decide) ?_
            subst hf
            exact hJ ls H locs hH (lv_sub hl [] rfl)
          · replace hf := (if_neg hc).symm.trans hf
            refine lv_iconst (v := 1) hx hb dX8_readClause_152 (by decide) ?_
            refine lv_goto (tgt := 157) hx hb dX8_readClause_153 (by decide) ?_
            subst hf
            exact hJ ls H locs hH (lv_sub hl [] rfl)
      · replace hf := (if_pos hc).symm.trans hf
        refine lv_iconst (v := 0) hx hb dX8_readClause_126 (by decide) ?_
        replace hf := Option.some.inj hf
        obtain ⟨rfl, rfl⟩ := qi2 hf
        exact pz_retz hE hrt hlk hH rfl dX8_readClause_127
    clear hf
    replace hf := hz
    refine lv_icmp_ne (tgt := 73) hx hb dX8_readClause_61 (by decide) (fun hc => ?_) (fun hc => ?_)
    · replace hf := (if_neg hc).symm.trans hf
      exact hT (by rw [← hf]) H locs hH
    · replace hf := (if_pos hc).symm.trans hf
      refine lv_aload_n hx hb dX8_readClause_64 rfl (lv_at hl 2 rfl) ?_
      refine pz_gI hE hH fr_X8_40 (q_vil_0 hp0) dX8_readClause_65 ?_
      refine lv_bipush (v := 6) hx hb dX8_readClause_68 (by decide) ?_
      refine lv_icmp_lt (tgt := 88) hx hb dX8_readClause_70 (by decide) (fun hc => ?_) (fun hc => ?_)
      · replace hf := (if_pos hc).symm.trans hf
        exact hF (by rw [← hf]; decide) H locs hH
      · replace hf := (if_neg hc).symm.trans hf
        exact hT (by rw [← hf]) H locs hH
  · replace hf := (if_pos hc).symm.trans hf
    refine lv_aload_n hx hb dX8_readClause_14 rfl (lv_at hl 2 rfl) ?_
    refine pz_gI hE hH fr_X8_37 (q_vil_0 hp0) dX8_readClause_15 ?_
    refine lv_iconst (v := 4) hx hb dX8_readClause_18 (by decide) ?_
    refine lv_icmp_ge (tgt := 58) hx hb dX8_readClause_19 (by decide) (fun hc => ?_) (fun hc => ?_)
    · replace hf := (if_pos hc).symm.trans hf
      refine lv_iload_n hx hb dX8_readClause_58 rfl (lv_at hl 0 rfl) ?_
      refine lv_bipush (v := 115) hx hb dX8_readClause_59 (by decide) ?_
      obtain ⟨z24, hz, hf⟩ := st_ltx hf
      have hT : z24 = true → ∀ (H : Heap) (locs : List Loc), q_H X M3 s H locs → W p l e (q_rm (7)) s m args below meth c H locs 0 0 (MQ below (q_Qi X (b2i r0) MR) args s 0 0 (q_A X)) (F0 m 73 ls []) := by
        intro hc H locs hH
        replace hf := (if_pos hc).symm.trans hf
        refine lv_aload_n hx hb dX8_readClause_73 rfl (lv_at hl 1 rfl) ?_
        refine pz_gS (a := 1) hE hH fr_X8_9 qk_3 (by decide) dX8_readClause_74 ?_
        refine lv_aload_n hx hb dX8_readClause_77 rfl (lv_at hl 1 rfl) ?_
        refine pz_gS (a := 1) hE hH fr_X8_9 qk_3 (by decide) dX8_readClause_78 ?_
        refine pz_gI hE hH fr_X8_43 qk_1 dX8_readClause_81 ?_
        obtain ⟨w25, ew25, hf⟩ := st_lty hf
        obtain ⟨r26, M27⟩ := w25
        replace hf := st_u2 hf
        refine q_calli (q_runV (As := [.int (M3.1 1 2)]) (rest := []) hE hH (tz_X4_fail l X (hf := ew25.symm)) kv_X8_65 qk_1 (by decide) rfl hl.1 rfl (Nat.le_of_ble_eq_true rfl) dX8_readClause_84) hH (fun H locs hH => ?_)
        replace hf := Option.some.inj hf
        obtain ⟨rfl, rfl⟩ := qi2 hf
        exact pz_retz hE hrt hlk hH rfl dX8_readClause_87
      have hF : ¬ z24 = true → ∀ (H : Heap) (locs : List Loc), q_H X M3 s H locs → W p l e (q_rm (7)) s m args below meth c H locs 0 0 (MQ below (q_Qi X (b2i r0) MR) args s 0 0 (q_A X)) (F0 m 88 ls []) := by
        intro hc H locs hH
        replace hf := (if_neg hc).symm.trans hf
        refine lv_aload_n hx hb dX8_readClause_88 rfl (lv_at hl 1 rfl) ?_
        refine pz_gS (a := 1) hE hH fr_X8_9 qk_3 (by decide) dX8_readClause_89 ?_
        refine lv_dup hx hb dX8_readClause_92 rfl ?_
        refine pz_gI hE hH fr_X8_43 qk_1 dX8_readClause_93 ?_
        refine lv_iconst (v := 1) hx hb dX8_readClause_96 (by decide) ?_
        refine lv_iadd hx hb dX8_readClause_97 ?_
        obtain ⟨M28, eM28, hf⟩ := st_lty hf
        refine pz_pI hE hH fw_X8_43 qk_1  eM28 dX8_readClause_98 (fun H locs hH => ?_)
        refine lv_aload_n hx hb dX8_readClause_101 rfl (lv_at hl 2 rfl) ?_
        obtain ⟨w29, ew29, hf⟩ := st_bd hf
        obtain ⟨r30, M31⟩ := w29
        replace hf := st_u2 hf
        refine q_calli (q_runV (As := []) (rest := []) hE hH (tz_X7_addSort l X hp0 (hf := ew29)) kv_X8_69 (q_vil_0 hp0) (by decide) rfl hl.1 rfl (Nat.le_of_ble_eq_true rfl) dX8_readClause_102) hH (fun H locs hH => ?_)
        refine lv_istore_n (lv' := [(3, .int r30), (2, .int r2), (0, .ref (X.1 3)), (1, .ref (X.1 p0))]) hx hb dX8_readClause_105 rfl hl (by decide) rfl (fun ls hl => ?_)
        refine lv_aload_n hx hb dX8_readClause_106 rfl (lv_at hl 2 rfl) ?_
        refine pz_ldcS 1 hE (by decide) rfl rfl rfl dX8_readClause_107 ?_
        refine pz_gT 4 hE hH (by decide) (q_in _ 629 (by decide +kernel) rfl) dX8_readClause_109 ?_
        refine pz_gT 5 hE hH (by decide) (q_in _ 631 (by decide +kernel) rfl) dX8_readClause_112 ?_
        refine lv_aload_n hx hb dX8_readClause_115 rfl (lv_at hl 3 rfl) ?_
        refine pz_gS (a := p0 + 2) hE hH fr_X8_80 (q_vil_0 hp0) rfl dX8_readClause_116 ?_
        refine lv_iload_n hx hb dX8_readClause_119 rfl (lv_at hl 0 rfl) ?_
        obtain ⟨w32, ew32, hf⟩ := st_bd hf
        obtain ⟨r33, M34⟩ := w32
        replace hf := st_u2 hf
        refine q_calli (q_runV (As := [.ref (X.2.2.2.2.1 1), .ref (X.2.2.2.1 4), .ref (X.2.2.2.1 5), .ref (X.1 (p0 + 2)), .int r30]) (rest := []) hE hH (tz_X8_readItems l X (by decide) (by decide) (by decide) (by decide) (by decide) (q_isal (q_vil_2 hp0)) (hf := ew32)) kv_X8_61 qk_3 (by decide) rfl hl.1 rfl (Nat.le_of_ble_eq_true rfl) dX8_readClause_120) hH (fun H locs hH => ?_)
        refine lv_if_ne (tgt := 128) hx hb dX8_readClause_123 (by decide) (fun hc => ?_) (fun hc => ?_)
        · replace hf := (if_neg hc).symm.trans hf
          refine lv_aload_n hx hb dX8_readClause_128 rfl (lv_at hl 3 rfl) ?_
          obtain ⟨w35, ew35, hf⟩ := st_bd hf
          obtain ⟨r36, M37⟩ := w35
          replace hf := st_u2 hf
          refine q_calli (q_runV (As := []) (rest := []) hE hH (tz_X7_settlePeople l X hp0 (hf := ew35)) kv_X8_83 (q_vil_0 hp0) (by decide) rfl hl.1 rfl (Nat.le_of_ble_eq_true rfl) dX8_readClause_129) hH (fun H locs hH => ?_)
          obtain ⟨w40, hr, hf⟩ := st_ltx hf
          have hJ : qu2 w40 (fun z38 M39 => ∀ (ls : Array Slot) (H : Heap) (locs : List Loc), q_H X M39 s H locs → lv_has ls 4 [] → W p l e (q_rm (7)) s m args below meth c H locs 0 0 (MQ below (q_Qi X (b2i r0) MR) args s 0 0 (q_A X)) (F0 m 157 ls [.int (b2i z38)])) := by
            obtain ⟨z38, M39⟩ := w40
            replace hf := st_u2 hf
            intro ls H locs hH hl
            replace hf := Option.some.inj hf
            obtain ⟨rfl, rfl⟩ := qi2 hf
            exact pz_retz hE hrt hlk hH rfl dX8_readClause_157
          clear hf
          replace hf := hr
          refine lv_if_ne (tgt := 152) hx hb dX8_readClause_132 (by decide) (fun hc => ?_) (fun hc => ?_)
          · replace hf := (if_neg hc).symm.trans hf
            refine lv_iconst (v := 1) hx hb dX8_readClause_152 (by decide) ?_
            refine lv_goto (tgt := 157) hx hb dX8_readClause_153 (by decide) ?_
            subst hf
            exact hJ ls H locs hH (lv_sub hl [] rfl)
          · replace hf := (if_pos hc).symm.trans hf
            refine lv_aload_n hx hb dX8_readClause_135 rfl (lv_at hl 2 rfl) ?_
            refine pz_gS (a := 1) hE hH fr_X8_9 qk_3 (by decide) dX8_readClause_136 ?_
            refine lv_aload_n hx hb dX8_readClause_139 rfl (lv_at hl 2 rfl) ?_
            refine pz_gS (a := 1) hE hH fr_X8_9 qk_3 (by decide) dX8_readClause_140 ?_
            refine pz_gI hE hH fr_X8_43 qk_1 dX8_readClause_143 ?_
            obtain ⟨w41, ew41, hf⟩ := st_lty hf
            obtain ⟨r42, M43⟩ := w41
            replace hf := st_u2 hf
            refine q_calli (q_runV (As := [.int (M37.1 1 2)]) (rest := []) hE hH (tz_X4_fail l X (hf := ew41.symm)) kv_X8_65 qk_1 (by decide) rfl hl.1 rfl (Nat.le_of_ble_eq_true rfl) dX8_readClause_146) hH (fun H locs hH => ?_)
            refine lv_if_eq (tgt := 156) hx hb dX8_readClause_149 (by decide) (fun hc => ?_) (fun hc => ?_)
            · replace hf := (if_pos hc).symm.trans hf
              refine lv_iconst (v := 0) hx hb dX8_readClause_156 (by decide) ?_
              subst hf
              exact hJ ls H locs hH (lv_sub hl [] rfl)
            · replace hf := (if_neg hc).symm.trans hf
              refine lv_iconst (v := 1) hx hb dX8_readClause_152 (by decide) ?_
              refine lv_goto (tgt := 157) hx hb dX8_readClause_153 (by decide) ?_
              subst hf
              exact hJ ls H locs hH (lv_sub hl [] rfl)
        · replace hf := (if_pos hc).symm.trans hf
          refine lv_iconst (v := 0) hx hb dX8_readClause_126 (by decide) ?_
          replace hf := Option.some.inj hf
          obtain ⟨rfl, rfl⟩ := qi2 hf
          exact pz_retz hE hrt hlk hH rfl dX8_readClause_127
      clear hf
      replace hf := hz
      refine lv_icmp_ne (tgt := 73) hx hb dX8_readClause_61 (by decide) (fun hc => ?_) (fun hc => ?_)
      · replace hf := (if_neg hc).symm.trans hf
        exact hT (by rw [← hf]) H locs hH
      · replace hf := (if_pos hc).symm.trans hf
        refine lv_aload_n hx hb dX8_readClause_64 rfl (lv_at hl 2 rfl) ?_
        refine pz_gI hE hH fr_X8_40 (q_vil_0 hp0) dX8_readClause_65 ?_
        refine lv_bipush (v := 6) hx hb dX8_readClause_68 (by decide) ?_
        refine lv_icmp_lt (tgt := 88) hx hb dX8_readClause_70 (by decide) (fun hc => ?_) (fun hc => ?_)
        · replace hf := (if_pos hc).symm.trans hf
          exact hF (by rw [← hf]; decide) H locs hH
        · replace hf := (if_neg hc).symm.trans hf
          exact hT (by rw [← hf]) H locs hH
    · replace hf := (if_neg hc).symm.trans hf
      refine lv_aload_n hx hb dX8_readClause_22 rfl (lv_at hl 1 rfl) ?_
      refine pz_gS (a := 1) hE hH fr_X8_9 qk_3 (by decide) dX8_readClause_23 ?_
      refine lv_dup hx hb dX8_readClause_26 rfl ?_
      refine pz_gI hE hH fr_X8_43 qk_1 dX8_readClause_27 ?_
      refine lv_iconst (v := 1) hx hb dX8_readClause_30 (by decide) ?_
      refine lv_iadd hx hb dX8_readClause_31 ?_
      obtain ⟨M44, eM44, hf⟩ := st_lty hf
      refine pz_pI hE hH fw_X8_43 qk_1  eM44 dX8_readClause_32 (fun H locs hH => ?_)
      refine lv_aload_n hx hb dX8_readClause_35 rfl (lv_at hl 2 rfl) ?_
      obtain ⟨w45, ew45, hf⟩ := st_bd hf
      obtain ⟨r46, M47⟩ := w45
      replace hf := st_u2 hf
      refine q_calli (q_runV (As := []) (rest := []) hE hH (tz_X7_addThing l X hp0 (hf := ew45)) kv_X8_46 (q_vil_0 hp0) (by decide) rfl hl.1 rfl (Nat.le_of_ble_eq_true rfl) dX8_readClause_36) hH (fun H locs hH => ?_)
      refine lv_istore_n (lv' := [(3, .int r46), (2, .int r2), (0, .ref (X.1 3)), (1, .ref (X.1 p0))]) hx hb dX8_readClause_39 rfl hl (by decide) rfl (fun ls hl => ?_)
      refine lv_aload_n hx hb dX8_readClause_40 rfl (lv_at hl 2 rfl) ?_
      refine pz_ldcS 0 hE (by decide) rfl rfl rfl dX8_readClause_41 ?_
      refine pz_gT 2 hE hH (by decide) (q_in _ 507 (by decide +kernel) rfl) dX8_readClause_43 ?_
      refine pz_gT 3 hE hH (by decide) (q_in _ 509 (by decide +kernel) rfl) dX8_readClause_46 ?_
      refine lv_aload_n hx hb dX8_readClause_49 rfl (lv_at hl 3 rfl) ?_
      refine pz_gS (a := p0 + 1) hE hH fr_X8_58 (q_vil_0 hp0) rfl dX8_readClause_50 ?_
      refine lv_iload_n hx hb dX8_readClause_53 rfl (lv_at hl 0 rfl) ?_
      obtain ⟨w48, ew48, hf⟩ := st_bd hf
      obtain ⟨r49, M50⟩ := w48
      replace hf := st_u2 hf
      refine q_calli (q_runV (As := [.ref (X.2.2.2.2.1 0), .ref (X.2.2.2.1 2), .ref (X.2.2.2.1 3), .ref (X.1 (p0 + 1)), .int r46]) (rest := []) hE hH (tz_X8_readItems l X (by decide) (by decide) (by decide) (by decide) (by decide) (q_isal (q_vil_1 hp0)) (hf := ew48)) kv_X8_61 qk_3 (by decide) rfl hl.1 rfl (Nat.le_of_ble_eq_true rfl) dX8_readClause_54) hH (fun H locs hH => ?_)
      replace hf := Option.some.inj hf
      obtain ⟨rfl, rfl⟩ := qi2 hf
      exact pz_retz hE hrt hlk hH rfl dX8_readClause_57

theorem dX8_read_0 : decode cX8_read 0 = .ok (.aload_n 0, 1) := by decide +kernel
theorem dX8_read_1 : decode cX8_read 1 = .ok (.getfield 9, 3) := by decide +kernel
theorem dX8_read_4 : decode cX8_read 4 = .ok (.invokevirtual 15, 3) := by decide +kernel
theorem dX8_read_7 : decode cX8_read 7 = .ok (.aload_n 1, 1) := by decide +kernel
theorem dX8_read_8 : decode cX8_read 8 = .ok (.invokevirtual 20, 3) := by decide +kernel
theorem dX8_read_11 : decode cX8_read 11 = .ok (.iconst 1, 1) := by decide +kernel
theorem dX8_read_12 : decode cX8_read 12 = .ok (.istore_n 2, 1) := by decide +kernel
theorem dX8_read_13 : decode cX8_read 13 = .ok (.iload_n 2, 1) := by decide +kernel
theorem dX8_read_14 : decode cX8_read 14 = .ok (.bipush 10, 2) := by decide +kernel
theorem dX8_read_16 : decode cX8_read 16 = .ok (.if_icmp .gt 97, 3) := by decide +kernel
theorem dX8_read_19 : decode cX8_read 19 = .ok (.aload_n 0, 1) := by decide +kernel
theorem dX8_read_20 : decode cX8_read 20 = .ok (.aload_n 1, 1) := by decide +kernel
theorem dX8_read_21 : decode cX8_read 21 = .ok (.invokevirtual 25, 3) := by decide +kernel
theorem dX8_read_24 : decode cX8_read 24 = .ok (.ifCond .ne 11, 3) := by decide +kernel
theorem dX8_read_27 : decode cX8_read 27 = .ok (.aload_n 0, 1) := by decide +kernel
theorem dX8_read_28 : decode cX8_read 28 = .ok (.getfield 9, 3) := by decide +kernel
theorem dX8_read_31 : decode cX8_read 31 = .ok (.getfield 29, 3) := by decide +kernel
theorem dX8_read_34 : decode cX8_read 34 = .ok (.ireturn, 1) := by decide +kernel
theorem dX8_read_35 : decode cX8_read 35 = .ok (.aload_n 0, 1) := by decide +kernel
theorem dX8_read_36 : decode cX8_read 36 = .ok (.getfield 9, 3) := by decide +kernel
theorem dX8_read_39 : decode cX8_read 39 = .ok (.invokevirtual 33, 3) := by decide +kernel
theorem dX8_read_42 : decode cX8_read 42 = .ok (.istore_n 3, 1) := by decide +kernel
theorem dX8_read_43 : decode cX8_read 43 = .ok (.iload_n 3, 1) := by decide +kernel
theorem dX8_read_44 : decode cX8_read 44 = .ok (.iconst (-1), 1) := by decide +kernel
theorem dX8_read_45 : decode cX8_read 45 = .ok (.if_icmp .ne 29, 3) := by decide +kernel
theorem dX8_read_48 : decode cX8_read 48 = .ok (.aload_n 1, 1) := by decide +kernel
theorem dX8_read_49 : decode cX8_read 49 = .ok (.getfield 37, 3) := by decide +kernel
theorem dX8_read_52 : decode cX8_read 52 = .ok (.ifCond .le 14, 3) := by decide +kernel
theorem dX8_read_55 : decode cX8_read 55 = .ok (.aload_n 1, 1) := by decide +kernel
theorem dX8_read_56 : decode cX8_read 56 = .ok (.getfield 40, 3) := by decide +kernel
theorem dX8_read_59 : decode cX8_read 59 = .ok (.ifCond .le 7, 3) := by decide +kernel
theorem dX8_read_62 : decode cX8_read 62 = .ok (.iconst (-1), 1) := by decide +kernel
theorem dX8_read_63 : decode cX8_read 63 = .ok (.goto 10, 3) := by decide +kernel
theorem dX8_read_66 : decode cX8_read 66 = .ok (.aload_n 0, 1) := by decide +kernel
theorem dX8_read_67 : decode cX8_read 67 = .ok (.getfield 9, 3) := by decide +kernel
theorem dX8_read_70 : decode cX8_read 70 = .ok (.getfield 43, 3) := by decide +kernel
theorem dX8_read_73 : decode cX8_read 73 = .ok (.ireturn, 1) := by decide +kernel
theorem dX8_read_74 : decode cX8_read 74 = .ok (.iload_n 3, 1) := by decide +kernel
theorem dX8_read_75 : decode cX8_read 75 = .ok (.bipush 59, 2) := by decide +kernel
theorem dX8_read_77 : decode cX8_read 77 = .ok (.if_icmp .ne 9, 3) := by decide +kernel
theorem dX8_read_80 : decode cX8_read 80 = .ok (.iload_n 2, 1) := by decide +kernel
theorem dX8_read_81 : decode cX8_read 81 = .ok (.bipush 10, 2) := by decide +kernel
theorem dX8_read_83 : decode cX8_read 83 = .ok (.if_icmp .ne 11, 3) := by decide +kernel
theorem dX8_read_86 : decode cX8_read 86 = .ok (.aload_n 0, 1) := by decide +kernel
theorem dX8_read_87 : decode cX8_read 87 = .ok (.getfield 9, 3) := by decide +kernel
theorem dX8_read_90 : decode cX8_read 90 = .ok (.getfield 43, 3) := by decide +kernel
theorem dX8_read_93 : decode cX8_read 93 = .ok (.ireturn, 1) := by decide +kernel
theorem dX8_read_94 : decode cX8_read 94 = .ok (.aload_n 0, 1) := by decide +kernel
theorem dX8_read_95 : decode cX8_read 95 = .ok (.getfield 9, 3) := by decide +kernel
theorem dX8_read_98 : decode cX8_read 98 = .ok (.dup, 1) := by decide +kernel
theorem dX8_read_99 : decode cX8_read 99 = .ok (.getfield 43, 3) := by decide +kernel
theorem dX8_read_102 : decode cX8_read 102 = .ok (.iconst 1, 1) := by decide +kernel
theorem dX8_read_103 : decode cX8_read 103 = .ok (.iadd, 1) := by decide +kernel
theorem dX8_read_104 : decode cX8_read 104 = .ok (.putfield 43, 3) := by decide +kernel
theorem dX8_read_107 : decode cX8_read 107 = .ok (.iinc 2 1, 3) := by decide +kernel
theorem dX8_read_110 : decode cX8_read 110 = .ok (.goto (-97), 3) := by decide +kernel
theorem dX8_read_113 : decode cX8_read 113 = .ok (.aload_n 0, 1) := by decide +kernel
theorem dX8_read_114 : decode cX8_read 114 = .ok (.getfield 9, 3) := by decide +kernel
theorem dX8_read_117 : decode cX8_read 117 = .ok (.getfield 43, 3) := by decide +kernel
theorem dX8_read_120 : decode cX8_read 120 = .ok (.ireturn, 1) := by decide +kernel
set_option maxRecDepth 100000 in
set_option maxHeartbeats 4000000 in
theorem tz_X8_read (l : Launch) (X : qX) {p0 : Nat} {M MR : qM} {r0 : Int32} (hp0 : q_vil p0 = true) (hf : jVr_read p0 M = some (r0, MR)) : q_Met l X yX8_read cX8_read 4 (some .int) (8) M [.ref (X.1 3), .ref (X.1 p0)] (q_Qi X r0 MR) := by
  refine q_enter (by decide) (Nat.le_of_ble_eq_true rfl) ?_
  intro p e s m args below meth c hE hrt hlk H locs hH ls hl
  have hx := hE.1
  have hb := hE.2.1
  have hl : lv_has ls 4 [(0, .ref (X.1 3)), (1, .ref (X.1 p0))] := hl
  unfold jVr_read at hf
  refine lv_aload_n hx hb dX8_read_0 rfl (lv_at hl 0 rfl) ?_
  refine pz_gS (a := 1) hE hH fr_X8_9 qk_3 (by decide) dX8_read_1 ?_
  obtain ⟨M1, eM1, hf⟩ := st_lty hf
  refine q_callv (q_runV (As := []) (rest := []) hE hH (tz_X4_rewind l X (hf := eM1.symm)) kv_X8_15 qk_1 (by decide) rfl hl.1 rfl (Nat.le_of_ble_eq_true rfl) dX8_read_4) hH (fun H locs hH => ?_)
  refine lv_aload_n hx hb dX8_read_7 rfl (lv_at hl 1 rfl) ?_
  obtain ⟨M2, eM2, hf⟩ := st_lty hf
  refine q_callv (q_runV (As := []) (rest := []) hE hH (tz_X7_clear l X hp0 (hf := eM2.symm)) kv_X8_20 (q_vil_0 hp0) (by decide) rfl hl.1 rfl (Nat.le_of_ble_eq_true rfl) dX8_read_8) hH (fun H locs hH => ?_)
  refine lv_iconst (v := 1) hx hb dX8_read_11 (by decide) ?_
  refine lv_istore_n (lv' := [(2, .int 1), (0, .ref (X.1 3)), (1, .ref (X.1 p0))]) hx hb dX8_read_12 rfl hl (by decide) rfl (fun ls hl => ?_)
  obtain ⟨r9, hlp, hf⟩ := st_bd hf
  have hX : (fun q0a => qse q0a (fun M5 => ∀ (ls : Array Slot) (H : Heap) (locs : List Loc), q_H X M5 s H locs → lv_has ls 4 [(0, .ref (X.1 3))] → W p l e (q_rm (8)) s m args below meth c H locs 0 0 (MQ below (q_Qi X r0 MR) args s 0 0 (q_A X)) (F0 m 27 ls [])) (fun q1a => qse q1a (fun M6 => ∀ (ls : Array Slot) (H : Heap) (locs : List Loc), q_H X M6 s H locs → lv_has ls 4 [(0, .ref (X.1 3)), (1, .ref (X.1 p0))] → W p l e (q_rm (8)) s m args below meth c H locs 0 0 (MQ below (q_Qi X r0 MR) args s 0 0 (q_A X)) (F0 m 48 ls [])) (fun q2a => qse q2a (fun M7 => ∀ (ls : Array Slot) (H : Heap) (locs : List Loc), q_H X M7 s H locs → lv_has ls 4 [(0, .ref (X.1 3))] → W p l e (q_rm (8)) s m args below meth c H locs 0 0 (MQ below (q_Qi X r0 MR) args s 0 0 (q_A X)) (F0 m 86 ls [])) (fun M8 => ∀ (ls : Array Slot) (H : Heap) (locs : List Loc), q_H X M8 s H locs → lv_has ls 4 [(0, .ref (X.1 3))] → W p l e (q_rm (8)) s m args below meth c H locs 0 0 (MQ below (q_Qi X r0 MR) args s 0 0 (q_A X)) (F0 m 113 ls [])))) : (qM ⊕ (qM ⊕ (qM ⊕ qM))) → Prop) r9 := by
    rcases r9 with M5 | r9
    · replace hf := st_seL hf
      intro ls H locs hH hl
      refine lv_aload_n hx hb dX8_read_27 rfl (lv_at hl 0 rfl) ?_
      refine pz_gS (a := 1) hE hH fr_X8_9 qk_3 (by decide) dX8_read_28 ?_
      refine pz_gI hE hH fr_X8_29 qk_1 dX8_read_31 ?_
      replace hf := Option.some.inj hf
      obtain ⟨rfl, rfl⟩ := qi2 hf
      exact pz_reti hE hrt hlk hH dX8_read_34
    · replace hf := st_seR hf
      rcases r9 with M6 | r9
      · replace hf := st_seL hf
        intro ls H locs hH hl
        refine lv_aload_n hx hb dX8_read_48 rfl (lv_at hl 1 rfl) ?_
        refine pz_gI hE hH fr_X8_37 (q_vil_0 hp0) dX8_read_49 ?_
        obtain ⟨x10, hr, hf⟩ := st_ltx hf
        have hJ : ∀ (ls : Array Slot) (H : Heap) (locs : List Loc), q_H X M6 s H locs → lv_has ls 4 [] → W p l e (q_rm (8)) s m args below meth c H locs 0 0 (MQ below (q_Qi X r0 MR) args s 0 0 (q_A X)) (F0 m 73 ls [.int x10]) := by
          intro ls H locs hH hl
          replace hf := Option.some.inj hf
          obtain ⟨rfl, rfl⟩ := qi2 hf
          exact pz_reti hE hrt hlk hH dX8_read_73
        clear hf
        replace hf := hr
        refine lv_if_le (tgt := 66) hx hb dX8_read_52 (by decide) (fun hc => ?_) (fun hc => ?_)
        · replace hf := (if_pos hc).symm.trans hf
          refine lv_aload_n hx hb dX8_read_66 rfl (lv_at hl 0 rfl) ?_
          refine pz_gS (a := 1) hE hH fr_X8_9 qk_3 (by decide) dX8_read_67 ?_
          refine pz_gI hE hH fr_X8_43 qk_1 dX8_read_70 ?_
          subst hf
          exact hJ ls H locs hH (lv_sub hl [] rfl)
        · replace hf := (if_neg hc).symm.trans hf
          refine lv_aload_n hx hb dX8_read_55 rfl (lv_at hl 1 rfl) ?_
          refine pz_gI hE hH fr_X8_40 (q_vil_0 hp0) dX8_read_56 ?_
          refine lv_if_le (tgt := 66) hx hb dX8_read_59 (by decide) (fun hc => ?_) (fun hc => ?_)
          · replace hf := (if_pos hc).symm.trans hf
            refine lv_aload_n hx hb dX8_read_66 rfl (lv_at hl 0 rfl) ?_
            refine pz_gS (a := 1) hE hH fr_X8_9 qk_3 (by decide) dX8_read_67 ?_
            refine pz_gI hE hH fr_X8_43 qk_1 dX8_read_70 ?_
            subst hf
            exact hJ ls H locs hH (lv_sub hl [] rfl)
          · replace hf := (if_neg hc).symm.trans hf
            refine lv_iconst (v := (-1)) hx hb dX8_read_62 (by decide) ?_
            refine lv_goto (tgt := 73) hx hb dX8_read_63 (by decide) ?_
            subst hf
            exact hJ ls H locs hH (lv_sub hl [] rfl)
      · replace hf := st_seR hf
        rcases r9 with M7 | M8
        · replace hf := st_seL hf
          intro ls H locs hH hl
          refine lv_aload_n hx hb dX8_read_86 rfl (lv_at hl 0 rfl) ?_
          refine pz_gS (a := 1) hE hH fr_X8_9 qk_3 (by decide) dX8_read_87 ?_
          refine pz_gI hE hH fr_X8_43 qk_1 dX8_read_90 ?_
          replace hf := Option.some.inj hf
          obtain ⟨rfl, rfl⟩ := qi2 hf
          exact pz_reti hE hrt hlk hH dX8_read_93
        · replace hf := st_seR hf
          intro ls H locs hH hl
          refine lv_aload_n hx hb dX8_read_113 rfl (lv_at hl 0 rfl) ?_
          refine pz_gS (a := 1) hE hH fr_X8_9 qk_3 (by decide) dX8_read_114 ?_
          refine pz_gI hE hH fr_X8_43 qk_1 dX8_read_117 ?_
          replace hf := Option.some.inj hf
          obtain ⟨rfl, rfl⟩ := qi2 hf
          exact pz_reti hE hrt hlk hH dX8_read_120
  clear hf
  have hG := qlp_ind (r := r9) (fun q => qu2 q (fun x3 M4 => ∀ (ls : Array Slot) (H : Heap) (locs : List Loc), q_H X M4 s H locs → lv_has ls 4 [(0, .ref (X.1 3)), (1, .ref (X.1 p0)), (2, .int x3)] → W p l e (q_rm (8)) s m args below meth c H locs 0 0 (MQ below (q_Qi X r0 MR) args s 0 0 (q_A X)) (F0 m 13 ls []))) (by
      intro q o hf hK1 hK2
      obtain ⟨x3, M4⟩ := q
      replace hf := st_u2 hf
      intro ls H locs hH hl
      refine lv_iload_n hx hb dX8_read_13 rfl (lv_at hl 2 rfl) ?_
      refine lv_bipush (v := 10) hx hb dX8_read_14 (by decide) ?_
      refine lv_icmp_gt (tgt := 113) hx hb dX8_read_16 (by decide) (fun hc => ?_) (fun hc => ?_)
      · replace hf := (if_pos hc).symm.trans hf
        replace hf := hK2 _ (Option.some.inj hf).symm
        subst hf
        exact hX ls H locs hH (lv_sub hl [0] rfl)
      · replace hf := (if_neg hc).symm.trans hf
        refine lv_aload_n hx hb dX8_read_19 rfl (lv_at hl 0 rfl) ?_
        refine lv_aload_n hx hb dX8_read_20 rfl (lv_at hl 1 rfl) ?_
        obtain ⟨w11, ew11, hf⟩ := st_bd hf
        obtain ⟨r12, M13⟩ := w11
        replace hf := st_u2 hf
        refine q_calli (q_runV (As := [.ref (X.1 p0)]) (rest := []) hE hH (tz_X8_readClause l X hp0 (hf := ew11)) kv_X8_25 qk_3 (by decide) rfl hl.1 rfl (Nat.le_of_ble_eq_true rfl) dX8_read_21) hH (fun H locs hH => ?_)
        refine lv_if_ne (tgt := 35) hx hb dX8_read_24 (by decide) (fun hc => ?_) (fun hc => ?_)
        · replace hf := (if_neg hc).symm.trans hf
          refine lv_aload_n hx hb dX8_read_35 rfl (lv_at hl 0 rfl) ?_
          refine pz_gS (a := 1) hE hH fr_X8_9 qk_3 (by decide) dX8_read_36 ?_
          obtain ⟨w14, ew14, hf⟩ := st_bd hf
          obtain ⟨r15, M16⟩ := w14
          replace hf := st_u2 hf
          refine q_calli (q_runV (As := []) (rest := []) hE hH (tz_X4_peek l X (hf := ew14)) kv_X8_33 qk_1 (by decide) rfl hl.1 rfl (Nat.le_of_ble_eq_true rfl) dX8_read_39) hH (fun H locs hH => ?_)
          refine lv_istore_n (lv' := [(3, .int r15), (0, .ref (X.1 3)), (1, .ref (X.1 p0)), (2, .int x3)]) hx hb dX8_read_42 rfl hl (by decide) rfl (fun ls hl => ?_)
          refine lv_iload_n hx hb dX8_read_43 rfl (lv_at hl 0 rfl) ?_
          refine lv_iconst (v := (-1)) hx hb dX8_read_44 (by decide) ?_
          refine lv_icmp_ne (tgt := 74) hx hb dX8_read_45 (by decide) (fun hc => ?_) (fun hc => ?_)
          · replace hf := (if_neg hc).symm.trans hf
            refine lv_iload_n hx hb dX8_read_74 rfl (lv_at hl 0 rfl) ?_
            refine lv_bipush (v := 59) hx hb dX8_read_75 (by decide) ?_
            refine lv_icmp_ne (tgt := 86) hx hb dX8_read_77 (by decide) (fun hc => ?_) (fun hc => ?_)
            · replace hf := (if_neg hc).symm.trans hf
              replace hf := hK2 _ (Option.some.inj hf).symm
              subst hf
              exact hX ls H locs hH (lv_sub hl [1] rfl)
            · replace hf := (if_pos hc).symm.trans hf
              refine lv_iload_n hx hb dX8_read_80 rfl (lv_at hl 3 rfl) ?_
              refine lv_bipush (v := 10) hx hb dX8_read_81 (by decide) ?_
              refine lv_icmp_ne (tgt := 94) hx hb dX8_read_83 (by decide) (fun hc => ?_) (fun hc => ?_)
              · replace hf := (if_neg hc).symm.trans hf
                refine lv_aload_n hx hb dX8_read_94 rfl (lv_at hl 1 rfl) ?_
                refine pz_gS (a := 1) hE hH fr_X8_9 qk_3 (by decide) dX8_read_95 ?_
                refine lv_dup hx hb dX8_read_98 rfl ?_
                refine pz_gI hE hH fr_X8_43 qk_1 dX8_read_99 ?_
                refine lv_iconst (v := 1) hx hb dX8_read_102 (by decide) ?_
                refine lv_iadd hx hb dX8_read_103 ?_
                obtain ⟨M17, eM17, hf⟩ := st_lty hf
                refine pz_pI hE hH fw_X8_43 qk_1  eM17 dX8_read_104 (fun H locs hH => ?_)
                obtain ⟨x18, ex18, hf⟩ := st_lty hf
                refine lv_iinc (v := x18) (lv' := [(2, .int x18), (3, .int r15), (0, .ref (X.1 3)), (1, .ref (X.1 p0))]) hx hb dX8_read_107 hl (k := 3) rfl (by rw [ex18]; rfl) (by decide) rfl (fun ls hl => ?_)
                refine lv_goto (tgt := 13) hx hb dX8_read_110 (by decide) ?_
                exact hK1 _ (Option.some.inj hf).symm ls H locs hH (lv_sub hl [2, 3, 0] rfl)
              · replace hf := (if_pos hc).symm.trans hf
                replace hf := hK2 _ (Option.some.inj hf).symm
                subst hf
                exact hX ls H locs hH (lv_sub hl [1] rfl)
          · replace hf := (if_pos hc).symm.trans hf
            replace hf := hK2 _ (Option.some.inj hf).symm
            subst hf
            exact hX ls H locs hH (lv_sub hl [1, 2] rfl)
        · replace hf := (if_pos hc).symm.trans hf
          replace hf := hK2 _ (Option.some.inj hf).symm
          subst hf
          exact hX ls H locs hH (lv_sub hl [0] rfl)) _ hlp
  exact hG ls H locs hH (lv_sub hl [1, 2, 0] rfl)

