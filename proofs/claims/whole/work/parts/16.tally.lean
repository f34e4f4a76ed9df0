theorem dX3_takeAfter_0 : decode cX3_takeAfter 0 = .ok (.aload_n 0, 1) := by decide +kernel
theorem dX3_takeAfter_1 : decode cX3_takeAfter 1 = .ok (.getfield 12, 3) := by decide +kernel
theorem dX3_takeAfter_4 : decode cX3_takeAfter 4 = .ok (.aload_n 1, 1) := by decide +kernel
theorem dX3_takeAfter_5 : decode cX3_takeAfter 5 = .ok (.getfield 42, 3) := by decide +kernel
theorem dX3_takeAfter_8 : decode cX3_takeAfter 8 = .ok (.aload_n 1, 1) := by decide +kernel
theorem dX3_takeAfter_9 : decode cX3_takeAfter 9 = .ok (.getfield 46, 3) := by decide +kernel
theorem dX3_takeAfter_12 : decode cX3_takeAfter 12 = .ok (.aload_n 1, 1) := by decide +kernel
theorem dX3_takeAfter_13 : decode cX3_takeAfter 13 = .ok (.getfield 49, 3) := by decide +kernel
theorem dX3_takeAfter_16 : decode cX3_takeAfter 16 = .ok (.invokevirtual 52, 3) := by decide +kernel
theorem dX3_takeAfter_19 : decode cX3_takeAfter 19 = .ok (.return_, 1) := by decide +kernel
set_option maxRecDepth 100000 in
set_option maxHeartbeats 4000000 in
theorem tz_X3_takeAfter (l : Launch) (X : qX) {p0 : Nat} {M MR : qM} (hp0 : q_mor p0 = true) (hf : jTa_takeAfter p0 M = some MR) : q_Met l X yX3_takeAfter cX3_takeAfter 2 none (3) M [.ref (X.1 41), .ref (X.1 p0)] (q_Qv X MR) := by
  refine q_enter (by decide) (Nat.le_of_ble_eq_true rfl) ?_
  intro p e s m args below meth c hE hrt hlk H locs hH ls hl
  have hx := hE.1
  have hb := hE.2.1
  have hl : lv_has ls 2 [(0, .ref (X.1 41)), (1, .ref (X.1 p0))] := hl
  unfold jTa_takeAfter at hf
  refine lv_aload_n hx hb dX3_takeAfter_0 rfl (lv_at hl 0 rfl) ?_
  refine pz_gS (a := 42) hE hH fr_X3_12 qk_41 (by decide) dX3_takeAfter_1 ?_
  refine lv_aload_n hx hb dX3_takeAfter_4 rfl (lv_at hl 1 rfl) ?_
  obtain ⟨a1, ea1, hf⟩ := st_bd hf
  refine pz_gR hE hH fr_X3_42 (q_mor_0 hp0) ea1 dX3_takeAfter_5 (fun ha1 => ?_)
  replace ha1 : q_vil a1 = true := ha1
  refine lv_aload_n hx hb dX3_takeAfter_8 rfl (lv_at hl 1 rfl) ?_
  refine pz_gI hE hH fr_X3_46 (q_mor_0 hp0) dX3_takeAfter_9 ?_
  refine lv_aload_n hx hb dX3_takeAfter_12 rfl (lv_at hl 1 rfl) ?_
  refine pz_gI hE hH fr_X3_49 (q_mor_0 hp0) dX3_takeAfter_13 ?_
  obtain ⟨M2, eM2, hf⟩ := st_bd hf
  refine q_callv (q_runV (As := [.ref (X.1 a1), .int (M.1 p0 1), .int (M.1 p0 2)]) (rest := []) hE hH (tz_X1_beOf l X (by decide) ha1 (hf := eM2)) kv_X3_52 qk_42 (by decide) rfl hl.1 rfl (Nat.le_of_ble_eq_true rfl) dX3_takeAfter_16) hH (fun H locs hH => ?_)
  replace hf := Option.some.inj hf
  subst hf
  exact pz_retv hE hrt hlk hH dX3_takeAfter_19

theorem dX3_note_0 : decode cX3_note 0 = .ok (.iconst 0, 1) := by decide +kernel
theorem dX3_note_1 : decode cX3_note 1 = .ok (.istore_n 2, 1) := by decide +kernel
theorem dX3_note_2 : decode cX3_note 2 = .ok (.iconst 0, 1) := by decide +kernel
theorem dX3_note_3 : decode cX3_note 3 = .ok (.istore_n 3, 1) := by decide +kernel
theorem dX3_note_4 : decode cX3_note 4 = .ok (.iload_n 3, 1) := by decide +kernel
theorem dX3_note_5 : decode cX3_note 5 = .ok (.aload_n 0, 1) := by decide +kernel
theorem dX3_note_6 : decode cX3_note 6 = .ok (.getfield 12, 3) := by decide +kernel
theorem dX3_note_9 : decode cX3_note 9 = .ok (.getfield 42, 3) := by decide +kernel
theorem dX3_note_12 : decode cX3_note 12 = .ok (.getfield 80, 3) := by decide +kernel
theorem dX3_note_15 : decode cX3_note 15 = .ok (.if_icmp .ge 75, 3) := by decide +kernel
theorem dX3_note_18 : decode cX3_note 18 = .ok (.aload_n 0, 1) := by decide +kernel
theorem dX3_note_19 : decode cX3_note 19 = .ok (.getfield 18, 3) := by decide +kernel
theorem dX3_note_22 : decode cX3_note 22 = .ok (.iload_n 3, 1) := by decide +kernel
theorem dX3_note_23 : decode cX3_note 23 = .ok (.dup2, 1) := by decide +kernel
theorem dX3_note_24 : decode cX3_note 24 = .ok (.iaload, 1) := by decide +kernel
theorem dX3_note_25 : decode cX3_note 25 = .ok (.aload_n 0, 1) := by decide +kernel
theorem dX3_note_26 : decode cX3_note 26 = .ok (.getfield 12, 3) := by decide +kernel
theorem dX3_note_29 : decode cX3_note 29 = .ok (.iload_n 3, 1) := by decide +kernel
theorem dX3_note_30 : decode cX3_note 30 = .ok (.invokevirtual 85, 3) := by decide +kernel
theorem dX3_note_33 : decode cX3_note 33 = .ok (.iadd, 1) := by decide +kernel
theorem dX3_note_34 : decode cX3_note 34 = .ok (.iastore, 1) := by decide +kernel
theorem dX3_note_35 : decode cX3_note 35 = .ok (.iload_n 2, 1) := by decide +kernel
theorem dX3_note_36 : decode cX3_note 36 = .ok (.aload_n 0, 1) := by decide +kernel
theorem dX3_note_37 : decode cX3_note 37 = .ok (.getfield 12, 3) := by decide +kernel
theorem dX3_note_40 : decode cX3_note 40 = .ok (.iload_n 3, 1) := by decide +kernel
theorem dX3_note_41 : decode cX3_note 41 = .ok (.invokevirtual 89, 3) := by decide +kernel
theorem dX3_note_44 : decode cX3_note 44 = .ok (.ifCond .eq 9, 3) := by decide +kernel
theorem dX3_note_47 : decode cX3_note 47 = .ok (.iconst 1, 1) := by decide +kernel
theorem dX3_note_48 : decode cX3_note 48 = .ok (.iload_n 3, 1) := by decide +kernel
theorem dX3_note_49 : decode cX3_note 49 = .ok (.ishl, 1) := by decide +kernel
theorem dX3_note_50 : decode cX3_note 50 = .ok (.goto 4, 3) := by decide +kernel
theorem dX3_note_53 : decode cX3_note 53 = .ok (.iconst 0, 1) := by decide +kernel
theorem dX3_note_54 : decode cX3_note 54 = .ok (.ior, 1) := by decide +kernel
theorem dX3_note_55 : decode cX3_note 55 = .ok (.istore_n 2, 1) := by decide +kernel
theorem dX3_note_56 : decode cX3_note 56 = .ok (.aload_n 0, 1) := by decide +kernel
theorem dX3_note_57 : decode cX3_note 57 = .ok (.aload_n 0, 1) := by decide +kernel
theorem dX3_note_58 : decode cX3_note 58 = .ok (.getfield 32, 3) := by decide +kernel
theorem dX3_note_61 : decode cX3_note 61 = .ok (.ifCond .eq 19, 3) := by decide +kernel
theorem dX3_note_64 : decode cX3_note 64 = .ok (.aload_n 0, 1) := by decide +kernel
theorem dX3_note_65 : decode cX3_note 65 = .ok (.getfield 12, 3) := by decide +kernel
theorem dX3_note_68 : decode cX3_note 68 = .ok (.getfield 93, 3) := by decide +kernel
theorem dX3_note_71 : decode cX3_note 71 = .ok (.iload_n 3, 1) := by decide +kernel
theorem dX3_note_72 : decode cX3_note 72 = .ok (.iaload, 1) := by decide +kernel
theorem dX3_note_73 : decode cX3_note 73 = .ok (.ifCond .ne 7, 3) := by decide +kernel
theorem dX3_note_76 : decode cX3_note 76 = .ok (.iconst 1, 1) := by decide +kernel
theorem dX3_note_77 : decode cX3_note 77 = .ok (.goto 4, 3) := by decide +kernel
theorem dX3_note_80 : decode cX3_note 80 = .ok (.iconst 0, 1) := by decide +kernel
theorem dX3_note_81 : decode cX3_note 81 = .ok (.putfield 32, 3) := by decide +kernel
theorem dX3_note_84 : decode cX3_note 84 = .ok (.iinc 3 1, 3) := by decide +kernel
theorem dX3_note_87 : decode cX3_note 87 = .ok (.goto (-83), 3) := by decide +kernel
theorem dX3_note_90 : decode cX3_note 90 = .ok (.aload_n 0, 1) := by decide +kernel
theorem dX3_note_91 : decode cX3_note 91 = .ok (.getfield 22, 3) := by decide +kernel
theorem dX3_note_94 : decode cX3_note 94 = .ok (.iload_n 1, 1) := by decide +kernel
theorem dX3_note_95 : decode cX3_note 95 = .ok (.iload_n 2, 1) := by decide +kernel
theorem dX3_note_96 : decode cX3_note 96 = .ok (.iastore, 1) := by decide +kernel
theorem dX3_note_97 : decode cX3_note 97 = .ok (.aload_n 0, 1) := by decide +kernel
theorem dX3_note_98 : decode cX3_note 98 = .ok (.getfield 25, 3) := by decide +kernel
theorem dX3_note_101 : decode cX3_note 101 = .ok (.iload_n 1, 1) := by decide +kernel
theorem dX3_note_102 : decode cX3_note 102 = .ok (.aload_n 0, 1) := by decide +kernel
theorem dX3_note_103 : decode cX3_note 103 = .ok (.getfield 12, 3) := by decide +kernel
theorem dX3_note_106 : decode cX3_note 106 = .ok (.getfield 96, 3) := by decide +kernel
theorem dX3_note_109 : decode cX3_note 109 = .ok (.iastore, 1) := by decide +kernel
theorem dX3_note_110 : decode cX3_note 110 = .ok (.return_, 1) := by decide +kernel
set_option maxRecDepth 100000 in
set_option maxHeartbeats 4000000 in
theorem tz_X3_note (l : Launch) (X : qX) {p0 : Int32} {M MR : qM} (hf : jTa_note p0 M = some MR) : q_Met l X yX3_note cX3_note 4 none (5) M [.ref (X.1 41), .int p0] (q_Qv X MR) := by
  refine q_enter (by decide) (Nat.le_of_ble_eq_true rfl) ?_
  intro p e s m args below meth c hE hrt hlk H locs hH ls hl
  have hx := hE.1
  have hb := hE.2.1
  have hl : lv_has ls 4 [(0, .ref (X.1 41)), (1, .int p0)] := hl
  unfold jTa_note at hf
  refine lv_iconst (v := 0) hx hb dX3_note_0 (by decide) ?_
  refine lv_istore_n (lv' := [(2, .int 0), (0, .ref (X.1 41)), (1, .int p0)]) hx hb dX3_note_1 rfl hl (by decide) rfl (fun ls hl => ?_)
  refine lv_iconst (v := 0) hx hb dX3_note_2 (by decide) ?_
  refine lv_istore_n (lv' := [(3, .int 0), (2, .int 0), (0, .ref (X.1 41)), (1, .int p0)]) hx hb dX3_note_3 rfl hl (by decide) rfl (fun ls hl => ?_)
  obtain ⟨r6, hlp, hf⟩ := st_bd hf
  have hX : (fun q0 => qu2 q0 (fun x4 M5 => ∀ (ls : Array Slot) (H : Heap) (locs : List Loc), q_H X M5 s H locs → lv_has ls 4 [(0, .ref (X.1 41)), (1, .int p0), (2, .int x4)] → W p l e (q_rm (5)) s m args below meth c H locs 0 0 (MQ below (q_Qv X MR) args s 0 0 (q_A X)) (F0 m 90 ls [])) : (Int32 × qM) → Prop) r6 := by
    obtain ⟨x4, M5⟩ := r6
    replace hf := st_u2 hf
    intro ls H locs hH hl
    refine lv_aload_n hx hb dX3_note_90 rfl (lv_at hl 0 rfl) ?_
    refine pz_gS (a := 47) hE hH fr_X3_22 qk_41 (by decide) dX3_note_91 ?_
    refine lv_iload_n hx hb dX3_note_94 rfl (lv_at hl 1 rfl) ?_
    refine lv_iload_n hx hb dX3_note_95 rfl (lv_at hl 2 rfl) ?_
    obtain ⟨M7, eM7, hf⟩ := st_bd hf
    refine pz_iast hE hH qk_47 eM7 dX3_note_96 (fun H locs hH => ?_)
    refine lv_aload_n hx hb dX3_note_97 rfl (lv_at hl 0 rfl) ?_
    refine pz_gS (a := 48) hE hH fr_X3_25 qk_41 (by decide) dX3_note_98 ?_
    refine lv_iload_n hx hb dX3_note_101 rfl (lv_at hl 1 rfl) ?_
    refine lv_aload_n hx hb dX3_note_102 rfl (lv_at hl 0 rfl) ?_
    refine pz_gS (a := 42) hE hH fr_X3_12 qk_41 (by decide) dX3_note_103 ?_
    refine pz_gI hE hH fr_X3_96 qk_42 dX3_note_106 ?_
    obtain ⟨M8, eM8, hf⟩ := st_bd hf
    refine pz_iast hE hH qk_48 eM8 dX3_note_109 (fun H locs hH => ?_)
    replace hf := Option.some.inj hf
    subst hf
    exact pz_retv hE hrt hlk hH dX3_note_110
  clear hf
  have hG := qlp_ind (r := r6) (fun q => qu3 q (fun x1 x2 M3 => ∀ (ls : Array Slot) (H : Heap) (locs : List Loc), q_H X M3 s H locs → lv_has ls 4 [(0, .ref (X.1 41)), (1, .int p0), (2, .int x1), (3, .int x2)] → W p l e (q_rm (5)) s m args below meth c H locs 0 0 (MQ below (q_Qv X MR) args s 0 0 (q_A X)) (F0 m 4 ls []))) (by
      intro q o hf hK1 hK2
      obtain ⟨x1, x2, M3⟩ := q
      replace hf := st_u3 hf
      intro ls H locs hH hl
      refine lv_iload_n hx hb dX3_note_4 rfl (lv_at hl 3 rfl) ?_
      refine lv_aload_n hx hb dX3_note_5 rfl (lv_at hl 0 rfl) ?_
      refine pz_gS (a := 42) hE hH fr_X3_12 qk_41 (by decide) dX3_note_6 ?_
      obtain ⟨a9, ea9, hf⟩ := st_bd hf
      refine pz_gR hE hH fr_X3_42 qk_42 ea9 dX3_note_9 (fun ha9 => ?_)
      replace ha9 : q_vil a9 = true := ha9
      refine pz_gI hE hH fr_X3_80 (q_vil_0 ha9) dX3_note_12 ?_
      refine lv_icmp_ge (tgt := 90) hx hb dX3_note_15 (by decide) (fun hc => ?_) (fun hc => ?_)
      · replace hf := (if_pos hc).symm.trans hf
        replace hf := hK2 _ (Option.some.inj hf).symm
        subst hf
        exact hX ls H locs hH (lv_sub hl [0, 1, 2] rfl)
      · replace hf := (if_neg hc).symm.trans hf
        refine lv_aload_n hx hb dX3_note_18 rfl (lv_at hl 0 rfl) ?_
        refine pz_gS (a := 46) hE hH fr_X3_18 qk_41 (by decide) dX3_note_19 ?_
        refine lv_iload_n hx hb dX3_note_22 rfl (lv_at hl 3 rfl) ?_
        refine lv_dup2_11 hx hb dX3_note_23 rfl rfl ?_
        obtain ⟨v10, ev10, hf⟩ := st_bd hf
        refine pz_iald hE hH qk_46 ev10 dX3_note_24 ?_
        refine lv_aload_n hx hb dX3_note_25 rfl (lv_at hl 0 rfl) ?_
        refine pz_gS (a := 42) hE hH fr_X3_12 qk_41 (by decide) dX3_note_26 ?_
        refine lv_iload_n hx hb dX3_note_29 rfl (lv_at hl 3 rfl) ?_
        obtain ⟨r11, er11, hf⟩ := st_bd hf
        refine q_calli (q_runV (As := [.int x2]) (rest := [.int v10, .int x2, .ref (X.1 46)]) hE hH (tz_X1_gainOf l X (by decide) (hf := er11)) kv_X3_85 qk_42 (by decide) rfl hl.1 rfl (Nat.le_of_ble_eq_true rfl) dX3_note_30) hH (fun H locs hH => ?_)
        refine lv_iadd hx hb dX3_note_33 ?_
        obtain ⟨M12, eM12, hf⟩ := st_bd hf
        refine pz_iast hE hH qk_46 eM12 dX3_note_34 (fun H locs hH => ?_)
        refine lv_iload_n hx hb dX3_note_35 rfl (lv_at hl 2 rfl) ?_
        refine lv_aload_n hx hb dX3_note_36 rfl (lv_at hl 0 rfl) ?_
        refine pz_gS (a := 42) hE hH fr_X3_12 qk_41 (by decide) dX3_note_37 ?_
        refine lv_iload_n hx hb dX3_note_40 rfl (lv_at hl 3 rfl) ?_
        obtain ⟨r13, er13, hf⟩ := st_bd hf
        refine q_calli (q_runV (As := [.int x2]) (rest := [.int x1]) hE hH (tz_X1_has l X (by decide) (hf := er13)) kv_X3_89 qk_42 (by decide) rfl hl.1 rfl (Nat.le_of_ble_eq_true rfl) dX3_note_41) hH (fun H locs hH => ?_)
        obtain ⟨x14, hr, hf⟩ := st_ltx hf
        have hJ : ∀ (ls : Array Slot) (H : Heap) (locs : List Loc), q_H X M12 s H locs → lv_has ls 4 [(0, .ref (X.1 41)), (1, .int p0), (3, .int x2)] → W p l e (q_rm (5)) s m args below meth c H locs 0 0 (MQ below (q_Qv X MR) args s 0 0 (q_A X)) (F0 m 54 ls [.int x14, .int x1]) := by
          intro ls H locs hH hl
          refine lv_ior hx hb dX3_note_54 ?_
          refine lv_topi (fun x15 ex15 => ?_)
          replace hf := st_lt hf ex15
          refine lv_istore_n (lv' := [(2, .int x15), (0, .ref (X.1 41)), (1, .int p0), (3, .int x2)]) hx hb dX3_note_55 rfl hl (by decide) rfl (fun ls hl => ?_)
          refine lv_aload_n hx hb dX3_note_56 rfl (lv_at hl 1 rfl) ?_
          refine lv_aload_n hx hb dX3_note_57 rfl (lv_at hl 1 rfl) ?_
          refine pz_gI hE hH fr_X3_32 qk_41 dX3_note_58 ?_
          obtain ⟨z16, hr, hf⟩ := st_bd hf
          have hJ : ∀ (ls : Array Slot) (H : Heap) (locs : List Loc), q_H X M12 s H locs → lv_has ls 4 [(0, .ref (X.1 41)), (1, .int p0), (2, .int x15), (3, .int x2)] → W p l e (q_rm (5)) s m args below meth c H locs 0 0 (MQ below (q_Qv X MR) args s 0 0 (q_A X)) (F0 m 81 ls [.int (b2i z16), .ref (X.1 41)]) := by
            intro ls H locs hH hl
            obtain ⟨M17, eM17, hf⟩ := st_lty hf
            refine pz_pZ hE hH fw_X3_32 qk_41 (q_nz z16) eM17 dX3_note_81 (fun H locs hH => ?_)
            obtain ⟨x18, ex18, hf⟩ := st_lty hf
            refine lv_iinc (v := x18) (lv' := [(3, .int x18), (0, .ref (X.1 41)), (1, .int p0), (2, .int x15)]) hx hb dX3_note_84 hl (k := 3) rfl (by rw [ex18]; rfl) (by decide) rfl (fun ls hl => ?_)
            refine lv_goto (tgt := 4) hx hb dX3_note_87 (by decide) ?_
            exact hK1 _ (Option.some.inj hf).symm ls H locs hH (lv_sub hl [1, 2, 3, 0] rfl)
          clear hf
          replace hf := hr
          refine lv_if_eq (tgt := 80) hx hb dX3_note_61 (by decide) (fun hc => ?_) (fun hc => ?_)
          · replace hf := (if_pos hc).symm.trans hf
            refine lv_iconst (v := 0) hx hb dX3_note_80 (by decide) ?_
            replace hf := Option.some.inj hf
            subst hf
            exact hJ ls H locs hH (lv_sub hl [1, 2, 0, 3] rfl)
          · replace hf := (if_neg hc).symm.trans hf
            refine lv_aload_n hx hb dX3_note_64 rfl (lv_at hl 1 rfl) ?_
            refine pz_gS (a := 42) hE hH fr_X3_12 qk_41 (by decide) dX3_note_65 ?_
            refine pz_gS (a := 43) hE hH fr_X3_93 qk_42 (by decide) dX3_note_68 ?_
            refine lv_iload_n hx hb dX3_note_71 rfl (lv_at hl 3 rfl) ?_
            obtain ⟨v19, ev19, hf⟩ := st_bd hf
            refine pz_iald hE hH qk_43 ev19 dX3_note_72 ?_
            refine lv_if_ne (tgt := 80) hx hb dX3_note_73 (by decide) (fun hc => ?_) (fun hc => ?_)
            · replace hf := (if_neg hc).symm.trans hf
              refine lv_iconst (v := 0) hx hb dX3_note_80 (by decide) ?_
              replace hf := Option.some.inj hf
              subst hf
              exact hJ ls H locs hH (lv_sub hl [1, 2, 0, 3] rfl)
            · replace hf := (if_pos hc).symm.trans hf
              refine lv_iconst (v := 1) hx hb dX3_note_76 (by decide) ?_
              refine lv_goto (tgt := 81) hx hb dX3_note_77 (by decide) ?_
              replace hf := Option.some.inj hf
              subst hf
              exact hJ ls H locs hH (lv_sub hl [1, 2, 0, 3] rfl)
        clear hf
        replace hf := hr
        refine lv_if_eq (tgt := 53) hx hb dX3_note_44 (by decide) (fun hc => ?_) (fun hc => ?_)
        · replace hf := (if_pos hc).symm.trans hf
          refine lv_iconst (v := 0) hx hb dX3_note_53 (by decide) ?_
          subst hf
          exact hJ ls H locs hH (lv_sub hl [0, 1, 3] rfl)
        · replace hf := (if_neg hc).symm.trans hf
          refine lv_iconst (v := 1) hx hb dX3_note_47 (by decide) ?_
          refine lv_iload_n hx hb dX3_note_48 rfl (lv_at hl 3 rfl) ?_
          refine lv_ishl hx hb dX3_note_49 ?_
          refine lv_goto (tgt := 54) hx hb dX3_note_50 (by decide) ?_
          subst hf
          exact hJ ls H locs hH (lv_sub hl [0, 1, 3] rfl)) _ hlp
  exact hG ls H locs hH (lv_sub hl [2, 3, 1, 0] rfl)

theorem dX3_run_0 : decode cX3_run 0 = .ok (.aload_n 0, 1) := by decide +kernel
theorem dX3_run_1 : decode cX3_run 1 = .ok (.iload_n 1, 1) := by decide +kernel
theorem dX3_run_2 : decode cX3_run 2 = .ok (.bipush 40, 2) := by decide +kernel
theorem dX3_run_4 : decode cX3_run 4 = .ok (.invokestatic 56, 3) := by decide +kernel
theorem dX3_run_7 : decode cX3_run 7 = .ok (.putfield 28, 3) := by decide +kernel
theorem dX3_run_10 : decode cX3_run 10 = .ok (.aload_n 0, 1) := by decide +kernel
theorem dX3_run_11 : decode cX3_run 11 = .ok (.iconst 1, 1) := by decide +kernel
theorem dX3_run_12 : decode cX3_run 12 = .ok (.putfield 32, 3) := by decide +kernel
theorem dX3_run_15 : decode cX3_run 15 = .ok (.aload_n 0, 1) := by decide +kernel
theorem dX3_run_16 : decode cX3_run 16 = .ok (.getfield 18, 3) := by decide +kernel
theorem dX3_run_19 : decode cX3_run 19 = .ok (.iconst 0, 1) := by decide +kernel
theorem dX3_run_20 : decode cX3_run 20 = .ok (.invokestatic 62, 3) := by decide +kernel
theorem dX3_run_23 : decode cX3_run 23 = .ok (.iconst 0, 1) := by decide +kernel
theorem dX3_run_24 : decode cX3_run 24 = .ok (.istore_n 3, 1) := by decide +kernel
theorem dX3_run_25 : decode cX3_run 25 = .ok (.iload_n 3, 1) := by decide +kernel
theorem dX3_run_26 : decode cX3_run 26 = .ok (.aload_n 0, 1) := by decide +kernel
theorem dX3_run_27 : decode cX3_run 27 = .ok (.getfield 28, 3) := by decide +kernel
theorem dX3_run_30 : decode cX3_run 30 = .ok (.if_icmp .ge 34, 3) := by decide +kernel
theorem dX3_run_33 : decode cX3_run 33 = .ok (.aload_n 0, 1) := by decide +kernel
theorem dX3_run_34 : decode cX3_run 34 = .ok (.getfield 12, 3) := by decide +kernel
theorem dX3_run_37 : decode cX3_run 37 = .ok (.iload_n 3, 1) := by decide +kernel
theorem dX3_run_38 : decode cX3_run 38 = .ok (.i2l, 1) := by decide +kernel
theorem dX3_run_39 : decode cX3_run 39 = .ok (.invokevirtual 68, 3) := by decide +kernel
theorem dX3_run_42 : decode cX3_run 42 = .ok (.aload_n 0, 1) := by decide +kernel
theorem dX3_run_43 : decode cX3_run 43 = .ok (.getfield 12, 3) := by decide +kernel
theorem dX3_run_46 : decode cX3_run 46 = .ok (.bipush 61, 2) := by decide +kernel
theorem dX3_run_48 : decode cX3_run 48 = .ok (.aload_n 2, 1) := by decide +kernel
theorem dX3_run_49 : decode cX3_run 49 = .ok (.invokevirtual 72, 3) := by decide +kernel
theorem dX3_run_52 : decode cX3_run 52 = .ok (.pop, 1) := by decide +kernel
theorem dX3_run_53 : decode cX3_run 53 = .ok (.aload_n 0, 1) := by decide +kernel
theorem dX3_run_54 : decode cX3_run 54 = .ok (.iload_n 3, 1) := by decide +kernel
theorem dX3_run_55 : decode cX3_run 55 = .ok (.invokevirtual 76, 3) := by decide +kernel
theorem dX3_run_58 : decode cX3_run 58 = .ok (.iinc 3 1, 3) := by decide +kernel
theorem dX3_run_61 : decode cX3_run 61 = .ok (.goto (-36), 3) := by decide +kernel
theorem dX3_run_64 : decode cX3_run 64 = .ok (.return_, 1) := by decide +kernel
set_option maxRecDepth 100000 in
set_option maxHeartbeats 4000000 in
theorem tz_X3_run (l : Launch) (X : qX) {p0 : Int32} {M MR : qM} (hf : jTa_run p0 M = some MR) : q_Met l X yX3_run cX3_run 4 none (6) M [.ref (X.1 41), .int p0, .ref (X.1 6)] (q_Qv X MR) := by
  refine q_enter (by decide) (Nat.le_of_ble_eq_true rfl) ?_
  intro p e s m args below meth c hE hrt hlk H locs hH ls hl
  have hx := hE.1
  have hb := hE.2.1
  have hl : lv_has ls 4 [(0, .ref (X.1 41)), (1, .int p0), (2, .ref (X.1 6))] := hl
  unfold jTa_run at hf
  refine lv_aload_n hx hb dX3_run_0 rfl (lv_at hl 0 rfl) ?_
  refine lv_iload_n hx hb dX3_run_1 rfl (lv_at hl 1 rfl) ?_
  refine lv_bipush (v := 40) hx hb dX3_run_2 (by decide) ?_
  refine pz_minI (rest := [.ref (X.1 41)]) hE (q_in _ 922 (by decide +kernel) rfl) (q_in _ 552 (by decide +kernel) rfl) (q_in _ 17 (by decide +kernel) rfl) (q_in _ 553 (by decide +kernel) rfl) hl.1 (by decide) (Nat.le_of_ble_eq_true rfl) (Nat.zero_le _) (Nat.zero_le _) dX3_run_4 ?_
  obtain ⟨M1, eM1, hf⟩ := st_lty hf
  refine pz_pI hE hH fw_X3_28 qk_41  eM1 dX3_run_7 (fun H locs hH => ?_)
  refine lv_aload_n hx hb dX3_run_10 rfl (lv_at hl 0 rfl) ?_
  refine lv_iconst (v := 1) hx hb dX3_run_11 (by decide) ?_
  obtain ⟨M2, eM2, hf⟩ := st_lty hf
  refine pz_pZ hE hH fw_X3_32 qk_41 ⟨rfl, rfl⟩ eM2 dX3_run_12 (fun H locs hH => ?_)
  refine lv_aload_n hx hb dX3_run_15 rfl (lv_at hl 0 rfl) ?_
  refine pz_gS (a := 46) hE hH fr_X3_18 qk_41 (by decide) dX3_run_16 ?_
  refine lv_iconst (v := 0) hx hb dX3_run_19 (by decide) ?_
  obtain ⟨M3, eM3, hf⟩ := st_bd hf
  refine q_callv (q_runS (As := [.ref (X.1 46), .int 0]) (rest := []) hE hH (tz_J7_fill_53178 l X (q_isal qk_46) (hf := eM3)) ks_X3_62 (by decide) rfl hl.1 rfl (Nat.le_of_ble_eq_true rfl) dX3_run_20) hH (fun H locs hH => ?_)
  refine lv_iconst (v := 0) hx hb dX3_run_23 (by decide) ?_
  refine lv_istore_n (lv' := [(3, .int 0), (0, .ref (X.1 41)), (1, .int p0), (2, .ref (X.1 6))]) hx hb dX3_run_24 rfl hl (by decide) rfl (fun ls hl => ?_)
  obtain ⟨M6, hlp, hf⟩ := st_bd hf
  have hX : (fun M6 => ∀ (ls : Array Slot) (H : Heap) (locs : List Loc), q_H X M6 s H locs → lv_has ls 4 [] → W p l e (q_rm (6)) s m args below meth c H locs 0 0 (MQ below (q_Qv X MR) args s 0 0 (q_A X)) (F0 m 64 ls []) : qM → Prop) M6 := by
    intro ls H locs hH hl
    replace hf := Option.some.inj hf
    subst hf
    exact pz_retv hE hrt hlk hH dX3_run_64
  clear hf
  have hG := qlp_ind (r := M6) (fun q => qu2 q (fun x4 M5 => ∀ (ls : Array Slot) (H : Heap) (locs : List Loc), q_H X M5 s H locs → lv_has ls 4 [(0, .ref (X.1 41)), (2, .ref (X.1 6)), (3, .int x4)] → W p l e (q_rm (6)) s m args below meth c H locs 0 0 (MQ below (q_Qv X MR) args s 0 0 (q_A X)) (F0 m 25 ls []))) (by
      intro q o hf hK1 hK2
      obtain ⟨x4, M5⟩ := q
      replace hf := st_u2 hf
      intro ls H locs hH hl
      refine lv_iload_n hx hb dX3_run_25 rfl (lv_at hl 2 rfl) ?_
      refine lv_aload_n hx hb dX3_run_26 rfl (lv_at hl 0 rfl) ?_
      refine pz_gI hE hH fr_X3_28 qk_41 dX3_run_27 ?_
      refine lv_icmp_ge (tgt := 64) hx hb dX3_run_30 (by decide) (fun hc => ?_) (fun hc => ?_)
      · replace hf := (if_pos hc).symm.trans hf
        replace hf := hK2 _ (Option.some.inj hf).symm
        subst hf
        exact hX ls H locs hH (lv_sub hl [] rfl)
      · replace hf := (if_neg hc).symm.trans hf
        refine lv_aload_n hx hb dX3_run_33 rfl (lv_at hl 0 rfl) ?_
        refine pz_gS (a := 42) hE hH fr_X3_12 qk_41 (by decide) dX3_run_34 ?_
        refine lv_iload_n hx hb dX3_run_37 rfl (lv_at hl 2 rfl) ?_
        refine lv_i2l (v := (x4 : Int32).toInt64) hx hb dX3_run_38 rfl ?_
        obtain ⟨M8, eM8, hf⟩ := st_bd hf
        refine q_callv (q_runV (As := [.long ((x4 : Int32).toInt64)]) (rest := []) hE hH (tz_X1_begin l X (by decide) (hf := eM8)) kv_X3_68 qk_42 (by decide) rfl hl.1 rfl (Nat.le_of_ble_eq_true rfl) dX3_run_39) hH (fun H locs hH => ?_)
        refine lv_aload_n hx hb dX3_run_42 rfl (lv_at hl 0 rfl) ?_
        refine pz_gS (a := 42) hE hH fr_X3_12 qk_41 (by decide) dX3_run_43 ?_
        refine lv_bipush (v := 61) hx hb dX3_run_46 (by decide) ?_
        refine lv_aload_n hx hb dX3_run_48 rfl (lv_at hl 1 rfl) ?_
        obtain ⟨w9, ew9, hf⟩ := st_bd hf
        obtain ⟨r10, M11⟩ := w9
        replace hf := st_u2 hf
        refine q_calli (q_runV (As := [.int 61, .ref (X.1 6)]) (rest := []) hE hH (tz_X1_pass l X (by decide) (hf := ew9)) kv_X3_72 qk_42 (by decide) rfl hl.1 rfl (Nat.le_of_ble_eq_true rfl) dX3_run_49) hH (fun H locs hH => ?_)
        refine lv_pop hx hb dX3_run_52 rfl ?_
        refine lv_aload_n hx hb dX3_run_53 rfl (lv_at hl 0 rfl) ?_
        refine lv_iload_n hx hb dX3_run_54 rfl (lv_at hl 2 rfl) ?_
        obtain ⟨M12, eM12, hf⟩ := st_bd hf
        refine q_callv (q_runV (As := [.int x4]) (rest := []) hE hH (tz_X3_note l X (hf := eM12)) kv_X3_76 qk_41 (by decide) rfl hl.1 rfl (Nat.le_of_ble_eq_true rfl) dX3_run_55) hH (fun H locs hH => ?_)
        obtain ⟨x13, ex13, hf⟩ := st_lty hf
        refine lv_iinc (v := x13) (lv' := [(3, .int x13), (0, .ref (X.1 41)), (2, .ref (X.1 6))]) hx hb dX3_run_58 hl (k := 2) rfl (by rw [ex13]; rfl) (by decide) rfl (fun ls hl => ?_)
        refine lv_goto (tgt := 25) hx hb dX3_run_61 (by decide) ?_
        exact hK1 _ (Option.some.inj hf).symm ls H locs hH (lv_sub hl [1, 2, 0] rfl)) _ hlp
  exact hG ls H locs hH (lv_sub hl [1, 3, 0] rfl)

theorem dX3_hadByBoth_0 : decode cX3_hadByBoth 0 = .ok (.iconst 0, 1) := by decide +kernel
theorem dX3_hadByBoth_1 : decode cX3_hadByBoth 1 = .ok (.istore_n 3, 1) := by decide +kernel
theorem dX3_hadByBoth_2 : decode cX3_hadByBoth 2 = .ok (.iconst 0, 1) := by decide +kernel
theorem dX3_hadByBoth_3 : decode cX3_hadByBoth 3 = .ok (.istore 4, 2) := by decide +kernel
theorem dX3_hadByBoth_5 : decode cX3_hadByBoth 5 = .ok (.iload 4, 2) := by decide +kernel
theorem dX3_hadByBoth_7 : decode cX3_hadByBoth 7 = .ok (.aload_n 0, 1) := by decide +kernel
theorem dX3_hadByBoth_8 : decode cX3_hadByBoth 8 = .ok (.getfield 28, 3) := by decide +kernel
theorem dX3_hadByBoth_11 : decode cX3_hadByBoth 11 = .ok (.if_icmp .ge 33, 3) := by decide +kernel
theorem dX3_hadByBoth_14 : decode cX3_hadByBoth 14 = .ok (.iload_n 3, 1) := by decide +kernel
theorem dX3_hadByBoth_15 : decode cX3_hadByBoth 15 = .ok (.aload_n 0, 1) := by decide +kernel
theorem dX3_hadByBoth_16 : decode cX3_hadByBoth 16 = .ok (.getfield 22, 3) := by decide +kernel
theorem dX3_hadByBoth_19 : decode cX3_hadByBoth 19 = .ok (.iload 4, 2) := by decide +kernel
theorem dX3_hadByBoth_21 : decode cX3_hadByBoth 21 = .ok (.iaload, 1) := by decide +kernel
theorem dX3_hadByBoth_22 : decode cX3_hadByBoth 22 = .ok (.iload_n 1, 1) := by decide +kernel
theorem dX3_hadByBoth_23 : decode cX3_hadByBoth 23 = .ok (.ishr, 1) := by decide +kernel
theorem dX3_hadByBoth_24 : decode cX3_hadByBoth 24 = .ok (.aload_n 0, 1) := by decide +kernel
theorem dX3_hadByBoth_25 : decode cX3_hadByBoth 25 = .ok (.getfield 22, 3) := by decide +kernel
theorem dX3_hadByBoth_28 : decode cX3_hadByBoth 28 = .ok (.iload 4, 2) := by decide +kernel
theorem dX3_hadByBoth_30 : decode cX3_hadByBoth 30 = .ok (.iaload, 1) := by decide +kernel
theorem dX3_hadByBoth_31 : decode cX3_hadByBoth 31 = .ok (.iload_n 2, 1) := by decide +kernel
theorem dX3_hadByBoth_32 : decode cX3_hadByBoth 32 = .ok (.ishr, 1) := by decide +kernel
theorem dX3_hadByBoth_33 : decode cX3_hadByBoth 33 = .ok (.iand, 1) := by decide +kernel
theorem dX3_hadByBoth_34 : decode cX3_hadByBoth 34 = .ok (.iconst 1, 1) := by decide +kernel
theorem dX3_hadByBoth_35 : decode cX3_hadByBoth 35 = .ok (.iand, 1) := by decide +kernel
theorem dX3_hadByBoth_36 : decode cX3_hadByBoth 36 = .ok (.iadd, 1) := by decide +kernel
theorem dX3_hadByBoth_37 : decode cX3_hadByBoth 37 = .ok (.istore_n 3, 1) := by decide +kernel
theorem dX3_hadByBoth_38 : decode cX3_hadByBoth 38 = .ok (.iinc 4 1, 3) := by decide +kernel
theorem dX3_hadByBoth_41 : decode cX3_hadByBoth 41 = .ok (.goto (-36), 3) := by decide +kernel
theorem dX3_hadByBoth_44 : decode cX3_hadByBoth 44 = .ok (.iload_n 3, 1) := by decide +kernel
theorem dX3_hadByBoth_45 : decode cX3_hadByBoth 45 = .ok (.ireturn, 1) := by decide +kernel
set_option maxRecDepth 100000 in
set_option maxHeartbeats 4000000 in
theorem tz_X3_hadByBoth (l : Launch) (X : qX) {p0 : Int32} {p1 : Int32} {M : qM} {r0 : Int32} (hf : jTa_hadByBoth p0 p1 M = some r0) : q_Met l X yX3_hadByBoth cX3_hadByBoth 5 (some .int) (1) M [.ref (X.1 41), .int p0, .int p1] (q_Qi X r0 M) := by
  refine q_enter (by decide) (Nat.le_of_ble_eq_true rfl) ?_
  intro p e s m args below meth c hE hrt hlk H locs hH ls hl
  have hx := hE.1
  have hb := hE.2.1
  have hl : lv_has ls 5 [(0, .ref (X.1 41)), (1, .int p0), (2, .int p1)] := hl
  unfold jTa_hadByBoth at hf
  refine lv_iconst (v := 0) hx hb dX3_hadByBoth_0 (by decide) ?_
  refine lv_istore_n (lv' := [(3, .int 0), (0, .ref (X.1 41)), (1, .int p0), (2, .int p1)]) hx hb dX3_hadByBoth_1 rfl hl (by decide) rfl (fun ls hl => ?_)
  refine lv_iconst (v := 0) hx hb dX3_hadByBoth_2 (by decide) ?_
  refine lv_istore (lv' := [(4, .int 0), (3, .int 0), (0, .ref (X.1 41)), (1, .int p0), (2, .int p1)]) hx hb dX3_hadByBoth_3 hl (by decide) rfl (fun ls hl => ?_)
  obtain ⟨x3, hlp, hf⟩ := st_bd hf
  have hX : (fun x3 => ∀ (ls : Array Slot) (H : Heap) (locs : List Loc), q_H X M s H locs → lv_has ls 5 [(3, .int x3)] → W p l e (q_rm (1)) s m args below meth c H locs 0 0 (MQ below (q_Qi X r0 M) args s 0 0 (q_A X)) (F0 m 44 ls []) : Int32 → Prop) x3 := by
    intro ls H locs hH hl
    refine lv_iload_n hx hb dX3_hadByBoth_44 rfl (lv_at hl 0 rfl) ?_
    replace hf := Option.some.inj hf
    subst hf
    exact pz_reti hE hrt hlk hH dX3_hadByBoth_45
  clear hf
  have hG := qlp_ind (r := x3) (fun q => qu2 q (fun x1 x2 => ∀ (ls : Array Slot) (H : Heap) (locs : List Loc), q_H X M s H locs → lv_has ls 5 [(0, .ref (X.1 41)), (1, .int p0), (2, .int p1), (3, .int x1), (4, .int x2)] → W p l e (q_rm (1)) s m args below meth c H locs 0 0 (MQ below (q_Qi X r0 M) args s 0 0 (q_A X)) (F0 m 5 ls []))) (by
      intro q o hf hK1 hK2
      obtain ⟨x1, x2⟩ := q
      replace hf := st_u2 hf
      intro ls H locs hH hl
      refine lv_iload hx hb dX3_hadByBoth_5 (lv_at hl 4 rfl) ?_
      refine lv_aload_n hx hb dX3_hadByBoth_7 rfl (lv_at hl 0 rfl) ?_
      refine pz_gI hE hH fr_X3_28 qk_41 dX3_hadByBoth_8 ?_
      refine lv_icmp_ge (tgt := 44) hx hb dX3_hadByBoth_11 (by decide) (fun hc => ?_) (fun hc => ?_)
      · replace hf := (if_pos hc).symm.trans hf
        replace hf := hK2 _ (Option.some.inj hf).symm
        subst hf
        exact hX ls H locs hH (lv_sub hl [3] rfl)
      · replace hf := (if_neg hc).symm.trans hf
        refine lv_iload_n hx hb dX3_hadByBoth_14 rfl (lv_at hl 3 rfl) ?_
        refine lv_aload_n hx hb dX3_hadByBoth_15 rfl (lv_at hl 0 rfl) ?_
        refine pz_gS (a := 47) hE hH fr_X3_22 qk_41 (by decide) dX3_hadByBoth_16 ?_
        refine lv_iload hx hb dX3_hadByBoth_19 (lv_at hl 4 rfl) ?_
        obtain ⟨v5, ev5, hf⟩ := st_bd hf
        refine pz_iald hE hH qk_47 ev5 dX3_hadByBoth_21 ?_
        refine lv_iload_n hx hb dX3_hadByBoth_22 rfl (lv_at hl 1 rfl) ?_
        refine lv_ishr hx hb dX3_hadByBoth_23 ?_
        refine lv_aload_n hx hb dX3_hadByBoth_24 rfl (lv_at hl 0 rfl) ?_
        refine pz_gS (a := 47) hE hH fr_X3_22 qk_41 (by decide) dX3_hadByBoth_25 ?_
        refine lv_iload hx hb dX3_hadByBoth_28 (lv_at hl 4 rfl) ?_
        obtain ⟨v6, ev6, hf⟩ := st_bd hf
        refine pz_iald hE hH qk_47 ev6 dX3_hadByBoth_30 ?_
        refine lv_iload_n hx hb dX3_hadByBoth_31 rfl (lv_at hl 2 rfl) ?_
        refine lv_ishr hx hb dX3_hadByBoth_32 ?_
        refine lv_iand hx hb dX3_hadByBoth_33 ?_
        refine lv_iconst (v := 1) hx hb dX3_hadByBoth_34 (by decide) ?_
        refine lv_iand hx hb dX3_hadByBoth_35 ?_
        refine lv_iadd hx hb dX3_hadByBoth_36 ?_
        refine lv_topi (fun x7 ex7 => ?_)
        replace hf := st_lt hf ex7
        refine lv_istore_n (lv' := [(3, .int x7), (0, .ref (X.1 41)), (1, .int p0), (2, .int p1), (4, .int x2)]) hx hb dX3_hadByBoth_37 rfl hl (by decide) rfl (fun ls hl => ?_)
        obtain ⟨x8, ex8, hf⟩ := st_lty hf
        refine lv_iinc (v := x8) (lv' := [(4, .int x8), (3, .int x7), (0, .ref (X.1 41)), (1, .int p0), (2, .int p1)]) hx hb dX3_hadByBoth_38 hl (k := 4) rfl (by rw [ex8]; rfl) (by decide) rfl (fun ls hl => ?_)
        refine lv_goto (tgt := 5) hx hb dX3_hadByBoth_41 (by decide) ?_
        exact hK1 _ (Option.some.inj hf).symm ls H locs hH (lv_sub hl [2, 3, 4, 1, 0] rfl)) _ hlp
  exact hG ls H locs hH (lv_sub hl [2, 3, 4, 1, 0] rfl)

theorem dX3_hadBy_0 : decode cX3_hadBy 0 = .ok (.aload_n 0, 1) := by decide +kernel
theorem dX3_hadBy_1 : decode cX3_hadBy 1 = .ok (.iload_n 1, 1) := by decide +kernel
theorem dX3_hadBy_2 : decode cX3_hadBy 2 = .ok (.iload_n 1, 1) := by decide +kernel
theorem dX3_hadBy_3 : decode cX3_hadBy 3 = .ok (.invokevirtual 99, 3) := by decide +kernel
theorem dX3_hadBy_6 : decode cX3_hadBy 6 = .ok (.ireturn, 1) := by decide +kernel
set_option maxRecDepth 100000 in
set_option maxHeartbeats 4000000 in
theorem tz_X3_hadBy (l : Launch) (X : qX) {p0 : Int32} {M : qM} {r0 : Int32} (hf : jTa_hadBy p0 M = some r0) : q_Met l X yX3_hadBy cX3_hadBy 2 (some .int) (2) M [.ref (X.1 41), .int p0] (q_Qi X r0 M) := by
  refine q_enter (by decide) (Nat.le_of_ble_eq_true rfl) ?_
  intro p e s m args below meth c hE hrt hlk H locs hH ls hl
  have hx := hE.1
  have hb := hE.2.1
  have hl : lv_has ls 2 [(0, .ref (X.1 41)), (1, .int p0)] := hl
  unfold jTa_hadBy at hf
  refine lv_aload_n hx hb dX3_hadBy_0 rfl (lv_at hl 0 rfl) ?_
  refine lv_iload_n hx hb dX3_hadBy_1 rfl (lv_at hl 1 rfl) ?_
  refine lv_iload_n hx hb dX3_hadBy_2 rfl (lv_at hl 1 rfl) ?_
  obtain ⟨r1, er1, hf⟩ := st_bd hf
  refine q_calli (q_runV (As := [.int p0, .int p0]) (rest := []) hE hH (tz_X3_hadByBoth l X (hf := er1)) kv_X3_99 qk_41 (by decide) rfl hl.1 rfl (Nat.le_of_ble_eq_true rfl) dX3_hadBy_3) hH (fun H locs hH => ?_)
  replace hf := Option.some.inj hf
  subst hf
  exact pz_reti hE hrt hlk hH dX3_hadBy_6

theorem dX3_late_0 : decode cX3_late 0 = .ok (.iconst 0, 1) := by decide +kernel
theorem dX3_late_1 : decode cX3_late 1 = .ok (.istore_n 1, 1) := by decide +kernel
theorem dX3_late_2 : decode cX3_late 2 = .ok (.iconst 0, 1) := by decide +kernel
theorem dX3_late_3 : decode cX3_late 3 = .ok (.istore_n 2, 1) := by decide +kernel
theorem dX3_late_4 : decode cX3_late 4 = .ok (.iload_n 2, 1) := by decide +kernel
theorem dX3_late_5 : decode cX3_late 5 = .ok (.aload_n 0, 1) := by decide +kernel
theorem dX3_late_6 : decode cX3_late 6 = .ok (.getfield 28, 3) := by decide +kernel
theorem dX3_late_9 : decode cX3_late 9 = .ok (.if_icmp .ge 33, 3) := by decide +kernel
theorem dX3_late_12 : decode cX3_late 12 = .ok (.iload_n 1, 1) := by decide +kernel
theorem dX3_late_13 : decode cX3_late 13 = .ok (.aload_n 0, 1) := by decide +kernel
theorem dX3_late_14 : decode cX3_late 14 = .ok (.getfield 25, 3) := by decide +kernel
theorem dX3_late_17 : decode cX3_late 17 = .ok (.iload_n 2, 1) := by decide +kernel
theorem dX3_late_18 : decode cX3_late 18 = .ok (.iaload, 1) := by decide +kernel
theorem dX3_late_19 : decode cX3_late 19 = .ok (.iconst (-1), 1) := by decide +kernel
theorem dX3_late_20 : decode cX3_late 20 = .ok (.if_icmp .ne 8, 3) := by decide +kernel
theorem dX3_late_23 : decode cX3_late 23 = .ok (.bipush 60, 2) := by decide +kernel
theorem dX3_late_25 : decode cX3_late 25 = .ok (.goto 9, 3) := by decide +kernel
theorem dX3_late_28 : decode cX3_late 28 = .ok (.aload_n 0, 1) := by decide +kernel
theorem dX3_late_29 : decode cX3_late 29 = .ok (.getfield 25, 3) := by decide +kernel
theorem dX3_late_32 : decode cX3_late 32 = .ok (.iload_n 2, 1) := by decide +kernel
theorem dX3_late_33 : decode cX3_late 33 = .ok (.iaload, 1) := by decide +kernel
theorem dX3_late_34 : decode cX3_late 34 = .ok (.iadd, 1) := by decide +kernel
theorem dX3_late_35 : decode cX3_late 35 = .ok (.istore_n 1, 1) := by decide +kernel
theorem dX3_late_36 : decode cX3_late 36 = .ok (.iinc 2 1, 3) := by decide +kernel
theorem dX3_late_39 : decode cX3_late 39 = .ok (.goto (-35), 3) := by decide +kernel
theorem dX3_late_42 : decode cX3_late 42 = .ok (.iload_n 1, 1) := by decide +kernel
theorem dX3_late_43 : decode cX3_late 43 = .ok (.ireturn, 1) := by decide +kernel
set_option maxRecDepth 100000 in
set_option maxHeartbeats 4000000 in
theorem tz_X3_late (l : Launch) (X : qX) {M : qM} {r0 : Int32} (hf : jTa_late M = some r0) : q_Met l X yX3_late cX3_late 3 (some .int) (1) M [.ref (X.1 41)] (q_Qi X r0 M) := by
  refine q_enter (by decide) (Nat.le_of_ble_eq_true rfl) ?_
  intro p e s m args below meth c hE hrt hlk H locs hH ls hl
  have hx := hE.1
  have hb := hE.2.1
  have hl : lv_has ls 3 [(0, .ref (X.1 41))] := hl
  unfold jTa_late at hf
  refine lv_iconst (v := 0) hx hb dX3_late_0 (by decide) ?_
  refine lv_istore_n (lv' := [(1, .int 0), (0, .ref (X.1 41))]) hx hb dX3_late_1 rfl hl (by decide) rfl (fun ls hl => ?_)
  refine lv_iconst (v := 0) hx hb dX3_late_2 (by decide) ?_
  refine lv_istore_n (lv' := [(2, .int 0), (1, .int 0), (0, .ref (X.1 41))]) hx hb dX3_late_3 rfl hl (by decide) rfl (fun ls hl => ?_)
  obtain ⟨x3, hlp, hf⟩ := st_bd hf
  have hX : (fun x3 => ∀ (ls : Array Slot) (H : Heap) (locs : List Loc), q_H X M s H locs → lv_has ls 3 [(1, .int x3)] → W p l e (q_rm (1)) s m args below meth c H locs 0 0 (MQ below (q_Qi X r0 M) args s 0 0 (q_A X)) (F0 m 42 ls []) : Int32 → Prop) x3 := by
    intro ls H locs hH hl
    refine lv_iload_n hx hb dX3_late_42 rfl (lv_at hl 0 rfl) ?_
    replace hf := Option.some.inj hf
    subst hf
    exact pz_reti hE hrt hlk hH dX3_late_43
  clear hf
  have hG := qlp_ind (r := x3) (fun q => qu2 q (fun x1 x2 => ∀ (ls : Array Slot) (H : Heap) (locs : List Loc), q_H X M s H locs → lv_has ls 3 [(0, .ref (X.1 41)), (1, .int x1), (2, .int x2)] → W p l e (q_rm (1)) s m args below meth c H locs 0 0 (MQ below (q_Qi X r0 M) args s 0 0 (q_A X)) (F0 m 4 ls []))) (by
      intro q o hf hK1 hK2
      obtain ⟨x1, x2⟩ := q
      replace hf := st_u2 hf
      intro ls H locs hH hl
      refine lv_iload_n hx hb dX3_late_4 rfl (lv_at hl 2 rfl) ?_
      refine lv_aload_n hx hb dX3_late_5 rfl (lv_at hl 0 rfl) ?_
      refine pz_gI hE hH fr_X3_28 qk_41 dX3_late_6 ?_
      refine lv_icmp_ge (tgt := 42) hx hb dX3_late_9 (by decide) (fun hc => ?_) (fun hc => ?_)
      · replace hf := (if_pos hc).symm.trans hf
        replace hf := hK2 _ (Option.some.inj hf).symm
        subst hf
        exact hX ls H locs hH (lv_sub hl [1] rfl)
      · replace hf := (if_neg hc).symm.trans hf
        refine lv_iload_n hx hb dX3_late_12 rfl (lv_at hl 1 rfl) ?_
        refine lv_aload_n hx hb dX3_late_13 rfl (lv_at hl 0 rfl) ?_
        refine pz_gS (a := 48) hE hH fr_X3_25 qk_41 (by decide) dX3_late_14 ?_
        refine lv_iload_n hx hb dX3_late_17 rfl (lv_at hl 2 rfl) ?_
        obtain ⟨v5, ev5, hf⟩ := st_bd hf
        refine pz_iald hE hH qk_48 ev5 dX3_late_18 ?_
        refine lv_iconst (v := (-1)) hx hb dX3_late_19 (by decide) ?_
        obtain ⟨x6, hr, hf⟩ := st_bd hf
        have hJ : ∀ (ls : Array Slot) (H : Heap) (locs : List Loc), q_H X M s H locs → lv_has ls 3 [(0, .ref (X.1 41)), (2, .int x2)] → W p l e (q_rm (1)) s m args below meth c H locs 0 0 (MQ below (q_Qi X r0 M) args s 0 0 (q_A X)) (F0 m 34 ls [.int x6, .int x1]) := by
          intro ls H locs hH hl
          refine lv_iadd hx hb dX3_late_34 ?_
          refine lv_topi (fun x7 ex7 => ?_)
          replace hf := st_lt hf ex7
          refine lv_istore_n (lv' := [(1, .int x7), (0, .ref (X.1 41)), (2, .int x2)]) hx hb dX3_late_35 rfl hl (by decide) rfl (fun ls hl => ?_)
          obtain ⟨x8, ex8, hf⟩ := st_lty hf
          refine lv_iinc (v := x8) (lv' := [(2, .int x8), (1, .int x7), (0, .ref (X.1 41))]) hx hb dX3_late_36 hl (k := 2) rfl (by rw [ex8]; rfl) (by decide) rfl (fun ls hl => ?_)
          refine lv_goto (tgt := 4) hx hb dX3_late_39 (by decide) ?_
          exact hK1 _ (Option.some.inj hf).symm ls H locs hH (lv_sub hl [2, 1, 0] rfl)
        clear hf
        replace hf := hr
        refine lv_icmp_ne (tgt := 28) hx hb dX3_late_20 (by decide) (fun hc => ?_) (fun hc => ?_)
        · replace hf := (if_neg hc).symm.trans hf
          refine lv_aload_n hx hb dX3_late_28 rfl (lv_at hl 0 rfl) ?_
          refine pz_gS (a := 48) hE hH fr_X3_25 qk_41 (by decide) dX3_late_29 ?_
          refine lv_iload_n hx hb dX3_late_32 rfl (lv_at hl 2 rfl) ?_
          obtain ⟨v9, ev9, hf⟩ := st_bd hf
          refine pz_iald hE hH qk_48 ev9 dX3_late_33 ?_
          replace hf := Option.some.inj hf
          subst hf
          exact hJ ls H locs hH (lv_sub hl [0, 2] rfl)
        · replace hf := (if_pos hc).symm.trans hf
          refine lv_bipush (v := 60) hx hb dX3_late_23 (by decide) ?_
          refine lv_goto (tgt := 34) hx hb dX3_late_25 (by decide) ?_
          replace hf := Option.some.inj hf
          subst hf
          exact hJ ls H locs hH (lv_sub hl [0, 2] rfl)) _ hlp
  exact hG ls H locs hH (lv_sub hl [2, 1, 0] rfl)

theorem dX3_endsIn_0 : decode cX3_endsIn 0 = .ok (.iconst 0, 1) := by decide +kernel
theorem dX3_endsIn_1 : decode cX3_endsIn 1 = .ok (.istore_n 2, 1) := by decide +kernel
theorem dX3_endsIn_2 : decode cX3_endsIn 2 = .ok (.iconst 0, 1) := by decide +kernel
theorem dX3_endsIn_3 : decode cX3_endsIn 3 = .ok (.istore_n 3, 1) := by decide +kernel
theorem dX3_endsIn_4 : decode cX3_endsIn 4 = .ok (.iload_n 3, 1) := by decide +kernel
theorem dX3_endsIn_5 : decode cX3_endsIn 5 = .ok (.aload_n 0, 1) := by decide +kernel
theorem dX3_endsIn_6 : decode cX3_endsIn 6 = .ok (.getfield 28, 3) := by decide +kernel
theorem dX3_endsIn_9 : decode cX3_endsIn 9 = .ok (.if_icmp .ge 27, 3) := by decide +kernel
theorem dX3_endsIn_12 : decode cX3_endsIn 12 = .ok (.iload_n 2, 1) := by decide +kernel
theorem dX3_endsIn_13 : decode cX3_endsIn 13 = .ok (.aload_n 0, 1) := by decide +kernel
theorem dX3_endsIn_14 : decode cX3_endsIn 14 = .ok (.getfield 25, 3) := by decide +kernel
theorem dX3_endsIn_17 : decode cX3_endsIn 17 = .ok (.iload_n 3, 1) := by decide +kernel
theorem dX3_endsIn_18 : decode cX3_endsIn 18 = .ok (.iaload, 1) := by decide +kernel
theorem dX3_endsIn_19 : decode cX3_endsIn 19 = .ok (.iload_n 1, 1) := by decide +kernel
theorem dX3_endsIn_20 : decode cX3_endsIn 20 = .ok (.if_icmp .ne 7, 3) := by decide +kernel
theorem dX3_endsIn_23 : decode cX3_endsIn 23 = .ok (.iconst 1, 1) := by decide +kernel
theorem dX3_endsIn_24 : decode cX3_endsIn 24 = .ok (.goto 4, 3) := by decide +kernel
theorem dX3_endsIn_27 : decode cX3_endsIn 27 = .ok (.iconst 0, 1) := by decide +kernel
theorem dX3_endsIn_28 : decode cX3_endsIn 28 = .ok (.iadd, 1) := by decide +kernel
theorem dX3_endsIn_29 : decode cX3_endsIn 29 = .ok (.istore_n 2, 1) := by decide +kernel
theorem dX3_endsIn_30 : decode cX3_endsIn 30 = .ok (.iinc 3 1, 3) := by decide +kernel
theorem dX3_endsIn_33 : decode cX3_endsIn 33 = .ok (.goto (-29), 3) := by decide +kernel
theorem dX3_endsIn_36 : decode cX3_endsIn 36 = .ok (.iload_n 2, 1) := by decide +kernel
theorem dX3_endsIn_37 : decode cX3_endsIn 37 = .ok (.ireturn, 1) := by decide +kernel
set_option maxRecDepth 100000 in
set_option maxHeartbeats 4000000 in
theorem tz_X3_endsIn (l : Launch) (X : qX) {p0 : Int32} {M : qM} {r0 : Int32} (hf : jTa_endsIn p0 M = some r0) : q_Met l X yX3_endsIn cX3_endsIn 4 (some .int) (1) M [.ref (X.1 41), .int p0] (q_Qi X r0 M) := by
  refine q_enter (by decide) (Nat.le_of_ble_eq_true rfl) ?_
  intro p e s m args below meth c hE hrt hlk H locs hH ls hl
  have hx := hE.1
  have hb := hE.2.1
  have hl : lv_has ls 4 [(0, .ref (X.1 41)), (1, .int p0)] := hl
  unfold jTa_endsIn at hf
  refine lv_iconst (v := 0) hx hb dX3_endsIn_0 (by decide) ?_
  refine lv_istore_n (lv' := [(2, .int 0), (0, .ref (X.1 41)), (1, .int p0)]) hx hb dX3_endsIn_1 rfl hl (by decide) rfl (fun ls hl => ?_)
  refine lv_iconst (v := 0) hx hb dX3_endsIn_2 (by decide) ?_
  refine lv_istore_n (lv' := [(3, .int 0), (2, .int 0), (0, .ref (X.1 41)), (1, .int p0)]) hx hb dX3_endsIn_3 rfl hl (by decide) rfl (fun ls hl => ?_)
  obtain ⟨x3, hlp, hf⟩ := st_bd hf
  have hX : (fun x3 => ∀ (ls : Array Slot) (H : Heap) (locs : List Loc), q_H X M s H locs → lv_has ls 4 [(2, .int x3)] → W p l e (q_rm (1)) s m args below meth c H locs 0 0 (MQ below (q_Qi X r0 M) args s 0 0 (q_A X)) (F0 m 36 ls []) : Int32 → Prop) x3 := by
    intro ls H locs hH hl
    refine lv_iload_n hx hb dX3_endsIn_36 rfl (lv_at hl 0 rfl) ?_
    replace hf := Option.some.inj hf
    subst hf
    exact pz_reti hE hrt hlk hH dX3_endsIn_37
  clear hf
  have hG := qlp_ind (r := x3) (fun q => qu2 q (fun x1 x2 => ∀ (ls : Array Slot) (H : Heap) (locs : List Loc), q_H X M s H locs → lv_has ls 4 [(0, .ref (X.1 41)), (1, .int p0), (2, .int x1), (3, .int x2)] → W p l e (q_rm (1)) s m args below meth c H locs 0 0 (MQ below (q_Qi X r0 M) args s 0 0 (q_A X)) (F0 m 4 ls []))) (by
      intro q o hf hK1 hK2
      obtain ⟨x1, x2⟩ := q
      replace hf := st_u2 hf
      intro ls H locs hH hl
      refine lv_iload_n hx hb dX3_endsIn_4 rfl (lv_at hl 3 rfl) ?_
      refine lv_aload_n hx hb dX3_endsIn_5 rfl (lv_at hl 0 rfl) ?_
      refine pz_gI hE hH fr_X3_28 qk_41 dX3_endsIn_6 ?_
      refine lv_icmp_ge (tgt := 36) hx hb dX3_endsIn_9 (by decide) (fun hc => ?_) (fun hc => ?_)
      · replace hf := (if_pos hc).symm.trans hf
        replace hf := hK2 _ (Option.some.inj hf).symm
        subst hf
        exact hX ls H locs hH (lv_sub hl [2] rfl)
      · replace hf := (if_neg hc).symm.trans hf
        refine lv_iload_n hx hb dX3_endsIn_12 rfl (lv_at hl 2 rfl) ?_
        refine lv_aload_n hx hb dX3_endsIn_13 rfl (lv_at hl 0 rfl) ?_
        refine pz_gS (a := 48) hE hH fr_X3_25 qk_41 (by decide) dX3_endsIn_14 ?_
        refine lv_iload_n hx hb dX3_endsIn_17 rfl (lv_at hl 3 rfl) ?_
        obtain ⟨v5, ev5, hf⟩ := st_bd hf
        refine pz_iald hE hH qk_48 ev5 dX3_endsIn_18 ?_
        refine lv_iload_n hx hb dX3_endsIn_19 rfl (lv_at hl 1 rfl) ?_
        obtain ⟨z6, hr, hf⟩ := st_ltx hf
        have hJ : ∀ (ls : Array Slot) (H : Heap) (locs : List Loc), q_H X M s H locs → lv_has ls 4 [(0, .ref (X.1 41)), (1, .int p0), (3, .int x2)] → W p l e (q_rm (1)) s m args below meth c H locs 0 0 (MQ below (q_Qi X r0 M) args s 0 0 (q_A X)) (F0 m 28 ls [.int (b2i z6), .int x1]) := by
          intro ls H locs hH hl
          refine lv_iadd hx hb dX3_endsIn_28 ?_
          refine lv_topi (fun x7 ex7 => ?_)
          replace hf := st_lt hf ex7
          refine lv_istore_n (lv' := [(2, .int x7), (0, .ref (X.1 41)), (1, .int p0), (3, .int x2)]) hx hb dX3_endsIn_29 rfl hl (by decide) rfl (fun ls hl => ?_)
          obtain ⟨x8, ex8, hf⟩ := st_lty hf
          refine lv_iinc (v := x8) (lv' := [(3, .int x8), (2, .int x7), (0, .ref (X.1 41)), (1, .int p0)]) hx hb dX3_endsIn_30 hl (k := 3) rfl (by rw [ex8]; rfl) (by decide) rfl (fun ls hl => ?_)
          refine lv_goto (tgt := 4) hx hb dX3_endsIn_33 (by decide) ?_
          exact hK1 _ (Option.some.inj hf).symm ls H locs hH (lv_sub hl [2, 3, 1, 0] rfl)
        clear hf
        replace hf := hr
        refine lv_icmp_ne (tgt := 27) hx hb dX3_endsIn_20 (by decide) (fun hc => ?_) (fun hc => ?_)
        · replace hf := (if_neg hc).symm.trans hf
          refine lv_iconst (v := 0) hx hb dX3_endsIn_27 (by decide) ?_
          subst hf
          exact hJ ls H locs hH (lv_sub hl [0, 1, 3] rfl)
        · replace hf := (if_pos hc).symm.trans hf
          refine lv_iconst (v := 1) hx hb dX3_endsIn_23 (by decide) ?_
          refine lv_goto (tgt := 28) hx hb dX3_endsIn_24 (by decide) ?_
          subst hf
          exact hJ ls H locs hH (lv_sub hl [0, 1, 3] rfl)) _ hlp
  exact hG ls H locs hH (lv_sub hl [2, 3, 1, 0] rfl)

theorem dX3_gainsOf_0 : decode cX3_gainsOf 0 = .ok (.iconst 0, 1) := by decide +kernel
theorem dX3_gainsOf_1 : decode cX3_gainsOf 1 = .ok (.istore_n 2, 1) := by decide +kernel
theorem dX3_gainsOf_2 : decode cX3_gainsOf 2 = .ok (.iconst 0, 1) := by decide +kernel
theorem dX3_gainsOf_3 : decode cX3_gainsOf 3 = .ok (.istore_n 3, 1) := by decide +kernel
theorem dX3_gainsOf_4 : decode cX3_gainsOf 4 = .ok (.iload_n 3, 1) := by decide +kernel
theorem dX3_gainsOf_5 : decode cX3_gainsOf 5 = .ok (.aload_n 0, 1) := by decide +kernel
theorem dX3_gainsOf_6 : decode cX3_gainsOf 6 = .ok (.getfield 12, 3) := by decide +kernel
theorem dX3_gainsOf_9 : decode cX3_gainsOf 9 = .ok (.getfield 42, 3) := by decide +kernel
theorem dX3_gainsOf_12 : decode cX3_gainsOf 12 = .ok (.getfield 80, 3) := by decide +kernel
theorem dX3_gainsOf_15 : decode cX3_gainsOf 15 = .ok (.if_icmp .ge 38, 3) := by decide +kernel
theorem dX3_gainsOf_18 : decode cX3_gainsOf 18 = .ok (.iload_n 2, 1) := by decide +kernel
theorem dX3_gainsOf_19 : decode cX3_gainsOf 19 = .ok (.aload_n 0, 1) := by decide +kernel
theorem dX3_gainsOf_20 : decode cX3_gainsOf 20 = .ok (.getfield 12, 3) := by decide +kernel
theorem dX3_gainsOf_23 : decode cX3_gainsOf 23 = .ok (.getfield 42, 3) := by decide +kernel
theorem dX3_gainsOf_26 : decode cX3_gainsOf 26 = .ok (.getfield 102, 3) := by decide +kernel
theorem dX3_gainsOf_29 : decode cX3_gainsOf 29 = .ok (.iload_n 3, 1) := by decide +kernel
theorem dX3_gainsOf_30 : decode cX3_gainsOf 30 = .ok (.iaload, 1) := by decide +kernel
theorem dX3_gainsOf_31 : decode cX3_gainsOf 31 = .ok (.iload_n 1, 1) := by decide +kernel
theorem dX3_gainsOf_32 : decode cX3_gainsOf 32 = .ok (.if_icmp .ne 12, 3) := by decide +kernel
theorem dX3_gainsOf_35 : decode cX3_gainsOf 35 = .ok (.aload_n 0, 1) := by decide +kernel
theorem dX3_gainsOf_36 : decode cX3_gainsOf 36 = .ok (.getfield 18, 3) := by decide +kernel
theorem dX3_gainsOf_39 : decode cX3_gainsOf 39 = .ok (.iload_n 3, 1) := by decide +kernel
theorem dX3_gainsOf_40 : decode cX3_gainsOf 40 = .ok (.iaload, 1) := by decide +kernel
theorem dX3_gainsOf_41 : decode cX3_gainsOf 41 = .ok (.goto 4, 3) := by decide +kernel
theorem dX3_gainsOf_44 : decode cX3_gainsOf 44 = .ok (.iconst 0, 1) := by decide +kernel
theorem dX3_gainsOf_45 : decode cX3_gainsOf 45 = .ok (.iadd, 1) := by decide +kernel
theorem dX3_gainsOf_46 : decode cX3_gainsOf 46 = .ok (.istore_n 2, 1) := by decide +kernel
theorem dX3_gainsOf_47 : decode cX3_gainsOf 47 = .ok (.iinc 3 1, 3) := by decide +kernel
theorem dX3_gainsOf_50 : decode cX3_gainsOf 50 = .ok (.goto (-46), 3) := by decide +kernel
theorem dX3_gainsOf_53 : decode cX3_gainsOf 53 = .ok (.iload_n 2, 1) := by decide +kernel
theorem dX3_gainsOf_54 : decode cX3_gainsOf 54 = .ok (.ireturn, 1) := by decide +kernel
set_option maxRecDepth 100000 in
set_option maxHeartbeats 4000000 in
theorem tz_X3_gainsOf (l : Launch) (X : qX) {p0 : Int32} {M : qM} {r0 : Int32} (hf : jTa_gainsOf p0 M = some r0) : q_Met l X yX3_gainsOf cX3_gainsOf 4 (some .int) (1) M [.ref (X.1 41), .int p0] (q_Qi X r0 M) := by
  refine q_enter (by decide) (Nat.le_of_ble_eq_true rfl) ?_
  intro p e s m args below meth c hE hrt hlk H locs hH ls hl
  have hx := hE.1
  have hb := hE.2.1
  have hl : lv_has ls 4 [(0, .ref (X.1 41)), (1, .int p0)] := hl
  unfold jTa_gainsOf at hf
  refine lv_iconst (v := 0) hx hb dX3_gainsOf_0 (by decide) ?_
  refine lv_istore_n (lv' := [(2, .int 0), (0, .ref (X.1 41)), (1, .int p0)]) hx hb dX3_gainsOf_1 rfl hl (by decide) rfl (fun ls hl => ?_)
  refine lv_iconst (v := 0) hx hb dX3_gainsOf_2 (by decide) ?_
  refine lv_istore_n (lv' := [(3, .int 0), (2, .int 0), (0, .ref (X.1 41)), (1, .int p0)]) hx hb dX3_gainsOf_3 rfl hl (by decide) rfl (fun ls hl => ?_)
  obtain ⟨x3, hlp, hf⟩ := st_bd hf
  have hX : (fun x3 => ∀ (ls : Array Slot) (H : Heap) (locs : List Loc), q_H X M s H locs → lv_has ls 4 [(2, .int x3)] → W p l e (q_rm (1)) s m args below meth c H locs 0 0 (MQ below (q_Qi X r0 M) args s 0 0 (q_A X)) (F0 m 53 ls []) : Int32 → Prop) x3 := by
    intro ls H locs hH hl
    refine lv_iload_n hx hb dX3_gainsOf_53 rfl (lv_at hl 0 rfl) ?_
    replace hf := Option.some.inj hf
    subst hf
    exact pz_reti hE hrt hlk hH dX3_gainsOf_54
  clear hf
  have hG := qlp_ind (r := x3) (fun q => qu2 q (fun x1 x2 => ∀ (ls : Array Slot) (H : Heap) (locs : List Loc), q_H X M s H locs → lv_has ls 4 [(0, .ref (X.1 41)), (1, .int p0), (2, .int x1), (3, .int x2)] → W p l e (q_rm (1)) s m args below meth c H locs 0 0 (MQ below (q_Qi X r0 M) args s 0 0 (q_A X)) (F0 m 4 ls []))) (by
      intro q o hf hK1 hK2
      obtain ⟨x1, x2⟩ := q
      replace hf := st_u2 hf
      intro ls H locs hH hl
      refine lv_iload_n hx hb dX3_gainsOf_4 rfl (lv_at hl 3 rfl) ?_
      refine lv_aload_n hx hb dX3_gainsOf_5 rfl (lv_at hl 0 rfl) ?_
      refine pz_gS (a := 42) hE hH fr_X3_12 qk_41 (by decide) dX3_gainsOf_6 ?_
      obtain ⟨a5, ea5, hf⟩ := st_bd hf
      refine pz_gR hE hH fr_X3_42 qk_42 ea5 dX3_gainsOf_9 (fun ha5 => ?_)
      replace ha5 : q_vil a5 = true := ha5
      refine pz_gI hE hH fr_X3_80 (q_vil_0 ha5) dX3_gainsOf_12 ?_
      refine lv_icmp_ge (tgt := 53) hx hb dX3_gainsOf_15 (by decide) (fun hc => ?_) (fun hc => ?_)
      · replace hf := (if_pos hc).symm.trans hf
        replace hf := hK2 _ (Option.some.inj hf).symm
        subst hf
        exact hX ls H locs hH (lv_sub hl [2] rfl)
      · replace hf := (if_neg hc).symm.trans hf
        refine lv_iload_n hx hb dX3_gainsOf_18 rfl (lv_at hl 2 rfl) ?_
        refine lv_aload_n hx hb dX3_gainsOf_19 rfl (lv_at hl 0 rfl) ?_
        refine pz_gS (a := 42) hE hH fr_X3_12 qk_41 (by decide) dX3_gainsOf_20 ?_
        obtain ⟨a6, ea6, hf⟩ := st_bd hf
        refine pz_gR hE hH fr_X3_42 qk_42 ea6 dX3_gainsOf_23 (fun ha6 => ?_)
        replace ha6 : q_vil a6 = true := ha6
        refine pz_gS (a := a6 + 3) hE hH fr_X3_102 (q_vil_0 ha6) rfl dX3_gainsOf_26 ?_
        refine lv_iload_n hx hb dX3_gainsOf_29 rfl (lv_at hl 3 rfl) ?_
        obtain ⟨v7, ev7, hf⟩ := st_bd hf
        refine pz_iald hE hH (q_vil_3 ha6) ev7 dX3_gainsOf_30 ?_
        refine lv_iload_n hx hb dX3_gainsOf_31 rfl (lv_at hl 1 rfl) ?_
        obtain ⟨x8, hr, hf⟩ := st_bd hf
        have hJ : ∀ (ls : Array Slot) (H : Heap) (locs : List Loc), q_H X M s H locs → lv_has ls 4 [(0, .ref (X.1 41)), (1, .int p0), (3, .int x2)] → W p l e (q_rm (1)) s m args below meth c H locs 0 0 (MQ below (q_Qi X r0 M) args s 0 0 (q_A X)) (F0 m 45 ls [.int x8, .int x1]) := by
          intro ls H locs hH hl
          refine lv_iadd hx hb dX3_gainsOf_45 ?_
          refine lv_topi (fun x9 ex9 => ?_)
          replace hf := st_lt hf ex9
          refine lv_istore_n (lv' := [(2, .int x9), (0, .ref (X.1 41)), (1, .int p0), (3, .int x2)]) hx hb dX3_gainsOf_46 rfl hl (by decide) rfl (fun ls hl => ?_)
          obtain ⟨x10, ex10, hf⟩ := st_lty hf
          refine lv_iinc (v := x10) (lv' := [(3, .int x10), (2, .int x9), (0, .ref (X.1 41)), (1, .int p0)]) hx hb dX3_gainsOf_47 hl (k := 3) rfl (by rw [ex10]; rfl) (by decide) rfl (fun ls hl => ?_)
          refine lv_goto (tgt := 4) hx hb dX3_gainsOf_50 (by decide) ?_
          exact hK1 _ (Option.some.inj hf).symm ls H locs hH (lv_sub hl [2, 3, 1, 0] rfl)
        clear hf
        replace hf := hr
        refine lv_icmp_ne (tgt := 44) hx hb dX3_gainsOf_32 (by decide) (fun hc => ?_) (fun hc => ?_)
        · replace hf := (if_neg hc).symm.trans hf
          refine lv_iconst (v := 0) hx hb dX3_gainsOf_44 (by decide) ?_
          replace hf := Option.some.inj hf
          subst hf
          exact hJ ls H locs hH (lv_sub hl [0, 1, 3] rfl)
        · replace hf := (if_pos hc).symm.trans hf
          refine lv_aload_n hx hb dX3_gainsOf_35 rfl (lv_at hl 0 rfl) ?_
          refine pz_gS (a := 46) hE hH fr_X3_18 qk_41 (by decide) dX3_gainsOf_36 ?_
          refine lv_iload_n hx hb dX3_gainsOf_39 rfl (lv_at hl 3 rfl) ?_
          obtain ⟨v11, ev11, hf⟩ := st_bd hf
          refine pz_iald hE hH qk_46 ev11 dX3_gainsOf_40 ?_
          refine lv_goto (tgt := 45) hx hb dX3_gainsOf_41 (by decide) ?_
          replace hf := Option.some.inj hf
          subst hf
          exact hJ ls H locs hH (lv_sub hl [0, 1, 3] rfl)) _ hlp
  exact hG ls H locs hH (lv_sub hl [2, 3, 1, 0] rfl)

theorem dX3_bestWay_0 : decode cX3_bestWay 0 = .ok (.aload_n 3, 1) := by decide +kernel
theorem dX3_bestWay_1 : decode cX3_bestWay 1 = .ok (.getfield 105, 3) := by decide +kernel
theorem dX3_bestWay_4 : decode cX3_bestWay 4 = .ok (.iload_n 1, 1) := by decide +kernel
theorem dX3_bestWay_5 : decode cX3_bestWay 5 = .ok (.iaload, 1) := by decide +kernel
theorem dX3_bestWay_6 : decode cX3_bestWay 6 = .ok (.istore 4, 2) := by decide +kernel
theorem dX3_bestWay_8 : decode cX3_bestWay 8 = .ok (.iconst (-1), 1) := by decide +kernel
theorem dX3_bestWay_9 : decode cX3_bestWay 9 = .ok (.istore 5, 2) := by decide +kernel
theorem dX3_bestWay_11 : decode cX3_bestWay 11 = .ok (.aload_n 0, 1) := by decide +kernel
theorem dX3_bestWay_12 : decode cX3_bestWay 12 = .ok (.iload_n 2, 1) := by decide +kernel
theorem dX3_bestWay_13 : decode cX3_bestWay 13 = .ok (.aload_n 3, 1) := by decide +kernel
theorem dX3_bestWay_14 : decode cX3_bestWay 14 = .ok (.invokevirtual 110, 3) := by decide +kernel
theorem dX3_bestWay_17 : decode cX3_bestWay 17 = .ok (.aload_n 0, 1) := by decide +kernel
theorem dX3_bestWay_18 : decode cX3_bestWay 18 = .ok (.aload_n 0, 1) := by decide +kernel
theorem dX3_bestWay_19 : decode cX3_bestWay 19 = .ok (.iload_n 1, 1) := by decide +kernel
theorem dX3_bestWay_20 : decode cX3_bestWay 20 = .ok (.invokevirtual 114, 3) := by decide +kernel
theorem dX3_bestWay_23 : decode cX3_bestWay 23 = .ok (.putfield 39, 3) := by decide +kernel
theorem dX3_bestWay_26 : decode cX3_bestWay 26 = .ok (.iconst 0, 1) := by decide +kernel
theorem dX3_bestWay_27 : decode cX3_bestWay 27 = .ok (.istore 6, 2) := by decide +kernel
theorem dX3_bestWay_29 : decode cX3_bestWay 29 = .ok (.iload 6, 2) := by decide +kernel
theorem dX3_bestWay_31 : decode cX3_bestWay 31 = .ok (.aload_n 3, 1) := by decide +kernel
theorem dX3_bestWay_32 : decode cX3_bestWay 32 = .ok (.getfield 117, 3) := by decide +kernel
theorem dX3_bestWay_35 : decode cX3_bestWay 35 = .ok (.if_icmp .ge 76, 3) := by decide +kernel
theorem dX3_bestWay_38 : decode cX3_bestWay 38 = .ok (.aload_n 3, 1) := by decide +kernel
theorem dX3_bestWay_39 : decode cX3_bestWay 39 = .ok (.getfield 105, 3) := by decide +kernel
theorem dX3_bestWay_42 : decode cX3_bestWay 42 = .ok (.iload_n 1, 1) := by decide +kernel
theorem dX3_bestWay_43 : decode cX3_bestWay 43 = .ok (.iload 6, 2) := by decide +kernel
theorem dX3_bestWay_45 : decode cX3_bestWay 45 = .ok (.iastore, 1) := by decide +kernel
theorem dX3_bestWay_46 : decode cX3_bestWay 46 = .ok (.iload 6, 2) := by decide +kernel
theorem dX3_bestWay_48 : decode cX3_bestWay 48 = .ok (.iload 4, 2) := by decide +kernel
theorem dX3_bestWay_50 : decode cX3_bestWay 50 = .ok (.if_icmp .eq 9, 3) := by decide +kernel
theorem dX3_bestWay_53 : decode cX3_bestWay 53 = .ok (.aload_n 0, 1) := by decide +kernel
theorem dX3_bestWay_54 : decode cX3_bestWay 54 = .ok (.iload_n 2, 1) := by decide +kernel
theorem dX3_bestWay_55 : decode cX3_bestWay 55 = .ok (.aload_n 3, 1) := by decide +kernel
theorem dX3_bestWay_56 : decode cX3_bestWay 56 = .ok (.invokevirtual 110, 3) := by decide +kernel
theorem dX3_bestWay_59 : decode cX3_bestWay 59 = .ok (.iload 6, 2) := by decide +kernel
theorem dX3_bestWay_61 : decode cX3_bestWay 61 = .ok (.iload 4, 2) := by decide +kernel
theorem dX3_bestWay_63 : decode cX3_bestWay 63 = .ok (.if_icmp .ne 10, 3) := by decide +kernel
theorem dX3_bestWay_66 : decode cX3_bestWay 66 = .ok (.aload_n 0, 1) := by decide +kernel
theorem dX3_bestWay_67 : decode cX3_bestWay 67 = .ok (.getfield 39, 3) := by decide +kernel
theorem dX3_bestWay_70 : decode cX3_bestWay 70 = .ok (.goto 8, 3) := by decide +kernel
theorem dX3_bestWay_73 : decode cX3_bestWay 73 = .ok (.aload_n 0, 1) := by decide +kernel
theorem dX3_bestWay_74 : decode cX3_bestWay 74 = .ok (.iload_n 1, 1) := by decide +kernel
theorem dX3_bestWay_75 : decode cX3_bestWay 75 = .ok (.invokevirtual 114, 3) := by decide +kernel
theorem dX3_bestWay_78 : decode cX3_bestWay 78 = .ok (.istore 7, 2) := by decide +kernel
theorem dX3_bestWay_80 : decode cX3_bestWay 80 = .ok (.iload 5, 2) := by decide +kernel
theorem dX3_bestWay_82 : decode cX3_bestWay 82 = .ok (.iconst (-1), 1) := by decide +kernel
theorem dX3_bestWay_83 : decode cX3_bestWay 83 = .ok (.if_icmp .eq 12, 3) := by decide +kernel
theorem dX3_bestWay_86 : decode cX3_bestWay 86 = .ok (.iload 7, 2) := by decide +kernel
theorem dX3_bestWay_88 : decode cX3_bestWay 88 = .ok (.aload_n 0, 1) := by decide +kernel
theorem dX3_bestWay_89 : decode cX3_bestWay 89 = .ok (.getfield 36, 3) := by decide +kernel
theorem dX3_bestWay_92 : decode cX3_bestWay 92 = .ok (.if_icmp .le 13, 3) := by decide +kernel
theorem dX3_bestWay_95 : decode cX3_bestWay 95 = .ok (.iload 6, 2) := by decide +kernel
theorem dX3_bestWay_97 : decode cX3_bestWay 97 = .ok (.istore 5, 2) := by decide +kernel
theorem dX3_bestWay_99 : decode cX3_bestWay 99 = .ok (.aload_n 0, 1) := by decide +kernel
theorem dX3_bestWay_100 : decode cX3_bestWay 100 = .ok (.iload 7, 2) := by decide +kernel
theorem dX3_bestWay_102 : decode cX3_bestWay 102 = .ok (.putfield 36, 3) := by decide +kernel
theorem dX3_bestWay_105 : decode cX3_bestWay 105 = .ok (.iinc 6 1, 3) := by decide +kernel
theorem dX3_bestWay_108 : decode cX3_bestWay 108 = .ok (.goto (-79), 3) := by decide +kernel
theorem dX3_bestWay_111 : decode cX3_bestWay 111 = .ok (.aload_n 3, 1) := by decide +kernel
theorem dX3_bestWay_112 : decode cX3_bestWay 112 = .ok (.getfield 105, 3) := by decide +kernel
theorem dX3_bestWay_115 : decode cX3_bestWay 115 = .ok (.iload_n 1, 1) := by decide +kernel
theorem dX3_bestWay_116 : decode cX3_bestWay 116 = .ok (.iload 4, 2) := by decide +kernel
theorem dX3_bestWay_118 : decode cX3_bestWay 118 = .ok (.iastore, 1) := by decide +kernel
theorem dX3_bestWay_119 : decode cX3_bestWay 119 = .ok (.iload 5, 2) := by decide +kernel
theorem dX3_bestWay_121 : decode cX3_bestWay 121 = .ok (.ireturn, 1) := by decide +kernel
set_option maxRecDepth 100000 in
set_option maxHeartbeats 4000000 in
theorem tz_X3_bestWay (l : Launch) (X : qX) {p0 : Int32} {p1 : Int32} {M MR : qM} {r0 : Int32} (hf : jTa_bestWay p0 p1 M = some (r0, MR)) : q_Met l X yX3_bestWay cX3_bestWay 8 (some .int) (7) M [.ref (X.1 41), .int p0, .int p1, .ref (X.1 6)] (q_Qi X r0 MR) := by
  refine q_enter (by decide) (Nat.le_of_ble_eq_true rfl) ?_
  intro p e s m args below meth c hE hrt hlk H locs hH ls hl
  have hx := hE.1
  have hb := hE.2.1
  have hl : lv_has ls 8 [(0, .ref (X.1 41)), (1, .int p0), (2, .int p1), (3, .ref (X.1 6))] := hl
  unfold jTa_bestWay at hf
  refine lv_aload_n hx hb dX3_bestWay_0 rfl (lv_at hl 3 rfl) ?_
  refine pz_gS (a := 8) hE hH fr_X3_105 qk_6 (by decide) dX3_bestWay_1 ?_
  refine lv_iload_n hx hb dX3_bestWay_4 rfl (lv_at hl 1 rfl) ?_
  obtain ⟨v1, ev1, hf⟩ := st_bd hf
  refine pz_iald hE hH qk_8 ev1 dX3_bestWay_5 ?_
  refine lv_istore (lv' := [(4, .int v1), (0, .ref (X.1 41)), (1, .int p0), (2, .int p1), (3, .ref (X.1 6))]) hx hb dX3_bestWay_6 hl (by decide) rfl (fun ls hl => ?_)
  refine lv_iconst (v := (-1)) hx hb dX3_bestWay_8 (by decide) ?_
  refine lv_istore (lv' := [(5, .int (-1)), (4, .int v1), (0, .ref (X.1 41)), (1, .int p0), (2, .int p1), (3, .ref (X.1 6))]) hx hb dX3_bestWay_9 hl (by decide) rfl (fun ls hl => ?_)
  refine lv_aload_n hx hb dX3_bestWay_11 rfl (lv_at hl 2 rfl) ?_
  refine lv_iload_n hx hb dX3_bestWay_12 rfl (lv_at hl 4 rfl) ?_
  refine lv_aload_n hx hb dX3_bestWay_13 rfl (lv_at hl 5 rfl) ?_
  obtain ⟨M2, eM2, hf⟩ := st_bd hf
  refine q_callv (q_runV (As := [.int p1, .ref (X.1 6)]) (rest := []) hE hH (tz_X3_run l X (hf := eM2)) kv_X3_110 qk_41 (by decide) rfl hl.1 rfl (Nat.le_of_ble_eq_true rfl) dX3_bestWay_14) hH (fun H locs hH => ?_)
  refine lv_aload_n hx hb dX3_bestWay_17 rfl (lv_at hl 2 rfl) ?_
  refine lv_aload_n hx hb dX3_bestWay_18 rfl (lv_at hl 2 rfl) ?_
  refine lv_iload_n hx hb dX3_bestWay_19 rfl (lv_at hl 3 rfl) ?_
  obtain ⟨r3, er3, hf⟩ := st_bd hf
  refine q_calli (q_runV (As := [.int p0]) (rest := [.ref (X.1 41)]) hE hH (tz_X3_gainsOf l X (hf := er3)) kv_X3_114 qk_41 (by decide) rfl hl.1 rfl (Nat.le_of_ble_eq_true rfl) dX3_bestWay_20) hH (fun H locs hH => ?_)
  obtain ⟨M4, eM4, hf⟩ := st_lty hf
  refine pz_pI hE hH fw_X3_39 qk_41  eM4 dX3_bestWay_23 (fun H locs hH => ?_)
  refine lv_iconst (v := 0) hx hb dX3_bestWay_26 (by decide) ?_
  refine lv_istore (lv' := [(6, .int 0), (5, .int (-1)), (4, .int v1), (0, .ref (X.1 41)), (1, .int p0), (2, .int p1), (3, .ref (X.1 6))]) hx hb dX3_bestWay_27 hl (by decide) rfl (fun ls hl => ?_)
  obtain ⟨r10, hlp, hf⟩ := st_bd hf
  have hX : (fun q0 => qu2 q0 (fun x8 M9 => ∀ (ls : Array Slot) (H : Heap) (locs : List Loc), q_H X M9 s H locs → lv_has ls 8 [(1, .int p0), (3, .ref (X.1 6)), (4, .int v1), (5, .int x8)] → W p l e (q_rm (7)) s m args below meth c H locs 0 0 (MQ below (q_Qi X r0 MR) args s 0 0 (q_A X)) (F0 m 111 ls [])) : (Int32 × qM) → Prop) r10 := by
    obtain ⟨x8, M9⟩ := r10
    replace hf := st_u2 hf
    intro ls H locs hH hl
    refine lv_aload_n hx hb dX3_bestWay_111 rfl (lv_at hl 1 rfl) ?_
    refine pz_gS (a := 8) hE hH fr_X3_105 qk_6 (by decide) dX3_bestWay_112 ?_
    refine lv_iload_n hx hb dX3_bestWay_115 rfl (lv_at hl 0 rfl) ?_
    refine lv_iload hx hb dX3_bestWay_116 (lv_at hl 2 rfl) ?_
    obtain ⟨M11, eM11, hf⟩ := st_bd hf
    refine pz_iast hE hH qk_8 eM11 dX3_bestWay_118 (fun H locs hH => ?_)
    refine lv_iload hx hb dX3_bestWay_119 (lv_at hl 3 rfl) ?_
    replace hf := Option.some.inj hf
    obtain ⟨rfl, rfl⟩ := qi2 hf
    exact pz_reti hE hrt hlk hH dX3_bestWay_121
  clear hf
  have hG := qlp_ind (r := r10) (fun q => qu3 q (fun x5 x6 M7 => ∀ (ls : Array Slot) (H : Heap) (locs : List Loc), q_H X M7 s H locs → lv_has ls 8 [(0, .ref (X.1 41)), (1, .int p0), (2, .int p1), (3, .ref (X.1 6)), (4, .int v1), (5, .int x5), (6, .int x6)] → W p l e (q_rm (7)) s m args below meth c H locs 0 0 (MQ below (q_Qi X r0 MR) args s 0 0 (q_A X)) (F0 m 29 ls []))) (by
      intro q o hf hK1 hK2
      obtain ⟨x5, x6, M7⟩ := q
      replace hf := st_u3 hf
      intro ls H locs hH hl
      refine lv_iload hx hb dX3_bestWay_29 (lv_at hl 6 rfl) ?_
      refine lv_aload_n hx hb dX3_bestWay_31 rfl (lv_at hl 3 rfl) ?_
      refine pz_gI hE hH fr_X3_117 qk_6 dX3_bestWay_32 ?_
      refine lv_icmp_ge (tgt := 111) hx hb dX3_bestWay_35 (by decide) (fun hc => ?_) (fun hc => ?_)
      · replace hf := (if_pos hc).symm.trans hf
        replace hf := hK2 _ (Option.some.inj hf).symm
        subst hf
        exact hX ls H locs hH (lv_sub hl [1, 3, 4, 5] rfl)
      · replace hf := (if_neg hc).symm.trans hf
        refine lv_aload_n hx hb dX3_bestWay_38 rfl (lv_at hl 3 rfl) ?_
        refine pz_gS (a := 8) hE hH fr_X3_105 qk_6 (by decide) dX3_bestWay_39 ?_
        refine lv_iload_n hx hb dX3_bestWay_42 rfl (lv_at hl 1 rfl) ?_
        refine lv_iload hx hb dX3_bestWay_43 (lv_at hl 6 rfl) ?_
        obtain ⟨M12, eM12, hf⟩ := st_bd hf
        refine pz_iast hE hH qk_8 eM12 dX3_bestWay_45 (fun H locs hH => ?_)
        refine lv_iload hx hb dX3_bestWay_46 (lv_at hl 6 rfl) ?_
        refine lv_iload hx hb dX3_bestWay_48 (lv_at hl 4 rfl) ?_
        obtain ⟨M13, hr, hf⟩ := st_bd hf
        have hJ : ∀ (ls : Array Slot) (H : Heap) (locs : List Loc), q_H X M13 s H locs → lv_has ls 8 [(0, .ref (X.1 41)), (1, .int p0), (2, .int p1), (3, .ref (X.1 6)), (4, .int v1), (5, .int x5), (6, .int x6)] → W p l e (q_rm (7)) s m args below meth c H locs 0 0 (MQ below (q_Qi X r0 MR) args s 0 0 (q_A X)) (F0 m 59 ls []) := by
          intro ls H locs hH hl
          refine lv_iload hx hb dX3_bestWay_59 (lv_at hl 6 rfl) ?_
          refine lv_iload hx hb dX3_bestWay_61 (lv_at hl 4 rfl) ?_
          obtain ⟨x14, hr, hf⟩ := st_bd hf
          have hJ : ∀ (ls : Array Slot) (H : Heap) (locs : List Loc), q_H X M13 s H locs → lv_has ls 8 [(0, .ref (X.1 41)), (1, .int p0), (2, .int p1), (3, .ref (X.1 6)), (4, .int v1), (5, .int x5), (6, .int x6)] → W p l e (q_rm (7)) s m args below meth c H locs 0 0 (MQ below (q_Qi X r0 MR) args s 0 0 (q_A X)) (F0 m 78 ls [.int x14]) := by
            intro ls H locs hH hl
            refine lv_istore (lv' := [(7, .int x14), (0, .ref (X.1 41)), (1, .int p0), (2, .int p1), (3, .ref (X.1 6)), (4, .int v1), (5, .int x5), (6, .int x6)]) hx hb dX3_bestWay_78 hl (by decide) rfl (fun ls hl => ?_)
            refine lv_iload hx hb dX3_bestWay_80 (lv_at hl 6 rfl) ?_
            refine lv_iconst (v := (-1)) hx hb dX3_bestWay_82 (by decide) ?_
            obtain ⟨z15, hz, hf⟩ := st_ltx hf
            have hT : z15 = true → ∀ (H : Heap) (locs : List Loc), q_H X M13 s H locs → W p l e (q_rm (7)) s m args below meth c H locs 0 0 (MQ below (q_Qi X r0 MR) args s 0 0 (q_A X)) (F0 m 95 ls []) := by
              intro hc H locs hH
              replace hf := (if_pos hc).symm.trans hf
              refine lv_iload hx hb dX3_bestWay_95 (lv_at hl 7 rfl) ?_
              refine lv_istore (lv' := [(5, .int x6), (7, .int x14), (0, .ref (X.1 41)), (1, .int p0), (2, .int p1), (3, .ref (X.1 6)), (4, .int v1), (6, .int x6)]) hx hb dX3_bestWay_97 hl (by decide) rfl (fun ls hl => ?_)
              refine lv_aload_n hx hb dX3_bestWay_99 rfl (lv_at hl 2 rfl) ?_
              refine lv_iload hx hb dX3_bestWay_100 (lv_at hl 1 rfl) ?_
              obtain ⟨M16, eM16, hf⟩ := st_lty hf
              refine pz_pI hE hH fw_X3_36 qk_41  eM16 dX3_bestWay_102 (fun H locs hH => ?_)
              obtain ⟨x17, ex17, hf⟩ := st_lty hf
              refine lv_iinc (v := x17) (lv' := [(6, .int x17), (5, .int x6), (7, .int x14), (0, .ref (X.1 41)), (1, .int p0), (2, .int p1), (3, .ref (X.1 6)), (4, .int v1)]) hx hb dX3_bestWay_105 hl (k := 7) rfl (by rw [ex17]; rfl) (by decide) rfl (fun ls hl => ?_)
              refine lv_goto (tgt := 29) hx hb dX3_bestWay_108 (by decide) ?_
              exact hK1 _ (Option.some.inj hf).symm ls H locs hH (lv_sub hl [3, 4, 5, 6, 7, 1, 0] rfl)
            have hF : ¬ z15 = true → ∀ (H : Heap) (locs : List Loc), q_H X M13 s H locs → W p l e (q_rm (7)) s m args below meth c H locs 0 0 (MQ below (q_Qi X r0 MR) args s 0 0 (q_A X)) (F0 m 105 ls []) := by
              intro hc H locs hH
              replace hf := (if_neg hc).symm.trans hf
              obtain ⟨x18, ex18, hf⟩ := st_lty hf
              refine lv_iinc (v := x18) (lv' := [(6, .int x18), (7, .int x14), (0, .ref (X.1 41)), (1, .int p0), (2, .int p1), (3, .ref (X.1 6)), (4, .int v1), (5, .int x5)]) hx hb dX3_bestWay_105 hl (k := 7) rfl (by rw [ex18]; rfl) (by decide) rfl (fun ls hl => ?_)
              refine lv_goto (tgt := 29) hx hb dX3_bestWay_108 (by decide) ?_
              exact hK1 _ (Option.some.inj hf).symm ls H locs hH (lv_sub hl [2, 3, 4, 5, 6, 7, 0] rfl)
            clear hf
            replace hf := hz
            refine lv_icmp_eq (tgt := 95) hx hb dX3_bestWay_83 (by decide) (fun hc => ?_) (fun hc => ?_)
            · replace hf := (if_pos hc).symm.trans hf
              exact hT (by rw [← hf]) H locs hH
            · replace hf := (if_neg hc).symm.trans hf
              refine lv_iload hx hb dX3_bestWay_86 (lv_at hl 0 rfl) ?_
              refine lv_aload_n hx hb dX3_bestWay_88 rfl (lv_at hl 1 rfl) ?_
              refine pz_gI hE hH fr_X3_36 qk_41 dX3_bestWay_89 ?_
              refine lv_icmp_le (tgt := 105) hx hb dX3_bestWay_92 (by decide) (fun hc => ?_) (fun hc => ?_)
              · replace hf := (if_pos hc).symm.trans hf
                exact hF (by rw [← hf]; decide) H locs hH
              · replace hf := (if_neg hc).symm.trans hf
                exact hT (by rw [← hf]) H locs hH
          clear hf
          replace hf := hr
          refine lv_icmp_ne (tgt := 73) hx hb dX3_bestWay_63 (by decide) (fun hc => ?_) (fun hc => ?_)
          · replace hf := (if_neg hc).symm.trans hf
            refine lv_aload_n hx hb dX3_bestWay_73 rfl (lv_at hl 0 rfl) ?_
            refine lv_iload_n hx hb dX3_bestWay_74 rfl (lv_at hl 1 rfl) ?_
            obtain ⟨r19, er19, hf⟩ := st_bd hf
            refine q_calli (q_runV (As := [.int p0]) (rest := []) hE hH (tz_X3_gainsOf l X (hf := er19)) kv_X3_114 qk_41 (by decide) rfl hl.1 rfl (Nat.le_of_ble_eq_true rfl) dX3_bestWay_75) hH (fun H locs hH => ?_)
            replace hf := Option.some.inj hf
            subst hf
            exact hJ ls H locs hH (lv_sub hl [0, 1, 2, 3, 4, 5, 6] rfl)
          · replace hf := (if_pos hc).symm.trans hf
            refine lv_aload_n hx hb dX3_bestWay_66 rfl (lv_at hl 0 rfl) ?_
            refine pz_gI hE hH fr_X3_39 qk_41 dX3_bestWay_67 ?_
            refine lv_goto (tgt := 78) hx hb dX3_bestWay_70 (by decide) ?_
            replace hf := Option.some.inj hf
            subst hf
            exact hJ ls H locs hH (lv_sub hl [0, 1, 2, 3, 4, 5, 6] rfl)
        clear hf
        replace hf := hr
        refine lv_icmp_eq (tgt := 59) hx hb dX3_bestWay_50 (by decide) (fun hc => ?_) (fun hc => ?_)
        · replace hf := (if_pos hc).symm.trans hf
          replace hf := Option.some.inj hf
          subst hf
          exact hJ ls H locs hH (lv_sub hl [0, 1, 2, 3, 4, 5, 6] rfl)
        · replace hf := (if_neg hc).symm.trans hf
          refine lv_aload_n hx hb dX3_bestWay_53 rfl (lv_at hl 0 rfl) ?_
          refine lv_iload_n hx hb dX3_bestWay_54 rfl (lv_at hl 2 rfl) ?_
          refine lv_aload_n hx hb dX3_bestWay_55 rfl (lv_at hl 3 rfl) ?_
          obtain ⟨M20, eM20, hf⟩ := st_bd hf
          refine q_callv (q_runV (As := [.int p1, .ref (X.1 6)]) (rest := []) hE hH (tz_X3_run l X (hf := eM20)) kv_X3_110 qk_41 (by decide) rfl hl.1 rfl (Nat.le_of_ble_eq_true rfl) dX3_bestWay_56) hH (fun H locs hH => ?_)
          replace hf := Option.some.inj hf
          subst hf
          exact hJ ls H locs hH (lv_sub hl [0, 1, 2, 3, 4, 5, 6] rfl)) _ hlp
  exact hG ls H locs hH (lv_sub hl [3, 4, 5, 6, 2, 1, 0] rfl)

