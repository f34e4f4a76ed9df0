theorem dX4_bytesOf_0 : decode cX4_bytesOf 0 = .ok (.iconst 0, 1) := by decide +kernel
theorem dX4_bytesOf_1 : decode cX4_bytesOf 1 = .ok (.istore_n 1, 1) := by decide +kernel
theorem dX4_bytesOf_2 : decode cX4_bytesOf 2 = .ok (.bipush 24, 2) := by decide +kernel
theorem dX4_bytesOf_4 : decode cX4_bytesOf 4 = .ok (.istore_n 2, 1) := by decide +kernel
theorem dX4_bytesOf_5 : decode cX4_bytesOf 5 = .ok (.iload_n 2, 1) := by decide +kernel
theorem dX4_bytesOf_6 : decode cX4_bytesOf 6 = .ok (.ifCond .lt 22, 3) := by decide +kernel
theorem dX4_bytesOf_9 : decode cX4_bytesOf 9 = .ok (.iload_n 0, 1) := by decide +kernel
theorem dX4_bytesOf_10 : decode cX4_bytesOf 10 = .ok (.iload_n 2, 1) := by decide +kernel
theorem dX4_bytesOf_11 : decode cX4_bytesOf 11 = .ok (.iushr, 1) := by decide +kernel
theorem dX4_bytesOf_12 : decode cX4_bytesOf 12 = .ok (.sipush 255, 3) := by decide +kernel
theorem dX4_bytesOf_15 : decode cX4_bytesOf 15 = .ok (.iand, 1) := by decide +kernel
theorem dX4_bytesOf_16 : decode cX4_bytesOf 16 = .ok (.ifCond .eq 6, 3) := by decide +kernel
theorem dX4_bytesOf_19 : decode cX4_bytesOf 19 = .ok (.iinc 1 1, 3) := by decide +kernel
theorem dX4_bytesOf_22 : decode cX4_bytesOf 22 = .ok (.iinc 2 (-8), 3) := by decide +kernel
theorem dX4_bytesOf_25 : decode cX4_bytesOf 25 = .ok (.goto (-20), 3) := by decide +kernel
theorem dX4_bytesOf_28 : decode cX4_bytesOf 28 = .ok (.iload_n 1, 1) := by decide +kernel
theorem dX4_bytesOf_29 : decode cX4_bytesOf 29 = .ok (.ireturn, 1) := by decide +kernel
set_option maxRecDepth 100000 in
set_option maxHeartbeats 4000000 in
theorem tz_X4_bytesOf (l : Launch) (X : qX) {p0 : Int32} {M : qM} {r0 : Int32} (hf : jTp_bytesOf p0 = some r0) : q_Met l X yX4_bytesOf cX4_bytesOf 3 (some .int) (1) M [.int p0] (q_Qi X r0 M) := by
  refine q_enter (by decide) (Nat.le_of_ble_eq_true rfl) ?_
  intro p e s m args below meth c hE hrt hlk H locs hH ls hl
  have hx := hE.1
  have hb := hE.2.1
  have hl : lv_has ls 3 [(0, .int p0)] := hl
  unfold jTp_bytesOf at hf
  refine lv_iconst (v := 0) hx hb dX4_bytesOf_0 (by decide) ?_
  refine lv_istore_n (lv' := [(1, .int 0), (0, .int p0)]) hx hb dX4_bytesOf_1 rfl hl (by decide) rfl (fun ls hl => ?_)
  refine lv_bipush (v := 24) hx hb dX4_bytesOf_2 (by decide) ?_
  refine lv_istore_n (lv' := [(2, .int 24), (1, .int 0), (0, .int p0)]) hx hb dX4_bytesOf_4 rfl hl (by decide) rfl (fun ls hl => ?_)
  obtain ⟨x3, hlp, hf⟩ := st_bd hf
  have hX : (fun x3 => ∀ (ls : Array Slot) (H : Heap) (locs : List Loc), q_H X M s H locs → lv_has ls 3 [(1, .int x3)] → W p l e (q_rm (1)) s m args below meth c H locs 0 0 (MQ below (q_Qi X r0 M) args s 0 0 (q_A X)) (F0 m 28 ls []) : Int32 → Prop) x3 := by
    intro ls H locs hH hl
    refine lv_iload_n hx hb dX4_bytesOf_28 rfl (lv_at hl 0 rfl) ?_
    replace hf := Option.some.inj hf
    subst hf
    exact pz_reti hE hrt hlk hH dX4_bytesOf_29
  clear hf
  have hG := qlp_ind (r := x3) (fun q => qu2 q (fun x1 x2 => ∀ (ls : Array Slot) (H : Heap) (locs : List Loc), q_H X M s H locs → lv_has ls 3 [(0, .int p0), (1, .int x1), (2, .int x2)] → W p l e (q_rm (1)) s m args below meth c H locs 0 0 (MQ below (q_Qi X r0 M) args s 0 0 (q_A X)) (F0 m 5 ls []))) (by
      intro q o hf hK1 hK2
      obtain ⟨x1, x2⟩ := q
      replace hf := st_u2 hf
      intro ls H locs hH hl
      refine lv_iload_n hx hb dX4_bytesOf_5 rfl (lv_at hl 2 rfl) ?_
      refine lv_if_lt (tgt := 28) hx hb dX4_bytesOf_6 (by decide) (fun hc => ?_) (fun hc => ?_)
      · replace hf := (if_pos hc).symm.trans hf
        replace hf := hK2 _ (Option.some.inj hf).symm
        subst hf
        exact hX ls H locs hH (lv_sub hl [1] rfl)
      · replace hf := (if_neg hc).symm.trans hf
        refine lv_iload_n hx hb dX4_bytesOf_9 rfl (lv_at hl 0 rfl) ?_
        refine lv_iload_n hx hb dX4_bytesOf_10 rfl (lv_at hl 2 rfl) ?_
        refine lv_iushr (v := ((p0 : Int32).toUInt32 >>> ((x2 : Int32).toUInt32 &&& Int32.toUInt32 31)).toInt32) hx hb dX4_bytesOf_11 rfl ?_
        refine lv_sipush (v := 255) hx hb dX4_bytesOf_12 (by decide) ?_
        refine lv_iand hx hb dX4_bytesOf_15 ?_
        obtain ⟨x5, hr, hf⟩ := st_ltx hf
        have hJ : ∀ (ls : Array Slot) (H : Heap) (locs : List Loc), q_H X M s H locs → lv_has ls 3 [(0, .int p0), (1, .int x5), (2, .int x2)] → W p l e (q_rm (1)) s m args below meth c H locs 0 0 (MQ below (q_Qi X r0 M) args s 0 0 (q_A X)) (F0 m 22 ls []) := by
          intro ls H locs hH hl
          obtain ⟨x6, ex6, hf⟩ := st_lty hf
          refine lv_iinc (v := x6) (lv' := [(2, .int x6), (0, .int p0), (1, .int x5)]) hx hb dX4_bytesOf_22 hl (k := 2) rfl (by rw [ex6]; rfl) (by decide) rfl (fun ls hl => ?_)
          refine lv_goto (tgt := 5) hx hb dX4_bytesOf_25 (by decide) ?_
          exact hK1 _ (Option.some.inj hf).symm ls H locs hH (lv_sub hl [1, 2, 0] rfl)
        clear hf
        replace hf := hr
        refine lv_if_eq (tgt := 22) hx hb dX4_bytesOf_16 (by decide) (fun hc => ?_) (fun hc => ?_)
        · replace hf := (if_pos hc).symm.trans hf
          subst hf
          exact hJ ls H locs hH (lv_sub hl [0, 1, 2] rfl)
        · replace hf := (if_neg hc).symm.trans hf
          obtain ⟨x7, ex7, hf⟩ := st_lty hf
          refine lv_iinc (v := x7) (lv' := [(1, .int x7), (0, .int p0), (2, .int x2)]) hx hb dX4_bytesOf_19 hl (k := 1) rfl (by rw [ex7]; rfl) (by decide) rfl (fun ls hl => ?_)
          subst hf
          exact hJ ls H locs hH (lv_sub hl [1, 0, 2] rfl)) _ hlp
  exact hG ls H locs hH (lv_sub hl [2, 1, 0] rfl)

theorem dX4_add_0 : decode cX4_add 0 = .ok (.bipush 24, 2) := by decide +kernel
theorem dX4_add_2 : decode cX4_add 2 = .ok (.istore_n 2, 1) := by decide +kernel
theorem dX4_add_3 : decode cX4_add 3 = .ok (.iload_n 2, 1) := by decide +kernel
theorem dX4_add_4 : decode cX4_add 4 = .ok (.ifCond .lt 51, 3) := by decide +kernel
theorem dX4_add_7 : decode cX4_add 7 = .ok (.iload_n 1, 1) := by decide +kernel
theorem dX4_add_8 : decode cX4_add 8 = .ok (.iload_n 2, 1) := by decide +kernel
theorem dX4_add_9 : decode cX4_add 9 = .ok (.iushr, 1) := by decide +kernel
theorem dX4_add_10 : decode cX4_add 10 = .ok (.sipush 255, 3) := by decide +kernel
theorem dX4_add_13 : decode cX4_add 13 = .ok (.iand, 1) := by decide +kernel
theorem dX4_add_14 : decode cX4_add 14 = .ok (.istore_n 3, 1) := by decide +kernel
theorem dX4_add_15 : decode cX4_add 15 = .ok (.iload_n 3, 1) := by decide +kernel
theorem dX4_add_16 : decode cX4_add 16 = .ok (.ifCond .eq 33, 3) := by decide +kernel
theorem dX4_add_19 : decode cX4_add 19 = .ok (.aload_n 0, 1) := by decide +kernel
theorem dX4_add_20 : decode cX4_add 20 = .ok (.getfield 15, 3) := by decide +kernel
theorem dX4_add_23 : decode cX4_add 23 = .ok (.sipush 160, 3) := by decide +kernel
theorem dX4_add_26 : decode cX4_add 26 = .ok (.if_icmp .ge 23, 3) := by decide +kernel
theorem dX4_add_29 : decode cX4_add 29 = .ok (.aload_n 0, 1) := by decide +kernel
theorem dX4_add_30 : decode cX4_add 30 = .ok (.getfield 9, 3) := by decide +kernel
theorem dX4_add_33 : decode cX4_add 33 = .ok (.aload_n 0, 1) := by decide +kernel
theorem dX4_add_34 : decode cX4_add 34 = .ok (.getfield 15, 3) := by decide +kernel
theorem dX4_add_37 : decode cX4_add 37 = .ok (.iload_n 3, 1) := by decide +kernel
theorem dX4_add_38 : decode cX4_add 38 = .ok (.iastore, 1) := by decide +kernel
theorem dX4_add_39 : decode cX4_add 39 = .ok (.aload_n 0, 1) := by decide +kernel
theorem dX4_add_40 : decode cX4_add 40 = .ok (.dup, 1) := by decide +kernel
theorem dX4_add_41 : decode cX4_add 41 = .ok (.getfield 15, 3) := by decide +kernel
theorem dX4_add_44 : decode cX4_add 44 = .ok (.iconst 1, 1) := by decide +kernel
theorem dX4_add_45 : decode cX4_add 45 = .ok (.iadd, 1) := by decide +kernel
theorem dX4_add_46 : decode cX4_add 46 = .ok (.putfield 15, 3) := by decide +kernel
theorem dX4_add_49 : decode cX4_add 49 = .ok (.iinc 2 (-8), 3) := by decide +kernel
theorem dX4_add_52 : decode cX4_add 52 = .ok (.goto (-49), 3) := by decide +kernel
theorem dX4_add_55 : decode cX4_add 55 = .ok (.return_, 1) := by decide +kernel
set_option maxRecDepth 100000 in
set_option maxHeartbeats 4000000 in
theorem tz_X4_add (l : Launch) (X : qX) {p0 : Int32} {M MR : qM} (hf : jTp_add p0 M = some MR) : q_Met l X yX4_add cX4_add 4 none (1) M [.ref (X.1 1), .int p0] (q_Qv X MR) := by
  refine q_enter (by decide) (Nat.le_of_ble_eq_true rfl) ?_
  intro p e s m args below meth c hE hrt hlk H locs hH ls hl
  have hx := hE.1
  have hb := hE.2.1
  have hl : lv_has ls 4 [(0, .ref (X.1 1)), (1, .int p0)] := hl
  unfold jTp_add at hf
  refine lv_bipush (v := 24) hx hb dX4_add_0 (by decide) ?_
  refine lv_istore_n (lv' := [(2, .int 24), (0, .ref (X.1 1)), (1, .int p0)]) hx hb dX4_add_2 rfl hl (by decide) rfl (fun ls hl => ?_)
  obtain ⟨M3, hlp, hf⟩ := st_bd hf
  have hX : (fun M3 => ∀ (ls : Array Slot) (H : Heap) (locs : List Loc), q_H X M3 s H locs → lv_has ls 4 [] → W p l e (q_rm (1)) s m args below meth c H locs 0 0 (MQ below (q_Qv X MR) args s 0 0 (q_A X)) (F0 m 55 ls []) : qM → Prop) M3 := by
    intro ls H locs hH hl
    replace hf := Option.some.inj hf
    subst hf
    exact pz_retv hE hrt hlk hH dX4_add_55
  clear hf
  have hG := qlp_ind (r := M3) (fun q => qu2 q (fun x1 M2 => ∀ (ls : Array Slot) (H : Heap) (locs : List Loc), q_H X M2 s H locs → lv_has ls 4 [(0, .ref (X.1 1)), (1, .int p0), (2, .int x1)] → W p l e (q_rm (1)) s m args below meth c H locs 0 0 (MQ below (q_Qv X MR) args s 0 0 (q_A X)) (F0 m 3 ls []))) (by
      intro q o hf hK1 hK2
      obtain ⟨x1, M2⟩ := q
      replace hf := st_u2 hf
      intro ls H locs hH hl
      refine lv_iload_n hx hb dX4_add_3 rfl (lv_at hl 2 rfl) ?_
      refine lv_if_lt (tgt := 55) hx hb dX4_add_4 (by decide) (fun hc => ?_) (fun hc => ?_)
      · replace hf := (if_pos hc).symm.trans hf
        replace hf := hK2 _ (Option.some.inj hf).symm
        subst hf
        exact hX ls H locs hH (lv_sub hl [] rfl)
      · replace hf := (if_neg hc).symm.trans hf
        refine lv_iload_n hx hb dX4_add_7 rfl (lv_at hl 1 rfl) ?_
        refine lv_iload_n hx hb dX4_add_8 rfl (lv_at hl 2 rfl) ?_
        refine lv_iushr (v := ((p0 : Int32).toUInt32 >>> ((x1 : Int32).toUInt32 &&& Int32.toUInt32 31)).toInt32) hx hb dX4_add_9 rfl ?_
        refine lv_sipush (v := 255) hx hb dX4_add_10 (by decide) ?_
        refine lv_iand hx hb dX4_add_13 ?_
        refine lv_topi (fun x5 ex5 => ?_)
        replace hf := st_lt hf ex5
        refine lv_istore_n (lv' := [(3, .int x5), (0, .ref (X.1 1)), (1, .int p0), (2, .int x1)]) hx hb dX4_add_14 rfl hl (by decide) rfl (fun ls hl => ?_)
        refine lv_iload_n hx hb dX4_add_15 rfl (lv_at hl 0 rfl) ?_
        obtain ⟨M6, hr, hf⟩ := st_bd hf
        have hJ : ∀ (ls : Array Slot) (H : Heap) (locs : List Loc), q_H X M6 s H locs → lv_has ls 4 [(0, .ref (X.1 1)), (1, .int p0), (2, .int x1)] → W p l e (q_rm (1)) s m args below meth c H locs 0 0 (MQ below (q_Qv X MR) args s 0 0 (q_A X)) (F0 m 49 ls []) := by
          intro ls H locs hH hl
          obtain ⟨x7, ex7, hf⟩ := st_lty hf
          refine lv_iinc (v := x7) (lv' := [(2, .int x7), (0, .ref (X.1 1)), (1, .int p0)]) hx hb dX4_add_49 hl (k := 2) rfl (by rw [ex7]; rfl) (by decide) rfl (fun ls hl => ?_)
          refine lv_goto (tgt := 3) hx hb dX4_add_52 (by decide) ?_
          exact hK1 _ (Option.some.inj hf).symm ls H locs hH (lv_sub hl [1, 2, 0] rfl)
        clear hf
        replace hf := hr
        refine lv_if_eq (tgt := 49) hx hb dX4_add_16 (by decide) (fun hc => ?_) (fun hc => ?_)
        · replace hf := (if_pos hc).symm.trans hf
          replace hf := Option.some.inj hf
          subst hf
          exact hJ ls H locs hH (lv_sub hl [1, 2, 3] rfl)
        · replace hf := (if_neg hc).symm.trans hf
          refine lv_aload_n hx hb dX4_add_19 rfl (lv_at hl 1 rfl) ?_
          refine pz_gI hE hH fr_X4_15 qk_1 dX4_add_20 ?_
          refine lv_sipush (v := 160) hx hb dX4_add_23 (by decide) ?_
          refine lv_icmp_ge (tgt := 49) hx hb dX4_add_26 (by decide) (fun hc => ?_) (fun hc => ?_)
          · replace hf := (if_pos hc).symm.trans hf
            replace hf := Option.some.inj hf
            subst hf
            exact hJ ls H locs hH (lv_sub hl [1, 2, 3] rfl)
          · replace hf := (if_neg hc).symm.trans hf
            refine lv_aload_n hx hb dX4_add_29 rfl (lv_at hl 1 rfl) ?_
            refine pz_gS (a := 2) hE hH fr_X4_9 qk_1 (by decide) dX4_add_30 ?_
            refine lv_aload_n hx hb dX4_add_33 rfl (lv_at hl 1 rfl) ?_
            refine pz_gI hE hH fr_X4_15 qk_1 dX4_add_34 ?_
            refine lv_iload_n hx hb dX4_add_37 rfl (lv_at hl 0 rfl) ?_
            obtain ⟨M8, eM8, hf⟩ := st_bd hf
            refine pz_iast hE hH qk_2 eM8 dX4_add_38 (fun H locs hH => ?_)
            refine lv_aload_n hx hb dX4_add_39 rfl (lv_at hl 1 rfl) ?_
            refine lv_dup hx hb dX4_add_40 rfl ?_
            refine pz_gI hE hH fr_X4_15 qk_1 dX4_add_41 ?_
            refine lv_iconst (v := 1) hx hb dX4_add_44 (by decide) ?_
            refine lv_iadd hx hb dX4_add_45 ?_
            obtain ⟨M9, eM9, hf⟩ := st_lty hf
            refine pz_pI hE hH fw_X4_15 qk_1  eM9 dX4_add_46 (fun H locs hH => ?_)
            replace hf := Option.some.inj hf
            subst hf
            exact hJ ls H locs hH (lv_sub hl [1, 2, 3] rfl)) _ hlp
  exact hG ls H locs hH (lv_sub hl [1, 2, 0] rfl)

theorem dX4_rewind_0 : decode cX4_rewind 0 = .ok (.aload_n 0, 1) := by decide +kernel
theorem dX4_rewind_1 : decode cX4_rewind 1 = .ok (.iconst 0, 1) := by decide +kernel
theorem dX4_rewind_2 : decode cX4_rewind 2 = .ok (.putfield 19, 3) := by decide +kernel
theorem dX4_rewind_5 : decode cX4_rewind 5 = .ok (.aload_n 0, 1) := by decide +kernel
theorem dX4_rewind_6 : decode cX4_rewind 6 = .ok (.iconst (-1), 1) := by decide +kernel
theorem dX4_rewind_7 : decode cX4_rewind 7 = .ok (.putfield 22, 3) := by decide +kernel
theorem dX4_rewind_10 : decode cX4_rewind 10 = .ok (.return_, 1) := by decide +kernel
set_option maxRecDepth 100000 in
set_option maxHeartbeats 4000000 in
theorem tz_X4_rewind (l : Launch) (X : qX) {M MR : qM} (hf : jTp_rewind M = MR) : q_Met l X yX4_rewind cX4_rewind 1 none (1) M [.ref (X.1 1)] (q_Qv X MR) := by
  refine q_enter (by decide) (Nat.le_of_ble_eq_true rfl) ?_
  intro p e s m args below meth c hE hrt hlk H locs hH ls hl
  have hx := hE.1
  have hb := hE.2.1
  have hl : lv_has ls 1 [(0, .ref (X.1 1))] := hl
  unfold jTp_rewind at hf
  refine lv_aload_n hx hb dX4_rewind_0 rfl (lv_at hl 0 rfl) ?_
  refine lv_iconst (v := 0) hx hb dX4_rewind_1 (by decide) ?_
  obtain ⟨M1, eM1, hf⟩ := st_lty hf
  refine pz_pI hE hH fw_X4_19 qk_1  eM1 dX4_rewind_2 (fun H locs hH => ?_)
  refine lv_aload_n hx hb dX4_rewind_5 rfl (lv_at hl 0 rfl) ?_
  refine lv_iconst (v := (-1)) hx hb dX4_rewind_6 (by decide) ?_
  obtain ⟨M2, eM2, hf⟩ := st_lty hf
  refine pz_pI hE hH fw_X4_22 qk_1  eM2 dX4_rewind_7 (fun H locs hH => ?_)
  subst hf
  exact pz_retv hE hrt hlk hH dX4_rewind_10

theorem dX4_next_0 : decode cX4_next 0 = .ok (.aload_n 0, 1) := by decide +kernel
theorem dX4_next_1 : decode cX4_next 1 = .ok (.getfield 19, 3) := by decide +kernel
theorem dX4_next_4 : decode cX4_next 4 = .ok (.ifCond .lt 36, 3) := by decide +kernel
theorem dX4_next_7 : decode cX4_next 7 = .ok (.aload_n 0, 1) := by decide +kernel
theorem dX4_next_8 : decode cX4_next 8 = .ok (.getfield 19, 3) := by decide +kernel
theorem dX4_next_11 : decode cX4_next 11 = .ok (.aload_n 0, 1) := by decide +kernel
theorem dX4_next_12 : decode cX4_next 12 = .ok (.getfield 15, 3) := by decide +kernel
theorem dX4_next_15 : decode cX4_next 15 = .ok (.if_icmp .ge 25, 3) := by decide +kernel
theorem dX4_next_18 : decode cX4_next 18 = .ok (.aload_n 0, 1) := by decide +kernel
theorem dX4_next_19 : decode cX4_next 19 = .ok (.getfield 19, 3) := by decide +kernel
theorem dX4_next_22 : decode cX4_next 22 = .ok (.sipush 160, 3) := by decide +kernel
theorem dX4_next_25 : decode cX4_next 25 = .ok (.if_icmp .ge 15, 3) := by decide +kernel
theorem dX4_next_28 : decode cX4_next 28 = .ok (.aload_n 0, 1) := by decide +kernel
theorem dX4_next_29 : decode cX4_next 29 = .ok (.getfield 9, 3) := by decide +kernel
theorem dX4_next_32 : decode cX4_next 32 = .ok (.aload_n 0, 1) := by decide +kernel
theorem dX4_next_33 : decode cX4_next 33 = .ok (.getfield 19, 3) := by decide +kernel
theorem dX4_next_36 : decode cX4_next 36 = .ok (.iaload, 1) := by decide +kernel
theorem dX4_next_37 : decode cX4_next 37 = .ok (.goto 4, 3) := by decide +kernel
theorem dX4_next_40 : decode cX4_next 40 = .ok (.iconst (-1), 1) := by decide +kernel
theorem dX4_next_41 : decode cX4_next 41 = .ok (.ireturn, 1) := by decide +kernel
set_option maxRecDepth 100000 in
set_option maxHeartbeats 4000000 in
theorem tz_X4_next (l : Launch) (X : qX) {M : qM} {r0 : Int32} (hf : jTp_next M = some r0) : q_Met l X yX4_next cX4_next 1 (some .int) (1) M [.ref (X.1 1)] (q_Qi X r0 M) := by
  refine q_enter (by decide) (Nat.le_of_ble_eq_true rfl) ?_
  intro p e s m args below meth c hE hrt hlk H locs hH ls hl
  have hx := hE.1
  have hb := hE.2.1
  have hl : lv_has ls 1 [(0, .ref (X.1 1))] := hl
  unfold jTp_next at hf
  refine lv_aload_n hx hb dX4_next_0 rfl (lv_at hl 0 rfl) ?_
  refine pz_gI hE hH fr_X4_19 qk_1 dX4_next_1 ?_
  obtain ⟨x1, hr, hf⟩ := st_bd hf
  have hJ : ∀ (ls : Array Slot) (H : Heap) (locs : List Loc), q_H X M s H locs → lv_has ls 1 [] → W p l e (q_rm (1)) s m args below meth c H locs 0 0 (MQ below (q_Qi X r0 M) args s 0 0 (q_A X)) (F0 m 41 ls [.int x1]) := by
    intro ls H locs hH hl
    replace hf := Option.some.inj hf
    subst hf
    exact pz_reti hE hrt hlk hH dX4_next_41
  clear hf
  replace hf := hr
  refine lv_if_lt (tgt := 40) hx hb dX4_next_4 (by decide) (fun hc => ?_) (fun hc => ?_)
  · replace hf := (if_pos hc).symm.trans hf
    refine lv_iconst (v := (-1)) hx hb dX4_next_40 (by decide) ?_
    replace hf := Option.some.inj hf
    subst hf
    exact hJ ls H locs hH (lv_sub hl [] rfl)
  · replace hf := (if_neg hc).symm.trans hf
    refine lv_aload_n hx hb dX4_next_7 rfl (lv_at hl 0 rfl) ?_
    refine pz_gI hE hH fr_X4_19 qk_1 dX4_next_8 ?_
    refine lv_aload_n hx hb dX4_next_11 rfl (lv_at hl 0 rfl) ?_
    refine pz_gI hE hH fr_X4_15 qk_1 dX4_next_12 ?_
    refine lv_icmp_ge (tgt := 40) hx hb dX4_next_15 (by decide) (fun hc => ?_) (fun hc => ?_)
    · replace hf := (if_pos hc).symm.trans hf
      refine lv_iconst (v := (-1)) hx hb dX4_next_40 (by decide) ?_
      replace hf := Option.some.inj hf
      subst hf
      exact hJ ls H locs hH (lv_sub hl [] rfl)
    · replace hf := (if_neg hc).symm.trans hf
      refine lv_aload_n hx hb dX4_next_18 rfl (lv_at hl 0 rfl) ?_
      refine pz_gI hE hH fr_X4_19 qk_1 dX4_next_19 ?_
      refine lv_sipush (v := 160) hx hb dX4_next_22 (by decide) ?_
      refine lv_icmp_ge (tgt := 40) hx hb dX4_next_25 (by decide) (fun hc => ?_) (fun hc => ?_)
      · replace hf := (if_pos hc).symm.trans hf
        refine lv_iconst (v := (-1)) hx hb dX4_next_40 (by decide) ?_
        replace hf := Option.some.inj hf
        subst hf
        exact hJ ls H locs hH (lv_sub hl [] rfl)
      · replace hf := (if_neg hc).symm.trans hf
        refine lv_aload_n hx hb dX4_next_28 rfl (lv_at hl 0 rfl) ?_
        refine pz_gS (a := 2) hE hH fr_X4_9 qk_1 (by decide) dX4_next_29 ?_
        refine lv_aload_n hx hb dX4_next_32 rfl (lv_at hl 0 rfl) ?_
        refine pz_gI hE hH fr_X4_19 qk_1 dX4_next_33 ?_
        obtain ⟨v2, ev2, hf⟩ := st_bd hf
        refine pz_iald hE hH qk_2 ev2 dX4_next_36 ?_
        refine lv_goto (tgt := 41) hx hb dX4_next_37 (by decide) ?_
        replace hf := Option.some.inj hf
        subst hf
        exact hJ ls H locs hH (lv_sub hl [] rfl)

theorem dX4_peek_0 : decode cX4_peek 0 = .ok (.aload_n 0, 1) := by decide +kernel
theorem dX4_peek_1 : decode cX4_peek 1 = .ok (.getfield 19, 3) := by decide +kernel
theorem dX4_peek_4 : decode cX4_peek 4 = .ok (.ifCond .lt 61, 3) := by decide +kernel
theorem dX4_peek_7 : decode cX4_peek 7 = .ok (.aload_n 0, 1) := by decide +kernel
theorem dX4_peek_8 : decode cX4_peek 8 = .ok (.getfield 19, 3) := by decide +kernel
theorem dX4_peek_11 : decode cX4_peek 11 = .ok (.aload_n 0, 1) := by decide +kernel
theorem dX4_peek_12 : decode cX4_peek 12 = .ok (.getfield 15, 3) := by decide +kernel
theorem dX4_peek_15 : decode cX4_peek 15 = .ok (.if_icmp .ge 50, 3) := by decide +kernel
theorem dX4_peek_18 : decode cX4_peek 18 = .ok (.aload_n 0, 1) := by decide +kernel
theorem dX4_peek_19 : decode cX4_peek 19 = .ok (.getfield 19, 3) := by decide +kernel
theorem dX4_peek_22 : decode cX4_peek 22 = .ok (.sipush 160, 3) := by decide +kernel
theorem dX4_peek_25 : decode cX4_peek 25 = .ok (.if_icmp .ge 40, 3) := by decide +kernel
theorem dX4_peek_28 : decode cX4_peek 28 = .ok (.aload_n 0, 1) := by decide +kernel
theorem dX4_peek_29 : decode cX4_peek 29 = .ok (.getfield 9, 3) := by decide +kernel
theorem dX4_peek_32 : decode cX4_peek 32 = .ok (.aload_n 0, 1) := by decide +kernel
theorem dX4_peek_33 : decode cX4_peek 33 = .ok (.getfield 19, 3) := by decide +kernel
theorem dX4_peek_36 : decode cX4_peek 36 = .ok (.iaload, 1) := by decide +kernel
theorem dX4_peek_37 : decode cX4_peek 37 = .ok (.bipush 32, 2) := by decide +kernel
theorem dX4_peek_39 : decode cX4_peek 39 = .ok (.if_icmp .eq 13, 3) := by decide +kernel
theorem dX4_peek_42 : decode cX4_peek 42 = .ok (.aload_n 0, 1) := by decide +kernel
theorem dX4_peek_43 : decode cX4_peek 43 = .ok (.getfield 9, 3) := by decide +kernel
theorem dX4_peek_46 : decode cX4_peek 46 = .ok (.aload_n 0, 1) := by decide +kernel
theorem dX4_peek_47 : decode cX4_peek 47 = .ok (.getfield 19, 3) := by decide +kernel
theorem dX4_peek_50 : decode cX4_peek 50 = .ok (.iaload, 1) := by decide +kernel
theorem dX4_peek_51 : decode cX4_peek 51 = .ok (.ireturn, 1) := by decide +kernel
theorem dX4_peek_52 : decode cX4_peek 52 = .ok (.aload_n 0, 1) := by decide +kernel
theorem dX4_peek_53 : decode cX4_peek 53 = .ok (.dup, 1) := by decide +kernel
theorem dX4_peek_54 : decode cX4_peek 54 = .ok (.getfield 19, 3) := by decide +kernel
theorem dX4_peek_57 : decode cX4_peek 57 = .ok (.iconst 1, 1) := by decide +kernel
theorem dX4_peek_58 : decode cX4_peek 58 = .ok (.iadd, 1) := by decide +kernel
theorem dX4_peek_59 : decode cX4_peek 59 = .ok (.putfield 19, 3) := by decide +kernel
theorem dX4_peek_62 : decode cX4_peek 62 = .ok (.goto (-62), 3) := by decide +kernel
theorem dX4_peek_65 : decode cX4_peek 65 = .ok (.iconst (-1), 1) := by decide +kernel
theorem dX4_peek_66 : decode cX4_peek 66 = .ok (.ireturn, 1) := by decide +kernel
set_option maxRecDepth 100000 in
set_option maxHeartbeats 4000000 in
theorem tz_X4_peek (l : Launch) (X : qX) {M MR : qM} {r0 : Int32} (hf : jTp_peek M = some (r0, MR)) : q_Met l X yX4_peek cX4_peek 1 (some .int) (1) M [.ref (X.1 1)] (q_Qi X r0 MR) := by
  refine q_enter (by decide) (Nat.le_of_ble_eq_true rfl) ?_
  intro p e s m args below meth c hE hrt hlk H locs hH ls hl
  have hx := hE.1
  have hb := hE.2.1
  have hl : lv_has ls 1 [(0, .ref (X.1 1))] := hl
  unfold jTp_peek at hf
  obtain ⟨r4, hlp, hf⟩ := st_bd hf
  have hX : (fun q0a => qse q0a (fun M2 => ∀ (ls : Array Slot) (H : Heap) (locs : List Loc), q_H X M2 s H locs → lv_has ls 1 [(0, .ref (X.1 1))] → W p l e (q_rm (1)) s m args below meth c H locs 0 0 (MQ below (q_Qi X r0 MR) args s 0 0 (q_A X)) (F0 m 42 ls [])) (fun M3 => ∀ (ls : Array Slot) (H : Heap) (locs : List Loc), q_H X M3 s H locs → lv_has ls 1 [] → W p l e (q_rm (1)) s m args below meth c H locs 0 0 (MQ below (q_Qi X r0 MR) args s 0 0 (q_A X)) (F0 m 65 ls [])) : (qM ⊕ qM) → Prop) r4 := by
    rcases r4 with M2 | M3
    · replace hf := st_seL hf
      intro ls H locs hH hl
      refine lv_aload_n hx hb dX4_peek_42 rfl (lv_at hl 0 rfl) ?_
      refine pz_gS (a := 2) hE hH fr_X4_9 qk_1 (by decide) dX4_peek_43 ?_
      refine lv_aload_n hx hb dX4_peek_46 rfl (lv_at hl 0 rfl) ?_
      refine pz_gI hE hH fr_X4_19 qk_1 dX4_peek_47 ?_
      obtain ⟨v5, ev5, hf⟩ := st_bd hf
      refine pz_iald hE hH qk_2 ev5 dX4_peek_50 ?_
      replace hf := Option.some.inj hf
      obtain ⟨rfl, rfl⟩ := qi2 hf
      exact pz_reti hE hrt hlk hH dX4_peek_51
    · replace hf := st_seR hf
      intro ls H locs hH hl
      refine lv_iconst (v := (-1)) hx hb dX4_peek_65 (by decide) ?_
      replace hf := Option.some.inj hf
      obtain ⟨rfl, rfl⟩ := qi2 hf
      exact pz_reti hE hrt hlk hH dX4_peek_66
  clear hf
  have hG := qlp_ind (r := r4) (fun M1 => ∀ (ls : Array Slot) (H : Heap) (locs : List Loc), q_H X M1 s H locs → lv_has ls 1 [(0, .ref (X.1 1))] → W p l e (q_rm (1)) s m args below meth c H locs 0 0 (MQ below (q_Qi X r0 MR) args s 0 0 (q_A X)) (F0 m 0 ls [])) (by
      intro M1 o hf hK1 hK2
      intro ls H locs hH hl
      refine lv_aload_n hx hb dX4_peek_0 rfl (lv_at hl 0 rfl) ?_
      refine pz_gI hE hH fr_X4_19 qk_1 dX4_peek_1 ?_
      refine lv_if_lt (tgt := 65) hx hb dX4_peek_4 (by decide) (fun hc => ?_) (fun hc => ?_)
      · replace hf := (if_pos hc).symm.trans hf
        replace hf := hK2 _ (Option.some.inj hf).symm
        subst hf
        exact hX ls H locs hH (lv_sub hl [] rfl)
      · replace hf := (if_neg hc).symm.trans hf
        refine lv_aload_n hx hb dX4_peek_7 rfl (lv_at hl 0 rfl) ?_
        refine pz_gI hE hH fr_X4_19 qk_1 dX4_peek_8 ?_
        refine lv_aload_n hx hb dX4_peek_11 rfl (lv_at hl 0 rfl) ?_
        refine pz_gI hE hH fr_X4_15 qk_1 dX4_peek_12 ?_
        refine lv_icmp_ge (tgt := 65) hx hb dX4_peek_15 (by decide) (fun hc => ?_) (fun hc => ?_)
        · replace hf := (if_pos hc).symm.trans hf
          replace hf := hK2 _ (Option.some.inj hf).symm
          subst hf
          exact hX ls H locs hH (lv_sub hl [] rfl)
        · replace hf := (if_neg hc).symm.trans hf
          refine lv_aload_n hx hb dX4_peek_18 rfl (lv_at hl 0 rfl) ?_
          refine pz_gI hE hH fr_X4_19 qk_1 dX4_peek_19 ?_
          refine lv_sipush (v := 160) hx hb dX4_peek_22 (by decide) ?_
          refine lv_icmp_ge (tgt := 65) hx hb dX4_peek_25 (by decide) (fun hc => ?_) (fun hc => ?_)
          · replace hf := (if_pos hc).symm.trans hf
            replace hf := hK2 _ (Option.some.inj hf).symm
            subst hf
            exact hX ls H locs hH (lv_sub hl [] rfl)
          · replace hf := (if_neg hc).symm.trans hf
            refine lv_aload_n hx hb dX4_peek_28 rfl (lv_at hl 0 rfl) ?_
            refine pz_gS (a := 2) hE hH fr_X4_9 qk_1 (by decide) dX4_peek_29 ?_
            refine lv_aload_n hx hb dX4_peek_32 rfl (lv_at hl 0 rfl) ?_
            refine pz_gI hE hH fr_X4_19 qk_1 dX4_peek_33 ?_
            obtain ⟨v6, ev6, hf⟩ := st_bd hf
            refine pz_iald hE hH qk_2 ev6 dX4_peek_36 ?_
            refine lv_bipush (v := 32) hx hb dX4_peek_37 (by decide) ?_
            refine lv_icmp_eq (tgt := 52) hx hb dX4_peek_39 (by decide) (fun hc => ?_) (fun hc => ?_)
            · replace hf := (if_pos hc).symm.trans hf
              refine lv_aload_n hx hb dX4_peek_52 rfl (lv_at hl 0 rfl) ?_
              refine lv_dup hx hb dX4_peek_53 rfl ?_
              refine pz_gI hE hH fr_X4_19 qk_1 dX4_peek_54 ?_
              refine lv_iconst (v := 1) hx hb dX4_peek_57 (by decide) ?_
              refine lv_iadd hx hb dX4_peek_58 ?_
              obtain ⟨M7, eM7, hf⟩ := st_lty hf
              refine pz_pI hE hH fw_X4_19 qk_1  eM7 dX4_peek_59 (fun H locs hH => ?_)
              refine lv_goto (tgt := 0) hx hb dX4_peek_62 (by decide) ?_
              exact hK1 _ (Option.some.inj hf).symm ls H locs hH (lv_sub hl [0] rfl)
            · replace hf := (if_neg hc).symm.trans hf
              replace hf := hK2 _ (Option.some.inj hf).symm
              subst hf
              exact hX ls H locs hH (lv_sub hl [0] rfl)) _ hlp
  exact hG ls H locs hH (lv_sub hl [0] rfl)

theorem dX4_fail_0 : decode cX4_fail 0 = .ok (.aload_n 0, 1) := by decide +kernel
theorem dX4_fail_1 : decode cX4_fail 1 = .ok (.iload_n 1, 1) := by decide +kernel
theorem dX4_fail_2 : decode cX4_fail 2 = .ok (.putfield 22, 3) := by decide +kernel
theorem dX4_fail_5 : decode cX4_fail 5 = .ok (.iconst 0, 1) := by decide +kernel
theorem dX4_fail_6 : decode cX4_fail 6 = .ok (.ireturn, 1) := by decide +kernel
set_option maxRecDepth 100000 in
set_option maxHeartbeats 4000000 in
theorem tz_X4_fail (l : Launch) (X : qX) {p0 : Int32} {M MR : qM} {r0 : Bool} (hf : jTp_fail p0 M = (r0, MR)) : q_Met l X yX4_fail cX4_fail 2 (some .boolean) (1) M [.ref (X.1 1), .int p0] (q_Qi X (b2i r0) MR) := by
  refine q_enter (by decide) (Nat.le_of_ble_eq_true rfl) ?_
  intro p e s m args below meth c hE hrt hlk H locs hH ls hl
  have hx := hE.1
  have hb := hE.2.1
  have hl : lv_has ls 2 [(0, .ref (X.1 1)), (1, .int p0)] := hl
  unfold jTp_fail at hf
  refine lv_aload_n hx hb dX4_fail_0 rfl (lv_at hl 0 rfl) ?_
  refine lv_iload_n hx hb dX4_fail_1 rfl (lv_at hl 1 rfl) ?_
  obtain ⟨M1, eM1, hf⟩ := st_lty hf
  refine pz_pI hE hH fw_X4_22 qk_1  eM1 dX4_fail_2 (fun H locs hH => ?_)
  refine lv_iconst (v := 0) hx hb dX4_fail_5 (by decide) ?_
  obtain ⟨rfl, rfl⟩ := qi2 hf
  exact pz_retz hE hrt hlk hH rfl dX4_fail_6

theorem dX4_take_0 : decode cX4_take 0 = .ok (.aload_n 0, 1) := by decide +kernel
theorem dX4_take_1 : decode cX4_take 1 = .ok (.invokevirtual 25, 3) := by decide +kernel
theorem dX4_take_4 : decode cX4_take 4 = .ok (.iload_n 1, 1) := by decide +kernel
theorem dX4_take_5 : decode cX4_take 5 = .ok (.if_icmp .eq 12, 3) := by decide +kernel
theorem dX4_take_8 : decode cX4_take 8 = .ok (.aload_n 0, 1) := by decide +kernel
theorem dX4_take_9 : decode cX4_take 9 = .ok (.aload_n 0, 1) := by decide +kernel
theorem dX4_take_10 : decode cX4_take 10 = .ok (.getfield 19, 3) := by decide +kernel
theorem dX4_take_13 : decode cX4_take 13 = .ok (.invokevirtual 29, 3) := by decide +kernel
theorem dX4_take_16 : decode cX4_take 16 = .ok (.ireturn, 1) := by decide +kernel
theorem dX4_take_17 : decode cX4_take 17 = .ok (.aload_n 0, 1) := by decide +kernel
theorem dX4_take_18 : decode cX4_take 18 = .ok (.dup, 1) := by decide +kernel
theorem dX4_take_19 : decode cX4_take 19 = .ok (.getfield 19, 3) := by decide +kernel
theorem dX4_take_22 : decode cX4_take 22 = .ok (.iconst 1, 1) := by decide +kernel
theorem dX4_take_23 : decode cX4_take 23 = .ok (.iadd, 1) := by decide +kernel
theorem dX4_take_24 : decode cX4_take 24 = .ok (.putfield 19, 3) := by decide +kernel
theorem dX4_take_27 : decode cX4_take 27 = .ok (.iconst 1, 1) := by decide +kernel
theorem dX4_take_28 : decode cX4_take 28 = .ok (.ireturn, 1) := by decide +kernel
set_option maxRecDepth 100000 in
set_option maxHeartbeats 4000000 in
theorem tz_X4_take (l : Launch) (X : qX) {p0 : Int32} {M MR : qM} {r0 : Bool} (hf : jTp_take p0 M = some (r0, MR)) : q_Met l X yX4_take cX4_take 2 (some .boolean) (2) M [.ref (X.1 1), .int p0] (q_Qi X (b2i r0) MR) := by
  refine q_enter (by decide) (Nat.le_of_ble_eq_true rfl) ?_
  intro p e s m args below meth c hE hrt hlk H locs hH ls hl
  have hx := hE.1
  have hb := hE.2.1
  have hl : lv_has ls 2 [(0, .ref (X.1 1)), (1, .int p0)] := hl
  unfold jTp_take at hf
  refine lv_aload_n hx hb dX4_take_0 rfl (lv_at hl 0 rfl) ?_
  obtain ⟨w1, ew1, hf⟩ := st_bd hf
  obtain ⟨r2, M3⟩ := w1
  replace hf := st_u2 hf
  refine q_calli (q_runV (As := []) (rest := []) hE hH (tz_X4_peek l X (hf := ew1)) kv_X4_25 qk_1 (by decide) rfl hl.1 rfl (Nat.le_of_ble_eq_true rfl) dX4_take_1) hH (fun H locs hH => ?_)
  refine lv_iload_n hx hb dX4_take_4 rfl (lv_at hl 1 rfl) ?_
  refine lv_icmp_eq (tgt := 17) hx hb dX4_take_5 (by decide) (fun hc => ?_) (fun hc => ?_)
  · replace hf := (if_pos hc).symm.trans hf
    refine lv_aload_n hx hb dX4_take_17 rfl (lv_at hl 0 rfl) ?_
    refine lv_dup hx hb dX4_take_18 rfl ?_
    refine pz_gI hE hH fr_X4_19 qk_1 dX4_take_19 ?_
    refine lv_iconst (v := 1) hx hb dX4_take_22 (by decide) ?_
    refine lv_iadd hx hb dX4_take_23 ?_
    obtain ⟨M4, eM4, hf⟩ := st_lty hf
    refine pz_pI hE hH fw_X4_19 qk_1  eM4 dX4_take_24 (fun H locs hH => ?_)
    refine lv_iconst (v := 1) hx hb dX4_take_27 (by decide) ?_
    replace hf := Option.some.inj hf
    obtain ⟨rfl, rfl⟩ := qi2 hf
    exact pz_retz hE hrt hlk hH rfl dX4_take_28
  · replace hf := (if_neg hc).symm.trans hf
    refine lv_aload_n hx hb dX4_take_8 rfl (lv_at hl 0 rfl) ?_
    refine lv_aload_n hx hb dX4_take_9 rfl (lv_at hl 0 rfl) ?_
    refine pz_gI hE hH fr_X4_19 qk_1 dX4_take_10 ?_
    obtain ⟨w5, ew5, hf⟩ := st_lty hf
    obtain ⟨r6, M7⟩ := w5
    replace hf := st_u2 hf
    refine q_calli (q_runV (As := [.int (M3.1 1 2)]) (rest := []) hE hH (tz_X4_fail l X (hf := ew5.symm)) kv_X4_29 qk_1 (by decide) rfl hl.1 rfl (Nat.le_of_ble_eq_true rfl) dX4_take_13) hH (fun H locs hH => ?_)
    replace hf := Option.some.inj hf
    obtain ⟨rfl, rfl⟩ := qi2 hf
    exact pz_retz hE hrt hlk hH rfl dX4_take_16

theorem dX4_isDigit_0 : decode cX4_isDigit 0 = .ok (.iload_n 0, 1) := by decide +kernel
theorem dX4_isDigit_1 : decode cX4_isDigit 1 = .ok (.bipush 48, 2) := by decide +kernel
theorem dX4_isDigit_3 : decode cX4_isDigit 3 = .ok (.if_icmp .lt 13, 3) := by decide +kernel
theorem dX4_isDigit_6 : decode cX4_isDigit 6 = .ok (.iload_n 0, 1) := by decide +kernel
theorem dX4_isDigit_7 : decode cX4_isDigit 7 = .ok (.bipush 57, 2) := by decide +kernel
theorem dX4_isDigit_9 : decode cX4_isDigit 9 = .ok (.if_icmp .gt 7, 3) := by decide +kernel
theorem dX4_isDigit_12 : decode cX4_isDigit 12 = .ok (.iconst 1, 1) := by decide +kernel
theorem dX4_isDigit_13 : decode cX4_isDigit 13 = .ok (.goto 4, 3) := by decide +kernel
theorem dX4_isDigit_16 : decode cX4_isDigit 16 = .ok (.iconst 0, 1) := by decide +kernel
theorem dX4_isDigit_17 : decode cX4_isDigit 17 = .ok (.ireturn, 1) := by decide +kernel
set_option maxRecDepth 100000 in
set_option maxHeartbeats 4000000 in
theorem tz_X4_isDigit (l : Launch) (X : qX) {p0 : Int32} {M : qM} {r0 : Bool} (hf : jTp_isDigit p0 = r0) : q_Met l X yX4_isDigit cX4_isDigit 1 (some .boolean) (1) M [.int p0] (q_Qi X (b2i r0) M) := by
  refine q_enter (by decide) (Nat.le_of_ble_eq_true rfl) ?_
  intro p e s m args below meth c hE hrt hlk H locs hH ls hl
  have hx := hE.1
  have hb := hE.2.1
  have hl : lv_has ls 1 [(0, .int p0)] := hl
  unfold jTp_isDigit at hf
  refine lv_iload_n hx hb dX4_isDigit_0 rfl (lv_at hl 0 rfl) ?_
  refine lv_bipush (v := 48) hx hb dX4_isDigit_1 (by decide) ?_
  obtain ⟨z1, hr, hf⟩ := st_ltx hf
  have hJ : ∀ (ls : Array Slot) (H : Heap) (locs : List Loc), q_H X M s H locs → lv_has ls 1 [] → W p l e (q_rm (1)) s m args below meth c H locs 0 0 (MQ below (q_Qi X (b2i r0) M) args s 0 0 (q_A X)) (F0 m 17 ls [.int (b2i z1)]) := by
    intro ls H locs hH hl
    subst hf
    exact pz_retz hE hrt hlk hH rfl dX4_isDigit_17
  clear hf
  replace hf := hr
  refine lv_icmp_lt (tgt := 16) hx hb dX4_isDigit_3 (by decide) (fun hc => ?_) (fun hc => ?_)
  · replace hf := (if_pos hc).symm.trans hf
    refine lv_iconst (v := 0) hx hb dX4_isDigit_16 (by decide) ?_
    subst hf
    exact hJ ls H locs hH (lv_sub hl [] rfl)
  · replace hf := (if_neg hc).symm.trans hf
    refine lv_iload_n hx hb dX4_isDigit_6 rfl (lv_at hl 0 rfl) ?_
    refine lv_bipush (v := 57) hx hb dX4_isDigit_7 (by decide) ?_
    refine lv_icmp_gt (tgt := 16) hx hb dX4_isDigit_9 (by decide) (fun hc => ?_) (fun hc => ?_)
    · replace hf := (if_pos hc).symm.trans hf
      refine lv_iconst (v := 0) hx hb dX4_isDigit_16 (by decide) ?_
      subst hf
      exact hJ ls H locs hH (lv_sub hl [] rfl)
    · replace hf := (if_neg hc).symm.trans hf
      refine lv_iconst (v := 1) hx hb dX4_isDigit_12 (by decide) ?_
      refine lv_goto (tgt := 17) hx hb dX4_isDigit_13 (by decide) ?_
      subst hf
      exact hJ ls H locs hH (lv_sub hl [] rfl)

theorem dX4_takeNumber_0 : decode cX4_takeNumber 0 = .ok (.aload_n 0, 1) := by decide +kernel
theorem dX4_takeNumber_1 : decode cX4_takeNumber 1 = .ok (.invokevirtual 25, 3) := by decide +kernel
theorem dX4_takeNumber_4 : decode cX4_takeNumber 4 = .ok (.invokestatic 33, 3) := by decide +kernel
theorem dX4_takeNumber_7 : decode cX4_takeNumber 7 = .ok (.ifCond .ne 14, 3) := by decide +kernel
theorem dX4_takeNumber_10 : decode cX4_takeNumber 10 = .ok (.aload_n 0, 1) := by decide +kernel
theorem dX4_takeNumber_11 : decode cX4_takeNumber 11 = .ok (.aload_n 0, 1) := by decide +kernel
theorem dX4_takeNumber_12 : decode cX4_takeNumber 12 = .ok (.getfield 19, 3) := by decide +kernel
theorem dX4_takeNumber_15 : decode cX4_takeNumber 15 = .ok (.invokevirtual 29, 3) := by decide +kernel
theorem dX4_takeNumber_18 : decode cX4_takeNumber 18 = .ok (.pop, 1) := by decide +kernel
theorem dX4_takeNumber_19 : decode cX4_takeNumber 19 = .ok (.iconst (-1), 1) := by decide +kernel
theorem dX4_takeNumber_20 : decode cX4_takeNumber 20 = .ok (.ireturn, 1) := by decide +kernel
theorem dX4_takeNumber_21 : decode cX4_takeNumber 21 = .ok (.iconst 0, 1) := by decide +kernel
theorem dX4_takeNumber_22 : decode cX4_takeNumber 22 = .ok (.istore_n 2, 1) := by decide +kernel
theorem dX4_takeNumber_23 : decode cX4_takeNumber 23 = .ok (.iconst 0, 1) := by decide +kernel
theorem dX4_takeNumber_24 : decode cX4_takeNumber 24 = .ok (.istore_n 3, 1) := by decide +kernel
theorem dX4_takeNumber_25 : decode cX4_takeNumber 25 = .ok (.iload_n 3, 1) := by decide +kernel
theorem dX4_takeNumber_26 : decode cX4_takeNumber 26 = .ok (.iload_n 1, 1) := by decide +kernel
theorem dX4_takeNumber_27 : decode cX4_takeNumber 27 = .ok (.if_icmp .ge 42, 3) := by decide +kernel
theorem dX4_takeNumber_30 : decode cX4_takeNumber 30 = .ok (.aload_n 0, 1) := by decide +kernel
theorem dX4_takeNumber_31 : decode cX4_takeNumber 31 = .ok (.invokevirtual 36, 3) := by decide +kernel
theorem dX4_takeNumber_34 : decode cX4_takeNumber 34 = .ok (.invokestatic 33, 3) := by decide +kernel
theorem dX4_takeNumber_37 : decode cX4_takeNumber 37 = .ok (.ifCond .eq 32, 3) := by decide +kernel
theorem dX4_takeNumber_40 : decode cX4_takeNumber 40 = .ok (.iload_n 2, 1) := by decide +kernel
theorem dX4_takeNumber_41 : decode cX4_takeNumber 41 = .ok (.bipush 10, 2) := by decide +kernel
theorem dX4_takeNumber_43 : decode cX4_takeNumber 43 = .ok (.imul, 1) := by decide +kernel
theorem dX4_takeNumber_44 : decode cX4_takeNumber 44 = .ok (.aload_n 0, 1) := by decide +kernel
theorem dX4_takeNumber_45 : decode cX4_takeNumber 45 = .ok (.invokevirtual 36, 3) := by decide +kernel
theorem dX4_takeNumber_48 : decode cX4_takeNumber 48 = .ok (.iadd, 1) := by decide +kernel
theorem dX4_takeNumber_49 : decode cX4_takeNumber 49 = .ok (.bipush 48, 2) := by decide +kernel
theorem dX4_takeNumber_51 : decode cX4_takeNumber 51 = .ok (.isub, 1) := by decide +kernel
theorem dX4_takeNumber_52 : decode cX4_takeNumber 52 = .ok (.istore_n 2, 1) := by decide +kernel
theorem dX4_takeNumber_53 : decode cX4_takeNumber 53 = .ok (.aload_n 0, 1) := by decide +kernel
theorem dX4_takeNumber_54 : decode cX4_takeNumber 54 = .ok (.dup, 1) := by decide +kernel
theorem dX4_takeNumber_55 : decode cX4_takeNumber 55 = .ok (.getfield 19, 3) := by decide +kernel
theorem dX4_takeNumber_58 : decode cX4_takeNumber 58 = .ok (.iconst 1, 1) := by decide +kernel
theorem dX4_takeNumber_59 : decode cX4_takeNumber 59 = .ok (.iadd, 1) := by decide +kernel
theorem dX4_takeNumber_60 : decode cX4_takeNumber 60 = .ok (.putfield 19, 3) := by decide +kernel
theorem dX4_takeNumber_63 : decode cX4_takeNumber 63 = .ok (.iinc 3 1, 3) := by decide +kernel
theorem dX4_takeNumber_66 : decode cX4_takeNumber 66 = .ok (.goto (-41), 3) := by decide +kernel
theorem dX4_takeNumber_69 : decode cX4_takeNumber 69 = .ok (.aload_n 0, 1) := by decide +kernel
theorem dX4_takeNumber_70 : decode cX4_takeNumber 70 = .ok (.invokevirtual 36, 3) := by decide +kernel
theorem dX4_takeNumber_73 : decode cX4_takeNumber 73 = .ok (.invokestatic 33, 3) := by decide +kernel
theorem dX4_takeNumber_76 : decode cX4_takeNumber 76 = .ok (.ifCond .eq 14, 3) := by decide +kernel
theorem dX4_takeNumber_79 : decode cX4_takeNumber 79 = .ok (.aload_n 0, 1) := by decide +kernel
theorem dX4_takeNumber_80 : decode cX4_takeNumber 80 = .ok (.aload_n 0, 1) := by decide +kernel
theorem dX4_takeNumber_81 : decode cX4_takeNumber 81 = .ok (.getfield 19, 3) := by decide +kernel
theorem dX4_takeNumber_84 : decode cX4_takeNumber 84 = .ok (.invokevirtual 29, 3) := by decide +kernel
theorem dX4_takeNumber_87 : decode cX4_takeNumber 87 = .ok (.pop, 1) := by decide +kernel
theorem dX4_takeNumber_88 : decode cX4_takeNumber 88 = .ok (.iconst (-1), 1) := by decide +kernel
theorem dX4_takeNumber_89 : decode cX4_takeNumber 89 = .ok (.ireturn, 1) := by decide +kernel
theorem dX4_takeNumber_90 : decode cX4_takeNumber 90 = .ok (.iload_n 2, 1) := by decide +kernel
theorem dX4_takeNumber_91 : decode cX4_takeNumber 91 = .ok (.ireturn, 1) := by decide +kernel
set_option maxRecDepth 100000 in
set_option maxHeartbeats 4000000 in
theorem tz_X4_takeNumber (l : Launch) (X : qX) {p0 : Int32} {M MR : qM} {r0 : Int32} (hf : jTp_takeNumber p0 M = some (r0, MR)) : q_Met l X yX4_takeNumber cX4_takeNumber 4 (some .int) (2) M [.ref (X.1 1), .int p0] (q_Qi X r0 MR) := by
  refine q_enter (by decide) (Nat.le_of_ble_eq_true rfl) ?_
  intro p e s m args below meth c hE hrt hlk H locs hH ls hl
  have hx := hE.1
  have hb := hE.2.1
  have hl : lv_has ls 4 [(0, .ref (X.1 1)), (1, .int p0)] := hl
  unfold jTp_takeNumber at hf
  refine lv_aload_n hx hb dX4_takeNumber_0 rfl (lv_at hl 0 rfl) ?_
  obtain ⟨w1, ew1, hf⟩ := st_bd hf
  obtain ⟨r2, M3⟩ := w1
  replace hf := st_u2 hf
  refine q_calli (q_runV (As := []) (rest := []) hE hH (tz_X4_peek l X (hf := ew1)) kv_X4_25 qk_1 (by decide) rfl hl.1 rfl (Nat.le_of_ble_eq_true rfl) dX4_takeNumber_1) hH (fun H locs hH => ?_)
  refine q_calli (q_runS (As := [.int r2]) (rest := []) hE hH (tz_X4_isDigit l X (M := M3) (hf := rfl)) ks_X4_33 (by decide) rfl hl.1 rfl (Nat.le_of_ble_eq_true rfl) dX4_takeNumber_4) hH (fun H locs hH => ?_)
  refine lv_if_ne (tgt := 21) hx hb dX4_takeNumber_7 (by decide) (fun hc => ?_) (fun hc => ?_)
  · replace hf := (if_neg hc).symm.trans hf
    refine lv_iconst (v := 0) hx hb dX4_takeNumber_21 (by decide) ?_
    refine lv_istore_n (lv' := [(2, .int 0), (0, .ref (X.1 1)), (1, .int p0)]) hx hb dX4_takeNumber_22 rfl hl (by decide) rfl (fun ls hl => ?_)
    refine lv_iconst (v := 0) hx hb dX4_takeNumber_23 (by decide) ?_
    refine lv_istore_n (lv' := [(3, .int 0), (2, .int 0), (0, .ref (X.1 1)), (1, .int p0)]) hx hb dX4_takeNumber_24 rfl hl (by decide) rfl (fun ls hl => ?_)
    obtain ⟨r9, hlp, hf⟩ := st_bd hf
    have hX : (fun q0 => qu2 q0 (fun x7 M8 => ∀ (ls : Array Slot) (H : Heap) (locs : List Loc), q_H X M8 s H locs → lv_has ls 4 [(0, .ref (X.1 1)), (2, .int x7)] → W p l e (q_rm (2)) s m args below meth c H locs 0 0 (MQ below (q_Qi X r0 MR) args s 0 0 (q_A X)) (F0 m 69 ls [])) : (Int32 × qM) → Prop) r9 := by
      obtain ⟨x7, M8⟩ := r9
      replace hf := st_u2 hf
      intro ls H locs hH hl
      refine lv_aload_n hx hb dX4_takeNumber_69 rfl (lv_at hl 0 rfl) ?_
      obtain ⟨r10, er10, hf⟩ := st_bd hf
      refine q_calli (q_runV (As := []) (rest := []) hE hH (tz_X4_next l X (hf := er10)) kv_X4_36 qk_1 (by decide) rfl hl.1 rfl (Nat.le_of_ble_eq_true rfl) dX4_takeNumber_70) hH (fun H locs hH => ?_)
      refine q_calli (q_runS (As := [.int r10]) (rest := []) hE hH (tz_X4_isDigit l X (M := M8) (hf := rfl)) ks_X4_33 (by decide) rfl hl.1 rfl (Nat.le_of_ble_eq_true rfl) dX4_takeNumber_73) hH (fun H locs hH => ?_)
      refine lv_if_eq (tgt := 90) hx hb dX4_takeNumber_76 (by decide) (fun hc => ?_) (fun hc => ?_)
      · replace hf := (if_pos hc).symm.trans hf
        refine lv_iload_n hx hb dX4_takeNumber_90 rfl (lv_at hl 1 rfl) ?_
        replace hf := Option.some.inj hf
        obtain ⟨rfl, rfl⟩ := qi2 hf
        exact pz_reti hE hrt hlk hH dX4_takeNumber_91
      · replace hf := (if_neg hc).symm.trans hf
        refine lv_aload_n hx hb dX4_takeNumber_79 rfl (lv_at hl 0 rfl) ?_
        refine lv_aload_n hx hb dX4_takeNumber_80 rfl (lv_at hl 0 rfl) ?_
        refine pz_gI hE hH fr_X4_19 qk_1 dX4_takeNumber_81 ?_
        obtain ⟨w11, ew11, hf⟩ := st_lty hf
        obtain ⟨r12, M13⟩ := w11
        replace hf := st_u2 hf
        refine q_calli (q_runV (As := [.int (M8.1 1 2)]) (rest := []) hE hH (tz_X4_fail l X (hf := ew11.symm)) kv_X4_29 qk_1 (by decide) rfl hl.1 rfl (Nat.le_of_ble_eq_true rfl) dX4_takeNumber_84) hH (fun H locs hH => ?_)
        refine lv_pop hx hb dX4_takeNumber_87 rfl ?_
        refine lv_iconst (v := (-1)) hx hb dX4_takeNumber_88 (by decide) ?_
        replace hf := Option.some.inj hf
        obtain ⟨rfl, rfl⟩ := qi2 hf
        exact pz_reti hE hrt hlk hH dX4_takeNumber_89
    clear hf
    have hG := qlp_ind (r := r9) (fun q => qu3 q (fun x4 x5 M6 => ∀ (ls : Array Slot) (H : Heap) (locs : List Loc), q_H X M6 s H locs → lv_has ls 4 [(0, .ref (X.1 1)), (1, .int p0), (2, .int x4), (3, .int x5)] → W p l e (q_rm (2)) s m args below meth c H locs 0 0 (MQ below (q_Qi X r0 MR) args s 0 0 (q_A X)) (F0 m 25 ls []))) (by
        intro q o hf hK1 hK2
        obtain ⟨x4, x5, M6⟩ := q
        replace hf := st_u3 hf
        intro ls H locs hH hl
        refine lv_iload_n hx hb dX4_takeNumber_25 rfl (lv_at hl 3 rfl) ?_
        refine lv_iload_n hx hb dX4_takeNumber_26 rfl (lv_at hl 1 rfl) ?_
        refine lv_icmp_ge (tgt := 69) hx hb dX4_takeNumber_27 (by decide) (fun hc => ?_) (fun hc => ?_)
        · replace hf := (if_pos hc).symm.trans hf
          replace hf := hK2 _ (Option.some.inj hf).symm
          subst hf
          exact hX ls H locs hH (lv_sub hl [0, 2] rfl)
        · replace hf := (if_neg hc).symm.trans hf
          refine lv_aload_n hx hb dX4_takeNumber_30 rfl (lv_at hl 0 rfl) ?_
          obtain ⟨r14, er14, hf⟩ := st_bd hf
          refine q_calli (q_runV (As := []) (rest := []) hE hH (tz_X4_next l X (hf := er14)) kv_X4_36 qk_1 (by decide) rfl hl.1 rfl (Nat.le_of_ble_eq_true rfl) dX4_takeNumber_31) hH (fun H locs hH => ?_)
          refine q_calli (q_runS (As := [.int r14]) (rest := []) hE hH (tz_X4_isDigit l X (M := M6) (hf := rfl)) ks_X4_33 (by decide) rfl hl.1 rfl (Nat.le_of_ble_eq_true rfl) dX4_takeNumber_34) hH (fun H locs hH => ?_)
          refine lv_if_eq (tgt := 69) hx hb dX4_takeNumber_37 (by decide) (fun hc => ?_) (fun hc => ?_)
          · replace hf := (if_pos hc).symm.trans hf
            replace hf := hK2 _ (Option.some.inj hf).symm
            subst hf
            exact hX ls H locs hH (lv_sub hl [0, 2] rfl)
          · replace hf := (if_neg hc).symm.trans hf
            refine lv_iload_n hx hb dX4_takeNumber_40 rfl (lv_at hl 2 rfl) ?_
            refine lv_bipush (v := 10) hx hb dX4_takeNumber_41 (by decide) ?_
            refine lv_imul hx hb dX4_takeNumber_43 ?_
            refine lv_aload_n hx hb dX4_takeNumber_44 rfl (lv_at hl 0 rfl) ?_
            obtain ⟨r15, er15, hf⟩ := st_bd hf
            refine q_calli (q_runV (As := []) (rest := [.int (x4 * 10)]) hE hH (tz_X4_next l X (hf := er15)) kv_X4_36 qk_1 (by decide) rfl hl.1 rfl (Nat.le_of_ble_eq_true rfl) dX4_takeNumber_45) hH (fun H locs hH => ?_)
            refine lv_iadd hx hb dX4_takeNumber_48 ?_
            refine lv_bipush (v := 48) hx hb dX4_takeNumber_49 (by decide) ?_
            refine lv_isub hx hb dX4_takeNumber_51 ?_
            refine lv_topi (fun x16 ex16 => ?_)
            replace hf := st_lt hf ex16
            refine lv_istore_n (lv' := [(2, .int x16), (0, .ref (X.1 1)), (1, .int p0), (3, .int x5)]) hx hb dX4_takeNumber_52 rfl hl (by decide) rfl (fun ls hl => ?_)
            refine lv_aload_n hx hb dX4_takeNumber_53 rfl (lv_at hl 1 rfl) ?_
            refine lv_dup hx hb dX4_takeNumber_54 rfl ?_
            refine pz_gI hE hH fr_X4_19 qk_1 dX4_takeNumber_55 ?_
            refine lv_iconst (v := 1) hx hb dX4_takeNumber_58 (by decide) ?_
            refine lv_iadd hx hb dX4_takeNumber_59 ?_
            obtain ⟨M17, eM17, hf⟩ := st_lty hf
            refine pz_pI hE hH fw_X4_19 qk_1  eM17 dX4_takeNumber_60 (fun H locs hH => ?_)
            obtain ⟨x18, ex18, hf⟩ := st_lty hf
            refine lv_iinc (v := x18) (lv' := [(3, .int x18), (2, .int x16), (0, .ref (X.1 1)), (1, .int p0)]) hx hb dX4_takeNumber_63 hl (k := 3) rfl (by rw [ex18]; rfl) (by decide) rfl (fun ls hl => ?_)
            refine lv_goto (tgt := 25) hx hb dX4_takeNumber_66 (by decide) ?_
            exact hK1 _ (Option.some.inj hf).symm ls H locs hH (lv_sub hl [2, 3, 1, 0] rfl)) _ hlp
    exact hG ls H locs hH (lv_sub hl [2, 3, 1, 0] rfl)
  · replace hf := (if_pos hc).symm.trans hf
    refine lv_aload_n hx hb dX4_takeNumber_10 rfl (lv_at hl 0 rfl) ?_
    refine lv_aload_n hx hb dX4_takeNumber_11 rfl (lv_at hl 0 rfl) ?_
    refine pz_gI hE hH fr_X4_19 qk_1 dX4_takeNumber_12 ?_
    obtain ⟨w19, ew19, hf⟩ := st_lty hf
    obtain ⟨r20, M21⟩ := w19
    replace hf := st_u2 hf
    refine q_calli (q_runV (As := [.int (M3.1 1 2)]) (rest := []) hE hH (tz_X4_fail l X (hf := ew19.symm)) kv_X4_29 qk_1 (by decide) rfl hl.1 rfl (Nat.le_of_ble_eq_true rfl) dX4_takeNumber_15) hH (fun H locs hH => ?_)
    refine lv_pop hx hb dX4_takeNumber_18 rfl ?_
    refine lv_iconst (v := (-1)) hx hb dX4_takeNumber_19 (by decide) ?_
    replace hf := Option.some.inj hf
    obtain ⟨rfl, rfl⟩ := qi2 hf
    exact pz_reti hE hrt hlk hH dX4_takeNumber_20

theorem dX4_peekAmong_0 : decode cX4_peekAmong 0 = .ok (.aload_n 0, 1) := by decide +kernel
theorem dX4_peekAmong_1 : decode cX4_peekAmong 1 = .ok (.invokevirtual 25, 3) := by decide +kernel
theorem dX4_peekAmong_4 : decode cX4_peekAmong 4 = .ok (.istore_n 2, 1) := by decide +kernel
theorem dX4_peekAmong_5 : decode cX4_peekAmong 5 = .ok (.iload_n 2, 1) := by decide +kernel
theorem dX4_peekAmong_6 : decode cX4_peekAmong 6 = .ok (.iconst (-1), 1) := by decide +kernel
theorem dX4_peekAmong_7 : decode cX4_peekAmong 7 = .ok (.if_icmp .ne 7, 3) := by decide +kernel
theorem dX4_peekAmong_10 : decode cX4_peekAmong 10 = .ok (.iconst (-1), 1) := by decide +kernel
theorem dX4_peekAmong_11 : decode cX4_peekAmong 11 = .ok (.goto 9, 3) := by decide +kernel
theorem dX4_peekAmong_14 : decode cX4_peekAmong 14 = .ok (.aload_n 1, 1) := by decide +kernel
theorem dX4_peekAmong_15 : decode cX4_peekAmong 15 = .ok (.iload_n 2, 1) := by decide +kernel
theorem dX4_peekAmong_16 : decode cX4_peekAmong 16 = .ok (.i2c, 1) := by decide +kernel
theorem dX4_peekAmong_17 : decode cX4_peekAmong 17 = .ok (.invokevirtual 39, 3) := by decide +kernel
theorem dX4_peekAmong_20 : decode cX4_peekAmong 20 = .ok (.ireturn, 1) := by decide +kernel
set_option maxRecDepth 100000 in
set_option maxHeartbeats 4000000 in
theorem tz_X4_peekAmong (l : Launch) (X : qX) {p0 : Nat} {M MR : qM} {r0 : Int32} (hp0 : p0 < 3) (hf : jTp_peekAmong p0 M = some (r0, MR)) : q_Met l X yX4_peekAmong cX4_peekAmong 3 (some .int) (5) M [.ref (X.1 1), .ref (X.2.2.2.2.1 p0)] (q_Qi X r0 MR) := by
  refine q_enter (by decide) (Nat.le_of_ble_eq_true rfl) ?_
  intro p e s m args below meth c hE hrt hlk H locs hH ls hl
  have hx := hE.1
  have hb := hE.2.1
  have hl : lv_has ls 3 [(0, .ref (X.1 1)), (1, .ref (X.2.2.2.2.1 p0))] := hl
  unfold jTp_peekAmong at hf
  refine lv_aload_n hx hb dX4_peekAmong_0 rfl (lv_at hl 0 rfl) ?_
  obtain ⟨w1, ew1, hf⟩ := st_bd hf
  obtain ⟨r2, M3⟩ := w1
  replace hf := st_u2 hf
  refine q_calli (q_runV (As := []) (rest := []) hE hH (tz_X4_peek l X (hf := ew1)) kv_X4_25 qk_1 (by decide) rfl hl.1 rfl (Nat.le_of_ble_eq_true rfl) dX4_peekAmong_1) hH (fun H locs hH => ?_)
  refine lv_istore_n (lv' := [(2, .int r2), (0, .ref (X.1 1)), (1, .ref (X.2.2.2.2.1 p0))]) hx hb dX4_peekAmong_4 rfl hl (by decide) rfl (fun ls hl => ?_)
  refine lv_iload_n hx hb dX4_peekAmong_5 rfl (lv_at hl 0 rfl) ?_
  refine lv_iconst (v := (-1)) hx hb dX4_peekAmong_6 (by decide) ?_
  obtain ⟨x4, hr, hf⟩ := st_bd hf
  have hJ : ∀ (ls : Array Slot) (H : Heap) (locs : List Loc), q_H X M3 s H locs → lv_has ls 3 [] → W p l e (q_rm (5)) s m args below meth c H locs 0 0 (MQ below (q_Qi X r0 MR) args s 0 0 (q_A X)) (F0 m 20 ls [.int x4]) := by
    intro ls H locs hH hl
    replace hf := Option.some.inj hf
    obtain ⟨rfl, rfl⟩ := qi2 hf
    exact pz_reti hE hrt hlk hH dX4_peekAmong_20
  clear hf
  replace hf := hr
  refine lv_icmp_ne (tgt := 14) hx hb dX4_peekAmong_7 (by decide) (fun hc => ?_) (fun hc => ?_)
  · replace hf := (if_neg hc).symm.trans hf
    refine lv_aload_n hx hb dX4_peekAmong_14 rfl (lv_at hl 2 rfl) ?_
    refine lv_iload_n hx hb dX4_peekAmong_15 rfl (lv_at hl 0 rfl) ?_
    refine lv_i2c (v := ((r2 : Int32).toUInt32 % 65536).toInt32) hx hb dX4_peekAmong_16 rfl ?_
    obtain ⟨r5, er5, hf⟩ := st_bd hf
    refine q_calli (q_runT (As := [.int (((r2 : Int32).toUInt32 % 65536).toInt32)]) (rest := []) hE hH (tz_J0_indexOf_0f7a4 l X hp0 (hf := er5)) kt_X4_39 hp0 (by decide) rfl hl.1 rfl (Nat.le_of_ble_eq_true rfl) dX4_peekAmong_17) hH (fun H locs hH => ?_)
    replace hf := Option.some.inj hf
    subst hf
    exact hJ ls H locs hH (lv_sub hl [] rfl)
  · replace hf := (if_pos hc).symm.trans hf
    refine lv_iconst (v := (-1)) hx hb dX4_peekAmong_10 (by decide) ?_
    refine lv_goto (tgt := 20) hx hb dX4_peekAmong_11 (by decide) ?_
    replace hf := Option.some.inj hf
    subst hf
    exact hJ ls H locs hH (lv_sub hl [] rfl)

