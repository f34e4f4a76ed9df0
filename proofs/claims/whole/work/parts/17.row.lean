theorem dX2_isThere_0 : decode cX2_isThere 0 = .ok (.aload_n 0, 1) := by decide +kernel
theorem dX2_isThere_1 : decode cX2_isThere 1 = .ok (.getfield 27, 3) := by decide +kernel
theorem dX2_isThere_4 : decode cX2_isThere 4 = .ok (.ifCond .le 7, 3) := by decide +kernel
theorem dX2_isThere_7 : decode cX2_isThere 7 = .ok (.iconst 1, 1) := by decide +kernel
theorem dX2_isThere_8 : decode cX2_isThere 8 = .ok (.goto 4, 3) := by decide +kernel
theorem dX2_isThere_11 : decode cX2_isThere 11 = .ok (.iconst 0, 1) := by decide +kernel
theorem dX2_isThere_12 : decode cX2_isThere 12 = .ok (.ireturn, 1) := by decide +kernel
set_option maxRecDepth 100000 in
set_option maxHeartbeats 4000000 in
theorem tz_X2_isThere (l : Launch) (X : qX) {M : qM} {r0 : Bool} (hf : jRo_isThere M = r0) : q_Met l X yX2_isThere cX2_isThere 1 (some .boolean) (1) M [.ref (X.1 49)] (q_Qi X (b2i r0) M) := by
  refine q_enter (by decide) (Nat.le_of_ble_eq_true rfl) ?_
  intro p e s m args below meth c hE hrt hlk H locs hH ls hl
  have hx := hE.1
  have hb := hE.2.1
  have hl : lv_has ls 1 [(0, .ref (X.1 49))] := hl
  unfold jRo_isThere at hf
  refine lv_aload_n hx hb dX2_isThere_0 rfl (lv_at hl 0 rfl) ?_
  refine pz_gI hE hH fr_X2_27 qk_49 dX2_isThere_1 ?_
  obtain ⟨z1, hr, hf⟩ := st_ltx hf
  have hJ : ∀ (ls : Array Slot) (H : Heap) (locs : List Loc), q_H X M s H locs → lv_has ls 1 [] → W p l e (q_rm (1)) s m args below meth c H locs 0 0 (MQ below (q_Qi X (b2i r0) M) args s 0 0 (q_A X)) (F0 m 12 ls [.int (b2i z1)]) := by
    intro ls H locs hH hl
    subst hf
    exact pz_retz hE hrt hlk hH rfl dX2_isThere_12
  clear hf
  replace hf := hr
  refine lv_if_le (tgt := 11) hx hb dX2_isThere_4 (by decide) (fun hc => ?_) (fun hc => ?_)
  · replace hf := (if_pos hc).symm.trans hf
    refine lv_iconst (v := 0) hx hb dX2_isThere_11 (by decide) ?_
    subst hf
    exact hJ ls H locs hH (lv_sub hl [] rfl)
  · replace hf := (if_neg hc).symm.trans hf
    refine lv_iconst (v := 1) hx hb dX2_isThere_7 (by decide) ?_
    refine lv_goto (tgt := 12) hx hb dX2_isThere_8 (by decide) ?_
    subst hf
    exact hJ ls H locs hH (lv_sub hl [] rfl)

theorem dX2_begin_0 : decode cX2_begin 0 = .ok (.aload_n 0, 1) := by decide +kernel
theorem dX2_begin_1 : decode cX2_begin 1 = .ok (.iload_n 1, 1) := by decide +kernel
theorem dX2_begin_2 : decode cX2_begin 2 = .ok (.putfield 11, 3) := by decide +kernel
theorem dX2_begin_5 : decode cX2_begin 5 = .ok (.aload_n 0, 1) := by decide +kernel
theorem dX2_begin_6 : decode cX2_begin 6 = .ok (.iload_n 2, 1) := by decide +kernel
theorem dX2_begin_7 : decode cX2_begin 7 = .ok (.putfield 15, 3) := by decide +kernel
theorem dX2_begin_10 : decode cX2_begin 10 = .ok (.aload_n 0, 1) := by decide +kernel
theorem dX2_begin_11 : decode cX2_begin 11 = .ok (.iload_n 3, 1) := by decide +kernel
theorem dX2_begin_12 : decode cX2_begin 12 = .ok (.putfield 27, 3) := by decide +kernel
theorem dX2_begin_15 : decode cX2_begin 15 = .ok (.aload_n 0, 1) := by decide +kernel
theorem dX2_begin_16 : decode cX2_begin 16 = .ok (.getfield 30, 3) := by decide +kernel
theorem dX2_begin_19 : decode cX2_begin 19 = .ok (.iconst 5, 1) := by decide +kernel
theorem dX2_begin_20 : decode cX2_begin 20 = .ok (.invokestatic 68, 3) := by decide +kernel
theorem dX2_begin_23 : decode cX2_begin 23 = .ok (.aload_n 0, 1) := by decide +kernel
theorem dX2_begin_24 : decode cX2_begin 24 = .ok (.iconst (-1), 1) := by decide +kernel
theorem dX2_begin_25 : decode cX2_begin 25 = .ok (.putfield 65, 3) := by decide +kernel
theorem dX2_begin_28 : decode cX2_begin 28 = .ok (.return_, 1) := by decide +kernel
set_option maxRecDepth 100000 in
set_option maxHeartbeats 4000000 in
theorem tz_X2_begin (l : Launch) (X : qX) {p0 : Int32} {p1 : Int32} {p2 : Int32} {M MR : qM} (hf : jRo_begin p0 p1 p2 M = some MR) : q_Met l X yX2_begin cX2_begin 4 none (2) M [.ref (X.1 49), .int p0, .int p1, .int p2] (q_Qv X MR) := by
  refine q_enter (by decide) (Nat.le_of_ble_eq_true rfl) ?_
  intro p e s m args below meth c hE hrt hlk H locs hH ls hl
  have hx := hE.1
  have hb := hE.2.1
  have hl : lv_has ls 4 [(0, .ref (X.1 49)), (1, .int p0), (2, .int p1), (3, .int p2)] := hl
  unfold jRo_begin at hf
  refine lv_aload_n hx hb dX2_begin_0 rfl (lv_at hl 0 rfl) ?_
  refine lv_iload_n hx hb dX2_begin_1 rfl (lv_at hl 1 rfl) ?_
  obtain ⟨M1, eM1, hf⟩ := st_lty hf
  refine pz_pI hE hH fw_X2_11 qk_49  eM1 dX2_begin_2 (fun H locs hH => ?_)
  refine lv_aload_n hx hb dX2_begin_5 rfl (lv_at hl 0 rfl) ?_
  refine lv_iload_n hx hb dX2_begin_6 rfl (lv_at hl 2 rfl) ?_
  obtain ⟨M2, eM2, hf⟩ := st_lty hf
  refine pz_pI hE hH fw_X2_15 qk_49  eM2 dX2_begin_7 (fun H locs hH => ?_)
  refine lv_aload_n hx hb dX2_begin_10 rfl (lv_at hl 0 rfl) ?_
  refine lv_iload_n hx hb dX2_begin_11 rfl (lv_at hl 3 rfl) ?_
  obtain ⟨M3, eM3, hf⟩ := st_lty hf
  refine pz_pI hE hH fw_X2_27 qk_49  eM3 dX2_begin_12 (fun H locs hH => ?_)
  refine lv_aload_n hx hb dX2_begin_15 rfl (lv_at hl 0 rfl) ?_
  refine pz_gS (a := 50) hE hH fr_X2_30 qk_49 (by decide) dX2_begin_16 ?_
  refine lv_iconst (v := 5) hx hb dX2_begin_19 (by decide) ?_
  obtain ⟨M4, eM4, hf⟩ := st_bd hf
  refine q_callv (q_runS (As := [.ref (X.1 50), .int 5]) (rest := []) hE hH (tz_J7_fill_53178 l X (q_isal qk_50) (hf := eM4)) ks_X2_68 (by decide) rfl hl.1 rfl (Nat.le_of_ble_eq_true rfl) dX2_begin_20) hH (fun H locs hH => ?_)
  refine lv_aload_n hx hb dX2_begin_23 rfl (lv_at hl 0 rfl) ?_
  refine lv_iconst (v := (-1)) hx hb dX2_begin_24 (by decide) ?_
  obtain ⟨M5, eM5, hf⟩ := st_lty hf
  refine pz_pI hE hH fw_X2_65 qk_49  eM5 dX2_begin_25 (fun H locs hH => ?_)
  replace hf := Option.some.inj hf
  subst hf
  exact pz_retv hE hrt hlk hH dX2_begin_28

theorem dX2_goneByNow_0 : decode cX2_goneByNow 0 = .ok (.lconst 0, 1) := by decide +kernel
theorem dX2_goneByNow_1 : decode cX2_goneByNow 1 = .ok (.lstore_n 1, 1) := by decide +kernel
theorem dX2_goneByNow_2 : decode cX2_goneByNow 2 = .ok (.iconst 0, 1) := by decide +kernel
theorem dX2_goneByNow_3 : decode cX2_goneByNow 3 = .ok (.istore_n 3, 1) := by decide +kernel
theorem dX2_goneByNow_4 : decode cX2_goneByNow 4 = .ok (.iload_n 3, 1) := by decide +kernel
theorem dX2_goneByNow_5 : decode cX2_goneByNow 5 = .ok (.bipush 10, 2) := by decide +kernel
theorem dX2_goneByNow_7 : decode cX2_goneByNow 7 = .ok (.if_icmp .ge 21, 3) := by decide +kernel
theorem dX2_goneByNow_10 : decode cX2_goneByNow 10 = .ok (.lload_n 1, 1) := by decide +kernel
theorem dX2_goneByNow_11 : decode cX2_goneByNow 11 = .ok (.aload_n 0, 1) := by decide +kernel
theorem dX2_goneByNow_12 : decode cX2_goneByNow 12 = .ok (.getfield 47, 3) := by decide +kernel
theorem dX2_goneByNow_15 : decode cX2_goneByNow 15 = .ok (.iload_n 3, 1) := by decide +kernel
theorem dX2_goneByNow_16 : decode cX2_goneByNow 16 = .ok (.laload, 1) := by decide +kernel
theorem dX2_goneByNow_17 : decode cX2_goneByNow 17 = .ok (.iload_n 3, 1) := by decide +kernel
theorem dX2_goneByNow_18 : decode cX2_goneByNow 18 = .ok (.i2l, 1) := by decide +kernel
theorem dX2_goneByNow_19 : decode cX2_goneByNow 19 = .ok (.lmul, 1) := by decide +kernel
theorem dX2_goneByNow_20 : decode cX2_goneByNow 20 = .ok (.ladd, 1) := by decide +kernel
theorem dX2_goneByNow_21 : decode cX2_goneByNow 21 = .ok (.lstore_n 1, 1) := by decide +kernel
theorem dX2_goneByNow_22 : decode cX2_goneByNow 22 = .ok (.iinc 3 1, 3) := by decide +kernel
theorem dX2_goneByNow_25 : decode cX2_goneByNow 25 = .ok (.goto (-21), 3) := by decide +kernel
theorem dX2_goneByNow_28 : decode cX2_goneByNow 28 = .ok (.lload_n 1, 1) := by decide +kernel
theorem dX2_goneByNow_29 : decode cX2_goneByNow 29 = .ok (.lreturn, 1) := by decide +kernel
set_option maxRecDepth 100000 in
set_option maxHeartbeats 4000000 in
theorem tz_X2_goneByNow (l : Launch) (X : qX) {M : qM} {r0 : Int64} (hf : jRo_goneByNow M = some r0) : q_Met l X yX2_goneByNow cX2_goneByNow 4 (some .long) (1) M [.ref (X.1 49)] (q_Ql X r0 M) := by
  refine q_enter (by decide) (Nat.le_of_ble_eq_true rfl) ?_
  intro p e s m args below meth c hE hrt hlk H locs hH ls hl
  have hx := hE.1
  have hb := hE.2.1
  have hl : lv_has ls 4 [(0, .ref (X.1 49))] := hl
  unfold jRo_goneByNow at hf
  refine lv_lconst (v := 0) hx hb dX2_goneByNow_0 (by decide) ?_
  refine lv_lstore_n (lv' := [(1, .long 0), (0, .ref (X.1 49))]) hx hb dX2_goneByNow_1 rfl hl (by decide) rfl (fun ls hl => ?_)
  refine lv_iconst (v := 0) hx hb dX2_goneByNow_2 (by decide) ?_
  refine lv_istore_n (lv' := [(3, .int 0), (1, .long 0), (0, .ref (X.1 49))]) hx hb dX2_goneByNow_3 rfl hl (by decide) rfl (fun ls hl => ?_)
  obtain ⟨x3, hlp, hf⟩ := st_bd hf
  have hX : (fun x3 => ∀ (ls : Array Slot) (H : Heap) (locs : List Loc), q_H X M s H locs → lv_has ls 4 [(1, .long x3)] → W p l e (q_rm (1)) s m args below meth c H locs 0 0 (MQ below (q_Ql X r0 M) args s 0 0 (q_A X)) (F0 m 28 ls []) : Int64 → Prop) x3 := by
    intro ls H locs hH hl
    refine lv_lload_n hx hb dX2_goneByNow_28 rfl (lv_at hl 0 rfl) ?_
    replace hf := Option.some.inj hf
    subst hf
    exact pz_retl hE hrt hlk hH dX2_goneByNow_29
  clear hf
  have hG := qlp_ind (r := x3) (fun q => qu2 q (fun x1 x2 => ∀ (ls : Array Slot) (H : Heap) (locs : List Loc), q_H X M s H locs → lv_has ls 4 [(0, .ref (X.1 49)), (1, .long x1), (3, .int x2)] → W p l e (q_rm (1)) s m args below meth c H locs 0 0 (MQ below (q_Ql X r0 M) args s 0 0 (q_A X)) (F0 m 4 ls []))) (by
      intro q o hf hK1 hK2
      obtain ⟨x1, x2⟩ := q
      replace hf := st_u2 hf
      intro ls H locs hH hl
      refine lv_iload_n hx hb dX2_goneByNow_4 rfl (lv_at hl 2 rfl) ?_
      refine lv_bipush (v := 10) hx hb dX2_goneByNow_5 (by decide) ?_
      refine lv_icmp_ge (tgt := 28) hx hb dX2_goneByNow_7 (by decide) (fun hc => ?_) (fun hc => ?_)
      · replace hf := (if_pos hc).symm.trans hf
        replace hf := hK2 _ (Option.some.inj hf).symm
        subst hf
        exact hX ls H locs hH (lv_sub hl [1] rfl)
      · replace hf := (if_neg hc).symm.trans hf
        refine lv_lload_n hx hb dX2_goneByNow_10 rfl (lv_at hl 1 rfl) ?_
        refine lv_aload_n hx hb dX2_goneByNow_11 rfl (lv_at hl 0 rfl) ?_
        obtain ⟨a5, ea5, hf⟩ := st_bd hf
        refine pz_gR hE hH fr_X2_47 qk_49 ea5 dX2_goneByNow_12 (fun ha5 => ?_)
        replace ha5 : q_prt a5 = true := ha5
        refine lv_iload_n hx hb dX2_goneByNow_15 rfl (lv_at hl 2 rfl) ?_
        obtain ⟨v6, ev6, hf⟩ := st_bd hf
        refine pz_lald hE hH (q_prt_0 ha5) ev6 dX2_goneByNow_16 ?_
        refine lv_iload_n hx hb dX2_goneByNow_17 rfl (lv_at hl 2 rfl) ?_
        refine lv_i2l (v := (x2 : Int32).toInt64) hx hb dX2_goneByNow_18 rfl ?_
        refine lv_lmul hx hb dX2_goneByNow_19 ?_
        refine lv_ladd hx hb dX2_goneByNow_20 ?_
        refine lv_topl (fun x7 ex7 => ?_)
        replace hf := st_lt hf ex7
        refine lv_lstore_n (lv' := [(1, .long x7), (0, .ref (X.1 49)), (3, .int x2)]) hx hb dX2_goneByNow_21 rfl hl (by decide) rfl (fun ls hl => ?_)
        obtain ⟨x8, ex8, hf⟩ := st_lty hf
        refine lv_iinc (v := x8) (lv' := [(3, .int x8), (1, .long x7), (0, .ref (X.1 49))]) hx hb dX2_goneByNow_22 hl (k := 2) rfl (by rw [ex8]; rfl) (by decide) rfl (fun ls hl => ?_)
        refine lv_goto (tgt := 4) hx hb dX2_goneByNow_25 (by decide) ?_
        exact hK1 _ (Option.some.inj hf).symm ls H locs hH (lv_sub hl [2, 1, 0] rfl)) _ hlp
  exact hG ls H locs hH (lv_sub hl [2, 1, 0] rfl)

theorem dX2_weight_0 : decode cX2_weight 0 = .ok (.getstatic 95, 3) := by decide +kernel
theorem dX2_weight_3 : decode cX2_weight 3 = .ok (.iload_n 1, 1) := by decide +kernel
theorem dX2_weight_4 : decode cX2_weight 4 = .ok (.bipush 10, 2) := by decide +kernel
theorem dX2_weight_6 : decode cX2_weight 6 = .ok (.imul, 1) := by decide +kernel
theorem dX2_weight_7 : decode cX2_weight 7 = .ok (.iload_n 2, 1) := by decide +kernel
theorem dX2_weight_8 : decode cX2_weight 8 = .ok (.iadd, 1) := by decide +kernel
theorem dX2_weight_9 : decode cX2_weight 9 = .ok (.iaload, 1) := by decide +kernel
theorem dX2_weight_10 : decode cX2_weight 10 = .ok (.i2l, 1) := by decide +kernel
theorem dX2_weight_11 : decode cX2_weight 11 = .ok (.aload_n 0, 1) := by decide +kernel
theorem dX2_weight_12 : decode cX2_weight 12 = .ok (.getfield 53, 3) := by decide +kernel
theorem dX2_weight_15 : decode cX2_weight 15 = .ok (.iload_n 3, 1) := by decide +kernel
theorem dX2_weight_16 : decode cX2_weight 16 = .ok (.bipush 10, 2) := by decide +kernel
theorem dX2_weight_18 : decode cX2_weight 18 = .ok (.imul, 1) := by decide +kernel
theorem dX2_weight_19 : decode cX2_weight 19 = .ok (.iload_n 2, 1) := by decide +kernel
theorem dX2_weight_20 : decode cX2_weight 20 = .ok (.iadd, 1) := by decide +kernel
theorem dX2_weight_21 : decode cX2_weight 21 = .ok (.laload, 1) := by decide +kernel
theorem dX2_weight_22 : decode cX2_weight 22 = .ok (.lmul, 1) := by decide +kernel
theorem dX2_weight_23 : decode cX2_weight 23 = .ok (.aload_n 0, 1) := by decide +kernel
theorem dX2_weight_24 : decode cX2_weight 24 = .ok (.getfield 53, 3) := by decide +kernel
theorem dX2_weight_27 : decode cX2_weight 27 = .ok (.bipush 10, 2) := by decide +kernel
theorem dX2_weight_29 : decode cX2_weight 29 = .ok (.iload_n 3, 1) := by decide +kernel
theorem dX2_weight_30 : decode cX2_weight 30 = .ok (.isub, 1) := by decide +kernel
theorem dX2_weight_31 : decode cX2_weight 31 = .ok (.bipush 10, 2) := by decide +kernel
theorem dX2_weight_33 : decode cX2_weight 33 = .ok (.imul, 1) := by decide +kernel
theorem dX2_weight_34 : decode cX2_weight 34 = .ok (.iload_n 1, 1) := by decide +kernel
theorem dX2_weight_35 : decode cX2_weight 35 = .ok (.iadd, 1) := by decide +kernel
theorem dX2_weight_36 : decode cX2_weight 36 = .ok (.iload_n 2, 1) := by decide +kernel
theorem dX2_weight_37 : decode cX2_weight 37 = .ok (.isub, 1) := by decide +kernel
theorem dX2_weight_38 : decode cX2_weight 38 = .ok (.laload, 1) := by decide +kernel
theorem dX2_weight_39 : decode cX2_weight 39 = .ok (.lmul, 1) := by decide +kernel
theorem dX2_weight_40 : decode cX2_weight 40 = .ok (.lreturn, 1) := by decide +kernel
set_option maxRecDepth 100000 in
set_option maxHeartbeats 4000000 in
theorem tz_X2_weight (l : Launch) (X : qX) {p0 : Int32} {p1 : Int32} {p2 : Int32} {M : qM} {r0 : Int64} (hf : jRo_weight p0 p1 p2 M = some r0) : q_Met l X yX2_weight cX2_weight 4 (some .long) (1) M [.ref (X.1 49), .int p0, .int p1, .int p2] (q_Ql X r0 M) := by
  refine q_enter (by decide) (Nat.le_of_ble_eq_true rfl) ?_
  intro p e s m args below meth c hE hrt hlk H locs hH ls hl
  have hx := hE.1
  have hb := hE.2.1
  have hl : lv_has ls 4 [(0, .ref (X.1 49)), (1, .int p0), (2, .int p1), (3, .int p2)] := hl
  unfold jRo_weight at hf
  refine pz_gT 6 hE hH (by decide) (q_in _ 1085 (by decide +kernel) rfl) dX2_weight_0 ?_
  refine lv_iload_n hx hb dX2_weight_3 rfl (lv_at hl 1 rfl) ?_
  refine lv_bipush (v := 10) hx hb dX2_weight_4 (by decide) ?_
  refine lv_imul hx hb dX2_weight_6 ?_
  refine lv_iload_n hx hb dX2_weight_7 rfl (lv_at hl 2 rfl) ?_
  refine lv_iadd hx hb dX2_weight_8 ?_
  obtain ⟨v1, ev1, hf⟩ := st_bd hf
  refine pz_tld 6 hE hH (by decide) (by decide) ev1 dX2_weight_9 ?_
  refine lv_i2l (v := (v1 : Int32).toInt64) hx hb dX2_weight_10 rfl ?_
  refine lv_aload_n hx hb dX2_weight_11 rfl (lv_at hl 0 rfl) ?_
  refine pz_gS (a := 57) hE hH fr_X2_53 qk_49 (by decide) dX2_weight_12 ?_
  refine lv_iload_n hx hb dX2_weight_15 rfl (lv_at hl 3 rfl) ?_
  refine lv_bipush (v := 10) hx hb dX2_weight_16 (by decide) ?_
  refine lv_imul hx hb dX2_weight_18 ?_
  refine lv_iload_n hx hb dX2_weight_19 rfl (lv_at hl 2 rfl) ?_
  refine lv_iadd hx hb dX2_weight_20 ?_
  obtain ⟨v2, ev2, hf⟩ := st_bd hf
  refine pz_lald hE hH qk_57 ev2 dX2_weight_21 ?_
  refine lv_lmul hx hb dX2_weight_22 ?_
  refine lv_aload_n hx hb dX2_weight_23 rfl (lv_at hl 0 rfl) ?_
  refine pz_gS (a := 57) hE hH fr_X2_53 qk_49 (by decide) dX2_weight_24 ?_
  refine lv_bipush (v := 10) hx hb dX2_weight_27 (by decide) ?_
  refine lv_iload_n hx hb dX2_weight_29 rfl (lv_at hl 3 rfl) ?_
  refine lv_isub hx hb dX2_weight_30 ?_
  refine lv_bipush (v := 10) hx hb dX2_weight_31 (by decide) ?_
  refine lv_imul hx hb dX2_weight_33 ?_
  refine lv_iload_n hx hb dX2_weight_34 rfl (lv_at hl 1 rfl) ?_
  refine lv_iadd hx hb dX2_weight_35 ?_
  refine lv_iload_n hx hb dX2_weight_36 rfl (lv_at hl 2 rfl) ?_
  refine lv_isub hx hb dX2_weight_37 ?_
  obtain ⟨v3, ev3, hf⟩ := st_bd hf
  refine pz_lald hE hH qk_57 ev3 dX2_weight_38 ?_
  refine lv_lmul hx hb dX2_weight_39 ?_
  replace hf := Option.some.inj hf
  subst hf
  exact pz_retl hE hrt hlk hH dX2_weight_40

theorem dX2_goOn_0 : decode cX2_goOn 0 = .ok (.lconst 0, 1) := by decide +kernel
theorem dX2_goOn_1 : decode cX2_goOn 1 = .ok (.lstore 4, 2) := by decide +kernel
theorem dX2_goOn_3 : decode cX2_goOn 3 = .ok (.lconst 0, 1) := by decide +kernel
theorem dX2_goOn_4 : decode cX2_goOn 4 = .ok (.lstore 6, 2) := by decide +kernel
theorem dX2_goOn_6 : decode cX2_goOn 6 = .ok (.aload_n 0, 1) := by decide +kernel
theorem dX2_goOn_7 : decode cX2_goOn 7 = .ok (.getfield 50, 3) := by decide +kernel
theorem dX2_goOn_10 : decode cX2_goOn 10 = .ok (.lconst 0, 1) := by decide +kernel
theorem dX2_goOn_11 : decode cX2_goOn 11 = .ok (.invokestatic 78, 3) := by decide +kernel
theorem dX2_goOn_14 : decode cX2_goOn 14 = .ok (.iconst 0, 1) := by decide +kernel
theorem dX2_goOn_15 : decode cX2_goOn 15 = .ok (.istore 8, 2) := by decide +kernel
theorem dX2_goOn_17 : decode cX2_goOn 17 = .ok (.iload 8, 2) := by decide +kernel
theorem dX2_goOn_19 : decode cX2_goOn 19 = .ok (.iload_n 1, 1) := by decide +kernel
theorem dX2_goOn_20 : decode cX2_goOn 20 = .ok (.if_icmp .gt 171, 3) := by decide +kernel
theorem dX2_goOn_23 : decode cX2_goOn 23 = .ok (.iload_n 1, 1) := by decide +kernel
theorem dX2_goOn_24 : decode cX2_goOn 24 = .ok (.iload 8, 2) := by decide +kernel
theorem dX2_goOn_26 : decode cX2_goOn 26 = .ok (.isub, 1) := by decide +kernel
theorem dX2_goOn_27 : decode cX2_goOn 27 = .ok (.istore 9, 2) := by decide +kernel
theorem dX2_goOn_29 : decode cX2_goOn 29 = .ok (.aload_n 0, 1) := by decide +kernel
theorem dX2_goOn_30 : decode cX2_goOn 30 = .ok (.getfield 53, 3) := by decide +kernel
theorem dX2_goOn_33 : decode cX2_goOn 33 = .ok (.bipush 100, 2) := by decide +kernel
theorem dX2_goOn_35 : decode cX2_goOn 35 = .ok (.iload 9, 2) := by decide +kernel
theorem dX2_goOn_37 : decode cX2_goOn 37 = .ok (.iadd, 1) := by decide +kernel
theorem dX2_goOn_38 : decode cX2_goOn 38 = .ok (.laload, 1) := by decide +kernel
theorem dX2_goOn_39 : decode cX2_goOn 39 = .ok (.lstore 10, 2) := by decide +kernel
theorem dX2_goOn_41 : decode cX2_goOn 41 = .ok (.iconst 0, 1) := by decide +kernel
theorem dX2_goOn_42 : decode cX2_goOn 42 = .ok (.istore 12, 2) := by decide +kernel
theorem dX2_goOn_44 : decode cX2_goOn 44 = .ok (.iload 12, 2) := by decide +kernel
theorem dX2_goOn_46 : decode cX2_goOn 46 = .ok (.iload 9, 2) := by decide +kernel
theorem dX2_goOn_48 : decode cX2_goOn 48 = .ok (.if_icmp .gt 137, 3) := by decide +kernel
theorem dX2_goOn_51 : decode cX2_goOn 51 = .ok (.aload_n 0, 1) := by decide +kernel
theorem dX2_goOn_52 : decode cX2_goOn 52 = .ok (.getfield 47, 3) := by decide +kernel
theorem dX2_goOn_55 : decode cX2_goOn 55 = .ok (.iload 8, 2) := by decide +kernel
theorem dX2_goOn_57 : decode cX2_goOn 57 = .ok (.laload, 1) := by decide +kernel
theorem dX2_goOn_58 : decode cX2_goOn 58 = .ok (.lconst 0, 1) := by decide +kernel
theorem dX2_goOn_59 : decode cX2_goOn 59 = .ok (.lcmp, 1) := by decide +kernel
theorem dX2_goOn_60 : decode cX2_goOn 60 = .ok (.ifCond .le 125, 3) := by decide +kernel
theorem dX2_goOn_63 : decode cX2_goOn 63 = .ok (.lload 10, 2) := by decide +kernel
theorem dX2_goOn_65 : decode cX2_goOn 65 = .ok (.lconst 0, 1) := by decide +kernel
theorem dX2_goOn_66 : decode cX2_goOn 66 = .ok (.lcmp, 1) := by decide +kernel
theorem dX2_goOn_67 : decode cX2_goOn 67 = .ok (.ifCond .le 118, 3) := by decide +kernel
theorem dX2_goOn_70 : decode cX2_goOn 70 = .ok (.aload_n 0, 1) := by decide +kernel
theorem dX2_goOn_71 : decode cX2_goOn 71 = .ok (.getfield 47, 3) := by decide +kernel
theorem dX2_goOn_74 : decode cX2_goOn 74 = .ok (.iload 8, 2) := by decide +kernel
theorem dX2_goOn_76 : decode cX2_goOn 76 = .ok (.laload, 1) := by decide +kernel
theorem dX2_goOn_77 : decode cX2_goOn 77 = .ok (.aload_n 0, 1) := by decide +kernel
theorem dX2_goOn_78 : decode cX2_goOn 78 = .ok (.iload 9, 2) := by decide +kernel
theorem dX2_goOn_80 : decode cX2_goOn 80 = .ok (.iload 12, 2) := by decide +kernel
theorem dX2_goOn_82 : decode cX2_goOn 82 = .ok (.iload_n 2, 1) := by decide +kernel
theorem dX2_goOn_83 : decode cX2_goOn 83 = .ok (.invokevirtual 91, 3) := by decide +kernel
theorem dX2_goOn_86 : decode cX2_goOn 86 = .ok (.lmul, 1) := by decide +kernel
theorem dX2_goOn_87 : decode cX2_goOn 87 = .ok (.lload 10, 2) := by decide +kernel
theorem dX2_goOn_89 : decode cX2_goOn 89 = .ok (.ldiv, 1) := by decide +kernel
theorem dX2_goOn_90 : decode cX2_goOn 90 = .ok (.lstore 13, 2) := by decide +kernel
theorem dX2_goOn_92 : decode cX2_goOn 92 = .ok (.aload_n 0, 1) := by decide +kernel
theorem dX2_goOn_93 : decode cX2_goOn 93 = .ok (.getfield 50, 3) := by decide +kernel
theorem dX2_goOn_96 : decode cX2_goOn 96 = .ok (.iload 8, 2) := by decide +kernel
theorem dX2_goOn_98 : decode cX2_goOn 98 = .ok (.iload 12, 2) := by decide +kernel
theorem dX2_goOn_100 : decode cX2_goOn 100 = .ok (.iadd, 1) := by decide +kernel
theorem dX2_goOn_101 : decode cX2_goOn 101 = .ok (.dup2, 1) := by decide +kernel
theorem dX2_goOn_102 : decode cX2_goOn 102 = .ok (.laload, 1) := by decide +kernel
theorem dX2_goOn_103 : decode cX2_goOn 103 = .ok (.lload 13, 2) := by decide +kernel
theorem dX2_goOn_105 : decode cX2_goOn 105 = .ok (.ladd, 1) := by decide +kernel
theorem dX2_goOn_106 : decode cX2_goOn 106 = .ok (.lastore, 1) := by decide +kernel
theorem dX2_goOn_107 : decode cX2_goOn 107 = .ok (.lload 4, 2) := by decide +kernel
theorem dX2_goOn_109 : decode cX2_goOn 109 = .ok (.iload 8, 2) := by decide +kernel
theorem dX2_goOn_111 : decode cX2_goOn 111 = .ok (.aload_n 0, 1) := by decide +kernel
theorem dX2_goOn_112 : decode cX2_goOn 112 = .ok (.getfield 15, 3) := by decide +kernel
theorem dX2_goOn_115 : decode cX2_goOn 115 = .ok (.if_icmp .ge 20, 3) := by decide +kernel
theorem dX2_goOn_118 : decode cX2_goOn 118 = .ok (.iload 8, 2) := by decide +kernel
theorem dX2_goOn_120 : decode cX2_goOn 120 = .ok (.iload 12, 2) := by decide +kernel
theorem dX2_goOn_122 : decode cX2_goOn 122 = .ok (.iadd, 1) := by decide +kernel
theorem dX2_goOn_123 : decode cX2_goOn 123 = .ok (.aload_n 0, 1) := by decide +kernel
theorem dX2_goOn_124 : decode cX2_goOn 124 = .ok (.getfield 15, 3) := by decide +kernel
theorem dX2_goOn_127 : decode cX2_goOn 127 = .ok (.if_icmp .lt 8, 3) := by decide +kernel
theorem dX2_goOn_130 : decode cX2_goOn 130 = .ok (.lload 13, 2) := by decide +kernel
theorem dX2_goOn_132 : decode cX2_goOn 132 = .ok (.goto 4, 3) := by decide +kernel
theorem dX2_goOn_135 : decode cX2_goOn 135 = .ok (.lconst 0, 1) := by decide +kernel
theorem dX2_goOn_136 : decode cX2_goOn 136 = .ok (.ladd, 1) := by decide +kernel
theorem dX2_goOn_137 : decode cX2_goOn 137 = .ok (.lstore 4, 2) := by decide +kernel
theorem dX2_goOn_139 : decode cX2_goOn 139 = .ok (.lload 6, 2) := by decide +kernel
theorem dX2_goOn_141 : decode cX2_goOn 141 = .ok (.iload 8, 2) := by decide +kernel
theorem dX2_goOn_143 : decode cX2_goOn 143 = .ok (.aload_n 0, 1) := by decide +kernel
theorem dX2_goOn_144 : decode cX2_goOn 144 = .ok (.getfield 15, 3) := by decide +kernel
theorem dX2_goOn_147 : decode cX2_goOn 147 = .ok (.if_icmp .ge 28, 3) := by decide +kernel
theorem dX2_goOn_150 : decode cX2_goOn 150 = .ok (.iload 8, 2) := by decide +kernel
theorem dX2_goOn_152 : decode cX2_goOn 152 = .ok (.iload 12, 2) := by decide +kernel
theorem dX2_goOn_154 : decode cX2_goOn 154 = .ok (.iadd, 1) := by decide +kernel
theorem dX2_goOn_155 : decode cX2_goOn 155 = .ok (.aload_n 0, 1) := by decide +kernel
theorem dX2_goOn_156 : decode cX2_goOn 156 = .ok (.getfield 15, 3) := by decide +kernel
theorem dX2_goOn_159 : decode cX2_goOn 159 = .ok (.iconst 1, 1) := by decide +kernel
theorem dX2_goOn_160 : decode cX2_goOn 160 = .ok (.isub, 1) := by decide +kernel
theorem dX2_goOn_161 : decode cX2_goOn 161 = .ok (.if_icmp .lt 14, 3) := by decide +kernel
theorem dX2_goOn_164 : decode cX2_goOn 164 = .ok (.lload 13, 2) := by decide +kernel
theorem dX2_goOn_166 : decode cX2_goOn 166 = .ok (.iload 12, 2) := by decide +kernel
theorem dX2_goOn_168 : decode cX2_goOn 168 = .ok (.iconst 1, 1) := by decide +kernel
theorem dX2_goOn_169 : decode cX2_goOn 169 = .ok (.iadd, 1) := by decide +kernel
theorem dX2_goOn_170 : decode cX2_goOn 170 = .ok (.i2l, 1) := by decide +kernel
theorem dX2_goOn_171 : decode cX2_goOn 171 = .ok (.ldiv, 1) := by decide +kernel
theorem dX2_goOn_172 : decode cX2_goOn 172 = .ok (.goto 4, 3) := by decide +kernel
theorem dX2_goOn_175 : decode cX2_goOn 175 = .ok (.lconst 0, 1) := by decide +kernel
theorem dX2_goOn_176 : decode cX2_goOn 176 = .ok (.ladd, 1) := by decide +kernel
theorem dX2_goOn_177 : decode cX2_goOn 177 = .ok (.lstore 6, 2) := by decide +kernel
theorem dX2_goOn_179 : decode cX2_goOn 179 = .ok (.iinc 12 1, 3) := by decide +kernel
theorem dX2_goOn_182 : decode cX2_goOn 182 = .ok (.goto (-138), 3) := by decide +kernel
theorem dX2_goOn_185 : decode cX2_goOn 185 = .ok (.iinc 8 1, 3) := by decide +kernel
theorem dX2_goOn_188 : decode cX2_goOn 188 = .ok (.goto (-171), 3) := by decide +kernel
theorem dX2_goOn_191 : decode cX2_goOn 191 = .ok (.aload_n 0, 1) := by decide +kernel
theorem dX2_goOn_192 : decode cX2_goOn 192 = .ok (.getfield 34, 3) := by decide +kernel
theorem dX2_goOn_195 : decode cX2_goOn 195 = .ok (.iload_n 3, 1) := by decide +kernel
theorem dX2_goOn_196 : decode cX2_goOn 196 = .ok (.lload 4, 2) := by decide +kernel
theorem dX2_goOn_198 : decode cX2_goOn 198 = .ok (.lastore, 1) := by decide +kernel
theorem dX2_goOn_199 : decode cX2_goOn 199 = .ok (.aload_n 0, 1) := by decide +kernel
theorem dX2_goOn_200 : decode cX2_goOn 200 = .ok (.getfield 44, 3) := by decide +kernel
theorem dX2_goOn_203 : decode cX2_goOn 203 = .ok (.iload_n 3, 1) := by decide +kernel
theorem dX2_goOn_204 : decode cX2_goOn 204 = .ok (.lload 6, 2) := by decide +kernel
theorem dX2_goOn_206 : decode cX2_goOn 206 = .ok (.lastore, 1) := by decide +kernel
theorem dX2_goOn_207 : decode cX2_goOn 207 = .ok (.aload_n 0, 1) := by decide +kernel
theorem dX2_goOn_208 : decode cX2_goOn 208 = .ok (.getfield 47, 3) := by decide +kernel
theorem dX2_goOn_211 : decode cX2_goOn 211 = .ok (.astore 8, 2) := by decide +kernel
theorem dX2_goOn_213 : decode cX2_goOn 213 = .ok (.aload_n 0, 1) := by decide +kernel
theorem dX2_goOn_214 : decode cX2_goOn 214 = .ok (.aload_n 0, 1) := by decide +kernel
theorem dX2_goOn_215 : decode cX2_goOn 215 = .ok (.getfield 50, 3) := by decide +kernel
theorem dX2_goOn_218 : decode cX2_goOn 218 = .ok (.putfield 47, 3) := by decide +kernel
theorem dX2_goOn_221 : decode cX2_goOn 221 = .ok (.aload_n 0, 1) := by decide +kernel
theorem dX2_goOn_222 : decode cX2_goOn 222 = .ok (.aload 8, 2) := by decide +kernel
theorem dX2_goOn_224 : decode cX2_goOn 224 = .ok (.putfield 50, 3) := by decide +kernel
theorem dX2_goOn_227 : decode cX2_goOn 227 = .ok (.return_, 1) := by decide +kernel
set_option maxRecDepth 100000 in
set_option maxHeartbeats 4000000 in
theorem tz_X2_goOn (l : Launch) (X : qX) {p0 : Int32} {p1 : Int32} {p2 : Int32} {M MR : qM} (hf : jRo_goOn p0 p1 p2 M = some MR) : q_Met l X yX2_goOn cX2_goOn 15 none (2) M [.ref (X.1 49), .int p0, .int p1, .int p2] (q_Qv X MR) := by
  refine q_enter (by decide) (Nat.le_of_ble_eq_true rfl) ?_
  intro p e s m args below meth c hE hrt hlk H locs hH ls hl
  have hx := hE.1
  have hb := hE.2.1
  have hl : lv_has ls 15 [(0, .ref (X.1 49)), (1, .int p0), (2, .int p1), (3, .int p2)] := hl
  unfold jRo_goOn at hf
  refine lv_lconst (v := 0) hx hb dX2_goOn_0 (by decide) ?_
  refine lv_lstore (lv' := [(4, .long 0), (0, .ref (X.1 49)), (1, .int p0), (2, .int p1), (3, .int p2)]) hx hb dX2_goOn_1 hl (by decide) rfl (fun ls hl => ?_)
  refine lv_lconst (v := 0) hx hb dX2_goOn_3 (by decide) ?_
  refine lv_lstore (lv' := [(6, .long 0), (4, .long 0), (0, .ref (X.1 49)), (1, .int p0), (2, .int p1), (3, .int p2)]) hx hb dX2_goOn_4 hl (by decide) rfl (fun ls hl => ?_)
  refine lv_aload_n hx hb dX2_goOn_6 rfl (lv_at hl 2 rfl) ?_
  obtain ⟨a1, ea1, hf⟩ := st_bd hf
  refine pz_gR hE hH fr_X2_50 qk_49 ea1 dX2_goOn_7 (fun ha1 => ?_)
  replace ha1 : q_prt a1 = true := ha1
  refine lv_lconst (v := 0) hx hb dX2_goOn_10 (by decide) ?_
  obtain ⟨M2, eM2, hf⟩ := st_bd hf
  refine q_callv (q_runS (As := [.ref (X.1 a1), .long 0]) (rest := []) hE hH (tz_J7_fill_d0a16 l X (q_isal (q_prt_0 ha1)) (hf := eM2)) ks_X2_78 (by decide) rfl hl.1 rfl (Nat.le_of_ble_eq_true rfl) dX2_goOn_11) hH (fun H locs hH => ?_)
  refine lv_iconst (v := 0) hx hb dX2_goOn_14 (by decide) ?_
  refine lv_istore (lv' := [(8, .int 0), (6, .long 0), (4, .long 0), (0, .ref (X.1 49)), (1, .int p0), (2, .int p1), (3, .int p2)]) hx hb dX2_goOn_15 hl (by decide) rfl (fun ls hl => ?_)
  obtain ⟨r10, hlp, hf⟩ := st_bd hf
  have hX : (fun q0 => qu3 q0 (fun x7 x8 M9 => ∀ (ls : Array Slot) (H : Heap) (locs : List Loc), q_H X M9 s H locs → lv_has ls 15 [(0, .ref (X.1 49)), (3, .int p2), (4, .long x7), (6, .long x8)] → W p l e (q_rm (2)) s m args below meth c H locs 0 0 (MQ below (q_Qv X MR) args s 0 0 (q_A X)) (F0 m 191 ls [])) : (Int64 × Int64 × qM) → Prop) r10 := by
    obtain ⟨x7, x8, M9⟩ := r10
    replace hf := st_u3 hf
    intro ls H locs hH hl
    refine lv_aload_n hx hb dX2_goOn_191 rfl (lv_at hl 0 rfl) ?_
    refine pz_gS (a := 51) hE hH fr_X2_34 qk_49 (by decide) dX2_goOn_192 ?_
    refine lv_iload_n hx hb dX2_goOn_195 rfl (lv_at hl 1 rfl) ?_
    refine lv_lload hx hb dX2_goOn_196 (lv_at hl 2 rfl) ?_
    obtain ⟨M11, eM11, hf⟩ := st_bd hf
    refine pz_last hE hH qk_51 eM11 dX2_goOn_198 (fun H locs hH => ?_)
    refine lv_aload_n hx hb dX2_goOn_199 rfl (lv_at hl 0 rfl) ?_
    refine pz_gS (a := 54) hE hH fr_X2_44 qk_49 (by decide) dX2_goOn_200 ?_
    refine lv_iload_n hx hb dX2_goOn_203 rfl (lv_at hl 1 rfl) ?_
    refine lv_lload hx hb dX2_goOn_204 (lv_at hl 3 rfl) ?_
    obtain ⟨M12, eM12, hf⟩ := st_bd hf
    refine pz_last hE hH qk_54 eM12 dX2_goOn_206 (fun H locs hH => ?_)
    refine lv_aload_n hx hb dX2_goOn_207 rfl (lv_at hl 0 rfl) ?_
    obtain ⟨a13, ea13, hf⟩ := st_bd hf
    refine pz_gR hE hH fr_X2_47 qk_49 ea13 dX2_goOn_208 (fun ha13 => ?_)
    replace ha13 : q_prt a13 = true := ha13
    refine lv_astore (lv' := [(8, .ref (X.1 a13)), (0, .ref (X.1 49)), (3, .int p2), (4, .long x7), (6, .long x8)]) hx hb dX2_goOn_211 hl (by decide) rfl (fun ls hl => ?_)
    refine lv_aload_n hx hb dX2_goOn_213 rfl (lv_at hl 1 rfl) ?_
    refine lv_aload_n hx hb dX2_goOn_214 rfl (lv_at hl 1 rfl) ?_
    obtain ⟨a14, ea14, hf⟩ := st_bd hf
    refine pz_gR hE hH fr_X2_50 qk_49 ea14 dX2_goOn_215 (fun ha14 => ?_)
    replace ha14 : q_prt a14 = true := ha14
    obtain ⟨M15, eM15, hf⟩ := st_lty hf
    refine pz_pR hE hH fw_X2_47 qk_49 (show q_ok 2 11 a14 = true from ha14) eM15 ⟨rfl, rfl⟩ dX2_goOn_218 (fun H locs hH => ?_)
    refine lv_aload_n hx hb dX2_goOn_221 rfl (lv_at hl 1 rfl) ?_
    refine lv_aload hx hb dX2_goOn_222 (lv_at hl 0 rfl) ?_
    obtain ⟨M16, eM16, hf⟩ := st_lty hf
    refine pz_pR hE hH fw_X2_50 qk_49 (show q_ok 2 12 a13 = true from ha13) eM16 ⟨rfl, rfl⟩ dX2_goOn_224 (fun H locs hH => ?_)
    replace hf := Option.some.inj hf
    subst hf
    exact pz_retv hE hrt hlk hH dX2_goOn_227
  clear hf
  have hG := qlp_ind (r := r10) (fun q => qu4 q (fun x3 x4 x5 M6 => ∀ (ls : Array Slot) (H : Heap) (locs : List Loc), q_H X M6 s H locs → lv_has ls 15 [(0, .ref (X.1 49)), (1, .int p0), (2, .int p1), (3, .int p2), (4, .long x3), (6, .long x4), (8, .int x5)] → W p l e (q_rm (2)) s m args below meth c H locs 0 0 (MQ below (q_Qv X MR) args s 0 0 (q_A X)) (F0 m 17 ls []))) (by
      intro q o hf hK1 hK2
      obtain ⟨x3, x4, x5, M6⟩ := q
      replace hf := st_u4 hf
      intro ls H locs hH hl
      refine lv_iload hx hb dX2_goOn_17 (lv_at hl 6 rfl) ?_
      refine lv_iload_n hx hb dX2_goOn_19 rfl (lv_at hl 1 rfl) ?_
      refine lv_icmp_gt (tgt := 191) hx hb dX2_goOn_20 (by decide) (fun hc => ?_) (fun hc => ?_)
      · replace hf := (if_pos hc).symm.trans hf
        replace hf := hK2 _ (Option.some.inj hf).symm
        subst hf
        exact hX ls H locs hH (lv_sub hl [0, 3, 4, 5] rfl)
      · replace hf := (if_neg hc).symm.trans hf
        refine lv_iload_n hx hb dX2_goOn_23 rfl (lv_at hl 1 rfl) ?_
        refine lv_iload hx hb dX2_goOn_24 (lv_at hl 6 rfl) ?_
        refine lv_isub hx hb dX2_goOn_26 ?_
        refine lv_topi (fun x17 ex17 => ?_)
        replace hf := st_lt hf ex17
        refine lv_istore (lv' := [(9, .int x17), (0, .ref (X.1 49)), (1, .int p0), (2, .int p1), (3, .int p2), (4, .long x3), (6, .long x4), (8, .int x5)]) hx hb dX2_goOn_27 hl (by decide) rfl (fun ls hl => ?_)
        refine lv_aload_n hx hb dX2_goOn_29 rfl (lv_at hl 1 rfl) ?_
        refine pz_gS (a := 57) hE hH fr_X2_53 qk_49 (by decide) dX2_goOn_30 ?_
        refine lv_bipush (v := 100) hx hb dX2_goOn_33 (by decide) ?_
        refine lv_iload hx hb dX2_goOn_35 (lv_at hl 0 rfl) ?_
        refine lv_iadd hx hb dX2_goOn_37 ?_
        obtain ⟨v18, ev18, hf⟩ := st_bd hf
        refine pz_lald hE hH qk_57 ev18 dX2_goOn_38 ?_
        refine lv_lstore (lv' := [(10, .long v18), (9, .int x17), (0, .ref (X.1 49)), (1, .int p0), (2, .int p1), (3, .int p2), (4, .long x3), (6, .long x4), (8, .int x5)]) hx hb dX2_goOn_39 hl (by decide) rfl (fun ls hl => ?_)
        refine lv_iconst (v := 0) hx hb dX2_goOn_41 (by decide) ?_
        refine lv_istore (lv' := [(12, .int 0), (10, .long v18), (9, .int x17), (0, .ref (X.1 49)), (1, .int p0), (2, .int p1), (3, .int p2), (4, .long x3), (6, .long x4), (8, .int x5)]) hx hb dX2_goOn_42 hl (by decide) rfl (fun ls hl => ?_)
        obtain ⟨r26, hlp, hf⟩ := st_bd hf
        have hX : (fun q0 => qu3 q0 (fun x23 x24 M25 => ∀ (ls : Array Slot) (H : Heap) (locs : List Loc), q_H X M25 s H locs → lv_has ls 15 [(0, .ref (X.1 49)), (1, .int p0), (2, .int p1), (3, .int p2), (4, .long x23), (6, .long x24), (8, .int x5)] → W p l e (q_rm (2)) s m args below meth c H locs 0 0 (MQ below (q_Qv X MR) args s 0 0 (q_A X)) (F0 m 185 ls [])) : (Int64 × Int64 × qM) → Prop) r26 := by
          obtain ⟨x23, x24, M25⟩ := r26
          replace hf := st_u3 hf
          intro ls H locs hH hl
          obtain ⟨x27, ex27, hf⟩ := st_lty hf
          refine lv_iinc (v := x27) (lv' := [(8, .int x27), (0, .ref (X.1 49)), (1, .int p0), (2, .int p1), (3, .int p2), (4, .long x23), (6, .long x24)]) hx hb dX2_goOn_185 hl (k := 6) rfl (by rw [ex27]; rfl) (by decide) rfl (fun ls hl => ?_)
          refine lv_goto (tgt := 17) hx hb dX2_goOn_188 (by decide) ?_
          exact hK1 _ (Option.some.inj hf).symm ls H locs hH (lv_sub hl [1, 2, 3, 4, 5, 6, 0] rfl)
        clear hf
        have hG := qlp_ind (r := r26) (fun q => qu4 q (fun x19 x20 x21 M22 => ∀ (ls : Array Slot) (H : Heap) (locs : List Loc), q_H X M22 s H locs → lv_has ls 15 [(0, .ref (X.1 49)), (1, .int p0), (2, .int p1), (3, .int p2), (4, .long x19), (6, .long x20), (8, .int x5), (9, .int x17), (10, .long v18), (12, .int x21)] → W p l e (q_rm (2)) s m args below meth c H locs 0 0 (MQ below (q_Qv X MR) args s 0 0 (q_A X)) (F0 m 44 ls []))) (by
            intro q o hf hK1 hK2
            obtain ⟨x19, x20, x21, M22⟩ := q
            replace hf := st_u4 hf
            intro ls H locs hH hl
            refine lv_iload hx hb dX2_goOn_44 (lv_at hl 9 rfl) ?_
            refine lv_iload hx hb dX2_goOn_46 (lv_at hl 7 rfl) ?_
            refine lv_icmp_gt (tgt := 185) hx hb dX2_goOn_48 (by decide) (fun hc => ?_) (fun hc => ?_)
            · replace hf := (if_pos hc).symm.trans hf
              replace hf := hK2 _ (Option.some.inj hf).symm
              subst hf
              exact hX ls H locs hH (lv_sub hl [0, 1, 2, 3, 4, 5, 6] rfl)
            · replace hf := (if_neg hc).symm.trans hf
              refine lv_aload_n hx hb dX2_goOn_51 rfl (lv_at hl 0 rfl) ?_
              obtain ⟨a28, ea28, hf⟩ := st_bd hf
              refine pz_gR hE hH fr_X2_47 qk_49 ea28 dX2_goOn_52 (fun ha28 => ?_)
              replace ha28 : q_prt a28 = true := ha28
              refine lv_iload hx hb dX2_goOn_55 (lv_at hl 6 rfl) ?_
              obtain ⟨v29, ev29, hf⟩ := st_bd hf
              refine pz_lald hE hH (q_prt_0 ha28) ev29 dX2_goOn_57 ?_
              refine lv_lconst (v := 0) hx hb dX2_goOn_58 (by decide) ?_
              refine W.lcmp hx hb dX2_goOn_59 ?_
              refine lv_if_le (tgt := 185) hx hb dX2_goOn_60 (by decide) (fun hc => ?_) (fun hc => ?_)
              · replace hf := (if_pos hc).symm.trans hf
                replace hf := hK2 _ (Option.some.inj hf).symm
                subst hf
                exact hX ls H locs hH (lv_sub hl [0, 1, 2, 3, 4, 5, 6] rfl)
              · replace hf := (if_neg hc).symm.trans hf
                refine lv_lload hx hb dX2_goOn_63 (lv_at hl 8 rfl) ?_
                refine lv_lconst (v := 0) hx hb dX2_goOn_65 (by decide) ?_
                refine W.lcmp hx hb dX2_goOn_66 ?_
                refine lv_if_le (tgt := 185) hx hb dX2_goOn_67 (by decide) (fun hc => ?_) (fun hc => ?_)
                · replace hf := (if_pos hc).symm.trans hf
                  replace hf := hK2 _ (Option.some.inj hf).symm
                  subst hf
                  exact hX ls H locs hH (lv_sub hl [0, 1, 2, 3, 4, 5, 6] rfl)
                · replace hf := (if_neg hc).symm.trans hf
                  refine lv_aload_n hx hb dX2_goOn_70 rfl (lv_at hl 0 rfl) ?_
                  obtain ⟨a30, ea30, hf⟩ := st_bd hf
                  refine pz_gR hE hH fr_X2_47 qk_49 ea30 dX2_goOn_71 (fun ha30 => ?_)
                  replace ha30 : q_prt a30 = true := ha30
                  refine lv_iload hx hb dX2_goOn_74 (lv_at hl 6 rfl) ?_
                  obtain ⟨v31, ev31, hf⟩ := st_bd hf
                  refine pz_lald hE hH (q_prt_0 ha30) ev31 dX2_goOn_76 ?_
                  refine lv_aload_n hx hb dX2_goOn_77 rfl (lv_at hl 0 rfl) ?_
                  refine lv_iload hx hb dX2_goOn_78 (lv_at hl 7 rfl) ?_
                  refine lv_iload hx hb dX2_goOn_80 (lv_at hl 9 rfl) ?_
                  refine lv_iload_n hx hb dX2_goOn_82 rfl (lv_at hl 2 rfl) ?_
                  obtain ⟨r32, er32, hf⟩ := st_bd hf
                  refine q_calll (q_runV (As := [.int x17, .int x21, .int p1]) (rest := [.long v31]) hE hH (tz_X2_weight l X (hf := er32)) kv_X2_91 qk_49 (by decide) rfl hl.1 rfl (Nat.le_of_ble_eq_true rfl) dX2_goOn_83) hH (fun H locs hH => ?_)
                  refine lv_lmul hx hb dX2_goOn_86 ?_
                  refine lv_lload hx hb dX2_goOn_87 (lv_at hl 8 rfl) ?_
                  obtain ⟨v33, ev33, hf⟩ := st_bd hf
                  refine pz_ldiv hE ev33 dX2_goOn_89 ?_
                  refine lv_lstore (lv' := [(13, .long v33), (0, .ref (X.1 49)), (1, .int p0), (2, .int p1), (3, .int p2), (4, .long x19), (6, .long x20), (8, .int x5), (9, .int x17), (10, .long v18), (12, .int x21)]) hx hb dX2_goOn_90 hl (by decide) rfl (fun ls hl => ?_)
                  refine lv_aload_n hx hb dX2_goOn_92 rfl (lv_at hl 1 rfl) ?_
                  obtain ⟨a34, ea34, hf⟩ := st_bd hf
                  refine pz_gR hE hH fr_X2_50 qk_49 ea34 dX2_goOn_93 (fun ha34 => ?_)
                  replace ha34 : q_prt a34 = true := ha34
                  refine lv_iload hx hb dX2_goOn_96 (lv_at hl 7 rfl) ?_
                  refine lv_iload hx hb dX2_goOn_98 (lv_at hl 10 rfl) ?_
                  refine lv_iadd hx hb dX2_goOn_100 ?_
                  refine lv_dup2_11 hx hb dX2_goOn_101 rfl rfl ?_
                  obtain ⟨v35, ev35, hf⟩ := st_bd hf
                  refine pz_lald hE hH (q_prt_0 ha34) ev35 dX2_goOn_102 ?_
                  refine lv_lload hx hb dX2_goOn_103 (lv_at hl 0 rfl) ?_
                  refine lv_ladd hx hb dX2_goOn_105 ?_
                  obtain ⟨M36, eM36, hf⟩ := st_bd hf
                  refine pz_last hE hH (q_prt_0 ha34) eM36 dX2_goOn_106 (fun H locs hH => ?_)
                  refine lv_lload hx hb dX2_goOn_107 (lv_at hl 5 rfl) ?_
                  refine lv_iload hx hb dX2_goOn_109 (lv_at hl 7 rfl) ?_
                  refine lv_aload_n hx hb dX2_goOn_111 rfl (lv_at hl 1 rfl) ?_
                  refine pz_gI hE hH fr_X2_15 qk_49 dX2_goOn_112 ?_
                  obtain ⟨x37, hr, hf⟩ := st_ltx hf
                  have hJ : ∀ (ls : Array Slot) (H : Heap) (locs : List Loc), q_H X M36 s H locs → lv_has ls 15 [(0, .ref (X.1 49)), (1, .int p0), (2, .int p1), (3, .int p2), (6, .long x20), (8, .int x5), (9, .int x17), (10, .long v18), (12, .int x21), (13, .long v33)] → W p l e (q_rm (2)) s m args below meth c H locs 0 0 (MQ below (q_Qv X MR) args s 0 0 (q_A X)) (F0 m 136 ls [.long x37, .long x19]) := by
                    intro ls H locs hH hl
                    refine lv_ladd hx hb dX2_goOn_136 ?_
                    refine lv_topl (fun x38 ex38 => ?_)
                    replace hf := st_lt hf ex38
                    refine lv_lstore (lv' := [(4, .long x38), (0, .ref (X.1 49)), (1, .int p0), (2, .int p1), (3, .int p2), (6, .long x20), (8, .int x5), (9, .int x17), (10, .long v18), (12, .int x21), (13, .long v33)]) hx hb dX2_goOn_137 hl (by decide) rfl (fun ls hl => ?_)
                    refine lv_lload hx hb dX2_goOn_139 (lv_at hl 5 rfl) ?_
                    refine lv_iload hx hb dX2_goOn_141 (lv_at hl 6 rfl) ?_
                    refine lv_aload_n hx hb dX2_goOn_143 rfl (lv_at hl 1 rfl) ?_
                    refine pz_gI hE hH fr_X2_15 qk_49 dX2_goOn_144 ?_
                    obtain ⟨x39, hr, hf⟩ := st_bd hf
                    have hJ : ∀ (ls : Array Slot) (H : Heap) (locs : List Loc), q_H X M36 s H locs → lv_has ls 15 [(0, .ref (X.1 49)), (1, .int p0), (2, .int p1), (3, .int p2), (4, .long x38), (8, .int x5), (9, .int x17), (10, .long v18), (12, .int x21)] → W p l e (q_rm (2)) s m args below meth c H locs 0 0 (MQ below (q_Qv X MR) args s 0 0 (q_A X)) (F0 m 176 ls [.long x39, .long x20]) := by
                      intro ls H locs hH hl
                      refine lv_ladd hx hb dX2_goOn_176 ?_
                      refine lv_topl (fun x40 ex40 => ?_)
                      replace hf := st_lt hf ex40
                      refine lv_lstore (lv' := [(6, .long x40), (0, .ref (X.1 49)), (1, .int p0), (2, .int p1), (3, .int p2), (4, .long x38), (8, .int x5), (9, .int x17), (10, .long v18), (12, .int x21)]) hx hb dX2_goOn_177 hl (by decide) rfl (fun ls hl => ?_)
                      obtain ⟨x41, ex41, hf⟩ := st_lty hf
                      refine lv_iinc (v := x41) (lv' := [(12, .int x41), (6, .long x40), (0, .ref (X.1 49)), (1, .int p0), (2, .int p1), (3, .int p2), (4, .long x38), (8, .int x5), (9, .int x17), (10, .long v18)]) hx hb dX2_goOn_179 hl (k := 9) rfl (by rw [ex41]; rfl) (by decide) rfl (fun ls hl => ?_)
                      refine lv_goto (tgt := 44) hx hb dX2_goOn_182 (by decide) ?_
                      exact hK1 _ (Option.some.inj hf).symm ls H locs hH (lv_sub hl [2, 3, 4, 5, 6, 1, 7, 8, 9, 0] rfl)
                    clear hf
                    replace hf := hr
                    refine lv_icmp_ge (tgt := 175) hx hb dX2_goOn_147 (by decide) (fun hc => ?_) (fun hc => ?_)
                    · replace hf := (if_pos hc).symm.trans hf
                      refine lv_lconst (v := 0) hx hb dX2_goOn_175 (by decide) ?_
                      replace hf := Option.some.inj hf
                      subst hf
                      exact hJ ls H locs hH (lv_sub hl [1, 2, 3, 4, 0, 6, 7, 8, 9] rfl)
                    · replace hf := (if_neg hc).symm.trans hf
                      refine lv_iload hx hb dX2_goOn_150 (lv_at hl 6 rfl) ?_
                      refine lv_iload hx hb dX2_goOn_152 (lv_at hl 9 rfl) ?_
                      refine lv_iadd hx hb dX2_goOn_154 ?_
                      refine lv_aload_n hx hb dX2_goOn_155 rfl (lv_at hl 1 rfl) ?_
                      refine pz_gI hE hH fr_X2_15 qk_49 dX2_goOn_156 ?_
                      refine lv_iconst (v := 1) hx hb dX2_goOn_159 (by decide) ?_
                      refine lv_isub hx hb dX2_goOn_160 ?_
                      refine lv_icmp_lt (tgt := 175) hx hb dX2_goOn_161 (by decide) (fun hc => ?_) (fun hc => ?_)
                      · replace hf := (if_pos hc).symm.trans hf
                        refine lv_lconst (v := 0) hx hb dX2_goOn_175 (by decide) ?_
                        replace hf := Option.some.inj hf
                        subst hf
                        exact hJ ls H locs hH (lv_sub hl [1, 2, 3, 4, 0, 6, 7, 8, 9] rfl)
                      · replace hf := (if_neg hc).symm.trans hf
                        refine lv_lload hx hb dX2_goOn_164 (lv_at hl 10 rfl) ?_
                        refine lv_iload hx hb dX2_goOn_166 (lv_at hl 9 rfl) ?_
                        refine lv_iconst (v := 1) hx hb dX2_goOn_168 (by decide) ?_
                        refine lv_iadd hx hb dX2_goOn_169 ?_
                        refine lv_i2l (v := ((x21 + 1) : Int32).toInt64) hx hb dX2_goOn_170 rfl ?_
                        obtain ⟨v42, ev42, hf⟩ := st_bd hf
                        refine pz_ldiv hE ev42 dX2_goOn_171 ?_
                        refine lv_goto (tgt := 176) hx hb dX2_goOn_172 (by decide) ?_
                        replace hf := Option.some.inj hf
                        subst hf
                        exact hJ ls H locs hH (lv_sub hl [1, 2, 3, 4, 0, 6, 7, 8, 9] rfl)
                  clear hf
                  replace hf := hr
                  refine lv_icmp_ge (tgt := 135) hx hb dX2_goOn_115 (by decide) (fun hc => ?_) (fun hc => ?_)
                  · replace hf := (if_pos hc).symm.trans hf
                    refine lv_lconst (v := 0) hx hb dX2_goOn_135 (by decide) ?_
                    subst hf
                    exact hJ ls H locs hH (lv_sub hl [1, 2, 3, 4, 6, 7, 8, 9, 10, 0] rfl)
                  · replace hf := (if_neg hc).symm.trans hf
                    refine lv_iload hx hb dX2_goOn_118 (lv_at hl 7 rfl) ?_
                    refine lv_iload hx hb dX2_goOn_120 (lv_at hl 10 rfl) ?_
                    refine lv_iadd hx hb dX2_goOn_122 ?_
                    refine lv_aload_n hx hb dX2_goOn_123 rfl (lv_at hl 1 rfl) ?_
                    refine pz_gI hE hH fr_X2_15 qk_49 dX2_goOn_124 ?_
                    refine lv_icmp_lt (tgt := 135) hx hb dX2_goOn_127 (by decide) (fun hc => ?_) (fun hc => ?_)
                    · replace hf := (if_pos hc).symm.trans hf
                      refine lv_lconst (v := 0) hx hb dX2_goOn_135 (by decide) ?_
                      subst hf
                      exact hJ ls H locs hH (lv_sub hl [1, 2, 3, 4, 6, 7, 8, 9, 10, 0] rfl)
                    · replace hf := (if_neg hc).symm.trans hf
                      refine lv_lload hx hb dX2_goOn_130 (lv_at hl 0 rfl) ?_
                      refine lv_goto (tgt := 136) hx hb dX2_goOn_132 (by decide) ?_
                      subst hf
                      exact hJ ls H locs hH (lv_sub hl [1, 2, 3, 4, 6, 7, 8, 9, 10, 0] rfl)) _ hlp
        exact hG ls H locs hH (lv_sub hl [3, 4, 5, 6, 7, 8, 9, 2, 1, 0] rfl)) _ hlp
  exact hG ls H locs hH (lv_sub hl [3, 4, 5, 6, 2, 1, 0] rfl)

theorem dX2_follow_0 : decode cX2_follow 0 = .ok (.aload_n 0, 1) := by decide +kernel
theorem dX2_follow_1 : decode cX2_follow 1 = .ok (.getfield 47, 3) := by decide +kernel
theorem dX2_follow_4 : decode cX2_follow 4 = .ok (.lconst 0, 1) := by decide +kernel
theorem dX2_follow_5 : decode cX2_follow 5 = .ok (.invokestatic 78, 3) := by decide +kernel
theorem dX2_follow_8 : decode cX2_follow 8 = .ok (.aload_n 0, 1) := by decide +kernel
theorem dX2_follow_9 : decode cX2_follow 9 = .ok (.getfield 47, 3) := by decide +kernel
theorem dX2_follow_12 : decode cX2_follow 12 = .ok (.iconst 0, 1) := by decide +kernel
theorem dX2_follow_13 : decode cX2_follow 13 = .ok (.ldc2_w 81, 3) := by decide +kernel
theorem dX2_follow_16 : decode cX2_follow 16 = .ok (.lastore, 1) := by decide +kernel
theorem dX2_follow_17 : decode cX2_follow 17 = .ok (.iconst 0, 1) := by decide +kernel
theorem dX2_follow_18 : decode cX2_follow 18 = .ok (.istore 4, 2) := by decide +kernel
theorem dX2_follow_20 : decode cX2_follow 20 = .ok (.iload 4, 2) := by decide +kernel
theorem dX2_follow_22 : decode cX2_follow 22 = .ok (.iload_n 3, 1) := by decide +kernel
theorem dX2_follow_23 : decode cX2_follow 23 = .ok (.if_icmp .ge 31, 3) := by decide +kernel
theorem dX2_follow_26 : decode cX2_follow 26 = .ok (.aload_n 0, 1) := by decide +kernel
theorem dX2_follow_27 : decode cX2_follow 27 = .ok (.getfield 38, 3) := by decide +kernel
theorem dX2_follow_30 : decode cX2_follow 30 = .ok (.iload 4, 2) := by decide +kernel
theorem dX2_follow_32 : decode cX2_follow 32 = .ok (.aload_n 0, 1) := by decide +kernel
theorem dX2_follow_33 : decode cX2_follow 33 = .ok (.invokevirtual 83, 3) := by decide +kernel
theorem dX2_follow_36 : decode cX2_follow 36 = .ok (.lastore, 1) := by decide +kernel
theorem dX2_follow_37 : decode cX2_follow 37 = .ok (.aload_n 0, 1) := by decide +kernel
theorem dX2_follow_38 : decode cX2_follow 38 = .ok (.iload_n 1, 1) := by decide +kernel
theorem dX2_follow_39 : decode cX2_follow 39 = .ok (.aload_n 2, 1) := by decide +kernel
theorem dX2_follow_40 : decode cX2_follow 40 = .ok (.iload 4, 2) := by decide +kernel
theorem dX2_follow_42 : decode cX2_follow 42 = .ok (.iaload, 1) := by decide +kernel
theorem dX2_follow_43 : decode cX2_follow 43 = .ok (.iload 4, 2) := by decide +kernel
theorem dX2_follow_45 : decode cX2_follow 45 = .ok (.invokevirtual 87, 3) := by decide +kernel
theorem dX2_follow_48 : decode cX2_follow 48 = .ok (.iinc 4 1, 3) := by decide +kernel
theorem dX2_follow_51 : decode cX2_follow 51 = .ok (.goto (-31), 3) := by decide +kernel
theorem dX2_follow_54 : decode cX2_follow 54 = .ok (.aload_n 0, 1) := by decide +kernel
theorem dX2_follow_55 : decode cX2_follow 55 = .ok (.getfield 38, 3) := by decide +kernel
theorem dX2_follow_58 : decode cX2_follow 58 = .ok (.iload_n 3, 1) := by decide +kernel
theorem dX2_follow_59 : decode cX2_follow 59 = .ok (.aload_n 0, 1) := by decide +kernel
theorem dX2_follow_60 : decode cX2_follow 60 = .ok (.invokevirtual 83, 3) := by decide +kernel
theorem dX2_follow_63 : decode cX2_follow 63 = .ok (.lastore, 1) := by decide +kernel
theorem dX2_follow_64 : decode cX2_follow 64 = .ok (.return_, 1) := by decide +kernel
set_option maxRecDepth 100000 in
set_option maxHeartbeats 4000000 in
theorem tz_X2_follow (l : Launch) (X : qX) {p0 : Int32} {p1 : Nat} {p2 : Int32} {M MR : qM} (hp1 : q_is p1 20 12) (hf : jRo_follow p0 p1 p2 M = some MR) : q_Met l X yX2_follow cX2_follow 5 none (3) M [.ref (X.1 49), .int p0, .ref (X.1 p1), .int p2] (q_Qv X MR) := by
  refine q_enter (by decide) (Nat.le_of_ble_eq_true rfl) ?_
  intro p e s m args below meth c hE hrt hlk H locs hH ls hl
  have hx := hE.1
  have hb := hE.2.1
  have hl : lv_has ls 5 [(0, .ref (X.1 49)), (1, .int p0), (2, .ref (X.1 p1)), (3, .int p2)] := hl
  unfold jRo_follow at hf
  refine lv_aload_n hx hb dX2_follow_0 rfl (lv_at hl 0 rfl) ?_
  obtain ⟨a1, ea1, hf⟩ := st_bd hf
  refine pz_gR hE hH fr_X2_47 qk_49 ea1 dX2_follow_1 (fun ha1 => ?_)
  replace ha1 : q_prt a1 = true := ha1
  refine lv_lconst (v := 0) hx hb dX2_follow_4 (by decide) ?_
  obtain ⟨M2, eM2, hf⟩ := st_bd hf
  refine q_callv (q_runS (As := [.ref (X.1 a1), .long 0]) (rest := []) hE hH (tz_J7_fill_d0a16 l X (q_isal (q_prt_0 ha1)) (hf := eM2)) ks_X2_78 (by decide) rfl hl.1 rfl (Nat.le_of_ble_eq_true rfl) dX2_follow_5) hH (fun H locs hH => ?_)
  refine lv_aload_n hx hb dX2_follow_8 rfl (lv_at hl 0 rfl) ?_
  obtain ⟨a3, ea3, hf⟩ := st_bd hf
  refine pz_gR hE hH fr_X2_47 qk_49 ea3 dX2_follow_9 (fun ha3 => ?_)
  replace ha3 : q_prt a3 = true := ha3
  refine lv_iconst (v := 0) hx hb dX2_follow_12 (by decide) ?_
  refine pz_ldc2 (v := 1000000000) hE (q_in _ 1072 (by decide +kernel) rfl) dX2_follow_13 ?_
  obtain ⟨M4, eM4, hf⟩ := st_bd hf
  refine pz_last hE hH (q_prt_0 ha3) eM4 dX2_follow_16 (fun H locs hH => ?_)
  refine lv_iconst (v := 0) hx hb dX2_follow_17 (by decide) ?_
  refine lv_istore (lv' := [(4, .int 0), (0, .ref (X.1 49)), (1, .int p0), (2, .ref (X.1 p1)), (3, .int p2)]) hx hb dX2_follow_18 hl (by decide) rfl (fun ls hl => ?_)
  obtain ⟨M7, hlp, hf⟩ := st_bd hf
  have hX : (fun M7 => ∀ (ls : Array Slot) (H : Heap) (locs : List Loc), q_H X M7 s H locs → lv_has ls 5 [(0, .ref (X.1 49)), (3, .int p2)] → W p l e (q_rm (3)) s m args below meth c H locs 0 0 (MQ below (q_Qv X MR) args s 0 0 (q_A X)) (F0 m 54 ls []) : qM → Prop) M7 := by
    intro ls H locs hH hl
    refine lv_aload_n hx hb dX2_follow_54 rfl (lv_at hl 0 rfl) ?_
    refine pz_gS (a := 52) hE hH fr_X2_38 qk_49 (by decide) dX2_follow_55 ?_
    refine lv_iload_n hx hb dX2_follow_58 rfl (lv_at hl 1 rfl) ?_
    refine lv_aload_n hx hb dX2_follow_59 rfl (lv_at hl 0 rfl) ?_
    obtain ⟨r9, er9, hf⟩ := st_bd hf
    refine q_calll (q_runV (As := []) (rest := [.int p2, .ref (X.1 52)]) hE hH (tz_X2_goneByNow l X (hf := er9)) kv_X2_83 qk_49 (by decide) rfl hl.1 rfl (Nat.le_of_ble_eq_true rfl) dX2_follow_60) hH (fun H locs hH => ?_)
    obtain ⟨M10, eM10, hf⟩ := st_bd hf
    refine pz_last hE hH qk_52 eM10 dX2_follow_63 (fun H locs hH => ?_)
    replace hf := Option.some.inj hf
    subst hf
    exact pz_retv hE hrt hlk hH dX2_follow_64
  clear hf
  have hG := qlp_ind (r := M7) (fun q => qu2 q (fun x5 M6 => ∀ (ls : Array Slot) (H : Heap) (locs : List Loc), q_H X M6 s H locs → lv_has ls 5 [(0, .ref (X.1 49)), (1, .int p0), (2, .ref (X.1 p1)), (3, .int p2), (4, .int x5)] → W p l e (q_rm (3)) s m args below meth c H locs 0 0 (MQ below (q_Qv X MR) args s 0 0 (q_A X)) (F0 m 20 ls []))) (by
      intro q o hf hK1 hK2
      obtain ⟨x5, M6⟩ := q
      replace hf := st_u2 hf
      intro ls H locs hH hl
      refine lv_iload hx hb dX2_follow_20 (lv_at hl 4 rfl) ?_
      refine lv_iload_n hx hb dX2_follow_22 rfl (lv_at hl 3 rfl) ?_
      refine lv_icmp_ge (tgt := 54) hx hb dX2_follow_23 (by decide) (fun hc => ?_) (fun hc => ?_)
      · replace hf := (if_pos hc).symm.trans hf
        replace hf := hK2 _ (Option.some.inj hf).symm
        subst hf
        exact hX ls H locs hH (lv_sub hl [0, 3] rfl)
      · replace hf := (if_neg hc).symm.trans hf
        refine lv_aload_n hx hb dX2_follow_26 rfl (lv_at hl 0 rfl) ?_
        refine pz_gS (a := 52) hE hH fr_X2_38 qk_49 (by decide) dX2_follow_27 ?_
        refine lv_iload hx hb dX2_follow_30 (lv_at hl 4 rfl) ?_
        refine lv_aload_n hx hb dX2_follow_32 rfl (lv_at hl 0 rfl) ?_
        obtain ⟨r11, er11, hf⟩ := st_bd hf
        refine q_calll (q_runV (As := []) (rest := [.int x5, .ref (X.1 52)]) hE hH (tz_X2_goneByNow l X (hf := er11)) kv_X2_83 qk_49 (by decide) rfl hl.1 rfl (Nat.le_of_ble_eq_true rfl) dX2_follow_33) hH (fun H locs hH => ?_)
        obtain ⟨M12, eM12, hf⟩ := st_bd hf
        refine pz_last hE hH qk_52 eM12 dX2_follow_36 (fun H locs hH => ?_)
        refine lv_aload_n hx hb dX2_follow_37 rfl (lv_at hl 0 rfl) ?_
        refine lv_iload_n hx hb dX2_follow_38 rfl (lv_at hl 1 rfl) ?_
        refine lv_aload_n hx hb dX2_follow_39 rfl (lv_at hl 2 rfl) ?_
        refine lv_iload hx hb dX2_follow_40 (lv_at hl 4 rfl) ?_
        obtain ⟨v13, ev13, hf⟩ := st_bd hf
        refine pz_iald hE hH hp1 ev13 dX2_follow_42 ?_
        refine lv_iload hx hb dX2_follow_43 (lv_at hl 4 rfl) ?_
        obtain ⟨M14, eM14, hf⟩ := st_bd hf
        refine q_callv (q_runV (As := [.int p0, .int v13, .int x5]) (rest := []) hE hH (tz_X2_goOn l X (hf := eM14)) kv_X2_87 qk_49 (by decide) rfl hl.1 rfl (Nat.le_of_ble_eq_true rfl) dX2_follow_45) hH (fun H locs hH => ?_)
        obtain ⟨x15, ex15, hf⟩ := st_lty hf
        refine lv_iinc (v := x15) (lv' := [(4, .int x15), (0, .ref (X.1 49)), (1, .int p0), (2, .ref (X.1 p1)), (3, .int p2)]) hx hb dX2_follow_48 hl (k := 4) rfl (by rw [ex15]; rfl) (by decide) rfl (fun ls hl => ?_)
        refine lv_goto (tgt := 20) hx hb dX2_follow_51 (by decide) ?_
        exact hK1 _ (Option.some.inj hf).symm ls H locs hH (lv_sub hl [1, 2, 3, 4, 0] rfl)) _ hlp
  exact hG ls H locs hH (lv_sub hl [1, 2, 3, 4, 0] rfl)

theorem dX2_followAll_0 : decode cX2_followAll 0 = .ok (.aload_n 0, 1) := by decide +kernel
theorem dX2_followAll_1 : decode cX2_followAll 1 = .ok (.aload_n 0, 1) := by decide +kernel
theorem dX2_followAll_2 : decode cX2_followAll 2 = .ok (.getfield 11, 3) := by decide +kernel
theorem dX2_followAll_5 : decode cX2_followAll 5 = .ok (.aload_n 0, 1) := by decide +kernel
theorem dX2_followAll_6 : decode cX2_followAll 6 = .ok (.getfield 30, 3) := by decide +kernel
theorem dX2_followAll_9 : decode cX2_followAll 9 = .ok (.aload_n 0, 1) := by decide +kernel
theorem dX2_followAll_10 : decode cX2_followAll 10 = .ok (.getfield 27, 3) := by decide +kernel
theorem dX2_followAll_13 : decode cX2_followAll 13 = .ok (.invokevirtual 74, 3) := by decide +kernel
theorem dX2_followAll_16 : decode cX2_followAll 16 = .ok (.return_, 1) := by decide +kernel
set_option maxRecDepth 100000 in
set_option maxHeartbeats 4000000 in
theorem tz_X2_followAll (l : Launch) (X : qX) {M MR : qM} (hf : jRo_followAll M = some MR) : q_Met l X yX2_followAll cX2_followAll 1 none (4) M [.ref (X.1 49)] (q_Qv X MR) := by
  refine q_enter (by decide) (Nat.le_of_ble_eq_true rfl) ?_
  intro p e s m args below meth c hE hrt hlk H locs hH ls hl
  have hx := hE.1
  have hb := hE.2.1
  have hl : lv_has ls 1 [(0, .ref (X.1 49))] := hl
  unfold jRo_followAll at hf
  refine lv_aload_n hx hb dX2_followAll_0 rfl (lv_at hl 0 rfl) ?_
  refine lv_aload_n hx hb dX2_followAll_1 rfl (lv_at hl 0 rfl) ?_
  refine pz_gI hE hH fr_X2_11 qk_49 dX2_followAll_2 ?_
  refine lv_aload_n hx hb dX2_followAll_5 rfl (lv_at hl 0 rfl) ?_
  refine pz_gS (a := 50) hE hH fr_X2_30 qk_49 (by decide) dX2_followAll_6 ?_
  refine lv_aload_n hx hb dX2_followAll_9 rfl (lv_at hl 0 rfl) ?_
  refine pz_gI hE hH fr_X2_27 qk_49 dX2_followAll_10 ?_
  obtain ⟨M1, eM1, hf⟩ := st_bd hf
  refine q_callv (q_runV (As := [.int (M.1 49 0), .ref (X.1 50), .int (M.1 49 5)]) (rest := []) hE hH (tz_X2_follow l X qk_50 (hf := eM1)) kv_X2_74 qk_49 (by decide) rfl hl.1 rfl (Nat.le_of_ble_eq_true rfl) dX2_followAll_13) hH (fun H locs hH => ?_)
  replace hf := Option.some.inj hf
  subst hf
  exact pz_retv hE hrt hlk hH dX2_followAll_16

theorem dX2_takenUpTo_0 : decode cX2_takenUpTo 0 = .ok (.lconst 0, 1) := by decide +kernel
theorem dX2_takenUpTo_1 : decode cX2_takenUpTo 1 = .ok (.lstore_n 2, 1) := by decide +kernel
theorem dX2_takenUpTo_2 : decode cX2_takenUpTo 2 = .ok (.iconst 0, 1) := by decide +kernel
theorem dX2_takenUpTo_3 : decode cX2_takenUpTo 3 = .ok (.istore 4, 2) := by decide +kernel
theorem dX2_takenUpTo_5 : decode cX2_takenUpTo 5 = .ok (.iload 4, 2) := by decide +kernel
theorem dX2_takenUpTo_7 : decode cX2_takenUpTo 7 = .ok (.iload_n 1, 1) := by decide +kernel
theorem dX2_takenUpTo_8 : decode cX2_takenUpTo 8 = .ok (.if_icmp .gt 19, 3) := by decide +kernel
theorem dX2_takenUpTo_11 : decode cX2_takenUpTo 11 = .ok (.lload_n 2, 1) := by decide +kernel
theorem dX2_takenUpTo_12 : decode cX2_takenUpTo 12 = .ok (.aload_n 0, 1) := by decide +kernel
theorem dX2_takenUpTo_13 : decode cX2_takenUpTo 13 = .ok (.getfield 34, 3) := by decide +kernel
theorem dX2_takenUpTo_16 : decode cX2_takenUpTo 16 = .ok (.iload 4, 2) := by decide +kernel
theorem dX2_takenUpTo_18 : decode cX2_takenUpTo 18 = .ok (.laload, 1) := by decide +kernel
theorem dX2_takenUpTo_19 : decode cX2_takenUpTo 19 = .ok (.ladd, 1) := by decide +kernel
theorem dX2_takenUpTo_20 : decode cX2_takenUpTo 20 = .ok (.lstore_n 2, 1) := by decide +kernel
theorem dX2_takenUpTo_21 : decode cX2_takenUpTo 21 = .ok (.iinc 4 1, 3) := by decide +kernel
theorem dX2_takenUpTo_24 : decode cX2_takenUpTo 24 = .ok (.goto (-19), 3) := by decide +kernel
theorem dX2_takenUpTo_27 : decode cX2_takenUpTo 27 = .ok (.lload_n 2, 1) := by decide +kernel
theorem dX2_takenUpTo_28 : decode cX2_takenUpTo 28 = .ok (.lreturn, 1) := by decide +kernel
set_option maxRecDepth 100000 in
set_option maxHeartbeats 4000000 in
theorem tz_X2_takenUpTo (l : Launch) (X : qX) {p0 : Int32} {M : qM} {r0 : Int64} (hf : jRo_takenUpTo p0 M = some r0) : q_Met l X yX2_takenUpTo cX2_takenUpTo 5 (some .long) (1) M [.ref (X.1 49), .int p0] (q_Ql X r0 M) := by
  refine q_enter (by decide) (Nat.le_of_ble_eq_true rfl) ?_
  intro p e s m args below meth c hE hrt hlk H locs hH ls hl
  have hx := hE.1
  have hb := hE.2.1
  have hl : lv_has ls 5 [(0, .ref (X.1 49)), (1, .int p0)] := hl
  unfold jRo_takenUpTo at hf
  refine lv_lconst (v := 0) hx hb dX2_takenUpTo_0 (by decide) ?_
  refine lv_lstore_n (lv' := [(2, .long 0), (0, .ref (X.1 49)), (1, .int p0)]) hx hb dX2_takenUpTo_1 rfl hl (by decide) rfl (fun ls hl => ?_)
  refine lv_iconst (v := 0) hx hb dX2_takenUpTo_2 (by decide) ?_
  refine lv_istore (lv' := [(4, .int 0), (2, .long 0), (0, .ref (X.1 49)), (1, .int p0)]) hx hb dX2_takenUpTo_3 hl (by decide) rfl (fun ls hl => ?_)
  obtain ⟨x3, hlp, hf⟩ := st_bd hf
  have hX : (fun x3 => ∀ (ls : Array Slot) (H : Heap) (locs : List Loc), q_H X M s H locs → lv_has ls 5 [(2, .long x3)] → W p l e (q_rm (1)) s m args below meth c H locs 0 0 (MQ below (q_Ql X r0 M) args s 0 0 (q_A X)) (F0 m 27 ls []) : Int64 → Prop) x3 := by
    intro ls H locs hH hl
    refine lv_lload_n hx hb dX2_takenUpTo_27 rfl (lv_at hl 0 rfl) ?_
    replace hf := Option.some.inj hf
    subst hf
    exact pz_retl hE hrt hlk hH dX2_takenUpTo_28
  clear hf
  have hG := qlp_ind (r := x3) (fun q => qu2 q (fun x1 x2 => ∀ (ls : Array Slot) (H : Heap) (locs : List Loc), q_H X M s H locs → lv_has ls 5 [(0, .ref (X.1 49)), (1, .int p0), (2, .long x1), (4, .int x2)] → W p l e (q_rm (1)) s m args below meth c H locs 0 0 (MQ below (q_Ql X r0 M) args s 0 0 (q_A X)) (F0 m 5 ls []))) (by
      intro q o hf hK1 hK2
      obtain ⟨x1, x2⟩ := q
      replace hf := st_u2 hf
      intro ls H locs hH hl
      refine lv_iload hx hb dX2_takenUpTo_5 (lv_at hl 3 rfl) ?_
      refine lv_iload_n hx hb dX2_takenUpTo_7 rfl (lv_at hl 1 rfl) ?_
      refine lv_icmp_gt (tgt := 27) hx hb dX2_takenUpTo_8 (by decide) (fun hc => ?_) (fun hc => ?_)
      · replace hf := (if_pos hc).symm.trans hf
        replace hf := hK2 _ (Option.some.inj hf).symm
        subst hf
        exact hX ls H locs hH (lv_sub hl [2] rfl)
      · replace hf := (if_neg hc).symm.trans hf
        refine lv_lload_n hx hb dX2_takenUpTo_11 rfl (lv_at hl 2 rfl) ?_
        refine lv_aload_n hx hb dX2_takenUpTo_12 rfl (lv_at hl 0 rfl) ?_
        refine pz_gS (a := 51) hE hH fr_X2_34 qk_49 (by decide) dX2_takenUpTo_13 ?_
        refine lv_iload hx hb dX2_takenUpTo_16 (lv_at hl 3 rfl) ?_
        obtain ⟨v5, ev5, hf⟩ := st_bd hf
        refine pz_lald hE hH qk_51 ev5 dX2_takenUpTo_18 ?_
        refine lv_ladd hx hb dX2_takenUpTo_19 ?_
        refine lv_topl (fun x6 ex6 => ?_)
        replace hf := st_lt hf ex6
        refine lv_lstore_n (lv' := [(2, .long x6), (0, .ref (X.1 49)), (1, .int p0), (4, .int x2)]) hx hb dX2_takenUpTo_20 rfl hl (by decide) rfl (fun ls hl => ?_)
        obtain ⟨x7, ex7, hf⟩ := st_lty hf
        refine lv_iinc (v := x7) (lv' := [(4, .int x7), (2, .long x6), (0, .ref (X.1 49)), (1, .int p0)]) hx hb dX2_takenUpTo_21 hl (k := 3) rfl (by rw [ex7]; rfl) (by decide) rfl (fun ls hl => ?_)
        refine lv_goto (tgt := 5) hx hb dX2_takenUpTo_24 (by decide) ?_
        exact hK1 _ (Option.some.inj hf).symm ls H locs hH (lv_sub hl [2, 3, 1, 0] rfl)) _ hlp
  exact hG ls H locs hH (lv_sub hl [2, 3, 1, 0] rfl)

theorem dX2_never_0 : decode cX2_never 0 = .ok (.ldc2_w 81, 3) := by decide +kernel
theorem dX2_never_3 : decode cX2_never 3 = .ok (.aload_n 0, 1) := by decide +kernel
theorem dX2_never_4 : decode cX2_never 4 = .ok (.aload_n 0, 1) := by decide +kernel
theorem dX2_never_5 : decode cX2_never 5 = .ok (.getfield 27, 3) := by decide +kernel
theorem dX2_never_8 : decode cX2_never 8 = .ok (.iconst 1, 1) := by decide +kernel
theorem dX2_never_9 : decode cX2_never 9 = .ok (.isub, 1) := by decide +kernel
theorem dX2_never_10 : decode cX2_never 10 = .ok (.invokevirtual 98, 3) := by decide +kernel
theorem dX2_never_13 : decode cX2_never 13 = .ok (.lsub, 1) := by decide +kernel
theorem dX2_never_14 : decode cX2_never 14 = .ok (.lreturn, 1) := by decide +kernel
set_option maxRecDepth 100000 in
set_option maxHeartbeats 4000000 in
theorem tz_X2_never (l : Launch) (X : qX) {M : qM} {r0 : Int64} (hf : jRo_never M = some r0) : q_Met l X yX2_never cX2_never 1 (some .long) (2) M [.ref (X.1 49)] (q_Ql X r0 M) := by
  refine q_enter (by decide) (Nat.le_of_ble_eq_true rfl) ?_
  intro p e s m args below meth c hE hrt hlk H locs hH ls hl
  have hx := hE.1
  have hb := hE.2.1
  have hl : lv_has ls 1 [(0, .ref (X.1 49))] := hl
  unfold jRo_never at hf
  refine pz_ldc2 (v := 1000000000) hE (q_in _ 1072 (by decide +kernel) rfl) dX2_never_0 ?_
  refine lv_aload_n hx hb dX2_never_3 rfl (lv_at hl 0 rfl) ?_
  refine lv_aload_n hx hb dX2_never_4 rfl (lv_at hl 0 rfl) ?_
  refine pz_gI hE hH fr_X2_27 qk_49 dX2_never_5 ?_
  refine lv_iconst (v := 1) hx hb dX2_never_8 (by decide) ?_
  refine lv_isub hx hb dX2_never_9 ?_
  obtain ⟨r1, er1, hf⟩ := st_bd hf
  refine q_calll (q_runV (As := [.int ((M.1 49 5) - 1)]) (rest := [.long 1000000000]) hE hH (tz_X2_takenUpTo l X (hf := er1)) kv_X2_98 qk_49 (by decide) rfl hl.1 rfl (Nat.le_of_ble_eq_true rfl) dX2_never_10) hH (fun H locs hH => ?_)
  refine lv_lsub hx hb dX2_never_13 ?_
  replace hf := Option.some.inj hf
  subst hf
  exact pz_retl hE hrt hlk hH dX2_never_14

theorem dX2_meanMinute_0 : decode cX2_meanMinute 0 = .ok (.aload_n 0, 1) := by decide +kernel
theorem dX2_meanMinute_1 : decode cX2_meanMinute 1 = .ok (.invokevirtual 102, 3) := by decide +kernel
theorem dX2_meanMinute_4 : decode cX2_meanMinute 4 = .ok (.aload_n 0, 1) := by decide +kernel
theorem dX2_meanMinute_5 : decode cX2_meanMinute 5 = .ok (.getfield 27, 3) := by decide +kernel
theorem dX2_meanMinute_8 : decode cX2_meanMinute 8 = .ok (.i2l, 1) := by decide +kernel
theorem dX2_meanMinute_9 : decode cX2_meanMinute 9 = .ok (.lmul, 1) := by decide +kernel
theorem dX2_meanMinute_10 : decode cX2_meanMinute 10 = .ok (.lstore_n 1, 1) := by decide +kernel
theorem dX2_meanMinute_11 : decode cX2_meanMinute 11 = .ok (.iconst 0, 1) := by decide +kernel
theorem dX2_meanMinute_12 : decode cX2_meanMinute 12 = .ok (.istore_n 3, 1) := by decide +kernel
theorem dX2_meanMinute_13 : decode cX2_meanMinute 13 = .ok (.iload_n 3, 1) := by decide +kernel
theorem dX2_meanMinute_14 : decode cX2_meanMinute 14 = .ok (.aload_n 0, 1) := by decide +kernel
theorem dX2_meanMinute_15 : decode cX2_meanMinute 15 = .ok (.getfield 27, 3) := by decide +kernel
theorem dX2_meanMinute_18 : decode cX2_meanMinute 18 = .ok (.if_icmp .ge 21, 3) := by decide +kernel
theorem dX2_meanMinute_21 : decode cX2_meanMinute 21 = .ok (.lload_n 1, 1) := by decide +kernel
theorem dX2_meanMinute_22 : decode cX2_meanMinute 22 = .ok (.aload_n 0, 1) := by decide +kernel
theorem dX2_meanMinute_23 : decode cX2_meanMinute 23 = .ok (.getfield 34, 3) := by decide +kernel
theorem dX2_meanMinute_26 : decode cX2_meanMinute 26 = .ok (.iload_n 3, 1) := by decide +kernel
theorem dX2_meanMinute_27 : decode cX2_meanMinute 27 = .ok (.laload, 1) := by decide +kernel
theorem dX2_meanMinute_28 : decode cX2_meanMinute 28 = .ok (.iload_n 3, 1) := by decide +kernel
theorem dX2_meanMinute_29 : decode cX2_meanMinute 29 = .ok (.i2l, 1) := by decide +kernel
theorem dX2_meanMinute_30 : decode cX2_meanMinute 30 = .ok (.lmul, 1) := by decide +kernel
theorem dX2_meanMinute_31 : decode cX2_meanMinute 31 = .ok (.ladd, 1) := by decide +kernel
theorem dX2_meanMinute_32 : decode cX2_meanMinute 32 = .ok (.lstore_n 1, 1) := by decide +kernel
theorem dX2_meanMinute_33 : decode cX2_meanMinute 33 = .ok (.iinc 3 1, 3) := by decide +kernel
theorem dX2_meanMinute_36 : decode cX2_meanMinute 36 = .ok (.goto (-23), 3) := by decide +kernel
theorem dX2_meanMinute_39 : decode cX2_meanMinute 39 = .ok (.lload_n 1, 1) := by decide +kernel
theorem dX2_meanMinute_40 : decode cX2_meanMinute 40 = .ok (.ldc2_w 105, 3) := by decide +kernel
theorem dX2_meanMinute_43 : decode cX2_meanMinute 43 = .ok (.ldiv, 1) := by decide +kernel
theorem dX2_meanMinute_44 : decode cX2_meanMinute 44 = .ok (.l2i, 1) := by decide +kernel
theorem dX2_meanMinute_45 : decode cX2_meanMinute 45 = .ok (.ireturn, 1) := by decide +kernel
set_option maxRecDepth 100000 in
set_option maxHeartbeats 4000000 in
theorem tz_X2_meanMinute (l : Launch) (X : qX) {M : qM} {r0 : Int32} (hf : jRo_meanMinute M = some r0) : q_Met l X yX2_meanMinute cX2_meanMinute 4 (some .int) (3) M [.ref (X.1 49)] (q_Qi X r0 M) := by
  refine q_enter (by decide) (Nat.le_of_ble_eq_true rfl) ?_
  intro p e s m args below meth c hE hrt hlk H locs hH ls hl
  have hx := hE.1
  have hb := hE.2.1
  have hl : lv_has ls 4 [(0, .ref (X.1 49))] := hl
  unfold jRo_meanMinute at hf
  refine lv_aload_n hx hb dX2_meanMinute_0 rfl (lv_at hl 0 rfl) ?_
  obtain ⟨r1, er1, hf⟩ := st_bd hf
  refine q_calll (q_runV (As := []) (rest := []) hE hH (tz_X2_never l X (hf := er1)) kv_X2_102 qk_49 (by decide) rfl hl.1 rfl (Nat.le_of_ble_eq_true rfl) dX2_meanMinute_1) hH (fun H locs hH => ?_)
  refine lv_aload_n hx hb dX2_meanMinute_4 rfl (lv_at hl 0 rfl) ?_
  refine pz_gI hE hH fr_X2_27 qk_49 dX2_meanMinute_5 ?_
  refine lv_i2l (v := ((M.1 49 5) : Int32).toInt64) hx hb dX2_meanMinute_8 rfl ?_
  refine lv_lmul hx hb dX2_meanMinute_9 ?_
  refine lv_topl (fun x2 ex2 => ?_)
  replace hf := st_lt hf ex2
  refine lv_lstore_n (lv' := [(1, .long x2), (0, .ref (X.1 49))]) hx hb dX2_meanMinute_10 rfl hl (by decide) rfl (fun ls hl => ?_)
  refine lv_iconst (v := 0) hx hb dX2_meanMinute_11 (by decide) ?_
  refine lv_istore_n (lv' := [(3, .int 0), (1, .long x2), (0, .ref (X.1 49))]) hx hb dX2_meanMinute_12 rfl hl (by decide) rfl (fun ls hl => ?_)
  obtain ⟨x5, hlp, hf⟩ := st_bd hf
  have hX : (fun x5 => ∀ (ls : Array Slot) (H : Heap) (locs : List Loc), q_H X M s H locs → lv_has ls 4 [(1, .long x5)] → W p l e (q_rm (3)) s m args below meth c H locs 0 0 (MQ below (q_Qi X r0 M) args s 0 0 (q_A X)) (F0 m 39 ls []) : Int64 → Prop) x5 := by
    intro ls H locs hH hl
    refine lv_lload_n hx hb dX2_meanMinute_39 rfl (lv_at hl 0 rfl) ?_
    refine pz_ldc2 (v := 1000) hE (q_in _ 1137 (by decide +kernel) rfl) dX2_meanMinute_40 ?_
    refine lv_ldiv hx hb dX2_meanMinute_43 (by decide) ?_
    refine lv_l2i (v := ((x5 / 1000) : Int64).toInt32) hx hb dX2_meanMinute_44 rfl ?_
    replace hf := Option.some.inj hf
    subst hf
    exact pz_reti hE hrt hlk hH dX2_meanMinute_45
  clear hf
  have hG := qlp_ind (r := x5) (fun q => qu2 q (fun x3 x4 => ∀ (ls : Array Slot) (H : Heap) (locs : List Loc), q_H X M s H locs → lv_has ls 4 [(0, .ref (X.1 49)), (1, .long x3), (3, .int x4)] → W p l e (q_rm (3)) s m args below meth c H locs 0 0 (MQ below (q_Qi X r0 M) args s 0 0 (q_A X)) (F0 m 13 ls []))) (by
      intro q o hf hK1 hK2
      obtain ⟨x3, x4⟩ := q
      replace hf := st_u2 hf
      intro ls H locs hH hl
      refine lv_iload_n hx hb dX2_meanMinute_13 rfl (lv_at hl 2 rfl) ?_
      refine lv_aload_n hx hb dX2_meanMinute_14 rfl (lv_at hl 0 rfl) ?_
      refine pz_gI hE hH fr_X2_27 qk_49 dX2_meanMinute_15 ?_
      refine lv_icmp_ge (tgt := 39) hx hb dX2_meanMinute_18 (by decide) (fun hc => ?_) (fun hc => ?_)
      · replace hf := (if_pos hc).symm.trans hf
        replace hf := hK2 _ (Option.some.inj hf).symm
        subst hf
        exact hX ls H locs hH (lv_sub hl [1] rfl)
      · replace hf := (if_neg hc).symm.trans hf
        refine lv_lload_n hx hb dX2_meanMinute_21 rfl (lv_at hl 1 rfl) ?_
        refine lv_aload_n hx hb dX2_meanMinute_22 rfl (lv_at hl 0 rfl) ?_
        refine pz_gS (a := 51) hE hH fr_X2_34 qk_49 (by decide) dX2_meanMinute_23 ?_
        refine lv_iload_n hx hb dX2_meanMinute_26 rfl (lv_at hl 2 rfl) ?_
        obtain ⟨v7, ev7, hf⟩ := st_bd hf
        refine pz_lald hE hH qk_51 ev7 dX2_meanMinute_27 ?_
        refine lv_iload_n hx hb dX2_meanMinute_28 rfl (lv_at hl 2 rfl) ?_
        refine lv_i2l (v := (x4 : Int32).toInt64) hx hb dX2_meanMinute_29 rfl ?_
        refine lv_lmul hx hb dX2_meanMinute_30 ?_
        refine lv_ladd hx hb dX2_meanMinute_31 ?_
        refine lv_topl (fun x8 ex8 => ?_)
        replace hf := st_lt hf ex8
        refine lv_lstore_n (lv' := [(1, .long x8), (0, .ref (X.1 49)), (3, .int x4)]) hx hb dX2_meanMinute_32 rfl hl (by decide) rfl (fun ls hl => ?_)
        obtain ⟨x9, ex9, hf⟩ := st_lty hf
        refine lv_iinc (v := x9) (lv' := [(3, .int x9), (1, .long x8), (0, .ref (X.1 49))]) hx hb dX2_meanMinute_33 hl (k := 2) rfl (by rw [ex9]; rfl) (by decide) rfl (fun ls hl => ?_)
        refine lv_goto (tgt := 13) hx hb dX2_meanMinute_36 (by decide) ?_
        exact hK1 _ (Option.some.inj hf).symm ls H locs hH (lv_sub hl [2, 1, 0] rfl)) _ hlp
  exact hG ls H locs hH (lv_sub hl [2, 1, 0] rfl)

theorem dX2_weigh_0 : decode cX2_weigh 0 = .ok (.aload_n 0, 1) := by decide +kernel
theorem dX2_weigh_1 : decode cX2_weigh 1 = .ok (.aload_n 0, 1) := by decide +kernel
theorem dX2_weigh_2 : decode cX2_weigh 2 = .ok (.getfield 11, 3) := by decide +kernel
theorem dX2_weigh_5 : decode cX2_weigh 5 = .ok (.iconst 1, 1) := by decide +kernel
theorem dX2_weigh_6 : decode cX2_weigh 6 = .ok (.isub, 1) := by decide +kernel
theorem dX2_weigh_7 : decode cX2_weigh 7 = .ok (.aload_n 1, 1) := by decide +kernel
theorem dX2_weigh_8 : decode cX2_weigh 8 = .ok (.aload_n 0, 1) := by decide +kernel
theorem dX2_weigh_9 : decode cX2_weigh 9 = .ok (.getfield 27, 3) := by decide +kernel
theorem dX2_weigh_12 : decode cX2_weigh 12 = .ok (.invokevirtual 74, 3) := by decide +kernel
theorem dX2_weigh_15 : decode cX2_weigh 15 = .ok (.iconst 0, 1) := by decide +kernel
theorem dX2_weigh_16 : decode cX2_weigh 16 = .ok (.istore_n 2, 1) := by decide +kernel
theorem dX2_weigh_17 : decode cX2_weigh 17 = .ok (.iload_n 2, 1) := by decide +kernel
theorem dX2_weigh_18 : decode cX2_weigh 18 = .ok (.aload_n 0, 1) := by decide +kernel
theorem dX2_weigh_19 : decode cX2_weigh 19 = .ok (.getfield 27, 3) := by decide +kernel
theorem dX2_weigh_22 : decode cX2_weigh 22 = .ok (.if_icmp .ge 53, 3) := by decide +kernel
theorem dX2_weigh_25 : decode cX2_weigh 25 = .ok (.iconst 0, 1) := by decide +kernel
theorem dX2_weigh_26 : decode cX2_weigh 26 = .ok (.aload_n 0, 1) := by decide +kernel
theorem dX2_weigh_27 : decode cX2_weigh 27 = .ok (.getfield 18, 3) := by decide +kernel
theorem dX2_weigh_30 : decode cX2_weigh 30 = .ok (.aload_n 0, 1) := by decide +kernel
theorem dX2_weigh_31 : decode cX2_weigh 31 = .ok (.getfield 21, 3) := by decide +kernel
theorem dX2_weigh_34 : decode cX2_weigh 34 = .ok (.iload_n 2, 1) := by decide +kernel
theorem dX2_weigh_35 : decode cX2_weigh 35 = .ok (.imul, 1) := by decide +kernel
theorem dX2_weigh_36 : decode cX2_weigh 36 = .ok (.isub, 1) := by decide +kernel
theorem dX2_weigh_37 : decode cX2_weigh 37 = .ok (.invokestatic 107, 3) := by decide +kernel
theorem dX2_weigh_40 : decode cX2_weigh 40 = .ok (.i2l, 1) := by decide +kernel
theorem dX2_weigh_41 : decode cX2_weigh 41 = .ok (.lstore_n 3, 1) := by decide +kernel
theorem dX2_weigh_42 : decode cX2_weigh 42 = .ok (.aload_n 0, 1) := by decide +kernel
theorem dX2_weigh_43 : decode cX2_weigh 43 = .ok (.getfield 41, 3) := by decide +kernel
theorem dX2_weigh_46 : decode cX2_weigh 46 = .ok (.iload_n 2, 1) := by decide +kernel
theorem dX2_weigh_47 : decode cX2_weigh 47 = .ok (.aload_n 0, 1) := by decide +kernel
theorem dX2_weigh_48 : decode cX2_weigh 48 = .ok (.getfield 44, 3) := by decide +kernel
theorem dX2_weigh_51 : decode cX2_weigh 51 = .ok (.iload_n 2, 1) := by decide +kernel
theorem dX2_weigh_52 : decode cX2_weigh 52 = .ok (.laload, 1) := by decide +kernel
theorem dX2_weigh_53 : decode cX2_weigh 53 = .ok (.lload_n 3, 1) := by decide +kernel
theorem dX2_weigh_54 : decode cX2_weigh 54 = .ok (.lmul, 1) := by decide +kernel
theorem dX2_weigh_55 : decode cX2_weigh 55 = .ok (.ldc2_w 81, 3) := by decide +kernel
theorem dX2_weigh_58 : decode cX2_weigh 58 = .ok (.aload_n 0, 1) := by decide +kernel
theorem dX2_weigh_59 : decode cX2_weigh 59 = .ok (.getfield 24, 3) := by decide +kernel
theorem dX2_weigh_62 : decode cX2_weigh 62 = .ok (.i2l, 1) := by decide +kernel
theorem dX2_weigh_63 : decode cX2_weigh 63 = .ok (.lmul, 1) := by decide +kernel
theorem dX2_weigh_64 : decode cX2_weigh 64 = .ok (.iload_n 2, 1) := by decide +kernel
theorem dX2_weigh_65 : decode cX2_weigh 65 = .ok (.i2l, 1) := by decide +kernel
theorem dX2_weigh_66 : decode cX2_weigh 66 = .ok (.lmul, 1) := by decide +kernel
theorem dX2_weigh_67 : decode cX2_weigh 67 = .ok (.lsub, 1) := by decide +kernel
theorem dX2_weigh_68 : decode cX2_weigh 68 = .ok (.lastore, 1) := by decide +kernel
theorem dX2_weigh_69 : decode cX2_weigh 69 = .ok (.iinc 2 1, 3) := by decide +kernel
theorem dX2_weigh_72 : decode cX2_weigh 72 = .ok (.goto (-55), 3) := by decide +kernel
theorem dX2_weigh_75 : decode cX2_weigh 75 = .ok (.aload_n 0, 1) := by decide +kernel
theorem dX2_weigh_76 : decode cX2_weigh 76 = .ok (.getfield 41, 3) := by decide +kernel
theorem dX2_weigh_79 : decode cX2_weigh 79 = .ok (.aload_n 0, 1) := by decide +kernel
theorem dX2_weigh_80 : decode cX2_weigh 80 = .ok (.getfield 27, 3) := by decide +kernel
theorem dX2_weigh_83 : decode cX2_weigh 83 = .ok (.ldc2_w 113, 3) := by decide +kernel
theorem dX2_weigh_86 : decode cX2_weigh 86 = .ok (.aload_n 0, 1) := by decide +kernel
theorem dX2_weigh_87 : decode cX2_weigh 87 = .ok (.getfield 24, 3) := by decide +kernel
theorem dX2_weigh_90 : decode cX2_weigh 90 = .ok (.i2l, 1) := by decide +kernel
theorem dX2_weigh_91 : decode cX2_weigh 91 = .ok (.lmul, 1) := by decide +kernel
theorem dX2_weigh_92 : decode cX2_weigh 92 = .ok (.aload_n 0, 1) := by decide +kernel
theorem dX2_weigh_93 : decode cX2_weigh 93 = .ok (.getfield 27, 3) := by decide +kernel
theorem dX2_weigh_96 : decode cX2_weigh 96 = .ok (.i2l, 1) := by decide +kernel
theorem dX2_weigh_97 : decode cX2_weigh 97 = .ok (.lmul, 1) := by decide +kernel
theorem dX2_weigh_98 : decode cX2_weigh 98 = .ok (.lastore, 1) := by decide +kernel
theorem dX2_weigh_99 : decode cX2_weigh 99 = .ok (.return_, 1) := by decide +kernel
set_option maxRecDepth 100000 in
set_option maxHeartbeats 4000000 in
theorem tz_X2_weigh (l : Launch) (X : qX) {p0 : Nat} {M MR : qM} (hp0 : q_is p0 20 12) (hf : jRo_weigh p0 M = some MR) : q_Met l X yX2_weigh cX2_weigh 5 none (4) M [.ref (X.1 49), .ref (X.1 p0)] (q_Qv X MR) := by
  refine q_enter (by decide) (Nat.le_of_ble_eq_true rfl) ?_
  intro p e s m args below meth c hE hrt hlk H locs hH ls hl
  have hx := hE.1
  have hb := hE.2.1
  have hl : lv_has ls 5 [(0, .ref (X.1 49)), (1, .ref (X.1 p0))] := hl
  unfold jRo_weigh at hf
  refine lv_aload_n hx hb dX2_weigh_0 rfl (lv_at hl 0 rfl) ?_
  refine lv_aload_n hx hb dX2_weigh_1 rfl (lv_at hl 0 rfl) ?_
  refine pz_gI hE hH fr_X2_11 qk_49 dX2_weigh_2 ?_
  refine lv_iconst (v := 1) hx hb dX2_weigh_5 (by decide) ?_
  refine lv_isub hx hb dX2_weigh_6 ?_
  refine lv_aload_n hx hb dX2_weigh_7 rfl (lv_at hl 1 rfl) ?_
  refine lv_aload_n hx hb dX2_weigh_8 rfl (lv_at hl 0 rfl) ?_
  refine pz_gI hE hH fr_X2_27 qk_49 dX2_weigh_9 ?_
  obtain ⟨M1, eM1, hf⟩ := st_bd hf
  refine q_callv (q_runV (As := [.int ((M.1 49 0) - 1), .ref (X.1 p0), .int (M.1 49 5)]) (rest := []) hE hH (tz_X2_follow l X hp0 (hf := eM1)) kv_X2_74 qk_49 (by decide) rfl hl.1 rfl (Nat.le_of_ble_eq_true rfl) dX2_weigh_12) hH (fun H locs hH => ?_)
  refine lv_iconst (v := 0) hx hb dX2_weigh_15 (by decide) ?_
  refine lv_istore_n (lv' := [(2, .int 0), (0, .ref (X.1 49)), (1, .ref (X.1 p0))]) hx hb dX2_weigh_16 rfl hl (by decide) rfl (fun ls hl => ?_)
  obtain ⟨M4, hlp, hf⟩ := st_bd hf
  have hX : (fun M4 => ∀ (ls : Array Slot) (H : Heap) (locs : List Loc), q_H X M4 s H locs → lv_has ls 5 [(0, .ref (X.1 49))] → W p l e (q_rm (4)) s m args below meth c H locs 0 0 (MQ below (q_Qv X MR) args s 0 0 (q_A X)) (F0 m 75 ls []) : qM → Prop) M4 := by
    intro ls H locs hH hl
    refine lv_aload_n hx hb dX2_weigh_75 rfl (lv_at hl 0 rfl) ?_
    refine pz_gS (a := 53) hE hH fr_X2_41 qk_49 (by decide) dX2_weigh_76 ?_
    refine lv_aload_n hx hb dX2_weigh_79 rfl (lv_at hl 0 rfl) ?_
    refine pz_gI hE hH fr_X2_27 qk_49 dX2_weigh_80 ?_
    refine pz_ldc2 (v := (-1000000000)) hE (q_in _ 1104 (by decide +kernel) rfl) dX2_weigh_83 ?_
    refine lv_aload_n hx hb dX2_weigh_86 rfl (lv_at hl 0 rfl) ?_
    refine pz_gI hE hH fr_X2_24 qk_49 dX2_weigh_87 ?_
    refine lv_i2l (v := ((M4.1 49 4) : Int32).toInt64) hx hb dX2_weigh_90 rfl ?_
    refine lv_lmul hx hb dX2_weigh_91 ?_
    refine lv_aload_n hx hb dX2_weigh_92 rfl (lv_at hl 0 rfl) ?_
    refine pz_gI hE hH fr_X2_27 qk_49 dX2_weigh_93 ?_
    refine lv_i2l (v := ((M4.1 49 5) : Int32).toInt64) hx hb dX2_weigh_96 rfl ?_
    refine lv_lmul hx hb dX2_weigh_97 ?_
    obtain ⟨M6, eM6, hf⟩ := st_bd hf
    refine pz_last hE hH qk_53 eM6 dX2_weigh_98 (fun H locs hH => ?_)
    replace hf := Option.some.inj hf
    subst hf
    exact pz_retv hE hrt hlk hH dX2_weigh_99
  clear hf
  have hG := qlp_ind (r := M4) (fun q => qu2 q (fun x2 M3 => ∀ (ls : Array Slot) (H : Heap) (locs : List Loc), q_H X M3 s H locs → lv_has ls 5 [(0, .ref (X.1 49)), (2, .int x2)] → W p l e (q_rm (4)) s m args below meth c H locs 0 0 (MQ below (q_Qv X MR) args s 0 0 (q_A X)) (F0 m 17 ls []))) (by
      intro q o hf hK1 hK2
      obtain ⟨x2, M3⟩ := q
      replace hf := st_u2 hf
      intro ls H locs hH hl
      refine lv_iload_n hx hb dX2_weigh_17 rfl (lv_at hl 1 rfl) ?_
      refine lv_aload_n hx hb dX2_weigh_18 rfl (lv_at hl 0 rfl) ?_
      refine pz_gI hE hH fr_X2_27 qk_49 dX2_weigh_19 ?_
      refine lv_icmp_ge (tgt := 75) hx hb dX2_weigh_22 (by decide) (fun hc => ?_) (fun hc => ?_)
      · replace hf := (if_pos hc).symm.trans hf
        replace hf := hK2 _ (Option.some.inj hf).symm
        subst hf
        exact hX ls H locs hH (lv_sub hl [0] rfl)
      · replace hf := (if_neg hc).symm.trans hf
        refine lv_iconst (v := 0) hx hb dX2_weigh_25 (by decide) ?_
        refine lv_aload_n hx hb dX2_weigh_26 rfl (lv_at hl 0 rfl) ?_
        refine pz_gI hE hH fr_X2_18 qk_49 dX2_weigh_27 ?_
        refine lv_aload_n hx hb dX2_weigh_30 rfl (lv_at hl 0 rfl) ?_
        refine pz_gI hE hH fr_X2_21 qk_49 dX2_weigh_31 ?_
        refine lv_iload_n hx hb dX2_weigh_34 rfl (lv_at hl 1 rfl) ?_
        refine lv_imul hx hb dX2_weigh_35 ?_
        refine lv_isub hx hb dX2_weigh_36 ?_
        refine pz_maxI (rest := []) hE (q_in _ 1103 (by decide +kernel) rfl) (q_in _ 549 (by decide +kernel) rfl) (q_in _ 17 (by decide +kernel) rfl) (q_in _ 550 (by decide +kernel) rfl) hl.1 (by decide) (Nat.le_of_ble_eq_true rfl) (Nat.zero_le _) (Nat.zero_le _) dX2_weigh_37 ?_
        refine lv_i2l (v := ((jmaxI 0 ((M3.1 49 2) - ((M3.1 49 3) * x2))) : Int32).toInt64) hx hb dX2_weigh_40 rfl ?_
        refine lv_topl (fun x7 ex7 => ?_)
        replace hf := st_lt hf ex7
        refine lv_lstore_n (lv' := [(3, .long x7), (0, .ref (X.1 49)), (2, .int x2)]) hx hb dX2_weigh_41 rfl hl (by decide) rfl (fun ls hl => ?_)
        refine lv_aload_n hx hb dX2_weigh_42 rfl (lv_at hl 1 rfl) ?_
        refine pz_gS (a := 53) hE hH fr_X2_41 qk_49 (by decide) dX2_weigh_43 ?_
        refine lv_iload_n hx hb dX2_weigh_46 rfl (lv_at hl 2 rfl) ?_
        refine lv_aload_n hx hb dX2_weigh_47 rfl (lv_at hl 1 rfl) ?_
        refine pz_gS (a := 54) hE hH fr_X2_44 qk_49 (by decide) dX2_weigh_48 ?_
        refine lv_iload_n hx hb dX2_weigh_51 rfl (lv_at hl 2 rfl) ?_
        obtain ⟨v8, ev8, hf⟩ := st_bd hf
        refine pz_lald hE hH qk_54 ev8 dX2_weigh_52 ?_
        refine lv_lload_n hx hb dX2_weigh_53 rfl (lv_at hl 0 rfl) ?_
        refine lv_lmul hx hb dX2_weigh_54 ?_
        refine pz_ldc2 (v := 1000000000) hE (q_in _ 1072 (by decide +kernel) rfl) dX2_weigh_55 ?_
        refine lv_aload_n hx hb dX2_weigh_58 rfl (lv_at hl 1 rfl) ?_
        refine pz_gI hE hH fr_X2_24 qk_49 dX2_weigh_59 ?_
        refine lv_i2l (v := ((M3.1 49 4) : Int32).toInt64) hx hb dX2_weigh_62 rfl ?_
        refine lv_lmul hx hb dX2_weigh_63 ?_
        refine lv_iload_n hx hb dX2_weigh_64 rfl (lv_at hl 2 rfl) ?_
        refine lv_i2l (v := (x2 : Int32).toInt64) hx hb dX2_weigh_65 rfl ?_
        refine lv_lmul hx hb dX2_weigh_66 ?_
        refine lv_lsub hx hb dX2_weigh_67 ?_
        obtain ⟨M9, eM9, hf⟩ := st_bd hf
        refine pz_last hE hH qk_53 eM9 dX2_weigh_68 (fun H locs hH => ?_)
        obtain ⟨x10, ex10, hf⟩ := st_lty hf
        refine lv_iinc (v := x10) (lv' := [(2, .int x10), (3, .long x7), (0, .ref (X.1 49))]) hx hb dX2_weigh_69 hl (k := 2) rfl (by rw [ex10]; rfl) (by decide) rfl (fun ls hl => ?_)
        refine lv_goto (tgt := 17) hx hb dX2_weigh_72 (by decide) ?_
        exact hK1 _ (Option.some.inj hf).symm ls H locs hH (lv_sub hl [2, 0] rfl)) _ hlp
  exact hG ls H locs hH (lv_sub hl [1, 0] rfl)

theorem dX2_greatest_0 : decode cX2_greatest 0 = .ok (.iconst 0, 1) := by decide +kernel
theorem dX2_greatest_1 : decode cX2_greatest 1 = .ok (.istore_n 1, 1) := by decide +kernel
theorem dX2_greatest_2 : decode cX2_greatest 2 = .ok (.iconst 1, 1) := by decide +kernel
theorem dX2_greatest_3 : decode cX2_greatest 3 = .ok (.istore_n 2, 1) := by decide +kernel
theorem dX2_greatest_4 : decode cX2_greatest 4 = .ok (.iload_n 2, 1) := by decide +kernel
theorem dX2_greatest_5 : decode cX2_greatest 5 = .ok (.aload_n 0, 1) := by decide +kernel
theorem dX2_greatest_6 : decode cX2_greatest 6 = .ok (.getfield 27, 3) := by decide +kernel
theorem dX2_greatest_9 : decode cX2_greatest 9 = .ok (.if_icmp .gt 27, 3) := by decide +kernel
theorem dX2_greatest_12 : decode cX2_greatest 12 = .ok (.aload_n 0, 1) := by decide +kernel
theorem dX2_greatest_13 : decode cX2_greatest 13 = .ok (.getfield 41, 3) := by decide +kernel
theorem dX2_greatest_16 : decode cX2_greatest 16 = .ok (.iload_n 2, 1) := by decide +kernel
theorem dX2_greatest_17 : decode cX2_greatest 17 = .ok (.laload, 1) := by decide +kernel
theorem dX2_greatest_18 : decode cX2_greatest 18 = .ok (.aload_n 0, 1) := by decide +kernel
theorem dX2_greatest_19 : decode cX2_greatest 19 = .ok (.getfield 41, 3) := by decide +kernel
theorem dX2_greatest_22 : decode cX2_greatest 22 = .ok (.iload_n 1, 1) := by decide +kernel
theorem dX2_greatest_23 : decode cX2_greatest 23 = .ok (.laload, 1) := by decide +kernel
theorem dX2_greatest_24 : decode cX2_greatest 24 = .ok (.lcmp, 1) := by decide +kernel
theorem dX2_greatest_25 : decode cX2_greatest 25 = .ok (.ifCond .le 5, 3) := by decide +kernel
theorem dX2_greatest_28 : decode cX2_greatest 28 = .ok (.iload_n 2, 1) := by decide +kernel
theorem dX2_greatest_29 : decode cX2_greatest 29 = .ok (.istore_n 1, 1) := by decide +kernel
theorem dX2_greatest_30 : decode cX2_greatest 30 = .ok (.iinc 2 1, 3) := by decide +kernel
theorem dX2_greatest_33 : decode cX2_greatest 33 = .ok (.goto (-29), 3) := by decide +kernel
theorem dX2_greatest_36 : decode cX2_greatest 36 = .ok (.iload_n 1, 1) := by decide +kernel
theorem dX2_greatest_37 : decode cX2_greatest 37 = .ok (.ireturn, 1) := by decide +kernel
set_option maxRecDepth 100000 in
set_option maxHeartbeats 4000000 in
theorem tz_X2_greatest (l : Launch) (X : qX) {M : qM} {r0 : Int32} (hf : jRo_greatest M = some r0) : q_Met l X yX2_greatest cX2_greatest 3 (some .int) (1) M [.ref (X.1 49)] (q_Qi X r0 M) := by
  refine q_enter (by decide) (Nat.le_of_ble_eq_true rfl) ?_
  intro p e s m args below meth c hE hrt hlk H locs hH ls hl
  have hx := hE.1
  have hb := hE.2.1
  have hl : lv_has ls 3 [(0, .ref (X.1 49))] := hl
  unfold jRo_greatest at hf
  refine lv_iconst (v := 0) hx hb dX2_greatest_0 (by decide) ?_
  refine lv_istore_n (lv' := [(1, .int 0), (0, .ref (X.1 49))]) hx hb dX2_greatest_1 rfl hl (by decide) rfl (fun ls hl => ?_)
  refine lv_iconst (v := 1) hx hb dX2_greatest_2 (by decide) ?_
  refine lv_istore_n (lv' := [(2, .int 1), (1, .int 0), (0, .ref (X.1 49))]) hx hb dX2_greatest_3 rfl hl (by decide) rfl (fun ls hl => ?_)
  obtain ⟨x3, hlp, hf⟩ := st_bd hf
  have hX : (fun x3 => ∀ (ls : Array Slot) (H : Heap) (locs : List Loc), q_H X M s H locs → lv_has ls 3 [(1, .int x3)] → W p l e (q_rm (1)) s m args below meth c H locs 0 0 (MQ below (q_Qi X r0 M) args s 0 0 (q_A X)) (F0 m 36 ls []) : Int32 → Prop) x3 := by
    intro ls H locs hH hl
    refine lv_iload_n hx hb dX2_greatest_36 rfl (lv_at hl 0 rfl) ?_
    replace hf := Option.some.inj hf
    subst hf
    exact pz_reti hE hrt hlk hH dX2_greatest_37
  clear hf
  have hG := qlp_ind (r := x3) (fun q => qu2 q (fun x1 x2 => ∀ (ls : Array Slot) (H : Heap) (locs : List Loc), q_H X M s H locs → lv_has ls 3 [(0, .ref (X.1 49)), (1, .int x1), (2, .int x2)] → W p l e (q_rm (1)) s m args below meth c H locs 0 0 (MQ below (q_Qi X r0 M) args s 0 0 (q_A X)) (F0 m 4 ls []))) (by
      intro q o hf hK1 hK2
      obtain ⟨x1, x2⟩ := q
      replace hf := st_u2 hf
      intro ls H locs hH hl
      refine lv_iload_n hx hb dX2_greatest_4 rfl (lv_at hl 2 rfl) ?_
      refine lv_aload_n hx hb dX2_greatest_5 rfl (lv_at hl 0 rfl) ?_
      refine pz_gI hE hH fr_X2_27 qk_49 dX2_greatest_6 ?_
      refine lv_icmp_gt (tgt := 36) hx hb dX2_greatest_9 (by decide) (fun hc => ?_) (fun hc => ?_)
      · replace hf := (if_pos hc).symm.trans hf
        replace hf := hK2 _ (Option.some.inj hf).symm
        subst hf
        exact hX ls H locs hH (lv_sub hl [1] rfl)
      · replace hf := (if_neg hc).symm.trans hf
        refine lv_aload_n hx hb dX2_greatest_12 rfl (lv_at hl 0 rfl) ?_
        refine pz_gS (a := 53) hE hH fr_X2_41 qk_49 (by decide) dX2_greatest_13 ?_
        refine lv_iload_n hx hb dX2_greatest_16 rfl (lv_at hl 2 rfl) ?_
        obtain ⟨v5, ev5, hf⟩ := st_bd hf
        refine pz_lald hE hH qk_53 ev5 dX2_greatest_17 ?_
        refine lv_aload_n hx hb dX2_greatest_18 rfl (lv_at hl 0 rfl) ?_
        refine pz_gS (a := 53) hE hH fr_X2_41 qk_49 (by decide) dX2_greatest_19 ?_
        refine lv_iload_n hx hb dX2_greatest_22 rfl (lv_at hl 1 rfl) ?_
        obtain ⟨v6, ev6, hf⟩ := st_bd hf
        refine pz_lald hE hH qk_53 ev6 dX2_greatest_23 ?_
        refine W.lcmp hx hb dX2_greatest_24 ?_
        obtain ⟨x7, hr, hf⟩ := st_ltx hf
        have hJ : ∀ (ls : Array Slot) (H : Heap) (locs : List Loc), q_H X M s H locs → lv_has ls 3 [(0, .ref (X.1 49)), (1, .int x7), (2, .int x2)] → W p l e (q_rm (1)) s m args below meth c H locs 0 0 (MQ below (q_Qi X r0 M) args s 0 0 (q_A X)) (F0 m 30 ls []) := by
          intro ls H locs hH hl
          obtain ⟨x8, ex8, hf⟩ := st_lty hf
          refine lv_iinc (v := x8) (lv' := [(2, .int x8), (0, .ref (X.1 49)), (1, .int x7)]) hx hb dX2_greatest_30 hl (k := 2) rfl (by rw [ex8]; rfl) (by decide) rfl (fun ls hl => ?_)
          refine lv_goto (tgt := 4) hx hb dX2_greatest_33 (by decide) ?_
          exact hK1 _ (Option.some.inj hf).symm ls H locs hH (lv_sub hl [1, 2, 0] rfl)
        clear hf
        replace hf := hr
        refine lv_if_le (tgt := 30) hx hb dX2_greatest_25 (by decide) (fun hc => ?_) (fun hc => ?_)
        · replace hf := (if_pos hc).symm.trans hf
          subst hf
          exact hJ ls H locs hH (lv_sub hl [0, 1, 2] rfl)
        · replace hf := (if_neg hc).symm.trans hf
          refine lv_iload_n hx hb dX2_greatest_28 rfl (lv_at hl 2 rfl) ?_
          refine lv_istore_n (lv' := [(1, .int x2), (0, .ref (X.1 49)), (2, .int x2)]) hx hb dX2_greatest_29 rfl hl (by decide) rfl (fun ls hl => ?_)
          subst hf
          exact hJ ls H locs hH (lv_sub hl [1, 0, 2] rfl)) _ hlp
  exact hG ls H locs hH (lv_sub hl [2, 1, 0] rfl)

theorem dX2_restsBy_0 : decode cX2_restsBy 0 = .ok (.aload_n 0, 1) := by decide +kernel
theorem dX2_restsBy_1 : decode cX2_restsBy 1 = .ok (.aload_n 2, 1) := by decide +kernel
theorem dX2_restsBy_2 : decode cX2_restsBy 2 = .ok (.invokevirtual 115, 3) := by decide +kernel
theorem dX2_restsBy_5 : decode cX2_restsBy 5 = .ok (.aload_n 0, 1) := by decide +kernel
theorem dX2_restsBy_6 : decode cX2_restsBy 6 = .ok (.getfield 41, 3) := by decide +kernel
theorem dX2_restsBy_9 : decode cX2_restsBy 9 = .ok (.aload_n 0, 1) := by decide +kernel
theorem dX2_restsBy_10 : decode cX2_restsBy 10 = .ok (.invokevirtual 119, 3) := by decide +kernel
theorem dX2_restsBy_13 : decode cX2_restsBy 13 = .ok (.laload, 1) := by decide +kernel
theorem dX2_restsBy_14 : decode cX2_restsBy 14 = .ok (.ldc2_w 81, 3) := by decide +kernel
theorem dX2_restsBy_17 : decode cX2_restsBy 17 = .ok (.iload_n 1, 1) := by decide +kernel
theorem dX2_restsBy_18 : decode cX2_restsBy 18 = .ok (.i2l, 1) := by decide +kernel
theorem dX2_restsBy_19 : decode cX2_restsBy 19 = .ok (.lmul, 1) := by decide +kernel
theorem dX2_restsBy_20 : decode cX2_restsBy 20 = .ok (.lsub, 1) := by decide +kernel
theorem dX2_restsBy_21 : decode cX2_restsBy 21 = .ok (.lstore_n 3, 1) := by decide +kernel
theorem dX2_restsBy_22 : decode cX2_restsBy 22 = .ok (.iconst 0, 1) := by decide +kernel
theorem dX2_restsBy_23 : decode cX2_restsBy 23 = .ok (.istore 5, 2) := by decide +kernel
theorem dX2_restsBy_25 : decode cX2_restsBy 25 = .ok (.iload 5, 2) := by decide +kernel
theorem dX2_restsBy_27 : decode cX2_restsBy 27 = .ok (.aload_n 0, 1) := by decide +kernel
theorem dX2_restsBy_28 : decode cX2_restsBy 28 = .ok (.getfield 27, 3) := by decide +kernel
theorem dX2_restsBy_31 : decode cX2_restsBy 31 = .ok (.if_icmp .ge 41, 3) := by decide +kernel
theorem dX2_restsBy_34 : decode cX2_restsBy 34 = .ok (.aload_n 2, 1) := by decide +kernel
theorem dX2_restsBy_35 : decode cX2_restsBy 35 = .ok (.iload 5, 2) := by decide +kernel
theorem dX2_restsBy_37 : decode cX2_restsBy 37 = .ok (.iaload, 1) := by decide +kernel
theorem dX2_restsBy_38 : decode cX2_restsBy 38 = .ok (.ifCond .le 17, 3) := by decide +kernel
theorem dX2_restsBy_41 : decode cX2_restsBy 41 = .ok (.aload_n 0, 1) := by decide +kernel
theorem dX2_restsBy_42 : decode cX2_restsBy 42 = .ok (.getfield 41, 3) := by decide +kernel
theorem dX2_restsBy_45 : decode cX2_restsBy 45 = .ok (.iload 5, 2) := by decide +kernel
theorem dX2_restsBy_47 : decode cX2_restsBy 47 = .ok (.laload, 1) := by decide +kernel
theorem dX2_restsBy_48 : decode cX2_restsBy 48 = .ok (.lload_n 3, 1) := by decide +kernel
theorem dX2_restsBy_49 : decode cX2_restsBy 49 = .ok (.lcmp, 1) := by decide +kernel
theorem dX2_restsBy_50 : decode cX2_restsBy 50 = .ok (.ifCond .ge 5, 3) := by decide +kernel
theorem dX2_restsBy_53 : decode cX2_restsBy 53 = .ok (.iconst 0, 1) := by decide +kernel
theorem dX2_restsBy_54 : decode cX2_restsBy 54 = .ok (.ireturn, 1) := by decide +kernel
theorem dX2_restsBy_55 : decode cX2_restsBy 55 = .ok (.aload_n 2, 1) := by decide +kernel
theorem dX2_restsBy_56 : decode cX2_restsBy 56 = .ok (.iload 5, 2) := by decide +kernel
theorem dX2_restsBy_58 : decode cX2_restsBy 58 = .ok (.iaload, 1) := by decide +kernel
theorem dX2_restsBy_59 : decode cX2_restsBy 59 = .ok (.bipush 10, 2) := by decide +kernel
theorem dX2_restsBy_61 : decode cX2_restsBy 61 = .ok (.if_icmp .ne 5, 3) := by decide +kernel
theorem dX2_restsBy_64 : decode cX2_restsBy 64 = .ok (.iconst 1, 1) := by decide +kernel
theorem dX2_restsBy_65 : decode cX2_restsBy 65 = .ok (.ireturn, 1) := by decide +kernel
theorem dX2_restsBy_66 : decode cX2_restsBy 66 = .ok (.iinc 5 1, 3) := by decide +kernel
theorem dX2_restsBy_69 : decode cX2_restsBy 69 = .ok (.goto (-44), 3) := by decide +kernel
theorem dX2_restsBy_72 : decode cX2_restsBy 72 = .ok (.aload_n 0, 1) := by decide +kernel
theorem dX2_restsBy_73 : decode cX2_restsBy 73 = .ok (.getfield 41, 3) := by decide +kernel
theorem dX2_restsBy_76 : decode cX2_restsBy 76 = .ok (.aload_n 0, 1) := by decide +kernel
theorem dX2_restsBy_77 : decode cX2_restsBy 77 = .ok (.getfield 27, 3) := by decide +kernel
theorem dX2_restsBy_80 : decode cX2_restsBy 80 = .ok (.laload, 1) := by decide +kernel
theorem dX2_restsBy_81 : decode cX2_restsBy 81 = .ok (.lload_n 3, 1) := by decide +kernel
theorem dX2_restsBy_82 : decode cX2_restsBy 82 = .ok (.lcmp, 1) := by decide +kernel
theorem dX2_restsBy_83 : decode cX2_restsBy 83 = .ok (.ifCond .lt 7, 3) := by decide +kernel
theorem dX2_restsBy_86 : decode cX2_restsBy 86 = .ok (.iconst 1, 1) := by decide +kernel
theorem dX2_restsBy_87 : decode cX2_restsBy 87 = .ok (.goto 4, 3) := by decide +kernel
theorem dX2_restsBy_90 : decode cX2_restsBy 90 = .ok (.iconst 0, 1) := by decide +kernel
theorem dX2_restsBy_91 : decode cX2_restsBy 91 = .ok (.ireturn, 1) := by decide +kernel
set_option maxRecDepth 100000 in
set_option maxHeartbeats 4000000 in
theorem tz_X2_restsBy (l : Launch) (X : qX) {p0 : Int32} {p1 : Nat} {M MR : qM} {r0 : Bool} (hp1 : q_is p1 20 12) (hf : jRo_restsBy p0 p1 M = some (r0, MR)) : q_Met l X yX2_restsBy cX2_restsBy 6 (some .boolean) (5) M [.ref (X.1 49), .int p0, .ref (X.1 p1)] (q_Qi X (b2i r0) MR) := by
  refine q_enter (by decide) (Nat.le_of_ble_eq_true rfl) ?_
  intro p e s m args below meth c hE hrt hlk H locs hH ls hl
  have hx := hE.1
  have hb := hE.2.1
  have hl : lv_has ls 6 [(0, .ref (X.1 49)), (1, .int p0), (2, .ref (X.1 p1))] := hl
  unfold jRo_restsBy at hf
  refine lv_aload_n hx hb dX2_restsBy_0 rfl (lv_at hl 0 rfl) ?_
  refine lv_aload_n hx hb dX2_restsBy_1 rfl (lv_at hl 2 rfl) ?_
  obtain ⟨M1, eM1, hf⟩ := st_bd hf
  refine q_callv (q_runV (As := [.ref (X.1 p1)]) (rest := []) hE hH (tz_X2_weigh l X hp1 (hf := eM1)) kv_X2_115 qk_49 (by decide) rfl hl.1 rfl (Nat.le_of_ble_eq_true rfl) dX2_restsBy_2) hH (fun H locs hH => ?_)
  refine lv_aload_n hx hb dX2_restsBy_5 rfl (lv_at hl 0 rfl) ?_
  refine pz_gS (a := 53) hE hH fr_X2_41 qk_49 (by decide) dX2_restsBy_6 ?_
  refine lv_aload_n hx hb dX2_restsBy_9 rfl (lv_at hl 0 rfl) ?_
  obtain ⟨r2, er2, hf⟩ := st_bd hf
  refine q_calli (q_runV (As := []) (rest := [.ref (X.1 53)]) hE hH (tz_X2_greatest l X (hf := er2)) kv_X2_119 qk_49 (by decide) rfl hl.1 rfl (Nat.le_of_ble_eq_true rfl) dX2_restsBy_10) hH (fun H locs hH => ?_)
  obtain ⟨v3, ev3, hf⟩ := st_bd hf
  refine pz_lald hE hH qk_53 ev3 dX2_restsBy_13 ?_
  refine pz_ldc2 (v := 1000000000) hE (q_in _ 1072 (by decide +kernel) rfl) dX2_restsBy_14 ?_
  refine lv_iload_n hx hb dX2_restsBy_17 rfl (lv_at hl 1 rfl) ?_
  refine lv_i2l (v := (p0 : Int32).toInt64) hx hb dX2_restsBy_18 rfl ?_
  refine lv_lmul hx hb dX2_restsBy_19 ?_
  refine lv_lsub hx hb dX2_restsBy_20 ?_
  refine lv_topl (fun x4 ex4 => ?_)
  replace hf := st_lt hf ex4
  refine lv_lstore_n (lv' := [(3, .long x4), (0, .ref (X.1 49)), (1, .int p0), (2, .ref (X.1 p1))]) hx hb dX2_restsBy_21 rfl hl (by decide) rfl (fun ls hl => ?_)
  refine lv_iconst (v := 0) hx hb dX2_restsBy_22 (by decide) ?_
  refine lv_istore (lv' := [(5, .int 0), (3, .long x4), (0, .ref (X.1 49)), (1, .int p0), (2, .ref (X.1 p1))]) hx hb dX2_restsBy_23 hl (by decide) rfl (fun ls hl => ?_)
  obtain ⟨r6, hlp, hf⟩ := st_bd hf
  have hX : (fun q0a => qse q0a (fun (_ : Unit) => ∀ (ls : Array Slot) (H : Heap) (locs : List Loc), q_H X M1 s H locs → lv_has ls 6 [] → W p l e (q_rm (5)) s m args below meth c H locs 0 0 (MQ below (q_Qi X (b2i r0) MR) args s 0 0 (q_A X)) (F0 m 53 ls [])) (fun q1a => qse q1a (fun (_ : Unit) => ∀ (ls : Array Slot) (H : Heap) (locs : List Loc), q_H X M1 s H locs → lv_has ls 6 [] → W p l e (q_rm (5)) s m args below meth c H locs 0 0 (MQ below (q_Qi X (b2i r0) MR) args s 0 0 (q_A X)) (F0 m 64 ls [])) (fun (_ : Unit) => ∀ (ls : Array Slot) (H : Heap) (locs : List Loc), q_H X M1 s H locs → lv_has ls 6 [(0, .ref (X.1 49)), (3, .long x4)] → W p l e (q_rm (5)) s m args below meth c H locs 0 0 (MQ below (q_Qi X (b2i r0) MR) args s 0 0 (q_A X)) (F0 m 72 ls []))) : (Unit ⊕ (Unit ⊕ Unit)) → Prop) r6 := by
    rcases r6 with r6 | r6
    · replace hf := st_seL hf
      intro ls H locs hH hl
      refine lv_iconst (v := 0) hx hb dX2_restsBy_53 (by decide) ?_
      replace hf := Option.some.inj hf
      obtain ⟨rfl, rfl⟩ := qi2 hf
      exact pz_retz hE hrt hlk hH rfl dX2_restsBy_54
    · replace hf := st_seR hf
      rcases r6 with r6 | r6
      · replace hf := st_seL hf
        intro ls H locs hH hl
        refine lv_iconst (v := 1) hx hb dX2_restsBy_64 (by decide) ?_
        replace hf := Option.some.inj hf
        obtain ⟨rfl, rfl⟩ := qi2 hf
        exact pz_retz hE hrt hlk hH rfl dX2_restsBy_65
      · replace hf := st_seR hf
        intro ls H locs hH hl
        refine lv_aload_n hx hb dX2_restsBy_72 rfl (lv_at hl 0 rfl) ?_
        refine pz_gS (a := 53) hE hH fr_X2_41 qk_49 (by decide) dX2_restsBy_73 ?_
        refine lv_aload_n hx hb dX2_restsBy_76 rfl (lv_at hl 0 rfl) ?_
        refine pz_gI hE hH fr_X2_27 qk_49 dX2_restsBy_77 ?_
        obtain ⟨v7, ev7, hf⟩ := st_bd hf
        refine pz_lald hE hH qk_53 ev7 dX2_restsBy_80 ?_
        refine lv_lload_n hx hb dX2_restsBy_81 rfl (lv_at hl 1 rfl) ?_
        refine W.lcmp hx hb dX2_restsBy_82 ?_
        obtain ⟨z8, hr, hf⟩ := st_ltx hf
        have hJ : ∀ (ls : Array Slot) (H : Heap) (locs : List Loc), q_H X M1 s H locs → lv_has ls 6 [] → W p l e (q_rm (5)) s m args below meth c H locs 0 0 (MQ below (q_Qi X (b2i r0) MR) args s 0 0 (q_A X)) (F0 m 91 ls [.int (b2i z8)]) := by
          intro ls H locs hH hl
          replace hf := Option.some.inj hf
          obtain ⟨rfl, rfl⟩ := qi2 hf
          exact pz_retz hE hrt hlk hH rfl dX2_restsBy_91
        clear hf
        replace hf := hr
        refine lv_if_lt (tgt := 90) hx hb dX2_restsBy_83 (by decide) (fun hc => ?_) (fun hc => ?_)
        · replace hf := (if_pos hc).symm.trans hf
          refine lv_iconst (v := 0) hx hb dX2_restsBy_90 (by decide) ?_
          subst hf
          exact hJ ls H locs hH (lv_sub hl [] rfl)
        · replace hf := (if_neg hc).symm.trans hf
          refine lv_iconst (v := 1) hx hb dX2_restsBy_86 (by decide) ?_
          refine lv_goto (tgt := 91) hx hb dX2_restsBy_87 (by decide) ?_
          subst hf
          exact hJ ls H locs hH (lv_sub hl [] rfl)
  clear hf
  have hG := qlp_ind (r := r6) (fun x5 => ∀ (ls : Array Slot) (H : Heap) (locs : List Loc), q_H X M1 s H locs → lv_has ls 6 [(0, .ref (X.1 49)), (2, .ref (X.1 p1)), (3, .long x4), (5, .int x5)] → W p l e (q_rm (5)) s m args below meth c H locs 0 0 (MQ below (q_Qi X (b2i r0) MR) args s 0 0 (q_A X)) (F0 m 25 ls [])) (by
      intro x5 o hf hK1 hK2
      intro ls H locs hH hl
      refine lv_iload hx hb dX2_restsBy_25 (lv_at hl 3 rfl) ?_
      refine lv_aload_n hx hb dX2_restsBy_27 rfl (lv_at hl 0 rfl) ?_
      refine pz_gI hE hH fr_X2_27 qk_49 dX2_restsBy_28 ?_
      refine lv_icmp_ge (tgt := 72) hx hb dX2_restsBy_31 (by decide) (fun hc => ?_) (fun hc => ?_)
      · replace hf := (if_pos hc).symm.trans hf
        replace hf := hK2 _ (Option.some.inj hf).symm
        subst hf
        exact hX ls H locs hH (lv_sub hl [0, 2] rfl)
      · replace hf := (if_neg hc).symm.trans hf
        refine lv_aload_n hx hb dX2_restsBy_34 rfl (lv_at hl 1 rfl) ?_
        refine lv_iload hx hb dX2_restsBy_35 (lv_at hl 3 rfl) ?_
        obtain ⟨v9, ev9, hf⟩ := st_bd hf
        refine pz_iald hE hH hp1 ev9 dX2_restsBy_37 ?_
        refine lv_if_le (tgt := 55) hx hb dX2_restsBy_38 (by decide) (fun hc => ?_) (fun hc => ?_)
        · replace hf := (if_pos hc).symm.trans hf
          refine lv_aload_n hx hb dX2_restsBy_55 rfl (lv_at hl 1 rfl) ?_
          refine lv_iload hx hb dX2_restsBy_56 (lv_at hl 3 rfl) ?_
          obtain ⟨v10, ev10, hf⟩ := st_bd hf
          refine pz_iald hE hH hp1 ev10 dX2_restsBy_58 ?_
          refine lv_bipush (v := 10) hx hb dX2_restsBy_59 (by decide) ?_
          refine lv_icmp_ne (tgt := 66) hx hb dX2_restsBy_61 (by decide) (fun hc => ?_) (fun hc => ?_)
          · replace hf := (if_neg hc).symm.trans hf
            obtain ⟨x11, ex11, hf⟩ := st_lty hf
            refine lv_iinc (v := x11) (lv' := [(5, .int x11), (0, .ref (X.1 49)), (2, .ref (X.1 p1)), (3, .long x4)]) hx hb dX2_restsBy_66 hl (k := 3) rfl (by rw [ex11]; rfl) (by decide) rfl (fun ls hl => ?_)
            refine lv_goto (tgt := 25) hx hb dX2_restsBy_69 (by decide) ?_
            exact hK1 _ (Option.some.inj hf).symm ls H locs hH (lv_sub hl [1, 2, 3, 0] rfl)
          · replace hf := (if_pos hc).symm.trans hf
            replace hf := hK2 _ (Option.some.inj hf).symm
            subst hf
            exact hX ls H locs hH (lv_sub hl [] rfl)
        · replace hf := (if_neg hc).symm.trans hf
          refine lv_aload_n hx hb dX2_restsBy_41 rfl (lv_at hl 0 rfl) ?_
          refine pz_gS (a := 53) hE hH fr_X2_41 qk_49 (by decide) dX2_restsBy_42 ?_
          refine lv_iload hx hb dX2_restsBy_45 (lv_at hl 3 rfl) ?_
          obtain ⟨v12, ev12, hf⟩ := st_bd hf
          refine pz_lald hE hH qk_53 ev12 dX2_restsBy_47 ?_
          refine lv_lload_n hx hb dX2_restsBy_48 rfl (lv_at hl 2 rfl) ?_
          refine W.lcmp hx hb dX2_restsBy_49 ?_
          refine lv_if_ge (tgt := 55) hx hb dX2_restsBy_50 (by decide) (fun hc => ?_) (fun hc => ?_)
          · replace hf := (if_pos hc).symm.trans hf
            refine lv_aload_n hx hb dX2_restsBy_55 rfl (lv_at hl 1 rfl) ?_
            refine lv_iload hx hb dX2_restsBy_56 (lv_at hl 3 rfl) ?_
            obtain ⟨v13, ev13, hf⟩ := st_bd hf
            refine pz_iald hE hH hp1 ev13 dX2_restsBy_58 ?_
            refine lv_bipush (v := 10) hx hb dX2_restsBy_59 (by decide) ?_
            refine lv_icmp_ne (tgt := 66) hx hb dX2_restsBy_61 (by decide) (fun hc => ?_) (fun hc => ?_)
            · replace hf := (if_neg hc).symm.trans hf
              obtain ⟨x14, ex14, hf⟩ := st_lty hf
              refine lv_iinc (v := x14) (lv' := [(5, .int x14), (0, .ref (X.1 49)), (2, .ref (X.1 p1)), (3, .long x4)]) hx hb dX2_restsBy_66 hl (k := 3) rfl (by rw [ex14]; rfl) (by decide) rfl (fun ls hl => ?_)
              refine lv_goto (tgt := 25) hx hb dX2_restsBy_69 (by decide) ?_
              exact hK1 _ (Option.some.inj hf).symm ls H locs hH (lv_sub hl [1, 2, 3, 0] rfl)
            · replace hf := (if_pos hc).symm.trans hf
              replace hf := hK2 _ (Option.some.inj hf).symm
              subst hf
              exact hX ls H locs hH (lv_sub hl [] rfl)
          · replace hf := (if_neg hc).symm.trans hf
            replace hf := hK2 _ (Option.some.inj hf).symm
            subst hf
            exact hX ls H locs hH (lv_sub hl [] rfl)) _ hlp
  exact hG ls H locs hH (lv_sub hl [2, 4, 1, 0] rfl)

theorem dX2_search_0 : decode cX2_search 0 = .ok (.iload_n 1, 1) := by decide +kernel
theorem dX2_search_1 : decode cX2_search 1 = .ok (.aload_n 0, 1) := by decide +kernel
theorem dX2_search_2 : decode cX2_search 2 = .ok (.getfield 65, 3) := by decide +kernel
theorem dX2_search_5 : decode cX2_search 5 = .ok (.if_icmp .ne 4, 3) := by decide +kernel
theorem dX2_search_8 : decode cX2_search 8 = .ok (.return_, 1) := by decide +kernel
theorem dX2_search_9 : decode cX2_search 9 = .ok (.iconst 1, 1) := by decide +kernel
theorem dX2_search_10 : decode cX2_search 10 = .ok (.istore_n 2, 1) := by decide +kernel
theorem dX2_search_11 : decode cX2_search 11 = .ok (.iconst 0, 1) := by decide +kernel
theorem dX2_search_12 : decode cX2_search 12 = .ok (.istore_n 3, 1) := by decide +kernel
theorem dX2_search_13 : decode cX2_search 13 = .ok (.iload_n 3, 1) := by decide +kernel
theorem dX2_search_14 : decode cX2_search 14 = .ok (.aload_n 0, 1) := by decide +kernel
theorem dX2_search_15 : decode cX2_search 15 = .ok (.getfield 27, 3) := by decide +kernel
theorem dX2_search_18 : decode cX2_search 18 = .ok (.if_icmp .ge 19, 3) := by decide +kernel
theorem dX2_search_21 : decode cX2_search 21 = .ok (.iload_n 3, 1) := by decide +kernel
theorem dX2_search_22 : decode cX2_search 22 = .ok (.iconst 3, 1) := by decide +kernel
theorem dX2_search_23 : decode cX2_search 23 = .ok (.if_icmp .ge 14, 3) := by decide +kernel
theorem dX2_search_26 : decode cX2_search 26 = .ok (.iload_n 2, 1) := by decide +kernel
theorem dX2_search_27 : decode cX2_search 27 = .ok (.bipush 11, 2) := by decide +kernel
theorem dX2_search_29 : decode cX2_search 29 = .ok (.imul, 1) := by decide +kernel
theorem dX2_search_30 : decode cX2_search 30 = .ok (.istore_n 2, 1) := by decide +kernel
theorem dX2_search_31 : decode cX2_search 31 = .ok (.iinc 3 1, 3) := by decide +kernel
theorem dX2_search_34 : decode cX2_search 34 = .ok (.goto (-21), 3) := by decide +kernel
theorem dX2_search_37 : decode cX2_search 37 = .ok (.aload_n 0, 1) := by decide +kernel
theorem dX2_search_38 : decode cX2_search 38 = .ok (.iconst 0, 1) := by decide +kernel
theorem dX2_search_39 : decode cX2_search 39 = .ok (.putfield 62, 3) := by decide +kernel
theorem dX2_search_42 : decode cX2_search 42 = .ok (.iconst 0, 1) := by decide +kernel
theorem dX2_search_43 : decode cX2_search 43 = .ok (.istore_n 3, 1) := by decide +kernel
theorem dX2_search_44 : decode cX2_search 44 = .ok (.iload_n 3, 1) := by decide +kernel
theorem dX2_search_45 : decode cX2_search 45 = .ok (.iload_n 2, 1) := by decide +kernel
theorem dX2_search_46 : decode cX2_search 46 = .ok (.if_icmp .ge 82, 3) := by decide +kernel
theorem dX2_search_49 : decode cX2_search 49 = .ok (.iload_n 3, 1) := by decide +kernel
theorem dX2_search_50 : decode cX2_search 50 = .ok (.istore 4, 2) := by decide +kernel
theorem dX2_search_52 : decode cX2_search 52 = .ok (.aload_n 0, 1) := by decide +kernel
theorem dX2_search_53 : decode cX2_search 53 = .ok (.getfield 27, 3) := by decide +kernel
theorem dX2_search_56 : decode cX2_search 56 = .ok (.iconst 1, 1) := by decide +kernel
theorem dX2_search_57 : decode cX2_search 57 = .ok (.isub, 1) := by decide +kernel
theorem dX2_search_58 : decode cX2_search 58 = .ok (.istore 5, 2) := by decide +kernel
theorem dX2_search_60 : decode cX2_search 60 = .ok (.iload 5, 2) := by decide +kernel
theorem dX2_search_62 : decode cX2_search 62 = .ok (.ifCond .lt 28, 3) := by decide +kernel
theorem dX2_search_65 : decode cX2_search 65 = .ok (.aload_n 0, 1) := by decide +kernel
theorem dX2_search_66 : decode cX2_search 66 = .ok (.getfield 56, 3) := by decide +kernel
theorem dX2_search_69 : decode cX2_search 69 = .ok (.iload 5, 2) := by decide +kernel
theorem dX2_search_71 : decode cX2_search 71 = .ok (.iload 4, 2) := by decide +kernel
theorem dX2_search_73 : decode cX2_search 73 = .ok (.bipush 11, 2) := by decide +kernel
theorem dX2_search_75 : decode cX2_search 75 = .ok (.irem, 1) := by decide +kernel
theorem dX2_search_76 : decode cX2_search 76 = .ok (.iastore, 1) := by decide +kernel
theorem dX2_search_77 : decode cX2_search 77 = .ok (.iload 4, 2) := by decide +kernel
theorem dX2_search_79 : decode cX2_search 79 = .ok (.bipush 11, 2) := by decide +kernel
theorem dX2_search_81 : decode cX2_search 81 = .ok (.idiv, 1) := by decide +kernel
theorem dX2_search_82 : decode cX2_search 82 = .ok (.istore 4, 2) := by decide +kernel
theorem dX2_search_84 : decode cX2_search 84 = .ok (.iinc 5 (-1), 3) := by decide +kernel
theorem dX2_search_87 : decode cX2_search 87 = .ok (.goto (-27), 3) := by decide +kernel
theorem dX2_search_90 : decode cX2_search 90 = .ok (.aload_n 0, 1) := by decide +kernel
theorem dX2_search_91 : decode cX2_search 91 = .ok (.iload_n 1, 1) := by decide +kernel
theorem dX2_search_92 : decode cX2_search 92 = .ok (.aload_n 0, 1) := by decide +kernel
theorem dX2_search_93 : decode cX2_search 93 = .ok (.getfield 56, 3) := by decide +kernel
theorem dX2_search_96 : decode cX2_search 96 = .ok (.invokevirtual 123, 3) := by decide +kernel
theorem dX2_search_99 : decode cX2_search 99 = .ok (.ifCond .eq 23, 3) := by decide +kernel
theorem dX2_search_102 : decode cX2_search 102 = .ok (.aload_n 0, 1) := by decide +kernel
theorem dX2_search_103 : decode cX2_search 103 = .ok (.getfield 59, 3) := by decide +kernel
theorem dX2_search_106 : decode cX2_search 106 = .ok (.aload_n 0, 1) := by decide +kernel
theorem dX2_search_107 : decode cX2_search 107 = .ok (.getfield 62, 3) := by decide +kernel
theorem dX2_search_110 : decode cX2_search 110 = .ok (.iload_n 3, 1) := by decide +kernel
theorem dX2_search_111 : decode cX2_search 111 = .ok (.iastore, 1) := by decide +kernel
theorem dX2_search_112 : decode cX2_search 112 = .ok (.aload_n 0, 1) := by decide +kernel
theorem dX2_search_113 : decode cX2_search 113 = .ok (.dup, 1) := by decide +kernel
theorem dX2_search_114 : decode cX2_search 114 = .ok (.getfield 62, 3) := by decide +kernel
theorem dX2_search_117 : decode cX2_search 117 = .ok (.iconst 1, 1) := by decide +kernel
theorem dX2_search_118 : decode cX2_search 118 = .ok (.iadd, 1) := by decide +kernel
theorem dX2_search_119 : decode cX2_search 119 = .ok (.putfield 62, 3) := by decide +kernel
theorem dX2_search_122 : decode cX2_search 122 = .ok (.iinc 3 1, 3) := by decide +kernel
theorem dX2_search_125 : decode cX2_search 125 = .ok (.goto (-81), 3) := by decide +kernel
theorem dX2_search_128 : decode cX2_search 128 = .ok (.aload_n 0, 1) := by decide +kernel
theorem dX2_search_129 : decode cX2_search 129 = .ok (.iload_n 1, 1) := by decide +kernel
theorem dX2_search_130 : decode cX2_search 130 = .ok (.putfield 65, 3) := by decide +kernel
theorem dX2_search_133 : decode cX2_search 133 = .ok (.return_, 1) := by decide +kernel
set_option maxRecDepth 100000 in
set_option maxHeartbeats 4000000 in
theorem tz_X2_search (l : Launch) (X : qX) {p0 : Int32} {M MR : qM} (hf : jRo_search p0 M = some MR) : q_Met l X yX2_search cX2_search 6 none (6) M [.ref (X.1 49), .int p0] (q_Qv X MR) := by
  refine q_enter (by decide) (Nat.le_of_ble_eq_true rfl) ?_
  intro p e s m args below meth c hE hrt hlk H locs hH ls hl
  have hx := hE.1
  have hb := hE.2.1
  have hl : lv_has ls 6 [(0, .ref (X.1 49)), (1, .int p0)] := hl
  unfold jRo_search at hf
  refine lv_iload_n hx hb dX2_search_0 rfl (lv_at hl 1 rfl) ?_
  refine lv_aload_n hx hb dX2_search_1 rfl (lv_at hl 0 rfl) ?_
  refine pz_gI hE hH fr_X2_65 qk_49 dX2_search_2 ?_
  refine lv_icmp_ne (tgt := 9) hx hb dX2_search_5 (by decide) (fun hc => ?_) (fun hc => ?_)
  · replace hf := (if_neg hc).symm.trans hf
    refine lv_iconst (v := 1) hx hb dX2_search_9 (by decide) ?_
    refine lv_istore_n (lv' := [(2, .int 1), (0, .ref (X.1 49)), (1, .int p0)]) hx hb dX2_search_10 rfl hl (by decide) rfl (fun ls hl => ?_)
    refine lv_iconst (v := 0) hx hb dX2_search_11 (by decide) ?_
    refine lv_istore_n (lv' := [(3, .int 0), (2, .int 1), (0, .ref (X.1 49)), (1, .int p0)]) hx hb dX2_search_12 rfl hl (by decide) rfl (fun ls hl => ?_)
    obtain ⟨x3, hlp, hf⟩ := st_bd hf
    have hX : (fun x3 => ∀ (ls : Array Slot) (H : Heap) (locs : List Loc), q_H X M s H locs → lv_has ls 6 [(0, .ref (X.1 49)), (1, .int p0), (2, .int x3)] → W p l e (q_rm (6)) s m args below meth c H locs 0 0 (MQ below (q_Qv X MR) args s 0 0 (q_A X)) (F0 m 37 ls []) : Int32 → Prop) x3 := by
      intro ls H locs hH hl
      refine lv_aload_n hx hb dX2_search_37 rfl (lv_at hl 0 rfl) ?_
      refine lv_iconst (v := 0) hx hb dX2_search_38 (by decide) ?_
      obtain ⟨M5, eM5, hf⟩ := st_lty hf
      refine pz_pI hE hH fw_X2_62 qk_49  eM5 dX2_search_39 (fun H locs hH => ?_)
      refine lv_iconst (v := 0) hx hb dX2_search_42 (by decide) ?_
      refine lv_istore_n (lv' := [(3, .int 0), (0, .ref (X.1 49)), (1, .int p0), (2, .int x3)]) hx hb dX2_search_43 rfl hl (by decide) rfl (fun ls hl => ?_)
      obtain ⟨M8, hlp, hf⟩ := st_bd hf
      have hX : (fun M8 => ∀ (ls : Array Slot) (H : Heap) (locs : List Loc), q_H X M8 s H locs → lv_has ls 6 [(0, .ref (X.1 49)), (1, .int p0)] → W p l e (q_rm (6)) s m args below meth c H locs 0 0 (MQ below (q_Qv X MR) args s 0 0 (q_A X)) (F0 m 128 ls []) : qM → Prop) M8 := by
        intro ls H locs hH hl
        refine lv_aload_n hx hb dX2_search_128 rfl (lv_at hl 0 rfl) ?_
        refine lv_iload_n hx hb dX2_search_129 rfl (lv_at hl 1 rfl) ?_
        obtain ⟨M10, eM10, hf⟩ := st_lty hf
        refine pz_pI hE hH fw_X2_65 qk_49  eM10 dX2_search_130 (fun H locs hH => ?_)
        replace hf := Option.some.inj hf
        subst hf
        exact pz_retv hE hrt hlk hH dX2_search_133
      clear hf
      have hG := qlp_ind (r := M8) (fun q => qu2 q (fun x6 M7 => ∀ (ls : Array Slot) (H : Heap) (locs : List Loc), q_H X M7 s H locs → lv_has ls 6 [(0, .ref (X.1 49)), (1, .int p0), (2, .int x3), (3, .int x6)] → W p l e (q_rm (6)) s m args below meth c H locs 0 0 (MQ below (q_Qv X MR) args s 0 0 (q_A X)) (F0 m 44 ls []))) (by
          intro q o hf hK1 hK2
          obtain ⟨x6, M7⟩ := q
          replace hf := st_u2 hf
          intro ls H locs hH hl
          refine lv_iload_n hx hb dX2_search_44 rfl (lv_at hl 3 rfl) ?_
          refine lv_iload_n hx hb dX2_search_45 rfl (lv_at hl 2 rfl) ?_
          refine lv_icmp_ge (tgt := 128) hx hb dX2_search_46 (by decide) (fun hc => ?_) (fun hc => ?_)
          · replace hf := (if_pos hc).symm.trans hf
            replace hf := hK2 _ (Option.some.inj hf).symm
            subst hf
            exact hX ls H locs hH (lv_sub hl [0, 1] rfl)
          · replace hf := (if_neg hc).symm.trans hf
            refine lv_iload_n hx hb dX2_search_49 rfl (lv_at hl 3 rfl) ?_
            refine lv_istore (lv' := [(4, .int x6), (0, .ref (X.1 49)), (1, .int p0), (2, .int x3), (3, .int x6)]) hx hb dX2_search_50 hl (by decide) rfl (fun ls hl => ?_)
            refine lv_aload_n hx hb dX2_search_52 rfl (lv_at hl 1 rfl) ?_
            refine pz_gI hE hH fr_X2_27 qk_49 dX2_search_53 ?_
            refine lv_iconst (v := 1) hx hb dX2_search_56 (by decide) ?_
            refine lv_isub hx hb dX2_search_57 ?_
            refine lv_topi (fun x11 ex11 => ?_)
            replace hf := st_lt hf ex11
            refine lv_istore (lv' := [(5, .int x11), (4, .int x6), (0, .ref (X.1 49)), (1, .int p0), (2, .int x3), (3, .int x6)]) hx hb dX2_search_58 hl (by decide) rfl (fun ls hl => ?_)
            obtain ⟨M15, hlp, hf⟩ := st_bd hf
            have hX : (fun M15 => ∀ (ls : Array Slot) (H : Heap) (locs : List Loc), q_H X M15 s H locs → lv_has ls 6 [(0, .ref (X.1 49)), (1, .int p0), (2, .int x3), (3, .int x6)] → W p l e (q_rm (6)) s m args below meth c H locs 0 0 (MQ below (q_Qv X MR) args s 0 0 (q_A X)) (F0 m 90 ls []) : qM → Prop) M15 := by
              intro ls H locs hH hl
              refine lv_aload_n hx hb dX2_search_90 rfl (lv_at hl 0 rfl) ?_
              refine lv_iload_n hx hb dX2_search_91 rfl (lv_at hl 1 rfl) ?_
              refine lv_aload_n hx hb dX2_search_92 rfl (lv_at hl 0 rfl) ?_
              refine pz_gS (a := 58) hE hH fr_X2_56 qk_49 (by decide) dX2_search_93 ?_
              obtain ⟨w17, ew17, hf⟩ := st_bd hf
              obtain ⟨r18, M19⟩ := w17
              replace hf := st_u2 hf
              refine q_calli (q_runV (As := [.int p0, .ref (X.1 58)]) (rest := []) hE hH (tz_X2_restsBy l X qk_58 (hf := ew17)) kv_X2_123 qk_49 (by decide) rfl hl.1 rfl (Nat.le_of_ble_eq_true rfl) dX2_search_96) hH (fun H locs hH => ?_)
              obtain ⟨M20, hr, hf⟩ := st_bd hf
              have hJ : ∀ (ls : Array Slot) (H : Heap) (locs : List Loc), q_H X M20 s H locs → lv_has ls 6 [(0, .ref (X.1 49)), (1, .int p0), (2, .int x3), (3, .int x6)] → W p l e (q_rm (6)) s m args below meth c H locs 0 0 (MQ below (q_Qv X MR) args s 0 0 (q_A X)) (F0 m 122 ls []) := by
                intro ls H locs hH hl
                obtain ⟨x21, ex21, hf⟩ := st_lty hf
                refine lv_iinc (v := x21) (lv' := [(3, .int x21), (0, .ref (X.1 49)), (1, .int p0), (2, .int x3)]) hx hb dX2_search_122 hl (k := 3) rfl (by rw [ex21]; rfl) (by decide) rfl (fun ls hl => ?_)
                refine lv_goto (tgt := 44) hx hb dX2_search_125 (by decide) ?_
                exact hK1 _ (Option.some.inj hf).symm ls H locs hH (lv_sub hl [1, 2, 3, 0] rfl)
              clear hf
              replace hf := hr
              refine lv_if_eq (tgt := 122) hx hb dX2_search_99 (by decide) (fun hc => ?_) (fun hc => ?_)
              · replace hf := (if_pos hc).symm.trans hf
                replace hf := Option.some.inj hf
                subst hf
                exact hJ ls H locs hH (lv_sub hl [0, 1, 2, 3] rfl)
              · replace hf := (if_neg hc).symm.trans hf
                refine lv_aload_n hx hb dX2_search_102 rfl (lv_at hl 0 rfl) ?_
                refine pz_gS (a := 59) hE hH fr_X2_59 qk_49 (by decide) dX2_search_103 ?_
                refine lv_aload_n hx hb dX2_search_106 rfl (lv_at hl 0 rfl) ?_
                refine pz_gI hE hH fr_X2_62 qk_49 dX2_search_107 ?_
                refine lv_iload_n hx hb dX2_search_110 rfl (lv_at hl 3 rfl) ?_
                obtain ⟨M22, eM22, hf⟩ := st_bd hf
                refine pz_iast hE hH qk_59 eM22 dX2_search_111 (fun H locs hH => ?_)
                refine lv_aload_n hx hb dX2_search_112 rfl (lv_at hl 0 rfl) ?_
                refine lv_dup hx hb dX2_search_113 rfl ?_
                refine pz_gI hE hH fr_X2_62 qk_49 dX2_search_114 ?_
                refine lv_iconst (v := 1) hx hb dX2_search_117 (by decide) ?_
                refine lv_iadd hx hb dX2_search_118 ?_
                obtain ⟨M23, eM23, hf⟩ := st_lty hf
                refine pz_pI hE hH fw_X2_62 qk_49  eM23 dX2_search_119 (fun H locs hH => ?_)
                replace hf := Option.some.inj hf
                subst hf
                exact hJ ls H locs hH (lv_sub hl [0, 1, 2, 3] rfl)
            clear hf
            have hG := qlp_ind (r := M15) (fun q => qu3 q (fun x12 x13 M14 => ∀ (ls : Array Slot) (H : Heap) (locs : List Loc), q_H X M14 s H locs → lv_has ls 6 [(0, .ref (X.1 49)), (1, .int p0), (2, .int x3), (3, .int x6), (4, .int x12), (5, .int x13)] → W p l e (q_rm (6)) s m args below meth c H locs 0 0 (MQ below (q_Qv X MR) args s 0 0 (q_A X)) (F0 m 60 ls []))) (by
                intro q o hf hK1 hK2
                obtain ⟨x12, x13, M14⟩ := q
                replace hf := st_u3 hf
                intro ls H locs hH hl
                refine lv_iload hx hb dX2_search_60 (lv_at hl 5 rfl) ?_
                refine lv_if_lt (tgt := 90) hx hb dX2_search_62 (by decide) (fun hc => ?_) (fun hc => ?_)
                · replace hf := (if_pos hc).symm.trans hf
                  replace hf := hK2 _ (Option.some.inj hf).symm
                  subst hf
                  exact hX ls H locs hH (lv_sub hl [0, 1, 2, 3] rfl)
                · replace hf := (if_neg hc).symm.trans hf
                  refine lv_aload_n hx hb dX2_search_65 rfl (lv_at hl 0 rfl) ?_
                  refine pz_gS (a := 58) hE hH fr_X2_56 qk_49 (by decide) dX2_search_66 ?_
                  refine lv_iload hx hb dX2_search_69 (lv_at hl 5 rfl) ?_
                  refine lv_iload hx hb dX2_search_71 (lv_at hl 4 rfl) ?_
                  refine lv_bipush (v := 11) hx hb dX2_search_73 (by decide) ?_
                  refine lv_irem hx hb dX2_search_75 (by decide) ?_
                  obtain ⟨M24, eM24, hf⟩ := st_bd hf
                  refine pz_iast hE hH qk_58 eM24 dX2_search_76 (fun H locs hH => ?_)
                  refine lv_iload hx hb dX2_search_77 (lv_at hl 4 rfl) ?_
                  refine lv_bipush (v := 11) hx hb dX2_search_79 (by decide) ?_
                  refine lv_idiv hx hb dX2_search_81 (by decide) ?_
                  refine lv_topi (fun x25 ex25 => ?_)
                  replace hf := st_lt hf ex25
                  refine lv_istore (lv' := [(4, .int x25), (0, .ref (X.1 49)), (1, .int p0), (2, .int x3), (3, .int x6), (5, .int x13)]) hx hb dX2_search_82 hl (by decide) rfl (fun ls hl => ?_)
                  obtain ⟨x26, ex26, hf⟩ := st_lty hf
                  refine lv_iinc (v := x26) (lv' := [(5, .int x26), (4, .int x25), (0, .ref (X.1 49)), (1, .int p0), (2, .int x3), (3, .int x6)]) hx hb dX2_search_84 hl (k := 5) rfl (by rw [ex26]; rfl) (by decide) rfl (fun ls hl => ?_)
                  refine lv_goto (tgt := 60) hx hb dX2_search_87 (by decide) ?_
                  exact hK1 _ (Option.some.inj hf).symm ls H locs hH (lv_sub hl [2, 3, 4, 5, 1, 0] rfl)) _ hlp
            exact hG ls H locs hH (lv_sub hl [2, 3, 4, 5, 1, 0] rfl)) _ hlp
      exact hG ls H locs hH (lv_sub hl [1, 2, 3, 0] rfl)
    clear hf
    have hG := qlp_ind (r := x3) (fun q => qu2 q (fun x1 x2 => ∀ (ls : Array Slot) (H : Heap) (locs : List Loc), q_H X M s H locs → lv_has ls 6 [(0, .ref (X.1 49)), (1, .int p0), (2, .int x1), (3, .int x2)] → W p l e (q_rm (6)) s m args below meth c H locs 0 0 (MQ below (q_Qv X MR) args s 0 0 (q_A X)) (F0 m 13 ls []))) (by
        intro q o hf hK1 hK2
        obtain ⟨x1, x2⟩ := q
        replace hf := st_u2 hf
        intro ls H locs hH hl
        refine lv_iload_n hx hb dX2_search_13 rfl (lv_at hl 3 rfl) ?_
        refine lv_aload_n hx hb dX2_search_14 rfl (lv_at hl 0 rfl) ?_
        refine pz_gI hE hH fr_X2_27 qk_49 dX2_search_15 ?_
        refine lv_icmp_ge (tgt := 37) hx hb dX2_search_18 (by decide) (fun hc => ?_) (fun hc => ?_)
        · replace hf := (if_pos hc).symm.trans hf
          replace hf := hK2 _ (Option.some.inj hf).symm
          subst hf
          exact hX ls H locs hH (lv_sub hl [0, 1, 2] rfl)
        · replace hf := (if_neg hc).symm.trans hf
          refine lv_iload_n hx hb dX2_search_21 rfl (lv_at hl 3 rfl) ?_
          refine lv_iconst (v := 3) hx hb dX2_search_22 (by decide) ?_
          refine lv_icmp_ge (tgt := 37) hx hb dX2_search_23 (by decide) (fun hc => ?_) (fun hc => ?_)
          · replace hf := (if_pos hc).symm.trans hf
            replace hf := hK2 _ (Option.some.inj hf).symm
            subst hf
            exact hX ls H locs hH (lv_sub hl [0, 1, 2] rfl)
          · replace hf := (if_neg hc).symm.trans hf
            refine lv_iload_n hx hb dX2_search_26 rfl (lv_at hl 2 rfl) ?_
            refine lv_bipush (v := 11) hx hb dX2_search_27 (by decide) ?_
            refine lv_imul hx hb dX2_search_29 ?_
            refine lv_topi (fun x27 ex27 => ?_)
            replace hf := st_lt hf ex27
            refine lv_istore_n (lv' := [(2, .int x27), (0, .ref (X.1 49)), (1, .int p0), (3, .int x2)]) hx hb dX2_search_30 rfl hl (by decide) rfl (fun ls hl => ?_)
            obtain ⟨x28, ex28, hf⟩ := st_lty hf
            refine lv_iinc (v := x28) (lv' := [(3, .int x28), (2, .int x27), (0, .ref (X.1 49)), (1, .int p0)]) hx hb dX2_search_31 hl (k := 3) rfl (by rw [ex28]; rfl) (by decide) rfl (fun ls hl => ?_)
            refine lv_goto (tgt := 13) hx hb dX2_search_34 (by decide) ?_
            exact hK1 _ (Option.some.inj hf).symm ls H locs hH (lv_sub hl [2, 3, 1, 0] rfl)) _ hlp
    exact hG ls H locs hH (lv_sub hl [2, 3, 1, 0] rfl)
  · replace hf := (if_pos hc).symm.trans hf
    replace hf := Option.some.inj hf
    subst hf
    exact pz_retv hE hrt hlk hH dX2_search_8

theorem dX2_likeliest_0 : decode cX2_likeliest 0 = .ok (.aload_n 0, 1) := by decide +kernel
theorem dX2_likeliest_1 : decode cX2_likeliest 1 = .ok (.getfield 30, 3) := by decide +kernel
theorem dX2_likeliest_4 : decode cX2_likeliest 4 = .ok (.iconst 0, 1) := by decide +kernel
theorem dX2_likeliest_5 : decode cX2_likeliest 5 = .ok (.aload_n 0, 1) := by decide +kernel
theorem dX2_likeliest_6 : decode cX2_likeliest 6 = .ok (.getfield 56, 3) := by decide +kernel
theorem dX2_likeliest_9 : decode cX2_likeliest 9 = .ok (.iconst 0, 1) := by decide +kernel
theorem dX2_likeliest_10 : decode cX2_likeliest 10 = .ok (.aload_n 0, 1) := by decide +kernel
theorem dX2_likeliest_11 : decode cX2_likeliest 11 = .ok (.getfield 27, 3) := by decide +kernel
theorem dX2_likeliest_14 : decode cX2_likeliest 14 = .ok (.invokestatic 127, 3) := by decide +kernel
theorem dX2_likeliest_17 : decode cX2_likeliest 17 = .ok (.ldc2_w 133, 3) := by decide +kernel
theorem dX2_likeliest_20 : decode cX2_likeliest 20 = .ok (.lstore_n 2, 1) := by decide +kernel
theorem dX2_likeliest_21 : decode cX2_likeliest 21 = .ok (.iconst 0, 1) := by decide +kernel
theorem dX2_likeliest_22 : decode cX2_likeliest 22 = .ok (.istore 4, 2) := by decide +kernel
theorem dX2_likeliest_24 : decode cX2_likeliest 24 = .ok (.iconst 0, 1) := by decide +kernel
theorem dX2_likeliest_25 : decode cX2_likeliest 25 = .ok (.istore 5, 2) := by decide +kernel
theorem dX2_likeliest_27 : decode cX2_likeliest 27 = .ok (.iload 5, 2) := by decide +kernel
theorem dX2_likeliest_29 : decode cX2_likeliest 29 = .ok (.iload_n 1, 1) := by decide +kernel
theorem dX2_likeliest_30 : decode cX2_likeliest 30 = .ok (.if_icmp .gt 90, 3) := by decide +kernel
theorem dX2_likeliest_33 : decode cX2_likeliest 33 = .ok (.iconst 0, 1) := by decide +kernel
theorem dX2_likeliest_34 : decode cX2_likeliest 34 = .ok (.istore 6, 2) := by decide +kernel
theorem dX2_likeliest_36 : decode cX2_likeliest 36 = .ok (.iload 6, 2) := by decide +kernel
theorem dX2_likeliest_38 : decode cX2_likeliest 38 = .ok (.bipush 10, 2) := by decide +kernel
theorem dX2_likeliest_40 : decode cX2_likeliest 40 = .ok (.if_icmp .gt 60, 3) := by decide +kernel
theorem dX2_likeliest_43 : decode cX2_likeliest 43 = .ok (.aload_n 0, 1) := by decide +kernel
theorem dX2_likeliest_44 : decode cX2_likeliest 44 = .ok (.getfield 56, 3) := by decide +kernel
theorem dX2_likeliest_47 : decode cX2_likeliest 47 = .ok (.iload 5, 2) := by decide +kernel
theorem dX2_likeliest_49 : decode cX2_likeliest 49 = .ok (.iload 6, 2) := by decide +kernel
theorem dX2_likeliest_51 : decode cX2_likeliest 51 = .ok (.iastore, 1) := by decide +kernel
theorem dX2_likeliest_52 : decode cX2_likeliest 52 = .ok (.aload_n 0, 1) := by decide +kernel
theorem dX2_likeliest_53 : decode cX2_likeliest 53 = .ok (.aload_n 0, 1) := by decide +kernel
theorem dX2_likeliest_54 : decode cX2_likeliest 54 = .ok (.getfield 11, 3) := by decide +kernel
theorem dX2_likeliest_57 : decode cX2_likeliest 57 = .ok (.aload_n 0, 1) := by decide +kernel
theorem dX2_likeliest_58 : decode cX2_likeliest 58 = .ok (.getfield 56, 3) := by decide +kernel
theorem dX2_likeliest_61 : decode cX2_likeliest 61 = .ok (.iload_n 1, 1) := by decide +kernel
theorem dX2_likeliest_62 : decode cX2_likeliest 62 = .ok (.iconst 1, 1) := by decide +kernel
theorem dX2_likeliest_63 : decode cX2_likeliest 63 = .ok (.iadd, 1) := by decide +kernel
theorem dX2_likeliest_64 : decode cX2_likeliest 64 = .ok (.invokevirtual 74, 3) := by decide +kernel
theorem dX2_likeliest_67 : decode cX2_likeliest 67 = .ok (.aload_n 0, 1) := by decide +kernel
theorem dX2_likeliest_68 : decode cX2_likeliest 68 = .ok (.iload_n 1, 1) := by decide +kernel
theorem dX2_likeliest_69 : decode cX2_likeliest 69 = .ok (.invokevirtual 98, 3) := by decide +kernel
theorem dX2_likeliest_72 : decode cX2_likeliest 72 = .ok (.lstore 7, 2) := by decide +kernel
theorem dX2_likeliest_74 : decode cX2_likeliest 74 = .ok (.lload 7, 2) := by decide +kernel
theorem dX2_likeliest_76 : decode cX2_likeliest 76 = .ok (.lload_n 2, 1) := by decide +kernel
theorem dX2_likeliest_77 : decode cX2_likeliest 77 = .ok (.lcmp, 1) := by decide +kernel
theorem dX2_likeliest_78 : decode cX2_likeliest 78 = .ok (.ifCond .le 16, 3) := by decide +kernel
theorem dX2_likeliest_81 : decode cX2_likeliest 81 = .ok (.lload 7, 2) := by decide +kernel
theorem dX2_likeliest_83 : decode cX2_likeliest 83 = .ok (.lstore_n 2, 1) := by decide +kernel
theorem dX2_likeliest_84 : decode cX2_likeliest 84 = .ok (.iload 5, 2) := by decide +kernel
theorem dX2_likeliest_86 : decode cX2_likeliest 86 = .ok (.bipush 11, 2) := by decide +kernel
theorem dX2_likeliest_88 : decode cX2_likeliest 88 = .ok (.imul, 1) := by decide +kernel
theorem dX2_likeliest_89 : decode cX2_likeliest 89 = .ok (.iload 6, 2) := by decide +kernel
theorem dX2_likeliest_91 : decode cX2_likeliest 91 = .ok (.iadd, 1) := by decide +kernel
theorem dX2_likeliest_92 : decode cX2_likeliest 92 = .ok (.istore 4, 2) := by decide +kernel
theorem dX2_likeliest_94 : decode cX2_likeliest 94 = .ok (.iinc 6 1, 3) := by decide +kernel
theorem dX2_likeliest_97 : decode cX2_likeliest 97 = .ok (.goto (-61), 3) := by decide +kernel
theorem dX2_likeliest_100 : decode cX2_likeliest 100 = .ok (.aload_n 0, 1) := by decide +kernel
theorem dX2_likeliest_101 : decode cX2_likeliest 101 = .ok (.getfield 56, 3) := by decide +kernel
theorem dX2_likeliest_104 : decode cX2_likeliest 104 = .ok (.iload 5, 2) := by decide +kernel
theorem dX2_likeliest_106 : decode cX2_likeliest 106 = .ok (.aload_n 0, 1) := by decide +kernel
theorem dX2_likeliest_107 : decode cX2_likeliest 107 = .ok (.getfield 30, 3) := by decide +kernel
theorem dX2_likeliest_110 : decode cX2_likeliest 110 = .ok (.iload 5, 2) := by decide +kernel
theorem dX2_likeliest_112 : decode cX2_likeliest 112 = .ok (.iaload, 1) := by decide +kernel
theorem dX2_likeliest_113 : decode cX2_likeliest 113 = .ok (.iastore, 1) := by decide +kernel
theorem dX2_likeliest_114 : decode cX2_likeliest 114 = .ok (.iinc 5 1, 3) := by decide +kernel
theorem dX2_likeliest_117 : decode cX2_likeliest 117 = .ok (.goto (-90), 3) := by decide +kernel
theorem dX2_likeliest_120 : decode cX2_likeliest 120 = .ok (.iload 4, 2) := by decide +kernel
theorem dX2_likeliest_122 : decode cX2_likeliest 122 = .ok (.ireturn, 1) := by decide +kernel
set_option maxRecDepth 100000 in
set_option maxHeartbeats 4000000 in
theorem tz_X2_likeliest (l : Launch) (X : qX) {p0 : Int32} {M MR : qM} {r0 : Int32} (hf : jRo_likeliest p0 M = some (r0, MR)) : q_Met l X yX2_likeliest cX2_likeliest 9 (some .int) (4) M [.ref (X.1 49), .int p0] (q_Qi X r0 MR) := by
  refine q_enter (by decide) (Nat.le_of_ble_eq_true rfl) ?_
  intro p e s m args below meth c hE hrt hlk H locs hH ls hl
  have hx := hE.1
  have hb := hE.2.1
  have hl : lv_has ls 9 [(0, .ref (X.1 49)), (1, .int p0)] := hl
  unfold jRo_likeliest at hf
  refine lv_aload_n hx hb dX2_likeliest_0 rfl (lv_at hl 0 rfl) ?_
  refine pz_gS (a := 50) hE hH fr_X2_30 qk_49 (by decide) dX2_likeliest_1 ?_
  refine lv_iconst (v := 0) hx hb dX2_likeliest_4 (by decide) ?_
  refine lv_aload_n hx hb dX2_likeliest_5 rfl (lv_at hl 0 rfl) ?_
  refine pz_gS (a := 58) hE hH fr_X2_56 qk_49 (by decide) dX2_likeliest_6 ?_
  refine lv_iconst (v := 0) hx hb dX2_likeliest_9 (by decide) ?_
  refine lv_aload_n hx hb dX2_likeliest_10 rfl (lv_at hl 0 rfl) ?_
  refine pz_gI hE hH fr_X2_27 qk_49 dX2_likeliest_11 ?_
  obtain ⟨M1, eM1, hf⟩ := st_bd hf
  refine pz_cpy (rest := []) hE hH (q_in _ 1151 (by decide +kernel) rfl) (q_in _ 505 (by decide +kernel) rfl) (q_in _ 504 (by decide +kernel) rfl) (q_in _ 14 (by decide +kernel) rfl) qk_50 qk_58 eM1 hl.1 (by decide) (Nat.le_of_ble_eq_true rfl) dX2_likeliest_14 (fun H locs hH => ?_)
  refine pz_ldc2 (v := (-1)) hE (q_in _ 1152 (by decide +kernel) rfl) dX2_likeliest_17 ?_
  refine lv_lstore_n (lv' := [(2, .long (-1)), (0, .ref (X.1 49)), (1, .int p0)]) hx hb dX2_likeliest_20 rfl hl (by decide) rfl (fun ls hl => ?_)
  refine lv_iconst (v := 0) hx hb dX2_likeliest_21 (by decide) ?_
  refine lv_istore (lv' := [(4, .int 0), (2, .long (-1)), (0, .ref (X.1 49)), (1, .int p0)]) hx hb dX2_likeliest_22 hl (by decide) rfl (fun ls hl => ?_)
  refine lv_iconst (v := 0) hx hb dX2_likeliest_24 (by decide) ?_
  refine lv_istore (lv' := [(5, .int 0), (4, .int 0), (2, .long (-1)), (0, .ref (X.1 49)), (1, .int p0)]) hx hb dX2_likeliest_25 hl (by decide) rfl (fun ls hl => ?_)
  obtain ⟨r8, hlp, hf⟩ := st_bd hf
  have hX : (fun q0 => qu2 q0 (fun x6 M7 => ∀ (ls : Array Slot) (H : Heap) (locs : List Loc), q_H X M7 s H locs → lv_has ls 9 [(4, .int x6)] → W p l e (q_rm (4)) s m args below meth c H locs 0 0 (MQ below (q_Qi X r0 MR) args s 0 0 (q_A X)) (F0 m 120 ls [])) : (Int32 × qM) → Prop) r8 := by
    obtain ⟨x6, M7⟩ := r8
    replace hf := st_u2 hf
    intro ls H locs hH hl
    refine lv_iload hx hb dX2_likeliest_120 (lv_at hl 0 rfl) ?_
    replace hf := Option.some.inj hf
    obtain ⟨rfl, rfl⟩ := qi2 hf
    exact pz_reti hE hrt hlk hH dX2_likeliest_122
  clear hf
  have hG := qlp_ind (r := r8) (fun q => qu4 q (fun x2 x3 x4 M5 => ∀ (ls : Array Slot) (H : Heap) (locs : List Loc), q_H X M5 s H locs → lv_has ls 9 [(0, .ref (X.1 49)), (1, .int p0), (2, .long x2), (4, .int x3), (5, .int x4)] → W p l e (q_rm (4)) s m args below meth c H locs 0 0 (MQ below (q_Qi X r0 MR) args s 0 0 (q_A X)) (F0 m 27 ls []))) (by
      intro q o hf hK1 hK2
      obtain ⟨x2, x3, x4, M5⟩ := q
      replace hf := st_u4 hf
      intro ls H locs hH hl
      refine lv_iload hx hb dX2_likeliest_27 (lv_at hl 4 rfl) ?_
      refine lv_iload_n hx hb dX2_likeliest_29 rfl (lv_at hl 1 rfl) ?_
      refine lv_icmp_gt (tgt := 120) hx hb dX2_likeliest_30 (by decide) (fun hc => ?_) (fun hc => ?_)
      · replace hf := (if_pos hc).symm.trans hf
        replace hf := hK2 _ (Option.some.inj hf).symm
        subst hf
        exact hX ls H locs hH (lv_sub hl [3] rfl)
      · replace hf := (if_neg hc).symm.trans hf
        refine lv_iconst (v := 0) hx hb dX2_likeliest_33 (by decide) ?_
        refine lv_istore (lv' := [(6, .int 0), (0, .ref (X.1 49)), (1, .int p0), (2, .long x2), (4, .int x3), (5, .int x4)]) hx hb dX2_likeliest_34 hl (by decide) rfl (fun ls hl => ?_)
        obtain ⟨r16, hlp, hf⟩ := st_bd hf
        have hX : (fun q0 => qu3 q0 (fun x13 x14 M15 => ∀ (ls : Array Slot) (H : Heap) (locs : List Loc), q_H X M15 s H locs → lv_has ls 9 [(0, .ref (X.1 49)), (1, .int p0), (2, .long x13), (4, .int x14), (5, .int x4)] → W p l e (q_rm (4)) s m args below meth c H locs 0 0 (MQ below (q_Qi X r0 MR) args s 0 0 (q_A X)) (F0 m 100 ls [])) : (Int64 × Int32 × qM) → Prop) r16 := by
          obtain ⟨x13, x14, M15⟩ := r16
          replace hf := st_u3 hf
          intro ls H locs hH hl
          refine lv_aload_n hx hb dX2_likeliest_100 rfl (lv_at hl 0 rfl) ?_
          refine pz_gS (a := 58) hE hH fr_X2_56 qk_49 (by decide) dX2_likeliest_101 ?_
          refine lv_iload hx hb dX2_likeliest_104 (lv_at hl 4 rfl) ?_
          refine lv_aload_n hx hb dX2_likeliest_106 rfl (lv_at hl 0 rfl) ?_
          refine pz_gS (a := 50) hE hH fr_X2_30 qk_49 (by decide) dX2_likeliest_107 ?_
          refine lv_iload hx hb dX2_likeliest_110 (lv_at hl 4 rfl) ?_
          obtain ⟨v17, ev17, hf⟩ := st_bd hf
          refine pz_iald hE hH qk_50 ev17 dX2_likeliest_112 ?_
          obtain ⟨M18, eM18, hf⟩ := st_bd hf
          refine pz_iast hE hH qk_58 eM18 dX2_likeliest_113 (fun H locs hH => ?_)
          obtain ⟨x19, ex19, hf⟩ := st_lty hf
          refine lv_iinc (v := x19) (lv' := [(5, .int x19), (0, .ref (X.1 49)), (1, .int p0), (2, .long x13), (4, .int x14)]) hx hb dX2_likeliest_114 hl (k := 4) rfl (by rw [ex19]; rfl) (by decide) rfl (fun ls hl => ?_)
          refine lv_goto (tgt := 27) hx hb dX2_likeliest_117 (by decide) ?_
          exact hK1 _ (Option.some.inj hf).symm ls H locs hH (lv_sub hl [1, 2, 3, 4, 0] rfl)
        clear hf
        have hG := qlp_ind (r := r16) (fun q => qu4 q (fun x9 x10 x11 M12 => ∀ (ls : Array Slot) (H : Heap) (locs : List Loc), q_H X M12 s H locs → lv_has ls 9 [(0, .ref (X.1 49)), (1, .int p0), (2, .long x9), (4, .int x10), (5, .int x4), (6, .int x11)] → W p l e (q_rm (4)) s m args below meth c H locs 0 0 (MQ below (q_Qi X r0 MR) args s 0 0 (q_A X)) (F0 m 36 ls []))) (by
            intro q o hf hK1 hK2
            obtain ⟨x9, x10, x11, M12⟩ := q
            replace hf := st_u4 hf
            intro ls H locs hH hl
            refine lv_iload hx hb dX2_likeliest_36 (lv_at hl 5 rfl) ?_
            refine lv_bipush (v := 10) hx hb dX2_likeliest_38 (by decide) ?_
            refine lv_icmp_gt (tgt := 100) hx hb dX2_likeliest_40 (by decide) (fun hc => ?_) (fun hc => ?_)
            · replace hf := (if_pos hc).symm.trans hf
              replace hf := hK2 _ (Option.some.inj hf).symm
              subst hf
              exact hX ls H locs hH (lv_sub hl [0, 1, 2, 3, 4] rfl)
            · replace hf := (if_neg hc).symm.trans hf
              refine lv_aload_n hx hb dX2_likeliest_43 rfl (lv_at hl 0 rfl) ?_
              refine pz_gS (a := 58) hE hH fr_X2_56 qk_49 (by decide) dX2_likeliest_44 ?_
              refine lv_iload hx hb dX2_likeliest_47 (lv_at hl 4 rfl) ?_
              refine lv_iload hx hb dX2_likeliest_49 (lv_at hl 5 rfl) ?_
              obtain ⟨M20, eM20, hf⟩ := st_bd hf
              refine pz_iast hE hH qk_58 eM20 dX2_likeliest_51 (fun H locs hH => ?_)
              refine lv_aload_n hx hb dX2_likeliest_52 rfl (lv_at hl 0 rfl) ?_
              refine lv_aload_n hx hb dX2_likeliest_53 rfl (lv_at hl 0 rfl) ?_
              refine pz_gI hE hH fr_X2_11 qk_49 dX2_likeliest_54 ?_
              refine lv_aload_n hx hb dX2_likeliest_57 rfl (lv_at hl 0 rfl) ?_
              refine pz_gS (a := 58) hE hH fr_X2_56 qk_49 (by decide) dX2_likeliest_58 ?_
              refine lv_iload_n hx hb dX2_likeliest_61 rfl (lv_at hl 1 rfl) ?_
              refine lv_iconst (v := 1) hx hb dX2_likeliest_62 (by decide) ?_
              refine lv_iadd hx hb dX2_likeliest_63 ?_
              obtain ⟨M21, eM21, hf⟩ := st_bd hf
              refine q_callv (q_runV (As := [.int (M20.1 49 0), .ref (X.1 58), .int (p0 + 1)]) (rest := []) hE hH (tz_X2_follow l X qk_58 (hf := eM21)) kv_X2_74 qk_49 (by decide) rfl hl.1 rfl (Nat.le_of_ble_eq_true rfl) dX2_likeliest_64) hH (fun H locs hH => ?_)
              refine lv_aload_n hx hb dX2_likeliest_67 rfl (lv_at hl 0 rfl) ?_
              refine lv_iload_n hx hb dX2_likeliest_68 rfl (lv_at hl 1 rfl) ?_
              obtain ⟨r22, er22, hf⟩ := st_bd hf
              refine q_calll (q_runV (As := [.int p0]) (rest := []) hE hH (tz_X2_takenUpTo l X (hf := er22)) kv_X2_98 qk_49 (by decide) rfl hl.1 rfl (Nat.le_of_ble_eq_true rfl) dX2_likeliest_69) hH (fun H locs hH => ?_)
              refine lv_lstore (lv' := [(7, .long r22), (0, .ref (X.1 49)), (1, .int p0), (2, .long x9), (4, .int x10), (5, .int x4), (6, .int x11)]) hx hb dX2_likeliest_72 hl (by decide) rfl (fun ls hl => ?_)
              refine lv_lload hx hb dX2_likeliest_74 (lv_at hl 0 rfl) ?_
              refine lv_lload_n hx hb dX2_likeliest_76 rfl (lv_at hl 3 rfl) ?_
              refine W.lcmp hx hb dX2_likeliest_77 ?_
              obtain ⟨w25, hr, hf⟩ := st_ltx hf
              have hJ : qu2 w25 (fun x23 x24 => ∀ (ls : Array Slot) (H : Heap) (locs : List Loc), q_H X M21 s H locs → lv_has ls 9 [(0, .ref (X.1 49)), (1, .int p0), (2, .long x23), (4, .int x24), (5, .int x4), (6, .int x11)] → W p l e (q_rm (4)) s m args below meth c H locs 0 0 (MQ below (q_Qi X r0 MR) args s 0 0 (q_A X)) (F0 m 94 ls [])) := by
                obtain ⟨x23, x24⟩ := w25
                replace hf := st_u2 hf
                intro ls H locs hH hl
                obtain ⟨x26, ex26, hf⟩ := st_lty hf
                refine lv_iinc (v := x26) (lv' := [(6, .int x26), (0, .ref (X.1 49)), (1, .int p0), (2, .long x23), (4, .int x24), (5, .int x4)]) hx hb dX2_likeliest_94 hl (k := 5) rfl (by rw [ex26]; rfl) (by decide) rfl (fun ls hl => ?_)
                refine lv_goto (tgt := 36) hx hb dX2_likeliest_97 (by decide) ?_
                exact hK1 _ (Option.some.inj hf).symm ls H locs hH (lv_sub hl [1, 2, 3, 4, 5, 0] rfl)
              clear hf
              replace hf := hr
              refine lv_if_le (tgt := 94) hx hb dX2_likeliest_78 (by decide) (fun hc => ?_) (fun hc => ?_)
              · replace hf := (if_pos hc).symm.trans hf
                subst hf
                exact hJ ls H locs hH (lv_sub hl [1, 2, 3, 4, 5, 6] rfl)
              · replace hf := (if_neg hc).symm.trans hf
                refine lv_lload hx hb dX2_likeliest_81 (lv_at hl 0 rfl) ?_
                refine lv_lstore_n (lv' := [(2, .long r22), (7, .long r22), (0, .ref (X.1 49)), (1, .int p0), (4, .int x10), (5, .int x4), (6, .int x11)]) hx hb dX2_likeliest_83 rfl hl (by decide) rfl (fun ls hl => ?_)
                refine lv_iload hx hb dX2_likeliest_84 (lv_at hl 5 rfl) ?_
                refine lv_bipush (v := 11) hx hb dX2_likeliest_86 (by decide) ?_
                refine lv_imul hx hb dX2_likeliest_88 ?_
                refine lv_iload hx hb dX2_likeliest_89 (lv_at hl 6 rfl) ?_
                refine lv_iadd hx hb dX2_likeliest_91 ?_
                refine lv_topi (fun x27 ex27 => ?_)
                replace hf := st_lt hf ex27
                refine lv_istore (lv' := [(4, .int x27), (2, .long r22), (7, .long r22), (0, .ref (X.1 49)), (1, .int p0), (5, .int x4), (6, .int x11)]) hx hb dX2_likeliest_92 hl (by decide) rfl (fun ls hl => ?_)
                subst hf
                exact hJ ls H locs hH (lv_sub hl [3, 4, 1, 0, 5, 6] rfl)) _ hlp
        exact hG ls H locs hH (lv_sub hl [1, 2, 3, 4, 5, 0] rfl)) _ hlp
  exact hG ls H locs hH (lv_sub hl [3, 4, 2, 1, 0] rfl)

