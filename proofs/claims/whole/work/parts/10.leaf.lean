theorem dJ7_fill_53178_0 : decode cJ7_fill_53178 0 = .ok (.iconst 0, 1) := by decide +kernel
theorem dJ7_fill_53178_1 : decode cJ7_fill_53178 1 = .ok (.istore_n 2, 1) := by decide +kernel
theorem dJ7_fill_53178_2 : decode cJ7_fill_53178 2 = .ok (.aload_n 0, 1) := by decide +kernel
theorem dJ7_fill_53178_3 : decode cJ7_fill_53178 3 = .ok (.arraylength, 1) := by decide +kernel
theorem dJ7_fill_53178_4 : decode cJ7_fill_53178 4 = .ok (.istore_n 3, 1) := by decide +kernel
theorem dJ7_fill_53178_5 : decode cJ7_fill_53178 5 = .ok (.iload_n 2, 1) := by decide +kernel
theorem dJ7_fill_53178_6 : decode cJ7_fill_53178 6 = .ok (.iload_n 3, 1) := by decide +kernel
theorem dJ7_fill_53178_7 : decode cJ7_fill_53178 7 = .ok (.if_icmp .ge 13, 3) := by decide +kernel
theorem dJ7_fill_53178_10 : decode cJ7_fill_53178 10 = .ok (.aload_n 0, 1) := by decide +kernel
theorem dJ7_fill_53178_11 : decode cJ7_fill_53178 11 = .ok (.iload_n 2, 1) := by decide +kernel
theorem dJ7_fill_53178_12 : decode cJ7_fill_53178 12 = .ok (.iload_n 1, 1) := by decide +kernel
theorem dJ7_fill_53178_13 : decode cJ7_fill_53178 13 = .ok (.iastore, 1) := by decide +kernel
theorem dJ7_fill_53178_14 : decode cJ7_fill_53178 14 = .ok (.iinc 2 1, 3) := by decide +kernel
theorem dJ7_fill_53178_17 : decode cJ7_fill_53178 17 = .ok (.goto (-12), 3) := by decide +kernel
theorem dJ7_fill_53178_20 : decode cJ7_fill_53178 20 = .ok (.return_, 1) := by decide +kernel
set_option maxRecDepth 100000 in
set_option maxHeartbeats 4000000 in
theorem tz_J7_fill_53178 (l : Launch) (X : qX) {p0 : Nat} {p1 : Int32} {M MR : qM} (hp0 : q_is p0 20 (q_al p0)) (hf : jJ7_fill_53178 p0 p1 M = some MR) : q_Met l X yJ7_fill_53178 cJ7_fill_53178 4 none (1) M [.ref (X.1 p0), .int p1] (q_Qv X MR) := by
  refine q_enter (by decide) (Nat.le_of_ble_eq_true rfl) ?_
  intro p e s m args below meth c hE hrt hlk H locs hH ls hl
  have hx := hE.1
  have hb := hE.2.1
  have hl : lv_has ls 4 [(0, .ref (X.1 p0)), (1, .int p1)] := hl
  unfold jJ7_fill_53178 at hf
  refine lv_iconst (v := 0) hx hb dJ7_fill_53178_0 (by decide) ?_
  refine lv_istore_n (lv' := [(2, .int 0), (0, .ref (X.1 p0)), (1, .int p1)]) hx hb dJ7_fill_53178_1 rfl hl (by decide) rfl (fun ls hl => ?_)
  refine lv_aload_n hx hb dJ7_fill_53178_2 rfl (lv_at hl 1 rfl) ?_
  refine pz_alenI (v := Int32.ofNat (q_al p0)) hE hH hp0 rfl dJ7_fill_53178_3 ?_
  refine lv_topi (fun x1 ex1 => ?_)
  replace hf := st_lt hf ex1
  refine lv_istore_n (lv' := [(3, .int x1), (2, .int 0), (0, .ref (X.1 p0)), (1, .int p1)]) hx hb dJ7_fill_53178_4 rfl hl (by decide) rfl (fun ls hl => ?_)
  obtain ⟨M4, hlp, hf⟩ := st_bd hf
  have hX : (fun M4 => ∀ (ls : Array Slot) (H : Heap) (locs : List Loc), q_H X M4 s H locs → lv_has ls 4 [] → W p l e (q_rm (1)) s m args below meth c H locs 0 0 (MQ below (q_Qv X MR) args s 0 0 (q_A X)) (F0 m 20 ls []) : qM → Prop) M4 := by
    intro ls H locs hH hl
    replace hf := Option.some.inj hf
    subst hf
    exact pz_retv hE hrt hlk hH dJ7_fill_53178_20
  clear hf
  have hG := qlp_ind (r := M4) (fun q => qu2 q (fun x2 M3 => ∀ (ls : Array Slot) (H : Heap) (locs : List Loc), q_H X M3 s H locs → lv_has ls 4 [(0, .ref (X.1 p0)), (1, .int p1), (2, .int x2), (3, .int x1)] → W p l e (q_rm (1)) s m args below meth c H locs 0 0 (MQ below (q_Qv X MR) args s 0 0 (q_A X)) (F0 m 5 ls []))) (by
      intro q o hf hK1 hK2
      obtain ⟨x2, M3⟩ := q
      replace hf := st_u2 hf
      intro ls H locs hH hl
      refine lv_iload_n hx hb dJ7_fill_53178_5 rfl (lv_at hl 2 rfl) ?_
      refine lv_iload_n hx hb dJ7_fill_53178_6 rfl (lv_at hl 3 rfl) ?_
      refine lv_icmp_ge (tgt := 20) hx hb dJ7_fill_53178_7 (by decide) (fun hc => ?_) (fun hc => ?_)
      · replace hf := (if_pos hc).symm.trans hf
        replace hf := hK2 _ (Option.some.inj hf).symm
        subst hf
        exact hX ls H locs hH (lv_sub hl [] rfl)
      · replace hf := (if_neg hc).symm.trans hf
        refine lv_aload_n hx hb dJ7_fill_53178_10 rfl (lv_at hl 0 rfl) ?_
        refine lv_iload_n hx hb dJ7_fill_53178_11 rfl (lv_at hl 2 rfl) ?_
        refine lv_iload_n hx hb dJ7_fill_53178_12 rfl (lv_at hl 1 rfl) ?_
        obtain ⟨M6, eM6, hf⟩ := st_bd hf
        refine pz_iast hE hH hp0 eM6 dJ7_fill_53178_13 (fun H locs hH => ?_)
        obtain ⟨x7, ex7, hf⟩ := st_lty hf
        refine lv_iinc (v := x7) (lv' := [(2, .int x7), (0, .ref (X.1 p0)), (1, .int p1), (3, .int x1)]) hx hb dJ7_fill_53178_14 hl (k := 2) rfl (by rw [ex7]; rfl) (by decide) rfl (fun ls hl => ?_)
        refine lv_goto (tgt := 5) hx hb dJ7_fill_53178_17 (by decide) ?_
        exact hK1 _ (Option.some.inj hf).symm ls H locs hH (lv_sub hl [1, 2, 0, 3] rfl)) _ hlp
  exact hG ls H locs hH (lv_sub hl [2, 3, 1, 0] rfl)

theorem dJ7_fill_d0a16_0 : decode cJ7_fill_d0a16 0 = .ok (.iconst 0, 1) := by decide +kernel
theorem dJ7_fill_d0a16_1 : decode cJ7_fill_d0a16 1 = .ok (.istore_n 3, 1) := by decide +kernel
theorem dJ7_fill_d0a16_2 : decode cJ7_fill_d0a16 2 = .ok (.aload_n 0, 1) := by decide +kernel
theorem dJ7_fill_d0a16_3 : decode cJ7_fill_d0a16 3 = .ok (.arraylength, 1) := by decide +kernel
theorem dJ7_fill_d0a16_4 : decode cJ7_fill_d0a16 4 = .ok (.istore 4, 2) := by decide +kernel
theorem dJ7_fill_d0a16_6 : decode cJ7_fill_d0a16 6 = .ok (.iload_n 3, 1) := by decide +kernel
theorem dJ7_fill_d0a16_7 : decode cJ7_fill_d0a16 7 = .ok (.iload 4, 2) := by decide +kernel
theorem dJ7_fill_d0a16_9 : decode cJ7_fill_d0a16 9 = .ok (.if_icmp .ge 13, 3) := by decide +kernel
theorem dJ7_fill_d0a16_12 : decode cJ7_fill_d0a16 12 = .ok (.aload_n 0, 1) := by decide +kernel
theorem dJ7_fill_d0a16_13 : decode cJ7_fill_d0a16 13 = .ok (.iload_n 3, 1) := by decide +kernel
theorem dJ7_fill_d0a16_14 : decode cJ7_fill_d0a16 14 = .ok (.lload_n 1, 1) := by decide +kernel
theorem dJ7_fill_d0a16_15 : decode cJ7_fill_d0a16 15 = .ok (.lastore, 1) := by decide +kernel
theorem dJ7_fill_d0a16_16 : decode cJ7_fill_d0a16 16 = .ok (.iinc 3 1, 3) := by decide +kernel
theorem dJ7_fill_d0a16_19 : decode cJ7_fill_d0a16 19 = .ok (.goto (-13), 3) := by decide +kernel
theorem dJ7_fill_d0a16_22 : decode cJ7_fill_d0a16 22 = .ok (.return_, 1) := by decide +kernel
set_option maxRecDepth 100000 in
set_option maxHeartbeats 4000000 in
theorem tz_J7_fill_d0a16 (l : Launch) (X : qX) {p0 : Nat} {p1 : Int64} {M MR : qM} (hp0 : q_is p0 21 (q_al p0)) (hf : jJ7_fill_d0a16 p0 p1 M = some MR) : q_Met l X yJ7_fill_d0a16 cJ7_fill_d0a16 5 none (1) M [.ref (X.1 p0), .long p1] (q_Qv X MR) := by
  refine q_enter (by decide) (Nat.le_of_ble_eq_true rfl) ?_
  intro p e s m args below meth c hE hrt hlk H locs hH ls hl
  have hx := hE.1
  have hb := hE.2.1
  have hl : lv_has ls 5 [(0, .ref (X.1 p0)), (1, .long p1)] := hl
  unfold jJ7_fill_d0a16 at hf
  refine lv_iconst (v := 0) hx hb dJ7_fill_d0a16_0 (by decide) ?_
  refine lv_istore_n (lv' := [(3, .int 0), (0, .ref (X.1 p0)), (1, .long p1)]) hx hb dJ7_fill_d0a16_1 rfl hl (by decide) rfl (fun ls hl => ?_)
  refine lv_aload_n hx hb dJ7_fill_d0a16_2 rfl (lv_at hl 1 rfl) ?_
  refine pz_alenJ (v := Int32.ofNat (q_al p0)) hE hH hp0 rfl dJ7_fill_d0a16_3 ?_
  refine lv_topi (fun x1 ex1 => ?_)
  replace hf := st_lt hf ex1
  refine lv_istore (lv' := [(4, .int x1), (3, .int 0), (0, .ref (X.1 p0)), (1, .long p1)]) hx hb dJ7_fill_d0a16_4 hl (by decide) rfl (fun ls hl => ?_)
  obtain ⟨M4, hlp, hf⟩ := st_bd hf
  have hX : (fun M4 => ∀ (ls : Array Slot) (H : Heap) (locs : List Loc), q_H X M4 s H locs → lv_has ls 5 [] → W p l e (q_rm (1)) s m args below meth c H locs 0 0 (MQ below (q_Qv X MR) args s 0 0 (q_A X)) (F0 m 22 ls []) : qM → Prop) M4 := by
    intro ls H locs hH hl
    replace hf := Option.some.inj hf
    subst hf
    exact pz_retv hE hrt hlk hH dJ7_fill_d0a16_22
  clear hf
  have hG := qlp_ind (r := M4) (fun q => qu2 q (fun x2 M3 => ∀ (ls : Array Slot) (H : Heap) (locs : List Loc), q_H X M3 s H locs → lv_has ls 5 [(0, .ref (X.1 p0)), (1, .long p1), (3, .int x2), (4, .int x1)] → W p l e (q_rm (1)) s m args below meth c H locs 0 0 (MQ below (q_Qv X MR) args s 0 0 (q_A X)) (F0 m 6 ls []))) (by
      intro q o hf hK1 hK2
      obtain ⟨x2, M3⟩ := q
      replace hf := st_u2 hf
      intro ls H locs hH hl
      refine lv_iload_n hx hb dJ7_fill_d0a16_6 rfl (lv_at hl 2 rfl) ?_
      refine lv_iload hx hb dJ7_fill_d0a16_7 (lv_at hl 3 rfl) ?_
      refine lv_icmp_ge (tgt := 22) hx hb dJ7_fill_d0a16_9 (by decide) (fun hc => ?_) (fun hc => ?_)
      · replace hf := (if_pos hc).symm.trans hf
        replace hf := hK2 _ (Option.some.inj hf).symm
        subst hf
        exact hX ls H locs hH (lv_sub hl [] rfl)
      · replace hf := (if_neg hc).symm.trans hf
        refine lv_aload_n hx hb dJ7_fill_d0a16_12 rfl (lv_at hl 0 rfl) ?_
        refine lv_iload_n hx hb dJ7_fill_d0a16_13 rfl (lv_at hl 2 rfl) ?_
        refine lv_lload_n hx hb dJ7_fill_d0a16_14 rfl (lv_at hl 1 rfl) ?_
        obtain ⟨M6, eM6, hf⟩ := st_bd hf
        refine pz_last hE hH hp0 eM6 dJ7_fill_d0a16_15 (fun H locs hH => ?_)
        obtain ⟨x7, ex7, hf⟩ := st_lty hf
        refine lv_iinc (v := x7) (lv' := [(3, .int x7), (0, .ref (X.1 p0)), (1, .long p1), (4, .int x1)]) hx hb dJ7_fill_d0a16_16 hl (k := 2) rfl (by rw [ex7]; rfl) (by decide) rfl (fun ls hl => ?_)
        refine lv_goto (tgt := 6) hx hb dJ7_fill_d0a16_19 (by decide) ?_
        exact hK1 _ (Option.some.inj hf).symm ls H locs hH (lv_sub hl [1, 2, 0, 3] rfl)) _ hlp
  exact hG ls H locs hH (lv_sub hl [2, 3, 1, 0] rfl)

theorem dJ7_rangeCheck_23922_0 : decode cJ7_rangeCheck_23922 0 = .ok (.iload_n 1, 1) := by decide +kernel
theorem dJ7_rangeCheck_23922_1 : decode cJ7_rangeCheck_23922 1 = .ok (.iload_n 2, 1) := by decide +kernel
theorem dJ7_rangeCheck_23922_2 : decode cJ7_rangeCheck_23922 2 = .ok (.if_icmp .le 44, 3) := by decide +kernel
theorem dJ7_rangeCheck_23922_46 : decode cJ7_rangeCheck_23922 46 = .ok (.iload_n 1, 1) := by decide +kernel
theorem dJ7_rangeCheck_23922_47 : decode cJ7_rangeCheck_23922 47 = .ok (.ifCond .ge 12, 3) := by decide +kernel
theorem dJ7_rangeCheck_23922_59 : decode cJ7_rangeCheck_23922 59 = .ok (.iload_n 2, 1) := by decide +kernel
theorem dJ7_rangeCheck_23922_60 : decode cJ7_rangeCheck_23922 60 = .ok (.iload_n 0, 1) := by decide +kernel
theorem dJ7_rangeCheck_23922_61 : decode cJ7_rangeCheck_23922 61 = .ok (.if_icmp .le 12, 3) := by decide +kernel
theorem dJ7_rangeCheck_23922_73 : decode cJ7_rangeCheck_23922 73 = .ok (.return_, 1) := by decide +kernel
set_option maxRecDepth 100000 in
set_option maxHeartbeats 4000000 in
theorem tz_J7_rangeCheck_23922 (l : Launch) (X : qX) {p0 : Int32} {p1 : Int32} {p2 : Int32} {M : qM} {r0 : Unit} (hf : jJ7_rangeCheck_23922 p0 p1 p2 = some r0) : q_Met l X yJ7_rangeCheck_23922 cJ7_rangeCheck_23922 3 none (1) M [.int p0, .int p1, .int p2] (q_Qv X M) := by
  refine q_enter (by decide) (Nat.le_of_ble_eq_true rfl) ?_
  intro p e s m args below meth c hE hrt hlk H locs hH ls hl
  have hx := hE.1
  have hb := hE.2.1
  have hl : lv_has ls 3 [(0, .int p0), (1, .int p1), (2, .int p2)] := hl
  unfold jJ7_rangeCheck_23922 at hf
  refine lv_iload_n hx hb dJ7_rangeCheck_23922_0 rfl (lv_at hl 1 rfl) ?_
  refine lv_iload_n hx hb dJ7_rangeCheck_23922_1 rfl (lv_at hl 2 rfl) ?_
  refine lv_icmp_le (tgt := 46) hx hb dJ7_rangeCheck_23922_2 (by decide) (fun hc => ?_) (fun hc => ?_)
  · replace hf := (if_pos hc).symm.trans hf
    refine lv_iload_n hx hb dJ7_rangeCheck_23922_46 rfl (lv_at hl 1 rfl) ?_
    refine lv_if_ge (tgt := 59) hx hb dJ7_rangeCheck_23922_47 (by decide) (fun hc => ?_) (fun hc => ?_)
    · replace hf := (if_pos hc).symm.trans hf
      refine lv_iload_n hx hb dJ7_rangeCheck_23922_59 rfl (lv_at hl 2 rfl) ?_
      refine lv_iload_n hx hb dJ7_rangeCheck_23922_60 rfl (lv_at hl 0 rfl) ?_
      refine lv_icmp_le (tgt := 73) hx hb dJ7_rangeCheck_23922_61 (by decide) (fun hc => ?_) (fun hc => ?_)
      · replace hf := (if_pos hc).symm.trans hf
        replace hf := Option.some.inj hf
        exact pz_retv hE hrt hlk hH dJ7_rangeCheck_23922_73
      · replace hf := (if_neg hc).symm.trans hf
        exact st_nn hf
    · replace hf := (if_neg hc).symm.trans hf
      exact st_nn hf
  · replace hf := (if_neg hc).symm.trans hf
    exact st_nn hf

theorem dJ7_fill_fda19_0 : decode cJ7_fill_fda19 0 = .ok (.aload_n 0, 1) := by decide +kernel
theorem dJ7_fill_fda19_1 : decode cJ7_fill_fda19 1 = .ok (.arraylength, 1) := by decide +kernel
theorem dJ7_fill_fda19_2 : decode cJ7_fill_fda19 2 = .ok (.iload_n 1, 1) := by decide +kernel
theorem dJ7_fill_fda19_3 : decode cJ7_fill_fda19 3 = .ok (.iload_n 2, 1) := by decide +kernel
theorem dJ7_fill_fda19_4 : decode cJ7_fill_fda19 4 = .ok (.invokestatic 13, 3) := by decide +kernel
theorem dJ7_fill_fda19_7 : decode cJ7_fill_fda19 7 = .ok (.iload_n 1, 1) := by decide +kernel
theorem dJ7_fill_fda19_8 : decode cJ7_fill_fda19 8 = .ok (.istore 4, 2) := by decide +kernel
theorem dJ7_fill_fda19_10 : decode cJ7_fill_fda19 10 = .ok (.iload 4, 2) := by decide +kernel
theorem dJ7_fill_fda19_12 : decode cJ7_fill_fda19 12 = .ok (.iload_n 2, 1) := by decide +kernel
theorem dJ7_fill_fda19_13 : decode cJ7_fill_fda19 13 = .ok (.if_icmp .ge 14, 3) := by decide +kernel
theorem dJ7_fill_fda19_16 : decode cJ7_fill_fda19 16 = .ok (.aload_n 0, 1) := by decide +kernel
theorem dJ7_fill_fda19_17 : decode cJ7_fill_fda19 17 = .ok (.iload 4, 2) := by decide +kernel
theorem dJ7_fill_fda19_19 : decode cJ7_fill_fda19 19 = .ok (.iload_n 3, 1) := by decide +kernel
theorem dJ7_fill_fda19_20 : decode cJ7_fill_fda19 20 = .ok (.iastore, 1) := by decide +kernel
theorem dJ7_fill_fda19_21 : decode cJ7_fill_fda19 21 = .ok (.iinc 4 1, 3) := by decide +kernel
theorem dJ7_fill_fda19_24 : decode cJ7_fill_fda19 24 = .ok (.goto (-14), 3) := by decide +kernel
theorem dJ7_fill_fda19_27 : decode cJ7_fill_fda19 27 = .ok (.return_, 1) := by decide +kernel
set_option maxRecDepth 100000 in
set_option maxHeartbeats 4000000 in
theorem tz_J7_fill_fda19 (l : Launch) (X : qX) {p0 : Nat} {p1 : Int32} {p2 : Int32} {p3 : Int32} {M MR : qM} (hp0 : q_is p0 20 (q_al p0)) (hf : jJ7_fill_fda19 p0 p1 p2 p3 M = some MR) : q_Met l X yJ7_fill_fda19 cJ7_fill_fda19 5 none (2) M [.ref (X.1 p0), .int p1, .int p2, .int p3] (q_Qv X MR) := by
  refine q_enter (by decide) (Nat.le_of_ble_eq_true rfl) ?_
  intro p e s m args below meth c hE hrt hlk H locs hH ls hl
  have hx := hE.1
  have hb := hE.2.1
  have hl : lv_has ls 5 [(0, .ref (X.1 p0)), (1, .int p1), (2, .int p2), (3, .int p3)] := hl
  unfold jJ7_fill_fda19 at hf
  refine lv_aload_n hx hb dJ7_fill_fda19_0 rfl (lv_at hl 0 rfl) ?_
  refine pz_alenI (v := Int32.ofNat (q_al p0)) hE hH hp0 rfl dJ7_fill_fda19_1 ?_
  refine lv_iload_n hx hb dJ7_fill_fda19_2 rfl (lv_at hl 1 rfl) ?_
  refine lv_iload_n hx hb dJ7_fill_fda19_3 rfl (lv_at hl 2 rfl) ?_
  obtain ⟨u1, eu1, hf⟩ := st_bd hf
  refine q_callv (q_runS (As := [.int (Int32.ofNat (q_al p0)), .int p1, .int p2]) (rest := []) hE hH (tz_J7_rangeCheck_23922 l X (M := M) (hf := eu1)) ks_J7_13 (by decide) rfl hl.1 rfl (Nat.le_of_ble_eq_true rfl) dJ7_fill_fda19_4) hH (fun H locs hH => ?_)
  refine lv_iload_n hx hb dJ7_fill_fda19_7 rfl (lv_at hl 1 rfl) ?_
  refine lv_istore (lv' := [(4, .int p1), (0, .ref (X.1 p0)), (1, .int p1), (2, .int p2), (3, .int p3)]) hx hb dJ7_fill_fda19_8 hl (by decide) rfl (fun ls hl => ?_)
  obtain ⟨M4, hlp, hf⟩ := st_bd hf
  have hX : (fun M4 => ∀ (ls : Array Slot) (H : Heap) (locs : List Loc), q_H X M4 s H locs → lv_has ls 5 [] → W p l e (q_rm (2)) s m args below meth c H locs 0 0 (MQ below (q_Qv X MR) args s 0 0 (q_A X)) (F0 m 27 ls []) : qM → Prop) M4 := by
    intro ls H locs hH hl
    replace hf := Option.some.inj hf
    subst hf
    exact pz_retv hE hrt hlk hH dJ7_fill_fda19_27
  clear hf
  have hG := qlp_ind (r := M4) (fun q => qu2 q (fun x2 M3 => ∀ (ls : Array Slot) (H : Heap) (locs : List Loc), q_H X M3 s H locs → lv_has ls 5 [(0, .ref (X.1 p0)), (2, .int p2), (3, .int p3), (4, .int x2)] → W p l e (q_rm (2)) s m args below meth c H locs 0 0 (MQ below (q_Qv X MR) args s 0 0 (q_A X)) (F0 m 10 ls []))) (by
      intro q o hf hK1 hK2
      obtain ⟨x2, M3⟩ := q
      replace hf := st_u2 hf
      intro ls H locs hH hl
      refine lv_iload hx hb dJ7_fill_fda19_10 (lv_at hl 3 rfl) ?_
      refine lv_iload_n hx hb dJ7_fill_fda19_12 rfl (lv_at hl 1 rfl) ?_
      refine lv_icmp_ge (tgt := 27) hx hb dJ7_fill_fda19_13 (by decide) (fun hc => ?_) (fun hc => ?_)
      · replace hf := (if_pos hc).symm.trans hf
        replace hf := hK2 _ (Option.some.inj hf).symm
        subst hf
        exact hX ls H locs hH (lv_sub hl [] rfl)
      · replace hf := (if_neg hc).symm.trans hf
        refine lv_aload_n hx hb dJ7_fill_fda19_16 rfl (lv_at hl 0 rfl) ?_
        refine lv_iload hx hb dJ7_fill_fda19_17 (lv_at hl 3 rfl) ?_
        refine lv_iload_n hx hb dJ7_fill_fda19_19 rfl (lv_at hl 2 rfl) ?_
        obtain ⟨M6, eM6, hf⟩ := st_bd hf
        refine pz_iast hE hH hp0 eM6 dJ7_fill_fda19_20 (fun H locs hH => ?_)
        obtain ⟨x7, ex7, hf⟩ := st_lty hf
        refine lv_iinc (v := x7) (lv' := [(4, .int x7), (0, .ref (X.1 p0)), (2, .int p2), (3, .int p3)]) hx hb dJ7_fill_fda19_21 hl (k := 3) rfl (by rw [ex7]; rfl) (by decide) rfl (fun ls hl => ?_)
        refine lv_goto (tgt := 10) hx hb dJ7_fill_fda19_24 (by decide) ?_
        exact hK1 _ (Option.some.inj hf).symm ls H locs hH (lv_sub hl [1, 2, 3, 0] rfl)) _ hlp
  exact hG ls H locs hH (lv_sub hl [1, 3, 4, 0] rfl)

theorem dX11_isOf_0 : decode cX11_isOf 0 = .ok (.iload_n 0, 1) := by decide +kernel
theorem dX11_isOf_1 : decode cX11_isOf 1 = .ok (.ifCond .lt 12, 3) := by decide +kernel
theorem dX11_isOf_4 : decode cX11_isOf 4 = .ok (.iload_n 0, 1) := by decide +kernel
theorem dX11_isOf_5 : decode cX11_isOf 5 = .ok (.iload_n 1, 1) := by decide +kernel
theorem dX11_isOf_6 : decode cX11_isOf 6 = .ok (.if_icmp .ge 7, 3) := by decide +kernel
theorem dX11_isOf_9 : decode cX11_isOf 9 = .ok (.iconst 1, 1) := by decide +kernel
theorem dX11_isOf_10 : decode cX11_isOf 10 = .ok (.goto 4, 3) := by decide +kernel
theorem dX11_isOf_13 : decode cX11_isOf 13 = .ok (.iconst 0, 1) := by decide +kernel
theorem dX11_isOf_14 : decode cX11_isOf 14 = .ok (.ireturn, 1) := by decide +kernel
set_option maxRecDepth 100000 in
set_option maxHeartbeats 4000000 in
theorem tz_X11_isOf (l : Launch) (X : qX) {p0 : Int32} {p1 : Int32} {M : qM} {r0 : Bool} (hf : jTc_isOf p0 p1 = r0) : q_Met l X yX11_isOf cX11_isOf 2 (some .boolean) (1) M [.int p0, .int p1] (q_Qi X (b2i r0) M) := by
  refine q_enter (by decide) (Nat.le_of_ble_eq_true rfl) ?_
  intro p e s m args below meth c hE hrt hlk H locs hH ls hl
  have hx := hE.1
  have hb := hE.2.1
  have hl : lv_has ls 2 [(0, .int p0), (1, .int p1)] := hl
  unfold jTc_isOf at hf
  refine lv_iload_n hx hb dX11_isOf_0 rfl (lv_at hl 0 rfl) ?_
  obtain ⟨z1, hr, hf⟩ := st_ltx hf
  have hJ : ∀ (ls : Array Slot) (H : Heap) (locs : List Loc), q_H X M s H locs → lv_has ls 2 [] → W p l e (q_rm (1)) s m args below meth c H locs 0 0 (MQ below (q_Qi X (b2i r0) M) args s 0 0 (q_A X)) (F0 m 14 ls [.int (b2i z1)]) := by
    intro ls H locs hH hl
    subst hf
    exact pz_retz hE hrt hlk hH rfl dX11_isOf_14
  clear hf
  replace hf := hr
  refine lv_if_lt (tgt := 13) hx hb dX11_isOf_1 (by decide) (fun hc => ?_) (fun hc => ?_)
  · replace hf := (if_pos hc).symm.trans hf
    refine lv_iconst (v := 0) hx hb dX11_isOf_13 (by decide) ?_
    subst hf
    exact hJ ls H locs hH (lv_sub hl [] rfl)
  · replace hf := (if_neg hc).symm.trans hf
    refine lv_iload_n hx hb dX11_isOf_4 rfl (lv_at hl 0 rfl) ?_
    refine lv_iload_n hx hb dX11_isOf_5 rfl (lv_at hl 1 rfl) ?_
    refine lv_icmp_ge (tgt := 13) hx hb dX11_isOf_6 (by decide) (fun hc => ?_) (fun hc => ?_)
    · replace hf := (if_pos hc).symm.trans hf
      refine lv_iconst (v := 0) hx hb dX11_isOf_13 (by decide) ?_
      subst hf
      exact hJ ls H locs hH (lv_sub hl [] rfl)
    · replace hf := (if_neg hc).symm.trans hf
      refine lv_iconst (v := 1) hx hb dX11_isOf_9 (by decide) ?_
      refine lv_goto (tgt := 14) hx hb dX11_isOf_10 (by decide) ?_
      subst hf
      exact hJ ls H locs hH (lv_sub hl [] rfl)

theorem dJ1_canEncode_9a6ad_0 : decode cJ1_canEncode_9a6ad 0 = .ok (.iload_n 0, 1) := by decide +kernel
theorem dJ1_canEncode_9a6ad_1 : decode cJ1_canEncode_9a6ad 1 = .ok (.ifCond .lt 14, 3) := by decide +kernel
theorem dJ1_canEncode_9a6ad_4 : decode cJ1_canEncode_9a6ad 4 = .ok (.iload_n 0, 1) := by decide +kernel
theorem dJ1_canEncode_9a6ad_5 : decode cJ1_canEncode_9a6ad 5 = .ok (.sipush 255, 3) := by decide +kernel
theorem dJ1_canEncode_9a6ad_8 : decode cJ1_canEncode_9a6ad 8 = .ok (.if_icmp .gt 7, 3) := by decide +kernel
theorem dJ1_canEncode_9a6ad_11 : decode cJ1_canEncode_9a6ad 11 = .ok (.iconst 1, 1) := by decide +kernel
theorem dJ1_canEncode_9a6ad_12 : decode cJ1_canEncode_9a6ad 12 = .ok (.goto 4, 3) := by decide +kernel
theorem dJ1_canEncode_9a6ad_15 : decode cJ1_canEncode_9a6ad 15 = .ok (.iconst 0, 1) := by decide +kernel
theorem dJ1_canEncode_9a6ad_16 : decode cJ1_canEncode_9a6ad 16 = .ok (.ireturn, 1) := by decide +kernel
set_option maxRecDepth 100000 in
set_option maxHeartbeats 4000000 in
theorem tz_J1_canEncode_9a6ad (l : Launch) (X : qX) {p0 : Int32} {M : qM} {r0 : Bool} (hf : jJ1_canEncode_9a6ad p0 = r0) : q_Met l X yJ1_canEncode_9a6ad cJ1_canEncode_9a6ad 1 (some .boolean) (1) M [.int p0] (q_Qi X (b2i r0) M) := by
  refine q_enter (by decide) (Nat.le_of_ble_eq_true rfl) ?_
  intro p e s m args below meth c hE hrt hlk H locs hH ls hl
  have hx := hE.1
  have hb := hE.2.1
  have hl : lv_has ls 1 [(0, .int p0)] := hl
  unfold jJ1_canEncode_9a6ad at hf
  refine lv_iload_n hx hb dJ1_canEncode_9a6ad_0 rfl (lv_at hl 0 rfl) ?_
  obtain ⟨z1, hr, hf⟩ := st_ltx hf
  have hJ : ∀ (ls : Array Slot) (H : Heap) (locs : List Loc), q_H X M s H locs → lv_has ls 1 [] → W p l e (q_rm (1)) s m args below meth c H locs 0 0 (MQ below (q_Qi X (b2i r0) M) args s 0 0 (q_A X)) (F0 m 16 ls [.int (b2i z1)]) := by
    intro ls H locs hH hl
    subst hf
    exact pz_retz hE hrt hlk hH rfl dJ1_canEncode_9a6ad_16
  clear hf
  replace hf := hr
  refine lv_if_lt (tgt := 15) hx hb dJ1_canEncode_9a6ad_1 (by decide) (fun hc => ?_) (fun hc => ?_)
  · replace hf := (if_pos hc).symm.trans hf
    refine lv_iconst (v := 0) hx hb dJ1_canEncode_9a6ad_15 (by decide) ?_
    subst hf
    exact hJ ls H locs hH (lv_sub hl [] rfl)
  · replace hf := (if_neg hc).symm.trans hf
    refine lv_iload_n hx hb dJ1_canEncode_9a6ad_4 rfl (lv_at hl 0 rfl) ?_
    refine lv_sipush (v := 255) hx hb dJ1_canEncode_9a6ad_5 (by decide) ?_
    refine lv_icmp_gt (tgt := 15) hx hb dJ1_canEncode_9a6ad_8 (by decide) (fun hc => ?_) (fun hc => ?_)
    · replace hf := (if_pos hc).symm.trans hf
      refine lv_iconst (v := 0) hx hb dJ1_canEncode_9a6ad_15 (by decide) ?_
      subst hf
      exact hJ ls H locs hH (lv_sub hl [] rfl)
    · replace hf := (if_neg hc).symm.trans hf
      refine lv_iconst (v := 1) hx hb dJ1_canEncode_9a6ad_11 (by decide) ?_
      refine lv_goto (tgt := 16) hx hb dJ1_canEncode_9a6ad_12 (by decide) ?_
      subst hf
      exact hJ ls H locs hH (lv_sub hl [] rfl)

theorem dJ1_indexOfChar_4cfef_0 : decode cJ1_indexOfChar_4cfef 0 = .ok (.iload_n 1, 1) := by decide +kernel
theorem dJ1_indexOfChar_4cfef_1 : decode cJ1_indexOfChar_4cfef 1 = .ok (.i2b, 1) := by decide +kernel
theorem dJ1_indexOfChar_4cfef_2 : decode cJ1_indexOfChar_4cfef 2 = .ok (.istore 4, 2) := by decide +kernel
theorem dJ1_indexOfChar_4cfef_4 : decode cJ1_indexOfChar_4cfef 4 = .ok (.iload_n 2, 1) := by decide +kernel
theorem dJ1_indexOfChar_4cfef_5 : decode cJ1_indexOfChar_4cfef 5 = .ok (.istore 5, 2) := by decide +kernel
theorem dJ1_indexOfChar_4cfef_7 : decode cJ1_indexOfChar_4cfef 7 = .ok (.iload 5, 2) := by decide +kernel
theorem dJ1_indexOfChar_4cfef_9 : decode cJ1_indexOfChar_4cfef 9 = .ok (.iload_n 3, 1) := by decide +kernel
theorem dJ1_indexOfChar_4cfef_10 : decode cJ1_indexOfChar_4cfef 10 = .ok (.if_icmp .ge 21, 3) := by decide +kernel
theorem dJ1_indexOfChar_4cfef_13 : decode cJ1_indexOfChar_4cfef 13 = .ok (.aload_n 0, 1) := by decide +kernel
theorem dJ1_indexOfChar_4cfef_14 : decode cJ1_indexOfChar_4cfef 14 = .ok (.iload 5, 2) := by decide +kernel
theorem dJ1_indexOfChar_4cfef_16 : decode cJ1_indexOfChar_4cfef 16 = .ok (.baload, 1) := by decide +kernel
theorem dJ1_indexOfChar_4cfef_17 : decode cJ1_indexOfChar_4cfef 17 = .ok (.iload 4, 2) := by decide +kernel
theorem dJ1_indexOfChar_4cfef_19 : decode cJ1_indexOfChar_4cfef 19 = .ok (.if_icmp .ne 6, 3) := by decide +kernel
theorem dJ1_indexOfChar_4cfef_22 : decode cJ1_indexOfChar_4cfef 22 = .ok (.iload 5, 2) := by decide +kernel
theorem dJ1_indexOfChar_4cfef_24 : decode cJ1_indexOfChar_4cfef 24 = .ok (.ireturn, 1) := by decide +kernel
theorem dJ1_indexOfChar_4cfef_25 : decode cJ1_indexOfChar_4cfef 25 = .ok (.iinc 5 1, 3) := by decide +kernel
theorem dJ1_indexOfChar_4cfef_28 : decode cJ1_indexOfChar_4cfef 28 = .ok (.goto (-21), 3) := by decide +kernel
theorem dJ1_indexOfChar_4cfef_31 : decode cJ1_indexOfChar_4cfef 31 = .ok (.iconst (-1), 1) := by decide +kernel
theorem dJ1_indexOfChar_4cfef_32 : decode cJ1_indexOfChar_4cfef 32 = .ok (.ireturn, 1) := by decide +kernel
set_option maxRecDepth 100000 in
set_option maxHeartbeats 4000000 in
theorem tz_J1_indexOfChar_4cfef (l : Launch) (X : qX) {p0 : Nat} {p1 : Int32} {p2 : Int32} {p3 : Int32} {M : qM} {r0 : Int32} (hp0 : p0 < 3) (hf : jJ1_indexOfChar_4cfef p0 p1 p2 p3 = some r0) : q_Met l X yJ1_indexOfChar_4cfef cJ1_indexOfChar_4cfef 6 (some .int) (1) M [.ref (X.2.2.2.2.2 p0), .int p1, .int p2, .int p3] (q_Qi X r0 M) := by
  refine q_enter (by decide) (Nat.le_of_ble_eq_true rfl) ?_
  intro p e s m args below meth c hE hrt hlk H locs hH ls hl
  have hx := hE.1
  have hb := hE.2.1
  have hl : lv_has ls 6 [(0, .ref (X.2.2.2.2.2 p0)), (1, .int p1), (2, .int p2), (3, .int p3)] := hl
  unfold jJ1_indexOfChar_4cfef at hf
  refine lv_iload_n hx hb dJ1_indexOfChar_4cfef_0 rfl (lv_at hl 1 rfl) ?_
  refine lv_i2b (v := (p1 : Int32).toInt8.toInt32) hx hb dJ1_indexOfChar_4cfef_1 rfl ?_
  refine lv_topi (fun x1 ex1 => ?_)
  replace hf := st_lt hf ex1
  refine lv_istore (lv' := [(4, .int x1), (0, .ref (X.2.2.2.2.2 p0)), (1, .int p1), (2, .int p2), (3, .int p3)]) hx hb dJ1_indexOfChar_4cfef_2 hl (by decide) rfl (fun ls hl => ?_)
  refine lv_iload_n hx hb dJ1_indexOfChar_4cfef_4 rfl (lv_at hl 3 rfl) ?_
  refine lv_istore (lv' := [(5, .int p2), (4, .int x1), (0, .ref (X.2.2.2.2.2 p0)), (1, .int p1), (2, .int p2), (3, .int p3)]) hx hb dJ1_indexOfChar_4cfef_5 hl (by decide) rfl (fun ls hl => ?_)
  obtain ⟨r4, hlp, hf⟩ := st_bd hf
  have hX : (fun q0a => qse q0a (fun x3 => ∀ (ls : Array Slot) (H : Heap) (locs : List Loc), q_H X M s H locs → lv_has ls 6 [(5, .int x3)] → W p l e (q_rm (1)) s m args below meth c H locs 0 0 (MQ below (q_Qi X r0 M) args s 0 0 (q_A X)) (F0 m 22 ls [])) (fun (_ : Unit) => ∀ (ls : Array Slot) (H : Heap) (locs : List Loc), q_H X M s H locs → lv_has ls 6 [] → W p l e (q_rm (1)) s m args below meth c H locs 0 0 (MQ below (q_Qi X r0 M) args s 0 0 (q_A X)) (F0 m 31 ls [])) : (Int32 ⊕ Unit) → Prop) r4 := by
    rcases r4 with x3 | r4
    · replace hf := st_seL hf
      intro ls H locs hH hl
      refine lv_iload hx hb dJ1_indexOfChar_4cfef_22 (lv_at hl 0 rfl) ?_
      replace hf := Option.some.inj hf
      subst hf
      exact pz_reti hE hrt hlk hH dJ1_indexOfChar_4cfef_24
    · replace hf := st_seR hf
      intro ls H locs hH hl
      refine lv_iconst (v := (-1)) hx hb dJ1_indexOfChar_4cfef_31 (by decide) ?_
      replace hf := Option.some.inj hf
      subst hf
      exact pz_reti hE hrt hlk hH dJ1_indexOfChar_4cfef_32
  clear hf
  have hG := qlp_ind (r := r4) (fun x2 => ∀ (ls : Array Slot) (H : Heap) (locs : List Loc), q_H X M s H locs → lv_has ls 6 [(0, .ref (X.2.2.2.2.2 p0)), (3, .int p3), (4, .int x1), (5, .int x2)] → W p l e (q_rm (1)) s m args below meth c H locs 0 0 (MQ below (q_Qi X r0 M) args s 0 0 (q_A X)) (F0 m 7 ls [])) (by
      intro x2 o hf hK1 hK2
      intro ls H locs hH hl
      refine lv_iload hx hb dJ1_indexOfChar_4cfef_7 (lv_at hl 3 rfl) ?_
      refine lv_iload_n hx hb dJ1_indexOfChar_4cfef_9 rfl (lv_at hl 1 rfl) ?_
      refine lv_icmp_ge (tgt := 31) hx hb dJ1_indexOfChar_4cfef_10 (by decide) (fun hc => ?_) (fun hc => ?_)
      · replace hf := (if_pos hc).symm.trans hf
        replace hf := hK2 _ (Option.some.inj hf).symm
        subst hf
        exact hX ls H locs hH (lv_sub hl [] rfl)
      · replace hf := (if_neg hc).symm.trans hf
        refine lv_aload_n hx hb dJ1_indexOfChar_4cfef_13 rfl (lv_at hl 0 rfl) ?_
        refine lv_iload hx hb dJ1_indexOfChar_4cfef_14 (lv_at hl 3 rfl) ?_
        obtain ⟨v5, ev5, hf⟩ := st_bd hf
        refine pz_bald hE hH hp0 ev5 dJ1_indexOfChar_4cfef_16 ?_
        refine lv_iload hx hb dJ1_indexOfChar_4cfef_17 (lv_at hl 2 rfl) ?_
        refine lv_icmp_ne (tgt := 25) hx hb dJ1_indexOfChar_4cfef_19 (by decide) (fun hc => ?_) (fun hc => ?_)
        · replace hf := (if_neg hc).symm.trans hf
          obtain ⟨x6, ex6, hf⟩ := st_lty hf
          refine lv_iinc (v := x6) (lv' := [(5, .int x6), (0, .ref (X.2.2.2.2.2 p0)), (3, .int p3), (4, .int x1)]) hx hb dJ1_indexOfChar_4cfef_25 hl (k := 3) rfl (by rw [ex6]; rfl) (by decide) rfl (fun ls hl => ?_)
          refine lv_goto (tgt := 7) hx hb dJ1_indexOfChar_4cfef_28 (by decide) ?_
          exact hK1 _ (Option.some.inj hf).symm ls H locs hH (lv_sub hl [1, 2, 3, 0] rfl)
        · replace hf := (if_pos hc).symm.trans hf
          replace hf := hK2 _ (Option.some.inj hf).symm
          subst hf
          exact hX ls H locs hH (lv_sub hl [3] rfl)) _ hlp
  exact hG ls H locs hH (lv_sub hl [2, 5, 1, 0] rfl)

theorem dJ1_indexOf_4cfef_0 : decode cJ1_indexOf_4cfef 0 = .ok (.iload_n 1, 1) := by decide +kernel
theorem dJ1_indexOf_4cfef_1 : decode cJ1_indexOf_4cfef 1 = .ok (.invokestatic 88, 3) := by decide +kernel
theorem dJ1_indexOf_4cfef_4 : decode cJ1_indexOf_4cfef 4 = .ok (.ifCond .ne 5, 3) := by decide +kernel
theorem dJ1_indexOf_4cfef_7 : decode cJ1_indexOf_4cfef 7 = .ok (.iconst (-1), 1) := by decide +kernel
theorem dJ1_indexOf_4cfef_8 : decode cJ1_indexOf_4cfef 8 = .ok (.ireturn, 1) := by decide +kernel
theorem dJ1_indexOf_4cfef_9 : decode cJ1_indexOf_4cfef 9 = .ok (.iload_n 2, 1) := by decide +kernel
theorem dJ1_indexOf_4cfef_10 : decode cJ1_indexOf_4cfef 10 = .ok (.iconst 0, 1) := by decide +kernel
theorem dJ1_indexOf_4cfef_11 : decode cJ1_indexOf_4cfef 11 = .ok (.invokestatic 92, 3) := by decide +kernel
theorem dJ1_indexOf_4cfef_14 : decode cJ1_indexOf_4cfef 14 = .ok (.istore_n 2, 1) := by decide +kernel
theorem dJ1_indexOf_4cfef_15 : decode cJ1_indexOf_4cfef 15 = .ok (.iload_n 3, 1) := by decide +kernel
theorem dJ1_indexOf_4cfef_16 : decode cJ1_indexOf_4cfef 16 = .ok (.aload_n 0, 1) := by decide +kernel
theorem dJ1_indexOf_4cfef_17 : decode cJ1_indexOf_4cfef 17 = .ok (.arraylength, 1) := by decide +kernel
theorem dJ1_indexOf_4cfef_18 : decode cJ1_indexOf_4cfef 18 = .ok (.invokestatic 38, 3) := by decide +kernel
theorem dJ1_indexOf_4cfef_21 : decode cJ1_indexOf_4cfef 21 = .ok (.istore_n 3, 1) := by decide +kernel
theorem dJ1_indexOf_4cfef_22 : decode cJ1_indexOf_4cfef 22 = .ok (.iload_n 2, 1) := by decide +kernel
theorem dJ1_indexOf_4cfef_23 : decode cJ1_indexOf_4cfef 23 = .ok (.iload_n 3, 1) := by decide +kernel
theorem dJ1_indexOf_4cfef_24 : decode cJ1_indexOf_4cfef 24 = .ok (.if_icmp .lt 5, 3) := by decide +kernel
theorem dJ1_indexOf_4cfef_27 : decode cJ1_indexOf_4cfef 27 = .ok (.iconst (-1), 1) := by decide +kernel
theorem dJ1_indexOf_4cfef_28 : decode cJ1_indexOf_4cfef 28 = .ok (.ireturn, 1) := by decide +kernel
theorem dJ1_indexOf_4cfef_29 : decode cJ1_indexOf_4cfef 29 = .ok (.aload_n 0, 1) := by decide +kernel
theorem dJ1_indexOf_4cfef_30 : decode cJ1_indexOf_4cfef 30 = .ok (.iload_n 1, 1) := by decide +kernel
theorem dJ1_indexOf_4cfef_31 : decode cJ1_indexOf_4cfef 31 = .ok (.iload_n 2, 1) := by decide +kernel
theorem dJ1_indexOf_4cfef_32 : decode cJ1_indexOf_4cfef 32 = .ok (.iload_n 3, 1) := by decide +kernel
theorem dJ1_indexOf_4cfef_33 : decode cJ1_indexOf_4cfef 33 = .ok (.invokestatic 95, 3) := by decide +kernel
theorem dJ1_indexOf_4cfef_36 : decode cJ1_indexOf_4cfef 36 = .ok (.ireturn, 1) := by decide +kernel
set_option maxRecDepth 100000 in
set_option maxHeartbeats 4000000 in
theorem tz_J1_indexOf_4cfef (l : Launch) (X : qX) {p0 : Nat} {p1 : Int32} {p2 : Int32} {p3 : Int32} {M : qM} {r0 : Int32} (hp0 : p0 < 3) (hf : jJ1_indexOf_4cfef p0 p1 p2 p3 = some r0) : q_Met l X yJ1_indexOf_4cfef cJ1_indexOf_4cfef 4 (some .int) (2) M [.ref (X.2.2.2.2.2 p0), .int p1, .int p2, .int p3] (q_Qi X r0 M) := by
  refine q_enter (by decide) (Nat.le_of_ble_eq_true rfl) ?_
  intro p e s m args below meth c hE hrt hlk H locs hH ls hl
  have hx := hE.1
  have hb := hE.2.1
  have hl : lv_has ls 4 [(0, .ref (X.2.2.2.2.2 p0)), (1, .int p1), (2, .int p2), (3, .int p3)] := hl
  unfold jJ1_indexOf_4cfef at hf
  refine lv_iload_n hx hb dJ1_indexOf_4cfef_0 rfl (lv_at hl 1 rfl) ?_
  refine q_calli (q_runS (As := [.int p1]) (rest := []) hE hH (tz_J1_canEncode_9a6ad l X (M := M) (hf := rfl)) ks_J1_88 (by decide) rfl hl.1 rfl (Nat.le_of_ble_eq_true rfl) dJ1_indexOf_4cfef_1) hH (fun H locs hH => ?_)
  refine lv_if_ne (tgt := 9) hx hb dJ1_indexOf_4cfef_4 (by decide) (fun hc => ?_) (fun hc => ?_)
  · replace hf := (if_neg hc).symm.trans hf
    refine lv_iload_n hx hb dJ1_indexOf_4cfef_9 rfl (lv_at hl 2 rfl) ?_
    refine lv_iconst (v := 0) hx hb dJ1_indexOf_4cfef_10 (by decide) ?_
    refine pz_maxI (rest := []) hE (q_in _ 548 (by decide +kernel) rfl) (q_in _ 549 (by decide +kernel) rfl) (q_in _ 17 (by decide +kernel) rfl) (q_in _ 550 (by decide +kernel) rfl) hl.1 (by decide) (Nat.le_of_ble_eq_true rfl) (Nat.zero_le _) (Nat.zero_le _) dJ1_indexOf_4cfef_11 ?_
    refine lv_topi (fun x1 ex1 => ?_)
    replace hf := st_lt hf ex1
    refine lv_istore_n (lv' := [(2, .int x1), (0, .ref (X.2.2.2.2.2 p0)), (1, .int p1), (3, .int p3)]) hx hb dJ1_indexOf_4cfef_14 rfl hl (by decide) rfl (fun ls hl => ?_)
    refine lv_iload_n hx hb dJ1_indexOf_4cfef_15 rfl (lv_at hl 3 rfl) ?_
    refine lv_aload_n hx hb dJ1_indexOf_4cfef_16 rfl (lv_at hl 1 rfl) ?_
    refine pz_blen hE hH hp0 dJ1_indexOf_4cfef_17 ?_
    refine pz_minI (rest := []) hE (q_in _ 551 (by decide +kernel) rfl) (q_in _ 552 (by decide +kernel) rfl) (q_in _ 17 (by decide +kernel) rfl) (q_in _ 553 (by decide +kernel) rfl) hl.1 (by decide) (Nat.le_of_ble_eq_true rfl) (Nat.zero_le _) (Nat.zero_le _) dJ1_indexOf_4cfef_18 ?_
    refine lv_topi (fun x2 ex2 => ?_)
    replace hf := st_lt hf ex2
    refine lv_istore_n (lv' := [(3, .int x2), (2, .int x1), (0, .ref (X.2.2.2.2.2 p0)), (1, .int p1)]) hx hb dJ1_indexOf_4cfef_21 rfl hl (by decide) rfl (fun ls hl => ?_)
    refine lv_iload_n hx hb dJ1_indexOf_4cfef_22 rfl (lv_at hl 1 rfl) ?_
    refine lv_iload_n hx hb dJ1_indexOf_4cfef_23 rfl (lv_at hl 0 rfl) ?_
    refine lv_icmp_lt (tgt := 29) hx hb dJ1_indexOf_4cfef_24 (by decide) (fun hc => ?_) (fun hc => ?_)
    · replace hf := (if_pos hc).symm.trans hf
      refine lv_aload_n hx hb dJ1_indexOf_4cfef_29 rfl (lv_at hl 2 rfl) ?_
      refine lv_iload_n hx hb dJ1_indexOf_4cfef_30 rfl (lv_at hl 3 rfl) ?_
      refine lv_iload_n hx hb dJ1_indexOf_4cfef_31 rfl (lv_at hl 1 rfl) ?_
      refine lv_iload_n hx hb dJ1_indexOf_4cfef_32 rfl (lv_at hl 0 rfl) ?_
      obtain ⟨r3, er3, hf⟩ := st_bd hf
      refine q_calli (q_runS (As := [.ref (X.2.2.2.2.2 p0), .int p1, .int x1, .int x2]) (rest := []) hE hH (tz_J1_indexOfChar_4cfef l X hp0 (M := M) (hf := er3)) ks_J1_95 (by decide) rfl hl.1 rfl (Nat.le_of_ble_eq_true rfl) dJ1_indexOf_4cfef_33) hH (fun H locs hH => ?_)
      replace hf := Option.some.inj hf
      subst hf
      exact pz_reti hE hrt hlk hH dJ1_indexOf_4cfef_36
    · replace hf := (if_neg hc).symm.trans hf
      refine lv_iconst (v := (-1)) hx hb dJ1_indexOf_4cfef_27 (by decide) ?_
      replace hf := Option.some.inj hf
      subst hf
      exact pz_reti hE hrt hlk hH dJ1_indexOf_4cfef_28
  · replace hf := (if_pos hc).symm.trans hf
    refine lv_iconst (v := (-1)) hx hb dJ1_indexOf_4cfef_7 (by decide) ?_
    replace hf := Option.some.inj hf
    subst hf
    exact pz_reti hE hrt hlk hH dJ1_indexOf_4cfef_8

theorem dJ0_isLatin1_aae02_0 : decode cJ0_isLatin1_aae02 0 = .ok (.getstatic 38, 3) := by decide +kernel
theorem dJ0_isLatin1_aae02_3 : decode cJ0_isLatin1_aae02 3 = .ok (.ifCond .eq 14, 3) := by decide +kernel
theorem dJ0_isLatin1_aae02_6 : decode cJ0_isLatin1_aae02 6 = .ok (.aload_n 0, 1) := by decide +kernel
theorem dJ0_isLatin1_aae02_7 : decode cJ0_isLatin1_aae02 7 = .ok (.getfield 15, 3) := by decide +kernel
theorem dJ0_isLatin1_aae02_10 : decode cJ0_isLatin1_aae02 10 = .ok (.ifCond .ne 7, 3) := by decide +kernel
theorem dJ0_isLatin1_aae02_13 : decode cJ0_isLatin1_aae02 13 = .ok (.iconst 1, 1) := by decide +kernel
theorem dJ0_isLatin1_aae02_14 : decode cJ0_isLatin1_aae02 14 = .ok (.goto 4, 3) := by decide +kernel
theorem dJ0_isLatin1_aae02_17 : decode cJ0_isLatin1_aae02 17 = .ok (.iconst 0, 1) := by decide +kernel
theorem dJ0_isLatin1_aae02_18 : decode cJ0_isLatin1_aae02 18 = .ok (.ireturn, 1) := by decide +kernel
set_option maxRecDepth 100000 in
set_option maxHeartbeats 4000000 in
theorem tz_J0_isLatin1_aae02 (l : Launch) (X : qX) {k : Nat} {M : qM} {r0 : Bool} (hk : k < 3) (hf : jJ0_isLatin1_aae02 k M = r0) : q_Met l X yJ0_isLatin1_aae02 cJ0_isLatin1_aae02 1 (some .boolean) (1) M [.ref (X.2.2.2.2.1 k)] (q_Qi X (b2i r0) M) := by
  refine q_enter (by decide) (Nat.le_of_ble_eq_true rfl) ?_
  intro p e s m args below meth c hE hrt hlk H locs hH ls hl
  have hx := hE.1
  have hb := hE.2.1
  have hl : lv_has ls 1 [(0, .ref (X.2.2.2.2.1 k))] := hl
  unfold jJ0_isLatin1_aae02 at hf
  refine pz_gcs hE hH (q_in _ 532 (by decide +kernel) rfl) dJ0_isLatin1_aae02_0 ?_
  obtain ⟨z1, hr, hf⟩ := st_ltx hf
  have hJ : ∀ (ls : Array Slot) (H : Heap) (locs : List Loc), q_H X M s H locs → lv_has ls 1 [] → W p l e (q_rm (1)) s m args below meth c H locs 0 0 (MQ below (q_Qi X (b2i r0) M) args s 0 0 (q_A X)) (F0 m 18 ls [.int (b2i z1)]) := by
    intro ls H locs hH hl
    subst hf
    exact pz_retz hE hrt hlk hH rfl dJ0_isLatin1_aae02_18
  clear hf
  replace hf := hr
  refine lv_if_eq (tgt := 17) hx hb dJ0_isLatin1_aae02_3 (by decide) (fun hc => ?_) (fun hc => ?_)
  · replace hf := (if_pos hc).symm.trans hf
    refine lv_iconst (v := 0) hx hb dJ0_isLatin1_aae02_17 (by decide) ?_
    subst hf
    exact hJ ls H locs hH (lv_sub hl [] rfl)
  · replace hf := (if_neg hc).symm.trans hf
    refine lv_aload_n hx hb dJ0_isLatin1_aae02_6 rfl (lv_at hl 0 rfl) ?_
    refine pz_sgC hE hH hk (q_in _ 2143 (by decide +kernel) rfl) dJ0_isLatin1_aae02_7 ?_
    refine lv_if_ne (tgt := 17) hx hb dJ0_isLatin1_aae02_10 (by decide) (fun hc => ?_) (fun hc => ?_)
    · replace hf := (if_neg hc).symm.trans hf
      refine lv_iconst (v := 0) hx hb dJ0_isLatin1_aae02_17 (by decide) ?_
      subst hf
      exact hJ ls H locs hH (lv_sub hl [] rfl)
    · replace hf := (if_pos hc).symm.trans hf
      refine lv_iconst (v := 1) hx hb dJ0_isLatin1_aae02_13 (by decide) ?_
      refine lv_goto (tgt := 18) hx hb dJ0_isLatin1_aae02_14 (by decide) ?_
      subst hf
      exact hJ ls H locs hH (lv_sub hl [] rfl)

theorem dJ0_coder_7d493_0 : decode cJ0_coder_7d493 0 = .ok (.getstatic 38, 3) := by decide +kernel
theorem dJ0_coder_7d493_3 : decode cJ0_coder_7d493 3 = .ok (.ifCond .eq 10, 3) := by decide +kernel
theorem dJ0_coder_7d493_6 : decode cJ0_coder_7d493 6 = .ok (.aload_n 0, 1) := by decide +kernel
theorem dJ0_coder_7d493_7 : decode cJ0_coder_7d493 7 = .ok (.getfield 15, 3) := by decide +kernel
theorem dJ0_coder_7d493_10 : decode cJ0_coder_7d493 10 = .ok (.goto 4, 3) := by decide +kernel
theorem dJ0_coder_7d493_13 : decode cJ0_coder_7d493 13 = .ok (.iconst 1, 1) := by decide +kernel
theorem dJ0_coder_7d493_14 : decode cJ0_coder_7d493 14 = .ok (.ireturn, 1) := by decide +kernel
set_option maxRecDepth 100000 in
set_option maxHeartbeats 4000000 in
theorem tz_J0_coder_7d493 (l : Launch) (X : qX) {k : Nat} {M : qM} {r0 : Int32} (hk : k < 3) (hf : jJ0_coder_7d493 k M = r0) : q_Met l X yJ0_coder_7d493 cJ0_coder_7d493 1 (some .byte) (1) M [.ref (X.2.2.2.2.1 k)] (q_Qi X r0 M) := by
  refine q_enter (by decide) (Nat.le_of_ble_eq_true rfl) ?_
  intro p e s m args below meth c hE hrt hlk H locs hH ls hl
  have hx := hE.1
  have hb := hE.2.1
  have hl : lv_has ls 1 [(0, .ref (X.2.2.2.2.1 k))] := hl
  unfold jJ0_coder_7d493 at hf
  refine pz_gcs hE hH (q_in _ 532 (by decide +kernel) rfl) dJ0_coder_7d493_0 ?_
  obtain ⟨z1, hr, hf⟩ := st_ltx hf
  have hJ : ∀ (ls : Array Slot) (H : Heap) (locs : List Loc), q_H X M s H locs → lv_has ls 1 [] → W p l e (q_rm (1)) s m args below meth c H locs 0 0 (MQ below (q_Qi X r0 M) args s 0 0 (q_A X)) (F0 m 14 ls [.int (b2i z1)]) := by
    intro ls H locs hH hl
    subst hf
    exact pz_retb (b := z1) hE hrt hlk hH dJ0_coder_7d493_14
  clear hf
  replace hf := hr
  refine lv_if_eq (tgt := 13) hx hb dJ0_coder_7d493_3 (by decide) (fun hc => ?_) (fun hc => ?_)
  · replace hf := (if_pos hc).symm.trans hf
    refine lv_iconst (v := 1) hx hb dJ0_coder_7d493_13 (by decide) ?_
    subst hf
    exact hJ ls H locs hH (lv_sub hl [] rfl)
  · replace hf := (if_neg hc).symm.trans hf
    refine lv_aload_n hx hb dJ0_coder_7d493_6 rfl (lv_at hl 0 rfl) ?_
    refine pz_sgC hE hH hk (q_in _ 2143 (by decide +kernel) rfl) dJ0_coder_7d493_7 ?_
    refine lv_goto (tgt := 14) hx hb dJ0_coder_7d493_10 (by decide) ?_
    subst hf
    exact hJ ls H locs hH (lv_sub hl [] rfl)

theorem dJ0_length_8abf5_0 : decode cJ0_length_8abf5 0 = .ok (.aload_n 0, 1) := by decide +kernel
theorem dJ0_length_8abf5_1 : decode cJ0_length_8abf5 1 = .ok (.getfield 9, 3) := by decide +kernel
theorem dJ0_length_8abf5_4 : decode cJ0_length_8abf5 4 = .ok (.arraylength, 1) := by decide +kernel
theorem dJ0_length_8abf5_5 : decode cJ0_length_8abf5 5 = .ok (.aload_n 0, 1) := by decide +kernel
theorem dJ0_length_8abf5_6 : decode cJ0_length_8abf5 6 = .ok (.invokevirtual 335, 3) := by decide +kernel
theorem dJ0_length_8abf5_9 : decode cJ0_length_8abf5 9 = .ok (.ishr, 1) := by decide +kernel
theorem dJ0_length_8abf5_10 : decode cJ0_length_8abf5 10 = .ok (.ireturn, 1) := by decide +kernel
set_option maxRecDepth 100000 in
set_option maxHeartbeats 4000000 in
theorem tz_J0_length_8abf5 (l : Launch) (X : qX) {k : Nat} {M : qM} {r0 : Int32} (hk : k < 3) (hf : jJ0_length_8abf5 k M = r0) : q_Met l X yJ0_length_8abf5 cJ0_length_8abf5 1 (some .int) (2) M [.ref (X.2.2.2.2.1 k)] (q_Qi X r0 M) := by
  refine q_enter (by decide) (Nat.le_of_ble_eq_true rfl) ?_
  intro p e s m args below meth c hE hrt hlk H locs hH ls hl
  have hx := hE.1
  have hb := hE.2.1
  have hl : lv_has ls 1 [(0, .ref (X.2.2.2.2.1 k))] := hl
  unfold jJ0_length_8abf5 at hf
  refine lv_aload_n hx hb dJ0_length_8abf5_0 rfl (lv_at hl 0 rfl) ?_
  refine pz_sgV hE hH hk (q_in _ 2144 (by decide +kernel) rfl) dJ0_length_8abf5_1 ?_
  refine pz_blen hE hH hk dJ0_length_8abf5_4 ?_
  refine lv_aload_n hx hb dJ0_length_8abf5_5 rfl (lv_at hl 0 rfl) ?_
  refine q_calli (q_runT (As := []) (rest := [.int (Int32.ofNat (q_tN k))]) hE hH (tz_J0_coder_7d493 l X hk (hf := rfl)) kt_J0_335 hk (by decide) rfl hl.1 rfl (Nat.le_of_ble_eq_true rfl) dJ0_length_8abf5_6) hH (fun H locs hH => ?_)
  refine lv_ishr hx hb dJ0_length_8abf5_9 ?_
  subst hf
  exact pz_reti hE hrt hlk hH dJ0_length_8abf5_10

theorem dJ0_indexOf_7cf53_0 : decode cJ0_indexOf_7cf53 0 = .ok (.aload_n 0, 1) := by decide +kernel
theorem dJ0_indexOf_7cf53_1 : decode cJ0_indexOf_7cf53 1 = .ok (.invokevirtual 492, 3) := by decide +kernel
theorem dJ0_indexOf_7cf53_4 : decode cJ0_indexOf_7cf53 4 = .ok (.ifCond .eq 19, 3) := by decide +kernel
theorem dJ0_indexOf_7cf53_7 : decode cJ0_indexOf_7cf53 7 = .ok (.aload_n 0, 1) := by decide +kernel
theorem dJ0_indexOf_7cf53_8 : decode cJ0_indexOf_7cf53 8 = .ok (.getfield 9, 3) := by decide +kernel
theorem dJ0_indexOf_7cf53_11 : decode cJ0_indexOf_7cf53 11 = .ok (.iload_n 1, 1) := by decide +kernel
theorem dJ0_indexOf_7cf53_12 : decode cJ0_indexOf_7cf53 12 = .ok (.iload_n 2, 1) := by decide +kernel
theorem dJ0_indexOf_7cf53_13 : decode cJ0_indexOf_7cf53 13 = .ok (.aload_n 0, 1) := by decide +kernel
theorem dJ0_indexOf_7cf53_14 : decode cJ0_indexOf_7cf53 14 = .ok (.invokevirtual 505, 3) := by decide +kernel
theorem dJ0_indexOf_7cf53_17 : decode cJ0_indexOf_7cf53 17 = .ok (.invokestatic 637, 3) := by decide +kernel
theorem dJ0_indexOf_7cf53_20 : decode cJ0_indexOf_7cf53 20 = .ok (.goto 16, 3) := by decide +kernel
theorem dJ0_indexOf_7cf53_36 : decode cJ0_indexOf_7cf53 36 = .ok (.ireturn, 1) := by decide +kernel
set_option maxRecDepth 100000 in
set_option maxHeartbeats 4000000 in
theorem tz_J0_indexOf_7cf53 (l : Launch) (X : qX) {k : Nat} {p0 : Int32} {p1 : Int32} {M : qM} {r0 : Int32} (hk : k < 3) (hf : jJ0_indexOf_7cf53 k p0 p1 M = some r0) : q_Met l X yJ0_indexOf_7cf53 cJ0_indexOf_7cf53 3 (some .int) (3) M [.ref (X.2.2.2.2.1 k), .int p0, .int p1] (q_Qi X r0 M) := by
  refine q_enter (by decide) (Nat.le_of_ble_eq_true rfl) ?_
  intro p e s m args below meth c hE hrt hlk H locs hH ls hl
  have hx := hE.1
  have hb := hE.2.1
  have hl : lv_has ls 3 [(0, .ref (X.2.2.2.2.1 k)), (1, .int p0), (2, .int p1)] := hl
  unfold jJ0_indexOf_7cf53 at hf
  refine lv_aload_n hx hb dJ0_indexOf_7cf53_0 rfl (lv_at hl 0 rfl) ?_
  refine q_calli (q_runT (As := []) (rest := []) hE hH (tz_J0_isLatin1_aae02 l X hk (hf := rfl)) kt_J0_492 hk (by decide) rfl hl.1 rfl (Nat.le_of_ble_eq_true rfl) dJ0_indexOf_7cf53_1) hH (fun H locs hH => ?_)
  obtain ⟨x1, hr, hf⟩ := st_bd hf
  have hJ : ∀ (ls : Array Slot) (H : Heap) (locs : List Loc), q_H X M s H locs → lv_has ls 3 [] → W p l e (q_rm (3)) s m args below meth c H locs 0 0 (MQ below (q_Qi X r0 M) args s 0 0 (q_A X)) (F0 m 36 ls [.int x1]) := by
    intro ls H locs hH hl
    replace hf := Option.some.inj hf
    subst hf
    exact pz_reti hE hrt hlk hH dJ0_indexOf_7cf53_36
  clear hf
  replace hf := hr
  refine lv_if_eq (tgt := 23) hx hb dJ0_indexOf_7cf53_4 (by decide) (fun hc => ?_) (fun hc => ?_)
  · replace hf := (if_pos hc).symm.trans hf
    exact st_nn hf
  · replace hf := (if_neg hc).symm.trans hf
    refine lv_aload_n hx hb dJ0_indexOf_7cf53_7 rfl (lv_at hl 0 rfl) ?_
    refine pz_sgV hE hH hk (q_in _ 2144 (by decide +kernel) rfl) dJ0_indexOf_7cf53_8 ?_
    refine lv_iload_n hx hb dJ0_indexOf_7cf53_11 rfl (lv_at hl 1 rfl) ?_
    refine lv_iload_n hx hb dJ0_indexOf_7cf53_12 rfl (lv_at hl 2 rfl) ?_
    refine lv_aload_n hx hb dJ0_indexOf_7cf53_13 rfl (lv_at hl 0 rfl) ?_
    refine q_calli (q_runT (As := []) (rest := [.int p1, .int p0, .ref (X.2.2.2.2.2 k)]) hE hH (tz_J0_length_8abf5 l X hk (hf := rfl)) kt_J0_505 hk (by decide) rfl hl.1 rfl (Nat.le_of_ble_eq_true rfl) dJ0_indexOf_7cf53_14) hH (fun H locs hH => ?_)
    obtain ⟨r2, er2, hf⟩ := st_bd hf
    refine q_calli (q_runS (As := [.ref (X.2.2.2.2.2 k), .int p0, .int p1, .int (jJ0_length_8abf5 k M)]) (rest := []) hE hH (tz_J1_indexOf_4cfef l X hk (M := M) (hf := er2)) ks_J0_637 (by decide) rfl hl.1 rfl (Nat.le_of_ble_eq_true rfl) dJ0_indexOf_7cf53_17) hH (fun H locs hH => ?_)
    refine lv_goto (tgt := 36) hx hb dJ0_indexOf_7cf53_20 (by decide) ?_
    replace hf := Option.some.inj hf
    subst hf
    exact hJ ls H locs hH (lv_sub hl [] rfl)

theorem dJ0_indexOf_0f7a4_0 : decode cJ0_indexOf_0f7a4 0 = .ok (.aload_n 0, 1) := by decide +kernel
theorem dJ0_indexOf_0f7a4_1 : decode cJ0_indexOf_0f7a4 1 = .ok (.iload_n 1, 1) := by decide +kernel
theorem dJ0_indexOf_0f7a4_2 : decode cJ0_indexOf_0f7a4 2 = .ok (.iconst 0, 1) := by decide +kernel
theorem dJ0_indexOf_0f7a4_3 : decode cJ0_indexOf_0f7a4 3 = .ok (.invokevirtual 633, 3) := by decide +kernel
theorem dJ0_indexOf_0f7a4_6 : decode cJ0_indexOf_0f7a4 6 = .ok (.ireturn, 1) := by decide +kernel
set_option maxRecDepth 100000 in
set_option maxHeartbeats 4000000 in
theorem tz_J0_indexOf_0f7a4 (l : Launch) (X : qX) {k : Nat} {p0 : Int32} {M : qM} {r0 : Int32} (hk : k < 3) (hf : jJ0_indexOf_0f7a4 k p0 M = some r0) : q_Met l X yJ0_indexOf_0f7a4 cJ0_indexOf_0f7a4 2 (some .int) (4) M [.ref (X.2.2.2.2.1 k), .int p0] (q_Qi X r0 M) := by
  refine q_enter (by decide) (Nat.le_of_ble_eq_true rfl) ?_
  intro p e s m args below meth c hE hrt hlk H locs hH ls hl
  have hx := hE.1
  have hb := hE.2.1
  have hl : lv_has ls 2 [(0, .ref (X.2.2.2.2.1 k)), (1, .int p0)] := hl
  unfold jJ0_indexOf_0f7a4 at hf
  refine lv_aload_n hx hb dJ0_indexOf_0f7a4_0 rfl (lv_at hl 0 rfl) ?_
  refine lv_iload_n hx hb dJ0_indexOf_0f7a4_1 rfl (lv_at hl 1 rfl) ?_
  refine lv_iconst (v := 0) hx hb dJ0_indexOf_0f7a4_2 (by decide) ?_
  obtain ⟨r1, er1, hf⟩ := st_bd hf
  refine q_calli (q_runT (As := [.int p0, .int 0]) (rest := []) hE hH (tz_J0_indexOf_7cf53 l X hk (hf := er1)) kt_J0_633 hk (by decide) rfl hl.1 rfl (Nat.le_of_ble_eq_true rfl) dJ0_indexOf_0f7a4_3) hH (fun H locs hH => ?_)
  replace hf := Option.some.inj hf
  subst hf
  exact pz_reti hE hrt hlk hH dJ0_indexOf_0f7a4_6

