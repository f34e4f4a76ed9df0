theorem dX0_spare_0 : decode cX0_spare 0 = .ok (.aload_n 0, 1) := by decide +kernel
theorem dX0_spare_1 : decode cX0_spare 1 = .ok (.getfield 11, 3) := by decide +kernel
theorem dX0_spare_4 : decode cX0_spare 4 = .ok (.aload_n 0, 1) := by decide +kernel
theorem dX0_spare_5 : decode cX0_spare 5 = .ok (.getfield 17, 3) := by decide +kernel
theorem dX0_spare_8 : decode cX0_spare 8 = .ok (.bipush 6, 2) := by decide +kernel
theorem dX0_spare_10 : decode cX0_spare 10 = .ok (.invokestatic 35, 3) := by decide +kernel
theorem dX0_spare_13 : decode cX0_spare 13 = .ok (.aaload, 1) := by decide +kernel
theorem dX0_spare_14 : decode cX0_spare 14 = .ok (.areturn, 1) := by decide +kernel
set_option maxRecDepth 100000 in
set_option maxHeartbeats 4000000 in
theorem tz_X0_spare (l : Launch) (X : qX) {M : qM} {r0 : Option Nat} (hf : jCu_spare M = some r0) : q_Met l X yX0_spare cX0_spare 1 (some (.object "ThirdComer$Way")) (1) M [.ref (X.1 6)] (q_Qq X r0 M) := by
  refine q_enter (by decide) (Nat.le_of_ble_eq_true rfl) ?_
  intro p e s m args below meth c hE hrt hlk H locs hH ls hl
  have hx := hE.1
  have hb := hE.2.1
  have hl : lv_has ls 1 [(0, .ref (X.1 6))] := hl
  unfold jCu_spare at hf
  refine lv_aload_n hx hb dX0_spare_0 rfl (lv_at hl 0 rfl) ?_
  refine pz_gS (a := 7) hE hH fr_X0_11 qk_6 (by decide) dX0_spare_1 ?_
  refine lv_aload_n hx hb dX0_spare_4 rfl (lv_at hl 0 rfl) ?_
  refine pz_gI hE hH fr_X0_17 qk_6 dX0_spare_5 ?_
  refine lv_bipush (v := 6) hx hb dX0_spare_8 (by decide) ?_
  refine pz_minI (rest := [.ref (X.1 7)]) hE (q_in _ 651 (by decide +kernel) rfl) (q_in _ 552 (by decide +kernel) rfl) (q_in _ 17 (by decide +kernel) rfl) (q_in _ 553 (by decide +kernel) rfl) hl.1 (by decide) (Nat.le_of_ble_eq_true rfl) (Nat.zero_le _) (Nat.zero_le _) dX0_spare_10 ?_
  obtain ⟨t1, et1, hf⟩ := st_bd hf
  refine pz_aldY hE hH qk_7 et1 dX0_spare_13 (fun ht1 => ?_)
  replace hf := Option.some.inj hf
  subst hf
  exact pz_reta hE hrt (Or.inl ⟨_, rfl⟩) hlk hH rfl dX0_spare_14

theorem dX0_usedBy_0 : decode cX0_usedBy 0 = .ok (.iload_n 1, 1) := by decide +kernel
theorem dX0_usedBy_1 : decode cX0_usedBy 1 = .ok (.bipush 6, 2) := by decide +kernel
theorem dX0_usedBy_3 : decode cX0_usedBy 3 = .ok (.invokestatic 41, 3) := by decide +kernel
theorem dX0_usedBy_6 : decode cX0_usedBy 6 = .ok (.ifCond .eq 12, 3) := by decide +kernel
theorem dX0_usedBy_9 : decode cX0_usedBy 9 = .ok (.aload_n 0, 1) := by decide +kernel
theorem dX0_usedBy_10 : decode cX0_usedBy 10 = .ok (.getfield 21, 3) := by decide +kernel
theorem dX0_usedBy_13 : decode cX0_usedBy 13 = .ok (.iload_n 1, 1) := by decide +kernel
theorem dX0_usedBy_14 : decode cX0_usedBy 14 = .ok (.iaload, 1) := by decide +kernel
theorem dX0_usedBy_15 : decode cX0_usedBy 15 = .ok (.goto 4, 3) := by decide +kernel
theorem dX0_usedBy_18 : decode cX0_usedBy 18 = .ok (.iconst (-1), 1) := by decide +kernel
theorem dX0_usedBy_19 : decode cX0_usedBy 19 = .ok (.istore_n 2, 1) := by decide +kernel
theorem dX0_usedBy_20 : decode cX0_usedBy 20 = .ok (.iload_n 2, 1) := by decide +kernel
theorem dX0_usedBy_21 : decode cX0_usedBy 21 = .ok (.aload_n 0, 1) := by decide +kernel
theorem dX0_usedBy_22 : decode cX0_usedBy 22 = .ok (.getfield 17, 3) := by decide +kernel
theorem dX0_usedBy_25 : decode cX0_usedBy 25 = .ok (.invokestatic 41, 3) := by decide +kernel
theorem dX0_usedBy_28 : decode cX0_usedBy 28 = .ok (.ifCond .eq 12, 3) := by decide +kernel
theorem dX0_usedBy_31 : decode cX0_usedBy 31 = .ok (.aload_n 0, 1) := by decide +kernel
theorem dX0_usedBy_32 : decode cX0_usedBy 32 = .ok (.getfield 11, 3) := by decide +kernel
theorem dX0_usedBy_35 : decode cX0_usedBy 35 = .ok (.iload_n 2, 1) := by decide +kernel
theorem dX0_usedBy_36 : decode cX0_usedBy 36 = .ok (.aaload, 1) := by decide +kernel
theorem dX0_usedBy_37 : decode cX0_usedBy 37 = .ok (.goto 4, 3) := by decide +kernel
theorem dX0_usedBy_40 : decode cX0_usedBy 40 = .ok (.aconst_null, 1) := by decide +kernel
theorem dX0_usedBy_41 : decode cX0_usedBy 41 = .ok (.areturn, 1) := by decide +kernel
set_option maxRecDepth 100000 in
set_option maxHeartbeats 4000000 in
theorem tz_X0_usedBy (l : Launch) (X : qX) {p0 : Int32} {M : qM} {r0 : Option Nat} (hf : jCu_usedBy p0 M = some r0) : q_Met l X yX0_usedBy cX0_usedBy 3 (some (.object "ThirdComer$Way")) (2) M [.ref (X.1 6), .int p0] (q_Qq X r0 M) := by
  refine q_enter (by decide) (Nat.le_of_ble_eq_true rfl) ?_
  intro p e s m args below meth c hE hrt hlk H locs hH ls hl
  have hx := hE.1
  have hb := hE.2.1
  have hl : lv_has ls 3 [(0, .ref (X.1 6)), (1, .int p0)] := hl
  unfold jCu_usedBy at hf
  refine lv_iload_n hx hb dX0_usedBy_0 rfl (lv_at hl 1 rfl) ?_
  refine lv_bipush (v := 6) hx hb dX0_usedBy_1 (by decide) ?_
  refine q_calli (q_runSN (As := [.int p0, .int 6]) (rest := []) hE hH (tz_X11_isOf l X (M := M) (hf := rfl)) kn_X0_41 (by decide) rfl hl.1 rfl (Nat.le_of_ble_eq_true rfl) dX0_usedBy_3) hH (fun H locs hH => ?_)
  obtain ⟨x1, hr, hf⟩ := st_bd hf
  have hJ : ∀ (ls : Array Slot) (H : Heap) (locs : List Loc), q_H X M s H locs → lv_has ls 3 [(0, .ref (X.1 6))] → W p l e (q_rm (2)) s m args below meth c H locs 0 0 (MQ below (q_Qq X r0 M) args s 0 0 (q_A X)) (F0 m 19 ls [.int x1]) := by
    intro ls H locs hH hl
    refine lv_istore_n (lv' := [(2, .int x1), (0, .ref (X.1 6))]) hx hb dX0_usedBy_19 rfl hl (by decide) rfl (fun ls hl => ?_)
    refine lv_iload_n hx hb dX0_usedBy_20 rfl (lv_at hl 0 rfl) ?_
    refine lv_aload_n hx hb dX0_usedBy_21 rfl (lv_at hl 1 rfl) ?_
    refine pz_gI hE hH fr_X0_17 qk_6 dX0_usedBy_22 ?_
    refine q_calli (q_runSN (As := [.int x1, .int (M.1 6 1)]) (rest := []) hE hH (tz_X11_isOf l X (M := M) (hf := rfl)) kn_X0_41 (by decide) rfl hl.1 rfl (Nat.le_of_ble_eq_true rfl) dX0_usedBy_25) hH (fun H locs hH => ?_)
    obtain ⟨o2, hr, hf⟩ := st_bd hf
    have hJ : ∀ (ls : Array Slot) (H : Heap) (locs : List Loc), q_H X M s H locs → lv_has ls 3 [] → W p l e (q_rm (2)) s m args below meth c H locs 0 0 (MQ below (q_Qq X r0 M) args s 0 0 (q_A X)) (F0 m 41 ls [va_rf (Option.map X.1 o2)]) := by
      intro ls H locs hH hl
      replace hf := Option.some.inj hf
      subst hf
      exact pz_reta hE hrt (Or.inl ⟨_, rfl⟩) hlk hH rfl dX0_usedBy_41
    clear hf
    replace hf := hr
    refine lv_if_eq (tgt := 40) hx hb dX0_usedBy_28 (by decide) (fun hc => ?_) (fun hc => ?_)
    · replace hf := (if_pos hc).symm.trans hf
      refine lv_null hx hb dX0_usedBy_40 ?_
      replace hf := Option.some.inj hf
      subst hf
      exact hJ ls H locs hH (lv_sub hl [] rfl)
    · replace hf := (if_neg hc).symm.trans hf
      refine lv_aload_n hx hb dX0_usedBy_31 rfl (lv_at hl 1 rfl) ?_
      refine pz_gS (a := 7) hE hH fr_X0_11 qk_6 (by decide) dX0_usedBy_32 ?_
      refine lv_iload_n hx hb dX0_usedBy_35 rfl (lv_at hl 0 rfl) ?_
      obtain ⟨t3, et3, hf⟩ := st_bd hf
      refine pz_aldY hE hH qk_7 et3 dX0_usedBy_36 (fun ht3 => ?_)
      refine lv_goto (tgt := 41) hx hb dX0_usedBy_37 (by decide) ?_
      replace hf := Option.some.inj hf
      subst hf
      exact hJ ls H locs hH (lv_sub hl [] rfl)
  clear hf
  replace hf := hr
  refine lv_if_eq (tgt := 18) hx hb dX0_usedBy_6 (by decide) (fun hc => ?_) (fun hc => ?_)
  · replace hf := (if_pos hc).symm.trans hf
    refine lv_iconst (v := (-1)) hx hb dX0_usedBy_18 (by decide) ?_
    replace hf := Option.some.inj hf
    subst hf
    exact hJ ls H locs hH (lv_sub hl [0] rfl)
  · replace hf := (if_neg hc).symm.trans hf
    refine lv_aload_n hx hb dX0_usedBy_9 rfl (lv_at hl 0 rfl) ?_
    refine pz_gS (a := 8) hE hH fr_X0_21 qk_6 (by decide) dX0_usedBy_10 ?_
    refine lv_iload_n hx hb dX0_usedBy_13 rfl (lv_at hl 1 rfl) ?_
    obtain ⟨v4, ev4, hf⟩ := st_bd hf
    refine pz_iald hE hH qk_8 ev4 dX0_usedBy_14 ?_
    refine lv_goto (tgt := 19) hx hb dX0_usedBy_15 (by decide) ?_
    replace hf := Option.some.inj hf
    subst hf
    exact hJ ls H locs hH (lv_sub hl [0] rfl)

theorem dX0_keep_0 : decode cX0_keep 0 = .ok (.aload_n 0, 1) := by decide +kernel
theorem dX0_keep_1 : decode cX0_keep 1 = .ok (.getfield 21, 3) := by decide +kernel
theorem dX0_keep_4 : decode cX0_keep 4 = .ok (.iconst 0, 1) := by decide +kernel
theorem dX0_keep_5 : decode cX0_keep 5 = .ok (.aload_n 0, 1) := by decide +kernel
theorem dX0_keep_6 : decode cX0_keep 6 = .ok (.getfield 25, 3) := by decide +kernel
theorem dX0_keep_9 : decode cX0_keep 9 = .ok (.iconst 0, 1) := by decide +kernel
theorem dX0_keep_10 : decode cX0_keep 10 = .ok (.bipush 6, 2) := by decide +kernel
theorem dX0_keep_12 : decode cX0_keep 12 = .ok (.invokestatic 45, 3) := by decide +kernel
theorem dX0_keep_15 : decode cX0_keep 15 = .ok (.return_, 1) := by decide +kernel
set_option maxRecDepth 100000 in
set_option maxHeartbeats 4000000 in
theorem tz_X0_keep (l : Launch) (X : qX) {M MR : qM} (hf : jCu_keep M = some MR) : q_Met l X yX0_keep cX0_keep 1 none (1) M [.ref (X.1 6)] (q_Qv X MR) := by
  refine q_enter (by decide) (Nat.le_of_ble_eq_true rfl) ?_
  intro p e s m args below meth c hE hrt hlk H locs hH ls hl
  have hx := hE.1
  have hb := hE.2.1
  have hl : lv_has ls 1 [(0, .ref (X.1 6))] := hl
  unfold jCu_keep at hf
  refine lv_aload_n hx hb dX0_keep_0 rfl (lv_at hl 0 rfl) ?_
  refine pz_gS (a := 8) hE hH fr_X0_21 qk_6 (by decide) dX0_keep_1 ?_
  refine lv_iconst (v := 0) hx hb dX0_keep_4 (by decide) ?_
  refine lv_aload_n hx hb dX0_keep_5 rfl (lv_at hl 0 rfl) ?_
  refine pz_gS (a := 9) hE hH fr_X0_25 qk_6 (by decide) dX0_keep_6 ?_
  refine lv_iconst (v := 0) hx hb dX0_keep_9 (by decide) ?_
  refine lv_bipush (v := 6) hx hb dX0_keep_10 (by decide) ?_
  obtain ⟨M1, eM1, hf⟩ := st_bd hf
  refine pz_cpy (rest := []) hE hH (q_in _ 1039 (by decide +kernel) rfl) (q_in _ 505 (by decide +kernel) rfl) (q_in _ 504 (by decide +kernel) rfl) (q_in _ 14 (by decide +kernel) rfl) qk_8 qk_9 eM1 hl.1 (by decide) (Nat.le_of_ble_eq_true rfl) dX0_keep_12 (fun H locs hH => ?_)
  replace hf := Option.some.inj hf
  subst hf
  exact pz_retv hE hrt hlk hH dX0_keep_15

theorem dX0_restore_0 : decode cX0_restore 0 = .ok (.aload_n 0, 1) := by decide +kernel
theorem dX0_restore_1 : decode cX0_restore 1 = .ok (.getfield 25, 3) := by decide +kernel
theorem dX0_restore_4 : decode cX0_restore 4 = .ok (.iconst 0, 1) := by decide +kernel
theorem dX0_restore_5 : decode cX0_restore 5 = .ok (.aload_n 0, 1) := by decide +kernel
theorem dX0_restore_6 : decode cX0_restore 6 = .ok (.getfield 21, 3) := by decide +kernel
theorem dX0_restore_9 : decode cX0_restore 9 = .ok (.iconst 0, 1) := by decide +kernel
theorem dX0_restore_10 : decode cX0_restore 10 = .ok (.bipush 6, 2) := by decide +kernel
theorem dX0_restore_12 : decode cX0_restore 12 = .ok (.invokestatic 45, 3) := by decide +kernel
theorem dX0_restore_15 : decode cX0_restore 15 = .ok (.return_, 1) := by decide +kernel
set_option maxRecDepth 100000 in
set_option maxHeartbeats 4000000 in
theorem tz_X0_restore (l : Launch) (X : qX) {M MR : qM} (hf : jCu_restore M = some MR) : q_Met l X yX0_restore cX0_restore 1 none (1) M [.ref (X.1 6)] (q_Qv X MR) := by
  refine q_enter (by decide) (Nat.le_of_ble_eq_true rfl) ?_
  intro p e s m args below meth c hE hrt hlk H locs hH ls hl
  have hx := hE.1
  have hb := hE.2.1
  have hl : lv_has ls 1 [(0, .ref (X.1 6))] := hl
  unfold jCu_restore at hf
  refine lv_aload_n hx hb dX0_restore_0 rfl (lv_at hl 0 rfl) ?_
  refine pz_gS (a := 9) hE hH fr_X0_25 qk_6 (by decide) dX0_restore_1 ?_
  refine lv_iconst (v := 0) hx hb dX0_restore_4 (by decide) ?_
  refine lv_aload_n hx hb dX0_restore_5 rfl (lv_at hl 0 rfl) ?_
  refine pz_gS (a := 8) hE hH fr_X0_21 qk_6 (by decide) dX0_restore_6 ?_
  refine lv_iconst (v := 0) hx hb dX0_restore_9 (by decide) ?_
  refine lv_bipush (v := 6) hx hb dX0_restore_10 (by decide) ?_
  obtain ⟨M1, eM1, hf⟩ := st_bd hf
  refine pz_cpy (rest := []) hE hH (q_in _ 1039 (by decide +kernel) rfl) (q_in _ 505 (by decide +kernel) rfl) (q_in _ 504 (by decide +kernel) rfl) (q_in _ 14 (by decide +kernel) rfl) qk_9 qk_8 eM1 hl.1 (by decide) (Nat.le_of_ble_eq_true rfl) dX0_restore_12 (fun H locs hH => ?_)
  replace hf := Option.some.inj hf
  subst hf
  exact pz_retv hE hrt hlk hH dX0_restore_15

