theorem dX6_rankOf_0 : decode cX6_rankOf 0 = .ok (.iconst 1, 1) := by decide +kernel
theorem dX6_rankOf_1 : decode cX6_rankOf 1 = .ok (.istore_n 3, 1) := by decide +kernel
theorem dX6_rankOf_2 : decode cX6_rankOf 2 = .ok (.iconst 0, 1) := by decide +kernel
theorem dX6_rankOf_3 : decode cX6_rankOf 3 = .ok (.istore 4, 2) := by decide +kernel
theorem dX6_rankOf_5 : decode cX6_rankOf 5 = .ok (.iload 4, 2) := by decide +kernel
theorem dX6_rankOf_7 : decode cX6_rankOf 7 = .ok (.iload_n 2, 1) := by decide +kernel
theorem dX6_rankOf_8 : decode cX6_rankOf 8 = .ok (.if_icmp .ge 90, 3) := by decide +kernel
theorem dX6_rankOf_11 : decode cX6_rankOf 11 = .ok (.aload_n 0, 1) := by decide +kernel
theorem dX6_rankOf_12 : decode cX6_rankOf 12 = .ok (.getfield 21, 3) := by decide +kernel
theorem dX6_rankOf_15 : decode cX6_rankOf 15 = .ok (.iload 4, 2) := by decide +kernel
theorem dX6_rankOf_17 : decode cX6_rankOf 17 = .ok (.iaload, 1) := by decide +kernel
theorem dX6_rankOf_18 : decode cX6_rankOf 18 = .ok (.iconst (-1), 1) := by decide +kernel
theorem dX6_rankOf_19 : decode cX6_rankOf 19 = .ok (.if_icmp .eq 7, 3) := by decide +kernel
theorem dX6_rankOf_22 : decode cX6_rankOf 22 = .ok (.iconst 1, 1) := by decide +kernel
theorem dX6_rankOf_23 : decode cX6_rankOf 23 = .ok (.goto 4, 3) := by decide +kernel
theorem dX6_rankOf_26 : decode cX6_rankOf 26 = .ok (.iconst 0, 1) := by decide +kernel
theorem dX6_rankOf_27 : decode cX6_rankOf 27 = .ok (.istore 5, 2) := by decide +kernel
theorem dX6_rankOf_29 : decode cX6_rankOf 29 = .ok (.aload_n 0, 1) := by decide +kernel
theorem dX6_rankOf_30 : decode cX6_rankOf 30 = .ok (.getfield 21, 3) := by decide +kernel
theorem dX6_rankOf_33 : decode cX6_rankOf 33 = .ok (.iload 4, 2) := by decide +kernel
theorem dX6_rankOf_35 : decode cX6_rankOf 35 = .ok (.iaload, 1) := by decide +kernel
theorem dX6_rankOf_36 : decode cX6_rankOf 36 = .ok (.aload_n 0, 1) := by decide +kernel
theorem dX6_rankOf_37 : decode cX6_rankOf 37 = .ok (.getfield 21, 3) := by decide +kernel
theorem dX6_rankOf_40 : decode cX6_rankOf 40 = .ok (.iload_n 1, 1) := by decide +kernel
theorem dX6_rankOf_41 : decode cX6_rankOf 41 = .ok (.iaload, 1) := by decide +kernel
theorem dX6_rankOf_42 : decode cX6_rankOf 42 = .ok (.if_icmp .lt 25, 3) := by decide +kernel
theorem dX6_rankOf_45 : decode cX6_rankOf 45 = .ok (.aload_n 0, 1) := by decide +kernel
theorem dX6_rankOf_46 : decode cX6_rankOf 46 = .ok (.getfield 21, 3) := by decide +kernel
theorem dX6_rankOf_49 : decode cX6_rankOf 49 = .ok (.iload 4, 2) := by decide +kernel
theorem dX6_rankOf_51 : decode cX6_rankOf 51 = .ok (.iaload, 1) := by decide +kernel
theorem dX6_rankOf_52 : decode cX6_rankOf 52 = .ok (.aload_n 0, 1) := by decide +kernel
theorem dX6_rankOf_53 : decode cX6_rankOf 53 = .ok (.getfield 21, 3) := by decide +kernel
theorem dX6_rankOf_56 : decode cX6_rankOf 56 = .ok (.iload_n 1, 1) := by decide +kernel
theorem dX6_rankOf_57 : decode cX6_rankOf 57 = .ok (.iaload, 1) := by decide +kernel
theorem dX6_rankOf_58 : decode cX6_rankOf 58 = .ok (.if_icmp .ne 13, 3) := by decide +kernel
theorem dX6_rankOf_61 : decode cX6_rankOf 61 = .ok (.iload 4, 2) := by decide +kernel
theorem dX6_rankOf_63 : decode cX6_rankOf 63 = .ok (.iload_n 1, 1) := by decide +kernel
theorem dX6_rankOf_64 : decode cX6_rankOf 64 = .ok (.if_icmp .ge 7, 3) := by decide +kernel
theorem dX6_rankOf_67 : decode cX6_rankOf 67 = .ok (.iconst 1, 1) := by decide +kernel
theorem dX6_rankOf_68 : decode cX6_rankOf 68 = .ok (.goto 4, 3) := by decide +kernel
theorem dX6_rankOf_71 : decode cX6_rankOf 71 = .ok (.iconst 0, 1) := by decide +kernel
theorem dX6_rankOf_72 : decode cX6_rankOf 72 = .ok (.istore 6, 2) := by decide +kernel
theorem dX6_rankOf_74 : decode cX6_rankOf 74 = .ok (.iload_n 3, 1) := by decide +kernel
theorem dX6_rankOf_75 : decode cX6_rankOf 75 = .ok (.iload 5, 2) := by decide +kernel
theorem dX6_rankOf_77 : decode cX6_rankOf 77 = .ok (.ifCond .eq 12, 3) := by decide +kernel
theorem dX6_rankOf_80 : decode cX6_rankOf 80 = .ok (.iload 6, 2) := by decide +kernel
theorem dX6_rankOf_82 : decode cX6_rankOf 82 = .ok (.ifCond .eq 7, 3) := by decide +kernel
theorem dX6_rankOf_85 : decode cX6_rankOf 85 = .ok (.iconst 1, 1) := by decide +kernel
theorem dX6_rankOf_86 : decode cX6_rankOf 86 = .ok (.goto 4, 3) := by decide +kernel
theorem dX6_rankOf_89 : decode cX6_rankOf 89 = .ok (.iconst 0, 1) := by decide +kernel
theorem dX6_rankOf_90 : decode cX6_rankOf 90 = .ok (.iadd, 1) := by decide +kernel
theorem dX6_rankOf_91 : decode cX6_rankOf 91 = .ok (.istore_n 3, 1) := by decide +kernel
theorem dX6_rankOf_92 : decode cX6_rankOf 92 = .ok (.iinc 4 1, 3) := by decide +kernel
theorem dX6_rankOf_95 : decode cX6_rankOf 95 = .ok (.goto (-90), 3) := by decide +kernel
theorem dX6_rankOf_98 : decode cX6_rankOf 98 = .ok (.iload_n 3, 1) := by decide +kernel
theorem dX6_rankOf_99 : decode cX6_rankOf 99 = .ok (.ireturn, 1) := by decide +kernel
set_option maxRecDepth 100000 in
set_option maxHeartbeats 4000000 in
theorem tz_X6_rankOf (l : Launch) (X : qX) {p0 : Int32} {p1 : Int32} {M : qM} {r0 : Int32} (hf : jTr_rankOf p0 p1 M = some r0) : q_Met l X yX6_rankOf cX6_rankOf 7 (some .int) (1) M [.ref (X.1 65), .int p0, .int p1] (q_Qi X r0 M) := by
  refine q_enter (by decide) (Nat.le_of_ble_eq_true rfl) ?_
  intro p e s m args below meth c hE hrt hlk H locs hH ls hl
  have hx := hE.1
  have hb := hE.2.1
  have hl : lv_has ls 7 [(0, .ref (X.1 65)), (1, .int p0), (2, .int p1)] := hl
  unfold jTr_rankOf at hf
  refine lv_iconst (v := 1) hx hb dX6_rankOf_0 (by decide) ?_
  refine lv_istore_n (lv' := [(3, .int 1), (0, .ref (X.1 65)), (1, .int p0), (2, .int p1)]) hx hb dX6_rankOf_1 rfl hl (by decide) rfl (fun ls hl => ?_)
  refine lv_iconst (v := 0) hx hb dX6_rankOf_2 (by decide) ?_
  refine lv_istore (lv' := [(4, .int 0), (3, .int 1), (0, .ref (X.1 65)), (1, .int p0), (2, .int p1)]) hx hb dX6_rankOf_3 hl (by decide) rfl (fun ls hl => ?_)
  obtain ⟨x3, hlp, hf⟩ := st_bd hf
  have hX : (fun x3 => ∀ (ls : Array Slot) (H : Heap) (locs : List Loc), q_H X M s H locs → lv_has ls 7 [(3, .int x3)] → W p l e (q_rm (1)) s m args below meth c H locs 0 0 (MQ below (q_Qi X r0 M) args s 0 0 (q_A X)) (F0 m 98 ls []) : Int32 → Prop) x3 := by
    intro ls H locs hH hl
    refine lv_iload_n hx hb dX6_rankOf_98 rfl (lv_at hl 0 rfl) ?_
    replace hf := Option.some.inj hf
    subst hf
    exact pz_reti hE hrt hlk hH dX6_rankOf_99
  clear hf
  have hG := qlp_ind (r := x3) (fun q => qu2 q (fun x1 x2 => ∀ (ls : Array Slot) (H : Heap) (locs : List Loc), q_H X M s H locs → lv_has ls 7 [(0, .ref (X.1 65)), (1, .int p0), (2, .int p1), (3, .int x1), (4, .int x2)] → W p l e (q_rm (1)) s m args below meth c H locs 0 0 (MQ below (q_Qi X r0 M) args s 0 0 (q_A X)) (F0 m 5 ls []))) (by
      intro q o hf hK1 hK2
      obtain ⟨x1, x2⟩ := q
      replace hf := st_u2 hf
      intro ls H locs hH hl
      refine lv_iload hx hb dX6_rankOf_5 (lv_at hl 4 rfl) ?_
      refine lv_iload_n hx hb dX6_rankOf_7 rfl (lv_at hl 2 rfl) ?_
      refine lv_icmp_ge (tgt := 98) hx hb dX6_rankOf_8 (by decide) (fun hc => ?_) (fun hc => ?_)
      · replace hf := (if_pos hc).symm.trans hf
        replace hf := hK2 _ (Option.some.inj hf).symm
        subst hf
        exact hX ls H locs hH (lv_sub hl [3] rfl)
      · replace hf := (if_neg hc).symm.trans hf
        refine lv_aload_n hx hb dX6_rankOf_11 rfl (lv_at hl 0 rfl) ?_
        obtain ⟨a5, ea5, hf⟩ := st_bd hf
        refine pz_gR hE hH fr_X6_21 qk_65 ea5 dX6_rankOf_12 (fun ha5 => ?_)
        replace ha5 : q_tou a5 = true := ha5
        refine lv_iload hx hb dX6_rankOf_15 (lv_at hl 4 rfl) ?_
        obtain ⟨v6, ev6, hf⟩ := st_bd hf
        refine pz_iald hE hH (q_tou_0 ha5) ev6 dX6_rankOf_17 ?_
        refine lv_iconst (v := (-1)) hx hb dX6_rankOf_18 (by decide) ?_
        obtain ⟨z7, hr, hf⟩ := st_ltx hf
        have hJ : ∀ (ls : Array Slot) (H : Heap) (locs : List Loc), q_H X M s H locs → lv_has ls 7 [(0, .ref (X.1 65)), (1, .int p0), (2, .int p1), (3, .int x1), (4, .int x2)] → W p l e (q_rm (1)) s m args below meth c H locs 0 0 (MQ below (q_Qi X r0 M) args s 0 0 (q_A X)) (F0 m 27 ls [.int (b2i z7)]) := by
          intro ls H locs hH hl
          refine lv_istore (lv' := [(5, .int (b2i z7)), (0, .ref (X.1 65)), (1, .int p0), (2, .int p1), (3, .int x1), (4, .int x2)]) hx hb dX6_rankOf_27 hl (by decide) rfl (fun ls hl => ?_)
          refine lv_aload_n hx hb dX6_rankOf_29 rfl (lv_at hl 1 rfl) ?_
          obtain ⟨a8, ea8, hf⟩ := st_bd hf
          refine pz_gR hE hH fr_X6_21 qk_65 ea8 dX6_rankOf_30 (fun ha8 => ?_)
          replace ha8 : q_tou a8 = true := ha8
          refine lv_iload hx hb dX6_rankOf_33 (lv_at hl 5 rfl) ?_
          obtain ⟨v9, ev9, hf⟩ := st_bd hf
          refine pz_iald hE hH (q_tou_0 ha8) ev9 dX6_rankOf_35 ?_
          refine lv_aload_n hx hb dX6_rankOf_36 rfl (lv_at hl 1 rfl) ?_
          obtain ⟨a10, ea10, hf⟩ := st_bd hf
          refine pz_gR hE hH fr_X6_21 qk_65 ea10 dX6_rankOf_37 (fun ha10 => ?_)
          replace ha10 : q_tou a10 = true := ha10
          refine lv_iload_n hx hb dX6_rankOf_40 rfl (lv_at hl 2 rfl) ?_
          obtain ⟨v11, ev11, hf⟩ := st_bd hf
          refine pz_iald hE hH (q_tou_0 ha10) ev11 dX6_rankOf_41 ?_
          obtain ⟨z12, hr, hf⟩ := st_bd hf
          have hJ : ∀ (ls : Array Slot) (H : Heap) (locs : List Loc), q_H X M s H locs → lv_has ls 7 [(0, .ref (X.1 65)), (1, .int p0), (2, .int p1), (3, .int x1), (4, .int x2), (5, .int (b2i z7))] → W p l e (q_rm (1)) s m args below meth c H locs 0 0 (MQ below (q_Qi X r0 M) args s 0 0 (q_A X)) (F0 m 72 ls [.int (b2i z12)]) := by
            intro ls H locs hH hl
            refine lv_istore (lv' := [(6, .int (b2i z12)), (0, .ref (X.1 65)), (1, .int p0), (2, .int p1), (3, .int x1), (4, .int x2), (5, .int (b2i z7))]) hx hb dX6_rankOf_72 hl (by decide) rfl (fun ls hl => ?_)
            refine lv_iload_n hx hb dX6_rankOf_74 rfl (lv_at hl 4 rfl) ?_
            refine lv_iload hx hb dX6_rankOf_75 (lv_at hl 6 rfl) ?_
            obtain ⟨z13, hr, hf⟩ := st_ltx hf
            have hJ : ∀ (ls : Array Slot) (H : Heap) (locs : List Loc), q_H X M s H locs → lv_has ls 7 [(0, .ref (X.1 65)), (1, .int p0), (2, .int p1), (4, .int x2)] → W p l e (q_rm (1)) s m args below meth c H locs 0 0 (MQ below (q_Qi X r0 M) args s 0 0 (q_A X)) (F0 m 90 ls [.int (b2i z13), .int x1]) := by
              intro ls H locs hH hl
              refine lv_iadd hx hb dX6_rankOf_90 ?_
              refine lv_topi (fun x14 ex14 => ?_)
              replace hf := st_lt hf ex14
              refine lv_istore_n (lv' := [(3, .int x14), (0, .ref (X.1 65)), (1, .int p0), (2, .int p1), (4, .int x2)]) hx hb dX6_rankOf_91 rfl hl (by decide) rfl (fun ls hl => ?_)
              obtain ⟨x15, ex15, hf⟩ := st_lty hf
              refine lv_iinc (v := x15) (lv' := [(4, .int x15), (3, .int x14), (0, .ref (X.1 65)), (1, .int p0), (2, .int p1)]) hx hb dX6_rankOf_92 hl (k := 4) rfl (by rw [ex15]; rfl) (by decide) rfl (fun ls hl => ?_)
              refine lv_goto (tgt := 5) hx hb dX6_rankOf_95 (by decide) ?_
              exact hK1 _ (Option.some.inj hf).symm ls H locs hH (lv_sub hl [2, 3, 4, 1, 0] rfl)
            clear hf
            replace hf := hr
            refine lv_if_eq (tgt := 89) hx hb dX6_rankOf_77 (by decide) (fun hc => ?_) (fun hc => ?_)
            · replace hf := (if_pos hc).symm.trans hf
              refine lv_iconst (v := 0) hx hb dX6_rankOf_89 (by decide) ?_
              subst hf
              exact hJ ls H locs hH (lv_sub hl [1, 2, 3, 5] rfl)
            · replace hf := (if_neg hc).symm.trans hf
              refine lv_iload hx hb dX6_rankOf_80 (lv_at hl 0 rfl) ?_
              refine lv_if_eq (tgt := 89) hx hb dX6_rankOf_82 (by decide) (fun hc => ?_) (fun hc => ?_)
              · replace hf := (if_pos hc).symm.trans hf
                refine lv_iconst (v := 0) hx hb dX6_rankOf_89 (by decide) ?_
                subst hf
                exact hJ ls H locs hH (lv_sub hl [1, 2, 3, 5] rfl)
              · replace hf := (if_neg hc).symm.trans hf
                refine lv_iconst (v := 1) hx hb dX6_rankOf_85 (by decide) ?_
                refine lv_goto (tgt := 90) hx hb dX6_rankOf_86 (by decide) ?_
                subst hf
                exact hJ ls H locs hH (lv_sub hl [1, 2, 3, 5] rfl)
          clear hf
          replace hf := hr
          refine lv_icmp_lt (tgt := 67) hx hb dX6_rankOf_42 (by decide) (fun hc => ?_) (fun hc => ?_)
          · replace hf := (if_pos hc).symm.trans hf
            refine lv_iconst (v := 1) hx hb dX6_rankOf_67 (by decide) ?_
            refine lv_goto (tgt := 72) hx hb dX6_rankOf_68 (by decide) ?_
            replace hf := Option.some.inj hf
            subst hf
            exact hJ ls H locs hH (lv_sub hl [1, 2, 3, 4, 5, 0] rfl)
          · replace hf := (if_neg hc).symm.trans hf
            refine lv_aload_n hx hb dX6_rankOf_45 rfl (lv_at hl 1 rfl) ?_
            obtain ⟨a16, ea16, hf⟩ := st_bd hf
            refine pz_gR hE hH fr_X6_21 qk_65 ea16 dX6_rankOf_46 (fun ha16 => ?_)
            replace ha16 : q_tou a16 = true := ha16
            refine lv_iload hx hb dX6_rankOf_49 (lv_at hl 5 rfl) ?_
            obtain ⟨v17, ev17, hf⟩ := st_bd hf
            refine pz_iald hE hH (q_tou_0 ha16) ev17 dX6_rankOf_51 ?_
            refine lv_aload_n hx hb dX6_rankOf_52 rfl (lv_at hl 1 rfl) ?_
            obtain ⟨a18, ea18, hf⟩ := st_bd hf
            refine pz_gR hE hH fr_X6_21 qk_65 ea18 dX6_rankOf_53 (fun ha18 => ?_)
            replace ha18 : q_tou a18 = true := ha18
            refine lv_iload_n hx hb dX6_rankOf_56 rfl (lv_at hl 2 rfl) ?_
            obtain ⟨v19, ev19, hf⟩ := st_bd hf
            refine pz_iald hE hH (q_tou_0 ha18) ev19 dX6_rankOf_57 ?_
            refine lv_icmp_ne (tgt := 71) hx hb dX6_rankOf_58 (by decide) (fun hc => ?_) (fun hc => ?_)
            · replace hf := (if_neg hc).symm.trans hf
              refine lv_iconst (v := 0) hx hb dX6_rankOf_71 (by decide) ?_
              replace hf := Option.some.inj hf
              subst hf
              exact hJ ls H locs hH (lv_sub hl [1, 2, 3, 4, 5, 0] rfl)
            · replace hf := (if_pos hc).symm.trans hf
              refine lv_iload hx hb dX6_rankOf_61 (lv_at hl 5 rfl) ?_
              refine lv_iload_n hx hb dX6_rankOf_63 rfl (lv_at hl 2 rfl) ?_
              refine lv_icmp_ge (tgt := 71) hx hb dX6_rankOf_64 (by decide) (fun hc => ?_) (fun hc => ?_)
              · replace hf := (if_pos hc).symm.trans hf
                refine lv_iconst (v := 0) hx hb dX6_rankOf_71 (by decide) ?_
                replace hf := Option.some.inj hf
                subst hf
                exact hJ ls H locs hH (lv_sub hl [1, 2, 3, 4, 5, 0] rfl)
              · replace hf := (if_neg hc).symm.trans hf
                refine lv_iconst (v := 1) hx hb dX6_rankOf_67 (by decide) ?_
                refine lv_goto (tgt := 72) hx hb dX6_rankOf_68 (by decide) ?_
                replace hf := Option.some.inj hf
                subst hf
                exact hJ ls H locs hH (lv_sub hl [1, 2, 3, 4, 5, 0] rfl)
        clear hf
        replace hf := hr
        refine lv_icmp_eq (tgt := 26) hx hb dX6_rankOf_19 (by decide) (fun hc => ?_) (fun hc => ?_)
        · replace hf := (if_pos hc).symm.trans hf
          refine lv_iconst (v := 0) hx hb dX6_rankOf_26 (by decide) ?_
          subst hf
          exact hJ ls H locs hH (lv_sub hl [0, 1, 2, 3, 4] rfl)
        · replace hf := (if_neg hc).symm.trans hf
          refine lv_iconst (v := 1) hx hb dX6_rankOf_22 (by decide) ?_
          refine lv_goto (tgt := 27) hx hb dX6_rankOf_23 (by decide) ?_
          subst hf
          exact hJ ls H locs hH (lv_sub hl [0, 1, 2, 3, 4] rfl)) _ hlp
  exact hG ls H locs hH (lv_sub hl [2, 3, 4, 1, 0] rfl)

theorem dX6_visit_0 : decode cX6_visit 0 = .ok (.aload_n 1, 1) := by decide +kernel
theorem dX6_visit_1 : decode cX6_visit 1 = .ok (.iload_n 2, 1) := by decide +kernel
theorem dX6_visit_2 : decode cX6_visit 2 = .ok (.iconst 0, 1) := by decide +kernel
theorem dX6_visit_3 : decode cX6_visit 3 = .ok (.invokevirtual 58, 3) := by decide +kernel
theorem dX6_visit_6 : decode cX6_visit 6 = .ok (.istore 4, 2) := by decide +kernel
theorem dX6_visit_8 : decode cX6_visit 8 = .ok (.iload 4, 2) := by decide +kernel
theorem dX6_visit_10 : decode cX6_visit 10 = .ok (.aload_n 1, 1) := by decide +kernel
theorem dX6_visit_11 : decode cX6_visit 11 = .ok (.iload_n 2, 1) := by decide +kernel
theorem dX6_visit_12 : decode cX6_visit 12 = .ok (.iconst 1, 1) := by decide +kernel
theorem dX6_visit_13 : decode cX6_visit 13 = .ok (.invokevirtual 58, 3) := by decide +kernel
theorem dX6_visit_16 : decode cX6_visit 16 = .ok (.iadd, 1) := by decide +kernel
theorem dX6_visit_17 : decode cX6_visit 17 = .ok (.istore 5, 2) := by decide +kernel
theorem dX6_visit_19 : decode cX6_visit 19 = .ok (.aload_n 0, 1) := by decide +kernel
theorem dX6_visit_20 : decode cX6_visit 20 = .ok (.getfield 24, 3) := by decide +kernel
theorem dX6_visit_23 : decode cX6_visit 23 = .ok (.iconst (-1), 1) := by decide +kernel
theorem dX6_visit_24 : decode cX6_visit 24 = .ok (.invokestatic 27, 3) := by decide +kernel
theorem dX6_visit_27 : decode cX6_visit 27 = .ok (.iconst 0, 1) := by decide +kernel
theorem dX6_visit_28 : decode cX6_visit 28 = .ok (.istore 6, 2) := by decide +kernel
theorem dX6_visit_30 : decode cX6_visit 30 = .ok (.iload 6, 2) := by decide +kernel
theorem dX6_visit_32 : decode cX6_visit 32 = .ok (.aload_n 1, 1) := by decide +kernel
theorem dX6_visit_33 : decode cX6_visit 33 = .ok (.getfield 62, 3) := by decide +kernel
theorem dX6_visit_36 : decode cX6_visit 36 = .ok (.if_icmp .ge 101, 3) := by decide +kernel
theorem dX6_visit_39 : decode cX6_visit 39 = .ok (.aload_n 0, 1) := by decide +kernel
theorem dX6_visit_40 : decode cX6_visit 40 = .ok (.getfield 21, 3) := by decide +kernel
theorem dX6_visit_43 : decode cX6_visit 43 = .ok (.iload 6, 2) := by decide +kernel
theorem dX6_visit_45 : decode cX6_visit 45 = .ok (.iaload, 1) := by decide +kernel
theorem dX6_visit_46 : decode cX6_visit 46 = .ok (.iconst (-1), 1) := by decide +kernel
theorem dX6_visit_47 : decode cX6_visit 47 = .ok (.if_icmp .ne 6, 3) := by decide +kernel
theorem dX6_visit_50 : decode cX6_visit 50 = .ok (.goto 81, 3) := by decide +kernel
theorem dX6_visit_53 : decode cX6_visit 53 = .ok (.aload_n 0, 1) := by decide +kernel
theorem dX6_visit_54 : decode cX6_visit 54 = .ok (.getfield 18, 3) := by decide +kernel
theorem dX6_visit_57 : decode cX6_visit 57 = .ok (.iload 6, 2) := by decide +kernel
theorem dX6_visit_59 : decode cX6_visit 59 = .ok (.dup2, 1) := by decide +kernel
theorem dX6_visit_60 : decode cX6_visit 60 = .ok (.iaload, 1) := by decide +kernel
theorem dX6_visit_61 : decode cX6_visit 61 = .ok (.iconst 1, 1) := by decide +kernel
theorem dX6_visit_62 : decode cX6_visit 62 = .ok (.iadd, 1) := by decide +kernel
theorem dX6_visit_63 : decode cX6_visit 63 = .ok (.iastore, 1) := by decide +kernel
theorem dX6_visit_64 : decode cX6_visit 64 = .ok (.aload_n 0, 1) := by decide +kernel
theorem dX6_visit_65 : decode cX6_visit 65 = .ok (.iload 6, 2) := by decide +kernel
theorem dX6_visit_67 : decode cX6_visit 67 = .ok (.aload_n 1, 1) := by decide +kernel
theorem dX6_visit_68 : decode cX6_visit 68 = .ok (.getfield 62, 3) := by decide +kernel
theorem dX6_visit_71 : decode cX6_visit 71 = .ok (.invokevirtual 65, 3) := by decide +kernel
theorem dX6_visit_74 : decode cX6_visit 74 = .ok (.istore 7, 2) := by decide +kernel
theorem dX6_visit_76 : decode cX6_visit 76 = .ok (.iload 7, 2) := by decide +kernel
theorem dX6_visit_78 : decode cX6_visit 78 = .ok (.iload 4, 2) := by decide +kernel
theorem dX6_visit_80 : decode cX6_visit 80 = .ok (.if_icmp .ge 22, 3) := by decide +kernel
theorem dX6_visit_83 : decode cX6_visit 83 = .ok (.aload_n 0, 1) := by decide +kernel
theorem dX6_visit_84 : decode cX6_visit 84 = .ok (.getfield 24, 3) := by decide +kernel
theorem dX6_visit_87 : decode cX6_visit 87 = .ok (.iload 6, 2) := by decide +kernel
theorem dX6_visit_89 : decode cX6_visit 89 = .ok (.aload_n 0, 1) := by decide +kernel
theorem dX6_visit_90 : decode cX6_visit 90 = .ok (.getfield 21, 3) := by decide +kernel
theorem dX6_visit_93 : decode cX6_visit 93 = .ok (.iload 6, 2) := by decide +kernel
theorem dX6_visit_95 : decode cX6_visit 95 = .ok (.iaload, 1) := by decide +kernel
theorem dX6_visit_96 : decode cX6_visit 96 = .ok (.iload_n 3, 1) := by decide +kernel
theorem dX6_visit_97 : decode cX6_visit 97 = .ok (.iadd, 1) := by decide +kernel
theorem dX6_visit_98 : decode cX6_visit 98 = .ok (.iastore, 1) := by decide +kernel
theorem dX6_visit_99 : decode cX6_visit 99 = .ok (.goto 32, 3) := by decide +kernel
theorem dX6_visit_102 : decode cX6_visit 102 = .ok (.iload 7, 2) := by decide +kernel
theorem dX6_visit_104 : decode cX6_visit 104 = .ok (.iload 5, 2) := by decide +kernel
theorem dX6_visit_106 : decode cX6_visit 106 = .ok (.if_icmp .ge 25, 3) := by decide +kernel
theorem dX6_visit_109 : decode cX6_visit 109 = .ok (.aload_n 0, 1) := by decide +kernel
theorem dX6_visit_110 : decode cX6_visit 110 = .ok (.getfield 9, 3) := by decide +kernel
theorem dX6_visit_113 : decode cX6_visit 113 = .ok (.iload 6, 2) := by decide +kernel
theorem dX6_visit_115 : decode cX6_visit 115 = .ok (.iload_n 2, 1) := by decide +kernel
theorem dX6_visit_116 : decode cX6_visit 116 = .ok (.iastore, 1) := by decide +kernel
theorem dX6_visit_117 : decode cX6_visit 117 = .ok (.aload_n 0, 1) := by decide +kernel
theorem dX6_visit_118 : decode cX6_visit 118 = .ok (.getfield 15, 3) := by decide +kernel
theorem dX6_visit_121 : decode cX6_visit 121 = .ok (.iload 6, 2) := by decide +kernel
theorem dX6_visit_123 : decode cX6_visit 123 = .ok (.aload_n 0, 1) := by decide +kernel
theorem dX6_visit_124 : decode cX6_visit 124 = .ok (.getfield 21, 3) := by decide +kernel
theorem dX6_visit_127 : decode cX6_visit 127 = .ok (.iload 6, 2) := by decide +kernel
theorem dX6_visit_129 : decode cX6_visit 129 = .ok (.iaload, 1) := by decide +kernel
theorem dX6_visit_130 : decode cX6_visit 130 = .ok (.iastore, 1) := by decide +kernel
theorem dX6_visit_131 : decode cX6_visit 131 = .ok (.iinc 6 1, 3) := by decide +kernel
theorem dX6_visit_134 : decode cX6_visit 134 = .ok (.goto (-104), 3) := by decide +kernel
theorem dX6_visit_137 : decode cX6_visit 137 = .ok (.return_, 1) := by decide +kernel
set_option maxRecDepth 100000 in
set_option maxHeartbeats 4000000 in
theorem tz_X6_visit (l : Launch) (X : qX) {p0 : Nat} {p1 : Int32} {p2 : Int32} {M MR : qM} (hp0 : q_vil p0 = true) (hf : jTr_visit p0 p1 p2 M = some MR) : q_Met l X yX6_visit cX6_visit 8 none (2) M [.ref (X.1 65), .ref (X.1 p0), .int p1, .int p2] (q_Qv X MR) := by
  refine q_enter (by decide) (Nat.le_of_ble_eq_true rfl) ?_
  intro p e s m args below meth c hE hrt hlk H locs hH ls hl
  have hx := hE.1
  have hb := hE.2.1
  have hl : lv_has ls 8 [(0, .ref (X.1 65)), (1, .ref (X.1 p0)), (2, .int p1), (3, .int p2)] := hl
  unfold jTr_visit at hf
  refine lv_aload_n hx hb dX6_visit_0 rfl (lv_at hl 1 rfl) ?_
  refine lv_iload_n hx hb dX6_visit_1 rfl (lv_at hl 2 rfl) ?_
  refine lv_iconst (v := 0) hx hb dX6_visit_2 (by decide) ?_
  obtain ⟨r1, er1, hf⟩ := st_bd hf
  refine q_calli (q_runV (As := [.int p1, .int 0]) (rest := []) hE hH (tz_X7_ofThing l X hp0 (hf := er1)) kv_X6_58 (q_vil_0 hp0) (by decide) rfl hl.1 rfl (Nat.le_of_ble_eq_true rfl) dX6_visit_3) hH (fun H locs hH => ?_)
  refine lv_istore (lv' := [(4, .int r1), (0, .ref (X.1 65)), (1, .ref (X.1 p0)), (2, .int p1), (3, .int p2)]) hx hb dX6_visit_6 hl (by decide) rfl (fun ls hl => ?_)
  refine lv_iload hx hb dX6_visit_8 (lv_at hl 0 rfl) ?_
  refine lv_aload_n hx hb dX6_visit_10 rfl (lv_at hl 2 rfl) ?_
  refine lv_iload_n hx hb dX6_visit_11 rfl (lv_at hl 3 rfl) ?_
  refine lv_iconst (v := 1) hx hb dX6_visit_12 (by decide) ?_
  obtain ⟨r2, er2, hf⟩ := st_bd hf
  refine q_calli (q_runV (As := [.int p1, .int 1]) (rest := [.int r1]) hE hH (tz_X7_ofThing l X hp0 (hf := er2)) kv_X6_58 (q_vil_0 hp0) (by decide) rfl hl.1 rfl (Nat.le_of_ble_eq_true rfl) dX6_visit_13) hH (fun H locs hH => ?_)
  refine lv_iadd hx hb dX6_visit_16 ?_
  refine lv_topi (fun x3 ex3 => ?_)
  replace hf := st_lt hf ex3
  refine lv_istore (lv' := [(5, .int x3), (4, .int r1), (0, .ref (X.1 65)), (1, .ref (X.1 p0)), (2, .int p1), (3, .int p2)]) hx hb dX6_visit_17 hl (by decide) rfl (fun ls hl => ?_)
  refine lv_aload_n hx hb dX6_visit_19 rfl (lv_at hl 2 rfl) ?_
  obtain ⟨a4, ea4, hf⟩ := st_bd hf
  refine pz_gR hE hH fr_X6_24 qk_65 ea4 dX6_visit_20 (fun ha4 => ?_)
  replace ha4 : q_tou a4 = true := ha4
  refine lv_iconst (v := (-1)) hx hb dX6_visit_23 (by decide) ?_
  obtain ⟨M5, eM5, hf⟩ := st_bd hf
  refine q_callv (q_runS (As := [.ref (X.1 a4), .int (-1)]) (rest := []) hE hH (tz_J7_fill_53178 l X (q_isal (q_tou_0 ha4)) (hf := eM5)) ks_X6_27 (by decide) rfl hl.1 rfl (Nat.le_of_ble_eq_true rfl) dX6_visit_24) hH (fun H locs hH => ?_)
  refine lv_iconst (v := 0) hx hb dX6_visit_27 (by decide) ?_
  refine lv_istore (lv' := [(6, .int 0), (5, .int x3), (4, .int r1), (0, .ref (X.1 65)), (1, .ref (X.1 p0)), (2, .int p1), (3, .int p2)]) hx hb dX6_visit_28 hl (by decide) rfl (fun ls hl => ?_)
  obtain ⟨M8, hlp, hf⟩ := st_bd hf
  have hX : (fun M8 => ∀ (ls : Array Slot) (H : Heap) (locs : List Loc), q_H X M8 s H locs → lv_has ls 8 [] → W p l e (q_rm (2)) s m args below meth c H locs 0 0 (MQ below (q_Qv X MR) args s 0 0 (q_A X)) (F0 m 137 ls []) : qM → Prop) M8 := by
    intro ls H locs hH hl
    replace hf := Option.some.inj hf
    subst hf
    exact pz_retv hE hrt hlk hH dX6_visit_137
  clear hf
  have hG := qlp_ind (r := M8) (fun q => qu2 q (fun x6 M7 => ∀ (ls : Array Slot) (H : Heap) (locs : List Loc), q_H X M7 s H locs → lv_has ls 8 [(0, .ref (X.1 65)), (1, .ref (X.1 p0)), (2, .int p1), (3, .int p2), (4, .int r1), (5, .int x3), (6, .int x6)] → W p l e (q_rm (2)) s m args below meth c H locs 0 0 (MQ below (q_Qv X MR) args s 0 0 (q_A X)) (F0 m 30 ls []))) (by
      intro q o hf hK1 hK2
      obtain ⟨x6, M7⟩ := q
      replace hf := st_u2 hf
      intro ls H locs hH hl
      refine lv_iload hx hb dX6_visit_30 (lv_at hl 6 rfl) ?_
      refine lv_aload_n hx hb dX6_visit_32 rfl (lv_at hl 1 rfl) ?_
      refine pz_gI hE hH fr_X6_62 (q_vil_0 hp0) dX6_visit_33 ?_
      refine lv_icmp_ge (tgt := 137) hx hb dX6_visit_36 (by decide) (fun hc => ?_) (fun hc => ?_)
      · replace hf := (if_pos hc).symm.trans hf
        replace hf := hK2 _ (Option.some.inj hf).symm
        subst hf
        exact hX ls H locs hH (lv_sub hl [] rfl)
      · replace hf := (if_neg hc).symm.trans hf
        refine lv_aload_n hx hb dX6_visit_39 rfl (lv_at hl 0 rfl) ?_
        obtain ⟨a10, ea10, hf⟩ := st_bd hf
        refine pz_gR hE hH fr_X6_21 qk_65 ea10 dX6_visit_40 (fun ha10 => ?_)
        replace ha10 : q_tou a10 = true := ha10
        refine lv_iload hx hb dX6_visit_43 (lv_at hl 6 rfl) ?_
        obtain ⟨v11, ev11, hf⟩ := st_bd hf
        refine pz_iald hE hH (q_tou_0 ha10) ev11 dX6_visit_45 ?_
        refine lv_iconst (v := (-1)) hx hb dX6_visit_46 (by decide) ?_
        obtain ⟨M12, hr, hf⟩ := st_bd hf
        have hJ : ∀ (ls : Array Slot) (H : Heap) (locs : List Loc), q_H X M12 s H locs → lv_has ls 8 [(0, .ref (X.1 65)), (1, .ref (X.1 p0)), (2, .int p1), (3, .int p2), (4, .int r1), (5, .int x3), (6, .int x6)] → W p l e (q_rm (2)) s m args below meth c H locs 0 0 (MQ below (q_Qv X MR) args s 0 0 (q_A X)) (F0 m 131 ls []) := by
          intro ls H locs hH hl
          obtain ⟨x13, ex13, hf⟩ := st_lty hf
          refine lv_iinc (v := x13) (lv' := [(6, .int x13), (0, .ref (X.1 65)), (1, .ref (X.1 p0)), (2, .int p1), (3, .int p2), (4, .int r1), (5, .int x3)]) hx hb dX6_visit_131 hl (k := 6) rfl (by rw [ex13]; rfl) (by decide) rfl (fun ls hl => ?_)
          refine lv_goto (tgt := 30) hx hb dX6_visit_134 (by decide) ?_
          exact hK1 _ (Option.some.inj hf).symm ls H locs hH (lv_sub hl [1, 2, 3, 4, 5, 6, 0] rfl)
        clear hf
        replace hf := hr
        refine lv_icmp_ne (tgt := 53) hx hb dX6_visit_47 (by decide) (fun hc => ?_) (fun hc => ?_)
        · replace hf := (if_neg hc).symm.trans hf
          refine lv_aload_n hx hb dX6_visit_53 rfl (lv_at hl 0 rfl) ?_
          refine pz_gS (a := 68) hE hH fr_X6_18 qk_65 (by decide) dX6_visit_54 ?_
          refine lv_iload hx hb dX6_visit_57 (lv_at hl 6 rfl) ?_
          refine lv_dup2_11 hx hb dX6_visit_59 rfl rfl ?_
          obtain ⟨v14, ev14, hf⟩ := st_bd hf
          refine pz_iald hE hH qk_68 ev14 dX6_visit_60 ?_
          refine lv_iconst (v := 1) hx hb dX6_visit_61 (by decide) ?_
          refine lv_iadd hx hb dX6_visit_62 ?_
          obtain ⟨M15, eM15, hf⟩ := st_bd hf
          refine pz_iast hE hH qk_68 eM15 dX6_visit_63 (fun H locs hH => ?_)
          refine lv_aload_n hx hb dX6_visit_64 rfl (lv_at hl 0 rfl) ?_
          refine lv_iload hx hb dX6_visit_65 (lv_at hl 6 rfl) ?_
          refine lv_aload_n hx hb dX6_visit_67 rfl (lv_at hl 1 rfl) ?_
          refine pz_gI hE hH fr_X6_62 (q_vil_0 hp0) dX6_visit_68 ?_
          obtain ⟨r16, er16, hf⟩ := st_bd hf
          refine q_calli (q_runV (As := [.int x6, .int (M15.1 p0 2)]) (rest := []) hE hH (tz_X6_rankOf l X (hf := er16)) kv_X6_65 qk_65 (by decide) rfl hl.1 rfl (Nat.le_of_ble_eq_true rfl) dX6_visit_71) hH (fun H locs hH => ?_)
          refine lv_istore (lv' := [(7, .int r16), (0, .ref (X.1 65)), (1, .ref (X.1 p0)), (2, .int p1), (3, .int p2), (4, .int r1), (5, .int x3), (6, .int x6)]) hx hb dX6_visit_74 hl (by decide) rfl (fun ls hl => ?_)
          refine lv_iload hx hb dX6_visit_76 (lv_at hl 0 rfl) ?_
          refine lv_iload hx hb dX6_visit_78 (lv_at hl 5 rfl) ?_
          refine lv_icmp_ge (tgt := 102) hx hb dX6_visit_80 (by decide) (fun hc => ?_) (fun hc => ?_)
          · replace hf := (if_pos hc).symm.trans hf
            refine lv_iload hx hb dX6_visit_102 (lv_at hl 0 rfl) ?_
            refine lv_iload hx hb dX6_visit_104 (lv_at hl 6 rfl) ?_
            refine lv_icmp_ge (tgt := 131) hx hb dX6_visit_106 (by decide) (fun hc => ?_) (fun hc => ?_)
            · replace hf := (if_pos hc).symm.trans hf
              replace hf := Option.some.inj hf
              subst hf
              exact hJ ls H locs hH (lv_sub hl [1, 2, 3, 4, 5, 6, 7] rfl)
            · replace hf := (if_neg hc).symm.trans hf
              refine lv_aload_n hx hb dX6_visit_109 rfl (lv_at hl 1 rfl) ?_
              refine pz_gS (a := 66) hE hH fr_X6_9 qk_65 (by decide) dX6_visit_110 ?_
              refine lv_iload hx hb dX6_visit_113 (lv_at hl 7 rfl) ?_
              refine lv_iload_n hx hb dX6_visit_115 rfl (lv_at hl 3 rfl) ?_
              obtain ⟨M17, eM17, hf⟩ := st_bd hf
              refine pz_iast hE hH qk_66 eM17 dX6_visit_116 (fun H locs hH => ?_)
              refine lv_aload_n hx hb dX6_visit_117 rfl (lv_at hl 1 rfl) ?_
              refine pz_gS (a := 67) hE hH fr_X6_15 qk_65 (by decide) dX6_visit_118 ?_
              refine lv_iload hx hb dX6_visit_121 (lv_at hl 7 rfl) ?_
              refine lv_aload_n hx hb dX6_visit_123 rfl (lv_at hl 1 rfl) ?_
              obtain ⟨a18, ea18, hf⟩ := st_bd hf
              refine pz_gR hE hH fr_X6_21 qk_65 ea18 dX6_visit_124 (fun ha18 => ?_)
              replace ha18 : q_tou a18 = true := ha18
              refine lv_iload hx hb dX6_visit_127 (lv_at hl 7 rfl) ?_
              obtain ⟨v19, ev19, hf⟩ := st_bd hf
              refine pz_iald hE hH (q_tou_0 ha18) ev19 dX6_visit_129 ?_
              obtain ⟨M20, eM20, hf⟩ := st_bd hf
              refine pz_iast hE hH qk_67 eM20 dX6_visit_130 (fun H locs hH => ?_)
              replace hf := Option.some.inj hf
              subst hf
              exact hJ ls H locs hH (lv_sub hl [1, 2, 3, 4, 5, 6, 7] rfl)
          · replace hf := (if_neg hc).symm.trans hf
            refine lv_aload_n hx hb dX6_visit_83 rfl (lv_at hl 1 rfl) ?_
            obtain ⟨a21, ea21, hf⟩ := st_bd hf
            refine pz_gR hE hH fr_X6_24 qk_65 ea21 dX6_visit_84 (fun ha21 => ?_)
            replace ha21 : q_tou a21 = true := ha21
            refine lv_iload hx hb dX6_visit_87 (lv_at hl 7 rfl) ?_
            refine lv_aload_n hx hb dX6_visit_89 rfl (lv_at hl 1 rfl) ?_
            obtain ⟨a22, ea22, hf⟩ := st_bd hf
            refine pz_gR hE hH fr_X6_21 qk_65 ea22 dX6_visit_90 (fun ha22 => ?_)
            replace ha22 : q_tou a22 = true := ha22
            refine lv_iload hx hb dX6_visit_93 (lv_at hl 7 rfl) ?_
            obtain ⟨v23, ev23, hf⟩ := st_bd hf
            refine pz_iald hE hH (q_tou_0 ha22) ev23 dX6_visit_95 ?_
            refine lv_iload_n hx hb dX6_visit_96 rfl (lv_at hl 4 rfl) ?_
            refine lv_iadd hx hb dX6_visit_97 ?_
            obtain ⟨M24, eM24, hf⟩ := st_bd hf
            refine pz_iast hE hH (q_tou_0 ha21) eM24 dX6_visit_98 (fun H locs hH => ?_)
            refine lv_goto (tgt := 131) hx hb dX6_visit_99 (by decide) ?_
            replace hf := Option.some.inj hf
            subst hf
            exact hJ ls H locs hH (lv_sub hl [1, 2, 3, 4, 5, 6, 7] rfl)
        · replace hf := (if_pos hc).symm.trans hf
          refine lv_goto (tgt := 131) hx hb dX6_visit_50 (by decide) ?_
          replace hf := Option.some.inj hf
          subst hf
          exact hJ ls H locs hH (lv_sub hl [0, 1, 2, 3, 4, 5, 6] rfl)) _ hlp
  exact hG ls H locs hH (lv_sub hl [3, 4, 5, 6, 2, 1, 0] rfl)

theorem dX6_walk_0 : decode cX6_walk 0 = .ok (.aload_n 0, 1) := by decide +kernel
theorem dX6_walk_1 : decode cX6_walk 1 = .ok (.getfield 9, 3) := by decide +kernel
theorem dX6_walk_4 : decode cX6_walk 4 = .ok (.iconst (-1), 1) := by decide +kernel
theorem dX6_walk_5 : decode cX6_walk 5 = .ok (.invokestatic 27, 3) := by decide +kernel
theorem dX6_walk_8 : decode cX6_walk 8 = .ok (.aload_n 0, 1) := by decide +kernel
theorem dX6_walk_9 : decode cX6_walk 9 = .ok (.getfield 15, 3) := by decide +kernel
theorem dX6_walk_12 : decode cX6_walk 12 = .ok (.iconst (-1), 1) := by decide +kernel
theorem dX6_walk_13 : decode cX6_walk 13 = .ok (.invokestatic 27, 3) := by decide +kernel
theorem dX6_walk_16 : decode cX6_walk 16 = .ok (.aload_n 0, 1) := by decide +kernel
theorem dX6_walk_17 : decode cX6_walk 17 = .ok (.getfield 18, 3) := by decide +kernel
theorem dX6_walk_20 : decode cX6_walk 20 = .ok (.iconst 0, 1) := by decide +kernel
theorem dX6_walk_21 : decode cX6_walk 21 = .ok (.invokestatic 27, 3) := by decide +kernel
theorem dX6_walk_24 : decode cX6_walk 24 = .ok (.aload_n 1, 1) := by decide +kernel
theorem dX6_walk_25 : decode cX6_walk 25 = .ok (.getfield 33, 3) := by decide +kernel
theorem dX6_walk_28 : decode cX6_walk 28 = .ok (.iconst 0, 1) := by decide +kernel
theorem dX6_walk_29 : decode cX6_walk 29 = .ok (.aload_n 0, 1) := by decide +kernel
theorem dX6_walk_30 : decode cX6_walk 30 = .ok (.getfield 21, 3) := by decide +kernel
theorem dX6_walk_33 : decode cX6_walk 33 = .ok (.iconst 0, 1) := by decide +kernel
theorem dX6_walk_34 : decode cX6_walk 34 = .ok (.bipush 20, 2) := by decide +kernel
theorem dX6_walk_36 : decode cX6_walk 36 = .ok (.invokestatic 38, 3) := by decide +kernel
theorem dX6_walk_39 : decode cX6_walk 39 = .ok (.iconst 0, 1) := by decide +kernel
theorem dX6_walk_40 : decode cX6_walk 40 = .ok (.istore_n 3, 1) := by decide +kernel
theorem dX6_walk_41 : decode cX6_walk 41 = .ok (.iload_n 3, 1) := by decide +kernel
theorem dX6_walk_42 : decode cX6_walk 42 = .ok (.aload_n 1, 1) := by decide +kernel
theorem dX6_walk_43 : decode cX6_walk 43 = .ok (.getfield 44, 3) := by decide +kernel
theorem dX6_walk_46 : decode cX6_walk 46 = .ok (.getfield 48, 3) := by decide +kernel
theorem dX6_walk_49 : decode cX6_walk 49 = .ok (.if_icmp .ge 39, 3) := by decide +kernel
theorem dX6_walk_52 : decode cX6_walk 52 = .ok (.aload_n 0, 1) := by decide +kernel
theorem dX6_walk_53 : decode cX6_walk 53 = .ok (.aload_n 1, 1) := by decide +kernel
theorem dX6_walk_54 : decode cX6_walk 54 = .ok (.getfield 44, 3) := by decide +kernel
theorem dX6_walk_57 : decode cX6_walk 57 = .ok (.iload_n 3, 1) := by decide +kernel
theorem dX6_walk_58 : decode cX6_walk 58 = .ok (.iload_n 2, 1) := by decide +kernel
theorem dX6_walk_59 : decode cX6_walk 59 = .ok (.invokevirtual 54, 3) := by decide +kernel
theorem dX6_walk_62 : decode cX6_walk 62 = .ok (.aload_n 0, 1) := by decide +kernel
theorem dX6_walk_63 : decode cX6_walk 63 = .ok (.getfield 21, 3) := by decide +kernel
theorem dX6_walk_66 : decode cX6_walk 66 = .ok (.astore 4, 2) := by decide +kernel
theorem dX6_walk_68 : decode cX6_walk 68 = .ok (.aload_n 0, 1) := by decide +kernel
theorem dX6_walk_69 : decode cX6_walk 69 = .ok (.aload_n 0, 1) := by decide +kernel
theorem dX6_walk_70 : decode cX6_walk 70 = .ok (.getfield 24, 3) := by decide +kernel
theorem dX6_walk_73 : decode cX6_walk 73 = .ok (.putfield 21, 3) := by decide +kernel
theorem dX6_walk_76 : decode cX6_walk 76 = .ok (.aload_n 0, 1) := by decide +kernel
theorem dX6_walk_77 : decode cX6_walk 77 = .ok (.aload 4, 2) := by decide +kernel
theorem dX6_walk_79 : decode cX6_walk 79 = .ok (.putfield 24, 3) := by decide +kernel
theorem dX6_walk_82 : decode cX6_walk 82 = .ok (.iinc 3 1, 3) := by decide +kernel
theorem dX6_walk_85 : decode cX6_walk 85 = .ok (.goto (-44), 3) := by decide +kernel
theorem dX6_walk_88 : decode cX6_walk 88 = .ok (.return_, 1) := by decide +kernel
set_option maxRecDepth 100000 in
set_option maxHeartbeats 4000000 in
theorem tz_X6_walk (l : Launch) (X : qX) {p1 : Int32} {M MR : qM} (hf : jTr_walk p1 M = some MR) : q_Met l X yX6_walk cX6_walk 5 none (3) M [.ref (X.1 65), .ref (X.1 60), .int p1] (q_Qv X MR) := by
  refine q_enter (by decide) (Nat.le_of_ble_eq_true rfl) ?_
  intro p e s m args below meth c hE hrt hlk H locs hH ls hl
  have hx := hE.1
  have hb := hE.2.1
  have hl : lv_has ls 5 [(0, .ref (X.1 65)), (1, .ref (X.1 60)), (2, .int p1)] := hl
  unfold jTr_walk at hf
  refine lv_aload_n hx hb dX6_walk_0 rfl (lv_at hl 0 rfl) ?_
  refine pz_gS (a := 66) hE hH fr_X6_9 qk_65 (by decide) dX6_walk_1 ?_
  refine lv_iconst (v := (-1)) hx hb dX6_walk_4 (by decide) ?_
  obtain ⟨M1, eM1, hf⟩ := st_bd hf
  refine q_callv (q_runS (As := [.ref (X.1 66), .int (-1)]) (rest := []) hE hH (tz_J7_fill_53178 l X (q_isal qk_66) (hf := eM1)) ks_X6_27 (by decide) rfl hl.1 rfl (Nat.le_of_ble_eq_true rfl) dX6_walk_5) hH (fun H locs hH => ?_)
  refine lv_aload_n hx hb dX6_walk_8 rfl (lv_at hl 0 rfl) ?_
  refine pz_gS (a := 67) hE hH fr_X6_15 qk_65 (by decide) dX6_walk_9 ?_
  refine lv_iconst (v := (-1)) hx hb dX6_walk_12 (by decide) ?_
  obtain ⟨M2, eM2, hf⟩ := st_bd hf
  refine q_callv (q_runS (As := [.ref (X.1 67), .int (-1)]) (rest := []) hE hH (tz_J7_fill_53178 l X (q_isal qk_67) (hf := eM2)) ks_X6_27 (by decide) rfl hl.1 rfl (Nat.le_of_ble_eq_true rfl) dX6_walk_13) hH (fun H locs hH => ?_)
  refine lv_aload_n hx hb dX6_walk_16 rfl (lv_at hl 0 rfl) ?_
  refine pz_gS (a := 68) hE hH fr_X6_18 qk_65 (by decide) dX6_walk_17 ?_
  refine lv_iconst (v := 0) hx hb dX6_walk_20 (by decide) ?_
  obtain ⟨M3, eM3, hf⟩ := st_bd hf
  refine q_callv (q_runS (As := [.ref (X.1 68), .int 0]) (rest := []) hE hH (tz_J7_fill_53178 l X (q_isal qk_68) (hf := eM3)) ks_X6_27 (by decide) rfl hl.1 rfl (Nat.le_of_ble_eq_true rfl) dX6_walk_21) hH (fun H locs hH => ?_)
  refine lv_aload_n hx hb dX6_walk_24 rfl (lv_at hl 1 rfl) ?_
  refine pz_gS (a := 61) hE hH fr_X6_33 qk_60 (by decide) dX6_walk_25 ?_
  refine lv_iconst (v := 0) hx hb dX6_walk_28 (by decide) ?_
  refine lv_aload_n hx hb dX6_walk_29 rfl (lv_at hl 0 rfl) ?_
  obtain ⟨a4, ea4, hf⟩ := st_bd hf
  refine pz_gR hE hH fr_X6_21 qk_65 ea4 dX6_walk_30 (fun ha4 => ?_)
  replace ha4 : q_tou a4 = true := ha4
  refine lv_iconst (v := 0) hx hb dX6_walk_33 (by decide) ?_
  refine lv_bipush (v := 20) hx hb dX6_walk_34 (by decide) ?_
  obtain ⟨M5, eM5, hf⟩ := st_bd hf
  refine pz_cpy (rest := []) hE hH (q_in _ 1238 (by decide +kernel) rfl) (q_in _ 505 (by decide +kernel) rfl) (q_in _ 504 (by decide +kernel) rfl) (q_in _ 14 (by decide +kernel) rfl) qk_61 (q_tou_0 ha4) eM5 hl.1 (by decide) (Nat.le_of_ble_eq_true rfl) dX6_walk_36 (fun H locs hH => ?_)
  refine lv_iconst (v := 0) hx hb dX6_walk_39 (by decide) ?_
  refine lv_istore_n (lv' := [(3, .int 0), (0, .ref (X.1 65)), (1, .ref (X.1 60)), (2, .int p1)]) hx hb dX6_walk_40 rfl hl (by decide) rfl (fun ls hl => ?_)
  obtain ⟨M8, hlp, hf⟩ := st_bd hf
  have hX : (fun M8 => ∀ (ls : Array Slot) (H : Heap) (locs : List Loc), q_H X M8 s H locs → lv_has ls 5 [] → W p l e (q_rm (3)) s m args below meth c H locs 0 0 (MQ below (q_Qv X MR) args s 0 0 (q_A X)) (F0 m 88 ls []) : qM → Prop) M8 := by
    intro ls H locs hH hl
    replace hf := Option.some.inj hf
    subst hf
    exact pz_retv hE hrt hlk hH dX6_walk_88
  clear hf
  have hG := qlp_ind (r := M8) (fun q => qu2 q (fun x6 M7 => ∀ (ls : Array Slot) (H : Heap) (locs : List Loc), q_H X M7 s H locs → lv_has ls 5 [(0, .ref (X.1 65)), (1, .ref (X.1 60)), (2, .int p1), (3, .int x6)] → W p l e (q_rm (3)) s m args below meth c H locs 0 0 (MQ below (q_Qv X MR) args s 0 0 (q_A X)) (F0 m 41 ls []))) (by
      intro q o hf hK1 hK2
      obtain ⟨x6, M7⟩ := q
      replace hf := st_u2 hf
      intro ls H locs hH hl
      refine lv_iload_n hx hb dX6_walk_41 rfl (lv_at hl 3 rfl) ?_
      refine lv_aload_n hx hb dX6_walk_42 rfl (lv_at hl 1 rfl) ?_
      obtain ⟨a10, ea10, hf⟩ := st_bd hf
      refine pz_gR hE hH fr_X6_44 qk_60 ea10 dX6_walk_43 (fun ha10 => ?_)
      replace ha10 : q_vil a10 = true := ha10
      refine pz_gI hE hH fr_X6_48 (q_vil_0 ha10) dX6_walk_46 ?_
      refine lv_icmp_ge (tgt := 88) hx hb dX6_walk_49 (by decide) (fun hc => ?_) (fun hc => ?_)
      · replace hf := (if_pos hc).symm.trans hf
        replace hf := hK2 _ (Option.some.inj hf).symm
        subst hf
        exact hX ls H locs hH (lv_sub hl [] rfl)
      · replace hf := (if_neg hc).symm.trans hf
        refine lv_aload_n hx hb dX6_walk_52 rfl (lv_at hl 0 rfl) ?_
        refine lv_aload_n hx hb dX6_walk_53 rfl (lv_at hl 1 rfl) ?_
        obtain ⟨a11, ea11, hf⟩ := st_bd hf
        refine pz_gR hE hH fr_X6_44 qk_60 ea11 dX6_walk_54 (fun ha11 => ?_)
        replace ha11 : q_vil a11 = true := ha11
        refine lv_iload_n hx hb dX6_walk_57 rfl (lv_at hl 3 rfl) ?_
        refine lv_iload_n hx hb dX6_walk_58 rfl (lv_at hl 2 rfl) ?_
        obtain ⟨M12, eM12, hf⟩ := st_bd hf
        refine q_callv (q_runV (As := [.ref (X.1 a11), .int x6, .int p1]) (rest := []) hE hH (tz_X6_visit l X ha11 (hf := eM12)) kv_X6_54 qk_65 (by decide) rfl hl.1 rfl (Nat.le_of_ble_eq_true rfl) dX6_walk_59) hH (fun H locs hH => ?_)
        refine lv_aload_n hx hb dX6_walk_62 rfl (lv_at hl 0 rfl) ?_
        obtain ⟨a13, ea13, hf⟩ := st_bd hf
        refine pz_gR hE hH fr_X6_21 qk_65 ea13 dX6_walk_63 (fun ha13 => ?_)
        replace ha13 : q_tou a13 = true := ha13
        refine lv_astore (lv' := [(4, .ref (X.1 a13)), (0, .ref (X.1 65)), (1, .ref (X.1 60)), (2, .int p1), (3, .int x6)]) hx hb dX6_walk_66 hl (by decide) rfl (fun ls hl => ?_)
        refine lv_aload_n hx hb dX6_walk_68 rfl (lv_at hl 1 rfl) ?_
        refine lv_aload_n hx hb dX6_walk_69 rfl (lv_at hl 1 rfl) ?_
        obtain ⟨a14, ea14, hf⟩ := st_bd hf
        refine pz_gR hE hH fr_X6_24 qk_65 ea14 dX6_walk_70 (fun ha14 => ?_)
        replace ha14 : q_tou a14 = true := ha14
        obtain ⟨M15, eM15, hf⟩ := st_lty hf
        refine pz_pR hE hH fw_X6_21 qk_65 (show q_ok 6 3 a14 = true from ha14) eM15 ⟨rfl, rfl⟩ dX6_walk_73 (fun H locs hH => ?_)
        refine lv_aload_n hx hb dX6_walk_76 rfl (lv_at hl 1 rfl) ?_
        refine lv_aload hx hb dX6_walk_77 (lv_at hl 0 rfl) ?_
        obtain ⟨M16, eM16, hf⟩ := st_lty hf
        refine pz_pR hE hH fw_X6_24 qk_65 (show q_ok 6 4 a13 = true from ha13) eM16 ⟨rfl, rfl⟩ dX6_walk_79 (fun H locs hH => ?_)
        obtain ⟨x17, ex17, hf⟩ := st_lty hf
        refine lv_iinc (v := x17) (lv' := [(3, .int x17), (4, .ref (X.1 a13)), (0, .ref (X.1 65)), (1, .ref (X.1 60)), (2, .int p1)]) hx hb dX6_walk_82 hl (k := 4) rfl (by rw [ex17]; rfl) (by decide) rfl (fun ls hl => ?_)
        refine lv_goto (tgt := 41) hx hb dX6_walk_85 (by decide) ?_
        exact hK1 _ (Option.some.inj hf).symm ls H locs hH (lv_sub hl [2, 3, 4, 0] rfl)) _ hlp
  exact hG ls H locs hH (lv_sub hl [1, 2, 3, 0] rfl)

