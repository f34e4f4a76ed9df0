theorem dX9_add_0 : decode cX9_add 0 = .ok (.aload_n 0, 1) := by decide +kernel
theorem dX9_add_1 : decode cX9_add 1 = .ok (.getfield 18, 3) := by decide +kernel
theorem dX9_add_4 : decode cX9_add 4 = .ok (.sipush 160, 3) := by decide +kernel
theorem dX9_add_7 : decode cX9_add 7 = .ok (.if_icmp .lt 5, 3) := by decide +kernel
theorem dX9_add_10 : decode cX9_add 10 = .ok (.iconst 0, 1) := by decide +kernel
theorem dX9_add_11 : decode cX9_add 11 = .ok (.ireturn, 1) := by decide +kernel
theorem dX9_add_12 : decode cX9_add 12 = .ok (.aload_n 0, 1) := by decide +kernel
theorem dX9_add_13 : decode cX9_add 13 = .ok (.getfield 9, 3) := by decide +kernel
theorem dX9_add_16 : decode cX9_add 16 = .ok (.aload_n 0, 1) := by decide +kernel
theorem dX9_add_17 : decode cX9_add 17 = .ok (.getfield 18, 3) := by decide +kernel
theorem dX9_add_20 : decode cX9_add 20 = .ok (.iload_n 1, 1) := by decide +kernel
theorem dX9_add_21 : decode cX9_add 21 = .ok (.iastore, 1) := by decide +kernel
theorem dX9_add_22 : decode cX9_add 22 = .ok (.aload_n 0, 1) := by decide +kernel
theorem dX9_add_23 : decode cX9_add 23 = .ok (.getfield 15, 3) := by decide +kernel
theorem dX9_add_26 : decode cX9_add 26 = .ok (.aload_n 0, 1) := by decide +kernel
theorem dX9_add_27 : decode cX9_add 27 = .ok (.getfield 18, 3) := by decide +kernel
theorem dX9_add_30 : decode cX9_add 30 = .ok (.iload_n 2, 1) := by decide +kernel
theorem dX9_add_31 : decode cX9_add 31 = .ok (.iastore, 1) := by decide +kernel
theorem dX9_add_32 : decode cX9_add 32 = .ok (.aload_n 0, 1) := by decide +kernel
theorem dX9_add_33 : decode cX9_add 33 = .ok (.dup, 1) := by decide +kernel
theorem dX9_add_34 : decode cX9_add 34 = .ok (.getfield 18, 3) := by decide +kernel
theorem dX9_add_37 : decode cX9_add 37 = .ok (.iconst 1, 1) := by decide +kernel
theorem dX9_add_38 : decode cX9_add 38 = .ok (.iadd, 1) := by decide +kernel
theorem dX9_add_39 : decode cX9_add 39 = .ok (.putfield 18, 3) := by decide +kernel
theorem dX9_add_42 : decode cX9_add 42 = .ok (.iconst 1, 1) := by decide +kernel
theorem dX9_add_43 : decode cX9_add 43 = .ok (.ireturn, 1) := by decide +kernel
set_option maxRecDepth 100000 in
set_option maxHeartbeats 4000000 in
theorem tz_X9_add (l : Launch) (X : qX) {k : Nat} {p0 : Int32} {p1 : Int32} {M MR : qM} {r0 : Bool} (hk : q_way k = true) (hf : jWy_add k p0 p1 M = some (r0, MR)) : q_Met l X yX9_add cX9_add 3 (some .boolean) (1) M [.ref (X.1 k), .int p0, .int p1] (q_Qi X (b2i r0) MR) := by
  refine q_enter (by decide) (Nat.le_of_ble_eq_true rfl) ?_
  intro p e s m args below meth c hE hrt hlk H locs hH ls hl
  have hx := hE.1
  have hb := hE.2.1
  have hl : lv_has ls 3 [(0, .ref (X.1 k)), (1, .int p0), (2, .int p1)] := hl
  unfold jWy_add at hf
  refine lv_aload_n hx hb dX9_add_0 rfl (lv_at hl 0 rfl) ?_
  refine pz_gI hE hH fr_X9_18 (q_way_0 hk) dX9_add_1 ?_
  refine lv_sipush (v := 160) hx hb dX9_add_4 (by decide) ?_
  refine lv_icmp_lt (tgt := 12) hx hb dX9_add_7 (by decide) (fun hc => ?_) (fun hc => ?_)
  · replace hf := (if_pos hc).symm.trans hf
    refine lv_aload_n hx hb dX9_add_12 rfl (lv_at hl 0 rfl) ?_
    refine pz_gS (a := k + 1) hE hH fr_X9_9 (q_way_0 hk) rfl dX9_add_13 ?_
    refine lv_aload_n hx hb dX9_add_16 rfl (lv_at hl 0 rfl) ?_
    refine pz_gI hE hH fr_X9_18 (q_way_0 hk) dX9_add_17 ?_
    refine lv_iload_n hx hb dX9_add_20 rfl (lv_at hl 1 rfl) ?_
    obtain ⟨M1, eM1, hf⟩ := st_bd hf
    refine pz_iast hE hH (q_way_1 hk) eM1 dX9_add_21 (fun H locs hH => ?_)
    refine lv_aload_n hx hb dX9_add_22 rfl (lv_at hl 0 rfl) ?_
    refine pz_gS (a := k + 2) hE hH fr_X9_15 (q_way_0 hk) rfl dX9_add_23 ?_
    refine lv_aload_n hx hb dX9_add_26 rfl (lv_at hl 0 rfl) ?_
    refine pz_gI hE hH fr_X9_18 (q_way_0 hk) dX9_add_27 ?_
    refine lv_iload_n hx hb dX9_add_30 rfl (lv_at hl 2 rfl) ?_
    obtain ⟨M2, eM2, hf⟩ := st_bd hf
    refine pz_iast hE hH (q_way_2 hk) eM2 dX9_add_31 (fun H locs hH => ?_)
    refine lv_aload_n hx hb dX9_add_32 rfl (lv_at hl 0 rfl) ?_
    refine lv_dup hx hb dX9_add_33 rfl ?_
    refine pz_gI hE hH fr_X9_18 (q_way_0 hk) dX9_add_34 ?_
    refine lv_iconst (v := 1) hx hb dX9_add_37 (by decide) ?_
    refine lv_iadd hx hb dX9_add_38 ?_
    obtain ⟨M3, eM3, hf⟩ := st_lty hf
    refine pz_pI hE hH fw_X9_18 (q_way_0 hk)  eM3 dX9_add_39 (fun H locs hH => ?_)
    refine lv_iconst (v := 1) hx hb dX9_add_42 (by decide) ?_
    replace hf := Option.some.inj hf
    obtain ⟨rfl, rfl⟩ := qi2 hf
    exact pz_retz hE hrt hlk hH rfl dX9_add_43
  · replace hf := (if_neg hc).symm.trans hf
    refine lv_iconst (v := 0) hx hb dX9_add_10 (by decide) ?_
    replace hf := Option.some.inj hf
    obtain ⟨rfl, rfl⟩ := qi2 hf
    exact pz_retz hE hrt hlk hH rfl dX9_add_11

theorem dX9_leadTo_0 : decode cX9_leadTo 0 = .ok (.iload_n 1, 1) := by decide +kernel
theorem dX9_leadTo_1 : decode cX9_leadTo 1 = .ok (.aload_n 0, 1) := by decide +kernel
theorem dX9_leadTo_2 : decode cX9_leadTo 2 = .ok (.getfield 18, 3) := by decide +kernel
theorem dX9_leadTo_5 : decode cX9_leadTo 5 = .ok (.invokestatic 22, 3) := by decide +kernel
theorem dX9_leadTo_8 : decode cX9_leadTo 8 = .ok (.ifCond .eq 10, 3) := by decide +kernel
theorem dX9_leadTo_11 : decode cX9_leadTo 11 = .ok (.aload_n 0, 1) := by decide +kernel
theorem dX9_leadTo_12 : decode cX9_leadTo 12 = .ok (.getfield 15, 3) := by decide +kernel
theorem dX9_leadTo_15 : decode cX9_leadTo 15 = .ok (.iload_n 1, 1) := by decide +kernel
theorem dX9_leadTo_16 : decode cX9_leadTo 16 = .ok (.iload_n 2, 1) := by decide +kernel
theorem dX9_leadTo_17 : decode cX9_leadTo 17 = .ok (.iastore, 1) := by decide +kernel
theorem dX9_leadTo_18 : decode cX9_leadTo 18 = .ok (.return_, 1) := by decide +kernel
set_option maxRecDepth 100000 in
set_option maxHeartbeats 4000000 in
theorem tz_X9_leadTo (l : Launch) (X : qX) {k : Nat} {p0 : Int32} {p1 : Int32} {M MR : qM} (hk : q_way k = true) (hf : jWy_leadTo k p0 p1 M = some MR) : q_Met l X yX9_leadTo cX9_leadTo 3 none (2) M [.ref (X.1 k), .int p0, .int p1] (q_Qv X MR) := by
  refine q_enter (by decide) (Nat.le_of_ble_eq_true rfl) ?_
  intro p e s m args below meth c hE hrt hlk H locs hH ls hl
  have hx := hE.1
  have hb := hE.2.1
  have hl : lv_has ls 3 [(0, .ref (X.1 k)), (1, .int p0), (2, .int p1)] := hl
  unfold jWy_leadTo at hf
  refine lv_iload_n hx hb dX9_leadTo_0 rfl (lv_at hl 1 rfl) ?_
  refine lv_aload_n hx hb dX9_leadTo_1 rfl (lv_at hl 0 rfl) ?_
  refine pz_gI hE hH fr_X9_18 (q_way_0 hk) dX9_leadTo_2 ?_
  refine q_calli (q_runSN (As := [.int p0, .int (M.1 k 2)]) (rest := []) hE hH (tz_X11_isOf l X (M := M) (hf := rfl)) kn_X9_22 (by decide) rfl hl.1 rfl (Nat.le_of_ble_eq_true rfl) dX9_leadTo_5) hH (fun H locs hH => ?_)
  obtain ⟨M1, hr, hf⟩ := st_bd hf
  have hJ : ∀ (ls : Array Slot) (H : Heap) (locs : List Loc), q_H X M1 s H locs → lv_has ls 3 [] → W p l e (q_rm (2)) s m args below meth c H locs 0 0 (MQ below (q_Qv X MR) args s 0 0 (q_A X)) (F0 m 18 ls []) := by
    intro ls H locs hH hl
    replace hf := Option.some.inj hf
    subst hf
    exact pz_retv hE hrt hlk hH dX9_leadTo_18
  clear hf
  replace hf := hr
  refine lv_if_eq (tgt := 18) hx hb dX9_leadTo_8 (by decide) (fun hc => ?_) (fun hc => ?_)
  · replace hf := (if_pos hc).symm.trans hf
    replace hf := Option.some.inj hf
    subst hf
    exact hJ ls H locs hH (lv_sub hl [] rfl)
  · replace hf := (if_neg hc).symm.trans hf
    refine lv_aload_n hx hb dX9_leadTo_11 rfl (lv_at hl 0 rfl) ?_
    refine pz_gS (a := k + 2) hE hH fr_X9_15 (q_way_0 hk) rfl dX9_leadTo_12 ?_
    refine lv_iload_n hx hb dX9_leadTo_15 rfl (lv_at hl 1 rfl) ?_
    refine lv_iload_n hx hb dX9_leadTo_16 rfl (lv_at hl 2 rfl) ?_
    obtain ⟨M2, eM2, hf⟩ := st_bd hf
    refine pz_iast hE hH (q_way_2 hk) eM2 dX9_leadTo_17 (fun H locs hH => ?_)
    replace hf := Option.some.inj hf
    subst hf
    exact hJ ls H locs hH (lv_sub hl [] rfl)

theorem dX9_joined_0 : decode cX9_joined 0 = .ok (.iload_n 0, 1) := by decide +kernel
theorem dX9_joined_1 : decode cX9_joined 1 = .ok (.tableswitch 196 38 62 #[192, 196, 196, 196, 133, 115, 196, 124, 196, 142, 196, 196, 196, 196, 196, 196, 196, 196, 196, 196, 196, 196, 170, 159, 181], 115) := by decide +kernel
theorem dX9_joined_116 : decode cX9_joined 116 = .ok (.iload_n 1, 1) := by decide +kernel
theorem dX9_joined_117 : decode cX9_joined 117 = .ok (.i2l, 1) := by decide +kernel
theorem dX9_joined_118 : decode cX9_joined 118 = .ok (.iload_n 2, 1) := by decide +kernel
theorem dX9_joined_119 : decode cX9_joined 119 = .ok (.i2l, 1) := by decide +kernel
theorem dX9_joined_120 : decode cX9_joined 120 = .ok (.ladd, 1) := by decide +kernel
theorem dX9_joined_121 : decode cX9_joined 121 = .ok (.lstore_n 3, 1) := by decide +kernel
theorem dX9_joined_122 : decode cX9_joined 122 = .ok (.goto 79, 3) := by decide +kernel
theorem dX9_joined_125 : decode cX9_joined 125 = .ok (.iload_n 1, 1) := by decide +kernel
theorem dX9_joined_126 : decode cX9_joined 126 = .ok (.i2l, 1) := by decide +kernel
theorem dX9_joined_127 : decode cX9_joined 127 = .ok (.iload_n 2, 1) := by decide +kernel
theorem dX9_joined_128 : decode cX9_joined 128 = .ok (.i2l, 1) := by decide +kernel
theorem dX9_joined_129 : decode cX9_joined 129 = .ok (.lsub, 1) := by decide +kernel
theorem dX9_joined_130 : decode cX9_joined 130 = .ok (.lstore_n 3, 1) := by decide +kernel
theorem dX9_joined_131 : decode cX9_joined 131 = .ok (.goto 70, 3) := by decide +kernel
theorem dX9_joined_134 : decode cX9_joined 134 = .ok (.iload_n 1, 1) := by decide +kernel
theorem dX9_joined_135 : decode cX9_joined 135 = .ok (.i2l, 1) := by decide +kernel
theorem dX9_joined_136 : decode cX9_joined 136 = .ok (.iload_n 2, 1) := by decide +kernel
theorem dX9_joined_137 : decode cX9_joined 137 = .ok (.i2l, 1) := by decide +kernel
theorem dX9_joined_138 : decode cX9_joined 138 = .ok (.lmul, 1) := by decide +kernel
theorem dX9_joined_139 : decode cX9_joined 139 = .ok (.lstore_n 3, 1) := by decide +kernel
theorem dX9_joined_140 : decode cX9_joined 140 = .ok (.goto 61, 3) := by decide +kernel
theorem dX9_joined_143 : decode cX9_joined 143 = .ok (.iload_n 2, 1) := by decide +kernel
theorem dX9_joined_144 : decode cX9_joined 144 = .ok (.ifCond .ne 7, 3) := by decide +kernel
theorem dX9_joined_147 : decode cX9_joined 147 = .ok (.lconst 0, 1) := by decide +kernel
theorem dX9_joined_148 : decode cX9_joined 148 = .ok (.goto 8, 3) := by decide +kernel
theorem dX9_joined_151 : decode cX9_joined 151 = .ok (.iload_n 1, 1) := by decide +kernel
theorem dX9_joined_152 : decode cX9_joined 152 = .ok (.i2l, 1) := by decide +kernel
theorem dX9_joined_153 : decode cX9_joined 153 = .ok (.iload_n 2, 1) := by decide +kernel
theorem dX9_joined_154 : decode cX9_joined 154 = .ok (.i2l, 1) := by decide +kernel
theorem dX9_joined_155 : decode cX9_joined 155 = .ok (.ldiv, 1) := by decide +kernel
theorem dX9_joined_156 : decode cX9_joined 156 = .ok (.lstore_n 3, 1) := by decide +kernel
theorem dX9_joined_157 : decode cX9_joined 157 = .ok (.goto 44, 3) := by decide +kernel
theorem dX9_joined_160 : decode cX9_joined 160 = .ok (.iload_n 1, 1) := by decide +kernel
theorem dX9_joined_161 : decode cX9_joined 161 = .ok (.iload_n 2, 1) := by decide +kernel
theorem dX9_joined_162 : decode cX9_joined 162 = .ok (.if_icmp .ne 7, 3) := by decide +kernel
theorem dX9_joined_165 : decode cX9_joined 165 = .ok (.iconst 1, 1) := by decide +kernel
theorem dX9_joined_166 : decode cX9_joined 166 = .ok (.goto 4, 3) := by decide +kernel
theorem dX9_joined_169 : decode cX9_joined 169 = .ok (.iconst 0, 1) := by decide +kernel
theorem dX9_joined_170 : decode cX9_joined 170 = .ok (.ireturn, 1) := by decide +kernel
theorem dX9_joined_171 : decode cX9_joined 171 = .ok (.iload_n 1, 1) := by decide +kernel
theorem dX9_joined_172 : decode cX9_joined 172 = .ok (.iload_n 2, 1) := by decide +kernel
theorem dX9_joined_173 : decode cX9_joined 173 = .ok (.if_icmp .ge 7, 3) := by decide +kernel
theorem dX9_joined_176 : decode cX9_joined 176 = .ok (.iconst 1, 1) := by decide +kernel
theorem dX9_joined_177 : decode cX9_joined 177 = .ok (.goto 4, 3) := by decide +kernel
theorem dX9_joined_180 : decode cX9_joined 180 = .ok (.iconst 0, 1) := by decide +kernel
theorem dX9_joined_181 : decode cX9_joined 181 = .ok (.ireturn, 1) := by decide +kernel
theorem dX9_joined_182 : decode cX9_joined 182 = .ok (.iload_n 1, 1) := by decide +kernel
theorem dX9_joined_183 : decode cX9_joined 183 = .ok (.iload_n 2, 1) := by decide +kernel
theorem dX9_joined_184 : decode cX9_joined 184 = .ok (.if_icmp .le 7, 3) := by decide +kernel
theorem dX9_joined_187 : decode cX9_joined 187 = .ok (.iconst 1, 1) := by decide +kernel
theorem dX9_joined_188 : decode cX9_joined 188 = .ok (.goto 4, 3) := by decide +kernel
theorem dX9_joined_191 : decode cX9_joined 191 = .ok (.iconst 0, 1) := by decide +kernel
theorem dX9_joined_192 : decode cX9_joined 192 = .ok (.ireturn, 1) := by decide +kernel
theorem dX9_joined_193 : decode cX9_joined 193 = .ok (.iload_n 1, 1) := by decide +kernel
theorem dX9_joined_194 : decode cX9_joined 194 = .ok (.iload_n 2, 1) := by decide +kernel
theorem dX9_joined_195 : decode cX9_joined 195 = .ok (.iand, 1) := by decide +kernel
theorem dX9_joined_196 : decode cX9_joined 196 = .ok (.ireturn, 1) := by decide +kernel
theorem dX9_joined_197 : decode cX9_joined 197 = .ok (.iload_n 1, 1) := by decide +kernel
theorem dX9_joined_198 : decode cX9_joined 198 = .ok (.iload_n 2, 1) := by decide +kernel
theorem dX9_joined_199 : decode cX9_joined 199 = .ok (.ior, 1) := by decide +kernel
theorem dX9_joined_200 : decode cX9_joined 200 = .ok (.ireturn, 1) := by decide +kernel
theorem dX9_joined_201 : decode cX9_joined 201 = .ok (.lload_n 3, 1) := by decide +kernel
theorem dX9_joined_202 : decode cX9_joined 202 = .ok (.ldc2_w 36, 3) := by decide +kernel
theorem dX9_joined_205 : decode cX9_joined 205 = .ok (.lcmp, 1) := by decide +kernel
theorem dX9_joined_206 : decode cX9_joined 206 = .ok (.ifCond .le 8, 3) := by decide +kernel
theorem dX9_joined_209 : decode cX9_joined 209 = .ok (.ldc 38, 2) := by decide +kernel
theorem dX9_joined_211 : decode cX9_joined 211 = .ok (.goto 18, 3) := by decide +kernel
theorem dX9_joined_214 : decode cX9_joined 214 = .ok (.lload_n 3, 1) := by decide +kernel
theorem dX9_joined_215 : decode cX9_joined 215 = .ok (.ldc2_w 39, 3) := by decide +kernel
theorem dX9_joined_218 : decode cX9_joined 218 = .ok (.lcmp, 1) := by decide +kernel
theorem dX9_joined_219 : decode cX9_joined 219 = .ok (.ifCond .ge 8, 3) := by decide +kernel
theorem dX9_joined_222 : decode cX9_joined 222 = .ok (.ldc 41, 2) := by decide +kernel
theorem dX9_joined_224 : decode cX9_joined 224 = .ok (.goto 5, 3) := by decide +kernel
theorem dX9_joined_227 : decode cX9_joined 227 = .ok (.lload_n 3, 1) := by decide +kernel
theorem dX9_joined_228 : decode cX9_joined 228 = .ok (.l2i, 1) := by decide +kernel
theorem dX9_joined_229 : decode cX9_joined 229 = .ok (.ireturn, 1) := by decide +kernel
set_option maxRecDepth 100000 in
set_option maxHeartbeats 4000000 in
theorem tz_X9_joined (l : Launch) (X : qX) {p0 : Int32} {p1 : Int32} {p2 : Int32} {M : qM} {r0 : Int32} (hf : jWy_joined p0 p1 p2 = some r0) : q_Met l X yX9_joined cX9_joined 5 (some .int) (1) M [.int p0, .int p1, .int p2] (q_Qi X r0 M) := by
  refine q_enter (by decide) (Nat.le_of_ble_eq_true rfl) ?_
  intro p e s m args below meth c hE hrt hlk H locs hH ls hl
  have hx := hE.1
  have hb := hE.2.1
  have hl : lv_has ls 5 [(0, .int p0), (1, .int p1), (2, .int p2)] := hl
  unfold jWy_joined at hf
  refine lv_iload_n hx hb dX9_joined_0 rfl (lv_at hl 0 rfl) ?_
  by_cases hc38 : (p0 : Int32) = 38
  · replace hf := (if_pos hc38).symm.trans hf
    refine lv_tableIn (off := 192) (tgt := 193) hx hb dX9_joined_1 (by rw [hc38]; decide) (by rw [hc38]; decide) (by rw [hc38]; decide) (by decide) ?_
    refine lv_iload_n hx hb dX9_joined_193 rfl (lv_at hl 1 rfl) ?_
    refine lv_iload_n hx hb dX9_joined_194 rfl (lv_at hl 2 rfl) ?_
    refine lv_iand hx hb dX9_joined_195 ?_
    replace hf := Option.some.inj hf
    subst hf
    exact pz_reti hE hrt hlk hH dX9_joined_196
  · replace hf := (if_neg hc38).symm.trans hf
    by_cases hc42 : (p0 : Int32) = 42
    · replace hf := (if_pos hc42).symm.trans hf
      refine lv_tableIn (off := 133) (tgt := 134) hx hb dX9_joined_1 (by rw [hc42]; decide) (by rw [hc42]; decide) (by rw [hc42]; decide) (by decide) ?_
      refine lv_iload_n hx hb dX9_joined_134 rfl (lv_at hl 1 rfl) ?_
      refine lv_i2l (v := (p1 : Int32).toInt64) hx hb dX9_joined_135 rfl ?_
      refine lv_iload_n hx hb dX9_joined_136 rfl (lv_at hl 2 rfl) ?_
      refine lv_i2l (v := (p2 : Int32).toInt64) hx hb dX9_joined_137 rfl ?_
      refine lv_lmul hx hb dX9_joined_138 ?_
      refine lv_topl (fun x1 ex1 => ?_)
      replace hf := st_lt hf ex1
      refine lv_lstore_n (lv' := [(3, .long x1), (0, .int p0), (1, .int p1), (2, .int p2)]) hx hb dX9_joined_139 rfl hl (by decide) rfl (fun ls hl => ?_)
      refine lv_goto (tgt := 201) hx hb dX9_joined_140 (by decide) ?_
      refine lv_lload_n hx hb dX9_joined_201 rfl (lv_at hl 0 rfl) ?_
      refine pz_ldc2 (v := 1000000) hE (q_in _ 850 (by decide +kernel) rfl) dX9_joined_202 ?_
      refine W.lcmp hx hb dX9_joined_205 ?_
      obtain ⟨x2, hr, hf⟩ := st_ltx hf
      have hJ : ∀ (ls : Array Slot) (H : Heap) (locs : List Loc), q_H X M s H locs → lv_has ls 5 [] → W p l e (q_rm (1)) s m args below meth c H locs 0 0 (MQ below (q_Qi X r0 M) args s 0 0 (q_A X)) (F0 m 229 ls [.int x2]) := by
        intro ls H locs hH hl
        replace hf := Option.some.inj hf
        subst hf
        exact pz_reti hE hrt hlk hH dX9_joined_229
      clear hf
      replace hf := hr
      refine lv_if_le (tgt := 214) hx hb dX9_joined_206 (by decide) (fun hc => ?_) (fun hc => ?_)
      · replace hf := (if_pos hc).symm.trans hf
        refine lv_lload_n hx hb dX9_joined_214 rfl (lv_at hl 0 rfl) ?_
        refine pz_ldc2 (v := (-1000000)) hE (q_in _ 852 (by decide +kernel) rfl) dX9_joined_215 ?_
        refine W.lcmp hx hb dX9_joined_218 ?_
        refine lv_if_ge (tgt := 227) hx hb dX9_joined_219 (by decide) (fun hc => ?_) (fun hc => ?_)
        · replace hf := (if_pos hc).symm.trans hf
          refine lv_lload_n hx hb dX9_joined_227 rfl (lv_at hl 0 rfl) ?_
          refine lv_l2i (v := (x1 : Int64).toInt32) hx hb dX9_joined_228 rfl ?_
          subst hf
          exact hJ ls H locs hH (lv_sub hl [] rfl)
        · replace hf := (if_neg hc).symm.trans hf
          refine pz_ldc (v := (-1000000)) hE (q_in _ 853 (by decide +kernel) rfl) dX9_joined_222 ?_
          refine lv_goto (tgt := 229) hx hb dX9_joined_224 (by decide) ?_
          subst hf
          exact hJ ls H locs hH (lv_sub hl [] rfl)
      · replace hf := (if_neg hc).symm.trans hf
        refine pz_ldc (v := 1000000) hE (q_in _ 851 (by decide +kernel) rfl) dX9_joined_209 ?_
        refine lv_goto (tgt := 229) hx hb dX9_joined_211 (by decide) ?_
        subst hf
        exact hJ ls H locs hH (lv_sub hl [] rfl)
    · replace hf := (if_neg hc42).symm.trans hf
      by_cases hc43 : (p0 : Int32) = 43
      · replace hf := (if_pos hc43).symm.trans hf
        refine lv_tableIn (off := 115) (tgt := 116) hx hb dX9_joined_1 (by rw [hc43]; decide) (by rw [hc43]; decide) (by rw [hc43]; decide) (by decide) ?_
        refine lv_iload_n hx hb dX9_joined_116 rfl (lv_at hl 1 rfl) ?_
        refine lv_i2l (v := (p1 : Int32).toInt64) hx hb dX9_joined_117 rfl ?_
        refine lv_iload_n hx hb dX9_joined_118 rfl (lv_at hl 2 rfl) ?_
        refine lv_i2l (v := (p2 : Int32).toInt64) hx hb dX9_joined_119 rfl ?_
        refine lv_ladd hx hb dX9_joined_120 ?_
        refine lv_topl (fun x3 ex3 => ?_)
        replace hf := st_lt hf ex3
        refine lv_lstore_n (lv' := [(3, .long x3), (0, .int p0), (1, .int p1), (2, .int p2)]) hx hb dX9_joined_121 rfl hl (by decide) rfl (fun ls hl => ?_)
        refine lv_goto (tgt := 201) hx hb dX9_joined_122 (by decide) ?_
        refine lv_lload_n hx hb dX9_joined_201 rfl (lv_at hl 0 rfl) ?_
        refine pz_ldc2 (v := 1000000) hE (q_in _ 850 (by decide +kernel) rfl) dX9_joined_202 ?_
        refine W.lcmp hx hb dX9_joined_205 ?_
        obtain ⟨x4, hr, hf⟩ := st_ltx hf
        have hJ : ∀ (ls : Array Slot) (H : Heap) (locs : List Loc), q_H X M s H locs → lv_has ls 5 [] → W p l e (q_rm (1)) s m args below meth c H locs 0 0 (MQ below (q_Qi X r0 M) args s 0 0 (q_A X)) (F0 m 229 ls [.int x4]) := by
          intro ls H locs hH hl
          replace hf := Option.some.inj hf
          subst hf
          exact pz_reti hE hrt hlk hH dX9_joined_229
        clear hf
        replace hf := hr
        refine lv_if_le (tgt := 214) hx hb dX9_joined_206 (by decide) (fun hc => ?_) (fun hc => ?_)
        · replace hf := (if_pos hc).symm.trans hf
          refine lv_lload_n hx hb dX9_joined_214 rfl (lv_at hl 0 rfl) ?_
          refine pz_ldc2 (v := (-1000000)) hE (q_in _ 852 (by decide +kernel) rfl) dX9_joined_215 ?_
          refine W.lcmp hx hb dX9_joined_218 ?_
          refine lv_if_ge (tgt := 227) hx hb dX9_joined_219 (by decide) (fun hc => ?_) (fun hc => ?_)
          · replace hf := (if_pos hc).symm.trans hf
            refine lv_lload_n hx hb dX9_joined_227 rfl (lv_at hl 0 rfl) ?_
            refine lv_l2i (v := (x3 : Int64).toInt32) hx hb dX9_joined_228 rfl ?_
            subst hf
            exact hJ ls H locs hH (lv_sub hl [] rfl)
          · replace hf := (if_neg hc).symm.trans hf
            refine pz_ldc (v := (-1000000)) hE (q_in _ 853 (by decide +kernel) rfl) dX9_joined_222 ?_
            refine lv_goto (tgt := 229) hx hb dX9_joined_224 (by decide) ?_
            subst hf
            exact hJ ls H locs hH (lv_sub hl [] rfl)
        · replace hf := (if_neg hc).symm.trans hf
          refine pz_ldc (v := 1000000) hE (q_in _ 851 (by decide +kernel) rfl) dX9_joined_209 ?_
          refine lv_goto (tgt := 229) hx hb dX9_joined_211 (by decide) ?_
          subst hf
          exact hJ ls H locs hH (lv_sub hl [] rfl)
      · replace hf := (if_neg hc43).symm.trans hf
        by_cases hc45 : (p0 : Int32) = 45
        · replace hf := (if_pos hc45).symm.trans hf
          refine lv_tableIn (off := 124) (tgt := 125) hx hb dX9_joined_1 (by rw [hc45]; decide) (by rw [hc45]; decide) (by rw [hc45]; decide) (by decide) ?_
          refine lv_iload_n hx hb dX9_joined_125 rfl (lv_at hl 1 rfl) ?_
          refine lv_i2l (v := (p1 : Int32).toInt64) hx hb dX9_joined_126 rfl ?_
          refine lv_iload_n hx hb dX9_joined_127 rfl (lv_at hl 2 rfl) ?_
          refine lv_i2l (v := (p2 : Int32).toInt64) hx hb dX9_joined_128 rfl ?_
          refine lv_lsub hx hb dX9_joined_129 ?_
          refine lv_topl (fun x5 ex5 => ?_)
          replace hf := st_lt hf ex5
          refine lv_lstore_n (lv' := [(3, .long x5), (0, .int p0), (1, .int p1), (2, .int p2)]) hx hb dX9_joined_130 rfl hl (by decide) rfl (fun ls hl => ?_)
          refine lv_goto (tgt := 201) hx hb dX9_joined_131 (by decide) ?_
          refine lv_lload_n hx hb dX9_joined_201 rfl (lv_at hl 0 rfl) ?_
          refine pz_ldc2 (v := 1000000) hE (q_in _ 850 (by decide +kernel) rfl) dX9_joined_202 ?_
          refine W.lcmp hx hb dX9_joined_205 ?_
          obtain ⟨x6, hr, hf⟩ := st_ltx hf
          have hJ : ∀ (ls : Array Slot) (H : Heap) (locs : List Loc), q_H X M s H locs → lv_has ls 5 [] → W p l e (q_rm (1)) s m args below meth c H locs 0 0 (MQ below (q_Qi X r0 M) args s 0 0 (q_A X)) (F0 m 229 ls [.int x6]) := by
            intro ls H locs hH hl
            replace hf := Option.some.inj hf
            subst hf
            exact pz_reti hE hrt hlk hH dX9_joined_229
          clear hf
          replace hf := hr
          refine lv_if_le (tgt := 214) hx hb dX9_joined_206 (by decide) (fun hc => ?_) (fun hc => ?_)
          · replace hf := (if_pos hc).symm.trans hf
            refine lv_lload_n hx hb dX9_joined_214 rfl (lv_at hl 0 rfl) ?_
            refine pz_ldc2 (v := (-1000000)) hE (q_in _ 852 (by decide +kernel) rfl) dX9_joined_215 ?_
            refine W.lcmp hx hb dX9_joined_218 ?_
            refine lv_if_ge (tgt := 227) hx hb dX9_joined_219 (by decide) (fun hc => ?_) (fun hc => ?_)
            · replace hf := (if_pos hc).symm.trans hf
              refine lv_lload_n hx hb dX9_joined_227 rfl (lv_at hl 0 rfl) ?_
              refine lv_l2i (v := (x5 : Int64).toInt32) hx hb dX9_joined_228 rfl ?_
              subst hf
              exact hJ ls H locs hH (lv_sub hl [] rfl)
            · replace hf := (if_neg hc).symm.trans hf
              refine pz_ldc (v := (-1000000)) hE (q_in _ 853 (by decide +kernel) rfl) dX9_joined_222 ?_
              refine lv_goto (tgt := 229) hx hb dX9_joined_224 (by decide) ?_
              subst hf
              exact hJ ls H locs hH (lv_sub hl [] rfl)
          · replace hf := (if_neg hc).symm.trans hf
            refine pz_ldc (v := 1000000) hE (q_in _ 851 (by decide +kernel) rfl) dX9_joined_209 ?_
            refine lv_goto (tgt := 229) hx hb dX9_joined_211 (by decide) ?_
            subst hf
            exact hJ ls H locs hH (lv_sub hl [] rfl)
        · replace hf := (if_neg hc45).symm.trans hf
          by_cases hc47 : (p0 : Int32) = 47
          · replace hf := (if_pos hc47).symm.trans hf
            refine lv_tableIn (off := 142) (tgt := 143) hx hb dX9_joined_1 (by rw [hc47]; decide) (by rw [hc47]; decide) (by rw [hc47]; decide) (by decide) ?_
            refine lv_iload_n hx hb dX9_joined_143 rfl (lv_at hl 2 rfl) ?_
            obtain ⟨x7, hr, hf⟩ := st_bd hf
            have hJ : ∀ (ls : Array Slot) (H : Heap) (locs : List Loc), q_H X M s H locs → lv_has ls 5 [] → W p l e (q_rm (1)) s m args below meth c H locs 0 0 (MQ below (q_Qi X r0 M) args s 0 0 (q_A X)) (F0 m 156 ls [.long x7]) := by
              intro ls H locs hH hl
              refine lv_lstore_n (lv' := [(3, .long x7)]) hx hb dX9_joined_156 rfl hl (by decide) rfl (fun ls hl => ?_)
              refine lv_goto (tgt := 201) hx hb dX9_joined_157 (by decide) ?_
              refine lv_lload_n hx hb dX9_joined_201 rfl (lv_at hl 0 rfl) ?_
              refine pz_ldc2 (v := 1000000) hE (q_in _ 850 (by decide +kernel) rfl) dX9_joined_202 ?_
              refine W.lcmp hx hb dX9_joined_205 ?_
              obtain ⟨x8, hr, hf⟩ := st_ltx hf
              have hJ : ∀ (ls : Array Slot) (H : Heap) (locs : List Loc), q_H X M s H locs → lv_has ls 5 [] → W p l e (q_rm (1)) s m args below meth c H locs 0 0 (MQ below (q_Qi X r0 M) args s 0 0 (q_A X)) (F0 m 229 ls [.int x8]) := by
                intro ls H locs hH hl
                replace hf := Option.some.inj hf
                subst hf
                exact pz_reti hE hrt hlk hH dX9_joined_229
              clear hf
              replace hf := hr
              refine lv_if_le (tgt := 214) hx hb dX9_joined_206 (by decide) (fun hc => ?_) (fun hc => ?_)
              · replace hf := (if_pos hc).symm.trans hf
                refine lv_lload_n hx hb dX9_joined_214 rfl (lv_at hl 0 rfl) ?_
                refine pz_ldc2 (v := (-1000000)) hE (q_in _ 852 (by decide +kernel) rfl) dX9_joined_215 ?_
                refine W.lcmp hx hb dX9_joined_218 ?_
                refine lv_if_ge (tgt := 227) hx hb dX9_joined_219 (by decide) (fun hc => ?_) (fun hc => ?_)
                · replace hf := (if_pos hc).symm.trans hf
                  refine lv_lload_n hx hb dX9_joined_227 rfl (lv_at hl 0 rfl) ?_
                  refine lv_l2i (v := (x7 : Int64).toInt32) hx hb dX9_joined_228 rfl ?_
                  subst hf
                  exact hJ ls H locs hH (lv_sub hl [] rfl)
                · replace hf := (if_neg hc).symm.trans hf
                  refine pz_ldc (v := (-1000000)) hE (q_in _ 853 (by decide +kernel) rfl) dX9_joined_222 ?_
                  refine lv_goto (tgt := 229) hx hb dX9_joined_224 (by decide) ?_
                  subst hf
                  exact hJ ls H locs hH (lv_sub hl [] rfl)
              · replace hf := (if_neg hc).symm.trans hf
                refine pz_ldc (v := 1000000) hE (q_in _ 851 (by decide +kernel) rfl) dX9_joined_209 ?_
                refine lv_goto (tgt := 229) hx hb dX9_joined_211 (by decide) ?_
                subst hf
                exact hJ ls H locs hH (lv_sub hl [] rfl)
            clear hf
            replace hf := hr
            refine lv_if_ne (tgt := 151) hx hb dX9_joined_144 (by decide) (fun hc => ?_) (fun hc => ?_)
            · replace hf := (if_neg hc).symm.trans hf
              refine lv_iload_n hx hb dX9_joined_151 rfl (lv_at hl 1 rfl) ?_
              refine lv_i2l (v := (p1 : Int32).toInt64) hx hb dX9_joined_152 rfl ?_
              refine lv_iload_n hx hb dX9_joined_153 rfl (lv_at hl 2 rfl) ?_
              refine lv_i2l (v := (p2 : Int32).toInt64) hx hb dX9_joined_154 rfl ?_
              obtain ⟨v9, ev9, hf⟩ := st_bd hf
              refine pz_ldiv hE ev9 dX9_joined_155 ?_
              replace hf := Option.some.inj hf
              subst hf
              exact hJ ls H locs hH (lv_sub hl [] rfl)
            · replace hf := (if_pos hc).symm.trans hf
              refine lv_lconst (v := 0) hx hb dX9_joined_147 (by decide) ?_
              refine lv_goto (tgt := 156) hx hb dX9_joined_148 (by decide) ?_
              replace hf := Option.some.inj hf
              subst hf
              exact hJ ls H locs hH (lv_sub hl [] rfl)
          · replace hf := (if_neg hc47).symm.trans hf
            by_cases hc60 : (p0 : Int32) = 60
            · replace hf := (if_pos hc60).symm.trans hf
              refine lv_tableIn (off := 170) (tgt := 171) hx hb dX9_joined_1 (by rw [hc60]; decide) (by rw [hc60]; decide) (by rw [hc60]; decide) (by decide) ?_
              refine lv_iload_n hx hb dX9_joined_171 rfl (lv_at hl 1 rfl) ?_
              refine lv_iload_n hx hb dX9_joined_172 rfl (lv_at hl 2 rfl) ?_
              obtain ⟨z10, hr, hf⟩ := st_ltx hf
              have hJ : ∀ (ls : Array Slot) (H : Heap) (locs : List Loc), q_H X M s H locs → lv_has ls 5 [] → W p l e (q_rm (1)) s m args below meth c H locs 0 0 (MQ below (q_Qi X r0 M) args s 0 0 (q_A X)) (F0 m 181 ls [.int (b2i z10)]) := by
                intro ls H locs hH hl
                replace hf := Option.some.inj hf
                subst hf
                exact pz_reti hE hrt hlk hH dX9_joined_181
              clear hf
              replace hf := hr
              refine lv_icmp_ge (tgt := 180) hx hb dX9_joined_173 (by decide) (fun hc => ?_) (fun hc => ?_)
              · replace hf := (if_pos hc).symm.trans hf
                refine lv_iconst (v := 0) hx hb dX9_joined_180 (by decide) ?_
                subst hf
                exact hJ ls H locs hH (lv_sub hl [] rfl)
              · replace hf := (if_neg hc).symm.trans hf
                refine lv_iconst (v := 1) hx hb dX9_joined_176 (by decide) ?_
                refine lv_goto (tgt := 181) hx hb dX9_joined_177 (by decide) ?_
                subst hf
                exact hJ ls H locs hH (lv_sub hl [] rfl)
            · replace hf := (if_neg hc60).symm.trans hf
              by_cases hc61 : (p0 : Int32) = 61
              · replace hf := (if_pos hc61).symm.trans hf
                refine lv_tableIn (off := 159) (tgt := 160) hx hb dX9_joined_1 (by rw [hc61]; decide) (by rw [hc61]; decide) (by rw [hc61]; decide) (by decide) ?_
                refine lv_iload_n hx hb dX9_joined_160 rfl (lv_at hl 1 rfl) ?_
                refine lv_iload_n hx hb dX9_joined_161 rfl (lv_at hl 2 rfl) ?_
                obtain ⟨z11, hr, hf⟩ := st_ltx hf
                have hJ : ∀ (ls : Array Slot) (H : Heap) (locs : List Loc), q_H X M s H locs → lv_has ls 5 [] → W p l e (q_rm (1)) s m args below meth c H locs 0 0 (MQ below (q_Qi X r0 M) args s 0 0 (q_A X)) (F0 m 170 ls [.int (b2i z11)]) := by
                  intro ls H locs hH hl
                  replace hf := Option.some.inj hf
                  subst hf
                  exact pz_reti hE hrt hlk hH dX9_joined_170
                clear hf
                replace hf := hr
                refine lv_icmp_ne (tgt := 169) hx hb dX9_joined_162 (by decide) (fun hc => ?_) (fun hc => ?_)
                · replace hf := (if_neg hc).symm.trans hf
                  refine lv_iconst (v := 0) hx hb dX9_joined_169 (by decide) ?_
                  subst hf
                  exact hJ ls H locs hH (lv_sub hl [] rfl)
                · replace hf := (if_pos hc).symm.trans hf
                  refine lv_iconst (v := 1) hx hb dX9_joined_165 (by decide) ?_
                  refine lv_goto (tgt := 170) hx hb dX9_joined_166 (by decide) ?_
                  subst hf
                  exact hJ ls H locs hH (lv_sub hl [] rfl)
              · replace hf := (if_neg hc61).symm.trans hf
                by_cases hc62 : (p0 : Int32) = 62
                · replace hf := (if_pos hc62).symm.trans hf
                  refine lv_tableIn (off := 181) (tgt := 182) hx hb dX9_joined_1 (by rw [hc62]; decide) (by rw [hc62]; decide) (by rw [hc62]; decide) (by decide) ?_
                  refine lv_iload_n hx hb dX9_joined_182 rfl (lv_at hl 1 rfl) ?_
                  refine lv_iload_n hx hb dX9_joined_183 rfl (lv_at hl 2 rfl) ?_
                  obtain ⟨z12, hr, hf⟩ := st_ltx hf
                  have hJ : ∀ (ls : Array Slot) (H : Heap) (locs : List Loc), q_H X M s H locs → lv_has ls 5 [] → W p l e (q_rm (1)) s m args below meth c H locs 0 0 (MQ below (q_Qi X r0 M) args s 0 0 (q_A X)) (F0 m 192 ls [.int (b2i z12)]) := by
                    intro ls H locs hH hl
                    replace hf := Option.some.inj hf
                    subst hf
                    exact pz_reti hE hrt hlk hH dX9_joined_192
                  clear hf
                  replace hf := hr
                  refine lv_icmp_le (tgt := 191) hx hb dX9_joined_184 (by decide) (fun hc => ?_) (fun hc => ?_)
                  · replace hf := (if_pos hc).symm.trans hf
                    refine lv_iconst (v := 0) hx hb dX9_joined_191 (by decide) ?_
                    subst hf
                    exact hJ ls H locs hH (lv_sub hl [] rfl)
                  · replace hf := (if_neg hc).symm.trans hf
                    refine lv_iconst (v := 1) hx hb dX9_joined_187 (by decide) ?_
                    refine lv_goto (tgt := 192) hx hb dX9_joined_188 (by decide) ?_
                    subst hf
                    exact hJ ls H locs hH (lv_sub hl [] rfl)
                · replace hf := (if_neg hc62).symm.trans hf
                  refine pz_tabD (tgt := 197) hE dX9_joined_1 (by intro h1 h2; have := lv_neT hc38 (a := 38) (by decide); have := lv_neT hc42 (a := 42) (by decide); have := lv_neT hc43 (a := 43) (by decide); have := lv_neT hc45 (a := 45) (by decide); have := lv_neT hc47 (a := 47) (by decide); have := lv_neT hc60 (a := 60) (by decide); have := lv_neT hc61 (a := 61) (by decide); have := lv_neT hc62 (a := 62) (by decide); have h3 : (p0 : Int32).toInt = 39 ∨ (p0 : Int32).toInt = 40 ∨ (p0 : Int32).toInt = 41 ∨ (p0 : Int32).toInt = 44 ∨ (p0 : Int32).toInt = 46 ∨ (p0 : Int32).toInt = 48 ∨ (p0 : Int32).toInt = 49 ∨ (p0 : Int32).toInt = 50 ∨ (p0 : Int32).toInt = 51 ∨ (p0 : Int32).toInt = 52 ∨ (p0 : Int32).toInt = 53 ∨ (p0 : Int32).toInt = 54 ∨ (p0 : Int32).toInt = 55 ∨ (p0 : Int32).toInt = 56 ∨ (p0 : Int32).toInt = 57 ∨ (p0 : Int32).toInt = 58 ∨ (p0 : Int32).toInt = 59 := (by omega); rcases h3 with h3 | h3 | h3 | h3 | h3 | h3 | h3 | h3 | h3 | h3 | h3 | h3 | h3 | h3 | h3 | h3 | h3 <;> (rw [h3]; decide)) (by decide) ?_
                  refine lv_iload_n hx hb dX9_joined_197 rfl (lv_at hl 1 rfl) ?_
                  refine lv_iload_n hx hb dX9_joined_198 rfl (lv_at hl 2 rfl) ?_
                  refine lv_ior hx hb dX9_joined_199 ?_
                  replace hf := Option.some.inj hf
                  subst hf
                  exact pz_reti hE hrt hlk hH dX9_joined_200

theorem dX9_valueIn_0 : decode cX9_valueIn 0 = .ok (.iconst 0, 1) := by decide +kernel
theorem dX9_valueIn_1 : decode cX9_valueIn 1 = .ok (.istore_n 3, 1) := by decide +kernel
theorem dX9_valueIn_2 : decode cX9_valueIn 2 = .ok (.iconst 0, 1) := by decide +kernel
theorem dX9_valueIn_3 : decode cX9_valueIn 3 = .ok (.istore 4, 2) := by decide +kernel
theorem dX9_valueIn_5 : decode cX9_valueIn 5 = .ok (.iload 4, 2) := by decide +kernel
theorem dX9_valueIn_7 : decode cX9_valueIn 7 = .ok (.aload_n 0, 1) := by decide +kernel
theorem dX9_valueIn_8 : decode cX9_valueIn 8 = .ok (.getfield 18, 3) := by decide +kernel
theorem dX9_valueIn_11 : decode cX9_valueIn 11 = .ok (.if_icmp .ge 200, 3) := by decide +kernel
theorem dX9_valueIn_14 : decode cX9_valueIn 14 = .ok (.aload_n 0, 1) := by decide +kernel
theorem dX9_valueIn_15 : decode cX9_valueIn 15 = .ok (.getfield 9, 3) := by decide +kernel
theorem dX9_valueIn_18 : decode cX9_valueIn 18 = .ok (.iload 4, 2) := by decide +kernel
theorem dX9_valueIn_20 : decode cX9_valueIn 20 = .ok (.iaload, 1) := by decide +kernel
theorem dX9_valueIn_21 : decode cX9_valueIn 21 = .ok (.istore 5, 2) := by decide +kernel
theorem dX9_valueIn_23 : decode cX9_valueIn 23 = .ok (.aload_n 0, 1) := by decide +kernel
theorem dX9_valueIn_24 : decode cX9_valueIn 24 = .ok (.getfield 15, 3) := by decide +kernel
theorem dX9_valueIn_27 : decode cX9_valueIn 27 = .ok (.iload 4, 2) := by decide +kernel
theorem dX9_valueIn_29 : decode cX9_valueIn 29 = .ok (.iaload, 1) := by decide +kernel
theorem dX9_valueIn_30 : decode cX9_valueIn 30 = .ok (.istore 6, 2) := by decide +kernel
theorem dX9_valueIn_32 : decode cX9_valueIn 32 = .ok (.iload 5, 2) := by decide +kernel
theorem dX9_valueIn_34 : decode cX9_valueIn 34 = .ok (.bipush 48, 2) := by decide +kernel
theorem dX9_valueIn_36 : decode cX9_valueIn 36 = .ok (.if_icmp .eq 10, 3) := by decide +kernel
theorem dX9_valueIn_39 : decode cX9_valueIn 39 = .ok (.iload 5, 2) := by decide +kernel
theorem dX9_valueIn_41 : decode cX9_valueIn 41 = .ok (.bipush 97, 2) := by decide +kernel
theorem dX9_valueIn_43 : decode cX9_valueIn 43 = .ok (.if_icmp .ne 53, 3) := by decide +kernel
theorem dX9_valueIn_46 : decode cX9_valueIn 46 = .ok (.iload_n 3, 1) := by decide +kernel
theorem dX9_valueIn_47 : decode cX9_valueIn 47 = .ok (.aload_n 2, 1) := by decide +kernel
theorem dX9_valueIn_48 : decode cX9_valueIn 48 = .ok (.arraylength, 1) := by decide +kernel
theorem dX9_valueIn_49 : decode cX9_valueIn 49 = .ok (.if_icmp .ge 20, 3) := by decide +kernel
theorem dX9_valueIn_52 : decode cX9_valueIn 52 = .ok (.iload 5, 2) := by decide +kernel
theorem dX9_valueIn_54 : decode cX9_valueIn 54 = .ok (.bipush 97, 2) := by decide +kernel
theorem dX9_valueIn_56 : decode cX9_valueIn 56 = .ok (.if_icmp .ne 15, 3) := by decide +kernel
theorem dX9_valueIn_59 : decode cX9_valueIn 59 = .ok (.iload 6, 2) := by decide +kernel
theorem dX9_valueIn_61 : decode cX9_valueIn 61 = .ok (.aload_n 1, 1) := by decide +kernel
theorem dX9_valueIn_62 : decode cX9_valueIn 62 = .ok (.arraylength, 1) := by decide +kernel
theorem dX9_valueIn_63 : decode cX9_valueIn 63 = .ok (.invokestatic 22, 3) := by decide +kernel
theorem dX9_valueIn_66 : decode cX9_valueIn 66 = .ok (.ifCond .ne 5, 3) := by decide +kernel
theorem dX9_valueIn_69 : decode cX9_valueIn 69 = .ok (.iconst 0, 1) := by decide +kernel
theorem dX9_valueIn_70 : decode cX9_valueIn 70 = .ok (.ireturn, 1) := by decide +kernel
theorem dX9_valueIn_71 : decode cX9_valueIn 71 = .ok (.aload_n 2, 1) := by decide +kernel
theorem dX9_valueIn_72 : decode cX9_valueIn 72 = .ok (.iload_n 3, 1) := by decide +kernel
theorem dX9_valueIn_73 : decode cX9_valueIn 73 = .ok (.iload 5, 2) := by decide +kernel
theorem dX9_valueIn_75 : decode cX9_valueIn 75 = .ok (.bipush 48, 2) := by decide +kernel
theorem dX9_valueIn_77 : decode cX9_valueIn 77 = .ok (.if_icmp .ne 8, 3) := by decide +kernel
theorem dX9_valueIn_80 : decode cX9_valueIn 80 = .ok (.iload 6, 2) := by decide +kernel
theorem dX9_valueIn_82 : decode cX9_valueIn 82 = .ok (.goto 7, 3) := by decide +kernel
theorem dX9_valueIn_85 : decode cX9_valueIn 85 = .ok (.aload_n 1, 1) := by decide +kernel
theorem dX9_valueIn_86 : decode cX9_valueIn 86 = .ok (.iload 6, 2) := by decide +kernel
theorem dX9_valueIn_88 : decode cX9_valueIn 88 = .ok (.iaload, 1) := by decide +kernel
theorem dX9_valueIn_89 : decode cX9_valueIn 89 = .ok (.iastore, 1) := by decide +kernel
theorem dX9_valueIn_90 : decode cX9_valueIn 90 = .ok (.iinc 3 1, 3) := by decide +kernel
theorem dX9_valueIn_93 : decode cX9_valueIn 93 = .ok (.goto 112, 3) := by decide +kernel
theorem dX9_valueIn_96 : decode cX9_valueIn 96 = .ok (.iload_n 3, 1) := by decide +kernel
theorem dX9_valueIn_97 : decode cX9_valueIn 97 = .ok (.iconst 1, 1) := by decide +kernel
theorem dX9_valueIn_98 : decode cX9_valueIn 98 = .ok (.if_icmp .lt 9, 3) := by decide +kernel
theorem dX9_valueIn_101 : decode cX9_valueIn 101 = .ok (.iload_n 3, 1) := by decide +kernel
theorem dX9_valueIn_102 : decode cX9_valueIn 102 = .ok (.aload_n 2, 1) := by decide +kernel
theorem dX9_valueIn_103 : decode cX9_valueIn 103 = .ok (.arraylength, 1) := by decide +kernel
theorem dX9_valueIn_104 : decode cX9_valueIn 104 = .ok (.if_icmp .le 5, 3) := by decide +kernel
theorem dX9_valueIn_107 : decode cX9_valueIn 107 = .ok (.iconst 0, 1) := by decide +kernel
theorem dX9_valueIn_108 : decode cX9_valueIn 108 = .ok (.ireturn, 1) := by decide +kernel
theorem dX9_valueIn_109 : decode cX9_valueIn 109 = .ok (.iload 5, 2) := by decide +kernel
theorem dX9_valueIn_111 : decode cX9_valueIn 111 = .ok (.bipush 59, 2) := by decide +kernel
theorem dX9_valueIn_113 : decode cX9_valueIn 113 = .ok (.if_icmp .ne 9, 3) := by decide +kernel
theorem dX9_valueIn_116 : decode cX9_valueIn 116 = .ok (.aload_n 2, 1) := by decide +kernel
theorem dX9_valueIn_117 : decode cX9_valueIn 117 = .ok (.iload_n 3, 1) := by decide +kernel
theorem dX9_valueIn_118 : decode cX9_valueIn 118 = .ok (.iconst 1, 1) := by decide +kernel
theorem dX9_valueIn_119 : decode cX9_valueIn 119 = .ok (.isub, 1) := by decide +kernel
theorem dX9_valueIn_120 : decode cX9_valueIn 120 = .ok (.iaload, 1) := by decide +kernel
theorem dX9_valueIn_121 : decode cX9_valueIn 121 = .ok (.ireturn, 1) := by decide +kernel
theorem dX9_valueIn_122 : decode cX9_valueIn 122 = .ok (.iload 5, 2) := by decide +kernel
theorem dX9_valueIn_124 : decode cX9_valueIn 124 = .ok (.bipush 33, 2) := by decide +kernel
theorem dX9_valueIn_126 : decode cX9_valueIn 126 = .ok (.if_icmp .ne 18, 3) := by decide +kernel
theorem dX9_valueIn_129 : decode cX9_valueIn 129 = .ok (.aload_n 2, 1) := by decide +kernel
theorem dX9_valueIn_130 : decode cX9_valueIn 130 = .ok (.iload_n 3, 1) := by decide +kernel
theorem dX9_valueIn_131 : decode cX9_valueIn 131 = .ok (.iconst 1, 1) := by decide +kernel
theorem dX9_valueIn_132 : decode cX9_valueIn 132 = .ok (.isub, 1) := by decide +kernel
theorem dX9_valueIn_133 : decode cX9_valueIn 133 = .ok (.iconst 1, 1) := by decide +kernel
theorem dX9_valueIn_134 : decode cX9_valueIn 134 = .ok (.aload_n 2, 1) := by decide +kernel
theorem dX9_valueIn_135 : decode cX9_valueIn 135 = .ok (.iload_n 3, 1) := by decide +kernel
theorem dX9_valueIn_136 : decode cX9_valueIn 136 = .ok (.iconst 1, 1) := by decide +kernel
theorem dX9_valueIn_137 : decode cX9_valueIn 137 = .ok (.isub, 1) := by decide +kernel
theorem dX9_valueIn_138 : decode cX9_valueIn 138 = .ok (.iaload, 1) := by decide +kernel
theorem dX9_valueIn_139 : decode cX9_valueIn 139 = .ok (.isub, 1) := by decide +kernel
theorem dX9_valueIn_140 : decode cX9_valueIn 140 = .ok (.iastore, 1) := by decide +kernel
theorem dX9_valueIn_141 : decode cX9_valueIn 141 = .ok (.goto 64, 3) := by decide +kernel
theorem dX9_valueIn_144 : decode cX9_valueIn 144 = .ok (.iload 5, 2) := by decide +kernel
theorem dX9_valueIn_146 : decode cX9_valueIn 146 = .ok (.bipush 63, 2) := by decide +kernel
theorem dX9_valueIn_148 : decode cX9_valueIn 148 = .ok (.if_icmp .ne 31, 3) := by decide +kernel
theorem dX9_valueIn_151 : decode cX9_valueIn 151 = .ok (.iinc 3 (-1), 3) := by decide +kernel
theorem dX9_valueIn_154 : decode cX9_valueIn 154 = .ok (.aload_n 2, 1) := by decide +kernel
theorem dX9_valueIn_155 : decode cX9_valueIn 155 = .ok (.iload_n 3, 1) := by decide +kernel
theorem dX9_valueIn_156 : decode cX9_valueIn 156 = .ok (.iaload, 1) := by decide +kernel
theorem dX9_valueIn_157 : decode cX9_valueIn 157 = .ok (.ifCond .ne 15, 3) := by decide +kernel
theorem dX9_valueIn_160 : decode cX9_valueIn 160 = .ok (.iload 4, 2) := by decide +kernel
theorem dX9_valueIn_162 : decode cX9_valueIn 162 = .ok (.iload 6, 2) := by decide +kernel
theorem dX9_valueIn_164 : decode cX9_valueIn 164 = .ok (.iconst 1, 1) := by decide +kernel
theorem dX9_valueIn_165 : decode cX9_valueIn 165 = .ok (.isub, 1) := by decide +kernel
theorem dX9_valueIn_166 : decode cX9_valueIn 166 = .ok (.invokestatic 26, 3) := by decide +kernel
theorem dX9_valueIn_169 : decode cX9_valueIn 169 = .ok (.goto 5, 3) := by decide +kernel
theorem dX9_valueIn_172 : decode cX9_valueIn 172 = .ok (.iload 4, 2) := by decide +kernel
theorem dX9_valueIn_174 : decode cX9_valueIn 174 = .ok (.istore 4, 2) := by decide +kernel
theorem dX9_valueIn_176 : decode cX9_valueIn 176 = .ok (.goto 29, 3) := by decide +kernel
theorem dX9_valueIn_179 : decode cX9_valueIn 179 = .ok (.iload_n 3, 1) := by decide +kernel
theorem dX9_valueIn_180 : decode cX9_valueIn 180 = .ok (.iconst 2, 1) := by decide +kernel
theorem dX9_valueIn_181 : decode cX9_valueIn 181 = .ok (.if_icmp .lt 24, 3) := by decide +kernel
theorem dX9_valueIn_184 : decode cX9_valueIn 184 = .ok (.iinc 3 (-1), 3) := by decide +kernel
theorem dX9_valueIn_187 : decode cX9_valueIn 187 = .ok (.aload_n 2, 1) := by decide +kernel
theorem dX9_valueIn_188 : decode cX9_valueIn 188 = .ok (.iload_n 3, 1) := by decide +kernel
theorem dX9_valueIn_189 : decode cX9_valueIn 189 = .ok (.iconst 1, 1) := by decide +kernel
theorem dX9_valueIn_190 : decode cX9_valueIn 190 = .ok (.isub, 1) := by decide +kernel
theorem dX9_valueIn_191 : decode cX9_valueIn 191 = .ok (.iload 5, 2) := by decide +kernel
theorem dX9_valueIn_193 : decode cX9_valueIn 193 = .ok (.aload_n 2, 1) := by decide +kernel
theorem dX9_valueIn_194 : decode cX9_valueIn 194 = .ok (.iload_n 3, 1) := by decide +kernel
theorem dX9_valueIn_195 : decode cX9_valueIn 195 = .ok (.iconst 1, 1) := by decide +kernel
theorem dX9_valueIn_196 : decode cX9_valueIn 196 = .ok (.isub, 1) := by decide +kernel
theorem dX9_valueIn_197 : decode cX9_valueIn 197 = .ok (.iaload, 1) := by decide +kernel
theorem dX9_valueIn_198 : decode cX9_valueIn 198 = .ok (.aload_n 2, 1) := by decide +kernel
theorem dX9_valueIn_199 : decode cX9_valueIn 199 = .ok (.iload_n 3, 1) := by decide +kernel
theorem dX9_valueIn_200 : decode cX9_valueIn 200 = .ok (.iaload, 1) := by decide +kernel
theorem dX9_valueIn_201 : decode cX9_valueIn 201 = .ok (.invokestatic 32, 3) := by decide +kernel
theorem dX9_valueIn_204 : decode cX9_valueIn 204 = .ok (.iastore, 1) := by decide +kernel
theorem dX9_valueIn_205 : decode cX9_valueIn 205 = .ok (.iinc 4 1, 3) := by decide +kernel
theorem dX9_valueIn_208 : decode cX9_valueIn 208 = .ok (.goto (-203), 3) := by decide +kernel
theorem dX9_valueIn_211 : decode cX9_valueIn 211 = .ok (.iconst 0, 1) := by decide +kernel
theorem dX9_valueIn_212 : decode cX9_valueIn 212 = .ok (.ireturn, 1) := by decide +kernel
set_option maxRecDepth 100000 in
set_option maxHeartbeats 4000000 in
theorem tz_X9_valueIn (l : Launch) (X : qX) {k : Nat} {M MR : qM} {r0 : Int32} (hk : q_way k = true) (hf : jWy_valueIn k M = some (r0, MR)) : q_Met l X yX9_valueIn cX9_valueIn 7 (some .int) (2) M [.ref (X.1 k), .ref (X.1 10), .ref (X.1 11)] (q_Qi X r0 MR) := by
  refine q_enter (by decide) (Nat.le_of_ble_eq_true rfl) ?_
  intro p e s m args below meth c hE hrt hlk H locs hH ls hl
  have hx := hE.1
  have hb := hE.2.1
  have hl : lv_has ls 7 [(0, .ref (X.1 k)), (1, .ref (X.1 10)), (2, .ref (X.1 11))] := hl
  unfold jWy_valueIn at hf
  refine lv_iconst (v := 0) hx hb dX9_valueIn_0 (by decide) ?_
  refine lv_istore_n (lv' := [(3, .int 0), (0, .ref (X.1 k)), (1, .ref (X.1 10)), (2, .ref (X.1 11))]) hx hb dX9_valueIn_1 rfl hl (by decide) rfl (fun ls hl => ?_)
  refine lv_iconst (v := 0) hx hb dX9_valueIn_2 (by decide) ?_
  refine lv_istore (lv' := [(4, .int 0), (3, .int 0), (0, .ref (X.1 k)), (1, .ref (X.1 10)), (2, .ref (X.1 11))]) hx hb dX9_valueIn_3 hl (by decide) rfl (fun ls hl => ?_)
  obtain ⟨r9, hlp, hf⟩ := st_bd hf
  have hX : (fun q0a => qse q0a (fun M4 => ∀ (ls : Array Slot) (H : Heap) (locs : List Loc), q_H X M4 s H locs → lv_has ls 7 [] → W p l e (q_rm (2)) s m args below meth c H locs 0 0 (MQ below (q_Qi X r0 MR) args s 0 0 (q_A X)) (F0 m 69 ls [])) (fun q1a => qse q1a (fun M5 => ∀ (ls : Array Slot) (H : Heap) (locs : List Loc), q_H X M5 s H locs → lv_has ls 7 [] → W p l e (q_rm (2)) s m args below meth c H locs 0 0 (MQ below (q_Qi X r0 MR) args s 0 0 (q_A X)) (F0 m 107 ls [])) (fun q2a => qse q2a (fun q2 => qu2 q2 (fun x6 M7 => ∀ (ls : Array Slot) (H : Heap) (locs : List Loc), q_H X M7 s H locs → lv_has ls 7 [(2, .ref (X.1 11)), (3, .int x6)] → W p l e (q_rm (2)) s m args below meth c H locs 0 0 (MQ below (q_Qi X r0 MR) args s 0 0 (q_A X)) (F0 m 116 ls []))) (fun M8 => ∀ (ls : Array Slot) (H : Heap) (locs : List Loc), q_H X M8 s H locs → lv_has ls 7 [] → W p l e (q_rm (2)) s m args below meth c H locs 0 0 (MQ below (q_Qi X r0 MR) args s 0 0 (q_A X)) (F0 m 211 ls [])))) : (qM ⊕ (qM ⊕ ((Int32 × qM) ⊕ qM))) → Prop) r9 := by
    rcases r9 with M4 | r9
    · replace hf := st_seL hf
      intro ls H locs hH hl
      refine lv_iconst (v := 0) hx hb dX9_valueIn_69 (by decide) ?_
      replace hf := Option.some.inj hf
      obtain ⟨rfl, rfl⟩ := qi2 hf
      exact pz_reti hE hrt hlk hH dX9_valueIn_70
    · replace hf := st_seR hf
      rcases r9 with M5 | r9
      · replace hf := st_seL hf
        intro ls H locs hH hl
        refine lv_iconst (v := 0) hx hb dX9_valueIn_107 (by decide) ?_
        replace hf := Option.some.inj hf
        obtain ⟨rfl, rfl⟩ := qi2 hf
        exact pz_reti hE hrt hlk hH dX9_valueIn_108
      · replace hf := st_seR hf
        rcases r9 with r9 | M8
        · replace hf := st_seL hf
          obtain ⟨x6, M7⟩ := r9
          replace hf := st_u2 hf
          intro ls H locs hH hl
          refine lv_aload_n hx hb dX9_valueIn_116 rfl (lv_at hl 0 rfl) ?_
          refine lv_iload_n hx hb dX9_valueIn_117 rfl (lv_at hl 1 rfl) ?_
          refine lv_iconst (v := 1) hx hb dX9_valueIn_118 (by decide) ?_
          refine lv_isub hx hb dX9_valueIn_119 ?_
          obtain ⟨v10, ev10, hf⟩ := st_bd hf
          refine pz_iald hE hH qk_11 ev10 dX9_valueIn_120 ?_
          replace hf := Option.some.inj hf
          obtain ⟨rfl, rfl⟩ := qi2 hf
          exact pz_reti hE hrt hlk hH dX9_valueIn_121
        · replace hf := st_seR hf
          intro ls H locs hH hl
          refine lv_iconst (v := 0) hx hb dX9_valueIn_211 (by decide) ?_
          replace hf := Option.some.inj hf
          obtain ⟨rfl, rfl⟩ := qi2 hf
          exact pz_reti hE hrt hlk hH dX9_valueIn_212
  clear hf
  have hG := qlp_ind (r := r9) (fun q => qu3 q (fun x1 x2 M3 => ∀ (ls : Array Slot) (H : Heap) (locs : List Loc), q_H X M3 s H locs → lv_has ls 7 [(0, .ref (X.1 k)), (1, .ref (X.1 10)), (2, .ref (X.1 11)), (3, .int x1), (4, .int x2)] → W p l e (q_rm (2)) s m args below meth c H locs 0 0 (MQ below (q_Qi X r0 MR) args s 0 0 (q_A X)) (F0 m 5 ls []))) (by
      intro q o hf hK1 hK2
      obtain ⟨x1, x2, M3⟩ := q
      replace hf := st_u3 hf
      intro ls H locs hH hl
      refine lv_iload hx hb dX9_valueIn_5 (lv_at hl 4 rfl) ?_
      refine lv_aload_n hx hb dX9_valueIn_7 rfl (lv_at hl 0 rfl) ?_
      refine pz_gI hE hH fr_X9_18 (q_way_0 hk) dX9_valueIn_8 ?_
      refine lv_icmp_ge (tgt := 211) hx hb dX9_valueIn_11 (by decide) (fun hc => ?_) (fun hc => ?_)
      · replace hf := (if_pos hc).symm.trans hf
        replace hf := hK2 _ (Option.some.inj hf).symm
        subst hf
        exact hX ls H locs hH (lv_sub hl [] rfl)
      · replace hf := (if_neg hc).symm.trans hf
        refine lv_aload_n hx hb dX9_valueIn_14 rfl (lv_at hl 0 rfl) ?_
        refine pz_gS (a := k + 1) hE hH fr_X9_9 (q_way_0 hk) rfl dX9_valueIn_15 ?_
        refine lv_iload hx hb dX9_valueIn_18 (lv_at hl 4 rfl) ?_
        obtain ⟨v11, ev11, hf⟩ := st_bd hf
        refine pz_iald hE hH (q_way_1 hk) ev11 dX9_valueIn_20 ?_
        refine lv_istore (lv' := [(5, .int v11), (0, .ref (X.1 k)), (1, .ref (X.1 10)), (2, .ref (X.1 11)), (3, .int x1), (4, .int x2)]) hx hb dX9_valueIn_21 hl (by decide) rfl (fun ls hl => ?_)
        refine lv_aload_n hx hb dX9_valueIn_23 rfl (lv_at hl 1 rfl) ?_
        refine pz_gS (a := k + 2) hE hH fr_X9_15 (q_way_0 hk) rfl dX9_valueIn_24 ?_
        refine lv_iload hx hb dX9_valueIn_27 (lv_at hl 5 rfl) ?_
        obtain ⟨v12, ev12, hf⟩ := st_bd hf
        refine pz_iald hE hH (q_way_2 hk) ev12 dX9_valueIn_29 ?_
        refine lv_istore (lv' := [(6, .int v12), (5, .int v11), (0, .ref (X.1 k)), (1, .ref (X.1 10)), (2, .ref (X.1 11)), (3, .int x1), (4, .int x2)]) hx hb dX9_valueIn_30 hl (by decide) rfl (fun ls hl => ?_)
        refine lv_iload hx hb dX9_valueIn_32 (lv_at hl 1 rfl) ?_
        refine lv_bipush (v := 48) hx hb dX9_valueIn_34 (by decide) ?_
        refine lv_icmp_eq (tgt := 46) hx hb dX9_valueIn_36 (by decide) (fun hc => ?_) (fun hc => ?_)
        · replace hf := (if_pos hc).symm.trans hf
          refine lv_iload_n hx hb dX9_valueIn_46 rfl (lv_at hl 5 rfl) ?_
          refine lv_aload_n hx hb dX9_valueIn_47 rfl (lv_at hl 4 rfl) ?_
          refine pz_alenI (v := 64) hE hH qk_11 (by decide) dX9_valueIn_48 ?_
          refine lv_icmp_ge (tgt := 69) hx hb dX9_valueIn_49 (by decide) (fun hc => ?_) (fun hc => ?_)
          · replace hf := (if_pos hc).symm.trans hf
            replace hf := hK2 _ (Option.some.inj hf).symm
            subst hf
            exact hX ls H locs hH (lv_sub hl [] rfl)
          · replace hf := (if_neg hc).symm.trans hf
            refine lv_iload hx hb dX9_valueIn_52 (lv_at hl 1 rfl) ?_
            refine lv_bipush (v := 97) hx hb dX9_valueIn_54 (by decide) ?_
            refine lv_icmp_ne (tgt := 71) hx hb dX9_valueIn_56 (by decide) (fun hc => ?_) (fun hc => ?_)
            · replace hf := (if_neg hc).symm.trans hf
              refine lv_aload_n hx hb dX9_valueIn_71 rfl (lv_at hl 4 rfl) ?_
              refine lv_iload_n hx hb dX9_valueIn_72 rfl (lv_at hl 5 rfl) ?_
              refine lv_iload hx hb dX9_valueIn_73 (lv_at hl 1 rfl) ?_
              refine lv_bipush (v := 48) hx hb dX9_valueIn_75 (by decide) ?_
              obtain ⟨x13, hr, hf⟩ := st_bd hf
              have hJ : ∀ (ls : Array Slot) (H : Heap) (locs : List Loc), q_H X M3 s H locs → lv_has ls 7 [(0, .ref (X.1 k)), (1, .ref (X.1 10)), (2, .ref (X.1 11)), (3, .int x1), (4, .int x2)] → W p l e (q_rm (2)) s m args below meth c H locs 0 0 (MQ below (q_Qi X r0 MR) args s 0 0 (q_A X)) (F0 m 89 ls [.int x13, .int x1, .ref (X.1 11)]) := by
                intro ls H locs hH hl
                obtain ⟨M14, eM14, hf⟩ := st_bd hf
                refine pz_iast hE hH qk_11 eM14 dX9_valueIn_89 (fun H locs hH => ?_)
                obtain ⟨x15, ex15, hf⟩ := st_lty hf
                refine lv_iinc (v := x15) (lv' := [(3, .int x15), (0, .ref (X.1 k)), (1, .ref (X.1 10)), (2, .ref (X.1 11)), (4, .int x2)]) hx hb dX9_valueIn_90 hl (k := 3) rfl (by rw [ex15]; rfl) (by decide) rfl (fun ls hl => ?_)
                refine lv_goto (tgt := 205) hx hb dX9_valueIn_93 (by decide) ?_
                obtain ⟨x16, ex16, hf⟩ := st_lty hf
                refine lv_iinc (v := x16) (lv' := [(4, .int x16), (3, .int x15), (0, .ref (X.1 k)), (1, .ref (X.1 10)), (2, .ref (X.1 11))]) hx hb dX9_valueIn_205 hl (k := 4) rfl (by rw [ex16]; rfl) (by decide) rfl (fun ls hl => ?_)
                refine lv_goto (tgt := 5) hx hb dX9_valueIn_208 (by decide) ?_
                exact hK1 _ (Option.some.inj hf).symm ls H locs hH (lv_sub hl [2, 3, 4, 1, 0] rfl)
              clear hf
              replace hf := hr
              refine lv_icmp_ne (tgt := 85) hx hb dX9_valueIn_77 (by decide) (fun hc => ?_) (fun hc => ?_)
              · replace hf := (if_neg hc).symm.trans hf
                refine lv_aload_n hx hb dX9_valueIn_85 rfl (lv_at hl 3 rfl) ?_
                refine lv_iload hx hb dX9_valueIn_86 (lv_at hl 0 rfl) ?_
                obtain ⟨v17, ev17, hf⟩ := st_bd hf
                refine pz_iald hE hH qk_10 ev17 dX9_valueIn_88 ?_
                replace hf := Option.some.inj hf
                subst hf
                exact hJ ls H locs hH (lv_sub hl [2, 3, 4, 5, 6] rfl)
              · replace hf := (if_pos hc).symm.trans hf
                refine lv_iload hx hb dX9_valueIn_80 (lv_at hl 0 rfl) ?_
                refine lv_goto (tgt := 89) hx hb dX9_valueIn_82 (by decide) ?_
                replace hf := Option.some.inj hf
                subst hf
                exact hJ ls H locs hH (lv_sub hl [2, 3, 4, 5, 6] rfl)
            · replace hf := (if_pos hc).symm.trans hf
              refine lv_iload hx hb dX9_valueIn_59 (lv_at hl 0 rfl) ?_
              refine lv_aload_n hx hb dX9_valueIn_61 rfl (lv_at hl 3 rfl) ?_
              refine pz_alenI (v := 8) hE hH qk_10 (by decide) dX9_valueIn_62 ?_
              refine q_calli (q_runSN (As := [.int v12, .int 8]) (rest := []) hE hH (tz_X11_isOf l X (M := M3) (hf := rfl)) kn_X9_22 (by decide) rfl hl.1 rfl (Nat.le_of_ble_eq_true rfl) dX9_valueIn_63) hH (fun H locs hH => ?_)
              refine lv_if_ne (tgt := 71) hx hb dX9_valueIn_66 (by decide) (fun hc => ?_) (fun hc => ?_)
              · replace hf := (if_neg hc).symm.trans hf
                refine lv_aload_n hx hb dX9_valueIn_71 rfl (lv_at hl 4 rfl) ?_
                refine lv_iload_n hx hb dX9_valueIn_72 rfl (lv_at hl 5 rfl) ?_
                refine lv_iload hx hb dX9_valueIn_73 (lv_at hl 1 rfl) ?_
                refine lv_bipush (v := 48) hx hb dX9_valueIn_75 (by decide) ?_
                obtain ⟨x18, hr, hf⟩ := st_bd hf
                have hJ : ∀ (ls : Array Slot) (H : Heap) (locs : List Loc), q_H X M3 s H locs → lv_has ls 7 [(0, .ref (X.1 k)), (1, .ref (X.1 10)), (2, .ref (X.1 11)), (3, .int x1), (4, .int x2)] → W p l e (q_rm (2)) s m args below meth c H locs 0 0 (MQ below (q_Qi X r0 MR) args s 0 0 (q_A X)) (F0 m 89 ls [.int x18, .int x1, .ref (X.1 11)]) := by
                  intro ls H locs hH hl
                  obtain ⟨M19, eM19, hf⟩ := st_bd hf
                  refine pz_iast hE hH qk_11 eM19 dX9_valueIn_89 (fun H locs hH => ?_)
                  obtain ⟨x20, ex20, hf⟩ := st_lty hf
                  refine lv_iinc (v := x20) (lv' := [(3, .int x20), (0, .ref (X.1 k)), (1, .ref (X.1 10)), (2, .ref (X.1 11)), (4, .int x2)]) hx hb dX9_valueIn_90 hl (k := 3) rfl (by rw [ex20]; rfl) (by decide) rfl (fun ls hl => ?_)
                  refine lv_goto (tgt := 205) hx hb dX9_valueIn_93 (by decide) ?_
                  obtain ⟨x21, ex21, hf⟩ := st_lty hf
                  refine lv_iinc (v := x21) (lv' := [(4, .int x21), (3, .int x20), (0, .ref (X.1 k)), (1, .ref (X.1 10)), (2, .ref (X.1 11))]) hx hb dX9_valueIn_205 hl (k := 4) rfl (by rw [ex21]; rfl) (by decide) rfl (fun ls hl => ?_)
                  refine lv_goto (tgt := 5) hx hb dX9_valueIn_208 (by decide) ?_
                  exact hK1 _ (Option.some.inj hf).symm ls H locs hH (lv_sub hl [2, 3, 4, 1, 0] rfl)
                clear hf
                replace hf := hr
                refine lv_icmp_ne (tgt := 85) hx hb dX9_valueIn_77 (by decide) (fun hc => ?_) (fun hc => ?_)
                · replace hf := (if_neg hc).symm.trans hf
                  refine lv_aload_n hx hb dX9_valueIn_85 rfl (lv_at hl 3 rfl) ?_
                  refine lv_iload hx hb dX9_valueIn_86 (lv_at hl 0 rfl) ?_
                  obtain ⟨v22, ev22, hf⟩ := st_bd hf
                  refine pz_iald hE hH qk_10 ev22 dX9_valueIn_88 ?_
                  replace hf := Option.some.inj hf
                  subst hf
                  exact hJ ls H locs hH (lv_sub hl [2, 3, 4, 5, 6] rfl)
                · replace hf := (if_pos hc).symm.trans hf
                  refine lv_iload hx hb dX9_valueIn_80 (lv_at hl 0 rfl) ?_
                  refine lv_goto (tgt := 89) hx hb dX9_valueIn_82 (by decide) ?_
                  replace hf := Option.some.inj hf
                  subst hf
                  exact hJ ls H locs hH (lv_sub hl [2, 3, 4, 5, 6] rfl)
              · replace hf := (if_pos hc).symm.trans hf
                replace hf := hK2 _ (Option.some.inj hf).symm
                subst hf
                exact hX ls H locs hH (lv_sub hl [] rfl)
        · replace hf := (if_neg hc).symm.trans hf
          refine lv_iload hx hb dX9_valueIn_39 (lv_at hl 1 rfl) ?_
          refine lv_bipush (v := 97) hx hb dX9_valueIn_41 (by decide) ?_
          refine lv_icmp_ne (tgt := 96) hx hb dX9_valueIn_43 (by decide) (fun hc => ?_) (fun hc => ?_)
          · replace hf := (if_neg hc).symm.trans hf
            refine lv_iload_n hx hb dX9_valueIn_96 rfl (lv_at hl 5 rfl) ?_
            refine lv_iconst (v := 1) hx hb dX9_valueIn_97 (by decide) ?_
            refine lv_icmp_lt (tgt := 107) hx hb dX9_valueIn_98 (by decide) (fun hc => ?_) (fun hc => ?_)
            · replace hf := (if_pos hc).symm.trans hf
              replace hf := hK2 _ (Option.some.inj hf).symm
              subst hf
              exact hX ls H locs hH (lv_sub hl [] rfl)
            · replace hf := (if_neg hc).symm.trans hf
              refine lv_iload_n hx hb dX9_valueIn_101 rfl (lv_at hl 5 rfl) ?_
              refine lv_aload_n hx hb dX9_valueIn_102 rfl (lv_at hl 4 rfl) ?_
              refine pz_alenI (v := 64) hE hH qk_11 (by decide) dX9_valueIn_103 ?_
              refine lv_icmp_le (tgt := 109) hx hb dX9_valueIn_104 (by decide) (fun hc => ?_) (fun hc => ?_)
              · replace hf := (if_pos hc).symm.trans hf
                refine lv_iload hx hb dX9_valueIn_109 (lv_at hl 1 rfl) ?_
                refine lv_bipush (v := 59) hx hb dX9_valueIn_111 (by decide) ?_
                refine lv_icmp_ne (tgt := 122) hx hb dX9_valueIn_113 (by decide) (fun hc => ?_) (fun hc => ?_)
                · replace hf := (if_neg hc).symm.trans hf
                  refine lv_iload hx hb dX9_valueIn_122 (lv_at hl 1 rfl) ?_
                  refine lv_bipush (v := 33) hx hb dX9_valueIn_124 (by decide) ?_
                  obtain ⟨w26, hr, hf⟩ := st_bd hf
                  have hJ : qu3 w26 (fun x23 x24 M25 => ∀ (ls : Array Slot) (H : Heap) (locs : List Loc), q_H X M25 s H locs → lv_has ls 7 [(0, .ref (X.1 k)), (1, .ref (X.1 10)), (2, .ref (X.1 11)), (3, .int x23), (4, .int x24)] → W p l e (q_rm (2)) s m args below meth c H locs 0 0 (MQ below (q_Qi X r0 MR) args s 0 0 (q_A X)) (F0 m 205 ls [])) := by
                    obtain ⟨x23, x24, M25⟩ := w26
                    replace hf := st_u3 hf
                    intro ls H locs hH hl
                    obtain ⟨x27, ex27, hf⟩ := st_lty hf
                    refine lv_iinc (v := x27) (lv' := [(4, .int x27), (0, .ref (X.1 k)), (1, .ref (X.1 10)), (2, .ref (X.1 11)), (3, .int x23)]) hx hb dX9_valueIn_205 hl (k := 4) rfl (by rw [ex27]; rfl) (by decide) rfl (fun ls hl => ?_)
                    refine lv_goto (tgt := 5) hx hb dX9_valueIn_208 (by decide) ?_
                    exact hK1 _ (Option.some.inj hf).symm ls H locs hH (lv_sub hl [1, 2, 3, 4, 0] rfl)
                  clear hf
                  replace hf := hr
                  refine lv_icmp_ne (tgt := 144) hx hb dX9_valueIn_126 (by decide) (fun hc => ?_) (fun hc => ?_)
                  · replace hf := (if_neg hc).symm.trans hf
                    refine lv_iload hx hb dX9_valueIn_144 (lv_at hl 1 rfl) ?_
                    refine lv_bipush (v := 63) hx hb dX9_valueIn_146 (by decide) ?_
                    refine lv_icmp_ne (tgt := 179) hx hb dX9_valueIn_148 (by decide) (fun hc => ?_) (fun hc => ?_)
                    · replace hf := (if_neg hc).symm.trans hf
                      refine lv_iload_n hx hb dX9_valueIn_179 rfl (lv_at hl 5 rfl) ?_
                      refine lv_iconst (v := 2) hx hb dX9_valueIn_180 (by decide) ?_
                      refine lv_icmp_lt (tgt := 205) hx hb dX9_valueIn_181 (by decide) (fun hc => ?_) (fun hc => ?_)
                      · replace hf := (if_pos hc).symm.trans hf
                        replace hf := Option.some.inj hf
                        subst hf
                        exact hJ ls H locs hH (lv_sub hl [2, 3, 4, 5, 6] rfl)
                      · replace hf := (if_neg hc).symm.trans hf
                        obtain ⟨x28, ex28, hf⟩ := st_lty hf
                        refine lv_iinc (v := x28) (lv' := [(3, .int x28), (6, .int v12), (5, .int v11), (0, .ref (X.1 k)), (1, .ref (X.1 10)), (2, .ref (X.1 11)), (4, .int x2)]) hx hb dX9_valueIn_184 hl (k := 5) rfl (by rw [ex28]; rfl) (by decide) rfl (fun ls hl => ?_)
                        refine lv_aload_n hx hb dX9_valueIn_187 rfl (lv_at hl 5 rfl) ?_
                        refine lv_iload_n hx hb dX9_valueIn_188 rfl (lv_at hl 0 rfl) ?_
                        refine lv_iconst (v := 1) hx hb dX9_valueIn_189 (by decide) ?_
                        refine lv_isub hx hb dX9_valueIn_190 ?_
                        refine lv_iload hx hb dX9_valueIn_191 (lv_at hl 2 rfl) ?_
                        refine lv_aload_n hx hb dX9_valueIn_193 rfl (lv_at hl 5 rfl) ?_
                        refine lv_iload_n hx hb dX9_valueIn_194 rfl (lv_at hl 0 rfl) ?_
                        refine lv_iconst (v := 1) hx hb dX9_valueIn_195 (by decide) ?_
                        refine lv_isub hx hb dX9_valueIn_196 ?_
                        obtain ⟨v29, ev29, hf⟩ := st_bd hf
                        refine pz_iald hE hH qk_11 ev29 dX9_valueIn_197 ?_
                        refine lv_aload_n hx hb dX9_valueIn_198 rfl (lv_at hl 5 rfl) ?_
                        refine lv_iload_n hx hb dX9_valueIn_199 rfl (lv_at hl 0 rfl) ?_
                        obtain ⟨v30, ev30, hf⟩ := st_bd hf
                        refine pz_iald hE hH qk_11 ev30 dX9_valueIn_200 ?_
                        obtain ⟨r31, er31, hf⟩ := st_bd hf
                        refine q_calli (q_runS (As := [.int v11, .int v29, .int v30]) (rest := [.int (x28 - 1), .ref (X.1 11)]) hE hH (tz_X9_joined l X (M := M3) (hf := er31)) ks_X9_32 (by decide) rfl hl.1 rfl (Nat.le_of_ble_eq_true rfl) dX9_valueIn_201) hH (fun H locs hH => ?_)
                        obtain ⟨M32, eM32, hf⟩ := st_bd hf
                        refine pz_iast hE hH qk_11 eM32 dX9_valueIn_204 (fun H locs hH => ?_)
                        replace hf := Option.some.inj hf
                        subst hf
                        exact hJ ls H locs hH (lv_sub hl [3, 4, 5, 0, 6] rfl)
                    · replace hf := (if_pos hc).symm.trans hf
                      obtain ⟨x33, ex33, hf⟩ := st_lty hf
                      refine lv_iinc (v := x33) (lv' := [(3, .int x33), (6, .int v12), (5, .int v11), (0, .ref (X.1 k)), (1, .ref (X.1 10)), (2, .ref (X.1 11)), (4, .int x2)]) hx hb dX9_valueIn_151 hl (k := 5) rfl (by rw [ex33]; rfl) (by decide) rfl (fun ls hl => ?_)
                      refine lv_aload_n hx hb dX9_valueIn_154 rfl (lv_at hl 5 rfl) ?_
                      refine lv_iload_n hx hb dX9_valueIn_155 rfl (lv_at hl 0 rfl) ?_
                      obtain ⟨v34, ev34, hf⟩ := st_bd hf
                      refine pz_iald hE hH qk_11 ev34 dX9_valueIn_156 ?_
                      obtain ⟨x35, hr, hf⟩ := st_ltx hf
                      have hJ : ∀ (ls : Array Slot) (H : Heap) (locs : List Loc), q_H X M3 s H locs → lv_has ls 7 [(0, .ref (X.1 k)), (1, .ref (X.1 10)), (2, .ref (X.1 11)), (3, .int x33)] → W p l e (q_rm (2)) s m args below meth c H locs 0 0 (MQ below (q_Qi X r0 MR) args s 0 0 (q_A X)) (F0 m 174 ls [.int x35]) := by
                        intro ls H locs hH hl
                        refine lv_istore (lv' := [(4, .int x35), (0, .ref (X.1 k)), (1, .ref (X.1 10)), (2, .ref (X.1 11)), (3, .int x33)]) hx hb dX9_valueIn_174 hl (by decide) rfl (fun ls hl => ?_)
                        refine lv_goto (tgt := 205) hx hb dX9_valueIn_176 (by decide) ?_
                        replace hf := Option.some.inj hf
                        subst hf
                        exact hJ ls H locs hH (lv_sub hl [1, 2, 3, 4, 0] rfl)
                      clear hf
                      replace hf := hr
                      refine lv_if_ne (tgt := 172) hx hb dX9_valueIn_157 (by decide) (fun hc => ?_) (fun hc => ?_)
                      · replace hf := (if_neg hc).symm.trans hf
                        refine lv_iload hx hb dX9_valueIn_172 (lv_at hl 6 rfl) ?_
                        subst hf
                        exact hJ ls H locs hH (lv_sub hl [3, 4, 5, 0] rfl)
                      · replace hf := (if_pos hc).symm.trans hf
                        refine lv_iload hx hb dX9_valueIn_160 (lv_at hl 6 rfl) ?_
                        refine lv_iload hx hb dX9_valueIn_162 (lv_at hl 1 rfl) ?_
                        refine lv_iconst (v := 1) hx hb dX9_valueIn_164 (by decide) ?_
                        refine lv_isub hx hb dX9_valueIn_165 ?_
                        refine pz_maxI (rest := []) hE (q_in _ 846 (by decide +kernel) rfl) (q_in _ 549 (by decide +kernel) rfl) (q_in _ 17 (by decide +kernel) rfl) (q_in _ 550 (by decide +kernel) rfl) hl.1 (by decide) (Nat.le_of_ble_eq_true rfl) (Nat.zero_le _) (Nat.zero_le _) dX9_valueIn_166 ?_
                        refine lv_goto (tgt := 174) hx hb dX9_valueIn_169 (by decide) ?_
                        subst hf
                        exact hJ ls H locs hH (lv_sub hl [3, 4, 5, 0] rfl)
                  · replace hf := (if_pos hc).symm.trans hf
                    refine lv_aload_n hx hb dX9_valueIn_129 rfl (lv_at hl 4 rfl) ?_
                    refine lv_iload_n hx hb dX9_valueIn_130 rfl (lv_at hl 5 rfl) ?_
                    refine lv_iconst (v := 1) hx hb dX9_valueIn_131 (by decide) ?_
                    refine lv_isub hx hb dX9_valueIn_132 ?_
                    refine lv_iconst (v := 1) hx hb dX9_valueIn_133 (by decide) ?_
                    refine lv_aload_n hx hb dX9_valueIn_134 rfl (lv_at hl 4 rfl) ?_
                    refine lv_iload_n hx hb dX9_valueIn_135 rfl (lv_at hl 5 rfl) ?_
                    refine lv_iconst (v := 1) hx hb dX9_valueIn_136 (by decide) ?_
                    refine lv_isub hx hb dX9_valueIn_137 ?_
                    obtain ⟨v36, ev36, hf⟩ := st_bd hf
                    refine pz_iald hE hH qk_11 ev36 dX9_valueIn_138 ?_
                    refine lv_isub hx hb dX9_valueIn_139 ?_
                    obtain ⟨M37, eM37, hf⟩ := st_bd hf
                    refine pz_iast hE hH qk_11 eM37 dX9_valueIn_140 (fun H locs hH => ?_)
                    refine lv_goto (tgt := 205) hx hb dX9_valueIn_141 (by decide) ?_
                    replace hf := Option.some.inj hf
                    subst hf
                    exact hJ ls H locs hH (lv_sub hl [2, 3, 4, 5, 6] rfl)
                · replace hf := (if_pos hc).symm.trans hf
                  replace hf := hK2 _ (Option.some.inj hf).symm
                  subst hf
                  exact hX ls H locs hH (lv_sub hl [4, 5] rfl)
              · replace hf := (if_neg hc).symm.trans hf
                replace hf := hK2 _ (Option.some.inj hf).symm
                subst hf
                exact hX ls H locs hH (lv_sub hl [] rfl)
          · replace hf := (if_pos hc).symm.trans hf
            refine lv_iload_n hx hb dX9_valueIn_46 rfl (lv_at hl 5 rfl) ?_
            refine lv_aload_n hx hb dX9_valueIn_47 rfl (lv_at hl 4 rfl) ?_
            refine pz_alenI (v := 64) hE hH qk_11 (by decide) dX9_valueIn_48 ?_
            refine lv_icmp_ge (tgt := 69) hx hb dX9_valueIn_49 (by decide) (fun hc => ?_) (fun hc => ?_)
            · replace hf := (if_pos hc).symm.trans hf
              replace hf := hK2 _ (Option.some.inj hf).symm
              subst hf
              exact hX ls H locs hH (lv_sub hl [] rfl)
            · replace hf := (if_neg hc).symm.trans hf
              refine lv_iload hx hb dX9_valueIn_52 (lv_at hl 1 rfl) ?_
              refine lv_bipush (v := 97) hx hb dX9_valueIn_54 (by decide) ?_
              refine lv_icmp_ne (tgt := 71) hx hb dX9_valueIn_56 (by decide) (fun hc => ?_) (fun hc => ?_)
              · replace hf := (if_neg hc).symm.trans hf
                refine lv_aload_n hx hb dX9_valueIn_71 rfl (lv_at hl 4 rfl) ?_
                refine lv_iload_n hx hb dX9_valueIn_72 rfl (lv_at hl 5 rfl) ?_
                refine lv_iload hx hb dX9_valueIn_73 (lv_at hl 1 rfl) ?_
                refine lv_bipush (v := 48) hx hb dX9_valueIn_75 (by decide) ?_
                obtain ⟨x38, hr, hf⟩ := st_bd hf
                have hJ : ∀ (ls : Array Slot) (H : Heap) (locs : List Loc), q_H X M3 s H locs → lv_has ls 7 [(0, .ref (X.1 k)), (1, .ref (X.1 10)), (2, .ref (X.1 11)), (3, .int x1), (4, .int x2)] → W p l e (q_rm (2)) s m args below meth c H locs 0 0 (MQ below (q_Qi X r0 MR) args s 0 0 (q_A X)) (F0 m 89 ls [.int x38, .int x1, .ref (X.1 11)]) := by
                  intro ls H locs hH hl
                  obtain ⟨M39, eM39, hf⟩ := st_bd hf
                  refine pz_iast hE hH qk_11 eM39 dX9_valueIn_89 (fun H locs hH => ?_)
                  obtain ⟨x40, ex40, hf⟩ := st_lty hf
                  refine lv_iinc (v := x40) (lv' := [(3, .int x40), (0, .ref (X.1 k)), (1, .ref (X.1 10)), (2, .ref (X.1 11)), (4, .int x2)]) hx hb dX9_valueIn_90 hl (k := 3) rfl (by rw [ex40]; rfl) (by decide) rfl (fun ls hl => ?_)
                  refine lv_goto (tgt := 205) hx hb dX9_valueIn_93 (by decide) ?_
                  obtain ⟨x41, ex41, hf⟩ := st_lty hf
                  refine lv_iinc (v := x41) (lv' := [(4, .int x41), (3, .int x40), (0, .ref (X.1 k)), (1, .ref (X.1 10)), (2, .ref (X.1 11))]) hx hb dX9_valueIn_205 hl (k := 4) rfl (by rw [ex41]; rfl) (by decide) rfl (fun ls hl => ?_)
                  refine lv_goto (tgt := 5) hx hb dX9_valueIn_208 (by decide) ?_
                  exact hK1 _ (Option.some.inj hf).symm ls H locs hH (lv_sub hl [2, 3, 4, 1, 0] rfl)
                clear hf
                replace hf := hr
                refine lv_icmp_ne (tgt := 85) hx hb dX9_valueIn_77 (by decide) (fun hc => ?_) (fun hc => ?_)
                · replace hf := (if_neg hc).symm.trans hf
                  refine lv_aload_n hx hb dX9_valueIn_85 rfl (lv_at hl 3 rfl) ?_
                  refine lv_iload hx hb dX9_valueIn_86 (lv_at hl 0 rfl) ?_
                  obtain ⟨v42, ev42, hf⟩ := st_bd hf
                  refine pz_iald hE hH qk_10 ev42 dX9_valueIn_88 ?_
                  replace hf := Option.some.inj hf
                  subst hf
                  exact hJ ls H locs hH (lv_sub hl [2, 3, 4, 5, 6] rfl)
                · replace hf := (if_pos hc).symm.trans hf
                  refine lv_iload hx hb dX9_valueIn_80 (lv_at hl 0 rfl) ?_
                  refine lv_goto (tgt := 89) hx hb dX9_valueIn_82 (by decide) ?_
                  replace hf := Option.some.inj hf
                  subst hf
                  exact hJ ls H locs hH (lv_sub hl [2, 3, 4, 5, 6] rfl)
              · replace hf := (if_pos hc).symm.trans hf
                refine lv_iload hx hb dX9_valueIn_59 (lv_at hl 0 rfl) ?_
                refine lv_aload_n hx hb dX9_valueIn_61 rfl (lv_at hl 3 rfl) ?_
                refine pz_alenI (v := 8) hE hH qk_10 (by decide) dX9_valueIn_62 ?_
                refine q_calli (q_runSN (As := [.int v12, .int 8]) (rest := []) hE hH (tz_X11_isOf l X (M := M3) (hf := rfl)) kn_X9_22 (by decide) rfl hl.1 rfl (Nat.le_of_ble_eq_true rfl) dX9_valueIn_63) hH (fun H locs hH => ?_)
                refine lv_if_ne (tgt := 71) hx hb dX9_valueIn_66 (by decide) (fun hc => ?_) (fun hc => ?_)
                · replace hf := (if_neg hc).symm.trans hf
                  refine lv_aload_n hx hb dX9_valueIn_71 rfl (lv_at hl 4 rfl) ?_
                  refine lv_iload_n hx hb dX9_valueIn_72 rfl (lv_at hl 5 rfl) ?_
                  refine lv_iload hx hb dX9_valueIn_73 (lv_at hl 1 rfl) ?_
                  refine lv_bipush (v := 48) hx hb dX9_valueIn_75 (by decide) ?_
                  obtain ⟨x43, hr, hf⟩ := st_bd hf
                  have hJ : ∀ (ls : Array Slot) (H : Heap) (locs : List Loc), q_H X M3 s H locs → lv_has ls 7 [(0, .ref (X.1 k)), (1, .ref (X.1 10)), (2, .ref (X.1 11)), (3, .int x1), (4, .int x2)] → W p l e (q_rm (2)) s m args below meth c H locs 0 0 (MQ below (q_Qi X r0 MR) args s 0 0 (q_A X)) (F0 m 89 ls [.int x43, .int x1, .ref (X.1 11)]) := by
                    intro ls H locs hH hl
                    obtain ⟨M44, eM44, hf⟩ := st_bd hf
                    refine pz_iast hE hH qk_11 eM44 dX9_valueIn_89 (fun H locs hH => ?_)
                    obtain ⟨x45, ex45, hf⟩ := st_lty hf
                    refine lv_iinc (v := x45) (lv' := [(3, .int x45), (0, .ref (X.1 k)), (1, .ref (X.1 10)), (2, .ref (X.1 11)), (4, .int x2)]) hx hb dX9_valueIn_90 hl (k := 3) rfl (by rw [ex45]; rfl) (by decide) rfl (fun ls hl => ?_)
                    refine lv_goto (tgt := 205) hx hb dX9_valueIn_93 (by decide) ?_
                    obtain ⟨x46, ex46, hf⟩ := st_lty hf
                    refine lv_iinc (v := x46) (lv' := [(4, .int x46), (3, .int x45), (0, .ref (X.1 k)), (1, .ref (X.1 10)), (2, .ref (X.1 11))]) hx hb dX9_valueIn_205 hl (k := 4) rfl (by rw [ex46]; rfl) (by decide) rfl (fun ls hl => ?_)
                    refine lv_goto (tgt := 5) hx hb dX9_valueIn_208 (by decide) ?_
                    exact hK1 _ (Option.some.inj hf).symm ls H locs hH (lv_sub hl [2, 3, 4, 1, 0] rfl)
                  clear hf
                  replace hf := hr
                  refine lv_icmp_ne (tgt := 85) hx hb dX9_valueIn_77 (by decide) (fun hc => ?_) (fun hc => ?_)
                  · replace hf := (if_neg hc).symm.trans hf
                    refine lv_aload_n hx hb dX9_valueIn_85 rfl (lv_at hl 3 rfl) ?_
                    refine lv_iload hx hb dX9_valueIn_86 (lv_at hl 0 rfl) ?_
                    obtain ⟨v47, ev47, hf⟩ := st_bd hf
                    refine pz_iald hE hH qk_10 ev47 dX9_valueIn_88 ?_
                    replace hf := Option.some.inj hf
                    subst hf
                    exact hJ ls H locs hH (lv_sub hl [2, 3, 4, 5, 6] rfl)
                  · replace hf := (if_pos hc).symm.trans hf
                    refine lv_iload hx hb dX9_valueIn_80 (lv_at hl 0 rfl) ?_
                    refine lv_goto (tgt := 89) hx hb dX9_valueIn_82 (by decide) ?_
                    replace hf := Option.some.inj hf
                    subst hf
                    exact hJ ls H locs hH (lv_sub hl [2, 3, 4, 5, 6] rfl)
                · replace hf := (if_pos hc).symm.trans hf
                  replace hf := hK2 _ (Option.some.inj hf).symm
                  subst hf
                  exact hX ls H locs hH (lv_sub hl [] rfl)) _ hlp
  exact hG ls H locs hH (lv_sub hl [2, 3, 4, 1, 0] rfl)

