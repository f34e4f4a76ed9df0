/-! ===== the calls that may throw, and the law's own methods around them ===== -/
def lx_rm (n : Nat) : Room := { frames := n, cells := 1, slots := 6, locals := 64 * n }
def lx_Pc (X : qX) (M : qM) (av : List Value) : Array Value → State → Prop := va_Pc av (fun U => q_P X M U.heap ∧ va_K X.2.2.1 vwCl (q_ty X) U ∧ q_inj X ∧ q_S X U U.heap ∧ lV X U U.heap)
theorem lx_blind {X : qX} {M : qM} {av : List Value} : FrameBlind (lx_Pc X M av) := by
  intro a U g mk h
  obtain ⟨h0, hP, hK, hi, hS, hV⟩ := h
  exact ⟨h0, hP, va_K.moved (u := U) (U := U.calling g mk a) (Vm.Alike.refl U.vm) hK, hi, q_S.same rfl hS, lV.moved (u := U) (U := U.calling g mk a) (Vm.Alike.refl U.vm) hV⟩
theorem lx_pre {X : qX} {p : Program} {s : State} {m : MethodId} {args : Array Value} {c : Code} {cc : ByteArray} {nL : Nat} {own : String} {M : qM} {H : Heap} {locs : List Loc} {av : List Value} (hE : qE X p s m args c cc nL own) (hV : lV X s s.heap) (hH : q_H X M s H locs) : ∀ U : State, U.heap = H → s.WarmedH U.vm → lx_Pc X M av av.toArray U := by
  intro U hU hW
  obtain ⟨h0, hP, hK, hi, hS⟩ := q_pre (av := av) hE hH U hU hW
  refine ⟨h0, hP, hK, hi, hS, ?_⟩
  refine lV.kept (lV.moved hW.alike hV) (fun a h1 h2 => ?_)
  rw [hU]
  exact hH.2.2.1 a h1 h2
def lx_XC (X : qX) (M : qM) : String → State → State → Prop := vx_X (fun _ : Unit => True) (fun E _ t => E = nsE ∧ q_P X M t.heap) (q_A X)
def lx_X0 (X : qX) : String → State → State → Prop := vx_X (fun _ : Unit => False) (fun _ _ _ => True) (q_A X)
def lx_Qn (X : qX) : Array Value → State → Outcome → State → Prop := va_Qi (fun _ (_ : Unit) => False) (fun _ _ => True) (q_A X)
def lx_Ql (X : qX) : Array Value → State → Outcome → State → Prop := va_Ql (fun _ (_ : Unit) => False) (fun _ _ => True) (q_A X)
section LR
variable {X : qX} {p : Program} {l : Launch} {e : Env} {R : Room} {s : State} {m : MethodId} {args : Array Value} {below : List Frame} {meth : Method} {c : Code} {H : Heap} {locs : List Loc} {cells slots : Nat} {Q : State → Prop}
variable {cc cc1 : ByteArray} {pc pc9 : Nat} {ls : Array Slot} {st0 rest As : List Value} {M M1 : qM} {own : String} {nL idx np ci k n n1 lv : Nat} {y : MethodName} {ret : Option FieldType}
theorem lr_callB {rm : Room} {mc ms : Nat} (hE : qE X p s m args c cc nL own) (hK : q_Km own idx y cc1 n1 ret np) (hc : rm.cells = mc) (hs : rm.slots = ms) (hr : rm.frames + 1 ≤ R.frames ∧ 8 + (n1 + 11) + rm.locals ≤ R.locals) : CallB R s args own idx y cc1 n1 ret (Cond.code y cc1 n1 ret :: q_tbl) rm mc ms np := by
  obtain ⟨-, -, -, -, hts, -⟩ := hE
  obtain ⟨k1, k2, k3, k4, k5⟩ := hK
  refine callB_of np hts ?_ rfl hc hs (hts _ k3) (hts _ k2) k4 hr
  intro w hw
  rcases List.mem_cons.mp hw with rfl | hw
  · exact ⟨k1, q_good k1⟩
  · exact ⟨hw, q_good hw⟩
theorem lr_runV {Qc : Array Value → State → Outcome → State → Prop} (hE : qE X p s m args c cc nL own) (hH : q_H X M s H locs) (hM : q_Met l X y cc1 n1 ret lv M (.ref (X.1 k) :: As) Qc) (hK : q_KV own idx y cc1 n1 ret np ci) (hk : q_is k ci n) (hr : lv + 1 ≤ R.frames ∧ 8 + (n1 + 11) + 64 * lv ≤ R.locals) (hn : As.length = np) (hls : ls.size = nL) (hst : st0 = As.reverse ++ .ref (X.1 k) :: rest) (hW : (rest.map fun v => v.category).sum ≤ 8) (hdg : decode cc pc = .ok (.invokevirtual idx, 3)) (hc : cells ≤ R.cells) (hs : slots ≤ R.slots) :
    va_Run p l e R s m args below meth c H locs cells slots 0 0 (F0 m pc ls st0) rest (Qc (Value.ref (X.1 k) :: As).toArray) (q_A X) := by
  have hE0 := hE
  obtain ⟨hx, hb, hml, ho, hts, hKK, hi, -⟩ := hE
  obtain ⟨k0, k6, k7, T, N, k8, k9⟩ := hK
  exact va_runV (Ts := q_tbl) ⟨hx, hb, hml, ho, hts⟩ hM ⟨lr_callB hE0 k0 rfl rfl hr, hts _ k6, hts _ k7⟩ ⟨q_Pc_blind, va_recv hKK hH.1.1 k8 (by rw [q_W_get hk.2.1, q_E_obj hk k9]), q_pre hE0 hH⟩ rfl hn hls hst (lv_room hW) hdg ⟨hc, hs⟩
theorem lr_runS {Qc : Array Value → State → Outcome → State → Prop} (hE : qE X p s m args c cc nL own) (hH : q_H X M s H locs) (hM : q_Met l X y cc1 n1 ret lv M As Qc) (hK : q_KS own idx y cc1 n1 ret np) (hr : lv + 1 ≤ R.frames ∧ 8 + (n1 + 11) + 64 * lv ≤ R.locals) (hn : As.length = np) (hls : ls.size = nL) (hst : st0 = As.reverse ++ rest) (hW : (rest.map fun v => v.category).sum ≤ 8) (hdg : decode cc pc = .ok (.invokestatic idx, 3)) (hc : cells ≤ R.cells) (hs : slots ≤ R.slots) :
    va_Run p l e R s m args below meth c H locs cells slots 0 0 (F0 m pc ls st0) rest (Qc As.toArray) (q_A X) := by
  have hE0 := hE
  obtain ⟨hx, hb, hml, ho, hts, hKK, hi, -⟩ := hE
  obtain ⟨k0, k1⟩ := hK
  exact va_runS (Ts := q_tbl) ⟨hx, hb, hml, ho, hts⟩ hM ⟨lr_callB hE0 k0 rfl rfl hr, hts _ k1⟩ ⟨q_Pc_blind, q_pre hE0 hH⟩ rfl hn hls hst (lv_room hW) hdg ⟨hc, hs⟩
theorem lr_calli {r : Int32} {a : Array Value} (hr : va_Run p l e R s m args below meth c H locs cells slots 0 0 (F0 m pc ls st0) rest (q_Qi X r M1 a) (q_A X)) (hH : q_H X M s H locs)
    (kk : ∀ (H : Heap) (locs : List Loc), q_H X M1 s H locs → W p l e R s m args below meth c H locs cells slots Q (F0 m (pc + 3) ls (.int r :: rest))) : W p l e R s m args below meth c H locs cells slots Q (F0 m pc ls st0) := by
  refine va_calli hr hH.2 (fun _ _ h => h) (fun _ h => h) (fun r' u t H1 locs1 ht hvm hw hB _ _ hS => ?_)
  subst hw
  have hB : q_P X M1 t.heap := hB
  rw [ht] at hB
  exact kk H1 locs1 ⟨hB, hS⟩
theorem lr_calll {r : Int64} {a : Array Value} (hr : va_Run p l e R s m args below meth c H locs cells slots 0 0 (F0 m pc ls st0) rest (q_Ql X r M1 a) (q_A X)) (hH : q_H X M s H locs)
    (kk : ∀ (H : Heap) (locs : List Loc), q_H X M1 s H locs → W p l e R s m args below meth c H locs cells slots Q (F0 m (pc + 3) ls (.long r :: rest))) : W p l e R s m args below meth c H locs cells slots Q (F0 m pc ls st0) := by
  refine va_calll hr hH.2 (fun _ _ h => h) (fun _ h => h) (fun r' u t H1 locs1 ht hvm hw hB _ _ hS => ?_)
  subst hw
  have hB : q_P X M1 t.heap := hB
  rw [ht] at hB
  exact kk H1 locs1 ⟨hB, hS⟩
theorem lx_throw {Qc : Array Value → State → Outcome → State → Prop} {t is : Nat} {text : String} (hl9 : l.stackTraces = false) (hE : qE X p s m args c cc nL RX11) (hV : lV X s s.heap) (hH : q_H X M s H locs) (hlk : meth.locks = false) (htab : ∀ x ∈ c.exceptionTable.toList, False) (hls : ls.size = nL)
    (ht : t < 5) (htn : q_tn.getD t ("", 0, "") = (RX11, is, text))
    (d0 : decode cc pc = .ok (.new 127, 3)) (d3 : decode cc (pc + 3) = .ok (.dup, 1)) (d4 : (decode cc (pc + 4) = .ok (.ldc is, 2) ∧ pc9 = pc + 6) ∨ (decode cc (pc + 4) = .ok (.ldc_w is, 3) ∧ pc9 = pc + 7)) (d7 : decode cc pc9 = .ok (.invokespecial 131, 3)) (d10 : decode cc (pc9 + 3) = .ok (.athrow, 1)) :
    W p l e (lx_rm 6) s m args below meth c H locs 0 0 (vx_MQ below Qc (lx_XC X M) args s 1 6 (q_A X)) (F0 m pc ls []) := by
  obtain ⟨hx, hb, hml, ho, hts, hKK, hi, hS⟩ := hE
  have hstr := hS.2.2.1 t ht
  rw [htn] at hstr
  refine ns_out (A := q_A X) (own := RX11) (ik := 127) (ic := 131) (is := is) (text := text) (sa := X.2.2.2.2.1 t) hx hb hl9 ho (hts _ ns_k) (hts _ ns_i) hstr ?_ (by decide +kernel) hV.1 hV.2.1 hH.2 (hls.trans hml.symm) d0 d3 d4 d7 d10 (fun x hx => (htab x hx).elim) (by decide) (by decide) (by decide) (by decide) hlk ?_ hH.2.2.2 (by decide) (by decide)
  · exact vx_hat (fun w hw => hts w (ns_tbl w hw)) ns_tb2 (fun w hw => va_any (by revert w; decide) (hV.2.2 w hw))
  · intro t h1 h2 h3
    refine ⟨(), trivial, ⟨rfl, ?_⟩, Nat.le_trans hH.2.1 h2, fun q g1 g2 => (h3 q (Nat.lt_of_lt_of_le g1 hH.2.1)).trans (hH.2.2.1 q g1 g2)⟩
    exact ⟨hH.1.1.kept (fun k q hk => h3 q.1 ((hH.1.1 k q hk).lt)), hH.1.2⟩
end LR
theorem dX11_village_16 : decode cX11_village 16 = .ok (.new 127, 3) := by decide +kernel
theorem dX11_village_19 : decode cX11_village 19 = .ok (.dup, 1) := by decide +kernel
theorem dX11_village_20 : decode cX11_village 20 = .ok (.ldc 129, 2) := by decide +kernel
theorem dX11_village_22 : decode cX11_village 22 = .ok (.invokespecial 131, 3) := by decide +kernel
theorem dX11_village_25 : decode cX11_village 25 = .ok (.athrow, 1) := by decide +kernel
theorem dX11_value_26 : decode cX11_value 26 = .ok (.new 127, 3) := by decide +kernel
theorem dX11_value_29 : decode cX11_value 29 = .ok (.dup, 1) := by decide +kernel
theorem dX11_value_30 : decode cX11_value 30 = .ok (.ldc_w 348, 3) := by decide +kernel
theorem dX11_value_33 : decode cX11_value 33 = .ok (.invokespecial 131, 3) := by decide +kernel
theorem dX11_value_36 : decode cX11_value 36 = .ok (.athrow, 1) := by decide +kernel
theorem tx_village (l : Launch) (hl9 : l.stackTraces = false) (X : qX) {p0 p1 : Int32} {M : qM} (hf : jTc_isVillage p0 M = false ∨ jTc_isOf p1 3 = false) : vx_Met l yX11_village (Cond.code yX11_village cX11_village 4 (some .int) :: q_tbl) (lx_rm 6) (lx_Pc X M [.ref (X.1 0), .int p0, .int p1]) (lx_Qn X) (lx_XC X M) 1 6 (q_A X) := by
  refine vx_ofW (cc := cX11_village) (maxL := 4) (ret := some .int) (by decide) rfl ?_
  intro p e s m args below meth c s₁ B hml htab hv
  obtain ⟨rfl, hP, hK, hi, hS, hV⟩ := hv
  have hts := atoms_spec (ws := Cond.code yX11_village cX11_village 4 (some .int) :: q_tbl) B.pre
  rw [lg_entry_eq]
  have hE : qE X p s m ([.ref (X.1 0), .int p0, .int p1] : List Value).toArray c cX11_village 4 RX11 := ⟨B.exec, B.bytes, hml, findClass_of_methodNamed B.named, fun w hw => hts w (List.mem_cons_of_mem _ hw), hK, hi, hS⟩
  have hlk := B.notSynchronized
  have hH : q_H X M s s.heap [] := ⟨hP, va_S.rf⟩
  have hx := hE.1
  have hb := hE.2.1
  have hT : ∀ (H : Heap) (locs : List Loc) (ls : Array Slot), q_H X M s H locs → ls.size = 4 → W p l e (lx_rm 6) s m ([.ref (X.1 0), .int p0, .int p1] : List Value).toArray below meth c H locs 0 0 (vx_MQ below (lx_Qn X) (lx_XC X M) ([.ref (X.1 0), .int p0, .int p1] : List Value).toArray s 1 6 (q_A X)) (F0 m 16 ls []) := fun H locs ls hH hls =>
    lx_throw (t := 3) (pc9 := 22) hl9 hE hV hH hlk htab hls (by decide) rfl dX11_village_16 dX11_village_19 (Or.inl ⟨dX11_village_20, rfl⟩) dX11_village_22 dX11_village_25
  refine (fun (body : ∀ ls : Array Slot, lv_has ls 4 [(0, .ref (X.1 0)), (1, .int p0), (2, .int p1)] → W p l e (lx_rm 6) s m ([.ref (X.1 0), .int p0, .int p1] : List Value).toArray below meth c s.heap [] 0 0 (vx_MQ below (lx_Qn X) (lx_XC X M) ([.ref (X.1 0), .int p0, .int p1] : List Value).toArray s 1 6 (q_A X)) (F0 m 0 ls [])) => body _ (lv_entry (n := 4) ([.ref (X.1 0), .int p0, .int p1] : List Value) (Nat.le_of_ble_eq_true rfl))) ?_
  intro ls hl
  refine lv_aload_n hx hb dX11_village_0 rfl (lv_at hl 0 rfl) ?_
  refine lv_iload_n hx hb dX11_village_1 rfl (lv_at hl 1 rfl) ?_
  refine lr_calli (lr_runV (As := [.int p0]) (rest := []) hE hH (tz_X11_isVillage l X (hf := rfl)) kv_X11_119 qk_0 (by decide) rfl hl.1 rfl (Nat.le_of_ble_eq_true rfl) dX11_village_2 (by decide) (by decide)) hH (fun H locs hH => ?_)
  refine lv_if_eq (tgt := 16) hx hb dX11_village_5 (by decide) (fun hc => ?_) (fun hc => ?_)
  · exact hT H locs ls hH hl.1
  · refine lv_iload_n hx hb dX11_village_8 rfl (lv_at hl 2 rfl) ?_
    refine lv_iconst (v := 3) hx hb dX11_village_9 (by decide) ?_
    refine lr_calli (lr_runS (As := [.int p1, .int 3]) (rest := []) hE hH (tz_X11_isOf l X (M := M) (hf := rfl)) ks_X11_123 (by decide) rfl hl.1 rfl (Nat.le_of_ble_eq_true rfl) dX11_village_10 (by decide) (by decide)) hH (fun H locs hH => ?_)
    refine lv_if_ne (tgt := 26) hx hb dX11_village_13 (by decide) (fun hc2 => ?_) (fun hc2 => ?_)
    · exfalso
      rcases hf with hf | hf
      · rw [hf] at hc; exact hc rfl
      · rw [hf] at hc2; exact hc2 rfl
    · exact hT H locs ls hH hl.1
theorem tx_value (l : Launch) (hl9 : l.stackTraces = false) (X : qX) {p0 : Int32} {M : qM} (hf : jRo_isThere M = false ∨ jTc_isOf p0 (M.1 49 5 + 1) = false) : vx_Met l yX11_value (Cond.code yX11_value cX11_value 2 (some .long) :: q_tbl) (lx_rm 6) (lx_Pc X M [.ref (X.1 0), .int p0]) (lx_Ql X) (lx_XC X M) 1 6 (q_A X) := by
  refine vx_ofW (cc := cX11_value) (maxL := 2) (ret := some .long) (by decide) rfl ?_
  intro p e s m args below meth c s₁ B hml htab hv
  obtain ⟨rfl, hP, hK, hi, hS, hV⟩ := hv
  have hts := atoms_spec (ws := Cond.code yX11_value cX11_value 2 (some .long) :: q_tbl) B.pre
  rw [lg_entry_eq]
  have hE : qE X p s m ([.ref (X.1 0), .int p0] : List Value).toArray c cX11_value 2 RX11 := ⟨B.exec, B.bytes, hml, findClass_of_methodNamed B.named, fun w hw => hts w (List.mem_cons_of_mem _ hw), hK, hi, hS⟩
  have hlk := B.notSynchronized
  have hH : q_H X M s s.heap [] := ⟨hP, va_S.rf⟩
  have hx := hE.1
  have hb := hE.2.1
  have hT : ∀ (H : Heap) (locs : List Loc) (ls : Array Slot), q_H X M s H locs → ls.size = 2 → W p l e (lx_rm 6) s m ([.ref (X.1 0), .int p0] : List Value).toArray below meth c H locs 0 0 (vx_MQ below (lx_Ql X) (lx_XC X M) ([.ref (X.1 0), .int p0] : List Value).toArray s 1 6 (q_A X)) (F0 m 26 ls []) := fun H locs ls hH hls =>
    lx_throw (t := 4) (pc9 := 33) hl9 hE hV hH hlk htab hls (by decide) rfl dX11_value_26 dX11_value_29 (Or.inr ⟨dX11_value_30, rfl⟩) dX11_value_33 dX11_value_36
  refine (fun (body : ∀ ls : Array Slot, lv_has ls 2 [(0, .ref (X.1 0)), (1, .int p0)] → W p l e (lx_rm 6) s m ([.ref (X.1 0), .int p0] : List Value).toArray below meth c s.heap [] 0 0 (vx_MQ below (lx_Ql X) (lx_XC X M) ([.ref (X.1 0), .int p0] : List Value).toArray s 1 6 (q_A X)) (F0 m 0 ls [])) => body _ (lv_entry (n := 2) ([.ref (X.1 0), .int p0] : List Value) (Nat.le_of_ble_eq_true rfl))) ?_
  intro ls hl
  refine lv_aload_n hx hb dX11_value_0 rfl (lv_at hl 0 rfl) ?_
  refine pz_gS (a := 49) hE hH fr_X11_69 qk_0 (by decide) dX11_value_1 ?_
  refine lr_calli (lr_runV (As := []) (rest := []) hE hH (tz_X2_isThere l X (hf := rfl)) kv_X11_159 qk_49 (by decide) rfl hl.1 rfl (Nat.le_of_ble_eq_true rfl) dX11_value_4 (by decide) (by decide)) hH (fun H locs hH => ?_)
  refine lv_if_eq (tgt := 26) hx hb dX11_value_7 (by decide) (fun hc => ?_) (fun hc => ?_)
  · exact hT H locs ls hH hl.1
  · refine lv_iload_n hx hb dX11_value_10 rfl (lv_at hl 1 rfl) ?_
    refine lv_aload_n hx hb dX11_value_11 rfl (lv_at hl 0 rfl) ?_
    refine pz_gS (a := 49) hE hH fr_X11_69 qk_0 (by decide) dX11_value_12 ?_
    refine pz_gI hE hH fr_X11_163 qk_49 dX11_value_15 ?_
    refine lv_iconst (v := 1) hx hb dX11_value_18 (by decide) ?_
    refine lv_iadd hx hb dX11_value_19 ?_
    refine lr_calli (lr_runS (As := [.int p0, .int ((M.1 49 5) + 1)]) (rest := []) hE hH (tz_X11_isOf l X (M := M) (hf := rfl)) ks_X11_123 (by decide) rfl hl.1 rfl (Nat.le_of_ble_eq_true rfl) dX11_value_20 (by decide) (by decide)) hH (fun H locs hH => ?_)
    refine lv_if_ne (tgt := 37) hx hb dX11_value_23 (by decide) (fun hc2 => ?_) (fun hc2 => ?_)
    · exfalso
      rcases hf with hf | hf
      · rw [hf] at hc; exact hc rfl
      · rw [hf] at hc2; exact hc2 rfl
    · exact hT H locs ls hH hl.1
