/-! ===== the law: its start ===== -/
theorem ck_11 : c_Km yX11_init cX11_init 2 0 := ⟨by decide +kernel, by decide +kernel, by decide +kernel, rfl, by decide +kernel⟩
theorem ck_12 : c_Km yX12_init cX12_init 1 0 := ⟨by decide +kernel, by decide +kernel, by decide +kernel, rfl, by decide +kernel⟩
theorem wl_new : (Cond.classLink RL 8 RX11 ∈ q_tbl ∧ Cond.instantiable RX11 13 ∈ q_tbl ∧ Cond.initialized RX11 ∈ q_tbl ∧ Cond.methodLink RL 19 yX11_init ∈ q_tbl) ∧ (Cond.classLink RL 20 RX12 ∈ q_tbl ∧ Cond.instantiable RX12 70 ∈ q_tbl ∧ Cond.initialized RX12 ∈ q_tbl ∧ Cond.methodLink RL 22 yX12_init ∈ q_tbl) ∧ Cond.arrayClass .long ∈ q_tbl := by decide +kernel
theorem qd_11 : ∀ j, j < 13 → defaultValue (tyX11 j) = (match q_tg 11 j with | 0 => Value.int 0 | 1 => Value.long 0 | 2 => Value.null | 3 => Value.null | _ => Value.null) := by decide +kernel
theorem qd_12 : ∀ j, j < 70 → defaultValue (tyX12 j) = (match q_tg 12 j with | 0 => Value.int 0 | 1 => Value.long 0 | 2 => Value.null | 3 => Value.null | _ => Value.null) := by decide +kernel
theorem l_start {X : qX} {p : Program} {l : Launch} {e : Env} {s : State} {m : MethodId} {below : List Frame} {meth : Method} {c : Code} {b L : Nat} {xs : Nat → Int32} {ls : Array Slot} (hl9 : l.stackTraces = false) (hL : L ≤ 3584) (hx : p.tables.exec = Jvm.exec) (hb : c.code = code) (hr : meth.sig.returnType = ret) (hml : c.maxLocals = 8) (ho : s.vm.findClass RL = some m.cls) (hts : ∀ w ∈ q_tbl, w.before #[Value.ref b] s = true) (hX : va_X b L xs s s.heap) (hbl : b < s.heap.size) (hlk : meth.locks = false)
    (hK : c_K X s.heap.size s) (hS : q_S X s s.heap) (hV : lV X s s.heap) (hl : lv_has ls 8 [(0, .ref b)]) : W p l e room_1 s m #[Value.ref b] below meth c s.heap [] 0 0 (lw_Z below #[Value.ref b] s) (F0 m 0 ls []) := by
  have hcE : cE X s.heap.size p s m #[Value.ref b] c code 8 RL := ⟨hx, hb, hml, ho, hts, hK, Nat.le_refl _⟩
  have hAq : ∀ q, q_A X q → s.heap.size ≤ q := by
    rintro q ⟨k, hk, rfl⟩
    rw [hK.2.1 k hk]
    omega
  have hinj : q_inj X := by
    intro i j hi hj h
    rw [hK.2.1 i hi, hK.2.1 j hj] at h
    omega
  have hE : qE X p s m #[Value.ref b] c code 8 RL := ⟨hx, hb, hml, ho, hts, hK.1, hinj, hS⟩
  have hH : c_H X s.heap.size 0 zM s s.heap [] := by
    refine ⟨⟨fun k q hq => ?_, rfl, Nat.zero_le _, fun k _ j => ⟨rfl, rfl, rfl⟩⟩, va_S.rf⟩
    simp [c_W] at hq
  obtain ⟨⟨w1, w2, w3, w4⟩, ⟨w5, w6, w7, w8⟩, w9⟩ := wl_new
  refine cz_new hcE hH qc_11 (by decide) qk_0 w1 w2 w3 qd_11 (Nat.le_of_ble_eq_true rfl) (Nat.le_of_ble_eq_true rfl) dL_law_0 (fun H hH => ?_)
  refine lv_dup hx hb dL_law_3 rfl ?_
  refine cz_callI (As := []) (rest := [.ref (X.1 0)]) hcE hH (ci_X11_init l X s.heap.size (hf := MT_eq)) ck_11 w4 (Nat.le_of_ble_eq_true rfl) (Nat.le_of_ble_eq_true rfl) rfl hl.1 rfl (Nat.le_of_ble_eq_true rfl) (Nat.le_of_ble_eq_true rfl) (Nat.le_of_ble_eq_true rfl) dL_law_4 (fun H locs hH => ?_)
  refine lv_astore_n (lv' := [(1, .ref (X.1 0)), (0, .ref b)]) hx hb dL_law_7 rfl hl (by decide) rfl (fun ls hl => ?_)
  refine cz_new hcE hH qc_12 (by decide) qk_91 w5 w6 w7 qd_12 (Nat.le_of_ble_eq_true rfl) (Nat.le_of_ble_eq_true rfl) dL_law_8 (fun H hH => ?_)
  refine lv_dup hx hb dL_law_11 rfl ?_
  refine cz_callI (As := []) (rest := [.ref (X.1 91)]) hcE hH (ci_X12_init l X s.heap.size (MR := MI) (hf := rfl)) ck_12 w8 (Nat.le_of_ble_eq_true rfl) (Nat.le_of_ble_eq_true rfl) rfl hl.1 rfl (Nat.le_of_ble_eq_true rfl) (Nat.le_of_ble_eq_true rfl) (Nat.le_of_ble_eq_true rfl) dL_law_12 (fun H locs hH => ?_)
  refine lv_astore_n (lv' := [(2, .ref (X.1 91)), (1, .ref (X.1 0)), (0, .ref b)]) hx hb dL_law_15 rfl hl (by decide) rfl (fun ls hl => ?_)
  refine lv_iconst (v := 1) hx hb dL_law_16 (by decide) ?_
  refine cz_newJ hcE hH (by decide) qk_122 w9 (by decide) (by decide) (by decide) (Nat.le_of_ble_eq_true rfl) (Nat.le_of_ble_eq_true rfl) dL_law_17 (fun H hH => ?_)
  refine lv_astore_n (lv' := [(3, .ref (X.1 122)), (2, .ref (X.1 91)), (1, .ref (X.1 0)), (0, .ref b)]) hx hb dL_law_19 rfl hl (by decide) rfl (fun ls hl => ?_)
  refine lv_iconst (v := 0) hx hb dL_law_20 (by decide) ?_
  refine lv_istore (lv' := [(4, .int (nI (7 * 0))), (3, .ref (X.1 122)), (2, .ref (X.1 91)), (1, .ref (X.1 0)), (0, .ref b)]) hx hb dL_law_21 hl (by decide) rfl (fun ls hl => ?_)
  refine va_forget (fun q hq => hH.2.2.2 q hq) ?_
  have hQ : q_H X MI s H [] := ⟨c_to_q hH.1, hH.2.1, fun q h1 _ => hH.2.2.1 q h1 (by unfold c_A; omega), fun q hq => nomatch hq⟩
  refine W.widen (k := 123 + 0) (n := 12513 + 6 * 0) (by decide) (by decide) ?_
  exact l_loop hl9 hV hE hr hlk hX hbl (fun h => absurd (hAq b h) (by omega)) hL hAq 512 0 (Nat.zero_le _) (by omega) H [] MI ls hQ RR_init hl
