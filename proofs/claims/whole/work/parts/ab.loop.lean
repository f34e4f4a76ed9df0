/-! ===== the law: its switch and its loop ===== -/
theorem l_switch {X : qX} {p : Program} {l : Launch} {e : Env} {s : State} {m : MethodId} {below : List Frame} {meth : Method} {c : Code} {H : Heap} {locs : List Loc} {cells slots : Nat} {b L n : Nat} {xs : Nat → Int32} {M : qM} {ls : Array Slot} (hl9 : l.stackTraces = false) (hV : lV X s s.heap) (hE : qE X p s m #[Value.ref b] c code 8 RL) (hX : lX X b L n xs s) (hH : q_H X M s H locs) (hR : RR M) (hc : cells + 1 ≤ 601024) (hs : slots + 6 ≤ 7293034) (hl : lv_has ls 8 [(4, .int (nI (7 * n))), (3, .ref (X.1 122)), (2, .ref (X.1 91)), (1, .ref (X.1 0)), (0, .ref b)]) {x : Int32}
    (kk : lK X p l e s m b below meth c cells slots n) : W p l e room_1 s m #[Value.ref b] below meth c H locs cells slots (lw_Z below #[Value.ref b] s) (F0 m 40 ls [.int x]) := by
  have hx := hE.1
  have hb := hE.2.1
  by_cases h1 : x.toInt < 0 ∨ 50 < x.toInt
  · exact lv_tableOut (tgt := 2039) hx hb dL_law_40 h1 (by decide) (W.widen (by omega) (by omega) (kk H locs M hH hR ls hl))
  · obtain ⟨k, hk⟩ : ∃ k : Nat, x.toInt = (k : Int) := ⟨x.toInt.toNat, by omega⟩
    have hd : k = 0 ∨ k = 1 ∨ k = 2 ∨ k = 3 ∨ k = 4 ∨ k = 5 ∨ k = 6 ∨ k = 7 ∨ k = 8 ∨ k = 9 ∨ k = 10 ∨ k = 11 ∨ k = 12 ∨ k = 13 ∨ k = 14 ∨ k = 15 ∨ k = 16 ∨ k = 17 ∨ k = 18 ∨ k = 19 ∨ k = 20 ∨ k = 21 ∨ k = 22 ∨ k = 23 ∨ k = 24 ∨ k = 25 ∨ k = 26 ∨ k = 27 ∨ k = 28 ∨ k = 29 ∨ k = 30 ∨ k = 31 ∨ k = 32 ∨ k = 33 ∨ k = 34 ∨ k = 35 ∨ k = 36 ∨ k = 37 ∨ k = 38 ∨ k = 39 ∨ k = 40 ∨ k = 41 ∨ k = 42 ∨ k = 43 ∨ k = 44 ∨ k = 45 ∨ k = 46 ∨ k = 47 ∨ k = 48 ∨ k = 49 ∨ k = 50 := by omega
    rcases hd with rfl | rfl | rfl | rfl | rfl | rfl | rfl | rfl | rfl | rfl | rfl | rfl | rfl | rfl | rfl | rfl | rfl | rfl | rfl | rfl | rfl | rfl | rfl | rfl | rfl | rfl | rfl | rfl | rfl | rfl | rfl | rfl | rfl | rfl | rfl | rfl | rfl | rfl | rfl | rfl | rfl | rfl | rfl | rfl | rfl | rfl | rfl | rfl | rfl | rfl | rfl
    · exact lv_tableIn (tgt := 260) hx hb dL_law_40 (by omega) (by omega) (by rw [hk]; rfl) (by decide) (lc_0 hl9 hV hE hX hH hR hc hs hl kk)
    · exact lv_tableIn (tgt := 333) hx hb dL_law_40 (by omega) (by omega) (by rw [hk]; rfl) (by decide) (lc_1 hl9 hV hE hX hH hR hc hs hl kk)
    · exact lv_tableIn (tgt := 358) hx hb dL_law_40 (by omega) (by omega) (by rw [hk]; rfl) (by decide) (lc_2 hl9 hV hE hX hH hR hc hs hl kk)
    · exact lv_tableIn (tgt := 383) hx hb dL_law_40 (by omega) (by omega) (by rw [hk]; rfl) (by decide) (lc_3 hl9 hV hE hX hH hR hc hs hl kk)
    · exact lv_tableIn (tgt := 408) hx hb dL_law_40 (by omega) (by omega) (by rw [hk]; rfl) (by decide) (lc_4 hl9 hV hE hX hH hR hc hs hl kk)
    · exact lv_tableIn (tgt := 476) hx hb dL_law_40 (by omega) (by omega) (by rw [hk]; rfl) (by decide) (lc_5 hl9 hV hE hX hH hR hc hs hl kk)
    · exact lv_tableIn (tgt := 525) hx hb dL_law_40 (by omega) (by omega) (by rw [hk]; rfl) (by decide) (lc_6 hl9 hV hE hX hH hR hc hs hl kk)
    · exact lv_tableIn (tgt := 574) hx hb dL_law_40 (by omega) (by omega) (by rw [hk]; rfl) (by decide) (lc_7 hl9 hV hE hX hH hR hc hs hl kk)
    · exact lv_tableIn (tgt := 611) hx hb dL_law_40 (by omega) (by omega) (by rw [hk]; rfl) (by decide) (lc_8 hl9 hV hE hX hH hR hc hs hl kk)
    · exact lv_tableIn (tgt := 648) hx hb dL_law_40 (by omega) (by omega) (by rw [hk]; rfl) (by decide) (lc_9 hl9 hV hE hX hH hR hc hs hl kk)
    · exact lv_tableIn (tgt := 741) hx hb dL_law_40 (by omega) (by omega) (by rw [hk]; rfl) (by decide) (lc_10 hl9 hV hE hX hH hR hc hs hl kk)
    · exact lv_tableIn (tgt := 766) hx hb dL_law_40 (by omega) (by omega) (by rw [hk]; rfl) (by decide) (lc_11 hl9 hV hE hX hH hR hc hs hl kk)
    · exact lv_tableIn (tgt := 803) hx hb dL_law_40 (by omega) (by omega) (by rw [hk]; rfl) (by decide) (lc_12 hl9 hV hE hX hH hR hc hs hl kk)
    · exact lv_tableIn (tgt := 828) hx hb dL_law_40 (by omega) (by omega) (by rw [hk]; rfl) (by decide) (lc_13 hl9 hV hE hX hH hR hc hs hl kk)
    · exact lv_tableIn (tgt := 877) hx hb dL_law_40 (by omega) (by omega) (by rw [hk]; rfl) (by decide) (lc_14 hl9 hV hE hX hH hR hc hs hl kk)
    · exact lv_tableIn (tgt := 914) hx hb dL_law_40 (by omega) (by omega) (by rw [hk]; rfl) (by decide) (lc_15 hl9 hV hE hX hH hR hc hs hl kk)
    · exact lv_tableIn (tgt := 939) hx hb dL_law_40 (by omega) (by omega) (by rw [hk]; rfl) (by decide) (lc_16 hl9 hV hE hX hH hR hc hs hl kk)
    · exact lv_tableIn (tgt := 964) hx hb dL_law_40 (by omega) (by omega) (by rw [hk]; rfl) (by decide) (lc_17 hl9 hV hE hX hH hR hc hs hl kk)
    · exact lv_tableIn (tgt := 1013) hx hb dL_law_40 (by omega) (by omega) (by rw [hk]; rfl) (by decide) (lc_18 hl9 hV hE hX hH hR hc hs hl kk)
    · exact lv_tableIn (tgt := 1050) hx hb dL_law_40 (by omega) (by omega) (by rw [hk]; rfl) (by decide) (lc_19 hl9 hV hE hX hH hR hc hs hl kk)
    · exact lv_tableIn (tgt := 1087) hx hb dL_law_40 (by omega) (by omega) (by rw [hk]; rfl) (by decide) (lc_20 hl9 hV hE hX hH hR hc hs hl kk)
    · exact lv_tableIn (tgt := 1174) hx hb dL_law_40 (by omega) (by omega) (by rw [hk]; rfl) (by decide) (lc_21 hl9 hV hE hX hH hR hc hs hl kk)
    · exact lv_tableIn (tgt := 1211) hx hb dL_law_40 (by omega) (by omega) (by rw [hk]; rfl) (by decide) (lc_22 hl9 hV hE hX hH hR hc hs hl kk)
    · exact lv_tableIn (tgt := 1236) hx hb dL_law_40 (by omega) (by omega) (by rw [hk]; rfl) (by decide) (lc_23 hl9 hV hE hX hH hR hc hs hl kk)
    · exact lv_tableIn (tgt := 1291) hx hb dL_law_40 (by omega) (by omega) (by rw [hk]; rfl) (by decide) (lc_24 hl9 hV hE hX hH hR hc hs hl kk)
    · exact lv_tableIn (tgt := 1304) hx hb dL_law_40 (by omega) (by omega) (by rw [hk]; rfl) (by decide) (lc_25 hl9 hV hE hX hH hR hc hs hl kk)
    · exact lv_tableIn (tgt := 1329) hx hb dL_law_40 (by omega) (by omega) (by rw [hk]; rfl) (by decide) (lc_26 hl9 hV hE hX hH hR hc hs hl kk)
    · exact lv_tableIn (tgt := 1366) hx hb dL_law_40 (by omega) (by omega) (by rw [hk]; rfl) (by decide) (lc_27 hl9 hV hE hX hH hR hc hs hl kk)
    · exact lv_tableIn (tgt := 1403) hx hb dL_law_40 (by omega) (by omega) (by rw [hk]; rfl) (by decide) (lc_28 hl9 hV hE hX hH hR hc hs hl kk)
    · exact lv_tableIn (tgt := 1440) hx hb dL_law_40 (by omega) (by omega) (by rw [hk]; rfl) (by decide) (lc_29 hl9 hV hE hX hH hR hc hs hl kk)
    · exact lv_tableIn (tgt := 1477) hx hb dL_law_40 (by omega) (by omega) (by rw [hk]; rfl) (by decide) (lc_30 hl9 hV hE hX hH hR hc hs hl kk)
    · exact lv_tableIn (tgt := 1490) hx hb dL_law_40 (by omega) (by omega) (by rw [hk]; rfl) (by decide) (lc_31 hl9 hV hE hX hH hR hc hs hl kk)
    · exact lv_tableIn (tgt := 1503) hx hb dL_law_40 (by omega) (by omega) (by rw [hk]; rfl) (by decide) (lc_32 hl9 hV hE hX hH hR hc hs hl kk)
    · exact lv_tableIn (tgt := 1528) hx hb dL_law_40 (by omega) (by omega) (by rw [hk]; rfl) (by decide) (lc_33 hl9 hV hE hX hH hR hc hs hl kk)
    · exact lv_tableIn (tgt := 1565) hx hb dL_law_40 (by omega) (by omega) (by rw [hk]; rfl) (by decide) (lc_34 hl9 hV hE hX hH hR hc hs hl kk)
    · exact lv_tableIn (tgt := 1602) hx hb dL_law_40 (by omega) (by omega) (by rw [hk]; rfl) (by decide) (lc_35 hl9 hV hE hX hH hR hc hs hl kk)
    · exact lv_tableIn (tgt := 1651) hx hb dL_law_40 (by omega) (by omega) (by rw [hk]; rfl) (by decide) (lc_36 hl9 hV hE hX hH hR hc hs hl kk)
    · exact lv_tableIn (tgt := 1700) hx hb dL_law_40 (by omega) (by omega) (by rw [hk]; rfl) (by decide) (lc_37 hl9 hV hE hX hH hR hc hs hl kk)
    · exact lv_tableIn (tgt := 1725) hx hb dL_law_40 (by omega) (by omega) (by rw [hk]; rfl) (by decide) (lc_38 hl9 hV hE hX hH hR hc hs hl kk)
    · exact lv_tableIn (tgt := 1762) hx hb dL_law_40 (by omega) (by omega) (by rw [hk]; rfl) (by decide) (lc_39 hl9 hV hE hX hH hR hc hs hl kk)
    · exact lv_tableIn (tgt := 1799) hx hb dL_law_40 (by omega) (by omega) (by rw [hk]; rfl) (by decide) (lc_40 hl9 hV hE hX hH hR hc hs hl kk)
    · exact lv_tableIn (tgt := 1824) hx hb dL_law_40 (by omega) (by omega) (by rw [hk]; rfl) (by decide) (lc_41 hl9 hV hE hX hH hR hc hs hl kk)
    · exact lv_tableIn (tgt := 1849) hx hb dL_law_40 (by omega) (by omega) (by rw [hk]; rfl) (by decide) (lc_42 hl9 hV hE hX hH hR hc hs hl kk)
    · exact lv_tableIn (tgt := 1862) hx hb dL_law_40 (by omega) (by omega) (by rw [hk]; rfl) (by decide) (lc_43 hl9 hV hE hX hH hR hc hs hl kk)
    · exact lv_tableIn (tgt := 1888) hx hb dL_law_40 (by omega) (by omega) (by rw [hk]; rfl) (by decide) (lc_44 hl9 hV hE hX hH hR hc hs hl kk)
    · exact lv_tableIn (tgt := 1913) hx hb dL_law_40 (by omega) (by omega) (by rw [hk]; rfl) (by decide) (lc_45 hl9 hV hE hX hH hR hc hs hl kk)
    · exact lv_tableIn (tgt := 1950) hx hb dL_law_40 (by omega) (by omega) (by rw [hk]; rfl) (by decide) (lc_46 hl9 hV hE hX hH hR hc hs hl kk)
    · exact lv_tableIn (tgt := 1963) hx hb dL_law_40 (by omega) (by omega) (by rw [hk]; rfl) (by decide) (lc_47 hl9 hV hE hX hH hR hc hs hl kk)
    · exact lv_tableIn (tgt := 1988) hx hb dL_law_40 (by omega) (by omega) (by rw [hk]; rfl) (by decide) (lc_48 hl9 hV hE hX hH hR hc hs hl kk)
    · exact lv_tableIn (tgt := 2001) hx hb dL_law_40 (by omega) (by omega) (by rw [hk]; rfl) (by decide) (lc_49 hl9 hV hE hX hH hR hc hs hl kk)
    · exact lv_tableIn (tgt := 2014) hx hb dL_law_40 (by omega) (by omega) (by rw [hk]; rfl) (by decide) (lc_50 hl9 hV hE hX hH hR hc hs hl kk)
theorem lo_sub {L : Nat} (h : L ≤ 3584) : (Int32.ofNat L - 7).toInt = (L : Int) - 7 := by
  have e1 : (Int32.ofNat L).toInt = (L : Int) := nI_toInt (n := L) (by omega)
  rw [Int32.toInt_sub, e1, show (7 : Int32).toInt = 7 from rfl]
  exact Int.bmod_eq_of_le (by omega) (by omega)
theorem l_loop {X : qX} {p : Program} {l : Launch} {e : Env} {s : State} {m : MethodId} {below : List Frame} {meth : Method} {c : Code} {b L : Nat} {xs : Nat → Int32} (hl9 : l.stackTraces = false) (hV : lV X s s.heap) (hE : qE X p s m #[Value.ref b] c code 8 RL) (hr : meth.sig.returnType = ret) (hlk : meth.locks = false)
    (hX : va_X b L xs s s.heap) (hbl : b < s.heap.size) (hbA : ¬ q_A X b) (hL : L ≤ 3584) (hA : ∀ q, q_A X q → s.heap.size ≤ q) :
    ∀ (d n : Nat), 7 * n ≤ L → L < 7 * (n + d) + 7 → ∀ (H : Heap) (locs : List Loc) (M : qM) (ls : Array Slot), q_H X M s H locs → RR M → lv_has ls 8 [(4, .int (nI (7 * n))), (3, .ref (X.1 122)), (2, .ref (X.1 91)), (1, .ref (X.1 0)), (0, .ref b)] →
      W p l e room_1 s m #[Value.ref b] below meth c H locs (123 + n) (12513 + 6 * n) (lw_Z below #[Value.ref b] s) (F0 m 23 ls []) := by
  have hx := hE.1
  have hb := hE.2.1
  intro d
  induction d with
  | zero =>
    intro n h1 h2 H locs M ls hH hR hl
    refine lv_iload hx hb dL_law_23 (lv_at hl 0 rfl) ?_
    refine lv_aload_n hx hb dL_law_25 rfl (lv_at hl 4 rfl) ?_
    refine va_slen hx hb hX hbl hbA hH.2 dL_law_26 ?_
    refine lv_bipush (v := 7) hx hb dL_law_27 (by decide) ?_
    refine lv_isub hx hb dL_law_29 ?_
    refine lv_icmp_gt (tgt := 2045) hx hb dL_law_30 (by decide) (fun _ => ?_) (fun hc => ?_)
    · refine lv_iconst (v := 1) hx hb dL_law_2045 (by decide) ?_
      exact va_forget (fun q hq => hA _ (hH.2.2.2 q hq)) (W.widen (by omega) (by omega) (lw_ret hx hb hr hlk dL_law_2046))
    · exfalso
      refine hc ?_
      rw [i_lt, lo_sub hL, nI_toInt (by omega)]
      omega
  | succ d ih =>
    intro n h1 h2 H locs M ls hH hR hl
    refine lv_iload hx hb dL_law_23 (lv_at hl 0 rfl) ?_
    refine lv_aload_n hx hb dL_law_25 rfl (lv_at hl 4 rfl) ?_
    refine va_slen hx hb hX hbl hbA hH.2 dL_law_26 ?_
    refine lv_bipush (v := 7) hx hb dL_law_27 (by decide) ?_
    refine lv_isub hx hb dL_law_29 ?_
    refine lv_icmp_gt (tgt := 2045) hx hb dL_law_30 (by decide) (fun _ => ?_) (fun hc => ?_)
    · refine lv_iconst (v := 1) hx hb dL_law_2045 (by decide) ?_
      exact va_forget (fun q hq => hA _ (hH.2.2.2 q hq)) (W.widen (by omega) (by omega) (lw_ret hx hb hr hlk dL_law_2046))
    · have h7 : 7 * n + 7 ≤ L := by
        rw [i_lt, lo_sub hL, nI_toInt (by omega)] at hc
        omega
      refine lv_aload_n hx hb dL_law_33 rfl (lv_at hl 4 rfl) ?_
      refine lv_iload hx hb dL_law_34 (lv_at hl 0 rfl) ?_
      have e1 : (nI (7 * n)).toNatClampNeg = 7 * n := nI_clamp (by omega)
      refine va_sld hx hb hX hbl hbA hH.2 (i := nI (7 * n)) ?_ dL_law_36 ?_
      · rintro (g1 | g1)
        · exact nI_pos (by omega) g1
        · rw [e1] at g1; omega
      refine lv_bipush (v := 63) hx hb dL_law_37 (by decide) ?_
      refine lv_iand hx hb dL_law_39 ?_
      refine l_switch (xs := xs) (L := L) (n := n) hl9 hV hE ⟨hX, hbl, hbA, h7, hL⟩ hH hR (by omega) (by omega) hl ?_
      intro H locs M hH hR ls hl
      refine lv_iinc (k := 0) (v := nI (7 * (n + 1))) (lv' := [(4, .int (nI (7 * (n + 1)))), (3, .ref (X.1 122)), (2, .ref (X.1 91)), (1, .ref (X.1 0)), (0, .ref b)]) hx hb dL_law_2039 hl rfl (nI_add _ _) (by decide) rfl (fun ls hl => ?_)
      refine lv_goto (tgt := 23) hx hb dL_law_2042 (by decide) ?_
      exact ih (n + 1) (by omega) (by omega) H locs M ls hH hR hl
