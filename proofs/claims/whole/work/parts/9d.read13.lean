/-! ===== a clause ===== -/
noncomputable def clI (z12 : Bool) (M13 : qM) : Option (Bool × qM) :=
    ((
      if (b2i z12 : Int32) = (0 : Int32) then
        (jMd_sum M13).bind fun M37 =>
        ((
          if (M37.1 91 4 : Int32) = ((-1) : Int32) then
            (jMd_look M37).bind fun w44 =>
            qu2 w44 fun r45 M46 =>
            if (b2i (jMd_isSign r45) : Int32) = (0 : Int32) then
              some (false, M46)
            else
              some (true, M46)
          else
            some (false, M37)) : Option (Bool × qM)).bind fun w40 =>
        qu2 w40 fun z38 M39 =>
        if (b2i z38 : Int32) = (0 : Int32) then
          some (z38, M39)
        else
          (jMd_compare M39).bind fun M41 =>
          (jMd_goOnAnd M41).bind fun M42 =>
          (jMd_goOnOr M42).bind fun M43 =>
          some (z38, M43)
      else
        (jMd_condition M13).bind fun M47 =>
        some (z12, M47)) : Option (Bool × qM))
noncomputable def clB (x2 : Int32) (M6 : qM) : Option qM :=
    (qrI M6 95 7 (M6.1 91 14)).bind fun v7 =>
    (qwI M6 97 630 x2 v7).bind fun M8 =>
    (jMd_look M8).bind fun w9 =>
    qu2 w9 fun r10 M11 =>
    ((
      if (r10 : Int32) = (33 : Int32) then
        some (true, M11)
      else
        (jMd_look M11).bind fun w48 =>
        qu2 w48 fun r49 M50 =>
        if (r49 : Int32) = (40 : Int32) then
          some (true, M50)
        else
          some (false, M50)) : Option (Bool × qM)).bind fun w14 =>
    qu2 w14 fun z12 M13 =>
    (clI z12 M13).bind fun w17 =>
    qu2 w17 fun z15 M16 =>
    fnM x2 z15 M16
noncomputable def clM (x2 : Int32) (M : qM) : Option qM :=
  (mstM 121 M).bind fun M3 =>
  qlt (qI M3 91 3 ((M3.1 91 3) + 1)) fun M4 =>
  (mstM 58 M4).bind fun M5 =>
  qlt (qI M5 91 3 ((M5.1 91 3) + 1)) fun M6 =>
  if (M6.1 91 4 : Int32) = ((-1) : Int32) then
    clB x2 M6
  else
    some M6
theorem clause_eM (N : qM) : jMd_clause N = (qrI N 96 7 (N.1 91 14)).bind fun v1 => clM ((90 * (N.1 91 14)) + v1) N := rfl
noncomputable def ccC (z : Bool) (M : qM) : Option (Bool × qM) :=
          (jWr_readCondition 0 z M).bind fun w11 =>
          qu2 w11 fun r12 M13 =>
          if (b2i r12 : Int32) = (0 : Int32) then
            some (false, M13)
          else
            tlC M13
noncomputable def ckC (z : Bool) (M : qM) : Option (Bool × qM) :=
          (jTp_peek M).bind fun w36 =>
          qu2 w36 fun r37 M38 =>
          if (b2i (jWr_isComparison r37) : Int32) = (0 : Int32) then
            (M38.2.2 4 1).bind fun a64 =>
            (jWy_add a64 59 0 M38).bind fun w65 =>
            qu2 w65 fun r66 M67 =>
            some (r66, M67)
          else
            ccC z M38
noncomputable def clC (z10 : Bool) (M9 : qM) : Option (Bool × qM) :=
      if (b2i z10 : Int32) = (0 : Int32) then
        if (b2i z10 : Int32) = (0 : Int32) then
          ccC z10 M9
        else
          ckC z10 M9
      else
        (jWr_readSum 0 M9).bind fun w68 =>
        qu2 w68 fun r69 M70 =>
        if (b2i r69 : Int32) = (0 : Int32) then
          some (false, M70)
        else
          if (b2i z10 : Int32) = (0 : Int32) then
            ccC z10 M70
          else
            ckC z10 M70
noncomputable def clZ (r8 : Int32) : Bool := if r8 = 33 then false else if r8 = 40 then false else true
noncomputable def clH (M6 : qM) : Option (Bool × qM) :=
      (jTp_peek M6).bind fun w7 =>
      qu2 w7 fun r8 M9 =>
      clC (clZ r8) M9
theorem clause_eC (M : qM) : jWr_readClause M = ((jTp_take 121 M).bind fun w1 =>
  qu2 w1 fun r2 M3 =>
  if (b2i r2 : Int32) = (0 : Int32) then
    some (false, M3)
  else
    (jTp_take 58 M3).bind fun w4 =>
    qu2 w4 fun r5 M6 =>
    if (b2i r5 : Int32) = (0 : Int32) then
      some (false, M6)
    else
      clH M6) := rfl
theorem CP_fr {τ : tT} {k n a s : Nat} {W : wW} {M0 N0 M N N' : qM} {o : Bool × qM} (h : CP τ k n a s W M N o N') (g1 : fr (rsC k s) M0 M) (g2 : fr (rcM n (wln W) W.length) N0 N) : CP τ k n a s W M0 N0 o N' := ⟨g1.tr h.1, g2.tr h.2.1, h.2.2⟩
theorem body_rd {τ : tT} {k n a a1 s : Nat} {W : wW} {M N : qM} (hT : tOK τ) (hk : 12 ≤ k) (hn : n < 7) (sC : scC M τ k a1 s) (sM : scM N τ n a1 (wln W) 0) (h1 : cW M k s 0 W) (h2 : mW N n 0 0 W) (h3 : wfW W) (h96 : N.1 96 n = nI W.length) (hws : wln W ≤ s) (hsa : s + 2 ≤ a1) (hwa : 2 * (W.length + 1) ≤ a1) (haa : a < a1) :
    w2 (clH M) (clB (nI (90 * n + W.length)) N) (CP τ k n a s W M N) := by
  have h160 := sC.1.2.1
  have hal := sC.2.2.1
  have hsk := sk_le hal
  have hq : W.length < 90 := by omega
  have sM8 : scM (qI N 97 (90 * n + W.length) (nI (wln W))) τ n a1 (wln W) 0 := scM_low sM (low_I (by omega))
  unfold clH clB
  obtain ⟨⟨r, M9⟩, e1, r1, c2, c3⟩ := peek_st hk sC
  have r1' : r = cb τ (sk τ a1) := r1
  subst r1'
  have c2 : scC M9 τ k (sk τ a1) s := c2
  have c3 : fr atC M M9 := c3
  obtain ⟨⟨r, N11⟩, e2, r1, m2, m3⟩ := look_st sM8 hal
  have r1' : r = cb τ (sk τ a1) := r1
  subst r1'
  have m2 : scM N11 τ n (sk τ a1) (wln W) 0 := m2
  have m3 : fr atM (qI N 97 (90 * n + W.length) (nI (wln W))) N11 := m3
  obtain ⟨⟨r, N50⟩, e3, r1, m4, m5⟩ := look_st m2 hsk.2
  rw [sk_sk _ a1 (Nat.le_refl _) hal] at r1 m4
  have r1' : r = cb τ (sk τ a1) := r1
  subst r1'
  have m4 : scM N50 τ n (sk τ a1) (wln W) 0 := m4
  have m5 : fr atM N11 N50 := m5
  refine w2_C (wp_eq e1 ?_)
  refine w2_M (wp_rI sM.2.2.2.2.1 hn (by decide) ?_)
  rw [sM.2.2.2.2.2]
  refine w2_M (wp_wI rfl (by omega) (by decide) ?_)
  refine w2_M (wp_eq e2 ?_)
  have hsel : ∃ N13, ((if (cb τ (sk τ a1) : Int32) = (33 : Int32) then some (true, N11) else (jMd_look N11).bind fun w48 => qu2 w48 fun r49 M50 => if (r49 : Int32) = (40 : Int32) then some (true, M50) else some (false, M50)) : Option (Bool × qM)) = some (!(clZ (cb τ (sk τ a1))), N13) ∧ scM N13 τ n (sk τ a1) (wln W) 0 ∧ fr atM (qI N 97 (90 * n + W.length) (nI (wln W))) N13 := by
    by_cases h33 : cb τ (sk τ a1) = 33
    · exact ⟨N11, by unfold clZ; rw [if_pos h33, if_pos h33]; rfl, m2, m3⟩
    · rw [if_neg h33, e3, Option.bind_some]
      by_cases h40 : cb τ (sk τ a1) = 40
      · exact ⟨N50, (if_pos h40).trans (by unfold clZ; rw [if_neg h33, if_pos h40]; rfl), m4, m3.tr m5⟩
      · exact ⟨N50, (if_neg h40).trans (by unfold clZ; rw [if_neg h33, if_neg h40]; rfl), m4, m3.tr m5⟩
  obtain ⟨N13, e4, m6, m7⟩ := hsel
  refine w2_M (wp_eq e4 ?_)
  have gC : fr (rsC k s) M M9 := atC_rs c3
  have gM : fr (rcM n (wln W) W.length) N N13 := (fr_I (.inr (.inr ⟨.inl rfl, rfl⟩))).tr (m7.mono (fun _ _ hb => .inl (rsM_at hb)))
  have h1' : cW M9 k s 0 W := cW_frL (fun j hj => ⟨(gC _ _ (by unfold rsC; omega)).1, (gC _ _ (by unfold rsC; omega)).1⟩) W h1
  have h2' : mW N13 n 0 0 W := mW_frL (C := wln W) (Q := W.length) (fun j hj => ⟨(gM _ _ (by unfold rcM rsM; omega)).1, (gM _ _ (by unfold rcM rsM; omega)).1⟩) (fun j hj => ⟨(gM _ _ (by unfold rcM rsM; omega)).1, (gM _ _ (by unfold rcM rsM; omega)).1, (gM _ _ (by unfold rcM rsM; omega)).1⟩) W (by omega) (by omega) h2
  have h96' : N13.1 96 n = nI W.length := by rw [(m7 _ _ (by unfold atM; omega)).1, qI_1, if_neg (by omega)]; exact h96
  have h97' : N13.1 97 (90 * n + W.length) = nI (wln W) := by rw [(m7 _ _ (by unfold atM; omega)).1, qI_1, if_pos ⟨rfl, rfl⟩]
  show w2 (clC (clZ (cb τ (sk τ a1))) M9) ((clI (!(clZ (cb τ (sk τ a1)))) N13).bind fun w17 => qu2 w17 fun z15 M16 => fnM (nI (90 * n + W.length)) z15 M16) _
  cases hz : clZ (cb τ (sk τ a1)) with
  | false =>
    obtain ⟨⟨zC, M30⟩, N47, q1, q2, hp⟩ := cond_rd hk hn (by omega) (unitN_rd hT hk hn 8 0 (by omega) (by omega)) _ _ _ _ _ c2 m6 hws
    have q1 : jWr_readCondition 0 false M9 = some (zC, M30) := q1
    have q2 : jMd_condition N13 = some N47 := q2
    show w2 ((jWr_readCondition 0 false M9).bind fun w11 => qu2 w11 fun r12 M13 => if (b2i r12 : Int32) = (0 : Int32) then some (false, M13) else tlC M13) (((jMd_condition N13).bind fun M47 => some (true, M47)).bind fun w17 => qu2 w17 fun z15 M16 => fnM (nI (90 * n + W.length)) z15 M16) _
    refine w2_C (wp_eq q1 ?_)
    rw [q2, Option.bind_some, Option.bind_some]
    exact (tail_rd hT hk hn hq h1' h2' h3 h96' h97' hws (by omega) (by omega) (by omega) (PO_PB.mp hp)).mono (fun x y hxy => CP_fr hxy gC gM)
  | true =>
    obtain ⟨⟨zC, M70⟩, N37, q1, q2, f1, f2, hp⟩ := readSum_rd (d := 0) hT hk hn (by omega) _ _ _ _ _ c2 m6 hws
    have q1 : jWr_readSum 0 M9 = some (zC, M70) := q1
    have f1 : fr (rsC k s) M9 M70 := f1
    show w2 ((jWr_readSum 0 M9).bind fun w68 => qu2 w68 fun r69 M70 => if (b2i r69 : Int32) = (0 : Int32) then some (false, M70) else ckC true M70) (((jMd_sum N13).bind fun M37 =>
        ((
          if (M37.1 91 4 : Int32) = ((-1) : Int32) then
            (jMd_look M37).bind fun w44 =>
            qu2 w44 fun r45 M46 =>
            if (b2i (jMd_isSign r45) : Int32) = (0 : Int32) then
              some (false, M46)
            else
              some (true, M46)
          else
            some (false, M37)) : Option (Bool × qM)).bind fun w40 =>
        qu2 w40 fun z38 M39 =>
        if (b2i z38 : Int32) = (0 : Int32) then
          some (z38, M39)
        else
          (jMd_compare M39).bind fun M41 =>
          (jMd_goOnAnd M41).bind fun M42 =>
          (jMd_goOnOr M42).bind fun M43 =>
          some (z38, M43)).bind fun w17 => qu2 w17 fun z15 M16 => fnM (nI (90 * n + W.length)) z15 M16) _
    refine w2_C (wp_eq q1 ?_)
    rw [q2, Option.bind_some]
    rcases hp with ⟨z1, a', L, l1, l2, l3, l4, l5, l6, l7⟩ | ⟨z1, w, w1, w2'⟩
    · have z1' : zC = true := z1
      subst z1'
      have hA : AL τ k n (sk τ a1) (sk τ a1) s (wln W) 0 (WS 15) M9 N13 M70 N37 a' L := ⟨f1, f2, l1, l2, l3, l4, l5, l6, l7⟩
      obtain ⟨M98, N46, e5, e6, hA'⟩ := AL_C hk hA
      have hal' := hA.2.2.2.2.1.2.2.1
      have hsk' := sk_le hal'
      rw [if_pos l4.2.2.1, e6, Option.bind_some]
      show w2 ((jTp_peek M70).bind fun w36 =>
          qu2 w36 fun r37 M38 =>
          if (b2i (jWr_isComparison r37) : Int32) = (0 : Int32) then
            (M38.2.2 4 1).bind fun a64 =>
            (jWy_add a64 59 0 M38).bind fun w65 =>
            qu2 w65 fun r66 M67 =>
            some (r66, M67)
          else
            ccC true M38) ((((if (b2i (jMd_isSign (cb τ (sk τ a'))) : Int32) = (0 : Int32) then
              some (false, N46)
            else
              some (true, N46)) : Option (Bool × qM)).bind fun w40 =>
        qu2 w40 fun z38 M39 =>
        if (b2i z38 : Int32) = (0 : Int32) then
          some (z38, M39)
        else
          (jMd_compare M39).bind fun M41 =>
          (jMd_goOnAnd M41).bind fun M42 =>
          (jMd_goOnOr M42).bind fun M43 =>
          some (z38, M43)).bind fun w17 => qu2 w17 fun z15 M16 => fnM (nI (90 * n + W.length)) z15 M16) _
      refine w2_C (wp_eq e5 ?_)
      show w2 (if (b2i (jWr_isComparison (cb τ (sk τ a'))) : Int32) = (0 : Int32) then _ else _) _ _
      rw [sign_eq]
      cases hs : jMd_isSign (cb τ (sk τ a')) with
      | false =>
        refine w2_Cp ff0 ?_
        obtain ⟨g1, g2, k1, k2, k3, k4, k5, k6, k7⟩ := hA'
        obtain ⟨⟨ab, M67⟩, e7, b1, b2, b3, b4, b5⟩ := add_st (o := 59) (v := 0) hk k3 (by omega)
        have b1' : ab = true := b1
        subst b1'
        have b2 : scC M67 τ k (sk τ a') (s + L.length + 1) := b2
        have b3 : fr (rsC k (s + L.length)) M98 M67 := b3
        have b4 : M67.1 (k + 1) (s + L.length) = 59 := b4
        refine w2_C (wp_eq k3.2.2.2.1 ?_)
        refine w2_C (wp_eq e7 ?_)
        have hc96 : N46.1 96 n = nI W.length := by rw [(g2 _ _ (by unfold rsM; omega)).1]; exact h96'
        have hc97 : N46.1 97 (90 * n + W.length) = nI (wln W) := by rw [(g2 _ _ (by unfold rsM; omega)).1]; exact h97'
        obtain ⟨N9, e8, y1⟩ := fnM_sum (q := W.length) hn hq k4 hc96 hc97
        have hlow : lowM N46 N9 := by rw [y1]; exact ((low_I (by omega)).tr (low_I (by omega))).tr (low_I (by omega))
        have fC2 : fr (rsC k s) M9 M67 := g1.tr (b3.mono (fun _ _ hb => rsC_up (by omega) hb))
        have fM2 : fr (rcM n (wln W) W.length) N13 N9 := (rs_rc g2).tr (by rw [y1]; exact ((fr_I (.inr (.inr ⟨.inr (.inl rfl), rfl⟩))).tr (fr_I (.inr (.inr ⟨.inr (.inr rfl), rfl⟩)))).tr (fr_I (.inr (.inl ⟨rfl, rfl⟩))))
        refine ⟨(true, M67), N9, rfl, e8, CP_fr ⟨fC2, fM2, .inl ⟨rfl, sk τ a', s + L.length + 1, ([], L), by omega, ?_⟩⟩ gC gM⟩
        have hx : wfc ([], L) := ⟨.inl rfl, fun lt => k7 lt [] (by decide)⟩
        have hcd : cdC M67 k s L := cdC_fr k5 (fun j j1 j2 => ⟨(b3 _ _ (by unfold rsC; omega)).1, (b3 _ _ (by unfold rsC; omega)).1⟩)
        refine CS_mk hk h1' h2' h3 hx fC2 fM2 b2 (scM_low k4 hlow) ⟨fun _ => ⟨hcd, b4, rfl⟩, fun h => absurd rfl h⟩ ⟨?_, ?_, ?_, trivial, cdM_low k6 hlow, trivial⟩ ?_ (by show wln W + 0 + L.length ≤ _; omega) (by omega)
        · rw [y1, qI_1, if_neg (by omega), qI_1, if_neg (by omega), qI_1, if_neg (by omega)]; exact hc97
        · rw [y1, qI_1, if_neg (by omega), qI_1, if_neg (by omega), qI_1, if_pos ⟨rfl, rfl⟩]; rfl
        · rw [y1, qI_1, if_neg (by omega), qI_1, if_pos ⟨rfl, rfl⟩]; rfl
        · rw [y1, qI_1, if_pos ⟨rfl, rfl⟩, nI_1]
      | true =>
        refine w2_Cn tt0 ?_
        have hu := unitT_rd (d := 0) (rc := jWr_readUnitN 7) hT hk hn (by omega) hws (sk_sk _ a' (Nat.le_refl _) hal') hA'
        obtain ⟨⟨zC, M30⟩, N43, v1, v2, hp⟩ := cond_go (rc := jWr_readUnitN 8) (d := 0) (p1 := true) hk hn (by omega) hws (Nat.le_refl _) (unitN_rd hT hk hn 8 0 (by omega) (by omega)) hu
        have v1 : jWr_readCondition 0 true M98 = some (zC, M30) := v1
        obtain ⟨N42, v3, v4⟩ := Option.bind_eq_some_iff.mp v2
        obtain ⟨N41, v5, v6⟩ := Option.bind_eq_some_iff.mp v3
        refine w2_M ?_
        show wp ((jMd_compare N46).bind fun M41 => (jMd_goOnAnd M41).bind fun M42 => (jMd_goOnOr M42).bind fun M43 => some (true, M43)) _
        refine wp_be v5 (wp_be v6 (wp_be v4 (wp_some ?_)))
        show w2 ((jWr_readCondition 0 true M98).bind fun w11 => qu2 w11 fun r12 M13 => if (b2i r12 : Int32) = (0 : Int32) then some (false, M13) else tlC M13) (fnM (nI (90 * n + W.length)) true N43) _
        refine w2_C (wp_eq v1 ?_)
        exact (tail_rd hT hk hn hq h1' h2' h3 h96' h97' hws (by omega) (by omega) (by omega) hp).mono (fun x y hxy => CP_fr hxy gC gM)
    · have z1' : zC = false := z1
      subst z1'
      rw [if_neg (dM_w w2'), Option.bind_some]
      obtain ⟨N9, e8, y1, y2⟩ := fnM_bad (q := W.length) (z := false) hn hq w2'
      exact ⟨(false, M70), N9, rfl, e8, CP_fr ⟨f1, (rs_rc f2).tr y2, .inr ⟨rfl, w, w1, dM_up y1 (by omega) (by omega)⟩⟩ gC gM⟩
theorem clause_rd {τ : tT} {k n a s : Nat} {W : wW} {M N : qM} (hT : tOK τ) (hk : 12 ≤ k) (hn : n < 7) (h : CS τ k n a s W M N) : w2 (jWr_readClause M) (jMd_clause N) (CP τ k n a s W M N) := by
  obtain ⟨sC, sM, h1, h2, h3, h96, hws, hwa⟩ := h
  have h160 := sC.1.2.1
  have hal := sC.2.2.1
  have hsa := sC.2.2.2.2.2
  have hsk := sk_le hal
  have ex : (90 : Int32) * N.1 91 14 + N.1 96 n = nI (90 * n + W.length) := by rw [sM.2.2.2.2.1, h96, show (90 : Int32) = nI 90 from rfl, nI_mul, nI_add]
  rw [clause_eC, clause_eM]
  refine w2_M (wp_rI sM.2.2.2.2.1 hn (by decide) ?_)
  rw [ex]
  unfold clM
  obtain ⟨⟨tb, M3⟩, e1, t1, t2, t3⟩ := takeC (x := 121) (by decide) hk sC
  obtain ⟨N3, e2, u1, u2, u3⟩ := mst_ok (x := 121) hal sM
  have t1 : fr (rsC k s) M M3 := t1
  refine w2_C (wp_eq e1 ?_)
  refine w2_M (wp_eq e2 ?_)
  by_cases hy : cb τ (sk τ a) = 121
  · obtain ⟨tb1, tS⟩ := t2 hy
    have tb' : tb = true := tb1
    subst tb'
    have tS : scC M3 τ k (sk τ a + 1) s := tS
    obtain ⟨j1, j2⟩ := incM (u2 hy)
    have hal2 := tS.2.2.1
    have hsk2 := sk_le hal2
    obtain ⟨⟨tb, M6⟩, e3, t4, t5, t6⟩ := takeC (x := 58) (by decide) hk tS
    obtain ⟨N5, e4, u4, u5, u6⟩ := mst_ok (x := 58) hal2 j1
    have t4 : fr (rsC k s) M3 M6 := t4
    refine w2_C (wp_eq e3 ?_)
    refine w2_M (wp_eq e4 ?_)
    by_cases hy2 : cb τ (sk τ (sk τ a + 1)) = 58
    · obtain ⟨tb1, tS2⟩ := t5 hy2
      have tb' : tb = true := tb1
      subst tb'
      have tS2 : scC M6 τ k (sk τ (sk τ a + 1) + 1) s := tS2
      obtain ⟨j3, j4⟩ := incM (u5 hy2)
      have gC : fr (rsC k s) M M6 := t1.tr t4
      have gM : fr (rsM n (wln W)) N (qI N5 91 3 (N5.1 91 3 + 1)) := ((u1.tr (atM_rs j2)).tr u4).tr (atM_rs j4)
      have hb := body_rd (a := a) hT hk hn tS2 j3 (cW_frL (fun j hj => ⟨(gC _ _ (by unfold rsC; omega)).1, (gC _ _ (by unfold rsC; omega)).1⟩) W h1) (mW_frL (C := wln W) (Q := W.length) (fun j hj => ⟨(gM _ _ (by unfold rsM; omega)).1, (gM _ _ (by unfold rsM; omega)).1⟩) (fun j hj => ⟨(gM _ _ (by unfold rsM; omega)).1, (gM _ _ (by unfold rsM; omega)).1, (gM _ _ (by unfold rsM; omega)).1⟩) W (by omega) (by omega) h2) h3 (by rw [(gM _ _ (by unfold rsM; omega)).1]; exact h96) hws (by omega) (by omega) (by omega)
      obtain ⟨x, y, e5, e6, hxy⟩ := hb
      exact ⟨x, y, e5, (if_pos j3.2.2.1).trans e6, CP_fr hxy gC (rs_rc gM)⟩
    · obtain ⟨tb1, tS2⟩ := t6 hy2
      have tb' : tb = false := tb1
      subst tb'
      have hd := dM_inc (v := N5.1 91 3 + 1) (u6 hy2)
      exact ⟨(false, M6), qI N5 91 3 (N5.1 91 3 + 1), rfl, if_neg (dM_w hd), t1.tr t4, rs_rc (((u1.tr (atM_rs j2)).tr u4).tr (fr_I (.inl ⟨rfl, .inl rfl⟩))), .inr ⟨rfl, _, tS2, dM_up hd (by omega) (by omega)⟩⟩
  · obtain ⟨tb1, tS⟩ := t3 hy
    have tb' : tb = false := tb1
    subst tb'
    have hd := dM_inc (v := N3.1 91 3 + 1) (u3 hy)
    have hd2 := dM_inc (v := (qI N3 91 3 (N3.1 91 3 + 1)).1 91 3 + 1) hd
    refine ⟨(false, M3), qI (qI N3 91 3 (N3.1 91 3 + 1)) 91 3 ((qI N3 91 3 (N3.1 91 3 + 1)).1 91 3 + 1), rfl, ?_, t1, rs_rc ((u1.tr (fr_I (.inl ⟨rfl, .inl rfl⟩))).tr (fr_I (.inl ⟨rfl, .inl rfl⟩))), .inr ⟨rfl, _, tS, dM_up hd2 (by omega) (by omega)⟩⟩
    show (mstM 58 (qI N3 91 3 (N3.1 91 3 + 1))).bind _ = _
    rw [mst_bad hd, Option.bind_some]
    exact if_neg (dM_w hd2)
