/-! ===== a part: a thing or a sort ===== -/
def PP (k n : Nat) (τ : tT) (a : Nat) (M N : qM) (o : Bool × qM) (N' : qM) : Prop :=
  fr (vrC k) M o.2 ∧ fr (vrM n) N N' ∧
  ((o.1 = true ∧ ∃ a' v, a < a' ∧ tC o.2 τ a' ∧ tM N' τ a' ∧ vPk v ∧ vcC o.2 k v ∧ vcM N' n v) ∨
   (o.1 = false ∧ ∃ w, dC o.2 τ 0 w ∧ eM N' τ w) ∨
   (o.1 = false ∧ ∃ a', a' ≤ τ.1 ∧ dC o.2 τ 0 a' ∧ tM N' τ a' ∧ sk τ a' = a' ∧ ¬ cb τ a' = -1 ∧ ¬ cb τ a' = 59))
noncomputable def thC (p0 : Nat) (M3 : qM) : Option (Bool × qM) :=
      qlt (qI M3 1 2 ((M3.1 1 2) + 1)) fun M44 =>
      (jVi_addThing p0 M44).bind fun w45 =>
      qu2 w45 fun r46 M47 =>
      (jVr_readItems 0 2 3 (p0 + 1) r46 M47).bind fun w48 =>
      qu2 w48 fun r49 M50 =>
      some (r49, M50)
noncomputable def stE (p0 : Nat) (w12 : Bool × qM) : Option (Bool × qM) :=
      qu2 w12 fun r13 M14 =>
      if (b2i r13 : Int32) = (0 : Int32) then
        some (false, M14)
      else
        (jVi_settlePeople p0 M14).bind fun w15 =>
        qu2 w15 fun r16 M17 =>
        qlt ((
          if (b2i r16 : Int32) = (0 : Int32) then
            qlt (jTp_fail (M17.1 1 2) M17) fun w21 =>
            qu2 w21 fun r22 M23 =>
            if (b2i r22 : Int32) = (0 : Int32) then
              (false, M23)
            else
              (true, M23)
          else
            (true, M17)) : (Bool × qM)) fun w20 =>
        qu2 w20 fun z18 M19 =>
        some (z18, M19)
noncomputable def srC (p0 : Nat) (M3 : qM) : Option (Bool × qM) :=
      qlt (qI M3 1 2 ((M3.1 1 2) + 1)) fun M8 =>
      (jVi_addSort p0 M8).bind fun w9 =>
      qu2 w9 fun r10 M11 =>
      (jVr_readItems 1 4 5 (p0 + 2) r10 M11).bind (stE p0)
noncomputable def ptM (z4 : Bool) (p0 : Int32) (M7 : qM) : Option qM :=
    qlt ((
      if (b2i z4 : Int32) = (0 : Int32) then
        106
      else
        105) : Nat) fun a8 =>
    ((
      if (b2i z4 : Int32) = (0 : Int32) then
        (qrI M7 103 5 p0).bind fun v48 =>
        some (4 * ((6 * p0) + v48))
      else
        (qrI M7 102 5 p0).bind fun v49 =>
        some (4 * ((4 * p0) + v49))) : Option Int32).bind fun x9 =>
    (qlp (usB z4 a8 x9) (0, M7)).bind fun M12 =>
    (qlp (inM z4 a8 x9) (0, M12)).bind (prE z4 a8 x9 p0)
def vcC_X (k T : Nat) (b j : Nat) : Prop := aC b j ∨ (b = k ∧ j = 0) ∨ (b = k + 1 ∧ 4 * T ≤ j ∧ j < 4 * T + 4)
def vcC_Y (k S : Nat) (b j : Nat) : Prop := aC b j ∨ (b = k ∧ j = 1) ∨ (b = k + 2 ∧ 4 * S ≤ j ∧ j < 4 * S + 4)
def vcM_X (n B Y b j : Nat) : Prop := aM b j ∨ cM n b j ∨ (b = B ∧ Y ≤ j ∧ j < Y + 4)
theorem thing_rd {τ : tT} {k n a : Nat} {v : vT} {M N : qM} (hT : tOK τ) (hk : 12 ≤ k) (hn : n < 5) (ha1 : q_al (k + 1) = 16) (hC : tC M τ a) (hM : tM N τ a) (hlt : a < τ.1) (hv : vPk v) (hc : vcC M k v) (hm : vcM N n v) (h4 : vTn v < 4) :
    w2 (thC k M) (ptM true (nI n) (qI N 91 3 (N.1 91 3 + 1))) (PP k n τ a M N) := by
  have q105 : q_al 105 = 80 := rfl
  obtain ⟨i1, i2⟩ := incT hC hlt
  obtain ⟨j1, j2⟩ := incTM hM
  have hk0 : (qI M 1 2 (M.1 1 2 + 1)).1 k 0 = nI (vTn v) := by rw [qI_1, if_neg (by omega)]; exact hc.1
  obtain ⟨M47, e1, d1, d2, d3⟩ := addThing_eq hk0 h4
  have hn102 : (qI N 91 3 (N.1 91 3 + 1)).1 102 n = nI (vTn v) := by rw [qI_1, if_neg (by omega)]; exact hm.1
  have tC1 : tC M47 τ (a + 1) := tC_fr i1 d3 (by omega) (by omega) (by intro j; omega)
  obtain ⟨N12, e2, u1, u2⟩ := us_wp (z := true) (B := 105) (Y := 4 * (4 * n + vTn v)) (N := qI N 91 3 (N.1 91 3 + 1)) (by omega) (by omega)
  have tM1 : tM N12 τ (a + 1) := tM_fr j1 u2 (by omega) (by omega) (by omega) (by intro j; omega)
  have hI : ITs true (k + 1) (4 * vTn v) 105 (4 * (4 * n + vTn v)) (iUs true) M47 N12 := fun w hw => ⟨d2 w hw, u1 w hw, (us_b true hw).1, (us_b true hw).2.1⟩
  obtain ⟨⟨r49, M50⟩, N16, e3, e4, f1, f2, hp⟩ := items_rd (z := true) hT (A := k + 1) (X := 4 * vTn v) (B := 105) (Y := 4 * (4 * n + vTn v)) (by omega) (by omega) (by omega) (by omega) (by omega) (by omega) _ (Nat.lt_succ_self _) (show 0 < 16 by omega) tC1 tM1 hI
  have f1 : fr (iC (k + 1) (4 * vTn v)) M47 M50 := f1
  have e3 : jVr_readItems 0 2 3 (k + 1) (nI (4 * vTn v)) M47 = some (r49, M50) := e3
  have e4 : qlp (inM true 105 (nI (4 * (4 * n + vTn v)))) (0, N12) = some N16 := e4
  have eC : thC k M = some (r49, M50) := by
    show (jVi_addThing k (qI M 1 2 (M.1 1 2 + 1))).bind _ = _
    rw [e1, Option.bind_some]
    show (jVr_readItems 0 2 3 (k + 1) (nI (4 * vTn v)) M47).bind _ = _
    rw [e3]
    rfl
  have ex : (4 : Int32) * (4 * nI n + nI (vTn v)) = nI (4 * (4 * n + vTn v)) := by rw [show (4 : Int32) = nI 4 from rfl, nI_mul, nI_add, nI_mul]
  have eM0 : ptM true (nI n) (qI N 91 3 (N.1 91 3 + 1)) = prE true 105 (nI (4 * (4 * n + vTn v))) (nI n) N16 := by
    show (((qrI (qI N 91 3 (N.1 91 3 + 1)) 102 5 (nI n)).bind fun v49 => some (4 * ((4 * nI n) + v49))).bind fun x9 => (qlp (usB true 105 x9) (0, (qI N 91 3 (N.1 91 3 + 1)))).bind fun M12 => (qlp (inM true 105 x9) (0, M12)).bind (prE true 105 x9 (nI n))) = _
    rw [qrI_nI hn (by decide), hn102, Option.bind_some, Option.bind_some, ex, e2, Option.bind_some, e4, Option.bind_some]
  rw [eC, eM0]
  have gC : fr (vcC_X k (vTn v)) M M50 := (i2.mono (fun b j hb => .inl ⟨hb.1, .inl hb.2⟩)).tr ((d3.mono (fun b j hb => .inr hb)).tr (f1.mono (fun b j hb => by rcases hb with hb | hb; exact .inl hb; exact .inr (.inr hb))))
  have gM : fr (vcM_X n 105 (4 * (4 * n + vTn v))) N N16 := (j2.mono (fun b j hb => .inl ⟨hb.1, .inl hb.2⟩)).tr ((u2.mono (fun b j hb => .inr (.inr hb))).tr (f2.mono (fun b j hb => by rcases hb with hb | hb; exact .inl hb; exact .inr (.inr hb))))
  have gM2 : fr (fun b j => aM b j ∨ (b = 105 ∧ 4 * (4 * n + vTn v) ≤ j ∧ j < 4 * (4 * n + vTn v) + 4)) N N16 := (j2.mono (fun b j hb => .inl ⟨hb.1, .inl hb.2⟩)).tr ((u2.mono (fun b j hb => .inr hb)).tr f2)
  have gC' : fr (vrC k) M M50 := gC.mono (fun b j hb => by unfold vcC_X aC at hb; unfold vrC aC; omega)
  have gM' : ∀ {o : qM}, fr (vcM_X n 105 (4 * (4 * n + vTn v))) N o → fr (vrM n) N o := fun h => h.mono (fun b j hb => by unfold vcM_X aM cM at hb; unfold vrM aM; omega)
  have v102 : N16.1 102 n = nI (vTn v) := by rw [(gM2 102 n (by unfold aM; omega)).1]; exact hm.1
  have v103 : N16.1 103 n = nI (vSn v) := by rw [(gM2 103 n (by unfold aM; omega)).1]; exact hm.2.1
  have v104 : N16.1 104 n = nI (vP v) := by rw [(gM2 104 n (by unfold aM; omega)).1]; exact hm.2.2.1
  obtain ⟨p1, p2, p3⟩ := prN_v (z := true) (B := 105) (Y := 4 * (4 * n + vTn v)) (u := 0) (by omega) v102 v103 v104 (by intro h; cases h)
  have pf := prN_fr true 105 (4 * (4 * n + vTn v)) n N16
  have hP := hv.2.2.1
  rcases hp with ⟨z1, a', it, k1, k2, k3, k4, k5⟩ | ⟨z1, w, k1, k2⟩ | ⟨z1, a', k1, k2, k3, k4, k5, k6⟩
  · have z1' : r49 = true := z1
    subst z1'
    have k2 : tC M50 τ a' := k2
    have k5 : ITs true (k + 1) (4 * vTn v) 105 (4 * (4 * n + vTn v)) it M50 N16 := k5
    have tM2 : tM (prN true 105 (4 * (4 * n + vTn v)) n N16) τ a' := tM_fr k3 pf (by unfold cM; omega) (by unfold cM; omega) (by unfold cM; omega) (by unfold cM; intro j; omega)
    obtain ⟨o, e5, r1, r2, r3⟩ := prE_go (N := N16) (z := true) (B := 105) (Y := 4 * (4 * n + vTn v)) hn (by omega) (by omega) (prR_t hn k2.2.2 tM2 p3 (by show vP v + 0 < _; omega))
    have r2 := r2 (by show vP v + 0 ≤ 20; omega)
    rw [k4] at r2
    have gO : fr (vcM_X n 105 (4 * (4 * n + vTn v))) N o := gM.tr ((pf.mono (fun b j hb => .inr (.inl hb))).tr (r1.mono (fun b j hb => .inl hb)))
    have rv : ∀ b j, 102 ≤ b → o.1 b j = (prN true 105 (4 * (4 * n + vTn v)) n N16).1 b j := fun b j hb => (r1 b j (by unfold aM; omega)).1
    refine ⟨(true, M50), o, rfl, e5, gC', gM' gO, .inl ⟨rfl, a', vAT v it, by omega, k2, r2, ?_, ?_, ?_⟩⟩
    · refine ⟨show vTn v + 1 ≤ 4 by omega, hv.2.1, by rw [vAT_P]; exact hP, fun t ht w hw => ?_, hv.2.2.2.2⟩
      show iLo true w ≤ (if t = v.1 then it w else v.2.2.1 t w) ∧ (if t = v.1 then it w else v.2.2.1 t w) ≤ _
      by_cases htt : t = v.1
      · rw [if_pos htt]; exact (k5 w hw).2.2
      · rw [if_neg htt]
        have ht : t < vTn v + 1 := ht
        exact hv.2.2.2.1 t (by unfold vTn at ht ⊢; omega) w hw
    · refine ⟨?_, ?_, ?_, fun t ht w hw => ?_, fun s hs w hw => ?_, fun p hp => ?_⟩
      · rw [(f1 k 0 (by unfold iC aC; omega)).1]; exact d1
      · rw [(gC k 1 (by unfold vcC_X aC; omega)).1]; exact hc.2.1
      · rw [(gC k 2 (by unfold vcC_X aC; omega)).1]; exact hc.2.2.1
      · show M50.1 (k + 1) (4 * t + w) = nI (if t = v.1 then it w else v.2.2.1 t w)
        by_cases htt : t = v.1
        · rw [if_pos htt, htt]; exact (k5 w hw).1
        · rw [if_neg htt]
          have ht : t < vTn v + 1 := ht
          have ht2 : t < vTn v := by unfold vTn at ht ⊢; omega
          rw [(gC (k + 1) (4 * t + w) (by unfold vcC_X aC; omega)).1]
          exact hc.2.2.2.1 t ht2 w hw
      · show M50.1 (k + 2) (4 * s + w) = _
        rw [(gC (k + 2) (4 * s + w) (by unfold vcC_X aC; omega)).1]
        exact hc.2.2.2.2.1 s hs w hw
      · show M50.1 (k + 3) p = _
        rw [(gC (k + 3) p (by unfold vcC_X aC; omega)).1, vAT_of]
        exact hc.2.2.2.2.2 p hp
    · refine ⟨?_, ?_, ?_, fun t ht w hw => ?_, fun s hs w hw => ?_⟩
      · rw [rv _ _ (by omega)]; exact p1
      · rw [rv _ _ (by omega)]; exact p2
      · rw [rv _ _ (by omega)]; exact p3
      · show o.1 105 (4 * (4 * n + t) + w) = nI (if t = v.1 then it w else v.2.2.1 t w)
        by_cases htt : t = v.1
        · rw [if_pos htt, rv _ _ (by omega), (pf 105 _ (by unfold cM; omega)).1, htt]; exact (k5 w hw).2.1
        · rw [if_neg htt]
          have ht : t < vTn v + 1 := ht
          have ht2 : t < vTn v := by unfold vTn at ht ⊢; omega
          rw [(gO 105 (4 * (4 * n + t) + w) (by unfold vcM_X aM cM; omega)).1]
          exact hm.2.2.2.1 t ht2 w hw
      · show o.1 106 (4 * (6 * n + s) + w) = _
        rw [(gO 106 _ (by unfold vcM_X aM cM; omega)).1]
        exact hm.2.2.2.2 s hs w hw
  · have z1' : r49 = false := z1
    subst z1'
    have eM2 : eM (prN true 105 (4 * (4 * n + vTn v)) n N16) τ w := eM_fr k2 pf (by unfold cM; omega) (by unfold cM; omega) (by unfold cM; omega) (by unfold cM; intro j; omega)
    obtain ⟨o, e5, r1, r2⟩ := prE_go (N := N16) (z := true) (B := 105) (Y := 4 * (4 * n + vTn v)) hn (by omega) (by omega) (prR_e hn eM2)
    exact ⟨(false, M50), o, rfl, e5, gC', gM' (gM.tr ((pf.mono (fun b j hb => .inr (.inl hb))).tr (r1.mono (fun b j hb => .inl hb)))), .inr (.inl ⟨rfl, w, k1, r2⟩)⟩
  · have z1' : r49 = false := z1
    subst z1'
    have tM2 : tM (prN true 105 (4 * (4 * n + vTn v)) n N16) τ a' := tM_fr k3 pf (by unfold cM; omega) (by unfold cM; omega) (by unfold cM; omega) (by unfold cM; intro j; omega)
    obtain ⟨o, e5, r1, r2, r3⟩ := prE_go (N := N16) (z := true) (B := 105) (Y := 4 * (4 * n + vTn v)) hn (by omega) (by omega) (prR_t hn k1 tM2 p3 (by show vP v + 0 < _; omega))
    have r2 := r2 (by show vP v + 0 ≤ 20; omega)
    rw [k4] at r2
    exact ⟨(false, M50), o, rfl, e5, gC', gM' (gM.tr ((pf.mono (fun b j hb => .inr (.inl hb))).tr (r1.mono (fun b j hb => .inl hb)))), .inr (.inr ⟨rfl, a', k1, k2, r2, k4, k5, k6⟩)⟩
theorem sort_rd {τ : tT} {k n a : Nat} {v : vT} {M N : qM} (hT : tOK τ) (hk : 12 ≤ k) (hn : n < 5) (ha2 : q_al (k + 2) = 24) (ha3 : q_al (k + 3) = 20) (hC : tC M τ a) (hM : tM N τ a) (hlt : a < τ.1) (hv : vPk v) (hc : vcC M k v) (hm : vcM N n v) (h6 : vSn v < 6) :
    w2 (srC k M) (ptM false (nI n) (qI N 91 3 (N.1 91 3 + 1))) (PP k n τ a M N) := by
  have h160 := hC.1.2.1
  have q106 : q_al 106 = 120 := rfl
  obtain ⟨i1, i2⟩ := incT hC hlt
  obtain ⟨j1, j2⟩ := incTM hM
  have hk0 : (qI M 1 2 (M.1 1 2 + 1)).1 k 1 = nI (vSn v) := by rw [qI_1, if_neg (by omega)]; exact hc.2.1
  obtain ⟨M11, e1, d1, d2, d3⟩ := addSort_eq hk0 h6
  have hn103 : (qI N 91 3 (N.1 91 3 + 1)).1 103 n = nI (vSn v) := by rw [qI_1, if_neg (by omega)]; exact hm.2.1
  have tC1 : tC M11 τ (a + 1) := tC_fr i1 d3 (by omega) (by omega) (by intro j; omega)
  obtain ⟨N12, e2, u1, u2⟩ := us_wp (z := false) (B := 106) (Y := 4 * (6 * n + vSn v)) (N := qI N 91 3 (N.1 91 3 + 1)) (by omega) (by omega)
  have tM1 : tM N12 τ (a + 1) := tM_fr j1 u2 (by omega) (by omega) (by omega) (by intro j; omega)
  have hI : ITs false (k + 2) (4 * vSn v) 106 (4 * (6 * n + vSn v)) (iUs false) M11 N12 := fun w hw => ⟨d2 w hw, u1 w hw, (us_b false hw).1, (us_b false hw).2.1⟩
  obtain ⟨⟨r13, M14⟩, N16, e3, e4, f1, f2, hp⟩ := items_rd (z := false) hT (A := k + 2) (X := 4 * vSn v) (B := 106) (Y := 4 * (6 * n + vSn v)) (by omega) (by omega) (by omega) (by omega) (by omega) (by omega) _ (Nat.lt_succ_self _) (show 0 < 16 by omega) tC1 tM1 hI
  have f1 : fr (iC (k + 2) (4 * vSn v)) M11 M14 := f1
  have e3 : jVr_readItems 1 4 5 (k + 2) (nI (4 * vSn v)) M11 = some (r13, M14) := e3
  have e4 : qlp (inM false 106 (nI (4 * (6 * n + vSn v)))) (0, N12) = some N16 := e4
  have eC : srC k M = stE k (r13, M14) := by
    show (jVi_addSort k (qI M 1 2 (M.1 1 2 + 1))).bind _ = _
    rw [e1, Option.bind_some]
    show (jVr_readItems 1 4 5 (k + 2) (nI (4 * vSn v)) M11).bind _ = _
    rw [e3, Option.bind_some]
  have ex : (4 : Int32) * (6 * nI n + nI (vSn v)) = nI (4 * (6 * n + vSn v)) := by rw [show (4 : Int32) = nI 4 from rfl, show (6 : Int32) = nI 6 from rfl, nI_mul, nI_add, nI_mul]
  have eM0 : ptM false (nI n) (qI N 91 3 (N.1 91 3 + 1)) = prE false 106 (nI (4 * (6 * n + vSn v))) (nI n) N16 := by
    show (((qrI (qI N 91 3 (N.1 91 3 + 1)) 103 5 (nI n)).bind fun v48 => some (4 * ((6 * nI n) + v48))).bind fun x9 => (qlp (usB false 106 x9) (0, (qI N 91 3 (N.1 91 3 + 1)))).bind fun M12 => (qlp (inM false 106 x9) (0, M12)).bind (prE false 106 x9 (nI n))) = _
    rw [qrI_nI hn (by decide), hn103, Option.bind_some, Option.bind_some, ex, e2, Option.bind_some, e4, Option.bind_some]
  rw [eC, eM0]
  have gC : fr (vcC_Y k (vSn v)) M M14 := (i2.mono (fun b j hb => .inl ⟨hb.1, .inl hb.2⟩)).tr ((d3.mono (fun b j hb => .inr hb)).tr (f1.mono (fun b j hb => by rcases hb with hb | hb; exact .inl hb; exact .inr (.inr hb))))
  have gM : fr (vcM_X n 106 (4 * (6 * n + vSn v))) N N16 := (j2.mono (fun b j hb => .inl ⟨hb.1, .inl hb.2⟩)).tr ((u2.mono (fun b j hb => .inr (.inr hb))).tr (f2.mono (fun b j hb => by rcases hb with hb | hb; exact .inl hb; exact .inr (.inr hb))))
  have gM2 : fr (fun b j => aM b j ∨ (b = 106 ∧ 4 * (6 * n + vSn v) ≤ j ∧ j < 4 * (6 * n + vSn v) + 4)) N N16 := (j2.mono (fun b j hb => .inl ⟨hb.1, .inl hb.2⟩)).tr ((u2.mono (fun b j hb => .inr hb)).tr f2)
  have gC' : fr (vrC k) M M14 := gC.mono (fun b j hb => by unfold vcC_Y aC at hb; unfold vrC aC; omega)
  have gM' : ∀ {o : qM}, fr (vcM_X n 106 (4 * (6 * n + vSn v))) N o → fr (vrM n) N o := fun h => h.mono (fun b j hb => by unfold vcM_X aM cM at hb; unfold vrM aM; omega)
  have v102 : N16.1 102 n = nI (vTn v) := by rw [(gM2 102 n (by unfold aM; omega)).1]; exact hm.1
  have v103 : N16.1 103 n = nI (vSn v) := by rw [(gM2 103 n (by unfold aM; omega)).1]; exact hm.2.1
  have v104 : N16.1 104 n = nI (vP v) := by rw [(gM2 104 n (by unfold aM; omega)).1]; exact hm.2.2.1
  have pf := prN_fr false 106 (4 * (6 * n + vSn v)) n N16
  have hP := hv.2.2.1
  rcases hp with ⟨z1, a', it, k1, k2, k3, k4, k5⟩ | ⟨z1, w, k1, k2⟩ | ⟨z1, a', k1, k2, k3, k4, k5, k6⟩
  · have z1' : r13 = true := z1
    subst z1'
    have k2 : tC M14 τ a' := k2
    have k5 : ITs false (k + 2) (4 * vSn v) 106 (4 * (6 * n + vSn v)) it M14 N16 := k5
    have hit := (k5 0 (by omega)).2.2
    have hit9 : it 0 ≤ 9 := hit.2
    obtain ⟨p1, p2, p3⟩ := prN_v (z := false) (B := 106) (Y := 4 * (6 * n + vSn v)) (u := it 0) (by omega) v102 v103 v104 (fun _ => (k5 0 (by omega)).2.1)
    have tM2 : tM (prN false 106 (4 * (6 * n + vSn v)) n N16) τ a' := tM_fr k3 pf (by unfold cM; omega) (by unfold cM; omega) (by unfold cM; omega) (by unfold cM; intro j; omega)
    obtain ⟨o, e5, r1, r2, r3⟩ := prE_go (N := N16) (z := false) (B := 106) (Y := 4 * (6 * n + vSn v)) hn (by omega) (by omega) (prR_t hn k2.2.2 tM2 p3 (by show vP v + it 0 < _; omega))
    rw [k4] at r2 r3
    have gO : fr (vcM_X n 106 (4 * (6 * n + vSn v))) N o := gM.tr ((pf.mono (fun b j hb => .inr (.inl hb))).tr (r1.mono (fun b j hb => .inl hb)))
    have rv : ∀ b j, 102 ≤ b → o.1 b j = (prN false 106 (4 * (6 * n + vSn v)) n N16).1 b j := fun b j hb => (r1 b j (by unfold aM; omega)).1
    have hk1 : M14.1 k 1 = nI (vSn v + 1) := by rw [(f1 k 1 (by unfold iC aC; omega)).1]; exact d1
    have hk2 : M14.1 k 2 = nI (vP v) := by rw [(gC k 2 (by unfold vcC_Y aC; omega)).1]; exact hc.2.2.1
    obtain ⟨s1, s2⟩ := settle_eq ha3 hk1 hk2 (k5 0 (by omega)).1 h6 hP (by omega)
    by_cases h20 : vP v + it 0 ≤ 20
    · obtain ⟨⟨sb, M17⟩, e6, s3, s4, s5, s6⟩ := s1 h20
      have s3 : sb = true := s3
      subst s3
      have s4 : M17.1 k 2 = nI (vP v + it 0) := s4
      have s5 : ∀ p, vP v ≤ p → p < vP v + it 0 → M17.1 (k + 3) p = nI (vSn v) := s5
      have s6 : fr (fun b j => (b = k ∧ j = 2) ∨ (b = k + 3 ∧ vP v ≤ j)) M14 M17 := s6
      have eS : stE k (true, M14) = some (true, M17) := by
        show (jVi_settlePeople k M14).bind _ = _
        rw [e6]
        rfl
      have gC2 : fr (vrC k) M M17 := gC'.tr (s6.mono (fun b j hb => by unfold vrC; omega))
      have tC2 : tC M17 τ a' := tC_fr k2 s6 (by omega) (by omega) (by intro j; omega)
      rw [eS]
      refine ⟨(true, M17), o, rfl, e5, gC2, gM' gO, .inl ⟨rfl, a', vAS v it, by omega, tC2, r2 h20, ?_, ?_, ?_⟩⟩
      · refine ⟨hv.1, show vSn v + 1 ≤ 6 by omega, by rw [vAS_P]; exact h20, hv.2.2.2.1, fun s hs w hw => ?_⟩
        show iLo false w ≤ (if s = v.2.1 then it w else v.2.2.2 s w) ∧ (if s = v.2.1 then it w else v.2.2.2 s w) ≤ _
        by_cases htt : s = v.2.1
        · rw [if_pos htt]; exact (k5 w hw).2.2
        · rw [if_neg htt]
          have hs : s < vSn v + 1 := hs
          exact hv.2.2.2.2 s (by unfold vSn at hs ⊢; omega) w hw
      · refine ⟨?_, ?_, ?_, fun t ht w hw => ?_, fun s hs w hw => ?_, fun p hp => ?_⟩
        · rw [(s6 k 0 (by omega)).1, (gC k 0 (by unfold vcC_Y aC; omega)).1]; exact hc.1
        · rw [(s6 k 1 (by omega)).1]; exact hk1
        · rw [vAS_P]; exact s4
        · show M17.1 (k + 1) (4 * t + w) = _
          rw [(s6 _ _ (by omega)).1, (gC (k + 1) (4 * t + w) (by unfold vcC_Y aC; omega)).1]
          exact hc.2.2.2.1 t ht w hw
        · show M17.1 (k + 2) (4 * s + w) = nI (if s = v.2.1 then it w else v.2.2.2 s w)
          rw [(s6 _ _ (by omega)).1]
          by_cases htt : s = v.2.1
          · rw [if_pos htt, htt]; exact (k5 w hw).1
          · rw [if_neg htt]
            have hs : s < vSn v + 1 := hs
            have hs2 : s < vSn v := by unfold vSn at hs ⊢; omega
            rw [(gC (k + 2) (4 * s + w) (by unfold vcC_Y aC; omega)).1]
            exact hc.2.2.2.2.1 s hs2 w hw
        · rw [vAS_P] at hp
          by_cases hpp : p < vP v
          · rw [vAS_of hpp, (s6 _ _ (by omega)).1, (gC (k + 3) p (by unfold vcC_Y aC; omega)).1]
            exact hc.2.2.2.2.2 p hpp
          · rw [vAS_of2 (by omega) hp]
            exact s5 p (by omega) hp
      · refine ⟨?_, ?_, ?_, fun t ht w hw => ?_, fun s hs w hw => ?_⟩
        · rw [rv _ _ (by omega)]; exact p1
        · rw [rv _ _ (by omega)]; exact p2
        · rw [rv _ _ (by omega), vAS_P]; exact p3
        · show o.1 105 (4 * (4 * n + t) + w) = _
          rw [(gO 105 _ (by unfold vcM_X aM cM; omega)).1]
          exact hm.2.2.2.1 t ht w hw
        · show o.1 106 (4 * (6 * n + s) + w) = nI (if s = v.2.1 then it w else v.2.2.2 s w)
          by_cases htt : s = v.2.1
          · rw [if_pos htt, rv _ _ (by omega), (pf 106 _ (by unfold cM; omega)).1, htt]; exact (k5 w hw).2.1
          · rw [if_neg htt]
            have hs : s < vSn v + 1 := hs
            have hs2 : s < vSn v := by unfold vSn at hs ⊢; omega
            rw [(gO 106 (4 * (6 * n + s) + w) (by unfold vcM_X aM cM; omega)).1]
            exact hm.2.2.2.2 s hs2 w hw
    · have e6 := s2 (by omega)
      obtain ⟨g1, g2⟩ := failT k2 (w := a') (by have := k2.2.2; omega)
      have eS : stE k (true, M14) = some (false, qI M14 1 3 (nI a')) := by
        show (jVi_settlePeople k M14).bind _ = _
        rw [e6, Option.bind_some]
        show some (false, (jTp_fail (M14.1 1 2) M14).2) = _
        rw [k2.2.1]
        rfl
      rw [eS]
      exact ⟨_, o, rfl, e5, gC'.tr (g2.mono (fun b j hb => .inl hb)), gM' gO, .inr (.inl ⟨rfl, a', g1, r3 (by show 20 < vP v + it 0; omega)⟩)⟩
  · have z1' : r13 = false := z1
    subst z1'
    have eM2 : eM (prN false 106 (4 * (6 * n + vSn v)) n N16) τ w := eM_fr k2 pf (by unfold cM; omega) (by unfold cM; omega) (by unfold cM; omega) (by unfold cM; intro j; omega)
    obtain ⟨o, e5, r1, r2⟩ := prE_go (N := N16) (z := false) (B := 106) (Y := 4 * (6 * n + vSn v)) hn (by omega) (by omega) (prR_e hn eM2)
    exact ⟨(false, M14), o, rfl, e5, gC', gM' (gM.tr ((pf.mono (fun b j hb => .inr (.inl hb))).tr (r1.mono (fun b j hb => .inl hb)))), .inr (.inl ⟨rfl, w, k1, r2⟩)⟩
  · have z1' : r13 = false := z1
    subst z1'
    have tM2 : tM (prN false 106 (4 * (6 * n + vSn v)) n N16) τ a' := tM_fr k3 pf (by unfold cM; omega) (by unfold cM; omega) (by unfold cM; omega) (by unfold cM; intro j; omega)
    obtain ⟨N1, ee, m1, m2⟩ := lookT k1 tM2
    rw [k4] at ee m1
    have hgo : ∃ o, prR (nI n) (prN false 106 (4 * (6 * n + vSn v)) n N16) = some o ∧ fr aM (prN false 106 (4 * (6 * n + vSn v)) n N16) o ∧ (tM o τ a' ∨ eM o τ a') := by
      obtain ⟨g1, g2⟩ := badT m1 k1
      by_cases hp : N1.1 104 n ≤ 20
      · refine ⟨N1, ?_, at_aM m2, .inl m1⟩
        unfold prR
        rw [ee, Option.bind_some]
        show ((qrI N1 104 5 (nI n)).bind _) = _
        rw [qrI_nI hn (by decide), Option.bind_some]
        unfold qlt
        rw [if_pos hp]
      · refine ⟨jMd_bad N1, ?_, (at_aM m2).tr g2, .inr g1⟩
        unfold prR
        rw [ee, Option.bind_some]
        show ((qrI N1 104 5 (nI n)).bind _) = _
        rw [qrI_nI hn (by decide), Option.bind_some]
        unfold qlt
        rw [if_neg hp]
    obtain ⟨o, e5, r1, r2⟩ := hgo
    obtain ⟨o', e6, rfl⟩ := prE_go (N := N16) (z := false) (B := 106) (Y := 4 * (6 * n + vSn v)) (Q := fun x => x = o) hn (by omega) (by omega) ⟨o, e5, rfl⟩
    have gO := gM' (gM.tr ((pf.mono (fun b j hb => .inr (.inl hb))).tr (r1.mono (fun b j hb => .inl hb))))
    rcases r2 with r2 | r2
    · exact ⟨(false, M14), o', rfl, e6, gC', gO, .inr (.inr ⟨rfl, a', k1, k2, r2, k4, k5, k6⟩)⟩
    · exact ⟨(false, M14), o', rfl, e6, gC', gO, .inr (.inl ⟨rfl, a', k2, r2⟩)⟩
