/-! ===== a part, and a village's text whole ===== -/
noncomputable def zzC (r2 x : Int32) : Bool := if r2 = 115 then (if x < 6 then false else true) else true
noncomputable def flC (M3 : qM) : Option (Bool × qM) :=
      qlt (jTp_fail (M3.1 1 2) M3) fun w5 =>
      qu2 w5 fun r6 M7 =>
      some (r6, M7)
theorem vclause_eC (k : Nat) (M : qM) : jVr_readClause k M = ((jTp_peek M).bind fun w1 =>
  qu2 w1 fun r2 M3 =>
  if (r2 : Int32) = (116 : Int32) then
    if (4 : Int32) ≤ (M3.1 k 0 : Int32) then
      if zzC r2 (M3.1 k 1) = true then flC M3 else srC k M3
    else
      thC k M3
  else
    if zzC r2 (M3.1 k 1) = true then flC M3 else srC k M3) := rfl
noncomputable def ptZ (p0 r2 : Int32) (M3 : qM) : Option Bool :=
  qlt ((
    if (r2 : Int32) = (116 : Int32) then
      true
    else
      false) : Bool) fun z4 =>
  ((
    if (r2 : Int32) = (116 : Int32) then
      if (b2i z4 : Int32) = (0 : Int32) then
        if (b2i z4 : Int32) = (0 : Int32) then
          (qrI M3 103 5 p0).bind fun v50 =>
          if (v50 : Int32) = (6 : Int32) then
            some true
          else
            some false
        else
          some false
      else
        (qrI M3 102 5 p0).bind fun v51 =>
        if (v51 : Int32) = (4 : Int32) then
          some true
        else
          if (b2i z4 : Int32) = (0 : Int32) then
            (qrI M3 103 5 p0).bind fun v52 =>
            if (v52 : Int32) = (6 : Int32) then
              some true
            else
              some false
          else
            some false
    else
      if (r2 : Int32) = (115 : Int32) then
        if (b2i z4 : Int32) = (0 : Int32) then
          if (b2i z4 : Int32) = (0 : Int32) then
            (qrI M3 103 5 p0).bind fun v53 =>
            if (v53 : Int32) = (6 : Int32) then
              some true
            else
              some false
          else
            some false
        else
          (qrI M3 102 5 p0).bind fun v54 =>
          if (v54 : Int32) = (4 : Int32) then
            some true
          else
            if (b2i z4 : Int32) = (0 : Int32) then
              (qrI M3 103 5 p0).bind fun v55 =>
              if (v55 : Int32) = (6 : Int32) then
                some true
              else
                some false
            else
              some false
      else
        some true) : Option Bool)
theorem part_eM (p0 : Int32) (N : qM) : jMd_part p0 N = ((jMd_look N).bind fun w1 =>
  qu2 w1 fun r2 M3 =>
  (ptZ p0 r2 M3).bind fun z5 =>
  if z5 = true then
    qlt (jMd_bad M3) fun M6 =>
    some M6
  else
    ptM (if (r2 : Int32) = (116 : Int32) then true else false) p0 (qI M3 91 3 ((M3.1 91 3) + 1))) := rfl
theorem ptZ_116 {n T : Nat} {N : qM} (hn : n < 5) (hT : T ≤ 4) (h : N.1 102 n = nI T) : ptZ (nI n) 116 N = some (decide (T = 4)) := by
  show ((qrI N 102 5 (nI n)).bind fun v51 => if (v51 : Int32) = (4 : Int32) then some true else some false) = _
  rw [qrI_nI hn (by decide), h, Option.bind_some]
  by_cases e : T = 4
  · rw [if_pos (by rw [e]; rfl)]; simp [e]
  · rw [if_neg (by rw [show (4 : Int32) = nI 4 from rfl, nI_eq (by omega) (by omega)]; exact e)]; simp [e]
theorem ptZ_115 {n S : Nat} {N : qM} (hn : n < 5) (hS : S ≤ 6) (h : N.1 103 n = nI S) : ptZ (nI n) 115 N = some (decide (S = 6)) := by
  show ((qrI N 103 5 (nI n)).bind fun v51 => if (v51 : Int32) = (6 : Int32) then some true else some false) = _
  rw [qrI_nI hn (by decide), h, Option.bind_some]
  by_cases e : S = 6
  · rw [if_pos (by rw [e]; rfl)]; simp [e]
  · rw [if_neg (by rw [show (6 : Int32) = nI 6 from rfl, nI_eq (by omega) (by omega)]; exact e)]; simp [e]
theorem ptZ_o {n : Nat} {N : qM} {r : Int32} (h1 : ¬ r = 116) (h2 : ¬ r = 115) : ptZ (nI n) r N = some true := by
  unfold ptZ
  simp only [qlt]
  rw [if_neg h1, if_neg h2]
theorem PP_fr {k n a a1 : Nat} {τ : tT} {M N M1 N1 N' : qM} {o : Bool × qM} (h : PP k n τ a1 M1 N1 o N') (ha : a ≤ a1) (g1 : fr (vrC k) M M1) (g2 : fr (vrM n) N N1) : PP k n τ a M N o N' := by
  obtain ⟨h1, h2, h3⟩ := h
  refine ⟨g1.tr h1, g2.tr h2, ?_⟩
  rcases h3 with ⟨z, a', v, l, r⟩ | h | h
  · exact .inl ⟨z, a', v, by omega, r⟩
  · exact .inr (.inl h)
  · exact .inr (.inr h)
theorem vcC_fr {M M1 : qM} {k : Nat} {v : vT} (hk : 12 ≤ k) (h : vcC M k v) (g : fr aC M M1) : vcC M1 k v := by
  obtain ⟨a, b, c, d, e, f⟩ := h
  have e0 : ∀ x j, k ≤ x → M1.1 x j = M.1 x j := fun x j hx => (g x j (by unfold aC; omega)).1
  exact ⟨by rw [e0 _ _ (by omega)]; exact a, by rw [e0 _ _ (by omega)]; exact b, by rw [e0 _ _ (by omega)]; exact c, fun t ht w hw => by rw [e0 _ _ (by omega)]; exact d t ht w hw, fun s hs w hw => by rw [e0 _ _ (by omega)]; exact e s hs w hw, fun p hp => by rw [e0 _ _ (by omega)]; exact f p hp⟩
theorem vcM_fr {M M1 : qM} {n : Nat} {v : vT} (h : vcM M n v) (g : fr aM M M1) : vcM M1 n v := by
  obtain ⟨a, b, c, d, e⟩ := h
  have e0 : ∀ x j, 102 ≤ x → M1.1 x j = M.1 x j := fun x j hx => (g x j (by unfold aM; omega)).1
  exact ⟨by rw [e0 _ _ (by omega)]; exact a, by rw [e0 _ _ (by omega)]; exact b, by rw [e0 _ _ (by omega)]; exact c, fun t ht w hw => by rw [e0 _ _ (by omega)]; exact d t ht w hw, fun s hs w hw => by rw [e0 _ _ (by omega)]; exact e s hs w hw⟩
theorem part_rd {τ : tT} {k n a : Nat} {v : vT} {M N : qM} (hT : tOK τ) (hk : 12 ≤ k) (hn : n < 5) (ha1 : q_al (k + 1) = 16) (ha2 : q_al (k + 2) = 24) (ha3 : q_al (k + 3) = 20) (hC : tC M τ a) (hM : tM N τ a) (hv : vPk v) (hc : vcC M k v) (hm : vcM N n v) :
    w2 (jVr_readClause k M) (jMd_part (nI n) N) (PP k n τ a M N) := by
  have h160 := hC.1.2.1
  have hal := hC.2.2
  have hsk := sk_le hal
  rw [vclause_eC, part_eM]
  obtain ⟨M3, e1, c1, c2⟩ := peekT hC
  obtain ⟨N3, e2, m1, m2⟩ := lookT hal hM
  have hc3 : vcC M3 k v := vcC_fr hk hc (at_aC c2)
  have hm3 : vcM N3 n v := vcM_fr hm (at_aM m2)
  have gC : fr (vrC k) M M3 := (at_aC c2).mono (fun b j hb => .inl hb)
  have gM : fr (vrM n) N N3 := (at_aM m2).mono (fun b j hb => .inl hb)
  have hfail : w2 (flC M3) (some (jMd_bad N3)) (PP k n τ a M N) := by
    obtain ⟨f1, f2⟩ := failT c1 (w := sk τ a) (by omega)
    obtain ⟨g1, g2⟩ := badT m1 hsk.2
    have ef : flC M3 = some (false, qI M3 1 3 (nI (sk τ a))) := by
      show some ((jTp_fail (M3.1 1 2) M3).1, (jTp_fail (M3.1 1 2) M3).2) = _
      rw [c1.2.1]
      rfl
    rw [ef]
    exact w2_ss ⟨gC.tr (f2.mono (fun b j hb => .inl hb)), gM.tr (g2.mono (fun b j hb => .inl hb)), .inr (.inl ⟨rfl, _, f1, g1⟩)⟩
  refine w2_C (wp_eq e1 ?_)
  refine w2_M (wp_eq e2 ?_)
  show w2 (if cb τ (sk τ a) = 116 then _ else _) ((ptZ (nI n) (cb τ (sk τ a)) N3).bind _) _
  by_cases h116 : cb τ (sk τ a) = 116
  · have hlt := cb_lt (show ¬ cb τ (sk τ a) = -1 by rw [h116]; decide)
    refine w2_Cp h116 ?_
    have ez : ptZ (nI n) (cb τ (sk τ a)) N3 = some (decide (vTn v = 4)) := by rw [h116]; exact ptZ_116 hn hv.1 hm3.1
    refine w2_M (wp_eq ez ?_)
    by_cases h4 : vTn v = 4
    · refine w2_Cp (by show (4 : Int32) ≤ M3.1 k 0; rw [hc3.1, h4]; decide) ?_
      refine w2_Cp (by show zzC (cb τ (sk τ a)) _ = true; rw [h116]; rfl) ?_
      refine w2_Mp (by simp [h4]) ?_
      exact hfail
    · have h4' : vTn v < 4 := by have := hv.1; omega
      refine w2_Cn (by show ¬ (4 : Int32) ≤ M3.1 k 0; rw [hc3.1, show (4 : Int32) = nI 4 from rfl, nI_leI (by omega) (by omega)]; omega) ?_
      refine w2_Mn (by simp [h4]) ?_
      have := thing_rd hT hk hn ha1 c1 m1 hlt hv hc3 hm3 h4'
      rw [show (if ((cb τ (sk τ a), N3).1 : Int32) = (116 : Int32) then true else false) = true from if_pos h116]
      exact this.mono (fun x y hxy => PP_fr hxy hsk.1 gC gM)
  · refine w2_Cn h116 ?_
    by_cases h115 : cb τ (sk τ a) = 115
    · have hlt := cb_lt (show ¬ cb τ (sk τ a) = -1 by rw [h115]; decide)
      have ez : ptZ (nI n) (cb τ (sk τ a)) N3 = some (decide (vSn v = 6)) := by rw [h115]; exact ptZ_115 hn hv.2.1 hm3.2.1
      refine w2_M (wp_eq ez ?_)
      by_cases h6 : vSn v = 6
      · refine w2_Cp (by show zzC (cb τ (sk τ a)) (M3.1 k 1) = true; rw [h115, hc3.2.1, h6]; rfl) ?_
        refine w2_Mp (by simp [h6]) ?_
        exact hfail
      · have h6' : vSn v < 6 := by have := hv.2.1; omega
        refine w2_Cn (by
          show ¬ zzC (cb τ (sk τ a)) (M3.1 k 1) = true
          unfold zzC
          rw [if_pos h115, hc3.2.1, if_pos (show nI (vSn v) < (6 : Int32) from nI_lt (b := 6) h6' (by omega))]
          decide) ?_
        refine w2_Mn (by simp [h6]) ?_
        have := sort_rd hT hk hn ha2 ha3 c1 m1 hlt hv hc3 hm3 h6'
        rw [show (if ((cb τ (sk τ a), N3).1 : Int32) = (116 : Int32) then true else false) = false from if_neg h116]
        exact this.mono (fun x y hxy => PP_fr hxy hsk.1 gC gM)
    · refine w2_M (wp_eq (ptZ_o h116 h115) ?_)
      refine w2_Cp (by
          show zzC (cb τ (sk τ a)) (M3.1 k 1) = true
          unfold zzC
          rw [if_neg h115]) ?_
      exact hfail
noncomputable def vbC (p0 : Nat) : (Int32 × qM) → Option ((Int32 × qM) ⊕ (qM ⊕ (qM ⊕ (qM ⊕ qM)))) :=
    fun q => qu2 q fun x3 M4 =>
    if (10 : Int32) < (x3 : Int32) then
      some (.inr (.inr (.inr (.inr M4))))
    else
      (jVr_readClause p0 M4).bind fun w11 =>
      qu2 w11 fun r12 M13 =>
      if (b2i r12 : Int32) = (0 : Int32) then
        some (.inr (.inl M13))
      else
        (jTp_peek M13).bind fun w14 =>
        qu2 w14 fun r15 M16 =>
        if (r15 : Int32) = ((-1) : Int32) then
          some (.inr (.inr (.inl M16)))
        else
          if (r15 : Int32) = (59 : Int32) then
            if (x3 : Int32) = (10 : Int32) then
              some (.inr (.inr (.inr (.inl M16))))
            else
              qlt (qI M16 1 2 ((M16.1 1 2) + 1)) fun M17 =>
              qlt (x3 + 1 : Int32) fun x18 =>
              some (.inl (x18, M17))
          else
            some (.inr (.inr (.inr (.inl M16))))
noncomputable def vfC (p0 : Nat) (r9 : qM ⊕ (qM ⊕ (qM ⊕ qM))) : Option (Int32 × qM) :=
  qse r9 (fun M5 =>
    some (M5.1 1 3, M5)) (fun r9 =>
    qse r9 (fun M6 =>
      qlt ((
        if (M6.1 p0 0 : Int32) ≤ (0 : Int32) then
          M6.1 1 2
        else
          if (M6.1 p0 1 : Int32) ≤ (0 : Int32) then
            M6.1 1 2
          else
            (-1)) : Int32) fun x10 =>
      some (x10, M6)) (fun r9 =>
      qse r9 (fun M7 =>
        some (M7.1 1 2, M7)) (fun M8 =>
        some (M8.1 1 2, M8))))
theorem vread_eC (k : Nat) (M : qM) : jVr_read k M = (qlp (vbC k) (1, qI (qI (qI (qI (qI M 1 2 0) 1 3 (-1)) k 0 0) k 1 0) k 2 0)).bind (vfC k) := rfl
noncomputable def vbM (p0 : Int32) : (Int32 × qM) → Option ((Int32 × qM) ⊕ qM) :=
    fun q => qu2 q fun x7 M8 =>
    if (M8.1 91 4 : Int32) = ((-1) : Int32) then
      (jMd_look M8).bind fun w19 =>
      qu2 w19 fun r20 M21 =>
      if (r20 : Int32) = (59 : Int32) then
        if (10 : Int32) ≤ (x7 : Int32) then
          some (.inr M21)
        else
          qlt (qI M21 91 3 ((M21.1 91 3) + 1)) fun M22 =>
          (jMd_part p0 M22).bind fun M23 =>
          qlt (x7 + 1 : Int32) fun x24 =>
          some (.inl (x24, M23))
      else
        some (.inr M21)
    else
      some (.inr M8)
noncomputable def vE (p0 : Int32) (M9 : qM) : Option (Int32 × qM) :=
  ((
    if (M9.1 91 4 : Int32) = ((-1) : Int32) then
      (jMd_look M9).bind fun w12 =>
      qu2 w12 fun r13 M14 =>
      ((
        if (r13 : Int32) = ((-1) : Int32) then
          (qrI M14 102 5 p0).bind fun v17 =>
          if (v17 : Int32) = (0 : Int32) then
            some true
          else
            (qrI M14 103 5 p0).bind fun v18 =>
            if (v18 : Int32) = (0 : Int32) then
              some true
            else
              some false
        else
          some true) : Option Bool).bind fun z15 =>
      if z15 = true then
        qlt (jMd_bad M14) fun M16 =>
        some M16
      else
        some M14
    else
      some M9) : Option qM).bind fun M11 =>
  some (M11.1 91 4, M11)
theorem vread_eM {n : Nat} (hn : n < 5) (N : qM) : jMd_readVillage (nI n) N = (jMd_part (nI n) (qI (qI (qI (qI (qI N 91 3 0) 91 4 (-1)) 102 n 0) 103 n 0) 104 n 0)).bind fun M6 => (qlp (vbM (nI n)) (1, M6)).bind (vE (nI n)) := by
  unfold jMd_readVillage
  simp only [qlt]
  rw [qwI_nI hn (by decide), Option.bind_some, qwI_nI hn (by decide), Option.bind_some, qwI_nI hn (by decide), Option.bind_some]
  rfl
theorem vE_e {N : qM} {τ : tT} {w : Nat} {p0 : Int32} (h : eM N τ w) : vE p0 N = some (nI w, N) := by
  unfold vE
  rw [if_neg (eM_w h), Option.bind_some, h.2.1]
theorem vE_o {N : qM} {τ : tT} {a : Nat} {p0 : Int32} (hl : a ≤ τ.1) (h : tM N τ a) (hc : ¬ cb τ (sk τ a) = -1) : ∃ N1, vE p0 N = some (nI (sk τ a), N1) ∧ fr aM N N1 := by
  have hsk := sk_le hl
  obtain ⟨N14, e, m1, m2⟩ := lookT hl h
  obtain ⟨f1, f2⟩ := badT m1 hsk.2
  refine ⟨jMd_bad N14, ?_, (at_aM m2).tr f2⟩
  unfold vE
  rw [if_pos h.2.2, e, Option.bind_some]
  show ((Option.bind (if cb τ (sk τ a) = -1 then _ else some true) _).bind _) = _
  rw [if_neg hc]
  show some ((jMd_bad N14).1 91 4, jMd_bad N14) = _
  rw [f1.2.1]
theorem vE_m {N : qM} {τ : tT} {a n T S : Nat} (hn : n < 5) (hl : a ≤ τ.1) (h : tM N τ a) (hc : cb τ (sk τ a) = -1) (h1 : N.1 102 n = nI T) (h2 : N.1 103 n = nI S) (hT : T < 1000) (hS : S < 1000) : ∃ N1, vE (nI n) N = some (if T = 0 ∨ S = 0 then nI (sk τ a) else -1, N1) ∧ fr aM N N1 := by
  have hsk := sk_le hl
  obtain ⟨N14, e, m1, m2⟩ := lookT hl h
  obtain ⟨f1, f2⟩ := badT m1 hsk.2
  have g1 : N14.1 102 n = nI T := by rw [(m2 102 n (by unfold atM; omega)).1]; exact h1
  have g2 : N14.1 103 n = nI S := by rw [(m2 103 n (by unfold atM; omega)).1]; exact h2
  have hz : ∀ x : Nat, x < 1000 → ((nI x = 0) = (x = 0)) := fun x hx => by rw [show (0 : Int32) = nI 0 from rfl, nI_eq (by omega) (by omega)]
  have ez : ((if (cb τ (sk τ a) : Int32) = ((-1) : Int32) then
          (qrI N14 102 5 (nI n)).bind fun v17 =>
          if (v17 : Int32) = (0 : Int32) then
            some true
          else
            (qrI N14 103 5 (nI n)).bind fun v18 =>
            if (v18 : Int32) = (0 : Int32) then
              some true
            else
              some false
        else
          some true) : Option Bool) = some (decide (T = 0 ∨ S = 0)) := by
    rw [if_pos hc, qrI_nI hn (by decide), Option.bind_some, g1, qrI_nI hn (by decide), Option.bind_some, g2]
    by_cases hT0 : T = 0
    · rw [if_pos (by rw [hz _ hT]; exact hT0)]; simp [hT0]
    · rw [if_neg (by rw [hz _ hT]; exact hT0)]
      by_cases hS0 : S = 0
      · rw [if_pos (by rw [hz _ hS]; exact hS0)]; simp [hS0]
      · rw [if_neg (by rw [hz _ hS]; exact hS0)]; simp [hT0, hS0]
  by_cases hb : T = 0 ∨ S = 0
  · refine ⟨jMd_bad N14, ?_, (at_aM m2).tr f2⟩
    unfold vE
    rw [if_pos h.2.2, e, Option.bind_some]
    show ((Option.bind (ite (cb τ (sk τ a) = -1) _ _) _).bind _) = _
    rw [ez, if_pos hb]
    simp only [decide_eq_true hb, Option.bind_some, if_true]
    show some ((jMd_bad N14).1 91 4, jMd_bad N14) = _
    rw [f1.2.1]
  · refine ⟨N14, ?_, at_aM m2⟩
    unfold vE
    rw [if_pos h.2.2, e, Option.bind_some]
    show ((Option.bind (ite (cb τ (sk τ a) = -1) _ _) _).bind _) = _
    rw [ez, if_neg hb]
    simp only [decide_eq_false hb, Option.bind_some]
    show some (N14.1 91 4, N14) = _
    rw [m1.2.2]
