/-! ===== a way's text, whole ===== -/
def wrC (k b j : Nat) : Prop := (b = 1 ∧ (j = 2 ∨ j = 3)) ∨ (b = 4 ∧ j = 1) ∨ (b = k ∧ j = 2) ∨ b = k + 1 ∨ b = k + 2
def wrM (n b j : Nat) : Prop := (b = 91 ∧ (j = 3 ∨ j = 4 ∨ j = 5 ∨ j = 14)) ∨ ((b = 95 ∨ b = 96) ∧ j = n) ∨ ((b = 93 ∨ b = 94) ∧ 340 * n ≤ j ∧ j < 340 * n + 340) ∨ ((b = 97 ∨ b = 98 ∨ b = 99) ∧ 90 * n ≤ j ∧ j < 90 * n + 90)
theorem rs_rwC {k s : Nat} {M M1 : qM} (h : fr (rsC k s) M M1) : fr (wrC k) M M1 := h.mono (fun b j hb => by unfold rsC at hb; unfold wrC; omega)
theorem rc_rwM {n c q : Nat} {M M1 : qM} (hq : q < 90) (h : fr (rcM n c q) M M1) : fr (wrM n) M M1 := h.mono (fun b j hb => by unfold rcM rsM at hb; unfold wrM; omega)
theorem at_rwM {n : Nat} {M M1 : qM} (h : fr atM M M1) : fr (wrM n) M M1 := h.mono (fun b j hb => by unfold atM at hb; unfold wrM; omega)
noncomputable def wbC : (Int32 × qM) → Option ((Int32 × qM) ⊕ (qM ⊕ (qM ⊕ (qM ⊕ qM)))) :=
    fun q => qu2 q fun x5 M6 =>
    if (160 : Int32) ≤ (x5 : Int32) then
      some (.inr (.inr (.inr (.inr M6))))
    else
      (jWr_readClause M6).bind fun w12 =>
      qu2 w12 fun r13 M14 =>
      if (b2i r13 : Int32) = (0 : Int32) then
        some (.inr (.inl M14))
      else
        (jTp_peek M14).bind fun w15 =>
        qu2 w15 fun r16 M17 =>
        if (r16 : Int32) = ((-1) : Int32) then
          some (.inr (.inr (.inl M17)))
        else
          (jTp_take 59 M17).bind fun w18 =>
          qu2 w18 fun r19 M20 =>
          if (b2i r19 : Int32) = (0 : Int32) then
            some (.inr (.inr (.inr (.inl M20))))
          else
            qlt (x5 + 1 : Int32) fun x21 =>
            some (.inl (x21, M20))
noncomputable def wfC (r11 : qM ⊕ (qM ⊕ (qM ⊕ qM))) : Option (Int32 × qM) :=
  qse r11 (fun M7 =>
    some (M7.1 1 3, M7)) (fun r11 =>
    qse r11 (fun M8 =>
      some ((-1), M8)) (fun r11 =>
      qse r11 (fun M9 =>
        some (M9.1 1 3, M9)) (fun M10 =>
        some (M10.1 1 2, M10))))
theorem read_eC (k : Nat) (M : qM) : jWr_read k M = (qlp wbC (0, qI (qR (qI (qI M 1 2 0) 1 3 (-1)) 4 1 (some k)) k 2 0)).bind wfC := by
  unfold jWr_read jTp_rewind qlt
  simp only [qR_22, and_self, if_true, Option.bind_some]
  rfl
noncomputable def wbM : qM → Option (qM ⊕ qM) :=
    fun M3 =>
    if (M3.1 91 4 : Int32) = ((-1) : Int32) then
      (jMd_look M3).bind fun w9 =>
      qu2 w9 fun r10 M11 =>
      if (r10 : Int32) = (59 : Int32) then
        qlt (qI M11 91 3 ((M11.1 91 3) + 1)) fun M12 =>
        (jMd_clause M12).bind fun M13 =>
        some (.inl M13)
      else
        some (.inr M11)
    else
      some (.inr M3)
noncomputable def wE (M4 : qM) : Option (Int32 × qM) :=
  (jMd_atEnd M4).bind fun w6 =>
  qu2 w6 fun r7 M8 =>
  some (r7, M8)
theorem readWay_eM (p0 : Int32) (N : qM) : jMd_readWay p0 N = (jMd_open p0 N).bind fun M1 => (jMd_clause M1).bind fun M2 => (qlp wbM M2).bind wE := rfl
theorem wE_bad {N : qM} {τ : tT} {n w c B : Nat} (h : dM N τ n w c B) : wE N = some (nI w, N) := by
  unfold wE jMd_atEnd
  rw [if_neg (dM_w h), Option.bind_some, Option.bind_some, h.2.1]
  rfl
theorem wE_ok {N : qM} {τ : tT} {n a c d : Nat} (hl : a ≤ τ.1) (h : scM N τ n a c d) : wp (wE N) (fun o => (cb τ (sk τ a) = -1 → o.1 = -1 ∧ fr atM N o.2) ∧ (¬ cb τ (sk τ a) = -1 → o.1 = nI (sk τ a) ∧ fr (wrM n) N o.2)) := by
  have h160 := h.1.2.1
  have hsk := sk_le hl
  obtain ⟨⟨r, N4⟩, e, r1, r2, r3⟩ := look_st h hl
  have r1' : r = cb τ (sk τ a) := r1
  subst r1'
  have r2 : scM N4 τ n (sk τ a) c d := r2
  unfold wE jMd_atEnd
  rw [if_pos h.2.2.1, e, Option.bind_some]
  by_cases hc : cb τ (sk τ a) = -1
  · refine ⟨(N4.1 91 4, N4), ?_, fun _ => ⟨r2.2.2.1, r3⟩, fun g => absurd hc g⟩
    rw [show (qu2 (cb τ (sk τ a), N4) fun r3 M4 => if (r3 : Int32) = ((-1) : Int32) then some M4 else qlt (jMd_bad M4) fun M5 => some M5) = some N4 from if_pos hc]
    rfl
  · obtain ⟨f1, f2⟩ := badM r2 (by omega) (Nat.le_refl c)
    refine ⟨((jMd_bad N4).1 91 4, jMd_bad N4), ?_, fun g => absurd g hc, fun _ => ⟨f1.2.1, (at_rwM r3).tr ((f2 0).mono (fun b j hb => by unfold rsM at hb; unfold wrM; omega))⟩⟩
    rw [show (qu2 (cb τ (sk τ a), N4) fun r3 M4 => if (r3 : Int32) = ((-1) : Int32) then some M4 else qlt (jMd_bad M4) fun M5 => some M5) = some (jMd_bad N4) from if_neg hc]
    rfl
def WP (k n : Nat) (M N : qM) (o o' : Int32 × qM) : Prop := o.1 = o'.1 ∧ fr (wrC k) M o.2 ∧ fr (wrM n) N o'.2 ∧ (o.1 = -1 → ∃ W, rWC o.2 k W ∧ rWM o'.2 n W)
theorem CS_fr {τ : tT} {k n a a' s : Nat} {W : wW} {M N M1 N1 : qM} (hk : 12 ≤ k) (h : CS τ k n a s W M N) (ha : a ≤ a') (f1 : fr (rsC k s) M M1) (f2 : fr atM N N1) (sC : scC M1 τ k a' s) (sM : scM N1 τ n a' (wln W) 0) : CS τ k n a' s W M1 N1 := by
  obtain ⟨_, _, h1, h2, h3, h96, hws, hwa⟩ := h
  exact ⟨sC, sM, cW_frL (fun j hj => ⟨(f1 _ _ (by unfold rsC; omega)).1, (f1 _ _ (by unfold rsC; omega)).1⟩) W h1, mW_frL (C := wln W) (Q := W.length) (fun j hj => ⟨(f2 _ _ (by unfold atM; omega)).1, (f2 _ _ (by unfold atM; omega)).1⟩) (fun j hj => ⟨(f2 _ _ (by unfold atM; omega)).1, (f2 _ _ (by unfold atM; omega)).1, (f2 _ _ (by unfold atM; omega)).1⟩) W (by omega) (by omega) h2, h3, by rw [(f2 _ _ (by unfold atM; omega)).1]; exact h96, hws, by omega⟩
theorem wloop {τ : tT} {k n : Nat} (hT : tOK τ) (hk : 12 ≤ k) (hn : n < 7) : ∀ m {a s : Nat} {W : wW} {M N : qM}, τ.1 - a < m → CS τ k n a s W M N → w2 ((qlp wbC (nI W.length, M)).bind wfC) ((jMd_clause N).bind fun M2 => (qlp wbM M2).bind wE) (WP k n M N) := by
  intro m
  induction m with
  | zero => intro a s W M N h; omega
  | succ m ih =>
    intro a s W M N hm h
    have h160 := h.1.1.2.1
    have hal := h.1.2.2.1
    have hwa := h.2.2.2.2.2.2.2
    have hg : ¬ (160 : Int32) ≤ nI W.length := by rw [show (160 : Int32) = nI 160 from rfl, nI_leI (by omega) (by omega)]; omega
    obtain ⟨⟨z, M14⟩, N', e1, e2, f1, f2, hp⟩ := clause_rd hT hk hn h
    have f1 : fr (rsC k s) M M14 := f1
    have fC1 : fr (wrC k) M M14 := rs_rwC f1
    have fM1 : fr (wrM n) N N' := rc_rwM (by omega) f2
    rw [e2, Option.bind_some]
    rcases hp with ⟨z1, a', s', x, ha, hS⟩ | ⟨z1, w, w1, w2'⟩
    · have z1' : z = true := z1
      subst z1'
      have hS : CS τ k n a' s' (W ++ [x]) M14 N' := hS
      have sC := hS.1
      have sM := hS.2.1
      have hal' := sC.2.2.1
      have hsk := sk_le hal'
      obtain ⟨⟨r, M17⟩, e3, r1, c2, c3⟩ := peek_st hk sC
      have r1' : r = cb τ (sk τ a') := r1
      subst r1'
      have c2 : scC M17 τ k (sk τ a') s' := c2
      have c3 : fr atC M14 M17 := c3
      obtain ⟨⟨r, N11⟩, e4, r1, m2, m3⟩ := look_st sM hal'
      have r1' : r = cb τ (sk τ a') := r1
      subst r1'
      have m2 : scM N11 τ n (sk τ a') (wln (W ++ [x])) 0 := m2
      have m3 : fr atM N' N11 := m3
      have hS2 : CS τ k n (sk τ a') s' (W ++ [x]) M17 N11 := CS_fr hk hS hsk.1 (atC_rs c3) m3 c2 m2
      obtain ⟨⟨v, N4⟩, e5, w1, w2'⟩ := wE_ok hsk.2 m2
      rw [sk_sk _ a' (Nat.le_refl _) hal'] at w1 w2'
      by_cases hc : cb τ (sk τ a') = -1
      · obtain ⟨v1, v2⟩ := w1 hc
        have v1 : v = -1 := v1
        have v2 : fr atM N11 N4 := v2
        have eC : wbC (nI W.length, M) = some (.inr (.inr (.inl M17))) := by
          show (if (160 : Int32) ≤ nI W.length then _ else _) = _
          rw [if_neg hg, e1, Option.bind_some]
          show ((jTp_peek M14).bind _) = _
          rw [e3, Option.bind_some]
          exact if_pos hc
        have eM : wbM N' = some (.inr N11) := by
          show (if (N'.1 91 4 : Int32) = ((-1) : Int32) then _ else _) = _
          rw [if_pos sM.2.2.1, e4, Option.bind_some]
          exact if_neg (show ¬ cb τ (sk τ a') = 59 by rw [hc]; decide)
        rw [qlp_inr eC, qlp_inr eM, Option.bind_some, Option.bind_some, e5]
        refine ⟨(-1, M17), (v, N4), rfl, rfl, v1.symm, fC1.tr (rs_rwC (s := s') (atC_rs c3)), (fM1.tr (at_rwM m3)).tr (at_rwM v2), fun _ => ⟨W ++ [x], ?_, ?_⟩⟩
        · have := c2.2.2.2.2.2
          exact ⟨s', by omega, c2.2.2.2.2.1, hS2.2.2.1, hS2.2.2.2.2.1⟩
        · have hS3 := hS2.2.2.2.2.2.2.1
          have hS4 := hS2.2.2.2.2.2.2.2
          have := c2.2.2.2.2.2
          refine rWM_fr (S := atM) ⟨by omega, by omega, hS2.2.2.2.2.2.1, hS2.2.2.2.1, hS2.2.2.2.2.1⟩ v2 (fun b j _ _ hb => ?_)
          have hb1 : b = 91 := hb.1
          omega
      · obtain ⟨⟨tb, M20⟩, e6, t1, t2, t3⟩ := takeC (x := 59) (by decide) hk c2
        have t1 : fr (rsC k s') M17 M20 := t1
        rw [sk_sk _ a' (Nat.le_refl _) hal'] at t2 t3
        have fC2 : fr (wrC k) M M20 := (fC1.tr (rs_rwC (s := s') (atC_rs c3))).tr (rs_rwC t1)
        by_cases hy : cb τ (sk τ a') = 59
        · obtain ⟨tb1, tS⟩ := t2 hy
          have tb' : tb = true := tb1
          subst tb'
          have tS : scC M20 τ k (sk τ a' + 1) s' := tS
          obtain ⟨j1, j2⟩ := incM m2
          have hS5 : CS τ k n (sk τ a' + 1) s' (W ++ [x]) M20 (qI N11 91 3 (N11.1 91 3 + 1)) := CS_fr hk hS2 (by omega) t1 j2 tS j1
          have hlt := cb_lt hc
          obtain ⟨x1, y1, g1, g2, g3, g4, g5, g6⟩ := ih (by omega) hS5
          obtain ⟨N13, g7, g8⟩ := Option.bind_eq_some_iff.mp g2
          have eC : wbC (nI W.length, M) = some (.inl (nI (W ++ [x]).length, M20)) := by
            show (if (160 : Int32) ≤ nI W.length then _ else _) = _
            rw [if_neg hg, e1, Option.bind_some]
            show ((jTp_peek M14).bind _) = _
            rw [e3, Option.bind_some]
            refine (if_neg hc).trans ?_
            show ((jTp_take 59 M17).bind _) = _
            rw [e6, Option.bind_some, List.length_append, List.length_singleton, ← nI_1]
            rfl
          have eM : wbM N' = some (.inl N13) := by
            show (if (N'.1 91 4 : Int32) = ((-1) : Int32) then _ else _) = _
            rw [if_pos sM.2.2.1, e4, Option.bind_some]
            refine (if_pos hy).trans ?_
            show (jMd_clause (qI N11 91 3 (N11.1 91 3 + 1))).bind _ = _
            rw [g7]
            rfl
          rw [qlp_inl eC, qlp_inl eM]
          exact ⟨x1, y1, g1, g8, g3, fC2.tr g4, ((fM1.tr (at_rwM m3)).tr (at_rwM j2)).tr g5, g6⟩
        · obtain ⟨tb1, tS⟩ := t3 hy
          have tb' : tb = false := tb1
          subst tb'
          obtain ⟨v1, v2⟩ := w2' hc
          have v1 : v = nI (sk τ a') := v1
          have eC : wbC (nI W.length, M) = some (.inr (.inr (.inr (.inl M20)))) := by
            show (if (160 : Int32) ≤ nI W.length then _ else _) = _
            rw [if_neg hg, e1, Option.bind_some]
            show ((jTp_peek M14).bind _) = _
            rw [e3, Option.bind_some]
            refine (if_neg hc).trans ?_
            show ((jTp_take 59 M17).bind _) = _
            rw [e6, Option.bind_some]
            rfl
          have eM : wbM N' = some (.inr N11) := by
            show (if (N'.1 91 4 : Int32) = ((-1) : Int32) then _ else _) = _
            rw [if_pos sM.2.2.1, e4, Option.bind_some]
            exact if_neg hy
          rw [qlp_inr eC, qlp_inr eM, Option.bind_some, Option.bind_some, e5]
          have hd : M20.1 1 3 = nI (sk τ a') := tS.2.2.1
          refine ⟨(M20.1 1 3, M20), (v, N4), rfl, rfl, by rw [v1]; exact hd, fC2, (fM1.tr (at_rwM m3)).tr v2, fun g => ?_⟩
          have g : M20.1 1 3 = -1 := g
          rw [hd] at g
          exact absurd g (nI_m1 (by omega))
    · have z1' : z = false := z1
      subst z1'
      have w1 : dC M14 τ k w := w1
      have eC : wbC (nI W.length, M) = some (.inr (.inl M14)) := by
        show (if (160 : Int32) ≤ nI W.length then _ else _) = _
        rw [if_neg hg, e1]
        rfl
      have eM : wbM N' = some (.inr N') := if_neg (dM_w w2')
      rw [qlp_inr eC, qlp_inr eM, Option.bind_some, Option.bind_some, wE_bad w2']
      refine ⟨(M14.1 1 3, M14), (nI w, N'), rfl, rfl, w1.2.2.1, fC1, fM1, fun g => ?_⟩
      have g : M14.1 1 3 = -1 := g
      rw [w1.2.2.1] at g
      exact absurd g (nI_m1 (by have := w1.2.2.2; omega))
theorem way_rd {τ : tT} {k n : Nat} {M N : qM} (hT : tOK τ) (hk : 12 ≤ k) (hn : n < 7) (hC : rTC M τ) (hM : rTM N τ) : w2 (jWr_read k M) (jMd_readWay (nI n) N) (WP k n M N) := by
  have h160 := hC.2.1
  rw [read_eC, readWay_eM]
  have eo : jMd_open (nI n) N = some (qI (qI (qI (qI (qI (qI N 91 14 (nI n)) 91 3 0) 91 4 (-1)) 91 5 0) 95 n 0) 96 n 0) := by
    unfold jMd_open
    simp only [qlt]
    rw [qwI_nI hn (by decide), Option.bind_some, qwI_nI hn (by decide)]
    rfl
  rw [eo, Option.bind_some]
  have fC0 : fr (wrC k) M (qI (qR (qI (qI M 1 2 0) 1 3 (-1)) 4 1 (some k)) k 2 0) := by
    refine (fr_I ?_).tr ((fr_I ?_).tr ((fr_R ?_).tr (fr_I ?_)))
    · exact .inl ⟨rfl, .inl rfl⟩
    · exact .inl ⟨rfl, .inr rfl⟩
    · exact .inr (.inl ⟨rfl, rfl⟩)
    · exact .inr (.inr (.inl ⟨rfl, rfl⟩))
  have fM0 : fr (wrM n) N (qI (qI (qI (qI (qI (qI N 91 14 (nI n)) 91 3 0) 91 4 (-1)) 91 5 0) 95 n 0) 96 n 0) := by
    refine (fr_I ?_).tr ((fr_I ?_).tr ((fr_I ?_).tr ((fr_I ?_).tr ((fr_I ?_).tr (fr_I ?_)))))
    · exact .inl ⟨rfl, .inr (.inr (.inr rfl))⟩
    · exact .inl ⟨rfl, .inl rfl⟩
    · exact .inl ⟨rfl, .inr (.inl rfl)⟩
    · exact .inl ⟨rfl, .inr (.inr (.inl rfl))⟩
    · exact .inr (.inl ⟨.inl rfl, rfl⟩)
    · exact .inr (.inl ⟨.inr rfl, rfl⟩)
  have k1 : ¬ 1 = k := by omega
  have k2 : ¬ 2 = k := by omega
  have hS : CS τ k n 0 0 [] (qI (qR (qI (qI M 1 2 0) 1 3 (-1)) 4 1 (some k)) k 2 0) (qI (qI (qI (qI (qI (qI N 91 14 (nI n)) 91 3 0) 91 4 (-1)) 91 5 0) 95 n 0) 96 n 0) := by
    refine ⟨⟨⟨?_, hC.2.1, fun j hj => ?_⟩, ?_, by omega, ?_, ?_, Nat.le_refl _⟩, ⟨⟨?_, hM.2.1, fun j hj => ?_⟩, ?_, ?_, ?_, ?_, ?_⟩, rfl, trivial, (fun x hx => by cases hx), ?_, Nat.le_refl _, Nat.le_refl _⟩
    · simp [qI_1, qR_1, k1, hC.1]
    · simp [qI_1, qR_1, k2, hC.2.2 j hj]
    · simp [qI_1, qR_1, k1]; rfl
    · simp [qI_2, qR_22]
    · simp [qI_1]; rfl
    · simp [qI_1, hM.1]
    · simp [qI_1, hM.2.2 j hj]
    · simp [qI_1]; rfl
    · simp [qI_1]
    · simp [qI_1]; rfl
    · simp [qI_1]
    · simp [qI_1]; rfl
    · simp [qI_1]; rfl
  obtain ⟨x, y, g1, g2, g3, g4, g5, g6⟩ := wloop hT hk hn _ (Nat.lt_succ_self _) hS
  exact ⟨x, y, g1, g2, g3, fC0.tr g4, fM0.tr g5, g6⟩
