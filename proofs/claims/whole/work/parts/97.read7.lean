theorem sk_sk {τ : tT} : ∀ m a, τ.1 - a ≤ m → a ≤ τ.1 → sk τ (sk τ a) = sk τ a := by
  intro m
  induction m with
  | zero => intro a h hl; rw [sk_e (a := a) (by omega), sk_e (by omega)]
  | succ m ih =>
    intro a h hl
    by_cases hlt : a < τ.1
    · by_cases e : τ.2 a = 32
      · rw [sk_s hlt e]; exact ih (a + 1) (by omega) (by omega)
      · rw [sk_n hlt e, sk_n hlt e]
    · rw [sk_e (a := a) (by omega), sk_e (by omega)]
theorem let_dg {x : Int32} (h : jTp_isDigit x = true) : ami 2 x = -1 := by
  obtain ⟨e, h2⟩ := dg_t h
  rw [← letter_eq, e]
  generalize dv x = y at h2
  have : y = 0 ∨ y = 1 ∨ y = 2 ∨ y = 3 ∨ y = 4 ∨ y = 5 ∨ y = 6 ∨ y = 7 ∨ y = 8 ∨ y = 9 := by omega
  rcases this with rfl | rfl | rfl | rfl | rfl | rfl | rfl | rfl | rfl | rfl <;> decide
theorem tt0 : ¬ b2i true = 0 := by decide
theorem ff0 : b2i false = 0 := by decide
theorem atom_rd {τ : tT} {k n d : Nat} {fC : Int32 → qM → Option (Bool × qM)} {fM : qM → Option qM} (hT : tOK τ) (hk : 12 ≤ k) (hn : n < 7) (hd : d ≤ 6) (hrc : d < 6 → RD τ k n (d + 1) (160 + 2 * (6 - d)) (WS (2 * (6 - d) + 1)) fC fM) : RD τ k n d (160 + 2 * (6 - d)) (WS (2 * (6 - d) + 1)) (jWr_readAtomF fC) (jMd_atomF fM) := by
  intro MC MM a s c hC hM hcs
  have h160 := hC.1.2.1
  have hsa := hC.2.2.2.2.2
  have hal := hC.2.2.1
  have hsk := sk_le hal
  unfold jWr_readAtomF jMd_atomF
  refine w2_C ((peek_st hk hC).mono (fun o ho => ?_))
  obtain ⟨r, M3⟩ := o
  obtain ⟨h1, h2, h3⟩ := ho
  have h1' : r = cb τ (sk τ a) := h1
  subst h1'
  have c2 : scC M3 τ k (sk τ a) s := h2
  have c3 : fr atC MC M3 := h3
  clear h1 h2 h3
  refine w2_M ((look_st hM hal).mono (fun o ho => ?_))
  obtain ⟨r, N3⟩ := o
  obtain ⟨h1, h2, h3⟩ := ho
  have h1' : r = cb τ (sk τ a) := h1
  subst h1'
  have m2 : scM N3 τ n (sk τ a) c d := h2
  have m3 : fr atM MM N3 := h3
  clear h1 h2 h3
  have fC0 : fr (rsC k s) MC M3 := atC_rs c3
  have fM0 : fr (rsM n c) MM N3 := atM_rs m3
  by_cases hx : cb τ (sk τ a) = 91
  · have hbl := cb_lt (show ¬ cb τ (sk τ a) = -1 by rw [hx]; decide)
    obtain ⟨o1, o2, o3⟩ := opensC hk hd c2 hbl
    obtain ⟨p1, p2, p3⟩ := opensM hd m2 (by omega)
    refine w2_Cp hx ?_
    refine w2_M (wp_ip (show b2i (jMd_isDigit (cb τ (sk τ a))) = 0 by rw [hx]; decide) (wp_ip (show jMd_letterOf (cb τ (sk τ a)) = -1 by rw [hx]; decide) (wp_ip hx ?_)))
    generalize jWr_openAt (nI d) M3 = w at o1 o2 o3
    obtain ⟨wb, wM⟩ := w
    have o1 : fr (rsC k s) M3 wM := o1
    show wp (if (jMd_opens N3).1 91 4 = -1 then _ else _) _
    generalize jMd_opens N3 = N6 at p1 p2 p3
    by_cases h6 : d < 6
    · obtain ⟨ob, oS⟩ := o2 h6
      have ob' : wb = true := ob
      subst ob'
      have oS' : scC wM τ k (sk τ a + 1) s := oS
      have p2' := p2 h6
      obtain ⟨oC, oM, q1, q2, f1, f2, hq⟩ := hrc h6 _ _ _ _ _ oS' p2' hcs
      obtain ⟨zC, M30⟩ := oC
      refine wp_ip p2'.2.2.1 (wp_be q2 ?_)
      rcases hq with ⟨z1, a', L, l1, l2, l3, l4, l5, l6, l7⟩ | ⟨z1, w, w1, w2'⟩
      · have z1' : zC = true := z1
        subst z1'
        have l3' : scC M30 τ k a' (s + L.length) := l3
        have hsk2 := sk_le l3'.2.2.1
        refine wp_bd ((closesM (x := 93) l3'.2.2.1 l4).mono (fun N8 hN => wp_some ?_))
        obtain ⟨n1, n2, n3⟩ := hN
        refine w2_C (wp_in tt0 (wp_be (x := (true, M30)) (by rw [← q1, nI_1]) ?_))
        show wp (if b2i true = 0 then some (false, M30) else _) _
        refine wp_in tt0 ?_
        refine wp_bd ((takeC (x := 93) (by decide) hk l3').mono (fun o ho => ?_))
        obtain ⟨tb, M33⟩ := o
        obtain ⟨t1, t2, t3⟩ := ho
        have gC : fr (rsC k s) MC M33 := ((fC0.tr o1).tr f1).tr (t1.mono (fun _ _ hb => rsC_up (by omega) hb))
        have gM : fr (rsM n c) MM N8 := ((fM0.tr p1).tr f2).tr (n1.mono (fun _ _ hb => rsM_up (by omega) hb))
        by_cases hy : cb τ (sk τ a') = 93
        · obtain ⟨tb1, tS⟩ := t2 hy
          have tb' : tb = true := tb1
          subst tb'
          show wp (if b2i true = 0 then some (false, M33) else some (true, M33)) _
          refine wp_in tt0 (wp_some (w2_ss ⟨gC, gM, .inl ⟨rfl, sk τ a' + 1, L, by omega, by omega, tS, n2 hy, ?_, ?_, l7⟩⟩))
          · exact cdC_fr l5 (fun j j1 j2 => ⟨(t1 _ _ (by unfold rsC; omega)).1, (t1 _ _ (by unfold rsC; omega)).1⟩)
          · exact cdM_fr l6 (fun j j1 j2 => ⟨(n1 _ _ (by unfold rsM; omega)).1, (n1 _ _ (by unfold rsM; omega)).1⟩)
        · obtain ⟨tb1, tS⟩ := t3 hy
          have tb' : tb = false := tb1
          subst tb'
          have hlen := l3'.2.2.2.2.2
          show wp (if b2i false = 0 then some (false, M33) else some (true, M33)) _
          exact wp_ip ff0 (wp_some (w2_ss ⟨gC, gM, .inr ⟨rfl, sk τ a', tS, dM_up (n3 hy) (by omega) (by omega)⟩⟩))
      · have z1' : zC = false := z1
        subst z1'
        refine wp_bd ((closesB (x := 93) w2').mono (fun N8 hN => wp_some ?_))
        refine w2_C (wp_in tt0 (wp_be (x := (false, M30)) (by rw [← q1, nI_1]) ?_))
        exact wp_eq (o := (false, M30)) rfl (w2_ss ⟨(fC0.tr o1).tr f1, ((fM0.tr p1).tr f2).tr hN.1, .inr ⟨rfl, w, w1, hN.2⟩⟩)
    · obtain ⟨ob, oS⟩ := o3 (by omega)
      have ob' : wb = false := ob
      subst ob'
      have p3' := p3 (by omega)
      refine wp_in (dM_w p3') (wp_some ?_)
      exact ⟨(false, wM), N6, rfl, rfl, ⟨fC0.tr o1, fM0.tr p1, .inr ⟨rfl, sk τ a, oS, dM_up p3' (Nat.le_refl _) (by omega)⟩⟩⟩
  · refine w2_Cn hx ?_
    refine w2_C ((among_st (t := 2) (by omega) hT hk c2).mono (fun o ho => ?_))
    obtain ⟨r, M6⟩ := o
    obtain ⟨h1, h2, h3⟩ := ho
    rw [sk_sk _ a (Nat.le_refl _) hal] at h1 h2
    have h1' : r = ami 2 (cb τ (sk τ a)) := h1
    subst h1'
    have d2 : scC M6 τ k (sk τ a) s := h2
    have d3 : fr (rsC k s) MC M6 := fC0.tr (atC_rs h3)
    clear h1 h2 h3
    rcases ami_b (cb τ (sk τ a)) with hl | ⟨i, hi, hl⟩
    · refine w2_Cp (show ami 2 (cb τ (sk τ a)) < 0 by rw [hl]; decide) ?_
      refine w2_C ((takeNumber_st (p := 4) hk (by omega) d2).mono (fun o ho => ?_))
      obtain ⟨r, M9⟩ := o
      obtain ⟨t1, t2, t3, t4⟩ := ho
      rw [sk_sk _ a (Nat.le_refl _) hal] at t2 t3 t4
      cases hdg : jTp_isDigit (cb τ (sk τ a)) with
      | false =>
        obtain ⟨u1, u2⟩ := t2 hdg
        obtain ⟨v1, v2⟩ := badM m2 (by omega) (Nat.le_refl c)
        refine w2_M (wp_ip (show b2i (jMd_isDigit (cb τ (sk τ a))) = 0 by rw [dg_e, hdg]; decide) (wp_ip (show jMd_letterOf (cb τ (sk τ a)) = -1 by rw [letter_eq, hl]) (wp_in hx (wp_some ?_))))
        exact w2_C (wp_ip u1 (wp_some (w2_ss ⟨d3.tr t1, fM0.tr (v2 c), .inr ⟨rfl, sk τ a, u2, dM_up v1 (Nat.le_refl _) (by omega)⟩⟩)))
      | true =>
        have hne := nE_gt (p := 4) hdg (by omega)
        refine w2_M (wp_in (show ¬ b2i (jMd_isDigit (cb τ (sk τ a))) = 0 by rw [dg_e, hdg]; decide) (wp_bd ((plainNumber_st hsk.2 m2 (by omega)).mono (fun o ho => ?_))))
        obtain ⟨y, N13⟩ := o
        obtain ⟨w1, w2', w3⟩ := ho
        cases hdg2 : jTp_isDigit (cb τ (nE τ 4 (sk τ a))) with
        | true =>
          obtain ⟨u1, u2⟩ := t3 hdg hdg2
          refine wp_bd ((put_bad hn (w2' hdg2) (by omega)).mono (fun N14 hN => wp_some ?_))
          exact w2_C (wp_ip u1 (wp_some (w2_ss ⟨d3.tr t1, (fM0.tr w1).tr hN.2, .inr ⟨rfl, _, u2, dM_up hN.1 (Nat.le_refl _) (by omega)⟩⟩)))
        | false =>
          obtain ⟨u1, u2⟩ := t4 hdg hdg2
          obtain ⟨y1, y2⟩ := w3 hdg2
          have u1' : r = nI (nV τ 4 (sk τ a)) := u1
          have y1' : y = nI (nV τ 4 (sk τ a)) := y1
          subst u1'
          subst y1'
          have hv := nV_lt τ (sk τ a)
          have u2' : scC M9 τ k (nE τ 4 (sk τ a)) s := u2
          have y2' : scM N13 τ n (nE τ 4 (sk τ a)) c d := y2
          have t1' : fr (rsC k s) M6 M9 := t1
          have w1' : fr (rsM n c) N3 N13 := w1
          refine wp_bd ((put_ok (o := 0) (v := nI (nV τ 4 (sk τ a))) hn y2' (by omega)).mono (fun N14 hN => wp_some ?_))
          refine w2_C (wp_in (nI_m1 (by omega)) (wp_be u2'.2.2.2.1 (wp_bd ((add_st (o := 48) (v := nI (nV τ 4 (sk τ a))) hk u2' (by omega)).mono (fun o ho => ?_)))))
          obtain ⟨ab, M16⟩ := o
          obtain ⟨b1, b2, b3, b4, b5⟩ := ho
          have b1' : ab = true := b1
          subst b1'
          obtain ⟨g1, g2⟩ := cd1 (MC := M16) (MM := N14) (k := k) (n := n) (s := s) (c := c) (o := 0) (v := nV τ 4 (sk τ a)) (O := 48) rfl hv b4 b5 hN.2.2.1 hN.2.2.2
          show wp (if b2i true = 0 then some (false, M16) else some (true, M16)) _
          exact wp_in tt0 (wp_some (w2_ss ⟨(d3.tr t1').tr b3, (fM0.tr w1').tr hN.2.1, .inl ⟨rfl, nE τ 4 (sk τ a), [(0, nV τ 4 (sk τ a))], by simp only [List.length_singleton]; omega, by omega, b2, hN.1, g1, g2, WS_num (by omega)⟩⟩))
    · have hbl : sk τ a < τ.1 := cb_lt (fun e => by rw [e] at hl; unfold ami at hl; rw [if_pos rfl] at hl; exact nI_m1 (show i < 2147483648 by omega) hl.symm)
      have hnd : jTp_isDigit (cb τ (sk τ a)) = false := by
        cases hdg : jTp_isDigit (cb τ (sk τ a)) with
        | false => rfl
        | true => rw [let_dg hdg] at hl; exact absurd hl.symm (nI_m1 (by omega))
      obtain ⟨i1, i2⟩ := incC hk d2 hbl
      obtain ⟨j1, j2⟩ := incM m2
      refine w2_Cn (show ¬ ami 2 (cb τ (sk τ a)) < 0 by rw [hl, show (0 : Int32) = nI 0 from rfl, nI_ltI (by omega) (by omega)]; omega) ?_
      refine w2_M (wp_ip (show b2i (jMd_isDigit (cb τ (sk τ a))) = 0 by rw [dg_e, hnd]; decide) (wp_in (show ¬ jMd_letterOf (cb τ (sk τ a)) = -1 by rw [letter_eq, hl]; exact nI_m1 (by omega)) (wp_bd ((put_ok (o := 1) (v := jMd_letterOf (cb τ (sk τ a))) hn j1 (by omega)).mono (fun N10 hN => wp_some ?_)))))
      rw [letter_eq, hl] at hN
      refine w2_C (wp_eq i1.2.2.2.1 (w2_C ((add_st (o := 97) (v := ami 2 (cb τ (sk τ a))) hk i1 (by omega)).mono (fun o ho => ?_))))
      obtain ⟨ab, M21⟩ := o
      obtain ⟨b1, b2, b3, b4, b5⟩ := ho
      have b1' : ab = true := b1
      subst b1'
      rw [hl] at b5
      obtain ⟨g1, g2⟩ := cd1 (MC := M21) (MM := N10) (k := k) (n := n) (s := s) (c := c) (o := 1) (v := i) (O := 97) rfl (by omega) b4 b5 hN.2.2.1 hN.2.2.2
      exact w2_ss ⟨(d3.tr (atC_rs i2)).tr b3, (fM0.tr (atM_rs j2)).tr hN.2.1, .inl ⟨rfl, sk τ a + 1, [(1, i)], by simp only [List.length_singleton]; omega, by omega, b2, hN.1, g1, g2, WS_let (by omega) hi⟩⟩
