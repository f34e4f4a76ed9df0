/-! ===== a clause with a condition: both tails ===== -/
def CS (τ : tT) (k n a s : Nat) (W : wW) (M N : qM) : Prop := scC M τ k a s ∧ scM N τ n a (wln W) 0 ∧ cW M k s 0 W ∧ mW N n 0 0 W ∧ wfW W ∧ N.1 96 n = nI W.length ∧ wln W ≤ s ∧ 2 * W.length ≤ a
def CP (τ : tT) (k n a s : Nat) (W : wW) (M N : qM) (o : Bool × qM) (N' : qM) : Prop :=
  fr (rsC k s) M o.2 ∧ fr (rcM n (wln W) W.length) N N' ∧
  ((o.1 = true ∧ ∃ a' s' x, a < a' ∧ CS τ k n a' s' (W ++ [x]) o.2 N') ∨ (o.1 = false ∧ ∃ w, dC o.2 τ k w ∧ dM N' τ n w 0 340))
theorem CS_mk {τ : tT} {k n a s s' : Nat} {W : wW} {x : List (Nat × Nat) × List (Nat × Nat)} {M0 N0 M N : qM} (hk : 12 ≤ k) (h1 : cW M0 k s 0 W) (h2 : mW N0 n 0 0 W) (h3 : wfW W) (hx : wfc x) (fC : fr (rsC k s) M0 M) (fM : fr (rcM n (wln W) W.length) N0 N) (sC : scC M τ k a s') (sM : scM N τ n a (wln W + x.1.length + x.2.length) 0) (c1 : cW M k s' s [x]) (m1 : mW N n (wln W) W.length [x]) (h96 : N.1 96 n = nI (W.length + 1)) (hle : wln W + x.1.length + x.2.length ≤ s') (h2a : 2 * (W.length + 1) ≤ a) : CS τ k n a s' (W ++ [x]) M N := by
  have hl : (W ++ [x]).length = W.length + 1 := by simp
  refine ⟨sC, by rw [wln_app1]; exact sM, cW_app1 c1 W (cW_frL (fun j hj => ⟨(fC _ _ (by unfold rsC; omega)).1, (fC _ _ (by unfold rsC; omega)).1⟩) W h1), mW_app1 W (by rw [Nat.zero_add, Nat.zero_add]; exact m1) (mW_frL (C := wln W) (Q := W.length) (fun j hj => ⟨(fM _ _ (by unfold rcM rsM; omega)).1, (fM _ _ (by unfold rcM rsM; omega)).1⟩) (fun j hj => ⟨(fM _ _ (by unfold rcM rsM; omega)).1, (fM _ _ (by unfold rcM rsM; omega)).1, (fM _ _ (by unfold rcM rsM; omega)).1⟩) W (by omega) (by omega) h2), wfW_app1 h3 hx, by rw [hl]; exact h96, by rw [wln_app1]; exact hle, by rw [hl]; exact h2a⟩
noncomputable def tlE (x18 : Int32) (w23 : Bool × qM) : Option (Bool × qM) :=
              qu2 w23 fun r24 M25 =>
              ((
                if (b2i r24 : Int32) = (0 : Int32) then
                  some (false, M25)
                else
                  (M25.2.2 4 1).bind fun a32 =>
                  (jWy_add a32 59 0 M25).bind fun w33 =>
                  qu2 w33 fun r34 M35 =>
                  if (b2i r34 : Int32) = (0 : Int32) then
                    some (false, M35)
                  else
                    some (true, M35)) : Option (Bool × qM)).bind fun w28 =>
              qu2 w28 fun z26 M27 =>
              (M27.2.2 4 1).bind fun a29 =>
              (M27.2.2 4 1).bind fun a30 =>
              (jWy_leadTo a29 x18 (M27.1 a30 2) M27).bind fun M31 =>
              some (z26, M31)
noncomputable def tlC (M13 : qM) : Option (Bool × qM) :=
            (jTp_take 63 M13).bind fun w14 =>
            qu2 w14 fun r15 M16 =>
            if (b2i r15 : Int32) = (0 : Int32) then
              some (false, M16)
            else
              (M16.2.2 4 1).bind fun a17 =>
              qlt (M16.1 a17 2 : Int32) fun x18 =>
              (M16.2.2 4 1).bind fun a19 =>
              (jWy_add a19 63 0 M16).bind fun w20 =>
              qu2 w20 fun r21 M22 =>
              (jWr_readSum 0 M22).bind (tlE x18)
theorem tl_go {M : qM} {τ : tT} {k a s : Nat} (hk : 12 ≤ k) (h : scC M τ k a s) (hs : s < a) :
    (¬ cb τ (sk τ a) = 63 → wp (tlC M) (fun o => o.1 = false ∧ dC o.2 τ k (sk τ a) ∧ fr (rsC k s) M o.2)) ∧
    (cb τ (sk τ a) = 63 → ∃ M22, tlC M = (jWr_readSum 0 M22).bind (tlE (nI s)) ∧ scC M22 τ k (sk τ a + 1) (s + 1) ∧ fr (rsC k s) M M22 ∧ M22.1 (k + 1) s = 63) := by
  have hal := h.2.2.1
  have hsk := sk_le hal
  obtain ⟨⟨tb, M16⟩, e, t1, t2, t3⟩ := takeC (x := 63) (by decide) hk h
  refine ⟨fun hy => ?_, fun hy => ?_⟩
  · obtain ⟨tb1, tS⟩ := t3 hy
    have tb' : tb = false := tb1
    subst tb'
    unfold tlC
    exact wp_be e (wp_eq (o := (false, M16)) rfl ⟨rfl, tS, t1⟩)
  · obtain ⟨tb1, tS⟩ := t2 hy
    have tb' : tb = true := tb1
    subst tb'
    have tS' : scC M16 τ k (sk τ a + 1) s := tS
    obtain ⟨⟨ab, M22⟩, e2, b1, b2, b3, b4, b5⟩ := add_st (o := 63) (v := 0) hk tS' (by omega)
    have b1' : ab = true := b1
    subst b1'
    refine ⟨M22, ?_, b2, t1.tr b3, b4⟩
    unfold tlC
    rw [e, Option.bind_some]
    show (M16.2.2 4 1).bind _ = _
    rw [tS'.2.2.2.1, Option.bind_some]
    show ((some k).bind fun a19 => (jWy_add a19 63 0 M16).bind fun w20 => qu2 w20 fun r21 M22 => (jWr_readSum 0 M22).bind (tlE (M16.1 k 2))) = _
    rw [Option.bind_some, e2, Option.bind_some, tS'.2.2.2.2.1]
    rfl
theorem tlE_ok {M : qM} {τ : tT} {k a s x : Nat} (hk : 12 ≤ k) (h : scC M τ k a s) (hs : s < a) (hx : x < s) : wp (tlE (nI x) (true, M)) (fun o => o.1 = true ∧ scC o.2 τ k a (s + 1) ∧ o.2.1 (k + 1) s = 59 ∧ o.2.1 (k + 2) x = nI (s + 1) ∧ fr (fun b j => rsC k s b j ∨ (b = k + 2 ∧ j = x)) M o.2) := by
  have h160 := h.1.2.1
  have hal := h.2.2.1
  obtain ⟨⟨ab, M35⟩, e2, b1, b2, b3, b4, b5⟩ := add_st (o := 59) (v := 0) hk h hs
  have b1' : ab = true := b1
  subst b1'
  have b2 : scC M35 τ k a (s + 1) := b2
  have b4 : M35.1 (k + 1) s = 59 := b4
  unfold tlE
  refine wp_bd (wp_in tt0 (wp_be h.2.2.2.1 (wp_be e2 (wp_eq (o := (true, M35)) rfl ?_))))
  refine wp_be b2.2.2.2.1 (wp_be b2.2.2.2.1 (wp_bd ((lead_wp (by omega)).mono (fun o ho => wp_some ?_))))
  have ho := ho.2 (s + 1) b2.2.2.2.2.1 (by omega) (by omega)
  subst ho
  refine ⟨rfl, scC_k2 hk b2, ?_, ?_, ?_⟩
  · show (qI M35 (k + 2) x _).1 (k + 1) s = 59
    rw [qI_1, if_neg (by omega)]; exact b4
  · show (qI M35 (k + 2) x (M35.1 k 2)).1 (k + 2) x = _
    rw [qI_1, if_pos ⟨rfl, rfl⟩]; exact b2.2.2.2.2.1
  · exact (b3.mono (fun _ _ hb => .inl hb)).tr (fr_I (.inr ⟨rfl, rfl⟩))
theorem tlE_bad {M : qM} {τ : tT} {k w x : Nat} (hk : 12 ≤ k) (h : dC M τ k w) (h4 : M.2.2 4 1 = some k) (hx : x < 160) : wp (tlE (nI x) (false, M)) (fun o => o.1 = false ∧ dC o.2 τ k w ∧ fr (rsC k x) M o.2) := by
  unfold tlE
  show wp ((M.2.2 4 1).bind fun a29 => (M.2.2 4 1).bind fun a30 => (jWy_leadTo a29 (nI x) (M.1 a30 2) M).bind fun M31 => some (false, M31)) _
  refine wp_be h4 (wp_be h4 (wp_bd ((lead_wp hx).mono (fun o ho => wp_some ?_))))
  rcases ho.1 with rfl | rfl
  · exact ⟨rfl, h, fr_rf _ _⟩
  · exact ⟨rfl, dC_k2 hk h, fr_I (.inr (.inr ⟨.inr rfl, Nat.le_refl _⟩))⟩
theorem fn_go {N : qM} {τ : tT} {n q a c : Nat} (hn : n < 7) (hq : q < 90) (hl : a ≤ τ.1) (h : scM N τ n a c 0) :
    (¬ cb τ (sk τ a) = 63 → wp (fnM (nI (90 * n + q)) true N) (fun o => dM o τ n (sk τ a) c c ∧ fr (rcM n c q) N o)) ∧
    (cb τ (sk τ a) = 63 → ∃ N26, fnM (nI (90 * n + q)) true N = (jMd_sum N26).bind (fnE (nI (90 * n + q))) ∧ scM N26 τ n (sk τ a + 1) c 0 ∧ fr (fun b j => atM b j ∨ (b = 98 ∧ j = 90 * n + q)) N N26 ∧ N26.1 98 (90 * n + q) = nI c) := by
  have h160 := h.1.2.1
  have hsk := sk_le hl
  have hi : scM (qI N 98 (90 * n + q) (N.1 97 (90 * n + q))) τ n a c 0 := scM_low h (low_I (by omega))
  obtain ⟨⟨r, N23⟩, e, r1, r2, r3⟩ := look_st hi hl
  have r1' : r = cb τ (sk τ a) := r1
  subst r1'
  have r2 : scM N23 τ n (sk τ a) c 0 := r2
  have hz : ((if (b2i true : Int32) = 0 then false else if ((qI N 98 (90 * n + q) (N.1 97 (90 * n + q))).1 91 4 : Int32) = (-1 : Int32) then true else false) : Bool) = true := by
    rw [if_neg tt0, if_pos hi.2.2.1]
  refine ⟨fun hy => ?_, fun hy => ?_⟩
  · obtain ⟨f1, f2⟩ := badM r2 (by omega) (Nat.le_refl c)
    unfold fnM
    refine wp_bd (wp_rI rfl (by omega) (by decide) (wp_bd (wp_wI rfl (by omega) (by decide) (wp_lt (fun z20 hz2 => wp_ip (hz2.trans hz) (wp_be e (wp_in hy (wp_some ⟨f1, ?_⟩))))))))
    exact (fr_I (.inr (.inr ⟨.inr (.inl rfl), rfl⟩))).tr ((r3.mono (fun _ _ hb => .inl (rsM_at hb))).tr (rs_rc (f2 c)))
  · obtain ⟨j1, j2⟩ := incM r2
    refine ⟨qI (qI N23 91 3 (N23.1 91 3 + 1)) 98 (90 * n + q) (nI c), ?_, scM_low j1 (low_I (by omega)), ?_, by rw [qI_1, if_pos ⟨rfl, rfl⟩]⟩
    · unfold fnM
      rw [qrI_nI (by omega) (by decide), Option.bind_some, qwI_nI (by omega) (by decide), Option.bind_some]
      refine (if_pos hz).trans ?_
      rw [e, Option.bind_some]
      unfold qu2 qlt
      simp only
      rw [if_pos hy, j1.2.2.2.2.1, qrI_nI hn (by decide), Option.bind_some, j1.2.2.2.2.2, qwI_nI (by omega) (by decide), Option.bind_some]
    · exact (fr_I (.inr ⟨rfl, rfl⟩)).tr ((r3.mono (fun _ _ hb => .inl hb)).tr ((j2.mono (fun _ _ hb => .inl hb)).tr (fr_I (.inr ⟨rfl, rfl⟩))))
theorem WB_ne {D : Nat} {L : List (Nat × Nat)} (hD : D ≤ 60) (h : WB D L) : ¬ L = [] := by
  rintro rfl
  obtain ⟨v, _, e⟩ := h (fun _ => 0) [] (by simpa using hD)
  cases e
theorem tail_rd {τ : tT} {k n a a1 b s : Nat} {W : wW} {M0 N0 M13 N47 : qM} {z : Bool} (hT : tOK τ) (hk : 12 ≤ k) (hn : n < 7) (hq : W.length < 90) (h1 : cW M0 k s 0 W) (h2 : mW N0 n 0 0 W) (h3 : wfW W) (h96 : N0.1 96 n = nI W.length) (h97 : N0.1 97 (90 * n + W.length) = nI (wln W)) (hws : wln W ≤ s) (hsa : s + 2 ≤ a1) (hwa : 2 * (W.length + 1) ≤ a1) (haa : a < a1) (hp : PB τ k n a1 b s (wln W) 0 177 (WB 18) M0 N0 (z, M13) N47) :
    w2 ((if (b2i z : Int32) = (0 : Int32) then some (false, M13) else tlC M13) : Option (Bool × qM)) (fnM (nI (90 * n + W.length)) true N47) (CP τ k n a s W M0 N0) := by
  rcases PB_cs hp with ⟨rfl, a', L, hA⟩ | ⟨rfl, f1, f2, w, w1, w2'⟩
  · refine w2_Cn tt0 ?_
    obtain ⟨f1, f2, l1, l2, l3, l4, l5, l6, l7⟩ := hA
    have h160 := l3.1.2.1
    have hal := l3.2.2.1
    have hsk := sk_le hal
    obtain ⟨t1, t2⟩ := tl_go hk l3 (by omega)
    obtain ⟨u1, u2⟩ := fn_go (q := W.length) hn hq hal l4
    by_cases hy : cb τ (sk τ a') = 63
    · obtain ⟨M22, e1, s1, s2, s3⟩ := t2 hy
      obtain ⟨N26, e2, v1, v2, v3⟩ := u2 hy
      rw [e1, e2]
      obtain ⟨⟨zC, M25⟩, N27, q1, q2, g1, g2, hr⟩ := readSum_rd (d := 0) hT hk hn (by omega) _ _ _ _ _ s1 v1 (by omega)
      refine w2_C (wp_eq q1 ?_)
      refine w2_M (wp_eq q2 ?_)
      have g1 : fr (rsC k (s + L.length + 1)) M22 M25 := g1
      have fC1 : fr (rsC k s) M0 M25 := (f1.tr (s2.mono (fun _ _ hb => rsC_up (by omega) hb))).tr (g1.mono (fun _ _ hb => rsC_up (by omega) hb))
      have v2' : fr (rcM n (wln W) W.length) N47 N26 := v2.mono (fun _ _ hb => by rcases hb with hb | hb; exact .inl (rsM_at hb); exact .inr (.inr ⟨.inr (.inl hb.1), hb.2⟩))
      have fM1 : fr (rcM n (wln W) W.length) N0 N27 := ((rs_rc f2).tr v2').tr (rs_rc (g2.mono (fun _ _ hb => rsM_up (by omega) hb)))
      rcases hr with ⟨z1, a'', L2, m1, m2, m3, m4, m5, m6, m7⟩ | ⟨z1, w, w1, w2'⟩
      · have z1' : zC = true := z1
        subst z1'
        have m3 : scC M25 τ k a'' (s + L.length + 1 + L2.length) := m3
        have m5 : cdC M25 k (s + L.length + 1) L2 := m5
        obtain ⟨⟨ob, M31⟩, e3, x1, x2, x3, x4, x5⟩ := tlE_ok (x := s + L.length) hk m3 (by omega) (by omega)
        have x2 : scC M31 τ k a'' (s + L.length + 1 + L2.length + 1) := x2
        have x3 : M31.1 (k + 1) (s + L.length + 1 + L2.length) = 59 := x3
        have x4 : M31.1 (k + 2) (s + L.length) = nI (s + L.length + 1 + L2.length + 1) := x4
        have x5 : fr (fun b j => rsC k (s + L.length + 1 + L2.length) b j ∨ (b = k + 2 ∧ j = s + L.length)) M25 M31 := x5
        have x1 : ob = true := x1
        subst x1
        have hc96 : N27.1 96 n = nI W.length := by
          rw [(g2 _ _ (by unfold rsM; omega)).1, (v2 _ _ (by unfold atM; omega)).1, (f2 _ _ (by unfold rsM; omega)).1]; exact h96
        obtain ⟨N9, e4, y1⟩ := fnE_wp (N := N27) (n := n) (q := W.length) (c := wln W + L.length + L2.length) (u := nI W.length) hn hq m4.2.2.2.2.1 m4.2.2.2.2.2 hc96
        have hlow : lowM N27 N9 := by rw [y1]; exact (low_I (by omega)).tr (low_I (by omega))
        have fC2 : fr (rsC k s) M0 M31 := fC1.tr (x5.mono (fun _ _ hb => by
          rcases hb with hb | hb
          · exact rsC_up (by omega) hb
          · exact .inr (.inr ⟨.inr hb.1, by omega⟩)))
        have fM2 : fr (rcM n (wln W) W.length) N0 N9 := fM1.tr (by rw [y1]; exact (fr_I (.inr (.inr ⟨.inr (.inr rfl), rfl⟩))).tr (fr_I (.inr (.inl ⟨rfl, rfl⟩))))
        have hx : wfc (L, L2) := ⟨.inr (fun lt => l7 lt [] (by decide)), fun lt => m7 lt [] (by decide)⟩
        have h97' : N9.1 97 (90 * n + W.length) = nI (wln W) := by
          rw [y1, qI_1, if_neg (by omega), qI_1, if_neg (by omega), (g2 _ _ (by unfold rsM; omega)).1, (v2 _ _ (by unfold atM; omega)).1, (f2 _ _ (by unfold rsM; omega)).1]; exact h97
        have h98' : N9.1 98 (90 * n + W.length) = nI (wln W + L.length) := by
          rw [y1, qI_1, if_neg (by omega), qI_1, if_neg (by omega), (g2 _ _ (by unfold rsM; omega)).1]; exact v3
        have h99' : N9.1 99 (90 * n + W.length) = nI (wln W + L.length + L2.length) := by
          rw [y1, qI_1, if_neg (by omega), qI_1, if_pos ⟨rfl, rfl⟩]
        have h96' : N9.1 96 n = nI (W.length + 1) := by
          rw [y1, qI_1, if_pos ⟨rfl, rfl⟩, nI_1]
        have hcd1 : cdC M31 k s L := cdC_fr (cdC_fr (cdC_fr l5 (fun j j1 j2 => ⟨(s2 _ _ (by unfold rsC; omega)).1, (s2 _ _ (by unfold rsC; omega)).1⟩)) (fun j j1 j2 => ⟨(g1 _ _ (by unfold rsC; omega)).1, (g1 _ _ (by unfold rsC; omega)).1⟩)) (fun j j1 j2 => ⟨(x5 _ _ (by unfold rsC; omega)).1, (x5 _ _ (by unfold rsC; omega)).1⟩)
        have hcd2 : cdC M31 k (s + L.length + 1) L2 := cdC_fr m5 (fun j j1 j2 => ⟨(x5 _ _ (by unfold rsC; omega)).1, (x5 _ _ (by unfold rsC; omega)).1⟩)
        have h63 : M31.1 (k + 1) (s + L.length) = 63 := by
          rw [(x5 _ _ (by unfold rsC; omega)).1, (g1 _ _ (by unfold rsC; omega)).1]; exact s3
        have hcm1 : cdM N9 n (wln W) L := cdM_low (cdM_fr (cdM_fr l6 (fun j j1 j2 => ⟨(v2 _ _ (by unfold atM; omega)).1, (v2 _ _ (by unfold atM; omega)).1⟩)) (fun j j1 j2 => ⟨(g2 _ _ (by unfold rsM; omega)).1, (g2 _ _ (by unfold rsM; omega)).1⟩)) hlow
        have hcm2 : cdM N9 n (wln W + L.length) L2 := cdM_low m6 hlow
        refine ⟨(true, M31), N9, e3, e4, fC2, fM2, .inl ⟨rfl, a'', s + L.length + 1 + L2.length + 1, (L, L2), by omega, ?_⟩⟩
        exact CS_mk hk h1 h2 h3 hx fC2 fM2 x2 (scM_low m4 hlow) ⟨fun e => absurd e (WB_ne (by decide) l7), fun _ => ⟨hcd1, h63, x4, hcd2, x3, rfl⟩⟩ ⟨h97', h98', h99', hcm1, hcm2, trivial⟩ h96' (by show wln W + L.length + L2.length ≤ _; omega) (by omega)
      · have z1' : zC = false := z1
        subst z1'
        have w1 : dC M25 τ k w := w1
        have h41 : M25.2.2 4 1 = some k := by rw [(g1 4 1 (by unfold rsC; omega)).2.2]; exact s1.2.2.2.1
        obtain ⟨⟨ob, M31⟩, e3, x1, x2, x3⟩ := tlE_bad (x := s + L.length) hk w1 h41 (by omega)
        have x1 : ob = false := x1
        subst x1
        obtain ⟨N9, e4, y1, y2⟩ := fnE_bad (q := W.length) hn hq w2'
        exact ⟨(false, M31), N9, e3, e4, fC1.tr (x3.mono (fun _ _ hb => rsC_up (by omega) hb)), fM1.tr (y2.mono (fun b j hb => by rcases hb with hb | hb; exact .inl (rsM_up (by omega) hb); exact .inr hb)), .inr ⟨rfl, w, x2, dM_up y1 (by omega) (by omega)⟩⟩
    · obtain ⟨⟨ob, M16⟩, e1, x1, x2, x3⟩ := t1 hy
      have x1 : ob = false := x1
      subst x1
      obtain ⟨N9, e4, y1, y2⟩ := u1 hy
      exact ⟨(false, M16), N9, e1, e4, f1.tr (x3.mono (fun _ _ hb => rsC_up (by omega) hb)), (rs_rc f2).tr (y2.mono (fun b j hb => by rcases hb with hb | hb; exact .inl (rsM_up (by omega) hb); exact .inr hb)), .inr ⟨rfl, sk τ a', x2, dM_up y1 (by omega) (by omega)⟩⟩
  · obtain ⟨N9, e4, y1, y2⟩ := fnM_bad (q := W.length) (z := true) hn hq w2'
    exact ⟨(false, M13), N9, rfl, e4, f1, (rs_rc f2).tr y2, .inr ⟨rfl, w, w1, dM_up y1 (by omega) (by omega)⟩⟩
