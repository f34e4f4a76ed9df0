/-! ===== promises 15, 19, 20, 37 to 39 over seeds (written by wip/gen/tal.py) ===== -/
theorem q46 {M : qM} {n p : Nat} {v : vT} {t nth : Nat} {F : Nat → mS} (h : taR M n v t nth F) (hp : p < vP v) (h20 : vP v ≤ 20) : qrI M 46 20 (nI p) = some (sumF (fun d => iI (gnS v t nth (F d) p)) n) := by rw [qrI_nI (by omega) (by omega), h.2.2.1 p hp]
theorem p_pay {M : qM} {m : Nat} {vs : Nat → vT} {c : Nat} {wo : Nat → Nat} {Ws : Nat → wW} (h : rMK m vs M) (hcC : cuC M c wo Ws) (hcM : cuM M c wo Ws) (a b e : Int32) : bth (rMK m vs) sYC sYM (jTc_pay a b e) (jMd_pay a b e) M := by
  rcases h with ⟨⟨h1, h2, h3⟩ | ⟨i, t, lk, σ, hi, hi5, hC, hM⟩, hK⟩
  · refine ⟨-1000000, M, M, ?_, ?_, ⟨Or.inl ⟨h1, h2, h3⟩, hK⟩, fr_rf _ _, fr_rf _ _⟩
    · unfold jTc_pay jTc_isPair; rw [isPerC_N h1]; rfl
    · unfold jMd_pay; rw [isPerM_N h2]; rfl
  · have hR : rMK m vs M := ⟨Or.inr ⟨i, t, lk, σ, hi, hi5, hC, hM⟩, hK⟩
    have hv := hC.1.1.1
    have h20 := hv.2.2.1
    have hs6 := hv.2.1
    have hT := hv.2.2.2.1 t hC.1.2.2.2.1
    have hb0 : cB vs m M M i t lk σ c wo Ws := ⟨hC, hM, hcC, hcM, hK, fr_rf _ _⟩
    cases hz : jTc_isOf a (nI (vP (vs i))) with
    | false =>
      refine ⟨-1000000, M, M, ?_, ?_, hR, fr_rf _ _, fr_rf _ _⟩
      · unfold jTc_pay jTc_isPair; rw [isPerC_eq hC, hz]; rfl
      · unfold jMd_pay; rw [isPerM_eq hM, hz]; rfl
    | true =>
      cases hy : jTc_isOf b (nI (vP (vs i))) with
      | false =>
        refine ⟨-1000000, M, M, ?_, ?_, hR, fr_rf _ _, fr_rf _ _⟩
        · unfold jTc_pay jTc_isPair; rw [isPerC_eq hC, isPerC_eq hC, hz, hy]; rfl
        · unfold jMd_pay; rw [isPerM_eq hM, isPerM_eq hM, hz, hy]; rfl
      | true =>
        by_cases hab : a = b
        · refine ⟨-1000000, M, M, ?_, ?_, hR, fr_rf _ _, fr_rf _ _⟩
          · unfold jTc_pay jTc_isPair; rw [isPerC_eq hC, isPerC_eq hC, hz, hy, if_pos hab]; rfl
          · unfold jMd_pay; rw [isPerM_eq hM, isPerM_eq hM, hz, hy, if_pos hab]; rfl
        · cases hs : jTc_isSeeds e with
          | false =>
            refine ⟨-1000000, M, M, ?_, ?_, hR, fr_rf _ _, fr_rf _ _⟩
            · unfold jTc_pay jTc_isPair; rw [isPerC_eq hC, isPerC_eq hC, hz, hy, if_neg hab, hs]; rfl
            · unfold jMd_pay; rw [isPerM_eq hM, isPerM_eq hM, hz, hy, if_neg hab, ← seeds_eq, hs]; rfl
          | true =>
            obtain ⟨p, hp, rfl⟩ := isOf_of (by omega) hz
            obtain ⟨q, hq, rfl⟩ := isOf_of (by omega) hy
            obtain ⟨n, hn1, hn, rfl⟩ := seeds_n hs
            refine tal_mk (t := t) (lk := lk) (σ := σ) (c := c) (wo := wo) (Ws := Ws) (sumF (fun d => iI (gnS (vs i) t (vTi (vs i) t 0) (FF (vs i) t lk (vTi (vs i) t 0) (fzS (vs i) q) c wo Ws d) p)) n - sumF (fun d => iI (gnS (vs i) t (vTi (vs i) t 0) (FF (vs i) t lk (vTi (vs i) t 0) (fz0 (vs i)) c wo Ws d) p)) n) hi hi5 ?_ ?_
            · unfold jTc_pay
              refine wp_be (isPair_t hC hp hq hab) (wp_in (by decide) ?_)
              rw [hs]
              refine wp_in (by decide) ?_
              refine wp_bd ((plain_wp hb0 hn).mono ?_)
              rintro N1 ⟨b1, t1, s1⟩
              have q1 := q46 t1 hp h20
              refine wp_be q1 ?_
              refine wp_bd ((sent_wp b1 hn hq).mono ?_)
              rintro N2 ⟨b2, t2⟩
              have q2 := q46 t2 hp h20
              exact wp_be q2 (wp_some ⟨rfl, b2⟩)
            · intro M1 h1
              have e1 := isPerM_eq h1.2.1 (nI p)
              have e2 := isPerM_eq h1.2.1 (nI q)
              rw [hz] at e1
              rw [hy] at e2
              unfold jMd_pay
              refine wp_be e1 (wp_in (by decide) (wp_be e2 (wp_in (by decide) (wp_in hab ?_))))
              rw [← seeds_eq, hs]
              refine wp_in (by decide) ?_
              refine wp_bd ((mPut h1.2.1 h1.2.2.2.1).mono ?_)
              intro N0 m0
              refine wp_bd ((mB_over (w := 1) (p := p) m0 hn (by omega) (fun _ => ⟨rfl, hp⟩) (fz0_M _ hv)).mono ?_)
              rintro ⟨r1, N1⟩ ⟨v1, m1⟩
              have v1 : r1 = _ := v1
              refine wp_bd ((mB_over (w := 1) (p := p) ((mB_set m1).1 _) hn (by omega) (fun _ => ⟨rfl, hp⟩) (fzS_M hv hq)).mono ?_)
              rintro ⟨r2, N2⟩ ⟨v2, m2⟩
              have v2 : r2 = _ := v2
              refine wp_u2 ?_
              subst v1 v2
              exact mFin m2
theorem p_kin {M : qM} {m : Nat} {vs : Nat → vT} {c : Nat} {wo : Nat → Nat} {Ws : Nat → wW} (h : rMK m vs M) (hcC : cuC M c wo Ws) (hcM : cuM M c wo Ws) (a b e : Int32) : bth (rMK m vs) sYC sYM (jTc_kin a b e) (jMd_kin a b e) M := by
  rcases h with ⟨⟨h1, h2, h3⟩ | ⟨i, t, lk, σ, hi, hi5, hC, hM⟩, hK⟩
  · refine ⟨-1000000, M, M, ?_, ?_, ⟨Or.inl ⟨h1, h2, h3⟩, hK⟩, fr_rf _ _, fr_rf _ _⟩
    · unfold jTc_kin jTc_isPair; rw [isPerC_N h1]; rfl
    · unfold jMd_kin; rw [isPerM_N h2]; rfl
  · have hR : rMK m vs M := ⟨Or.inr ⟨i, t, lk, σ, hi, hi5, hC, hM⟩, hK⟩
    have hv := hC.1.1.1
    have h20 := hv.2.2.1
    have hs6 := hv.2.1
    have hT := hv.2.2.2.1 t hC.1.2.2.2.1
    have hb0 : cB vs m M M i t lk σ c wo Ws := ⟨hC, hM, hcC, hcM, hK, fr_rf _ _⟩
    cases hz : jTc_isOf a (nI (vP (vs i))) with
    | false =>
      refine ⟨-1000000, M, M, ?_, ?_, hR, fr_rf _ _, fr_rf _ _⟩
      · unfold jTc_kin jTc_isPair; rw [isPerC_eq hC, hz]; rfl
      · unfold jMd_kin; rw [isPerM_eq hM, hz]; rfl
    | true =>
      cases hy : jTc_isOf b (nI (vP (vs i))) with
      | false =>
        refine ⟨-1000000, M, M, ?_, ?_, hR, fr_rf _ _, fr_rf _ _⟩
        · unfold jTc_kin jTc_isPair; rw [isPerC_eq hC, isPerC_eq hC, hz, hy]; rfl
        · unfold jMd_kin; rw [isPerM_eq hM, isPerM_eq hM, hz, hy]; rfl
      | true =>
        by_cases hab : a = b
        · refine ⟨-1000000, M, M, ?_, ?_, hR, fr_rf _ _, fr_rf _ _⟩
          · unfold jTc_kin jTc_isPair; rw [isPerC_eq hC, isPerC_eq hC, hz, hy, if_pos hab]; rfl
          · unfold jMd_kin; rw [isPerM_eq hM, isPerM_eq hM, hz, hy, if_pos hab]; rfl
        · cases hs : jTc_isSeeds e with
          | false =>
            refine ⟨-1000000, M, M, ?_, ?_, hR, fr_rf _ _, fr_rf _ _⟩
            · unfold jTc_kin jTc_isPair; rw [isPerC_eq hC, isPerC_eq hC, hz, hy, if_neg hab, hs]; rfl
            · unfold jMd_kin; rw [isPerM_eq hM, isPerM_eq hM, hz, hy, if_neg hab, ← seeds_eq, hs]; rfl
          | true =>
            obtain ⟨p, hp, rfl⟩ := isOf_of (by omega) hz
            obtain ⟨q, hq, rfl⟩ := isOf_of (by omega) hy
            obtain ⟨n, hn1, hn, rfl⟩ := seeds_n hs
            refine tal_mk (t := t) (lk := lk) (σ := σ) (c := c) (wo := wo) (Ws := Ws) ((sumF (fun d => iI (gnS (vs i) t (vTi (vs i) t 0) (FF (vs i) t lk (vTi (vs i) t 0) (fzS (vs i) p) c wo Ws d) p)) n + sumF (fun d => iI (gnS (vs i) t (vTi (vs i) t 0) (FF (vs i) t lk (vTi (vs i) t 0) (fzS (vs i) p) c wo Ws d) q)) n) - (sumF (fun d => iI (gnS (vs i) t (vTi (vs i) t 0) (FF (vs i) t lk (vTi (vs i) t 0) (fz0 (vs i)) c wo Ws d) p)) n + sumF (fun d => iI (gnS (vs i) t (vTi (vs i) t 0) (FF (vs i) t lk (vTi (vs i) t 0) (fz0 (vs i)) c wo Ws d) q)) n)) hi hi5 ?_ ?_
            · unfold jTc_kin
              refine wp_be (isPair_t hC hp hq hab) (wp_in (by decide) ?_)
              rw [hs]
              refine wp_in (by decide) ?_
              refine wp_bd ((plain_wp hb0 hn).mono ?_)
              rintro N1 ⟨b1, t1, s1⟩
              have q1 := q46 t1 hp h20
              have q2 := q46 t1 hq h20
              refine wp_be q1 (wp_be q2 ?_)
              refine wp_bd ((sent_wp b1 hn hp).mono ?_)
              rintro N2 ⟨b2, t2⟩
              have q3 := q46 t2 hp h20
              have q4 := q46 t2 hq h20
              exact wp_be q3 (wp_be q4 (wp_some ⟨rfl, b2⟩))
            · intro M1 h1
              have e1 := isPerM_eq h1.2.1 (nI p)
              have e2 := isPerM_eq h1.2.1 (nI q)
              rw [hz] at e1
              rw [hy] at e2
              unfold jMd_kin
              refine wp_be e1 (wp_in (by decide) (wp_be e2 (wp_in (by decide) (wp_in hab ?_))))
              rw [← seeds_eq, hs]
              refine wp_in (by decide) ?_
              refine wp_bd ((mPut h1.2.1 h1.2.2.2.1).mono ?_)
              intro N0 m0
              refine wp_bd ((mB_over (w := 1) (p := p) m0 hn (by omega) (fun _ => ⟨rfl, hp⟩) (fz0_M _ hv)).mono ?_)
              rintro ⟨r1, N1⟩ ⟨v1, m1⟩
              have v1 : r1 = _ := v1
              refine wp_bd ((mB_over (w := 1) (p := q) m1 hn (by omega) (fun _ => ⟨rfl, hq⟩) (fz0_M _ hv)).mono ?_)
              rintro ⟨r2, N2⟩ ⟨v2, m2⟩
              have v2 : r2 = _ := v2
              refine wp_u2 ?_
              refine wp_bd ((mB_over (w := 1) (p := p) ((mB_set m2).1 _) hn (by omega) (fun _ => ⟨rfl, hp⟩) (fzS_M hv hp)).mono ?_)
              rintro ⟨r3, N3⟩ ⟨v3, m3⟩
              have v3 : r3 = _ := v3
              refine wp_bd ((mB_over (w := 1) (p := q) m3 hn (by omega) (fun _ => ⟨rfl, hq⟩) (fzS_M hv hp)).mono ?_)
              rintro ⟨r4, N4⟩ ⟨v4, m4⟩
              have v4 : r4 = _ := v4
              refine wp_u2 ?_
              subst v1 v2 v3 v4
              exact mFin m4
theorem p_both {M : qM} {m : Nat} {vs : Nat → vT} {c : Nat} {wo : Nat → Nat} {Ws : Nat → wW} (h : rMK m vs M) (hcC : cuC M c wo Ws) (hcM : cuM M c wo Ws) (a b e : Int32) : bth (rMK m vs) sYC sYM (jTc_both a b e) (jMd_both a b e) M := by
  rcases h with ⟨⟨h1, h2, h3⟩ | ⟨i, t, lk, σ, hi, hi5, hC, hM⟩, hK⟩
  · refine ⟨-1, M, M, ?_, ?_, ⟨Or.inl ⟨h1, h2, h3⟩, hK⟩, fr_rf _ _, fr_rf _ _⟩
    · unfold jTc_both jTc_isPair; rw [isPerC_N h1]; rfl
    · unfold jMd_both; rw [isPerM_N h2]; rfl
  · have hR : rMK m vs M := ⟨Or.inr ⟨i, t, lk, σ, hi, hi5, hC, hM⟩, hK⟩
    have hv := hC.1.1.1
    have h20 := hv.2.2.1
    have hs6 := hv.2.1
    have hT := hv.2.2.2.1 t hC.1.2.2.2.1
    have hb0 : cB vs m M M i t lk σ c wo Ws := ⟨hC, hM, hcC, hcM, hK, fr_rf _ _⟩
    cases hz : jTc_isOf a (nI (vP (vs i))) with
    | false =>
      refine ⟨-1, M, M, ?_, ?_, hR, fr_rf _ _, fr_rf _ _⟩
      · unfold jTc_both jTc_isPair; rw [isPerC_eq hC, hz]; rfl
      · unfold jMd_both; rw [isPerM_eq hM, hz]; rfl
    | true =>
      cases hy : jTc_isOf b (nI (vP (vs i))) with
      | false =>
        refine ⟨-1, M, M, ?_, ?_, hR, fr_rf _ _, fr_rf _ _⟩
        · unfold jTc_both jTc_isPair; rw [isPerC_eq hC, isPerC_eq hC, hz, hy]; rfl
        · unfold jMd_both; rw [isPerM_eq hM, isPerM_eq hM, hz, hy]; rfl
      | true =>
        by_cases hab : a = b
        · refine ⟨-1, M, M, ?_, ?_, hR, fr_rf _ _, fr_rf _ _⟩
          · unfold jTc_both jTc_isPair; rw [isPerC_eq hC, isPerC_eq hC, hz, hy, if_pos hab]; rfl
          · unfold jMd_both; rw [isPerM_eq hM, isPerM_eq hM, hz, hy, if_pos hab]; rfl
        · cases hs : jTc_isSeeds e with
          | false =>
            refine ⟨-1, M, M, ?_, ?_, hR, fr_rf _ _, fr_rf _ _⟩
            · unfold jTc_both jTc_isPair; rw [isPerC_eq hC, isPerC_eq hC, hz, hy, if_neg hab, hs]; rfl
            · unfold jMd_both; rw [isPerM_eq hM, isPerM_eq hM, hz, hy, if_neg hab, ← seeds_eq, hs]; rfl
          | true =>
            obtain ⟨p, hp, rfl⟩ := isOf_of (by omega) hz
            obtain ⟨q, hq, rfl⟩ := isOf_of (by omega) hy
            obtain ⟨n, hn1, hn, rfl⟩ := seeds_n hs
            refine tal_mk (t := t) (lk := lk) (σ := σ) (c := c) (wo := wo) (Ws := Ws) (sumF (fun d => b2i (hsS (vs i) t (vTi (vs i) t 0) (FF (vs i) t lk (vTi (vs i) t 0) (fz0 (vs i)) c wo Ws d) p && hsS (vs i) t (vTi (vs i) t 0) (FF (vs i) t lk (vTi (vs i) t 0) (fz0 (vs i)) c wo Ws d) q)) n) hi hi5 ?_ ?_
            · unfold jTc_both
              refine wp_be (isPair_t hC hp hq hab) (wp_in (by decide) ?_)
              rw [hs]
              refine wp_in (by decide) ?_
              refine wp_bd ((plain_wp hb0 hn).mono ?_)
              rintro N1 ⟨b1, t1, s1⟩
              exact wp_be (hadBoth_eq hv hn t1 hp hq) (wp_some ⟨rfl, b1⟩)
            · intro M1 h1
              have e1 := isPerM_eq h1.2.1 (nI p)
              have e2 := isPerM_eq h1.2.1 (nI q)
              rw [hz] at e1
              rw [hy] at e2
              unfold jMd_both
              refine wp_be e1 (wp_in (by decide) (wp_be e2 (wp_in (by decide) (wp_in hab ?_))))
              rw [← seeds_eq, hs]
              refine wp_in (by decide) ?_
              refine wp_bd ((mPut h1.2.1 h1.2.2.2.1).mono ?_)
              intro N0 m0
              generalize hFF : FF (vs i) t lk (vTi (vs i) t 0) (fz0 (vs i)) c wo Ws = F
              refine wp_bd (wp_for (fun d s => s.1 = sumF (fun d => b2i (hsS (vs i) t (vTi (vs i) t 0) (F d) p && hsS (vs i) t (vTi (vs i) t 0) (F d) q)) d ∧ s.2.1 = nI d ∧ mB vs M1 s.2.2 i t lk σ c wo Ws lk (vTi (vs i) t 0) 0 (-1)) n ⟨rfl, rfl, m0⟩ ?_ ?_)
              · rintro d ⟨x, y, N⟩ hd ⟨a1, a2, a3⟩
                have a1 : x = _ := a1
                have a2 : y = nI d := a2
                subst a1 a2
                have a3 : mB vs M1 N i t lk σ c wo Ws lk (vTi (vs i) t 0) 0 (-1) := a3
                show wp (qu3 _ _) _
                unfold qu3
                refine wp_in (nI_ge hd (by omega)) ?_
                rw [nI_l (by omega)]
                refine wp_bd ((mWhole_wp (lN d) a3.1 a3.2.2.2.1 (fz0_M _ hv)).mono ?_)
                rintro N1 ⟨g1, g2⟩
                have a4 := mB_mm a3 g2
                have g1 : mmD N1 (vs i) (F d) := by rw [← hFF]; exact g1
                refine wp_be (hasM_eq a4.1 g1 hp) ?_
                have hz13 : wp (if b2i (hsS (vs i) t (vTi (vs i) t 0) (F d) p) = 0 then some false else (jMd_hasPlace (nI q) N1).bind fun r16 => if b2i r16 = 0 then some false else some true) (fun z => z = (hsS (vs i) t (vTi (vs i) t 0) (F d) p && hsS (vs i) t (vTi (vs i) t 0) (F d) q)) := by
                  have e := hasM_eq a4.1 g1 hq
                  cases hx : hsS (vs i) t (vTi (vs i) t 0) (F d) p with
                  | false => exact wp_ip (by decide) (wp_some rfl)
                  | true =>
                    refine wp_in (by decide) (wp_be e ?_)
                    show wp (if b2i (hsS (vs i) t (vTi (vs i) t 0) (F d) q) = 0 then some false else some true) _
                    cases hsS (vs i) t (vTi (vs i) t 0) (F d) q with
                    | false => exact wp_ip (by decide) (wp_some rfl)
                    | true => exact wp_in (by decide) (wp_some rfl)
                refine wp_bd (hz13.mono ?_)
                intro z hz13
                refine wp_some ⟨?_, nI_1 d, a4⟩
                show _ + b2i z = _
                rw [hz13]
                rfl
              · rintro ⟨x, y, N⟩ ⟨a1, a2, a3⟩
                have a1 : x = _ := a1
                have a2 : y = nI n := a2
                subst a1 a2
                show wp (qu3 _ _) _
                unfold qu3
                exact wp_ip (nI_le (Nat.le_refl _) (by omega)) (wp_some (mFin a3))
theorem p_odds {M : qM} {m : Nat} {vs : Nat → vT} {c : Nat} {wo : Nat → Nat} {Ws : Nat → wW} (h : rMK m vs M) (hcC : cuC M c wo Ws) (hcM : cuM M c wo Ws) (a e w : Int32) : bth (rMK m vs) sYC sYM (jTc_odds a e w) (jMd_odds a e w) M := by
  rcases h with ⟨⟨h1, h2, h3⟩ | ⟨i, t, lk, σ, hi, hi5, hC, hM⟩, hK⟩
  · refine ⟨-1000000, M, M, ?_, ?_, ⟨Or.inl ⟨h1, h2, h3⟩, hK⟩, fr_rf _ _, fr_rf _ _⟩
    · unfold jTc_odds; rw [isPerC_N h1]; rfl
    · unfold jMd_odds; rw [isPerM_N h2]; rfl
  · have hR : rMK m vs M := ⟨Or.inr ⟨i, t, lk, σ, hi, hi5, hC, hM⟩, hK⟩
    have hv := hC.1.1.1
    have h20 := hv.2.2.1
    have hs6 := hv.2.1
    have hT := hv.2.2.2.1 t hC.1.2.2.2.1
    have hb0 : cB vs m M M i t lk σ c wo Ws := ⟨hC, hM, hcC, hcM, hK, fr_rf _ _⟩
    have ew : jTc_isOf w 2 = jMd_in w 0 1 := isOf_in rfl rfl
    cases hz : jTc_isOf a (nI (vP (vs i))) with
    | false =>
      refine ⟨-1000000, M, M, ?_, ?_, hR, fr_rf _ _, fr_rf _ _⟩
      · unfold jTc_odds; rw [isPerC_eq hC, hz]; rfl
      · unfold jMd_odds; rw [isPerM_eq hM, hz]; rfl
    | true =>
      cases hs : jTc_isSeeds e with
      | false =>
        refine ⟨-1000000, M, M, ?_, ?_, hR, fr_rf _ _, fr_rf _ _⟩
        · unfold jTc_odds; rw [isPerC_eq hC, hz, hs]; rfl
        · unfold jMd_odds; rw [isPerM_eq hM, hz, ← seeds_eq, hs]; rfl
      | true =>
        cases hw : jTc_isOf w 2 with
        | false =>
          refine ⟨-1000000, M, M, ?_, ?_, hR, fr_rf _ _, fr_rf _ _⟩
          · unfold jTc_odds; rw [isPerC_eq hC, hz, hs, hw]; rfl
          · unfold jMd_odds; rw [isPerM_eq hM, hz, ← seeds_eq, hs, ← ew, hw]; rfl
        | true =>
          obtain ⟨p, hp, rfl⟩ := isOf_of (by omega) hz
          obtain ⟨n, hn1, hn, rfl⟩ := seeds_n hs
          obtain ⟨w, hw2, rfl⟩ := isOf_of (T := 2) (by decide) hw
          refine tal_mk (t := t) (lk := lk) (σ := σ) (c := c) (wo := wo) (Ws := Ws) (sumF (fun d => trm (vs i) t (vTi (vs i) t 0) w p (FF (vs i) t lk (vTi (vs i) t 0) (fz0 (vs i)) c wo Ws d)) n) hi hi5 ?_ ?_
          · have e1 := isPerC_eq hC (nI p)
            rw [hz] at e1
            unfold jTc_odds
            refine wp_be e1 (wp_in (by decide) ?_)
            rw [hs, hw]
            refine wp_in (by decide) (wp_in (by decide) ?_)
            refine wp_bd ((plain_wp hb0 hn).mono ?_)
            rintro N1 ⟨b1, t1, s1⟩
            generalize FF (vs i) t lk (vTi (vs i) t 0) (fz0 (vs i)) c wo Ws = F at t1 ⊢
            refine wp_bd ?_
            have : w = 0 ∨ w = 1 := by omega
            rcases this with rfl | rfl
            · refine wp_ip rfl ?_
              have e2 : jTa_hadBy (nI p) N1 = some (sumF (fun d => trm (vs i) t (vTi (vs i) t 0) 0 p (F d)) n) := by
                unfold jTa_hadBy
                rw [hadBoth_eq hv hn t1 hp hp]
                simp only [Option.bind_some, Bool.and_self]
                rfl
              exact wp_be e2 (wp_some (wp_some ⟨rfl, b1⟩))
            · refine wp_in (by decide) ?_
              have q1 := q46 t1 hp h20
              exact wp_be q1 (wp_some (wp_some ⟨rfl, b1⟩))
          · intro M1 h1
            have e1 := isPerM_eq h1.2.1 (nI p)
            rw [hz] at e1
            unfold jMd_odds
            refine wp_be e1 (wp_in (by decide) ?_)
            rw [← seeds_eq, hs, ← ew, hw]
            refine wp_in (by decide) (wp_in (by decide) ?_)
            refine wp_bd ((mPut h1.2.1 h1.2.2.2.1).mono ?_)
            intro N0 m0
            refine wp_bd ((mB_over (w := w) (p := p) m0 hn (by omega) (fun _ => ⟨rfl, hp⟩) (fz0_M _ hv)).mono ?_)
            rintro ⟨r1, N1⟩ ⟨v1, m1⟩
            have v1 : r1 = _ := v1
            subst v1
            exact mFin m1
theorem p_price {M : qM} {m : Nat} {vs : Nat → vT} {c : Nat} {wo : Nat → Nat} {Ws : Nat → wW} (h : rMK m vs M) (hcC : cuC M c wo Ws) (hcM : cuM M c wo Ws) (a e : Int32) : bth (rMK m vs) sYC sYM (jTc_price a e) (jMd_price a e) M := by
  rcases h with ⟨⟨h1, h2, h3⟩ | ⟨i, t, lk, σ, hi, hi5, hC, hM⟩, hK⟩
  · refine ⟨-1, M, M, ?_, ?_, ⟨Or.inl ⟨h1, h2, h3⟩, hK⟩, fr_rf _ _, fr_rf _ _⟩
    · unfold jTc_price; rw [isPerC_N h1]; rfl
    · unfold jMd_price; rw [isPerM_N h2]; rfl
  · have hR : rMK m vs M := ⟨Or.inr ⟨i, t, lk, σ, hi, hi5, hC, hM⟩, hK⟩
    have hv := hC.1.1.1
    have h20 := hv.2.2.1
    have hs6 := hv.2.1
    have hT := hv.2.2.2.1 t hC.1.2.2.2.1
    have hb0 : cB vs m M M i t lk σ c wo Ws := ⟨hC, hM, hcC, hcM, hK, fr_rf _ _⟩
    cases hz : jTc_isOf a (nI (vP (vs i))) with
    | false =>
      refine ⟨-1, M, M, ?_, ?_, hR, fr_rf _ _, fr_rf _ _⟩
      · unfold jTc_price; rw [isPerC_eq hC, hz]; rfl
      · unfold jMd_price; rw [isPerM_eq hM, hz]; rfl
    | true =>
      cases hs : jTc_isSeeds e with
      | false =>
        refine ⟨-1, M, M, ?_, ?_, hR, fr_rf _ _, fr_rf _ _⟩
        · unfold jTc_price; rw [isPerC_eq hC, hz, hs]; rfl
        · unfold jMd_price; rw [isPerM_eq hM, hz, ← seeds_eq, hs]; rfl
      | true =>
        obtain ⟨p, hp, rfl⟩ := isOf_of (by omega) hz
        obtain ⟨n, hn1, hn, rfl⟩ := seeds_n hs
        refine tal_mk (t := t) (lk := lk) (σ := σ) (c := c) (wo := wo) (Ws := Ws) (jmaxI 0 (sumF (fun d => iI (gnS (vs i) t (vTi (vs i) t 0) (FF (vs i) t lk (vTi (vs i) t 0) (fz0 (vs i)) c wo Ws d) p)) n - sumF (fun d => iI (gnS (vs i) t (vTi (vs i) t 0) (FF (vs i) t lk (vTi (vs i) t 0) (fzS (vs i) p) c wo Ws d) p)) n)) hi hi5 ?_ ?_
        · have e1 := isPerC_eq hC (nI p)
          rw [hz] at e1
          unfold jTc_price
          refine wp_be e1 (wp_in (by decide) ?_)
          rw [hs]
          refine wp_in (by decide) ?_
          refine wp_bd ((plain_wp hb0 hn).mono ?_)
          rintro N1 ⟨b1, t1, s1⟩
          have q1 := q46 t1 hp h20
          refine wp_be q1 ?_
          refine wp_bd ((sent_wp b1 hn hp).mono ?_)
          rintro N2 ⟨b2, t2⟩
          have q2 := q46 t2 hp h20
          exact wp_be q2 (wp_some ⟨rfl, b2⟩)
        · intro M1 h1
          have e1 := isPerM_eq h1.2.1 (nI p)
          rw [hz] at e1
          unfold jMd_price
          refine wp_be e1 (wp_in (by decide) ?_)
          rw [← seeds_eq, hs]
          refine wp_in (by decide) ?_
          refine wp_bd ((mPut h1.2.1 h1.2.2.2.1).mono ?_)
          intro N0 m0
          refine wp_bd ((mB_over (w := 1) (p := p) m0 hn (by omega) (fun _ => ⟨rfl, hp⟩) (fz0_M _ hv)).mono ?_)
          rintro ⟨r1, N1⟩ ⟨v1, m1⟩
          have v1 : r1 = _ := v1
          refine wp_bd ((mB_over (w := 1) (p := p) ((mB_set m1).1 _) hn (by omega) (fun _ => ⟨rfl, hp⟩) (fzS_M hv hp)).mono ?_)
          rintro ⟨r2, N2⟩ ⟨v2, m2⟩
          have v2 : r2 = _ := v2
          refine wp_u2 ?_
          subst v1 v2
          exact mFin m2
theorem p_seen {M : qM} {m : Nat} {vs : Nat → vT} {c : Nat} {wo : Nat → Nat} {Ws : Nat → wW} (h : rMK m vs M) (hcC : cuC M c wo Ws) (hcM : cuM M c wo Ws) (e : Int32) : bth (rMK m vs) sYC sYM (jTc_seen e) (jMd_seen e) M := by
  rcases h with ⟨⟨h1, h2, h3⟩ | ⟨i, t, lk, σ, hi, hi5, hC, hM⟩, hK⟩
  · refine ⟨-1000000, M, M, ?_, ?_, ⟨Or.inl ⟨h1, h2, h3⟩, hK⟩, fr_rf _ _, fr_rf _ _⟩
    · unfold jTc_seen; rw [mbeg_f h1]; rfl
    · unfold jMd_seen; rw [if_pos h2]
  · have hR : rMK m vs M := ⟨Or.inr ⟨i, t, lk, σ, hi, hi5, hC, hM⟩, hK⟩
    have hv := hC.1.1.1
    have h20 := hv.2.2.1
    have hs6 := hv.2.1
    have hT := hv.2.2.2.1 t hC.1.2.2.2.1
    have hb0 : cB vs m M M i t lk σ c wo Ws := ⟨hC, hM, hcC, hcM, hK, fr_rf _ _⟩
    have hbC := mbeg_t hC.1.2.2.2.2.2.2.1
    have hbM : ¬ M.1 91 33 = 0 := by rw [hM.2.2]; decide
    cases hs : jTc_isSeeds e with
    | false =>
      refine ⟨-1000000, M, M, ?_, ?_, hR, fr_rf _ _, fr_rf _ _⟩
      · unfold jTc_seen; rw [hbC, hs]; rfl
      · unfold jMd_seen; rw [if_neg hbM, ← seeds_eq, hs]; rfl
    | true =>
      obtain ⟨n, hn1, hn, rfl⟩ := seeds_n hs
      refine tal_mk (t := t) (lk := lk) (σ := σ) (c := c) (wo := wo) (Ws := Ws) (sumF (fun d => ltT (vs i) t (vTi (vs i) t 0) (FF (vs i) t 1 (vTi (vs i) t 0) (fz0 (vs i)) c wo Ws d)) n - sumF (fun d => ltT (vs i) t (vTi (vs i) t 0) (FF (vs i) t 0 (vTi (vs i) t 0) (fz0 (vs i)) c wo Ws d)) n) hi hi5 ?_ ?_
      · unfold jTc_seen
        rw [hbC, hs]
        refine wp_in (by decide) (wp_in (by decide) ?_)
        refine wp_bd ((lateLook_wp (l := 1) hb0 hn (by omega)).mono ?_)
        rintro ⟨r1, N1⟩ ⟨v1, b1⟩
        have v1 : r1 = _ := v1
        refine wp_bd ((lateLook_wp (l := 0) b1 hn (by omega)).mono ?_)
        rintro ⟨r2, N2⟩ ⟨v2, b2⟩
        have v2 : r2 = _ := v2
        subst v1 v2
        exact wp_some ⟨rfl, b2⟩
      · intro M1 h1
        unfold jMd_seen
        refine wp_in (by rw [h1.2.1.2.2]; decide) ?_
        rw [← seeds_eq, hs]
        refine wp_in (by decide) ?_
        refine wp_lt ?_
        rintro _ rfl
        rw [h1.2.1.1.2.2.2.2.2.2.2.1]
        refine wp_bd ((mPut h1.2.1 h1.2.2.2.1).mono ?_)
        intro N0 m0
        refine wp_bd ((mB_over (w := 2) (p := 0) ((mB_set m0).2.2.2 1 (by omega)) hn (by omega) (fun h => absurd h (by decide)) (fz0_M _ hv)).mono ?_)
        rintro ⟨r1, N1⟩ ⟨v1, m1⟩
        have v1 : r1 = _ := v1
        refine wp_bd ((mB_over (w := 2) (p := 0) ((mB_set m1).2.2.2 0 (by omega)) hn (by omega) (fun h => absurd h (by decide)) (fz0_M _ hv)).mono ?_)
        rintro ⟨r2, N2⟩ ⟨v2, m2⟩
        have v2 : r2 = _ := v2
        refine wp_u2 ?_
        subst v1 v2
        exact mFin ((mB_set m2).2.2.2 lk hC.1.2.2.2.2.2.1)
