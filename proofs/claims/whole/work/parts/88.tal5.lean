/-! ===== promises 16 to 18, 21, 36, 40 over seeds (written by wip/gen/tal2.py) ===== -/
theorem sumF_S (f : Nat → Int32) (n : Nat) : sumF f (n + 1) = sumF f n + f n := rfl
theorem sumF_add (f g : Nat → Int32) (n : Nat) : sumF (fun i => f i + g i) n = sumF f n + sumF g n := by
  induction n with
  | zero => rfl
  | succ n ih =>
    rw [sumF_S, sumF_S, sumF_S, ih, Int32.add_assoc, Int32.add_assoc]
    congr 1
    rw [← Int32.add_assoc, ← Int32.add_assoc, Int32.add_comm (sumF g n)]
theorem sumF_0 (n : Nat) : sumF (fun _ => 0) n = 0 := by
  induction n with
  | zero => rfl
  | succ n ih => rw [sumF_S, ih]; rfl
theorem sumF_ex (cd : Nat → Prop) [DecidablePred cd] (g : Nat → Nat → Int32) (n P : Nat) : sumF (fun p => if cd p then sumF (g p) n else 0) P = sumF (fun d => sumF (fun p => if cd p then g p d else 0) P) n := by
  induction P with
  | zero => exact (sumF_0 n).symm
  | succ P ih =>
    rw [sumF_S, ih]
    have e : sumF (fun d => sumF (fun p => if cd p then g p d else 0) (P + 1)) n = sumF (fun d => sumF (fun p => if cd p then g p d else 0) P + (if cd P then g P d else 0)) n := rfl
    rw [e, sumF_add]
    congr 1
    by_cases hc : cd P
    · simp only [if_pos hc]
    · simp only [if_neg hc]
      exact (sumF_0 n).symm
theorem sumF_cnt (A : Nat → Bool) (n : Nat) : sumF (fun d => b2i (A d)) n = nI (cnt A n) := by
  induction n with
  | zero => rfl
  | succ n ih =>
    rw [sumF_S, ih, cnt_S]
    cases A n with
    | false => exact nI_add _ 0
    | true => exact nI_add _ 1
theorem cnt_al (A : Nat → Bool) (n : Nat) : cnt A n = n ↔ alB A n = true := by
  induction n with
  | zero => exact ⟨fun _ => rfl, fun _ => rfl⟩
  | succ n ih =>
    have hle := cnt_le A n
    rw [cnt_S]
    simp only [alB]
    cases hA : A n with
    | false =>
      rw [if_neg (by decide), Bool.and_false]
      exact ⟨fun h => by omega, fun h => by cases h⟩
    | true =>
      rw [if_pos rfl, Bool.and_true, ← ih]
      omega
theorem mGains_wp {vs : Nat → vT} {M N : qM} {i t lk n s : Nat} {σ : mS} {c : Nat} {wo : Nat → Nat} {Ws : Nat → wW} {nth : Nat} {fo st : Int32} {fz : Nat → Bool} (h : mB vs M N i t lk σ c wo Ws lk nth fo st) (hn : n ≤ 40) (hs : s < 20) (hf : fzM (vs i) fz fo st) :
    wp (jMd_gainsOf (nI s) (nI n) N) (fun r => r.1 = sumF (fun d => sumF (fun p => if vof (vs i) p = s then iI (gnS (vs i) t nth (FF (vs i) t lk nth fz c wo Ws d) p) else 0) (vP (vs i))) n ∧ mB vs M r.2 i t lk σ c wo Ws lk nth fo st) := by
  have hv := h.1.1.1
  have h20 := hv.2.2.1
  have hs6 := hv.2.1
  generalize hFF : FF (vs i) t lk nth fz c wo Ws = F
  unfold jMd_gainsOf
  refine wp_bd (wp_for (fun d x => x.1 = sumF (fun d => sumF (fun p => if vof (vs i) p = s then iI (gnS (vs i) t nth (F d) p) else 0) (vP (vs i))) d ∧ x.2.1 = nI d ∧ mB vs M x.2.2 i t lk σ c wo Ws lk nth fo st) n ⟨rfl, rfl, h⟩ ?_ ?_)
  · rintro d ⟨x, y, N⟩ hd ⟨a1, a2, a3⟩
    have a1' : x = sumF (fun d => sumF (fun p => if vof (vs i) p = s then iI (gnS (vs i) t nth (F d) p) else 0) (vP (vs i))) d := a1
    have a2 : y = nI d := a2
    subst a2
    have a3 : mB vs M N i t lk σ c wo Ws lk nth fo st := a3
    show wp (qu3 _ _) _
    unfold qu3
    refine wp_in (nI_ge hd (by omega)) ?_
    rw [nI_l (by omega)]
    refine wp_bd ((mWhole_wp (lN d) a3.1 a3.2.2.2.1 hf).mono ?_)
    rintro N1 ⟨g1, g2⟩
    have a4 := mB_mm a3 g2
    have g1 : mmD N1 (vs i) (F d) := by rw [← hFF]; exact g1
    refine wp_bd ?_
    refine (wp_for (Q := fun r => r = x + sumF (fun p => if vof (vs i) p = s then iI (gnS (vs i) t nth (F d) p) else 0) (vP (vs i))) (fun q z => z.1 = x + sumF (fun p => if vof (vs i) p = s then iI (gnS (vs i) t nth (F d) p) else 0) q ∧ z.2 = nI q) (vP (vs i)) ⟨(Int32.add_zero x).symm, rfl⟩ ?_ ?_).mono ?_
    · rintro q ⟨z1, z2⟩ hq ⟨k1, k2⟩
      have k1' : z1 = x + sumF (fun p => if vof (vs i) p = s then iI (gnS (vs i) t nth (F d) p) else 0) q := k1
      have k2 : z2 = nI q := k2
      subst k2
      have hvo := (vof_spec hq).1
      refine wp_u2 ?_
      refine wp_be (many_eq a4.1) ?_
      refine wp_in (nI_ge hq (by omega)) ?_
      rw [a4.1.2.2.2.2.2.1]
      refine wp_be (sortOf_eq a4.1.1 a4.1.2.1 hq) ?_
      have hx : wp (if nI (vof (vs i) q) = nI s then (jMd_gain (nI q) N1).bind fun r18 => some r18 else some 0) (fun r => r = if vof (vs i) q = s then iI (gnS (vs i) t nth (F d) q) else 0) := by
        refine wp_if (fun hc => ?_) (fun hc => ?_) <;> rw [nI_eq (by omega) (by omega)] at hc
        · exact wp_be (gainM_eq a4.1 g1 hq) (wp_some (by rw [if_pos hc]))
        · exact wp_some (by rw [if_neg hc])
      refine wp_bd (hx.mono ?_)
      intro r hr
      refine wp_some ⟨?_, nI_1 q⟩
      show z1 + r = _
      rw [k1', hr, sumF_S, Int32.add_assoc]
    · rintro ⟨z1, z2⟩ ⟨k1, k2⟩
      have k2 : z2 = nI (vP (vs i)) := k2
      subst k2
      refine wp_u2 ?_
      refine wp_be (many_eq a4.1) ?_
      exact wp_ip (nI_le (Nat.le_refl _) (by omega)) (wp_some k1)
    · intro r hr
      refine wp_some ⟨?_, nI_1 d, a4⟩
      show r = _
      rw [hr, a1']
      rfl
  · rintro ⟨x, y, N⟩ ⟨a1, a2, a3⟩
    have a2 : y = nI n := a2
    subst a2
    show wp (qu3 _ _) _
    unfold qu3
    exact wp_ip (nI_le (Nat.le_refl _) (by omega)) (wp_some (wp_some ⟨a1, a3⟩))
def whF (f : Nat → Int32) : Nat → Int32 × Nat
  | 0 => (f 1, 1)
  | j + 1 => if (whF f j).1 ≤ f (j + 2) then whF f j else (f (j + 2), j + 2)
theorem whF_b (f : Nat → Int32) (j : Nat) : 1 ≤ (whF f j).2 ∧ (whF f j).2 ≤ j + 1 := by
  induction j with
  | zero => exact ⟨Nat.le_refl _, Nat.le_refl _⟩
  | succ j ih =>
    simp only [whF]
    split
    · omega
    · show 1 ≤ j + 2 ∧ j + 2 ≤ j + 1 + 1
      omega
theorem p_gains {M : qM} {m : Nat} {vs : Nat → vT} {c : Nat} {wo : Nat → Nat} {Ws : Nat → wW} (h : rMK m vs M) (hcC : cuC M c wo Ws) (hcM : cuM M c wo Ws) (a e : Int32) : bth (rMK m vs) sYC sYM (jTc_gains a e) (jMd_gains a e) M := by
  rcases h with ⟨⟨h1, h2, h3⟩ | ⟨i, t, lk, σ, hi, hi5, hC, hM⟩, hK⟩
  · refine ⟨-1000000, M, M, ?_, ?_, ⟨Or.inl ⟨h1, h2, h3⟩, hK⟩, fr_rf _ _, fr_rf _ _⟩
    · unfold jTc_gains; rw [isSoC_N h1]; rfl
    · unfold jMd_gains; rw [isSoM_N h2]; rfl
  · have hR : rMK m vs M := ⟨Or.inr ⟨i, t, lk, σ, hi, hi5, hC, hM⟩, hK⟩
    have hv := hC.1.1.1
    have h20 := hv.2.2.1
    have hs6 := hv.2.1
    have hT := hv.2.2.2.1 t hC.1.2.2.2.1
    have hb0 : cB vs m M M i t lk σ c wo Ws := ⟨hC, hM, hcC, hcM, hK, fr_rf _ _⟩
    have hbM : ¬ M.1 91 33 = 0 := by rw [hM.2.2]; decide
    cases hz : jTc_isOf a (nI (vSn (vs i))) with
    | false =>
      refine ⟨-1000000, M, M, ?_, ?_, hR, fr_rf _ _, fr_rf _ _⟩
      · unfold jTc_gains; rw [isSoC_eq hC, hz]; rfl
      · unfold jMd_gains; rw [isSoM_eq hM, hz]; rfl
    | true =>
      cases hs : jTc_isSeeds e with
      | false =>
        refine ⟨-1000000, M, M, ?_, ?_, hR, fr_rf _ _, fr_rf _ _⟩
        · unfold jTc_gains; rw [isSoC_eq hC, hz, hs]; rfl
        · unfold jMd_gains; rw [isSoM_eq hM, hz, ← seeds_eq, hs]; rfl
      | true =>
        obtain ⟨s, hsn, rfl⟩ := isOf_of (by omega) hz
        obtain ⟨n, hn1, hn, rfl⟩ := seeds_n hs
        refine tal_mk (t := t) (lk := lk) (σ := σ) (c := c) (wo := wo) (Ws := Ws) (sumF (fun d => sumF (fun p => if vof (vs i) p = s then iI (gnS (vs i) t (vTi (vs i) t 0) (FF (vs i) t lk (vTi (vs i) t 0) (fz0 (vs i)) c wo Ws d) p) else 0) (vP (vs i))) n) hi hi5 ?_ ?_
        · have e1 := isSoC_eq hC (nI s)
          rw [hz] at e1
          unfold jTc_gains
          refine wp_be e1 (wp_in (by decide) ?_)
          rw [hs]
          refine wp_in (by decide) ?_
          refine wp_bd ((plain_wp hb0 hn).mono ?_)
          rintro N1 ⟨b1, t1, s1⟩
          refine wp_be (gainsC_eq s1 t1 (by omega)) (wp_some ⟨?_, b1⟩)
          exact sumF_ex (fun p => vof (vs i) p = s) (fun p d => iI (gnS (vs i) t (vTi (vs i) t 0) (FF (vs i) t lk (vTi (vs i) t 0) (fz0 (vs i)) c wo Ws d) p)) n (vP (vs i))
        · intro M1 h1
          have e1 := isSoM_eq h1.2.1 (nI s)
          rw [hz] at e1
          unfold jMd_gains
          refine wp_be e1 (wp_in (by decide) ?_)
          rw [← seeds_eq, hs]
          refine wp_in (by decide) ?_
          refine wp_bd ((mPut h1.2.1 h1.2.2.2.1).mono ?_)
          intro N0 m0
          refine wp_bd ((mGains_wp (s := s) m0 hn (by omega) (fz0_M _ hv)).mono ?_)
          rintro ⟨r1, N1⟩ ⟨v1, m1⟩
          have v1 : r1 = _ := v1
          subst v1
          exact mFin m1
theorem p_strangers {M : qM} {m : Nat} {vs : Nat → vT} {c : Nat} {wo : Nat → Nat} {Ws : Nat → wW} (h : rMK m vs M) (hcC : cuC M c wo Ws) (hcM : cuM M c wo Ws) (a e : Int32) : bth (rMK m vs) sYC sYM (jTc_strangers a e) (jMd_strangers a e) M := by
  rcases h with ⟨⟨h1, h2, h3⟩ | ⟨i, t, lk, σ, hi, hi5, hC, hM⟩, hK⟩
  · refine ⟨-1000000, M, M, ?_, ?_, ⟨Or.inl ⟨h1, h2, h3⟩, hK⟩, fr_rf _ _, fr_rf _ _⟩
    · unfold jTc_strangers; rw [isSoC_N h1]; rfl
    · unfold jMd_strangers; rw [if_pos h2]
  · have hR : rMK m vs M := ⟨Or.inr ⟨i, t, lk, σ, hi, hi5, hC, hM⟩, hK⟩
    have hv := hC.1.1.1
    have h20 := hv.2.2.1
    have hs6 := hv.2.1
    have hT := hv.2.2.2.1 t hC.1.2.2.2.1
    have hb0 : cB vs m M M i t lk σ c wo Ws := ⟨hC, hM, hcC, hcM, hK, fr_rf _ _⟩
    have hbM : ¬ M.1 91 33 = 0 := by rw [hM.2.2]; decide
    cases hz : jTc_isOf a (nI (vSn (vs i))) with
    | false =>
      refine ⟨-1000000, M, M, ?_, ?_, hR, fr_rf _ _, fr_rf _ _⟩
      · unfold jTc_strangers; rw [isSoC_eq hC, hz]; rfl
      · unfold jMd_strangers; rw [if_neg hbM, hM.1.2.2.2.2.2.1, qrI_nI hM.1.2.1 (by omega), hM.1.1.2.2.1]; simp only [Option.bind_some]; rw [← isOf_Z a (show vSn (vs i) < 1000000 by omega), hz]; rfl
    | true =>
      cases hs : jTc_isSeeds e with
      | false =>
        refine ⟨-1000000, M, M, ?_, ?_, hR, fr_rf _ _, fr_rf _ _⟩
        · unfold jTc_strangers; rw [isSoC_eq hC, hz, hs]; rfl
        · unfold jMd_strangers; rw [if_neg hbM, hM.1.2.2.2.2.2.1, qrI_nI hM.1.2.1 (by omega), hM.1.1.2.2.1]; simp only [Option.bind_some]; rw [← isOf_Z a (show vSn (vs i) < 1000000 by omega), hz, ← seeds_eq, hs]; rfl
      | true =>
        obtain ⟨s, hsn, rfl⟩ := isOf_of (by omega) hz
        obtain ⟨n, hn1, hn, rfl⟩ := seeds_n hs
        refine tal_mk (t := t) (lk := lk) (σ := σ) (c := c) (wo := wo) (Ws := Ws) (sumF (fun d => ltT (vs i) t (vTi (vs i) t 0) (FF (vs i) t lk (vTi (vs i) t 0) (fzT (vs i) s) c wo Ws d)) n - sumF (fun d => ltT (vs i) t (vTi (vs i) t 0) (FF (vs i) t lk (vTi (vs i) t 0) (fz0 (vs i)) c wo Ws d)) n) hi hi5 ?_ ?_
        · have e1 := isSoC_eq hC (nI s)
          rw [hz] at e1
          unfold jTc_strangers
          refine wp_be e1 (wp_in (by decide) ?_)
          rw [hs]
          refine wp_in (by decide) ?_
          refine wp_bd ((plain_wp hb0 hn).mono ?_)
          rintro N1 ⟨b1, t1, s1⟩
          refine wp_be (late_eq hn hv hT.1.1 hT.2.1.1 t1) ?_
          have s2 := (set_moS (j := 6) (x := nI s) s1).2.1 rfl
          have f2 : fr sYC N1 (qI N1 42 6 (nI s)) := fr_I (by unfold sYC; omega)
          have b2 := cB_up b1 f2
          refine wp_bd ((run_wp hn s2 b2.2.2.1 (fzT_C hv hsn)).mono ?_)
          rintro N2 ⟨k1, k2, k3⟩
          refine wp_be (late_eq hn hv hT.1.1 hT.2.1.1 k1) (wp_some ⟨rfl, cB_up b2 (sTa_Y k3)⟩)
        · intro M1 h1
          have e1 : qrI M1 103 5 (M1.1 91 27) = some (nI (vSn (vs i))) := by rw [h1.2.1.1.2.2.2.2.2.1, qrI_nI h1.2.1.1.2.1 (by omega), h1.2.1.1.1.2.2.1]
          unfold jMd_strangers
          refine wp_in (by rw [h1.2.1.2.2]; decide) (wp_be e1 ?_)
          rw [← isOf_Z (nI s) (show vSn (vs i) < 1000000 by omega), hz, ← seeds_eq, hs]
          refine wp_in (by decide) (wp_in (by decide) ?_)
          refine wp_bd ((mPut h1.2.1 h1.2.2.2.1).mono ?_)
          intro N0 m0
          refine wp_bd ((mB_over (w := 2) (p := 0) m0 hn (by omega) (fun h => absurd h (by decide)) (fz0_M _ hv)).mono ?_)
          rintro ⟨r1, N1⟩ ⟨v1, m1⟩
          have v1 : r1 = _ := v1
          refine wp_bd ((mB_over (w := 2) (p := 0) ((mB_set m1).2.1 _) hn (by omega) (fun h => absurd h (by decide)) (fzT_M hv hsn)).mono ?_)
          rintro ⟨r2, N2⟩ ⟨v2, m2⟩
          have v2 : r2 = _ := v2
          refine wp_u2 ?_
          subst v1 v2
          exact mFin m2
theorem p_ends {M : qM} {m : Nat} {vs : Nat → vT} {c : Nat} {wo : Nat → Nat} {Ws : Nat → wW} (h : rMK m vs M) (hcC : cuC M c wo Ws) (hcM : cuM M c wo Ws) (a e : Int32) : bth (rMK m vs) sYC sYM (jTc_ends a e) (jMd_ends a e) M := by
  rcases h with ⟨⟨h1, h2, h3⟩ | ⟨i, t, lk, σ, hi, hi5, hC, hM⟩, hK⟩
  · refine ⟨-1, M, M, ?_, ?_, ⟨Or.inl ⟨h1, h2, h3⟩, hK⟩, fr_rf _ _, fr_rf _ _⟩
    · unfold jTc_ends; rw [mbeg_f h1]; rfl
    · unfold jMd_ends; rw [if_pos h2]
  · have hR : rMK m vs M := ⟨Or.inr ⟨i, t, lk, σ, hi, hi5, hC, hM⟩, hK⟩
    have hv := hC.1.1.1
    have h20 := hv.2.2.1
    have hs6 := hv.2.1
    have hT := hv.2.2.2.1 t hC.1.2.2.2.1
    have hb0 : cB vs m M M i t lk σ c wo Ws := ⟨hC, hM, hcC, hcM, hK, fr_rf _ _⟩
    have hbC := mbeg_t hC.1.2.2.2.2.2.2.1
    have hbM : ¬ M.1 91 33 = 0 := by rw [hM.2.2]; decide
    cases hs : jTc_isSeeds e with
    | false =>
      refine ⟨-1, M, M, ?_, ?_, hR, fr_rf _ _, fr_rf _ _⟩
      · unfold jTc_ends; rw [hbC, hs]; rfl
      · unfold jMd_ends; rw [if_neg hbM, ← seeds_eq, hs]; rfl
    | true =>
      cases hm : jMd_in a (-1) 60 with
      | false =>
        refine ⟨-1, M, M, ?_, ?_, hR, fr_rf _ _, fr_rf _ _⟩
        · unfold jTc_ends; rw [hbC, hs, isMin_eq, hm]; rfl
        · unfold jMd_ends; rw [if_neg hbM, ← seeds_eq, hs, hm]; rfl
      | true =>
        obtain ⟨n, hn1, hn, rfl⟩ := seeds_n hs
        refine tal_mk (t := t) (lk := lk) (σ := σ) (c := c) (wo := wo) (Ws := Ws) (sumF (fun d => b2i (decide (iI (lmS (vs i) t (vTi (vs i) t 0) (FF (vs i) t lk (vTi (vs i) t 0) (fz0 (vs i)) c wo Ws d)) = a))) n) hi hi5 ?_ ?_
        · unfold jTc_ends
          rw [hbC, hs, isMin_eq, hm]
          refine wp_in (by decide) (wp_in (by decide) (wp_in (by decide) ?_))
          refine wp_bd ((plain_wp hb0 hn).mono ?_)
          rintro N1 ⟨b1, t1, s1⟩
          exact wp_be (endsIn_eq hn t1) (wp_some ⟨rfl, b1⟩)
        · intro M1 h1
          unfold jMd_ends
          refine wp_in (by rw [h1.2.1.2.2]; decide) ?_
          rw [← seeds_eq, hs, hm]
          refine wp_in (by decide) (wp_in (by decide) ?_)
          refine wp_bd ((mPut h1.2.1 h1.2.2.2.1).mono ?_)
          intro N0 m0
          generalize hFF : FF (vs i) t lk (vTi (vs i) t 0) (fz0 (vs i)) c wo Ws = F
          refine wp_bd (wp_for (fun d s => s.1 = sumF (fun d => b2i (decide (iI (lmS (vs i) t (vTi (vs i) t 0) (F d)) = a))) d ∧ s.2.1 = nI d ∧ mB vs M1 s.2.2 i t lk σ c wo Ws lk (vTi (vs i) t 0) 0 (-1)) n ⟨rfl, rfl, m0⟩ ?_ ?_)
          · rintro d ⟨x, y, N⟩ hd ⟨a1, a2, a3⟩
            have a1 : x = _ := a1
            have a2 : y = nI d := a2
            subst a1 a2
            have a3 : mB vs M1 N i t lk σ c wo Ws lk (vTi (vs i) t 0) 0 (-1) := a3
            show wp (qu3 _ _) _
            unfold qu3
            refine wp_in (nI_ge hd (by omega)) ?_
            rw [nI_l (by omega)]
            refine wp_bd ((mWhole_wp (lN d) a3.1 a3.2.2.2.1 (fz0_M _ hv)).mono ?_)
            rintro N1 ⟨g1, g2⟩
            have a4 := mB_mm a3 g2
            have g1 : mmD N1 (vs i) (F d) := by rw [← hFF]; exact g1
            refine wp_be (fullAt_eq a4.1 g1) ?_
            refine wp_some ⟨?_, nI_1 d, a4⟩
            show _ + b2i (if iI (lmS (vs i) t (vTi (vs i) t 0) (F d)) = a then true else false) = _
            rw [sumF_S]
            by_cases hc : iI (lmS (vs i) t (vTi (vs i) t 0) (F d)) = a
            · rw [if_pos hc, decide_eq_true hc]
            · rw [if_neg hc, decide_eq_false hc]
          · rintro ⟨x, y, N⟩ ⟨a1, a2, a3⟩
            have a1 : x = _ := a1
            have a2 : y = nI n := a2
            subst a1 a2
            show wp (qu3 _ _) _
            unfold qu3
            exact wp_ip (nI_le (Nat.le_refl _) (by omega)) (wp_some (mFin a3))
theorem p_which {M : qM} {m : Nat} {vs : Nat → vT} {c : Nat} {wo : Nat → Nat} {Ws : Nat → wW} (h : rMK m vs M) (hcC : cuC M c wo Ws) (hcM : cuM M c wo Ws) (e : Int32) : bth (rMK m vs) sYC sYM (jTc_which e) (jMd_which e) M := by
  rcases h with ⟨⟨h1, h2, h3⟩ | ⟨i, t, lk, σ, hi, hi5, hC, hM⟩, hK⟩
  · refine ⟨-1, M, M, ?_, ?_, ⟨Or.inl ⟨h1, h2, h3⟩, hK⟩, fr_rf _ _, fr_rf _ _⟩
    · unfold jTc_which; rw [mbeg_f h1]; rfl
    · unfold jMd_which; rw [if_pos h2]
  · have hR : rMK m vs M := ⟨Or.inr ⟨i, t, lk, σ, hi, hi5, hC, hM⟩, hK⟩
    have hv := hC.1.1.1
    have h20 := hv.2.2.1
    have hs6 := hv.2.1
    have hT := hv.2.2.2.1 t hC.1.2.2.2.1
    have hb0 : cB vs m M M i t lk σ c wo Ws := ⟨hC, hM, hcC, hcM, hK, fr_rf _ _⟩
    have hbC := mbeg_t hC.1.2.2.2.2.2.2.1
    have hbM : ¬ M.1 91 33 = 0 := by rw [hM.2.2]; decide
    cases hs : jTc_isSeeds e with
    | false =>
      refine ⟨-1, M, M, ?_, ?_, hR, fr_rf _ _, fr_rf _ _⟩
      · unfold jTc_which; rw [hbC, hs]; rfl
      · unfold jMd_which; rw [if_neg hbM, ← seeds_eq, hs]; rfl
    | true =>
      obtain ⟨n, hn1, hn, rfl⟩ := seeds_n hs
      refine tal_mk (t := t) (lk := lk) (σ := σ) (c := c) (wo := wo) (Ws := Ws) (nI (whF (fun k => sumF (fun d => ltT (vs i) t k (FF (vs i) t lk k (fz0 (vs i)) c wo Ws d)) n) 8).2) hi hi5 ?_ ?_
      · unfold jTc_which
        rw [hbC, hs]
        refine wp_in (by decide) (wp_in (by decide) ?_)
        refine wp_bd ((lateBy_wp (k := 1) hb0 hn (by omega)).mono ?_)
        rintro ⟨r1, N1⟩ ⟨v1, b1, _⟩
        have v1 : r1 = (fun k => sumF (fun d => ltT (vs i) t k (FF (vs i) t lk k (fz0 (vs i)) c wo Ws d)) n) 1 := v1
        refine wp_u2 ?_
        have hlb : ∀ (k : Nat) (N : qM), 1 ≤ k ∧ k ≤ 9 → cB vs m M N i t lk σ c wo Ws → wp (jTc_lateBy (nI k) (nI n) N) (fun r => r.1 = (fun k => sumF (fun d => ltT (vs i) t k (FF (vs i) t lk k (fz0 (vs i)) c wo Ws d)) n) k ∧ cB vs m M r.2 i t lk σ c wo Ws) := fun k N hk hb => (lateBy_wp hb hn hk).mono (fun r h => ⟨h.1, h.2.1⟩)
        generalize (fun k => sumF (fun d => ltT (vs i) t k (FF (vs i) t lk k (fz0 (vs i)) c wo Ws d)) n) = f at *
        refine wp_bd (wp_for (fun j s => s.1 = (whF f j).1 ∧ s.2.1 = nI (whF f j).2 ∧ s.2.2.1 = nI (j + 2) ∧ cB vs m M s.2.2.2 i t lk σ c wo Ws) 8 ⟨v1, rfl, rfl, b1⟩ ?_ ?_)
        · rintro j ⟨x, y, z, N⟩ hj ⟨a1, a2, a3, a4⟩
          have a1 : x = (whF f j).1 := a1
          have a2 : y = nI (whF f j).2 := a2
          have a3 : z = nI (j + 2) := a3
          subst a1 a2 a3
          show wp (qu4 _ _) _
          unfold qu4
          refine wp_in (nI_nlt (a := 9) (b := j + 2) (by omega) (by omega)) ?_
          refine wp_bd ((hlb (j + 2) N (by omega) a4).mono ?_)
          rintro ⟨r2, N2⟩ ⟨v2, b2⟩
          have v2 : r2 = f (j + 2) := v2
          subst v2
          refine wp_u2 ?_
          refine wp_lt ?_
          intro w hw
          have hw' : w = ((whF f (j + 1)).1, nI (whF f (j + 1)).2) := by
            rw [hw]
            simp only [whF]
            split <;> rfl
          rw [hw']
          exact wp_some ⟨rfl, rfl, nI_1 (j + 2), b2⟩
        · rintro ⟨x, y, z, N⟩ ⟨a1, a2, a3, a4⟩
          have a3 : z = nI 10 := a3
          subst a3
          show wp (qu4 _ _) _
          unfold qu4
          exact wp_ip (by show (9 : Int32) < nI 10; decide) (wp_some (wp_some ⟨a2, a4⟩))
      · intro M1 h1
        unfold jMd_which
        refine wp_in (by rw [h1.2.1.2.2]; decide) ?_
        rw [← seeds_eq, hs]
        refine wp_in (by decide) ?_
        refine wp_bd ((mPut h1.2.1 h1.2.2.2.1).mono ?_)
        intro N0 m0
        have hov : ∀ (k k0 : Nat) (N : qM), 1 ≤ k ∧ k ≤ 9 → mB vs M1 N i t lk σ c wo Ws lk k0 0 (-1) → wp (jMd_over (nI n) (-1) 2 (qI N 91 32 (nI k))) (fun r => r.1 = (fun k => sumF (fun d => ltT (vs i) t k (FF (vs i) t lk k (fz0 (vs i)) c wo Ws d)) n) k ∧ mB vs M1 r.2 i t lk σ c wo Ws lk k 0 (-1)) := fun k k0 N hk hb => mB_over (w := 2) (p := 0) ((mB_set hb).2.2.1 k hk) hn (by omega) (fun h => absurd h (by decide)) (fz0_M _ hv)
        generalize (fun k => sumF (fun d => ltT (vs i) t k (FF (vs i) t lk k (fz0 (vs i)) c wo Ws d)) n) = f at *
        refine wp_bd (wp_for (fun j s => (j = 0 → s.1 = -1) ∧ (∀ j', j = j' + 1 → s.1 = nI (whF f j').2 ∧ s.2.1 = (whF f j').1) ∧ s.2.2.1 = nI (j + 1) ∧ ∃ k0, mB vs M1 s.2.2.2 i t lk σ c wo Ws lk k0 0 (-1)) 9 ⟨fun _ => rfl, fun j' h => by omega, rfl, _, m0⟩ ?_ ?_)
        · rintro j ⟨x, y, z, N⟩ hj ⟨a1, a2, a3, k0, a4⟩
          have a1 : j = 0 → x = -1 := a1
          have a2 : ∀ j', j = j' + 1 → x = nI (whF f j').2 ∧ y = (whF f j').1 := a2
          have a3 : z = nI (j + 1) := a3
          subst a3
          show wp (qu4 _ _) _
          unfold qu4
          refine wp_in (nI_nlt (a := 9) (b := j + 1) (by omega) (by omega)) ?_
          refine wp_bd ((hov (j + 1) k0 N (by omega) a4).mono ?_)
          rintro ⟨r2, N2⟩ ⟨v2, b2⟩
          have v2 : r2 = f (j + 1) := v2
          subst v2
          refine wp_u2 ?_
          refine wp_lt ?_
          intro w hw
          have hw' : w = (nI (whF f j).2, (whF f j).1) := by
            rw [hw]
            cases j with
            | zero => rw [a1 rfl]; rfl
            | succ j' =>
              have hb := whF_b f j'
              obtain ⟨c1, c2⟩ := a2 j' rfl
              rw [c1, c2, if_neg (nI_m1 (by omega))]
              simp only [whF]
              split <;> rfl
          rw [hw']
          exact wp_some ⟨fun h => by omega, fun j' h => by rw [show j' = j by omega]; exact ⟨rfl, rfl⟩, nI_1 (j + 1), _, b2⟩
        · rintro ⟨x, y, z, N⟩ ⟨a1, a2, a3, k0, a4⟩
          have a2' : x = nI (whF f 8).2 ∧ y = (whF f 8).1 := a2 8 rfl
          have a3 : z = nI 10 := a3
          subst a3
          show wp (qu4 _ _) _
          unfold qu4
          refine wp_ip (by show (9 : Int32) < nI 10; decide) (wp_some ?_)
          show wp (qu2 _ _) _
          refine wp_u2 ?_
          show wp ((jMd_takeBack N).bind fun M9 => some (x, M9)) _
          rw [a2'.1]
          exact mFin a4
theorem p_quiet {M : qM} {m : Nat} {vs : Nat → vT} {c : Nat} {wo : Nat → Nat} {Ws : Nat → wW} (h : rMK m vs M) (hcC : cuC M c wo Ws) (hcM : cuM M c wo Ws) (e : Int32) : bth (rMK m vs) sYC sYM (jTc_quiet e) (jMd_quiet e) M := by
  rcases h with ⟨⟨h1, h2, h3⟩ | ⟨i, t, lk, σ, hi, hi5, hC, hM⟩, hK⟩
  · refine ⟨-1, M, M, ?_, ?_, ⟨Or.inl ⟨h1, h2, h3⟩, hK⟩, fr_rf _ _, fr_rf _ _⟩
    · unfold jTc_quiet; rw [mbeg_f h1]; rfl
    · unfold jMd_quiet; rw [if_pos h2]
  · have hR : rMK m vs M := ⟨Or.inr ⟨i, t, lk, σ, hi, hi5, hC, hM⟩, hK⟩
    have hv := hC.1.1.1
    have h20 := hv.2.2.1
    have hs6 := hv.2.1
    have hT := hv.2.2.2.1 t hC.1.2.2.2.1
    have hb0 : cB vs m M M i t lk σ c wo Ws := ⟨hC, hM, hcC, hcM, hK, fr_rf _ _⟩
    have hbC := mbeg_t hC.1.2.2.2.2.2.2.1
    have hbM : ¬ M.1 91 33 = 0 := by rw [hM.2.2]; decide
    cases hs : jTc_isSeeds e with
    | false =>
      refine ⟨-1, M, M, ?_, ?_, hR, fr_rf _ _, fr_rf _ _⟩
      · unfold jTc_quiet; rw [hbC, hs]; rfl
      · unfold jMd_quiet; rw [if_neg hbM, ← seeds_eq, hs]; rfl
    | true =>
      obtain ⟨n, hn1, hn, rfl⟩ := seeds_n hs
      refine tal_mk (t := t) (lk := lk) (σ := σ) (c := c) (wo := wo) (Ws := Ws) (ilB (fun j => alB (fun d => aaS (vs i) (FF (vs i) t lk (j + 1) (fz0 (vs i)) c wo Ws d)) n) 9) hi hi5 ?_ ?_
      · unfold jTc_quiet
        rw [hbC, hs]
        refine wp_in (by decide) (wp_in (by decide) ?_)
        have hlb : ∀ (j : Nat) (N : qM), j < 9 → cB vs m M N i t lk σ c wo Ws → wp (jTc_lateBy (nI (j + 1)) (nI n) N) (fun r => r.2.1 41 5 = b2i ((fun j => alB (fun d => aaS (vs i) (FF (vs i) t lk (j + 1) (fz0 (vs i)) c wo Ws d)) n) j) ∧ cB vs m M r.2 i t lk σ c wo Ws) := fun j N hj hb => (lateBy_wp hb hn (by omega)).mono (fun r h => ⟨h.2.2.2.1, h.2.1⟩)
        generalize (fun j => alB (fun d => aaS (vs i) (FF (vs i) t lk (j + 1) (fz0 (vs i)) c wo Ws d)) n) = f at *
        refine wp_bd (wp_for (fun j s => s.1 = ilB f j ∧ s.2.1 = nI (j + 1) ∧ cB vs m M s.2.2 i t lk σ c wo Ws) 9 ⟨rfl, rfl, hb0⟩ ?_ ?_)
        · rintro j ⟨x, z, N⟩ hj ⟨a1, a3, a4⟩
          have a1 : x = ilB f j := a1
          have a3 : z = nI (j + 1) := a3
          subst a1 a3
          show wp (qu3 _ _) _
          unfold qu3
          refine wp_in (nI_nlt (a := 9) (b := j + 1) (by omega) (by omega)) ?_
          refine wp_bd ((hlb j N (by omega) a4).mono ?_)
          rintro ⟨r2, N2⟩ ⟨v2, b2⟩
          have v2 : N2.1 41 5 = b2i (f j) := v2
          refine wp_u2 ?_
          refine wp_some ⟨?_, nI_1 (j + 1), b2⟩
          show (if N2.1 41 5 = 0 then ilB f j else ilB f j ||| 1 <<< ((nI (j + 1) - 1) &&& 31)) = ilB f (j + 1)
          rw [v2, show nI (j + 1) - 1 = nI j from nI_pred j]
          simp only [ilB]
          cases f j with
          | false => rw [if_pos (by decide), if_neg (by decide)]
          | true => rw [if_neg (by decide), if_pos rfl]
        · rintro ⟨x, z, N⟩ ⟨a1, a3, a4⟩
          have a3 : z = nI 10 := a3
          subst a3
          show wp (qu3 _ _) _
          unfold qu3
          exact wp_ip (by show (9 : Int32) < nI 10; decide) (wp_some (wp_some ⟨a1, a4⟩))
      · intro M1 h1
        unfold jMd_quiet
        refine wp_in (by rw [h1.2.1.2.2]; decide) ?_
        rw [← seeds_eq, hs]
        refine wp_in (by decide) ?_
        refine wp_bd ((mPut h1.2.1 h1.2.2.2.1).mono ?_)
        intro N0 m0
        have hov : ∀ (j k0 : Nat) (N : qM), j < 9 → mB vs M1 N i t lk σ c wo Ws lk k0 0 (-1) → wp (jMd_over (nI n) (-1) 3 (qI N 91 32 (nI (j + 1)))) (fun r => (r.1 = nI n ↔ (fun j => alB (fun d => aaS (vs i) (FF (vs i) t lk (j + 1) (fz0 (vs i)) c wo Ws d)) n) j = true) ∧ mB vs M1 r.2 i t lk σ c wo Ws lk (j + 1) 0 (-1)) := by
          intro j k0 N hj hb
          refine (mB_over (w := 3) (p := 0) ((mB_set hb).2.2.1 (j + 1) (by omega)) hn (by omega) (fun h => absurd h (by decide)) (fz0_M _ hv)).mono ?_
          rintro r ⟨v1, m1⟩
          refine ⟨?_, m1⟩
          have v1 : r.1 = sumF (fun d => b2i (aaS (vs i) (FF (vs i) t lk (j + 1) (fz0 (vs i)) c wo Ws d))) n := v1
          have hle := cnt_le (fun d => aaS (vs i) (FF (vs i) t lk (j + 1) (fz0 (vs i)) c wo Ws d)) n
          rw [v1, sumF_cnt (fun d => aaS (vs i) (FF (vs i) t lk (j + 1) (fz0 (vs i)) c wo Ws d)), nI_eq (by omega) (by omega)]
          exact cnt_al _ n
        generalize (fun j => alB (fun d => aaS (vs i) (FF (vs i) t lk (j + 1) (fz0 (vs i)) c wo Ws d)) n) = f at *
        refine wp_bd (wp_for (fun j s => s.1 = ilB f j ∧ s.2.1 = nI (j + 1) ∧ ∃ k0, mB vs M1 s.2.2 i t lk σ c wo Ws lk k0 0 (-1)) 9 ⟨rfl, rfl, _, m0⟩ ?_ ?_)
        · rintro j ⟨x, z, N⟩ hj ⟨a1, a3, k0, a4⟩
          have a1 : x = ilB f j := a1
          have a3 : z = nI (j + 1) := a3
          subst a1 a3
          show wp (qu3 _ _) _
          unfold qu3
          refine wp_in (nI_nlt (a := 9) (b := j + 1) (by omega) (by omega)) ?_
          refine wp_bd ((hov j k0 N (by omega) a4).mono ?_)
          rintro ⟨r2, N2⟩ ⟨v2, b2⟩
          have v2 : r2 = nI n ↔ f j = true := v2
          refine wp_u2 ?_
          refine wp_some ⟨?_, nI_1 (j + 1), _, b2⟩
          show ilB f j ||| (if r2 = nI n then 1 <<< ((nI (j + 1) - 1) &&& 31) else (0 : Int32)) = ilB f (j + 1)
          rw [show nI (j + 1) - 1 = nI j from nI_pred j]
          simp only [ilB]
          by_cases hc : r2 = nI n
          · rw [if_pos hc, if_pos (v2.mp hc)]
          · rw [if_neg hc, if_neg (fun e => hc (v2.mpr e))]
            simp
        · rintro ⟨x, z, N⟩ ⟨a1, a3, k0, a4⟩
          have a1 : x = ilB f 9 := a1
          have a3 : z = nI 10 := a3
          subst a1 a3
          show wp (qu3 _ _) _
          unfold qu3
          refine wp_ip (by show (9 : Int32) < nI 10; decide) (wp_some ?_)
          exact mFin a4
theorem p_law {M : qM} {m : Nat} {vs : Nat → vT} {c : Nat} {wo : Nat → Nat} {Ws : Nat → wW} (h : rMK m vs M) (hcC : cuC M c wo Ws) (hcM : cuM M c wo Ws) (a e : Int32) : bth (rMK m vs) sYC sYM (jTc_law a e) (jMd_law a e) M := by
  rcases h with ⟨⟨h1, h2, h3⟩ | ⟨i, t, lk, σ, hi, hi5, hC, hM⟩, hK⟩
  · refine ⟨-1, M, M, ?_, ?_, ⟨Or.inl ⟨h1, h2, h3⟩, hK⟩, fr_rf _ _, fr_rf _ _⟩
    · unfold jTc_law; rw [mbeg_f h1]; rfl
    · unfold jMd_law; rw [if_pos h2]; rfl
  · have hR : rMK m vs M := ⟨Or.inr ⟨i, t, lk, σ, hi, hi5, hC, hM⟩, hK⟩
    have hv := hC.1.1.1
    have h20 := hv.2.2.1
    have hs6 := hv.2.1
    have hT := hv.2.2.2.1 t hC.1.2.2.2.1
    have hb0 : cB vs m M M i t lk σ c wo Ws := ⟨hC, hM, hcC, hcM, hK, fr_rf _ _⟩
    have hbC := mbeg_t hC.1.2.2.2.2.2.2.1
    have hbM : ¬ M.1 91 33 = 0 := by rw [hM.2.2]; decide
    have e1 : (1 : Int32).toInt = 1 := rfl
    have e9 : (9 : Int32).toInt = 9 := rfl
    cases hs : jTc_isSeeds e with
    | false =>
      refine ⟨-1, M, M, ?_, ?_, hR, fr_rf _ _, fr_rf _ _⟩
      · unfold jTc_law; rw [hbC, hs]; rfl
      · unfold jMd_law; rw [if_neg hbM, ← seeds_eq, hs]; rfl
    | true =>
      obtain ⟨n, hn1, hn, rfl⟩ := seeds_n hs
      have core : ∀ k, (1 ≤ k ∧ k ≤ 9) → (if a = -1 then nI (vTi (vs i) t 0) else a) = nI k → (a = -1 ∨ jMd_in a 1 9 = true) → bth (rMK m vs) sYC sYM (jTc_law a (nI n)) (jMd_law a (nI n)) M := by
        intro k hk hka hag
        refine tal_mk (t := t) (lk := lk) (σ := σ) (c := c) (wo := wo) (Ws := Ws) (sumF (fun d => ltT (vs i) t (k) (FF (vs i) t lk (k) (fz0 (vs i)) c wo Ws d)) n) hi hi5 ?_ ?_
        · unfold jTc_law
          rw [hbC, hs, hC.1.2.2.2.2.2.2.2.2.2.1]
          refine wp_in (by decide) (wp_in (by decide) ?_)
          have fin : wp ((jTc_lateBy (nI k) (nI n) M).bind fun w2 => qu2 w2 fun r3 M4 => some (r3, M4)) (fun r => r.1 = sumF (fun d => ltT (vs i) t (k) (FF (vs i) t lk (k) (fz0 (vs i)) c wo Ws d)) n ∧ cB vs m M r.2 i t lk σ c wo Ws) := by
            refine wp_bd ((lateBy_wp hb0 hn hk).mono ?_)
            rintro ⟨r1, N1⟩ ⟨v1, b1, _⟩
            exact wp_some ⟨v1, b1⟩
          simp only [qlt]
          rw [hka]
          refine wp_if (fun ha => fin) (fun ha => ?_)
          have hin := hag.resolve_left ha
          rw [in_iff] at hin
          refine wp_in (by rw [i_lt]; omega) (wp_ip (by rw [i_le]; omega) fin)
        · intro M1 h1
          unfold jMd_law
          refine wp_lt ?_
          intro z hz
          have hz' : z = false := by
            rw [hz, if_neg (by rw [h1.2.1.2.2]; decide), ← seeds_eq, hs, if_neg (by decide)]
            by_cases ha : a = -1
            · rw [if_pos ha]
            · rw [if_neg ha, hag.resolve_left ha]
              rfl
          rw [hz']
          refine wp_in (by decide) ?_
          refine wp_bd ((mPut h1.2.1 h1.2.2.2.1).mono ?_)
          intro N0 m0
          simp only [qlt]
          rw [m0.1.2.2.2.2.2.2.2.2.1, hka]
          refine wp_bd ((mB_over (w := 2) (p := 0) ((mB_set m0).2.2.1 k hk) hn (by omega) (fun h => absurd h (by decide)) (fz0_M _ hv)).mono ?_)
          rintro ⟨r1, N1⟩ ⟨v1, m1⟩
          have v1 : r1 = _ := v1
          subst v1
          exact mFin m1
      by_cases ha : a = -1
      · exact core (vTi (vs i) t 0) hT.1 (by rw [if_pos ha]) (Or.inl ha)
      · cases hin : jMd_in a 1 9 with
        | true =>
          have hin' := hin
          rw [in_iff] at hin'
          refine core a.toInt.toNat (by omega) ?_ (Or.inr hin)
          rw [if_neg ha, ← iI_nat (show 0 ≤ a.toInt by omega)]
          exact iI_of a
        | false =>
          refine ⟨-1, M, M, ?_, ?_, hR, fr_rf _ _, fr_rf _ _⟩
          · unfold jTc_law
            rw [hbC, hs, if_neg (show ¬ b2i true = 0 by decide), if_neg (show ¬ b2i true = 0 by decide), if_neg ha]
            by_cases c1 : a < 1
            · rw [if_pos c1]
            · rw [if_neg c1, if_neg]
              intro c2
              have : jMd_in a 1 9 = true := by
                rw [in_iff]
                rw [i_lt] at c1
                rw [i_le] at c2
                omega
              rw [hin] at this
              cases this
          · unfold jMd_law
            rw [if_neg hbM, ← seeds_eq, hs, if_neg (show ¬ b2i true = 0 by decide), if_neg ha, hin]
            rfl
