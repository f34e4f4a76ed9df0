theorem mmD_snd {M : qM} {v : vT} {τ : mS} {p : Nat} (h : mmD M v τ) (hv : vOK v) (hp : p < vP v) (hw : sW τ p = -1) : mmD (qI M 108 p (nI (sMi τ))) v (sndW τ p) := by
  have h20 := hv.2.2.1
  obtain ⟨d1, d2, d3, d4, d5, d6⟩ := h
  have hr := wait_r d6 (show p < 20 by omega) hw
  refine ⟨d1, ?_, ?_, ?_, fun q hq => ⟨?_, ?_, ?_⟩, sndW_inv d6 (by omega) hw⟩
  · rw [qI_1, if_neg (by omega)]; exact d2
  · rw [qI_1, if_neg (by omega)]; exact d3
  · rw [qI_1, if_neg (by omega)]; exact d4
  · rw [qI_1]
    show _ = iI (upI (sW τ) p (sMi τ) q)
    unfold upI
    by_cases hqp : q = p
    · rw [if_pos ⟨rfl, hqp⟩, if_pos hqp, nI_iI]
    · rw [if_neg (fun e => hqp e.2), if_neg hqp]; exact (d5 q hq).1
  · rw [qI_1, if_neg (by omega), sndW_cin hr]; exact (d5 q hq).2.1
  · rw [qI_1, if_neg (by omega)]; exact (d5 q hq).2.2
theorem mmD_ov {M : qM} {v : vT} {σ : mS} (h : mmD M v σ) (b : Bool) : mmD (qI M 91 34 (b2i b)) v (setOv σ b) := by
  obtain ⟨d1, d2, d3, d4, d5, d6⟩ := h
  refine ⟨d1, ?_, ?_, ?_, fun q hq => ?_, d6⟩
  · rw [qI_1, if_neg (by omega)]; exact d2
  · rw [qI_1, if_neg (by omega)]; exact d3
  · rw [qI_1, if_pos ⟨rfl, rfl⟩]; rfl
  · rw [qI_1, if_neg (by omega), qI_1, if_neg (by omega), qI_1, if_neg (by omega)]; exact d5 q hq
theorem setOv_id {σ : mS} {b : Bool} (h : sOv σ = b) : setOv σ b = σ := by
  rw [← h]
  rfl
theorem minuteOnce_wp {M : qM} {i : Nat} {v : vT} {t lk nth : Nat} {fo st : Int32} {σ : mS} {fz : Nat → Bool} {c : Nat} {wo : Nat → Nat} {Ws : Nat → wW} (hS : mmS M i v t lk nth fo st) (hD : mmD M v σ) (hcu : cuM M c wo Ws) (hf : fzM v fz fo st) (ho : sOv σ = false) (hm : sMi σ ≤ 60) :
    wp (jMd_minuteOnce M) (fun r => r.1 = (pas1 v t lk nth fz (vlS c wo Ws) σ).1 ∧ mmD r.2 v (pas1 v t lk nth fz (vlS c wo Ws) σ).2 ∧ fr sMm M r.2) := by
  have hv := hS.1.1
  have h20 := hv.2.2.1
  have hi5 := hS.2.1
  have hpl := (hv.2.2.2.1 t hS.2.2.1).2.1
  unfold jMd_minuteOnce
  refine wp_bd (wp_for (fun q s => s.1 = nI q ∧ mmD s.2 v (arrN v σ q) ∧ fr sMm M s.2) (vP v) ⟨rfl, hD, fr_rf _ _⟩ ?_ ?_)
  · rintro q ⟨x, N⟩ hq ⟨e1, e2, e3⟩
    have e1 : x = nI q := e1
    subst e1
    have e2 : mmD N v (arrN v σ q) := e2
    have e3 : fr sMm M N := e3
    have hSN := mmS_fr hS e3
    have hiN := e2.2.2.2.2.2
    have hi1 := hiN.1 q (by omega)
    have hmi := hiN.2.2.2.2
    have hvd := vdi_le hv hq
    have hvo := (vof_spec hq).1
    refine wp_u2 ?_
    refine wp_be (many_eq hSN) ?_
    refine wp_in (nI_ge hq (by omega)) ?_
    refine wp_be (isOnWay_eq e2 hv hq) ?_
    refine wp_bd ?_
    refine wp_if (fun c1 => ?_) (fun c1 => ?_) <;> rw [b2i_0, decide_eq_false_iff_not] at c1
    · refine wp_some (wp_some ⟨nI_1 q, ?_, e3⟩)
      show mmD N v (arr1 v (arrN v σ q) q)
      unfold arr1
      rw [if_neg (fun e => c1 ⟨e.1, e.2.1⟩)]
      exact e2
    · have c1 : sW (arrN v σ q) q ≠ -1 ∧ sR (arrN v σ q) q = -1 := Decidable.not_not.mp c1
      have q35 : qrI N 108 20 (nI q) = some (iI (sW (arrN v σ q) q)) := by rw [qrI_nI (by omega) (by omega), (e2.2.2.2.2.1 q (by omega)).1]
      refine wp_be q35 ?_
      rw [hSN.2.2.2.2.2.1]
      refine wp_be (sortOf_eq hSN.1 hi5 hq) ?_
      refine wp_be (sortAt_eq (w := 1) hSN.1 hi5 hvo (by decide)) ?_
      rw [e2.2.1, nI_iI, iI_add, nI_iI]
      refine wp_if (fun c3 => ?_) (fun c3 => ?_) <;> rw [iI_eq (by unfold vdi at hvd; omega) (by unfold vdi at hvd; omega) (by omega) (by omega)] at c3
      · refine wp_bd ((comes_wp e2 hv hq c1.2 (by omega) c3).mono ?_)
        rintro N1 ⟨g1, g2⟩
        refine wp_some (wp_some ⟨nI_1 q, ?_, e3.tr g2⟩)
        show mmD N1 v (arr1 v (arrN v σ q) q)
        unfold arr1
        rw [if_pos ⟨c1.1, c1.2, c3⟩]
        exact g1
      · refine wp_some (wp_some ⟨nI_1 q, ?_, e3⟩)
        show mmD N v (arr1 v (arrN v σ q) q)
        unfold arr1
        rw [if_neg (fun e => c3 e.2.2)]
        exact e2
  · rintro ⟨x, N⟩ ⟨e1, e2, e3⟩
    have e1 : x = nI (vP v) := e1
    subst e1
    have e2 : mmD N v (arrN v σ (vP v)) := e2
    have e3 : fr sMm M N := e3
    have hSN := mmS_fr hS e3
    have hcN := sMm_cu hcu e3
    have has := arrN_s v σ (vP v)
    refine wp_u2 ?_
    refine wp_be (many_eq hSN) ?_
    refine wp_ip (nI_le (Nat.le_refl _) (by omega)) (wp_some ?_)
    show wp _ _
    have hpd : pas1 v t lk nth fz (vlS c wo Ws) σ = if vTi v t 1 ≤ hadF (vTi v t 1) nth (sCa (arrN v σ (vP v))) ∨ vP v ≤ sCa (arrN v σ (vP v)) then (false, setOv (arrN v σ (vP v)) true) else (true, nxM (decN v t lk nth fz (vlS c wo Ws) (arrN v σ (vP v)) (vP v))) := rfl
    generalize arrN v σ (vP v) = τ at *
    have hoτ : sOv τ = false := by rw [has.2.2.2]; exact ho
    have hca := sCa_le e2.2.2.2.2.2
    have hw3 := w3 e2.2.2.2.2.2 hv
    have hhad : hadF (vTi v t 1) nth (sCa τ) ≤ vTi v t 1 := by unfold hadF; omega
    refine wp_be (had_eq hSN e2) ?_
    refine wp_be (places_eq hSN) ?_
    have hz7 : wp (if nI (hadF (vTi v t 1) nth (sCa τ)) = nI (vTi v t 1) then some true else (jMd_waiting (-1) (-1) N).bind fun r29 => (jMd_onWay N).bind fun r30 => if r29 + r30 = 0 then some true else some false) (fun z => z = decide (vTi v t 1 ≤ hadF (vTi v t 1) nth (sCa τ) ∨ vP v ≤ sCa τ)) := by
      refine wp_if (fun hc => ?_) (fun hc => ?_) <;> rw [nI_eq (by omega) (by omega)] at hc
      · exact wp_some (decide_eq_true (Or.inl (by omega))).symm
      · refine wp_be (wait_all hSN e2) (wp_be (onWay_eq hSN e2) ?_)
        rw [nI_add]
        refine wp_if (fun hd => ?_) (fun hd => ?_)
        · have hd := (nI_eq (b := 0) (by omega) (by omega)).mp hd
          exact wp_some (decide_eq_true (Or.inr (by omega))).symm
        · have hd : ¬ wtn v τ + onw v τ = 0 := fun e => hd (by rw [e]; rfl)
          exact wp_some (decide_eq_false (by omega)).symm
    refine wp_bd (hz7.mono ?_)
    intro z hz
    refine wp_lt ?_
    rintro _ rfl
    have e8 : (qI N 91 34 (b2i z)).1 91 34 = b2i z := by rw [qI_1, if_pos ⟨rfl, rfl⟩]
    have f8 : fr sMm M (qI N 91 34 (b2i z)) := e3.tr (fr_I (by simp [sMm]))
    rw [e8]
    by_cases hc : vTi v t 1 ≤ hadF (vTi v t 1) nth (sCa τ) ∨ vP v ≤ sCa τ
    · rw [if_pos hc] at hpd
      rw [decide_eq_true hc] at hz
      subst hz
      rw [hpd]
      exact wp_in (by decide) (wp_some ⟨rfl, mmD_ov e2 true, f8⟩)
    · rw [if_neg hc] at hpd
      rw [decide_eq_false hc] at hz
      subst hz
      rw [hpd]
      refine wp_ip (by decide) ?_
      have e2' : mmD (qI N 91 34 (b2i false)) v τ := by
        have := mmD_ov e2 false
        rwa [setOv_id hoτ] at this
      have hS8 := mmS_fr hS f8
      have hc8 := sMm_cu hcu f8
      generalize qI N 91 34 (b2i false) = N8 at *
      refine wp_bd (wp_for (fun q s => s.1 = nI q ∧ mmD s.2 v (decN v t lk nth fz (vlS c wo Ws) τ q) ∧ fr sMm M s.2) (vP v) ⟨rfl, e2', f8⟩ ?_ ?_)
      · rintro q ⟨x, N⟩ hq ⟨e1, e2, e3⟩
        have e1 : x = nI q := e1
        subst e1
        have e2 : mmD N v (decN v t lk nth fz (vlS c wo Ws) τ q) := e2
        have e3 : fr sMm M N := e3
        have hSN := mmS_fr hS e3
        have hcN := sMm_cu hcu e3
        have hvo := (vof_spec hq).1
        have hvd := vdi_le hv hq
        have hd1 : decN v t lk nth fz (vlS c wo Ws) τ (q + 1) = dec1 v t lk nth fz (vlS c wo Ws) (decN v t lk nth fz (vlS c wo Ws) τ q) q := rfl
        generalize decN v t lk nth fz (vlS c wo Ws) τ q = ρ at *
        have hhρ : hadF (vTi v t 1) nth (sCa ρ) ≤ vTi v t 1 := by unfold hadF; omega
        refine wp_u2 ?_
        refine wp_be (many_eq hSN) ?_
        refine wp_in (nI_ge hq (by omega)) ?_
        refine wp_be (isWait_eq e2 (show q < 20 by omega)) ?_
        refine wp_bd ?_
        have fin : ∀ N', mmD N' v (dec1 v t lk nth fz (vlS c wo Ws) ρ q) → fr sMm M N' → nI q + 1 = nI (q + 1) ∧ mmD N' v (decN v t lk nth fz (vlS c wo Ws) τ (q + 1)) ∧ fr sMm M N' := by
          intro N' h1 h2
          rw [hd1]
          exact ⟨nI_1 q, h1, h2⟩
        refine wp_if (fun hw => ?_) (fun hw => ?_) <;> rw [b2i_0, decide_eq_false_iff_not] at hw
        · refine wp_some (wp_some (fin N ?_ e3))
          unfold dec1
          rw [if_neg (fun e => hw e.1)]
          exact e2
        · have hw : sW ρ q = -1 := Decidable.not_not.mp hw
          refine wp_be (had_eq hSN e2) ?_
          refine wp_be (places_eq hSN) ?_
          refine wp_if (fun hh => ?_) (fun hh => ?_)
          · have hh := (nI_leI (by omega) (by omega)).mp hh
            refine wp_some (wp_some (fin N ?_ e3))
            unfold dec1
            rw [if_neg (by omega)]
            exact e2
          · have hh : hadF (vTi v t 1) nth (sCa ρ) < vTi v t 1 := by
              rcases Nat.lt_or_ge (hadF (vTi v t 1) nth (sCa ρ)) (vTi v t 1) with h1 | h1
              · exact h1
              · exact absurd (nI_le h1 (by omega)) hh
            refine wp_bd ((goesNow_wp hSN e2 hcN hf hq hw).mono ?_)
            rintro ⟨g, N1⟩ ⟨k1, k2, k3⟩
            have k1 : g = (goS v t lk nth fz (vlS c wo Ws) ρ q).1 := k1
            have k2 : mmD N1 v (goS v t lk nth fz (vlS c wo Ws) ρ q).2 := k2
            have k3 : fr sMm N N1 := k3
            have hgs := goS_s v t lk nth fz (vlS c wo Ws) ρ q
            have hdd : dec1 v t lk nth fz (vlS c wo Ws) ρ q = if (goS v t lk nth fz (vlS c wo Ws) ρ q).1 = true then snd1 v (goS v t lk nth fz (vlS c wo Ws) ρ q).2 q else (goS v t lk nth fz (vlS c wo Ws) ρ q).2 := by
              unfold dec1
              rw [if_pos ⟨hw, hh⟩]
            rw [← k1] at hdd
            have hwκ : sW (goS v t lk nth fz (vlS c wo Ws) ρ q).2 q = -1 := by rw [hgs.1]; exact hw
            generalize (goS v t lk nth fz (vlS c wo Ws) ρ q).2 = κ at *
            have hSN1 := mmS_fr hSN k3
            refine wp_u2 ?_
            refine wp_if (fun hg => ?_) (fun hg => ?_) <;> rw [b2i_0] at hg
            · rw [hg, if_neg (by decide)] at hdd
              exact wp_some (wp_some (fin N1 (by rw [hdd]; exact k2) (e3.tr k3)))
            · have hg : g = true := by simpa using hg
              rw [hg, if_pos rfl] at hdd
              rw [k2.2.1]
              refine wp_bd (wp_wI rfl (show q < 20 by omega) (by omega) ?_)
              have m1 := mmD_snd k2 hv hq hwκ
              have f1 : fr sMm N1 (qI N1 108 q (nI (sMi κ))) := fr_I (by simp [sMm])
              have hSN2 := mmS_fr hSN1 f1
              rw [hSN2.2.2.2.2.2.1]
              refine wp_be (sortOf_eq hSN2.1 hi5 hq) ?_
              refine wp_be (sortAt_eq (w := 1) hSN2.1 hi5 hvo (by decide)) ?_
              have hr := wait_r k2.2.2.2.2.2 (show q < 20 by omega) hwκ
              have hself : sW (sndW κ q) q = sMi κ := by
                show upI (sW κ) q (sMi κ) q = _
                simp [upI]
              unfold vdi at hvd
              refine wp_if (fun hz => ?_) (fun hz => ?_)
              · have hz : vdi v q = 0 := by unfold vdi; exact (nI_eq (b := 0) (by omega) (by omega)).mp hz
                refine wp_bd ((comes_wp m1 hv hq hr (by rw [hself]; omega) (by rw [hself, hz]; show (sMi κ : Int) + 0 = sMi κ; omega)).mono ?_)
                rintro N2 ⟨j1, j2⟩
                refine wp_some (wp_some (fin N2 ?_ (((e3.tr k3).tr f1).tr j2)))
                rw [hdd]
                unfold snd1
                rw [if_pos hz]
                exact j1
              · refine wp_some (wp_some (fin _ ?_ ((e3.tr k3).tr f1)))
                rw [hdd]
                unfold snd1
                rw [if_neg (fun e => hz (by unfold vdi at e; rw [e]; rfl))]
                exact m1
      · rintro ⟨x, N⟩ ⟨e1, e2, e3⟩
        have e1 : x = nI (vP v) := e1
        subst e1
        have e2 : mmD N v (decN v t lk nth fz (vlS c wo Ws) τ (vP v)) := e2
        have e3 : fr sMm M N := e3
        have hSN := mmS_fr hS e3
        have hds := decN_s v t lk nth fz (vlS c wo Ws) τ (vP v)
        generalize decN v t lk nth fz (vlS c wo Ws) τ (vP v) = ρ at *
        have hmρ : sMi ρ ≤ 60 := by rw [hds.2.1, has.2.1]; exact hm
        refine wp_u2 ?_
        refine wp_be (many_eq hSN) ?_
        refine wp_ip (nI_le (Nat.le_refl _) (by omega)) (wp_some ?_)
        show wp _ _
        have e8 : N.1 91 30 + 1 = nI (sMi ρ + 1) := by rw [e2.2.1, nI_1]
        simp only [qlt]
        rw [e8, show (qI N 91 30 (nI (sMi ρ + 1))).1 91 30 = nI (sMi ρ + 1) by rw [qI_1, if_pos ⟨rfl, rfl⟩], le60 (by omega)]
        refine wp_some ⟨rfl, ?_, e3.tr ((fr_I (by simp [sMm])).tr (fr_I (by simp [sMm])))⟩
        obtain ⟨d1, d2, d3, d4, d5, d6⟩ := e2
        refine ⟨d1, ?_, ?_, ?_, fun q hq => ?_, nxM_inv d6 hmρ⟩
        · rw [qI_1, if_neg (by omega), qI_1, if_pos ⟨rfl, rfl⟩]; rfl
        · rw [qI_1, if_neg (by omega), qI_1, if_neg (by omega)]; exact d3
        · rw [qI_1, if_pos ⟨rfl, rfl⟩]; rfl
        · rw [qI_1, if_neg (by omega), qI_1, if_neg (by omega), qI_1, if_neg (by omega), qI_1, if_neg (by omega), qI_1, if_neg (by omega), qI_1, if_neg (by omega)]; exact d5 q hq
