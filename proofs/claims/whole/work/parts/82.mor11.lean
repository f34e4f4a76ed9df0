theorem sMo_X {M M1 : qM} {k : Nat} (hk : mok k) (g : fr (sMo k) M M1) : fr sXC M M1 := g.mono (fun b j h => by unfold sMo mok at *; unfold sXC; omega)
theorem sMm_X {M M1 : qM} (g : fr sMm M M1) : fr sXM M M1 := g.mono (fun b j h => by unfold sMm at h; unfold sXM; omega)
theorem p_start {M : qM} {n : Nat} {vs : Nat → vT} (hC : rVsC M n vs) (hM : rVsM M n vs) (h : rMK n vs M) (a b c : Int32) (d : Int64) : bth (rMK n vs) sXC sXM (jTc_start a b c d) (jMd_start a b c d) M := by
  have h4 := hC.1
  have e : jTc_isOf c 2 = jMd_in c 0 1 := isOf_in rfl rfl
  rcases isThing_2 hC hM a b with ⟨i, t, hi, ht, rfl, rfl, e1, e2⟩ | ⟨e1, e2⟩
  · cases hz : jTc_isOf c 2 with
    | false =>
      refine ⟨false, M, M, ?_, ?_, h, fr_rf _ _, fr_rf _ _⟩
      · unfold jTc_start; rw [e1, hz]; rfl
      · unfold jMd_start; rw [e2, ← e, hz]; rfl
    | true =>
      obtain ⟨lk, hlk, rfl⟩ := isOf_of (T := 2) (by decide) hz
      have hk : mok 33 := Or.inl rfl
      have h36 : M.1 91 36 = 0 ∧ M.1 91 37 = -1 := by
        rcases h.1 with ⟨_, _, h1, h2⟩ | ⟨_, _, _, _, _, _, _, hx⟩
        · exact ⟨h1, h2⟩
        · exact ⟨hx.1.2.2.2.2.2.2.2.2.2.1, hx.1.2.2.2.2.2.2.2.2.2.2⟩
      refine bth_mk (P := fun M1 => moR M1 33 i (vs i) t lk (begS d) ∧ rKe n vs M1) true ?_ ?_
      · unfold jTc_start
        rw [e1, hz]
        refine wp_bd (wp_some (wp_in (by decide) (wp_in (by decide) ?_)))
        refine wp_be (qix_nI (show i < 5 by omega) (by omega)) ?_
        refine wp_bd ((beOf_wp hk (hC.2.2 i hi) (by omega) (by omega) ht hlk).mono ?_)
        rintro M1 ⟨g1, g2⟩
        refine wp_bd ((begin_wp d hk g1).mono ?_)
        rintro M2 ⟨g3, g4⟩
        refine wp_some ⟨rfl, ⟨⟨moS_fr hk g1 g4, g3, begS_Z d⟩, ?_⟩, (g2.mono (fun b j hb => by unfold sXC; omega)).tr (sMo_X hk g4)⟩
        exact rKe_off (S := fun b j => b = 33 ∧ j < 7 ∨ sMo 33 b j) h.2 ((g2.mono (fun b j hb => Or.inl hb)).tr (g4.mono (fun b j hb => Or.inr hb))) (fun b j h1 h2 => by unfold sMo; omega) (fun b j h1 h2 => by unfold sMo; omega) (fun j => by unfold sMo; omega) (fun j h1 h2 => by unfold sMo; omega) (Or.inl (by rw [(g4 91 33 (by unfold sMo; omega)).1, (g2 91 33 (by omega)).1]))
      · rintro M1 ⟨hC1, hK1⟩ g
        have hM1 := rVsM_fr hM g (fun b j h1 h2 => by unfold sXC; omega) (by simp [sXC])
        have hC1' := rVsC_fr hC g (fun b j h1 h2 => by unfold sXC; omega) (by simp [sXC])
        have e2' : jMd_isThing (nI i) (nI t) M1 = some true := by
          rcases isThing_2 hC1' hM1 (nI i) (nI t) with ⟨_, _, _, _, _, _, _, e⟩ | ⟨e, _⟩
          · exact e
          · have hq : jTc_isThing (nI i) (nI t) M1 = jTc_isThing (nI i) (nI t) M := by
              unfold jTc_isThing jTc_isVillage
              rw [hC1'.2.1, hC.2.1, qix_nI (show i < 5 by omega) (by omega)]
              simp only [Option.bind_some, (hC1'.2.2 i hi).2.1, (hC.2.2 i hi).2.1]
            rw [hq, e1] at e
            cases e
        have hT := (hC.2.2 i hi).1.2.2.2.1 t ht
        unfold jMd_start
        rw [e2', ← e, hz]
        refine wp_bd (wp_some (wp_in (by decide) (wp_in (by decide) ?_)))
        simp only [qlt]
        have f3 : fr (fun b j => b = 91 ∧ 27 ≤ j ∧ j ≤ 29) M1 (qI (qI (qI M1 91 27 (nI i)) 91 28 (nI t)) 91 29 (nI lk)) := ((fr_I ⟨rfl, by omega, by omega⟩).tr (fr_I ⟨rfl, by omega, by omega⟩)).tr (fr_I ⟨rfl, by omega, by omega⟩)
        have hV := rVM_fr (hM1.2.2 i hi) f3 (fun b j _ _ => by omega)
        refine wp_be (thingAt_eq (w := 0) hV (by omega) ht (by decide)) ?_
        have f7 : fr (fun b j => b = 91 ∧ (27 ≤ j ∧ j ≤ 29 ∨ j = 32 ∨ j = 33)) M1 (qI (qI (qI (qI (qI M1 91 27 (nI i)) 91 28 (nI t)) 91 29 (nI lk)) 91 32 (nI (vTi (vs i) t 0))) 91 33 1) := ((f3.mono (fun b j hb => by omega)).tr (fr_I ⟨rfl, by omega⟩)).tr (fr_I ⟨rfl, by omega⟩)
        have hV7 := rVM_fr (hM1.2.2 i hi) f7 (fun b j _ _ => by omega)
        have hs7 : mmS (qI (qI (qI (qI (qI M1 91 27 (nI i)) 91 28 (nI t)) 91 29 (nI lk)) 91 32 (nI (vTi (vs i) t 0))) 91 33 1) i (vs i) t lk (vTi (vs i) t 0) 0 (-1) := by
          refine ⟨hV7, by omega, ht, hT.1, hlk, ?_, ?_, ?_, ?_, ?_, ?_⟩
          · simp [qI_1]
          · simp [qI_1]
          · simp [qI_1]
          · simp [qI_1]
          · rw [(f7 91 36 (by omega)).1, (g 91 36 (by simp [sXC])).1]; exact h36.1
          · rw [(f7 91 37 (by omega)).1, (g 91 37 (by simp [sXC])).1]; exact h36.2
        have h33 : (qI (qI (qI (qI (qI M1 91 27 (nI i)) 91 28 (nI t)) 91 29 (nI lk)) 91 32 (nI (vTi (vs i) t 0))) 91 33 1).1 91 33 = 1 := by simp [qI_1]
        generalize qI (qI (qI (qI (qI M1 91 27 (nI i)) 91 28 (nI t)) 91 29 (nI lk)) 91 32 (nI (vTi (vs i) t 0))) 91 33 1 = N at *
        refine wp_bd ((mBegin_wp (vs i) d).mono ?_)
        rintro N1 ⟨g1, g2⟩
        have fM : fr sXM M1 N1 := (f7.mono (fun b j hb => by unfold sXM; omega)).tr (sMm_X g2)
        have h33' : N1.1 91 33 = 1 := by rw [(g2 91 33 (by simp [sMm])).1]; exact h33
        refine wp_some ⟨rfl, ⟨Or.inr ⟨i, t, lk, begS d, hi, by omega, moR_off hC1 fM (fun b j _ _ => by unfold sXM; omega) (fun b j _ _ => by unfold sXM; omega), mmS_fr hs7 g2, g1, h33'⟩, ?_⟩, fM⟩
        refine rKe_off (S := fun b j => (b = 91 ∧ (27 ≤ j ∧ j ≤ 29 ∨ j = 32 ∨ j = 33)) ∨ sMm b j) hK1 ((f7.mono (fun b j hb => Or.inl hb)).tr (g2.mono (fun b j hb => Or.inr hb))) (fun b j h1 h2 => by unfold sMm; omega) (fun b j h1 h2 => by unfold sMm; omega) (fun j => by unfold sMm; omega) (fun j h1 h2 => by unfold sMm; omega) (Or.inr h33')
  · refine ⟨false, M, M, ?_, ?_, h, fr_rf _ _, fr_rf _ _⟩
    · unfold jTc_start; rw [e1]; rfl
    · unfold jMd_start; rw [e2]; rfl
theorem min_in (a : Int32) : jMd_in a 1 61 = true → ∃ m, 1 ≤ m ∧ m ≤ 61 ∧ a = nI m := by
  intro h
  rw [in_iff] at h
  have e1 : (1 : Int32).toInt = 1 := rfl
  have e61 : (61 : Int32).toInt = 61 := rfl
  refine ⟨a.toInt.toNat, by omega, by omega, ?_⟩
  rw [← iI_nat (show 0 ≤ a.toInt by omega)]
  exact iI_of a
theorem pasN_le {v : vT} {t lk nth : Nat} {fz : Nat → Bool} {vl : Nat → (Nat → Int32) → Int32} {σ : mS} (m : Nat) : (pasN v t lk nth fz vl σ m).1 ≤ m := by
  induction m with
  | zero => exact Nat.le_refl _
  | succ m ih =>
    simp only [pasN]
    split
    · omega
    · show (pasN v t lk nth fz vl σ m).1 + _ ≤ m + 1
      split <;> omega
theorem mMinutes_wp {M : qM} {i : Nat} {v : vT} {t lk nth m : Nat} {fo st : Int32} {σ : mS} {fz : Nat → Bool} {c : Nat} {wo : Nat → Nat} {Ws : Nat → wW} (hS : mmS M i v t lk nth fo st) (hD : mmD M v σ) (hcu : cuM M c wo Ws) (hf : fzM v fz fo st) (hz : mZ v t nth fz σ) (hb : M.1 91 33 = 1) (hm1 : 1 ≤ m) (hm : m ≤ 61) :
    wp (jMd_minutes (nI m) M) (fun r => r.1 = nI (pasN v t lk nth fz (vlS c wo Ws) σ m).1 ∧ mmD r.2 v (pasN v t lk nth fz (vlS c wo Ws) σ m).2 ∧ fr sMm M r.2) := by
  have hin : jMd_in (nI m) 1 61 = true := by
    rw [in_iff, nI_toInt (by omega)]
    have e1 : (1 : Int32).toInt = 1 := rfl
    have e61 : (61 : Int32).toInt = 61 := rfl
    omega
  unfold jMd_minutes
  refine wp_in (by rw [hb]; decide) ?_
  rw [hin]
  refine wp_in (by decide) ?_
  refine wp_bd (wp_for (fun q s => s.1 = nI (pasN v t lk nth fz (vlS c wo Ws) σ q).1 ∧ mmD s.2 v (pasN v t lk nth fz (vlS c wo Ws) σ q).2 ∧ fr sMm M s.2) m ⟨rfl, hD, fr_rf _ _⟩ ?_ ?_)
  · rintro q ⟨x, N⟩ hq ⟨e1, e2, e3⟩
    have e1 : x = nI (pasN v t lk nth fz (vlS c wo Ws) σ q).1 := e1
    subst e1
    have e2 : mmD N v (pasN v t lk nth fz (vlS c wo Ws) σ q).2 := e2
    have e3 : fr sMm M N := e3
    have hle := pasN_le (v := v) (t := t) (lk := lk) (nth := nth) (fz := fz) (vl := vlS c wo Ws) (σ := σ) q
    have hzq := pasN_Z (lk := lk) (vl := vlS c wo Ws) hz q
    have hS1 : pasN v t lk nth fz (vlS c wo Ws) σ (q + 1) = if sOv (pasN v t lk nth fz (vlS c wo Ws) σ q).2 = true then pasN v t lk nth fz (vlS c wo Ws) σ q else ((pasN v t lk nth fz (vlS c wo Ws) σ q).1 + (if (pas1 v t lk nth fz (vlS c wo Ws) (pasN v t lk nth fz (vlS c wo Ws) σ q).2).1 = true then 1 else 0), (pas1 v t lk nth fz (vlS c wo Ws) (pasN v t lk nth fz (vlS c wo Ws) σ q).2).2) := rfl
    refine wp_u2 ?_
    refine wp_in (nI_ge (by omega) (by omega)) ?_
    refine wp_if (fun ho => ?_) (fun ho => ?_) <;> rw [e2.2.2.2.1, b2i_0] at ho
    · rw [if_neg (by rw [ho]; decide)] at hS1
      refine wp_bd ((minuteOnce_wp (mmS_fr hS e3) e2 (sMm_cu hcu e3) hf ho (hzq.1 ho)).mono ?_)
      rintro ⟨g, N1⟩ ⟨k1, k2, k3⟩
      have k1 : g = _ := k1
      refine wp_some ?_
      show nI _ + b2i (if b2i g = 0 then false else true) = nI (pasN v t lk nth fz (vlS c wo Ws) σ (q + 1)).1 ∧ mmD N1 v (pasN v t lk nth fz (vlS c wo Ws) σ (q + 1)).2 ∧ _
      rw [hS1]
      refine ⟨?_, k2, e3.tr k3⟩
      show _ = nI ((pasN v t lk nth fz (vlS c wo Ws) σ q).1 + if (pas1 v t lk nth fz (vlS c wo Ws) (pasN v t lk nth fz (vlS c wo Ws) σ q).2).1 = true then 1 else 0)
      rw [← k1]
      cases g with
      | false => rw [if_pos (show b2i false = 0 from rfl), if_neg (show ¬ false = true by decide)]; exact nI_add _ 0
      | true => rw [if_neg (show ¬ b2i true = 0 by decide), if_pos rfl]; exact nI_add _ 1
    · have ho : sOv (pasN v t lk nth fz (vlS c wo Ws) σ q).2 = true := by simpa using ho
      have e := pasN_over ho (show q ≤ m by omega)
      refine wp_some ?_
      show wp _ _
      refine wp_some ?_
      rw [e]
      exact ⟨rfl, e2, e3⟩
  · rintro ⟨x, N⟩ ⟨e1, e2, e3⟩
    have e1 : x = nI (pasN v t lk nth fz (vlS c wo Ws) σ m).1 := e1
    subst e1
    have e2 : mmD N v (pasN v t lk nth fz (vlS c wo Ws) σ m).2 := e2
    have hle := pasN_le (v := v) (t := t) (lk := lk) (nth := nth) (fz := fz) (vl := vlS c wo Ws) (σ := σ) m
    refine wp_u2 ?_
    refine wp_if (fun ho => wp_some (wp_some ⟨rfl, e2, e3⟩)) (fun ho => ?_)
    refine wp_if (fun hp => ?_) (fun hp => wp_some (wp_some ⟨rfl, e2, e3⟩))
    rw [e2.2.2.2.1, b2i_0] at hp
    rw [(pasN_cnt m hp).1] at ho
    exact absurd (nI_le (Nat.le_refl m) (by omega)) ho
theorem p_minutes {M : qM} {n : Nat} {vs : Nat → vT} {c : Nat} {wo : Nat → Nat} {Ws : Nat → wW} (h : rMK n vs M) (hcC : cuC M c wo Ws) (hcM : cuM M c wo Ws) (a : Int32) : bth (rMK n vs) sXC sXM (jTc_minutes a) (jMd_minutes a) M := by
  rcases h with ⟨⟨h1, h2, h3⟩ | ⟨i, t, lk, σ, hi, hi5, hC, hM⟩, hK⟩
  · refine ⟨-1, M, M, ?_, ?_, ⟨Or.inl ⟨h1, h2, h3⟩, hK⟩, fr_rf _ _, fr_rf _ _⟩
    · unfold jTc_minutes; rw [mbeg_f h1]; rfl
    · unfold jMd_minutes; rw [if_pos h2]
  · have hR : rMK n vs M := ⟨Or.inr ⟨i, t, lk, σ, hi, hi5, hC, hM⟩, hK⟩
    have hv := hC.1.1.1
    have hk : mok 33 := Or.inl rfl
    have e1 : (1 : Int32).toInt = 1 := rfl
    have e61 : (61 : Int32).toInt = 61 := rfl
    cases hz : jMd_in a 1 61 with
    | false =>
      refine ⟨-1, M, M, ?_, ?_, hR, fr_rf _ _, fr_rf _ _⟩
      · unfold jTc_minutes
        rw [mbeg_t hC.1.2.2.2.2.2.2.1, if_neg (show ¬ b2i true = 0 by decide)]
        by_cases c1 : a < 1
        · rw [if_pos c1]
        · rw [if_neg c1, if_neg]
          intro c2
          have : jMd_in a 1 61 = true := by
            rw [in_iff]
            rw [i_lt] at c1
            rw [i_le] at c2
            omega
          rw [hz] at this
          cases this
      · unfold jMd_minutes
        rw [if_neg (show ¬ M.1 91 33 = 0 by rw [hM.2.2]; decide), hz]
        rfl
    | true =>
      obtain ⟨m, hm1, hm2, rfl⟩ := min_in a hz
      refine bth_mk (P := fun M1 => moR M1 33 i (vs i) t lk (pasN (vs i) t lk (vTi (vs i) t 0) (fz0 (vs i)) (vlS c wo Ws) σ m).2 ∧ mmR M1 i (vs i) t lk σ ∧ rKe n vs M1 ∧ cuM M1 c wo Ws) (nI (pasN (vs i) t lk (vTi (vs i) t 0) (fz0 (vs i)) (vlS c wo Ws) σ m).1) ?_ ?_
      · unfold jTc_minutes
        rw [mbeg_t hC.1.2.2.2.2.2.2.1]
        refine wp_in (by decide) (wp_in (nI_nlt (b := 1) (by omega) (by omega)) (wp_ip (nI_le (b := 61) (by omega) (by omega)) ?_))
        refine wp_bd ((pass_wp hk hC.1 hC.2.1 hcC (fz0_C _ hv) hC.2.2 hm2).mono ?_)
        rintro ⟨r, M1⟩ ⟨g1, g2, g3⟩
        have g3 : fr (sMo 33) M M1 := g3
        refine wp_some ⟨g1, ⟨⟨moS_fr hk hC.1 g3, g2, pasN_Z hC.2.2 m⟩, mmR_off hM g3 (fun b j h1 h2 => by unfold sMo; omega) (fun j h1 h2 => by unfold sMo; omega), rKe_off hK g3 (fun b j h1 h2 => by unfold sMo; omega) (fun b j h1 h2 => by unfold sMo; omega) (fun j => by unfold sMo; omega) (fun j h1 h2 => by unfold sMo; omega) (Or.inl (g3 91 33 (by unfold sMo; omega)).1), cuM_fr hcM g3 (fun b j hb => by unfold sMo; omega)⟩, sMo_X hk g3⟩
      · rintro M1 ⟨hC1, hM1, hK1, hc1⟩ g
        refine (mMinutes_wp hM1.1 hM1.2.1 hc1 (fz0_M _ hv) hC.2.2 hM1.2.2 hm1 hm2).mono ?_
        rintro ⟨r, M2⟩ ⟨g1, g2, g3⟩
        have g3 : fr sMm M1 M2 := g3
        refine ⟨g1, ⟨Or.inr ⟨i, t, lk, _, hi, hi5, moR_off hC1 g3 (fun b j _ _ => by unfold sMm; omega) (fun b j _ _ => by unfold sMm; omega), mmS_fr hM1.1 g3, g2, by rw [(g3 91 33 (by simp [sMm])).1]; exact hM1.2.2⟩, rKe_off hK1 g3 (fun b j h1 h2 => by unfold sMm; omega) (fun b j h1 h2 => by unfold sMm; omega) (fun j => by unfold sMm; omega) (fun j h1 h2 => by unfold sMm; omega) (Or.inl (g3 91 33 (by simp [sMm])).1)⟩, sMm_X g3⟩
