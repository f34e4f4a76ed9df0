/-! ===== promises 41, 42: better, agree ===== -/
def sZC (b j : Nat) : Prop := sYC b j ∨ b = 8 ∨ b = 9
def rMKW (m : Nat) (vs : Nat → vT) (c : Nat) (Ws : Nat → wW) (M : qM) : Prop := rMK m vs M ∧ ∃ wo, cuC M c wo Ws ∧ cuM M c wo Ws
theorem sBW_Z {M M1 : qM} (g : fr sBW M M1) : fr sZC M M1 := g.mono (fun b j h => by unfold sBW sTa sMo at h; unfold sZC sYC; omega)
theorem moR_Z {M M1 : qM} {i : Nat} {v : vT} {t lk : Nat} {σ : mS} (h : moR M 33 i v t lk σ) (g : fr sZC M M1) : moR M1 33 i v t lk σ := moR_off h g (fun b j _ _ => by unfold sZC sYC; omega) (fun b j _ _ => by unfold sZC sYC; omega)
theorem mmR_Z {M M1 : qM} {i : Nat} {v : vT} {t lk : Nat} {σ : mS} (h : mmR M i v t lk σ) (g : fr sZC M M1) : mmR M1 i v t lk σ := mmR_off h g (fun b j _ _ => by unfold sZC sYC; omega) (fun j _ _ => by unfold sZC sYC; omega)
theorem rKe_Z {M M1 : qM} {n : Nat} {vs : Nat → vT} (h : rKe n vs M) (g : fr sZC M M1) : rKe n vs M1 := rKe_off h g (fun b j _ _ => by unfold sZC sYC; omega) (fun b j _ _ => by unfold sZC sYC; omega) (fun j => by unfold sZC sYC; omega) (fun j _ _ => by unfold sZC sYC; omega) (Or.inl (g 91 33 (by unfold sZC sYC; omega)).1)
theorem rKe_ZM {M M1 : qM} {n : Nat} {vs : Nat → vT} (h : rKe n vs M) (g : fr sZM M M1) : rKe n vs M1 := rKe_off h g (fun b j _ _ => by unfold sZM sYM; omega) (fun b j _ _ => by unfold sZM sYM; omega) (fun j => by unfold sZM sYM; omega) (fun j _ _ => by unfold sZM sYM; omega) (Or.inl (g 91 33 (by unfold sZM sYM; omega)).1)
theorem moR_ZM {M M1 : qM} {i : Nat} {v : vT} {t lk : Nat} {σ : mS} (h : moR M 33 i v t lk σ) (g : fr sZM M M1) : moR M1 33 i v t lk σ := moR_off h g (fun b j _ _ => by unfold sZM sYM; omega) (fun b j _ _ => by unfold sZM sYM; omega)
theorem cuM_Z {M M1 : qM} {c : Nat} {wo : Nat → Nat} {Ws : Nat → wW} (h : cuM M c wo Ws) (g : fr sZC M M1) : cuM M1 c wo Ws := cuM_fr h g (fun b j hb => by unfold sZC sYC; omega)
theorem cuC_Z {M M1 : qM} {c : Nat} {wo : Nat → Nat} {Ws : Nat → wW} (h : cuC M c wo Ws) (g : fr sZM M M1) : cuC M1 c wo Ws := cuC_fr h g (fun b j hb => by unfold sZM sYM; omega)
theorem mFinZ {vs : Nat → vT} {M N : qM} {i t lk : Nat} {σ : mS} {c : Nat} {wo : Nat → Nat} {Ws : Nat → wW} (h : mZB vs M N i t lk σ c wo Ws) : wp (jMd_takeBack N) (fun N' => mmR N' i (vs i) t lk σ ∧ cuM N' c wo Ws ∧ fr sZM M N') := by
  refine (takeBack_wp h.1 h.2.1).mono ?_
  rintro N1 ⟨g1, g2, g3⟩
  exact ⟨⟨g1, g2, by rw [(g3 91 33 (by simp [sTB])).1]; exact h.2.2.1⟩, cuM_fr h.2.2.2.1 g3 (fun b j hb => by unfold sTB; omega), h.2.2.2.2.tr (g3.mono (fun b j hb => Or.inl (by unfold sTB at hb; unfold sYM; omega)))⟩
theorem mPutZ {vs : Nat → vT} {M : qM} {i t lk : Nat} {σ : mS} {c : Nat} {wo : Nat → Nat} {Ws : Nat → wW} (h : mmR M i (vs i) t lk σ) (hcu : cuM M c wo Ws) : wp (jMd_putAside M) (fun N => mZB vs M N i t lk σ c wo Ws) :=
  (mPut h hcu).mono (fun N g => ⟨g.1, g.2.1, g.2.2.1, g.2.2.2.1, g.2.2.2.2.mono (fun b j hb => Or.inl hb)⟩)
theorem p_better {M : qM} {m : Nat} {vs : Nat → vT} {c : Nat} {wo : Nat → Nat} {Ws : Nat → wW} (h : rMK m vs M) (hcC : cuC M c wo Ws) (hcM : cuM M c wo Ws) (a e : Int32) : bth (rMKW m vs c Ws) sZC sZM (jTc_better a e) (jMd_better a e) M := by
  have hc6 := hcC.2.1
  have hR : rMKW m vs c Ws M := ⟨h, wo, hcC, hcM⟩
  rcases h with ⟨⟨h1, h2, h3⟩ | ⟨i, t, lk, σ, hi, hi5, hC, hM⟩, hK⟩
  · refine ⟨-1, M, M, ?_, ?_, hR, fr_rf _ _, fr_rf _ _⟩
    · unfold jTc_better
      by_cases hz : M.1 6 1 = 0
      · rw [if_pos hz]
      · rw [if_neg hz, isSoC_N h1]; rfl
    · unfold jMd_better; rw [isSoM_N h2]; rfl
  · have hv := hC.1.1.1
    have hs6 := hv.2.1
    cases hz : jTc_isOf a (nI (vSn (vs i))) with
    | false =>
      refine ⟨-1, M, M, ?_, ?_, hR, fr_rf _ _, fr_rf _ _⟩
      · unfold jTc_better
        by_cases hz' : M.1 6 1 = 0
        · rw [if_pos hz']
        · rw [if_neg hz', isSoC_eq hC, hz]; rfl
      · unfold jMd_better; rw [isSoM_eq hM, hz]; rfl
    | true =>
      cases hs : jTc_isSeeds e with
      | false =>
        refine ⟨-1, M, M, ?_, ?_, hR, fr_rf _ _, fr_rf _ _⟩
        · unfold jTc_better
          by_cases hz' : M.1 6 1 = 0
          · rw [if_pos hz']
          · rw [if_neg hz', isSoC_eq hC, hz, hs]; rfl
        · unfold jMd_better; rw [isSoM_eq hM, hz, ← seeds_eq, hs]; rfl
      | true =>
        by_cases hc0 : c = 0
        · refine ⟨-1, M, M, ?_, ?_, hR, fr_rf _ _, fr_rf _ _⟩
          · unfold jTc_better; rw [if_pos (by rw [hcC.1, hc0]; rfl)]
          · unfold jMd_better
            rw [isSoM_eq hM, hz, ← seeds_eq, hs]
            simp only [Option.bind_some]
            rw [if_neg (show ¬ b2i true = 0 by decide), if_neg (show ¬ b2i true = 0 by decide), if_pos (by rw [hcM.1, hc0]; rfl)]
        · have hc1 : 1 ≤ c := by omega
          obtain ⟨s, hsn, rfl⟩ := isOf_of (by omega) hz
          obtain ⟨n, hn1, hn, rfl⟩ := seeds_n hs
          refine bth_mk (P := fun M1 => moR M1 33 i (vs i) t lk σ ∧ mmR M1 i (vs i) t lk σ ∧ rKe m vs M1 ∧ cuC M1 c wo Ws ∧ cuM M1 c wo Ws) (nI (bwF (fun w => GG (vs i) t lk (vTi (vs i) t 0) (fz0 (vs i)) c Ws n s (upN wo s w)) (c - 1)).1) ?_ ?_
          · have e1 := isSoC_eq hC (nI s)
            rw [hz] at e1
            unfold jTc_better
            refine wp_in (by rw [hcC.1]; exact nI_ne0 (by omega) (by omega)) (wp_be e1 (wp_in (by decide) ?_))
            rw [hs]
            refine wp_in (by decide) ?_
            refine wp_bd ((takeAfter_wp hC).mono ?_)
            rintro N1 ⟨g1, g2⟩
            have c1 : cuC N1 c wo Ws := cuC_fr hcC g2 (fun b j hb => by omega)
            refine wp_bd ((bestWay_wp hn (by omega) hc1 g1 c1 (fz0_C _ hv)).mono ?_)
            rintro ⟨r, N2⟩ ⟨k1, k2, k3, k4, k5, k6⟩
            have k6 : fr sBW N1 N2 := k6
            have fz : fr sZC M N2 := (g2.mono (fun b j h => by unfold sZC sYC; omega)).tr (sBW_Z k6)
            exact wp_some ⟨k1, ⟨moR_Z hC fz, mmR_Z hM fz, rKe_Z hK fz, k5, cuM_Z hcM fz⟩, fz⟩
          · rintro M1 ⟨hC1, hM1, hK1, hcC1, hcM1⟩ g
            have e1 := isSoM_eq hM1 (nI s)
            rw [hz] at e1
            unfold jMd_better
            refine wp_be e1 (wp_in (by decide) ?_)
            rw [← seeds_eq, hs]
            refine wp_in (by decide) (wp_in (by rw [hcM1.1]; exact nI_ne0 (by omega) (by omega)) ?_)
            refine wp_bd ((mPutZ hM1 hcM1).mono ?_)
            intro N0 m0
            refine wp_bd ((betterOf_wp m0 hn (by omega) hc1).mono ?_)
            rintro ⟨r, N1⟩ ⟨k1, k2, k3⟩
            refine wp_u2 ?_
            refine wp_bd ((mFinZ k3).mono ?_)
            rintro N2 ⟨g1, g2, g3⟩
            exact wp_some ⟨k1, ⟨⟨Or.inr ⟨i, t, lk, σ, hi, hi5, moR_ZM hC1 g3, g1⟩, rKe_ZM hK1 g3⟩, wo, cuC_Z hcC1 g3, g2⟩, g3⟩
/-! agree -/
section Agr
variable (v : vT) (t lk nth : Nat) (fz : Nat → Bool) (c : Nat) (Ws : Nat → wW) (n : Nat)
noncomputable def agC (s : Nat) (wo : Nat → Nat) : Bool := decide (GG v t lk nth fz c Ws n s wo < (bwF (fun w => GG v t lk nth fz c Ws n s (upN wo s w)) (c - 1)).2)
noncomputable def agN (s : Nat) (wo : Nat → Nat) : Nat → Nat := upN wo s (bwF (fun w => GG v t lk nth fz c Ws n s (upN wo s w)) (c - 1)).1
end Agr
theorem cuC_wo {M : qM} {c : Nat} {wo wo' : Nat → Nat} {Ws : Nat → wW} (h : cuC M c wo Ws) (hw : ∀ s, s < 6 → M.1 8 s = nI (wo' s) ∧ wo' s < 6) : cuC M c wo' Ws := ⟨h.1, h.2.1, hw, h.2.2.2⟩
theorem agreeC_wp {M : qM} {i t lk n : Nat} {vs : Nat → vT} {σ : mS} {c : Nat} {wo : Nat → Nat} {Ws : Nat → wW} (hC : moR M 33 i (vs i) t lk σ) (hcu : cuC M c wo Ws) (hn1 : jTc_isSeeds (nI n) = true) (hn : n ≤ 40) (hc : 1 ≤ c) :
    wp (jTc_agree (nI n) M) (fun r => ∃ g, tres (vSn (vs i)) (agC (vs i) t lk (vTi (vs i) t 0) (fz0 (vs i)) c Ws n) (agN (vs i) t lk (vTi (vs i) t 0) (fz0 (vs i)) c Ws n) wo 30 r.1 g ∧ cuC r.2 c g Ws ∧ fr sZC M r.2) := by
  have hv := hC.1.1.1
  have hs6 := hv.2.1
  have hc6 := hcu.2.1
  have hbw : ∀ (N : qM) (wo' : Nat → Nat) (s : Nat), s < 6 → moS N 42 (71 + 4 * i) (vs i) t lk (vTi (vs i) t 0) (-1) (-1) → cuC N c wo' Ws → wp (jTa_bestWay (nI s) (nI n) N) (fun r => r.1 = nI (agN (vs i) t lk (vTi (vs i) t 0) (fz0 (vs i)) c Ws n s wo' s) ∧ agN (vs i) t lk (vTi (vs i) t 0) (fz0 (vs i)) c Ws n s wo' s < 6 ∧ (r.2.1 41 6 ≤ r.2.1 41 7 ↔ agC (vs i) t lk (vTi (vs i) t 0) (fz0 (vs i)) c Ws n s wo' = false) ∧ moS r.2 42 (71 + 4 * i) (vs i) t lk (vTi (vs i) t 0) (-1) (-1) ∧ cuC r.2 c wo' Ws ∧ fr sBW N r.2) := by
    intro N wo' s hs h1 h2
    refine (bestWay_wp hn hs hc h1 h2 (fz0_C _ hv)).mono ?_
    rintro r ⟨k1, k2, k3, k4, k5, k6⟩
    have hb := bwF_b (fun w => GG (vs i) t lk (vTi (vs i) t 0) (fz0 (vs i)) c Ws n s (upN wo' s w)) (c - 1)
    have e : agN (vs i) t lk (vTi (vs i) t 0) (fz0 (vs i)) c Ws n s wo' s = (bwF (fun w => GG (vs i) t lk (vTi (vs i) t 0) (fz0 (vs i)) c Ws n s (upN wo' s w)) (c - 1)).1 := if_pos rfl
    refine ⟨?_, ?_, ?_, k4, k5, k6⟩
    · rw [k1, e]
    · rw [e]; omega
    · rw [k2, k3]
      unfold agC
      rw [decide_eq_false_iff_not, i_le, i_lt]
      omega
  have hagN : ∀ s wo', agN (vs i) t lk (vTi (vs i) t 0) (fz0 (vs i)) c Ws n s wo' = upN wo' s (agN (vs i) t lk (vTi (vs i) t 0) (fz0 (vs i)) c Ws n s wo' s) := by
    intro s wo'
    unfold agN
    conv => rhs; rw [show upN wo' s (bwF (fun w => GG (vs i) t lk (vTi (vs i) t 0) (fz0 (vs i)) c Ws n s (upN wo' s w)) (c - 1)).1 s = (bwF (fun w => GG (vs i) t lk (vTi (vs i) t 0) (fz0 (vs i)) c Ws n s (upN wo' s w)) (c - 1)).1 by simp [upN]]
  generalize agC (vs i) t lk (vTi (vs i) t 0) (fz0 (vs i)) c Ws n = ch at *
  generalize agN (vs i) t lk (vTi (vs i) t 0) (fz0 (vs i)) c Ws n = nx at *
  unfold jTc_agree
  rw [mbeg_t hC.1.2.2.2.2.2.2.1, hn1]
  refine wp_in (by rw [hcu.1]; exact nI_ne0 (by omega) (by omega)) (wp_in (by decide) (wp_in (by decide) ?_))
  refine wp_bd ?_
  unfold jCu_keep
  refine wp_bd ((cp_n (n := 6) (by omega)).mono ?_)
  rintro M1 ⟨c1, c2⟩
  refine wp_some ?_
  have fz1 : fr sZC M M1 := c2.mono (fun b j h => by unfold sZC; omega)
  have c9 : ∀ j, j < 6 → M1.1 9 j = nI (wo j) := fun j hj => by rw [c1 j hj]; exact (hcu.2.2.1 j hj).1
  refine wp_bd ((takeAfter_wp (moR_Z hC fz1)).mono ?_)
  rintro M2 ⟨g1, g2⟩
  have fz2 : fr sZC M M2 := fz1.tr (g2.mono (fun b j h => by unfold sZC sYC; omega))
  have d9 : ∀ j, j < 6 → M2.1 9 j = nI (wo j) := fun j hj => by rw [(g2 9 j (by omega)).1]; exact c9 j hj
  have cu2 : cuC M2 c wo Ws := by
    have h1 : cuC M1 c wo Ws := cuC_fr hcu c2 (fun b j hb => by omega)
    exact cuC_fr h1 g2 (fun b j hb => by omega)
  -- the state
  have hst : ∀ N, fr sZC M N → N.2.2 33 0 = some (71 + 4 * i) ∧ N.1 (71 + 4 * i) 1 = nI (vSn (vs i)) := fun N g => by
    have h1 := moR_Z hC g
    exact ⟨h1.1.2.2.2.2.2.2.1, h1.1.1.2.2.1⟩
  have rest : ∀ N wo', cuC N c wo' Ws → (∀ j, j < 6 → N.1 9 j = nI (wo j)) → fr sZC M N → wp ((jCu_restore N).bind fun M11 => some ((-1 : Int32), M11)) (fun r => r.1 = -1 ∧ cuC r.2 c wo Ws ∧ fr sZC M r.2) := by
    intro N wo' h1 h2 h3
    unfold jCu_restore
    refine wp_bd (wp_bd ((cp_n (n := 6) (by omega)).mono ?_))
    rintro N1 ⟨k1, k2⟩
    refine wp_some (wp_some ⟨rfl, ?_, h3.tr (k2.mono (fun b j h => by unfold sZC; omega))⟩)
    obtain ⟨b1, b2, b3, b4⟩ := h1
    refine ⟨by rw [(k2 6 1 (by decide)).1]; exact b1, b2, fun s hs => ⟨by rw [k1 s hs]; exact h2 s hs, (hcu.2.2.1 s hs).2⟩, fun i hi => rWC_fr (b4 i hi) k2 (fun b j _ _ => by omega)⟩
  refine wp_bd (wp_for (fun r s => s.1 = nI (tsq (vSn (vs i)) ch nx wo (r * vSn (vs i))).2 ∧ s.2.1 = nI r ∧ r ≤ (tsq (vSn (vs i)) ch nx wo (r * vSn (vs i))).2 ∧ (tsq (vSn (vs i)) ch nx wo (r * vSn (vs i))).2 ≤ 30 ∧ cuC s.2.2 c (tsq (vSn (vs i)) ch nx wo (r * vSn (vs i))).1 Ws ∧ moS s.2.2 42 (71 + 4 * i) (vs i) t lk (vTi (vs i) t 0) (-1) (-1) ∧ (∀ j, j < 6 → s.2.2.1 9 j = nI (wo j)) ∧ fr sZC M s.2.2) 31 ?_ ?_ ?_)
  · rw [Nat.zero_mul]
    exact ⟨rfl, rfl, Nat.le_refl _, Nat.zero_le _, cu2, g1, d9, fz2⟩
  · rintro r ⟨x, y, N⟩ hr ⟨e1, e2, e3, e4, e5, e6, e7, e8⟩
    have e1 : x = nI (tsq (vSn (vs i)) ch nx wo (r * vSn (vs i))).2 := e1
    have e2 : y = nI r := e2
    subst e1 e2
    have e5 : cuC N c (tsq (vSn (vs i)) ch nx wo (r * vSn (vs i))).1 Ws := e5
    have e6 : moS N 42 (71 + 4 * i) (vs i) t lk (vTi (vs i) t 0) (-1) (-1) := e6
    have e7 : ∀ j, j < 6 → N.1 9 j = nI (wo j) := e7
    have e8 : fr sZC M N := e8
    simp only [qu3]
    refine wp_in (nI_nlt (a := 30) (by omega) (by omega)) ?_
    refine wp_bd ?_
    refine (wp_for (Q := fun (o : Int32 × qM) => ∃ q, q ≤ vSn (vs i) ∧ o.1 = nI (tsq (vSn (vs i)) ch nx wo (r * vSn (vs i) + q)).2 ∧ (q = vSn (vs i) ∨ 30 < (tsq (vSn (vs i)) ch nx wo (r * vSn (vs i) + q)).2) ∧ cuC o.2 c (tsq (vSn (vs i)) ch nx wo (r * vSn (vs i) + q)).1 Ws ∧ moS o.2 42 (71 + 4 * i) (vs i) t lk (vTi (vs i) t 0) (-1) (-1) ∧ (∀ j, j < 6 → o.2.1 9 j = nI (wo j)) ∧ fr sZC M o.2) (fun q s => s.1 = nI (tsq (vSn (vs i)) ch nx wo (r * vSn (vs i) + q)).2 ∧ s.2.1 = nI q ∧ cuC s.2.2 c (tsq (vSn (vs i)) ch nx wo (r * vSn (vs i) + q)).1 Ws ∧ moS s.2.2 42 (71 + 4 * i) (vs i) t lk (vTi (vs i) t 0) (-1) (-1) ∧ (∀ j, j < 6 → s.2.2.1 9 j = nI (wo j)) ∧ fr sZC M s.2.2) (vSn (vs i)) ⟨rfl, rfl, e5, e6, e7, e8⟩ ?_ ?_).mono ?_
    · rintro q ⟨x, y, N⟩ hq ⟨a1, a2, a3, a4, a5, a6⟩
      have a1 : x = nI (tsq (vSn (vs i)) ch nx wo (r * vSn (vs i) + q)).2 := a1
      have a2 : y = nI q := a2
      subst a1 a2
      have a3 : cuC N c (tsq (vSn (vs i)) ch nx wo (r * vSn (vs i) + q)).1 Ws := a3
      have a4 : moS N 42 (71 + 4 * i) (vs i) t lk (vTi (vs i) t 0) (-1) (-1) := a4
      have a5 : ∀ j, j < 6 → N.1 9 j = nI (wo j) := a5
      have a6 : fr sZC M N := a6
      have hle := tsq_le (n := vSn (vs i)) (ch := ch) (nx := nx) (s0 := wo) (r * vSn (vs i) + q)
      have hrv : r * vSn (vs i) ≤ 31 * 6 := Nat.mul_le_mul (by omega) (by omega)
      have hmod : (r * vSn (vs i) + q) % vSn (vs i) = q := by rw [Nat.mul_comm, Nat.mul_add_mod, Nat.mod_eq_of_lt hq]
      simp only [qu3]
      refine wp_be (hst N a6).1 ?_
      refine wp_in (by rw [(hst N a6).2]; exact nI_ge hq (by omega)) ?_
      refine wp_if (fun hcc => ?_) (fun hcc => ?_)
      · refine wp_some ⟨q, by omega, rfl, Or.inr ?_, a3, a4, a5, a6⟩
        exact (nI_ltI (a := 30) (by omega) (by omega)).mp hcc
      · refine wp_bd ((hbw N _ q (by omega) a4 a3).mono ?_)
        rintro ⟨z, N1⟩ ⟨b1, b2, b3, b4, b5, b6⟩
        have b1 : z = nI (nx q (tsq (vSn (vs i)) ch nx wo (r * vSn (vs i) + q)).1 q) := b1
        subst b1
        have b3 : N1.1 41 6 ≤ N1.1 41 7 ↔ ch q (tsq (vSn (vs i)) ch nx wo (r * vSn (vs i) + q)).1 = false := b3
        have b6 : fr sBW N N1 := b6
        have f1 : fr sZC M N1 := a6.tr (sBW_Z b6)
        have n9 : ∀ j, j < 6 → N1.1 9 j = nI (wo j) := fun j hj => by rw [(b6 9 j (by unfold sBW sTa sMo; omega)).1]; exact a5 j hj
        refine wp_u2 ?_
        refine wp_bd ?_
        refine wp_if (fun hd => ?_) (fun hd => ?_)
        · have hch : ch ((r * vSn (vs i) + q) % vSn (vs i)) (tsq (vSn (vs i)) ch nx wo (r * vSn (vs i) + q)).1 = false := by rw [hmod]; exact b3.mp hd
          have ee := tsq_f (nx := nx) hch
          refine wp_some (wp_some ⟨?_, nI_1 q, ?_, b4, n9, f1⟩)
          · show nI _ = nI (tsq (vSn (vs i)) ch nx wo (r * vSn (vs i) + q + 1)).2
            rw [ee]
          · show cuC N1 c (tsq (vSn (vs i)) ch nx wo (r * vSn (vs i) + q + 1)).1 Ws
            rw [ee]; exact b5
        · have hch : ch ((r * vSn (vs i) + q) % vSn (vs i)) (tsq (vSn (vs i)) ch nx wo (r * vSn (vs i) + q)).1 = true := by
            rw [hmod]
            cases hx : ch q (tsq (vSn (vs i)) ch nx wo (r * vSn (vs i) + q)).1 with
            | true => rfl
            | false => exact absurd (b3.mpr hx) hd
          have ee := tsq_t (nx := nx) hch
          rw [hmod] at ee
          refine wp_bd (wp_wI rfl (show q < 6 by omega) (by omega) ?_)
          have f2 : fr sBW N1 (qI N1 8 q (nI (nx q (tsq (vSn (vs i)) ch nx wo (r * vSn (vs i) + q)).1 q))) := fr_I (Or.inr (Or.inr rfl))
          refine wp_some (wp_some ⟨?_, nI_1 q, ?_, moS_BW b4 f2, fun j hj => ?_, f1.tr (sBW_Z f2)⟩)
          · show nI _ + 1 = nI (tsq (vSn (vs i)) ch nx wo (r * vSn (vs i) + q + 1)).2
            rw [ee, nI_1]
          · show cuC _ c (tsq (vSn (vs i)) ch nx wo (r * vSn (vs i) + q + 1)).1 Ws
            have hcs := cuC_set (s := q) b5 b2
            rw [← hagN] at hcs
            rw [ee]
            exact hcs
          · show (qI N1 8 q _).1 9 j = _
            rw [qI_1, if_neg (by omega)]; exact n9 j hj
    · rintro ⟨x, y, N⟩ ⟨a1, a2, a3, a4, a5, a6⟩
      have a2 : y = nI (vSn (vs i)) := a2
      subst a2
      have a6 : fr sZC M N := a6
      simp only [qu3]
      refine wp_be (hst N a6).1 ?_
      exact wp_ip (by rw [(hst N a6).2]; exact nI_le (Nat.le_refl _) (by omega)) (wp_some ⟨vSn (vs i), Nat.le_refl _, a1, Or.inl rfl, a3, a4, a5, a6⟩)
    · rintro ⟨x, N1⟩ ⟨q, a1, a2, a3, a4, a5, a6, a7⟩
      have a2 : x = nI (tsq (vSn (vs i)) ch nx wo (r * vSn (vs i) + q)).2 := a2
      subst a2
      have a4 : cuC N1 c (tsq (vSn (vs i)) ch nx wo (r * vSn (vs i) + q)).1 Ws := a4
      have hle := tsq_le (n := vSn (vs i)) (ch := ch) (nx := nx) (s0 := wo) (r * vSn (vs i) + q)
      have hrv : r * vSn (vs i) ≤ 31 * 6 := Nat.mul_le_mul (by omega) (by omega)
      simp only [qu2]
      refine wp_if (fun hcc => ?_) (fun hcc => ?_)
      · have hcc := (nI_leI (b := 30) (by omega) (by omega)).mp hcc
        have hq : q = vSn (vs i) := by omega
        subst hq
        refine wp_if (fun hd => ?_) (fun hd => ?_)
        · have hd := (nI_eq (by omega) (by omega)).mp hd
          refine wp_some (wp_se (wp_se ?_))
          exact wp_some ⟨_, Or.inl ⟨_, tsq_round hd, hcc, rfl, rfl⟩, a4, a7⟩
        · have hm : (tsq (vSn (vs i)) ch nx wo (r * vSn (vs i))).2 ≤ (tsq (vSn (vs i)) ch nx wo (r * vSn (vs i) + vSn (vs i))).2 := tsq_mono (by omega)
          have hne : ¬ (tsq (vSn (vs i)) ch nx wo (r * vSn (vs i) + vSn (vs i))).2 = (tsq (vSn (vs i)) ch nx wo (r * vSn (vs i))).2 := fun e => hd (by rw [e])
          have e8' : (r + 1) * vSn (vs i) = r * vSn (vs i) + vSn (vs i) := Nat.succ_mul _ _
          refine wp_some ?_
          show nI _ = nI (tsq _ _ _ _ ((r + 1) * vSn (vs i))).2 ∧ _ ∧ r + 1 ≤ (tsq _ _ _ _ ((r + 1) * vSn (vs i))).2 ∧ (tsq _ _ _ _ ((r + 1) * vSn (vs i))).2 ≤ 30 ∧ cuC _ c (tsq _ _ _ _ ((r + 1) * vSn (vs i))).1 Ws ∧ _
          rw [e8']
          exact ⟨rfl, nI_1 r, by omega, hcc, a4, a5, a6, a7⟩
      · have hcc : 30 < (tsq (vSn (vs i)) ch nx wo (r * vSn (vs i) + q)).2 := by
          rcases Nat.lt_or_ge 30 (tsq (vSn (vs i)) ch nx wo (r * vSn (vs i) + q)).2 with h1 | h1
          · exact h1
          · exact absurd (nI_le (b := 30) h1 (by omega)) hcc
        refine wp_some (wp_se ?_)
        exact (rest N1 _ a4 a6 a7).mono (fun o ho => ⟨wo, Or.inr ⟨_, hcc, ho.1, rfl⟩, ho.2⟩)
  · rintro ⟨x, y, N⟩ ⟨e1, e2, e3, e4, e5⟩
    exact absurd e3 (by omega)
def sAM (b j : Nat) : Prop := sZM b j ∨ b = 121
theorem agreeM_wp {M : qM} {i t lk n : Nat} {vs : Nat → vT} {σ : mS} {c : Nat} {wo : Nat → Nat} {Ws : Nat → wW} (hM : mmR M i (vs i) t lk σ) (hcu : cuM M c wo Ws) (hn1 : jTc_isSeeds (nI n) = true) (hn : n ≤ 40) (hc : 1 ≤ c) :
    wp (jMd_agree (nI n) M) (fun r => ∃ g, tres (vSn (vs i)) (agC (vs i) t lk (vTi (vs i) t 0) (fz0 (vs i)) c Ws n) (agN (vs i) t lk (vTi (vs i) t 0) (fz0 (vs i)) c Ws n) wo 30 r.1 g ∧ cuM r.2 c g Ws ∧ mmR r.2 i (vs i) t lk σ ∧ fr sAM M r.2) := by
  have hv := hM.1.1.1
  have hs6 := hv.2.1
  have hc6 := hcu.2.1
  have hi5 := hM.1.2.1
  have hbw : ∀ (M N : qM) (wo' : Nat → Nat) (s : Nat), s < 6 → mZB vs M N i t lk σ c wo' Ws → wp (jMd_betterOf (nI s) (nI n) N) (fun r => r.1 = nI (agN (vs i) t lk (vTi (vs i) t 0) (fz0 (vs i)) c Ws n s wo' s) ∧ agN (vs i) t lk (vTi (vs i) t 0) (fz0 (vs i)) c Ws n s wo' s < 6 ∧ mZB vs M r.2 i t lk σ c wo' Ws ∧ wp (jMd_gainsOf (nI s) (nI n) r.2) (fun q => (r.2.1 91 68 ≤ q.1 ↔ agC (vs i) t lk (vTi (vs i) t 0) (fz0 (vs i)) c Ws n s wo' = false) ∧ mZB vs M q.2 i t lk σ c wo' Ws)) := by
    intro M N wo' s hs h1
    refine (betterOf_wp h1 hn hs hc).mono ?_
    rintro r ⟨k1, k2, k3⟩
    have hb := bwF_b (fun w => GG (vs i) t lk (vTi (vs i) t 0) (fz0 (vs i)) c Ws n s (upN wo' s w)) (c - 1)
    have e : agN (vs i) t lk (vTi (vs i) t 0) (fz0 (vs i)) c Ws n s wo' s = (bwF (fun w => GG (vs i) t lk (vTi (vs i) t 0) (fz0 (vs i)) c Ws n s (upN wo' s w)) (c - 1)).1 := if_pos rfl
    refine ⟨by rw [k1, e], by rw [e]; omega, k3, ?_⟩
    refine (mZ_gains k3 hn (by omega)).mono ?_
    rintro q ⟨j1, j2, _, _⟩
    refine ⟨?_, j2⟩
    rw [j1, k2]
    unfold agC
    rw [decide_eq_false_iff_not, i_le, i_lt]
    omega
  have hagN : ∀ s wo', agN (vs i) t lk (vTi (vs i) t 0) (fz0 (vs i)) c Ws n s wo' = upN wo' s (agN (vs i) t lk (vTi (vs i) t 0) (fz0 (vs i)) c Ws n s wo' s) := by
    intro s wo'
    have e : agN (vs i) t lk (vTi (vs i) t 0) (fz0 (vs i)) c Ws n s wo' s = (bwF (fun w => GG (vs i) t lk (vTi (vs i) t 0) (fz0 (vs i)) c Ws n s (upN wo' s w)) (c - 1)).1 := if_pos rfl
    rw [e]
    rfl
  generalize agC (vs i) t lk (vTi (vs i) t 0) (fz0 (vs i)) c Ws n = ch at *
  generalize agN (vs i) t lk (vTi (vs i) t 0) (fz0 (vs i)) c Ws n = nx at *
  unfold jMd_agree
  refine wp_in (by rw [hM.2.2]; decide) ?_
  rw [← seeds_eq, hn1]
  refine wp_in (by decide) (wp_in (by rw [hcu.1]; exact nI_ne0 (by omega) (by omega)) ?_)
  refine wp_bd ((mPutZ hM hcu).mono ?_)
  intro N0 m0
  -- what is kept of the ways
  refine wp_bd ?_
  refine (wp_for (Q := fun N => (∀ j, j < 6 → N.1 121 j = nI (wo j)) ∧ fr (fun b _ => b = 121) N0 N) (fun q s => s.1 = nI q ∧ (∀ j, j < q → s.2.1 121 j = nI (wo j)) ∧ fr (fun b _ => b = 121) N0 s.2) 6 ⟨rfl, fun j hj => by omega, fr_rf _ _⟩ ?_ ?_).mono ?_
  · rintro q ⟨x, N⟩ hq ⟨a1, a2, a3⟩
    have a1 : x = nI q := a1
    subst a1
    have a2 : ∀ j, j < q → N.1 121 j = nI (wo j) := a2
    have a3 : fr (fun b _ => b = 121) N0 N := a3
    refine wp_u2 ?_
    refine wp_in (nI_ge (b := 6) hq (by omega)) ?_
    have q1 : qrI N 107 6 (nI q) = some (nI (wo q)) := by rw [qrI_nI hq (by omega), (a3 107 q (by simp)).1, (m0.2.2.2.1.2.2.1 q hq).1]
    refine wp_be q1 ?_
    refine wp_bd (wp_wI rfl hq (by omega) ?_)
    refine wp_some ⟨nI_1 q, fun j hj => ?_, a3.tr (fr_I rfl)⟩
    show (qI N 121 q (nI (wo q))).1 121 j = _
    rw [qI_1]
    by_cases hjq : j = q
    · rw [if_pos ⟨rfl, hjq⟩, hjq]
    · rw [if_neg (fun e => hjq e.2)]; exact a2 j (by omega)
  · rintro ⟨x, N⟩ ⟨a1, a2, a3⟩
    have a1 : x = nI 6 := a1
    subst a1
    refine wp_u2 ?_
    exact wp_ip (by decide) (wp_some ⟨a2, a3⟩)
  rintro M4 ⟨k4, g4⟩
  have z4 : mZB vs M4 M4 i t lk σ c wo Ws := ⟨mmS_off m0.1 g4 (fun b j _ _ => by omega) (fun j _ _ => by omega), kpM_off m0.2.1 g4 (fun j => by omega) (fun j _ _ => by omega), by rw [(g4 91 33 (by decide)).1]; exact m0.2.2.1, cuM_fr m0.2.2.2.1 g4 (fun b j hb => by omega), fr_rf _ _⟩
  have f4 : fr sAM M M4 := (m0.2.2.2.2.mono (fun b j h => Or.inl h)).tr (g4.mono (fun b j h => Or.inr h))
  -- the turns
  refine wp_bd ?_
  refine (wp_lp (Q := fun (o : Int32 × qM) => ∃ q, q < 2000000000 ∧ o.1 = nI (tsq (vSn (vs i)) ch nx wo q).2 ∧ (tsq (vSn (vs i)) ch nx wo q).2 ≤ 31 ∧ (tfx (vSn (vs i)) ch (tsq (vSn (vs i)) ch nx wo q).1 ∨ 30 < (tsq (vSn (vs i)) ch nx wo q).2) ∧ mZB vs M4 o.2 i t lk σ c (tsq (vSn (vs i)) ch nx wo q).1 Ws)
    (fun s => ∃ q st, q + (31 - (tsq (vSn (vs i)) ch nx wo q).2) * (vSn (vs i) + 1) + (vSn (vs i) - st) ≤ 100000 ∧ s.1 = nI (tsq (vSn (vs i)) ch nx wo q).2 ∧ s.2.1 = nI st ∧ s.2.2.1 = nI (q % vSn (vs i)) ∧ (tsq (vSn (vs i)) ch nx wo q).2 ≤ 31 ∧ tst (vSn (vs i)) ch nx wo q st ∧ mZB vs M4 s.2.2.2 i t lk σ c (tsq (vSn (vs i)) ch nx wo q).1 Ws)
    (fun s => (31 - s.1.toNatClampNeg) * (vSn (vs i) + 1) + (vSn (vs i) - s.2.1.toNatClampNeg)) ?_ ?_).mono ?_
  · refine ⟨0, 0, ?_, rfl, rfl, by rw [Nat.zero_mod]; rfl, Nat.zero_le _, tst_0 0, z4⟩
    show 0 + (31 - 0) * (vSn (vs i) + 1) + (vSn (vs i) - 0) ≤ 100000
    omega
  · rintro ⟨x, y, z, N⟩ ⟨q, st, b0, b1, b2, b3, b4, b5, b6⟩
    have b1 : x = nI (tsq (vSn (vs i)) ch nx wo q).2 := b1
    have b2 : y = nI st := b2
    have b3 : z = nI (q % vSn (vs i)) := b3
    subst b1 b2 b3
    have b6 : mZB vs M4 N i t lk σ c (tsq (vSn (vs i)) ch nx wo q).1 Ws := b6
    have b8 := b5.1
    have b9 := b5.2.1
    have hp : q % vSn (vs i) < vSn (vs i) := Nat.mod_lt _ (by omega)
    have v22 : ∀ N' wo', mZB vs M4 N' i t lk σ c wo' Ws → qrI N' 103 5 (N'.1 91 27) = some (nI (vSn (vs i))) := fun N' wo' h => by rw [h.1.2.2.2.2.2.1, qrI_nI hi5 (by omega), h.1.1.2.2.1]
    show wp (qu4 _ _) _
    unfold qu4
    refine wp_be (v22 N _ b6) ?_
    refine wp_if (fun hcc => ?_) (fun hcc => ?_)
    · have hcc := (nI_leI (by omega) (by omega)).mp hcc
      have hst : st = vSn (vs i) := by omega
      subst hst
      exact wp_some ⟨q, by omega, rfl, b4, Or.inl (tst_fx b5), b6⟩
    · have hcc : st < vSn (vs i) := by
        rcases Nat.lt_or_ge st (vSn (vs i)) with h1 | h1
        · exact h1
        · exact absurd (nI_le h1 (by omega)) hcc
      refine wp_if (fun hd => ?_) (fun hd => ?_)
      · exact wp_some ⟨q, by omega, rfl, b4, Or.inr ((nI_ltI (a := 30) (by omega) (by omega)).mp hd), b6⟩
      · have hd : (tsq (vSn (vs i)) ch nx wo q).2 ≤ 30 := by
          rcases Nat.lt_or_ge 30 (tsq (vSn (vs i)) ch nx wo q).2 with h1 | h1
          · exact absurd (nI_lt (a := 30) h1 (by omega)) hd
          · exact h1
        have hq1 : (q % vSn (vs i) + 1) % vSn (vs i) = (q + 1) % vSn (vs i) := Nat.mod_add_mod _ _ _
        refine wp_bd ((hbw M4 N _ (q % vSn (vs i)) (by omega) b6).mono ?_)
        rintro ⟨r1, N1⟩ ⟨d1, d2, d3, d4⟩
        have d1 : r1 = nI (nx (q % vSn (vs i)) (tsq (vSn (vs i)) ch nx wo q).1 (q % vSn (vs i))) := d1
        subst d1
        refine wp_u2 ?_
        refine wp_bd (d4.mono ?_)
        rintro ⟨r2, N2⟩ ⟨d5, d6⟩
        have d5 : N1.1 91 68 ≤ r2 ↔ ch (q % vSn (vs i)) (tsq (vSn (vs i)) ch nx wo q).1 = false := d5
        have d6 : mZB vs M4 N2 i t lk σ c (tsq (vSn (vs i)) ch nx wo q).1 Ws := d6
        refine wp_u2 ?_
        refine wp_lt ?_
        intro z29 hz29
        cases hch : ch (q % vSn (vs i)) (tsq (vSn (vs i)) ch nx wo q).1 with
        | false =>
          have hz : z29 = false := by rw [hz29, if_pos (d5.mpr hch)]
          subst hz
          have ee := tsq_f (nx := nx) hch
          have hwq := d6.2.2.2.1.2.2.1 (q % vSn (vs i)) (by omega)
          have q37 : qrI N2 107 6 (nI (q % vSn (vs i))) = some (nI ((tsq (vSn (vs i)) ch nx wo q).1 (q % vSn (vs i)))) := by rw [qrI_nI (by omega) (by omega), hwq.1]
          refine wp_bd (wp_ip (by decide) (wp_be q37 (wp_some ?_)))
          refine wp_bd (wp_wI rfl (show q % vSn (vs i) < 6 by omega) (by omega) ?_)
          have m2 : mZB vs M4 (qI N2 107 (q % vSn (vs i)) (nI ((tsq (vSn (vs i)) ch nx wo q).1 (q % vSn (vs i))))) i t lk σ c (tsq (vSn (vs i)) ch nx wo q).1 Ws := by
            have := mZ_set (s := q % vSn (vs i)) d6 hwq.2
            rwa [upN_id] at this
          simp only [qlt]
          refine wp_be (v22 _ _ m2) ?_
          rw [nI_1]
          refine wp_be (rm_nI (by omega) (by omega) (by omega)) ?_
          refine wp_some ⟨⟨q + 1, st + 1, ?_, ?_, ?_, ?_, ?_, tst_f b5 hcc hch, ?_⟩, ?_⟩
          · rw [ee]; omega
          · rw [ee]
            show nI _ + nI 0 = _
            rw [nI_add]
            rfl
          · show nI st + 1 = _
            exact nI_1 st
          · show nI ((q % vSn (vs i) + 1) % vSn (vs i)) = _
            rw [hq1]
          · rw [ee]; exact b4
          · rw [ee]; exact m2
          · show (31 - (nI (tsq (vSn (vs i)) ch nx wo q).2 + nI 0).toNatClampNeg) * (vSn (vs i) + 1) + (vSn (vs i) - (nI st + 1).toNatClampNeg) < (31 - (nI (tsq (vSn (vs i)) ch nx wo q).2).toNatClampNeg) * (vSn (vs i) + 1) + (vSn (vs i) - (nI st).toNatClampNeg)
            rw [nI_add, nI_1, nI_clamp (by omega), nI_clamp (by omega), nI_clamp (by omega), nI_clamp (by omega), Nat.add_zero]
            omega
        | true =>
          have hz : z29 = true := by
            rw [hz29, if_neg]
            intro e
            rw [d5.mp e] at hch
            cases hch
          subst hz
          have ee := tsq_t (nx := nx) hch
          refine wp_bd (wp_in (by decide) (wp_some ?_))
          refine wp_bd (wp_wI rfl (show q % vSn (vs i) < 6 by omega) (by omega) ?_)
          have m2 : mZB vs M4 (qI N2 107 (q % vSn (vs i)) (nI (nx (q % vSn (vs i)) (tsq (vSn (vs i)) ch nx wo q).1 (q % vSn (vs i))))) i t lk σ c (nx (q % vSn (vs i)) (tsq (vSn (vs i)) ch nx wo q).1) Ws := by
            have := mZ_set (s := q % vSn (vs i)) d6 d2
            rwa [← hagN] at this
          simp only [qlt]
          refine wp_be (v22 _ _ m2) ?_
          rw [nI_1]
          refine wp_be (rm_nI (by omega) (by omega) (by omega)) ?_
          have hmul : (31 - (tsq (vSn (vs i)) ch nx wo q).2) * (vSn (vs i) + 1) = (31 - ((tsq (vSn (vs i)) ch nx wo q).2 + 1)) * (vSn (vs i) + 1) + (vSn (vs i) + 1) := by
            rw [show 31 - (tsq (vSn (vs i)) ch nx wo q).2 = (31 - ((tsq (vSn (vs i)) ch nx wo q).2 + 1)) + 1 by omega, Nat.succ_mul]
          refine wp_some ⟨⟨q + 1, 0, ?_, ?_, rfl, ?_, ?_, tst_0 _, ?_⟩, ?_⟩
          · rw [ee]
            show q + 1 + (31 - ((tsq (vSn (vs i)) ch nx wo q).2 + 1)) * (vSn (vs i) + 1) + (vSn (vs i) - 0) ≤ 100000
            omega
          · rw [ee]
            show nI _ + nI 1 = _
            rw [nI_add]
          · show nI ((q % vSn (vs i) + 1) % vSn (vs i)) = _
            rw [hq1]
          · rw [ee]; show _ + 1 ≤ _; omega
          · rw [ee]; exact m2
          · show (31 - (nI (tsq (vSn (vs i)) ch nx wo q).2 + nI 1).toNatClampNeg) * (vSn (vs i) + 1) + (vSn (vs i) - (nI 0).toNatClampNeg) < (31 - (nI (tsq (vSn (vs i)) ch nx wo q).2).toNatClampNeg) * (vSn (vs i) + 1) + (vSn (vs i) - (nI st).toNatClampNeg)
            rw [nI_add, nI_clamp (by omega), nI_clamp (by omega), nI_clamp (by omega), nI_clamp (by omega), hmul]
            omega
  · rintro ⟨x, N⟩ ⟨q, b0, b1, b2, b3, b4⟩
    have b1 : x = nI (tsq (vSn (vs i)) ch nx wo q).2 := b1
    subst b1
    have b4 : mZB vs M4 N i t lk σ c (tsq (vSn (vs i)) ch nx wo q).1 Ws := b4
    refine wp_u2 ?_
    have fin : ∀ N' g, mZB vs M4 N' i t lk σ c g Ws ∨ (mmS N' i (vs i) t lk (vTi (vs i) t 0) 0 (-1) ∧ kpM N' (vs i) σ ∧ N'.1 91 33 = 1 ∧ cuM N' c g Ws ∧ fr sZM M4 N') → ∀ v18 : Int32, wp ((jMd_takeBack N').bind fun M17 => some (v18, M17)) (fun r => r.1 = v18 ∧ cuM r.2 c g Ws ∧ mmR r.2 i (vs i) t lk σ ∧ fr sAM M r.2) := by
      intro N' g h v18
      have h : mZB vs M4 N' i t lk σ c g Ws := h.elim id id
      refine wp_bd ((mFinZ h).mono ?_)
      rintro N'' ⟨g1, g2, g3⟩
      exact wp_some ⟨rfl, g2, g1, f4.tr (g3.mono (fun b j h => Or.inl h))⟩
    by_cases hcc : 30 < (tsq (vSn (vs i)) ch nx wo q).2
    · have hcn : ¬ nI (tsq (vSn (vs i)) ch nx wo q).2 ≤ (30 : Int32) := nI_ge (a := 30) hcc (by omega)
      refine wp_bd ?_
      refine (wp_for (Q := fun N' => mZB vs M4 N' i t lk σ c wo Ws) (fun j s => s.1 = nI j ∧ (∃ w, mZB vs M4 s.2 i t lk σ c w Ws) ∧ ∀ j', j' < j → s.2.1 107 j' = nI (wo j')) 6 ⟨rfl, ⟨_, b4⟩, fun j' hj => by omega⟩ ?_ ?_).mono ?_
      · rintro j ⟨y, N1⟩ hj ⟨a1, ⟨w, a2⟩, a3⟩
        have a1 : y = nI j := a1
        subst a1
        have a2 : mZB vs M4 N1 i t lk σ c w Ws := a2
        have a3 : ∀ j', j' < j → N1.1 107 j' = nI (wo j') := a3
        refine wp_u2 ?_
        refine wp_in (nI_ge (b := 6) hj (by omega)) (wp_in hcn ?_)
        have q19 : qrI N1 121 6 (nI j) = some (nI (wo j)) := by rw [qrI_nI hj (by omega), (a2.2.2.2.2 121 j (by unfold sZM sYM; omega)).1, k4 j hj]
        refine wp_be q19 ?_
        refine wp_bd (wp_wI rfl hj (by omega) ?_)
        refine wp_some ⟨nI_1 j, ⟨_, mZ_set a2 (hcu.2.2.1 j hj).2⟩, fun j' hj' => ?_⟩
        show (qI N1 107 j (nI (wo j))).1 107 j' = _
        rw [qI_1]
        by_cases hjj : j' = j
        · rw [if_pos ⟨rfl, hjj⟩, hjj]
        · rw [if_neg (fun e => hjj e.2)]; exact a3 j' (by omega)
      · rintro ⟨y, N1⟩ ⟨a1, ⟨w, a2⟩, a3⟩
        have a1 : y = nI 6 := a1
        subst a1
        have a2 : mZB vs M4 N1 i t lk σ c w Ws := a2
        refine wp_u2 ?_
        exact wp_ip (by decide) (wp_some ⟨a2.1, a2.2.1, a2.2.2.1, ⟨a2.2.2.2.1.1, a2.2.2.2.1.2.1, fun s hs => ⟨a3 s hs, (hcu.2.2.1 s hs).2⟩, a2.2.2.2.1.2.2.2⟩, a2.2.2.2.2⟩)
      · intro N1 a1
        refine wp_bd ?_
        refine (mFinZ a1).mono ?_
        rintro N2 ⟨g1, g2, g3⟩
        refine wp_lt ?_
        intro x18 hx
        rw [if_neg hcn] at hx
        exact wp_some ⟨wo, Or.inr ⟨q, hcc, hx, rfl⟩, g2, g1, f4.tr (g3.mono (fun b j h => Or.inl h))⟩
    · have hcp : nI (tsq (vSn (vs i)) ch nx wo q).2 ≤ (30 : Int32) := nI_le (b := 30) (by omega) (by omega)
      refine wp_bd ?_
      refine (wp_eq (Q := fun N' => N' = N) (qlp_inr (r := N) ?_) rfl).mono ?_
      · simp only [qu2]
        rw [if_neg (by decide), if_pos hcp]
      · rintro N1 rfl
        refine wp_bd ?_
        refine (mFinZ b4).mono ?_
        rintro N2 ⟨g1, g2, g3⟩
        refine wp_lt ?_
        intro x18 hx
        rw [if_pos hcp] at hx
        exact wp_some ⟨_, Or.inl ⟨q, b3.resolve_right hcc, by omega, hx, rfl⟩, g2, g1, f4.tr (g3.mono (fun b j h => Or.inl h))⟩
theorem p_agree {M : qM} {m : Nat} {vs : Nat → vT} {c : Nat} {wo : Nat → Nat} {Ws : Nat → wW} (h : rMK m vs M) (hcC : cuC M c wo Ws) (hcM : cuM M c wo Ws) (e : Int32) : bth (rMKW m vs c Ws) sZC sAM (jTc_agree e) (jMd_agree e) M := by
  have hc6 := hcC.2.1
  have hR : rMKW m vs c Ws M := ⟨h, wo, hcC, hcM⟩
  rcases h with ⟨⟨h1, h2, h3⟩ | ⟨i, t, lk, σ, hi, hi5, hC, hM⟩, hK⟩
  · refine ⟨-1, M, M, ?_, ?_, hR, fr_rf _ _, fr_rf _ _⟩
    · unfold jTc_agree
      by_cases hz : M.1 6 1 = 0
      · rw [if_pos hz]
      · rw [if_neg hz, mbeg_f h1]; rfl
    · unfold jMd_agree; rw [if_pos h2]
  · have hv := hC.1.1.1
    have hs6 := hv.2.1
    have hbM : ¬ M.1 91 33 = 0 := by rw [hM.2.2]; decide
    cases hs : jTc_isSeeds e with
    | false =>
      refine ⟨-1, M, M, ?_, ?_, hR, fr_rf _ _, fr_rf _ _⟩
      · unfold jTc_agree
        by_cases hz' : M.1 6 1 = 0
        · rw [if_pos hz']
        · rw [if_neg hz', mbeg_t hC.1.2.2.2.2.2.2.1, hs]; rfl
      · unfold jMd_agree; rw [if_neg hbM, ← seeds_eq, hs]; rfl
    | true =>
      by_cases hc0 : c = 0
      · refine ⟨-1, M, M, ?_, ?_, hR, fr_rf _ _, fr_rf _ _⟩
        · unfold jTc_agree; rw [if_pos (by rw [hcC.1, hc0]; rfl)]
        · unfold jMd_agree
          rw [if_neg hbM, ← seeds_eq, hs, if_neg (show ¬ b2i true = 0 by decide), if_pos (by rw [hcM.1, hc0]; rfl)]
      · have hc1 : 1 ≤ c := by omega
        obtain ⟨n, hn1, hn, rfl⟩ := seeds_n hs
        obtain ⟨⟨r, M1⟩, e1, g, g1, g2, g3⟩ := agreeC_wp hC hcC hs hn hc1
        have g3 : fr sZC M M1 := g3
        have hM1 := mmR_Z hM g3
        obtain ⟨⟨r', M2⟩, e2, g', g4, g5, g6, g7⟩ := agreeM_wp hM1 (cuM_Z hcM g3) hs hn hc1
        have g7 : fr sAM M1 M2 := g7
        obtain ⟨hr, hg⟩ := tres_uniq (by omega) g1 g4
        have hr : r = r' := hr
        subst hr hg
        refine ⟨r, M1, M2, e1, e2, ⟨⟨Or.inr ⟨i, t, lk, σ, hi, hi5, moR_off (moR_Z hC g3) g7 (fun b j _ _ => by unfold sAM sZM sYM; omega) (fun b j _ _ => by unfold sAM sZM sYM; omega), g6⟩, rKe_off (rKe_Z hK g3) g7 (fun b j _ _ => by unfold sAM sZM sYM; omega) (fun b j _ _ => by unfold sAM sZM sYM; omega) (fun j => by unfold sAM sZM sYM; omega) (fun j _ _ => by unfold sAM sZM sYM; omega) (Or.inl (g7 91 33 (by unfold sAM sZM sYM; omega)).1)⟩, g, cuC_fr g2 g7 (fun b j hb => by unfold sAM sZM sYM; omega), g5⟩, g3, g7⟩
