/-! ===== over seeds: the reference ===== -/
def trm (v : vT) (t nth w p : Nat) (σ : mS) : Int32 := if w = 0 then b2i (hsS v t nth σ p) else if w = 1 then iI (gnS v t nth σ p) else if w = 2 then ltT v t nth σ else b2i (aaS v σ)
theorem allOnce_eq {M : qM} {i : Nat} {v : vT} {t lk nth : Nat} {fo st : Int32} {σ : mS} (hS : mmS M i v t lk nth fo st) (hD : mmD M v σ) : jMd_allAtOnce M = some (aaS v σ) := by
  have hv := hS.1.1
  have h20 := hv.2.2.1
  have hmi := hD.2.2.2.2.2.2.2.2.2
  have key : wp (jMd_allAtOnce M) (fun r => r = aaS v σ) := by
    unfold jMd_allAtOnce
    refine wp_bd (wp_for (fun q x => x = nI q ∧ alB (fun p => decide (sW σ p = 0)) q = true) (vP v) ⟨rfl, rfl⟩ ?_ ?_)
    · rintro q x hq ⟨rfl, h1⟩
      have hb := hD.2.2.2.2.2.1 q (by omega)
      have q4 : qrI M 108 20 (nI q) = some (iI (sW σ q)) := by rw [qrI_nI (by omega) (by omega), (hD.2.2.2.2.1 q (by omega)).1]
      refine wp_be (many_eq hS) ?_
      refine wp_in (nI_ge hq (by omega)) ?_
      refine wp_be q4 ?_
      refine wp_if (fun h0 => ?_) (fun h0 => ?_) <;> rw [show (0 : Int32) = iI 0 from rfl, iI_eq (by omega) (by omega) (by omega) (by omega)] at h0
      · refine wp_some ⟨nI_1 q, ?_⟩
        simp only [alB]
        rw [h1, decide_eq_true h0]
        rfl
      · refine wp_some (wp_se (wp_some ?_))
        have key : ∀ m, q < m → alB (fun p => decide (sW σ p = 0)) m = false := by
          intro m
          induction m with
          | zero => intro h; omega
          | succ m ih =>
            intro h
            simp only [alB]
            by_cases hqm : q = m
            · subst hqm
              rw [decide_eq_false h0, Bool.and_false]
            · rw [ih (by omega), Bool.false_and]
        exact (key (vP v) hq).symm
    · rintro x ⟨rfl, h1⟩
      refine wp_be (many_eq hS) ?_
      exact wp_ip (nI_le (Nat.le_refl _) (by omega)) (wp_some (wp_se (wp_some h1.symm)))
  obtain ⟨r, h1, h2⟩ := key
  rw [h1, h2]
theorem over_wp {M : qM} {i n w p : Nat} {v : vT} {t lk nth : Nat} {fo st a : Int32} {fz : Nat → Bool} {c : Nat} {wo : Nat → Nat} {Ws : Nat → wW} (hn : n ≤ 40) (hw : w < 4) (ha : w < 2 → a = nI p ∧ p < vP v) (hS : mmS M i v t lk nth fo st) (hcu : cuM M c wo Ws) (hf : fzM v fz fo st) :
    wp (jMd_over (nI n) a (nI w) M) (fun r => r.1 = sumF (fun d => trm v t nth w p (finS v t lk nth fz (vlS c wo Ws) (lN d))) n ∧ fr sMm M r.2) := by
  have hv := hS.1.1
  have hpl := (hv.2.2.2.1 t hS.2.2.1).2.1
  unfold jMd_over
  refine wp_bd (wp_for (fun d s => s.1 = sumF (fun d => trm v t nth w p (finS v t lk nth fz (vlS c wo Ws) (lN d))) d ∧ s.2.1 = nI d ∧ fr sMm M s.2.2) n ⟨rfl, rfl, fr_rf _ _⟩ ?_ ?_)
  · rintro d ⟨x, y, N⟩ hd ⟨e1, e2, e3⟩
    have e1 : x = sumF (fun d => trm v t nth w p (finS v t lk nth fz (vlS c wo Ws) (lN d))) d := e1
    have e2 : y = nI d := e2
    subst e1 e2
    have e3 : fr sMm M N := e3
    show wp (qu3 _ _) _
    unfold qu3
    refine wp_in (nI_ge hd (by omega)) ?_
    rw [nI_l (by omega)]
    refine wp_bd ((mWhole_wp (lN d) (mmS_fr hS e3) (sMm_cu hcu e3) hf).mono ?_)
    rintro N1 ⟨g1, g2⟩
    have hS1 := mmS_fr (mmS_fr hS e3) g2
    refine wp_be (fullAt_eq hS1 g1) ?_
    have hsum : sumF (fun d => trm v t nth w p (finS v t lk nth fz (vlS c wo Ws) (lN d))) (d + 1) = sumF (fun d => trm v t nth w p (finS v t lk nth fz (vlS c wo Ws) (lN d))) d + trm v t nth w p (finS v t lk nth fz (vlS c wo Ws) (lN d)) := rfl
    have hlb := lm_b (t := t) (nth := nth) g1.2.2.2.2.2 hv hS.2.2.2.1.1 hpl.1
    generalize finS v t lk nth fz (vlS c wo Ws) (lN d) = σ at *
    have hx9 : wp (if nI w = 0 then (jMd_hasPlace a N1).bind fun r14 => if b2i r14 = 0 then some 0 else some 1 else if nI w = 1 then (jMd_gain a N1).bind fun r13 => some r13 else if nI w = 2 then if iI (lmS v t nth σ) = -1 then some 60 else some (iI (lmS v t nth σ)) else (jMd_allAtOnce N1).bind fun r12 => if b2i r12 = 0 then some 0 else some 1) (fun r => r = trm v t nth w p σ) := by
      have : w = 0 ∨ w = 1 ∨ w = 2 ∨ w = 3 := by omega
      rcases this with rfl | rfl | rfl | rfl
      · obtain ⟨rfl, hp⟩ := ha (by omega)
        rw [show trm v t nth 0 p σ = b2i (hsS v t nth σ p) from rfl]
        refine wp_ip rfl (wp_be (hasM_eq hS1 g1 hp) ?_)
        cases hsS v t nth σ p with
        | false => exact wp_ip (by decide) (wp_some rfl)
        | true => exact wp_in (by decide) (wp_some rfl)
      · obtain ⟨rfl, hp⟩ := ha (by omega)
        rw [show trm v t nth 1 p σ = iI (gnS v t nth σ p) from rfl]
        exact wp_in (by decide) (wp_ip rfl (wp_be (gainM_eq hS1 g1 hp) (wp_some rfl)))
      · rw [show trm v t nth 2 p σ = ltT v t nth σ from rfl]
        refine wp_in (by decide) (wp_in (by decide) (wp_ip rfl ?_))
        unfold ltT
        refine wp_if (fun h => ?_) (fun h => ?_) <;> rw [show (-1 : Int32) = iI (-1) from rfl, iI_eq (by omega) (by omega) (by omega) (by omega)] at h
        · exact wp_some (by rw [if_pos h])
        · exact wp_some (by rw [if_neg h])
      · rw [show trm v t nth 3 p σ = b2i (aaS v σ) from rfl]
        refine wp_in (by decide) (wp_in (by decide) (wp_in (by decide) (wp_be (allOnce_eq hS1 g1) ?_)))
        cases aaS v σ with
        | false => exact wp_ip (by decide) (wp_some rfl)
        | true => exact wp_in (by decide) (wp_some rfl)
    refine wp_bd (hx9.mono ?_)
    rintro r rfl
    exact wp_some ⟨hsum.symm, nI_1 d, e3.tr g2⟩
  · rintro ⟨x, y, N⟩ ⟨e1, e2, e3⟩
    have e2 : y = nI n := e2
    subst e2
    show wp (qu3 _ _) _
    unfold qu3
    exact wp_ip (nI_le (Nat.le_refl _) (by omega)) (wp_some (wp_some ⟨e1, e3⟩))
/-! put aside, and taken back -/
def kpM (M : qM) (v : vT) (σ : mS) : Prop := (∀ p, p < 20 → M.1 111 p = iI (sW σ p) ∧ M.1 111 (20 + p) = iI (cin v σ p) ∧ M.1 111 (40 + p) = iI (sR σ p)) ∧ M.1 91 39 = nI (sMi σ) ∧ M.1 91 40 = nI (sCa σ) ∧ M.1 91 41 = b2i (sOv σ) ∧ M.2.1 91 42 = sD σ ∧ mInv v σ
theorem kpM_off {M M1 : qM} {v : vT} {σ : mS} {S : Nat → Nat → Prop} (h : kpM M v σ) (g : fr S M M1) (h1 : ∀ j, ¬ S 111 j) (h2 : ∀ j, 39 ≤ j → j ≤ 42 → ¬ S 91 j) : kpM M1 v σ := by
  obtain ⟨a1, a2, a3, a4, a5, a6⟩ := h
  exact ⟨fun p hp => by rw [(g 111 p (h1 _)).1, (g 111 (20 + p) (h1 _)).1, (g 111 (40 + p) (h1 _)).1]; exact a1 p hp, by rw [(g 91 39 (h2 39 (by omega) (by omega))).1]; exact a2, by rw [(g 91 40 (h2 40 (by omega) (by omega))).1]; exact a3, by rw [(g 91 41 (h2 41 (by omega) (by omega))).1]; exact a4, by rw [(g 91 42 (h2 42 (by omega) (by omega))).2.1]; exact a5, a6⟩
def sPu (b j : Nat) : Prop := b = 111 ∨ b = 91 ∧ 39 ≤ j ∧ j ≤ 42
theorem putAside_wp {M : qM} {v : vT} {σ : mS} (hD : mmD M v σ) : wp (jMd_putAside M) (fun M' => kpM M' v σ ∧ fr sPu M M') := by
  unfold jMd_putAside
  refine wp_bd ((keepTo_wp (Or.inl rfl)).mono ?_)
  rintro N ⟨g1, g2⟩
  have hN := mmD_off hD g2 (fun b j _ _ => by omega) (fun j _ _ => by omega)
  simp only [qlt, qI_1]
  simp (config := { decide := true }) only [if_false]
  rw [hN.2.1, hN.2.2.1, hN.2.2.2.1]
  have hq : qtb (b2i (sOv σ)) = some (sOv σ) := by cases sOv σ <;> rfl
  refine wp_be hq ?_
  have e35 : (qI (qI (qI N 91 39 (nI (sMi σ))) 91 40 (nI (sCa σ))) 91 41 (b2i (sOv σ))).2.1 91 35 = sD σ := hN.1
  rw [e35]
  have fB : fr (fun b j => b = 91 ∧ 39 ≤ j ∧ j ≤ 42) N (qJ (qI (qI (qI N 91 39 (nI (sMi σ))) 91 40 (nI (sCa σ))) 91 41 (b2i (sOv σ))) 91 42 (sD σ)) := (((fr_I (by omega)).tr (fr_I (by omega))).tr (fr_I (by omega))).tr (fr_J (by omega))
  refine wp_some ⟨⟨fun p hp => ?_, by simp [qJ_1, qI_1], by simp [qJ_1, qI_1], by simp [qJ_1, qI_1], by simp [qJ_21], hD.2.2.2.2.2⟩, (g2.mono (fun b j h => Or.inl h)).tr (fB.mono (fun b j h => Or.inr h))⟩
  rw [(fB 111 p (by omega)).1, (fB 111 (20 + p) (by omega)).1, (fB 111 (40 + p) (by omega)).1, (g1 p hp).1, (g1 p hp).2.1, (g1 p hp).2.2]
  exact hD.2.2.2.2.1 p hp
def sTB (b j : Nat) : Prop := 108 ≤ b ∧ b ≤ 110 ∨ b = 91 ∧ (j = 30 ∨ j = 31 ∨ j = 32 ∨ 34 ≤ j ∧ j ≤ 37)
theorem takeBack_wp {M : qM} {i : Nat} {v : vT} {t lk nth : Nat} {fo st : Int32} {σ : mS} (hS : mmS M i v t lk nth fo st) (hK : kpM M v σ) : wp (jMd_takeBack M) (fun M' => mmS M' i v t lk (vTi v t 0) 0 (-1) ∧ mmD M' v σ ∧ fr sTB M M') := by
  have hT := hS.1.1.2.2.2.1 t hS.2.2.1
  unfold jMd_takeBack
  refine wp_bd ((takeFrom_wp (Or.inl rfl)).mono ?_)
  rintro N ⟨g1, g2⟩
  have hN := kpM_off hK g2 (fun j => by omega) (fun j _ _ => by omega)
  have hSN := mmS_off hS g2 (fun b j _ _ => by omega) (fun j _ _ => by omega)
  simp only [qlt, qI_1]
  simp (config := { decide := true }) only [if_false]
  rw [hN.2.1, hN.2.2.1, hN.2.2.2.1]
  have hq : qtb (b2i (sOv σ)) = some (sOv σ) := by cases sOv σ <;> rfl
  refine wp_be hq ?_
  have e42 : (qI (qI (qI N 91 30 (nI (sMi σ))) 91 31 (nI (sCa σ))) 91 34 (b2i (sOv σ))).2.1 91 42 = sD σ := hN.2.2.2.2.1
  rw [e42]
  have f6 : fr (fun b j => b = 91 ∧ (j = 30 ∨ j = 31 ∨ j = 34 ∨ j = 35)) N (qJ (qI (qI (qI N 91 30 (nI (sMi σ))) 91 31 (nI (sCa σ))) 91 34 (b2i (sOv σ))) 91 35 (sD σ)) := (((fr_I (by omega)).tr (fr_I (by omega))).tr (fr_I (by omega))).tr (fr_J (by omega))
  have e27 : (qJ (qI (qI (qI N 91 30 (nI (sMi σ))) 91 31 (nI (sCa σ))) 91 34 (b2i (sOv σ))) 91 35 (sD σ)).1 91 27 = nI i := by rw [(f6 91 27 (by omega)).1]; exact hSN.2.2.2.2.2.1
  have e28 : (qJ (qI (qI (qI N 91 30 (nI (sMi σ))) 91 31 (nI (sCa σ))) 91 34 (b2i (sOv σ))) 91 35 (sD σ)).1 91 28 = nI t := by rw [(f6 91 28 (by omega)).1]; exact hSN.2.2.2.2.2.2.1
  rw [e27, e28]
  refine wp_be (thingAt_eq (w := 0) (rVM_fr hSN.1 f6 (fun b j _ _ => by omega)) hS.2.1 hS.2.2.1 (by decide)) ?_
  have f9 : fr (fun b j => b = 91 ∧ (j = 30 ∨ j = 31 ∨ j = 32 ∨ 34 ≤ j ∧ j ≤ 37)) N (qI (qI (qI (qJ (qI (qI (qI N 91 30 (nI (sMi σ))) 91 31 (nI (sCa σ))) 91 34 (b2i (sOv σ))) 91 35 (sD σ)) 91 32 (nI (vTi v t 0))) 91 36 0) 91 37 (-1)) := (((f6.mono (fun b j h => by omega)).tr (fr_I (by omega))).tr (fr_I (by omega))).tr (fr_I (by omega))
  refine wp_some ⟨⟨rVM_fr hSN.1 f9 (fun b j _ _ => by omega), hS.2.1, hS.2.2.1, hT.1, hS.2.2.2.2.1, ?_, ?_, ?_, by simp [qJ_1, qI_1], by simp [qJ_1, qI_1], by simp [qJ_1, qI_1]⟩, ⟨?_, by simp [qJ_1, qI_1], by simp [qJ_1, qI_1], by simp [qJ_1, qI_1], fun p hp => ?_, hN.2.2.2.2.2⟩, (g2.mono (fun b j h => Or.inl h)).tr (f9.mono (fun b j h => Or.inr h))⟩
  · rw [(f9 91 27 (by omega)).1]; exact hSN.2.2.2.2.2.1
  · rw [(f9 91 28 (by omega)).1]; exact hSN.2.2.2.2.2.2.1
  · rw [(f9 91 29 (by omega)).1]; exact hSN.2.2.2.2.2.2.2.1
  · show (qJ _ 91 35 (sD σ)).2.1 91 35 = _
    rw [qJ_21, if_pos ⟨rfl, rfl⟩]
  · rw [(f9 108 p (by omega)).1, (f9 109 p (by omega)).1, (f9 110 p (by omega)).1, (g1 p hp).1, (g1 p hp).2.1, (g1 p hp).2.2]
    exact hK.1 p hp
/-! seeds -/
theorem seeds_eq (a : Int32) : jTc_isSeeds a = jMd_areSeeds a := by
  have e1 : (1 : Int32).toInt = 1 := rfl
  have e40 : (40 : Int32).toInt = 40 := rfl
  unfold jMd_areSeeds
  rw [Bool.eq_iff_iff, in_iff]
  unfold jTc_isSeeds qlt
  simp only [i_lt, e1, e40]
  by_cases h1 : a.toInt < 1
  · simp [h1]; omega
  · by_cases h2 : 40 < a.toInt
    · simp [h1, h2]
    · simp [h1, h2]; omega
theorem seeds_n {a : Int32} (h : jTc_isSeeds a = true) : ∃ n, 1 ≤ n ∧ n ≤ 40 ∧ a = nI n := by
  have e1 : (1 : Int32).toInt = 1 := rfl
  have e40 : (40 : Int32).toInt = 40 := rfl
  rw [seeds_eq] at h
  unfold jMd_areSeeds at h
  rw [in_iff] at h
  refine ⟨a.toInt.toNat, by omega, by omega, ?_⟩
  rw [← iI_nat (show 0 ≤ a.toInt by omega)]
  exact iI_of a
theorem takeAfter_wp {M : qM} {i : Nat} {v : vT} {t lk : Nat} {σ : mS} (h : moR M 33 i v t lk σ) : wp (jTa_takeAfter 33 M) (fun M' => moS M' 42 (71 + 4 * i) v t lk (vTi v t 0) (-1) (-1) ∧ fr (fun b j => b = 42 ∧ j < 7) M M') := by
  unfold jTa_takeAfter
  refine wp_be h.1.2.2.2.2.2.2.1 ?_
  rw [h.1.2.2.2.2.2.2.2.1, h.1.2.2.2.2.2.2.2.2.1]
  refine wp_bd ((beOf_wp (Or.inr (Or.inr rfl)) h.1.1 h.1.2.1 h.1.2.2.1 h.1.2.2.2.1 h.1.2.2.2.2.2.1).mono ?_)
  rintro M1 h1
  exact wp_some h1
/-- the tally's cells; nothing else of the class -/
def sYC (b j : Nat) : Prop := 41 ≤ b ∧ b ≤ 48 ∨ b = 10 ∨ b = 11
def sYM (b j : Nat) : Prop := b = 91 ∧ (j = 29 ∨ 30 ≤ j ∧ j ≤ 32 ∨ 34 ≤ j ∧ j ≤ 37 ∨ 39 ≤ j ∧ j ≤ 42 ∨ j = 68) ∨ b = 100 ∨ b = 101 ∨ 108 ≤ b ∧ b ≤ 111
theorem sTa_Y {M M1 : qM} (g : fr sTa M M1) : fr sYC M M1 := g.mono (fun b j h => by unfold sTa sMo at h; unfold sYC; omega)
theorem sMm_Y {M M1 : qM} (g : fr sMm M M1) : fr sYM M M1 := g.mono (fun b j h => by unfold sMm at h; unfold sYM; omega)
theorem sTB_Y {M M1 : qM} (g : fr sTB M M1) : fr sYM M M1 := g.mono (fun b j h => by unfold sTB at h; unfold sYM; omega)
theorem sPu_Y {M M1 : qM} (g : fr sPu M M1) : fr sYM M M1 := g.mono (fun b j h => by unfold sPu at h; unfold sYM; omega)
theorem cu_Y {M M1 : qM} {c : Nat} {wo : Nat → Nat} {Ws : Nat → wW} (h : cuC M c wo Ws) (g : fr sYC M M1) : cuC M1 c wo Ws := cuC_fr h g (fun b j hb => by unfold sYC; omega)
theorem cuM_Y {M M1 : qM} {c : Nat} {wo : Nat → Nat} {Ws : Nat → wW} (h : cuM M c wo Ws) (g : fr sYM M M1) : cuM M1 c wo Ws := cuM_fr h g (fun b j hb => by unfold sYM; omega)
theorem cuM_C {M M1 : qM} {c : Nat} {wo : Nat → Nat} {Ws : Nat → wW} (h : cuM M c wo Ws) (g : fr sYC M M1) : cuM M1 c wo Ws := cuM_fr h g (fun b j hb => by unfold sYC; omega)
theorem moR_Y {M M1 : qM} {i : Nat} {v : vT} {t lk : Nat} {σ : mS} (h : moR M 33 i v t lk σ) (g : fr sYC M M1) : moR M1 33 i v t lk σ := moR_off h g (fun b j _ _ => by unfold sYC; omega) (fun b j _ _ => by unfold sYC; omega)
theorem mmR_Y {M M1 : qM} {i : Nat} {v : vT} {t lk : Nat} {σ : mS} (h : mmR M i v t lk σ) (g : fr sYC M M1) : mmR M1 i v t lk σ := mmR_off h g (fun b j _ _ => by unfold sYC; omega) (fun j _ _ => by unfold sYC; omega)
theorem rKe_Y {M M1 : qM} {n : Nat} {vs : Nat → vT} (h : rKe n vs M) (g : fr sYC M M1) : rKe n vs M1 := rKe_off h g (fun b j _ _ => by unfold sYC; omega) (fun b j _ _ => by unfold sYC; omega) (fun j => by unfold sYC; omega) (fun j _ _ => by unfold sYC; omega) (Or.inl (g 91 33 (by simp [sYC])).1)
theorem rKe_YM {M M1 : qM} {n : Nat} {vs : Nat → vT} (h : rKe n vs M) (g : fr sYM M M1) : rKe n vs M1 := rKe_off h g (fun b j _ _ => by unfold sYM; omega) (fun b j _ _ => by unfold sYM; omega) (fun j => by unfold sYM; omega) (fun j _ _ => by unfold sYM; omega) (Or.inl (g 91 33 (by simp [sYM])).1)
theorem moR_YM {M M1 : qM} {i : Nat} {v : vT} {t lk : Nat} {σ : mS} (h : moR M 33 i v t lk σ) (g : fr sYM M M1) : moR M1 33 i v t lk σ := moR_off h g (fun b j _ _ => by unfold sYM; omega) (fun b j _ _ => by unfold sYM; omega)
