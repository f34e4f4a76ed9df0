/-! ===== those who wait decide ===== -/
theorem drw_ex : ∃ f : Int64 → Int64, ∀ d, f d = d * 6364136223846793005 + 1442695040888963407 := ⟨_, fun _ => rfl⟩
noncomputable def drw : Int64 → Int64 := Classical.choose drw_ex
theorem drw_eq (d : Int64) : drw d = d * 6364136223846793005 + 1442695040888963407 := Classical.choose_spec drw_ex d
theorem dten_ex : ∃ f : Int64 → Int32, ∀ d : Int64, f d = ((((d : Int64).toUInt64 >>> ((33 : Int32).toInt64.toUInt64 &&& Int64.toUInt64 63)).toInt64) - (((d : Int64).toUInt64 >>> ((33 : Int32).toInt64.toUInt64 &&& Int64.toUInt64 63)).toInt64) / 10 * 10 : Int64).toInt32 := ⟨_, fun _ => rfl⟩
noncomputable def dten : Int64 → Int32 := Classical.choose dten_ex
theorem dten_eq (d : Int64) : dten d = ((((d : Int64).toUInt64 >>> ((33 : Int32).toInt64.toUInt64 &&& Int64.toUInt64 63)).toInt64) - (((d : Int64).toUInt64 >>> ((33 : Int32).toInt64.toUInt64 &&& Int64.toUInt64 63)).toInt64) / 10 * 10 : Int64).toInt32 := Classical.choose_spec dten_ex d
def sndW (σ : mS) (p : Nat) : mS := (upI (sW σ) p (sMi σ), sR σ, sO σ, sMi σ, sCa σ, sD σ, sOv σ)
def setD (σ : mS) (d : Int64) : mS := (sW σ, sR σ, sO σ, sMi σ, sCa σ, d, sOv σ)
def snd1 (v : vT) (σ : mS) (p : Nat) : mS := if vdi v p = 0 then rcv (sndW σ p) p else sndW σ p
def ltS (v : vT) (t lk nth : Nat) (σ : mS) (s : Nat) (j : Nat) : Int32 :=
  if j = 0 then nI (sMi σ) else if j = 1 then nI (sCa σ) else if j = 2 then (if lk = 0 then 0 else nI (onw v σ)) else if j = 3 then nI nth else if j = 4 then nI (wtS v σ s - 1) else if j = 5 then nI (wtn v σ - 1) else if j = 6 then nI (vTi v t 2 - vTi v t 3 * sMi σ) else nI (vSi v s 2)
noncomputable def goS (v : vT) (t lk nth : Nat) (fz : Nat → Bool) (vl : Nat → (Nat → Int32) → Int32) (σ : mS) (p : Nat) : Bool × mS :=
  if fz p = true then (true, σ) else (decide (dten (drw (sD σ)) < vl (vof v p) (ltS v t lk nth σ (vof v p))), setD σ (drw (sD σ)))
noncomputable def dec1 (v : vT) (t lk nth : Nat) (fz : Nat → Bool) (vl : Nat → (Nat → Int32) → Int32) (σ : mS) (p : Nat) : mS :=
  if sW σ p = -1 ∧ hadF (vTi v t 1) nth (sCa σ) < vTi v t 1 then (if (goS v t lk nth fz vl σ p).1 = true then snd1 v (goS v t lk nth fz vl σ p).2 p else (goS v t lk nth fz vl σ p).2) else σ
noncomputable def decN (v : vT) (t lk nth : Nat) (fz : Nat → Bool) (vl : Nat → (Nat → Int32) → Int32) (σ : mS) : Nat → mS
  | 0 => σ
  | p + 1 => dec1 v t lk nth fz vl (decN v t lk nth fz vl σ p) p
theorem wait_r {v : vT} {σ : mS} (h : mInv v σ) {p : Nat} (hp : p < 20) (hw : sW σ p = -1) : sR σ p = -1 := by
  have := (h.1 p hp).2.2
  omega
theorem sndW_inv {v : vT} {σ : mS} {p : Nat} (h : mInv v σ) (hp : p < 20) (hw : sW σ p = -1) : mInv v (sndW σ p) := by
  have hr := wait_r h hp hw
  obtain ⟨a1, a2, a3, a4, a5⟩ := h
  refine ⟨fun q hq => ?_, a2, a3, a4, a5⟩
  have := a1 q hq
  show -1 ≤ upI (sW σ) p (sMi σ) q ∧ upI (sW σ) p (sMi σ) q ≤ sMi σ ∧ (sR σ q = -1 ∨ 1 ≤ sR σ q ∧ sR σ q ≤ sCa σ ∧ 0 ≤ upI (sW σ) p (sMi σ) q)
  unfold upI
  by_cases hqp : q = p
  · subst hqp
    rw [if_pos rfl]
    exact ⟨by omega, by omega, Or.inl hr⟩
  · rw [if_neg hqp]
    exact this
theorem sndW_cin {v : vT} {σ : mS} {p : Nat} (hr : sR σ p = -1) (q : Nat) : cin v (sndW σ p) q = cin v σ q := by
  unfold cin
  show (if sR σ q = -1 then -1 else upI (sW σ) p (sMi σ) q + vdi v q) = _
  unfold upI
  by_cases hqp : q = p
  · subst hqp
    rw [if_pos hr, if_pos hr]
  · rw [if_neg hqp]
theorem sndW_lm {v : vT} {σ : mS} {p t nth : Nat} (hr : sR σ p = -1) : lmS v t nth (sndW σ p) = lmS v t nth σ ∧ lpS v t nth (sndW σ p) = lpS v t nth σ := by
  refine ⟨?_, rfl⟩
  unfold lmS
  rw [sndW_cin hr]
  rfl
theorem sndW_wt {v : vT} {σ : mS} {p : Nat} (hp : p < vP v) (hw : sW σ p = -1) (hm : 0 ≤ (sMi σ : Int)) : wtn v σ = wtn v (sndW σ p) + 1 ∧ (∀ s, wtS v σ s = wtS v (sndW σ p) s + if s = vof v p then 1 else 0) ∧ 1 ≤ wtS v σ (vof v p) := by
  have eo : ∀ i, ¬ i = p → sW (sndW σ p) i = sW σ i := by
    intro i hi
    show upI (sW σ) p (sMi σ) i = _
    unfold upI
    rw [if_neg hi]
  have ep : sW (sndW σ p) p = sMi σ := by
    show upI (sW σ) p (sMi σ) p = _
    unfold upI
    rw [if_pos rfl]
  have h1 : wtn v σ = wtn v (sndW σ p) + 1 := by
    unfold wtn
    refine cnt_upd hp (fun i hi => ?_) ?_ ?_
    · exact decide_eq_decide.mpr (by rw [eo i hi])
    · exact decide_eq_false (by rw [ep]; omega)
    · exact decide_eq_true hw
  have h2 : ∀ s, wtS v σ s = wtS v (sndW σ p) s + if s = vof v p then 1 else 0 := by
    intro s
    unfold wtS
    by_cases hs : s = vof v p
    · rw [if_pos hs]
      refine cnt_upd hp (fun i hi => ?_) ?_ ?_
      · exact decide_eq_decide.mpr (by rw [eo i hi])
      · exact decide_eq_false (by rw [ep]; omega)
      · exact decide_eq_true ⟨hw, hs.symm⟩
    · rw [if_neg hs, Nat.add_zero]
      refine cnt_congr (fun i hi => ?_)
      by_cases hip : i = p
      · subst hip
        exact decide_eq_decide.mpr ⟨fun e => absurd e.2.symm hs, fun e => absurd e.2.symm hs⟩
      · exact decide_eq_decide.mpr (by rw [eo i hip])
  refine ⟨h1, h2, ?_⟩
  have := h2 (vof v p)
  rw [if_pos rfl] at this
  omega
theorem send_wp {M : qM} {k kv : Nat} {v : vT} {t lk nth p : Nat} {se sr : Int32} {σ : mS} (hk : mok k) (hS : moS M k kv v t lk nth se sr) (hD : moD M k v t nth σ) (hp : p < vP v) (hw : sW σ p = -1) :
    wp (jMo_send k (nI p) (nI (vof v p)) M) (fun M' => moD M' k v t nth (snd1 v σ p) ∧ fr (sMo k) M M') := by
  have hv := hS.1.1
  have h20 := hv.2.2.1
  have hs6 := hv.2.1
  obtain ⟨d1, d2, d3, d4, d5, d6, d7, d8, d9, d10, d11⟩ := hD
  have hr := wait_r d11 (show p < 20 by omega) hw
  have hvo := (vof_spec hp).1
  have hinv := sndW_inv d11 (show p < 20 by omega) hw
  obtain ⟨w1, w2, w3'⟩ := sndW_wt (σ := σ) hp hw (by omega)
  have hlm := sndW_lm (v := v) (t := t) (nth := nth) hr
  unfold jMo_send
  rw [d2]
  refine wp_bd (wp_wI rfl (show p < 20 by omega) (by omega) ?_)
  refine wp_lt ?_
  rintro _ rfl
  have e10 : (qI M (k + 1) p (nI (sMi σ))).1 k 10 - 1 = nI (wtn v (sndW σ p)) := by
    rw [qI_1, if_neg (by omega), d4, w1]; exact nI_pred _
  rw [e10]
  have e3 : qrI (qI (qI M (k + 1) p (nI (sMi σ))) k 10 (nI (wtn v (sndW σ p)))) (k + 3) 6 (nI (vof v p)) = some (nI (wtS v σ (vof v p))) := by
    rw [qrI_nI (by omega) (by omega), qI_1, if_neg (by omega), qI_1, if_neg (by omega), d10 _ hvo]
  refine wp_be e3 ?_
  have e4 : nI (wtS v σ (vof v p)) - 1 = nI (wtS v (sndW σ p) (vof v p)) := by
    have := w2 (vof v p)
    rw [if_pos rfl] at this
    rw [this]; exact nI_pred _
  rw [e4]
  refine wp_bd (wp_wI rfl (show vof v p < 6 by omega) (by omega) ?_)
  have fr1 : fr (sMo k) M (qI (qI (qI M (k + 1) p (nI (sMi σ))) k 10 (nI (wtn v (sndW σ p)))) (k + 3) (vof v p) (nI (wtS v (sndW σ p) (vof v p)))) := ((fr_I (by unfold sMo; omega)).tr (fr_I (by unfold sMo; omega))).tr (fr_I (by unfold sMo; omega))
  have hD1 : moD (qI (qI (qI M (k + 1) p (nI (sMi σ))) k 10 (nI (wtn v (sndW σ p)))) (k + 3) (vof v p) (nI (wtS v (sndW σ p) (vof v p)))) k v t nth (sndW σ p) := by
    refine ⟨d1, ?_, ?_, ?_, ?_, ?_, ?_, ?_, fun q hq => ⟨?_, ?_⟩, fun s hs => ?_, hinv⟩
    · rw [qI_1, if_neg (by omega), qI_1, if_neg (by omega), qI_1, if_neg (by omega)]; exact d2
    · rw [qI_1, if_neg (by omega), qI_1, if_neg (by omega), qI_1, if_neg (by omega)]; exact d3
    · rw [qI_1, if_neg (by omega), qI_1, if_pos ⟨rfl, rfl⟩]
    · rw [qI_1, if_neg (by omega), qI_1, if_neg (by omega), qI_1, if_neg (by omega)]; exact d5
    · rw [qI_1, if_neg (by omega), qI_1, if_neg (by omega), qI_1, if_neg (by omega)]; exact d6
    · rw [qI_1, if_neg (by omega), qI_1, if_neg (by omega), qI_1, if_neg (by omega), hlm.1]; exact d7
    · rw [qI_1, if_neg (by omega), qI_1, if_neg (by omega), qI_1, if_neg (by omega), hlm.2]; exact d8
    · rw [qI_1, if_neg (by omega), qI_1, if_neg (by omega), qI_1]
      show _ = iI (upI (sW σ) p (sMi σ) q)
      unfold upI
      by_cases hqp : q = p
      · rw [if_pos ⟨rfl, hqp⟩, if_pos hqp, nI_iI]
      · rw [if_neg (fun e => hqp e.2), if_neg hqp]; exact (d9 q hq).1
    · rw [qI_1, if_neg (by omega), qI_1, if_neg (by omega), qI_1, if_neg (by omega)]; exact (d9 q hq).2
    · have h2 := w2 s
      rw [qI_1]
      by_cases hsv : s = vof v p
      · rw [if_pos ⟨rfl, hsv⟩, hsv]
      · rw [if_neg hsv, Nat.add_zero] at h2
        rw [if_neg (fun e => hsv e.2), qI_1, if_neg (by omega), qI_1, if_neg (by omega), ← h2]; exact d10 s hs
  have hS1 := moS_fr hk hS fr1
  generalize qI (qI (qI M (k + 1) p (nI (sMi σ))) k 10 (nI (wtn v (sndW σ p)))) (k + 3) (vof v p) (nI (wtS v (sndW σ p) (vof v p))) = N at *
  refine wp_be hS1.2.2.2.2.2.2.1 ?_
  refine wp_be (ofSort_eq (w := 1) hS1.1 hvo (by decide)) ?_
  have hvd := vdi_le hv hp
  unfold vdi at hvd
  unfold snd1 vdi
  refine wp_bd ?_
  refine wp_if (fun hz => ?_) (fun hz => ?_)
  · have hz : vSi v (vof v p) 1 = 0 := (nI_eq (b := 0) (by omega) (by omega)).mp hz
    rw [if_pos hz]
    have hself : sW (sndW σ p) p = sMi σ := by
      show upI (sW σ) p (sMi σ) p = _
      simp [upI]
    refine wp_bd ((receive_wp hk hS1 hD1 hp hr (by rw [hself]; omega) (by rw [hself]; unfold vdi; rw [hz]; show (sMi σ : Int) + 0 = sMi σ; omega)).mono ?_)
    rintro N1 ⟨g1, g2⟩
    exact wp_some (wp_some ⟨g1, fr1.tr g2⟩)
  · rw [if_neg (fun e => hz (by rw [e]; rfl))]
    exact wp_some (wp_some ⟨hD1, fr1⟩)
/-- the letters -/
theorem moD_fr {M M1 : qM} {k : Nat} {v : vT} {t nth : Nat} {σ : mS} (hk : mok k) (h : moD M k v t nth σ) (g : fr (fun b _ => b = 10 ∨ b = 11) M M1) : moD M1 k v t nth σ := by
  obtain ⟨d1, d2, d3, d4, d5, d6, d7, d8, d9, d10, d11⟩ := h
  have hk0 : ∀ b, 33 ≤ b → ¬ (b = 10 ∨ b = 11) := fun b hb => by omega
  have hk33 : 33 ≤ k := by unfold mok at hk; omega
  refine ⟨by rw [(g k 7 (hk0 k hk33)).2.1]; exact d1, by rw [(g k 8 (hk0 k hk33)).1]; exact d2, by rw [(g k 9 (hk0 k hk33)).1]; exact d3, by rw [(g k 10 (hk0 k hk33)).1]; exact d4, by rw [(g k 11 (hk0 k hk33)).1]; exact d5, by rw [(g k 12 (hk0 k hk33)).1]; exact d6, by rw [(g k 13 (hk0 k hk33)).1]; exact d7, by rw [(g k 14 (hk0 k hk33)).1]; exact d8, fun q hq => ?_, fun s hs => ?_, d11⟩
  · rw [(g (k + 1) q (hk0 _ (by omega))).1, (g (k + 2) q (hk0 _ (by omega))).1]; exact d9 q hq
  · rw [(g (k + 3) s (hk0 _ (by omega))).1]; exact d10 s hs
theorem spell_wp {M : qM} {k kv : Nat} {v : vT} {t lk nth s : Nat} {se sr : Int32} {σ : mS} (hk : mok k) (hS : moS M k kv v t lk nth se sr) (hD : moD M k v t nth σ) (hs : s < vSn v) (h1 : 1 ≤ wtS v σ s) (h2 : 1 ≤ wtn v σ) :
    wp (jMo_spell k (nI s) M) (fun M' => (∀ j, j < 8 → M'.1 10 j = ltS v t lk nth σ s j) ∧ fr (fun b _ => b = 10) M M') := by
  have hv := hS.1.1
  have h20 := hv.2.2.1
  have hs6 := hv.2.1
  have hk33 : 33 ≤ k ∧ k ≤ 42 := by unfold mok at hk; omega
  have hin := hD.2.2.2.2.2.2.2.2.2.2
  have hw3 := w3 hin hv
  have hmi := hin.2.2.2.2
  have hlk := hS.2.2.2.2.2.1
  -- while the letters alone change
  have S1 : ∀ N, fr (fun b _ => b = 10) M N → moS N k kv v t lk nth se sr ∧ moD N k v t nth σ := by
    intro N g
    exact ⟨moS_fr hk hS (g.mono (fun b j h => by unfold sMo; omega)), moD_fr hk hD (g.mono (fun b j h => Or.inl h))⟩
  have step : ∀ (N : qM) (i : Nat) (x : Int32), fr (fun b _ => b = 10) M N → i < 8 → qwI N 10 8 (nI i) x = some (qI N 10 i x) := fun N i x _ hi => qwI_nI hi (by omega)
  have fI : ∀ (N : qM) (i : Nat) (x : Int32), fr (fun b _ => b = 10) M N → fr (fun b _ => b = 10) M (qI N 10 i x) := fun N i x g => g.tr (fr_I rfl)
  unfold jMo_spell
  have g0 : fr (fun b _ => b = 10) M M := fr_rf _ _
  refine wp_be (step M 0 _ g0 (by omega)) ?_
  rw [hD.2.1]
  have g1 := fI M 0 (nI (sMi σ)) g0
  generalize hN1 : qI M 10 0 (nI (sMi σ)) = N1 at *
  have l0 : N1.1 10 0 = nI (sMi σ) := by rw [← hN1, qI_1, if_pos ⟨rfl, rfl⟩]
  refine wp_be (step N1 1 _ g1 (by omega)) ?_
  rw [(S1 N1 g1).2.2.2.1]
  have g2 := fI N1 1 (nI (sCa σ)) g1
  generalize hN2 : qI N1 10 1 (nI (sCa σ)) = N2 at *
  have l1 : N2.1 10 1 = nI (sCa σ) := by rw [← hN2, qI_1, if_pos ⟨rfl, rfl⟩]
  have l0 : N2.1 10 0 = nI (sMi σ) := by rw [← hN2, qI_1, if_neg (by omega)]; exact l0
  have hx3 : wp (if N2.1 k 2 = 0 then some 0 else (jMo_underway k N2).bind fun r15 => some r15) (fun x => x = if lk = 0 then 0 else nI (onw v σ)) := by
    obtain ⟨s2, t2⟩ := S1 N2 g2
    rw [s2.2.2.2.2.2.2.2.2.1]
    refine wp_if (fun hz => ?_) (fun hz => ?_)
    · have hz : lk = 0 := (nI_eq (b := 0) (by omega) (by omega)).mp hz
      exact wp_some (by rw [if_pos hz])
    · have hu : jMo_underway k N2 = some (nI (onw v σ)) := by
        unfold jMo_underway
        rw [s2.2.2.2.2.2.2.1]
        simp only [Option.bind_some]
        rw [s2.1.2.2.2.1, t2.2.2.2.1, t2.2.2.1, nI_subE (by omega), nI_subE (by omega)]
        congr 2
        omega
      refine wp_be hu (wp_some ?_)
      rw [if_neg (fun e => hz (by rw [e]; rfl))]
  refine wp_bd (hx3.mono ?_)
  rintro x3 rfl
  refine wp_be (step N2 2 _ g2 (by omega)) ?_
  have g3 := fI N2 2 (if lk = 0 then 0 else nI (onw v σ)) g2
  generalize hN3 : qI N2 10 2 (if lk = 0 then 0 else nI (onw v σ)) = N3 at *
  have l2 : N3.1 10 2 = if lk = 0 then 0 else nI (onw v σ) := by rw [← hN3, qI_1, if_pos ⟨rfl, rfl⟩]
  have l1 : N3.1 10 1 = nI (sCa σ) := by rw [← hN3, qI_1, if_neg (by omega)]; exact l1
  have l0 : N3.1 10 0 = nI (sMi σ) := by rw [← hN3, qI_1, if_neg (by omega)]; exact l0
  refine wp_be (step N3 3 _ g3 (by omega)) ?_
  rw [(S1 N3 g3).1.2.2.2.2.2.2.2.2.2.1]
  have g4 := fI N3 3 (nI nth) g3
  generalize hN4 : qI N3 10 3 (nI nth) = N4 at *
  have l3 : N4.1 10 3 = nI nth := by rw [← hN4, qI_1, if_pos ⟨rfl, rfl⟩]
  have l2 : N4.1 10 2 = if lk = 0 then 0 else nI (onw v σ) := by rw [← hN4, qI_1, if_neg (by omega)]; exact l2
  have l1 : N4.1 10 1 = nI (sCa σ) := by rw [← hN4, qI_1, if_neg (by omega)]; exact l1
  have l0 : N4.1 10 0 = nI (sMi σ) := by rw [← hN4, qI_1, if_neg (by omega)]; exact l0
  have q6 : qrI N4 (k + 3) 6 (nI s) = some (nI (wtS v σ s)) := by rw [qrI_nI (by omega) (by omega), (S1 N4 g4).2.2.2.2.2.2.2.2.2.2.1 s hs]
  refine wp_be q6 ?_
  rw [show nI (wtS v σ s) - 1 = nI (wtS v σ s - 1) from nI_subE h1]
  refine wp_be (step N4 4 _ g4 (by omega)) ?_
  have g5 := fI N4 4 (nI (wtS v σ s - 1)) g4
  generalize hN5 : qI N4 10 4 (nI (wtS v σ s - 1)) = N5 at *
  have l4 : N5.1 10 4 = nI (wtS v σ s - 1) := by rw [← hN5, qI_1, if_pos ⟨rfl, rfl⟩]
  have l3 : N5.1 10 3 = nI nth := by rw [← hN5, qI_1, if_neg (by omega)]; exact l3
  have l2 : N5.1 10 2 = if lk = 0 then 0 else nI (onw v σ) := by rw [← hN5, qI_1, if_neg (by omega)]; exact l2
  have l1 : N5.1 10 1 = nI (sCa σ) := by rw [← hN5, qI_1, if_neg (by omega)]; exact l1
  have l0 : N5.1 10 0 = nI (sMi σ) := by rw [← hN5, qI_1, if_neg (by omega)]; exact l0
  rw [(S1 N5 g5).2.2.2.2.1, show nI (wtn v σ) - 1 = nI (wtn v σ - 1) from nI_subE h2]
  refine wp_be (step N5 5 _ g5 (by omega)) ?_
  have g6 := fI N5 5 (nI (wtn v σ - 1)) g5
  generalize hN6 : qI N5 10 5 (nI (wtn v σ - 1)) = N6 at *
  have l5 : N6.1 10 5 = nI (wtn v σ - 1) := by rw [← hN6, qI_1, if_pos ⟨rfl, rfl⟩]
  have l4 : N6.1 10 4 = nI (wtS v σ s - 1) := by rw [← hN6, qI_1, if_neg (by omega)]; exact l4
  have l3 : N6.1 10 3 = nI nth := by rw [← hN6, qI_1, if_neg (by omega)]; exact l3
  have l2 : N6.1 10 2 = if lk = 0 then 0 else nI (onw v σ) := by rw [← hN6, qI_1, if_neg (by omega)]; exact l2
  have l1 : N6.1 10 1 = nI (sCa σ) := by rw [← hN6, qI_1, if_neg (by omega)]; exact l1
  have l0 : N6.1 10 0 = nI (sMi σ) := by rw [← hN6, qI_1, if_neg (by omega)]; exact l0
  obtain ⟨s6, t6⟩ := S1 N6 g6
  refine wp_be s6.2.2.2.2.2.2.1 ?_
  rw [s6.2.2.2.2.2.2.2.1, t6.2.1]
  refine wp_be (worthIn_eq s6.1 hS.2.2.2.1 (by omega)) ?_
  refine wp_be (step N6 6 _ g6 (by omega)) ?_
  have g7 := fI N6 6 (nI (vTi v t 2 - vTi v t 3 * sMi σ)) g6
  generalize hN7 : qI N6 10 6 (nI (vTi v t 2 - vTi v t 3 * sMi σ)) = N7 at *
  have l6 : N7.1 10 6 = nI (vTi v t 2 - vTi v t 3 * sMi σ) := by rw [← hN7, qI_1, if_pos ⟨rfl, rfl⟩]
  have l5 : N7.1 10 5 = nI (wtn v σ - 1) := by rw [← hN7, qI_1, if_neg (by omega)]; exact l5
  have l4 : N7.1 10 4 = nI (wtS v σ s - 1) := by rw [← hN7, qI_1, if_neg (by omega)]; exact l4
  have l3 : N7.1 10 3 = nI nth := by rw [← hN7, qI_1, if_neg (by omega)]; exact l3
  have l2 : N7.1 10 2 = if lk = 0 then 0 else nI (onw v σ) := by rw [← hN7, qI_1, if_neg (by omega)]; exact l2
  have l1 : N7.1 10 1 = nI (sCa σ) := by rw [← hN7, qI_1, if_neg (by omega)]; exact l1
  have l0 : N7.1 10 0 = nI (sMi σ) := by rw [← hN7, qI_1, if_neg (by omega)]; exact l0
  obtain ⟨s7, t7⟩ := S1 N7 g7
  refine wp_be s7.2.2.2.2.2.2.1 ?_
  refine wp_be (ofSort_eq (w := 2) s7.1 hs (by decide)) ?_
  refine wp_be (step N7 7 _ g7 (by omega)) ?_
  have g8 := fI N7 7 (nI (vSi v s 2)) g7
  refine wp_some ⟨fun j hj => ?_, g8⟩
  have : j = 0 ∨ j = 1 ∨ j = 2 ∨ j = 3 ∨ j = 4 ∨ j = 5 ∨ j = 6 ∨ j = 7 := by omega
  rcases this with rfl | rfl | rfl | rfl | rfl | rfl | rfl | rfl
  · rw [qI_1, if_neg (by omega), l0]; rfl
  · rw [qI_1, if_neg (by omega), l1]; rfl
  · rw [qI_1, if_neg (by omega), l2]; rfl
  · rw [qI_1, if_neg (by omega), l3]; rfl
  · rw [qI_1, if_neg (by omega), l4]; rfl
  · rw [qI_1, if_neg (by omega), l5]; rfl
  · rw [qI_1, if_neg (by omega), l6]; rfl
  · rw [qI_1, if_pos ⟨rfl, rfl⟩]; rfl
