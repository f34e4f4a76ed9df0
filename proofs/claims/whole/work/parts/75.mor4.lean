/-! ===== the ways there are, and who has which ===== -/
def cuC (M : qM) (c : Nat) (wo : Nat → Nat) (Ws : Nat → wW) : Prop := M.1 6 1 = nI c ∧ c ≤ 6 ∧ (∀ s, s < 6 → M.1 8 s = nI (wo s) ∧ wo s < 6) ∧ ∀ i, i < c → rWC M (12 + 3 * i) (Ws i)
def cuM (M : qM) (c : Nat) (wo : Nat → Nat) (Ws : Nat → wW) : Prop := M.1 91 13 = nI c ∧ c ≤ 6 ∧ (∀ s, s < 6 → M.1 107 s = nI (wo s) ∧ wo s < 6) ∧ ∀ i, i < c → rWM M i (Ws i)
noncomputable def vlS (c : Nat) (wo : Nat → Nat) (Ws : Nat → wW) (s : Nat) (lt : Nat → Int32) : Int32 := if wo s < c then wval lt (Ws (wo s)) else 0
theorem cuC_fr {M M1 : qM} {c : Nat} {wo : Nat → Nat} {Ws : Nat → wW} {S : Nat → Nat → Prop} (h : cuC M c wo Ws) (g : fr S M M1) (h1 : ∀ b j, (b = 6 ∧ j = 1) ∨ b = 8 ∨ 12 ≤ b ∧ b ≤ 32 → ¬ S b j) : cuC M1 c wo Ws := by
  obtain ⟨a1, a2, a3, a4⟩ := h
  refine ⟨by rw [(g 6 1 (h1 6 1 (Or.inl ⟨rfl, rfl⟩))).1]; exact a1, a2, fun s hs => by rw [(g 8 s (h1 8 s (Or.inr (Or.inl rfl)))).1]; exact a3 s hs, fun i hi => rWC_fr (a4 i hi) g (fun b j h2 h3 => h1 b j (by omega))⟩
theorem cuM_fr {M M1 : qM} {c : Nat} {wo : Nat → Nat} {Ws : Nat → wW} {S : Nat → Nat → Prop} (h : cuM M c wo Ws) (g : fr S M M1) (h1 : ∀ b j, (b = 91 ∧ j = 13) ∨ b = 107 ∨ 93 ≤ b ∧ b ≤ 99 → ¬ S b j) : cuM M1 c wo Ws := by
  obtain ⟨a1, a2, a3, a4⟩ := h
  refine ⟨by rw [(g 91 13 (h1 91 13 (Or.inl ⟨rfl, rfl⟩))).1]; exact a1, a2, fun s hs => by rw [(g 107 s (h1 107 s (Or.inr (Or.inl rfl)))).1]; exact a3 s hs, fun i hi => rWM_fr (a4 i hi) g (fun b j h2 h3 => h1 b j (Or.inr (Or.inr ⟨h2, h3⟩)))⟩
theorem usedBy_eq {M : qM} {c : Nat} {wo : Nat → Nat} {Ws : Nat → wW} (h : cuC M c wo Ws) {s : Nat} (hs : s < 6) : jCu_usedBy (nI s) M = some (if wo s < c then some (12 + 3 * wo s) else none) := by
  obtain ⟨a1, a2, a3, a4⟩ := h
  have hw := a3 s hs
  unfold jCu_usedBy
  rw [show jTc_isOf (nI s) 6 = true from isOf_mk (T := 6) hs (by decide), if_neg (by decide), qrI_nI hs (by omega), hw.1, a1]
  simp only [Option.bind_some]
  by_cases hc : wo s < c
  · rw [isOf_mk hc (by omega), if_neg (by decide), if_pos hc, qix_nI (by omega) (by omega)]
    rfl
  · have : jTc_isOf (nI (wo s)) (nI c) = false := by
      rw [← Bool.not_eq_true, isOf_iff, nI_toInt (by omega), nI_toInt (by omega)]
      omega
    rw [this, if_pos (by decide), if_neg hc]
    rfl
theorem q_way12 {i : Nat} (h : i < 7) : q_way (12 + 3 * i) = true := q_way_ix h
/-! ===== what stays as one after the other decides ===== -/
theorem hadF_mono {pl nth a b : Nat} (h : a ≤ b) : hadF pl nth a ≤ hadF pl nth b := by unfold hadF; omega
section Dec
variable (v : vT) (t lk nth : Nat) (fz : Nat → Bool) (vl : Nat → (Nat → Int32) → Int32)
theorem setD_s (σ : mS) (d : Int64) : sW (setD σ d) = sW σ ∧ sMi (setD σ d) = sMi σ ∧ sCa (setD σ d) = sCa σ ∧ sOv (setD σ d) = sOv σ := ⟨rfl, rfl, rfl, rfl⟩
theorem ltS_D (σ : mS) (d : Int64) (s : Nat) : ltS v t lk nth (setD σ d) s = ltS v t lk nth σ s := rfl
theorem goS_s (σ : mS) (p : Nat) : sW (goS v t lk nth fz vl σ p).2 = sW σ ∧ sMi (goS v t lk nth fz vl σ p).2 = sMi σ ∧ sCa (goS v t lk nth fz vl σ p).2 = sCa σ ∧ sOv (goS v t lk nth fz vl σ p).2 = sOv σ := by
  unfold goS
  by_cases h : fz p = true
  · rw [if_pos h]; exact ⟨rfl, rfl, rfl, rfl⟩
  · rw [if_neg h]; exact setD_s σ _
theorem snd1_s (σ : mS) (p : Nat) : sW (snd1 v σ p) = upI (sW σ) p (sMi σ) ∧ sMi (snd1 v σ p) = sMi σ ∧ sCa σ ≤ sCa (snd1 v σ p) ∧ sOv (snd1 v σ p) = sOv σ := by
  unfold snd1
  split
  · exact ⟨rfl, rfl, Nat.le_succ _, rfl⟩
  · exact ⟨rfl, rfl, Nat.le_refl _, rfl⟩
theorem dec1_s (σ : mS) (p : Nat) : (∀ q, ¬ q = p → sW (dec1 v t lk nth fz vl σ p) q = sW σ q) ∧ sMi (dec1 v t lk nth fz vl σ p) = sMi σ ∧ sCa σ ≤ sCa (dec1 v t lk nth fz vl σ p) ∧ sOv (dec1 v t lk nth fz vl σ p) = sOv σ ∧ (¬ sW σ p = -1 → ¬ sW (dec1 v t lk nth fz vl σ p) p = -1) := by
  have h1 := goS_s v t lk nth fz vl σ p
  have h2 := snd1_s v (goS v t lk nth fz vl σ p).2 p
  unfold dec1
  by_cases hc : sW σ p = -1 ∧ hadF (vTi v t 1) nth (sCa σ) < vTi v t 1
  · rw [if_pos hc]
    split
    · refine ⟨fun q hq => ?_, by rw [h2.2.1, h1.2.1], by rw [← h1.2.2.1]; exact h2.2.2.1, by rw [h2.2.2.2, h1.2.2.2], fun h => absurd hc.1 h⟩
      rw [h2.1, h1.1]
      unfold upI
      rw [if_neg hq]
    · exact ⟨fun q _ => by rw [h1.1], h1.2.1, by rw [h1.2.2.1]; exact Nat.le_refl _, h1.2.2.2, fun h => absurd hc.1 h⟩
  · rw [if_neg hc]
    exact ⟨fun _ _ => rfl, rfl, Nat.le_refl _, rfl, fun h => h⟩
theorem decN_s (σ : mS) (q : Nat) : (∀ p, q ≤ p → sW (decN v t lk nth fz vl σ q) p = sW σ p) ∧ sMi (decN v t lk nth fz vl σ q) = sMi σ ∧ sCa σ ≤ sCa (decN v t lk nth fz vl σ q) ∧ sOv (decN v t lk nth fz vl σ q) = sOv σ ∧ (∀ p, ¬ sW σ p = -1 → ¬ sW (decN v t lk nth fz vl σ q) p = -1) := by
  induction q with
  | zero => exact ⟨fun _ _ => rfl, rfl, Nat.le_refl _, rfl, fun _ h => h⟩
  | succ q ih =>
    have h1 := dec1_s v t lk nth fz vl (decN v t lk nth fz vl σ q) q
    simp only [decN]
    refine ⟨fun p hp => by rw [h1.1 p (by omega), ih.1 p (by omega)], by rw [h1.2.1, ih.2.1], Nat.le_trans ih.2.2.1 h1.2.2.1, by rw [h1.2.2.2.1, ih.2.2.2.1], fun p hp => ?_⟩
    by_cases hpq : p = q
    · subst hpq
      exact h1.2.2.2.2 (ih.2.2.2.2 p hp)
    · rw [h1.1 p hpq]
      exact ih.2.2.2.2 p hp
theorem decN_stop {σ : mS} {q n : Nat} (h : vTi v t 1 ≤ hadF (vTi v t 1) nth (sCa (decN v t lk nth fz vl σ q))) (hq : q ≤ n) : decN v t lk nth fz vl σ n = decN v t lk nth fz vl σ q := by
  induction n with
  | zero => rw [show q = 0 by omega]
  | succ n ih =>
    by_cases hn : q = n + 1
    · rw [hn]
    · have e := ih (by omega)
      simp only [decN]
      rw [e]
      unfold dec1
      rw [if_neg (by omega)]
theorem decN_fz {σ : mS} (q : Nat) : hadF (vTi v t 1) nth (sCa (decN v t lk nth fz vl σ q)) < vTi v t 1 → ∀ p, p < q → fz p = true → ¬ sW (decN v t lk nth fz vl σ q) p = -1 := by
  induction q with
  | zero => intro _ p hp; omega
  | succ q ih =>
    intro hh p hp hf
    have h1 := dec1_s v t lk nth fz vl (decN v t lk nth fz vl σ q) q
    have hm : hadF (vTi v t 1) nth (sCa (decN v t lk nth fz vl σ q)) < vTi v t 1 := Nat.lt_of_le_of_lt (hadF_mono h1.2.2.1) hh
    simp only [decN]
    by_cases hpq : p = q
    · subst hpq
      by_cases hw : sW (decN v t lk nth fz vl σ p) p = -1
      · unfold dec1
        rw [if_pos ⟨hw, hm⟩]
        have hg : goS v t lk nth fz vl (decN v t lk nth fz vl σ p) p = (true, decN v t lk nth fz vl σ p) := by
          unfold goS
          rw [if_pos hf]
        rw [hg, if_pos rfl, (snd1_s v _ p).1]
        unfold upI
        rw [if_pos rfl]
        omega
      · exact h1.2.2.2.2 hw
    · rw [h1.1 p hpq]
      exact ih hm p (by omega) hf
end Dec
theorem arrN_ca (v : vT) (σ : mS) (p : Nat) : sCa σ ≤ sCa (arrN v σ p) := by
  induction p with
  | zero => exact Nat.le_refl _
  | succ p ih =>
    simp only [arrN]
    unfold arr1
    split
    · exact Nat.le_trans ih (Nat.le_succ _)
    · exact ih
theorem wtn_pos {v : vT} {σ : mS} {p : Nat} (hp : p < vP v) (hw : sW σ p = -1) : 1 ≤ wtn v σ ∧ 1 ≤ wtS v σ (vof v p) := by
  have := sndW_wt (σ := σ) hp hw (by omega)
  exact ⟨by omega, this.2.2⟩
/-! ===== the class decides ===== -/
def fzC (v : vT) (fz : Nat → Bool) (se sr : Int32) : Prop := ∀ p, p < vP v → (fz p = true ↔ (nI p = se ∨ nI (vof v p) = sr ∨ vSi v (vof v p) 3 = 0))
theorem goesU_eq {M : qM} {k kv : Nat} {v : vT} {t lk nth p : Nat} {se sr : Int32} {fz : Nat → Bool} (hS : moS M k kv v t lk nth se sr) (hf : fzC v fz se sr) (hp : p < vP v) : jMo_goesUnasked k (nI p) (nI (vof v p)) M = some (fz p) := by
  have hv := hS.1.1
  have hvo := (vof_spec hp).1
  have hkn := (hv.2.2.2.2 _ hvo).2.2.2
  have hfp := hf p hp
  unfold jMo_goesUnasked
  rw [hS.2.2.2.2.2.2.2.2.2.2.2.1, hS.2.2.2.2.2.2.2.2.2.2.2.2, hS.2.2.2.2.2.2.1]
  simp only [Option.bind_some]
  rw [show jVi_ofSort kv (nI (vof v p)) 3 M = some (nI (vSi v (vof v p) 3)) from ofSort_eq (w := 3) hS.1 hvo (by decide)]
  simp only [Option.bind_some]
  by_cases c1 : nI p = se
  · rw [if_pos c1, hfp.mpr (Or.inl c1)]; rfl
  · rw [if_neg c1]
    by_cases c2 : nI (vof v p) = sr
    · rw [if_pos c2, hfp.mpr (Or.inr (Or.inl c2))]; rfl
    · rw [if_neg c2]
      by_cases c3 : vSi v (vof v p) 3 = 0
      · rw [if_pos (by rw [c3]; rfl), hfp.mpr (Or.inr (Or.inr c3))]; rfl
      · rw [if_neg (show ¬ nI (vSi v (vof v p) 3) = 0 from fun e => c3 ((nI_eq (b := 0) (by omega) (by omega)).mp e))]
        have : fz p = false := by
          rw [← Bool.not_eq_true, hfp]
          rintro (h | h | h)
          · exact c1 h
          · exact c2 h
          · exact c3 h
        rw [this]
        rfl
theorem le_dec (a b : Int32) : (if b ≤ a then false else true) = decide (a < b) := by
  by_cases h : a < b
  · rw [decide_eq_true h, if_neg (by rw [i_le]; rw [i_lt] at h; omega)]
  · rw [decide_eq_false h, if_pos (by rw [i_le]; rw [i_lt] at h; omega)]
theorem moD_draw {M : qM} {k : Nat} {v : vT} {t nth : Nat} {σ : mS} (h : moD M k v t nth σ) (d : Int64) : moD (qJ M k 7 d) k v t nth (setD σ d) := by
  obtain ⟨d1, d2, d3, d4, d5, d6, d7, d8, d9, d10, d11⟩ := h
  exact ⟨by rw [qJ_21, if_pos ⟨rfl, rfl⟩]; rfl, d2, d3, d4, d5, d6, d7, d8, d9, d10, d11⟩
theorem sMo_cu {M M1 : qM} {k : Nat} {c : Nat} {wo : Nat → Nat} {Ws : Nat → wW} (hk : mok k) (h : cuC M c wo Ws) (g : fr (sMo k) M M1) : cuC M1 c wo Ws :=
  cuC_fr h g (fun b j hb => by unfold sMo mok at *; omega)
theorem decide_wp {M : qM} {k kv : Nat} {v : vT} {t lk nth : Nat} {se sr : Int32} {σ : mS} {fz : Nat → Bool} {c : Nat} {wo : Nat → Nat} {Ws : Nat → wW} (hk : mok k) (hS : moS M k kv v t lk nth se sr) (hD : moD M k v t nth σ) (hcu : cuC M c wo Ws) (hf : fzC v fz se sr) (hz : sMi σ ≠ 0 → ∀ p, p < vP v → fz p = true → sW σ p ≠ -1) :
    wp (jMo_decide k M) (fun M' => moD M' k v t nth (decN v t lk nth fz (vlS c wo Ws) σ (vP v)) ∧ fr (sMo k) M M') := by
  have hv := hS.1.1
  have h20 := hv.2.2.1
  have hs6 := hv.2.1
  have hpl := (hv.2.2.2.1 t hS.2.2.2.1).2.1
  have hk33 : 33 ≤ k ∧ k ≤ 42 := by unfold mok at hk; omega
  unfold jMo_decide
  refine wp_bd (wp_for (fun q s => s.2.2.1 = nI q ∧ moD s.2.2.2 k v t nth (decN v t lk nth fz (vlS c wo Ws) σ q) ∧ (s.1 = -1 ∨ ∃ s', s' < vSn v ∧ s.1 = nI s' ∧ s.2.1 = vlS c wo Ws s' (ltS v t lk nth (decN v t lk nth fz (vlS c wo Ws) σ q) s')) ∧ fr (sMo k) M s.2.2.2) (vP v) ⟨rfl, hD, Or.inl rfl, fr_rf _ _⟩ ?_ ?_)
  · rintro q ⟨x1, x2, x3, N⟩ hq ⟨e1, e2, e3, e4⟩
    have e1 : x3 = nI q := e1
    subst e1
    have e2 : moD N k v t nth (decN v t lk nth fz (vlS c wo Ws) σ q) := e2
    have e3 : x1 = -1 ∨ ∃ s', s' < vSn v ∧ x1 = nI s' ∧ x2 = vlS c wo Ws s' (ltS v t lk nth (decN v t lk nth fz (vlS c wo Ws) σ q) s') := e3
    have e4 : fr (sMo k) M N := e4
    have hSN := moS_fr hk hS e4
    have hcN := sMo_cu hk hcu e4
    have hds := decN_s v t lk nth fz (vlS c wo Ws) σ q
    have hinN := e2.2.2.2.2.2.2.2.2.2.2
    have hcell := (e2.2.2.2.2.2.2.2.2.1 q (by omega)).1
    have hwb := hinN.1 q (by omega)
    have hmb := hinN.2.2.2.2
    have hvo := (vof_spec hq).1
    have hd1 : decN v t lk nth fz (vlS c wo Ws) σ (q + 1) = dec1 v t lk nth fz (vlS c wo Ws) (decN v t lk nth fz (vlS c wo Ws) σ q) q := rfl
    generalize hτ : decN v t lk nth fz (vlS c wo Ws) σ q = τ at *
    have hhad : hadF (vTi v t 1) nth (sCa τ) ≤ vTi v t 1 := by unfold hadF; omega
    simp only [qu4]
    refine wp_be hSN.2.2.2.2.2.2.1 ?_
    refine wp_in (by rw [hSN.1.2.2.2.1]; exact nI_ge hq (by omega)) ?_
    refine wp_if (fun hc => ?_) (fun hc => ?_) <;> rw [hSN.2.2.2.2.2.2.2.2.2.2.1, e2.2.2.2.2.1] at hc
    · have hc := (nI_leI (by omega) (by omega)).mp hc
      refine wp_some (wp_some ⟨?_, e4⟩)
      rw [decN_stop v t lk nth fz (vlS c wo Ws) (q := q) (by rw [hτ]; exact hc) (by omega), hτ]
      exact e2
    · have hc : hadF (vTi v t 1) nth (sCa τ) < vTi v t 1 := by
        rcases Nat.lt_or_ge (hadF (vTi v t 1) nth (sCa τ)) (vTi v t 1) with h1 | h1
        · exact h1
        · exact absurd (nI_le h1 (by omega)) hc
      have q8 : qrI N (k + 1) 20 (nI q) = some (iI (sW τ q)) := by rw [qrI_nI (by omega) (by omega), hcell]
      refine wp_be q8 ?_
      refine wp_bd ?_
      refine wp_if (fun hw => ?_) (fun hw => ?_) <;> rw [show (-1 : Int32) = iI (-1) from rfl, iI_eq (by omega) (by omega) (by omega) (by omega)] at hw
      · -- one who waits
        have hw0 : sW σ q = -1 := by rw [← hds.1 q (Nat.le_refl _)]; exact hw
        have hwp := wtn_pos (σ := τ) hq hw
        refine wp_be hSN.2.2.2.2.2.2.1 ?_
        have q15 : qrI N (kv + 3) 20 (nI q) = some (nI (vof v q)) := by rw [qrI_nI (by omega) (by omega), hSN.1.2.2.2.2.2.2 q hq]
        refine wp_be q15 ?_
        have z16 : wp (if N.1 k 8 = 0 then (jMo_goesUnasked k (nI q) (nI (vof v q)) N).bind fun r40 => if b2i r40 = 0 then some false else some true else some false) (fun z => z = fz q) := by
          refine wp_if (fun h0 => ?_) (fun h0 => ?_)
          · refine wp_be (goesU_eq hSN hf hq) ?_
            cases fz q with
            | false => exact wp_ip (by decide) (wp_some rfl)
            | true => exact wp_in (by decide) (wp_some rfl)
          · refine wp_some ?_
            rw [e2.2.1] at h0
            have hm0 : sMi σ ≠ 0 := by
              intro e
              apply h0
              rw [hds.2.1, e]
              rfl
            cases hfq : fz q with
            | false => rfl
            | true => exact absurd hw0 (hz hm0 q hq hfq)
        refine wp_bd (z16.mono ?_)
        rintro z rfl
        refine wp_bd ?_
        cases hfq : fz q with
        | true =>
          refine wp_in (by decide) (wp_some ?_)
          refine wp_in (by show ¬ b2i true = 0; decide) ?_
          refine wp_bd ((send_wp hk hSN e2 hq hw).mono ?_)
          rintro N1 ⟨g1, g2⟩
          refine wp_some (wp_some ⟨nI_1 q, ?_, Or.inl rfl, e4.tr g2⟩)
          show moD N1 k v t nth (dec1 v t lk nth fz (vlS c wo Ws) (decN v t lk nth fz (vlS c wo Ws) σ q) q)
          rw [hτ]
          unfold dec1
          have hg : goS v t lk nth fz (vlS c wo Ws) τ q = (true, τ) := by
            unfold goS
            rw [if_pos hfq]
          rw [if_pos ⟨hw, hc⟩, hg, if_pos rfl]
          exact g1
        | false =>
          refine wp_ip (by decide) ?_
          -- the value, drawn or kept
          have hval : wp (if nI (vof v q) = x1 then some (x1, x2, N) else (jMo_spell k (nI (vof v q)) N).bind fun M31 => (jCu_usedBy (nI (vof v q)) M31).bind fun r32 => (qno r32 (some (0, M31)) (fun a36 => qgd (q_way a36) ((jWy_valueIn a36 M31).bind fun w37 => qu2 w37 fun r38 M39 => some (r38, M39)))).bind fun w35 => qu2 w35 fun x33 M34 => some (nI (vof v q), x33, M34)) (fun w => w.1 = nI (vof v q) ∧ w.2.1 = vlS c wo Ws (vof v q) (ltS v t lk nth τ (vof v q)) ∧ moD w.2.2 k v t nth τ ∧ fr (sMo k) M w.2.2) := by
            refine wp_if (fun hx => ?_) (fun hx => ?_)
            · rcases e3 with e3 | ⟨s', h1, h2, h3⟩
              · rw [e3] at hx
                exact absurd hx (nI_m1 (by omega))
              · rw [h2] at hx
                have hx := (nI_eq (by omega) (by omega)).mp hx
                subst hx
                exact wp_some ⟨h2, h3, e2, e4⟩
            · refine wp_bd ((spell_wp hk hSN e2 hvo hwp.2 hwp.1).mono ?_)
              rintro N1 ⟨g1, g2⟩
              have g2' : fr (sMo k) N N1 := g2.mono (fun b j h => by unfold sMo; omega)
              have hcN1 := sMo_cu hk hcN g2'
              have hDN1 := moD_fr hk e2 (g2.mono (fun b j h => Or.inl h))
              refine wp_be (usedBy_eq hcN1 (show vof v q < 6 by omega)) ?_
              unfold vlS
              by_cases hwc : wo (vof v q) < c
              · rw [if_pos hwc, if_pos hwc]
                have hc6 := hcN1.2.1
                refine wp_bd ?_
                show wp (qgd (q_way (12 + 3 * wo (vof v q))) _) _
                unfold qgd
                refine wp_ip (q_way12 (by omega)) ?_
                refine wp_bd ((valueIn_wp (lt := ltS v t lk nth τ (vof v q)) (by omega) (hcN1.2.2.2 _ hwc) g1).mono ?_)
                rintro ⟨r, N2⟩ ⟨o1, o2⟩
                have o2 : fr (fun b _ => b = 11) N1 N2 := o2
                refine wp_some (wp_some ⟨rfl, o1, moD_fr hk hDN1 (o2.mono (fun b j h => Or.inr h)), (e4.tr g2').tr (o2.mono (fun b j h => by unfold sMo; omega))⟩)
              · rw [if_neg hwc, if_neg hwc]
                exact wp_bd (wp_some (wp_some ⟨rfl, rfl, hDN1, e4.tr g2'⟩))
          refine wp_bd (hval.mono ?_)
          rintro ⟨y1, y2, N1⟩ ⟨k1, k2, k3, k4⟩
          have k1 : y1 = nI (vof v q) := k1
          have k2 : y2 = vlS c wo Ws (vof v q) (ltS v t lk nth τ (vof v q)) := k2
          subst k1 k2
          have k3 : moD N1 k v t nth τ := k3
          have k4 : fr (sMo k) M N1 := k4
          have hdr : jMo_drawOfTen k N1 = (dten (drw (sD τ)), qJ N1 k 7 (drw (sD τ))) := by
            unfold jMo_drawOfTen
            simp only [qlt]
            rw [k3.1, ← drw_eq, qJ_21, if_pos ⟨rfl, rfl⟩, ← dten_eq]
          simp only [qu3]
          rw [hdr]
          refine wp_lt ?_
          rintro _ rfl
          simp only [qu2]
          refine wp_lt ?_
          intro z30 hz30
          refine wp_some ?_
          simp only [qu4]
          have k5 := moD_draw k3 (drw (sD τ))
          have k6 : fr (sMo k) M (qJ N1 k 7 (drw (sD τ))) := k4.tr (fr_J (by unfold sMo; omega))
          have hz30' : z30 = decide (dten (drw (sD τ)) < vlS c wo Ws (vof v q) (ltS v t lk nth τ (vof v q))) := by
            rw [hz30]
            exact le_dec _ _
          have hg : goS v t lk nth fz (vlS c wo Ws) τ q = (z30, setD τ (drw (sD τ))) := by
            unfold goS
            rw [if_neg (by rw [hfq]; decide), hz30']
          cases hzz : z30 with
          | false =>
            refine wp_ip (by decide) ?_
            refine wp_some (wp_some ⟨nI_1 q, ?_, Or.inr ⟨vof v q, hvo, rfl, ?_⟩, k6⟩)
            · show moD (qJ N1 k 7 (drw (sD τ))) k v t nth (dec1 v t lk nth fz (vlS c wo Ws) (decN v t lk nth fz (vlS c wo Ws) σ q) q)
              rw [hτ]
              unfold dec1
              rw [if_pos ⟨hw, hc⟩, if_neg (by rw [hg]; show ¬ z30 = true; rw [hzz]; decide), hg]
              exact k5
            · show _ = vlS c wo Ws (vof v q) (ltS v t lk nth (dec1 v t lk nth fz (vlS c wo Ws) (decN v t lk nth fz (vlS c wo Ws) σ q) q) (vof v q))
              rw [hτ]
              unfold dec1
              rw [if_pos ⟨hw, hc⟩, if_neg (by rw [hg]; show ¬ z30 = true; rw [hzz]; decide), hg]
              show _ = vlS c wo Ws (vof v q) (ltS v t lk nth (setD τ (drw (sD τ))) (vof v q))
              rw [ltS_D]
          | true =>
            refine wp_in (by decide) ?_
            refine wp_bd ((send_wp hk (moS_fr hk hS k6) k5 hq hw).mono ?_)
            rintro N2 ⟨g1, g2⟩
            refine wp_some (wp_some ⟨nI_1 q, ?_, Or.inl rfl, k6.tr g2⟩)
            show moD N2 k v t nth (dec1 v t lk nth fz (vlS c wo Ws) (decN v t lk nth fz (vlS c wo Ws) σ q) q)
            rw [hτ]
            unfold dec1
            rw [if_pos ⟨hw, hc⟩, if_pos (by rw [hg]; exact hzz), hg]
            exact g1
      · have hid : dec1 v t lk nth fz (vlS c wo Ws) τ q = τ := by
          unfold dec1
          rw [if_neg (fun e => hw e.1)]
        refine wp_some (wp_some ⟨nI_1 q, ?_, ?_, e4⟩)
        · show moD N k v t nth (dec1 v t lk nth fz (vlS c wo Ws) (decN v t lk nth fz (vlS c wo Ws) σ q) q)
          rw [hτ, hid]
          exact e2
        · show x1 = -1 ∨ ∃ s', s' < vSn v ∧ x1 = nI s' ∧ x2 = vlS c wo Ws s' (ltS v t lk nth (dec1 v t lk nth fz (vlS c wo Ws) (decN v t lk nth fz (vlS c wo Ws) σ q) q) s')
          rw [hτ, hid]
          exact e3
  · rintro ⟨x1, x2, x3, N⟩ ⟨e1, e2, e3, e4⟩
    have e1 : x3 = nI (vP v) := e1
    subst e1
    have e4 : fr (sMo k) M N := e4
    have hSN := moS_fr hk hS e4
    simp only [qu4]
    refine wp_be hSN.2.2.2.2.2.2.1 ?_
    exact wp_ip (by rw [hSN.1.2.2.2.1]; exact nI_le (Nat.le_refl _) (by omega)) (wp_some (wp_some ⟨e2, e4⟩))
