/-! ===== images ===== -/
theorem cp_n {M : qM} {a d n : Nat} (hn : n < 1000) : wp (qcp M a n 0 d n 0 (nI n)) (fun M' => (∀ o, o < n → M'.1 d o = M.1 a o) ∧ fr (fun b _ => b = d) M M') := by
  unfold qcp
  rw [nI_clamp (by omega), show (0 : Int32).toNatClampNeg = 0 from rfl]
  refine wp_ip ⟨by decide, by decide, nI_pos' (by omega), by omega, by omega⟩ (wp_some ⟨fun o ho => ?_, fun b j hb => ⟨?_, rfl, rfl⟩⟩)
  · show (if d = d ∧ 0 ≤ o ∧ o < 0 + n then M.1 a (0 + (o - 0)) else M.1 d o) = _
    rw [if_pos ⟨rfl, by omega, by omega⟩, Nat.zero_add, Nat.sub_zero]
  · show (if b = d ∧ _ then _ else M.1 b j) = _
    rw [if_neg (fun e => hb e.1)]
theorem copy_wp {M : qM} {k p kv : Nat} {v : vT} {t lk nth : Nat} {se sr : Int32} {σ : mS} (hk : mok k) (hp : mok p) (hkp : ¬ p = k) (hS : moS M p kv v t lk nth se sr) (hD : moD M p v t nth σ) :
    wp (jMo_copy k p M) (fun M' => moS M' k kv v t lk nth (M.1 k 5) (M.1 k 6) ∧ moD M' k v t nth σ ∧ fr (fun b _ => k ≤ b ∧ b ≤ k + 3) M M') := by
  have hs6 := hS.1.1.2.1
  have hfar : ¬ (k ≤ p ∧ p ≤ k + 3) ∧ ¬ (p ≤ k ∧ k ≤ p + 3) ∧ 33 ≤ k ∧ k ≤ 42 := by unfold mok at hk hp; omega
  obtain ⟨a1, a2, a3, a4, a5, a6, a7, a8, a9, b1, b2, b3, b4⟩ := hS
  obtain ⟨d1, d2, d3, d4, d5, d6, d7, d8, d9, d10, d11⟩ := hD
  unfold jMo_copy
  simp only [qlt]
  refine wp_be a7 ?_
  simp only [qI_1, qR_1, qJ_1, qJ_21, qI_2, qR_21, hkp, false_and, if_false]
  rw [a8, a9, b1, b2, d1, d2, d3, d4, d5, d6, d7, d8]
  have hq : qtb (b2i (sOv σ)) = some (sOv σ) := by cases sOv σ <;> rfl
  refine wp_be hq ?_
  have fI : ∀ (N : qM) (a : Nat) (x : Int32), fr (fun b _ => b = k) N (qI N k a x) := fun N a x => fr_I rfl
  have fJ : ∀ (N : qM) (a : Nat) (x : Int64), fr (fun b _ => b = k) N (qJ N k a x) := fun N a x => fr_J rfl
  have fR : ∀ (N : qM) (a : Nat) (x : Option Nat), fr (fun b _ => b = k) N (qR N k a x) := fun N a x => fr_R rfl
  have fA : fr (fun b _ => b = k) M (qI (qI (qI (qI (qI (qI (qI (qJ (qI (qI (qI (qI (qR M k 0 (some kv)) k 1 (nI t)) k 2 (nI lk)) k 3 (nI nth)) k 4 (nI (vTi v t 1))) k 7 (sD σ)) k 8 (nI (sMi σ))) k 9 (nI (sCa σ))) k 10 (nI (wtn v σ))) k 11 (nI (hadF (vTi v t 1) nth (sCa σ)))) k 12 (b2i (sOv σ))) k 13 (iI (lmS v t nth σ))) k 14 (iI (lpS v t nth σ))) :=
    ((((((((((((fR M _ _).tr (fI _ _ _)).tr (fI _ _ _)).tr (fI _ _ _)).tr (fI _ _ _)).tr (fJ _ _ _)).tr (fI _ _ _)).tr (fI _ _ _)).tr (fI _ _ _)).tr (fI _ _ _)).tr (fI _ _ _)).tr (fI _ _ _)).tr (fI _ _ _)
  have cs : ∀ j, (qI (qI (qI (qI (qI (qI (qI (qJ (qI (qI (qI (qI (qR M k 0 (some kv)) k 1 (nI t)) k 2 (nI lk)) k 3 (nI nth)) k 4 (nI (vTi v t 1))) k 7 (sD σ)) k 8 (nI (sMi σ))) k 9 (nI (sCa σ))) k 10 (nI (wtn v σ))) k 11 (nI (hadF (vTi v t 1) nth (sCa σ)))) k 12 (b2i (sOv σ))) k 13 (iI (lmS v t nth σ))) k 14 (iI (lpS v t nth σ))).1 k j = if j = 14 then iI (lpS v t nth σ) else if j = 13 then iI (lmS v t nth σ) else if j = 12 then b2i (sOv σ) else if j = 11 then nI (hadF (vTi v t 1) nth (sCa σ)) else if j = 10 then nI (wtn v σ) else if j = 9 then nI (sCa σ) else if j = 8 then nI (sMi σ) else if j = 4 then nI (vTi v t 1) else if j = 3 then nI nth else if j = 2 then nI lk else if j = 1 then nI t else M.1 k j := by
    intro j
    simp only [qI_1, qJ_1, qR_1, true_and]
  have c7 : (qI (qI (qI (qI (qI (qI (qI (qJ (qI (qI (qI (qI (qR M k 0 (some kv)) k 1 (nI t)) k 2 (nI lk)) k 3 (nI nth)) k 4 (nI (vTi v t 1))) k 7 (sD σ)) k 8 (nI (sMi σ))) k 9 (nI (sCa σ))) k 10 (nI (wtn v σ))) k 11 (nI (hadF (vTi v t 1) nth (sCa σ)))) k 12 (b2i (sOv σ))) k 13 (iI (lmS v t nth σ))) k 14 (iI (lpS v t nth σ))).2.1 k 7 = sD σ := by
    simp only [qI_2, qJ_21, and_self, if_true]
  have c0 : (qI (qI (qI (qI (qI (qI (qI (qJ (qI (qI (qI (qI (qR M k 0 (some kv)) k 1 (nI t)) k 2 (nI lk)) k 3 (nI nth)) k 4 (nI (vTi v t 1))) k 7 (sD σ)) k 8 (nI (sMi σ))) k 9 (nI (sCa σ))) k 10 (nI (wtn v σ))) k 11 (nI (hadF (vTi v t 1) nth (sCa σ)))) k 12 (b2i (sOv σ))) k 13 (iI (lmS v t nth σ))) k 14 (iI (lpS v t nth σ))).2.2 k 0 = some kv := by
    simp only [qI_2, qJ_22, qR_22, and_self, if_true]
  generalize qI (qI (qI (qI (qI (qI (qI (qJ (qI (qI (qI (qI (qR M k 0 (some kv)) k 1 (nI t)) k 2 (nI lk)) k 3 (nI nth)) k 4 (nI (vTi v t 1))) k 7 (sD σ)) k 8 (nI (sMi σ))) k 9 (nI (sCa σ))) k 10 (nI (wtn v σ))) k 11 (nI (hadF (vTi v t 1) nth (sCa σ)))) k 12 (b2i (sOv σ))) k 13 (iI (lmS v t nth σ))) k 14 (iI (lpS v t nth σ)) = N at *
  refine wp_bd ((cp_n (n := 20) (by omega)).mono ?_)
  rintro N1 ⟨g1, f1⟩
  refine wp_bd ((cp_n (n := 20) (by omega)).mono ?_)
  rintro N2 ⟨g2, f2⟩
  refine wp_bd ((cp_n (n := 6) (by omega)).mono ?_)
  rintro N3 ⟨g3, f3⟩
  have fall : fr (fun b _ => k ≤ b ∧ b ≤ k + 3) M N3 := (((fA.mono (fun b j h => by omega)).tr (f1.mono (fun b j h => by omega))).tr (f2.mono (fun b j h => by omega))).tr (f3.mono (fun b j h => by omega))
  have hk0 : ∀ j, N3.1 k j = N.1 k j := fun j => by rw [(f3 k j (by omega)).1, (f2 k j (by omega)).1, (f1 k j (by omega)).1]
  refine wp_some ⟨⟨rVC_fr a1 fall (fun b j h1 h2 => by omega), a2, a3, a4, a5, a6, ?_, ?_, ?_, ?_, ?_, ?_, ?_⟩, ⟨?_, ?_, ?_, ?_, ?_, ?_, ?_, ?_, fun q hq => ⟨?_, ?_⟩, fun s hs => ?_, d11⟩, fall⟩
  · rw [(f3 k 0 (by omega)).2.2, (f2 k 0 (by omega)).2.2, (f1 k 0 (by omega)).2.2]; exact c0
  · rw [hk0, cs]; rfl
  · rw [hk0, cs]; rfl
  · rw [hk0, cs]; rfl
  · rw [hk0, cs]; rfl
  · rw [hk0, cs]; rfl
  · rw [hk0, cs]; rfl
  · rw [(f3 k 7 (by omega)).2.1, (f2 k 7 (by omega)).2.1, (f1 k 7 (by omega)).2.1]; exact c7
  · rw [hk0, cs]; rfl
  · rw [hk0, cs]; rfl
  · rw [hk0, cs]; rfl
  · rw [hk0, cs]; rfl
  · rw [hk0, cs]; rfl
  · rw [hk0, cs]; rfl
  · rw [hk0, cs]; rfl
  · rw [(f3 (k + 1) q (by omega)).1, (f2 (k + 1) q (by omega)).1, g1 q hq, (fA (p + 1) q (by omega)).1]
    exact (d9 q hq).1
  · rw [(f3 (k + 2) q (by omega)).1, g2 q hq, (f1 (p + 2) q (by omega)).1, (fA (p + 2) q (by omega)).1]
    exact (d9 q hq).2
  · rw [g3 s (by omega), (f2 (p + 3) s (by omega)).1, (f1 (p + 3) s (by omega)).1, (fA (p + 3) s (by omega)).1]
    exact d10 s hs
theorem keepTo_wp {M : qM} {a : Nat} (ha : a = 111 ∨ a = 120) : wp (jMd_keepTo a M) (fun M' => (∀ p, p < 20 → M'.1 a p = M.1 108 p ∧ M'.1 a (20 + p) = M.1 109 p ∧ M'.1 a (40 + p) = M.1 110 p) ∧ fr (fun b _ => b = a) M M') := by
  unfold jMd_keepTo
  refine wp_bd (wp_for (fun q s => s.1 = nI q ∧ (∀ p, p < q → s.2.1 a p = M.1 108 p ∧ s.2.1 a (20 + p) = M.1 109 p ∧ s.2.1 a (40 + p) = M.1 110 p) ∧ fr (fun b _ => b = a) M s.2) 20 ⟨rfl, fun p hp => by omega, fr_rf _ _⟩ ?_ ?_)
  · rintro q ⟨x, N⟩ hq ⟨e1, e2, e3⟩
    have e1 : x = nI q := e1
    subst e1
    have e2 : ∀ p, p < q → N.1 a p = M.1 108 p ∧ N.1 a (20 + p) = M.1 109 p ∧ N.1 a (40 + p) = M.1 110 p := e2
    have e3 : fr (fun b _ => b = a) M N := e3
    refine wp_u2 ?_
    refine wp_in (nI_ge (b := 20) hq (by omega)) ?_
    refine wp_be (qrI_nI (show q < 20 by omega) (by omega)) ?_
    refine wp_bd (wp_wI rfl (show q < 60 by omega) (by omega) ?_)
    refine wp_be (qrI_nI (show q < 20 by omega) (by omega)) ?_
    refine wp_bd (wp_wI (t := 20 + q) (by show nI 20 + nI q = _; rw [nI_add]) (by omega) (by omega) ?_)
    refine wp_be (qrI_nI (show q < 20 by omega) (by omega)) ?_
    refine wp_bd (wp_wI (t := 40 + q) (by show nI 40 + nI q = _; rw [nI_add]) (by omega) (by omega) ?_)
    have n108 : ¬ 108 = a ∧ ¬ 109 = a ∧ ¬ 110 = a := by omega
    refine wp_some ⟨nI_1 q, fun p hp => ?_, ((e3.tr (fr_I rfl)).tr (fr_I rfl)).tr (fr_I rfl)⟩
    show (qI (qI (qI N a q (N.1 108 q)) a (20 + q) ((qI N a q (N.1 108 q)).1 109 q)) a (40 + q) ((qI (qI N a q (N.1 108 q)) a (20 + q) ((qI N a q (N.1 108 q)).1 109 q)).1 110 q)).1 a p = _ ∧ (qI (qI (qI N a q (N.1 108 q)) a (20 + q) ((qI N a q (N.1 108 q)).1 109 q)) a (40 + q) ((qI (qI N a q (N.1 108 q)) a (20 + q) ((qI N a q (N.1 108 q)).1 109 q)).1 110 q)).1 a (20 + p) = _ ∧ (qI (qI (qI N a q (N.1 108 q)) a (20 + q) ((qI N a q (N.1 108 q)).1 109 q)) a (40 + q) ((qI (qI N a q (N.1 108 q)) a (20 + q) ((qI N a q (N.1 108 q)).1 109 q)).1 110 q)).1 a (40 + p) = _
    simp only [qI_1, true_and, n108.1, n108.2.1, n108.2.2, false_and, if_false]
    rw [(e3 108 q (by omega)).1, (e3 109 q (by omega)).1, (e3 110 q (by omega)).1]
    by_cases hpq : p = q
    · subst hpq
      refine ⟨?_, ?_, ?_⟩
      · rw [if_neg (by omega), if_neg (by omega), if_pos rfl]
      · rw [if_neg (by omega), if_pos rfl]
      · rw [if_pos rfl]
    · have := e2 p (by omega)
      refine ⟨?_, ?_, ?_⟩
      · rw [if_neg (by omega), if_neg (by omega), if_neg (by omega)]; exact this.1
      · rw [if_neg (by omega), if_neg (by omega), if_neg (by omega)]; exact this.2.1
      · rw [if_neg (by omega), if_neg (by omega), if_neg (by omega)]; exact this.2.2
  · rintro ⟨x, N⟩ ⟨e1, e2, e3⟩
    have e1 : x = nI 20 := e1
    subst e1
    refine wp_u2 ?_
    exact wp_ip (by decide) (wp_some (wp_some ⟨e2, e3⟩))
theorem takeFrom_wp {M : qM} {a : Nat} (ha : a = 111 ∨ a = 120) : wp (jMd_takeFrom a M) (fun M' => (∀ p, p < 20 → M'.1 108 p = M.1 a p ∧ M'.1 109 p = M.1 a (20 + p) ∧ M'.1 110 p = M.1 a (40 + p)) ∧ fr (fun b _ => 108 ≤ b ∧ b ≤ 110) M M') := by
  unfold jMd_takeFrom
  refine wp_bd (wp_for (fun q s => s.1 = nI q ∧ (∀ p, p < q → s.2.1 108 p = M.1 a p ∧ s.2.1 109 p = M.1 a (20 + p) ∧ s.2.1 110 p = M.1 a (40 + p)) ∧ fr (fun b _ => 108 ≤ b ∧ b ≤ 110) M s.2) 20 ⟨rfl, fun p hp => by omega, fr_rf _ _⟩ ?_ ?_)
  · rintro q ⟨x, N⟩ hq ⟨e1, e2, e3⟩
    have e1 : x = nI q := e1
    subst e1
    have e2 : ∀ p, p < q → N.1 108 p = M.1 a p ∧ N.1 109 p = M.1 a (20 + p) ∧ N.1 110 p = M.1 a (40 + p) := e2
    have e3 : fr (fun b _ => 108 ≤ b ∧ b ≤ 110) M N := e3
    refine wp_u2 ?_
    refine wp_in (nI_ge (b := 20) hq (by omega)) ?_
    refine wp_be (qrI_nI (show q < 60 by omega) (by omega)) ?_
    refine wp_bd (wp_wI rfl (show q < 20 by omega) (by omega) ?_)
    refine wp_bd (wp_rI (t := 20 + q) (by show nI 20 + nI q = _; rw [nI_add]) (by omega) (by omega) ?_)
    refine wp_bd (wp_wI rfl (show q < 20 by omega) (by omega) ?_)
    refine wp_bd (wp_rI (t := 40 + q) (by show nI 40 + nI q = _; rw [nI_add]) (by omega) (by omega) ?_)
    refine wp_bd (wp_wI rfl (show q < 20 by omega) (by omega) ?_)
    have n108 : ¬ a = 108 ∧ ¬ a = 109 := by omega
    refine wp_some ⟨nI_1 q, fun p hp => ?_, ((e3.tr (fr_I (by omega))).tr (fr_I (by omega))).tr (fr_I (by omega))⟩
    show (qI (qI (qI N 108 q (N.1 a q)) 109 q ((qI N 108 q (N.1 a q)).1 a (20 + q))) 110 q ((qI (qI N 108 q (N.1 a q)) 109 q ((qI N 108 q (N.1 a q)).1 a (20 + q))).1 a (40 + q))).1 108 p = _ ∧ (qI (qI (qI N 108 q (N.1 a q)) 109 q ((qI N 108 q (N.1 a q)).1 a (20 + q))) 110 q ((qI (qI N 108 q (N.1 a q)) 109 q ((qI N 108 q (N.1 a q)).1 a (20 + q))).1 a (40 + q))).1 109 p = _ ∧ (qI (qI (qI N 108 q (N.1 a q)) 109 q ((qI N 108 q (N.1 a q)).1 a (20 + q))) 110 q ((qI (qI N 108 q (N.1 a q)) 109 q ((qI N 108 q (N.1 a q)).1 a (20 + q))).1 a (40 + q))).1 110 p = _
    simp only [qI_1, n108.1, n108.2, false_and, if_false]
    rw [(e3 a q (by omega)).1, (e3 a (20 + q) (by omega)).1, (e3 a (40 + q) (by omega)).1]
    by_cases hpq : p = q
    · subst hpq
      simp
    · have := e2 p (by omega)
      simp [hpq]
      exact this
  · rintro ⟨x, N⟩ ⟨e1, e2, e3⟩
    have e1 : x = nI 20 := e1
    subst e1
    refine wp_u2 ?_
    exact wp_ip (by decide) (wp_some (wp_some ⟨e2, e3⟩))
theorem p_image {M : qM} {n : Nat} {vs : Nat → vT} (h : rMK n vs M) : bth (rMK n vs) sXC sXM jTc_image jMd_image M := by
  rcases h with ⟨⟨h1, h2, h3⟩ | ⟨i, t, lk, σ, hi, hi5, hC, hM⟩, hK⟩
  · refine ⟨-1, M, M, ?_, ?_, ⟨Or.inl ⟨h1, h2, h3⟩, hK⟩, fr_rf _ _, fr_rf _ _⟩
    · unfold jTc_image; rw [mbeg_f h1]; rfl
    · unfold jMd_image; rw [if_pos h2]
  · have hk33 : mok 33 := Or.inl rfl
    have hk37 : mok 37 := Or.inr (Or.inl rfl)
    refine bth_mk (P := fun M1 => moR M1 33 i (vs i) t lk σ ∧ mmR M1 i (vs i) t lk σ ∧ ∃ se sr, moS M1 37 (71 + 4 * i) (vs i) t lk (vTi (vs i) t 0) se sr ∧ moD M1 37 (vs i) t (vTi (vs i) t 0) σ) (nI (sMi σ)) ?_ ?_
    · unfold jTc_image
      rw [mbeg_t hC.1.2.2.2.2.2.2.1]
      refine wp_in (by decide) ?_
      refine wp_bd ((copy_wp hk37 hk33 (by decide) hC.1 hC.2.1).mono ?_)
      rintro M1 ⟨g1, g2, g3⟩
      exact wp_some ⟨g2.2.1, ⟨moR_off hC g3 (fun b j _ _ => by omega) (fun b j _ _ => by omega), mmR_off hM g3 (fun b j _ _ => by omega) (fun j _ _ => by omega), _, _, g1, g2⟩, g3.mono (fun b j hb => by unfold sXC; omega)⟩
    · rintro M1 ⟨hC1, hM1, se, sr, k1, k2⟩ g
      unfold jMd_image
      refine wp_in (by rw [hM1.2.2]; decide) ?_
      refine wp_bd ((keepTo_wp (Or.inr rfl)).mono ?_)
      rintro N ⟨g1, g2⟩
      have hMN := mmR_off hM1 g2 (fun b j _ _ => by omega) (fun j _ _ => by omega)
      simp only [qlt, qI_1]
      have q34 : N.1 91 34 = b2i (sOv σ) := hMN.2.1.2.2.2.1
      have hq : qtb (b2i (sOv σ)) = some (sOv σ) := by cases sOv σ <;> rfl
      simp (config := { decide := true }) only [if_false]
      rw [hMN.1.2.2.2.2.2.1, hMN.1.2.2.2.2.2.2.1, hMN.1.2.2.2.2.2.2.2.1, hMN.2.1.2.1, hMN.2.1.2.2.1, q34]
      refine wp_be hq ?_
      have h35 : N.2.1 91 35 = sD σ := hMN.2.1.1
      have fB : fr (fun b j => b = 91 ∧ 61 ≤ j ∧ j ≤ 67) N (qJ (qI (qI (qI (qI (qI (qI N 91 61 (nI i)) 91 62 (nI t)) 91 63 (nI lk)) 91 64 (nI (sMi σ))) 91 65 (nI (sCa σ))) 91 66 (b2i (sOv σ))) 91 67 (sD σ)) :=
        (((((((fr_I (by omega)).tr (fr_I (by omega))).tr (fr_I (by omega))).tr (fr_I (by omega))).tr (fr_I (by omega))).tr (fr_I (by omega))).tr (fr_J (by omega)))
      have e35 : (qI (qI (qI (qI (qI (qI N 91 61 (nI i)) 91 62 (nI t)) 91 63 (nI lk)) 91 64 (nI (sMi σ))) 91 65 (nI (sCa σ))) 91 66 (b2i (sOv σ))).2.1 91 35 = sD σ := h35
      rw [e35]
      have fall : fr (fun b j => b = 120 ∨ b = 91 ∧ 61 ≤ j ∧ j ≤ 67) M1 (qJ (qI (qI (qI (qI (qI (qI N 91 61 (nI i)) 91 62 (nI t)) 91 63 (nI lk)) 91 64 (nI (sMi σ))) 91 65 (nI (sCa σ))) 91 66 (b2i (sOv σ))) 91 67 (sD σ)) := (g2.mono (fun b j h => Or.inl h)).tr (fB.mono (fun b j h => Or.inr h))
      refine wp_some ⟨?_, ⟨Or.inr ⟨i, t, lk, σ, hi, hi5, moR_off hC1 fall (fun b j _ _ => by omega) (fun b j _ _ => by omega), mmR_off hM1 fall (fun b j _ _ => by omega) (fun j _ _ => by omega)⟩, Or.inr ⟨i, t, lk, σ, se, sr, hi, hi5, moS_off k1 fall (fun j => by omega) (fun b j _ _ => by omega), moD_off k2 fall (fun b j _ _ => by omega), hC.2.2, ?_, ?_⟩⟩, fall.mono (fun b j h => by unfold sXM; omega)⟩
      · exact Eq.trans (fB 91 30 (by omega)).1 hMN.2.1.2.1
      · refine ⟨fun p hp => ?_, by simp [qJ_1, qI_1], by simp [qJ_1, qI_1], by simp [qJ_1, qI_1], by simp [qJ_1, qI_1], by simp [qJ_1, qI_1], by simp [qJ_1, qI_1], by simp [qJ_21]⟩
        rw [(fB 120 p (by omega)).1, (fB 120 (20 + p) (by omega)).1, (fB 120 (40 + p) (by omega)).1, (g1 p hp).1, (g1 p hp).2.1, (g1 p hp).2.2]
        exact hM1.2.1.2.2.2.2.1 p hp
      · rw [(fB 91 33 (by omega)).1]; exact hMN.2.2
theorem p_back {M : qM} {n : Nat} {vs : Nat → vT} (hVM : rVsM M n vs) (h : rMK n vs M) : bth (rMK n vs) sXC sXM jTc_back jMd_back M := by
  obtain ⟨hR, hK⟩ := h
  rcases hK with ⟨h1, h2⟩ | ⟨i, t, lk, σ, se, sr, hi, hi5, k1, k2, k3, k4, k5⟩
  · refine ⟨-1, M, M, ?_, ?_, ⟨hR, Or.inl ⟨h1, h2⟩⟩, fr_rf _ _, fr_rf _ _⟩
    · unfold jTc_back; rw [mbeg_f h1]; rfl
    · unfold jMd_back; rw [if_pos h2]
  · have hk33 : mok 33 := Or.inl rfl
    have hk37 : mok 37 := Or.inr (Or.inl rfl)
    have hv := k1.1.1
    have hmi := k2.2.2.2.2.2.2.2.2.2.2.2.2.2.2
    have hmo : M.1 33 5 = -1 ∧ M.1 33 6 = -1 ∧ M.1 91 36 = 0 ∧ M.1 91 37 = -1 := by
      rcases hR with ⟨_, h2, _⟩ | ⟨i', t', lk', σ', _, _, hC, hM⟩
      · rw [k5] at h2; exact absurd h2 (by decide)
      · exact ⟨hC.1.2.2.2.2.2.2.2.2.2.2.2.1, hC.1.2.2.2.2.2.2.2.2.2.2.2.2, hM.1.2.2.2.2.2.2.2.2.2.1, hM.1.2.2.2.2.2.2.2.2.2.2⟩
    refine bth_mk (P := fun M1 => moR M1 33 i (vs i) t lk σ ∧ moS M1 37 (71 + 4 * i) (vs i) t lk (vTi (vs i) t 0) se sr ∧ moD M1 37 (vs i) t (vTi (vs i) t 0) σ) (nI (sMi σ)) ?_ ?_
    · unfold jTc_back
      rw [mbeg_t k1.2.2.2.2.2.2.1]
      refine wp_in (by decide) ?_
      refine wp_bd ((copy_wp hk33 hk37 (by decide) k1 k2).mono ?_)
      rintro M1 ⟨g1, g2, g3⟩
      rw [hmo.1, hmo.2.1] at g1
      exact wp_some ⟨g2.2.1, ⟨⟨g1, g2, k3⟩, moS_off k1 g3 (fun j => by omega) (fun b j _ _ => by omega), moD_off k2 g3 (fun b j _ _ => by omega)⟩, g3.mono (fun b j hb => by unfold sXC; omega)⟩
    · rintro M1 ⟨hC1, k1', k2'⟩ g
      have hV1 : rVM M1 i (vs i) := rVM_fr (hVM.2.2 i hi) g (fun b j _ _ => by unfold sXC; omega)
      have im1 : imM M1 i (vs i) t lk σ := imM_off k4 g (fun j => by unfold sXC; omega) (fun j _ _ => by unfold sXC; omega)
      have h33 : M1.1 91 33 = 1 := by rw [(g 91 33 (by simp [sXC])).1]; exact k5
      have h36 : M1.1 91 36 = 0 ∧ M1.1 91 37 = -1 := by rw [(g 91 36 (by simp [sXC])).1, (g 91 37 (by simp [sXC])).1]; exact ⟨hmo.2.2.1, hmo.2.2.2⟩
      have hT := hv.2.2.2.1 t k1.2.2.2.1
      unfold jMd_back
      refine wp_in (by rw [im1.2.2.2.2.1]; exact nI_m1 (by omega)) ?_
      refine wp_bd ((takeFrom_wp (Or.inr rfl)).mono ?_)
      rintro N ⟨g1, g2⟩
      have imN : imM N i (vs i) t lk σ := imM_off im1 g2 (fun j => by omega) (fun j _ _ => by omega)
      have hVN : rVM N i (vs i) := rVM_fr hV1 g2 (fun b j _ _ => by omega)
      simp only [qlt, qI_1]
      simp (config := { decide := true }) only [if_false, if_true, and_self]
      rw [imN.2.1, imN.2.2.1, imN.2.2.2.1]
      have f3 : fr (fun b j => b = 91 ∧ 27 ≤ j ∧ j ≤ 29) N (qI (qI (qI N 91 27 (nI i)) 91 28 (nI t)) 91 29 (nI lk)) := ((fr_I ⟨rfl, by omega, by omega⟩).tr (fr_I ⟨rfl, by omega, by omega⟩)).tr (fr_I ⟨rfl, by omega, by omega⟩)
      refine wp_be (thingAt_eq (w := 0) (rVM_fr hVN f3 (fun b j _ _ => by omega)) hi5 k1.2.2.2.1 (by decide)) ?_
      rw [imN.2.2.2.2.1, imN.2.2.2.2.2.1, imN.2.2.2.2.2.2.1]
      have hq : qtb (b2i (sOv σ)) = some (sOv σ) := by cases sOv σ <;> rfl
      refine wp_be hq ?_
      have e67 : (qI (qI (qI (qI (qI (qI (qI N 91 27 (nI i)) 91 28 (nI t)) 91 29 (nI lk)) 91 32 (nI (vTi (vs i) t 0))) 91 30 (nI (sMi σ))) 91 31 (nI (sCa σ))) 91 34 (b2i (sOv σ))).2.1 91 67 = sD σ := imN.2.2.2.2.2.2.2
      rw [e67]
      have fB : fr (fun b j => b = 91 ∧ (27 ≤ j ∧ j ≤ 32 ∨ j = 34 ∨ j = 35)) N (qJ (qI (qI (qI (qI (qI (qI (qI N 91 27 (nI i)) 91 28 (nI t)) 91 29 (nI lk)) 91 32 (nI (vTi (vs i) t 0))) 91 30 (nI (sMi σ))) 91 31 (nI (sCa σ))) 91 34 (b2i (sOv σ))) 91 35 (sD σ)) :=
        (((((((fr_I (by omega)).tr (fr_I (by omega))).tr (fr_I (by omega))).tr (fr_I (by omega))).tr (fr_I (by omega))).tr (fr_I (by omega))).tr (fr_I (by omega))).tr (fr_J (by omega))
      have fall : fr (fun b j => 108 ≤ b ∧ b ≤ 110 ∨ b = 91 ∧ (27 ≤ j ∧ j ≤ 32 ∨ j = 34 ∨ j = 35)) M1 (qJ (qI (qI (qI (qI (qI (qI (qI N 91 27 (nI i)) 91 28 (nI t)) 91 29 (nI lk)) 91 32 (nI (vTi (vs i) t 0))) 91 30 (nI (sMi σ))) 91 31 (nI (sCa σ))) 91 34 (b2i (sOv σ))) 91 35 (sD σ)) := (g2.mono (fun b j h => Or.inl h)).tr (fB.mono (fun b j h => Or.inr h))
      refine wp_some ⟨?_, ⟨Or.inr ⟨i, t, lk, σ, hi, hi5, moR_off hC1 fall (fun b j _ _ => by omega) (fun b j _ _ => by omega), ⟨?_, ?_, ?_⟩⟩, Or.inr ⟨i, t, lk, σ, se, sr, hi, hi5, moS_off k1' fall (fun j => by omega) (fun b j _ _ => by omega), moD_off k2' fall (fun b j _ _ => by omega), k3, imM_off im1 fall (fun j => by omega) (fun j _ _ => by omega), ?_⟩⟩, fall.mono (fun b j h => by unfold sXM; omega)⟩
      · simp [qJ_1, qI_1]
      · refine ⟨rVM_fr hV1 fall (fun b j _ _ => by omega), hi5, k1.2.2.2.1, hT.1, k1.2.2.2.2.2.1, by simp [qJ_1, qI_1], by simp [qJ_1, qI_1], by simp [qJ_1, qI_1], by simp [qJ_1, qI_1], ?_, ?_⟩
        · rw [(fall 91 36 (by omega)).1]; exact h36.1
        · rw [(fall 91 37 (by omega)).1]; exact h36.2
      · refine ⟨by simp [qJ_21], by simp [qJ_1, qI_1], by simp [qJ_1, qI_1], by simp [qJ_1, qI_1], fun p hp => ?_, k2.2.2.2.2.2.2.2.2.2.2⟩
        rw [(fB 108 p (by omega)).1, (fB 109 p (by omega)).1, (fB 110 p (by omega)).1, (g1 p hp).1, (g1 p hp).2.1, (g1 p hp).2.2]
        exact im1.1 p hp
      · rw [(fall 91 33 (by omega)).1]; exact h33
      · rw [(fall 91 33 (by omega)).1]; exact h33
