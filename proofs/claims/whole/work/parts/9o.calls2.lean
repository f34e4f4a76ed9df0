/-! ===== the other calls over the one relation ===== -/
theorem r_between {M : qM} (h : RR M) (v : Int32) : ∃ r M1 M2, jTc_between v M = (r, M1) ∧ jMd_between v M1 = (r, M2) ∧ RR M2 := by
  obtain ⟨n, vs, c, wo, Ws, τ, h1, h2, h3, h4, h5, h6, h7⟩ := h
  obtain ⟨r, M1, M2, e1, e2, e3, g1, g2⟩ := p_btw h6 v
  have G : fr (fun b j => (b = 0 ∧ j = 12) ∨ (b = 91 ∧ j = 57)) M M2 := (g1.mono (fun _ _ h => .inl h)).tr (g2.mono (fun _ _ h => .inr h))
  have hn := h2.1.1
  have hc := h3.1.2.1
  refine ⟨r, M1, M2, e1, e2, n, vs, c, wo, Ws, τ, tp_k h1 G ?_ ?_ ?_ ?_, ⟨rVsC_k h2.1 G ?_ ?_, rVsM_k h2.2 G ?_ ?_⟩, ⟨cuC_k h3.1 G ?_ ?_ ?_, cuM_k h3.2 G ?_ ?_ ?_⟩, rRow_k h4 G ?_ ?_ ?_, ⟨rTd_k h5.1 G ?_ ?_ ?_ ?_ ?_ ?_ ?_, rTo_k h5.2 G ?_ ?_⟩, e3, rMK_k h7 G ?_ ?_ ?_ ?_ ?_ ?_⟩ <;> intros <;> first | omega | (unfold kV at *; omega) | (unfold kCu at *; omega)
theorem r_way {M : qM} (h : RR M) (a w : Int32) : stp (jTc_way a w) (jMd_way a w) M := by
  obtain ⟨n, vs, c, wo, Ws, τ, hA⟩ := h
  have hR : RR M := ⟨n, vs, c, wo, Ws, τ, hA⟩
  have e : jTc_isOf a 6 = jMd_in a 0 5 := isOf_in rfl rfl
  have e2 : jTc_isOf w 6 = jMd_in w 0 5 := isOf_in rfl rfl
  unfold stp jTc_way jMd_way
  simp only [b2i_0, e, e2]
  cases hz : jMd_in a 0 5 with
  | false => exact ⟨false, M, M, by simp, by simp, hR⟩
  | true =>
    cases hw : jMd_in w 0 5 with
    | false => exact ⟨false, M, M, by simp, by simp, hR⟩
    | true =>
      rw [← e] at hz
      rw [← e2] at hw
      obtain ⟨t, rfl, ht, -⟩ := isOf_nI hz
      obtain ⟨x, rfl, hx, -⟩ := isOf_nI hw
      have h6 : (6 : Int32).toInt = 6 := rfl
      have ht : t < 6 := by omega
      have hx : x < 6 := by omega
      refine ⟨true, qI M 8 t (nI x), qI (qI M 8 t (nI x)) 107 t (nI x), by simp [qwI_nI ht], by simp [qwI_nI ht], ?_⟩
      have G : fr (fun b j => b = 8 ∨ b = 107) M (qI (qI M 8 t (nI x)) 107 t (nI x)) := (fr_I (.inl rfl)).tr (fr_I (.inr rfl))
      obtain ⟨h1, h2, h3, h4, h5, h6, h7⟩ := hA
      have hn := h2.1.1
      have hc := h3.1.2.1
      refine ⟨n, vs, c, fun s => if s = t then x else wo s, Ws, τ, tp_k h1 G ?_ ?_ ?_ ?_, ⟨rVsC_k h2.1 G ?_ ?_, rVsM_k h2.2 G ?_ ?_⟩, ⟨⟨?_, hc, fun s hs => ?_, fun i hi => rWC_fr (h3.1.2.2.2 i hi) G ?_⟩, ⟨?_, hc, fun s hs => ?_, fun i hi => rWM_fr (h3.2.2.2.2 i hi) G ?_⟩⟩, rRow_k h4 G ?_ ?_ ?_, ⟨rTd_k h5.1 G ?_ ?_ ?_ ?_ ?_ ?_ ?_, rTo_k h5.2 G ?_ ?_⟩, rBw_k h6 G ?_ ?_, rMK_k h7 G ?_ ?_ ?_ ?_ ?_ ?_⟩
      case refine_9 => rw [(G 6 1 (by omega)).1]; exact h3.1.1
      case refine_10 =>
        by_cases hst : s = t
        · simp only [if_pos hst]
          exact ⟨by simp [qI_1, hst], hx⟩
        · simp only [if_neg hst]
          exact ⟨by simp [qI_1, hst]; exact (h3.1.2.2.1 s hs).1, (h3.1.2.2.1 s hs).2⟩
      case refine_12 => rw [(G 91 13 (by omega)).1]; exact h3.2.1
      case refine_13 =>
        by_cases hst : s = t
        · simp only [if_pos hst]
          exact ⟨by simp [qI_1, hst], hx⟩
        · simp only [if_neg hst]
          exact ⟨by simp [qI_1, hst]; exact (h3.2.2.2.1 s hs).1, (h3.2.2.2.1 s hs).2⟩
      all_goals (intros; first | omega | (unfold kV at *; omega) | (unfold kCu at *; omega))
theorem r_wayOf {M : qM} (h : RR M) (a : Int32) : ∃ r, jTc_wayOf a M = some r ∧ jMd_wayOf a M = some r := by
  obtain ⟨n, vs, c, wo, Ws, τ, h1, h2, h3, h4, h5, h6, h7⟩ := h
  exact p_wayOf (fun j hj => by rw [(h3.1.2.2.1 j hj).1, (h3.2.2.2.1 j hj).1]) a
theorem r_count {M : qM} (h : RR M) (a : Int32) : ∃ r, jTc_count a M = some r ∧ jMd_count a M = some r := by
  obtain ⟨n, vs, c, wo, Ws, τ, h1, h2, h3, h4, h5, h6, h7⟩ := h
  unfold jTc_count jMd_count
  by_cases a0 : a = 0
  · exact ⟨nI n, by rw [if_pos a0, h2.1.2.1], by rw [if_pos a0, h2.2.2.1]⟩
  rw [if_neg a0, if_neg a0]
  by_cases a1 : a = 1
  · exact ⟨nI c, by rw [if_pos a1, h3.1.1], by rw [if_pos a1, h3.2.1]⟩
  rw [if_neg a1, if_neg a1]
  by_cases a2 : a = 2
  · exact ⟨nI τ.1, by rw [if_pos a2, h1.2.1.1], by rw [if_pos a2, h1.2.2.1]⟩
  rw [if_neg a2, if_neg a2]
  by_cases a3 : a = 3
  · obtain ⟨b, _, b1, b2⟩ := h6
    exact ⟨nI b, by rw [if_pos a3, b1], by rw [if_pos a3, b2]⟩
  rw [if_neg a3, if_neg a3]
  by_cases a4 : a = 4
  · rw [if_pos a4, if_pos a4]
    rcases h4 with h | ⟨P, m, w, f, k, T, cc, hC, hM⟩
    · refine ⟨-1, ?_, by rw [h.2.1]⟩
      rw [isThere_f h.1]
      rfl
    · have hT := hC.1.2.2.2.2.2
      refine ⟨nI T, ?_, by rw [hM.1.2.2.2.2.2.1]⟩
      rw [isThere_t hT.1 (by omega) (by omega), hT.1]
      rfl
  rw [if_neg a4, if_neg a4]
  by_cases a5 : a = 5
  · rw [if_pos a5, if_pos a5]
    rcases h7.1 with ⟨q1, q2, q3, q4⟩ | ⟨i, t, lk, σ, hi, hi5, hC, hM⟩
    · refine ⟨-1, ?_, ?_⟩
      · unfold jMo_began
        simp only [qlt]
        rw [if_pos q1]
        rfl
      · rw [if_pos q2]
        rfl
    · have hV := hC.1.1
      have h0 : M.2.2 33 0 = some (71 + 4 * i) := hC.1.2.2.2.2.2.2.1
      refine ⟨nI (vP (vs i)), ?_, ?_⟩
      · unfold jMo_began
        simp only [qlt]
        rw [h0]
        show ((some (M.1 (71 + 4 * i) 2)).bind fun x2 => some x2) = _
        rw [hV.2.2.2.1]
        rfl
      · rw [if_neg (by rw [hM.2.2]; decide), many_eq hM.1]
        rfl
  rw [if_neg a5, if_neg a5]
  by_cases a6 : a = 6
  · rw [if_pos a6, if_pos a6]
    rcases h5.1 with ⟨q1, q2⟩ | ⟨i, t, f, hi, hi5, hC, hM⟩
    · refine ⟨-1, ?_, ?_⟩
      · rw [began_f q1]
        rfl
      · rw [if_pos q2]
        rfl
    · refine ⟨nI (vP (vs i)), ?_, ?_⟩
      · rw [began_t hC.2.2.1, hC.2.2.1]
        show ((some (M.1 (71 + 4 * i) 2)).bind fun x4 => some x4) = _
        rw [hC.1.2.2.2.1]
        rfl
      · rw [if_neg (by rw [hM.2.2.1]; exact nI_m1 (by omega)), hM.2.2.1, qrI_nI hi5 (by decide), hM.1.2.2.2.1]
        rfl
  · exact ⟨-1000000, by rw [if_neg a6], by rw [if_neg a6]⟩
theorem RR_90 {M : qM} (h : RR M) (v : Int32) : RR (qI M 91 0 v) := by
  obtain ⟨n, vs, c, wo, Ws, τ, hA⟩ := h
  have hn := hA.2.1.1.1
  have hc := hA.2.2.1.1.2.1
  refine RR_fr hA (fr_I (S := fun b j => b = 91 ∧ j = 0) ⟨rfl, rfl⟩) (fun b j hb => ?_)
  unfold kA kV kCu at hb
  omega
theorem r_village {M : qM} (h : RR M) (a b : Int32) : (jTc_isVillage a M = true ∧ jTc_isOf b 3 = true ∧ ∃ r M2, jTc_village a b M = some r ∧ jMd_village a b M = some (r, M2) ∧ M2.1 91 0 = 0 ∧ RR M2) ∨ ((jTc_isVillage a M = false ∨ jTc_isOf b 3 = false) ∧ ∃ M2, jMd_village a b M = some (0, M2) ∧ M2.1 91 0 = 1 ∧ RR M2) := by
  have hR := h
  obtain ⟨n, vs, c, wo, Ws, τ, h1, h2, h3, h4, h5, h6, h7⟩ := h
  rcases p_village h2.1 h2.2 a b with ⟨e1, e2, r, e3, e4⟩ | ⟨e1, e2⟩
  · exact .inl ⟨e1, e2, r, _, e3, e4, by rw [qI_1, if_pos ⟨rfl, rfl⟩], RR_90 hR 0⟩
  · exact .inr ⟨e1, _, e2, by rw [qI_1, if_pos ⟨rfl, rfl⟩], RR_90 hR 1⟩
theorem r_value {M : qM} (h : RR M) (a : Int32) : (jRo_isThere M = true ∧ jTc_isOf a (M.1 49 5 + 1) = true ∧ ∃ r M1 M2, jTc_value a M = some (r, M1) ∧ jMd_value a M1 = some (r, M2) ∧ M2.1 91 0 = 0 ∧ RR M2) ∨ ((jRo_isThere M = false ∨ jTc_isOf a (M.1 49 5 + 1) = false) ∧ ∃ M2, jMd_value a M = some (0, M2) ∧ M2.1 91 0 = 1 ∧ RR M2) := by
  have hR := h
  obtain ⟨n, vs, c, wo, Ws, τ, h1, h2, h3, h4, h5, h6, h7⟩ := h
  rcases p_value h4 a with ⟨e1, e2, r, M1, M2, e3, e4, ⟨e5, e6⟩, g1, g2⟩ | ⟨e1, e2⟩
  · obtain ⟨r', M1', M2', k1, k2, k3⟩ := RR_row hR ⟨r, M1, M2, e3, e4, e5, g1, g2⟩
    have : (r', M1') = (r, M1) := Option.some.inj (k1.symm.trans e3)
    cases this
    have : (r, M2') = (r, M2) := Option.some.inj (k2.symm.trans e4)
    cases this
    exact .inl ⟨e1, e2, r, M1, M2, e3, e4, e6, k3⟩
  · exact .inr ⟨e1, _, e2, by rw [qI_1, if_pos ⟨rfl, rfl⟩], RR_90 hR 1⟩
theorem r_crowd {M : qM} (h : RR M) : ∃ r M1, jTc_crowd M = some (r, M1) ∧ jMd_crowd M1 = some r ∧ RR M1 := by
  obtain ⟨n, vs, c, wo, Ws, τ, h1, h2, h3, h4, h5, h6, h7⟩ := h
  obtain ⟨r, M1, e1, e2, e3, G⟩ := p_crowd h5.1
  have hn := h2.1.1
  have hc := h3.1.2.1
  refine ⟨r, M1, e1, e2, n, vs, c, wo, Ws, τ, tp_k h1 G ?_ ?_ ?_ ?_, ⟨rVsC_k h2.1 G ?_ ?_, rVsM_k h2.2 G ?_ ?_⟩, ⟨cuC_k h3.1 G ?_ ?_ ?_, cuM_k h3.2 G ?_ ?_ ?_⟩, rRow_k h4 G ?_ ?_ ?_, ⟨e3, rTo_k h5.2 G ?_ ?_⟩, rBw_k h6 G ?_ ?_, rMK_k h7 G ?_ ?_ ?_ ?_ ?_ ?_⟩ <;> intros <;> unfold sTC <;> first | omega | (unfold kV at *; omega) | (unfold kCu at *; omega)
theorem r_thing {M : qM} (h : RR M) (a b c : Int32) : ∃ r, jTc_thing a b c M = some r ∧ jMd_thing a b c M = some r := by
  obtain ⟨n, vs, cc, wo, Ws, τ, h1, h2, h3⟩ := h
  exact p_thing h2.1 h2.2 a b c
theorem r_sort {M : qM} (h : RR M) (a b c : Int32) : ∃ r, jTc_sort a b c M = some r ∧ jMd_sort a b c M = some r := by
  obtain ⟨n, vs, cc, wo, Ws, τ, h1, h2, h3⟩ := h
  exact p_sort h2.1 h2.2 a b c
theorem r_of {M : qM} (h : RR M) (a b : Int32) : ∃ r, jTc_of a b M = some r ∧ jMd_of a b M = some r := by
  obtain ⟨n, vs, cc, wo, Ws, τ, h1, h2, h3⟩ := h
  exact p_of h2.1 h2.2 a b
theorem r_who {M : qM} (h : RR M) (a b : Int32) : ∃ r, jTc_who a b M = some r ∧ jMd_who a b M = some r := by
  obtain ⟨n, vs, c, wo, Ws, τ, h1, h2, h3, h4, h5, h6, h7⟩ := h
  exact p_who h7.1 a b
theorem r_about {M : qM} (h : RR M) (a : Int32) : ∃ r, jTc_about a M = some r ∧ jMd_about a M = some r := by
  obtain ⟨n, vs, c, wo, Ws, τ, h1, h2, h3, h4, h5, h6, h7⟩ := h
  exact p_about h7.1 a
section Plain
variable {M : qM} (h : RR M)
theorem r_best (h : RR M) : stp jTc_best jMd_best M := by
  have hR := h
  obtain ⟨n, vs, c, wo, Ws, τ, h1, h2, h3, h4, _⟩ := h
  exact RR_row hR (p_best h4)
theorem RR_4 (h : RR M) : rRow M := by
  obtain ⟨n, vs, c, wo, Ws, τ, h1, h2, h3, h4, _⟩ := h
  exact h4
theorem r_rest (h : RR M) (a : Int32) : stp (jTc_rest a) (jMd_rest a) M := RR_row h (p_rest (RR_4 h) a)
theorem r_chance (h : RR M) (a b : Int32) : stp (jTc_chance a b) (jMd_chance a b) M := RR_row h (p_chance (RR_4 h) a b)
theorem r_row (h : RR M) (a1 a2 a3 a4 a5 a6 : Int32) : stp (jTc_row a1 a2 a3 a4 a5 a6) (jMd_row a1 a2 a3 a4 a5 a6) M := RR_row h (p_row (RR_4 h) a1 a2 a3 a4 a5 a6)
theorem r_taken (h : RR M) (a : Int32) : stp (jTc_taken a) (jMd_taken a) M := RR_row h (p_taken (RR_4 h) a)
theorem r_mean (h : RR M) : stp jTc_mean jMd_mean M := RR_row h (p_mean (RR_4 h))
theorem r_gone (h : RR M) (a : Int32) : stp (jTc_gone a) (jMd_gone a) M := RR_row h (p_gone (RR_4 h) a)
theorem r_like (h : RR M) (a : Int32) : stp (jTc_like a) (jMd_like a) M := RR_row h (p_like (RR_4 h) a)
theorem r_found (h : RR M) (a b : Int32) : stp (jTc_found a b) (jMd_found a b) M := RR_row h (p_found (RR_4 h) a b)
theorem r_tell (h : RR M) (a b : Int32) : stp (jTc_tell a b) (jMd_tell a b) M := RR_told h (fun n vs g1 g2 g3 => p_tell g1 g2 g3 a b)
theorem r_came (h : RR M) (a b : Int32) : stp (jTc_came a b) (jMd_came a b) M := RR_told h (fun n vs _ _ g3 => p_came g3 a b)
theorem r_told (h : RR M) (a b : Int32) : stp (jTc_told a b) (jMd_told a b) M := RR_told h (fun n vs _ _ g3 => p_told g3 a b)
theorem r_ill (h : RR M) : stp jTc_ill jMd_ill M := RR_told h (fun n vs _ _ g3 => p_ill g3)
theorem r_settle (h : RR M) : stp jTc_settle jMd_settle M := RR_told h (fun n vs _ _ g3 => p_settle g3)
theorem r_swap (h : RR M) (a b : Int32) : stp (jTc_swap a b) (jMd_swap a b) M := RR_told h (fun n vs _ _ g3 => p_swap g3 a b)
theorem r_free (h : RR M) (a : Int32) : stp (jTc_free a) (jMd_free a) M := RR_told h (fun n vs _ _ g3 => p_free g3 a)
theorem r_start (h : RR M) (a b c : Int32) (d : Int64) : stp (jTc_start a b c d) (jMd_start a b c d) M := RR_mor h (fun n vs _ _ _ g1 g2 _ _ g5 => p_start g1 g2 g5 a b c d)
theorem r_minutes (h : RR M) (a : Int32) : stp (jTc_minutes a) (jMd_minutes a) M := RR_mor h (fun n vs c wo Ws _ _ g3 g4 g5 => p_minutes g5 g3 g4 a)
theorem r_image (h : RR M) : stp jTc_image jMd_image M := RR_mor h (fun n vs _ _ _ _ _ _ _ g5 => p_image g5)
theorem r_back (h : RR M) : stp jTc_back jMd_back M := RR_mor h (fun n vs _ _ _ _ g2 _ _ g5 => p_back g2 g5)
theorem r_odds (h : RR M) (a b c : Int32) : stp (jTc_odds a b c) (jMd_odds a b c) M := RR_tal h (fun n vs _ _ _ g1 g2 g3 => p_odds g1 g2 g3 a b c)
theorem r_law (h : RR M) (a b : Int32) : stp (jTc_law a b) (jMd_law a b) M := RR_tal h (fun n vs _ _ _ g1 g2 g3 => p_law g1 g2 g3 a b)
theorem r_which (h : RR M) (a : Int32) : stp (jTc_which a) (jMd_which a) M := RR_tal h (fun n vs _ _ _ g1 g2 g3 => p_which g1 g2 g3 a)
theorem r_quiet (h : RR M) (a : Int32) : stp (jTc_quiet a) (jMd_quiet a) M := RR_tal h (fun n vs _ _ _ g1 g2 g3 => p_quiet g1 g2 g3 a)
theorem r_pay (h : RR M) (a b c : Int32) : stp (jTc_pay a b c) (jMd_pay a b c) M := RR_tal h (fun n vs _ _ _ g1 g2 g3 => p_pay g1 g2 g3 a b c)
theorem r_price (h : RR M) (a b : Int32) : stp (jTc_price a b) (jMd_price a b) M := RR_tal h (fun n vs _ _ _ g1 g2 g3 => p_price g1 g2 g3 a b)
theorem r_strangers (h : RR M) (a b : Int32) : stp (jTc_strangers a b) (jMd_strangers a b) M := RR_tal h (fun n vs _ _ _ g1 g2 g3 => p_strangers g1 g2 g3 a b)
theorem r_ends (h : RR M) (a b : Int32) : stp (jTc_ends a b) (jMd_ends a b) M := RR_tal h (fun n vs _ _ _ g1 g2 g3 => p_ends g1 g2 g3 a b)
theorem r_both (h : RR M) (a b c : Int32) : stp (jTc_both a b c) (jMd_both a b c) M := RR_tal h (fun n vs _ _ _ g1 g2 g3 => p_both g1 g2 g3 a b c)
theorem r_kin (h : RR M) (a b c : Int32) : stp (jTc_kin a b c) (jMd_kin a b c) M := RR_tal h (fun n vs _ _ _ g1 g2 g3 => p_kin g1 g2 g3 a b c)
theorem r_seen (h : RR M) (a : Int32) : stp (jTc_seen a) (jMd_seen a) M := RR_tal h (fun n vs _ _ _ g1 g2 g3 => p_seen g1 g2 g3 a)
theorem r_gains (h : RR M) (a b : Int32) : stp (jTc_gains a b) (jMd_gains a b) M := RR_tal h (fun n vs _ _ _ g1 g2 g3 => p_gains g1 g2 g3 a b)
theorem r_better (h : RR M) (a b : Int32) : stp (jTc_better a b) (jMd_better a b) M := RR_best h (fun n vs _ _ _ g1 g2 g3 => by
  obtain ⟨r, M1, M2, e1, e2, e3, f1, f2⟩ := p_better g1 g2 g3 a b
  exact ⟨r, M1, M2, e1, e2, e3, f1, f2.mono (fun _ _ h => .inl h)⟩)
theorem r_agree (h : RR M) (a : Int32) : stp (jTc_agree a) (jMd_agree a) M := RR_best h (fun n vs _ _ _ g1 g2 g3 => p_agree g1 g2 g3 a)
end Plain
