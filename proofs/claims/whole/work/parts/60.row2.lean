-- needs 52 53 54 55 56 57 58 59
theorem followAll_wp {M : qM} {P m w f k T : Nat} {c : Nat → Nat} (hC : rwC M P m w f k T c) (hM : rwM M P m w f k T c) :
    wp (jRo_followAll M) (fun M' => (∀ t, t < T → M'.2.1 51 t = lN (tk P m c t)) ∧ (∀ t, t ≤ T → M'.2.1 52 t = lN (gn P c t)) ∧ rwC M' P m w f k T c ∧ rwM M' P m w f k T c ∧ fr sRC M M') := by
  have bb : 2 ≤ P ∧ P ≤ 9 ∧ 1 ≤ m ∧ m ≤ P ∧ w < 1000 ∧ f < 100 ∧ k < 100 ∧ 1 ≤ T ∧ T ≤ 12 := hC.1.2.2.2.2.2.2
  unfold jRo_followAll
  have q5 : M.1 49 5 = nI T := hC.1.2.2.2.2.2.1
  rw [hC.1.1, q5]
  refine wp_bd ((follow_wp (c := c) hC.2.2.2.1 hC.2.2.2.2 hC.1.2.1 (by omega) (by omega) (by omega) (by omega) (Or.inl rfl) (fun t ht => hC.2.1 t (by omega))).mono ?_)
  rintro M1 ⟨g1, g2, g3, g4⟩
  exact wp_some ⟨fun t ht => (g2 t ht).1, g3, rwC_W hC (g4.mono (fun _ _ h => Or.inl h)) g1, rwM_C hM (sFol_C g4), sFol_C g4⟩
theorem never_eq {M : qM} {T : Nat} {f : Nat → Nat} (h5 : M.1 49 5 = nI T) (h1 : 1 ≤ T) (h2 : T ≤ 12) (h : ∀ t, t < T → M.2.1 51 t = lN (f t)) : jRo_never M = some (1000000000 - lN (sumN f T)) := by
  unfold jRo_never
  rw [h5, show (1 : Int32) = nI 1 from rfl, nI_subE h1, takenUpTo_eq (f := f) (by omega) (fun t ht => h t (by omega)), show T - 1 + 1 = T by omega]
  rfl
theorem l_sub (a b c : Int64) : a - b - c = a - (b + c) := by
  rw [Int64.sub_eq_add_neg, Int64.sub_eq_add_neg, Int64.sub_eq_add_neg, Int64.neg_add, Int64.sub_eq_add_neg, Int64.add_assoc]
/-- the reference's steps through the minutes -/
theorem mstep {M N : qM} {P m w f k T n : Nat} {c : Nat → Nat} (hM : rwM M P m w f k T c) (hf : fr sPa M N) (hn : n < 12) (hp : ∀ j, j < 10 → N.2.1 114 j = lN (pt P c n j)) :
    jMd_takenIn (nI n) N = some (lN (tk P m c n)) ∧ wp (jMd_nextParts (N.1 91 43) (nI n) N) (fun M' => (∀ j, j < 10 → M'.2.1 114 j = lN (pt P c (n + 1) j)) ∧ fr sPa M M') := by
  have hN := rwM_P hM hf
  have bb : 2 ≤ P ∧ P ≤ 9 ∧ 1 ≤ m ∧ m ≤ P ∧ w < 1000 ∧ f < 100 ∧ k < 100 ∧ 1 ≤ T ∧ T ≤ 12 := hM.1.2.2.2.2.2.2
  refine ⟨takenIn_eq hN.1 hn (fun i hi => (hN.2 i (by omega)).2) (hN.2 n hn).1 hp, ?_⟩
  rw [hN.1.1]
  exact (nextParts_wp (c := c) (by omega) hn (fun i hi => (hN.2 i (by omega)).2) (hN.2 n hn).1 hp).mono (fun M' h => ⟨h.1, hf.tr h.2⟩)
theorem first_0 {M : qM} {P : Nat} {c : Nat → Nat} : wp (jMd_firstParts M) (fun M' => (∀ j, j < 10 → M'.2.1 114 j = lN (pt P c 0 j)) ∧ fr sPa M M') := wp_eq (firstParts_eq M P c) ⟨fun j hj => sJ_at hj, fr_sJ (fun j hj => Or.inl rfl)⟩
theorem p_taken {M : qM} (h : rRow M) (a : Int32) : bth rRow sRC sRM (jTc_taken a) (jMd_taken a) M := by
  rcases h with h | ⟨P, m, w, f, k, T, c, hC, hM⟩
  · refine ⟨-1, M, M, ?_, ?_, Or.inl h, fr_rf _ _, fr_rf _ _⟩
    · unfold jTc_taken
      rw [isThere_f h.1]
      rfl
    · unfold jMd_taken
      rw [if_pos h.2.1]
  · have bb : 2 ≤ P ∧ P ≤ 9 ∧ 1 ≤ m ∧ m ≤ P ∧ w < 1000 ∧ f < 100 ∧ k < 100 ∧ 1 ≤ T ∧ T ≤ 12 := hC.1.2.2.2.2.2.2
    have q5 : M.1 49 5 = nI T := hC.1.2.2.2.2.2.1
    have q6 : M.1 91 48 = nI T := hM.1.2.2.2.2.2.1
    have hT1 : ¬ nI T = -1 := nI_m1 (by omega)
    have iT := isThere_t q5 (by omega) (by omega)
    have e2 : (a = -1 ∨ jTc_isOf a (nI T) = true) ↔ jMd_in a (-1) (nI T - 1) = true := by
      rw [isOf_iff, in_iff, i_eq, show (1 : Int32) = nI 1 from rfl, nI_subE (by omega), nI_toInt (by omega), nI_toInt (by omega)]
      have n1 : (-nI 1 : Int32).toInt = -1 := rfl
      rw [n1]
      omega
    by_cases hz : a = -1 ∨ jTc_isOf a (nI T) = true
    · refine bth_mk (P := fun M1 => rwC M1 P m w f k T c ∧ rwM M1 P m w f k T c) (if a = -1 then (1000000000 - lN (sumN (tk P m c) T)).toInt32 else (lN (tk P m c a.toInt.toNat)).toInt32) ?_ ?_
      · unfold jTc_taken
        simp only [qlt]
        rw [iT, q5]
        refine wp_in ?_ ?_
        · by_cases ha : a = -1
          · simp [ha, b2i]
          · simp [ha, b2i, hz.resolve_left ha]
        · refine wp_bd ((followAll_wp hC hM).mono ?_)
          rintro M1 ⟨g1, g2, g3, g4, g5⟩
          refine wp_bd ?_
          refine wp_if (fun ha => ?_) (fun ha => ?_)
          · refine wp_be (never_eq (f := tk P m c) g3.1.2.2.2.2.2.1 (by omega) (by omega) g1) ?_
            exact wp_some (wp_some ⟨by rw [if_pos ha], ⟨g3, g4⟩, g5⟩)
          · obtain ⟨t, ht, rfl⟩ := isOf_of (by omega) (hz.resolve_left ha)
            refine wp_bd (wp_rJ rfl (show t < 12 by omega) (by decide) ?_)
            refine wp_some (wp_some ⟨?_, ⟨g3, g4⟩, g5⟩)
            rw [if_neg ha, g1 t ht, nI_toInt (by omega)]
            rfl
      · rintro M1 ⟨hC1, hM1⟩ g
        unfold jMd_taken
        rw [hM1.1.2.2.2.2.2.1]
        refine wp_in hT1 ?_
        rw [e2.mp hz]
        refine wp_in (by decide) ?_
        refine wp_bd ((first_0 (P := P) (c := c)).mono ?_)
        rintro M2 ⟨g1, g2⟩
        refine wp_bd (wp_for (fun n s => s.1 = 1000000000 - lN (sumN (tk P m c) n) ∧ s.2.1 = nI n ∧ (∀ i, i < n → ¬ a = nI i) ∧ (∀ j, j < 10 → s.2.2.2.1 114 j = lN (pt P c n j)) ∧ fr sPa M1 s.2.2) T ?_ ?_ ?_)
        · exact ⟨by simp [sumN, lN_0], rfl, fun i hi => by omega, g1, g2⟩
        · rintro n ⟨x, y, N⟩ hn ⟨h1, h2, h3, h4, h5⟩
          have h1 : x = 1000000000 - lN (sumN (tk P m c) n) := h1
          have h2 : y = nI n := h2
          subst h1 h2
          have h5 : fr sPa M1 N := h5
          have h4 : ∀ j, j < 10 → N.2.1 114 j = lN (pt P c n j) := h4
          have hN := rwM_P hM1 h5
          have hst := mstep hM1 h5 (by omega) h4
          simp only [qu3]
          rw [hN.1.2.2.2.2.2.1]
          refine wp_in (nI_ge hn (by omega)) ?_
          refine wp_be hst.1 ?_
          refine wp_if (fun ha => ?_) (fun ha => ?_)
          · refine wp_some (wp_se ?_)
            refine wp_some ⟨?_, rRow_M hC1 hN (sPa_M h5), sPa_M h5⟩
            rw [← ha, if_neg (nI_m1 (by omega)), nI_toInt (by omega)]
            rfl
          · simp only [qlt]
            refine wp_bd (hst.2.mono ?_)
            rintro M3 ⟨g3, g4⟩
            refine wp_some ⟨?_, nI_1 n, ?_, g3, g4⟩
            · show 1000000000 - lN (sumN (tk P m c) n) - lN (tk P m c n) = 1000000000 - lN (sumN (tk P m c) n + tk P m c n)
              rw [l_sub, lN_add]
            · intro i hi he
              by_cases hin : i = n
              · rw [hin] at he; exact ha he.symm
              · exact h3 i (by omega) he
        · rintro ⟨x, y, N⟩ ⟨h1, h2, h3, h4, h5⟩
          have h1 : x = 1000000000 - lN (sumN (tk P m c) T) := h1
          have h2 : y = nI T := h2
          subst h1 h2
          have h5 : fr sPa M1 N := h5
          have hN := rwM_P hM1 h5
          simp only [qu3]
          rw [hN.1.2.2.2.2.2.1]
          refine wp_ip (nI_le (Nat.le_refl _) (by omega)) (wp_some (wp_se ?_))
          refine wp_some ⟨?_, rRow_M hC1 hN (sPa_M h5), sPa_M h5⟩
          rw [if_pos]
          rcases hz with ha | ha
          · exact ha
          · obtain ⟨t, ht, rfl⟩ := isOf_of (by omega) ha
            exact absurd rfl (h3 t ht)
    · refine ⟨-1, M, M, ?_, ?_, Or.inr ⟨P, m, w, f, k, T, c, hC, hM⟩, fr_rf _ _, fr_rf _ _⟩
      · have h1 : ¬ a = -1 := fun h => hz (Or.inl h)
        have h2 : jTc_isOf a (nI T) = false := by
          rw [← Bool.not_eq_true]
          exact fun h => hz (Or.inr h)
        unfold jTc_taken
        rw [iT, q5, h2]
        simp [qlt, h1, b2i]
      · have h3 : jMd_in a (-1) (nI T - 1) = false := by
          rw [← Bool.not_eq_true, ← e2]
          exact hz
        unfold jMd_taken
        rw [q6, if_neg hT1, h3]
        rfl
theorem p_mean {M : qM} (h : rRow M) : bth rRow sRC sRM jTc_mean jMd_mean M := by
  rcases h with h | ⟨P, m, w, f, k, T, c, hC, hM⟩
  · refine ⟨-1, M, M, ?_, ?_, Or.inl h, fr_rf _ _, fr_rf _ _⟩
    · unfold jTc_mean
      rw [isThere_f h.1]
      rfl
    · unfold jMd_mean
      rw [if_pos h.2.1]
  · have bb : 2 ≤ P ∧ P ≤ 9 ∧ 1 ≤ m ∧ m ≤ P ∧ w < 1000 ∧ f < 100 ∧ k < 100 ∧ 1 ≤ T ∧ T ≤ 12 := hC.1.2.2.2.2.2.2
    have q5 : M.1 49 5 = nI T := hC.1.2.2.2.2.2.1
    have hT1 : ¬ nI T = -1 := nI_m1 (by omega)
    have iT := isThere_t q5 (by omega) (by omega)
    refine bth_mk (P := fun M1 => rwC M1 P m w f k T c ∧ rwM M1 P m w f k T c) (((lN (sumN (fun t => tk P m c t * t) T) + (1000000000 - lN (sumN (tk P m c) T)) * lN T) / 1000).toInt32) ?_ ?_
    · unfold jTc_mean
      rw [iT]
      refine wp_in (by decide) ?_
      refine wp_bd ((followAll_wp hC hM).mono ?_)
      rintro M1 ⟨g1, g2, g3, g4, g5⟩
      have q5' : M1.1 49 5 = nI T := g3.1.2.2.2.2.2.1
      have hmm : jRo_meanMinute M1 = some (((lN (sumN (fun t => tk P m c t * t) T) + (1000000000 - lN (sumN (tk P m c) T)) * lN T) / 1000).toInt32) := by
        unfold jRo_meanMinute
        rw [never_eq (f := tk P m c) q5' (by omega) (by omega) g1, q5']
        simp only [Option.bind_some, qlt]
        rw [nI_l (show T < 2 ^ 31 by omega)]
        rw [qlp_for0 (s0 := ((1000000000 - lN (sumN (tk P m c) T)) * lN T, (0 : Int32))) (fun n => ((1000000000 - lN (sumN (tk P m c) T)) * lN T + lN (sumN (fun t => tk P m c t * t) n), nI n)) ((1000000000 - lN (sumN (tk P m c) T)) * lN T + lN (sumN (fun t => tk P m c t * t) T)) T (by simp [sumN, lN_0]; rfl) (fun n hn => ?_) ?_]
        · simp only [Option.bind_some]
          rw [Int64.add_comm]
        · simp only [qu2]
          rw [if_pos (nI_le (Nat.le_refl _) (by omega))]
        · simp only [qu2, qlt]
          rw [if_neg (nI_ge hn (by omega)), qrJ_nI (by omega) (by decide), g1 n hn]
          simp only [Option.bind_some]
          rw [nI_l (by omega), lN_mul, Int64.add_assoc, lN_add, nI_1]
          rfl
      refine wp_be hmm ?_
      exact wp_some ⟨rfl, ⟨g3, g4⟩, g5⟩
    · rintro M1 ⟨hC1, hM1⟩ g
      unfold jMd_mean
      rw [hM1.1.2.2.2.2.2.1]
      refine wp_in hT1 ?_
      refine wp_bd ((first_0 (P := P) (c := c)).mono ?_)
      rintro M2 ⟨g1, g2⟩
      refine wp_bd (wp_for (fun n s => s.1 = 1000000000 - lN (sumN (tk P m c) n) ∧ s.2.1 = lN (sumN (fun t => tk P m c t * t) n) ∧ s.2.2.1 = nI n ∧ (∀ j, j < 10 → s.2.2.2.2.1 114 j = lN (pt P c n j)) ∧ fr sPa M1 s.2.2.2) T ?_ ?_ ?_)
      · exact ⟨by simp [sumN, lN_0], rfl, rfl, g1, g2⟩
      · rintro n ⟨x, z, y, N⟩ hn ⟨h1, h6, h2, h4, h5⟩
        have h1 : x = 1000000000 - lN (sumN (tk P m c) n) := h1
        have h6 : z = lN (sumN (fun t => tk P m c t * t) n) := h6
        have h2 : y = nI n := h2
        subst h1 h2 h6
        have h5 : fr sPa M1 N := h5
        have h4 : ∀ j, j < 10 → N.2.1 114 j = lN (pt P c n j) := h4
        have hN := rwM_P hM1 h5
        have hst := mstep hM1 h5 (by omega) h4
        simp only [qu4]
        rw [hN.1.2.2.2.2.2.1]
        refine wp_in (nI_ge hn (by omega)) ?_
        refine wp_be hst.1 ?_
        simp only [qlt]
        refine wp_bd (hst.2.mono ?_)
        rintro M3 ⟨g3, g4⟩
        refine wp_some ⟨?_, ?_, nI_1 n, g3, g4⟩
        · show 1000000000 - lN (sumN (tk P m c) n) - lN (tk P m c n) = 1000000000 - lN (sumN (tk P m c) n + tk P m c n)
          rw [l_sub, lN_add]
        · show lN (sumN (fun t => tk P m c t * t) n) + lN (tk P m c n) * (nI n).toInt64 = _
          rw [nI_l (by omega), lN_mul, lN_add]
          rfl
      · rintro ⟨x, z, y, N⟩ ⟨h1, h6, h2, h4, h5⟩
        have h1 : x = 1000000000 - lN (sumN (tk P m c) T) := h1
        have h6 : z = lN (sumN (fun t => tk P m c t * t) T) := h6
        have h2 : y = nI T := h2
        subst h1 h2 h6
        have h5 : fr sPa M1 N := h5
        have hN := rwM_P hM1 h5
        simp only [qu4]
        rw [hN.1.2.2.2.2.2.1]
        refine wp_ip (nI_le (Nat.le_refl _) (by omega)) (wp_some ?_)
        refine wp_some ⟨?_, rRow_M hC1 hN (sPa_M h5), sPa_M h5⟩
        show ((lN _ + (1000000000 - lN _) * (N.1 91 48).toInt64) / 1000).toInt32 = _
        rw [hN.1.2.2.2.2.2.1, nI_l (by omega)]
theorem p_gone {M : qM} (h : rRow M) (a : Int32) : bth rRow sRC sRM (jTc_gone a) (jMd_gone a) M := by
  rcases h with h | ⟨P, m, w, f, k, T, c, hC, hM⟩
  · refine ⟨-1, M, M, ?_, ?_, Or.inl h, fr_rf _ _, fr_rf _ _⟩
    · unfold jTc_gone
      rw [isThere_f h.1]
      rfl
    · unfold jMd_gone
      have hf : jMd_in a 0 (-1) = false := by
        rw [← Bool.not_eq_true, in_iff]
        have n0 : (0 : Int32).toInt = 0 := rfl
        have n1 : (-1 : Int32).toInt = -1 := rfl
        omega
      rw [h.2.1, hf]
      rfl
  · have bb : 2 ≤ P ∧ P ≤ 9 ∧ 1 ≤ m ∧ m ≤ P ∧ w < 1000 ∧ f < 100 ∧ k < 100 ∧ 1 ≤ T ∧ T ≤ 12 := hC.1.2.2.2.2.2.2
    have q5 : M.1 49 5 = nI T := hC.1.2.2.2.2.2.1
    have q6 : M.1 91 48 = nI T := hM.1.2.2.2.2.2.1
    have iT := isThere_t q5 (by omega) (by omega)
    have e2 := isOf_T1 a (T := T) (by omega)
    cases hz : jTc_isOf a (nI T + 1) with
    | false =>
      refine ⟨-1, M, M, ?_, ?_, Or.inr ⟨P, m, w, f, k, T, c, hC, hM⟩, fr_rf _ _, fr_rf _ _⟩
      · unfold jTc_gone
        rw [iT, q5, hz]
        rfl
      · unfold jMd_gone
        rw [q6, ← e2, hz]
        rfl
    | true =>
      have hz' := hz
      rw [nI_1] at hz'
      obtain ⟨t, ht, rfl⟩ := isOf_of (by omega) hz'
      refine bth_mk (P := fun M1 => rwC M1 P m w f k T c ∧ rwM M1 P m w f k T c) (lN (gn P c t)) ?_ ?_
      · unfold jTc_gone
        rw [iT, q5, hz]
        refine wp_in (by decide) (wp_in (by decide) ?_)
        refine wp_bd ((followAll_wp hC hM).mono ?_)
        rintro M1 ⟨g1, g2, g3, g4, g5⟩
        refine wp_bd (wp_rJ rfl (show t < 13 by omega) (by decide) ?_)
        exact wp_some ⟨g2 t (by omega), ⟨g3, g4⟩, g5⟩
      · rintro M1 ⟨hC1, hM1⟩ g
        unfold jMd_gone
        rw [hM1.1.2.2.2.2.2.1, ← e2, hz]
        refine wp_in (by decide) ?_
        refine wp_bd ((first_0 (P := P) (c := c)).mono ?_)
        rintro M2 ⟨g1, g2⟩
        refine wp_bd (wp_for (fun n s => s.1 = nI n ∧ (∀ j, j < 10 → s.2.2.1 114 j = lN (pt P c n j)) ∧ fr sPa M1 s.2) t ?_ ?_ ?_)
        · exact ⟨rfl, g1, g2⟩
        · rintro n ⟨y, N⟩ hn ⟨h2, h4, h5⟩
          have h2 : y = nI n := h2
          subst h2
          have h5 : fr sPa M1 N := h5
          have h4 : ∀ j, j < 10 → N.2.1 114 j = lN (pt P c n j) := h4
          have hst := mstep hM1 h5 (by omega) h4
          simp only [qu2]
          refine wp_in (nI_ge hn (by omega)) ?_
          refine wp_bd (hst.2.mono ?_)
          rintro M3 ⟨g3, g4⟩
          exact wp_some ⟨nI_1 n, g3, g4⟩
        · rintro ⟨y, N⟩ ⟨h2, h4, h5⟩
          have h2 : y = nI t := h2
          subst h2
          have h5 : fr sPa M1 N := h5
          have h4 : ∀ j, j < 10 → N.2.1 114 j = lN (pt P c t j) := h4
          have hN := rwM_P hM1 h5
          refine wp_ip (nI_le (Nat.le_refl _) (by omega)) (wp_some ?_)
          show wp _ _
          rw [hN.1.1]
          have hs : sumN (fun j => pt P c t j * j) (P + 1) = gn P c t := by
            unfold gn gns
            exact (sumN_cut (by omega) (fun i h1 h2 => by rw [pt_beyond t (by omega), Nat.zero_mul])).symm
          rw [qlp_for0 (s0 := ((0 : Int64), (0 : Int32))) (fun n => (lN (sumN (fun j => pt P c t j * j) n), nI n)) (lN (gn P c t)) (P + 1) rfl (fun n hn => ?_) ?_]
          · exact wp_some ⟨rfl, rRow_M hC1 hN (sPa_M h5), sPa_M h5⟩
          · simp only [qu2]
            rw [if_pos (nI_lt (by omega) (by omega)), hs]
          · simp only [qu2, qlt]
            rw [if_neg (nI_nlt (by omega) (by omega)), qrJ_nI (by omega) (by decide), h4 n (by omega)]
            simp only [Option.bind_some]
            rw [nI_l (by omega), lN_mul, lN_add, nI_1]
            rfl
