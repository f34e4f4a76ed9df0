-- needs 52 53 54 55 56 57 58
/-! ===== promises 22 to 28, 44 to 46: the row ===== -/
/-- the class's answer is the reference's, and what holds afterwards -/
def bth {ρ : Type} (R : qM → Prop) (SC SM : Nat → Nat → Prop) (f g : qM → Option (ρ × qM)) (M : qM) : Prop := ∃ r M1 M2, f M = some (r, M1) ∧ g M1 = some (r, M2) ∧ R M2 ∧ fr SC M M1 ∧ fr SM M1 M2
theorem bth_mk {ρ : Type} {R P : qM → Prop} {SC SM : Nat → Nat → Prop} {f g : qM → Option (ρ × qM)} {M : qM} (v : ρ) (h1 : wp (f M) (fun r => r.1 = v ∧ P r.2 ∧ fr SC M r.2)) (h2 : ∀ M1, P M1 → fr SC M M1 → wp (g M1) (fun r => r.1 = v ∧ R r.2 ∧ fr SM M1 r.2)) : bth R SC SM f g M := by
  obtain ⟨⟨r, M1⟩, e1, rfl, p1, f1⟩ := h1
  obtain ⟨⟨r2, M2⟩, e2, h3, p2, f2⟩ := h2 M1 p1 f1
  have h3 : r2 = r := h3
  subst h3
  exact ⟨r2, M1, M2, e1, e2, p2, f1, f2⟩
def rwC (M : qM) (P m w f k T : Nat) (c : Nat → Nat) : Prop := rRo M P m w f k T ∧ (∀ t, t < 12 → M.1 50 t = nI (c t) ∧ c t < 11) ∧ rSe M P m w f k T ∧ rPw M ∧ rRf M
def rwM (M : qM) (P m w f k T : Nat) (c : Nat → Nat) : Prop := rRM M P m w f k T ∧ (∀ t, t < 12 → M.1 112 t = nI (c t) ∧ c t < 11)
def rwN (M : qM) : Prop := M.1 49 5 = 0 ∧ M.1 91 48 = -1 ∧ rPw M ∧ rRf M
def rRow (M : qM) : Prop := rwN M ∨ ∃ P m w f k T c, rwC M P m w f k T c ∧ rwM M P m w f k T c
def sRC (b j : Nat) : Prop := 49 ≤ b ∧ b ≤ 59
def sRM (b j : Nat) : Prop := b = 91 ∧ (43 ≤ j ∧ j ≤ 48 ∨ j = 0) ∨ 112 ≤ b ∧ b ≤ 115
theorem rSe_fr {M M1 : qM} {S : Nat → Nat → Prop} {P m w f k T : Nat} (h : rSe M P m w f k T) (g : fr S M M1) (h1 : ¬ S 49 16) (h2 : ¬ S 49 17) (h3 : ∀ j, ¬ S 59 j) : rSe M1 P m w f k T := by
  unfold rSe
  rw [(g 49 16 h1).1, (g 49 17 h2).1]
  rcases h with h | ⟨s, a1, a2, a3, a4, a5⟩
  · exact Or.inl h
  · exact Or.inr ⟨s, a1, a2, a3, a4, fun i hi => by rw [(g 59 i (h3 i)).1]; exact a5 i hi⟩
theorem rwC_up {M M1 : qM} {S : Nat → Nat → Prop} {P m w f k T : Nat} {c : Nat → Nat} (h : rwC M P m w f k T c) (g : fr S M M1) (hr : rRf M1) (h1 : ∀ j, j < 6 ∨ j = 16 ∨ j = 17 → ¬ S 49 j) (h2 : ∀ j, ¬ S 50 j) (h3 : ∀ j, ¬ S 57 j) (h4 : ∀ j, ¬ S 59 j) : rwC M1 P m w f k T c :=
  ⟨rRo_fr h.1 g (fun j hj => h1 j (Or.inl hj)), fun t ht => ⟨by rw [(g 50 t (h2 t)).1]; exact (h.2.1 t ht).1, (h.2.1 t ht).2⟩, rSe_fr h.2.2.1 g (h1 16 (by omega)) (h1 17 (by omega)) h4, rPw_fr h.2.2.2.1 g h3, hr⟩
theorem rwM_up {M M1 : qM} {S : Nat → Nat → Prop} {P m w f k T : Nat} {c : Nat → Nat} (h : rwM M P m w f k T c) (g : fr S M M1) (h1 : ∀ j, 43 ≤ j → j < 49 → ¬ S 91 j) (h2 : ∀ j, ¬ S 112 j) : rwM M1 P m w f k T c :=
  ⟨rRM_fr h.1 g h1, fun t ht => ⟨by rw [(g 112 t (h2 t)).1]; exact (h.2 t ht).1, (h.2 t ht).2⟩⟩
theorem rwC_M {M M1 : qM} {P m w f k T : Nat} {c : Nat → Nat} (h : rwC M P m w f k T c) (g : fr sRM M M1) : rwC M1 P m w f k T c :=
  rwC_up h g (rRf_fr h.2.2.2.2 g (by simp [sRM]) (by simp [sRM])) (fun j _ => by simp [sRM]) (fun j => by simp [sRM]) (fun j => by simp [sRM]) (fun j => by simp [sRM])
theorem rwM_C {M M1 : qM} {P m w f k T : Nat} {c : Nat → Nat} (h : rwM M P m w f k T c) (g : fr sRC M M1) : rwM M1 P m w f k T c := rwM_up h g (fun j _ _ => by simp [sRC]) (fun j => by simp [sRC])
theorem rwM_P {M M1 : qM} {P m w f k T : Nat} {c : Nat → Nat} (h : rwM M P m w f k T c) (g : fr sPa M M1) : rwM M1 P m w f k T c := rwM_up h g (fun j _ _ => by simp [sPa]) (fun j => by simp [sPa])
theorem sPa_M {M M1 : qM} (g : fr sPa M M1) : fr sRM M M1 := g.mono (fun b j h => by unfold sPa at h; unfold sRM; omega)
theorem sFol_C {M M1 : qM} (g : fr sFol M M1) : fr sRC M M1 := g.mono (fun b j h => by unfold sFol at h; unfold sRC; omega)
theorem sWei_C {M M1 : qM} (g : fr sWei M M1) : fr sRC M M1 := g.mono (fun b j h => by unfold sWei sFol at h; unfold sRC; omega)
theorem sSea_C {M M1 : qM} (g : fr sSea M M1) : fr sRC M M1 := g.mono (fun b j h => by unfold sSea sWei sFol at h; unfold sRC; omega)
theorem sLik_C {M M1 : qM} (g : fr sLik M M1) : fr sRC M M1 := g.mono (fun b j h => by unfold sLik sFol at h; unfold sRC; omega)
theorem rwC_W {M M1 : qM} {P m w f k T : Nat} {c : Nat → Nat} (h : rwC M P m w f k T c) (g : fr sWei M M1) (hr : rRf M1) : rwC M1 P m w f k T c :=
  rwC_up h g hr (fun j _ => by unfold sWei sFol; omega) (fun j => by simp [sWei, sFol]) (fun j => by simp [sWei, sFol]) (fun j => by simp [sWei, sFol])
theorem isThere_t {M : qM} {T : Nat} (h : M.1 49 5 = nI T) (h1 : 1 ≤ T) (h2 : T ≤ 12) : jRo_isThere M = true := by
  unfold jRo_isThere qlt
  rw [h, if_neg (nI_nle (by omega) (by omega))]
theorem isThere_f {M : qM} (h : M.1 49 5 = 0) : jRo_isThere M = false := by
  unfold jRo_isThere qlt
  rw [h]
  decide
theorem isOf_T (a : Int32) {T : Nat} (h1 : 1 ≤ T) (h2 : T < 1000000) : jTc_isOf a (nI T) = jMd_in a 0 (nI T - 1) := by
  refine isOf_in rfl ?_
  rw [show (1 : Int32) = nI 1 from rfl, nI_subE h1, nI_toInt (by omega), nI_toInt (by omega)]
  omega
theorem isOf_T1 (a : Int32) {T : Nat} (h2 : T < 1000000) : jTc_isOf a (nI T + 1) = jMd_in a 0 (nI T) := by
  refine isOf_in rfl ?_
  rw [nI_1, nI_toInt (by omega), nI_toInt (by omega)]
  omega
theorem isOf_of {a : Int32} {T : Nat} (hT : T < 2147483648) (h : jTc_isOf a (nI T) = true) : ∃ t, t < T ∧ a = nI t := by
  obtain ⟨t, e, h1, h2⟩ := isOf_nI h
  rw [nI_toInt (by omega)] at h1
  exact ⟨t, by omega, e⟩
theorem isOf_mk {t T : Nat} (h : t < T) (hT : T < 2147483648) : jTc_isOf (nI t) (nI T) = true := by
  rw [isOf_iff, nI_toInt (by omega), nI_toInt (by omega)]
  omega
theorem nI_m1 {n : Nat} (h : n < 2147483648) : ¬ nI n = -1 := by
  rw [show (-1 : Int32) = iI (-1) from rfl, nI_iI, iI_eq (by omega) (by omega) (by omega) (by omega)]
  omega
theorem rRow_M {M M1 : qM} {P m w f k T : Nat} {c : Nat → Nat} (h1 : rwC M P m w f k T c) (h2 : rwM M1 P m w f k T c) (g : fr sRM M M1) : rRow M1 := Or.inr ⟨P, m, w, f, k, T, c, rwC_M h1 g, h2⟩
theorem p_best {M : qM} (h : rRow M) : bth rRow sRC sRM jTc_best jMd_best M := by
  rcases h with h | ⟨P, m, w, f, k, T, c, hC, hM⟩
  · refine ⟨-1, M, M, ?_, ?_, Or.inl h, fr_rf _ _, fr_rf _ _⟩
    · unfold jTc_best
      rw [isThere_f h.1]
      rfl
    · unfold jMd_best
      rw [if_pos h.2.1]
      rfl
  · have bb : 2 ≤ P ∧ P ≤ 9 ∧ 1 ≤ m ∧ m ≤ P ∧ w < 1000 ∧ f < 100 ∧ k < 100 ∧ 1 ≤ T ∧ T ≤ 12 := hC.1.2.2.2.2.2.2
    refine bth_mk (P := fun M1 => rwC M1 P m w f k T c ∧ rwM M1 P m w f k T c) (nI (gr (vl (P - 1) m c w f k T) T)) ?_ ?_
    · unfold jTc_best
      rw [isThere_t hC.1.2.2.2.2.2.1 (by omega) (by omega)]
      refine wp_in (by decide) ?_
      refine wp_bd ((weigh_wp (c := c) hC.1 hC.2.2.2.1 hC.2.2.2.2 (Or.inl rfl) (fun t ht => hC.2.1 t (by omega))).mono ?_)
      rintro M1 ⟨g1, g2, g3⟩
      have hC1 := rwC_W hC g3 g1
      refine wp_be (greatest_eq (by omega) hC1.1.2.2.2.2.2.1 g2) ?_
      exact wp_some ⟨rfl, ⟨hC1, rwM_C hM (sWei_C g3)⟩, sWei_C g3⟩
    · rintro M1 ⟨hC1, hM1⟩ g
      unfold jMd_best
      refine wp_bd ?_
      refine wp_in (by rw [hM1.1.2.2.2.2.2.1]; exact nI_m1 (by omega)) ?_
      refine wp_bd ((bestOf_wp hM1.1 (fun i hi => hM1.2 i (by omega))).mono ?_)
      rintro ⟨x, M2⟩ ⟨g1, g2⟩
      have g2 : fr sPa M1 M2 := g2
      exact wp_some (wp_some ⟨g1, rRow_M hC1 (rwM_P hM1 g2) (sPa_M g2), sPa_M g2⟩)
theorem p_rest {M : qM} (h : rRow M) (a : Int32) : bth rRow sRC sRM (jTc_rest a) (jMd_rest a) M := by
  have e : jTc_isOf a 100 = jMd_in a 0 99 := isOf_in rfl rfl
  rcases h with h | ⟨P, m, w, f, k, T, c, hC, hM⟩
  · refine ⟨-1, M, M, ?_, ?_, Or.inl h, fr_rf _ _, fr_rf _ _⟩
    · unfold jTc_rest
      rw [isThere_f h.1]
      rfl
    · unfold jMd_rest
      rw [if_pos h.2.1]
      rfl
  · have bb : 2 ≤ P ∧ P ≤ 9 ∧ 1 ≤ m ∧ m ≤ P ∧ w < 1000 ∧ f < 100 ∧ k < 100 ∧ 1 ≤ T ∧ T ≤ 12 := hC.1.2.2.2.2.2.2
    cases hz : jTc_isOf a 100 with
    | false =>
      refine ⟨-1, M, M, ?_, ?_, Or.inr ⟨P, m, w, f, k, T, c, hC, hM⟩, fr_rf _ _, fr_rf _ _⟩
      · unfold jTc_rest
        rw [isThere_t hC.1.2.2.2.2.2.1 (by omega) (by omega), hz]
        rfl
      · unfold jMd_rest
        rw [if_neg (by rw [hM.1.2.2.2.2.2.1]; exact nI_m1 (by omega)), ← e, hz]
        rfl
    | true =>
      obtain ⟨s, hs, rfl⟩ := isOf_of (T := 100) (by decide) hz
      refine bth_mk (P := fun M1 => rwC M1 P m w f k T c ∧ rwM M1 P m w f k T c) (b2i (rst (vl (P - 1) m c w f k T) c (lst (vl (P - 1) m c w f k T) T s) T T)) ?_ ?_
      · unfold jTc_rest
        rw [isThere_t hC.1.2.2.2.2.2.1 (by omega) (by omega), hz]
        refine wp_in (by decide) (wp_in (by decide) ?_)
        refine wp_bd ((restsBy_wp (c := c) hC.1 hC.2.2.2.1 hC.2.2.2.2 (Or.inl rfl) (fun t ht => hC.2.1 t (by omega)) hs).mono ?_)
        rintro ⟨x, M1⟩ ⟨g1, g2, g3⟩
        have g1 : x = rst (vl (P - 1) m c w f k T) c (lst (vl (P - 1) m c w f k T) T s) T T := g1
        have g2 : rRf M1 := g2
        have g3 : fr sWei M M1 := g3
        refine wp_some ⟨?_, ⟨rwC_W hC g3 g2, rwM_C hM (sWei_C g3)⟩, sWei_C g3⟩
        rw [← g1]
        cases x <;> rfl
      · rintro M1 ⟨hC1, hM1⟩ g
        unfold jMd_rest
        refine wp_bd ?_
        refine wp_in (by rw [hM1.1.2.2.2.2.2.1]; exact nI_m1 (by omega)) ?_
        rw [← e, hz]
        refine wp_in (by decide) ?_
        refine wp_bd ((rests_wp hM1.1 (fun i hi => hM1.2 i (by omega)) hs).mono ?_)
        rintro ⟨x, M2⟩ ⟨g1, g2⟩
        have g1 : x = rst (vl (P - 1) m c w f k T) c (lst (vl (P - 1) m c w f k T) T s) T T := g1
        have g2 : fr sPa M1 M2 := g2
        rw [← g1]
        simp only [qu2]
        cases x with
        | false =>
          refine wp_ip rfl ?_
          refine wp_some ?_
          exact wp_some ⟨rfl, rRow_M hC1 (rwM_P hM1 g2) (sPa_M g2), sPa_M g2⟩
        | true =>
          refine wp_in (by decide) ?_
          refine wp_some ?_
          exact wp_some ⟨rfl, rRow_M hC1 (rwM_P hM1 g2) (sPa_M g2), sPa_M g2⟩
theorem p_chance {M : qM} (h : rRow M) (a b : Int32) : bth rRow sRC sRM (jTc_chance a b) (jMd_chance a b) M := by
  have e : jTc_isOf b 11 = jMd_in b 0 10 := isOf_in rfl rfl
  rcases h with h | ⟨P, m, w, f, k, T, c, hC, hM⟩
  · refine ⟨false, M, M, ?_, ?_, Or.inl h, fr_rf _ _, fr_rf _ _⟩
    · unfold jTc_chance
      rw [isThere_f h.1]
      rfl
    · unfold jMd_chance
      rw [if_pos h.2.1]
  · have bb : 2 ≤ P ∧ P ≤ 9 ∧ 1 ≤ m ∧ m ≤ P ∧ w < 1000 ∧ f < 100 ∧ k < 100 ∧ 1 ≤ T ∧ T ≤ 12 := hC.1.2.2.2.2.2.2
    have q5 : M.1 49 5 = nI T := hC.1.2.2.2.2.2.1
    have q6 : M.1 91 48 = nI T := hM.1.2.2.2.2.2.1
    have e2 := isOf_T a (T := T) (by omega) (by omega)
    have hT1 : ¬ nI T = -1 := nI_m1 (by omega)
    have iT := isThere_t q5 (by omega) (by omega)
    by_cases hz : jTc_isOf a (nI T) = true ∧ jTc_isOf b 11 = true
    · obtain ⟨hz1, hz2⟩ := hz
      obtain ⟨t, ht, rfl⟩ := isOf_of (by omega) hz1
      obtain ⟨x, hx, rfl⟩ := isOf_of (T := 11) (by decide) hz2
      refine ⟨true, qI M 50 t (nI x), qI (qI M 50 t (nI x)) 112 t (nI x), ?_, ?_, ?_, fr_I (by simp [sRC]), fr_I (by simp [sRM])⟩
      · unfold jTc_chance
        rw [q5, iT, hz1, hz2, qwI_nI (by omega) (by decide)]
        rfl
      · unfold jMd_chance
        have q6' : (qI M 50 t (nI x)).1 91 48 = nI T := q6
        rw [q6', if_neg hT1, ← e2, ← e, hz1, hz2, qwI_nI (by omega) (by decide)]
        rfl
      · refine Or.inr ⟨P, m, w, f, k, T, upC c t x, ⟨hC.1, fun i hi => ?_, hC.2.2.1, hC.2.2.2.1, hC.2.2.2.2⟩, hM.1, fun i hi => ?_⟩
        · simp only [qI_1, upC]
          by_cases hit : i = t
          · simp [hit, hx]
          · simp [hit, hC.2.1 i hi]
        · simp only [qI_1, upC]
          by_cases hit : i = t
          · simp [hit, hx]
          · simp [hit, hM.2 i hi]
    · refine ⟨false, M, M, ?_, ?_, Or.inr ⟨P, m, w, f, k, T, c, hC, hM⟩, fr_rf _ _, fr_rf _ _⟩
      · unfold jTc_chance
        rw [q5, iT]
        by_cases h1 : jTc_isOf a (nI T) = true
        · have h2 : jTc_isOf b 11 = false := by
            rw [← Bool.not_eq_true]; exact fun h2 => hz ⟨h1, h2⟩
          rw [h1, h2]
          rfl
        · rw [Bool.not_eq_true] at h1
          rw [h1]
          rfl
      · unfold jMd_chance
        rw [q6, if_neg hT1, ← e2, ← e]
        by_cases h1 : jTc_isOf a (nI T) = true
        · have h2 : jTc_isOf b 11 = false := by
            rw [← Bool.not_eq_true]; exact fun h2 => hz ⟨h1, h2⟩
          rw [h1, h2]
          rfl
        · rw [Bool.not_eq_true] at h1
          rw [h1]
          rfl
theorem p_value {M : qM} (h : rRow M) (a : Int32) : (jRo_isThere M = true ∧ jTc_isOf a (M.1 49 5 + 1) = true ∧ bth (fun M => rRow M ∧ M.1 91 0 = 0) sRC sRM (jTc_value a) (jMd_value a) M) ∨ ((jRo_isThere M = false ∨ jTc_isOf a (M.1 49 5 + 1) = false) ∧ jMd_value a M = some (0, qI M 91 0 1)) := by
  rcases h with h | ⟨P, m, w, f, k, T, c, hC, hM⟩
  · refine Or.inr ⟨Or.inl (isThere_f h.1), ?_⟩
    unfold jMd_value
    rw [h.2.1]
    rfl
  · have bb : 2 ≤ P ∧ P ≤ 9 ∧ 1 ≤ m ∧ m ≤ P ∧ w < 1000 ∧ f < 100 ∧ k < 100 ∧ 1 ≤ T ∧ T ≤ 12 := hC.1.2.2.2.2.2.2
    have q5 : M.1 49 5 = nI T := hC.1.2.2.2.2.2.1
    have q6 : M.1 91 48 = nI T := hM.1.2.2.2.2.2.1
    have e2 := isOf_T1 a (T := T) (by omega)
    have hT1 : ¬ nI T = -1 := nI_m1 (by omega)
    have iT := isThere_t q5 (by omega) (by omega)
    rw [q5]
    cases hz : jTc_isOf a (nI T + 1) with
    | false =>
      refine Or.inr ⟨Or.inr rfl, ?_⟩
      unfold jMd_value
      rw [q6, ← e2, hz, if_neg hT1]
      rfl
    | true =>
      refine Or.inl ⟨iT, rfl, ?_⟩
      have hz' := hz
      rw [nI_1] at hz'
      obtain ⟨t, ht, rfl⟩ := isOf_of (by omega) hz'
      refine bth_mk (P := fun M1 => rwC M1 P m w f k T c ∧ rwM M1 P m w f k T c) (vl (P - 1) m c w f k T t) ?_ ?_
      · unfold jTc_value
        rw [q5, iT, hz]
        refine wp_in (by decide) (wp_in (by decide) ?_)
        refine wp_bd ((weigh_wp (c := c) hC.1 hC.2.2.2.1 hC.2.2.2.2 (Or.inl rfl) (fun t ht => hC.2.1 t (by omega))).mono ?_)
        rintro M1 ⟨g1, g2, g3⟩
        refine wp_bd (wp_rJ rfl (show t < 13 by omega) (by decide) ?_)
        exact wp_some ⟨g2 t (by omega), ⟨rwC_W hC g3 g1, rwM_C hM (sWei_C g3)⟩, sWei_C g3⟩
      · rintro M1 ⟨hC1, hM1⟩ g
        unfold jMd_value
        rw [hM1.1.2.2.2.2.2.1, ← e2, hz, if_neg hT1]
        simp only [qlt]
        have hM2 : rwM (qI M1 91 0 (b2i (if b2i true = 0 then true else false))) P m w f k T c := rwM_up (S := fun b j => b = 91 ∧ j = 0) hM1 (fr_I ⟨rfl, rfl⟩) (fun j _ _ => by omega) (fun j => by omega)
        refine wp_bd ?_
        refine wp_in (by simp [qI_1, b2i]) ?_
        refine wp_bd ((valueOf_wp (t := t) hM2.1 (by omega) (fun i hi => hM2.2 i (by omega))).mono ?_)
        rintro ⟨x, M2⟩ ⟨g1, g2⟩
        have g2 : fr sPa _ M2 := g2
        have g3 : fr sRM M1 M2 := (fr_I (S := sRM) (Or.inl ⟨rfl, Or.inr rfl⟩)).tr (sPa_M g2)
        exact wp_some (wp_some ⟨g1, ⟨rRow_M hC1 (rwM_P hM2 g2) g3, by show M2.1 91 0 = 0; rw [(g2 91 0 (by simp [sPa])).1, qI_1, if_pos ⟨rfl, rfl⟩]; rfl⟩, g3⟩)
theorem in_of {x : Int32} {l h : Nat} (hl : l < 2147483648) (hh : h < 2147483648) (e : jMd_in x (nI l) (nI h) = true) : ∃ n, l ≤ n ∧ n ≤ h ∧ x = nI n := by
  rw [in_iff, nI_toInt (n := h) (by omega), nI_toInt (by omega)] at e
  exact ⟨x.toInt.toNat, by omega, by omega, by rw [← iI_nI (by omega)]; exact iI_of x⟩
theorem fill112 (M : qM) : (qlp (σ := (Int32 × qM)) (ρ := qM) (
                fun q => qu2 q fun x7 M8 =>
                if (12 : Int32) ≤ (x7 : Int32) then
                  some (.inr M8)
                else
                  (qwI M8 112 12 x7 5).bind fun M11 =>
                  qlt (x7 + 1 : Int32) fun x12 =>
                  some (.inl (x12, M11))) (0, M)) = some (sI M 112 12 (fun _ => 5)) := by
  rw [qlp_for0 (s0 := ((0 : Int32), M)) (fun k => (nI k, sI M 112 k (fun _ => 5))) (sI M 112 12 (fun _ => 5)) 12 (by rw [sI_0]; rfl) (fun k hk => ?_) ?_]
  · simp only [qu2]
    rw [if_pos (by decide)]
  · simp only [qu2, qlt]
    rw [show (12 : Int32) = nI 12 from rfl, if_neg (nI_ge hk (by omega)), qwI_nI hk (by decide)]
    simp only [Option.bind_some, nI_1]
    rw [sI_S M 112 k (fun _ => 5)]
theorem rPw_rRf {M : qM} (h : rRow M) : rPw M ∧ rRf M := by
  rcases h with h | ⟨P, m, w, f, k, T, c, hC, hM⟩
  · exact h.2.2
  · exact hC.2.2.2
theorem p_row {M : qM} (h : rRow M) (a1 a2 a3 a4 a5 a6 : Int32) : bth rRow sRC sRM (jTc_row a1 a2 a3 a4 a5 a6) (jMd_row a1 a2 a3 a4 a5 a6) M := by
  have e3 : jTc_isOf a3 1000 = jMd_in a3 0 999 := isOf_in rfl rfl
  have e4 : jTc_isOf a4 100 = jMd_in a4 0 99 := isOf_in rfl rfl
  have e5 : jTc_isOf a5 100 = jMd_in a5 0 99 := isOf_in rfl rfl
  have c1 : (if a1 < (2 : Int32) then false else if (9 : Int32) < a1 then false else if a2 < (1 : Int32) then false else if a1 < a2 then false else true) = (jMd_in a1 2 9 && jMd_in a2 1 a1) := by
    rw [Bool.eq_iff_iff, Bool.and_eq_true, in_iff, in_iff]
    have n2 : (2 : Int32).toInt = 2 := rfl
    have n9 : (9 : Int32).toInt = 9 := rfl
    have n1 : (1 : Int32).toInt = 1 := rfl
    simp only [i_lt, n2, n9, n1]
    by_cases x1 : a1.toInt < 2
    · simp [x1]; omega
    · by_cases x2 : 9 < a1.toInt
      · simp [x1, x2]; omega
      · by_cases x3 : a2.toInt < 1
        · simp [x1, x2, x3]; omega
        · by_cases x4 : a1.toInt < a2.toInt
          · simp [x1, x2, x3, x4]; try omega
          · simp [x1, x2, x3, x4]; omega
  have c6 : (a6 < (1 : Int32) ∨ ¬ a6 ≤ (12 : Int32)) ↔ jMd_in a6 1 12 = false := by
    rw [← Bool.not_eq_true, in_iff, i_lt, i_le]
    have n1 : (1 : Int32).toInt = 1 := rfl
    have n12 : (12 : Int32).toInt = 12 := rfl
    rw [n1, n12]
    omega
  unfold jTc_row jMd_row
  simp only [qlt, c1, e3, e4, e5]
  cases z1 : jMd_in a1 2 9 with
  | false => exact ⟨false, M, M, by simp [b2i], by simp [b2i], h, fr_rf _ _, fr_rf _ _⟩
  | true =>
  cases z2 : jMd_in a2 1 a1 with
  | false => exact ⟨false, M, M, by simp [b2i], by simp [b2i], h, fr_rf _ _, fr_rf _ _⟩
  | true =>
  cases z3 : jMd_in a3 0 999 with
  | false => exact ⟨false, M, M, by simp [b2i], by simp [b2i], h, fr_rf _ _, fr_rf _ _⟩
  | true =>
  cases z4 : jMd_in a4 0 99 with
  | false => exact ⟨false, M, M, by simp [b2i], by simp [b2i], h, fr_rf _ _, fr_rf _ _⟩
  | true =>
  cases z5 : jMd_in a5 0 99 with
  | false => exact ⟨false, M, M, by simp [b2i], by simp [b2i], h, fr_rf _ _, fr_rf _ _⟩
  | true =>
  cases z6 : jMd_in a6 1 12 with
  | false =>
    refine ⟨false, M, M, ?_, by simp [b2i], h, fr_rf _ _, fr_rf _ _⟩
    rcases c6.mpr z6 with h6 | h6
    · simp [b2i, h6]
    · by_cases h7 : a6 < 1 <;> simp [b2i, h6, h7]
  | true =>
    have hc6 : ¬ (a6 < (1 : Int32) ∨ ¬ a6 ≤ (12 : Int32)) := by rw [c6, z6]; decide
    have q1 : ¬ a6 < (1 : Int32) := fun hx => hc6 (Or.inl hx)
    have q2 : a6 ≤ (12 : Int32) := Classical.not_not.mp (fun hx => hc6 (Or.inr hx))
    obtain ⟨P, b1, b2, rfl⟩ := in_of (l := 2) (h := 9) (by decide) (by decide) z1
    obtain ⟨m, b3, b4, rfl⟩ := in_of (l := 1) (h := P) (by decide) (by omega) z2
    obtain ⟨w, -, b5, rfl⟩ := in_of (l := 0) (h := 999) (by decide) (by decide) z3
    obtain ⟨f, -, b6, rfl⟩ := in_of (l := 0) (h := 99) (by decide) (by decide) z4
    obtain ⟨k, -, b7, rfl⟩ := in_of (l := 0) (h := 99) (by decide) (by decide) z5
    obtain ⟨T, b8, b9, rfl⟩ := in_of (l := 1) (h := 12) (by decide) (by decide) z6
    obtain ⟨hpw, hrf⟩ := rPw_rRf h
    refine bth_mk (P := fun M1 => rwC M1 P m w f k T (fun _ => 5)) true ?_ ?_
    · simp only [if_neg q1, if_pos q2]
      refine wp_in (by decide) (wp_in (by decide) (wp_in (by decide) (wp_in (by decide) ?_)))
      unfold jRo_begin
      simp only [qlt]
      rw [fillI_eq 50 5 _ (by decide)]
      refine wp_some ⟨rfl, ⟨⟨?_, ?_, ?_, ?_, ?_, ?_, b1, b2, b3, b4, by omega, by omega, by omega, b8, b9⟩, ?_, ?_, hpw, hrf⟩, ?_⟩
      · simp [qI_1, sI]
      · simp [qI_1, sI]
      · simp [qI_1, sI]
      · simp [qI_1, sI]
      · simp [qI_1, sI]
      · simp [qI_1, sI]
      · intro t ht
        have h12 : q_al 50 = 12 := by decide
        refine ⟨?_, show 5 < 11 by decide⟩
        simp [qI_1, sI, h12, ht]
        rfl
      · exact Or.inl (by simp [qI_1, sI])
      · have hs : ∀ j, sRC 49 j := fun j => by simp [sRC]
        exact (((((((fr_I (hs _)).tr (fr_I (hs _))).tr (fr_I (hs _))).tr (fr_sI (fun j _ => by simp [sRC]))).tr (fr_I (hs _))).tr (fr_I (hs _))).tr (fr_I (hs _))).tr (fr_I (hs _))
    · intro M1 hC1 g
      refine wp_in (by decide) (wp_in (by decide) (wp_in (by decide) (wp_in (by decide) (wp_in (by decide) (wp_in (by decide) ?_)))))
      refine wp_be (fill112 _) ?_
      have hfr : fr sRM M1 (sI (qI (qI (qI (qI (qI (qI M1 91 43 (nI P)) 91 44 (nI m)) 91 45 (nI w)) 91 46 (nI f)) 91 47 (nI k)) 91 48 (nI T)) 112 12 (fun _ => 5)) := by
        have hs : ∀ j, 43 ≤ j → j ≤ 48 → sRM 91 j := fun j h1 h2 => Or.inl ⟨rfl, Or.inl ⟨h1, h2⟩⟩
        exact ((((((fr_I (hs _ (by decide) (by decide))).tr (fr_I (hs _ (by decide) (by decide)))).tr (fr_I (hs _ (by decide) (by decide)))).tr (fr_I (hs _ (by decide) (by decide)))).tr (fr_I (hs _ (by decide) (by decide)))).tr (fr_I (hs _ (by decide) (by decide)))).tr (fr_sI (fun j _ => Or.inr (by omega)))
      refine wp_some ⟨rfl, rRow_M hC1 ⟨⟨?_, ?_, ?_, ?_, ?_, ?_, b1, b2, b3, b4, by omega, by omega, by omega, b8, b9⟩, fun t ht => ⟨?_, show 5 < 11 by decide⟩⟩ hfr, hfr⟩
      · simp [qI_1, sI]
      · simp [qI_1, sI]
      · simp [qI_1, sI]
      · simp [qI_1, sI]
      · simp [qI_1, sI]
      · simp [qI_1, sI]
      · simp [qI_1, sI, ht]
        rfl
