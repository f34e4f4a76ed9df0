/-! ===== the answer laid into the law's own cell, between the two calls ===== -/
def sRO (b j : Nat) : Prop := sRM b j ∨ b = 122
theorem p_valueO {M : qM} (h : rRow M) (a : Int32) (i1 : jRo_isThere M = true) (i2 : jTc_isOf a (M.1 49 5 + 1) = true) : ∃ r M1 M2, jTc_value a M = some (r, M1) ∧ jMd_value a (qJ M1 122 0 r) = some (r, M2) ∧ rRow M2 ∧ M2.1 91 0 = 0 ∧ M2.2.1 122 0 = r ∧ fr sRC M M1 ∧ fr sRO M1 M2 := by
  rcases h with h | ⟨P, m, w, f, k, T, c, hC, hM⟩
  · rw [isThere_f h.1] at i1
    cases i1
  · have bb : 2 ≤ P ∧ P ≤ 9 ∧ 1 ≤ m ∧ m ≤ P ∧ w < 1000 ∧ f < 100 ∧ k < 100 ∧ 1 ≤ T ∧ T ≤ 12 := hC.1.2.2.2.2.2.2
    have q5 : M.1 49 5 = nI T := hC.1.2.2.2.2.2.1
    have e2 := isOf_T1 a (T := T) (by omega)
    have hT1 : ¬ nI T = -1 := nI_m1 (by omega)
    rw [q5] at i2
    have hz' := i2
    rw [nI_1] at hz'
    obtain ⟨t, ht, rfl⟩ := isOf_of (by omega) hz'
    have w1 : wp (jTc_value (nI t) M) (fun r => r.1 = vl (P - 1) m c w f k T t ∧ (rwC r.2 P m w f k T c ∧ rwM r.2 P m w f k T c) ∧ fr sRC M r.2) := by
      unfold jTc_value
      rw [q5, i1, i2]
      refine wp_in (by decide) (wp_in (by decide) ?_)
      refine wp_bd ((weigh_wp (c := c) hC.1 hC.2.2.2.1 hC.2.2.2.2 (Or.inl rfl) (fun t ht => hC.2.1 t (by omega))).mono ?_)
      rintro M1 ⟨g1, g2, g3⟩
      refine wp_bd (wp_rJ rfl (show t < 13 by omega) (by decide) ?_)
      exact wp_some ⟨g2 t (by omega), ⟨rwC_W hC g3 g1, rwM_C hM (sWei_C g3)⟩, sWei_C g3⟩
    obtain ⟨⟨r, M1⟩, e1, e3, ⟨hC0, hM0⟩, f1⟩ := w1
    have e3 : r = vl (P - 1) m c w f k T t := e3
    subst e3
    generalize hV : vl (P - 1) m c w f k T t = V at e1
    have f2 : fr (fun b j => b = 122 ∧ j = 0) M1 (qJ M1 122 0 V) := fr_J ⟨rfl, rfl⟩
    have hC1 : rwC (qJ M1 122 0 V) P m w f k T c := rwC_up hC0 f2 hC0.2.2.2.2 (fun j _ => by omega) (fun j => by omega) (fun j => by omega) (fun j => by omega)
    have hM1 : rwM (qJ M1 122 0 V) P m w f k T c := rwM_up hM0 f2 (fun j _ _ => by omega) (fun j => by omega)
    have w2 : wp (jMd_value (nI t) (qJ M1 122 0 V)) (fun r => r.1 = V ∧ (rRow r.2 ∧ r.2.1 91 0 = 0) ∧ fr sRM (qJ M1 122 0 V) r.2) := by
      generalize qJ M1 122 0 V = Mo at hC1 hM1
      unfold jMd_value
      rw [hM1.1.2.2.2.2.2.1, ← e2, i2, if_neg hT1]
      simp only [qlt]
      have hM2 : rwM (qI Mo 91 0 (b2i (if b2i true = 0 then true else false))) P m w f k T c := rwM_up (S := fun b j => b = 91 ∧ j = 0) hM1 (fr_I ⟨rfl, rfl⟩) (fun j _ _ => by omega) (fun j => by omega)
      refine wp_bd ?_
      refine wp_in (by simp [qI_1, b2i]) ?_
      refine wp_bd ((valueOf_wp (t := t) hM2.1 (by omega) (fun i hi => hM2.2 i (by omega))).mono ?_)
      rintro ⟨x, M2⟩ ⟨g1, g2⟩
      have g2 : fr sPa _ M2 := g2
      have g3 : fr sRM Mo M2 := (fr_I (S := sRM) (Or.inl ⟨rfl, Or.inr rfl⟩)).tr (sPa_M g2)
      rw [hV] at g1
      exact wp_some (wp_some ⟨g1, ⟨rRow_M hC1 (rwM_P hM2 g2) g3, by show M2.1 91 0 = 0; rw [(g2 91 0 (by simp [sPa])).1, qI_1, if_pos ⟨rfl, rfl⟩]; rfl⟩, g3⟩)
    obtain ⟨⟨r2, M2⟩, k1, k2, ⟨k3, k4⟩, k5⟩ := w2
    have k2 : r2 = V := k2
    have k3 : rRow M2 := k3
    have k4 : M2.1 91 0 = 0 := k4
    have k5 : fr sRM (qJ M1 122 0 V) M2 := k5
    subst k2
    refine ⟨r2, M1, M2, e1, k1, k3, k4, ?_, f1, (f2.mono (fun b j h => Or.inr h.1)).tr (k5.mono (fun b j h => Or.inl h))⟩
    rw [(k5 122 0 (by unfold sRM; omega)).2.1, qJ_21, if_pos ⟨rfl, rfl⟩]
theorem r_valueO {M : qM} (h : RR M) (a : Int32) : (jRo_isThere M = true ∧ jTc_isOf a (M.1 49 5 + 1) = true ∧ ∃ r M1 M2, jTc_value a M = some (r, M1) ∧ jMd_value a (qJ M1 122 0 r) = some (r, M2) ∧ M2.1 91 0 = 0 ∧ M2.2.1 122 0 = r ∧ RR M2) ∨ ((jRo_isThere M = false ∨ jTc_isOf a (M.1 49 5 + 1) = false) ∧ ∃ M2, jMd_value a M = some (0, M2) ∧ M2.1 91 0 = 1 ∧ RR M2) := by
  rcases r_value h a with ⟨i1, i2, -⟩ | h2
  · refine .inl ⟨i1, i2, ?_⟩
    obtain ⟨n, vs, c, wo, Ws, τ, h1, h2, h3, h4, h5, h6, h7⟩ := h
    obtain ⟨r, M1, M2, e1, e2, e3, e4, e5, g1, g2⟩ := p_valueO h4 a i1 i2
    have G : fr (fun b j => sRC b j ∨ sRO b j) M M2 := (g1.mono (fun _ _ h => .inl h)).tr (g2.mono (fun _ _ h => .inr h))
    have hn := h2.1.1
    have hc := h3.1.2.1
    refine ⟨r, M1, M2, e1, e2, e4, e5, n, vs, c, wo, Ws, τ, tp_k h1 G ?_ ?_ ?_ ?_, ⟨rVsC_k h2.1 G ?_ ?_, rVsM_k h2.2 G ?_ ?_⟩, ⟨cuC_k h3.1 G ?_ ?_ ?_, cuM_k h3.2 G ?_ ?_ ?_⟩, e3, ⟨rTd_k h5.1 G ?_ ?_ ?_ ?_ ?_ ?_ ?_, rTo_k h5.2 G ?_ ?_⟩, rBw_k h6 G ?_ ?_, rMK_k h7 G ?_ ?_ ?_ ?_ ?_ ?_⟩ <;> intros <;> unfold sRC sRO sRM <;> first | omega | (unfold kV at *; omega) | (unfold kCu at *; omega)
  · exact .inr h2
theorem RR_122 {M : qM} (h : RR M) (v : Int64) : RR (qJ M 122 0 v) := by
  obtain ⟨n, vs, c, wo, Ws, τ, hA⟩ := h
  have hn := hA.2.1.1.1
  have hc := hA.2.2.1.1.2.1
  refine RR_fr hA (fr_J (S := fun b j => b = 122 ∧ j = 0) ⟨rfl, rfl⟩) (fun b j hb => ?_)
  unfold kA kV kCu at hb
  omega
theorem r_villageO {M : qM} (h : RR M) (a b : Int32) : (jTc_isVillage a M = true ∧ jTc_isOf b 3 = true ∧ ∃ r, jTc_village a b M = some r ∧ ∀ v, ∃ M2, jMd_village a b (qJ M 122 0 v) = some (r, M2) ∧ M2.1 91 0 = 0 ∧ M2.2.1 122 0 = v ∧ RR M2) ∨ ((jTc_isVillage a M = false ∨ jTc_isOf b 3 = false) ∧ ∃ M2, jMd_village a b M = some (0, M2) ∧ M2.1 91 0 = 1 ∧ RR M2) := by
  rcases r_village h a b with ⟨e1, e2, r, M2, e3, -⟩ | h2
  · refine .inl ⟨e1, e2, r, e3, fun v => ?_⟩
    have h' := RR_122 h v
    have h'' := h'
    obtain ⟨n, vs, c, wo, Ws, τ, k1, k2, -⟩ := h''
    rcases p_village k2.1 k2.2 a b with ⟨g1, g2, r', g3, g4⟩ | ⟨g1, g2⟩
    · have hr : r = r' := Option.some.inj (e3.symm.trans (show jTc_village a b M = some r' from g3))
      subst hr
      exact ⟨_, g4, by rw [qI_1, if_pos ⟨rfl, rfl⟩], by rw [qI_2, qJ_21, if_pos ⟨rfl, rfl⟩], RR_90 h' 0⟩
    · exfalso
      have e1' : jTc_isVillage a (qJ M 122 0 v) = true := e1
      rw [e1', e2] at g1
      rcases g1 with g1 | g1 <;> cases g1
  · exact .inr h2
