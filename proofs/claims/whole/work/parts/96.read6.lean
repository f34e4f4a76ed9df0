/-! ===== an atom ===== -/
theorem takeC {M : qM} {τ : tT} {k a s : Nat} {x : Int32} (hx : ¬ x = -1) (hk : 12 ≤ k) (h : scC M τ k a s) : wp (jTp_take x M) (fun o => fr (rsC k s) M o.2 ∧ (cb τ (sk τ a) = x → o.1 = true ∧ scC o.2 τ k (sk τ a + 1) s) ∧ (¬ cb τ (sk τ a) = x → o.1 = false ∧ dC o.2 τ k (sk τ a))) := by
  unfold jTp_take
  refine wp_bd ((peek_st hk h).mono (fun o ho => ?_))
  obtain ⟨r, M3⟩ := o
  obtain ⟨e1, e2, e3⟩ := ho
  have e1 : r = cb τ (sk τ a) := e1
  subst e1
  by_cases hc : cb τ (sk τ a) = x
  · obtain ⟨h1, h2⟩ := incC hk e2 (cb_lt (by rw [hc]; exact hx))
    exact wp_ip hc (wp_some ⟨(atC_rs e3).tr (atC_rs h2), fun _ => ⟨rfl, h1⟩, fun g => absurd hc g⟩)
  · obtain ⟨f1, f2, f3⟩ := failC e2
    exact wp_in hc (wp_some ⟨(atC_rs e3).tr (f3 s), fun g => absurd g hc, fun _ => ⟨f2, f1⟩⟩)
theorem closesM {M : qM} {τ : tT} {n a c d : Nat} {x : Int32} (hl : a ≤ τ.1) (h : scM M τ n a c (d + 1)) : wp (jMd_closes x M) (fun o => fr (rsM n c) M o ∧ (cb τ (sk τ a) = x → scM o τ n (sk τ a + 1) c d) ∧ (¬ cb τ (sk τ a) = x → dM o τ n (sk τ a) c c)) := by
  have h160 := h.1.2.1
  have hsk := sk_le hl
  unfold jMd_closes
  refine wp_bd (wp_ip h.2.2.1 (wp_bd ((look_st h hl).mono (fun o ho => ?_))))
  obtain ⟨r, M6⟩ := o
  obtain ⟨h1, h2, h3⟩ := ho
  have h1' : r = cb τ (sk τ a) := h1
  subst h1'
  have e2 : scM M6 τ n (sk τ a) c (d + 1) := h2
  have e3 : fr atM M M6 := h3
  by_cases hc : cb τ (sk τ a) = x
  · refine wp_ip hc (wp_some (wp_some ⟨(atM_rs e3).tr ((fr_I (.inl ⟨rfl, .inl rfl⟩)).tr (fr_I (.inl ⟨rfl, .inr (.inr rfl)⟩))), fun _ => ?_, fun g => absurd hc g⟩))
    have e5 : nI (d + 1) - 1 = nI d := by rw [show (1 : Int32) = nI 1 from rfl, nI_subE (by omega)]; rfl
    exact ⟨⟨by simp [qI_1, e2.1.1], e2.1.2.1, fun j hj => by simp [qI_1, e2.1.2.2 j hj]⟩, by simp [qI_1, e2.2.1, nI_1], by simp [qI_1, e2.2.2.1], by simp [qI_1, e2.2.2.2.1, e5], by simp [qI_1, e2.2.2.2.2.1], by simp [qI_1, e2.2.2.2.2.2]⟩
  · obtain ⟨f1, f2⟩ := badM e2 (by omega) (Nat.le_refl c)
    refine wp_in hc (wp_some (wp_some ⟨(atM_rs e3).tr ((f2 c).tr ((fr_I (.inl ⟨rfl, .inl rfl⟩)).tr (fr_I (.inl ⟨rfl, .inr (.inr rfl)⟩)))), fun g => absurd g hc, fun _ => ?_⟩))
    obtain ⟨g1, g2, g3, g4, y, g5, g6⟩ := f1
    exact ⟨⟨by simp [qI_1, g1.1], g1.2.1, fun j hj => by simp [qI_1, g1.2.2 j hj]⟩, by simp [qI_1, g2], g3, by simp [qI_1, g4], y, by simp [qI_1, g5], g6⟩
theorem closesB {M : qM} {τ : tT} {n w c B : Nat} {x : Int32} (h : dM M τ n w c B) : wp (jMd_closes x M) (fun o => fr (rsM n c) M o ∧ dM o τ n w c B) := by
  obtain ⟨g1, g2, g3, g4, y, g5, g6⟩ := h
  unfold jMd_closes
  refine wp_bd (wp_in (by rw [g2]; exact nI_m1 (by omega)) (wp_some (wp_some ⟨(fr_I (.inl ⟨rfl, .inl rfl⟩)).tr (fr_I (.inl ⟨rfl, .inr (.inr rfl)⟩)), ?_⟩)))
  exact ⟨⟨by simp [qI_1, g1.1], g1.2.1, fun j hj => by simp [qI_1, g1.2.2 j hj]⟩, by simp [qI_1, g2], g3, by simp [qI_1, g4], y, by simp [qI_1, g5], g6⟩
theorem dM_up {M : qM} {τ : tT} {n w c c' B B' : Nat} (h : dM M τ n w c B) (h1 : c' ≤ c) (h2 : B ≤ B') : dM M τ n w c' B' := by
  obtain ⟨g1, g2, g3, g4, y, g5, g6, g7⟩ := h
  exact ⟨g1, g2, g3, g4, y, g5, by omega, by omega⟩
theorem dM_w {M : qM} {τ : tT} {n w c B : Nat} (h : dM M τ n w c B) : ¬ M.1 91 4 = -1 := by
  rw [h.2.1]
  exact nI_m1 (by have := h.2.2.1; omega)
