/-! ===== the readers' states ===== -/
def scC (M : qM) (τ : tT) (k a s : Nat) : Prop := rTC M τ ∧ M.1 1 2 = nI a ∧ a ≤ τ.1 ∧ M.2.2 4 1 = some k ∧ M.1 k 2 = nI s ∧ s ≤ a
def scM (M : qM) (τ : tT) (n a c d : Nat) : Prop := rTM M τ ∧ M.1 91 3 = nI a ∧ M.1 91 4 = -1 ∧ M.1 91 5 = nI d ∧ M.1 91 14 = nI n ∧ M.1 95 n = nI c
def dC (M : qM) (τ : tT) (k w : Nat) : Prop := rTC M τ ∧ (∃ a, M.1 1 2 = nI a ∧ a ≤ τ.1) ∧ M.1 1 3 = nI w ∧ w ≤ 160
def dM (M : qM) (τ : tT) (n w c0 B : Nat) : Prop := rTM M τ ∧ M.1 91 4 = nI w ∧ w ≤ 160 ∧ M.1 91 14 = nI n ∧ ∃ c, M.1 95 n = nI c ∧ c0 ≤ c ∧ c ≤ B
/-- what the class's reader may change, what the reference's -/
def rsC (k s b j : Nat) : Prop := (b = 1 ∧ (j = 2 ∨ j = 3)) ∨ (b = k ∧ j = 2) ∨ ((b = k + 1 ∨ b = k + 2) ∧ s ≤ j)
def rsM (n c b j : Nat) : Prop := (b = 91 ∧ (j = 3 ∨ j = 4 ∨ j = 5)) ∨ (b = 95 ∧ j = n) ∨ ((b = 93 ∨ b = 94) ∧ 340 * n + c ≤ j ∧ j < 340 * n + 340)
theorem rsC_at {k s b j : Nat} (h : atC b j) : rsC k s b j := .inl ⟨h.1, .inl h.2⟩
theorem rsM_at {n c b j : Nat} (h : atM b j) : rsM n c b j := .inl ⟨h.1, .inl h.2⟩
theorem rsC_up {k s s' b j : Nat} (g : s ≤ s') (h : rsC k s' b j) : rsC k s b j := by
  unfold rsC at *
  omega
theorem rsM_up {n c c' b j : Nat} (g : c ≤ c') (h : rsM n c' b j) : rsM n c b j := by
  unfold rsM at *
  omega
theorem scC_at {M M1 : qM} {τ : tT} {k a s a' : Nat} (hk : 12 ≤ k) (h : scC M τ k a s) (g : fr atC M M1) (h1 : M1.1 1 2 = nI a') (h2 : a ≤ a') (h3 : a' ≤ τ.1) : scC M1 τ k a' s :=
  ⟨rTC_fr h.1 g (by rintro ⟨_, h⟩; omega) (by rintro j ⟨h, _⟩; omega), h1, h3, by rw [(g 4 1 (by rintro ⟨h, _⟩; omega)).2.2]; exact h.2.2.2.1, by rw [(g k 2 (by rintro ⟨h, _⟩; omega)).1]; exact h.2.2.2.2.1, by have := h.2.2.2.2.2; omega⟩
theorem scM_at {M M1 : qM} {τ : tT} {n a c d a' : Nat} (h : scM M τ n a c d) (g : fr atM M M1) (h1 : M1.1 91 3 = nI a') : scM M1 τ n a' c d :=
  ⟨rTM_fr h.1 g (by rintro ⟨_, h⟩; omega) (by rintro j ⟨h, _⟩; omega), h1, by rw [(g 91 4 (by rintro ⟨_, h⟩; omega)).1]; exact h.2.2.1, by rw [(g 91 5 (by rintro ⟨_, h⟩; omega)).1]; exact h.2.2.2.1, by rw [(g 91 14 (by rintro ⟨_, h⟩; omega)).1]; exact h.2.2.2.2.1, by rw [(g 95 n (by rintro ⟨h, _⟩; omega)).1]; exact h.2.2.2.2.2⟩
theorem peek_st {M : qM} {τ : tT} {k a s : Nat} (hk : 12 ≤ k) (h : scC M τ k a s) : wp (jTp_peek M) (fun o => o.1 = cb τ (sk τ a) ∧ scC o.2 τ k (sk τ a) s ∧ fr atC M o.2) :=
  (peek_wp _ (Nat.le_refl _) h.1 h.2.1 h.2.2.1).mono (fun o ho => ⟨ho.1, scC_at hk h ho.2.2 ho.2.1 (sk_le h.2.2.1).1 (sk_le h.2.2.1).2, ho.2.2⟩)
theorem look_st {M : qM} {τ : tT} {n a c d : Nat} (h : scM M τ n a c d) (hl : a ≤ τ.1) : wp (jMd_look M) (fun o => o.1 = cb τ (sk τ a) ∧ scM o.2 τ n (sk τ a) c d ∧ fr atM M o.2) :=
  (look_wp _ (Nat.le_refl _) h.1 h.2.1 hl).mono (fun o ho => ⟨ho.1, scM_at h ho.2.2 ho.2.1, ho.2.2⟩)
theorem incC {M : qM} {τ : tT} {k a s : Nat} (hk : 12 ≤ k) (h : scC M τ k a s) (hl : a < τ.1) : scC (qI M 1 2 (M.1 1 2 + 1)) τ k (a + 1) s ∧ fr atC M (qI M 1 2 (M.1 1 2 + 1)) := by
  have g : fr atC M (qI M 1 2 (M.1 1 2 + 1)) := fr_I ⟨rfl, rfl⟩
  exact ⟨scC_at hk h g (by simp [qI_1, h.2.1, nI_1]) (by omega) (by omega), g⟩
theorem incM {M : qM} {τ : tT} {n a c d : Nat} (h : scM M τ n a c d) : scM (qI M 91 3 (M.1 91 3 + 1)) τ n (a + 1) c d ∧ fr atM M (qI M 91 3 (M.1 91 3 + 1)) := by
  have g : fr atM M (qI M 91 3 (M.1 91 3 + 1)) := fr_I ⟨rfl, rfl⟩
  exact ⟨scM_at h g (by simp [qI_1, h.2.1, nI_1]), g⟩
theorem failC {M : qM} {τ : tT} {k a s : Nat} (h : scC M τ k a s) : dC (jTp_fail (M.1 1 2) M).2 τ k a ∧ (jTp_fail (M.1 1 2) M).1 = false ∧ ∀ s', fr (rsC k s') M (jTp_fail (M.1 1 2) M).2 := by
  have g : ∀ s', fr (rsC k s') M (qI M 1 3 (M.1 1 2)) := fun s' => fr_I (.inl ⟨rfl, .inr rfl⟩)
  refine ⟨⟨?_, ⟨a, ?_, h.2.2.1⟩, ?_, by have := h.1.2.1; have := h.2.2.1; omega⟩, rfl, g⟩
  · exact ⟨by show (qI M 1 3 _).1 1 1 = _; simp [qI_1, h.1.1], h.1.2.1, fun j hj => by show (qI M 1 3 _).1 2 j = _; simp [qI_1, h.1.2.2 j hj]⟩
  · show (qI M 1 3 _).1 1 2 = _
    simp [qI_1, h.2.1]
  · show (qI M 1 3 _).1 1 3 = _
    simp [qI_1, h.2.1]
theorem badM {M : qM} {τ : tT} {n a c d B : Nat} (h : scM M τ n a c d) (hl : a ≤ 160) (hB : c ≤ B) : dM (jMd_bad M) τ n a c B ∧ ∀ c', fr (rsM n c') M (jMd_bad M) := by
  have e : jMd_bad M = qI M 91 4 (nI a) := by
    unfold jMd_bad qlt
    rw [if_pos h.2.2.1, h.2.1]
  rw [e]
  refine ⟨⟨?_, by simp [qI_1], hl, by simp [qI_1, h.2.2.2.2.1], c, by simp [qI_1, h.2.2.2.2.2], Nat.le_refl _, hB⟩, fun c' => fr_I (.inl ⟨rfl, .inr (.inl rfl)⟩)⟩
  exact ⟨by simp [qI_1, h.1.1], h.1.2.1, fun j hj => by simp [qI_1, h.1.2.2 j hj]⟩
/-! a step written -/
theorem add_st {M : qM} {τ : tT} {k a s : Nat} {o v : Int32} (hk : 12 ≤ k) (h : scC M τ k a s) (hs : s < a) : wp (jWy_add k o v M) (fun r => r.1 = true ∧ scC r.2 τ k a (s + 1) ∧ fr (rsC k s) M r.2 ∧ r.2.1 (k + 1) s = o ∧ r.2.1 (k + 2) s = v) := by
  have h160 := h.1.2.1
  have ha := h.2.2.1
  unfold jWy_add
  refine wp_ip (by rw [h.2.2.2.2.1]; exact nI_lt (b := 160) (by omega) (by omega)) (wp_bd (wp_wI h.2.2.2.2.1 (by omega) (by decide) (wp_bd (wp_wI (t := s) (by simp [qI_1, h.2.2.2.2.1]) (by omega) (by decide) (wp_some ?_)))))
  refine ⟨rfl, ⟨⟨?_, h.1.2.1, fun j hj => ?_⟩, ?_, h.2.2.1, ?_, ?_, by omega⟩, ?_, ?_, ?_⟩
  · simp [qI_1, h.1.1, show ¬ 1 = k by omega, show ¬ k = 0 by omega]
  · simp [qI_1, h.1.2.2 j hj, show ¬ 2 = k by omega, show ¬ 2 = k + 1 by omega, show ¬ k = 0 by omega]
  · simp [qI_1, h.2.1, show ¬ 1 = k by omega, show ¬ 1 = k + 1 by omega, show ¬ 1 = k + 2 by omega, show ¬ k = 0 by omega]
  · exact h.2.2.2.1
  · simp [qI_1, h.2.2.2.2.1, nI_1]
  · exact (fr_I (.inr (.inr ⟨.inl rfl, Nat.le_refl _⟩))).tr ((fr_I (.inr (.inr ⟨.inr rfl, Nat.le_refl _⟩))).tr (fr_I (.inr (.inl ⟨rfl, rfl⟩))))
  · simp [qI_1]
  · simp [qI_1]
theorem put_st {M : qM} {n c : Nat} {o v : Int32} (hn : n < 7) (h14 : M.1 91 14 = nI n) (h95 : M.1 95 n = nI c) (hc : c < 340) : wp (jMd_put o v M) (fun r => r.1 95 n = nI (c + 1) ∧ fr (fun b j => rsM n c b j ∧ ¬ b = 91) M r ∧ r.1 93 (340 * n + c) = o ∧ r.1 94 (340 * n + c) = v) := by
  have e : (340 : Int32) * nI n + nI c = nI (340 * n + c) := by rw [show (340 : Int32) = nI 340 from rfl, nI_mul, nI_add]
  unfold jMd_put
  refine wp_bd (wp_rI h14 hn (by decide) (wp_bd (wp_wI (t := 340 * n + c) (by rw [h14, h95, e]) (by omega) (by decide) ?_)))
  refine wp_bd (wp_rI (t := n) (by simp [qI_1, h14]) hn (by decide) (wp_bd (wp_wI (t := 340 * n + c) (by simp [qI_1, h14, h95, e]) (by omega) (by decide) ?_)))
  refine wp_bd (wp_rI (t := n) (by simp [qI_1, h14]) hn (by decide) (wp_bd (wp_wI (t := n) (by simp [qI_1, h14]) hn (by decide) (wp_some ?_))))
  refine ⟨by simp [qI_1, h95, nI_1], ?_, by simp [qI_1], by simp [qI_1]⟩
  exact (fr_I ⟨.inr (.inr ⟨.inl rfl, by omega, by omega⟩), by decide⟩).tr ((fr_I ⟨.inr (.inr ⟨.inr rfl, by omega, by omega⟩), by decide⟩).tr (fr_I ⟨.inr (.inl ⟨rfl, rfl⟩), by decide⟩))
theorem put_ok {M : qM} {τ : tT} {n a c d : Nat} {o v : Int32} (hn : n < 7) (h : scM M τ n a c d) (hc : c < 340) : wp (jMd_put o v M) (fun r => scM r τ n a (c + 1) d ∧ fr (rsM n c) M r ∧ r.1 93 (340 * n + c) = o ∧ r.1 94 (340 * n + c) = v) := by
  refine (put_st hn h.2.2.2.2.1 h.2.2.2.2.2 hc).mono (fun r hr => ⟨⟨?_, ?_, ?_, ?_, ?_, hr.1⟩, hr.2.1.mono (fun b j hb => hb.1), hr.2.2⟩)
  · exact rTM_fr h.1 hr.2.1 (fun hx => hx.2 rfl) (fun j hx => by unfold rsM at hx; omega)
  · rw [(hr.2.1 91 3 (fun hx => hx.2 rfl)).1]; exact h.2.1
  · rw [(hr.2.1 91 4 (fun hx => hx.2 rfl)).1]; exact h.2.2.1
  · rw [(hr.2.1 91 5 (fun hx => hx.2 rfl)).1]; exact h.2.2.2.1
  · rw [(hr.2.1 91 14 (fun hx => hx.2 rfl)).1]; exact h.2.2.2.2.1
theorem put_bad {M : qM} {τ : tT} {n w B c0 : Nat} {o v : Int32} (hn : n < 7) (h : dM M τ n w c0 B) (hc : B < 340) : wp (jMd_put o v M) (fun r => dM r τ n w c0 (B + 1) ∧ fr (rsM n c0) M r) := by
  obtain ⟨c, h1, h2, h3⟩ := h.2.2.2.2
  refine (put_st hn h.2.2.2.1 h1 (by omega)).mono (fun r hr => ⟨⟨?_, ?_, h.2.2.1, ?_, c + 1, hr.1, by omega, by omega⟩, hr.2.1.mono (fun b j hb => rsM_up h2 hb.1)⟩)
  · exact rTM_fr h.1 hr.2.1 (fun hx => hx.2 rfl) (fun j hx => by unfold rsM at hx; omega)
  · rw [(hr.2.1 91 4 (fun hx => hx.2 rfl)).1]; exact h.2.1
  · rw [(hr.2.1 91 14 (fun hx => hx.2 rfl)).1]; exact h.2.2.2.1
