theorem numM {τ : tT} {n c d p : Nat} (hp : p < 100) : ∀ m i v {M : qM} {a : Nat}, i + m = p → a ≤ τ.1 → scM M τ n a c d → wp (qlp (σ := (Int32 × Int32 × qM)) (ρ := (Int32 × qM)) (
    fun q => qu3 q fun x1 x2 M3 =>
    if (nI p : Int32) ≤ (x2 : Int32) then
      some (.inr (x1, M3))
    else
      (jMd_here M3).bind fun r10 =>
      if (b2i (jMd_isDigit r10) : Int32) = (0 : Int32) then
        some (.inr (x1, M3))
      else
        (jMd_here M3).bind fun r11 =>
        qlt (((10 * x1) + r11) - 48 : Int32) fun x12 =>
        qlt (qI M3 91 3 ((M3.1 91 3) + 1)) fun M13 =>
        qlt (x2 + 1 : Int32) fun x14 =>
        some (.inl (x12, x14, M13))) (nI v, nI i, M)) (fun o => o.1 = nI (nmN τ m a v).2 ∧ scM o.2 τ n (nmN τ m a v).1 c d ∧ fr atM M o.2) := by
  intro m
  induction m with
  | zero =>
    intro i v M a h hl hs
    exact ⟨(nI v, M), qlp_inr (if_pos (nI_le (by omega) (by omega))), rfl, hs, fr_rf _ _⟩
  | succ m ih =>
    intro i v M a h hl hs
    by_cases hd : jTp_isDigit (cb τ a) = true
    · have hlt := dgt_lt hd
      obtain ⟨h1, h2⟩ := incM hs
      obtain ⟨o, e1, e2, e3, e4⟩ := ih (i + 1) (10 * v + dv (cb τ a)) (by omega) (by omega) h1
      have e : nmN τ (m + 1) a v = nmN τ m (a + 1) (10 * v + dv (cb τ a)) := if_pos hd
      rw [e]
      refine ⟨o, ?_, e2, e3, h2.tr e4⟩
      rw [qlp_inl]
      · exact e1
      · unfold qu3
        simp only
        rw [if_neg (by rw [nI_leI (by omega) (by omega)]; omega), here_eq hs.1 hs.2.1 hl]
        simp only [Option.bind_some]
        rw [if_neg (by rw [dg_e, hd]; decide)]
        unfold qlt
        rw [Int32.mul_comm 10, nstep v hd, nI_1]
    · have e : nmN τ (m + 1) a v = (a, v) := if_neg hd
      rw [e]
      refine ⟨(nI v, M), qlp_inr ?_, rfl, hs, fr_rf _ _⟩
      unfold qu3
      simp only
      rw [if_neg (by rw [nI_leI (by omega) (by omega)]; omega), here_eq hs.1 hs.2.1 hl]
      simp only [Option.bind_some]
      rw [if_pos (by rw [Bool.not_eq_true] at hd; rw [dg_e, hd]; decide)]
/-- where a number of at most p digits ends, its value, and whether it is one -/
noncomputable def nE (τ : tT) (p a : Nat) : Nat := (nmN τ p a 0).1
noncomputable def nV (τ : tT) (p a : Nat) : Nat := (nmN τ p a 0).2
theorem atC_rs {k s : Nat} {M M1 : qM} (h : fr atC M M1) : fr (rsC k s) M M1 := h.mono (fun _ _ hb => rsC_at hb)
theorem atM_rs {n c : Nat} {M M1 : qM} (h : fr atM M M1) : fr (rsM n c) M M1 := h.mono (fun _ _ hb => rsM_at hb)
theorem nE_gt {τ : tT} {p a : Nat} (hd : jTp_isDigit (cb τ a) = true) (hp : 0 < p) : a + 1 ≤ nE τ p a ∧ nE τ p a ≤ τ.1 := by
  obtain ⟨m, rfl⟩ : ∃ m, p = m + 1 := ⟨p - 1, by omega⟩
  have e : nmN τ (m + 1) a 0 = nmN τ m (a + 1) (10 * 0 + dv (cb τ a)) := if_pos hd
  unfold nE
  rw [e]
  exact nmN_le m (a + 1) _ (dgt_lt hd)
/-- the class's number -/
theorem takeNumber_st {M : qM} {τ : tT} {k a s p : Nat} (hk : 12 ≤ k) (hp : p < 8) (h : scC M τ k a s) : wp (jTp_takeNumber (nI p) M) (fun o => fr (rsC k s) M o.2 ∧
    (jTp_isDigit (cb τ (sk τ a)) = false → o.1 = -1 ∧ dC o.2 τ k (sk τ a)) ∧
    (jTp_isDigit (cb τ (sk τ a)) = true → jTp_isDigit (cb τ (nE τ p (sk τ a))) = true → o.1 = -1 ∧ dC o.2 τ k (nE τ p (sk τ a))) ∧
    (jTp_isDigit (cb τ (sk τ a)) = true → jTp_isDigit (cb τ (nE τ p (sk τ a))) = false → o.1 = nI (nV τ p (sk τ a)) ∧ scC o.2 τ k (nE τ p (sk τ a)) s)) := by
  unfold jTp_takeNumber
  refine wp_bd ((peek_st hk h).mono (fun o ho => ?_))
  obtain ⟨r, M3⟩ := o
  obtain ⟨e1, e2, e3⟩ := ho
  have e1 : r = cb τ (sk τ a) := e1
  subst e1
  cases hd : jTp_isDigit (cb τ (sk τ a)) with
  | false =>
    refine wp_ip (by rw [hd]; decide) (wp_some ?_)
    obtain ⟨f1, f2, f3⟩ := failC e2
    exact ⟨(atC_rs e3).tr (f3 s), fun _ => ⟨rfl, f1⟩, (by intro x; cases x), (by intro x; cases x)⟩
  | true =>
    refine wp_in (by rw [hd]; decide) (wp_bd ((numC hk (by omega) p 0 0 (by omega) e2).mono (fun o ho => ?_)))
    obtain ⟨x, M8⟩ := o
    obtain ⟨g1, g2, g3⟩ := ho
    refine wp_be (next_eq g2.1 g2.2.1 g2.2.2.1) ?_
    cases hd2 : jTp_isDigit (cb τ (nE τ p (sk τ a))) with
    | false =>
      refine wp_ip (by show b2i (jTp_isDigit (cb τ (nE τ p (sk τ a)))) = 0; rw [hd2]; decide) (wp_some ?_)
      exact ⟨(atC_rs e3).tr (atC_rs g3), (by intro x; cases x), (by intro _ x; cases x), fun _ _ => ⟨g1, g2⟩⟩
    | true =>
      refine wp_in (by show ¬ b2i (jTp_isDigit (cb τ (nE τ p (sk τ a)))) = 0; rw [hd2]; decide) (wp_some ?_)
      obtain ⟨f1, f2, f3⟩ := failC g2
      exact ⟨((atC_rs e3).tr (atC_rs g3)).tr (f3 s), (by intro x; cases x), fun _ _ => ⟨rfl, f1⟩, (by intro _ x; cases x)⟩
theorem plainNumber_st {M : qM} {τ : tT} {n a c d : Nat} (hl : a ≤ τ.1) (h : scM M τ n a c d) (hB : c ≤ 160) : wp (jMd_plainNumber M) (fun o => fr (rsM n c) M o.2 ∧
    (jTp_isDigit (cb τ (nE τ 4 a)) = true → dM o.2 τ n (nE τ 4 a) c c) ∧
    (jTp_isDigit (cb τ (nE τ 4 a)) = false → o.1 = nI (nV τ 4 a) ∧ scM o.2 τ n (nE τ 4 a) c d)) := by
  have h160 := h.1.2.1
  unfold jMd_plainNumber
  refine wp_bd ((numM (p := 4) (by omega) 4 0 0 (by omega) hl h).mono (fun o ho => ?_))
  obtain ⟨x, M5⟩ := o
  obtain ⟨g1, g2, g3⟩ := ho
  have hle := nmN_le (τ := τ) 4 a 0 hl
  refine wp_be (here_eq g2.1 g2.2.1 hle.2) (wp_lt (fun M8 hM8 => wp_some ?_))
  cases hd2 : jTp_isDigit (cb τ (nE τ 4 a)) with
  | false =>
    rw [if_pos (by show b2i (jTp_isDigit (cb τ (nE τ 4 a))) = 0; rw [hd2]; decide)] at hM8
    subst hM8
    exact ⟨atM_rs g3, (by intro x; cases x), fun _ => ⟨g1, g2⟩⟩
  | true =>
    rw [if_neg (by show ¬ b2i (jTp_isDigit (cb τ (nE τ 4 a))) = 0; rw [hd2]; decide)] at hM8
    have hM8 : M8 = jMd_bad M5 := hM8
    subst hM8
    obtain ⟨f1, f2⟩ := badM g2 (by omega) (Nat.le_refl c)
    exact ⟨(atM_rs g3).tr (f2 c), fun _ => f1, (by intro x; cases x)⟩
theorem nV_lt (τ : tT) (a : Nat) : nV τ 4 a < 10000 := nmN_v 4 a 0 1 (by omega)
