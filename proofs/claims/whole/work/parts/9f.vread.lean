/-! ===== villages' texts: light states ===== -/
def tC (M : qM) (τ : tT) (a : Nat) : Prop := rTC M τ ∧ M.1 1 2 = nI a ∧ a ≤ τ.1
def tM (M : qM) (τ : tT) (a : Nat) : Prop := rTM M τ ∧ M.1 91 3 = nI a ∧ M.1 91 4 = -1
def eM (M : qM) (τ : tT) (w : Nat) : Prop := rTM M τ ∧ M.1 91 4 = nI w ∧ w ≤ 160 ∧ ∃ a, M.1 91 3 = nI a ∧ a ≤ τ.1
def aC (b j : Nat) : Prop := b = 1 ∧ (j = 2 ∨ j = 3)
def aM (b j : Nat) : Prop := b = 91 ∧ (j = 3 ∨ j = 4)
theorem at_aC {M M1 : qM} (h : fr atC M M1) : fr aC M M1 := h.mono (fun _ _ hb => ⟨hb.1, .inl hb.2⟩)
theorem at_aM {M M1 : qM} (h : fr atM M M1) : fr aM M M1 := h.mono (fun _ _ hb => ⟨hb.1, .inl hb.2⟩)
theorem tC_fr {M M1 : qM} {τ : tT} {a : Nat} {S : Nat → Nat → Prop} (h : tC M τ a) (g : fr S M M1) (h1 : ¬ S 1 1) (h2 : ¬ S 1 2) (h3 : ∀ j, ¬ S 2 j) : tC M1 τ a := ⟨rTC_fr h.1 g h1 h3, by rw [(g 1 2 h2).1]; exact h.2.1, h.2.2⟩
theorem tM_fr {M M1 : qM} {τ : tT} {a : Nat} {S : Nat → Nat → Prop} (h : tM M τ a) (g : fr S M M1) (h1 : ¬ S 91 2) (h2 : ¬ S 91 3) (h4 : ¬ S 91 4) (h3 : ∀ j, ¬ S 92 j) : tM M1 τ a := ⟨rTM_fr h.1 g h1 h3, by rw [(g 91 3 h2).1]; exact h.2.1, by rw [(g 91 4 h4).1]; exact h.2.2⟩
theorem eM_fr {M M1 : qM} {τ : tT} {w : Nat} {S : Nat → Nat → Prop} (h : eM M τ w) (g : fr S M M1) (h1 : ¬ S 91 2) (h2 : ¬ S 91 3) (h4 : ¬ S 91 4) (h3 : ∀ j, ¬ S 92 j) : eM M1 τ w := ⟨rTM_fr h.1 g h1 h3, by rw [(g 91 4 h4).1]; exact h.2.1, h.2.2.1, by rw [(g 91 3 h2).1]; exact h.2.2.2⟩
theorem eM_w {M : qM} {τ : tT} {w : Nat} (h : eM M τ w) : ¬ M.1 91 4 = -1 := by
  rw [h.2.1]
  exact nI_m1 (by have := h.2.2.1; omega)
theorem peekT {M : qM} {τ : tT} {a : Nat} (h : tC M τ a) : ∃ M1, jTp_peek M = some (cb τ (sk τ a), M1) ∧ tC M1 τ (sk τ a) ∧ fr atC M M1 := by
  obtain ⟨⟨r, M1⟩, e, h1, h2, h3⟩ := peek_wp _ (Nat.le_refl _) h.1 h.2.1 h.2.2
  have h1' : r = cb τ (sk τ a) := h1
  subst h1'
  exact ⟨M1, e, ⟨rTC_fr h.1 h3 (by rintro ⟨_, h⟩; omega) (by rintro j ⟨h, _⟩; omega), h2, (sk_le h.2.2).2⟩, h3⟩
theorem lookT {M : qM} {τ : tT} {a : Nat} (hl : a ≤ τ.1) (h : tM M τ a) : ∃ M1, jMd_look M = some (cb τ (sk τ a), M1) ∧ tM M1 τ (sk τ a) ∧ fr atM M M1 := by
  obtain ⟨⟨r, M1⟩, e, h1, h2, h3⟩ := look_wp _ (Nat.le_refl _) h.1 h.2.1 hl
  have h1' : r = cb τ (sk τ a) := h1
  subst h1'
  exact ⟨M1, e, ⟨rTM_fr h.1 h3 (by rintro ⟨_, h⟩; omega) (by rintro j ⟨h, _⟩; omega), h2, by rw [(h3 91 4 (by rintro ⟨_, h⟩; omega)).1]; exact h.2.2⟩, h3⟩
theorem amongT {M : qM} {τ : tT} {a t : Nat} (ht : t < 3) (hT : tOK τ) (h : tC M τ a) : ∃ M1, jTp_peekAmong t M = some (ami t (cb τ (sk τ a)), M1) ∧ tC M1 τ (sk τ a) ∧ fr atC M M1 := by
  obtain ⟨M1, e, h1, h2⟩ := peekT h
  refine ⟨M1, ?_, h1, h2⟩
  unfold jTp_peekAmong
  rw [e, Option.bind_some]
  unfold qu2 ami
  simp only
  by_cases hc : cb τ (sk τ a) = -1
  · rw [if_pos hc, if_pos hc]
    rfl
  · obtain ⟨c, g1, g2, g3⟩ := cb_c hT hc
    rw [if_neg hc, if_neg hc, g1, ix_eq ht g2 g3]
    rfl
theorem incT {M : qM} {τ : tT} {a : Nat} (h : tC M τ a) (hl : a < τ.1) : tC (qI M 1 2 (M.1 1 2 + 1)) τ (a + 1) ∧ fr atC M (qI M 1 2 (M.1 1 2 + 1)) := by
  have g : fr atC M (qI M 1 2 (M.1 1 2 + 1)) := fr_I ⟨rfl, rfl⟩
  exact ⟨⟨rTC_fr h.1 g (by rintro ⟨_, h⟩; omega) (by rintro j ⟨h, _⟩; omega), by rw [qI_1, if_pos ⟨rfl, rfl⟩, h.2.1, nI_1], hl⟩, g⟩
theorem incTM {M : qM} {τ : tT} {a : Nat} (h : tM M τ a) : tM (qI M 91 3 (M.1 91 3 + 1)) τ (a + 1) ∧ fr atM M (qI M 91 3 (M.1 91 3 + 1)) := by
  have g : fr atM M (qI M 91 3 (M.1 91 3 + 1)) := fr_I ⟨rfl, rfl⟩
  exact ⟨⟨rTM_fr h.1 g (by rintro ⟨_, h⟩; omega) (by rintro j ⟨h, _⟩; omega), by rw [qI_1, if_pos ⟨rfl, rfl⟩, h.2.1, nI_1], by rw [(g 91 4 (by rintro ⟨_, h⟩; omega)).1]; exact h.2.2⟩, g⟩
theorem failT {M : qM} {τ : tT} {a w : Nat} (h : tC M τ a) (hw : w ≤ 160) : dC (qI M 1 3 (nI w)) τ 0 w ∧ fr aC M (qI M 1 3 (nI w)) := by
  refine ⟨⟨⟨?_, h.1.2.1, fun j hj => ?_⟩, ⟨a, ?_, h.2.2⟩, ?_, hw⟩, fr_I ⟨rfl, .inr rfl⟩⟩
  · simp [qI_1, h.1.1]
  · simp [qI_1, h.1.2.2 j hj]
  · simp [qI_1, h.2.1]
  · simp [qI_1]
theorem badT {M : qM} {τ : tT} {a : Nat} (h : tM M τ a) (hl : a ≤ τ.1) : eM (jMd_bad M) τ a ∧ fr aM M (jMd_bad M) := by
  have e : jMd_bad M = qI M 91 4 (nI a) := by
    unfold jMd_bad qlt
    rw [if_pos h.2.2, h.2.1]
  rw [e]
  have h160 := h.1.2.1
  refine ⟨⟨⟨?_, h.1.2.1, fun j hj => ?_⟩, ?_, by omega, a, ?_, hl⟩, fr_I ⟨rfl, .inr rfl⟩⟩
  · simp [qI_1, h.1.1]
  · simp [qI_1, h.1.2.2 j hj]
  · simp [qI_1]
  · simp [qI_1, h.2.1]
theorem bad_eM {M : qM} {τ : tT} {w : Nat} (h : eM M τ w) : eM (jMd_bad M) τ w ∧ fr aM M (jMd_bad M) := by
  have e : jMd_bad M = qI M 91 4 (M.1 91 4) := by
    unfold jMd_bad qlt
    rw [if_neg (eM_w h)]
  rw [e]
  obtain ⟨a, h3, h4⟩ := h.2.2.2
  refine ⟨⟨⟨?_, h.1.2.1, fun j hj => ?_⟩, ?_, h.2.2.1, a, ?_, h4⟩, fr_I ⟨rfl, .inr rfl⟩⟩
  · simp [qI_1, h.1.1]
  · simp [qI_1, h.1.2.2 j hj]
  · simp [qI_1, h.2.1]
  · simp [qI_1, h3]
/-! numbers -/
theorem numCT {τ : tT} {p : Nat} (hp : p < 100) : ∀ m i v {M : qM} {a : Nat}, i + m = p → tC M τ a → wp (qlp (σ := (Int32 × Int32 × qM)) (ρ := (Int32 × qM)) (
      fun q => qu3 q fun x4 x5 M6 =>
      if (nI p : Int32) ≤ (x5 : Int32) then
        some (.inr (x4, M6))
      else
        (jTp_next M6).bind fun r14 =>
        if (b2i (jTp_isDigit r14) : Int32) = (0 : Int32) then
          some (.inr (x4, M6))
        else
          (jTp_next M6).bind fun r15 =>
          qlt (((x4 * 10) + r15) - 48 : Int32) fun x16 =>
          qlt (qI M6 1 2 ((M6.1 1 2) + 1)) fun M17 =>
          qlt (x5 + 1 : Int32) fun x18 =>
          some (.inl (x16, x18, M17))) (nI v, nI i, M)) (fun o => o.1 = nI (nmN τ m a v).2 ∧ tC o.2 τ (nmN τ m a v).1 ∧ fr atC M o.2) := by
  intro m
  induction m with
  | zero =>
    intro i v M a h hs
    exact ⟨(nI v, M), qlp_inr (if_pos (nI_le (by omega) (by omega))), rfl, hs, fr_rf _ _⟩
  | succ m ih =>
    intro i v M a h hs
    by_cases hd : jTp_isDigit (cb τ a) = true
    · have hl := dgt_lt hd
      obtain ⟨h1, h2⟩ := incT hs hl
      obtain ⟨o, e1, e2, e3, e4⟩ := ih (i + 1) (10 * v + dv (cb τ a)) (by omega) h1
      have e : nmN τ (m + 1) a v = nmN τ m (a + 1) (10 * v + dv (cb τ a)) := if_pos hd
      rw [e]
      refine ⟨o, ?_, e2, e3, h2.tr e4⟩
      rw [qlp_inl]
      · exact e1
      · unfold qu3
        simp only
        rw [if_neg (by rw [nI_leI (by omega) (by omega)]; omega), next_eq hs.1 hs.2.1 hs.2.2]
        simp only [Option.bind_some]
        rw [if_neg (by rw [hd]; decide)]
        unfold qlt
        rw [nstep v hd, nI_1]
    · have e : nmN τ (m + 1) a v = (a, v) := if_neg hd
      rw [e]
      refine ⟨(nI v, M), qlp_inr ?_, rfl, hs, fr_rf _ _⟩
      unfold qu3
      simp only
      rw [if_neg (by rw [nI_leI (by omega) (by omega)]; omega), next_eq hs.1 hs.2.1 hs.2.2]
      simp only [Option.bind_some]
      rw [if_pos (by rw [Bool.not_eq_true] at hd; rw [hd]; decide)]
theorem numMT {τ : tT} {p : Nat} (hp : p < 100) : ∀ m i v {M : qM} {a : Nat}, i + m = p → a ≤ τ.1 → tM M τ a → wp (qlp (σ := (Int32 × Int32 × qM)) (ρ := (Int32 × qM)) (
    fun q => qu3 q fun x1 x2 M3 =>
    if (nI p : Int32) ≤ (x2 : Int32) then
      some (.inr (x1, M3))
    else
      (jMd_here M3).bind fun r10 =>
      if (b2i (jMd_isDigit r10) : Int32) = (0 : Int32) then
        some (.inr (x1, M3))
      else
        (jMd_here M3).bind fun r11 =>
        qlt (((10 * x1) + r11) - 48 : Int32) fun x12 =>
        qlt (qI M3 91 3 ((M3.1 91 3) + 1)) fun M13 =>
        qlt (x2 + 1 : Int32) fun x14 =>
        some (.inl (x12, x14, M13))) (nI v, nI i, M)) (fun o => o.1 = nI (nmN τ m a v).2 ∧ tM o.2 τ (nmN τ m a v).1 ∧ fr atM M o.2) := by
  intro m
  induction m with
  | zero =>
    intro i v M a h hl hs
    exact ⟨(nI v, M), qlp_inr (if_pos (nI_le (by omega) (by omega))), rfl, hs, fr_rf _ _⟩
  | succ m ih =>
    intro i v M a h hl hs
    by_cases hd : jTp_isDigit (cb τ a) = true
    · have hlt := dgt_lt hd
      obtain ⟨h1, h2⟩ := incTM hs
      obtain ⟨o, e1, e2, e3, e4⟩ := ih (i + 1) (10 * v + dv (cb τ a)) (by omega) (by omega) h1
      have e : nmN τ (m + 1) a v = nmN τ m (a + 1) (10 * v + dv (cb τ a)) := if_pos hd
      rw [e]
      refine ⟨o, ?_, e2, e3, h2.tr e4⟩
      rw [qlp_inl]
      · exact e1
      · unfold qu3
        simp only
        rw [if_neg (by rw [nI_leI (by omega) (by omega)]; omega), here_eq hs.1 hs.2.1 hl]
        simp only [Option.bind_some]
        rw [if_neg (by rw [dg_e, hd]; decide)]
        unfold qlt
        rw [Int32.mul_comm 10, nstep v hd, nI_1]
    · have e : nmN τ (m + 1) a v = (a, v) := if_neg hd
      rw [e]
      refine ⟨(nI v, M), qlp_inr ?_, rfl, hs, fr_rf _ _⟩
      unfold qu3
      simp only
      rw [if_neg (by rw [nI_leI (by omega) (by omega)]; omega), here_eq hs.1 hs.2.1 hl]
      simp only [Option.bind_some]
      rw [if_pos (by rw [Bool.not_eq_true] at hd; rw [dg_e, hd]; decide)]
theorem takeNumberT {M : qM} {τ : tT} {a : Nat} (h : tC M τ a) : wp (jTp_takeNumber 3 M) (fun o => fr aC M o.2 ∧
    (jTp_isDigit (cb τ (sk τ a)) = false → o.1 = -1 ∧ dC o.2 τ 0 (sk τ a)) ∧
    (jTp_isDigit (cb τ (sk τ a)) = true → jTp_isDigit (cb τ (nE τ 3 (sk τ a))) = true → o.1 = -1 ∧ dC o.2 τ 0 (nE τ 3 (sk τ a))) ∧
    (jTp_isDigit (cb τ (sk τ a)) = true → jTp_isDigit (cb τ (nE τ 3 (sk τ a))) = false → o.1 = nI (nV τ 3 (sk τ a)) ∧ tC o.2 τ (nE τ 3 (sk τ a)))) := by
  have h160 := h.1.2.1
  unfold jTp_takeNumber
  obtain ⟨M3, e, e2, e3⟩ := peekT h
  refine wp_be e ?_
  cases hd : jTp_isDigit (cb τ (sk τ a)) with
  | false =>
    refine wp_ip (by show b2i (jTp_isDigit (cb τ (sk τ a))) = 0; rw [hd]; decide) (wp_some ?_)
    obtain ⟨f1, f2⟩ := failT e2 (w := sk τ a) (by have := e2.2.2; omega)
    have ef : (jTp_fail (M3.1 1 2) M3).2 = qI M3 1 3 (nI (sk τ a)) := by rw [e2.2.1]; rfl
    refine ⟨?_, fun _ => ⟨rfl, ?_⟩, (by intro x; cases x), (by intro x; cases x)⟩
    · show fr aC M (jTp_fail (M3.1 1 2) M3).2
      rw [ef]; exact (at_aC e3).tr f2
    · show dC (jTp_fail (M3.1 1 2) M3).2 τ 0 _
      rw [ef]; exact f1
  | true =>
    refine wp_in (by show ¬ b2i (jTp_isDigit (cb τ (sk τ a))) = 0; rw [hd]; decide) (wp_bd ((numCT (p := 3) (by omega) 3 0 0 (by omega) e2).mono (fun o ho => ?_)))
    obtain ⟨x, M8⟩ := o
    obtain ⟨g1, g2, g3⟩ := ho
    have g2 : tC M8 τ (nE τ 3 (sk τ a)) := g2
    have g3 : fr atC M3 M8 := g3
    refine wp_be (next_eq g2.1 g2.2.1 g2.2.2) ?_
    cases hd2 : jTp_isDigit (cb τ (nE τ 3 (sk τ a))) with
    | false =>
      refine wp_ip ff0 (wp_some ?_)
      exact ⟨(at_aC e3).tr (at_aC g3), (by intro x; cases x), (by intro _ x; cases x), fun _ _ => ⟨g1, g2⟩⟩
    | true =>
      refine wp_in tt0 (wp_some ?_)
      obtain ⟨f1, f2⟩ := failT g2 (w := nE τ 3 (sk τ a)) (by have := g2.2.2; omega)
      have ef : (jTp_fail (M8.1 1 2) M8).2 = qI M8 1 3 (nI (nE τ 3 (sk τ a))) := by rw [g2.2.1]; rfl
      refine ⟨?_, (by intro x; cases x), fun _ _ => ⟨rfl, ?_⟩, (by intro _ x; cases x)⟩
      · show fr aC M (jTp_fail (M8.1 1 2) M8).2
        rw [ef]; exact ((at_aC e3).tr (at_aC g3)).tr f2
      · show dC (jTp_fail (M8.1 1 2) M8).2 τ 0 _
        rw [ef]; exact f1
theorem in_nI {v l h : Nat} (hv : v < 100000) (hl : l < 100000) (hh : h < 100000) : jMd_in (nI v) (nI l) (nI h) = true ↔ l ≤ v ∧ v ≤ h := by
  rw [in_iff, nI_toInt (by omega), nI_toInt (by omega), nI_toInt (by omega)]
  omega
theorem nV3_lt (τ : tT) (a : Nat) : nV τ 3 a < 1000 := nmN_v 3 a 0 1 (by omega)
theorem numberT {M : qM} {τ : tT} {a lo hi : Nat} (hl : a ≤ τ.1) (hlo : lo < 10000) (hhi : hi < 10000) (h : tM M τ a) : wp (jMd_number (nI lo) (nI hi) M) (fun o => fr aM M o.2 ∧
    (jTp_isDigit (cb τ (sk τ a)) = false → eM o.2 τ (sk τ a)) ∧
    (jTp_isDigit (cb τ (sk τ a)) = true → jTp_isDigit (cb τ (nE τ 3 (sk τ a))) = true → eM o.2 τ (nE τ 3 (sk τ a))) ∧
    (jTp_isDigit (cb τ (sk τ a)) = true → jTp_isDigit (cb τ (nE τ 3 (sk τ a))) = false → (lo ≤ nV τ 3 (sk τ a) ∧ nV τ 3 (sk τ a) ≤ hi) → o.1 = nI (nV τ 3 (sk τ a)) ∧ tM o.2 τ (nE τ 3 (sk τ a))) ∧
    (jTp_isDigit (cb τ (sk τ a)) = true → jTp_isDigit (cb τ (nE τ 3 (sk τ a))) = false → ¬ (lo ≤ nV τ 3 (sk τ a) ∧ nV τ 3 (sk τ a) ≤ hi) → eM o.2 τ (nE τ 3 (sk τ a) - 1))) := by
  have h160 := h.1.2.1
  have hsk := sk_le hl
  unfold jMd_number
  obtain ⟨M3, e, e2, e3⟩ := lookT hl h
  refine wp_be e ?_
  cases hd : jTp_isDigit (cb τ (sk τ a)) with
  | false =>
    refine wp_ip (by show b2i (jMd_isDigit (cb τ (sk τ a))) = 0; rw [dg_e, hd]; decide) (wp_some ?_)
    obtain ⟨f1, f2⟩ := badT e2 (by omega)
    exact ⟨(at_aM e3).tr f2, fun _ => f1, (by intro x; cases x), (by intro x; cases x), (by intro x; cases x)⟩
  | true =>
    refine wp_in (by show ¬ b2i (jMd_isDigit (cb τ (sk τ a))) = 0; rw [dg_e, hd]; decide) (wp_bd ((numMT (p := 3) (by omega) 3 0 0 (by omega) hsk.2 e2).mono (fun o ho => ?_)))
    obtain ⟨x, M8⟩ := o
    obtain ⟨g1, g2, g3⟩ := ho
    have g1 : x = nI (nV τ 3 (sk τ a)) := g1
    subst g1
    have g2 : tM M8 τ (nE τ 3 (sk τ a)) := g2
    have g3 : fr atM M3 M8 := g3
    have hne := nE_gt (p := 3) hd (by omega)
    have hv := nV3_lt τ (sk τ a)
    refine wp_be (here_eq g2.1 g2.2.1 hne.2) (wp_lt (fun M11 hM => wp_some ?_))
    cases hd2 : jTp_isDigit (cb τ (nE τ 3 (sk τ a))) with
    | false =>
      rw [if_pos (by rw [dg_e, hd2]; decide)] at hM
      by_cases hr : lo ≤ nV τ 3 (sk τ a) ∧ nV τ 3 (sk τ a) ≤ hi
      · rw [if_neg (by show ¬ b2i (jMd_in (nI (nV τ 3 (sk τ a))) (nI lo) (nI hi)) = 0; rw [(in_nI (by omega) (by omega) (by omega)).mpr hr]; decide)] at hM
        have hM : M11 = M8 := hM
        subst hM
        exact ⟨(at_aM e3).tr (at_aM g3), (by intro x; cases x), (by intro _ x; cases x), fun _ _ _ => ⟨rfl, g2⟩, fun _ _ g => absurd hr g⟩
      · have hf : jMd_in (nI (nV τ 3 (sk τ a))) (nI lo) (nI hi) = false := by
          cases hq : jMd_in (nI (nV τ 3 (sk τ a))) (nI lo) (nI hi) with
          | false => rfl
          | true => exact absurd ((in_nI (by omega) (by omega) (by omega)).mp hq) hr
        rw [if_pos (by show b2i (jMd_in (nI (nV τ 3 (sk τ a))) (nI lo) (nI hi)) = 0; rw [hf]; decide)] at hM
        have hM : M11 = jMd_bad (qI M8 91 3 (M8.1 91 3 - 1)) := hM
        subst hM
        have g : fr atM M8 (qI M8 91 3 (M8.1 91 3 - 1)) := fr_I ⟨rfl, rfl⟩
        have g4 : tM (qI M8 91 3 (M8.1 91 3 - 1)) τ (nE τ 3 (sk τ a) - 1) := ⟨rTM_fr g2.1 g (by rintro ⟨_, h⟩; omega) (by rintro j ⟨h, _⟩; omega), by rw [qI_1, if_pos ⟨rfl, rfl⟩, g2.2.1, show (1 : Int32) = nI 1 from rfl, nI_subE (by omega)], by rw [(g 91 4 (by rintro ⟨_, h⟩; omega)).1]; exact g2.2.2⟩
        obtain ⟨f1, f2⟩ := badT g4 (by omega)
        exact ⟨(((at_aM e3).tr (at_aM g3)).tr (at_aM g)).tr f2, (by intro x; cases x), (by intro _ x; cases x), fun _ _ g => absurd g hr, fun _ _ _ => f1⟩
    | true =>
      rw [if_neg (by rw [dg_e, hd2]; decide)] at hM
      have hM : M11 = jMd_bad M8 := hM
      subst hM
      obtain ⟨f1, f2⟩ := badT g2 (by omega)
      exact ⟨((at_aM e3).tr (at_aM g3)).tr f2, (by intro x; cases x), fun _ _ => f1, (by intro _ x; cases x), (by intro _ x; cases x)⟩
