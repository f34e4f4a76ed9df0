/-! ===== promises 29 to 32, 47 to 49: tell, came, told, ill, swap, crowd, free ===== -/
def sTC (b j : Nat) : Prop := 60 ≤ b ∧ b ≤ 64
def sUC (b j : Nat) : Prop := 60 ≤ b ∧ b ≤ 70
def sTM (b j : Nat) : Prop := b = 91 ∧ (j = 55 ∨ j = 56) ∨ 116 ≤ b ∧ b ≤ 119
def rTd (n : Nat) (vs : Nat → vT) (M : qM) : Prop := (M.2.2 60 0 = none ∧ M.1 91 55 = -1) ∨ ∃ i t f, i < n ∧ i < 5 ∧ tdC M (71 + 4 * i) (vs i) t f ∧ tdM M i (vs i) t f
theorem tdC_M {M M1 : qM} {k : Nat} {v : vT} {t : Nat} {f : Nat → Int} (h : tdC M k v t f) (hk : k ≤ 87) (g : fr sTM M M1) : tdC M1 k v t f := by
  obtain ⟨a1, a2, a3, a4, a5, a6⟩ := h
  exact ⟨rVC_fr a1 g (fun b j hb _ => by unfold sTM; omega), a2, by rw [(g 60 0 (by simp [sTM])).2.2]; exact a3, by rw [(g 60 1 (by simp [sTM])).1]; exact a4, a5, fun o ho => by rw [(g 61 o (by simp [sTM])).1]; exact a6 o ho⟩
theorem tdM_C {M M1 : qM} {i : Nat} {v : vT} {t : Nat} {f : Nat → Int} (h : tdM M i v t f) (g : fr sTC M M1) : tdM M1 i v t f :=
  tdM_fr h g (fun b j _ _ => by unfold sTC; omega) (fun j _ _ => by unfold sTC; omega) (fun j => by unfold sTC; omega)
theorem sRk_C {M M1 : qM} (g : fr sRk M M1) : fr sTC M M1 := g.mono (fun b j h => by unfold sRk at h; unfold sTC; omega)
theorem sTo_M {M M1 : qM} {p : Nat} (g : fr (sTo p) M M1) : fr sTM M M1 := g.mono (fun b j h => by unfold sTo at h; unfold sTM; omega)
theorem began_t {M : qM} {k : Nat} (h : M.2.2 60 0 = some k) : jTo_began M = true := by
  unfold jTo_began qlt
  rw [h]
  simp
theorem began_f {M : qM} (h : M.2.2 60 0 = none) : jTo_began M = false := by
  unfold jTo_began qlt
  rw [h]
  simp
theorem isToldC_N {M : qM} (h : M.2.2 60 0 = none) (a : Int32) : jTc_isTold a M = some false := by
  unfold jTc_isTold
  rw [began_f h]
  rfl
theorem isToldM_N {M : qM} (h : M.1 91 55 = -1) (a : Int32) : jMd_isTold a M = some false := by
  unfold jMd_isTold
  rw [if_pos h]
  rfl
theorem isToldC_eq {M : qM} {k : Nat} {v : vT} {t : Nat} {f : Nat → Int} (h : tdC M k v t f) (a : Int32) : jTc_isTold a M = some (jTc_isOf a (nI (vP v))) := by
  unfold jTc_isTold
  rw [began_t h.2.2.1, h.2.2.1, if_neg (by decide)]
  simp only [Option.bind_some, h.1.2.2.2.1, b2i_0]
  cases jTc_isOf a (nI (vP v)) <;> rfl
theorem isToldM_eq {M : qM} {i : Nat} {v : vT} {t : Nat} {f : Nat → Int} (h : tdM M i v t f) (a : Int32) : jMd_isTold a M = some (jTc_isOf a (nI (vP v))) := by
  have h20 := h.1.1.2.2.1
  have hi := h.2.1
  unfold jMd_isTold
  rw [h.2.2.1, if_neg (nI_m1 (by omega)), qrI_nI hi (by omega), h.1.2.2.2.1]
  simp only [Option.bind_some, b2i_0, ← isOf_Z a (show vP v < 1000000 by omega)]
  cases jTc_isOf a (nI (vP v)) <;> rfl
theorem tdC_up {M : qM} {k : Nat} {v : vT} {t p : Nat} {f : Nat → Int} {x : Int} (h : tdC M k v t f) (h1 : -1 ≤ x) (h2 : x ≤ 60) : tdC (qI M 61 p (iI x)) k v t (upI f p x) := by
  obtain ⟨a1, a2, a3, a4, a5, a6⟩ := h
  have g : fr (fun b _ => b = 61) M (qI M 61 p (iI x)) := fr_I rfl
  refine ⟨rVC_fr a1 g (fun b j _ _ => by omega), a2, a3, ?_, a5, fun o ho => ?_⟩
  · rw [(g 60 1 (by decide)).1]; exact a4
  · rw [qI_1]
    unfold upI
    by_cases hop : o = p
    · rw [if_pos ⟨rfl, hop⟩, if_pos hop]
      exact ⟨rfl, h1, h2⟩
    · rw [if_neg (fun e => hop e.2), if_neg hop]
      exact a6 o ho
theorem rTd_mk {n : Nat} {vs : Nat → vT} {M M1 : qM} {i t : Nat} {f : Nat → Int} (hi : i < n) (hi5 : i < 5) (hC : tdC M (71 + 4 * i) (vs i) t f) (hM : tdM M1 i (vs i) t f) (g : fr sTM M M1) : rTd n vs M1 := Or.inr ⟨i, t, f, hi, hi5, tdC_M hC (by omega) g, hM⟩
theorem p_tell {M : qM} {n : Nat} {vs : Nat → vT} (hC : rVsC M n vs) (hM : rVsM M n vs) (h : rTd n vs M) (a b : Int32) : bth (rTd n vs) sTC sTM (jTc_tell a b) (jMd_tell a b) M := by
  have h4 := hC.1
  rcases isThing_2 hC hM a b with ⟨i, t, hi, ht, rfl, rfl, e1, e2⟩ | ⟨e1, e2⟩
  · have g1 : fr sTC M (sI (qI (qR M 60 0 (some (71 + 4 * i))) 60 1 (nI t)) 61 20 (fun _ => -1)) := ((fr_R (by unfold sTC; omega)).tr (fr_I (by unfold sTC; omega))).tr (fr_sI (fun j _ => by unfold sTC; omega))
    refine bth_mk (P := fun M1 => tdC M1 (71 + 4 * i) (vs i) t (fun _ => -1) ∧ rVsM M1 n vs) true ?_ ?_
    · unfold jTc_tell
      rw [e1]
      refine wp_bd (wp_some ?_)
      refine wp_in (by decide) ?_
      refine wp_be (qix_nI (show i < 5 by omega) (by omega)) ?_
      refine wp_bd ?_
      unfold jTo_begin
      simp only [qlt]
      refine wp_be (fillI_eq 61 (-1) _ (by decide)) ?_
      refine wp_some (wp_some ⟨rfl, ⟨?_, ?_⟩, g1⟩)
      · refine ⟨rVC_fr (hC.2.2 i hi) g1 (fun b j h1 h2 => by unfold sTC; omega), by omega, ?_, ?_, ht, fun o ho => ⟨?_, Int.le_refl (-1), show (-1 : Int) ≤ 60 by omega⟩⟩
        · show (qR M 60 0 (some (71 + 4 * i))).2.2 60 0 = _
          rw [qR_22, if_pos ⟨rfl, rfl⟩]
        · show (sI (qI (qR M 60 0 (some (71 + 4 * i))) 60 1 (nI t)) 61 (q_al 61) (fun _ => -1)).1 60 1 = _
          rw [sI_off (by decide), qI_1, if_pos ⟨rfl, rfl⟩]
        · show (sI (qI (qR M 60 0 (some (71 + 4 * i))) 60 1 (nI t)) 61 (q_al 61) (fun _ => -1)).1 61 o = _
          rw [sI_at (by exact ho)]
          rfl
      · exact rVsM_fr hM g1 (fun b j h1 h2 => by unfold sTC; omega) (by simp [sTC])
    · rintro M1 ⟨hC1, hM1⟩ g
      have e2' : jMd_isThing (nI i) (nI t) M1 = some true := by
        have hx := rVsC_fr hC g (fun b j h1 h2 => by unfold sTC; omega) (by simp [sTC])
        rcases isThing_2 hx hM1 (nI i) (nI t) with ⟨_, _, _, _, _, _, _, e⟩ | ⟨e, _⟩
        · exact e
        · have hq : jTc_isThing (nI i) (nI t) M1 = jTc_isThing (nI i) (nI t) M := by
            unfold jTc_isThing jTc_isVillage
            rw [hx.2.1, hC.2.1, qix_nI (show i < 5 by omega) (by omega)]
            simp only [Option.bind_some, (hx.2.2 i hi).2.1, (hC.2.2 i hi).2.1]
          rw [hq, e1] at e
          cases e
      unfold jMd_tell
      rw [e2']
      refine wp_bd (wp_some ?_)
      refine wp_in (by decide) ?_
      simp only [qlt]
      refine wp_bd (wp_for (fun o s => s.1 = nI o ∧ s.2.1 91 55 = nI i ∧ s.2.1 91 56 = nI t ∧ (∀ j, j < o → s.2.1 116 j = -1) ∧ fr sTM M1 s.2) 20 ?_ ?_ ?_)
      · refine ⟨rfl, ?_, ?_, fun j hj => by omega, (fr_I (by simp [sTM])).tr (fr_I (by simp [sTM]))⟩
        · simp [qI_1]
        · simp [qI_1]
      · rintro o ⟨x, N⟩ ho ⟨q1, q2, q3, q4, q5⟩
        have q1 : x = nI o := q1
        subst q1
        simp only [qu2]
        refine wp_in (nI_ge (b := 20) ho (by omega)) ?_
        refine wp_bd (wp_wI rfl ho (by omega) ?_)
        refine wp_some ⟨nI_1 o, ?_, ?_, fun j hj => ?_, q5.tr (fr_I (by simp [sTM]))⟩
        · show (qI N 116 o (-1)).1 91 55 = _
          rw [qI_1, if_neg (by omega)]; exact q2
        · show (qI N 116 o (-1)).1 91 56 = _
          rw [qI_1, if_neg (by omega)]; exact q3
        · show (qI N 116 o (-1)).1 116 j = _
          rw [qI_1]
          by_cases hjo : j = o
          · rw [if_pos ⟨rfl, hjo⟩]
          · rw [if_neg (fun e => hjo e.2)]; exact q4 j (by omega)
      · rintro ⟨x, N⟩ ⟨q1, q2, q3, q4, q5⟩
        have q1 : x = nI 20 := q1
        subst q1
        simp only [qu2]
        refine wp_ip (by decide) (wp_some ?_)
        have hN : tdM N i (vs i) t (fun _ => -1) := ⟨rVM_fr (hM1.2.2 i hi) q5 (fun b j _ _ => by unfold sTM; omega), by omega, q2, q3, ht, fun o ho => ⟨q4 o ho, Int.le_refl (-1), show (-1 : Int) ≤ 60 by omega⟩⟩
        exact wp_some ⟨rfl, rTd_mk hi (by omega) hC1 hN q5, q5⟩
  · refine ⟨false, M, M, ?_, ?_, h, fr_rf _ _, fr_rf _ _⟩
    · unfold jTc_tell
      rw [e1]
      rfl
    · unfold jMd_tell
      rw [e2]
      rfl
theorem isMin_eq (b : Int32) : jTc_isMinuteOrNone b = jMd_in b (-1) 60 := by
  unfold jTc_isMinuteOrNone
  rw [Bool.eq_iff_iff, in_iff]
  have n1 : (-1 : Int32).toInt = -1 := rfl
  have n60 : (60 : Int32).toInt = 60 := rfl
  have n61 : (61 : Int32).toInt = 61 := rfl
  rw [n1, n60]
  by_cases hb : b = -1
  · subst hb
    simp [qlt]
  · have hb' : ¬ b.toInt = -1 := by rw [← n1, ← i_eq]; exact hb
    have hiff := isOf_iff b 61
    rw [n61] at hiff
    cases hz : jTc_isOf b 61 with
    | false =>
      rw [hz] at hiff
      simp only [qlt, hb, hz, b2i, if_false, if_true]
      simp at hiff ⊢
      omega
    | true =>
      rw [hz] at hiff
      simp only [qlt, hb, hz, b2i, if_false, if_true]
      simp at hiff ⊢
      omega
theorem in_mz {b : Int32} (h : jMd_in b (-1) 60 = true) : ∃ m : Int, b = iI m ∧ -1 ≤ m ∧ m ≤ 60 := by
  rw [in_iff] at h
  have n1 : (-1 : Int32).toInt = -1 := rfl
  have n60 : (60 : Int32).toInt = 60 := rfl
  exact ⟨b.toInt, iI_of b, by omega, by omega⟩
theorem p_came {M : qM} {n : Nat} {vs : Nat → vT} (h : rTd n vs M) (a b : Int32) : bth (rTd n vs) sTC sTM (jTc_came a b) (jMd_came a b) M := by
  rcases h with h | ⟨i, t, f, hi, hi5, hC, hM⟩
  · refine ⟨false, M, M, ?_, ?_, Or.inl h, fr_rf _ _, fr_rf _ _⟩
    · unfold jTc_came; rw [isToldC_N h.1]; rfl
    · unfold jMd_came; rw [isToldM_N h.2]; rfl
  · have h20 := hC.1.1.2.2.1
    cases hz : jTc_isOf a (nI (vP (vs i))) with
    | false =>
      refine ⟨false, M, M, ?_, ?_, Or.inr ⟨i, t, f, hi, hi5, hC, hM⟩, fr_rf _ _, fr_rf _ _⟩
      · unfold jTc_came; rw [isToldC_eq hC, hz]; rfl
      · unfold jMd_came; rw [isToldM_eq hM, hz]; rfl
    | true =>
      obtain ⟨p, hp, rfl⟩ := isOf_of (by omega) hz
      cases hy : jMd_in b (-1) 60 with
      | false =>
        refine ⟨false, M, M, ?_, ?_, Or.inr ⟨i, t, f, hi, hi5, hC, hM⟩, fr_rf _ _, fr_rf _ _⟩
        · unfold jTc_came; rw [isToldC_eq hC, hz, isMin_eq, hy]; rfl
        · unfold jMd_came; rw [isToldM_eq hM, hz, hy]; rfl
      | true =>
        obtain ⟨m, rfl, hm1, hm2⟩ := in_mz hy
        have g1 : fr sTC M (qI M 61 p (iI m)) := fr_I (by simp [sTC])
        have g2 : fr sTM (qI M 61 p (iI m)) (qI (qI M 61 p (iI m)) 116 p (iI m)) := fr_I (by simp [sTM])
        refine ⟨true, qI M 61 p (iI m), qI (qI M 61 p (iI m)) 116 p (iI m), ?_, ?_, rTd_mk hi hi5 (tdC_up hC hm1 hm2) (tdM_up (tdM_C hM g1) hm1 hm2) g2, g1, g2⟩
        · unfold jTc_came; rw [isToldC_eq hC, hz, isMin_eq, hy, qwI_nI (by omega) (by omega)]; rfl
        · unfold jMd_came; rw [isToldM_eq (tdM_C hM g1), hz, hy, qwI_nI (by omega) (by omega)]; rfl
theorem p_told {M : qM} {n : Nat} {vs : Nat → vT} (h : rTd n vs M) (a b : Int32) : bth (rTd n vs) sTC sTM (jTc_told a b) (jMd_told a b) M := by
  rcases h with h | ⟨i, t, f, hi, hi5, hC, hM⟩
  · refine ⟨-1000000, M, M, ?_, ?_, Or.inl h, fr_rf _ _, fr_rf _ _⟩
    · unfold jTc_told; rw [isToldC_N h.1]; rfl
    · unfold jMd_told; rw [isToldM_N h.2]; rfl
  · have h20 := hC.1.1.2.2.1
    cases hz : jTc_isOf a (nI (vP (vs i))) with
    | false =>
      refine ⟨-1000000, M, M, ?_, ?_, Or.inr ⟨i, t, f, hi, hi5, hC, hM⟩, fr_rf _ _, fr_rf _ _⟩
      · unfold jTc_told; rw [isToldC_eq hC, hz]; rfl
      · unfold jMd_told; rw [isToldM_eq hM, hz]; rfl
    | true =>
      obtain ⟨p, hp, rfl⟩ := isOf_of (by omega) hz
      refine bth_mk (P := fun M1 => tdC M1 (71 + 4 * i) (vs i) t f ∧ tdM M1 i (vs i) t f) (if b = 0 then iI (f p) else if b = 1 then (if f p < 0 then -1 else nI (rk (vP (vs i)) f p (f p))) else if b = 2 then iI (tgn (vs i) t f p (f p)) else if b = 3 then iI (ansI (tgn (vs i) t f p)) else if b = 4 then iI (trg (vs i) t f p) else -1000000) ?_ ?_
      · unfold jTc_told
        rw [isToldC_eq hC, hz]
        refine wp_bd (wp_some ?_)
        refine wp_in (by decide) ?_
        refine wp_if (fun hb => ?_) (fun hb => ?_)
        · refine wp_be (qrI_nI (by omega) (by omega)) ?_
          exact wp_some ⟨by rw [if_pos hb]; exact (hC.2.2.2.2.2 p (by omega)).1, ⟨hC, hM⟩, fr_rf _ _⟩
        · rw [if_neg hb]
          refine wp_if (fun hb => ?_) (fun hb => ?_)
          · refine wp_bd ((rankOf_wp hC hp).mono ?_)
            rintro ⟨x, N⟩ ⟨e1, e2, e3⟩
            exact wp_some ⟨by rw [if_pos hb]; exact e1, ⟨e2, tdM_C hM (sRk_C e3)⟩, sRk_C e3⟩
          · rw [if_neg hb]
            refine wp_if (fun hb => ?_) (fun hb => ?_)
            · refine wp_bd ((gainOf_wp hC hp).mono ?_)
              rintro ⟨x, N⟩ ⟨e1, e2, e3⟩
              exact wp_some ⟨by rw [if_pos hb]; exact e1, ⟨e2, tdM_C hM (sRk_C e3)⟩, sRk_C e3⟩
            · rw [if_neg hb]
              refine wp_if (fun hb => ?_) (fun hb => ?_)
              · refine wp_bd ((answerOf_wp hC hp).mono ?_)
                rintro ⟨x, N⟩ ⟨e1, _, e2, e3⟩
                exact wp_some ⟨by rw [if_pos hb]; exact e1, ⟨e2, tdM_C hM (sRk_C e3)⟩, sRk_C e3⟩
              · rw [if_neg hb]
                refine wp_if (fun hb => ?_) (fun hb => ?_)
                · refine wp_bd ((regretOf_wp hC hp).mono ?_)
                  rintro ⟨x, N⟩ ⟨e1, e2, e3⟩
                  exact wp_some ⟨by rw [if_pos hb]; exact e1, ⟨e2, tdM_C hM (sRk_C e3)⟩, sRk_C e3⟩
                · rw [if_neg hb]
                  exact wp_some ⟨rfl, ⟨hC, hM⟩, fr_rf _ _⟩
      · rintro M1 ⟨hC1, hM1⟩ g
        unfold jMd_told
        rw [isToldM_eq hM1, hz]
        refine wp_bd (wp_some ?_)
        refine wp_in (by decide) ?_
        refine wp_if (fun hb => ?_) (fun hb => ?_)
        · refine wp_be (qrI_nI (by omega) (by omega)) ?_
          exact wp_some ⟨by rw [if_pos hb]; exact (hM1.2.2.2.2.2 p (by omega)).1, rTd_mk hi hi5 hC1 hM1 (fr_rf _ _), fr_rf _ _⟩
        · rw [if_neg hb]
          refine wp_if (fun hb => ?_) (fun hb => ?_)
          · refine wp_be (toldRank_eq hM1 hp) ?_
            exact wp_some ⟨by rw [if_pos hb], rTd_mk hi hi5 hC1 hM1 (fr_rf _ _), fr_rf _ _⟩
          · rw [if_neg hb]
            refine wp_if (fun hb => ?_) (fun hb => ?_)
            · refine wp_be (toldGain_eq hM1 hp) ?_
              exact wp_some ⟨by rw [if_pos hb], rTd_mk hi hi5 hC1 hM1 (fr_rf _ _), fr_rf _ _⟩
            · rw [if_neg hb]
              refine wp_if (fun hb => ?_) (fun hb => ?_)
              · refine wp_bd ((mAnswer_wp hM1 hp).mono ?_)
                rintro ⟨x, N⟩ ⟨e1, e2, e3⟩
                exact wp_some ⟨by rw [if_pos hb]; exact e1, rTd_mk hi hi5 hC1 e2 (sTo_M e3), sTo_M e3⟩
              · rw [if_neg hb]
                refine wp_if (fun hb => ?_) (fun hb => ?_)
                · refine wp_bd ((mRegret_wp hM1 hp).mono ?_)
                  rintro ⟨x, N⟩ ⟨e1, e2, e3⟩
                  exact wp_some ⟨by rw [if_pos hb]; exact e1, rTd_mk hi hi5 hC1 e2 (sTo_M e3), sTo_M e3⟩
                · rw [if_neg hb]
                  exact wp_some ⟨rfl, rTd_mk hi hi5 hC1 hM1 (fr_rf _ _), fr_rf _ _⟩
/-! ill -/
def ilB (F : Nat → Bool) : Nat → Int32
  | 0 => 0
  | k + 1 => if F k = true then ilB F k ||| (1 <<< (nI k &&& 31)) else ilB F k
theorem trg_b {v : vT} {t p : Nat} {f : Nat → Int} (hv : vOK v) (ht : t < vTn v) (hp : p < vP v) (hf : f p ≤ 60) : -7000 ≤ trg v t f p ∧ trg v t f p ≤ 7000 := by
  have ha := ansI_b (tgn v t f p)
  have h1 := tgn_b (f := f) hv ht hp ha.2
  have h2 := tgn_b (f := f) hv ht hp hf
  unfold trg
  omega
theorem p_ill {M : qM} {n : Nat} {vs : Nat → vT} (h : rTd n vs M) : bth (rTd n vs) sTC sTM jTc_ill jMd_ill M := by
  rcases h with h | ⟨i, t, f, hi, hi5, hC, hM⟩
  · refine ⟨-1, M, M, ?_, ?_, Or.inl h, fr_rf _ _, fr_rf _ _⟩
    · unfold jTc_ill; rw [began_f h.1]; rfl
    · unfold jMd_ill; rw [if_pos h.2]
  · have h20 := hC.1.1.2.2.1
    refine bth_mk (P := fun M1 => tdC M1 (71 + 4 * i) (vs i) t f ∧ tdM M1 i (vs i) t f) (ilB (fun p => decide (0 < trg (vs i) t f p)) (vP (vs i))) ?_ ?_
    · unfold jTc_ill
      rw [began_t hC.2.2.1]
      refine wp_in (by decide) ?_
      refine wp_bd (wp_for (fun o s => s.1 = ilB (fun p => decide (0 < trg (vs i) t f p)) o ∧ s.2.1 = nI o ∧ tdC s.2.2 (71 + 4 * i) (vs i) t f ∧ fr sRk M s.2.2) (vP (vs i)) ⟨rfl, rfl, hC, fr_rf _ _⟩ ?_ ?_)
      · rintro o ⟨x, y, N⟩ ho ⟨e1, e2, e3, e4⟩
        have e1 : x = ilB (fun p => decide (0 < trg (vs i) t f p)) o := e1
        have e2 : y = nI o := e2
        subst e1 e2
        have e3 : tdC N (71 + 4 * i) (vs i) t f := e3
        have hb := trg_b (f := f) hC.1.1 hC.2.2.2.2.1 ho (hC.2.2.2.2.2 o (by omega)).2.2
        simp only [qu3]
        refine wp_be e3.2.2.1 ?_
        rw [e3.1.2.2.2.1]
        refine wp_in (nI_ge ho (by omega)) ?_
        refine wp_bd ((regretOf_wp e3 ho).mono ?_)
        rintro ⟨z, N1⟩ ⟨g1, g2, g3⟩
        have g1 : z = iI (trg (vs i) t f o) := g1
        subst g1
        refine wp_some ⟨?_, nI_1 o, g2, e4.tr g3⟩
        simp only [ilB, qlt, decide_eq_true_eq, show (0 : Int32) = iI 0 from rfl, iI_le (show -2147483648 ≤ trg (vs i) t f o by omega) (by omega) (show -2147483648 ≤ (0 : Int) by omega) (by omega)]
        by_cases hc : 0 < trg (vs i) t f o
        · rw [if_pos hc, if_neg (by omega)]
        · rw [if_neg hc, if_pos (by omega)]
      · rintro ⟨x, y, N⟩ ⟨e1, e2, e3, e4⟩
        have e2 : y = nI (vP (vs i)) := e2
        subst e2
        have e3 : tdC N (71 + 4 * i) (vs i) t f := e3
        simp only [qu3]
        refine wp_be e3.2.2.1 ?_
        rw [e3.1.2.2.2.1]
        refine wp_ip (nI_le (Nat.le_refl _) (by omega)) (wp_some ?_)
        exact wp_some ⟨e1, ⟨e3, tdM_C hM (sRk_C e4)⟩, sRk_C e4⟩
    · rintro M1 ⟨hC1, hM1⟩ g
      unfold jMd_ill
      rw [hM1.2.2.1]
      refine wp_in (nI_m1 (by omega)) ?_
      refine wp_bd (wp_for (fun o s => s.1 = ilB (fun p => decide (0 < trg (vs i) t f p)) o ∧ s.2.1 = nI o ∧ tdM s.2.2 i (vs i) t f ∧ fr sTM M1 s.2.2) (vP (vs i)) ⟨rfl, rfl, hM1, fr_rf _ _⟩ ?_ ?_)
      · rintro o ⟨x, y, N⟩ ho ⟨e1, e2, e3, e4⟩
        have e1 : x = ilB (fun p => decide (0 < trg (vs i) t f p)) o := e1
        have e2 : y = nI o := e2
        subst e1 e2
        have e3 : tdM N i (vs i) t f := e3
        have hb := trg_b (f := f) hC.1.1 hC.2.2.2.2.1 ho (hC.2.2.2.2.2 o (by omega)).2.2
        simp only [qu3]
        rw [e3.2.2.1]
        refine wp_be (qrI_nI hi5 (by omega)) ?_
        rw [e3.1.2.2.2.1]
        refine wp_in (nI_ge ho (by omega)) ?_
        refine wp_bd ((mRegret_wp e3 ho).mono ?_)
        rintro ⟨z, N1⟩ ⟨g1, g2, g3⟩
        have g1 : z = iI (trg (vs i) t f o) := g1
        subst g1
        refine wp_some ⟨?_, nI_1 o, g2, e4.tr (sTo_M g3)⟩
        simp only [ilB, qlt, decide_eq_true_eq, show (0 : Int32) = iI 0 from rfl, iI_le (show -2147483648 ≤ trg (vs i) t f o by omega) (by omega) (show -2147483648 ≤ (0 : Int) by omega) (by omega)]
        by_cases hc : 0 < trg (vs i) t f o
        · rw [if_pos hc, if_neg (by omega)]
        · rw [if_neg hc, if_pos (by omega)]
          show _ ||| (0 : Int32) = _
          simp
      · rintro ⟨x, y, N⟩ ⟨e1, e2, e3, e4⟩
        have e2 : y = nI (vP (vs i)) := e2
        subst e2
        have e3 : tdM N i (vs i) t f := e3
        simp only [qu3]
        rw [e3.2.2.1]
        refine wp_be (qrI_nI hi5 (by omega)) ?_
        rw [e3.1.2.2.2.1]
        refine wp_ip (nI_le (Nat.le_refl _) (by omega)) (wp_some ?_)
        exact wp_some ⟨e1, rTd_mk hi hi5 hC1 e3 e4, e4⟩
