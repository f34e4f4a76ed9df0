/-! ===== promises 47 to 49: swap, crowd, free ===== -/
theorem exchange_wp {M : qM} {k : Nat} {v : vT} {t p q : Nat} {f : Nat → Int} (h : tdC M k v t f) (hp : p < 20) (hq : q < 20) : wp (jTo_exchange (nI p) (nI q) M) (fun M' => tdC M' k v t (upI (upI f p (f q)) q (f p)) ∧ fr sTC M M') := by
  have h1 := h.2.2.2.2.2 p hp
  have h2 := h.2.2.2.2.2 q hq
  unfold jTo_exchange
  refine wp_be (qrI_nI hp (by omega)) ?_
  refine wp_be (qrI_nI hq (by omega)) ?_
  refine wp_bd (wp_wI rfl hp (by omega) ?_)
  refine wp_bd (wp_wI rfl hq (by omega) ?_)
  rw [h1.1, h2.1]
  exact wp_some ⟨tdC_up (tdC_up h h2.2.1 h2.2.2) h1.2.1 h1.2.2, (fr_I (by simp [sTC])).tr (fr_I (by simp [sTC]))⟩
theorem upI_sw (f : Nat → Int) {p q : Nat} (h : ¬ p = q) : upI (upI (upI (upI f p (f q)) q (f p)) p (upI (upI f p (f q)) q (f p) q)) q (upI (upI f p (f q)) q (f p) p) = f := by
  funext o
  unfold upI
  by_cases h1 : o = q
  · subst h1; simp [h]
  · by_cases h2 : o = p
    · subst h2; simp [h1]
    · simp [h1, h2]
theorem p_swap {M : qM} {n : Nat} {vs : Nat → vT} (h : rTd n vs M) (a b : Int32) : bth (rTd n vs) sTC sTM (jTc_swap a b) (jMd_swap a b) M := by
  rcases h with h | ⟨i, t, f, hi, hi5, hC, hM⟩
  · refine ⟨-1000000, M, M, ?_, ?_, Or.inl h, fr_rf _ _, fr_rf _ _⟩
    · unfold jTc_swap; rw [isToldC_N h.1]; rfl
    · unfold jMd_swap; rw [isToldM_N h.2]; rfl
  · have h20 := hC.1.1.2.2.1
    have hR : rTd n vs M := Or.inr ⟨i, t, f, hi, hi5, hC, hM⟩
    cases hz : jTc_isOf a (nI (vP (vs i))) with
    | false =>
      refine ⟨-1000000, M, M, ?_, ?_, hR, fr_rf _ _, fr_rf _ _⟩
      · unfold jTc_swap; rw [isToldC_eq hC, hz]; rfl
      · unfold jMd_swap; rw [isToldM_eq hM, hz]; rfl
    | true =>
      cases hy : jTc_isOf b (nI (vP (vs i))) with
      | false =>
        refine ⟨-1000000, M, M, ?_, ?_, hR, fr_rf _ _, fr_rf _ _⟩
        · unfold jTc_swap; rw [isToldC_eq hC, isToldC_eq hC, hz, hy]; rfl
        · unfold jMd_swap; rw [isToldM_eq hM, isToldM_eq hM, hz, hy]; rfl
      | true =>
        by_cases hab : a = b
        · refine ⟨-1000000, M, M, ?_, ?_, hR, fr_rf _ _, fr_rf _ _⟩
          · unfold jTc_swap; rw [isToldC_eq hC, isToldC_eq hC, hz, hy, if_pos hab]; rfl
          · unfold jMd_swap; rw [isToldM_eq hM, isToldM_eq hM, hz, hy, if_pos hab]; rfl
        · obtain ⟨p, hp, rfl⟩ := isOf_of (by omega) hz
          obtain ⟨q, hq, rfl⟩ := isOf_of (by omega) hy
          have hpq : ¬ p = q := fun e => hab (by rw [e])
          refine bth_mk (P := fun M1 => tdC M1 (71 + 4 * i) (vs i) t f ∧ tdM M1 i (vs i) t f) ((iI (tgn (vs i) t (upI (upI f p (f q)) q (f p)) p (upI (upI f p (f q)) q (f p) p)) + iI (tgn (vs i) t (upI (upI f p (f q)) q (f p)) q (upI (upI f p (f q)) q (f p) q))) - (iI (tgn (vs i) t f p (f p)) + iI (tgn (vs i) t f q (f q)))) ?_ ?_
          · unfold jTc_swap
            rw [isToldC_eq hC, isToldC_eq hC, hz, hy]
            refine wp_bd (wp_some (wp_in (by decide) (wp_bd (wp_some (wp_in (by decide) (wp_in hab ?_))))))
            refine wp_bd ?_
            unfold jTo_gainBySwap
            refine wp_bd ((gainOf_wp hC hp).mono ?_)
            rintro ⟨x1, N1⟩ ⟨e1, c1, f1⟩
            have e1 : x1 = _ := e1
            refine wp_bd ((gainOf_wp c1 hq).mono ?_)
            rintro ⟨x2, N2⟩ ⟨e2, c2, f2⟩
            have e2 : x2 = _ := e2
            refine wp_bd ((exchange_wp c2 (by omega) (by omega)).mono ?_)
            rintro N3 ⟨c3, f3⟩
            refine wp_bd ((gainOf_wp c3 hp).mono ?_)
            rintro ⟨x4, N4⟩ ⟨e4, c4, f4⟩
            have e4 : x4 = _ := e4
            refine wp_bd ((gainOf_wp c4 hq).mono ?_)
            rintro ⟨x5, N5⟩ ⟨e5, c5, f5⟩
            have e5 : x5 = _ := e5
            refine wp_bd ((exchange_wp c5 (by omega) (by omega)).mono ?_)
            rintro N6 ⟨c6, f6⟩
            rw [upI_sw f hpq] at c6
            have ff : fr sTC M N6 := (((((sRk_C f1).tr (sRk_C f2)).tr f3).tr (sRk_C f4)).tr (sRk_C f5)).tr f6
            refine wp_some (wp_some ⟨?_, ⟨c6, tdM_C hM ff⟩, ff⟩)
            show x4 + x5 - (x1 + x2) = _
            rw [e1, e2, e4, e5]
          · rintro M1 ⟨hC1, hM1⟩ g
            have k1 := hM1.2.2.2.2.2 p (by omega)
            have k2 := hM1.2.2.2.2.2 q (by omega)
            unfold jMd_swap
            rw [isToldM_eq hM1, isToldM_eq hM1, hz, hy]
            refine wp_bd (wp_some (wp_in (by decide) (wp_bd (wp_some (wp_in (by decide) (wp_in hab ?_))))))
            refine wp_be (toldGain_eq hM1 hp) ?_
            refine wp_be (toldGain_eq hM1 hq) ?_
            refine wp_lt (fun x5 hx5 => ?_)
            refine wp_be (qrI_nI (by omega) (by omega)) ?_
            refine wp_be (qrI_nI (by omega) (by omega)) ?_
            refine wp_bd (wp_wI rfl (show p < 20 by omega) (by omega) ?_)
            refine wp_bd (wp_wI rfl (show q < 20 by omega) (by omega) ?_)
            rw [k1.1, k2.1]
            have m2 := tdM_up (p := q) (tdM_up (p := p) hM1 k2.2.1 k2.2.2) k1.2.1 k1.2.2
            refine wp_be (toldGain_eq m2 hp) ?_
            refine wp_be (toldGain_eq m2 hq) ?_
            refine wp_lt (fun x12 hx12 => ?_)
            refine wp_bd (wp_wI rfl (show p < 20 by omega) (by omega) ?_)
            refine wp_bd (wp_wI rfl (show q < 20 by omega) (by omega) ?_)
            have m4 := tdM_up (p := q) (tdM_up (p := p) m2 k1.2.1 k1.2.2) k2.2.1 k2.2.2
            have e : upI (upI (upI (upI f p (f q)) q (f p)) p (f p)) q (f q) = f := by
              funext o
              unfold upI
              by_cases h1 : o = q
              · simp [h1]
              · by_cases h2 : o = p
                · subst h2; simp [h1]
                · simp [h1, h2]
            rw [e] at m4
            have ff : fr sTM M1 (qI (qI (qI (qI M1 116 p (iI (f q))) 116 q (iI (f p))) 116 p (iI (f p))) 116 q (iI (f q))) := (((fr_I (by simp [sTM])).tr (fr_I (by simp [sTM]))).tr (fr_I (by simp [sTM]))).tr (fr_I (by simp [sTM]))
            refine wp_some ⟨?_, rTd_mk hi hi5 hC1 m4 ff, ff⟩
            show x12 = _
            rw [hx12, hx5]
/-! crowd -/
def cw (c : Nat → Nat) : Nat → Int32 × Nat
  | 0 => (-1, 0)
  | m + 1 => if c m ≤ (cw c m).2 then cw c m else (nI m, c m)
theorem cw_b {c : Nat → Nat} {B : Nat} (h : ∀ m, c m ≤ B) (m : Nat) : (cw c m).2 ≤ B := by
  induction m with
  | zero => exact Nat.zero_le _
  | succ m ih =>
    simp only [cw]
    split
    · exact ih
    · exact h m
theorem p_crowd {M : qM} {n : Nat} {vs : Nat → vT} (h : rTd n vs M) : ∃ r M1, jTc_crowd M = some (r, M1) ∧ jMd_crowd M1 = some r ∧ rTd n vs M1 ∧ fr sTC M M1 := by
  rcases h with h | ⟨i, t, f, hi, hi5, hC, hM⟩
  · refine ⟨-1, M, ?_, ?_, Or.inl h, fr_rf _ _⟩
    · unfold jTc_crowd; rw [began_f h.1]; rfl
    · unfold jMd_crowd
      rw [qlp_inr (r := (-1 : Int32)) (by simp only [qu3]; rw [if_neg (by decide), if_pos h.2])]
      rfl
  · have h20 := hC.1.1.2.2.1
    have hcb : ∀ m, (fun m : Nat => cm (vP (vs i)) f (-1) m) m ≤ 20 := fun m => Nat.le_trans (cnt_le _ _) h20
    obtain ⟨M1, e1, g1, g2, g3⟩ := rankB_wp (p := -1) hC (by omega) (by omega)
    refine ⟨(cw (fun m => cm (vP (vs i)) f (-1) m) 61).1, M1, ?_, ?_, ?_, sRk_C g3⟩
    · unfold jTc_crowd jTo_fullest
      rw [began_t hC.2.2.1, if_neg (by decide), show (-1 : Int32) = iI (-1) from rfl, e1]
      simp only [Option.bind_some]
      rw [qlp_for0 (s0 := (iI (-1), (0 : Int32), (0 : Int32))) (fun m => ((cw (fun m => cm (vP (vs i)) f (-1) m) m).1, nI (cw (fun m => cm (vP (vs i)) f (-1) m) m).2, nI m)) (cw (fun m => cm (vP (vs i)) f (-1) m) 61).1 61 rfl (fun m hm => ?_) ?_]
      · rfl
      · simp only [qu3]
        rw [if_pos (by decide)]
      · have hb := cw_b hcb m
        have hb2 : cm (vP (vs i)) f (-1) m ≤ 20 := hcb m
        simp only [qu3]
        rw [if_neg (show ¬ (60 : Int32) < nI m from nI_nlt (a := 60) (by omega) (by omega)), qrI_nI hm (by omega), g2 m hm]
        simp only [Option.bind_some, qlt, cw]
        by_cases hc : cm (vP (vs i)) f (-1) m ≤ (cw (fun m => cm (vP (vs i)) f (-1) m) m).2
        · rw [if_pos (nI_le hc (by omega)), if_pos hc]
          simp only [Option.bind_some, qu2]
          rw [nI_1]
        · rw [if_neg (nI_ge (by omega) (by omega)), if_neg hc]
          simp only [Option.bind_some, qu2]
          rw [nI_1]
    · have hM1 := tdM_C hM (sRk_C g3)
      unfold jMd_crowd
      rw [hM1.2.2.1]
      rw [qlp_for0 (s0 := ((-1 : Int32), (0 : Int32), (0 : Int32))) (fun m => ((cw (fun m => cm (vP (vs i)) f (-1) m) m).1, nI (cw (fun m => cm (vP (vs i)) f (-1) m) m).2, nI m)) (cw (fun m => cm (vP (vs i)) f (-1) m) 61).1 61 rfl (fun m hm => ?_) ?_]
      · rfl
      · simp only [qu3]
        rw [if_pos (by decide)]
      · have hb := cw_b hcb m
        have hb2 : cm (vP (vs i)) f (-1) m ≤ 20 := hcb m
        have hin : qlp (fun q => qu2 q fun x6 x7 => (qrI M1 104 5 (nI i)).bind fun v13 => if (v13 : Int32) ≤ (x7 : Int32) then (some (.inr x6) : Option ((Int32 × Int32) ⊕ Int32)) else (qrI M1 116 20 x7).bind fun v14 => qlt ((if (v14 : Int32) = (nI m : Int32) then true else false) : Bool) fun z15 => qlt (x6 + (b2i z15) : Int32) fun x16 => qlt (x7 + 1 : Int32) fun x17 => some (.inl (x16, x17))) ((0 : Int32), (0 : Int32)) = some (nI (cm (vP (vs i)) f (-1) m)) := by
          refine qlp_for0 (fun o => (nI (cm o f (-1) m), nI o)) _ (vP (vs i)) rfl (fun o ho => ?_) ?_
          · have hfo := hM1.2.2.2.2.2 o (by omega)
            simp only [qu2, qlt]
            rw [qrI_nI hi5 (by omega), hM1.1.2.2.2.1]
            simp only [Option.bind_some]
            rw [if_neg (nI_ge ho (by omega)), qrI_nI (show o < 20 by omega) (by omega), hfo.1, nI_iI m]
            simp only [Option.bind_some, iI_eq (show -2147483648 ≤ f o by omega) (by omega) (show -2147483648 ≤ (m : Int) by omega) (by omega)]
            have e : cm (o + 1) f (-1) m = cm o f (-1) m + if f o = m then 1 else 0 := by
              unfold cm
              rw [cnt_S]
              congr 1
              by_cases hq : f o = m
              · rw [if_pos (by simp only [decide_eq_true_eq]; omega), if_pos hq]
              · rw [if_neg (by simp only [decide_eq_true_eq]; omega), if_neg hq]
            rw [e, nI_1]
            by_cases hq : f o = m
            · rw [if_pos hq, if_pos hq]
              show some (Sum.inl (nI _ + nI 1, _)) = _
              rw [nI_add]
            · rw [if_neg hq, if_neg hq]
              show some (Sum.inl (nI _ + nI 0, _)) = _
              rw [nI_add]
          · simp only [qu2]
            rw [qrI_nI hi5 (by omega), hM1.1.2.2.2.1]
            simp only [Option.bind_some]
            rw [if_pos (nI_le (Nat.le_refl _) (by omega))]
        simp only [qu3]
        rw [if_neg (show ¬ (60 : Int32) < nI m from nI_nlt (a := 60) (by omega) (by omega)), if_neg (nI_m1 (by omega)), hin]
        simp only [Option.bind_some, qlt, cw, jmaxI]
        rw [nI_1]
        by_cases hc : cm (vP (vs i)) f (-1) m ≤ (cw (fun m => cm (vP (vs i)) f (-1) m) m).2
        · rw [if_pos (nI_le hc (by omega)), if_pos hc, if_neg (nI_nlt hc (by omega))]
        · rw [if_neg (nI_ge (by omega) (by omega)), if_neg hc, if_pos (nI_lt (by omega) (by omega))]
    · exact Or.inr ⟨i, t, f, hi, hi5, tdC_rk hC g3, tdM_C hM (sRk_C g3)⟩
/-! free -/
def fF (P : Nat → Bool) : Nat → Int
  | 0 => -1
  | m + 1 => if fF P m = -1 then (if P m = true then (m : Int) else -1) else fF P m
theorem fF_stay {P : Nat → Bool} {m k : Nat} (h : fF P m ≠ -1) (hk : m ≤ k) : fF P k = fF P m := by
  induction k with
  | zero => rw [show m = 0 by omega]
  | succ k ih =>
    by_cases hm : m = k + 1
    · rw [hm]
    · simp only [fF]
      rw [ih (by omega), if_neg h]
theorem fF_b (P : Nat → Bool) (m : Nat) : -1 ≤ fF P m ∧ fF P m < m := by
  induction m with
  | zero => exact ⟨Int.le_refl _, by simp [fF]⟩
  | succ m ih =>
    simp only [fF]
    split
    · split <;> omega
    · omega
def fwP (v : vT) (t : Nat) (f : Nat → Int) (p m : Nat) : Bool := decide (vTi v t 0 ≤ rk (vP v) f p m ∧ rk (vP v) f p m < vTi v t 0 + vTi v t 1)
theorem p_free {M : qM} {n : Nat} {vs : Nat → vT} (h : rTd n vs M) (a : Int32) : bth (rTd n vs) sTC sTM (jTc_free a) (jMd_free a) M := by
  rcases h with h | ⟨i, t, f, hi, hi5, hC, hM⟩
  · refine ⟨-1, M, M, ?_, ?_, Or.inl h, fr_rf _ _, fr_rf _ _⟩
    · unfold jTc_free; rw [isToldC_N h.1]; rfl
    · unfold jMd_free; rw [isToldM_N h.2]; rfl
  · have h20 := hC.1.1.2.2.1
    have hR : rTd n vs M := Or.inr ⟨i, t, f, hi, hi5, hC, hM⟩
    cases hz : jTc_isOf a (nI (vP (vs i))) with
    | false =>
      refine ⟨-1, M, M, ?_, ?_, hR, fr_rf _ _, fr_rf _ _⟩
      · unfold jTc_free; rw [isToldC_eq hC, hz]; rfl
      · unfold jMd_free; rw [isToldM_eq hM, hz]; rfl
    | true =>
      obtain ⟨p, hp, rfl⟩ := isOf_of (by omega) hz
      have hrb : ∀ m : Nat, rk (vP (vs i)) f p m ≤ 21 := fun m => Nat.le_trans rk_le (by omega)
      refine bth_mk (P := fun M1 => tdC M1 (71 + 4 * i) (vs i) t f ∧ tdM M1 i (vs i) t f) (iI (fF (fwP (vs i) t f p) 61)) ?_ ?_
      · unfold jTc_free
        rw [isToldC_eq hC, hz]
        refine wp_bd (wp_some ?_)
        refine wp_bd ?_
        refine wp_in (by decide) ?_
        refine wp_bd ?_
        unfold jTo_firstWithPlace
        refine wp_bd ((rankB_p hC hp).mono ?_)
        rintro N ⟨g1, g2, g3⟩
        refine wp_bd (wp_for (fun m x => x = nI m ∧ fF (fwP (vs i) t f p) m = -1) 61 ⟨rfl, rfl⟩ ?_ ?_)
        · rintro m x hm ⟨rfl, hm1⟩
          refine wp_in (nI_nlt (a := 60) (by omega) (by omega)) ?_
          refine wp_be (qrI_nI hm (by omega)) ?_
          rw [g1 m hm]
          refine wp_be (hasBy_eq g2 (by have := hrb m; omega)) ?_
          refine wp_if (fun hc => ?_) (fun hc => ?_)
          · rw [b2i_0] at hc
            refine wp_some ⟨nI_1 m, ?_⟩
            simp only [fF]
            rw [if_pos hm1, if_neg (by unfold fwP; rw [hc]; decide)]
          · rw [b2i_0, Bool.not_eq_false] at hc
            refine wp_some (wp_se (wp_some (wp_some (wp_some ⟨?_, ⟨g2, tdM_C hM (sRk_C g3)⟩, sRk_C g3⟩))))
            have e : fF (fwP (vs i) t f p) (m + 1) = m := by
              simp only [fF]
              rw [if_pos hm1, if_pos (by unfold fwP; exact hc)]
            rw [fF_stay (m := m + 1) (by rw [e]; omega) (by omega), e]
            exact nI_iI m
        · rintro x ⟨rfl, hm1⟩
          refine wp_ip (by decide) (wp_some (wp_se ?_))
          refine wp_some (wp_some (wp_some ⟨?_, ⟨g2, tdM_C hM (sRk_C g3)⟩, sRk_C g3⟩))
          rw [hm1]
          rfl
      · rintro M1 ⟨hC1, hM1⟩ g
        have k1 := hM1.2.2.2.2.2 p (by omega)
        have hT := hC.1.1.2.2.2.1 t hC.2.2.2.2.1
        unfold jMd_free
        rw [isToldM_eq hM1, hz]
        refine wp_bd (wp_some ?_)
        refine wp_in (by decide) ?_
        refine wp_be (qrI_nI (by omega) (by omega)) ?_
        rw [hM1.2.2.1, hM1.2.2.2.1]
        refine wp_be (thingAt_eq (w := 0) hM1.1 hi5 hM1.2.2.2.2.1 (by decide)) ?_
        refine wp_bd ?_
        have fin : ∀ (m : Nat) (y : Int) (N : qM), tdM N i (vs i) t (upI f p y) → fr sTM M1 N → fF (fwP (vs i) t f p) 61 = fF (fwP (vs i) t f p) m → wp ((qwI N 116 20 (nI p) (M1.1 116 p)).bind fun M10 => some (iI (fF (fwP (vs i) t f p) m), M10)) (fun r => r.1 = iI (fF (fwP (vs i) t f p) 61) ∧ rTd n vs r.2 ∧ fr sTM M1 r.2) := by
          intro m y N c1 c2 c3
          refine wp_bd (wp_wI rfl (show p < 20 by omega) (by omega) ?_)
          rw [k1.1]
          have m4 := tdM_up (p := p) c1 k1.2.1 k1.2.2
          rw [upI_up, upI_id] at m4
          have ff : fr sTM M1 (qI N 116 p (iI (f p))) := c2.tr (fr_I (by simp [sTM]))
          exact wp_some ⟨by rw [c3], rTd_mk hi hi5 hC1 m4 ff, ff⟩
        refine wp_for (fun m s => s.1 = iI (fF (fwP (vs i) t f p) m) ∧ s.2.1 = nI m ∧ (∃ y, tdM s.2.2 i (vs i) t (upI f p y)) ∧ fr sTM M1 s.2.2) 61 ⟨rfl, rfl, ⟨f p, by rw [upI_id]; exact hM1⟩, fr_rf _ _⟩ ?_ ?_
        · rintro m ⟨x, y, N⟩ hm ⟨e1, e2, ⟨w, e3⟩, e4⟩
          have e1 : x = iI (fF (fwP (vs i) t f p) m) := e1
          have e2 : y = nI m := e2
          subst e1 e2
          have e3 : tdM N i (vs i) t (upI f p w) := e3
          have hb := fF_b (fwP (vs i) t f p) m
          have hrm := hrb m
          simp only [qu3]
          refine wp_in (nI_nlt (a := 60) (by omega) (by omega)) ?_
          refine wp_if (fun hc => ?_) (fun hc => ?_) <;> rw [show (-1 : Int32) = iI (-1) from rfl, iI_eq (by omega) (by omega) (by omega) (by omega)] at hc
          · refine wp_bd (wp_wI rfl (show p < 20 by omega) (by omega) ?_)
            have m2 : tdM (qI N 116 p (nI m)) i (vs i) t (upI f p m) := by
              have := tdM_up (p := p) (x := (m : Int)) e3 (by omega) (by omega)
              rw [upI_up] at this
              rw [nI_iI]
              exact this
            refine wp_be (toldRank_eq m2 hp) ?_
            rw [m2.2.2.1, m2.2.2.2.1]
            refine wp_be (thingAt_eq (w := 1) m2.1 hi5 m2.2.2.2.2.1 (by decide)) ?_
            simp only [qlt]
            refine wp_some ⟨?_, nI_1 m, ⟨_, m2⟩, e4.tr (fr_I (by simp [sTM]))⟩
            show (if b2i (jMd_in (if upI f p m p < 0 then -1 else nI (rk (vP (vs i)) (upI f p m) p (upI f p m p))) (nI (vTi (vs i) t 0)) (nI (vTi (vs i) t 0) + nI (vTi (vs i) t 1) - 1)) = 0 then -1 else nI m) = _
            rw [rk_up, show upI f p m p = (m : Int) by simp [upI], if_neg (show ¬ (m : Int) < 0 by omega), in_has (by omega) (by omega) (by omega) (by omega)]
            simp only [fF, b2i_0]
            rw [if_pos hc]
            show (if fwP (vs i) t f p m = false then (-1 : Int32) else nI m) = _
            cases fwP (vs i) t f p m with
            | false => rfl
            | true => exact nI_iI m
          · exact wp_some (fin m w N e3 e4 (fF_stay hc (by omega)))
        · rintro ⟨x, y, N⟩ ⟨e1, e2, ⟨w, e3⟩, e4⟩
          have e1 : x = iI (fF (fwP (vs i) t f p) 61) := e1
          have e2 : y = nI 61 := e2
          subst e1 e2
          simp only [qu3]
          refine wp_ip (by decide) (wp_some ?_)
          exact fin 61 w N e3 e4 rfl
