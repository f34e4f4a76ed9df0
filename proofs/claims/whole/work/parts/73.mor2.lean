/-! ===== the reference's morning ===== -/
def mmS (M : qM) (i : Nat) (v : vT) (t lk nth : Nat) (fo st : Int32) : Prop :=
  rVM M i v ∧ i < 5 ∧ t < vTn v ∧ (1 ≤ nth ∧ nth ≤ 9) ∧ lk < 2 ∧ M.1 91 27 = nI i ∧ M.1 91 28 = nI t ∧ M.1 91 29 = nI lk ∧ M.1 91 32 = nI nth ∧ M.1 91 36 = fo ∧ M.1 91 37 = st
def mmD (M : qM) (v : vT) (σ : mS) : Prop :=
  M.2.1 91 35 = sD σ ∧ M.1 91 30 = nI (sMi σ) ∧ M.1 91 31 = nI (sCa σ) ∧ M.1 91 34 = b2i (sOv σ) ∧ (∀ p, p < 20 → M.1 108 p = iI (sW σ p) ∧ M.1 109 p = iI (cin v σ p) ∧ M.1 110 p = iI (sR σ p)) ∧ mInv v σ
def sMm (b j : Nat) : Prop := b = 91 ∧ (j = 30 ∨ j = 31 ∨ j = 34 ∨ j = 35) ∨ b = 108 ∨ b = 109 ∨ b = 110 ∨ b = 100 ∨ b = 101
theorem mmS_fr {M M1 : qM} {i : Nat} {v : vT} {t lk nth : Nat} {fo st : Int32} (h : mmS M i v t lk nth fo st) (g : fr sMm M M1) : mmS M1 i v t lk nth fo st := by
  obtain ⟨a1, a2, a3, a4, a5, a6, a7, a8, a9, b1, b2⟩ := h
  refine ⟨rVM_fr a1 g (fun b j h1 h2 => by unfold sMm; omega), a2, a3, a4, a5, ?_, ?_, ?_, ?_, ?_, ?_⟩
  · rw [(g 91 27 (by simp [sMm])).1]; exact a6
  · rw [(g 91 28 (by simp [sMm])).1]; exact a7
  · rw [(g 91 29 (by simp [sMm])).1]; exact a8
  · rw [(g 91 32 (by simp [sMm])).1]; exact a9
  · rw [(g 91 36 (by simp [sMm])).1]; exact b1
  · rw [(g 91 37 (by simp [sMm])).1]; exact b2
theorem cin_m1 {v : vT} {σ : mS} (h : mInv v σ) {p : Nat} (hp : p < 20) : cin v σ p = -1 ↔ sR σ p = -1 := by
  have := (h.1 p hp).2.2
  unfold cin
  by_cases hr : sR σ p = -1
  · simp [hr]
  · rw [if_neg hr]
    omega
theorem cin_b {v : vT} {σ : mS} (h : mInv v σ) (hv : vOK v) {p : Nat} (hp : p < vP v) : -1 ≤ cin v σ p ∧ cin v σ p ≤ 70 := by
  have h20 := hv.2.2.1
  have h1 := h.1 p (by omega)
  have h2 := vdi_le hv hp
  have h3 := h.2.2.2.2
  unfold cin
  split <;> omega
theorem many_eq {M : qM} {i : Nat} {v : vT} {t lk nth : Nat} {fo st : Int32} (h : mmS M i v t lk nth fo st) : jMd_many M = some (nI (vP v)) := by
  unfold jMd_many
  rw [h.2.2.2.2.2.1, qrI_nI h.2.1 (by omega), h.1.2.2.2.1]
  rfl
theorem places_eq {M : qM} {i : Nat} {v : vT} {t lk nth : Nat} {fo st : Int32} (h : mmS M i v t lk nth fo st) : jMd_places M = some (nI (vTi v t 1)) := by
  unfold jMd_places
  rw [h.2.2.2.2.2.1, h.2.2.2.2.2.2.1, show jMd_thingAt (nI i) (nI t) 1 M = some (nI (vTi v t 1)) from thingAt_eq (w := 1) h.1 h.2.1 h.2.2.1 (by decide)]
  rfl
theorem had_eq {M : qM} {i : Nat} {v : vT} {t lk nth : Nat} {fo st : Int32} {σ : mS} (h : mmS M i v t lk nth fo st) (hD : mmD M v σ) : jMd_had M = some (nI (hadF (vTi v t 1) nth (sCa σ))) := by
  have hv := h.1.1
  have h20 := hv.2.2.1
  have hca := sCa_le hD.2.2.2.2.2
  have hpl := (hv.2.2.2.1 t h.2.2.1).2.1
  have hn := h.2.2.2.1
  unfold jMd_had
  rw [places_eq h, hD.2.2.1, h.2.2.2.2.2.2.2.2.1]
  simp only [Option.bind_some]
  congr 1
  unfold jmaxI jminI hadF
  rw [nI_iI, nI_iI, nI_iI, nI_iI, iI_sub, show (1 : Int32) = iI 1 from rfl, iI_add, show (0 : Int32) = iI 0 from rfl]
  simp only [iI_lt (show -2147483648 ≤ (sCa σ : Int) - nth + 1 by omega) (by omega) (show -2147483648 ≤ (vTi v t 1 : Int) by omega) (by omega)]
  by_cases c1 : (sCa σ : Int) - nth + 1 < vTi v t 1
  · rw [if_pos c1]
    by_cases c2 : (0 : Int) < (sCa σ : Int) - nth + 1
    · rw [if_pos (by rw [iI_lt (by omega) (by omega) (by omega) (by omega)]; exact c2)]
      exact iI_congr (by omega)
    · rw [if_neg (by rw [iI_lt (by omega) (by omega) (by omega) (by omega)]; exact c2)]
      exact iI_congr (by omega)
  · rw [if_neg c1, if_pos (by rw [iI_lt (by omega) (by omega) (by omega) (by omega)]; omega)]
    exact iI_congr (by omega)
theorem isWait_eq {M : qM} {v : vT} {σ : mS} (h : mmD M v σ) {p : Nat} (hp : p < 20) : jMd_isWaiting (nI p) M = some (decide (sW σ p = -1)) := by
  have h1 := h.2.2.2.2.1 p hp
  have h2 := h.2.2.2.2.2.1 p hp
  have h3 := h.2.2.2.2.2.2.2.2.2
  unfold jMd_isWaiting
  rw [qrI_nI hp (by omega), h1.1]
  simp only [Option.bind_some, qlt, show (-1 : Int32) = iI (-1) from rfl, iI_eq (show -2147483648 ≤ sW σ p by omega) (by omega) (show -2147483648 ≤ (-1 : Int) by omega) (by omega)]
  by_cases c : sW σ p = -1
  · rw [if_pos c, decide_eq_true c]
  · rw [if_neg c, decide_eq_false c]
theorem isOnWay_eq {M : qM} {v : vT} {σ : mS} (h : mmD M v σ) (hv : vOK v) {p : Nat} (hp : p < vP v) : jMd_isOnWay (nI p) M = some (decide (sW σ p ≠ -1 ∧ sR σ p = -1)) := by
  have h20 := hv.2.2.1
  have h1 := h.2.2.2.2.1 p (by omega)
  have h2 := h.2.2.2.2.2.1 p (by omega)
  have h3 := h.2.2.2.2.2.2.2.2.2
  have h4 := cin_m1 (v := v) h.2.2.2.2.2 (show p < 20 by omega)
  have h5 := cin_b h.2.2.2.2.2 hv hp
  unfold jMd_isOnWay
  rw [qrI_nI (by omega) (by omega), qrI_nI (by omega) (by omega), h1.1, h1.2.1]
  simp only [Option.bind_some, show (-1 : Int32) = iI (-1) from rfl, iI_eq (show -2147483648 ≤ sW σ p by omega) (by omega) (show -2147483648 ≤ (-1 : Int) by omega) (by omega), iI_eq (show -2147483648 ≤ cin v σ p by omega) (by omega) (show -2147483648 ≤ (-1 : Int) by omega) (by omega), h4]
  by_cases c : sW σ p = -1
  · rw [if_pos c, decide_eq_false (fun e => e.1 c)]; rfl
  · rw [if_neg c]
    by_cases d : sR σ p = -1
    · rw [if_pos d, decide_eq_true ⟨c, d⟩]; rfl
    · rw [if_neg d, decide_eq_false (fun e => d e.2)]; rfl
theorem onWay_eq {M : qM} {i : Nat} {v : vT} {t lk nth : Nat} {fo st : Int32} {σ : mS} (h : mmS M i v t lk nth fo st) (hD : mmD M v σ) : jMd_onWay M = some (nI (onw v σ)) := by
  have hv := h.1.1
  have h20 := hv.2.2.1
  unfold jMd_onWay
  rw [qlp_for0 (s0 := ((0 : Int32), (0 : Int32))) (fun o => (nI (cnt (fun p => decide (sW σ p ≠ -1 ∧ sR σ p = -1)) o), nI o)) (nI (onw v σ)) (vP v) rfl (fun o ho => ?_) ?_]
  · rfl
  · simp only [qu2, many_eq h, Option.bind_some]
    rw [if_pos (nI_le (Nat.le_refl _) (by omega))]
    rfl
  · simp only [qu2, qlt, many_eq h, Option.bind_some]
    rw [if_neg (nI_ge ho (by omega)), isOnWay_eq hD hv ho, cnt_S, nI_1]
    simp only [Option.bind_some, b2i_0]
    cases hd : decide (sW σ o ≠ -1 ∧ sR σ o = -1) with
    | false =>
      rw [if_pos rfl, if_neg (by decide)]
      show some (Sum.inl (nI _ + nI 0, _)) = _
      rw [nI_add]
    | true =>
      rw [if_neg (by decide), if_pos rfl]
      show some (Sum.inl (nI _ + nI 1, _)) = _
      rw [nI_add]
theorem waiting_eq {M : qM} {i : Nat} {v : vT} {t lk nth : Nat} {fo st : Int32} {σ : mS} (h : mmS M i v t lk nth fo st) (hD : mmD M v σ) {a b : Int} (ha : -1 ≤ a ∧ a < 20) (hb : -1 ≤ b ∧ b < 20) : jMd_waiting (iI a) (iI b) M = some (nI (cnt (fun q => decide ((q : Int) ≠ a ∧ sW σ q = -1 ∧ (b = -1 ∨ (vof v q : Int) = b))) (vP v))) := by
  have hv := h.1.1
  have h20 := hv.2.2.1
  unfold jMd_waiting
  rw [qlp_for0 (s0 := ((0 : Int32), (0 : Int32))) (fun o => (nI (cnt (fun q => decide ((q : Int) ≠ a ∧ sW σ q = -1 ∧ (b = -1 ∨ (vof v q : Int) = b))) o), nI o)) _ (vP v) rfl (fun o ho => ?_) ?_]
  · rfl
  · simp only [qu2, many_eq h, Option.bind_some]
    rw [if_pos (nI_le (Nat.le_refl _) (by omega))]
  · have hvo := (vof_spec ho).1
    have hs6 := hv.2.1
    have y1 : ∀ x : Nat, nI x + b2i true = nI (x + 1) := fun x => nI_add x 1
    have y0 : ∀ x : Nat, nI x + b2i false = nI (x + 0) := fun x => nI_add x 0
    simp only [qu2, qlt, many_eq h, Option.bind_some]
    rw [if_neg (nI_ge ho (by omega)), isWait_eq hD (by omega), h.2.2.2.2.2.1, sortOf_eq h.1 h.2.1 ho, cnt_S, nI_1]
    simp only [Option.bind_some, b2i_0, decide_eq_false_iff_not, decide_eq_true_eq]
    rw [nI_iI o, nI_iI (vof v o)]
    simp only [show (-1 : Int32) = iI (-1) from rfl, iI_eq (show -2147483648 ≤ (o : Int) by omega) (by omega) (show -2147483648 ≤ a by omega) (by omega), iI_eq (show -2147483648 ≤ b by omega) (by omega) (show -2147483648 ≤ (-1 : Int) by omega) (by omega), iI_eq (show -2147483648 ≤ (vof v o : Int) by omega) (by omega) (show -2147483648 ≤ b by omega) (by omega)]
    by_cases c1 : (o : Int) = a
    · rw [if_pos c1, if_neg (show ¬ ((o : Int) ≠ a ∧ sW σ o = -1 ∧ (b = -1 ∨ (vof v o : Int) = b)) from fun e => e.1 c1)]
      simp [y0]
    · rw [if_neg c1]
      by_cases c2 : sW σ o = -1
      · rw [if_neg (fun e => e c2)]
        by_cases c3 : b = -1
        · rw [if_pos c3, if_pos (show ((o : Int) ≠ a ∧ sW σ o = -1 ∧ (b = -1 ∨ (vof v o : Int) = b)) from ⟨c1, c2, Or.inl c3⟩)]
          simp [y1]
        · rw [if_neg c3]
          by_cases c4 : (vof v o : Int) = b
          · rw [if_pos c4, if_pos (show ((o : Int) ≠ a ∧ sW σ o = -1 ∧ (b = -1 ∨ (vof v o : Int) = b)) from ⟨c1, c2, Or.inr c4⟩)]
            simp [y1]
          · rw [if_neg c4, if_neg (show ¬ ((o : Int) ≠ a ∧ sW σ o = -1 ∧ (b = -1 ∨ (vof v o : Int) = b)) from fun e => e.2.2.elim c3 c4)]
            simp [y0]
      · rw [if_pos c2, if_neg (show ¬ ((o : Int) ≠ a ∧ sW σ o = -1 ∧ (b = -1 ∨ (vof v o : Int) = b)) from fun e => c2 e.2.1)]
        simp [y0]
theorem wait_all {M : qM} {i : Nat} {v : vT} {t lk nth : Nat} {fo st : Int32} {σ : mS} (h : mmS M i v t lk nth fo st) (hD : mmD M v σ) : jMd_waiting (-1) (-1) M = some (nI (wtn v σ)) := by
  rw [show (-1 : Int32) = iI (-1) from rfl, waiting_eq h hD ⟨by omega, by omega⟩ ⟨by omega, by omega⟩]
  congr 2
  unfold wtn
  refine cnt_congr (fun o ho => ?_)
  congr 1
  simp
theorem comes_wp {M : qM} {v : vT} {σ : mS} {p : Nat} (hD : mmD M v σ) (hv : vOK v) (hp : p < vP v) (hr : sR σ p = -1) (hw : 0 ≤ sW σ p) (hd : sW σ p + vdi v p = sMi σ) : wp (jMd_comes (nI p) M) (fun M' => mmD M' v (rcv σ p) ∧ fr sMm M M') := by
  have h20 := hv.2.2.1
  obtain ⟨d1, d2, d3, d4, d5, d6⟩ := hD
  have hinv := rcv_inv d6 hv hp hr hw
  unfold jMd_comes
  refine wp_lt ?_
  rintro _ rfl
  refine wp_bd (wp_wI rfl (show p < 20 by omega) (by omega) ?_)
  refine wp_bd (wp_wI rfl (show p < 20 by omega) (by omega) ?_)
  refine wp_some ⟨⟨d1, ?_, ?_, ?_, fun q hq => ?_, hinv⟩, ((fr_I (by simp [sMm])).tr (fr_I (by simp [sMm]))).tr (fr_I (by simp [sMm]))⟩
  · rw [qI_1, if_neg (by omega), qI_1, if_neg (by omega), qI_1, if_neg (by omega)]; exact d2
  · rw [qI_1, if_neg (by omega), qI_1, if_neg (by omega), qI_1, if_pos ⟨rfl, rfl⟩, d3, nI_1]; rfl
  · rw [qI_1, if_neg (by omega), qI_1, if_neg (by omega), qI_1, if_neg (by omega)]; exact d4
  · have dq := d5 q hq
    refine ⟨?_, ?_, ?_⟩
    · rw [qI_1, if_neg (by omega), qI_1, if_neg (by omega), qI_1, if_neg (by omega)]; exact dq.1
    · have ec : cin v (rcv σ p) q = if q = p then (sMi σ : Int) else cin v σ q := by
        unfold cin
        show (if upI (sR σ) p _ q = -1 then _ else sW σ q + vdi v q) = _
        unfold upI
        by_cases hqp : q = p
        · subst hqp
          rw [if_pos rfl, if_pos rfl, if_neg (by omega)]
          exact hd
        · rw [if_neg hqp, if_neg hqp]
      rw [qI_1, if_neg (by omega), qI_1, ec]
      by_cases hqp : q = p
      · rw [if_pos ⟨rfl, hqp⟩, if_pos hqp, qI_1, if_neg (by omega), d2, nI_iI]
      · rw [if_neg (fun e => hqp e.2), if_neg hqp, qI_1, if_neg (by omega)]
        exact dq.2.1
    · show _ = iI (upI (sR σ) p ((sCa σ : Int) + 1) q)
      unfold upI
      rw [qI_1]
      by_cases hqp : q = p
      · rw [if_pos ⟨rfl, hqp⟩, if_pos hqp, qI_1, if_neg (by omega), qI_1, if_pos ⟨rfl, rfl⟩, d3, nI_1, nI_iI]
        exact iI_congr (by omega)
      · rw [if_neg (fun e => hqp e.2), if_neg hqp, qI_1, if_neg (by omega), qI_1, if_neg (by omega)]
        exact dq.2.2
/-! ===== those on the way arrive ===== -/
noncomputable def arr1 (v : vT) (σ : mS) (p : Nat) : mS := if sW σ p ≠ -1 ∧ sR σ p = -1 ∧ sW σ p + vdi v p = sMi σ then rcv σ p else σ
noncomputable def arrN (v : vT) (σ : mS) : Nat → mS
  | 0 => σ
  | p + 1 => arr1 v (arrN v σ p) p
theorem arr1_s (v : vT) (σ : mS) (p : Nat) : sW (arr1 v σ p) = sW σ ∧ sMi (arr1 v σ p) = sMi σ ∧ sD (arr1 v σ p) = sD σ ∧ sOv (arr1 v σ p) = sOv σ := by
  unfold arr1
  split
  · exact ⟨rfl, rfl, rfl, rfl⟩
  · exact ⟨rfl, rfl, rfl, rfl⟩
theorem arrN_s (v : vT) (σ : mS) (p : Nat) : sW (arrN v σ p) = sW σ ∧ sMi (arrN v σ p) = sMi σ ∧ sD (arrN v σ p) = sD σ ∧ sOv (arrN v σ p) = sOv σ := by
  induction p with
  | zero => exact ⟨rfl, rfl, rfl, rfl⟩
  | succ p ih =>
    have := arr1_s v (arrN v σ p) p
    simp only [arrN]
    rw [this.1, this.2.1, this.2.2.1, this.2.2.2]
    exact ih
theorem arrN_id {v : vT} {σ : mS} (h : onw v σ = 0) : ∀ p, p ≤ vP v → arrN v σ p = σ := by
  intro p
  induction p with
  | zero => intro _; rfl
  | succ p ih =>
    intro hp
    simp only [arrN]
    rw [ih (by omega)]
    unfold arr1
    rw [if_neg]
    intro hc
    have h1 : ∀ n, cnt (fun p => decide (sW σ p ≠ -1 ∧ sR σ p = -1)) n = 0 → ∀ i, i < n → ¬ (sW σ i ≠ -1 ∧ sR σ i = -1) := by
      intro n
      induction n with
      | zero => intro _ i hi; omega
      | succ n ihn =>
        intro hz i hi
        rw [cnt_S] at hz
        by_cases hin : i = n
        · subst hin
          intro hh
          rw [if_pos (decide_eq_true hh)] at hz
          omega
        · exact ihn (by omega) i (by omega)
    exact h1 (vP v) h p (by omega) ⟨hc.1, hc.2.1⟩
theorem arrive_wp {M : qM} {k kv : Nat} {v : vT} {t lk nth : Nat} {se sr : Int32} {σ : mS} (hk : mok k) (hS : moS M k kv v t lk nth se sr) (hD : moD M k v t nth σ) :
    wp (jMo_arrive k M) (fun M' => moD M' k v t nth (arrN v σ (vP v)) ∧ fr (sMo k) M M') := by
  have hv := hS.1.1
  have h20 := hv.2.2.1
  have hin := hD.2.2.2.2.2.2.2.2.2.2
  have h3 := w3 hin hv
  have hu : jMo_underway k M = some (nI (onw v σ)) := by
    unfold jMo_underway
    rw [hS.2.2.2.2.2.2.1]
    simp only [Option.bind_some]
    rw [hS.1.2.2.2.1, hD.2.2.2.1, hD.2.2.1, nI_subE (by omega), nI_subE (by omega)]
    congr 2
    omega
  unfold jMo_arrive
  refine wp_be hu ?_
  refine wp_if (fun hz => ?_) (fun hz => ?_)
  · have hz : onw v σ = 0 := (nI_eq (b := 0) (by omega) (by omega)).mp hz
    refine wp_some ⟨?_, fr_rf _ _⟩
    rw [arrN_id hz _ (Nat.le_refl _)]
    exact hD
  · refine wp_bd (wp_for (fun q s => s.1 = nI q ∧ moD s.2 k v t nth (arrN v σ q) ∧ fr (sMo k) M s.2) (vP v) ⟨rfl, hD, fr_rf _ _⟩ ?_ ?_)
    · rintro q ⟨x, N⟩ hq ⟨e1, e2, e3⟩
      have e1 : x = nI q := e1
      subst e1
      have e2 : moD N k v t nth (arrN v σ q) := e2
      have e3 : fr (sMo k) M N := e3
      have hSN := moS_fr hk hS e3
      have hiN := e2.2.2.2.2.2.2.2.2.2.2
      have hq20 := e2.2.2.2.2.2.2.2.2.1 q (by omega)
      have hi1 := hiN.1 q (by omega)
      have hca := sCa_le hiN
      have hmi := hiN.2.2.2.2
      have hvd := vdi_le hv hq
      simp only [qu2]
      refine wp_be hSN.2.2.2.2.2.2.1 ?_
      rw [hSN.1.2.2.2.1]
      refine wp_in (nI_ge hq (by omega)) ?_
      have hst : jMo_stateOf k (nI q) N = some (if sW (arrN v σ q) q = -1 then 0 else if sR (arrN v σ q) q = -1 then 1 else 2) := by
        unfold jMo_stateOf
        rw [qrI_nI (by omega) (by omega), qrI_nI (by omega) (by omega), hq20.1, hq20.2]
        simp only [Option.bind_some, show (-1 : Int32) = iI (-1) from rfl, iI_eq (show -2147483648 ≤ sW (arrN v σ q) q by omega) (by omega) (show -2147483648 ≤ (-1 : Int) by omega) (by omega), iI_eq (show -2147483648 ≤ sR (arrN v σ q) q by omega) (by omega) (show -2147483648 ≤ (-1 : Int) by omega) (by omega)]
        split
        · rfl
        · split <;> rfl
      refine wp_be hst ?_
      simp only [qlt]
      refine wp_bd ?_
      by_cases c1 : sW (arrN v σ q) q = -1
      · rw [if_pos c1]
        refine wp_ip (by decide) (wp_some (wp_some ⟨nI_1 q, ?_, e3⟩))
        show moD N k v t nth (arr1 v (arrN v σ q) q)
        unfold arr1
        rw [if_neg (fun e => e.1 c1)]
        exact e2
      · rw [if_neg c1]
        by_cases c2 : sR (arrN v σ q) q = -1
        · rw [if_pos c2]
          refine wp_in (by decide) ?_
          refine wp_be (qrI_nI (by omega) (by omega)) ?_
          refine wp_be hSN.2.2.2.2.2.2.1 ?_
          refine wp_be (ofPerson_eq (w := 1) hSN.1 hq (by decide)) ?_
          rw [hq20.1, e2.2.1, nI_iI, iI_add, nI_iI]
          refine wp_if (fun c3 => ?_) (fun c3 => ?_) <;> rw [iI_eq (by unfold vdi at hvd; omega) (by unfold vdi at hvd; omega) (by omega) (by omega)] at c3
          · refine wp_bd ((receive_wp hk hSN e2 hq c2 (by omega) c3).mono ?_)
            rintro N1 ⟨g1, g2⟩
            refine wp_some (wp_some ⟨nI_1 q, ?_, e3.tr g2⟩)
            show moD N1 k v t nth (arr1 v (arrN v σ q) q)
            unfold arr1
            rw [if_pos ⟨c1, c2, c3⟩]
            exact g1
          · refine wp_some (wp_some ⟨nI_1 q, ?_, e3⟩)
            show moD N k v t nth (arr1 v (arrN v σ q) q)
            unfold arr1
            rw [if_neg (fun e => c3 e.2.2)]
            exact e2
        · rw [if_neg c2]
          refine wp_ip (by decide) (wp_some (wp_some ⟨nI_1 q, ?_, e3⟩))
          show moD N k v t nth (arr1 v (arrN v σ q) q)
          unfold arr1
          rw [if_neg (fun e => c2 e.2.1)]
          exact e2
    · rintro ⟨x, N⟩ ⟨e1, e2, e3⟩
      have e1 : x = nI (vP v) := e1
      subst e1
      have e3 : fr (sMo k) M N := e3
      have hSN := moS_fr hk hS e3
      simp only [qu2]
      refine wp_be hSN.2.2.2.2.2.2.1 ?_
      rw [hSN.1.2.2.2.1]
      exact wp_ip (nI_le (Nat.le_refl _) (by omega)) (wp_some (wp_some ⟨e2, e3⟩))
