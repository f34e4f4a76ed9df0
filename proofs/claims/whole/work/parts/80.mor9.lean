/-! ===== what is asked of a morning ===== -/
def hsS (v : vT) (t nth : Nat) (σ : mS) (p : Nat) : Bool := decide ((nth : Int) ≤ sR σ p ∧ sR σ p < nth + vTi v t 1)
def wdS (σ : mS) (p : Nat) : Int := if sW σ p = -1 then (sMi σ : Int) else sW σ p
def gnS (v : vT) (t nth : Nat) (σ : mS) (p : Nat) : Int := (if hsS v t nth σ p = true then ((vTi v t 2 - vTi v t 3 * (cin v σ p).toNat : Nat) : Int) else 0) - (vSi v (vof v p) 2 : Int) * wdS σ p
theorem hasC_s {M : qM} {k kv : Nat} {v : vT} {t lk nth p : Nat} {se sr : Int32} {σ : mS} (hS : moS M k kv v t lk nth se sr) (hD : moD M k v t nth σ) (hp : p < vP v) : jMo_has k (nI p) M = some (hsS v t nth σ p) := by
  have hv := hS.1.1
  have h20 := hv.2.2.1
  have hpl := (hv.2.2.2.1 t hS.2.2.2.1).2.1
  have hn := hS.2.2.2.2.1
  have hin := hD.2.2.2.2.2.2.2.2.2.2
  have h1 := hin.1 p (by omega)
  have h2 := sCa_le hin
  exact hasC_eq (by omega) (hD.2.2.2.2.2.2.2.2.1 p (by omega)).2 hS.2.2.2.2.2.2.2.2.2.1 hS.2.2.2.2.2.2.2.2.2.2.1 (by omega) (by omega) (by omega) (by omega)
theorem minOf_eq {M : qM} {k kv : Nat} {v : vT} {t lk nth p : Nat} {se sr : Int32} {σ : mS} (hS : moS M k kv v t lk nth se sr) (hD : moD M k v t nth σ) (hp : p < vP v) : jMo_minuteOf k (nI p) M = some (iI (cin v σ p)) := by
  have hv := hS.1.1
  have h20 := hv.2.2.1
  have hin := hD.2.2.2.2.2.2.2.2.2.2
  have h1 := hin.1 p (by omega)
  have h2 := sCa_le hin
  have hc := hD.2.2.2.2.2.2.2.2.1 p (by omega)
  unfold jMo_minuteOf cin
  rw [qrI_nI (by omega) (by omega), qrI_nI (by omega) (by omega), hc.1, hc.2, hS.2.2.2.2.2.2.1]
  simp only [Option.bind_some]
  rw [show jVi_ofPerson kv (nI p) 1 M = some (nI (vSi v (vof v p) 1)) from ofPerson_eq (w := 1) hS.1 hp (by decide)]
  simp only [Option.bind_some, show (-1 : Int32) = iI (-1) from rfl, iI_eq (show -2147483648 ≤ sR σ p by omega) (by omega) (show -2147483648 ≤ (-1 : Int) by omega) (by omega)]
  by_cases hr : sR σ p = -1
  · rw [if_pos hr, if_pos hr]; rfl
  · rw [if_neg hr, if_neg hr, nI_iI, iI_add]; rfl
theorem gainC_eq {M : qM} {k kv : Nat} {v : vT} {t lk nth p : Nat} {se sr : Int32} {σ : mS} (hS : moS M k kv v t lk nth se sr) (hD : moD M k v t nth σ) (hp : p < vP v) : jMo_gainOf k (nI p) M = some (iI (gnS v t nth σ p)) := by
  have hv := hS.1.1
  have h20 := hv.2.2.1
  have hin := hD.2.2.2.2.2.2.2.2.2.2
  have h1 := hin.1 p (by omega)
  have hn := hS.2.2.2.2.1
  have hc := hD.2.2.2.2.2.2.2.2.1 p (by omega)
  have hcb := cin_b hin hv hp
  have hmi := hin.2.2.2.2
  unfold jMo_gainOf gnS wdS
  rw [hasC_s hS hD hp, hS.2.2.2.2.2.2.1, minOf_eq hS hD hp, hS.2.2.2.2.2.2.2.1, qrI_nI (show p < 20 by omega) (by omega), hc.1, hD.2.1]
  simp only [Option.bind_some]
  rw [show jVi_ofPerson kv (nI p) 2 M = some (nI (vSi v (vof v p) 2)) from ofPerson_eq (w := 2) hS.1 hp (by decide)]
  simp only [Option.bind_some, show (-1 : Int32) = iI (-1) from rfl, iI_eq (show -2147483648 ≤ sW σ p by omega) (by omega) (show -2147483648 ≤ (-1 : Int) by omega) (by omega), b2i_0]
  have hx : (if sW σ p = -1 then some (nI (sMi σ)) else some (iI (sW σ p))) = some (iI (if sW σ p = -1 then (sMi σ : Int) else sW σ p)) := by
    split
    · rw [nI_iI]
    · rfl
  rw [hx]
  cases hh : hsS v t nth σ p with
  | false =>
    rw [if_pos rfl, if_neg (show ¬ false = true by decide)]
    simp only [Option.bind_some]
    rw [nI_iI, iI_mul, show (0 : Int32) = iI 0 from rfl, iI_sub]
  | true =>
    have hc0 : 0 ≤ cin v σ p := by
      unfold hsS at hh
      rw [decide_eq_true_eq] at hh
      unfold cin
      rw [if_neg (by omega)]
      omega
    rw [if_neg (by decide), if_pos rfl, iI_nat hc0, worthIn_eq hS.1 hS.2.2.2.1 (by omega)]
    simp only [Option.bind_some]
    rw [nI_iI, nI_iI, iI_mul, iI_sub]
theorem hasM_eq {M : qM} {i : Nat} {v : vT} {t lk nth p : Nat} {fo st : Int32} {σ : mS} (hS : mmS M i v t lk nth fo st) (hD : mmD M v σ) (hp : p < vP v) : jMd_hasPlace (nI p) M = some (hsS v t nth σ p) := by
  have hv := hS.1.1
  have h20 := hv.2.2.1
  have hpl := (hv.2.2.2.1 t hS.2.2.1).2.1
  have hn := hS.2.2.2.1
  have h1 := hD.2.2.2.2.2.1 p (by omega)
  have h2 := sCa_le hD.2.2.2.2.2
  have hc := hD.2.2.2.2.1 p (by omega)
  unfold jMd_hasPlace hsS
  rw [qrI_nI (by omega) (by omega), hc.2.2, places_eq hS, hS.2.2.2.2.2.2.2.2.1]
  simp only [Option.bind_some, show (-1 : Int32) = iI (-1) from rfl, iI_eq (show -2147483648 ≤ sR σ p by omega) (by omega) (show -2147483648 ≤ (-1 : Int) by omega) (by omega)]
  by_cases hr : sR σ p = -1
  · rw [if_pos hr, decide_eq_false (by omega)]; rfl
  · have h0 : 0 ≤ sR σ p := by omega
    rw [if_neg hr, iI_nat h0, in_has (by omega) (by omega) (by omega) (by omega)]
    have e : decide (nth ≤ (sR σ p).toNat ∧ (sR σ p).toNat < nth + vTi v t 1) = decide ((nth : Int) ≤ sR σ p ∧ sR σ p < nth + vTi v t 1) := decide_eq_decide.mpr (by omega)
    rw [e]
    cases decide ((nth : Int) ≤ sR σ p ∧ sR σ p < nth + vTi v t 1) <;> rfl
theorem jmax_sub' {a b : Nat} {z : Int} (ha : a < 1000000) (hb : b < 1000) (hz1 : 0 ≤ z) (hz2 : z < 1000) : jmaxI 0 (nI a - nI b * iI z) = nI (a - b * z.toNat) := by
  have h1 : b * z.toNat ≤ 999 * 999 := Nat.mul_le_mul (by omega) (by omega)
  rw [iI_nat hz1, nI_mul, jmax_sub ha (by omega)]
theorem gainM_eq {M : qM} {i : Nat} {v : vT} {t lk nth p : Nat} {fo st : Int32} {σ : mS} (hS : mmS M i v t lk nth fo st) (hD : mmD M v σ) (hp : p < vP v) : jMd_gain (nI p) M = some (iI (gnS v t nth σ p)) := by
  have hv := hS.1.1
  have h20 := hv.2.2.1
  have hi5 := hS.2.1
  have hT := hv.2.2.2.1 t hS.2.2.1
  have hvo := (vof_spec hp).1
  have h1 := hD.2.2.2.2.2.1 p (by omega)
  have hc := hD.2.2.2.2.1 p (by omega)
  have hcb := cin_b hD.2.2.2.2.2 hv hp
  have hn := hS.2.2.2.1
  have hmi := hD.2.2.2.2.2.2.2.2.2
  unfold jMd_gain gnS wdS
  simp only [qlt]
  rw [qrI_nI (show p < 20 by omega) (by omega), qrI_nI (show p < 20 by omega) (by omega), hc.1, hc.2.1, hD.2.1, hS.2.2.2.2.2.1, hS.2.2.2.2.2.2.1, sortOf_eq hS.1 hi5 hp, hasM_eq hS hD hp]
  simp only [Option.bind_some]
  rw [show jMd_sortAt (nI i) (nI (vof v p)) 2 M = some (nI (vSi v (vof v p) 2)) from sortAt_eq (w := 2) hS.1 hi5 hvo (by decide), show jMd_thingAt (nI i) (nI t) 2 M = some (nI (vTi v t 2)) from thingAt_eq (w := 2) hS.1 hi5 hS.2.2.1 (by decide), show jMd_thingAt (nI i) (nI t) 3 M = some (nI (vTi v t 3)) from thingAt_eq (w := 3) hS.1 hi5 hS.2.2.1 (by decide)]
  simp only [Option.bind_some, show (-1 : Int32) = iI (-1) from rfl, iI_eq (show -2147483648 ≤ sW σ p by omega) (by omega) (show -2147483648 ≤ (-1 : Int) by omega) (by omega), b2i_0]
  have hx : (if sW σ p = -1 then some (nI (sMi σ)) else some (iI (sW σ p))) = some (iI (if sW σ p = -1 then (sMi σ : Int) else sW σ p)) := by
    split
    · rw [nI_iI]
    · rfl
  rw [hx]
  simp only [Option.bind_some]
  cases hh : hsS v t nth σ p with
  | false =>
    rw [if_pos rfl, if_neg (show ¬ false = true by decide), nI_iI, iI_mul, show (0 : Int32) = iI 0 from rfl, iI_sub]
  | true =>
    have hc0 : 0 ≤ cin v σ p := by
      unfold hsS at hh
      rw [decide_eq_true_eq] at hh
      unfold cin
      rw [if_neg (by omega)]
      omega
    rw [if_neg (by decide), if_pos rfl, jmax_sub' (by omega) (by omega) hc0 (by omega), nI_iI, nI_iI, iI_mul, iI_sub]
theorem fullAt_eq {M : qM} {i : Nat} {v : vT} {t lk nth : Nat} {fo st : Int32} {σ : mS} (hS : mmS M i v t lk nth fo st) (hD : mmD M v σ) : jMd_fullAt M = some (iI (lmS v t nth σ)) := by
  have hv := hS.1.1
  have h20 := hv.2.2.1
  have hpl := (hv.2.2.2.1 t hS.2.2.1).2.1
  have hn := hS.2.2.2.1
  have hin := hD.2.2.2.2.2
  have hca := sCa_le hin
  have hR : nI nth + nI (vTi v t 1) - 1 = nI (nth + vTi v t 1 - 1) := by rw [nI_add, show (1 : Int32) = nI 1 from rfl, nI_subE (by omega)]
  have cell : ∀ q, q < vP v → qrI M 110 20 (nI q) = some (iI (sR σ q)) := fun q hq => by rw [qrI_nI (by omega) (by omega), (hD.2.2.2.2.1 q (by omega)).2.2]
  have hcmp : ∀ q, q < vP v → (iI (sR σ q) = nI (nth + vTi v t 1 - 1)) = (sR σ q = ((nth + vTi v t 1 - 1 : Nat) : Int)) := by
    intro q hq
    have := hin.1 q (by omega)
    rw [nI_iI, iI_eq (by omega) (by omega) (by omega) (by omega)]
  have key : wp (jMd_fullAt M) (fun r => r = iI (lmS v t nth σ)) := by
    unfold jMd_fullAt lmS
    by_cases hl : nth + vTi v t 1 - 1 ≤ sCa σ
    · rw [if_pos hl]
      obtain ⟨o1, o2⟩ := hin.2.2.2.1 (nth + vTi v t 1 - 1) (by omega) hl
      refine wp_bd (wp_for (fun q x => x = nI q) (sO σ (nth + vTi v t 1 - 1)) rfl ?_ ?_)
      · rintro q x hq rfl
        refine wp_be (many_eq hS) ?_
        refine wp_in (nI_ge (show q < vP v by omega) (by omega)) ?_
        refine wp_be (cell q (by omega)) ?_
        refine wp_be (places_eq hS) ?_
        rw [hS.2.2.2.2.2.2.2.2.1, hR]
        refine wp_in ?_ (wp_some (nI_1 q))
        rw [hcmp q (by omega)]
        intro e
        have := hin.2.2.1 q (by omega) (by omega)
        rw [e, Int.toNat_natCast] at this
        omega
      · rintro x rfl
        refine wp_be (many_eq hS) ?_
        refine wp_in (nI_ge o1 (by omega)) ?_
        refine wp_be (cell _ o1) ?_
        refine wp_be (places_eq hS) ?_
        rw [hS.2.2.2.2.2.2.2.2.1, hR]
        refine wp_ip (by rw [hcmp _ o1]; exact o2) (wp_some (wp_se ?_))
        have q9 : qrI M 109 20 (nI (sO σ (nth + vTi v t 1 - 1))) = some (iI (cin v σ (sO σ (nth + vTi v t 1 - 1)))) := by
          rw [qrI_nI (by omega) (by omega), (hD.2.2.2.2.1 _ (by omega)).2.1]
        exact wp_be q9 (wp_some rfl)
    · rw [if_neg hl]
      refine wp_bd (wp_for (fun q x => x = nI q) (vP v) rfl ?_ ?_)
      · rintro q x hq rfl
        refine wp_be (many_eq hS) ?_
        refine wp_in (nI_ge (show q < vP v by omega) (by omega)) ?_
        refine wp_be (cell q (by omega)) ?_
        refine wp_be (places_eq hS) ?_
        rw [hS.2.2.2.2.2.2.2.2.1, hR]
        refine wp_in ?_ (wp_some (nI_1 q))
        rw [hcmp q (by omega)]
        have := hin.1 q (by omega)
        omega
      · rintro x rfl
        refine wp_be (many_eq hS) ?_
        exact wp_ip (nI_le (Nat.le_refl _) (by omega)) (wp_some (wp_se (wp_some rfl)))
  obtain ⟨r, h1, h2⟩ := key
  rw [h1, h2]
theorem lastWho_eq {M : qM} {i : Nat} {v : vT} {t lk nth : Nat} {fo st : Int32} {σ : mS} (hS : mmS M i v t lk nth fo st) (hD : mmD M v σ) : jMd_lastWho M = some (iI (lpS v t nth σ)) := by
  have hv := hS.1.1
  have h20 := hv.2.2.1
  have hpl := (hv.2.2.2.1 t hS.2.2.1).2.1
  have hn := hS.2.2.2.1
  have hin := hD.2.2.2.2.2
  have hca := sCa_le hin
  have cell : ∀ q, q < vP v → qrI M 110 20 (nI q) = some (iI (sR σ q)) := fun q hq => by rw [qrI_nI (by omega) (by omega), (hD.2.2.2.2.1 q (by omega)).2.2]
  have key : wp (jMd_lastWho M) (fun r => r = iI (lpS v t nth σ)) := by
    unfold jMd_lastWho
    refine wp_bd (wp_for (fun q s => s.2 = nI q ∧ ((s.1 = -1 ∧ ∀ p, p < q → hsS v t nth σ p = false) ∨ ∃ b, b < q ∧ s.1 = nI b ∧ hsS v t nth σ b = true ∧ ∀ p, p < q → hsS v t nth σ p = true → sR σ p ≤ sR σ b)) (vP v) ⟨rfl, Or.inl ⟨rfl, fun p hp => by omega⟩⟩ ?_ ?_)
    · rintro q ⟨x, y⟩ hq ⟨e1, e2⟩
      have e1 : y = nI q := e1
      subst e1
      have e2 : (x = -1 ∧ ∀ p, p < q → hsS v t nth σ p = false) ∨ ∃ b, b < q ∧ x = nI b ∧ hsS v t nth σ b = true ∧ ∀ p, p < q → hsS v t nth σ p = true → sR σ p ≤ sR σ b := e2
      refine wp_u2 ?_
      refine wp_be (many_eq hS) ?_
      refine wp_in (nI_ge hq (by omega)) ?_
      refine wp_be (hasM_eq hS hD hq) ?_
      refine wp_bd ?_
      refine wp_if (fun hc => ?_) (fun hc => ?_) <;> rw [b2i_0] at hc
      · refine wp_some (wp_some ⟨nI_1 q, ?_⟩)
        rcases e2 with ⟨h1, h2⟩ | ⟨b, h1, h2, h3, h4⟩
        · refine Or.inl ⟨h1, fun p hp => ?_⟩
          by_cases hpq : p = q
          · rw [hpq]; exact hc
          · exact h2 p (by omega)
        · refine Or.inr ⟨b, by omega, h2, h3, fun p hp hh => ?_⟩
          by_cases hpq : p = q
          · rw [hpq, hc] at hh; cases hh
          · exact h4 p (by omega) hh
      · have hc : hsS v t nth σ q = true := by simpa using hc
        rcases e2 with ⟨h1, h2⟩ | ⟨b, h1, h2, h3, h4⟩
        · rw [h1]
          refine wp_ip rfl (wp_some (wp_some ⟨nI_1 q, Or.inr ⟨q, by omega, rfl, hc, fun p hp hh => ?_⟩⟩))
          by_cases hpq : p = q
          · rw [hpq]; exact Int.le_refl _
          · rw [h2 p (by omega)] at hh; cases hh
        · rw [h2]
          refine wp_in (nI_m1 (by omega)) ?_
          refine wp_be (cell q hq) (wp_be (cell b (by omega)) ?_)
          have r1 := hin.1 q (by omega)
          have r2 := hin.1 b (by omega)
          refine wp_if (fun hd => ?_) (fun hd => ?_) <;> rw [iI_le (by omega) (by omega) (by omega) (by omega)] at hd
          · refine wp_some (wp_some ⟨nI_1 q, Or.inr ⟨b, by omega, rfl, h3, fun p hp hh => ?_⟩⟩)
            by_cases hpq : p = q
            · rw [hpq]; exact hd
            · exact h4 p (by omega) hh
          · refine wp_some (wp_some ⟨nI_1 q, Or.inr ⟨q, by omega, rfl, hc, fun p hp hh => ?_⟩⟩)
            by_cases hpq : p = q
            · rw [hpq]; exact Int.le_refl _
            · have := h4 p (by omega) hh
              omega
    · rintro ⟨x, y⟩ ⟨e1, e2⟩
      have e1 : y = nI (vP v) := e1
      subst e1
      have e2 : (x = -1 ∧ ∀ p, p < vP v → hsS v t nth σ p = false) ∨ ∃ b, b < vP v ∧ x = nI b ∧ hsS v t nth σ b = true ∧ ∀ p, p < vP v → hsS v t nth σ p = true → sR σ p ≤ sR σ b := e2
      refine wp_u2 ?_
      refine wp_be (many_eq hS) ?_
      refine wp_ip (nI_le (Nat.le_refl _) (by omega)) (wp_some (wp_some ?_))
      show x = iI (lpS v t nth σ)
      unfold lpS
      by_cases hl : sCa σ < nth
      · rw [if_pos hl]
        rcases e2 with ⟨h1, _⟩ | ⟨b, h1, h2, h3, _⟩
        · exact h1
        · have := hin.1 b (by omega)
          unfold hsS at h3
          rw [decide_eq_true_eq] at h3
          omega
      · rw [if_neg hl]
        obtain ⟨o1, o2⟩ := hin.2.2.2.1 (min (sCa σ) (nth + vTi v t 1 - 1)) (by omega) (by omega)
        have oh : hsS v t nth σ (sO σ (min (sCa σ) (nth + vTi v t 1 - 1))) = true := by
          unfold hsS
          rw [decide_eq_true_eq, o2]
          omega
        rcases e2 with ⟨_, h2⟩ | ⟨b, h1, h2, h3, h4⟩
        · rw [h2 _ o1] at oh; cases oh
        · have h5 := h4 _ o1 oh
          rw [o2] at h5
          have h6 := hin.1 b (by omega)
          unfold hsS at h3
          rw [decide_eq_true_eq] at h3
          have h7 := hin.2.2.1 b h1 (by omega)
          have h8 : (sR σ b).toNat = min (sCa σ) (nth + vTi v t 1 - 1) := by omega
          rw [h8] at h7
          rw [h2, h7, nI_iI]
  obtain ⟨r, h1, h2⟩ := key
  rw [h1, h2]
