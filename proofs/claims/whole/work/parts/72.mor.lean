/-! ===== mornings, as values: who went when, who has which rank, who had rank r, minute, how many came, the draw, over ===== -/
abbrev mS : Type := (Nat → Int) × (Nat → Int) × (Nat → Nat) × Nat × Nat × Int64 × Bool
def sW (σ : mS) : Nat → Int := σ.1
def sR (σ : mS) : Nat → Int := σ.2.1
def sO (σ : mS) : Nat → Nat := σ.2.2.1
def sMi (σ : mS) : Nat := σ.2.2.2.1
def sCa (σ : mS) : Nat := σ.2.2.2.2.1
def sD (σ : mS) : Int64 := σ.2.2.2.2.2.1
def sOv (σ : mS) : Bool := σ.2.2.2.2.2.2
def vdi (v : vT) (p : Nat) : Nat := vSi v (vof v p) 1
def cin (v : vT) (σ : mS) (p : Nat) : Int := if sR σ p = -1 then -1 else sW σ p + vdi v p
def wtn (v : vT) (σ : mS) : Nat := cnt (fun p => decide (sW σ p = -1)) (vP v)
def wtS (v : vT) (σ : mS) (s : Nat) : Nat := cnt (fun p => decide (sW σ p = -1 ∧ vof v p = s)) (vP v)
def onw (v : vT) (σ : mS) : Nat := cnt (fun p => decide (sW σ p ≠ -1 ∧ sR σ p = -1)) (vP v)
def hadF (pl nth ca : Nat) : Nat := min pl (ca + 1 - nth)
def lmS (v : vT) (t nth : Nat) (σ : mS) : Int := if nth + vTi v t 1 - 1 ≤ sCa σ then cin v σ (sO σ (nth + vTi v t 1 - 1)) else -1
def lpS (v : vT) (t nth : Nat) (σ : mS) : Int := if sCa σ < nth then -1 else (sO σ (min (sCa σ) (nth + vTi v t 1 - 1)) : Int)
def mInv (v : vT) (σ : mS) : Prop :=
  (∀ p, p < 20 → -1 ≤ sW σ p ∧ sW σ p ≤ sMi σ ∧ (sR σ p = -1 ∨ 1 ≤ sR σ p ∧ sR σ p ≤ sCa σ ∧ 0 ≤ sW σ p)) ∧
  sCa σ = cnt (fun p => decide (sR σ p ≠ -1)) (vP v) ∧
  (∀ p, p < vP v → sR σ p ≠ -1 → sO σ (sR σ p).toNat = p) ∧
  (∀ r, 1 ≤ r → r ≤ sCa σ → sO σ r < vP v ∧ sR σ (sO σ r) = r) ∧
  sMi σ ≤ 61
theorem vdi_le {v : vT} (h : vOK v) {p : Nat} (hp : p < vP v) : vdi v p ≤ 9 := (h.2.2.2.2 (vof v p) (vof_spec hp).1).2.1
theorem sCa_le {v : vT} {σ : mS} (h : mInv v σ) : sCa σ ≤ vP v := by
  rw [h.2.1]
  exact cnt_le _ _
theorem cnt_all {n : Nat} : cnt (fun _ => true) n = n := by
  induction n with
  | zero => rfl
  | succ n ih => rw [cnt_S, ih]; rfl
/-- those who wait, are on the way, have come -/
theorem w3 {v : vT} {σ : mS} (h : mInv v σ) (hv : vOK v) : wtn v σ + onw v σ + sCa σ = vP v := by
  have h20 := hv.2.2.1
  have e1 : cnt (fun p => decide (sW σ p ≠ -1)) (vP v) = onw v σ + sCa σ := by
    rw [h.2.1]
    unfold onw
    refine cnt_sp (fun i hi => ?_)
    have := (h.1 i (by omega)).2.2
    simp only [decide_eq_true_eq]
    split <;> split <;> split <;> omega
  have e2 : cnt (fun _ => true) (vP v) = wtn v σ + cnt (fun p => decide (sW σ p ≠ -1)) (vP v) := by
    unfold wtn
    refine cnt_sp (fun i hi => ?_)
    simp only [decide_eq_true_eq]
    rw [if_pos trivial]
    by_cases hz : sW σ i = -1
    · rw [if_pos hz, if_neg (fun e => e hz)]
    · rw [if_neg hz, if_pos hz]
  rw [cnt_all] at e2
  omega
/-- one more comes -/
def rcv (σ : mS) (p : Nat) : mS := (sW σ, upI (sR σ) p ((sCa σ : Int) + 1), (fun r => if r = sCa σ + 1 then p else sO σ r), sMi σ, sCa σ + 1, sD σ, sOv σ)
theorem cnt_upd {A B : Nat → Bool} {n p : Nat} (hp : p < n) (h1 : ∀ i, ¬ i = p → A i = B i) (h2 : A p = false) (h3 : B p = true) : cnt B n = cnt A n + 1 := by
  induction n with
  | zero => omega
  | succ n ih =>
    rw [cnt_S, cnt_S]
    by_cases hn : p = n
    · subst hn
      rw [h2, h3, cnt_congr (fun i hi => h1 i (by omega))]
      rfl
    · rw [ih (by omega), h1 n (fun e => hn e.symm)]
      omega
theorem rcv_inv {v : vT} {σ : mS} {p : Nat} (h : mInv v σ) (hv : vOK v) (hp : p < vP v) (hr : sR σ p = -1) (hw : 0 ≤ sW σ p) : mInv v (rcv σ p) := by
  have h20 := hv.2.2.1
  obtain ⟨a1, a2, a3, a4, a5⟩ := h
  refine ⟨fun q hq => ?_, ?_, fun q hq hn => ?_, fun r h1 h2 => ?_, a5⟩
  · have := a1 q hq
    show -1 ≤ sW σ q ∧ sW σ q ≤ sMi σ ∧ (upI (sR σ) p ((sCa σ : Int) + 1) q = -1 ∨ 1 ≤ upI (sR σ) p ((sCa σ : Int) + 1) q ∧ upI (sR σ) p ((sCa σ : Int) + 1) q ≤ ((sCa σ + 1 : Nat) : Int) ∧ 0 ≤ sW σ q)
    unfold upI
    by_cases hqp : q = p
    · subst hqp
      rw [if_pos rfl]
      omega
    · rw [if_neg hqp]
      omega
  · show sCa σ + 1 = _
    rw [a2]
    refine (cnt_upd hp (fun i hi => ?_) ?_ ?_).symm
    · show _ = decide (upI (sR σ) p _ i ≠ -1)
      unfold upI
      rw [if_neg hi]
    · simp [hr]
    · show decide (upI (sR σ) p _ p ≠ -1) = true
      unfold upI
      rw [if_pos rfl]
      exact decide_eq_true (by omega)
  · show (if (upI (sR σ) p ((sCa σ : Int) + 1) q).toNat = sCa σ + 1 then p else sO σ (upI (sR σ) p ((sCa σ : Int) + 1) q).toNat) = q
    have hn : ¬ upI (sR σ) p ((sCa σ : Int) + 1) q = -1 := hn
    unfold upI at hn ⊢
    by_cases hqp : q = p
    · subst hqp
      rw [if_pos rfl, if_pos (by omega)]
    · rw [if_neg hqp] at hn ⊢
      have := (a1 q (by omega)).2.2
      rw [if_neg (by omega)]
      exact a3 q hq hn
  · show (if r = sCa σ + 1 then p else sO σ r) < vP v ∧ upI (sR σ) p ((sCa σ : Int) + 1) (if r = sCa σ + 1 then p else sO σ r) = r
    have h2 : r ≤ sCa σ + 1 := h2
    by_cases hrc : r = sCa σ + 1
    · rw [if_pos hrc]
      refine ⟨hp, ?_⟩
      unfold upI
      rw [if_pos rfl]
      omega
    · rw [if_neg hrc]
      obtain ⟨b1, b2⟩ := a4 r h1 (by omega)
      refine ⟨b1, ?_⟩
      unfold upI
      rw [if_neg]
      · exact b2
      · intro e
        rw [e, hr] at b2
        omega
theorem rcv_lm {v : vT} {σ : mS} {p t nth : Nat} (h : mInv v σ) (hp : p < vP v) (hr : sR σ p = -1) (hd : sW σ p + vdi v p = sMi σ) (h1 : 1 ≤ nth) (h2 : 1 ≤ vTi v t 1) :
    lmS v t nth (rcv σ p) = if sCa σ + 1 = nth + vTi v t 1 - 1 then (sMi σ : Int) else lmS v t nth σ := by
  have hc : ∀ q, ¬ q = p → cin v (rcv σ p) q = cin v σ q := by
    intro q hq
    unfold cin
    show (if upI (sR σ) p _ q = -1 then _ else _) = _
    unfold upI
    rw [if_neg hq]
    rfl
  have hcp : cin v (rcv σ p) p = sMi σ := by
    unfold cin
    show (if upI (sR σ) p _ p = -1 then _ else sW σ p + vdi v p) = _
    unfold upI
    rw [if_pos rfl, if_neg (by omega)]
    exact hd
  unfold lmS
  show (if nth + vTi v t 1 - 1 ≤ sCa σ + 1 then cin v (rcv σ p) (if nth + vTi v t 1 - 1 = sCa σ + 1 then p else sO σ (nth + vTi v t 1 - 1)) else -1) = _
  by_cases he : sCa σ + 1 = nth + vTi v t 1 - 1
  · rw [if_pos he, if_pos (by omega), if_pos he.symm, hcp]
  · rw [if_neg he, if_neg (show ¬ nth + vTi v t 1 - 1 = sCa σ + 1 from fun e => he e.symm)]
    by_cases hl : nth + vTi v t 1 - 1 ≤ sCa σ
    · rw [if_pos hl, if_pos (show nth + vTi v t 1 - 1 ≤ sCa σ + 1 by omega), hc]
      intro e
      have := (h.2.2.2.1 (nth + vTi v t 1 - 1) (by omega) hl).2
      rw [e, hr] at this
      omega
    · rw [if_neg hl, if_neg (show ¬ nth + vTi v t 1 - 1 ≤ sCa σ + 1 by omega)]
theorem rcv_lp {v : vT} {σ : mS} {p t nth : Nat} (h1 : 1 ≤ nth) (h2 : 1 ≤ vTi v t 1) :
    lpS v t nth (rcv σ p) = if nth ≤ sCa σ + 1 ∧ sCa σ + 1 < nth + vTi v t 1 then (p : Int) else lpS v t nth σ := by
  unfold lpS
  show (if sCa σ + 1 < nth then -1 else (((if min (sCa σ + 1) (nth + vTi v t 1 - 1) = sCa σ + 1 then p else sO σ (min (sCa σ + 1) (nth + vTi v t 1 - 1))) : Nat) : Int)) = _
  by_cases h3 : sCa σ + 1 < nth
  · rw [if_pos h3, if_neg (show ¬ (nth ≤ sCa σ + 1 ∧ sCa σ + 1 < nth + vTi v t 1) by omega), if_pos (show sCa σ < nth by omega)]
  · rw [if_neg h3]
    by_cases h4 : sCa σ + 1 < nth + vTi v t 1
    · rw [if_pos (show nth ≤ sCa σ + 1 ∧ sCa σ + 1 < nth + vTi v t 1 from ⟨by omega, h4⟩), if_pos (show min (sCa σ + 1) (nth + vTi v t 1 - 1) = sCa σ + 1 by omega)]
    · rw [if_neg (show ¬ (nth ≤ sCa σ + 1 ∧ sCa σ + 1 < nth + vTi v t 1) by omega), if_neg (show ¬ min (sCa σ + 1) (nth + vTi v t 1 - 1) = sCa σ + 1 by omega), if_neg (show ¬ sCa σ < nth by omega), show min (sCa σ + 1) (nth + vTi v t 1 - 1) = min (sCa σ) (nth + vTi v t 1 - 1) by omega]
theorem had_S {pl nth ca : Nat} (h1 : 1 ≤ nth) : hadF pl nth (ca + 1) = if nth ≤ ca + 1 ∧ ca + 1 < nth + pl then hadF pl nth ca + 1 else hadF pl nth ca := by
  unfold hadF
  split <;> omega
/-! ===== the class's morning at k ===== -/
def moS (M : qM) (k kv : Nat) (v : vT) (t lk nth : Nat) (se sr : Int32) : Prop :=
  rVC M kv v ∧ 71 ≤ kv ∧ kv ≤ 87 ∧ t < vTn v ∧ (1 ≤ nth ∧ nth ≤ 9) ∧ lk < 2 ∧ M.2.2 k 0 = some kv ∧ M.1 k 1 = nI t ∧ M.1 k 2 = nI lk ∧ M.1 k 3 = nI nth ∧ M.1 k 4 = nI (vTi v t 1) ∧ M.1 k 5 = se ∧ M.1 k 6 = sr
def moD (M : qM) (k : Nat) (v : vT) (t nth : Nat) (σ : mS) : Prop :=
  M.2.1 k 7 = sD σ ∧ M.1 k 8 = nI (sMi σ) ∧ M.1 k 9 = nI (sCa σ) ∧ M.1 k 10 = nI (wtn v σ) ∧ M.1 k 11 = nI (hadF (vTi v t 1) nth (sCa σ)) ∧ M.1 k 12 = b2i (sOv σ) ∧ M.1 k 13 = iI (lmS v t nth σ) ∧ M.1 k 14 = iI (lpS v t nth σ) ∧ (∀ p, p < 20 → M.1 (k + 1) p = iI (sW σ p) ∧ M.1 (k + 2) p = iI (sR σ p)) ∧ (∀ s, s < vSn v → M.1 (k + 3) s = nI (wtS v σ s)) ∧ mInv v σ
def mok (k : Nat) : Prop := k = 33 ∨ k = 37 ∨ k = 42
/-- what a morning's minutes change: its numbers, letters and pile -/
def sMo (k b j : Nat) : Prop := b = k ∧ 7 ≤ j ∨ b = k + 1 ∨ b = k + 2 ∨ b = k + 3 ∨ b = 10 ∨ b = 11
theorem moS_fr {M M1 : qM} {k kv : Nat} {v : vT} {t lk nth : Nat} {se sr : Int32} (hk : mok k) (h : moS M k kv v t lk nth se sr) (g : fr (sMo k) M M1) : moS M1 k kv v t lk nth se sr := by
  obtain ⟨a1, a2, a3, a4, a5, a6, a7, a8, a9, b1, b2, b3, b4⟩ := h
  have hj : ∀ j, j < 7 → ¬ sMo k k j := by
    intro j hj
    unfold sMo mok at *
    omega
  refine ⟨rVC_fr a1 g (fun b j h1 h2 => by unfold sMo mok at *; omega), a2, a3, a4, a5, a6, ?_, ?_, ?_, ?_, ?_, ?_, ?_⟩
  · rw [(g k 0 (hj 0 (by omega))).2.2]; exact a7
  · rw [(g k 1 (hj 1 (by omega))).1]; exact a8
  · rw [(g k 2 (hj 2 (by omega))).1]; exact a9
  · rw [(g k 3 (hj 3 (by omega))).1]; exact b1
  · rw [(g k 4 (hj 4 (by omega))).1]; exact b2
  · rw [(g k 5 (hj 5 (by omega))).1]; exact b3
  · rw [(g k 6 (hj 6 (by omega))).1]; exact b4
theorem hasC_eq {M : qM} {k p nth pl : Nat} {r : Int} (hp : p < 20) (h1 : M.1 (k + 2) p = iI r) (h2 : M.1 k 3 = nI nth) (h3 : M.1 k 4 = nI pl) (hn : nth < 1000) (hpl : pl < 1000) (hr1 : -1 ≤ r) (hr2 : r < 1000) : jMo_has k (nI p) M = some (decide ((nth : Int) ≤ r ∧ r < nth + pl)) := by
  unfold jMo_has
  rw [qrI_nI hp (by omega), h1, h2, h3]
  simp only [Option.bind_some]
  rw [nI_add, nI_iI nth, nI_iI (nth + pl)]
  simp only [iI_lt (show -2147483648 ≤ r by omega) (by omega) (show -2147483648 ≤ (nth : Int) by omega) (by omega), iI_le (show -2147483648 ≤ ((nth + pl : Nat) : Int) by omega) (by omega) (show -2147483648 ≤ r by omega) (by omega)]
  by_cases c1 : r < nth
  · rw [if_pos c1, decide_eq_false (by omega)]; rfl
  · rw [if_neg c1]
    by_cases c2 : ((nth + pl : Nat) : Int) ≤ r
    · rw [if_pos c2, decide_eq_false (by omega)]; rfl
    · rw [if_neg c2, decide_eq_true (by omega)]; rfl
theorem receive_wp {M : qM} {k kv : Nat} {v : vT} {t lk nth p : Nat} {se sr : Int32} {σ : mS} (hk : mok k) (hS : moS M k kv v t lk nth se sr) (hD : moD M k v t nth σ) (hp : p < vP v) (hr : sR σ p = -1) (hw : 0 ≤ sW σ p) (hd : sW σ p + vdi v p = sMi σ) :
    wp (jMo_receive k (nI p) M) (fun M' => moD M' k v t nth (rcv σ p) ∧ fr (sMo k) M M') := by
  have hv := hS.1.1
  have h20 := hv.2.2.1
  obtain ⟨d1, d2, d3, d4, d5, d6, d7, d8, d9, d10, d11⟩ := hD
  have hca := sCa_le d11
  have hpl := (hv.2.2.2.1 t hS.2.2.2.1).2.1
  have hn := hS.2.2.2.2.1
  have hinv := rcv_inv d11 hv hp hr hw
  have e9 : M.1 k 9 + 1 = nI (sCa σ + 1) := by rw [d3, nI_1]
  have hhad : hadF (vTi v t 1) nth (sCa σ) ≤ vTi v t 1 := by unfold hadF; omega
  unfold jMo_receive
  refine wp_lt ?_
  rintro _ rfl
  rw [e9]
  have e9' : (qI M k 9 (nI (sCa σ + 1))).1 k 9 = nI (sCa σ + 1) := by rw [qI_1, if_pos ⟨rfl, rfl⟩]
  refine wp_bd (wp_wI rfl (show p < 20 by omega) (by omega) ?_)
  rw [e9']
  have hcell : (qI (qI M k 9 (nI (sCa σ + 1))) (k + 2) p (nI (sCa σ + 1))).1 (k + 2) p = iI ((sCa σ + 1 : Nat) : Int) := by
    rw [qI_1, if_pos ⟨rfl, rfl⟩, nI_iI]
  have h3 : (qI (qI M k 9 (nI (sCa σ + 1))) (k + 2) p (nI (sCa σ + 1))).1 k 3 = nI nth := by
    rw [qI_1, if_neg (by omega), qI_1, if_neg (by omega)]; exact hS.2.2.2.2.2.2.2.2.2.1
  have h4 : (qI (qI M k 9 (nI (sCa σ + 1))) (k + 2) p (nI (sCa σ + 1))).1 k 4 = nI (vTi v t 1) := by
    rw [qI_1, if_neg (by omega), qI_1, if_neg (by omega)]; exact hS.2.2.2.2.2.2.2.2.2.2.1
  refine wp_be (hasC_eq (by omega) hcell h3 h4 (by omega) (by omega) (by omega) (by omega)) ?_
  refine wp_lt ?_
  intro M4 hM4
  -- what the memory must be
  have fin : ∀ N : qM, fr (sMo k) M N → N.2.1 k 7 = sD σ → N.1 k 8 = nI (sMi σ) → N.1 k 9 = nI (sCa σ + 1) → N.1 k 10 = nI (wtn v σ) → N.1 k 12 = b2i (sOv σ) → (∀ q, q < 20 → N.1 (k + 1) q = iI (sW σ q) ∧ N.1 (k + 2) q = iI (upI (sR σ) p ((sCa σ : Int) + 1) q)) → (∀ s, s < vSn v → N.1 (k + 3) s = nI (wtS v σ s)) → N.1 k 11 = nI (hadF (vTi v t 1) nth (sCa σ + 1)) → N.1 k 13 = iI (lmS v t nth (rcv σ p)) → N.1 k 14 = iI (lpS v t nth (rcv σ p)) → wp (some N) (fun M' => moD M' k v t nth (rcv σ p) ∧ fr (sMo k) M M') := by
    intro N f0 f1 f2 f3 f4 f5 f6 f7 f8 f9 f10
    exact wp_some ⟨⟨f1, f2, f3, f4, f8, f5, f9, f10, f6, f7, hinv⟩, f0⟩
  have fr1 : fr (sMo k) M (qI (qI M k 9 (nI (sCa σ + 1))) (k + 2) p (nI (sCa σ + 1))) := (fr_I (by unfold sMo; omega)).tr (fr_I (by unfold sMo; omega))
  have rows : ∀ q, q < 20 → (qI (qI M k 9 (nI (sCa σ + 1))) (k + 2) p (nI (sCa σ + 1))).1 (k + 1) q = iI (sW σ q) ∧ (qI (qI M k 9 (nI (sCa σ + 1))) (k + 2) p (nI (sCa σ + 1))).1 (k + 2) q = iI (upI (sR σ) p ((sCa σ : Int) + 1) q) := by
    intro q hq
    refine ⟨?_, ?_⟩
    · rw [qI_1, if_neg (by omega), qI_1, if_neg (by omega)]; exact (d9 q hq).1
    · unfold upI
      by_cases hqp : q = p
      · subst hqp
        rw [hcell, if_pos rfl]
        exact iI_congr (by omega)
      · rw [qI_1, if_neg (fun e => hqp e.2), qI_1, if_neg (by omega), if_neg hqp]
        exact (d9 q hq).2
  have oth : ∀ j, ¬ j = 9 → (qI (qI M k 9 (nI (sCa σ + 1))) (k + 2) p (nI (sCa σ + 1))).1 k j = M.1 k j := by
    intro j hj
    rw [qI_1, if_neg (by omega), qI_1, if_neg (fun e => hj e.2)]
  have oth3 : ∀ j, (qI (qI M k 9 (nI (sCa σ + 1))) (k + 2) p (nI (sCa σ + 1))).1 (k + 3) j = M.1 (k + 3) j := by
    intro j
    rw [qI_1, if_neg (by omega), qI_1, if_neg (by omega)]
  have c9 : (qI (qI M k 9 (nI (sCa σ + 1))) (k + 2) p (nI (sCa σ + 1))).1 k 9 = nI (sCa σ + 1) := by
    rw [qI_1, if_neg (by omega)]; exact e9'
  have elm := rcv_lm (t := t) d11 hp hr hd hn.1 hpl.1
  have elp := rcv_lp (v := v) (σ := σ) (p := p) (t := t) hn.1 hpl.1
  have ehd := had_S (pl := vTi v t 1) (nth := nth) (ca := sCa σ) hn.1
  generalize hN0 : qI (qI M k 9 (nI (sCa σ + 1))) (k + 2) p (nI (sCa σ + 1)) = N0 at *
  have j7 : N0.2.1 k 7 = sD σ := by rw [← hN0]; exact d1
  rw [hM4]
  by_cases hh : (nth : Int) ≤ ((sCa σ + 1 : Nat) : Int) ∧ ((sCa σ + 1 : Nat) : Int) < nth + vTi v t 1
  · rw [if_neg (by rw [b2i_0, decide_eq_false_iff_not]; exact fun e => e hh)]
    rw [if_pos (by omega)] at elp ehd
    simp only [qlt]
    have e11 : N0.1 k 11 + 1 = nI (hadF (vTi v t 1) nth (sCa σ) + 1) := by rw [oth 11 (by decide), d5, nI_1]
    rw [e11]
    have c4 : (qI (qI N0 k 11 (nI (hadF (vTi v t 1) nth (sCa σ) + 1))) k 14 (nI p)).1 k 4 = nI (vTi v t 1) := by
      rw [qI_1, if_neg (by omega), qI_1, if_neg (by omega)]; exact h4
    have c11 : (qI (qI N0 k 11 (nI (hadF (vTi v t 1) nth (sCa σ) + 1))) k 14 (nI p)).1 k 11 = nI (hadF (vTi v t 1) nth (sCa σ) + 1) := by
      rw [qI_1, if_neg (by omega), qI_1, if_pos ⟨rfl, rfl⟩]
    have c8 : (qI (qI N0 k 11 (nI (hadF (vTi v t 1) nth (sCa σ) + 1))) k 14 (nI p)).1 k 8 = nI (sMi σ) := by
      rw [qI_1, if_neg (by omega), qI_1, if_neg (by omega), oth 8 (by decide)]; exact d2
    rw [c4, c11, c8]
    have hq : ∀ (N : qM) (a : Nat) (x : Int32), 7 ≤ a → fr (sMo k) N (qI N k a x) := fun N a x ha => fr_I (by unfold sMo; omega)
    by_cases hf : hadF (vTi v t 1) nth (sCa σ) + 1 < vTi v t 1
    · rw [if_pos (nI_lt hf (by omega))]
      have hne : ¬ sCa σ + 1 = nth + vTi v t 1 - 1 := by unfold hadF at hf; omega
      rw [if_neg hne] at elm
      refine fin _ ((fr1.tr (hq _ _ _ (by omega))).tr (hq _ _ _ (by omega))) j7 c8 ?_ ?_ ?_ ?_ ?_ ?_ ?_ ?_
      · rw [qI_1, if_neg (by omega), qI_1, if_neg (by omega)]; exact c9
      · rw [qI_1, if_neg (by omega), qI_1, if_neg (by omega), oth 10 (by decide)]; exact d4
      · rw [qI_1, if_neg (by omega), qI_1, if_neg (by omega), oth 12 (by decide)]; exact d6
      · intro q hq
        rw [qI_1, if_neg (by omega), qI_1, if_neg (by omega), qI_1, if_neg (by omega), qI_1, if_neg (by omega)]; exact rows q hq
      · intro s hs
        rw [qI_1, if_neg (by omega), qI_1, if_neg (by omega), oth3]; exact d10 s hs
      · rw [c11, ehd]
      · rw [elm, qI_1, if_neg (by omega), qI_1, if_neg (by omega), oth 13 (by decide)]; exact d7
      · rw [elp, qI_1, if_pos ⟨rfl, rfl⟩, nI_iI]
    · rw [if_neg (nI_nlt (by omega) (by omega))]
      have he : sCa σ + 1 = nth + vTi v t 1 - 1 := by unfold hadF at hf; omega
      rw [if_pos he] at elm
      refine fin _ (((fr1.tr (hq _ _ _ (by omega))).tr (hq _ _ _ (by omega))).tr (hq _ _ _ (by omega))) j7 ?_ ?_ ?_ ?_ ?_ ?_ ?_ ?_ ?_
      · rw [qI_1, if_neg (by omega)]; exact c8
      · rw [qI_1, if_neg (by omega), qI_1, if_neg (by omega), qI_1, if_neg (by omega)]; exact c9
      · rw [qI_1, if_neg (by omega), qI_1, if_neg (by omega), qI_1, if_neg (by omega), oth 10 (by decide)]; exact d4
      · rw [qI_1, if_neg (by omega), qI_1, if_neg (by omega), qI_1, if_neg (by omega), oth 12 (by decide)]; exact d6
      · intro q hq
        rw [qI_1, if_neg (by omega), qI_1, if_neg (by omega), qI_1, if_neg (by omega), qI_1, if_neg (by omega), qI_1, if_neg (by omega), qI_1, if_neg (by omega)]; exact rows q hq
      · intro s hs
        rw [qI_1, if_neg (by omega), qI_1, if_neg (by omega), qI_1, if_neg (by omega), oth3]; exact d10 s hs
      · rw [qI_1, if_neg (by omega), c11, ehd]
      · rw [elm, qI_1, if_pos ⟨rfl, rfl⟩, nI_iI]
      · rw [elp, qI_1, if_neg (by omega), qI_1, if_pos ⟨rfl, rfl⟩, nI_iI]
  · rw [if_pos (by rw [b2i_0, decide_eq_false_iff_not]; exact hh)]
    rw [if_neg (by omega)] at elp ehd
    have hne : ¬ sCa σ + 1 = nth + vTi v t 1 - 1 := by omega
    rw [if_neg hne] at elm
    refine fin N0 fr1 j7 ?_ c9 ?_ ?_ rows ?_ ?_ ?_ ?_
    · rw [oth 8 (by decide)]; exact d2
    · rw [oth 10 (by decide)]; exact d4
    · rw [oth 12 (by decide)]; exact d6
    · intro s hs
      rw [oth3]; exact d10 s hs
    · rw [oth 11 (by decide), ehd]; exact d5
    · rw [oth 13 (by decide), elm]; exact d7
    · rw [oth 14 (by decide), elp]; exact d8
