/-! ===== promises 34, 35: between, round ===== -/
def rBw (M : qM) : Prop := ∃ b, b ≤ 9 ∧ M.1 0 12 = nI b ∧ M.1 91 57 = nI b
theorem p_btw {M : qM} (h : rBw M) (v : Int32) : ∃ r M1 M2, jTc_between v M = (r, M1) ∧ jMd_between v M1 = (r, M2) ∧ rBw M2 ∧ fr (fun b j => b = 0 ∧ j = 12) M M1 ∧ fr (fun b j => b = 91 ∧ j = 57) M1 M2 := by
  have e : jTc_isOf v 10 = jMd_in v 0 9 := isOf_in rfl rfl
  unfold jTc_between jMd_between
  simp only [b2i_0, ← e, qlt]
  cases hz : jTc_isOf v 10 with
  | false => exact ⟨false, M, M, by simp, by simp, h, fr_rf _ _, fr_rf _ _⟩
  | true =>
    obtain ⟨b, hb, rfl⟩ := isOf_of (T := 10) (by decide) hz
    exact ⟨true, qI M 0 12 (nI b), qI (qI M 0 12 (nI b)) 91 57 (nI b), by simp, by simp, ⟨b, by omega, by simp [qI_1], by simp [qI_1]⟩, fr_I ⟨rfl, rfl⟩, fr_I ⟨rfl, rfl⟩⟩
def rgo (v : vT) (bw : Nat) (f : Nat → Int) : Nat → Nat → Int
  | 0, o => f o
  | t + 1, o => if rgo v bw f t o ≠ -1 ∧ rk (vP v) (rgo v bw f t) o (rgo v bw f t o) < vTi v t 0 then rgo v bw f t o + bw else -1
def rhs (v : vT) (bw : Nat) (f : Nat → Int) (t p : Nat) : Bool := decide (rgo v bw f t p ≠ -1 ∧ vTi v t 0 ≤ rk (vP v) (rgo v bw f t) p (rgo v bw f t p) ∧ rk (vP v) (rgo v bw f t) p (rgo v bw f t p) < vTi v t 0 + vTi v t 1)
def thO (v : vT) (bw : Nat) (f : Nat → Int) (p : Nat) : Nat → Int32
  | 0 => -1
  | t + 1 => if rhs v bw f t p = true then nI t else thO v bw f p t
def mnO (v : vT) (bw : Nat) (f : Nat → Int) (p : Nat) : Nat → Int32
  | 0 => -1
  | t + 1 => if rhs v bw f t p = true then iI (rgo v bw f t p) else mnO v bw f p t
def viO (v : vT) (bw : Nat) (f : Nat → Int) (p : Nat) (t : Nat) : Nat := cnt (fun t => decide (rgo v bw f t p ≠ -1)) t
theorem rgo_b {v : vT} {bw : Nat} {f : Nat → Int} (hb : bw ≤ 9) {o : Nat} (h : -1 ≤ f o ∧ f o ≤ 60) : ∀ t, -1 ≤ rgo v bw f t o ∧ rgo v bw f t o ≤ 60 + 9 * t := by
  intro t
  induction t with
  | zero => exact ⟨h.1, by have := h.2; show f o ≤ _; omega⟩
  | succ t ih =>
    simp only [rgo]
    split <;> omega
theorem rgo_stay {v : vT} {bw : Nat} {f : Nat → Int} {o t T : Nat} (h : rgo v bw f t o = -1) (hT : t ≤ T) : rgo v bw f T o = -1 := by
  induction T with
  | zero => rwa [show t = 0 by omega] at h
  | succ T ih =>
    by_cases ht : t = T + 1
    · rwa [ht] at h
    · simp only [rgo]
      rw [if_neg (fun e => e.1 (ih (by omega)))]
theorem rhs_next {v : vT} {bw : Nat} {f : Nat → Int} {t p : Nat} (h : rhs v bw f t p = true) : rgo v bw f (t + 1) p = -1 := by
  unfold rhs at h
  rw [decide_eq_true_eq] at h
  simp only [rgo]
  rw [if_neg (by omega)]
theorem rhs_no {v : vT} {bw : Nat} {f : Nat → Int} {t p : Nat} (h : rgo v bw f t p = -1) : rhs v bw f t p = false := by
  unfold rhs
  exact decide_eq_false (fun e => e.1 h)
theorem O_stay {v : vT} {bw : Nat} {f : Nat → Int} {p t T : Nat} (h : rgo v bw f t p = -1) (hT : t ≤ T) : thO v bw f p T = thO v bw f p t ∧ mnO v bw f p T = mnO v bw f p t ∧ viO v bw f p T = viO v bw f p t := by
  induction T with
  | zero => rw [show t = 0 by omega]; exact ⟨rfl, rfl, rfl⟩
  | succ T ih =>
    by_cases ht : t = T + 1
    · rw [ht]; exact ⟨rfl, rfl, rfl⟩
    · have hr := rgo_stay h (show t ≤ T by omega)
      have hn := rhs_no hr
      obtain ⟨i1, i2, i3⟩ := ih (by omega)
      refine ⟨?_, ?_, ?_⟩
      · simp only [thO]; rw [if_neg (by rw [hn]; decide)]; exact i1
      · simp only [mnO]; rw [if_neg (by rw [hn]; decide)]; exact i2
      · unfold viO at i3 ⊢
        rw [cnt_S, if_neg (by simp [hr])]
        exact i3
/-- the class's rank among those who come -/
theorem trRank_eq {M : qM} {a n p : Nat} {f : Nat → Int} (ha : M.2.2 65 3 = some a) (hn : n ≤ 20) (hp : p < n) (hf : ∀ o, o < n → M.1 a o = iI (f o) ∧ -1 ≤ f o ∧ f o ≤ 1000) : jTr_rankOf (nI p) (nI n) M = some (nI (rk n f p (f p))) := by
  have hfp := hf p hp
  unfold jTr_rankOf
  rw [qlp_for0 (s0 := ((1 : Int32), (0 : Int32))) (fun o => (nI (rk o f p (f p)), nI o)) (nI (rk n f p (f p))) n rfl (fun o ho => ?_) ?_]
  · rfl
  · simp only [qu2]
    rw [if_pos (nI_le (Nat.le_refl _) (by omega))]
  · have hfo := hf o ho
    have e : rk (o + 1) f p (f p) = rk o f p (f p) + if ((o : Int) ≠ p ∧ f o ≠ -1 ∧ (f o < f p ∨ f o = f p ∧ (o : Int) < p)) then 1 else 0 := by
      unfold rk
      rw [cnt_S, Nat.add_assoc]
      simp only [decide_eq_true_eq]
    simp only [qu2, qlt, ha, Option.bind_some]
    rw [if_neg (nI_ge ho (by omega)), qrI_nI (show o < 20 by omega) (by omega), qrI_nI (show p < 20 by omega) (by omega), hfo.1, hfp.1, e]
    simp only [Option.bind_some, show (-1 : Int32) = iI (-1) from rfl, iI_eq (show -2147483648 ≤ f o by omega) (by omega) (show -2147483648 ≤ (-1 : Int) by omega) (by omega), iI_eq (show -2147483648 ≤ f o by omega) (by omega) (show -2147483648 ≤ f p by omega) (by omega), iI_lt (show -2147483648 ≤ f o by omega) (by omega) (show -2147483648 ≤ f p by omega) (by omega), nI_leI (show p < 2 ^ 31 by omega) (show o < 2 ^ 31 by omega), b2i_0, nI_1]
    have y1 : ∀ x : Nat, nI x + b2i true = nI (x + 1) := fun x => nI_add x 1
    have y0 : ∀ x : Nat, nI x + b2i false = nI (x + 0) := fun x => nI_add x 0
    by_cases c2 : f o = -1
    · rw [if_pos c2, if_neg (show ¬ ((o : Int) ≠ p ∧ f o ≠ -1 ∧ (f o < f p ∨ f o = f p ∧ (o : Int) < p)) by omega)]
      by_cases c3 : f o < f p
      · rw [if_pos c3]
        simp [y0]
      · rw [if_neg c3]
        by_cases c4 : f o = f p
        · rw [if_pos c4]
          by_cases c5 : p ≤ o
          · rw [if_pos c5]; simp [y0]
          · rw [if_neg c5]; simp [y0]
        · rw [if_neg c4]; simp [y0]
    · rw [if_neg c2]
      by_cases c3 : f o < f p
      · rw [if_pos c3, if_pos (by refine ⟨fun e => ?_, c2, Or.inl c3⟩; rw [show o = p by omega] at c3; omega)]
        simp [y1]
      · rw [if_neg c3]
        by_cases c4 : f o = f p
        · rw [if_pos c4]
          by_cases c5 : p ≤ o
          · rw [if_pos c5, if_neg (by omega)]; simp [y0]
          · rw [if_neg c5, if_pos (by omega)]; simp [y1]
        · rw [if_neg c4, if_neg (by omega)]; simp [y0]
/-- the tour's two rows -/
def ptr (M : qM) (a b : Nat) : Prop := (a = 69 ∧ b = 70 ∨ a = 70 ∧ b = 69) ∧ M.2.2 65 3 = some a ∧ M.2.2 65 4 = some b
def rTo (M : qM) : Prop := ∃ a b, ptr M a b
def sVi (b x j : Nat) : Prop := x = b ∨ x = 66 ∨ x = 67 ∨ x = 68
def vsI (M : qM) (v : vT) (bw : Nat) (f : Nat → Int) (t : Nat) : Prop := ∀ o, o < vP v → M.1 66 o = thO v bw f o t ∧ M.1 67 o = mnO v bw f o t ∧ M.1 68 o = nI (viO v bw f o t)
theorem visit_wp {M : qM} {k a b t bw : Nat} {v : vT} {f : Nat → Int} (hv : rVC M k v) (hk : 71 ≤ k) (ht : t < vTn v) (hbw : bw ≤ 9) (hab : ptr M a b) (hf : ∀ o, o < vP v → -1 ≤ f o ∧ f o ≤ 60) (hc : ∀ o, o < vP v → M.1 a o = iI (rgo v bw f t o)) (hs : vsI M v bw f t) :
    wp (jTr_visit k (nI t) (nI bw) M) (fun M' => (∀ o, o < vP v → M'.1 b o = iI (rgo v bw f (t + 1) o)) ∧ vsI M' v bw f (t + 1) ∧ fr (sVi b) M M') := by
  have h20 := hv.1.2.2.1
  have hT := hv.1.2.2.2.1 t ht
  have hT4 := hv.1.1
  have hal : q_al b = 20 := by rcases hab.1 with ⟨rfl, rfl⟩ | ⟨rfl, rfl⟩ <;> decide
  have hba : ¬ a = b := by rcases hab.1 with ⟨rfl, rfl⟩ | ⟨rfl, rfl⟩ <;> decide
  have hb70 : b = 69 ∨ b = 70 := by rcases hab.1 with ⟨rfl, rfl⟩ | ⟨rfl, rfl⟩ <;> simp
  have ha70 : a = 69 ∨ a = 70 := by rcases hab.1 with ⟨rfl, rfl⟩ | ⟨rfl, rfl⟩ <;> simp
  unfold jTr_visit
  refine wp_be (ofThing_eq (w := 0) hv ht (by decide)) ?_
  refine wp_be (ofThing_eq (w := 1) hv ht (by decide)) ?_
  simp only [qlt, nI_add]
  refine wp_be hab.2.2 ?_
  refine wp_be (fillI_eq b (-1) M (by omega)) ?_
  rw [hal]
  refine wp_bd (wp_for (fun q s => s.1 = nI q ∧ (∀ o, o < vP v → s.2.1 b o = if o < q then iI (rgo v bw f (t + 1) o) else -1) ∧ (∀ o, o < vP v → s.2.1 66 o = thO v bw f o (if o < q then t + 1 else t) ∧ s.2.1 67 o = mnO v bw f o (if o < q then t + 1 else t) ∧ s.2.1 68 o = nI (viO v bw f o (if o < q then t + 1 else t))) ∧ fr (sVi b) M s.2) (vP v) ?_ ?_ ?_)
  · refine ⟨rfl, fun o ho => ?_, fun o ho => ?_, fr_sI (fun j _ => Or.inl rfl)⟩
    · rw [if_neg (by omega)]
      exact sI_at (by omega)
    · rw [if_neg (by omega)]
      show (sI M b 20 _).1 66 o = _ ∧ (sI M b 20 _).1 67 o = _ ∧ (sI M b 20 _).1 68 o = _
      rw [sI_off (by omega), sI_off (by omega), sI_off (by omega)]
      exact hs o ho
  · rintro q ⟨x, N⟩ hq ⟨e1, e2, e3, e4⟩
    have e1 : x = nI q := e1
    subst e1
    have e2 : ∀ o, o < vP v → N.1 b o = if o < q then iI (rgo v bw f (t + 1) o) else -1 := e2
    have e3 : ∀ o, o < vP v → N.1 66 o = thO v bw f o (if o < q then t + 1 else t) ∧ N.1 67 o = mnO v bw f o (if o < q then t + 1 else t) ∧ N.1 68 o = nI (viO v bw f o (if o < q then t + 1 else t)) := e3
    have e4 : fr (sVi b) M N := e4
    have hvN := rVC_fr hv e4 (fun x j h1 _ => by unfold sVi; omega)
    have hpN3 : N.2.2 65 3 = some a := by rw [(e4 65 3 (by unfold sVi; omega)).2.2]; exact hab.2.1
    have hpN4 : N.2.2 65 4 = some b := by rw [(e4 65 4 (by unfold sVi; omega)).2.2]; exact hab.2.2
    have hcN : ∀ o, o < vP v → N.1 a o = iI (rgo v bw f t o) := fun o ho => by rw [(e4 a o (by unfold sVi; omega)).1]; exact hc o ho
    have hgb := fun o ho => rgo_b (v := v) hbw (hf o ho) t
    have hq1 := hgb q hq
    have hrk := rk_le (n := vP v) (f := rgo v bw f t) (p := q) (m := rgo v bw f t q)
    have eS : viO v bw f q (t + 1) = viO v bw f q t + if rgo v bw f t q ≠ -1 then 1 else 0 := by
      unfold viO
      rw [cnt_S]
      simp only [decide_eq_true_eq]
    simp only [qu2]
    rw [hvN.2.2.2.1]
    refine wp_in (nI_ge hq (by omega)) ?_
    refine wp_be hpN3 ?_
    refine wp_be (qrI_nI (by omega) (by omega)) ?_
    rw [hcN q hq]
    -- how the row goes on
    have fin : ∀ N1 : qM, (∀ x j, x = 66 ∨ x = 67 ∨ x = 68 ∨ x = b → ¬ j = q → N1.1 x j = N.1 x j) → N1.1 66 q = thO v bw f q (t + 1) → N1.1 67 q = mnO v bw f q (t + 1) → N1.1 68 q = nI (viO v bw f q (t + 1)) → N1.1 b q = iI (rgo v bw f (t + 1) q) → fr (sVi b) N N1 →
        nI q + 1 = nI (q + 1) ∧ (∀ o, o < vP v → N1.1 b o = if o < q + 1 then iI (rgo v bw f (t + 1) o) else -1) ∧ (∀ o, o < vP v → N1.1 66 o = thO v bw f o (if o < q + 1 then t + 1 else t) ∧ N1.1 67 o = mnO v bw f o (if o < q + 1 then t + 1 else t) ∧ N1.1 68 o = nI (viO v bw f o (if o < q + 1 then t + 1 else t))) ∧ fr (sVi b) M N1 := by
      intro N1 h0 h1 h2 h3 h4 h5
      refine ⟨nI_1 q, fun o ho => ?_, fun o ho => ?_, e4.tr h5⟩
      · by_cases hoq : o = q
        · rw [hoq, if_pos (by omega)]; exact h4
        · rw [h0 b o (by simp) hoq, e2 o ho]
          by_cases hl : o < q
          · rw [if_pos hl, if_pos (by omega)]
          · rw [if_neg hl, if_neg (by omega)]
      · by_cases hoq : o = q
        · rw [hoq, if_pos (by omega)]; exact ⟨h1, h2, h3⟩
        · rw [h0 66 o (by simp) hoq, h0 67 o (by simp) hoq, h0 68 o (by simp) hoq]
          by_cases hl : o < q
          · rw [if_pos (show o < q + 1 by omega)]
            have := e3 o ho
            rwa [if_pos hl] at this
          · rw [if_neg (show ¬ o < q + 1 by omega)]
            have := e3 o ho
            rwa [if_neg hl] at this
    have e3q := e3 q hq
    rw [if_neg (by omega)] at e3q
    have e2q := e2 q hq
    rw [if_neg (by omega)] at e2q
    refine wp_bd ?_
    refine wp_if (fun hz => ?_) (fun hz => ?_) <;> rw [show (-1 : Int32) = iI (-1) from rfl, iI_eq (by omega) (by omega) (by omega) (by omega)] at hz
    · have hno := rhs_no hz
      refine wp_some (wp_some (fin N (fun x j _ _ => rfl) ?_ ?_ ?_ ?_ (fr_rf _ _)))
      · simp only [thO]; rw [if_neg (by rw [hno]; decide)]; exact e3q.1
      · simp only [mnO]; rw [if_neg (by rw [hno]; decide)]; exact e3q.2.1
      · rw [eS, if_neg (fun e => e hz)]; exact e3q.2.2
      · rw [rgo_stay hz (by omega)]; exact e2q
    · refine wp_be (qrI_nI (show q < 20 by omega) (by omega)) ?_
      refine wp_bd (wp_wI rfl (show q < 20 by omega) (by omega) ?_)
      rw [e3q.2.2, nI_1]
      have f1 : fr (sVi b) N (qI N 68 q (nI (viO v bw f q t + 1))) := fr_I (by simp [sVi])
      have hr : jTr_rankOf (nI q) ((qI N 68 q (nI (viO v bw f q t + 1))).1 k 2) (qI N 68 q (nI (viO v bw f q t + 1))) = some (nI (rk (vP v) (rgo v bw f t) q (rgo v bw f t q))) := by
        rw [(rVC_fr hvN f1 (fun x j h1 _ => by unfold sVi; omega)).2.2.2.1]
        refine trRank_eq (a := a) hpN3 (by omega) hq (fun o ho => ⟨?_, (hgb o ho).1, by have := (hgb o ho).2; omega⟩)
        rw [qI_1, if_neg (by omega)]
        exact hcN o ho
      refine wp_be hr ?_
      refine wp_if (fun hy => ?_) (fun hy => ?_)
      · have hy := (nI_leI (by omega) (by omega)).mp hy
        have hgo : rgo v bw f (t + 1) q = -1 := by simp only [rgo]; rw [if_neg (by omega)]
        refine wp_if (fun hx => ?_) (fun hx => ?_)
        · have hx := (nI_leI (by omega) (by omega)).mp hx
          have hno : rhs v bw f t q = false := by unfold rhs; exact decide_eq_false (by omega)
          refine wp_some (wp_some (fin _ (fun x j h1 h2 => ?_) ?_ ?_ ?_ ?_ f1))
          · rw [qI_1, if_neg (fun e => h2 e.2)]
          · simp only [thO]; rw [if_neg (by rw [hno]; decide), qI_1, if_neg (by omega)]; exact e3q.1
          · simp only [mnO]; rw [if_neg (by rw [hno]; decide), qI_1, if_neg (by omega)]; exact e3q.2.1
          · rw [eS, if_pos hz, qI_1, if_pos ⟨rfl, rfl⟩]
          · rw [hgo, qI_1, if_neg (by omega)]; exact e2q
        · have hx : rk (vP v) (rgo v bw f t) q (rgo v bw f t q) < vTi v t 0 + vTi v t 1 := by
            rcases Nat.lt_or_ge (rk (vP v) (rgo v bw f t) q (rgo v bw f t q)) (vTi v t 0 + vTi v t 1) with h1 | h1
            · exact h1
            · exact absurd (nI_le h1 (by omega)) hx
          have hyes : rhs v bw f t q = true := by unfold rhs; exact decide_eq_true ⟨hz, hy, hx⟩
          refine wp_bd (wp_wI rfl (show q < 20 by omega) (by omega) ?_)
          refine wp_be hpN3 ?_
          refine wp_be (qrI_nI (show q < 20 by omega) (by omega)) ?_
          refine wp_bd (wp_wI rfl (show q < 20 by omega) (by omega) ?_)
          refine wp_some (wp_some (fin _ (fun x j h1 h2 => ?_) ?_ ?_ ?_ ?_ ((f1.tr (fr_I (by simp [sVi]))).tr (fr_I (by simp [sVi])))))
          · rw [qI_1, if_neg (fun e => h2 e.2), qI_1, if_neg (fun e => h2 e.2), qI_1, if_neg (fun e => h2 e.2)]
          · simp only [thO]; rw [if_pos hyes, qI_1, if_neg (by omega), qI_1, if_pos ⟨rfl, rfl⟩]
          · simp only [mnO]
            rw [if_pos hyes, qI_1, if_pos ⟨rfl, rfl⟩, qI_1, if_neg (by omega), qI_1, if_neg (by omega)]
            exact hcN q hq
          · rw [eS, if_pos hz, qI_1, if_neg (by omega), qI_1, if_neg (by omega), qI_1, if_pos ⟨rfl, rfl⟩]
          · rw [hgo, qI_1, if_neg (by omega), qI_1, if_neg (by omega), qI_1, if_neg (by omega)]; exact e2q
      · have hy : rk (vP v) (rgo v bw f t) q (rgo v bw f t q) < vTi v t 0 := by
          rcases Nat.lt_or_ge (rk (vP v) (rgo v bw f t) q (rgo v bw f t q)) (vTi v t 0) with h1 | h1
          · exact h1
          · exact absurd (nI_le h1 (by omega)) hy
        have hgo : rgo v bw f (t + 1) q = rgo v bw f t q + bw := by simp only [rgo]; rw [if_pos ⟨hz, hy⟩]
        have hno : rhs v bw f t q = false := by unfold rhs; exact decide_eq_false (by omega)
        refine wp_be hpN4 ?_
        refine wp_be hpN3 ?_
        refine wp_be (qrI_nI (show q < 20 by omega) (by omega)) ?_
        refine wp_bd (wp_wI rfl (show q < 20 by omega) (by omega) ?_)
        refine wp_some (wp_some (fin _ (fun x j h1 h2 => ?_) ?_ ?_ ?_ ?_ (f1.tr (fr_I (by simp [sVi])))))
        · rw [qI_1, if_neg (fun e => h2 e.2), qI_1, if_neg (fun e => h2 e.2)]
        · simp only [thO]; rw [if_neg (by rw [hno]; decide), qI_1, if_neg (by omega), qI_1, if_neg (by omega)]; exact e3q.1
        · simp only [mnO]; rw [if_neg (by rw [hno]; decide), qI_1, if_neg (by omega), qI_1, if_neg (by omega)]; exact e3q.2.1
        · rw [eS, if_pos hz, qI_1, if_neg (by omega), qI_1, if_pos ⟨rfl, rfl⟩]
        · rw [hgo, qI_1, if_pos ⟨rfl, rfl⟩, qI_1, if_neg (by omega), hcN q hq, nI_iI, iI_add]
  · rintro ⟨x, N⟩ ⟨e1, e2, e3, e4⟩
    have e1 : x = nI (vP v) := e1
    subst e1
    have e4 : fr (sVi b) M N := e4
    have hvN := rVC_fr hv e4 (fun x j h1 _ => by unfold sVi; omega)
    simp only [qu2]
    rw [hvN.2.2.2.1]
    refine wp_ip (nI_le (Nat.le_refl _) (by omega)) (wp_some (wp_some ⟨fun o ho => ?_, fun o ho => ?_, e4⟩))
    · have := e2 o ho
      rwa [if_pos ho] at this
    · have := e3 o ho
      rwa [if_pos ho] at this
