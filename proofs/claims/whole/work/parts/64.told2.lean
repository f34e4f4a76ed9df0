/-! ===== told: what one asks of the class ===== -/
theorem rankB_p {M : qM} {k : Nat} {v : vT} {t p : Nat} {f : Nat → Int} (h : tdC M k v t f) (hp : p < vP v) :
    wp (jTo_rankBesideOthers (nI p) M) (fun M' => (∀ m, m < 61 → M'.1 64 m = nI (rk (vP v) f p m)) ∧ tdC M' k v t f ∧ fr sRk M M') := by
  have h20 := h.1.1.2.2.1
  rw [nI_iI]
  exact (rankB_wp h (by omega) (by omega)).mono (fun M' g => ⟨g.1, tdC_rk h g.2.2, g.2.2⟩)
theorem rankOf_wp {M : qM} {k : Nat} {v : vT} {t p : Nat} {f : Nat → Int} (h : tdC M k v t f) (hp : p < vP v) :
    wp (jTo_rankOf (nI p) M) (fun r => r.1 = (if f p < 0 then -1 else nI (rk (vP v) f p (f p))) ∧ tdC r.2 k v t f ∧ fr sRk M r.2) := by
  have h20 := h.1.1.2.2.1
  unfold jTo_rankOf
  refine wp_bd ((rankB_p h hp).mono ?_)
  rintro M1 ⟨g1, g2, g3⟩
  have hf := g2.2.2.2.2.2 p (by omega)
  refine wp_be (qrI_nI (by omega) (by omega)) ?_
  rw [hf.1, iI_isOf hf.2.1 hf.2.2]
  refine wp_bd ?_
  refine wp_if (fun hz => ?_) (fun hz => ?_)
  · rw [b2i_0, decide_eq_false_iff_not] at hz
    exact wp_some (wp_some ⟨by rw [if_pos (by omega)], g2, g3⟩)
  · rw [b2i_0, decide_eq_false_iff_not, Decidable.not_not] at hz
    refine wp_be (qrI_nI (by omega) (by omega)) ?_
    rw [hf.1, iI_nat hz]
    refine wp_be (qrI_nI (by omega) (by omega)) ?_
    refine wp_some (wp_some ⟨?_, g2, g3⟩)
    show M1.1 64 (f p).toNat = _
    rw [g1 _ (by omega), if_neg (by omega), Int.toNat_of_nonneg hz]
theorem gainOf_wp {M : qM} {k : Nat} {v : vT} {t p : Nat} {f : Nat → Int} (h : tdC M k v t f) (hp : p < vP v) :
    wp (jTo_gainOf (nI p) M) (fun r => r.1 = iI (tgn v t f p (f p)) ∧ tdC r.2 k v t f ∧ fr sRk M r.2) := by
  have h20 := h.1.1.2.2.1
  unfold jTo_gainOf
  refine wp_bd ((rankB_p h hp).mono ?_)
  rintro M1 ⟨g1, g2, g3⟩
  have hf := g2.2.2.2.2.2 p (by omega)
  refine wp_be (qrI_nI (by omega) (by omega)) ?_
  rw [hf.1]
  refine wp_be (gainBy_eq g2 hp g1 hf.2.1 hf.2.2) ?_
  exact wp_some ⟨rfl, g2, g3⟩
theorem answerOf_wp {M : qM} {k : Nat} {v : vT} {t p : Nat} {f : Nat → Int} (h : tdC M k v t f) (hp : p < vP v) :
    wp (jTo_answerOf (nI p) M) (fun r => r.1 = iI (ansI (tgn v t f p)) ∧ (∀ m, m < 61 → r.2.1 64 m = nI (rk (vP v) f p m)) ∧ tdC r.2 k v t f ∧ fr sRk M r.2) := by
  unfold jTo_answerOf
  refine wp_bd ((rankB_p h hp).mono ?_)
  rintro M1 ⟨g1, g2, g3⟩
  refine wp_be (bestB_eq g2 hp g1) ?_
  exact wp_some ⟨rfl, g1, g2, g3⟩
theorem regretOf_wp {M : qM} {k : Nat} {v : vT} {t p : Nat} {f : Nat → Int} (h : tdC M k v t f) (hp : p < vP v) :
    wp (jTo_regretOf (nI p) M) (fun r => r.1 = iI (trg v t f p) ∧ tdC r.2 k v t f ∧ fr sRk M r.2) := by
  have h20 := h.1.1.2.2.1
  unfold jTo_regretOf
  refine wp_bd ((answerOf_wp h hp).mono ?_)
  rintro ⟨x, M1⟩ ⟨e1, g1, g2, g3⟩
  have e1 : x = iI (ansI (tgn v t f p)) := e1
  subst e1
  have g1 : ∀ m, m < 61 → M1.1 64 m = nI (rk (vP v) f p m) := g1
  have g2 : tdC M1 k v t f := g2
  have hf := g2.2.2.2.2.2 p (by omega)
  have ha := ansI_b (tgn v t f p)
  simp only [qu2]
  refine wp_be (gainBy_eq g2 hp g1 ha.1 ha.2) ?_
  refine wp_be (qrI_nI (by omega) (by omega)) ?_
  rw [hf.1]
  refine wp_be (gainBy_eq g2 hp g1 hf.2.1 hf.2.2) ?_
  refine wp_some ⟨?_, g2, g3⟩
  show iI _ - iI _ = _
  rw [iI_sub]
  rfl
/-! ===== told: the reference's side ===== -/
def tdM (M : qM) (i : Nat) (v : vT) (t : Nat) (f : Nat → Int) : Prop := rVM M i v ∧ i < 5 ∧ M.1 91 55 = nI i ∧ M.1 91 56 = nI t ∧ t < vTn v ∧ ∀ o, o < 20 → M.1 116 o = iI (f o) ∧ -1 ≤ f o ∧ f o ≤ 60
theorem tdM_fr {M M1 : qM} {i : Nat} {v : vT} {t : Nat} {f : Nat → Int} {S : Nat → Nat → Prop} (h : tdM M i v t f) (g : fr S M M1) (h1 : ∀ b j, 102 ≤ b → b ≤ 106 → ¬ S b j) (h2 : ∀ j, 55 ≤ j → j ≤ 56 → ¬ S 91 j) (h3 : ∀ j, ¬ S 116 j) : tdM M1 i v t f := by
  obtain ⟨a1, a2, a3, a4, a5, a6⟩ := h
  exact ⟨rVM_fr a1 g h1, a2, by rw [(g 91 55 (h2 55 (by omega) (by omega))).1]; exact a3, by rw [(g 91 56 (h2 56 (by omega) (by omega))).1]; exact a4, a5, fun o ho => by rw [(g 116 o (h3 o)).1]; exact a6 o ho⟩
def sTo (p b j : Nat) : Prop := b = 116 ∧ j = p
def sT6 (b j : Nat) : Prop := b = 116
theorem tdM_up {M : qM} {i : Nat} {v : vT} {t p : Nat} {f : Nat → Int} {x : Int} (h : tdM M i v t f) (h1 : -1 ≤ x) (h2 : x ≤ 60) : tdM (qI M 116 p (iI x)) i v t (upI f p x) := by
  obtain ⟨a1, a2, a3, a4, a5, a6⟩ := h
  have g : fr sT6 M (qI M 116 p (iI x)) := fr_I rfl
  refine ⟨rVM_fr a1 g (fun b j _ _ => by unfold sT6; omega), a2, ?_, ?_, a5, fun o ho => ?_⟩
  · rw [(g 91 55 (by simp [sT6])).1]; exact a3
  · rw [(g 91 56 (by simp [sT6])).1]; exact a4
  · rw [qI_1]
    unfold upI
    by_cases hop : o = p
    · rw [if_pos ⟨rfl, hop⟩, if_pos hop]
      exact ⟨rfl, h1, h2⟩
    · rw [if_neg (fun e => hop e.2), if_neg hop]
      exact a6 o ho
theorem tdM_ext {M : qM} {i : Nat} {v : vT} {t : Nat} {f f' : Nat → Int} (h : tdM M i v t f) (e : ∀ o, o < 20 → f o = f' o) : tdM M i v t f' :=
  ⟨h.1, h.2.1, h.2.2.1, h.2.2.2.1, h.2.2.2.2.1, fun o ho => by rw [← e o ho]; exact h.2.2.2.2.2 o ho⟩
theorem upI_up (f : Nat → Int) (p : Nat) (x y : Int) : upI (upI f p x) p y = upI f p y := by
  funext o
  unfold upI
  by_cases h : o = p <;> simp [h]
theorem upI_id (f : Nat → Int) (p : Nat) : upI f p (f p) = f := by
  funext o
  unfold upI
  by_cases h : o = p <;> simp [h]
theorem toldRank_eq {M : qM} {i : Nat} {v : vT} {t p : Nat} {f : Nat → Int} (h : tdM M i v t f) (hp : p < vP v) : jMd_toldRank (nI p) M = some (if f p < 0 then -1 else nI (rk (vP v) f p (f p))) := by
  have h20 := h.1.1.2.2.1
  have hi := h.2.1
  have hf := h.2.2.2.2.2 p (by omega)
  unfold jMd_toldRank
  rw [qrI_nI (show p < 20 by omega) (by omega), hf.1]
  simp only [Option.bind_some]
  rw [show (-1 : Int32) = iI (-1) from rfl]
  by_cases hz : f p < 0
  · rw [if_pos (iI_congr (by omega)), if_pos hz]
  · rw [if_neg (by rw [iI_eq (by omega) (by omega) (by omega) (by omega)]; omega), if_neg hz]
    rw [qlp_for0 (s0 := ((1 : Int32), (0 : Int32))) (fun o => (nI (rk o f p (f p)), nI o)) (nI (rk (vP v) f p (f p))) (vP v) rfl (fun o ho => ?_) ?_]
    · rfl
    · simp only [qu2, h.2.2.1]
      rw [qrI_nI hi (by omega), h.1.2.2.2.1]
      simp only [Option.bind_some]
      rw [if_pos (nI_le (Nat.le_refl _) (by omega))]
    · have hfo := h.2.2.2.2.2 o (by omega)
      have e : rk (o + 1) f p (f p) = rk o f p (f p) + if ((o : Int) ≠ p ∧ f o ≠ -1 ∧ (f o < f p ∨ f o = f p ∧ (o : Int) < p)) then 1 else 0 := by
        unfold rk
        rw [cnt_S, Nat.add_assoc]
        simp only [decide_eq_true_eq]
      simp only [qu2, qlt, h.2.2.1]
      rw [qrI_nI hi (by omega), h.1.2.2.2.1]
      simp only [Option.bind_some]
      rw [if_neg (nI_ge ho (by omega)), qrI_nI (show o < 20 by omega) (by omega), hfo.1, e]
      simp only [Option.bind_some, iI_eq (show -2147483648 ≤ f o by omega) (by omega) (show -2147483648 ≤ (-1 : Int) by omega) (by omega), iI_eq (show -2147483648 ≤ f o by omega) (by omega) (show -2147483648 ≤ f p by omega) (by omega), iI_lt (show -2147483648 ≤ f o by omega) (by omega) (show -2147483648 ≤ f p by omega) (by omega), nI_eq (show o < 2 ^ 31 by omega) (show p < 2 ^ 31 by omega), nI_leI (show p < 2 ^ 31 by omega) (show o < 2 ^ 31 by omega)]
      by_cases c1 : o = p
      · rw [if_pos c1, if_neg (by omega)]
        simp only [Option.bind_some]
        rw [nI_1]
        show some (Sum.inl (nI _ + nI 0, _)) = _
        rw [nI_add]
      · rw [if_neg c1]
        by_cases c2 : f o = -1
        · rw [if_pos c2, if_neg (by omega)]
          simp only [Option.bind_some]
          rw [nI_1]
          show some (Sum.inl (nI _ + nI 0, _)) = _
          rw [nI_add]
        · rw [if_neg c2]
          by_cases c3 : f o < f p
          · rw [if_pos c3, if_pos (by omega)]
            simp only [Option.bind_some]
            rw [nI_1]
            show some (Sum.inl (nI _ + nI 1, _)) = _
            rw [nI_add]
          · rw [if_neg c3]
            by_cases c4 : f o = f p
            · rw [if_pos c4]
              by_cases c5 : p ≤ o
              · rw [if_pos c5, if_neg (by omega)]
                simp only [Option.bind_some]
                rw [nI_1]
                show some (Sum.inl (nI _ + nI 0, _)) = _
                rw [nI_add]
              · rw [if_neg c5, if_pos (by omega)]
                simp only [Option.bind_some]
                rw [nI_1]
                show some (Sum.inl (nI _ + nI 1, _)) = _
                rw [nI_add]
            · rw [if_neg c4, if_neg (by omega)]
              simp only [Option.bind_some]
              rw [nI_1]
              show some (Sum.inl (nI _ + nI 0, _)) = _
              rw [nI_add]
theorem in_has {r a b : Nat} (hb : 1 ≤ b) (hr : r < 1000) (ha : a < 1000) (hb2 : b < 1000) : jMd_in (nI r) (nI a) (nI a + nI b - 1) = decide (a ≤ r ∧ r < a + b) := by
  rw [Bool.eq_iff_iff, in_iff, decide_eq_true_eq, nI_add, show (1 : Int32) = nI 1 from rfl, nI_subE (by omega), nI_toInt (by omega), nI_toInt (by omega), nI_toInt (by omega)]
  omega
theorem toldGain_eq {M : qM} {i : Nat} {v : vT} {t p : Nat} {f : Nat → Int} (h : tdM M i v t f) (hp : p < vP v) : jMd_toldGain (nI p) M = some (iI (tgn v t f p (f p))) := by
  have h20 := h.1.1.2.2.1
  have hi := h.2.1
  have hf := h.2.2.2.2.2 p (by omega)
  have ht := h.2.2.2.2.1
  have hT := h.1.1.2.2.2.1 t ht
  unfold jMd_toldGain tgn
  simp only [qlt, h.2.2.1, h.2.2.2.1]
  have t0 : jMd_thingAt (nI i) (nI t) 0 M = some (nI (vTi v t 0)) := thingAt_eq (w := 0) h.1 hi ht (by decide)
  have t1 : jMd_thingAt (nI i) (nI t) 1 M = some (nI (vTi v t 1)) := thingAt_eq (w := 1) h.1 hi ht (by decide)
  have t2 : jMd_thingAt (nI i) (nI t) 2 M = some (nI (vTi v t 2)) := thingAt_eq (w := 2) h.1 hi ht (by decide)
  have t3 : jMd_thingAt (nI i) (nI t) 3 M = some (nI (vTi v t 3)) := thingAt_eq (w := 3) h.1 hi ht (by decide)
  have s2 : jMd_sortAt (nI i) (nI (vof v p)) 2 M = some (nI (vSi v (vof v p) 2)) := sortAt_eq (w := 2) h.1 hi (vof_spec hp).1 (by decide)
  rw [t0, t1, t2, t3, sortOf_eq h.1 hi hp]
  simp only [Option.bind_some]
  rw [s2, qrI_nI (show p < 20 by omega) (by omega), hf.1]
  simp only [Option.bind_some]
  rw [toldRank_eq h hp]
  simp only [Option.bind_some]
  by_cases hz : f p < 0
  · rw [if_pos (show iI (f p) = -1 from iI_congr (b := -1) (by omega)), if_pos hz, nI_iI, iI_neg, show (60 : Int32) = iI 60 from rfl, iI_mul]
    congr 2
    omega
  · obtain ⟨q, hq⟩ : ∃ q : Nat, f p = q := ⟨(f p).toNat, by omega⟩
    rw [hq]
    have hrk := rk_le (n := vP v) (f := f) (p := p) (m := q)
    have h7 : vTi v t 3 * q ≤ 99 * 60 := Nat.mul_le_mul (by omega) (by omega)
    rw [if_neg (show ¬ iI (q : Int) = -1 by rw [show (-1 : Int32) = iI (-1) from rfl, iI_eq (by omega) (by omega) (by omega) (by omega)]; omega), if_neg (show ¬ (q : Int) < 0 by omega), if_neg (show ¬ (q : Int) < 0 by omega)]
    rw [in_has (by omega) (by omega) (by omega) (by omega)]
    simp only [b2i_0, decide_eq_false_iff_not]
    rw [← nI_iI]
    by_cases hh : vTi v t 0 ≤ rk (vP v) f p q ∧ rk (vP v) f p q < vTi v t 0 + vTi v t 1
    · rw [if_neg (fun e => e hh), if_pos hh]
      simp only [Option.bind_some]
      rw [nI_mul, nI_mul, jmax_sub (by omega) (by omega), nI_iI, nI_iI, iI_sub]
      congr 2
    · rw [if_pos hh, if_neg hh]
      simp only [Option.bind_some]
      rw [nI_mul, nI_iI, show (0 : Int32) = iI 0 from rfl, iI_sub]
      congr 2
theorem mAnswer_wp {M : qM} {i : Nat} {v : vT} {t p : Nat} {f : Nat → Int} (h : tdM M i v t f) (hp : p < vP v) : wp (jMd_answer (nI p) M) (fun r => r.1 = iI (ansI (tgn v t f p)) ∧ tdM r.2 i v t f ∧ fr (sTo p) M r.2) := by
  have h20 := h.1.1.2.2.1
  have hf := h.2.2.2.2.2 p (by omega)
  have hb : ∀ j : Nat, j ≤ 60 → -6000 ≤ (bst (tgn v t f p) j).2 ∧ (bst (tgn v t f p) j).2 ≤ 1000 := by
    intro j hj
    have h1 := bst_b (tgn v t f p) j
    rw [h1.2.2]
    exact tgn_b h.1.1 h.2.2.2.2.1 hp (by omega)
  have hg : ∀ (N : qM) (x : Int), tdM N i v t (upI f p x) → jMd_toldGain (nI p) N = some (iI (tgn v t f p x)) := by
    intro N x hN
    rw [toldGain_eq hN hp, tgn_up]
    simp [upI]
  unfold jMd_answer
  refine wp_be (qrI_nI (by omega) (by omega)) ?_
  refine wp_bd (wp_wI rfl (show p < 20 by omega) (by omega) ?_)
  have h1 : tdM (qI M 116 p 0) i v t (upI f p 0) := tdM_up (x := 0) h (by omega) (by omega)
  refine wp_be (hg _ _ h1) ?_
  refine wp_bd (wp_for (fun j s => s.1 = iI (bst (tgn v t f p) j).1 ∧ s.2.1 = iI (bst (tgn v t f p) j).2 ∧ s.2.2.1 = nI (j + 1) ∧ (∃ x, tdM s.2.2.2 i v t (upI f p x)) ∧ fr (sTo p) M s.2.2.2) 60 ?_ ?_ ?_)
  · exact ⟨rfl, rfl, rfl, ⟨0, h1⟩, fr_I ⟨rfl, rfl⟩⟩
  · rintro j ⟨x, y, z, N⟩ hj ⟨e1, e2, e3, ⟨w, e4⟩, e5⟩
    have e1 : x = iI (bst (tgn v t f p) j).1 := e1
    have e2 : y = iI (bst (tgn v t f p) j).2 := e2
    have e3 : z = nI (j + 1) := e3
    subst e1 e2 e3
    have e4 : tdM N i v t (upI f p w) := e4
    have e5 : fr (sTo p) M N := e5
    have ec : ((j + 1 : Nat) : Int) = (j : Int) + 1 := by omega
    simp only [qu4]
    refine wp_in (nI_nlt (a := 60) (by omega) (by omega)) ?_
    refine wp_bd (wp_wI rfl (show p < 20 by omega) (by omega) ?_)
    have h2 : tdM (qI N 116 p (nI (j + 1))) i v t (upI f p ((j : Int) + 1)) := by
      have := tdM_up (p := p) (x := (j : Int) + 1) e4 (by omega) (by omega)
      rw [upI_up] at this
      rw [nI_iI, ec]
      exact this
    refine wp_be (hg _ _ h2) ?_
    have h1 := hb j (by omega)
    have h3 := tgn_b (f := f) (m := (j : Int) + 1) h.1.1 h.2.2.2.2.1 hp (by omega)
    simp only [qlt]
    refine wp_some ⟨?_, ?_, nI_1 (j + 1), ⟨_, h2⟩, e5.tr (fr_I ⟨rfl, rfl⟩)⟩
    · show (if iI (tgn v t f p ((j : Int) + 1)) ≤ iI (bst (tgn v t f p) j).2 then _ else _) = _
      simp only [bst, iI_le (show -2147483648 ≤ tgn v t f p ((j : Int) + 1) by omega) (by omega) (show -2147483648 ≤ (bst (tgn v t f p) j).2 by omega) (by omega)]
      split
      · rfl
      · rw [nI_iI, ec]
    · show jmaxI (iI (bst (tgn v t f p) j).2) (iI (tgn v t f p ((j : Int) + 1))) = _
      unfold jmaxI
      simp only [bst, iI_lt (show -2147483648 ≤ (bst (tgn v t f p) j).2 by omega) (by omega) (show -2147483648 ≤ tgn v t f p ((j : Int) + 1) by omega) (by omega)]
      by_cases hc : tgn v t f p ((j : Int) + 1) ≤ (bst (tgn v t f p) j).2
      · rw [if_pos hc, if_neg (by omega)]
      · rw [if_neg hc, if_pos (by omega)]
  · rintro ⟨x, y, z, N⟩ ⟨e1, e2, e3, ⟨w, e4⟩, e5⟩
    have e1 : x = iI (bst (tgn v t f p) 60).1 := e1
    have e2 : y = iI (bst (tgn v t f p) 60).2 := e2
    have e3 : z = nI 61 := e3
    subst e1 e2 e3
    have e4 : tdM N i v t (upI f p w) := e4
    have e5 : fr (sTo p) M N := e5
    simp only [qu4]
    refine wp_ip (by decide) (wp_some ?_)
    show wp _ _
    simp only [qu3]
    refine wp_bd (wp_wI rfl (show p < 20 by omega) (by omega) ?_)
    have h2 : tdM (qI N 116 p (-1)) i v t (upI f p (-1)) := by
      have := tdM_up (p := p) (x := -1) e4 (by omega) (by omega)
      rw [upI_up] at this
      exact this
    refine wp_be (hg _ _ h2) ?_
    refine wp_lt (fun x14 hx => ?_)
    refine wp_bd (wp_wI rfl (show p < 20 by omega) (by omega) ?_)
    have h3 : tdM (qI (qI N 116 p (-1)) 116 p (M.1 116 p)) i v t f := by
      have := tdM_up (p := p) (x := f p) h2 hf.2.1 hf.2.2
      rw [upI_up, upI_id] at this
      rw [hf.1]
      exact this
    refine wp_some ⟨?_, h3, (e5.tr (fr_I ⟨rfl, rfl⟩)).tr (fr_I ⟨rfl, rfl⟩)⟩
    show x14 = _
    rw [hx]
    have h1 := hb 60 (by omega)
    have h4 := tgn_b (f := f) (m := -1) h.1.1 h.2.2.2.2.1 hp (by omega)
    unfold ansI
    simp only [iI_le (show -2147483648 ≤ tgn v t f p (-1) by omega) (by omega) (show -2147483648 ≤ (bst (tgn v t f p) 60).2 by omega) (by omega)]
    split <;> rfl
theorem mRegret_wp {M : qM} {i : Nat} {v : vT} {t p : Nat} {f : Nat → Int} (h : tdM M i v t f) (hp : p < vP v) : wp (jMd_regret (nI p) M) (fun r => r.1 = iI (trg v t f p) ∧ tdM r.2 i v t f ∧ fr (sTo p) M r.2) := by
  have h20 := h.1.1.2.2.1
  have hf := h.2.2.2.2.2 p (by omega)
  have ha := ansI_b (tgn v t f p)
  unfold jMd_regret
  refine wp_be (qrI_nI (by omega) (by omega)) ?_
  refine wp_be (toldGain_eq h hp) ?_
  refine wp_bd ((mAnswer_wp h hp).mono ?_)
  rintro ⟨x, N⟩ ⟨e1, e2, e3⟩
  have e1 : x = iI (ansI (tgn v t f p)) := e1
  subst e1
  have e2 : tdM N i v t f := e2
  have e3 : fr (sTo p) M N := e3
  simp only [qu2]
  refine wp_bd (wp_wI rfl (show p < 20 by omega) (by omega) ?_)
  have h2 := tdM_up (p := p) e2 ha.1 ha.2
  refine wp_be (toldGain_eq h2 hp) ?_
  refine wp_lt (fun x8 hx8 => ?_)
  refine wp_bd (wp_wI rfl (show p < 20 by omega) (by omega) ?_)
  have h3 : tdM (qI (qI N 116 p (iI (ansI (tgn v t f p)))) 116 p (M.1 116 p)) i v t f := by
    have := tdM_up (p := p) (x := f p) h2 hf.2.1 hf.2.2
    rw [upI_up, upI_id] at this
    rw [hf.1]
    exact this
  refine wp_some ⟨?_, h3, (e3.tr (fr_I ⟨rfl, rfl⟩)).tr (fr_I ⟨rfl, rfl⟩)⟩
  show x8 = _
  rw [hx8, iI_sub, tgn_up]
  simp only [upI, if_true]
  rfl
