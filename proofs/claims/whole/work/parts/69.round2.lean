theorem walk_wp {M : qM} {k t bw : Nat} {v : vT} {f : Nat → Int} (h : tdC M k v t f) (hbw : bw ≤ 9) (hto : rTo M) :
    wp (jTr_walk (nI bw) M) (fun M' => vsI M' v bw f (vTn v) ∧ rTo M' ∧ tdC M' k v t f ∧ fr sUC M M') := by
  obtain ⟨a, b, hab⟩ := hto
  have h20 := h.1.1.2.2.1
  have hT4 := h.1.1.1
  unfold jTr_walk
  refine wp_be (fillI_eq 66 (-1) M (by decide)) ?_
  refine wp_be (fillI_eq 67 (-1) _ (by decide)) ?_
  refine wp_be (fillI_eq 68 0 _ (by decide)) ?_
  refine wp_be (x := a) hab.2.1 ?_
  have ha70 : a = 69 ∨ a = 70 := by rcases hab.1 with ⟨rfl, rfl⟩ | ⟨rfl, rfl⟩ <;> simp
  refine wp_bd ((cp_wp (by omega)).mono ?_)
  rintro M1 ⟨c1, c2⟩
  have f1 : fr (fun x _ => 66 ≤ x ∧ x ≤ 70) M M1 := (((fr_sI (fun j _ => by omega)).tr (fr_sI (fun j _ => by omega))).tr (fr_sI (fun j _ => by omega))).tr (c2.mono (fun x j hx => by omega))
  have hf : ∀ o, o < vP v → -1 ≤ f o ∧ f o ≤ 60 := fun o ho => (h.2.2.2.2.2 o (by omega)).2
  have hC1 : tdC M1 k v t f := tdC_fr h f1 (fun x j hx => by omega) (fun j _ => by omega) (fun j => by omega)
  have hab1 : ptr M1 a b := ⟨hab.1, by rw [(f1 65 3 (by omega)).2.2]; exact hab.2.1, by rw [(f1 65 4 (by omega)).2.2]; exact hab.2.2⟩
  refine wp_bd (wp_for (fun q s => s.1 = nI q ∧ (∃ a b, ptr s.2 a b ∧ ∀ o, o < vP v → s.2.1 a o = iI (rgo v bw f q o)) ∧ vsI s.2 v bw f q ∧ tdC s.2 k v t f ∧ fr sUC M s.2) (vTn v) ?_ ?_ ?_)
  · refine ⟨rfl, ⟨a, b, hab1, fun o ho => ?_⟩, fun o ho => ?_, hC1, f1.mono (fun x j hx => by unfold sUC; omega)⟩
    · show M1.1 a o = _
      rw [c1 o (by omega), sI_off (by decide), sI_off (by decide), sI_off (by decide)]
      exact (h.2.2.2.2.2 o (by omega)).1
    · show M1.1 66 o = _ ∧ M1.1 67 o = _ ∧ M1.1 68 o = _
      rw [(c2 66 o (by omega)).1, (c2 67 o (by omega)).1, (c2 68 o (by omega)).1, sI_at (show o < q_al 68 from by show o < 20; omega), sI_off (show ¬ 67 = 68 by decide), sI_off (show ¬ 66 = 68 by decide), sI_at (show o < q_al 67 from by show o < 20; omega), sI_off (show ¬ 66 = 67 by decide), sI_at (show o < q_al 66 from by show o < 20; omega)]
      exact ⟨rfl, rfl, rfl⟩
  · rintro q ⟨x, N⟩ hq ⟨e1, ⟨a, b, e2, e3⟩, e4, e5, e6⟩
    have e1 : x = nI q := e1
    subst e1
    have e2 : ptr N a b := e2
    have e3 : ∀ o, o < vP v → N.1 a o = iI (rgo v bw f q o) := e3
    have e4 : vsI N v bw f q := e4
    have e5 : tdC N k v t f := e5
    have e6 : fr sUC M N := e6
    have hb70 : b = 69 ∨ b = 70 := by rcases e2.1 with ⟨rfl, rfl⟩ | ⟨rfl, rfl⟩ <;> simp
    simp only [qu2]
    refine wp_be e5.2.2.1 ?_
    rw [e5.1.2.1]
    refine wp_in (nI_ge hq (by omega)) ?_
    refine wp_be e5.2.2.1 ?_
    refine wp_bd ((visit_wp e5.1 e5.2.1 hq hbw e2 hf e3 e4).mono ?_)
    rintro N1 ⟨g1, g2, g3⟩
    have p3 : N1.2.2 65 3 = some a := by rw [(g3 65 3 (by unfold sVi; omega)).2.2]; exact e2.2.1
    have p4 : N1.2.2 65 4 = some b := by rw [(g3 65 4 (by unfold sVi; omega)).2.2]; exact e2.2.2
    refine wp_be p3 ?_
    refine wp_be p4 ?_
    simp only [qlt]
    have g4 : fr (fun x j => 65 ≤ x ∧ x ≤ 70) N (qR (qR N1 65 3 (some b)) 65 4 (some a)) := ((g3.mono (fun x j hx => by unfold sVi at hx; omega)).tr (fr_R (by omega))).tr (fr_R (by omega))
    refine wp_some ⟨nI_1 q, ⟨b, a, ⟨?_, ?_, ?_⟩, g1⟩, g2, tdC_fr e5 g4 (fun x j hx => by omega) (fun j _ => by omega) (fun j => by omega), e6.tr (g4.mono (fun x j hx => by unfold sUC; omega))⟩
    · rcases e2.1 with h1 | h1
      · exact Or.inr ⟨h1.2, h1.1⟩
      · exact Or.inl ⟨h1.2, h1.1⟩
    · show (qR (qR N1 65 3 (some b)) 65 4 (some a)).2.2 65 3 = _
      rw [qR_22, if_neg (by omega), qR_22, if_pos ⟨rfl, rfl⟩]
    · show (qR (qR N1 65 3 (some b)) 65 4 (some a)).2.2 65 4 = _
      rw [qR_22, if_pos ⟨rfl, rfl⟩]
  · rintro ⟨x, N⟩ ⟨e1, ⟨a, b, e2, e3⟩, e4, e5, e6⟩
    have e1 : x = nI (vTn v) := e1
    subst e1
    have e5 : tdC N k v t f := e5
    simp only [qu2]
    refine wp_be e5.2.2.1 ?_
    rw [e5.1.2.1]
    exact wp_ip (nI_le (Nat.le_refl _) (by omega)) (wp_some (wp_some ⟨e4, ⟨a, b, e2⟩, e5, e6⟩))
/-! ===== the reference's round ===== -/
theorem rankAm_eq {M : qM} {i p n : Nat} {f : Nat → Int} (hi : M.1 91 55 = nI i) (hi5 : i < 5) (hn : M.1 104 i = nI n) (h20 : n ≤ 20) (hp : p < n) (hf : ∀ o, o < n → M.1 118 o = iI (f o) ∧ -1 ≤ f o ∧ f o ≤ 1000) : jMd_rankAmong (nI p) M = some (nI (rk n f p (f p))) := by
  have hfp := hf p hp
  unfold jMd_rankAmong
  rw [qlp_for0 (s0 := ((1 : Int32), (0 : Int32))) (fun o => (nI (rk o f p (f p)), nI o)) (nI (rk n f p (f p))) n rfl (fun o ho => ?_) ?_]
  · rfl
  · simp only [qu2, hi]
    rw [qrI_nI hi5 (by omega), hn]
    simp only [Option.bind_some]
    rw [if_pos (nI_le (Nat.le_refl _) (by omega))]
  · have hfo := hf o ho
    have e : rk (o + 1) f p (f p) = rk o f p (f p) + if ((o : Int) ≠ p ∧ f o ≠ -1 ∧ (f o < f p ∨ f o = f p ∧ (o : Int) < p)) then 1 else 0 := by
      unfold rk
      rw [cnt_S, Nat.add_assoc]
      simp only [decide_eq_true_eq]
    have y1 : ∀ x : Nat, nI x + b2i true = nI (x + 1) := fun x => nI_add x 1
    have y0 : ∀ x : Nat, nI x + b2i false = nI (x + 0) := fun x => nI_add x 0
    simp only [qu2, qlt, hi]
    rw [qrI_nI hi5 (by omega), hn]
    simp only [Option.bind_some]
    rw [if_neg (nI_ge ho (by omega)), qrI_nI (show o < 20 by omega) (by omega), qrI_nI (show p < 20 by omega) (by omega), hfo.1, hfp.1, e]
    simp only [Option.bind_some, show (-1 : Int32) = iI (-1) from rfl, iI_eq (show -2147483648 ≤ f o by omega) (by omega) (show -2147483648 ≤ (-1 : Int) by omega) (by omega), iI_eq (show -2147483648 ≤ f o by omega) (by omega) (show -2147483648 ≤ f p by omega) (by omega), iI_lt (show -2147483648 ≤ f o by omega) (by omega) (show -2147483648 ≤ f p by omega) (by omega), nI_eq (show o < 2 ^ 31 by omega) (show p < 2 ^ 31 by omega), nI_leI (show p < 2 ^ 31 by omega) (show o < 2 ^ 31 by omega), nI_1]
    by_cases c1 : o = p
    · rw [if_pos c1, if_neg (show ¬ ((o : Int) ≠ p ∧ f o ≠ -1 ∧ (f o < f p ∨ f o = f p ∧ (o : Int) < p)) by omega)]
      simp [y0]
    · rw [if_neg c1]
      by_cases c2 : f o = -1
      · rw [if_pos c2, if_neg (show ¬ ((o : Int) ≠ p ∧ f o ≠ -1 ∧ (f o < f p ∨ f o = f p ∧ (o : Int) < p)) by omega)]
        simp [y0]
      · rw [if_neg c2]
        by_cases c3 : f o < f p
        · rw [if_pos c3, if_pos (show ((o : Int) ≠ p ∧ f o ≠ -1 ∧ (f o < f p ∨ f o = f p ∧ (o : Int) < p)) by omega)]
          simp [y1]
        · rw [if_neg c3]
          by_cases c4 : f o = f p
          · rw [if_pos c4]
            by_cases c5 : p ≤ o
            · rw [if_pos c5, if_neg (show ¬ ((o : Int) ≠ p ∧ f o ≠ -1 ∧ (f o < f p ∨ f o = f p ∧ (o : Int) < p)) by omega)]; simp [y0]
            · rw [if_neg c5, if_pos (show ((o : Int) ≠ p ∧ f o ≠ -1 ∧ (f o < f p ∨ f o = f p ∧ (o : Int) < p)) by omega)]; simp [y1]
          · rw [if_neg c4, if_neg (show ¬ ((o : Int) ≠ p ∧ f o ≠ -1 ∧ (f o < f p ∨ f o = f p ∧ (o : Int) < p)) by omega)]; simp [y0]
/-- so many cells of a row copied to another -/
theorem ncopy_wp {M : qM} {a d n : Nat} (had : ¬ a = d) (hn : n ≤ 20) : wp (qlp (σ := (Int32 × qM)) (ρ := qM) (fun q => qu2 q fun x1 M2 => if (nI n : Int32) ≤ (x1 : Int32) then some (.inr M2) else (qrI M2 a 20 x1).bind fun v37 => (qwI M2 d 20 x1 v37).bind fun M38 => qlt (x1 + 1 : Int32) fun x39 => some (.inl (x39, M38))) (0, M)) (fun M' => (∀ o, o < n → M'.1 d o = M.1 a o) ∧ fr (fun b _ => b = d) M M') := by
  refine wp_for (fun o s => s.1 = nI o ∧ (∀ j, j < o → s.2.1 d j = M.1 a j) ∧ fr (fun b _ => b = d) M s.2) n ⟨rfl, fun j hj => by omega, fr_rf _ _⟩ ?_ ?_
  · rintro o ⟨x, N⟩ ho ⟨e1, e2, e3⟩
    have e1 : x = nI o := e1
    subst e1
    simp only [qu2]
    refine wp_in (nI_ge ho (by omega)) ?_
    refine wp_be (qrI_nI (show o < 20 by omega) (by omega)) ?_
    refine wp_bd (wp_wI rfl (show o < 20 by omega) (by omega) ?_)
    refine wp_some ⟨nI_1 o, fun j hj => ?_, e3.tr (fr_I rfl)⟩
    show (qI N d o (N.1 a o)).1 d j = _
    rw [qI_1]
    by_cases hjo : j = o
    · rw [if_pos ⟨rfl, hjo⟩, hjo]
      exact (e3 a o had).1
    · rw [if_neg (fun e => hjo e.2)]
      exact e2 j (by omega)
  · rintro ⟨x, N⟩ ⟨e1, e2, e3⟩
    have e1 : x = nI n := e1
    subst e1
    simp only [qu2]
    exact wp_ip (nI_le (Nat.le_refl _) (by omega)) (wp_some ⟨e2, e3⟩)
def sGn (b j : Nat) : Prop := b = 118 ∨ b = 119
theorem sGn_M {M M1 : qM} (g : fr sGn M M1) : fr sTM M M1 := g.mono (fun b j h => by unfold sGn at h; unfold sTM; omega)
theorem tdM_gn {M M1 : qM} {i : Nat} {v : vT} {t : Nat} {f : Nat → Int} (h : tdM M i v t f) (g : fr sGn M M1) : tdM M1 i v t f :=
  tdM_fr h g (fun b j _ _ => by unfold sGn; omega) (fun j _ _ => by unfold sGn; omega) (fun j => by unfold sGn; omega)
def rnR (v : vT) (bw : Nat) (f : Nat → Int) (p : Nat) (w : Int32) : Int32 := if w = 0 then thO v bw f p (vTn v) else if w = 1 then mnO v bw f p (vTn v) else nI (viO v bw f p (vTn v))
theorem mRound_wp {M : qM} {i t bw p : Nat} {v : vT} {f : Nat → Int} {w : Int32} (h : tdM M i v t f) (hbw : bw ≤ 9) (hb : M.1 91 57 = nI bw) (hp : p < vP v) (hw : jMd_in w 0 2 = true) :
    wp (jMd_round (nI p) w M) (fun r => r.1 = rnR v bw f p w ∧ tdM r.2 i v t f ∧ fr sGn M r.2) := by
  have h20 := h.1.1.2.2.1
  have hT4 := h.1.1.1
  have hi := h.2.1
  have hf : ∀ o, o < vP v → -1 ≤ f o ∧ f o ≤ 60 := fun o ho => (h.2.2.2.2.2 o (by omega)).2
  have hw3 : w = 0 ∨ w = 1 ∨ w = 2 := by
    rw [in_iff] at hw
    have e0 : (0 : Int32).toInt = 0 := rfl
    have e1 : (1 : Int32).toInt = 1 := rfl
    have e2 : (2 : Int32).toInt = 2 := rfl
    rw [i_eq, i_eq, i_eq]
    omega
  unfold jMd_round
  rw [isToldM_eq h, isOf_mk hp (by omega), hw]
  refine wp_bd (wp_some (wp_in (by decide) (wp_in (by decide) ?_)))
  rw [h.2.2.1]
  refine wp_be (qrI_nI hi (by omega)) ?_
  rw [h.1.2.2.2.1]
  refine wp_bd ((ncopy_wp (by decide) h20).mono ?_)
  rintro M1 ⟨c1, c2⟩
  have f1 : fr sGn M M1 := c2.mono (fun x j hx => by unfold sGn; omega)
  refine wp_bd (wp_for (fun q s => s.1 = nI (viO v bw f p q) ∧ s.2.1 = nI q ∧ (∀ o, o < vP v → s.2.2.1 118 o = iI (rgo v bw f q o)) ∧ (∀ j, j < q → rgo v bw f j p ≠ -1 ∧ (w = 2 ∨ rhs v bw f j p = false)) ∧ fr sGn M s.2.2) (vTn v) ?_ ?_ ?_)
  · refine ⟨rfl, rfl, fun o ho => ?_, fun j hj => by omega, f1⟩
    show M1.1 118 o = iI (f o)
    rw [c1 o ho]
    exact (h.2.2.2.2.2 o (by omega)).1
  · rintro q ⟨x, y, N⟩ hq ⟨e1, e2, e3, e4, e5⟩
    have e1 : x = nI (viO v bw f p q) := e1
    have e2 : y = nI q := e2
    subst e1 e2
    have e3 : ∀ o, o < vP v → N.1 118 o = iI (rgo v bw f q o) := e3
    have e5 : fr sGn M N := e5
    have hN := tdM_gn h e5
    have hT := hN.1.1.2.2.2.1 q hq
    have hgb := fun o ho => rgo_b (v := v) hbw (hf o ho) q
    have hp1 := hgb p hp
    have hrk := rk_le (n := vP v) (f := rgo v bw f q) (p := p) (m := rgo v bw f q p)
    have hvle : viO v bw f p q ≤ q := cnt_le _ _
    have e4' : ∀ j, j < q → thO v bw f p q = thO v bw f p q := fun _ _ => rfl
    have none : ∀ Q, Q ≤ q → (w = 2 ∨ (thO v bw f p Q = -1 ∧ mnO v bw f p Q = -1)) := by
      intro Q
      induction Q with
      | zero => intro _; exact Or.inr ⟨rfl, rfl⟩
      | succ Q ih =>
        intro hQ
        rcases ih (by omega) with h1 | h1
        · exact Or.inl h1
        · rcases (e4 Q (by omega)).2 with h2 | h2
          · exact Or.inl h2
          · refine Or.inr ⟨?_, ?_⟩
            · simp only [thO]; rw [if_neg (by rw [h2]; decide)]; exact h1.1
            · simp only [mnO]; rw [if_neg (by rw [h2]; decide)]; exact h1.2
    simp only [qu3]
    rw [hN.2.2.1]
    refine wp_be (qrI_nI hi (by omega)) ?_
    rw [hN.1.2.1]
    refine wp_in (nI_ge hq (by omega)) ?_
    refine wp_be (qrI_nI (show p < 20 by omega) (by omega)) ?_
    rw [e3 p hp]
    refine wp_if (fun hz => ?_) (fun hz => ?_) <;> rw [show (-1 : Int32) = iI (-1) from rfl, iI_eq (by omega) (by omega) (by omega) (by omega)] at hz
    · refine wp_some (wp_se ?_)
      simp only [qu2, qlt]
      refine wp_some ⟨?_, hN, e5⟩
      obtain ⟨o1, o2, o3⟩ := O_stay hz (show q ≤ vTn v by omega)
      show (if w = 2 then nI (viO v bw f p q) else -1) = _
      unfold rnR
      rw [o1, o2, o3]
      rcases hw3 with rfl | rfl | rfl
      · rw [if_neg (by decide), if_pos rfl]
        exact (((none q (Nat.le_refl _)).resolve_left (by decide)).1).symm
      · rw [if_neg (by decide), if_neg (by decide), if_pos rfl]
        exact (((none q (Nat.le_refl _)).resolve_left (by decide)).2).symm
      · rw [if_pos rfl, if_neg (by decide), if_neg (by decide)]
    · refine wp_lt (fun x20 hx20 => ?_)
      refine wp_be (thingAt_eq (w := 0) hN.1 hi hq (by decide)) ?_
      have hra : ∀ N' : qM, fr (fun b _ => b = 119) N N' → ∀ o, o < vP v → jMd_rankAmong (nI o) N' = some (nI (rk (vP v) (rgo v bw f q) o (rgo v bw f q o))) := by
        intro N' g o ho
        refine rankAm_eq (i := i) ?_ hi ?_ h20 ho (fun o' ho' => ⟨?_, (hgb o' ho').1, by have := (hgb o' ho').2; omega⟩)
        · rw [(g 91 55 (by decide)).1]; exact hN.2.2.1
        · rw [(g 104 i (by simp)).1]; exact hN.1.2.2.2.1
        · rw [(g 118 o' (by simp)).1]; exact e3 o' ho'
      refine wp_bd ?_
      have hz22 : wp (if (2 : Int32) ≤ w then some false else (jMd_rankAmong (nI p) N).bind fun r41 => (jMd_thingAt (nI i) (nI q) 1 N).bind fun r42 => if b2i (jMd_in r41 (nI (vTi v q 0)) (nI (vTi v q 0) + r42 - 1)) = 0 then some false else some true) (fun z => z = (decide (w ≠ 2) && rhs v bw f q p)) := by
        rcases hw3 with rfl | rfl | rfl
        · refine wp_in (by decide) ?_
          refine wp_be (hra N (fr_rf _ _) p hp) ?_
          refine wp_be (thingAt_eq (w := 1) hN.1 hi hq (by decide)) ?_
          rw [in_has (by omega) (by omega) (by omega) (by omega)]
          have hrr : rhs v bw f q p = decide (vTi v q 0 ≤ rk (vP v) (rgo v bw f q) p (rgo v bw f q p) ∧ rk (vP v) (rgo v bw f q) p (rgo v bw f q p) < vTi v q 0 + vTi v q 1) := by
            unfold rhs; congr 1; simp [hz]
          rw [hrr]
          cases decide (vTi v q 0 ≤ rk (vP v) (rgo v bw f q) p (rgo v bw f q p) ∧ rk (vP v) (rgo v bw f q) p (rgo v bw f q p) < vTi v q 0 + vTi v q 1) with
          | false => exact wp_ip (by decide) (wp_some rfl)
          | true => exact wp_in (by decide) (wp_some rfl)
        · refine wp_in (by decide) ?_
          refine wp_be (hra N (fr_rf _ _) p hp) ?_
          refine wp_be (thingAt_eq (w := 1) hN.1 hi hq (by decide)) ?_
          rw [in_has (by omega) (by omega) (by omega) (by omega)]
          have hrr : rhs v bw f q p = decide (vTi v q 0 ≤ rk (vP v) (rgo v bw f q) p (rgo v bw f q p) ∧ rk (vP v) (rgo v bw f q) p (rgo v bw f q p) < vTi v q 0 + vTi v q 1) := by
            unfold rhs; congr 1; simp [hz]
          rw [hrr]
          cases decide (vTi v q 0 ≤ rk (vP v) (rgo v bw f q) p (rgo v bw f q p) ∧ rk (vP v) (rgo v bw f q) p (rgo v bw f q p) < vTi v q 0 + vTi v q 1) with
          | false => exact wp_ip (by decide) (wp_some rfl)
          | true => exact wp_in (by decide) (wp_some rfl)
        · exact wp_ip (by decide) (wp_some rfl)
      refine hz22.mono ?_
      intro z hz2
      refine wp_if (fun hy => ?_) (fun hy => ?_)
      · rw [hz2, Bool.and_eq_true, decide_eq_true_eq] at hy
        have hnx := rhs_next hy.2
        obtain ⟨o1, o2, o3⟩ := O_stay hnx (show q + 1 ≤ vTn v by omega)
        refine wp_some (wp_se ?_)
        simp only [qu2]
        unfold rnR
        rw [o1, o2]
        refine wp_bd ?_
        refine wp_if (fun hx => ?_) (fun hx => ?_)
        · refine wp_some (wp_some ⟨?_, hN, e5⟩)
          rw [if_pos hx]
          simp only [thO]
          rw [if_pos hy.2]
        · refine wp_be (qrI_nI (show p < 20 by omega) (by omega)) ?_
          refine wp_some (wp_some ⟨?_, hN, e5⟩)
          have hx1 : w = 1 := (hw3.resolve_left hx).resolve_right hy.1
          rw [if_neg hx, if_pos hx1]
          simp only [mnO]
          rw [if_pos hy.2]
          exact e3 p hp
      · have hnr : w = 2 ∨ rhs v bw f q p = false := by
          rcases hw3 with h1 | h1 | h1
          · right
            rw [hz2, h1] at hy
            simpa using hy
          · right
            rw [hz2, h1] at hy
            simpa using hy
          · exact Or.inl h1
        refine wp_bd ?_
        refine (wp_for (Q := fun N' => (∀ o, o < vP v → N'.1 119 o = iI (rgo v bw f (q + 1) o)) ∧ fr (fun b _ => b = 119) N N') (fun o s => s.1 = nI o ∧ (∀ j, j < o → s.2.1 119 j = iI (rgo v bw f (q + 1) j)) ∧ fr (fun b _ => b = 119) N s.2) (vP v) ⟨rfl, fun j hj => by omega, fr_rf _ _⟩ ?_ ?_).mono ?_
        · rintro o ⟨x, N1⟩ ho ⟨d1, d2, d3⟩
          have d1 : x = nI o := d1
          subst d1
          have d2 : ∀ j, j < o → N1.1 119 j = iI (rgo v bw f (q + 1) j) := d2
          have d3 : fr (fun b _ => b = 119) N N1 := d3
          have hob := hgb o ho
          have hro := rk_le (n := vP v) (f := rgo v bw f q) (p := o) (m := rgo v bw f q o)
          have hb1 : N1.1 91 57 = nI bw := by rw [(d3 91 57 (by decide)).1, (e5 91 57 (by simp [sGn])).1]; exact hb
          have h118 : N1.1 118 o = iI (rgo v bw f q o) := by rw [(d3 118 o (by simp)).1]; exact e3 o ho
          simp only [qu2]
          refine wp_in (nI_ge ho (by omega)) ?_
          refine wp_be (qrI_nI (show o < 20 by omega) (by omega)) ?_
          rw [h118]
          refine wp_bd ?_
          have hval : wp (if iI (rgo v bw f q o) = -1 then some (-1) else (jMd_rankAmong (nI o) N1).bind fun r39 => if nI (vTi v q 0) ≤ r39 then some (-1) else (qrI N1 118 20 (nI o)).bind fun v40 => some (v40 + N1.1 91 57)) (fun z => z = iI (rgo v bw f (q + 1) o)) := by
            refine wp_if (fun hx => ?_) (fun hx => ?_) <;> rw [show (-1 : Int32) = iI (-1) from rfl, iI_eq (by omega) (by omega) (by omega) (by omega)] at hx
            · refine wp_some ?_
              rw [rgo_stay hx (show q ≤ q + 1 by omega)]
              rfl
            · refine wp_be (hra N1 d3 o ho) ?_
              refine wp_if (fun hk => ?_) (fun hk => ?_)
              · have hk := (nI_leI (by omega) (by omega)).mp hk
                refine wp_some ?_
                simp only [rgo]
                rw [if_neg (by omega)]
                rfl
              · have hk : rk (vP v) (rgo v bw f q) o (rgo v bw f q o) < vTi v q 0 := by
                  rcases Nat.lt_or_ge (rk (vP v) (rgo v bw f q) o (rgo v bw f q o)) (vTi v q 0) with h1 | h1
                  · exact h1
                  · exact absurd (nI_le h1 (by omega)) hk
                refine wp_be (qrI_nI (show o < 20 by omega) (by omega)) ?_
                refine wp_some ?_
                simp only [rgo]
                rw [if_pos ⟨hx, hk⟩, h118, hb1, nI_iI, iI_add]
          refine hval.mono ?_
          rintro z rfl
          refine wp_bd (wp_wI rfl (show o < 20 by omega) (by omega) ?_)
          refine wp_some ⟨nI_1 o, fun j hj => ?_, d3.tr (fr_I rfl)⟩
          show (qI N1 119 o _).1 119 j = _
          rw [qI_1]
          by_cases hjo : j = o
          · rw [if_pos ⟨rfl, hjo⟩, hjo]
          · rw [if_neg (fun e => hjo e.2)]; exact d2 j (by omega)
        · rintro ⟨x, N1⟩ ⟨d1, d2, d3⟩
          have d1 : x = nI (vP v) := d1
          subst d1
          simp only [qu2]
          exact wp_ip (nI_le (Nat.le_refl _) (by omega)) (wp_some ⟨d2, d3⟩)
        · rintro N1 ⟨d1, d2⟩
          refine wp_bd ((ncopy_wp (by decide) h20).mono ?_)
          rintro N2 ⟨k1, k2⟩
          refine wp_some ⟨?_, nI_1 q, fun o ho => ?_, fun j hj => ?_, (e5.tr (d2.mono (fun x j hx => Or.inr hx))).tr (k2.mono (fun x j hx => Or.inl hx))⟩
          · show x20 = _
            rw [hx20, nI_1]
            unfold viO
            rw [cnt_S, if_pos (by simp [hz])]
          · show N2.1 118 o = _
            rw [k1 o ho]
            exact d1 o ho
          · by_cases hjq : j = q
            · rw [hjq]; exact ⟨hz, hnr⟩
            · exact e4 j (by omega)
  · rintro ⟨x, y, N⟩ ⟨e1, e2, e3, e4, e5⟩
    have e1 : x = nI (viO v bw f p (vTn v)) := e1
    have e2 : y = nI (vTn v) := e2
    subst e1 e2
    have e5 : fr sGn M N := e5
    have hN := tdM_gn h e5
    have none : ∀ Q, Q ≤ vTn v → (w = 2 ∨ (thO v bw f p Q = -1 ∧ mnO v bw f p Q = -1)) := by
      intro Q
      induction Q with
      | zero => intro _; exact Or.inr ⟨rfl, rfl⟩
      | succ Q ih =>
        intro hQ
        rcases ih (by omega) with h1 | h1
        · exact Or.inl h1
        · rcases (e4 Q (by omega)).2 with h2 | h2
          · exact Or.inl h2
          · refine Or.inr ⟨?_, ?_⟩
            · simp only [thO]; rw [if_neg (by rw [h2]; decide)]; exact h1.1
            · simp only [mnO]; rw [if_neg (by rw [h2]; decide)]; exact h1.2
    simp only [qu3]
    rw [hN.2.2.1]
    refine wp_be (qrI_nI hi (by omega)) ?_
    rw [hN.1.2.1]
    refine wp_ip (nI_le (Nat.le_refl _) (by omega)) (wp_some (wp_se ?_))
    simp only [qu2, qlt]
    refine wp_some ⟨?_, hN, e5⟩
    show (if w = 2 then nI (viO v bw f p (vTn v)) else -1) = _
    unfold rnR
    rcases hw3 with rfl | rfl | rfl
    · rw [if_neg (by decide), if_pos rfl]
      exact (((none (vTn v) (Nat.le_refl _)).resolve_left (by decide)).1).symm
    · rw [if_neg (by decide), if_neg (by decide), if_pos rfl]
      exact (((none (vTn v) (Nat.le_refl _)).resolve_left (by decide)).2).symm
    · rw [if_pos rfl, if_neg (by decide), if_neg (by decide)]
theorem rTo_M {M M1 : qM} (h : rTo M) (g : fr sTM M M1) : rTo M1 := by
  obtain ⟨a, b, h1, h2, h3⟩ := h
  exact ⟨a, b, h1, by rw [(g 65 3 (by simp [sTM])).2.2]; exact h2, by rw [(g 65 4 (by simp [sTM])).2.2]; exact h3⟩
theorem tdM_U {M M1 : qM} {i : Nat} {v : vT} {t : Nat} {f : Nat → Int} (h : tdM M i v t f) (g : fr sUC M M1) : tdM M1 i v t f := tdM_fr h g (fun b j h1 h2 => by unfold sUC; omega) (fun j _ _ => by unfold sUC; omega) (fun j => by unfold sUC; omega)
theorem p_round {M : qM} {n : Nat} {vs : Nat → vT} (h : rTd n vs M) (hto : rTo M) (hb : rBw M) (a b : Int32) : bth (fun M => rTd n vs M ∧ rTo M) sUC sTM (jTc_round a b) (jMd_round a b) M := by
  rcases h with h | ⟨i, t, f, hi, hi5, hC, hM⟩
  · refine ⟨-1000000, M, M, ?_, ?_, ⟨Or.inl h, hto⟩, fr_rf _ _, fr_rf _ _⟩
    · unfold jTc_round; rw [isToldC_N h.1]; rfl
    · unfold jMd_round; rw [isToldM_N h.2]; rfl
  · have h20 := hC.1.1.2.2.1
    have hR : rTd n vs M := Or.inr ⟨i, t, f, hi, hi5, hC, hM⟩
    have e : jTc_isOf b 3 = jMd_in b 0 2 := isOf_in rfl rfl
    cases hz : jTc_isOf a (nI (vP (vs i))) with
    | false =>
      refine ⟨-1000000, M, M, ?_, ?_, ⟨hR, hto⟩, fr_rf _ _, fr_rf _ _⟩
      · unfold jTc_round; rw [isToldC_eq hC, hz]; rfl
      · unfold jMd_round; rw [isToldM_eq hM, hz]; rfl
    | true =>
      cases hy : jMd_in b 0 2 with
      | false =>
        refine ⟨-1000000, M, M, ?_, ?_, ⟨hR, hto⟩, fr_rf _ _, fr_rf _ _⟩
        · unfold jTc_round; rw [isToldC_eq hC, hz, e, hy]; rfl
        · unfold jMd_round; rw [isToldM_eq hM, hz, hy]; rfl
      | true =>
        obtain ⟨p, hp, rfl⟩ := isOf_of (by omega) hz
        obtain ⟨bw, hbw, hb1, hb2⟩ := hb
        refine bth_mk (P := fun M1 => tdC M1 (71 + 4 * i) (vs i) t f ∧ tdM M1 i (vs i) t f ∧ rTo M1 ∧ M1.1 91 57 = nI bw) (rnR (vs i) bw f p b) ?_ ?_
        · unfold jTc_round
          rw [isToldC_eq hC, hz, e, hy]
          refine wp_bd (wp_some (wp_in (by decide) (wp_in (by decide) ?_)))
          rw [hb1]
          refine wp_bd ((walk_wp hC hbw hto).mono ?_)
          rintro M1 ⟨g1, g2, g3, g4⟩
          have g5 := g1 p hp
          have hx : M1.1 91 57 = nI bw := by rw [(g4 91 57 (by simp [sUC])).1]; exact hb2
          refine wp_bd ?_
          unfold rnR
          refine wp_if (fun hc => ?_) (fun hc => ?_)
          · refine wp_be (qrI_nI (by omega) (by omega)) ?_
            exact wp_some (wp_some ⟨by rw [if_pos hc]; exact g5.1, ⟨g3, tdM_U hM g4, g2, hx⟩, g4⟩)
          · rw [if_neg hc]
            refine wp_if (fun hc => ?_) (fun hc => ?_)
            · refine wp_be (qrI_nI (by omega) (by omega)) ?_
              exact wp_some (wp_some ⟨by rw [if_pos hc]; exact g5.2.1, ⟨g3, tdM_U hM g4, g2, hx⟩, g4⟩)
            · rw [if_neg hc]
              refine wp_be (qrI_nI (by omega) (by omega)) ?_
              exact wp_some (wp_some ⟨g5.2.2, ⟨g3, tdM_U hM g4, g2, hx⟩, g4⟩)
        · rintro M1 ⟨hC1, hM1, ht1, hx⟩ g
          refine (mRound_wp hM1 hbw hx hp hy).mono ?_
          rintro ⟨x, M2⟩ ⟨g1, g2, g3⟩
          have g3 : fr sGn M1 M2 := g3
          exact ⟨g1, ⟨rTd_mk hi hi5 hC1 g2 (sGn_M g3), rTo_M ht1 (sGn_M g3)⟩, sGn_M g3⟩
