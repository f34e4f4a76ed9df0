-- needs 52 53 54 55
def sGo (b t x y : Nat) : Prop := x = b ∨ x = 51 ∧ y = t ∨ x = 54 ∧ y = t ∨ x = 49 ∧ (y = 11 ∨ y = 12)
theorem goOn_wp {M : qM} {a b : Nat} {p : Nat → Nat} {A c t m : Nat} (hpw : rPw M) (hab : pab a b) (h11 : M.2.2 49 11 = some a) (h12 : M.2.2 49 12 = some b) (hm : M.1 49 1 = nI m) (h1m : 1 ≤ m) (hmb : m < 100) (hA : A < 10) (hc : c < 11) (ht : t < 12) (hp : ∀ j, j < 10 → M.2.1 a j = lN (p j)) (hb : ∀ j, j < 10 → p j ≤ 1000000000) :
    wp (jRo_goOn (nI A) (nI c) (nI t) M) (fun M' => M'.2.2 49 11 = some b ∧ M'.2.2 49 12 = some a ∧ (∀ j, j < 10 → M'.2.1 b j = lN (nx p A c j)) ∧ M'.2.1 51 t = lN (tks p A c m) ∧ M'.2.1 54 t = lN (shs p A c m) ∧ fr (sGo b t) M M') := by
  refine wp_eq (goOn_eq hpw hab h11 h12 hm h1m hmb hA hc ht hp hb) ⟨?_, ?_, ?_, ?_, ?_, ?_⟩
  · simp [qR_22]
  · simp [qR_22]
  · intro j hj
    rcases hab with ⟨rfl, rfl⟩ | ⟨rfl, rfl⟩ <;> simp [qR_21, qJ_21, sJ, hj]
  · simp [qR_21, qJ_21]
  · simp [qR_21, qJ_21]
  · exact ((((fr_sJ (fun j hj => Or.inl rfl)).tr (fr_J (Or.inr (Or.inl ⟨rfl, rfl⟩)))).tr (fr_J (Or.inr (Or.inr (Or.inl ⟨rfl, rfl⟩))))).tr (fr_R (Or.inr (Or.inr (Or.inr ⟨rfl, Or.inl rfl⟩))))).tr (fr_R (Or.inr (Or.inr (Or.inr ⟨rfl, Or.inr rfl⟩))))
theorem goneByNow_eq {M : qM} {a : Nat} {p : Nat → Nat} (h11 : M.2.2 49 11 = some a) (hp : ∀ j, j < 10 → M.2.1 a j = lN (p j)) : jRo_goneByNow M = some (lN (gns p)) := by
  unfold jRo_goneByNow
  rw [qlp_for0 (s0 := ((0 : Int64), (0 : Int32))) (fun k => (lN (sumN (fun j => p j * j) k), nI k)) (lN (gns p)) 10 rfl (fun k hk => ?_) ?_]
  · rfl
  · simp only [qu2]
    rw [show (10 : Int32) = nI 10 from rfl, if_pos (nI_le (a := 10) (b := 10) (by omega) (by omega))]
    rfl
  · simp only [qu2, qlt]
    rw [show (10 : Int32) = nI 10 from rfl, if_neg (nI_ge (a := k) (b := 10) hk (by omega)), h11]
    simp only [Option.bind_some]
    rw [qrJ_nI hk (by decide), hp k hk]
    simp only [Option.bind_some]
    rw [nI_l (by omega), lN_mul, lN_add, nI_1]
    rfl
def sFol (b j : Nat) : Prop := b = 51 ∨ b = 52 ∨ b = 54 ∨ b = 55 ∨ b = 56 ∨ b = 49 ∧ (j = 11 ∨ j = 12)
def rRf (M : qM) : Prop := ∃ a b, pab a b ∧ M.2.2 49 11 = some a ∧ M.2.2 49 12 = some b
theorem rRf_fr {M M1 : qM} {S : Nat → Nat → Prop} (h : rRf M) (f : fr S M M1) (h1 : ¬ S 49 11) (h2 : ¬ S 49 12) : rRf M1 := by
  obtain ⟨a, b, hab, h3, h4⟩ := h
  exact ⟨a, b, hab, by rw [(f 49 11 h1).2.2]; exact h3, by rw [(f 49 12 h2).2.2]; exact h4⟩
theorem rPw_fr {M M1 : qM} {S : Nat → Nat → Prop} (h : rPw M) (f : fr S M M1) (h1 : ∀ j, ¬ S 57 j) : rPw M1 := by
  intro b hb e he
  rw [(f 57 _ (h1 _)).2.1]
  exact h b hb e he
theorem follow_wp {M : qM} {row A m T : Nat} {c : Nat → Nat} (hpw : rPw M) (hrf : rRf M) (hm : M.1 49 1 = nI m) (h1m : 1 ≤ m) (hmb : m < 100) (hA : A < 10) (hT : T ≤ 12) (hrow : row = 50 ∨ row = 58) (hc : ∀ t, t < T → M.1 row t = nI (c t) ∧ c t < 11) :
    wp (jRo_follow (nI A) row (nI T) M) (fun M' => rRf M' ∧ (∀ t, t < T → M'.2.1 51 t = lN (tk A m c t) ∧ M'.2.1 54 t = lN (sh A m c t)) ∧ (∀ t, t ≤ T → M'.2.1 52 t = lN (gn A c t)) ∧ fr sFol M M') := by
  obtain ⟨a, b, hab, h11, h12⟩ := hrf
  have hal : q_al a = 10 := by rcases hab with ⟨rfl, rfl⟩ | ⟨rfl, rfl⟩ <;> decide
  have hSa : ∀ j, sFol a j := by intro j; unfold sFol; rcases hab with ⟨rfl, rfl⟩ | ⟨rfl, rfl⟩ <;> omega
  unfold jRo_follow
  refine wp_be h11 ?_
  refine wp_be (fillJ_eq a 0 M (by omega)) ?_
  rw [hal]
  refine wp_be (x := a) h11 ?_
  refine wp_bd (wp_wJ (t := 0) rfl (by decide) (by decide) ?_)
  refine wp_bd (wp_for (fun n s => s.1 = nI n ∧ ∃ a b, pab a b ∧ s.2.2.2 49 11 = some a ∧ s.2.2.2 49 12 = some b ∧ (∀ j, j < 10 → s.2.2.1 a j = lN (pt A c n j)) ∧ (∀ t, t < n → s.2.2.1 51 t = lN (tk A m c t) ∧ s.2.2.1 54 t = lN (sh A m c t) ∧ s.2.2.1 52 t = lN (gn A c t)) ∧ fr sFol M s.2) T ?_ ?_ ?_)
  · refine ⟨rfl, a, b, hab, h11, h12, fun j hj => ?_, fun t ht => by omega, (fr_sJ (fun j hj => hSa j)).tr (fr_J (hSa 0))⟩
    rw [sJ_upd (by decide)]
    show (sJ M a 10 _).2.1 a j = _
    rw [sJ_at hj]
    by_cases hj0 : j = 0
    · subst hj0; rfl
    · simp only [pt, if_neg hj0]; rfl
  · rintro n ⟨x, N⟩ hn ⟨hx, a, b, hab, h11, h12, hp, hv, hf⟩
    have hx : x = nI n := hx
    subst hx
    have h11 : N.2.2 49 11 = some a := h11
    have h12 : N.2.2 49 12 = some b := h12
    have hp : ∀ j, j < 10 → N.2.1 a j = lN (pt A c n j) := hp
    have hv : ∀ t, t < n → N.2.1 51 t = lN (tk A m c t) ∧ N.2.1 54 t = lN (sh A m c t) ∧ N.2.1 52 t = lN (gn A c t) := hv
    have hf : fr sFol M N := hf
    have hna : ¬ a = 52 := by rcases hab with ⟨rfl, rfl⟩ | ⟨rfl, rfl⟩ <;> decide
    simp only [qu2]
    refine wp_in (nI_ge hn (by omega)) ?_
    refine wp_be (goneByNow_eq h11 hp) ?_
    refine wp_bd (wp_wJ rfl (show n < 13 by omega) (by decide) ?_)
    have hr1 : (qJ N 52 n (lN (gns (pt A c n)))).1 row n = nI (c n) := by
      show N.1 row n = _
      rw [(hf row n (by rcases hrow with rfl | rfl <;> simp [sFol])).1]
      exact (hc n hn).1
    refine wp_bd (wp_rI rfl (show n < 12 by omega) (by decide) ?_)
    rw [hr1]
    refine wp_bd ?_
    refine (goOn_wp (M := qJ N 52 n (lN (gns (pt A c n)))) (p := pt A c n) (m := m) ?_ hab h11 h12 ?_ h1m hmb hA (hc n hn).2 (by omega) ?_ ?_).mono ?_
    · refine rPw_fr hpw (hf.tr (fr_J (by simp [sFol]))) (fun j => by simp [sFol])
    · show N.1 49 1 = _
      rw [(hf 49 1 (by simp [sFol])).1]
      exact hm
    · intro j hj
      simp only [qJ_21]
      rw [if_neg (by omega)]
      exact hp j hj
    · intro j hj
      exact pt_le hA (fun t ht => (hc t (by omega)).2) hj
    · rintro M' ⟨g1, g2, g3, g4, g5, g6⟩
      refine wp_some ⟨nI_1 n, b, a, ?_, g1, g2, g3, ?_, ?_⟩
      · rcases hab with h | h
        · exact Or.inr ⟨h.2, h.1⟩
        · exact Or.inl ⟨h.2, h.1⟩
      · have hb : b = 55 ∨ b = 56 := by unfold pab at hab; omega
        intro t ht
        by_cases htn : t = n
        · subst htn
          refine ⟨g4, g5, ?_⟩
          show M'.2.1 52 t = _
          rw [(g6 52 t (by unfold sGo; omega)).2.1]
          simp [qJ_21, gn]
        · show M'.2.1 51 t = _ ∧ M'.2.1 54 t = _ ∧ M'.2.1 52 t = _
          rw [(g6 52 t (by unfold sGo; omega)).2.1, (g6 51 t (by unfold sGo; omega)).2.1, (g6 54 t (by unfold sGo; omega)).2.1]
          simp only [qJ_21]
          rw [if_neg (by omega), if_neg (by omega), if_neg (by omega)]
          exact hv t (by omega)
      · refine (hf.tr (fr_J (by simp [sFol]))).tr (g6.mono (fun x y hxy => ?_))
        have hb : b = 55 ∨ b = 56 := by unfold pab at hab; omega
        unfold sGo at hxy
        unfold sFol
        omega
  · rintro ⟨x, N⟩ ⟨hx, a, b, hab, h11, h12, hp, hv, hf⟩
    have hx : x = nI T := hx
    subst hx
    have h11 : N.2.2 49 11 = some a := h11
    have h12 : N.2.2 49 12 = some b := h12
    have hp : ∀ j, j < 10 → N.2.1 a j = lN (pt A c T j) := hp
    have hv : ∀ t, t < T → N.2.1 51 t = lN (tk A m c t) ∧ N.2.1 54 t = lN (sh A m c t) ∧ N.2.1 52 t = lN (gn A c t) := hv
    have hf : fr sFol M N := hf
    simp only [qu2]
    refine wp_ip (nI_le (Nat.le_refl _) (by omega)) (wp_some ?_)
    refine wp_be (goneByNow_eq h11 hp) ?_
    refine wp_bd (wp_wJ rfl (show T < 13 by omega) (by decide) ?_)
    refine wp_some ⟨⟨a, b, hab, h11, h12⟩, fun t ht => ?_, fun t ht => ?_, hf.tr (fr_J (by simp [sFol]))⟩
    · simp only [qJ_21]
      rw [if_neg (by omega), if_neg (by omega)]
      exact ⟨(hv t ht).1, (hv t ht).2.1⟩
    · simp only [qJ_21]
      by_cases h : t = T
      · rw [if_pos ⟨trivial, h⟩, h]; rfl
      · rw [if_neg (by omega)]
        exact (hv t (by omega)).2.2
theorem takenUpTo_eq {M : qM} {f : Nat → Nat} {n : Nat} (hn : n < 12) (h : ∀ t, t ≤ n → M.2.1 51 t = lN (f t)) : jRo_takenUpTo (nI n) M = some (lN (sumN f (n + 1))) := by
  unfold jRo_takenUpTo
  rw [qlp_for0 (s0 := ((0 : Int64), (0 : Int32))) (fun k => (lN (sumN f k), nI k)) (lN (sumN f (n + 1))) (n + 1) rfl (fun k hk => ?_) ?_]
  · rfl
  · simp only [qu2]
    rw [if_pos (nI_lt (by omega) (by omega))]
  · simp only [qu2, qlt]
    rw [if_neg (nI_nlt (by omega) (by omega)), qrJ_nI (show k < 12 by omega) (by decide), h k (by omega)]
    simp only [Option.bind_some]
    rw [lN_add, nI_1]
    rfl
/-- what a minute is worth to one -/
def vl (A m : Nat) (c : Nat → Nat) (w f k T t : Nat) : Int64 := if t = T then (-1000000000) * lN k * lN T else lN (sh A m c t) * lN (w - f * t) - 1000000000 * lN k * lN t
theorem worth_eq {w f t : Nat} (hw : w < 1000) (hf : f < 100) (ht : t < 100) : (jmaxI 0 (nI w - nI f * nI t)).toInt64 = lN (w - f * t) := by
  have hft : f * t < 100 * 100 := Nat.mul_lt_mul'' hf ht
  have h : jmaxI 0 (nI w - nI f * nI t) = nI (w - f * t) := by
    unfold jmaxI
    have e0 : (0 : Int32) = iI 0 := iI_lit 0
    rw [nI_mul]
    simp only [nI_iI, iI_sub, e0]
    by_cases h : iI 0 < iI ((w : Int) - ((f * t : Nat) : Int))
    · rw [if_pos h]
      rw [iI_lt (by omega) (by omega) (by omega) (by omega)] at h
      exact iI_congr (by omega)
    · rw [if_neg h]
      rw [iI_lt (by omega) (by omega) (by omega) (by omega)] at h
      exact iI_congr (by omega)
  rw [h]
  exact nI_l (by omega)
def sWei (b j : Nat) : Prop := sFol b j ∨ b = 53
/-- the row told: people, the so-many-eth, worth, fall, cost, minutes -/
def rRo (M : qM) (P m w f k T : Nat) : Prop := M.1 49 0 = nI P ∧ M.1 49 1 = nI m ∧ M.1 49 2 = nI w ∧ M.1 49 3 = nI f ∧ M.1 49 4 = nI k ∧ M.1 49 5 = nI T ∧ 2 ≤ P ∧ P ≤ 9 ∧ 1 ≤ m ∧ m ≤ P ∧ w < 1000 ∧ f < 100 ∧ k < 100 ∧ 1 ≤ T ∧ T ≤ 12
theorem rRo_fr {M M1 : qM} {S : Nat → Nat → Prop} {P m w f k T : Nat} (h : rRo M P m w f k T) (g : fr S M M1) (h1 : ∀ j, j < 6 → ¬ S 49 j) : rRo M1 P m w f k T := by
  unfold rRo
  rw [(g 49 0 (h1 0 (by decide))).1, (g 49 1 (h1 1 (by decide))).1, (g 49 2 (h1 2 (by decide))).1, (g 49 3 (h1 3 (by decide))).1, (g 49 4 (h1 4 (by decide))).1, (g 49 5 (h1 5 (by decide))).1]
  exact h
theorem weigh_wp {M : qM} {row P m w f k T : Nat} {c : Nat → Nat} (hR : rRo M P m w f k T) (hpw : rPw M) (hrf : rRf M) (hrow : row = 50 ∨ row = 58) (hc : ∀ t, t < T → M.1 row t = nI (c t) ∧ c t < 11) :
    wp (jRo_weigh row M) (fun M' => rRf M' ∧ (∀ t, t ≤ T → M'.2.1 53 t = vl (P - 1) m c w f k T t) ∧ fr sWei M M') := by
  obtain ⟨r0, r1, r2, r3, r4, r5, b1, b2, b3, b4, b5, b6, b7, b8, b9⟩ := hR
  unfold jRo_weigh
  have e1 : (1 : Int32) = nI 1 := rfl
  rw [r0, r5, e1, nI_subE (by omega)]
  refine wp_bd ((follow_wp hpw hrf r1 b3 (by omega) (by omega) b9 hrow hc).mono ?_)
  rintro M1 ⟨g1, g2, -, g4⟩
  have q2 : M1.1 49 2 = nI w := by rw [(g4 49 2 (by simp [sFol])).1]; exact r2
  have q3 : M1.1 49 3 = nI f := by rw [(g4 49 3 (by simp [sFol])).1]; exact r3
  have q4 : M1.1 49 4 = nI k := by rw [(g4 49 4 (by simp [sFol])).1]; exact r4
  have q5 : M1.1 49 5 = nI T := by rw [(g4 49 5 (by simp [sFol])).1]; exact r5
  rw [qlp_for0 (s0 := ((0 : Int32), M1)) (fun n => (nI n, sJ M1 53 n (fun t => lN (sh (P - 1) m c t) * lN (w - f * t) - 1000000000 * lN k * lN t))) (sJ M1 53 T (fun t => lN (sh (P - 1) m c t) * lN (w - f * t) - 1000000000 * lN k * lN t)) T (by rw [sJ_0]; rfl) (fun n hn => ?_) ?_]
  · simp only [Option.bind_some, sJ_1, q4, q5]
    refine wp_bd (wp_wJ rfl (show T < 13 by omega) (by decide) ?_)
    refine wp_some ⟨rRf_fr g1 (S := fun b j => b = 53) ((fr_sJ (fun j hj => rfl)).tr (fr_J rfl)) (by simp) (by simp), fun t ht => ?_, (g4.mono (fun _ _ h => Or.inl h)).tr ((fr_sJ (fun j hj => Or.inr rfl)).tr (fr_J (Or.inr rfl)))⟩
    · rw [nI_l (by omega), nI_l (by omega)]
      simp only [qJ_21, vl]
      by_cases h : t = T
      · rw [if_pos ⟨trivial, h⟩, if_pos h]
      · rw [if_neg (by omega), if_neg h, sJ_at (by omega)]
  · simp only [qu2, sJ_1, q5]
    rw [if_pos (nI_le (by omega) (by omega))]
  · simp only [qu2, qlt, sJ_1, q2, q3, q4, q5]
    rw [if_neg (nI_ge hn (by omega)), worth_eq b5 b6 (by omega), qrJ_nI (show n < 12 by omega) (by decide), sJ_off (by decide), (g2 n hn).2]
    simp only [Option.bind_some]
    rw [qwJ_nI (show n < 13 by omega) (by decide), nI_l (by omega), nI_l (by omega)]
    simp only [Option.bind_some, nI_add]
    rw [sJ_S M1 53 n (fun t => lN (sh (P - 1) m c t) * lN (w - f * t) - 1000000000 * lN k * lN t)]
/-- the first of the greatest -/
def gr (v : Nat → Int64) : Nat → Nat
  | 0 => 0
  | n + 1 => if v (n + 1) ≤ v (gr v n) then gr v n else n + 1
theorem gr_le (v : Nat → Int64) (n : Nat) : gr v n ≤ n := by
  induction n with
  | zero => exact Nat.le_refl _
  | succ n ih => simp only [gr]; split <;> omega
theorem greatest_eq {M : qM} {v : Nat → Int64} {T : Nat} (hT : T ≤ 12) (h5 : M.1 49 5 = nI T) (hv : ∀ t, t ≤ T → M.2.1 53 t = v t) : jRo_greatest M = some (nI (gr v T)) := by
  unfold jRo_greatest
  rw [h5]
  rw [qlp_for0 (s0 := ((0 : Int32), (1 : Int32))) (fun n => (nI (gr v n), nI (n + 1))) (nI (gr v T)) T rfl (fun n hn => ?_) ?_]
  · rfl
  · simp only [qu2]
    rw [if_pos (nI_lt (by omega) (by omega))]
  · have hg := gr_le v n
    simp only [qu2, qlt]
    rw [if_neg (nI_nlt (by omega) (by omega)), qrJ_nI (show n + 1 < 13 by omega) (by decide), qrJ_nI (show gr v n < 13 by omega) (by decide), hv (n + 1) (by omega), hv (gr v n) (by omega)]
    simp only [Option.bind_some, lg_cmp_le, nI_1, gr]
    by_cases h : v (n + 1) ≤ v (gr v n) <;> simp [h]
/-- is it at rest, from so many minutes before the end on -/
def rst (v : Nat → Int64) (c : Nat → Nat) (L : Int64) (T : Nat) : Nat → Bool
  | 0 => decide (L ≤ v T)
  | d + 1 => if 0 < c (T - (d + 1)) ∧ v (T - (d + 1)) < L then false else if c (T - (d + 1)) = 10 then true else rst v c L T d
def lst (v : Nat → Int64) (T s : Nat) : Int64 := v (gr v T) - 1000000000 * lN s
theorem l_nle {a b : Int64} : (¬ a ≤ b) = (b < a) := by
  rw [eq_iff_iff, Int64.le_iff_toInt_le, Int64.lt_iff_toInt_lt]
  omega
theorem restsBy_wp {M : qM} {row P m w f k T s : Nat} {c : Nat → Nat} (hR : rRo M P m w f k T) (hpw : rPw M) (hrf : rRf M) (hrow : row = 50 ∨ row = 58) (hc : ∀ t, t < T → M.1 row t = nI (c t) ∧ c t < 11) (hs : s < 100) :
    wp (jRo_restsBy (nI s) row M) (fun r => r.1 = rst (vl (P - 1) m c w f k T) c (lst (vl (P - 1) m c w f k T) T s) T T ∧ rRf r.2 ∧ fr sWei M r.2) := by
  unfold jRo_restsBy
  refine wp_bd ((weigh_wp hR hpw hrf hrow hc).mono ?_)
  rintro M1 ⟨g1, g2, g3⟩
  have hR1 := rRo_fr hR g3 (fun j hj => by unfold sWei sFol; omega)
  have b9 : T ≤ 12 := hR.2.2.2.2.2.2.2.2.2.2.2.2.2.2
  have q5 : M1.1 49 5 = nI T := hR1.2.2.2.2.2.1
  have hc1 : ∀ t, t < T → M1.1 row t = nI (c t) := by
    intro t ht
    rw [(g3 row t (by rcases hrow with rfl | rfl <;> simp [sWei, sFol])).1]
    exact (hc t ht).1
  have hg := gr_le (vl (P - 1) m c w f k T) T
  refine wp_be (greatest_eq b9 q5 g2) ?_
  refine wp_bd (wp_rJ rfl (show gr (vl (P - 1) m c w f k T) T < 13 by omega) (by decide) ?_)
  rw [g2 _ hg]
  simp only [qlt]
  rw [nI_l (by omega)]
  generalize hv : vl (P - 1) m c w f k T = v at g2 ⊢
  have hL : v (gr v T) - 1000000000 * lN s = lst v T s := rfl
  rw [hL, q5]
  generalize lst v T s = L
  refine wp_bd (wp_for (fun n x => x = nI n ∧ rst v c L T (T - n) = rst v c L T T) T ⟨rfl, rfl⟩ ?_ ?_)
  · rintro n x hn ⟨rfl, hr⟩
    have hr1 : T - n = (T - n - 1) + 1 := by omega
    rw [hr1] at hr
    simp only [rst] at hr
    have hr2 : T - (T - n - 1 + 1) = n := by omega
    have hr3 : T - n - 1 = T - (n + 1) := by omega
    rw [hr2, hr3] at hr
    have hcn := (hc n hn).2
    have e0 : (0 : Int32) = nI 0 := rfl
    have e10 : (10 : Int32) = nI 10 := rfl
    have z1 : (nI (c n) ≤ (0 : Int32)) = (c n ≤ 0) := by rw [e0]; exact propext (nI_leI (by omega) (by omega))
    have z2 : (nI (c n) = (10 : Int32)) = (c n = 10) := by rw [e10]; exact propext (nI_eq (by omega) (by omega))
    refine wp_in (nI_ge hn (by omega)) ?_
    refine wp_bd (wp_rI rfl (show n < 12 by omega) (by decide) ?_)
    rw [hc1 n hn]
    simp only [z1]
    refine wp_if (fun h => ?_) (fun h => ?_)
    · refine wp_bd (wp_rI rfl (show n < 12 by omega) (by decide) ?_)
      rw [hc1 n hn]
      simp only [z2]
      refine wp_in (by omega) (wp_some ⟨nI_1 n, ?_⟩)
      rw [if_neg (by omega), if_neg (by omega)] at hr
      exact hr
    · refine wp_bd (wp_rJ rfl (show n < 13 by omega) (by decide) ?_)
      rw [g2 n (by omega)]
      simp only [lg_cmp_ge]
      refine wp_if (fun h2 => ?_) (fun h2 => ?_)
      · refine wp_bd (wp_rI rfl (show n < 12 by omega) (by decide) ?_)
        rw [hc1 n hn]
        simp only [z2]
        rw [if_neg (fun hx => by rw [← l_nle] at hx; exact hx.2 h2)] at hr
        refine wp_if (fun h3 => ?_) (fun h3 => ?_)
        · rw [if_pos h3] at hr
          exact wp_some (wp_some ⟨hr, g1, g3⟩)
        · rw [if_neg h3] at hr
          exact wp_some ⟨nI_1 n, hr⟩
      · rw [if_pos ⟨by omega, by rw [← l_nle]; exact h2⟩] at hr
        exact wp_some (wp_some ⟨hr, g1, g3⟩)
  · rintro x ⟨rfl, hr⟩
    refine wp_ip (nI_le (Nat.le_refl _) (by omega)) (wp_some ?_)
    refine wp_se (wp_se ?_)
    refine wp_bd (wp_rJ rfl (show T < 13 by omega) (by decide) ?_)
    rw [g2 T (Nat.le_refl _)]
    refine wp_some ⟨?_, g1, g3⟩
    rw [Nat.sub_self] at hr
    simp only [rst] at hr
    rw [← hr]
    simp only [lg_cmp_lt]
    by_cases h : v T < L
    · rw [if_pos h]
      exact (decide_eq_false (by rw [← l_nle] at h; exact h)).symm
    · rw [if_neg h]
      refine (decide_eq_true ?_).symm
      rw [← l_nle] at h
      exact Classical.not_not.mp h
