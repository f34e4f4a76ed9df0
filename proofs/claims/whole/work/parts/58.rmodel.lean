-- needs 52 53 54 55 56 57
/-! ===== the row: the reference's side ===== -/
theorem firstParts_eq (M : qM) (A : Nat) (c : Nat → Nat) : jMd_firstParts M = some (sJ M 114 10 (fun i => lN (pt A c 0 i))) := by
  unfold jMd_firstParts
  rw [qlp_for0 (s0 := ((0 : Int32), M)) (fun k => (nI k, sJ M 114 k (fun i => lN (pt A c 0 i)))) (sJ M 114 10 (fun i => lN (pt A c 0 i))) 10 (by rw [sJ_0]; rfl) (fun k hk => ?_) ?_]
  · rfl
  · simp only [qu2]
    rw [show (10 : Int32) = nI 10 from rfl, if_pos (nI_le (a := 10) (b := 10) (by omega) (by omega))]
  · simp only [qu2, qlt]
    rw [show (10 : Int32) = nI 10 from rfl, if_neg (nI_ge (a := k) (b := 10) hk (by omega)), qwJ_nI hk (by decide)]
    have e0 : (nI k = (0 : Int32)) = (k = 0) := by rw [show (0 : Int32) = nI 0 from rfl]; exact propext (nI_eq (by omega) (by omega))
    have e1 : (if nI k = (0 : Int32) then (1000000000 : Int64) else 0) = lN (pt A c 0 k) := by
      simp only [e0, pt]
      by_cases h : k = 0
      · simp only [if_pos h]; rfl
      · simp only [if_neg h]; rfl
    rw [e1]
    simp only [Option.bind_some, nI_1]
    rw [sJ_S M 114 k (fun i => lN (pt A c 0 i))]
theorem nextParts_eq {M : qM} {p : Nat → Nat} {A c t : Nat} (hA : A < 10) (hc : c < 11) (ht : t < 12) (hM : M.1 112 t = nI c) (hp : ∀ j, j < 10 → M.2.1 114 j = lN (p j)) (hb : ∀ j, j < 10 → p j ≤ 1000000000) :
    jMd_nextParts (nI A) (nI t) M = some (sJ (sJ M 115 10 (fun i => lN (nx p A c i))) 114 10 (fun i => lN (nx p A c i))) := by
  unfold jMd_nextParts
  rw [qlp_for0 (s0 := ((0 : Int32), M)) (fun k => (nI k, sJ M 115 k (fun i => 0))) (sJ M 115 10 (fun i => 0)) 10 (by rw [sJ_0]; rfl) (fun k hk => ?_) ?_]
  · simp only [Option.bind_some]
    rw [qlp_for0 (s0 := ((0 : Int32), sJ M 115 10 (fun i => 0))) (fun J => (nI J, sJ M 115 10 (fun i => lN (acc p A c J 0 i)))) (sJ M 115 10 (fun i => lN (nx p A c i))) (A + 1) rfl (fun J hJ => ?_) ?_]
    · simp only [Option.bind_some]
      rw [qlp_for0 (s0 := ((0 : Int32), sJ M 115 10 (fun i => lN (nx p A c i)))) (fun k => (nI k, sJ (sJ M 115 10 (fun i => lN (nx p A c i))) 114 k (fun i => lN (nx p A c i)))) (sJ (sJ M 115 10 (fun i => lN (nx p A c i))) 114 10 (fun i => lN (nx p A c i))) 10 (by rw [sJ_0]; rfl) (fun k hk => ?_) ?_]
      · rfl
      · simp only [qu2]
        rw [show (10 : Int32) = nI 10 from rfl, if_pos (nI_le (a := 10) (b := 10) (by omega) (by omega))]
      · simp only [qu2, qlt]
        rw [show (10 : Int32) = nI 10 from rfl, if_neg (nI_ge (a := k) (b := 10) hk (by omega)), qrJ_nI hk (by decide), sJ_off (by decide), sJ_at hk]
        simp only [Option.bind_some]
        rw [qwJ_nI hk (by decide)]
        simp only [Option.bind_some, nI_1]
        rw [sJ_S _ 114 k (fun i => lN (nx p A c i))]
    · simp only [qu2]
      rw [if_pos (nI_lt (by omega) (by omega))]
      rfl
    · simp only [qu2, qlt]
      rw [if_neg (nI_nlt (by omega) (by omega)), nI_subE (show J ≤ A by omega)]
      rw [qlp_for0 (s0 := ((0 : Int32), sJ M 115 10 (fun i => lN (acc p A c J 0 i)))) (fun K => (nI K, sJ M 115 10 (fun i => lN (acc p A c J K i)))) (sJ M 115 10 (fun i => lN (acc p A c J (A - J + 1) i))) (A - J + 1) rfl (fun K hK => ?_) ?_]
      · simp only [Option.bind_some, nI_1, acc_J]
      · simp only [qu2]
        rw [if_pos (nI_lt (by omega) (by omega))]
      · simp only [qu2, qlt]
        rw [if_neg (nI_nlt (by omega) (by omega)), nI_add, qrJ_nI (show J + K < 10 by omega) (by decide), sJ_at (show J + K < 10 by omega)]
        simp only [Option.bind_some]
        rw [jMd_more_eq (M := sJ M 115 10 (fun i => lN (acc p A c J K i))) (k := K) (p := p) hA hc (by omega) ht hM (by rw [sJ_off (by decide)]; exact hp J (by omega)) (hb J (by omega))]
        simp only [Option.bind_some]
        rw [qwJ_nI (show J + K < 10 by omega) (by decide), sJ_upd (show J + K < 10 by omega)]
        simp only [Option.bind_some, nI_1]
        have hx : ((fun j => if j = J + K then lN (acc p A c J K (J + K)) + lN (mor p A c J K) else lN (acc p A c J K j)) : Nat → Int64) = (fun i => lN (acc p A c J (K + 1) i)) := by
          funext i
          rw [acc_S]
          by_cases hi : i = J + K
          · subst hi
            rw [if_pos rfl, if_pos rfl, lN_add]
          · rw [if_neg hi, if_neg (fun e => hi e.symm), Nat.add_zero]
        rw [hx]
  · simp only [qu2]
    rw [show (10 : Int32) = nI 10 from rfl, if_pos (nI_le (a := 10) (b := 10) (by omega) (by omega))]
  · simp only [qu2, qlt]
    rw [show (10 : Int32) = nI 10 from rfl, if_neg (nI_ge (a := k) (b := 10) hk (by omega)), qwJ_nI hk (by decide)]
    simp only [Option.bind_some, nI_1]
    rw [sJ_S M 115 k (fun i => 0)]
def sPa (b j : Nat) : Prop := b = 114 ∨ b = 115
/-- the reference's row -/
def rRM (M : qM) (P m w f k T : Nat) : Prop := M.1 91 43 = nI P ∧ M.1 91 44 = nI m ∧ M.1 91 45 = nI w ∧ M.1 91 46 = nI f ∧ M.1 91 47 = nI k ∧ M.1 91 48 = nI T ∧ 2 ≤ P ∧ P ≤ 9 ∧ 1 ≤ m ∧ m ≤ P ∧ w < 1000 ∧ f < 100 ∧ k < 100 ∧ 1 ≤ T ∧ T ≤ 12
theorem rRM_fr {M M1 : qM} {S : Nat → Nat → Prop} {P m w f k T : Nat} (h : rRM M P m w f k T) (g : fr S M M1) (h1 : ∀ j, 43 ≤ j → j < 49 → ¬ S 91 j) : rRM M1 P m w f k T := by
  unfold rRM
  rw [(g 91 43 (h1 _ (by decide) (by decide))).1, (g 91 44 (h1 _ (by decide) (by decide))).1, (g 91 45 (h1 _ (by decide) (by decide))).1, (g 91 46 (h1 _ (by decide) (by decide))).1, (g 91 47 (h1 _ (by decide) (by decide))).1, (g 91 48 (h1 _ (by decide) (by decide))).1]
  exact h
theorem nextParts_wp {M : qM} {A t : Nat} {c : Nat → Nat} (hA : A < 10) (ht : t < 12) (hc : ∀ i, i ≤ t → c i < 11) (hM : M.1 112 t = nI (c t)) (hp : ∀ j, j < 10 → M.2.1 114 j = lN (pt A c t j)) :
    wp (jMd_nextParts (nI A) (nI t) M) (fun M' => (∀ j, j < 10 → M'.2.1 114 j = lN (pt A c (t + 1) j)) ∧ fr sPa M M') := by
  refine wp_eq (nextParts_eq (p := pt A c t) hA (hc t (Nat.le_refl t)) ht hM hp (fun j hj => pt_le hA (fun i hi => hc i (by omega)) hj)) ⟨fun j hj => ?_, (fr_sJ (fun j hj => Or.inr rfl)).tr (fr_sJ (fun j hj => Or.inl rfl))⟩
  rw [sJ_at hj]
  rfl
theorem takenIn_eq {M : qM} {P m w f k T t : Nat} {c : Nat → Nat} (hR : rRM M P m w f k T) (ht : t < 12) (hc : ∀ i, i ≤ t → c i < 11) (hM : M.1 112 t = nI (c t)) (hp : ∀ j, j < 10 → M.2.1 114 j = lN (pt P c t j)) : jMd_takenIn (nI t) M = some (lN (tk P m c t)) := by
  obtain ⟨r0, r1, -, -, -, -, b1, b2, b3, b4, -⟩ := hR
  have hb : ∀ j, j < 10 → pt P c t j ≤ 1000000000 := fun j hj => pt_le (by omega) (fun i hi => hc i (by omega)) hj
  unfold jMd_takenIn tk
  rw [tks_m _ b4, r0, r1]
  rw [qlp_for0 (s0 := ((0 : Int64), (0 : Int32))) (fun J => (lN (sumN (fun j => sumN (fun i => mor (pt P c t) P (c t) j (m - j + i)) (P - m + 1)) J), nI J)) (lN (sumN (fun j => sumN (fun i => mor (pt P c t) P (c t) j (m - j + i)) (P - m + 1)) m)) m rfl (fun J hJ => ?_) ?_]
  · rfl
  · simp only [qu2]
    rw [if_pos (nI_le (by omega) (by omega))]
  · simp only [qu2, qlt]
    rw [if_neg (nI_ge hJ (by omega)), nI_subE (show J ≤ m by omega), nI_subE (show J ≤ P by omega)]
    rw [qlp_for0 (s0 := (lN (sumN (fun j => sumN (fun i => mor (pt P c t) P (c t) j (m - j + i)) (P - m + 1)) J), nI (m - J))) (fun K => (lN (sumN (fun j => sumN (fun i => mor (pt P c t) P (c t) j (m - j + i)) (P - m + 1)) J + sumN (fun i => mor (pt P c t) P (c t) J (m - J + i)) K), nI (m - J + K))) (lN (sumN (fun j => sumN (fun i => mor (pt P c t) P (c t) j (m - j + i)) (P - m + 1)) (J + 1))) (P - m + 1) rfl (fun K hK => ?_) ?_]
    · simp only [Option.bind_some, nI_1]
    · simp only [qu2]
      rw [if_pos (nI_lt (by omega) (by omega))]
      rfl
    · simp only [qu2, qlt]
      rw [if_neg (nI_nlt (by omega) (by omega)), jMd_more_eq (p := pt P c t) (by omega) (hc t (Nat.le_refl t)) (by omega) ht hM (hp J (by omega)) (hb J (by omega))]
      simp only [Option.bind_some, nI_1, lN_add, Nat.add_assoc]
      rfl
theorem valueOf_wp {M : qM} {P m w f k T t : Nat} {c : Nat → Nat} (hR : rRM M P m w f k T) (ht : t ≤ T) (hc : ∀ i, i < T → M.1 112 i = nI (c i) ∧ c i < 11) :
    wp (jMd_valueOf (nI t) M) (fun r => r.1 = vl (P - 1) m c w f k T t ∧ fr sPa M r.2) := by
  have hR' := hR
  obtain ⟨r0, r1, r2, r3, r4, r5, b1, b2, b3, b4, b5, b6, b7, b8, b9⟩ := hR
  unfold jMd_valueOf
  rw [r5]
  refine wp_if (fun he => ?_) (fun he => ?_)
  · rw [nI_eq (by omega) (by omega)] at he
    refine wp_some ⟨?_, fr_rf _ _⟩
    unfold vl
    rw [if_pos he]
    show -(M.1 91 47).toInt64 * (nI T).toInt64 * 1000000000 = _
    rw [r4, nI_l (by omega), nI_l (by omega), Int64.mul_comm _ 1000000000, ← Int64.mul_assoc]
    congr 1
    rw [Int64.mul_neg, ← Int64.neg_mul]
  · rw [nI_eq (by omega) (by omega)] at he
    refine wp_be (firstParts_eq M (P - 1) c) ?_
    refine wp_bd (wp_for (fun n s => s.1 = nI n ∧ (∀ j, j < 10 → s.2.2.1 114 j = lN (pt (P - 1) c n j)) ∧ fr sPa M s.2) t ?_ ?_ ?_)
    · exact ⟨rfl, fun j hj => sJ_at hj, fr_sJ (fun j hj => Or.inl rfl)⟩
    · rintro n ⟨x, N⟩ hn ⟨h1, h2, h3⟩
      have h1 : x = nI n := h1
      have h3 : fr sPa M N := h3
      subst h1
      simp only [qu2]
      refine wp_in (nI_ge hn (by omega)) ?_
      have e0 : N.1 91 43 = nI P := by rw [(h3 91 43 (by simp [sPa])).1]; exact r0
      rw [e0, show (1 : Int32) = nI 1 from rfl, nI_subE (by omega)]
      refine wp_bd ((nextParts_wp (c := c) (by omega) (by omega) (fun i hi => (hc i (by omega)).2) (by rw [(h3 112 n (by simp [sPa])).1]; exact (hc n (by omega)).1) h2).mono ?_)
      rintro M1 ⟨g1, g2⟩
      exact wp_some ⟨nI_add n 1, g1, h3.tr g2⟩
    · rintro ⟨x, N⟩ ⟨h1, h2, h3⟩
      have h1 : x = nI t := h1
      subst h1
      have h3 : fr sPa M N := h3
      have h2 : ∀ j, j < 10 → N.2.1 114 j = lN (pt (P - 1) c t j) := h2
      refine wp_ip (nI_le (Nat.le_refl _) (by omega)) (wp_some ?_)
      show wp _ _
      have hRN := rRM_fr hR' h3 (fun j _ _ => by simp [sPa])
      obtain ⟨s0, s1, s2, s3, s4, -⟩ := hRN
      rw [s0, s1, s2, s3, s4, show (1 : Int32) = nI 1 from rfl, nI_subE (show 1 ≤ m by omega), nI_subE (show 1 ≤ P by omega)]
      have hb : ∀ j, j < 10 → pt (P - 1) c t j ≤ 1000000000 := fun j hj => pt_le (by omega) (fun i hi => (hc i (by omega)).2) hj
      have hMt : N.1 112 t = nI (c t) := by rw [(h3 112 t (by simp [sPa])).1]; exact (hc t (by omega)).1
      have hct : c t < 11 := (hc t (by omega)).2
      have hlp : ∀ (q : Option Int64), q = some (lN (sh (P - 1) m c t)) → wp (q.bind fun x8 => some ((x8 * ((jmaxI 0 (nI w - nI f * nI t)) : Int32).toInt64) - (((nI k).toInt64 * (nI t).toInt64) * 1000000000), N)) (fun r => r.1 = vl (P - 1) m c w f k T t ∧ fr sPa M r.2) := by
        rintro q rfl
        refine wp_some ⟨?_, h3⟩
        unfold vl
        rw [if_neg he]
        show lN (sh (P - 1) m c t) * (jmaxI 0 (nI w - nI f * nI t)).toInt64 - ((nI k).toInt64 * (nI t).toInt64) * 1000000000 = _
        rw [worth_eq b5 b6 (by omega), nI_l (by omega), nI_l (by omega)]
        congr 1
        rw [Int64.mul_comm _ 1000000000, Int64.mul_assoc]
      refine hlp _ ?_
      unfold sh
      rw [shs_m _ (by omega)]
      rw [qlp_for0 (s0 := ((0 : Int64), (0 : Int32))) (fun J => (lN (sumN (fun j => sumN (fun i => mor (pt (P - 1) c t) (P - 1) (c t) j (m - 1 - j + i) / (m - 1 - j + i + 1)) (P - 1 + 1 - m + 1)) J), nI J)) (lN (sumN (fun j => sumN (fun i => mor (pt (P - 1) c t) (P - 1) (c t) j (m - 1 - j + i) / (m - 1 - j + i + 1)) (P - 1 + 1 - m + 1)) m)) m rfl (fun J hJ => ?_) ?_]
      · simp only [qu2]
        rw [if_pos (nI_le (by omega) (by omega))]
      · simp only [qu2, qlt]
        rw [if_neg (nI_ge hJ (by omega)), nI_subE (show J ≤ m - 1 by omega), nI_subE (show J ≤ P - 1 by omega)]
        rw [qlp_for0 (s0 := (lN (sumN (fun j => sumN (fun i => mor (pt (P - 1) c t) (P - 1) (c t) j (m - 1 - j + i) / (m - 1 - j + i + 1)) (P - 1 + 1 - m + 1)) J), nI (m - 1 - J))) (fun K => (lN (sumN (fun j => sumN (fun i => mor (pt (P - 1) c t) (P - 1) (c t) j (m - 1 - j + i) / (m - 1 - j + i + 1)) (P - 1 + 1 - m + 1)) J + sumN (fun i => mor (pt (P - 1) c t) (P - 1) (c t) J (m - 1 - J + i) / (m - 1 - J + i + 1)) K), nI (m - 1 - J + K))) (lN (sumN (fun j => sumN (fun i => mor (pt (P - 1) c t) (P - 1) (c t) j (m - 1 - j + i) / (m - 1 - j + i + 1)) (P - 1 + 1 - m + 1)) (J + 1))) (P - 1 + 1 - m + 1) rfl (fun K hK => ?_) ?_]
        · simp only [Option.bind_some, nI_add]
        · simp only [qu2]
          rw [if_pos (nI_lt (by omega) (by omega))]
          rfl
        · simp only [qu2, qlt]
          have hmb := mor_b (p := pt (P - 1) c t) (a := P - 1) (c := c t) (j := J) (k := m - 1 - J + K) (by omega) hct (by omega) (hb J (by omega))
          rw [if_neg (nI_nlt (by omega) (by omega)), jMd_more_eq (p := pt (P - 1) c t) (by omega) hct (by omega) (by omega) hMt (h2 J (by omega)) (hb J (by omega))]
          simp only [Option.bind_some, nI_add]
          rw [nI_l (by omega), lN_div (by omega) (by omega) (by omega)]
          simp only [Option.bind_some, lN_add, Nat.add_assoc]
          rfl
theorem bestOf_wp {M : qM} {P m w f k T : Nat} {c : Nat → Nat} (hR : rRM M P m w f k T) (hc : ∀ i, i < T → M.1 112 i = nI (c i) ∧ c i < 11) :
    wp (jMd_bestOf M) (fun r => r.1 = nI (gr (vl (P - 1) m c w f k T) T) ∧ fr sPa M r.2) := by
  have b9 : T ≤ 12 := hR.2.2.2.2.2.2.2.2.2.2.2.2.2.2
  have hN : ∀ {N : qM}, fr sPa M N → rRM N P m w f k T ∧ ∀ i, i < T → N.1 112 i = nI (c i) ∧ c i < 11 := by
    intro N hf
    exact ⟨rRM_fr hR hf (fun j _ _ => by simp [sPa]), fun i hi => ⟨by rw [(hf 112 i (by simp [sPa])).1]; exact (hc i hi).1, (hc i hi).2⟩⟩
  unfold jMd_bestOf
  refine wp_bd (wp_for (fun n s => s.1 = nI (gr (vl (P - 1) m c w f k T) n) ∧ s.2.1 = nI (n + 1) ∧ fr sPa M s.2.2) T ⟨rfl, rfl, fr_rf _ _⟩ ?_ ?_)
  · rintro n ⟨x, y, N⟩ hn ⟨h1, h2, h3⟩
    have h1 : x = nI (gr (vl (P - 1) m c w f k T) n) := h1
    have h2 : y = nI (n + 1) := h2
    have h3 : fr sPa M N := h3
    subst h1 h2
    have hg := gr_le (vl (P - 1) m c w f k T) n
    have e5 : N.1 91 48 = nI T := (hN h3).1.2.2.2.2.2.1
    simp only [qu3]
    rw [e5]
    refine wp_in (nI_nlt (by omega) (by omega)) ?_
    refine wp_bd ((valueOf_wp (t := n + 1) (hN h3).1 (by omega) (hN h3).2).mono ?_)
    rintro ⟨v1, M1⟩ ⟨g1, g2⟩
    have g1 : v1 = vl (P - 1) m c w f k T (n + 1) := g1
    have g2 : fr sPa N M1 := g2
    subst g1
    simp only [qu2]
    refine wp_bd ((valueOf_wp (t := gr (vl (P - 1) m c w f k T) n) (hN (h3.tr g2)).1 (by omega) (hN (h3.tr g2)).2).mono ?_)
    rintro ⟨v2, M2⟩ ⟨g3, g4⟩
    have g3 : v2 = vl (P - 1) m c w f k T (gr (vl (P - 1) m c w f k T) n) := g3
    subst g3
    simp only [qlt, lg_cmp_le]
    refine wp_some ⟨?_, nI_1 (n + 1), (h3.tr g2).tr g4⟩
    simp only [gr]
    split <;> rfl
  · rintro ⟨x, y, N⟩ ⟨h1, h2, h3⟩
    have h2 : y = nI (T + 1) := h2
    have h3 : fr sPa M N := h3
    subst h2
    have e5 : N.1 91 48 = nI T := (hN h3).1.2.2.2.2.2.1
    simp only [qu3]
    rw [e5]
    exact wp_ip (nI_lt (by omega) (by omega)) (wp_some (wp_some ⟨h1, h3⟩))
theorem rests_wp {M : qM} {P m w f k T s : Nat} {c : Nat → Nat} (hR : rRM M P m w f k T) (hc : ∀ i, i < T → M.1 112 i = nI (c i) ∧ c i < 11) (hs : s < 100) :
    wp (jMd_rests (nI s) M) (fun r => r.1 = rst (vl (P - 1) m c w f k T) c (lst (vl (P - 1) m c w f k T) T s) T T ∧ fr sPa M r.2) := by
  have b9 : T ≤ 12 := hR.2.2.2.2.2.2.2.2.2.2.2.2.2.2
  have hN : ∀ {N : qM}, fr sPa M N → rRM N P m w f k T ∧ ∀ i, i < T → N.1 112 i = nI (c i) ∧ c i < 11 := by
    intro N hf
    exact ⟨rRM_fr hR hf (fun j _ _ => by simp [sPa]), fun i hi => ⟨by rw [(hf 112 i (by simp [sPa])).1]; exact (hc i hi).1, (hc i hi).2⟩⟩
  unfold jMd_rests
  refine wp_bd ((bestOf_wp hR hc).mono ?_)
  rintro ⟨x, M1⟩ ⟨h1, h2⟩
  have h1 : x = nI (gr (vl (P - 1) m c w f k T) T) := h1
  have h2 : fr sPa M M1 := h2
  subst h1
  simp only [qu2]
  refine wp_bd ((valueOf_wp (hN h2).1 (gr_le _ T) (hN h2).2).mono ?_)
  rintro ⟨v, M2⟩ ⟨h3, h4⟩
  have h3 : v = vl (P - 1) m c w f k T (gr (vl (P - 1) m c w f k T) T) := h3
  have h4 : fr sPa M1 M2 := h4
  subst h3
  have h5 := h2.tr h4
  simp only [qlt]
  have hvl : ∀ {N : qM} {t : Nat}, fr sPa M N → t ≤ T → wp (jMd_valueOf (nI t) N) (fun r => r.1 = vl (P - 1) m c w f k T t ∧ fr sPa M r.2) := by
    intro N t hf ht
    exact (valueOf_wp (hN hf).1 ht (hN hf).2).mono (fun r h => ⟨h.1, hf.tr h.2⟩)
  have hL : vl (P - 1) m c w f k T (gr (vl (P - 1) m c w f k T) T) - (nI s).toInt64 * 1000000000 = lst (vl (P - 1) m c w f k T) T s := by
    unfold lst
    rw [nI_l (by omega), Int64.mul_comm (lN s)]
  rw [hL]
  generalize vl (P - 1) m c w f k T = v at hvl ⊢
  generalize lst v T s = L
  refine wp_bd (wp_for (fun n st => st.2.1 = nI n ∧ (st.1 = true ∧ rst v c L T (T - n) = rst v c L T T ∨ st.1 = false ∧ rst v c L T T = true) ∧ fr sPa M st.2.2) T ⟨rfl, Or.inl ⟨rfl, rfl⟩, h5⟩ ?_ ?_)
  · rintro n ⟨z, x, N⟩ hn ⟨g1, g2, g3⟩
    have g1 : x = nI n := g1
    have g2 : z = true ∧ rst v c L T (T - n) = rst v c L T T ∨ z = false ∧ rst v c L T T = true := g2
    have g3 : fr sPa M N := g3
    subst g1
    have e5 : N.1 91 48 = nI T := (hN g3).1.2.2.2.2.2.1
    simp only [qu3]
    rw [e5]
    refine wp_in (nI_ge hn (by omega)) ?_
    rcases g2 with ⟨rfl, hr⟩ | ⟨rfl, hr⟩
    · have hr1 : T - n = (T - n - 1) + 1 := by omega
      rw [hr1] at hr
      simp only [rst] at hr
      rw [show T - (T - n - 1 + 1) = n by omega, show T - n - 1 = T - (n + 1) by omega] at hr
      have hcn := (hc n hn).2
      have z1 : (nI (c n) ≤ (0 : Int32)) = (c n ≤ 0) := by rw [show (0 : Int32) = nI 0 from rfl]; exact propext (nI_leI (by omega) (by omega))
      have z2 : ((10 : Int32) ≤ nI (c n)) = (10 ≤ c n) := by rw [show (10 : Int32) = nI 10 from rfl]; exact propext (nI_leI (by omega) (by omega))
      simp only [b2i_t0, if_false]
      have key : ∀ {N : qM}, fr sPa M N → ¬ (0 < c n ∧ v n < L) → wp (((qrI N 112 12 (nI n)).bind fun v27 => if (10 : Int32) ≤ v27 then some false else some true).bind fun z25 => some (Sum.inl (z25, nI n + 1, N)) : Option ((Bool × Int32 × qM) ⊕ (qM ⊕ (Bool × qM)))) (sm (fun st => st.2.1 = nI (n + 1) ∧ (st.1 = true ∧ rst v c L T (T - (n + 1)) = rst v c L T T ∨ st.1 = false ∧ rst v c L T T = true) ∧ fr sPa M st.2.2) (fun r14 => wp (qse r14 (fun M11 =>
    some (false, M11)) (fun r14 =>
    qu2 r14 fun z12 M13 =>
    ((
      if (b2i z12 : Int32) = (0 : Int32) then
        some (true, M13)
      else
        (jMd_valueOf (M13.1 91 48) M13).bind fun w18 =>
        qu2 w18 fun r19 M20 =>
        if (lg_cmp r19 L : Int32) < (0 : Int32) then
          some (false, M20)
        else
          some (true, M20)) : Option (Bool × qM)).bind fun w17 =>
    qu2 w17 fun z15 M16 =>
    some (z15, M16))) (fun r => r.1 = rst v c L T T ∧ fr sPa M r.2))) := by
        intro N hf hq
        rw [if_neg hq] at hr
        rw [qrI_nI (show n < 12 by omega) (by decide), ((hN hf).2 n hn).1]
        simp only [Option.bind_some, z2]
        by_cases h10 : c n = 10
        · rw [if_pos (by omega)]
          rw [if_pos h10] at hr
          exact wp_some ⟨nI_1 n, Or.inr ⟨rfl, hr.symm⟩, hf⟩
        · rw [if_neg (by omega)]
          rw [if_neg h10] at hr
          exact wp_some ⟨nI_1 n, Or.inl ⟨rfl, hr⟩, hf⟩
      rw [qrI_nI (show n < 12 by omega) (by decide), ((hN g3).2 n hn).1]
      simp only [Option.bind_some, z1]
      by_cases hc0 : c n ≤ 0
      · simp only [if_pos hc0, Option.bind_some]
        rw [if_neg (by decide)]
        have := key g3 (by omega)
        rw [qrI_nI (show n < 12 by omega) (by decide), ((hN g3).2 n hn).1] at this
        exact this
      · simp only [if_neg hc0, Option.bind_some, if_true]
        refine wp_bd ((hvl g3 (show n ≤ T by omega)).mono ?_)
        rintro ⟨v1, M3⟩ ⟨k1, k2⟩
        have k1 : v1 = v n := k1
        have k2 : fr sPa M M3 := k2
        subst k1
        simp only [lg_cmp_ge]
        refine wp_if (fun h6 => ?_) (fun h6 => ?_)
        · exact key k2 (fun hx => by rw [← l_nle] at hx; exact hx.2 h6)
        · rw [if_pos ⟨by omega, by rw [← l_nle]; exact h6⟩] at hr
          exact wp_some (wp_some ⟨hr, k2⟩)
    · simp only [b2i_f0, if_true, Option.bind_some]
      rw [if_neg (by decide)]
      exact wp_some ⟨nI_1 n, Or.inr ⟨rfl, hr⟩, g3⟩
  · rintro ⟨z, x, N⟩ ⟨g1, g2, g3⟩
    have g1 : x = nI T := g1
    have g2 : z = true ∧ rst v c L T (T - T) = rst v c L T T ∨ z = false ∧ rst v c L T T = true := g2
    have g3 : fr sPa M N := g3
    subst g1
    have e5 : N.1 91 48 = nI T := (hN g3).1.2.2.2.2.2.1
    simp only [qu3]
    rw [e5]
    refine wp_ip (nI_le (Nat.le_refl _) (by omega)) (wp_some ?_)
    refine wp_se ?_
    show wp _ _
    simp only [qu2]
    refine wp_bd ?_
    rcases g2 with ⟨rfl, hr⟩ | ⟨rfl, hr⟩
    · refine wp_in (by decide) ?_
      rw [e5]
      refine wp_bd ((hvl g3 (Nat.le_refl T)).mono ?_)
      rintro ⟨v1, M3⟩ ⟨k1, k2⟩
      have k1 : v1 = v T := k1
      subst k1
      rw [Nat.sub_self] at hr
      simp only [rst] at hr
      simp only [lg_cmp_lt]
      refine wp_if (fun h => ?_) (fun h => ?_)
      · refine wp_some (wp_some ⟨?_, k2⟩)
        rw [← hr]
        exact (decide_eq_false (by rw [← l_nle] at h; exact h)).symm
      · refine wp_some (wp_some ⟨?_, k2⟩)
        rw [← hr]
        refine (decide_eq_true ?_).symm
        rw [← l_nle] at h
        exact Classical.not_not.mp h
    · exact wp_ip rfl (wp_some (wp_some ⟨hr.symm, g3⟩))
