/-! ===== feed and end once more, with what else stands ===== -/
def tpC (b j : Nat) : Prop := (b = 1 ∧ j = 1) ∨ b = 2
def tpM (b j : Nat) : Prop := (b = 91 ∧ j = 2) ∨ b = 92
theorem add_step2 {M : qM} {τ : tT} (h : rTC M τ) (p s s' : Int32) (hs : ¬ s < 0) (hs' : s + (-8) = s') (hn : τ.1 + wc p s ≤ 160) :
    ∃ M1, (qu2 (s, M) fun x1 M2 =>
    if (x1 : Int32) < (0 : Int32) then
      (some (.inr M2) : Option ((Int32 × qM) ⊕ qM))
    else
      qlt ((((p : Int32).toUInt32 >>> ((x1 : Int32).toUInt32 &&& Int32.toUInt32 31)).toInt32) &&& 255 : Int32) fun x5 =>
      ((
        if (x5 : Int32) = (0 : Int32) then
          some M2
        else
          if (160 : Int32) ≤ (M2.1 1 1 : Int32) then
            some M2
          else
            (qwI M2 2 160 (M2.1 1 1) x5).bind fun M8 =>
            qlt (qI M8 1 1 ((M8.1 1 1) + 1)) fun M9 =>
            some M9) : Option qM).bind fun M6 =>
      qlt (x1 + (-8) : Int32) fun x7 =>
      some (.inl (x7, M6))) = some (.inl (s', M1)) ∧ rTC M1 (tpush τ (wby p s)) ∧ fr tpC M M1 := by
  subst hs'
  unfold wc at hn
  unfold qu2 qlt
  simp only [if_neg hs]
  by_cases hz : wby p s = 0
  · refine ⟨M, ?_, ?_, fr_rf _ M⟩
    · unfold wby at hz
      simp [hz]
    · unfold tpush
      rw [if_pos hz]
      exact h
  · rw [if_neg hz] at hn
    refine ⟨tW 1 2 1 M τ.1 (wby p s), ?_, rTC_push h _ hz (by omega), (fr_I (.inr rfl)).tr (fr_I (.inl ⟨rfl, rfl⟩))⟩
    have h1 : ¬ (160 : Int32) ≤ M.1 1 1 := by
      rw [h.1]
      exact nI_ge (a := τ.1) (b := 160) (by omega) (by decide)
    have h2 : qwI M 2 160 (M.1 1 1) (wby p s) = some (qI M 2 τ.1 (wby p s)) := by rw [h.1]; exact qwI_nI (by omega) (by decide)
    unfold wby at hz h2 ⊢
    simp only [if_neg hz, if_neg h1, h2, Option.bind_some]
    unfold tW
    have h3 : (qI M 2 τ.1 (((p.toUInt32 >>> (s.toUInt32 &&& Int32.toUInt32 31)).toInt32) &&& 255)).1 1 1 + 1 = nI (τ.1 + 1) := by
      simp [qI_1, h.1, nI_1]
    rw [h3]
theorem add_eq2 {M : qM} {τ : tT} (h : rTC M τ) (p : Int32) (hn : τ.1 + tcnt p ≤ 160) : ∃ M1, jTp_add p M = some M1 ∧ rTC M1 (tadd τ p) ∧ fr tpC M M1 := by
  unfold tcnt at hn
  obtain ⟨M1, e1, r1, f1⟩ := add_step2 h p 24 16 (by decide) (by decide) (by omega)
  obtain ⟨M2, e2, r2, f2⟩ := add_step2 r1 p 16 8 (by decide) (by decide) (by rw [tpush_1]; omega)
  obtain ⟨M3, e3, r3, f3⟩ := add_step2 r2 p 8 0 (by decide) (by decide) (by rw [tpush_1, tpush_1]; omega)
  obtain ⟨M4, e4, r4, f4⟩ := add_step2 r3 p 0 (-8) (by decide) (by decide) (by rw [tpush_1, tpush_1, tpush_1]; omega)
  refine ⟨M4, ?_, r4, ((f1.tr f2).tr f3).tr f4⟩
  unfold jTp_add
  rw [qlp_inl e1, qlp_inl e2, qlp_inl e3, qlp_inl e4, qlp_inr (r := M4) (by unfold qu2; simp)]
  rfl
section Feed2
variable (a b c d e : Int32)
theorem mfeed2 {M : qM} {τ : tT} (h : rTM M τ) : ∃ M1, jMd_feed a b c d e M = some (if τ.1 + (tcnt a + tcnt b + tcnt c + tcnt d + tcnt e) ≤ 160 then nI (τ.1 + (tcnt a + tcnt b + tcnt c + tcnt d + tcnt e)) else -1, M1) ∧ rTM M1 (if τ.1 + (tcnt a + tcnt b + tcnt c + tcnt d + tcnt e) ≤ 160 then tadd (tadd (tadd (tadd (tadd τ a) b) c) d) e else τ) ∧ fr tpM M M1 := by
  have hc : ∀ k, mcnt a b c d e k ≤ k := by
    intro k
    induction k with
    | zero => exact Nat.le_refl 0
    | succ k ih =>
      show mcnt a b c d e k + _ ≤ _
      split <;> omega
  rw [← mcnt_20]
  unfold jMd_feed
  rw [qlp_for0 (s0 := ((0 : Int32), (0 : Int32))) (fun k => (nI (mcnt a b c d e k), nI k)) (nI (mcnt a b c d e 20)) 20 rfl (fun k hk => ?_) ?_]
  · have hle : (M.1 91 2 + nI (mcnt a b c d e 20) ≤ (160 : Int32)) ↔ τ.1 + mcnt a b c d e 20 ≤ 160 := by
      rw [h.1, nI_add]
      have := hc 20
      have h160 := h.2.1
      exact nI_leI (a := τ.1 + mcnt a b c d e 20) (b := 160) (by omega) (by decide)
    simp only [Option.bind_some, hle]
    by_cases hf : τ.1 + mcnt a b c d e 20 ≤ 160
    · simp only [if_pos hf]
      have hlp : ∃ r, qlp (fun q => qu2 q fun x5 M6 =>
          if (20 : Int32) ≤ (x5 : Int32) then
            (some (.inr M6) : Option ((Int32 × qM) ⊕ qM))
          else
            qlt ((jMd_byteOf a b c d e x5) : Int32) fun x9 =>
            ((
              if (x9 : Int32) = (0 : Int32) then
                some M6
              else
                (qwI M6 92 160 (M6.1 91 2) x9).bind fun M12 =>
                qlt (qI M12 91 2 ((M12.1 91 2) + 1)) fun M13 =>
                some M13) : Option qM).bind fun M10 =>
            qlt (x5 + 1 : Int32) fun x11 =>
            some (.inl (x11, M10))) ((0 : Int32), M) = some r ∧ rTM r (mfold a b c d e τ 20) ∧ fr tpM M r := by
        refine qlp_inv (fun k s => s.1 = nI k ∧ rTM s.2 (mfold a b c d e τ k) ∧ fr tpM M s.2) (fun M1 => rTM M1 (mfold a b c d e τ 20) ∧ fr tpM M M1) 20 ?_ ?_ (0, M) ⟨rfl, h, fr_rf _ M⟩
        · rintro k ⟨x, N⟩ hk ⟨h1, h2, h3⟩
          have h1 : x = nI k := h1
          subst h1
          have h20 : ¬ (20 : Int32) ≤ nI k := nI_ge (a := k) (b := 20) hk (by decide)
          have hm := mfold_1 a b c d e τ k
          have hstep : mcnt a b c d e k + (if mb a b c d e k = 0 then 0 else 1) ≤ mcnt a b c d e 20 := by
            have mono : ∀ j i, i ≤ j → mcnt a b c d e i ≤ mcnt a b c d e j := by
              intro j
              induction j with
              | zero => intro i hi; rw [show i = 0 by omega]; exact Nat.le_refl _
              | succ j ih =>
                intro i hi
                by_cases hij : i = j + 1
                · rw [hij]; exact Nat.le_refl _
                · exact Nat.le_trans (ih i (by omega)) (by show _ ≤ mcnt a b c d e j + _; omega)
            exact mono 20 (k + 1) (by omega)
          by_cases hz : mb a b c d e k = 0
          · refine ⟨(nI (k + 1), N), ?_, rfl, ?_, h3⟩
            · have hz' : jMd_byteOf a b c d e (nI k) = 0 := hz
              simp [qu2, qlt, h20, hz', nI_1]
            · show rTM N (tpush (mfold a b c d e τ k) (mb a b c d e k))
              unfold tpush
              rw [if_pos hz]
              exact h2
          · rw [if_neg hz] at hstep
            refine ⟨(nI (k + 1), tW 91 92 2 N (mfold a b c d e τ k).1 (mb a b c d e k)), ?_, rfl, rTM_push h2 _ hz (by omega), h3.tr ((fr_I (.inr rfl)).tr (fr_I (.inl ⟨rfl, rfl⟩)))⟩
            have hz' : ¬ jMd_byteOf a b c d e (nI k) = 0 := hz
            have hw : qwI N 92 160 (N.1 91 2) (jMd_byteOf a b c d e (nI k)) = some (qI N 92 (mfold a b c d e τ k).1 (mb a b c d e k)) := by rw [h2.1]; exact qwI_nI (by omega) (by decide)
            have h5 : (qI N 92 (mfold a b c d e τ k).1 (mb a b c d e k)).1 91 2 + 1 = nI ((mfold a b c d e τ k).1 + 1) := by
              have h9 : N.1 91 2 = nI (mfold a b c d e τ k).1 := h2.1
              simp [qI_1, h9, nI_1]
            simp [qu2, qlt, h20, hz', hw, h5, nI_1, tW]
        · rintro ⟨x, N⟩ ⟨h1, h2, h3⟩
          have h1 : x = nI 20 := h1
          subst h1
          exact ⟨N, by simp [qu2, show (20 : Int32) ≤ nI 20 by decide], h2, h3⟩
      obtain ⟨M1, hl, hr, hfr⟩ := hlp
      refine ⟨M1, ?_, by rw [← mfold_20]; exact hr, hfr⟩
      rw [hl]
      have h1 : M1.1 91 2 = nI (τ.1 + mcnt a b c d e 20) := by rw [hr.1, mfold_1]
      simp only [Option.bind_some, h1]
    · simp only [if_neg hf]
      exact ⟨M, rfl, h, fr_rf _ M⟩
  · simp [qu2, show (20 : Int32) ≤ nI 20 by decide]
  · have h20 : ¬ (20 : Int32) ≤ nI k := nI_ge (a := k) (b := 20) hk (by decide)
    show (if (20 : Int32) ≤ nI k then _ else _) = _
    rw [if_neg h20]
    unfold qlt
    by_cases hz : mb a b c d e k = 0
    · have hz' : jMd_byteOf a b c d e (nI k) = 0 := hz
      simp [hz', b2i, nI_1, mcnt, hz]
    · have hz' : ¬ jMd_byteOf a b c d e (nI k) = 0 := hz
      simp [hz', b2i, nI_1, mcnt, hz]
end Feed2
theorem cfeed2 {M : qM} {τ : tT} (h : rTC M τ) (a b c d e : Int32) : ∃ M1, jTc_feed a b c d e M = some (if τ.1 + (tcnt a + tcnt b + tcnt c + tcnt d + tcnt e) ≤ 160 then nI (τ.1 + (tcnt a + tcnt b + tcnt c + tcnt d + tcnt e)) else -1, M1) ∧ rTC M1 (if τ.1 + (tcnt a + tcnt b + tcnt c + tcnt d + tcnt e) ≤ 160 then tadd (tadd (tadd (tadd (tadd τ a) b) c) d) e else τ) ∧ fr tpC M M1 := by
  have ha := tcnt_le a
  have hb := tcnt_le b
  have hc := tcnt_le c
  have hd := tcnt_le d
  have he := tcnt_le e
  have h160 := h.2.1
  unfold jTc_feed
  simp only [bytesOf_eq, Option.bind_some, qlt, nI_add]
  have hle : (M.1 1 1 + nI (tcnt a + tcnt b + tcnt c + tcnt d + tcnt e) ≤ (160 : Int32)) ↔ τ.1 + (tcnt a + tcnt b + tcnt c + tcnt d + tcnt e) ≤ 160 := by
    rw [h.1, nI_add]
    exact nI_leI (b := 160) (by omega) (by decide)
  simp only [hle]
  by_cases hf : τ.1 + (tcnt a + tcnt b + tcnt c + tcnt d + tcnt e) ≤ 160
  · simp only [if_pos hf]
    obtain ⟨M1, e1, r1, f1⟩ := add_eq2 h a (by omega)
    obtain ⟨M2, e2, r2, f2⟩ := add_eq2 r1 b (by rw [tadd_1]; omega)
    obtain ⟨M3, e3, r3, f3⟩ := add_eq2 r2 c (by rw [tadd_1, tadd_1]; omega)
    obtain ⟨M4, e4, r4, f4⟩ := add_eq2 r3 d (by rw [tadd_1, tadd_1, tadd_1]; omega)
    obtain ⟨M5, e5, r5, f5⟩ := add_eq2 r4 e (by rw [tadd_1, tadd_1, tadd_1, tadd_1]; omega)
    refine ⟨M5, ?_, r5, (((f1.tr f2).tr f3).tr f4).tr f5⟩
    have hl := r5.1
    rw [tadd_1, tadd_1, tadd_1, tadd_1, tadd_1] at hl
    simp only [e1, e2, e3, e4, e5, Option.bind_some, hl]
    have : τ.1 + tcnt a + tcnt b + tcnt c + tcnt d + tcnt e = τ.1 + (tcnt a + tcnt b + tcnt c + tcnt d + tcnt e) := by omega
    rw [this]
  · simp only [if_neg hf]
    exact ⟨M, rfl, h, fr_rf _ M⟩
theorem wby_b (p s : Int32) : ∃ c, wby p s = nI c ∧ c < 256 := by
  unfold wby
  generalize (p.toUInt32 >>> (s.toUInt32 &&& Int32.toUInt32 31)).toInt32 = x
  refine ⟨(x.toBitVec &&& 255#32).toNat, ?_, ?_⟩
  · apply Int32.toBitVec_inj.mp
    rw [Int32.toBitVec_and]
    show _ = BitVec.ofNat 32 _
    rw [BitVec.ofNat_toNat, BitVec.setWidth_eq]
    rfl
  · rw [BitVec.toNat_and]
    have : x.toBitVec.toNat &&& (255#32).toNat ≤ 255 := Nat.and_le_right
    omega
theorem tOK_push {τ : tT} (h : tOK τ) (p s : Int32) : tOK (tpush τ (wby p s)) := by
  unfold tpush
  by_cases hz : wby p s = 0
  · rw [if_pos hz]; exact h
  · rw [if_neg hz]
    intro j hj
    have hj : j < τ.1 + 1 := hj
    show ∃ c, (if j = τ.1 then wby p s else τ.2 j) = nI c ∧ _
    by_cases hjt : j = τ.1
    · rw [if_pos hjt]
      obtain ⟨c, h1, h2⟩ := wby_b p s
      refine ⟨c, h1, ?_, h2⟩
      rcases Nat.eq_zero_or_pos c with h0 | h0
      · subst h0
        exact absurd h1 hz
      · exact h0
    · rw [if_neg hjt]
      exact h j (by omega)
theorem tOK_add {τ : tT} (h : tOK τ) (p : Int32) : tOK (tadd τ p) := tOK_push (tOK_push (tOK_push (tOK_push h _ _) _ _) _ _) _ _
theorem RR_tape {M M2 : qM} {n : Nat} {vs : Nat → vT} {c : Nat} {wo : Nat → Nat} {Ws : Nat → wW} {τ τ' : tT} (h : RA n vs c wo Ws τ M) (h1 : tOK τ' ∧ rTC M2 τ' ∧ rTM M2 τ') (G : fr (fun b j => tpC b j ∨ tpM b j) M M2) : RR M2 := by
  obtain ⟨_, h2, h3, h4, h5, h6, h7⟩ := h
  have hn := h2.1.1
  have hc := h3.1.2.1
  refine ⟨n, vs, c, wo, Ws, τ', h1, ⟨rVsC_k h2.1 G ?_ ?_, rVsM_k h2.2 G ?_ ?_⟩, ⟨cuC_k h3.1 G ?_ ?_ ?_, cuM_k h3.2 G ?_ ?_ ?_⟩, rRow_k h4 G ?_ ?_ ?_, ⟨rTd_k h5.1 G ?_ ?_ ?_ ?_ ?_ ?_ ?_, rTo_k h5.2 G ?_ ?_⟩, rBw_k h6 G ?_ ?_, rMK_k h7 G ?_ ?_ ?_ ?_ ?_ ?_⟩ <;> intros <;> unfold tpC tpM <;> first | omega | (unfold kV at *; omega) | (unfold kCu at *; omega)
theorem r_feed {M : qM} (h : RR M) (a b c d e : Int32) : stp (jTc_feed a b c d e) (jMd_feed a b c d e) M := by
  obtain ⟨n, vs, cc, wo, Ws, τ, hA⟩ := h
  obtain ⟨M1, e1, r1, f1⟩ := cfeed2 hA.1.2.1 a b c d e
  have hM1 : rTM M1 τ := rTM_fr hA.1.2.2 f1 (by unfold tpC; omega) (by unfold tpC; intro j; omega)
  obtain ⟨M2, e2, r2, f2⟩ := mfeed2 a b c d e hM1
  refine ⟨_, M1, M2, e1, e2, RR_tape hA ⟨?_, rTC_fr r1 f2 (by unfold tpM; omega) (by unfold tpM; intro j; omega), r2⟩ ((f1.mono (fun _ _ h => .inl h)).tr (f2.mono (fun _ _ h => .inr h)))⟩
  split
  · exact tOK_add (tOK_add (tOK_add (tOK_add (tOK_add hA.1.1 _) _) _) _) _
  · exact hA.1.1
theorem r_end {M : qM} (h : RR M) (n : Int32) : ∃ r M1 M2, jTc_end n M = (r, M1) ∧ jMd_end n M1 = (r, M2) ∧ RR M2 := by
  obtain ⟨k, vs, cc, wo, Ws, τ, hA⟩ := h
  have hR : RR M := ⟨k, vs, cc, wo, Ws, τ, hA⟩
  obtain ⟨hT, h1, h2⟩ := hA.1
  unfold jTc_end jMd_end
  by_cases hn : n < 0
  · exact ⟨false, M, M, by simp [hn], by simp [hn], hR⟩
  · by_cases hl : n ≤ M.1 1 1
    · have e1 : (qI M 1 1 n).1 91 2 = M.1 1 1 := by simp [qI_1, h1.1, h2.1]
      refine ⟨true, qI M 1 1 n, qI (qI M 1 1 n) 91 2 n, by simp [hn, hl, qlt], by simp [hn, e1, hl, qlt], ?_⟩
      rw [h1.1] at hl
      obtain ⟨j, hj, rfl⟩ := nI_of2 (M := nI τ.1) (n := τ.1) (nI_toInt (by have := h1.2.1; omega)) hn hl
      have h160 := h1.2.1
      refine RR_tape (τ' := (j, τ.2)) hA ⟨fun i hi => hT i (by have hi : i < j := hi; omega), ⟨by simp [qI_1], by show j ≤ 160; omega, fun i hi => ?_⟩, ⟨by simp [qI_1], by show j ≤ 160; omega, fun i hi => ?_⟩⟩ ((fr_I (.inl (.inl ⟨rfl, rfl⟩))).tr (fr_I (.inr (.inl ⟨rfl, rfl⟩))))
      · have hi : i < j := hi
        simp [qI_1, h1.2.2 i (by omega)]
      · have hi : i < j := hi
        simp [qI_1, h2.2.2 i (by omega)]
    · have e1 : M.1 91 2 = M.1 1 1 := by rw [h1.1, h2.1]
      exact ⟨false, M, M, by simp [hn, hl], by simp [hn, e1, hl], hR⟩
