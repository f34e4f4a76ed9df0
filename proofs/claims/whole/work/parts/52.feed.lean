-- needs
/-! ===== Int32 by its bits: bt x i ===== -/
def bt (x : Int32) (i : Nat) : Bool := x.toBitVec.getLsbD i
theorem b_ext {x y : Int32} (h : ∀ i, i < 32 → bt x i = bt y i) : x = y := Int32.toBitVec_inj.mp (BitVec.eq_of_getLsbD_eq (fun i hi => h i hi))
theorem b_or (x y : Int32) (i : Nat) : bt (x ||| y) i = (bt x i || bt y i) := by unfold bt; rw [Int32.toBitVec_or, BitVec.getLsbD_or]
theorem b_and (x y : Int32) (i : Nat) : bt (x &&& y) i = (bt x i && bt y i) := by unfold bt; rw [Int32.toBitVec_and, BitVec.getLsbD_and]
theorem b_xor (x y : Int32) (i : Nat) : bt (x ^^^ y) i = (bt x i ^^ bt y i) := by unfold bt; rw [Int32.toBitVec_xor, BitVec.getLsbD_xor]
theorem b_big {x : Int32} {i : Nat} (h : 32 ≤ i) : bt x i = false := BitVec.getLsbD_of_ge _ _ h
theorem b_255 (i : Nat) : bt 255 i = decide (i < 8) := by
  rcases Nat.lt_or_ge i 32 with h | h
  · exact (by decide +kernel : ∀ i, i < 32 → bt 255 i = decide (i < 8)) i h
  · rw [b_big h, decide_eq_false (by omega)]
theorem b_65535 (i : Nat) : bt 65535 i = decide (i < 16) := by
  rcases Nat.lt_or_ge i 32 with h | h
  · exact (by decide +kernel : ∀ i, i < 32 → bt 65535 i = decide (i < 16)) i h
  · rw [b_big h, decide_eq_false (by omega)]
theorem b_m1 : ∀ i, i < 32 → bt (-1) i = true := by decide +kernel
theorem b_0 (i : Nat) : bt 0 i = false := BitVec.getLsbD_zero
theorem s_l : ∀ n, n < 32 → ((nI n &&& 31).toBitVec.smod 32).toNat = n := by decide +kernel
theorem s_u : ∀ n, n < 32 → (((nI n).toUInt32 &&& Int32.toUInt32 31).toBitVec % 32).toNat = n := by decide +kernel
theorem b_shl (n : Nat) (hn : n < 32) (x : Int32) {i : Nat} (hi : i < 32) : bt (x <<< (nI n &&& 31)) i = (decide (n ≤ i) && bt x (i - n)) := by
  unfold bt
  rw [Int32.toBitVec_shiftLeft]
  show (x.toBitVec <<< ((nI n &&& 31).toBitVec.smod 32).toNat).getLsbD i = _
  rw [s_l n hn, BitVec.getLsbD_shiftLeft]
  rcases Nat.lt_or_ge i n with h | h
  · simp [h, Nat.not_le.mpr h]
  · simp [hi, h, Nat.not_lt.mpr h]
theorem b_ushr (n : Nat) (hn : n < 32) (x : Int32) (i : Nat) : bt ((x.toUInt32 >>> ((nI n).toUInt32 &&& Int32.toUInt32 31)).toInt32) i = bt x (n + i) := by
  show (x.toUInt32 >>> ((nI n).toUInt32 &&& Int32.toUInt32 31)).toBitVec.getLsbD i = x.toUInt32.toBitVec.getLsbD (n + i)
  rw [UInt32.toBitVec_shiftRight]
  show (x.toUInt32.toBitVec >>> (((nI n).toUInt32 &&& Int32.toUInt32 31).toBitVec % 32).toNat).getLsbD i = _
  rw [s_u n hn, BitVec.getLsbD_ushiftRight]
theorem b_sshr (n : Nat) (hn : n < 32) (x : Int32) {i : Nat} (hi : i < 32) : bt (x >>> (nI n &&& 31)) i = if n + i < 32 then bt x (n + i) else bt x 31 := by
  unfold bt
  rw [Int32.toBitVec_shiftRight]
  show (x.toBitVec.sshiftRight ((nI n &&& 31).toBitVec.smod 32).toNat).getLsbD i = _
  rw [s_l n hn, BitVec.getLsbD_sshiftRight, BitVec.msb_eq_getLsbD_last]
  simp [hi]
/-! ===== loops whose states are known ===== -/
theorem qlp_for {σ ρ : Type} {b : σ → Option (σ ⊕ ρ)} (S : Nat → σ) (r : ρ) (N : Nat) (hs : ∀ k, k < N → b (S k) = some (.inl (S (k + 1)))) (he : b (S N) = some (.inr r)) : qlp b (S 0) = some r := by
  have key : ∀ m k, k + m = N → qlp b (S k) = some r := by
    intro m
    induction m with
    | zero => intro k hk; rw [show k = N by omega]; exact qlp_inr he
    | succ m ih => intro k hk; rw [qlp_inl (hs k (by omega))]; exact ih (k + 1) (by omega)
  exact key N 0 (by omega)
theorem qlp_for0 {σ ρ : Type} {b : σ → Option (σ ⊕ ρ)} {s0 : σ} (S : Nat → σ) (r : ρ) (N : Nat) (h0 : S 0 = s0) (hs : ∀ k, k < N → b (S k) = some (.inl (S (k + 1)))) (he : b (S N) = some (.inr r)) : qlp b s0 = some r := by rw [← h0]; exact qlp_for S r N hs he
theorem qlp_inv {σ ρ : Type} {b : σ → Option (σ ⊕ ρ)} (I : Nat → σ → Prop) (P : ρ → Prop) (N : Nat) (hs : ∀ k s, k < N → I k s → ∃ s', b s = some (.inl s') ∧ I (k + 1) s') (he : ∀ s, I N s → ∃ r, b s = some (.inr r) ∧ P r) (s : σ) (h : I 0 s) : ∃ r, qlp b s = some r ∧ P r := by
  have key : ∀ m k s, k + m = N → I k s → ∃ r, qlp b s = some r ∧ P r := by
    intro m
    induction m with
    | zero =>
      intro k s hk hi
      obtain ⟨r, h1, h2⟩ := he s (by rw [← show k = N by omega]; exact hi)
      exact ⟨r, qlp_inr h1, h2⟩
    | succ m ih =>
      intro k s hk hi
      obtain ⟨s', h1, h2⟩ := hs k s (by omega) hi
      obtain ⟨r, h3, h4⟩ := ih (k + 1) s' (by omega) h2
      exact ⟨r, by rw [qlp_inl h1]; exact h3, h4⟩
  exact key N 0 s (by omega) h
/-! ===== promise 2: feed ===== -/
theorem wby_s (x : Int32) (n : Nat) (hn : n ≤ 24) : (x >>> (nI n &&& 31)) &&& 255 = wby x (nI n) := by
  unfold wby
  apply b_ext
  intro i hi
  rw [b_and, b_and, b_255, b_sshr n (by omega) x hi, b_ushr n (by omega) x i]
  by_cases h8 : i < 8
  · rw [if_pos (by omega)]
  · simp [h8]
section Feed
variable (a b c d e : Int32)
noncomputable def mb (k : Nat) : Int32 := jMd_byteOf a b c d e (nI k)
noncomputable def mfold (τ : tT) : Nat → tT
  | 0 => τ
  | k + 1 => tpush (mfold τ k) (mb a b c d e k)
noncomputable def mcnt : Nat → Nat
  | 0 => 0
  | k + 1 => mcnt k + (if mb a b c d e k = 0 then 0 else 1)
theorem mfold_1 (τ : tT) (k : Nat) : (mfold a b c d e τ k).1 = τ.1 + mcnt a b c d e k := by
  induction k with
  | zero => rfl
  | succ k ih =>
    show (tpush (mfold a b c d e τ k) (mb a b c d e k)).1 = τ.1 + (mcnt a b c d e k + _)
    unfold tpush
    by_cases h : mb a b c d e k = 0
    · rw [if_pos h, if_pos h, ih]; rfl
    · rw [if_neg h, if_neg h]
      show (mfold a b c d e τ k).1 + 1 = _
      rw [ih]; omega
theorem mb_0 : mb a b c d e 0 = wby a 24 := wby_s a 24 (by decide)
theorem mb_1 : mb a b c d e 1 = wby a 16 := wby_s a 16 (by decide)
theorem mb_2 : mb a b c d e 2 = wby a 8 := wby_s a 8 (by decide)
theorem mb_3 : mb a b c d e 3 = wby a 0 := wby_s a 0 (by decide)
theorem mb_4 : mb a b c d e 4 = wby b 24 := wby_s b 24 (by decide)
theorem mb_5 : mb a b c d e 5 = wby b 16 := wby_s b 16 (by decide)
theorem mb_6 : mb a b c d e 6 = wby b 8 := wby_s b 8 (by decide)
theorem mb_7 : mb a b c d e 7 = wby b 0 := wby_s b 0 (by decide)
theorem mb_8 : mb a b c d e 8 = wby c 24 := wby_s c 24 (by decide)
theorem mb_9 : mb a b c d e 9 = wby c 16 := wby_s c 16 (by decide)
theorem mb_10 : mb a b c d e 10 = wby c 8 := wby_s c 8 (by decide)
theorem mb_11 : mb a b c d e 11 = wby c 0 := wby_s c 0 (by decide)
theorem mb_12 : mb a b c d e 12 = wby d 24 := wby_s d 24 (by decide)
theorem mb_13 : mb a b c d e 13 = wby d 16 := wby_s d 16 (by decide)
theorem mb_14 : mb a b c d e 14 = wby d 8 := wby_s d 8 (by decide)
theorem mb_15 : mb a b c d e 15 = wby d 0 := wby_s d 0 (by decide)
theorem mb_16 : mb a b c d e 16 = wby e 24 := wby_s e 24 (by decide)
theorem mb_17 : mb a b c d e 17 = wby e 16 := wby_s e 16 (by decide)
theorem mb_18 : mb a b c d e 18 = wby e 8 := wby_s e 8 (by decide)
theorem mb_19 : mb a b c d e 19 = wby e 0 := wby_s e 0 (by decide)
theorem mfold_20 (τ : tT) : mfold a b c d e τ 20 = tadd (tadd (tadd (tadd (tadd τ a) b) c) d) e := by
  simp only [mfold, tadd, mb_0, mb_1, mb_2, mb_3, mb_4, mb_5, mb_6, mb_7, mb_8, mb_9, mb_10, mb_11, mb_12, mb_13, mb_14, mb_15, mb_16, mb_17, mb_18, mb_19]
theorem mcnt_20 : mcnt a b c d e 20 = tcnt a + tcnt b + tcnt c + tcnt d + tcnt e := by
  have h := mfold_1 a b c d e (0, fun _ => 0) 20
  rw [mfold_20, tadd_1, tadd_1, tadd_1, tadd_1, tadd_1] at h
  show _ = _
  have h0 : ((0, fun _ => 0) : tT).1 = 0 := rfl
  rw [h0] at h
  omega
theorem tcnt_le (p : Int32) : tcnt p ≤ 4 := by
  unfold tcnt wc
  split <;> split <;> split <;> split <;> omega
theorem mfeed {M : qM} {τ : tT} (h : rTM M τ) : ∃ M1, jMd_feed a b c d e M = some (if τ.1 + (tcnt a + tcnt b + tcnt c + tcnt d + tcnt e) ≤ 160 then nI (τ.1 + (tcnt a + tcnt b + tcnt c + tcnt d + tcnt e)) else -1, M1) ∧ rTM M1 (if τ.1 + (tcnt a + tcnt b + tcnt c + tcnt d + tcnt e) ≤ 160 then tadd (tadd (tadd (tadd (tadd τ a) b) c) d) e else τ) ∧ fM M M1 := by
  have hc : ∀ k, mcnt a b c d e k ≤ k := by
    intro k
    induction k with
    | zero => exact Nat.le_refl 0
    | succ k ih =>
      show mcnt a b c d e k + _ ≤ _
      split <;> omega
  rw [← mcnt_20]
  unfold jMd_feed
  rw [qlp_for0 (s0 := ((0 : Int32), (0 : Int32))) (fun k => (nI (mcnt a b c d e k), nI k)) (nI (mcnt a b c d e 20)) 20 rfl (fun k hk => ?_) ?_]
  · have hle : (M.1 91 2 + nI (mcnt a b c d e 20) ≤ (160 : Int32)) ↔ τ.1 + mcnt a b c d e 20 ≤ 160 := by
      rw [h.1, nI_add]
      have := hc 20
      have h160 := h.2.1
      exact nI_leI (a := τ.1 + mcnt a b c d e 20) (b := 160) (by omega) (by decide)
    simp only [Option.bind_some, hle]
    by_cases hf : τ.1 + mcnt a b c d e 20 ≤ 160
    · simp only [if_pos hf]
      have hlp : ∃ r, qlp (fun q => qu2 q fun x5 M6 =>
          if (20 : Int32) ≤ (x5 : Int32) then
            (some (.inr M6) : Option ((Int32 × qM) ⊕ qM))
          else
            qlt ((jMd_byteOf a b c d e x5) : Int32) fun x9 =>
            ((
              if (x9 : Int32) = (0 : Int32) then
                some M6
              else
                (qwI M6 92 160 (M6.1 91 2) x9).bind fun M12 =>
                qlt (qI M12 91 2 ((M12.1 91 2) + 1)) fun M13 =>
                some M13) : Option qM).bind fun M10 =>
            qlt (x5 + 1 : Int32) fun x11 =>
            some (.inl (x11, M10))) ((0 : Int32), M) = some r ∧ rTM r (mfold a b c d e τ 20) ∧ fM M r := by
        refine qlp_inv (fun k s => s.1 = nI k ∧ rTM s.2 (mfold a b c d e τ k) ∧ fM M s.2) (fun M1 => rTM M1 (mfold a b c d e τ 20) ∧ fM M M1) 20 ?_ ?_ (0, M) ⟨rfl, h, fM_rf M⟩
        · rintro k ⟨x, N⟩ hk ⟨h1, h2, h3⟩
          have h1 : x = nI k := h1
          subst h1
          have h20 : ¬ (20 : Int32) ≤ nI k := nI_ge (a := k) (b := 20) hk (by decide)
          have hm := mfold_1 a b c d e τ k
          have hstep : mcnt a b c d e k + (if mb a b c d e k = 0 then 0 else 1) ≤ mcnt a b c d e 20 := by
            have mono : ∀ j i, i ≤ j → mcnt a b c d e i ≤ mcnt a b c d e j := by
              intro j
              induction j with
              | zero => intro i hi; rw [show i = 0 by omega]; exact Nat.le_refl _
              | succ j ih =>
                intro i hi
                by_cases hij : i = j + 1
                · rw [hij]; exact Nat.le_refl _
                · exact Nat.le_trans (ih i (by omega)) (by show _ ≤ mcnt a b c d e j + _; omega)
            exact mono 20 (k + 1) (by omega)
          by_cases hz : mb a b c d e k = 0
          · refine ⟨(nI (k + 1), N), ?_, rfl, ?_, h3⟩
            · have hz' : jMd_byteOf a b c d e (nI k) = 0 := hz
              simp [qu2, qlt, h20, hz', nI_1]
            · show rTM N (tpush (mfold a b c d e τ k) (mb a b c d e k))
              unfold tpush
              rw [if_pos hz]
              exact h2
          · rw [if_neg hz] at hstep
            refine ⟨(nI (k + 1), tW 91 92 2 N (mfold a b c d e τ k).1 (mb a b c d e k)), ?_, rfl, rTM_push h2 _ hz (by omega), h3.tr ((fM_I (by decide)).tr (fM_I (by decide)))⟩
            have hz' : ¬ jMd_byteOf a b c d e (nI k) = 0 := hz
            have hw : qwI N 92 160 (N.1 91 2) (jMd_byteOf a b c d e (nI k)) = some (qI N 92 (mfold a b c d e τ k).1 (mb a b c d e k)) := by rw [h2.1]; exact qwI_nI (by omega) (by decide)
            have h5 : (qI N 92 (mfold a b c d e τ k).1 (mb a b c d e k)).1 91 2 + 1 = nI ((mfold a b c d e τ k).1 + 1) := by
              have h9 : N.1 91 2 = nI (mfold a b c d e τ k).1 := h2.1
              simp [qI_1, h9, nI_1]
            simp [qu2, qlt, h20, hz', hw, h5, nI_1, tW]
        · rintro ⟨x, N⟩ ⟨h1, h2, h3⟩
          have h1 : x = nI 20 := h1
          subst h1
          exact ⟨N, by simp [qu2, show (20 : Int32) ≤ nI 20 by decide], h2, h3⟩
      obtain ⟨M1, hl, hr, hfr⟩ := hlp
      refine ⟨M1, ?_, by rw [← mfold_20]; exact hr, hfr⟩
      rw [hl]
      have h1 : M1.1 91 2 = nI (τ.1 + mcnt a b c d e 20) := by rw [hr.1, mfold_1]
      simp only [Option.bind_some, h1]
    · simp only [if_neg hf]
      exact ⟨M, rfl, h, fM_rf M⟩
  · simp [qu2, show (20 : Int32) ≤ nI 20 by decide]
  · have h20 : ¬ (20 : Int32) ≤ nI k := nI_ge (a := k) (b := 20) hk (by decide)
    show (if (20 : Int32) ≤ nI k then _ else _) = _
    rw [if_neg h20]
    unfold qlt
    by_cases hz : mb a b c d e k = 0
    · have hz' : jMd_byteOf a b c d e (nI k) = 0 := hz
      simp [hz', b2i, nI_1, mcnt, hz]
    · have hz' : ¬ jMd_byteOf a b c d e (nI k) = 0 := hz
      simp [hz', b2i, nI_1, mcnt, hz]
end Feed
theorem cfeed {M : qM} {τ : tT} (h : rTC M τ) (a b c d e : Int32) : ∃ M1, jTc_feed a b c d e M = some (if τ.1 + (tcnt a + tcnt b + tcnt c + tcnt d + tcnt e) ≤ 160 then nI (τ.1 + (tcnt a + tcnt b + tcnt c + tcnt d + tcnt e)) else -1, M1) ∧ rTC M1 (if τ.1 + (tcnt a + tcnt b + tcnt c + tcnt d + tcnt e) ≤ 160 then tadd (tadd (tadd (tadd (tadd τ a) b) c) d) e else τ) ∧ fC M M1 := by
  have ha := tcnt_le a
  have hb := tcnt_le b
  have hc := tcnt_le c
  have hd := tcnt_le d
  have he := tcnt_le e
  have h160 := h.2.1
  unfold jTc_feed
  simp only [bytesOf_eq, Option.bind_some, qlt, nI_add]
  have hle : (M.1 1 1 + nI (tcnt a + tcnt b + tcnt c + tcnt d + tcnt e) ≤ (160 : Int32)) ↔ τ.1 + (tcnt a + tcnt b + tcnt c + tcnt d + tcnt e) ≤ 160 := by
    rw [h.1, nI_add]
    exact nI_leI (b := 160) (by omega) (by decide)
  simp only [hle]
  by_cases hf : τ.1 + (tcnt a + tcnt b + tcnt c + tcnt d + tcnt e) ≤ 160
  · simp only [if_pos hf]
    obtain ⟨M1, e1, r1, f1⟩ := add_eq h a (by omega)
    obtain ⟨M2, e2, r2, f2⟩ := add_eq r1 b (by rw [tadd_1]; omega)
    obtain ⟨M3, e3, r3, f3⟩ := add_eq r2 c (by rw [tadd_1, tadd_1]; omega)
    obtain ⟨M4, e4, r4, f4⟩ := add_eq r3 d (by rw [tadd_1, tadd_1, tadd_1]; omega)
    obtain ⟨M5, e5, r5, f5⟩ := add_eq r4 e (by rw [tadd_1, tadd_1, tadd_1, tadd_1]; omega)
    refine ⟨M5, ?_, r5, (((f1.tr f2).tr f3).tr f4).tr f5⟩
    have hl := r5.1
    rw [tadd_1, tadd_1, tadd_1, tadd_1, tadd_1] at hl
    simp only [e1, e2, e3, e4, e5, Option.bind_some, hl]
    have : τ.1 + tcnt a + tcnt b + tcnt c + tcnt d + tcnt e = τ.1 + (tcnt a + tcnt b + tcnt c + tcnt d + tcnt e) := by omega
    rw [this]
  · simp only [if_neg hf]
    exact ⟨M, rfl, h, fC_rf M⟩
/-- both tapes hold the same -/
def rT (M : qM) : Prop := ∃ τ : tT, rTC M τ ∧ rTM M τ
theorem p_feed {M : qM} (h : rT M) (a b c d e : Int32) : ∃ r M1 M2, jTc_feed a b c d e M = some (r, M1) ∧ jMd_feed a b c d e M1 = some (r, M2) ∧ rT M2 ∧ fC M M1 ∧ fM M1 M2 := by
  obtain ⟨τ, h1, h2⟩ := h
  obtain ⟨M1, e1, r1, f1⟩ := cfeed h1 a b c d e
  obtain ⟨M2, e2, r2, f2⟩ := mfeed a b c d e (h2.off f1)
  exact ⟨_, M1, M2, e1, e2, ⟨_, r1.off f2, r2⟩, f1, f2⟩
theorem p_end {M : qM} (h : rT M) (n : Int32) : ∃ r M1 M2, jTc_end n M = (r, M1) ∧ jMd_end n M1 = (r, M2) ∧ rT M2 ∧ fC M M1 ∧ fM M1 M2 := by
  obtain ⟨τ, h1, h2⟩ := h
  unfold jTc_end jMd_end
  by_cases hn : n < 0
  · exact ⟨false, M, M, by simp [hn], by simp [hn], ⟨τ, h1, h2⟩, fC_rf M, fM_rf M⟩
  · by_cases hl : n ≤ M.1 1 1
    · have e1 : (qI M 1 1 n).1 91 2 = M.1 1 1 := by simp [qI_1, h1.1, h2.1]
      refine ⟨true, qI M 1 1 n, qI (qI M 1 1 n) 91 2 n, by simp [hn, hl, qlt], by simp [hn, e1, hl, qlt], ?_, fC_I (by decide), fM_I (by decide)⟩
      rw [h1.1] at hl
      obtain ⟨j, hj, rfl⟩ := nI_of2 (M := nI τ.1) (n := τ.1) (nI_toInt (by have := h1.2.1; omega)) hn hl
      have h160 := h1.2.1
      refine ⟨(j, τ.2), ⟨by simp [qI_1], by show j ≤ 160; omega, fun i hi => ?_⟩, ⟨by simp [qI_1], by show j ≤ 160; omega, fun i hi => ?_⟩⟩
      · have hi : i < j := hi
        simp [qI_1, h1.2.2 i (by omega)]
      · have hi : i < j := hi
        simp [qI_1, h2.2.2 i (by omega)]
    · have e1 : M.1 91 2 = M.1 1 1 := by rw [h1.1, h2.1]
      exact ⟨false, M, M, by simp [hn, hl], by simp [hn, e1, hl], ⟨τ, h1, h2⟩, fC_rf M, fM_rf M⟩
