-- needs 52 53 54 55 56 57 58 59 60
theorem takenBy_wp {M : qM} {P m w f k T L : Nat} {c : Nat → Nat} (hM : rwM M P m w f k T c) (hL : L < T) :
    wp (jMd_takenBy (nI L) M) (fun r => r.1 = lN (sumN (tk P m c) (L + 1)) ∧ fr sPa M r.2) := by
  have bb : 2 ≤ P ∧ P ≤ 9 ∧ 1 ≤ m ∧ m ≤ P ∧ w < 1000 ∧ f < 100 ∧ k < 100 ∧ 1 ≤ T ∧ T ≤ 12 := hM.1.2.2.2.2.2.2
  unfold jMd_takenBy
  refine wp_bd ((first_0 (P := P) (c := c)).mono ?_)
  rintro M2 ⟨g1, g2⟩
  refine wp_bd (wp_for (fun n s => s.1 = lN (sumN (tk P m c) n) ∧ s.2.1 = nI n ∧ (∀ j, j < 10 → s.2.2.2.1 114 j = lN (pt P c n j)) ∧ fr sPa M s.2.2) (L + 1) ?_ ?_ ?_)
  · exact ⟨rfl, rfl, g1, g2⟩
  · rintro n ⟨x, y, N⟩ hn ⟨h1, h2, h4, h5⟩
    have h1 : x = lN (sumN (tk P m c) n) := h1
    have h2 : y = nI n := h2
    subst h1 h2
    have h5 : fr sPa M N := h5
    have h4 : ∀ j, j < 10 → N.2.1 114 j = lN (pt P c n j) := h4
    have hst := mstep hM h5 (by omega) h4
    simp only [qu3]
    refine wp_in (nI_nlt (by omega) (by omega)) ?_
    refine wp_be hst.1 ?_
    simp only [qlt]
    refine wp_bd (hst.2.mono ?_)
    rintro M3 ⟨g3, g4⟩
    exact wp_some ⟨lN_add _ _, nI_1 n, g3, g4⟩
  · rintro ⟨x, y, N⟩ ⟨h1, h2, h4, h5⟩
    have h1 : x = lN (sumN (tk P m c) (L + 1)) := h1
    have h2 : y = nI (L + 1) := h2
    subst h1 h2
    simp only [qu3]
    exact wp_ip (nI_lt (by omega) (by omega)) (wp_some (wp_some ⟨rfl, h5⟩))
theorem l_le_tr {a b c : Int64} (h1 : a ≤ b) (h2 : b ≤ c) : a ≤ c := by
  rw [Int64.le_iff_toInt_le] at *
  omega
theorem l_le_rf (a : Int64) : a ≤ a := by
  rw [Int64.le_iff_toInt_le]
  omega
theorem gr_max (v : Nat → Int64) : ∀ n i, i ≤ n → v i ≤ v (gr v n) := by
  intro n
  induction n with
  | zero => intro i hi; rw [show i = 0 by omega]; exact l_le_rf _
  | succ n ih =>
    intro i hi
    simp only [gr]
    by_cases hc : v (n + 1) ≤ v (gr v n)
    · rw [if_pos hc]
      by_cases hi2 : i = n + 1
      · rw [hi2]; exact hc
      · exact ih i (by omega)
    · rw [if_neg hc]
      by_cases hi2 : i = n + 1
      · rw [hi2]; exact l_le_rf _
      · have h1 := ih i (by omega)
        rw [l_nle] at hc
        rw [Int64.le_iff_toInt_le] at *
        rw [Int64.lt_iff_toInt_lt] at hc
        omega
theorem upC_same (c : Nat → Nat) (t : Nat) : upC c t (c t) = c := by
  funext i
  unfold upC
  by_cases h : i = t
  · rw [if_pos h, h]
  · rw [if_neg h]
theorem lkV_late {P m : Nat} {c : Nat → Nat} {L q : Nat} (h : 11 * (L + 1) ≤ q) : lkV P m c L q = sumN (tk P m c) (L + 1) := by
  unfold lkV
  refine sumN_congr (fun i hi => tk_congr (fun j hj => ?_))
  unfold upC
  rw [if_neg (by omega)]
theorem lkV_own {P m : Nat} {c : Nat → Nat} {L : Nat} (h : c 0 < 11) : lkV P m c L (c 0) = sumN (tk P m c) (L + 1) := by
  unfold lkV
  rw [show c 0 / 11 = 0 by omega, show c 0 % 11 = c 0 by omega, upC_same]
theorem lkA_late {P m : Nat} {c : Nat → Nat} {L : Nat} (hb : ∀ i, lkV P m c L i < 9223372036854775808) (h0 : c 0 < 11) : ∀ d, lkA (lkV P m c L) (11 * (L + 1) + d) = lkA (lkV P m c L) (11 * (L + 1)) := by
  intro d
  induction d with
  | zero => rfl
  | succ d ih =>
    rw [show 11 * (L + 1) + (d + 1) = 11 * (L + 1) + d + 1 by omega, lkA_S _ _ hb, if_pos, ih]
    rw [ih]
    show lN (lkV P m c L (11 * (L + 1) + d)) ≤ lN (lkV P m c L (gr (fun i => lN (lkV P m c L i)) (11 * L + 10)))
    rw [lkV_late (by omega), ← lkV_own h0]
    exact gr_max (fun i => lN (lkV P m c L i)) (11 * L + 10) (c 0) (by omega)
def sLkM (b j : Nat) : Prop := b = 112 ∨ b = 114 ∨ b = 115
theorem p_like {M : qM} (h : rRow M) (a : Int32) : bth rRow sRC sRM (jTc_like a) (jMd_like a) M := by
  rcases h with h | ⟨P, m, w, f, k, T, c, hC, hM⟩
  · refine ⟨-1, M, M, ?_, ?_, Or.inl h, fr_rf _ _, fr_rf _ _⟩
    · unfold jTc_like
      rw [isThere_f h.1]
      rfl
    · unfold jMd_like
      have hf : jMd_in a 0 (-1 - 1) = false := by
        rw [← Bool.not_eq_true, in_iff]
        have n0 : (0 : Int32).toInt = 0 := rfl
        have n1 : (-1 - 1 : Int32).toInt = -2 := rfl
        omega
      rw [h.2.1, hf]
      rfl
  · have bb : 2 ≤ P ∧ P ≤ 9 ∧ 1 ≤ m ∧ m ≤ P ∧ w < 1000 ∧ f < 100 ∧ k < 100 ∧ 1 ≤ T ∧ T ≤ 12 := hC.1.2.2.2.2.2.2
    have q5 : M.1 49 5 = nI T := hC.1.2.2.2.2.2.1
    have q6 : M.1 91 48 = nI T := hM.1.2.2.2.2.2.1
    have iT := isThere_t q5 (by omega) (by omega)
    have e2 := isOf_T a (T := T) (by omega) (by omega)
    cases hz : jTc_isOf a (nI T) with
    | false =>
      refine ⟨-1, M, M, ?_, ?_, Or.inr ⟨P, m, w, f, k, T, c, hC, hM⟩, fr_rf _ _, fr_rf _ _⟩
      · unfold jTc_like
        rw [iT, q5, hz]
        rfl
      · unfold jMd_like
        rw [q6, ← e2, hz]
        rfl
    | true =>
      obtain ⟨L, hL, rfl⟩ := isOf_of (by omega) hz
      have hVb : ∀ q, lkV P m c L q < 9223372036854775808 := by
        intro q
        have := lkV_b (P := P) (m := m) (c := c) (L := L) (q := q) (by omega) (by omega) (fun i hi => (hC.2.1 i (by omega)).2)
        omega
      refine bth_mk (P := fun M1 => rwC M1 P m w f k T c ∧ rwM M1 P m w f k T c) (lkA (lkV P m c L) (11 * (L + 1))).2 ?_ ?_
      · unfold jTc_like
        rw [iT, q5, hz]
        refine wp_in (by decide) (wp_in (by decide) ?_)
        refine wp_bd ((likeliest_wp (c := c) hC.1 hC.2.2.2.1 hC.2.2.2.2 hL (fun t ht => hC.2.1 t (by omega))).mono ?_)
        rintro ⟨x, M1⟩ ⟨g1, g2, g3⟩
        have g3 : fr sLik M M1 := g3
        exact wp_some ⟨g1, ⟨rwC_up hC g3 g2 (fun j _ => by unfold sLik sFol; omega) (fun j => by simp [sLik, sFol]) (fun j => by simp [sLik, sFol]) (fun j => by simp [sLik, sFol]), rwM_C hM (sLik_C g3)⟩, sLik_C g3⟩
      · rintro M1 ⟨hC1, hM1⟩ g
        unfold jMd_like
        rw [hM1.1.2.2.2.2.2.1, ← e2, hz]
        refine wp_in (by decide) ?_
        refine wp_bd (wp_for (fun n s => (n = 0 ∧ s.1 = -1 ∨ 0 < n ∧ (s.2.1, s.1) = lkA (lkV P m c L) (11 * n)) ∧ s.2.2.1 = nI n ∧ rwM s.2.2.2 P m w f k T c ∧ fr sLkM M1 s.2.2.2) T ?_ ?_ ?_)
        · exact ⟨Or.inl ⟨rfl, rfl⟩, rfl, hM1, fr_rf _ _⟩
        · rintro n ⟨x, y, z, N⟩ hn ⟨h1, h2, h3, h4⟩
          have h2 : z = nI n := h2
          subst h2
          have h1 : n = 0 ∧ x = -1 ∨ 0 < n ∧ (y, x) = lkA (lkV P m c L) (11 * n) := h1
          have h3 : rwM N P m w f k T c := h3
          have h4 : fr sLkM M1 N := h4
          simp only [qu4]
          rw [h3.1.2.2.2.2.2.1]
          refine wp_in (nI_ge hn (by omega)) ?_
          refine wp_bd (wp_rI rfl (show n < 12 by omega) (by decide) ?_)
          rw [(h3.2 n (by omega)).1]
          refine wp_bd (wp_for (fun i s => (11 * n + i = 0 ∧ s.1 = -1 ∨ 0 < 11 * n + i ∧ (s.2.1, s.1) = lkA (lkV P m c L) (11 * n + i)) ∧ s.2.2.1 = nI i ∧ rRM s.2.2.2 P m w f k T ∧ (∀ t, t < 12 → ¬ t = n → s.2.2.2.1 112 t = nI (c t)) ∧ fr sLkM M1 s.2.2.2) 11 ?_ ?_ ?_)
          · exact ⟨by rcases h1 with h1 | h1; exact Or.inl ⟨by omega, h1.2⟩; exact Or.inr ⟨by omega, h1.2⟩, rfl, h3.1, fun t ht _ => (h3.2 t ht).1, h4⟩
          · rintro i ⟨x, y, z, N⟩ hi ⟨h1, h2, h3, h5, h4⟩
            have h2 : z = nI i := h2
            subst h2
            have h1 : 11 * n + i = 0 ∧ x = -1 ∨ 0 < 11 * n + i ∧ (y, x) = lkA (lkV P m c L) (11 * n + i) := h1
            have h3 : rRM N P m w f k T := h3
            have h5 : ∀ t, t < 12 → ¬ t = n → N.1 112 t = nI (c t) := h5
            have h4 : fr sLkM M1 N := h4
            simp only [qu4]
            rw [show (10 : Int32) = nI 10 from rfl]
            refine wp_in (nI_nlt (by omega) (by omega)) ?_
            refine wp_bd (wp_wI rfl (show n < 12 by omega) (by decide) ?_)
            have hMq : rwM (qI N 112 n (nI i)) P m w f k T (upC c n i) := by
              refine ⟨h3, fun t ht => ?_⟩
              rw [qI_1]
              unfold upC
              by_cases htn : t = n
              · rw [if_pos ⟨rfl, htn⟩, if_pos htn]; exact ⟨rfl, by omega⟩
              · rw [if_neg (by omega), if_neg htn]; exact ⟨h5 t ht htn, (hM.2 t ht).2⟩
            refine wp_bd ((takenBy_wp hMq hL).mono ?_)
            rintro ⟨v, M3⟩ ⟨g1, g2⟩
            have g1 : v = lN (sumN (tk P m (upC c n i)) (L + 1)) := g1
            have g2 : fr sPa (qI N 112 n (nI i)) M3 := g2
            have hV : v = lN (lkV P m c L (11 * n + i)) := by
              rw [g1]
              unfold lkV
              rw [show (11 * n + i) / 11 = n by omega, show (11 * n + i) % 11 = i by omega]
            subst hV
            have hM3 : rRM M3 P m w f k T := rRM_fr h3 (S := sLkM) ((fr_I (Or.inl rfl)).tr (g2.mono (fun b j hb => by unfold sPa at hb; unfold sLkM; omega))) (fun j _ _ => by simp [sLkM])
            have h112 : ∀ t, t < 12 → ¬ t = n → M3.1 112 t = nI (c t) := by
              intro t ht htn
              rw [(g2 112 t (by simp [sPa])).1, qI_1, if_neg (by omega)]
              exact h5 t ht htn
            have hfr : fr sLkM M1 M3 := h4.tr ((fr_I (Or.inl rfl)).tr (g2.mono (fun b j hb => by unfold sPa at hb; unfold sLkM; omega)))
            have e11 : (11 : Int32) * nI n + nI i = nI (11 * n + i) := by
              rw [show (11 : Int32) = nI 11 from rfl, nI_mul, nI_add]
            simp only [qu2, qlt, lg_cmp_le]
            have hS := lkA_S (lkV P m c L) (11 * n + i) hVb
            have hx : x = -1 ∧ 11 * n + i = 0 ∨ ¬ x = -1 ∧ (y, x) = lkA (lkV P m c L) (11 * n + i) := by
              rcases h1 with h1 | h1
              · exact Or.inl ⟨h1.2, h1.1⟩
              · right
                refine ⟨?_, h1.2⟩
                obtain ⟨q, hq⟩ : ∃ q, 11 * n + i = q + 1 := ⟨11 * n + i - 1, by omega⟩
                have := h1.2
                rw [hq] at this
                have h8 : x = nI (gr (fun i => lN (lkV P m c L i)) q) := congrArg Prod.snd this
                have h9 := gr_le (fun i => lN (lkV P m c L i)) q
                rw [h8]
                exact nI_m1 (by omega)
            rcases hx with ⟨hx1, hx2⟩ | ⟨hx1, hx2⟩
            · rw [hx1]
              refine wp_ip (by simp) ?_
              refine wp_some ⟨Or.inr ⟨by omega, ?_⟩, nI_1 i, hM3, h112, hfr⟩
              show (lN _, (11 : Int32) * nI n + nI i) = lkA (lkV P m c L) (11 * n + i + 1)
              rw [e11, hx2]
              rfl
            · rw [← hx2] at hS
              simp only [if_neg hx1]
              by_cases hle : lN (lkV P m c L (11 * n + i)) ≤ y
              · simp only [if_pos hle]
                refine wp_in (by decide) ?_
                refine wp_some ⟨Or.inr ⟨by omega, ?_⟩, nI_1 i, hM3, h112, hfr⟩
                show (y, x) = lkA (lkV P m c L) (11 * n + i + 1)
                rw [hS, if_pos hle]
              · simp only [if_neg hle]
                refine wp_ip trivial ?_
                refine wp_some ⟨Or.inr ⟨by omega, ?_⟩, nI_1 i, hM3, h112, hfr⟩
                show (lN _, (11 : Int32) * nI n + nI i) = lkA (lkV P m c L) (11 * n + i + 1)
                rw [hS, if_neg hle, e11]
          · rintro ⟨x, y, z, N⟩ ⟨h1, h2, h3, h5, h4⟩
            have h2 : z = nI 11 := h2
            subst h2
            have h1 : 11 * n + 11 = 0 ∧ x = -1 ∨ 0 < 11 * n + 11 ∧ (y, x) = lkA (lkV P m c L) (11 * n + 11) := h1
            have h3 : rRM N P m w f k T := h3
            have h5 : ∀ t, t < 12 → ¬ t = n → N.1 112 t = nI (c t) := h5
            have h4 : fr sLkM M1 N := h4
            simp only [qu4]
            refine wp_ip (by decide) (wp_some ?_)
            simp only [qu3]
            refine wp_bd (wp_wI rfl (show n < 12 by omega) (by decide) ?_)
            refine wp_some ⟨Or.inr ⟨by omega, ?_⟩, nI_1 n, ⟨h3, fun t ht => ?_⟩, h4.tr (fr_I (Or.inl rfl))⟩
            · rcases h1 with h1 | h1
              · omega
              · exact h1.2
            · show (qI N 112 n (nI (c n))).1 112 t = _ ∧ _
              rw [qI_1]
              by_cases htn : t = n
              · rw [if_pos ⟨rfl, htn⟩, htn]; exact ⟨rfl, (hM.2 n (by omega)).2⟩
              · rw [if_neg (by omega)]; exact ⟨h5 t ht htn, (hM.2 t ht).2⟩
        · rintro ⟨x, y, z, N⟩ ⟨h1, h2, h3, h4⟩
          have h2 : z = nI T := h2
          subst h2
          have h1 : T = 0 ∧ x = -1 ∨ 0 < T ∧ (y, x) = lkA (lkV P m c L) (11 * T) := h1
          have h3 : rwM N P m w f k T c := h3
          have h4 : fr sRM M1 N := h4.mono (fun b j hb => by unfold sLkM at hb; unfold sRM; omega)
          simp only [qu4]
          rw [h3.1.2.2.2.2.2.1]
          refine wp_ip (nI_le (Nat.le_refl _) (by omega)) (wp_some ?_)
          refine wp_some ⟨?_, rRow_M hC1 h3 h4, h4⟩
          rcases h1 with h1 | h1
          · omega
          · have h6 := lkA_late (P := P) (m := m) hVb (hM.2 0 (by omega)).2 (11 * T - 11 * (L + 1))
            rw [show 11 * (L + 1) + (11 * T - 11 * (L + 1)) = 11 * T by omega] at h6
            rw [← h6, ← h1.2]
def selA (F : Nat → Bool) (a : Int32) : Nat → Int32
  | 0 => -1
  | n + 1 => if F n = true ∧ nI (cnt F n) = a then nI n else selA F a n
theorem selA_nI (F : Nat → Bool) {t : Nat} (ht : t < 2147483648) : ∀ n, n < 2147483648 → selA F (nI t) n = sel F t n := by
  intro n
  induction n with
  | zero => intro _; rfl
  | succ n ih =>
    intro hn
    have hc := cnt_le F n
    simp only [selA, sel, ih (by omega), nI_eq (show cnt F n < 2 ^ 31 by omega) (show t < 2 ^ 31 by omega)]
theorem selA_neg (F : Nat → Bool) {a : Int32} (ha : a < 0) : ∀ n, n < 2147483648 → selA F a n = -1 := by
  intro n
  induction n with
  | zero => intro _; rfl
  | succ n ih =>
    intro hn
    have hc := cnt_le F n
    simp only [selA]
    rw [if_neg, ih (by omega)]
    rintro ⟨-, h2⟩
    rw [← h2] at ha
    exact nI_pos (by omega) ha
theorem copyIn (M : qM) (a b : Nat) (hab : ¬ a = b) : (qlp (σ := (Int32 × qM)) (ρ := qM) (
        fun q => qu2 q fun x1 M2 =>
        if (12 : Int32) ≤ (x1 : Int32) then
          some (.inr M2)
        else
          (qrI M2 a 12 x1).bind fun v41 =>
          (qwI M2 b 12 x1 v41).bind fun M42 =>
          qlt (x1 + 1 : Int32) fun x43 =>
          some (.inl (x43, M42))) (0, M)) = some (sI M b 12 (M.1 a)) := by
  rw [qlp_for0 (s0 := ((0 : Int32), M)) (fun k => (nI k, sI M b k (M.1 a))) (sI M b 12 (M.1 a)) 12 (by rw [sI_0]; rfl) (fun k hk => ?_) ?_]
  · simp only [qu2]
    rw [if_pos (by decide)]
  · simp only [qu2, qlt]
    rw [show (12 : Int32) = nI 12 from rfl, if_neg (nI_ge hk (by omega)), qrI_nI hk (by decide), sI_off hab]
    simp only [Option.bind_some]
    rw [qwI_nI hk (by decide)]
    simp only [Option.bind_some, nI_1]
    rw [sI_S M b k (M.1 a)]
def sFoM (b j : Nat) : Prop := b = 112 ∨ b = 114 ∨ b = 115
theorem p_found {M : qM} (h : rRow M) (a b : Int32) : bth rRow sRC sRM (jTc_found a b) (jMd_found a b) M := by
  have e : jTc_isOf a 100 = jMd_in a 0 99 := isOf_in rfl rfl
  rcases h with h | ⟨P, m, w, f, k, T, c, hC, hM⟩
  · refine ⟨-1, M, M, ?_, ?_, Or.inl h, fr_rf _ _, fr_rf _ _⟩
    · unfold jTc_found
      rw [isThere_f h.1]
      rfl
    · unfold jMd_found
      have hf : jMd_in (-1) 1 3 = false := by
        rw [← Bool.not_eq_true, in_iff]
        have n0 : (1 : Int32).toInt = 1 := rfl
        have n1 : (-1 : Int32).toInt = -1 := rfl
        omega
      rw [h.2.1, hf]
      rfl
  · have bb : 2 ≤ P ∧ P ≤ 9 ∧ 1 ≤ m ∧ m ≤ P ∧ w < 1000 ∧ f < 100 ∧ k < 100 ∧ 1 ≤ T ∧ T ≤ 12 := hC.1.2.2.2.2.2.2
    have q5 : M.1 49 5 = nI T := hC.1.2.2.2.2.2.1
    have q6 : M.1 91 48 = nI T := hM.1.2.2.2.2.2.1
    have iT := isThere_t q5 (by omega) (by omega)
    have n1 : (1 : Int32).toInt = 1 := rfl
    have n3 : (3 : Int32).toInt = 3 := rfl
    by_cases hT : T ≤ 3
    · have c1 : ¬ (3 : Int32) < nI T := nI_nlt (a := 3) (b := T) hT (by decide)
      have c2 : jMd_in (nI T) 1 3 = true := by
        rw [in_iff, nI_toInt (by omega), n1, n3]
        omega
      have h11 := pow11 hT
      cases hz : jTc_isOf a 100 with
      | false =>
        refine ⟨-1, M, M, ?_, ?_, Or.inr ⟨P, m, w, f, k, T, c, hC, hM⟩, fr_rf _ _, fr_rf _ _⟩
        · unfold jTc_found
          rw [iT, q5, hz, if_neg c1]
          rfl
        · unfold jMd_found
          rw [q6, c2, ← e, hz]
          rfl
      | true =>
        obtain ⟨s, hs, rfl⟩ := isOf_of (T := 100) (by decide) hz
        have hcl := cnt_le (fnF P m w f k T s) (11 ^ T)
        refine bth_mk (P := fun M1 => rwC M1 P m w f k T c ∧ rwM M1 P m w f k T c) (if b = -1 then nI (cnt (fnF P m w f k T s) (11 ^ T)) else selA (fnF P m w f k T s) b (11 ^ T)) ?_ ?_
        · unfold jTc_found
          rw [iT, q5, hz]
          refine wp_in (by decide) (wp_in c1 (wp_in (by decide) ?_))
          refine wp_bd ((search_wp hC.1 hC.2.2.2.1 hC.2.2.2.2 hC.2.2.1 hT hs).mono ?_)
          rintro M1 ⟨g1, g2, g3, g4, g5⟩
          have hC1 : rwC M1 P m w f k T c := by
            refine ⟨rRo_fr hC.1 g5 (fun j hj => by unfold sSea sWei sFol; omega), fun t ht => ⟨?_, (hC.2.1 t ht).2⟩, Or.inr ⟨s, hs, hT, g2, g3, g4⟩, rPw_fr hC.2.2.2.1 g5 (fun j => by simp [sSea, sWei, sFol]), g1⟩
            rw [(g5 50 t (by simp [sSea, sWei, sFol])).1]
            exact (hC.2.1 t ht).1
          have hM1 := rwM_C hM (sSea_C g5)
          refine wp_if (fun hb => ?_) (fun hb => ?_)
          · exact wp_some ⟨by rw [if_pos hb]; exact g3, ⟨hC1, hM1⟩, sSea_C g5⟩
          · rw [g3]
            refine wp_bd ?_
            cases hy : jTc_isOf b (nI (cnt (fnF P m w f k T s) (11 ^ T))) with
            | false =>
              refine wp_ip rfl (wp_some (wp_some ⟨?_, ⟨hC1, hM1⟩, sSea_C g5⟩))
              rw [if_neg hb]
              by_cases hneg : b < 0
              · exact (selA_neg _ hneg _ (by omega)).symm
              · obtain ⟨t, ht, rfl⟩ := nI_of hneg
                rw [selA_nI _ (by omega) _ (by omega)]
                refine (sel_ge _ _ _ ?_).symm
                have : ¬ t < cnt (fnF P m w f k T s) (11 ^ T) := by
                  intro hlt
                  rw [isOf_mk hlt (by omega)] at hy
                  cases hy
                omega
            | true =>
              refine wp_in (by decide) ?_
              obtain ⟨t, ht, rfl⟩ := isOf_of (by omega) hy
              refine wp_bd (wp_rI rfl (show t < 1331 by omega) (by decide) ?_)
              refine wp_some (wp_some ⟨?_, ⟨hC1, hM1⟩, sSea_C g5⟩)
              rw [if_neg hb, selA_nI _ (by omega) _ (by omega)]
              exact g4 t ht
        · rintro M1 ⟨hC1, hM1⟩ g
          unfold jMd_found
          rw [hM1.1.2.2.2.2.2.1, c2, ← e, hz]
          refine wp_in (by decide) (wp_in (by decide) ?_)
          refine wp_be (copyIn M1 112 113 (by decide)) ?_
          have hM2 : rRM (sI M1 113 12 (M1.1 112)) P m w f k T := hM1.1
          have h113 : ∀ t, t < 12 → (sI M1 113 12 (M1.1 112)).1 113 t = nI (c t) := fun t ht => by rw [sI_at ht]; exact (hM1.2 t ht).1
          have hf2 : fr sRM M1 (sI M1 113 12 (M1.1 112)) := fr_sI (fun j hj => Or.inr (by omega))
          generalize sI M1 113 12 (M1.1 112) = M2 at hM2 h113 hf2 ⊢
          rw [hM2.2.2.2.2.2.1]
          refine wp_be (jMd_power_eq (a := 11) (by decide) (by omega)) ?_
          simp only [qlt]
          rw [lN_i]
          refine wp_bd (wp_for (fun n st => st.1 = nI (cnt (fnF P m w f k T s) n) ∧ st.2.1 = selA (fnF P m w f k T s) b n ∧ st.2.2.1 = nI n ∧ fr sFoM M2 st.2.2.2) (11 ^ T) ⟨rfl, rfl, rfl, fr_rf _ _⟩ ?_ ?_)
          · rintro n ⟨x, y, z, N⟩ hn ⟨h1, h2, h3, h4⟩
            have h1 : x = nI (cnt (fnF P m w f k T s) n) := h1
            have h2 : y = selA (fnF P m w f k T s) b n := h2
            have h3 : z = nI n := h3
            subst h1 h2 h3
            have h4 : fr sFoM M2 N := h4
            have hN : rRM N P m w f k T := rRM_fr hM2 h4 (fun j _ _ => by simp [sFoM])
            simp only [qu4]
            refine wp_in (nI_ge hn (by omega)) ?_
            rw [hN.2.2.2.2.2.1, show (1 : Int32) = nI 1 from rfl, nI_subE (by omega)]
            refine wp_bd ((digs_wp (by omega) (by omega) (by omega)).mono ?_)
            rintro M3 ⟨k1, k2⟩
            have hM3 : rRM M3 P m w f k T := rRM_fr hN k2 (fun j _ _ => by simp)
            refine wp_bd ((rests_wp (c := dg T n) hM3 (fun i hi => ⟨k1 i hi, dg_lt T n i⟩) hs).mono ?_)
            rintro ⟨rr, M4⟩ ⟨j1, j2⟩
            have j1 : rr = fnF P m w f k T s n := j1
            have j2 : fr sPa M3 M4 := j2
            have hfr : fr sFoM M2 M4 := (h4.tr (k2.mono (fun b j hb => Or.inl hb.1))).tr (j2.mono (fun b j hb => by unfold sPa at hb; unfold sFoM; omega))
            simp only [qu2]
            cases rr with
            | false =>
              refine wp_some ⟨?_, ?_, nI_add n 1, hfr⟩
              · simp only [cnt, ← j1]; rfl
              · simp only [selA, ← j1]; rfl
            | true =>
              have hcl := cnt_le (fnF P m w f k T s) n
              refine wp_some ⟨?_, ?_, nI_add n 1, hfr⟩
              · simp only [cnt, ← j1]
                exact nI_add _ 1
              · simp only [selA, ← j1]
                show (if nI (cnt (fnF P m w f k T s) n) = b then nI n else selA (fnF P m w f k T s) b n) = _
                by_cases hb : nI (cnt (fnF P m w f k T s) n) = b
                · rw [if_pos hb, if_pos ⟨trivial, hb⟩]
                · rw [if_neg hb, if_neg (fun e => hb e.2)]
          · rintro ⟨x, y, z, N⟩ ⟨h1, h2, h3, h4⟩
            have h1 : x = nI (cnt (fnF P m w f k T s) (11 ^ T)) := h1
            have h2 : y = selA (fnF P m w f k T s) b (11 ^ T) := h2
            have h3 : z = nI (11 ^ T) := h3
            subst h1 h2 h3
            have h4 : fr sFoM M2 N := h4
            have hN : rRM N P m w f k T := rRM_fr hM2 h4 (fun j _ _ => by simp [sFoM])
            simp only [qu4]
            refine wp_ip (nI_le (Nat.le_refl _) (by omega)) (wp_some ?_)
            simp only [qu3]
            refine wp_be (copyIn N 113 112 (by decide)) ?_
            have hf3 : fr sRM M1 (sI N 112 12 (N.1 113)) := (hf2.tr (h4.mono (fun b j hb => by unfold sFoM at hb; unfold sRM; omega))).tr (fr_sI (fun j hj => Or.inr (by omega)))
            refine wp_some ⟨rfl, rRow_M hC1 ⟨hN, fun t ht => ⟨?_, (hM.2 t ht).2⟩⟩ hf3, hf3⟩
            rw [sI_at ht, (h4 113 t (by simp [sFoM])).1]
            exact h113 t ht
    · have c1 : (3 : Int32) < nI T := nI_lt (a := 3) (b := T) (by omega) (by omega)
      have c2 : jMd_in (nI T) 1 3 = false := by
        rw [← Bool.not_eq_true, in_iff, nI_toInt (by omega), n1, n3]
        omega
      refine ⟨-1, M, M, ?_, ?_, Or.inr ⟨P, m, w, f, k, T, c, hC, hM⟩, fr_rf _ _, fr_rf _ _⟩
      · unfold jTc_found
        rw [iT, q5, if_pos c1]
        rfl
      · unfold jMd_found
        rw [q6, c2]
        rfl
