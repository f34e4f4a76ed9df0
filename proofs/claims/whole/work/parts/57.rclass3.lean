-- needs 52 53 54 55 56
/-! ===== the row: search, likeliest (class) ===== -/
theorem nI_div11 {n : Nat} (h : n < 2147483648) : nI n / 11 = nI (n / 11) := by
  show Int32.ofNat n / Int32.ofNat 11 = Int32.ofNat (n / 11)
  rw [Int32.ofNat_div (by omega) (by omega)]
theorem nI_mod11 {n : Nat} (h : n < 2147483648) : nI n - nI n / 11 * 11 = nI (n % 11) := by
  rw [nI_div11 h, show (11 : Int32) = nI 11 from rfl, nI_mul, nI_subE (by omega)]
  congr 1
  omega
def dg (T n t : Nat) : Nat := n / 11 ^ (T - 1 - t) % 11
theorem dg_lt (T n t : Nat) : dg T n t < 11 := Nat.mod_lt _ (by decide)
theorem digs_wp {M : qM} {a T n : Nat} (h1 : 1 ≤ T) (hT : T ≤ 12) (hn : n < 2000) :
    wp (qlp (σ := (Int32 × Int32 × qM)) (ρ := qM) (
          fun q => qu3 q fun x12 x13 M14 =>
          if (x13 : Int32) < (0 : Int32) then
            some (.inr M14)
          else
            (qwI M14 a 12 x13 (x12 - x12 / 11 * 11)).bind fun M24 =>
            qlt (x12 / 11 : Int32) fun x25 =>
            qlt (x13 + (-1) : Int32) fun x26 =>
            some (.inl (x25, x26, M24))) (nI n, nI (T - 1), M)) (fun M' => (∀ t, t < T → M'.1 a t = nI (dg T n t)) ∧ fr (fun b j => b = a ∧ j < T) M M') := by
  refine wp_for (fun i s => s.1 = nI (n / 11 ^ i) ∧ s.2.1 = iI ((T : Int) - 1 - i) ∧ (∀ t, T - i ≤ t → t < T → s.2.2.1 a t = nI (dg T n t)) ∧ fr (fun b j => b = a ∧ j < T) M s.2.2) T ?_ ?_ ?_
  · refine ⟨by simp, ?_, fun t h2 h3 => by omega, fr_rf _ _⟩
    show nI (T - 1) = _
    rw [nI_iI]
    exact iI_congr (by omega)
  · rintro i ⟨x, y, N⟩ hi ⟨hx, hy, hv, hf⟩
    have hx : x = nI (n / 11 ^ i) := hx
    have hy : y = nI (T - 1 - i) := by
      have hy : y = iI ((T : Int) - 1 - i) := hy
      rw [hy, nI_iI]
      exact iI_congr (by omega)
    have hv : ∀ t, T - i ≤ t → t < T → N.1 a t = nI (dg T n t) := hv
    have hf : fr (fun b j => b = a ∧ j < T) M N := hf
    subst hx hy
    have hle : n / 11 ^ i ≤ n := Nat.div_le_self _ _
    simp only [qu3, qlt]
    have h0 : ¬ nI (T - 1 - i) < 0 := nI_pos (by omega)
    rw [hy, if_neg h0]
    refine wp_bd (wp_wI rfl (show T - 1 - i < 12 by omega) (by decide) ?_)
    rw [nI_mod11 (by omega), nI_div11 (by omega)]
    refine wp_some ⟨?_, ?_, ?_, hf.tr (fr_I ⟨rfl, by omega⟩)⟩
    · show nI (n / 11 ^ i / 11) = nI (n / 11 ^ (i + 1))
      rw [Nat.div_div_eq_div_mul, Nat.pow_succ]
    · show nI (T - 1 - i) + (-1) = iI ((T : Int) - 1 - ((i + 1 : Nat) : Int))
      rw [show (-1 : Int32) = iI (-1) from rfl, nI_iI, iI_add]
      exact iI_congr (by omega)
    · intro t h2 h3
      show (qI N a (T - 1 - i) (nI (n / 11 ^ i % 11))).1 a t = _
      rw [qI_1]
      by_cases ht : t = T - 1 - i
      · rw [if_pos ⟨rfl, ht⟩, ht]
        unfold dg
        congr 4
        omega
      · rw [if_neg (by omega)]
        exact hv t (by omega) h3
  · rintro ⟨x, y, N⟩ ⟨hx, hy, hv, hf⟩
    have hy : y = -1 := by
      have hy : y = iI ((T : Int) - 1 - T) := hy
      rw [hy, show (-1 : Int32) = iI (-1) from rfl]
      exact iI_congr (by omega)
    subst hy
    simp only [qu3, qlt]
    exact wp_ip (by decide) (wp_some ⟨fun t ht => hv t (by omega) ht, hf⟩)
def cnt (F : Nat → Bool) : Nat → Nat
  | 0 => 0
  | n + 1 => if F n = true then cnt F n + 1 else cnt F n
def sel (F : Nat → Bool) (i : Nat) : Nat → Int32
  | 0 => -1
  | n + 1 => if F n = true ∧ cnt F n = i then nI n else sel F i n
theorem cnt_le (F : Nat → Bool) (n : Nat) : cnt F n ≤ n := by
  induction n with
  | zero => exact Nat.le_refl _
  | succ n ih => simp only [cnt]; split <;> omega
theorem sel_ge (F : Nat → Bool) (i : Nat) : ∀ n, cnt F n ≤ i → sel F i n = -1 := by
  intro n
  induction n with
  | zero => intro _; rfl
  | succ n ih =>
    intro h
    simp only [cnt] at h
    simp only [sel]
    by_cases hF : F n = true
    · rw [if_pos hF] at h
      rw [if_neg (by omega)]
      exact ih (by omega)
    · rw [if_neg hF] at h
      rw [if_neg (fun e => hF e.1)]
      exact ih h
def fnF (P m w f k T s n : Nat) : Bool := rst (vl (P - 1) m (dg T n) w f k T) (dg T n) (lst (vl (P - 1) m (dg T n) w f k T) T s) T T
/-- what was searched last -/
def rSe (M : qM) (P m w f k T : Nat) : Prop := M.1 49 17 = -1 ∨ ∃ s, s < 100 ∧ T ≤ 3 ∧ M.1 49 17 = nI s ∧ M.1 49 16 = nI (cnt (fnF P m w f k T s) (11 ^ T)) ∧ ∀ i, i < cnt (fnF P m w f k T s) (11 ^ T) → M.1 59 i = sel (fnF P m w f k T s) i (11 ^ T)
def sSea (b j : Nat) : Prop := sWei b j ∨ b = 58 ∨ b = 59 ∨ b = 49 ∧ (j = 16 ∨ j = 17)
theorem pow11 {T : Nat} (h : T ≤ 3) : 11 ^ T ≤ 1331 := Nat.pow_le_pow_right (by decide) h
theorem search_wp {M : qM} {P m w f k T s : Nat} (hR : rRo M P m w f k T) (hpw : rPw M) (hrf : rRf M) (hse : rSe M P m w f k T) (hT : T ≤ 3) (hs : s < 100) :
    wp (jRo_search (nI s) M) (fun M' => rRf M' ∧ M'.1 49 17 = nI s ∧ M'.1 49 16 = nI (cnt (fnF P m w f k T s) (11 ^ T)) ∧ (∀ i, i < cnt (fnF P m w f k T s) (11 ^ T) → M'.1 59 i = sel (fnF P m w f k T s) i (11 ^ T)) ∧ fr sSea M M') := by
  have q5 : M.1 49 5 = nI T := hR.2.2.2.2.2.1
  have b8 : 1 ≤ T := hR.2.2.2.2.2.2.2.2.2.2.2.2.2.1
  have h11 := pow11 hT
  unfold jRo_search
  refine wp_if (fun he => ?_) (fun he => ?_)
  · rcases hse with h | ⟨s', hs', -, h1, h2, h3⟩
    · rw [h, show (-1 : Int32) = iI (-1) from rfl, nI_iI, iI_eq (by omega) (by omega) (by omega) (by omega)] at he
      omega
    · rw [h1, nI_eq (by omega) (by omega)] at he
      subst he
      exact wp_some ⟨hrf, h1, h2, h3, fr_rf _ _⟩
  · rw [qlp_for0 (s0 := ((1 : Int32), (0 : Int32))) (fun i => (nI (11 ^ i), nI i)) (nI (11 ^ T)) T rfl (fun i hi => ?_) ?_]
    · simp only [Option.bind_some, qlt]
      refine wp_bd (wp_for (fun n st => st.1 = nI n ∧ rRf st.2 ∧ st.2.1 49 16 = nI (cnt (fnF P m w f k T s) n) ∧ (∀ i, i < cnt (fnF P m w f k T s) n → st.2.1 59 i = sel (fnF P m w f k T s) i n) ∧ fr sSea M st.2) (11 ^ T) ?_ ?_ ?_)
      · refine ⟨rfl, rRf_fr hrf (S := fun b j => b = 49 ∧ j = 16) (fr_I ⟨rfl, rfl⟩) (by simp) (by simp), by simp [qI_1]; rfl, fun i hi => by simp [cnt] at hi, fr_I (by simp [sSea])⟩
      · rintro n ⟨x, N⟩ hn ⟨hx, g1, g2, g3, g4⟩
        have hx : x = nI n := hx
        have g1 : rRf N := g1
        have g2 : N.1 49 16 = nI (cnt (fnF P m w f k T s) n) := g2
        have g3 : ∀ i, i < cnt (fnF P m w f k T s) n → N.1 59 i = sel (fnF P m w f k T s) i n := g3
        have g4 : fr sSea M N := g4
        subst hx
        have q5N : N.1 49 5 = nI T := by rw [(g4 49 5 (by simp [sSea, sWei, sFol])).1]; exact q5
        simp only [qu2]
        refine wp_in (nI_ge hn (by omega)) ?_
        rw [q5N, show (1 : Int32) = nI 1 from rfl, nI_subE b8]
        refine wp_bd ((digs_wp b8 (by omega) (by omega)).mono ?_)
        rintro M1 ⟨k1, k2⟩
        have hR1 : rRo M1 P m w f k T := rRo_fr (rRo_fr hR g4 (fun j hj => by unfold sSea sWei sFol; omega)) k2 (fun j hj => by simp)
        have hpw1 : rPw M1 := rPw_fr (rPw_fr hpw g4 (fun j => by simp [sSea, sWei, sFol])) k2 (fun j => by simp)
        have hrf1 : rRf M1 := rRf_fr g1 k2 (by simp) (by simp)
        refine wp_bd ((restsBy_wp (row := 58) (c := dg T n) hR1 hpw1 hrf1 (Or.inr rfl) (fun t ht => ⟨k1 t ht, dg_lt T n t⟩) hs).mono ?_)
        rintro ⟨rr, M2⟩ ⟨j1, j2, j3⟩
        have j1 : rr = fnF P m w f k T s n := j1
        have j2 : rRf M2 := j2
        have j3 : fr sWei M1 M2 := j3
        have hc := cnt_le (fnF P m w f k T s) n
        have w16 : M2.1 49 16 = nI (cnt (fnF P m w f k T s) n) := by
          rw [(j3 49 16 (by simp [sWei, sFol])).1, (k2 49 16 (by simp)).1]; exact g2
        have w59 : ∀ i, M2.1 59 i = N.1 59 i := by
          intro i
          rw [(j3 59 i (by simp [sWei, sFol])).1, (k2 59 i (by simp)).1]
        have hfr : fr sSea M M2 := (g4.tr (k2.mono (fun b j hb => Or.inr (Or.inl hb.1)))).tr (j3.mono (fun b j hb => Or.inl hb))
        simp only [b2i_0]
        refine wp_bd ?_
        by_cases hF : rr = false
        · refine wp_ip hF (wp_some ?_)
          have hF2 : ¬ fnF P m w f k T s n = true := by rw [← j1, hF]; decide
          refine wp_some ⟨nI_add n 1, j2, ?_, ?_, hfr⟩
          · show M2.1 49 16 = _
            simp only [cnt, if_neg hF2]
            exact w16
          · intro i hi
            simp only [cnt, if_neg hF2] at hi
            show M2.1 59 i = _
            simp only [sel]
            rw [if_neg (fun e => hF2 e.1), w59]
            exact g3 i hi
        · refine wp_in hF ?_
          have hF2 : fnF P m w f k T s n = true := by rw [← j1]; simpa using hF
          show wp ((qwI M2 59 1331 (M2.1 49 16) (nI n)).bind _) _
          rw [w16]
          refine wp_bd (wp_wI rfl (show cnt (fnF P m w f k T s) n < 1331 by omega) (by decide) ?_)
          refine wp_some (wp_some ⟨nI_add n 1, rRf_fr j2 (S := fun b j => b = 59 ∨ b = 49 ∧ j = 16) ((fr_I (Or.inl rfl)).tr (fr_I (Or.inr ⟨rfl, rfl⟩))) (by simp) (by simp), ?_, ?_, hfr.tr ((fr_I (by simp [sSea])).tr (fr_I (by simp [sSea])))⟩)
          · show (qI _ 49 16 _).1 49 16 = _
            simp [qI_1, cnt, hF2, w16, nI_add]
          · intro i hi
            simp only [cnt, if_pos hF2] at hi
            show (qI _ 49 16 _).1 59 i = _
            simp only [qI_1, sel]
            rw [if_neg (by simp)]
            by_cases hi2 : i = cnt (fnF P m w f k T s) n
            · rw [if_pos ⟨trivial, hi2⟩, if_pos ⟨hF2, hi2.symm⟩]
            · rw [if_neg (by omega), if_neg (by omega), w59]
              exact g3 i (by omega)
      · rintro ⟨x, N⟩ ⟨hx, g1, g2, g3, g4⟩
        have hx : x = nI (11 ^ T) := hx
        subst hx
        simp only [qu2]
        refine wp_ip (nI_le (Nat.le_refl _) (by omega)) (wp_some (wp_some ⟨rRf_fr g1 (S := fun b j => b = 49 ∧ j = 17) (fr_I ⟨rfl, rfl⟩) (by simp) (by simp), by simp [qI_1], ?_, ?_, g4.tr (fr_I (by simp [sSea]))⟩))
        · simp [qI_1]; exact g2
        · intro i hi
          simp [qI_1]; exact g3 i hi
    · simp only [qu2, q5]
      rw [if_pos (nI_le (Nat.le_refl _) (by omega))]
    · simp only [qu2, q5, qlt]
      rw [if_neg (nI_ge hi (by omega)), show (3 : Int32) = nI 3 from rfl, if_neg (nI_ge (by omega) (by omega)), show (11 : Int32) = nI 11 from rfl, nI_mul, nI_1]
      rfl
def upC (c : Nat → Nat) (t x i : Nat) : Nat := if i = t then x else c i
/-- what is taken up to a minute, with one chance of the row another -/
def lkV (P m : Nat) (c : Nat → Nat) (L q : Nat) : Nat := sumN (tk P m (upC c (q / 11) (q % 11))) (L + 1)
def lkA (V : Nat → Nat) (q : Nat) : Int64 × Int32 := match q with
  | 0 => (-1, 0)
  | n + 1 => (lN (V (gr (fun i => lN (V i)) n)), nI (gr (fun i => lN (V i)) n))
theorem lkA_S (V : Nat → Nat) (q : Nat) (hb : ∀ i, V i < 9223372036854775808) : lkA V (q + 1) = if lN (V q) ≤ (lkA V q).1 then lkA V q else (lN (V q), nI q) := by
  cases q with
  | zero =>
    have h : ¬ lN (V 0) ≤ (lkA V 0).1 := by
      rw [l_nle, Int64.lt_iff_toInt_lt]
      have h1 : (lN (V 0)).toInt = (V 0 : Int) := Int64.toInt_ofNat_of_lt (hb 0)
      have h2 : (lkA V 0).1.toInt = -1 := rfl
      omega
    rw [if_neg h]
    rfl
  | succ n =>
    by_cases h : lN (V (n + 1)) ≤ (lkA V (n + 1)).1
    · rw [if_pos h]
      have h' : lN (V (n + 1)) ≤ lN (V (gr (fun i => lN (V i)) n)) := h
      simp only [lkA, gr, if_pos h']
    · rw [if_neg h]
      have h' : ¬ lN (V (n + 1)) ≤ lN (V (gr (fun i => lN (V i)) n)) := h
      simp only [lkA, gr, if_neg h']
theorem tk_le {P m : Nat} {c : Nat → Nat} {t : Nat} (hP : P < 10) (hc : ∀ i, i ≤ t → c i < 11) : tk P m c t ≤ 1000000000 := Nat.le_trans (tks_le _ hP (hc t (Nat.le_refl t))) (pt_sum hP t (fun i hi => hc i (by omega)))
theorem sumN_b {f : Nat → Nat} {n B : Nat} (h : ∀ i, i < n → f i ≤ B) : sumN f n ≤ n * B := by
  induction n with
  | zero => exact Nat.zero_le _
  | succ n ih =>
    have h1 := ih (fun i hi => h i (by omega))
    have h2 := h n (by omega)
    simp only [sumN, Nat.succ_mul]
    omega
theorem lkV_b {P m : Nat} {c : Nat → Nat} {L q : Nat} (hP : P < 10) (hL : L < 12) (hc : ∀ i, i ≤ L → c i < 11) : lkV P m c L q ≤ 12000000000 := by
  have h : lkV P m c L q ≤ (L + 1) * 1000000000 := by
    refine sumN_b (fun i hi => tk_le hP (fun j hj => ?_))
    unfold upC
    split
    · exact Nat.mod_lt _ (by decide)
    · exact hc j (by omega)
  have : (L + 1) * 1000000000 ≤ 12 * 1000000000 := Nat.mul_le_mul_right _ (by omega)
  omega
theorem gr_b (v : Nat → Int64) (n : Nat) : gr v n ≤ n := gr_le v n
def sLik (b j : Nat) : Prop := sFol b j ∨ b = 58
theorem likeliest_wp {M : qM} {P m w f k T L : Nat} {c : Nat → Nat} (hR : rRo M P m w f k T) (hpw : rPw M) (hrf : rRf M) (hL : L < T) (hc : ∀ t, t < T → M.1 50 t = nI (c t) ∧ c t < 11) :
    wp (jRo_likeliest (nI L) M) (fun r => r.1 = (lkA (lkV P m c L) (11 * (L + 1))).2 ∧ rRf r.2 ∧ fr sLik M r.2) := by
  have r0 : M.1 49 0 = nI P := hR.1
  have r1 : M.1 49 1 = nI m := hR.2.1
  have q5 : M.1 49 5 = nI T := hR.2.2.2.2.2.1
  have bb : 2 ≤ P ∧ P ≤ 9 ∧ 1 ≤ m ∧ m ≤ P ∧ w < 1000 ∧ f < 100 ∧ k < 100 ∧ 1 ≤ T ∧ T ≤ 12 := hR.2.2.2.2.2.2
  have hVb : ∀ q, lkV P m c L q < 9223372036854775808 := by
    intro q
    have := lkV_b (P := P) (m := m) (c := c) (L := L) (q := q) (by omega) (by omega) (fun i hi => (hc i (by omega)).2)
    omega
  unfold jRo_likeliest
  have hcp : qcp M 50 12 0 58 12 0 (nI T) = some (qcpI M 50 0 58 0 T) := by
    unfold qcp
    rw [nI_clamp (by omega)]
    rw [if_pos]
    · rfl
    · exact ⟨by decide, by decide, nI_pos' (by omega), by show 0 + T ≤ 12; omega, by show 0 + T ≤ 12; omega⟩
  rw [q5]
  refine wp_be hcp ?_
  have hI0 : ∀ t, t < T → (qcpI M 50 0 58 0 T).1 58 t = nI (c t) := by
    intro t ht
    unfold qcpI
    simp only
    rw [if_pos ⟨trivial, by omega, by omega⟩]
    simp only [Nat.zero_add, Nat.sub_zero]
    exact (hc t ht).1
  have hF0 : fr sLik M (qcpI M 50 0 58 0 T) := by
    intro b j hb
    refine ⟨?_, rfl, rfl⟩
    unfold qcpI
    simp only
    rw [if_neg]
    intro h
    exact hb (Or.inr h.1)
  have hrf0 : rRf (qcpI M 50 0 58 0 T) := hrf
  refine wp_bd (wp_for (fun n s => (s.1, s.2.1) = lkA (lkV P m c L) (11 * n) ∧ s.2.2.1 = nI n ∧ rRf s.2.2.2 ∧ (∀ t, t < T → s.2.2.2.1 58 t = nI (c t)) ∧ fr sLik M s.2.2.2) (L + 1) ?_ ?_ ?_)
  · exact ⟨rfl, rfl, hrf0, hI0, hF0⟩
  · rintro n ⟨y, z, x, N⟩ hn ⟨h1, h2, h3, h4, h5⟩
    have h2 : x = nI n := h2
    have h3 : rRf N := h3
    have h4 : ∀ t, t < T → N.1 58 t = nI (c t) := h4
    have h5 : fr sLik M N := h5
    have h1 : (y, z) = lkA (lkV P m c L) (11 * n) := h1
    subst h2
    simp only [qu4]
    refine wp_in (nI_nlt (by omega) (by omega)) ?_
    refine wp_bd (wp_for (fun x s => (s.1, s.2.1) = lkA (lkV P m c L) (11 * n + x) ∧ s.2.2.1 = nI x ∧ rRf s.2.2.2 ∧ (∀ t, t < T → ¬ t = n → s.2.2.2.1 58 t = nI (c t)) ∧ fr sLik M s.2.2.2) 11 ?_ ?_ ?_)
    · exact ⟨h1, rfl, h3, fun t ht _ => h4 t ht, h5⟩
    · rintro x ⟨y, z, x', N⟩ hx ⟨h1, h2, h3, h4, h5⟩
      have h2 : x' = nI x := h2
      have h3 : rRf N := h3
      have h4 : ∀ t, t < T → ¬ t = n → N.1 58 t = nI (c t) := h4
      have h5 : fr sLik M N := h5
      have h1 : (y, z) = lkA (lkV P m c L) (11 * n + x) := h1
      subst h2
      simp only [qu4]
      rw [show (10 : Int32) = nI 10 from rfl]
      refine wp_in (nI_nlt (by omega) (by omega)) ?_
      refine wp_bd (wp_wI rfl (show n < 12 by omega) (by decide) ?_)
      have h5' : fr sLik M (qI N 58 n (nI x)) := h5.tr (fr_I (Or.inr rfl))
      have a0 : (qI N 58 n (nI x)).1 49 0 = nI P := by rw [(h5' 49 0 (by simp [sLik, sFol])).1]; exact r0
      rw [a0, show (1 : Int32) = nI 1 from rfl, nI_add]
      refine wp_bd ((follow_wp (M := qI N 58 n (nI x)) (m := m) (c := upC c n x) (rPw_fr hpw h5' (fun j => by simp [sLik, sFol])) h3 (by rw [(h5' 49 1 (by simp [sLik, sFol])).1]; exact r1) (by omega) (by omega) (by omega) (by omega) (Or.inr rfl) ?_).mono ?_)
      · intro t ht
        unfold upC
        rw [qI_1]
        by_cases htn : t = n
        · rw [if_pos ⟨rfl, htn⟩, if_pos htn]
          exact ⟨rfl, hx⟩
        · rw [if_neg (by omega), if_neg htn]
          exact ⟨h4 t (by omega) htn, (hc t (by omega)).2⟩
      · rintro M1 ⟨g1, g2, -, g4⟩
        refine wp_be (takenUpTo_eq (n := L) (f := tk P m (upC c n x)) (by omega) (fun t ht => (g2 t (by omega)).1)) ?_
        have hV : sumN (tk P m (upC c n x)) (L + 1) = lkV P m c L (11 * n + x) := by
          unfold lkV
          rw [show (11 * n + x) / 11 = n by omega, show (11 * n + x) % 11 = x by omega]
        rw [hV]
        have hS := lkA_S (lkV P m c L) (11 * n + x) hVb
        rw [← h1] at hS
        simp only [qlt, qu2, lg_cmp_le]
        refine wp_some ⟨?_, nI_add x 1, g1, ?_, h5'.tr (g4.mono (fun _ _ h => Or.inl h))⟩
        · show _ = lkA (lkV P m c L) (11 * n + x + 1)
          rw [hS]
          have e11 : nI n * 11 + nI x = nI (11 * n + x) := by
            rw [show (11 : Int32) = nI 11 from rfl, nI_mul, nI_add, Nat.mul_comm]
          by_cases hq : lN (lkV P m c L (11 * n + x)) ≤ y
          · simp only [if_pos hq]
          · simp only [if_neg hq, e11]
        · intro t ht htn
          show M1.1 58 t = _
          rw [(g4 58 t (by simp [sFol])).1, qI_1, if_neg (by omega)]
          exact h4 t ht htn
    · rintro ⟨y, z, x', N⟩ ⟨h1, h2, h3, h4, h5⟩
      have h2 : x' = nI 11 := h2
      have h3 : rRf N := h3
      have h4 : ∀ t, t < T → ¬ t = n → N.1 58 t = nI (c t) := h4
      have h5 : fr sLik M N := h5
      have h1 : (y, z) = lkA (lkV P m c L) (11 * n + 11) := h1
      subst h2
      simp only [qu4]
      refine wp_ip (by decide) (wp_some ?_)
      simp only [qu3]
      refine wp_bd (wp_rI rfl (show n < 12 by omega) (by decide) ?_)
      refine wp_bd (wp_wI rfl (show n < 12 by omega) (by decide) ?_)
      refine wp_some ⟨h1, nI_1 n, h3, ?_, h5.tr (fr_I (Or.inr rfl))⟩
      intro t ht
      show (qI N 58 n (N.1 50 n)).1 58 t = _
      rw [qI_1]
      by_cases htn : t = n
      · rw [if_pos ⟨rfl, htn⟩, htn, (h5 50 n (by simp [sLik, sFol])).1]
        exact (hc n (by omega)).1
      · rw [if_neg (by omega)]
        exact h4 t ht htn
  · rintro ⟨y, z, x, N⟩ ⟨h1, h2, h3, h4, h5⟩
    have h2 : x = nI (L + 1) := h2
    have h1 : (y, z) = lkA (lkV P m c L) (11 * (L + 1)) := h1
    subst h2
    simp only [qu4]
    refine wp_ip (nI_lt (by omega) (by omega)) (wp_some ?_)
    exact wp_some ⟨by rw [← h1], h3, h5⟩
