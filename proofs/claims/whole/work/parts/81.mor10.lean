/-! ===== promises 11 to 14, 50, 51: start, minutes, who, about, image, back ===== -/
def fz0 (v : vT) (p : Nat) : Bool := decide (vSi v (vof v p) 3 = 0)
theorem fz0_C (v : vT) (hv : vOK v) : fzC v (fz0 v) (-1) (-1) := by
  intro p hp
  have h20 := hv.2.2.1
  have hs6 := hv.2.1
  have hvo := (vof_spec hp).1
  unfold fz0
  rw [decide_eq_true_eq]
  exact ⟨fun h => Or.inr (Or.inr h), fun h => h.elim (fun e => absurd e (nI_m1 (by omega))) (fun e => e.elim (fun e => absurd e (nI_m1 (by omega))) id)⟩
theorem has_0 : ∀ p, p < 20 → jMd_has 0 (nI p) = false := by
  intro p hp
  unfold jMd_has
  have : (0 : Int32) >>> (nI p &&& 31) &&& 1 = 0 := by
    apply b_ext
    intro i hi
    rw [b_and, b_sshr p (by omega) 0 hi]
    simp [b_0]
  simp only [qlt]
  rw [this]
  decide
theorem fz0_M (v : vT) (hv : vOK v) : fzM v (fz0 v) 0 (-1) := by
  intro p hp
  have h20 := hv.2.2.1
  have hs6 := hv.2.1
  have hvo := (vof_spec hp).1
  unfold fz0
  rw [decide_eq_true_eq, has_0 p (by omega)]
  exact ⟨fun h => Or.inr (Or.inl h), fun h => h.elim (fun e => by cases e) (fun e => e.elim id (fun e => absurd e (nI_m1 (by omega))))⟩
def moR (M : qM) (k i : Nat) (v : vT) (t lk : Nat) (σ : mS) : Prop := moS M k (71 + 4 * i) v t lk (vTi v t 0) (-1) (-1) ∧ moD M k v t (vTi v t 0) σ ∧ mZ v t (vTi v t 0) (fz0 v) σ
def mmR (M : qM) (i : Nat) (v : vT) (t lk : Nat) (σ : mS) : Prop := mmS M i v t lk (vTi v t 0) 0 (-1) ∧ mmD M v σ ∧ M.1 91 33 = 1
def rMo (n : Nat) (vs : Nat → vT) (M : qM) : Prop := (M.2.2 33 0 = none ∧ M.1 91 33 = 0 ∧ M.1 91 36 = 0 ∧ M.1 91 37 = -1) ∨ ∃ i t lk σ, i < n ∧ i < 5 ∧ moR M 33 i (vs i) t lk σ ∧ mmR M i (vs i) t lk σ
def imM (M : qM) (i : Nat) (v : vT) (t lk : Nat) (σ : mS) : Prop := (∀ p, p < 20 → M.1 120 p = iI (sW σ p) ∧ M.1 120 (20 + p) = iI (cin v σ p) ∧ M.1 120 (40 + p) = iI (sR σ p)) ∧ M.1 91 61 = nI i ∧ M.1 91 62 = nI t ∧ M.1 91 63 = nI lk ∧ M.1 91 64 = nI (sMi σ) ∧ M.1 91 65 = nI (sCa σ) ∧ M.1 91 66 = b2i (sOv σ) ∧ M.2.1 91 67 = sD σ
def rKe (n : Nat) (vs : Nat → vT) (M : qM) : Prop := (M.2.2 37 0 = none ∧ M.1 91 64 = -1) ∨ ∃ i t lk σ se sr, i < n ∧ i < 5 ∧ moS M 37 (71 + 4 * i) (vs i) t lk (vTi (vs i) t 0) se sr ∧ moD M 37 (vs i) t (vTi (vs i) t 0) σ ∧ mZ (vs i) t (vTi (vs i) t 0) (fz0 (vs i)) σ ∧ imM M i (vs i) t lk σ ∧ M.1 91 33 = 1
def rMK (n : Nat) (vs : Nat → vT) (M : qM) : Prop := rMo n vs M ∧ rKe n vs M
/-- frames -/
def sXC (b j : Nat) : Prop := 33 ≤ b ∧ b ≤ 48 ∨ b = 10 ∨ b = 11
def sXM (b j : Nat) : Prop := b = 91 ∧ (27 ≤ j ∧ j ≤ 42 ∨ 61 ≤ j ∧ j ≤ 68) ∨ b = 100 ∨ b = 101 ∨ 108 ≤ b ∧ b ≤ 111 ∨ b = 120
theorem moS_off {M M1 : qM} {k kv : Nat} {v : vT} {t lk nth : Nat} {se sr : Int32} {S : Nat → Nat → Prop} (h : moS M k kv v t lk nth se sr) (g : fr S M M1) (h1 : ∀ j, ¬ S k j) (h2 : ∀ b j, 71 ≤ b → b ≤ 90 → ¬ S b j) : moS M1 k kv v t lk nth se sr := by
  obtain ⟨a1, a2, a3, a4, a5, a6, a7, a8, a9, b1, b2, b3, b4⟩ := h
  refine ⟨rVC_fr a1 g (fun b j h3 h4 => h2 b j (by omega) (by omega)), a2, a3, a4, a5, a6, ?_, ?_, ?_, ?_, ?_, ?_, ?_⟩
  · rw [(g k 0 (h1 0)).2.2]; exact a7
  · rw [(g k 1 (h1 1)).1]; exact a8
  · rw [(g k 2 (h1 2)).1]; exact a9
  · rw [(g k 3 (h1 3)).1]; exact b1
  · rw [(g k 4 (h1 4)).1]; exact b2
  · rw [(g k 5 (h1 5)).1]; exact b3
  · rw [(g k 6 (h1 6)).1]; exact b4
theorem moD_off {M M1 : qM} {k : Nat} {v : vT} {t nth : Nat} {σ : mS} {S : Nat → Nat → Prop} (h : moD M k v t nth σ) (g : fr S M M1) (h1 : ∀ b j, k ≤ b → b ≤ k + 3 → ¬ S b j) : moD M1 k v t nth σ := by
  obtain ⟨d1, d2, d3, d4, d5, d6, d7, d8, d9, d10, d11⟩ := h
  have hk : ∀ j, M1.1 k j = M.1 k j := fun j => (g k j (h1 k j (by omega) (by omega))).1
  refine ⟨by rw [(g k 7 (h1 k 7 (by omega) (by omega))).2.1]; exact d1, by rw [hk]; exact d2, by rw [hk]; exact d3, by rw [hk]; exact d4, by rw [hk]; exact d5, by rw [hk]; exact d6, by rw [hk]; exact d7, by rw [hk]; exact d8, fun q hq => ?_, fun s hs => ?_, d11⟩
  · rw [(g (k + 1) q (h1 _ _ (by omega) (by omega))).1, (g (k + 2) q (h1 _ _ (by omega) (by omega))).1]; exact d9 q hq
  · rw [(g (k + 3) s (h1 _ _ (by omega) (by omega))).1]; exact d10 s hs
theorem mmS_off {M M1 : qM} {i : Nat} {v : vT} {t lk nth : Nat} {fo st : Int32} {S : Nat → Nat → Prop} (h : mmS M i v t lk nth fo st) (g : fr S M M1) (h1 : ∀ b j, 102 ≤ b → b ≤ 106 → ¬ S b j) (h2 : ∀ j, 27 ≤ j → j ≤ 37 → ¬ S 91 j) : mmS M1 i v t lk nth fo st := by
  obtain ⟨a1, a2, a3, a4, a5, a6, a7, a8, a9, b1, b2⟩ := h
  refine ⟨rVM_fr a1 g h1, a2, a3, a4, a5, ?_, ?_, ?_, ?_, ?_, ?_⟩
  · rw [(g 91 27 (h2 27 (by omega) (by omega))).1]; exact a6
  · rw [(g 91 28 (h2 28 (by omega) (by omega))).1]; exact a7
  · rw [(g 91 29 (h2 29 (by omega) (by omega))).1]; exact a8
  · rw [(g 91 32 (h2 32 (by omega) (by omega))).1]; exact a9
  · rw [(g 91 36 (h2 36 (by omega) (by omega))).1]; exact b1
  · rw [(g 91 37 (h2 37 (by omega) (by omega))).1]; exact b2
theorem mmD_off {M M1 : qM} {v : vT} {σ : mS} {S : Nat → Nat → Prop} (h : mmD M v σ) (g : fr S M M1) (h1 : ∀ b j, 108 ≤ b → b ≤ 110 → ¬ S b j) (h2 : ∀ j, 30 ≤ j → j ≤ 35 → ¬ S 91 j) : mmD M1 v σ := by
  obtain ⟨d1, d2, d3, d4, d5, d6⟩ := h
  refine ⟨by rw [(g 91 35 (h2 35 (by omega) (by omega))).2.1]; exact d1, by rw [(g 91 30 (h2 30 (by omega) (by omega))).1]; exact d2, by rw [(g 91 31 (h2 31 (by omega) (by omega))).1]; exact d3, by rw [(g 91 34 (h2 34 (by omega) (by omega))).1]; exact d4, fun p hp => ?_, d6⟩
  rw [(g 108 p (h1 _ _ (by omega) (by omega))).1, (g 109 p (h1 _ _ (by omega) (by omega))).1, (g 110 p (h1 _ _ (by omega) (by omega))).1]
  exact d5 p hp
theorem imM_off {M M1 : qM} {i : Nat} {v : vT} {t lk : Nat} {σ : mS} {S : Nat → Nat → Prop} (h : imM M i v t lk σ) (g : fr S M M1) (h1 : ∀ j, ¬ S 120 j) (h2 : ∀ j, 61 ≤ j → j ≤ 67 → ¬ S 91 j) : imM M1 i v t lk σ := by
  obtain ⟨d1, d2, d3, d4, d5, d6, d7, d8⟩ := h
  refine ⟨fun p hp => ?_, by rw [(g 91 61 (h2 61 (by omega) (by omega))).1]; exact d2, by rw [(g 91 62 (h2 62 (by omega) (by omega))).1]; exact d3, by rw [(g 91 63 (h2 63 (by omega) (by omega))).1]; exact d4, by rw [(g 91 64 (h2 64 (by omega) (by omega))).1]; exact d5, by rw [(g 91 65 (h2 65 (by omega) (by omega))).1]; exact d6, by rw [(g 91 66 (h2 66 (by omega) (by omega))).1]; exact d7, by rw [(g 91 67 (h2 67 (by omega) (by omega))).2.1]; exact d8⟩
  rw [(g 120 p (h1 _)).1, (g 120 (20 + p) (h1 _)).1, (g 120 (40 + p) (h1 _)).1]
  exact d1 p hp
/-- the kept one stands, whatever else of a morning changes -/
theorem rKe_off {M M1 : qM} {n : Nat} {vs : Nat → vT} {S : Nat → Nat → Prop} (h : rKe n vs M) (g : fr S M M1) (h1 : ∀ b j, 37 ≤ b → b ≤ 40 → ¬ S b j) (h2 : ∀ b j, 71 ≤ b → b ≤ 90 → ¬ S b j) (h3 : ∀ j, ¬ S 120 j) (h4 : ∀ j, 61 ≤ j → j ≤ 67 → ¬ S 91 j) (h5 : M1.1 91 33 = M.1 91 33 ∨ M1.1 91 33 = 1) : rKe n vs M1 := by
  rcases h with ⟨a1, a2⟩ | ⟨i, t, lk, σ, se, sr, a1, a2, a3, a4, a5, a6, a7⟩
  · exact Or.inl ⟨by rw [(g 37 0 (h1 37 0 (by omega) (by omega))).2.2]; exact a1, by rw [(g 91 64 (h4 64 (by omega) (by omega))).1]; exact a2⟩
  · refine Or.inr ⟨i, t, lk, σ, se, sr, a1, a2, moS_off a3 g (fun j => h1 37 j (by omega) (by omega)) h2, moD_off a4 g (fun b j hb hb2 => h1 b j (by omega) (by omega)), a5, imM_off a6 g h3 h4, ?_⟩
    rcases h5 with h5 | h5
    · rw [h5]; exact a7
    · exact h5
theorem moR_off {M M1 : qM} {k i : Nat} {v : vT} {t lk : Nat} {σ : mS} {S : Nat → Nat → Prop} (h : moR M k i v t lk σ) (g : fr S M M1) (h1 : ∀ b j, k ≤ b → b ≤ k + 3 → ¬ S b j) (h2 : ∀ b j, 71 ≤ b → b ≤ 90 → ¬ S b j) : moR M1 k i v t lk σ :=
  ⟨moS_off h.1 g (fun j => h1 k j (by omega) (by omega)) h2, moD_off h.2.1 g h1, h.2.2⟩
theorem mmR_off {M M1 : qM} {i : Nat} {v : vT} {t lk : Nat} {σ : mS} {S : Nat → Nat → Prop} (h : mmR M i v t lk σ) (g : fr S M M1) (h1 : ∀ b j, 102 ≤ b → b ≤ 110 → ¬ S b j) (h2 : ∀ j, 27 ≤ j → j ≤ 37 → ¬ S 91 j) : mmR M1 i v t lk σ :=
  ⟨mmS_off h.1 g (fun b j h3 h4 => h1 b j h3 (by omega)) h2, mmD_off h.2.1 g (fun b j h3 h4 => h1 b j (by omega) h4) (fun j h3 h4 => h2 j (by omega) (by omega)), by rw [(g 91 33 (h2 33 (by omega) (by omega))).1]; exact h.2.2⟩
theorem mbeg_t {M : qM} {k kv : Nat} (h : M.2.2 k 0 = some kv) : jMo_began k M = true := by
  unfold jMo_began qlt
  rw [h]
  simp
theorem mbeg_f {M : qM} {k : Nat} (h : M.2.2 k 0 = none) : jMo_began k M = false := by
  unfold jMo_began qlt
  rw [h]
  simp
theorem isPerC_N {M : qM} (h : M.2.2 33 0 = none) (a : Int32) : jTc_isPerson a M = some false := by
  unfold jTc_isPerson
  rw [mbeg_f h]
  rfl
theorem isPerM_N {M : qM} (h : M.1 91 33 = 0) (a : Int32) : jMd_isPerson a M = some false := by
  unfold jMd_isPerson
  rw [if_pos h]
  rfl
theorem isPerC_eq {M : qM} {i : Nat} {v : vT} {t lk : Nat} {σ : mS} (h : moR M 33 i v t lk σ) (a : Int32) : jTc_isPerson a M = some (jTc_isOf a (nI (vP v))) := by
  unfold jTc_isPerson
  rw [mbeg_t h.1.2.2.2.2.2.2.1, h.1.2.2.2.2.2.2.1, if_neg (by decide)]
  simp only [Option.bind_some, h.1.1.2.2.2.1, b2i_0]
  cases jTc_isOf a (nI (vP v)) <;> rfl
theorem isPerM_eq {M : qM} {i : Nat} {v : vT} {t lk : Nat} {σ : mS} (h : mmR M i v t lk σ) (a : Int32) : jMd_isPerson a M = some (jTc_isOf a (nI (vP v))) := by
  have h20 := h.1.1.1.2.2.1
  unfold jMd_isPerson
  rw [h.2.2, if_neg (by decide), many_eq h.1]
  simp only [Option.bind_some, b2i_0, ← isOf_Z a (show vP v < 1000000 by omega)]
  cases jTc_isOf a (nI (vP v)) <;> rfl
theorem p_who {M : qM} {n : Nat} {vs : Nat → vT} (h : rMo n vs M) (a b : Int32) : ∃ r, jTc_who a b M = some r ∧ jMd_who a b M = some r := by
  rcases h with ⟨h1, h2, _⟩ | ⟨i, t, lk, σ, hi, hi5, hC, hM⟩
  · refine ⟨-1000000, ?_, ?_⟩
    · unfold jTc_who; rw [isPerC_N h1]; rfl
    · unfold jMd_who; rw [isPerM_N h2]; rfl
  · have hv := hC.1.1.1
    have h20 := hv.2.2.1
    unfold jTc_who jMd_who
    rw [isPerC_eq hC, isPerM_eq hM]
    cases hz : jTc_isOf a (nI (vP (vs i))) with
    | false => exact ⟨-1000000, rfl, rfl⟩
    | true =>
      obtain ⟨p, hp, rfl⟩ := isOf_of (by omega) hz
      have hin := hC.2.1.2.2.2.2.2.2.2.2.2.2
      have h1 := hin.1 p (by omega)
      have h2 := sCa_le hin
      have hmi := hin.2.2.2.2
      have hc := hC.2.1.2.2.2.2.2.2.2.2.1 p (by omega)
      have hcm := hM.2.1.2.2.2.2.1 p (by omega)
      simp only [Option.bind_some]
      rw [if_neg (show ¬ b2i true = 0 by decide), if_neg (show ¬ b2i true = 0 by decide)]
      by_cases b0 : b = 0
      · rw [if_pos b0, if_pos b0, isWait_eq hM.2.1 (by omega), isOnWay_eq hM.2.1 hv hp]
        unfold jMo_stateOf
        rw [qrI_nI (by omega) (by omega), qrI_nI (by omega) (by omega), show M.1 (33 + 1) p = iI (sW σ p) from hc.1, show M.1 (33 + 2) p = iI (sR σ p) from hc.2]
        simp only [Option.bind_some, show (-1 : Int32) = iI (-1) from rfl, iI_eq (show -2147483648 ≤ sW σ p by omega) (by omega) (show -2147483648 ≤ (-1 : Int) by omega) (by omega), iI_eq (show -2147483648 ≤ sR σ p by omega) (by omega) (show -2147483648 ≤ (-1 : Int) by omega) (by omega), b2i_0, decide_eq_false_iff_not]
        by_cases c1 : sW σ p = -1
        · refine ⟨0, by rw [if_pos c1]; rfl, by rw [if_neg (fun e => e c1)]; rfl⟩
        · by_cases c2 : sR σ p = -1
          · refine ⟨1, by rw [if_neg c1, if_pos c2]; rfl, by rw [if_pos c1, if_neg (fun e => e ⟨c1, c2⟩)]; rfl⟩
          · refine ⟨2, by rw [if_neg c1, if_neg c2]; rfl, by rw [if_pos c1, if_pos (fun e => c2 e.2)]; rfl⟩
      · rw [if_neg b0, if_neg b0]
        by_cases b1 : b = 1
        · rw [if_pos b1, if_pos b1, qrI_nI (by omega) (by omega), qrI_nI (by omega) (by omega)]
          exact ⟨iI (sW σ p), congrArg some hc.1, congrArg some hcm.1⟩
        · rw [if_neg b1, if_neg b1]
          by_cases b2 : b = 2
          · rw [if_pos b2, if_pos b2, minOf_eq hC.1 hC.2.1 hp, qrI_nI (by omega) (by omega)]
            exact ⟨iI (cin (vs i) σ p), rfl, congrArg some hcm.2.1⟩
          · rw [if_neg b2, if_neg b2]
            by_cases b3 : b = 3
            · rw [if_pos b3, if_pos b3, qrI_nI (by omega) (by omega), qrI_nI (by omega) (by omega)]
              exact ⟨iI (sR σ p), congrArg some hc.2, congrArg some hcm.2.2⟩
            · rw [if_neg b3, if_neg b3]
              by_cases b4 : b = 4
              · rw [if_pos b4, if_pos b4, hasC_s hC.1 hC.2.1 hp, hasM_eq hM.1 hM.2.1 hp]
                exact ⟨_, rfl, rfl⟩
              · rw [if_neg b4, if_neg b4]
                by_cases b5 : b = 5
                · rw [if_pos b5, if_pos b5, gainC_eq hC.1 hC.2.1 hp, gainM_eq hM.1 hM.2.1 hp]
                  exact ⟨_, rfl, rfl⟩
                · rw [if_neg b5, if_neg b5]
                  exact ⟨_, rfl, rfl⟩
theorem p_about {M : qM} {n : Nat} {vs : Nat → vT} (h : rMo n vs M) (a : Int32) : ∃ r, jTc_about a M = some r ∧ jMd_about a M = some r := by
  rcases h with ⟨h1, h2, _⟩ | ⟨i, t, lk, σ, hi, hi5, hC, hM⟩
  · refine ⟨-1000000, ?_, ?_⟩
    · unfold jTc_about; rw [mbeg_f h1]; rfl
    · unfold jMd_about; rw [if_pos h2]
  · have hv := hC.1.1.1
    have h20 := hv.2.2.1
    obtain ⟨d1, d2, d3, d4, d5, d6, d7, d8, d9, d10, d11⟩ := hC.2.1
    have hw3 := w3 d11 hv
    unfold jTc_about jMd_about
    rw [mbeg_t hC.1.2.2.2.2.2.2.1, if_neg (show ¬ b2i true = 0 by decide), if_neg (show ¬ M.1 91 33 = 0 by rw [hM.2.2]; decide)]
    by_cases b0 : a = 0
    · rw [if_pos b0, if_pos b0, d2, hM.2.1.2.1]; exact ⟨_, rfl, rfl⟩
    · rw [if_neg b0, if_neg b0]
      by_cases b1 : a = 1
      · rw [if_pos b1, if_pos b1, d3, hM.2.1.2.2.1]; exact ⟨_, rfl, rfl⟩
      · rw [if_neg b1, if_neg b1]
        by_cases b2 : a = 2
        · rw [if_pos b2, if_pos b2, d4, wait_all hM.1 hM.2.1]; exact ⟨_, rfl, rfl⟩
        · rw [if_neg b2, if_neg b2]
          by_cases b3 : a = 3
          · rw [if_pos b3, if_pos b3, onWay_eq hM.1 hM.2.1]
            have hu : jMo_underway 33 M = some (nI (onw (vs i) σ)) := by
              unfold jMo_underway
              rw [hC.1.2.2.2.2.2.2.1]
              simp only [Option.bind_some]
              rw [hC.1.1.2.2.2.1, d4, d3, nI_subE (by omega), nI_subE (by omega)]
              congr 2
              omega
            rw [hu]
            exact ⟨_, rfl, rfl⟩
          · rw [if_neg b3, if_neg b3]
            by_cases b4 : a = 4
            · rw [if_pos b4, if_pos b4, d5, had_eq hM.1 hM.2.1]; exact ⟨_, rfl, rfl⟩
            · rw [if_neg b4, if_neg b4]
              by_cases b5 : a = 5
              · rw [if_pos b5, if_pos b5, d6, hM.2.1.2.2.2.1]; exact ⟨_, rfl, rfl⟩
              · rw [if_neg b5, if_neg b5]
                by_cases b6 : a = 6
                · rw [if_pos b6, if_pos b6, d7, fullAt_eq hM.1 hM.2.1]; exact ⟨_, rfl, rfl⟩
                · rw [if_neg b6, if_neg b6]
                  by_cases b7 : a = 7
                  · rw [if_pos b7, if_pos b7, d8, lastWho_eq hM.1 hM.2.1]; exact ⟨_, rfl, rfl⟩
                  · rw [if_neg b7, if_neg b7]
                    exact ⟨_, rfl, rfl⟩
