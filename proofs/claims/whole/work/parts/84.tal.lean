/-! ===== over seeds: the class's tally ===== -/
def sumF (f : Nat → Int32) : Nat → Int32
  | 0 => 0
  | n + 1 => sumF f n + f n
def alB (F : Nat → Bool) : Nat → Bool
  | 0 => true
  | n + 1 => alB F n && F n
theorem sumF_congr {f g : Nat → Int32} {n : Nat} (h : ∀ i, i < n → f i = g i) : sumF f n = sumF g n := by
  induction n with
  | zero => rfl
  | succ n ih => simp only [sumF]; rw [ih (fun i hi => h i (by omega)), h n (by omega)]
def aaS (v : vT) (σ : mS) : Bool := alB (fun p => decide (sW σ p = 0)) (vP v)
def ltT (v : vT) (t nth : Nat) (σ : mS) : Int32 := if lmS v t nth σ = -1 then 60 else iI (lmS v t nth σ)
def taR (M : qM) (n : Nat) (v : vT) (t nth : Nat) (F : Nat → mS) : Prop :=
  M.1 41 4 = nI n ∧ M.1 41 5 = b2i (alB (fun d => aaS v (F d)) n) ∧ (∀ p, p < vP v → M.1 46 p = sumF (fun d => iI (gnS v t nth (F d) p)) n) ∧ (∀ d, d < n → M.1 47 d = ilB (hsS v t nth (F d)) (vP v) ∧ M.1 48 d = iI (lmS v t nth (F d)) ∧ mInv v (F d))
theorem note_wp {M : qM} {kv : Nat} {v : vT} {t lk nth d : Nat} {se sr : Int32} {σ : mS} {A : Bool} {f : Nat → Int32} (hd : d < 40) (hS : moS M 42 kv v t lk nth se sr) (hD : moD M 42 v t nth σ) (hA : M.1 41 5 = b2i A) (hf : ∀ p, p < vP v → M.1 46 p = f p) :
    wp (jTa_note (nI d) M) (fun M' => M'.1 41 5 = b2i (A && aaS v σ) ∧ (∀ p, p < vP v → M'.1 46 p = f p + iI (gnS v t nth σ p)) ∧ M'.1 47 d = ilB (hsS v t nth σ) (vP v) ∧ M'.1 48 d = iI (lmS v t nth σ) ∧ fr (fun b j => b = 41 ∧ j = 5 ∨ b = 46 ∨ b = 47 ∧ j = d ∨ b = 48 ∧ j = d) M M') := by
  have hv := hS.1.1
  have h20 := hv.2.2.1
  have hT : ∀ N, fr (fun b j => b = 41 ∧ j = 5 ∨ b = 46) M N → moS N 42 kv v t lk nth se sr ∧ moD N 42 v t nth σ := fun N g => ⟨moS_off hS g (fun j => by omega) (fun b j _ _ => by omega), moD_off hD g (fun b j _ _ => by omega)⟩
  unfold jTa_note
  refine wp_bd (wp_for (fun q s => s.1 = ilB (hsS v t nth σ) q ∧ s.2.1 = nI q ∧ s.2.2.1 41 5 = b2i (A && alB (fun p => decide (sW σ p = 0)) q) ∧ (∀ p, p < vP v → s.2.2.1 46 p = if p < q then f p + iI (gnS v t nth σ p) else f p) ∧ fr (fun b j => b = 41 ∧ j = 5 ∨ b = 46) M s.2.2) (vP v) ⟨rfl, rfl, by simp [alB, hA], fun p hp => by rw [if_neg (by omega)]; exact hf p hp, fr_rf _ _⟩ ?_ ?_)
  · rintro q ⟨x, y, N⟩ hq ⟨e1, e2, e3, e4, e5⟩
    have e1 : x = ilB (hsS v t nth σ) q := e1
    have e2 : y = nI q := e2
    subst e1 e2
    have e3 : N.1 41 5 = b2i (A && alB (fun p => decide (sW σ p = 0)) q) := e3
    have e4 : ∀ p, p < vP v → N.1 46 p = if p < q then f p + iI (gnS v t nth σ p) else f p := e4
    have e5 : fr (fun b j => b = 41 ∧ j = 5 ∨ b = 46) M N := e5
    obtain ⟨hSN, hDN⟩ := hT N e5
    have h46 : qrI N 46 20 (nI q) = some (f q) := by rw [qrI_nI (by omega) (by omega), e4 q hq, if_neg (by omega)]
    show wp (qu3 _ _) _
    unfold qu3
    refine wp_be hSN.2.2.2.2.2.2.1 ?_
    refine wp_in (by rw [hSN.1.2.2.2.1]; exact nI_ge hq (by omega)) ?_
    refine wp_be h46 ?_
    refine wp_be (gainC_eq hSN hDN hq) ?_
    refine wp_bd (wp_wI rfl (show q < 20 by omega) (by omega) ?_)
    have f1 : fr (fun b j => b = 41 ∧ j = 5 ∨ b = 46) M (qI N 46 q (f q + iI (gnS v t nth σ q))) := e5.tr (fr_I (Or.inr rfl))
    obtain ⟨hS1, hD1⟩ := hT _ f1
    refine wp_be (hasC_s hS1 hD1 hq) ?_
    have hz16 : wp (if (qI N 46 q (f q + iI (gnS v t nth σ q))).1 41 5 = 0 then some false else (qrI (qI N 46 q (f q + iI (gnS v t nth σ q))) 43 20 (nI q)).bind fun v19 => if v19 = 0 then some true else some false) (fun z => z = (A && alB (fun p => decide (sW σ p = 0)) (q + 1))) := by
      have c5 : (qI N 46 q (f q + iI (gnS v t nth σ q))).1 41 5 = b2i (A && alB (fun p => decide (sW σ p = 0)) q) := by rw [qI_1, if_neg (by omega)]; exact e3
      have hw := hD1.2.2.2.2.2.2.2.2.1 q (by omega)
      have hb := hD1.2.2.2.2.2.2.2.2.2.2.1 q (by omega)
      have hmi := hD1.2.2.2.2.2.2.2.2.2.2.2.2.2.2
      have c43 : qrI (qI N 46 q (f q + iI (gnS v t nth σ q))) 43 20 (nI q) = some (iI (sW σ q)) := by rw [qrI_nI (by omega) (by omega)]; exact congrArg some hw.1
      rw [c5]
      simp only [alB]
      cases hA1 : (A && alB (fun p => decide (sW σ p = 0)) q) with
      | false =>
        refine wp_ip (by decide) (wp_some ?_)
        rw [← Bool.and_assoc, hA1]
        rfl
      | true =>
        refine wp_in (by decide) (wp_be c43 ?_)
        rw [← Bool.and_assoc, hA1, Bool.true_and]
        refine wp_if (fun h0 => ?_) (fun h0 => ?_) <;> rw [show (0 : Int32) = iI 0 from rfl, iI_eq (by omega) (by omega) (by omega) (by omega)] at h0
        · exact wp_some (decide_eq_true h0).symm
        · exact wp_some (decide_eq_false h0).symm
    refine wp_bd (hz16.mono ?_)
    rintro z rfl
    refine wp_some ⟨?_, nI_1 q, ?_, fun p hp => ?_, f1.tr (fr_I (Or.inl ⟨rfl, rfl⟩))⟩
    · show ilB (hsS v t nth σ) q ||| (if b2i (hsS v t nth σ q) = 0 then (0 : Int32) else 1 <<< (nI q &&& 31)) = ilB (hsS v t nth σ) (q + 1)
      simp only [ilB]
      cases hsS v t nth σ q with
      | false => rw [if_pos (by decide), if_neg (by decide)]; simp
      | true => rw [if_neg (by decide), if_pos rfl]
    · show (qI _ 41 5 _).1 41 5 = _
      rw [qI_1, if_pos ⟨rfl, rfl⟩]
    · show (qI (qI N 46 q _) 41 5 _).1 46 p = _
      rw [qI_1, if_neg (by omega), qI_1]
      by_cases hpq : p = q
      · subst hpq
        rw [if_pos ⟨rfl, rfl⟩, if_pos (by omega)]
      · rw [if_neg (fun e => hpq e.2), e4 p hp]
        by_cases hl : p < q
        · rw [if_pos hl, if_pos (by omega)]
        · rw [if_neg hl, if_neg (by omega)]
  · rintro ⟨x, y, N⟩ ⟨e1, e2, e3, e4, e5⟩
    have e1 : x = ilB (hsS v t nth σ) (vP v) := e1
    have e2 : y = nI (vP v) := e2
    subst e1 e2
    have e3 : N.1 41 5 = b2i (A && alB (fun p => decide (sW σ p = 0)) (vP v)) := e3
    have e4 : ∀ p, p < vP v → N.1 46 p = if p < vP v then f p + iI (gnS v t nth σ p) else f p := e4
    have e5 : fr (fun b j => b = 41 ∧ j = 5 ∨ b = 46) M N := e5
    obtain ⟨hSN, hDN⟩ := hT N e5
    show wp (qu3 _ _) _
    unfold qu3
    refine wp_be hSN.2.2.2.2.2.2.1 ?_
    refine wp_ip (by rw [hSN.1.2.2.2.1]; exact nI_le (Nat.le_refl _) (by omega)) (wp_some ?_)
    show wp _ _
    refine wp_u2 ?_
    refine wp_bd (wp_wI rfl hd (by omega) ?_)
    refine wp_bd (wp_wI rfl hd (by omega) ?_)
    have c13 : (qI N 47 d (ilB (hsS v t nth σ) (vP v))).1 42 13 = iI (lmS v t nth σ) := by rw [qI_1, if_neg (by omega)]; exact hDN.2.2.2.2.2.2.1
    rw [c13]
    refine wp_some ⟨?_, fun p hp => ?_, ?_, ?_, ((e5.mono (fun b j h => by omega)).tr (fr_I (by omega))).tr (fr_I (by omega))⟩
    · rw [qI_1, if_neg (by omega), qI_1, if_neg (by omega)]; exact e3
    · rw [qI_1, if_neg (by omega), qI_1, if_neg (by omega), e4 p hp, if_pos hp]
    · rw [qI_1, if_neg (by omega), qI_1, if_pos ⟨rfl, rfl⟩]
    · rw [qI_1, if_pos ⟨rfl, rfl⟩]
def sTa (b j : Nat) : Prop := b = 41 ∧ (j = 4 ∨ j = 5) ∨ sMo 42 b j ∨ b = 46 ∨ b = 47 ∨ b = 48
theorem run_wp {M : qM} {kv n : Nat} {v : vT} {t lk nth : Nat} {se sr : Int32} {fz : Nat → Bool} {c : Nat} {wo : Nat → Nat} {Ws : Nat → wW} (hn : n ≤ 40) (hS : moS M 42 kv v t lk nth se sr) (hcu : cuC M c wo Ws) (hf : fzC v fz se sr) :
    wp (jTa_run (nI n) M) (fun M' => taR M' n v t nth (fun d => finS v t lk nth fz (vlS c wo Ws) (lN d)) ∧ moS M' 42 kv v t lk nth se sr ∧ fr sTa M M') := by
  have hv := hS.1.1
  have h20 := hv.2.2.1
  have hk : mok 42 := Or.inr (Or.inr rfl)
  have hSt : ∀ N, fr sTa M N → moS N 42 kv v t lk nth se sr := fun N g => by
    obtain ⟨a1, a2, a3, a4, a5, a6, a7, a8, a9, b1, b2, b3, b4⟩ := hS
    have hj : ∀ j, j < 7 → ¬ sTa 42 j := fun j hj => by unfold sTa sMo; omega
    exact ⟨rVC_fr a1 g (fun b j h1 h2 => by unfold sTa sMo; omega), a2, a3, a4, a5, a6, by rw [(g 42 0 (hj 0 (by omega))).2.2]; exact a7, by rw [(g 42 1 (hj 1 (by omega))).1]; exact a8, by rw [(g 42 2 (hj 2 (by omega))).1]; exact a9, by rw [(g 42 3 (hj 3 (by omega))).1]; exact b1, by rw [(g 42 4 (hj 4 (by omega))).1]; exact b2, by rw [(g 42 5 (hj 5 (by omega))).1]; exact b3, by rw [(g 42 6 (hj 6 (by omega))).1]; exact b4⟩
  have hCt : ∀ N, fr sTa M N → cuC N c wo Ws := fun N g => cuC_fr hcu g (fun b j hb => by unfold sTa sMo; omega)
  unfold jTa_run
  simp only [qlt]
  have emin : jminI (nI n) 40 = nI n := by
    unfold jminI
    rw [show (40 : Int32) = nI 40 from rfl]
    by_cases h : 40 < n
    · omega
    · rw [if_neg (nI_nlt (by omega) (by omega))]
  rw [emin]
  refine wp_be (fillI_eq 46 0 _ (by decide)) ?_
  have f0 : fr sTa M (sI (qI (qI M 41 4 (nI n)) 41 5 1) 46 (q_al 46) (fun _ => 0)) := ((fr_I (by unfold sTa; omega)).tr (fr_I (by unfold sTa; omega))).tr (fr_sI (fun j _ => by unfold sTa; omega))
  refine wp_bd (wp_for (fun d s => s.1 = nI d ∧ s.2.1 41 4 = nI n ∧ s.2.1 41 5 = b2i (alB (fun d => aaS v (finS v t lk nth fz (vlS c wo Ws) (lN d))) d) ∧ (∀ p, p < vP v → s.2.1 46 p = sumF (fun d => iI (gnS v t nth (finS v t lk nth fz (vlS c wo Ws) (lN d)) p)) d) ∧ (∀ e, e < d → s.2.1 47 e = ilB (hsS v t nth (finS v t lk nth fz (vlS c wo Ws) (lN e))) (vP v) ∧ s.2.1 48 e = iI (lmS v t nth (finS v t lk nth fz (vlS c wo Ws) (lN e))) ∧ mInv v (finS v t lk nth fz (vlS c wo Ws) (lN e))) ∧ fr sTa M s.2) n ?_ ?_ ?_)
  · refine ⟨rfl, ?_, ?_, fun p hp => ?_, fun e he => by omega, f0⟩
    · show (sI (qI (qI M 41 4 (nI n)) 41 5 1) 46 _ _).1 41 4 = _
      rw [sI_off (by decide), qI_1, if_neg (by omega), qI_1, if_pos ⟨rfl, rfl⟩]
    · show (sI (qI (qI M 41 4 (nI n)) 41 5 1) 46 _ _).1 41 5 = _
      rw [sI_off (by decide), qI_1, if_pos ⟨rfl, rfl⟩]
      rfl
    · show (sI (qI (qI M 41 4 (nI n)) 41 5 1) 46 _ _).1 46 p = _
      rw [sI_at (show p < q_al 46 from by show p < 20; omega)]
      rfl
  · rintro d ⟨x, N⟩ hd ⟨e1, e2, e3, e4, e5, e6⟩
    have e1 : x = nI d := e1
    subst e1
    have e2 : N.1 41 4 = nI n := e2
    have e3 : N.1 41 5 = b2i (alB (fun d => aaS v (finS v t lk nth fz (vlS c wo Ws) (lN d))) d) := e3
    have e4 : ∀ p, p < vP v → N.1 46 p = sumF (fun d => iI (gnS v t nth (finS v t lk nth fz (vlS c wo Ws) (lN d)) p)) d := e4
    have e5 : ∀ e, e < d → N.1 47 e = ilB (hsS v t nth (finS v t lk nth fz (vlS c wo Ws) (lN e))) (vP v) ∧ N.1 48 e = iI (lmS v t nth (finS v t lk nth fz (vlS c wo Ws) (lN e))) ∧ mInv v (finS v t lk nth fz (vlS c wo Ws) (lN e)) := e5
    have e6 : fr sTa M N := e6
    refine wp_u2 ?_
    refine wp_in (by rw [e2]; exact nI_ge hd (by omega)) ?_
    rw [nI_l (by omega)]
    refine wp_bd ((begin_wp (lN d) hk (hSt N e6)).mono ?_)
    rintro N1 ⟨g1, g2⟩
    have f1 : fr sTa M N1 := e6.tr (g2.mono (fun b j h => by unfold sTa; exact Or.inr (Or.inl h)))
    refine wp_bd ((pass_wp (m := 61) hk (hSt N1 f1) g1 (hCt N1 f1) hf (begS_Z (lN d)) (by omega)).mono ?_)
    rintro ⟨r, N2⟩ ⟨_, k1, k2⟩
    have k1 : moD N2 42 v t nth (finS v t lk nth fz (vlS c wo Ws) (lN d)) := k1
    have k2 : fr (sMo 42) N1 N2 := k2
    have f2 : fr sTa M N2 := f1.tr (k2.mono (fun b j h => by unfold sTa; exact Or.inr (Or.inl h)))
    have fk : ∀ b j, ¬ sMo 42 b j → N2.1 b j = N.1 b j := fun b j h => by rw [(k2 b j h).1, (g2 b j h).1]
    refine wp_u2 ?_
    refine wp_bd ((note_wp (A := alB (fun d => aaS v (finS v t lk nth fz (vlS c wo Ws) (lN d))) d) (f := fun p => sumF (fun d => iI (gnS v t nth (finS v t lk nth fz (vlS c wo Ws) (lN d)) p)) d) (show d < 40 by omega) (hSt N2 f2) k1 (by rw [fk 41 5 (by unfold sMo; omega)]; exact e3) (fun p hp => by rw [fk 46 p (by unfold sMo; omega)]; exact e4 p hp)).mono ?_)
    rintro N3 ⟨j1, j2, j3, j4, j5⟩
    have j1 : N3.1 41 5 = b2i (alB (fun d => aaS v (finS v t lk nth fz (vlS c wo Ws) (lN d))) (d + 1)) := j1
    have j2 : ∀ p, p < vP v → N3.1 46 p = sumF (fun d => iI (gnS v t nth (finS v t lk nth fz (vlS c wo Ws) (lN d)) p)) (d + 1) := j2
    refine wp_some ⟨nI_1 d, ?_, j1, j2, fun e he => ?_, f2.tr (j5.mono (fun b j h => by unfold sTa; omega))⟩
    · show N3.1 41 4 = _
      rw [(j5 41 4 (by omega)).1, fk 41 4 (by unfold sMo; omega)]; exact e2
    · show N3.1 47 e = _ ∧ N3.1 48 e = _ ∧ _
      by_cases hed : e = d
      · rw [hed]; exact ⟨j3, j4, k1.2.2.2.2.2.2.2.2.2.2⟩
      · rw [(j5 47 e (by omega)).1, (j5 48 e (by omega)).1, fk 47 e (by unfold sMo; omega), fk 48 e (by unfold sMo; omega)]
        exact e5 e (by omega)
  · rintro ⟨x, N⟩ ⟨e1, e2, e3, e4, e5, e6⟩
    have e1 : x = nI n := e1
    subst e1
    have e2 : N.1 41 4 = nI n := e2
    refine wp_u2 ?_
    exact wp_ip (by rw [e2]; exact nI_le (Nat.le_refl _) (by omega)) (wp_some (wp_some ⟨⟨e2, e3, e4, e5⟩, hSt N e6, e6⟩))
/-! what is read off the tally -/
theorem ilB_bt {F : Nat → Bool} {n : Nat} (hn : n ≤ 31) : ∀ i, i < 32 → bt (ilB F n) i = (decide (i < n) && F i) := by
  induction n with
  | zero => intro i hi; simp [ilB, b_0]
  | succ n ih =>
    intro i hi
    have h1 := ih (by omega) i hi
    have hb1 : ∀ m, bt 1 m = decide (m = 0) := by
      intro m
      rcases Nat.lt_or_ge m 32 with h | h
      · exact (by decide +kernel : ∀ m, m < 32 → bt 1 m = decide (m = 0)) m h
      · rw [b_big h, decide_eq_false (by omega)]
    simp only [ilB]
    by_cases hF : F n = true
    · rw [if_pos hF, b_or, h1, b_shl n (by omega) 1 hi, hb1]
      by_cases hin : i = n
      · subst hin; simp [hF]
      · by_cases hlt : i < n
        · simp [hlt, show i < n + 1 by omega, show ¬ n ≤ i by omega]
        · simp [hlt, show ¬ i < n + 1 by omega, show ¬ i - n = 0 by omega]
    · rw [if_neg hF, h1]
      by_cases hin : i = n
      · subst hin
        have : F i = false := by simpa using hF
        simp [this]
      · by_cases hlt : i < n
        · simp [hlt, show i < n + 1 by omega]
        · simp [hlt, show ¬ i < n + 1 by omega]
theorem bits_eq {F : Nat → Bool} {n p q : Nat} (hn : n ≤ 20) (hp : p < n) (hq : q < n) : (ilB F n >>> (nI p &&& 31)) &&& (ilB F n >>> (nI q &&& 31)) &&& 1 = b2i (F p && F q) := by
  have hb1 : ∀ m, m < 32 → bt 1 m = decide (m = 0) := by decide +kernel
  have hbb : ∀ b : Bool, ∀ m, m < 32 → bt (b2i b) m = (b && decide (m = 0)) := by decide +kernel
  apply b_ext
  intro i hi
  rw [b_and, b_and, b_sshr p (by omega) _ hi, b_sshr q (by omega) _ hi, hb1 i hi, hbb _ i hi]
  by_cases h0 : i = 0
  · subst h0
    rw [if_pos (by omega), if_pos (by omega), ilB_bt (by omega) _ (by omega), ilB_bt (by omega) _ (by omega)]
    simp [hp, hq]
  · simp [h0]
theorem hadBoth_eq {M : qM} {n p q : Nat} {v : vT} {t nth : Nat} {F : Nat → mS} (hv : vOK v) (hn : n ≤ 40) (h : taR M n v t nth F) (hp : p < vP v) (hq : q < vP v) : jTa_hadByBoth (nI p) (nI q) M = some (sumF (fun d => b2i (hsS v t nth (F d) p && hsS v t nth (F d) q)) n) := by
  have h20 := hv.2.2.1
  unfold jTa_hadByBoth
  rw [qlp_for0 (s0 := ((0 : Int32), (0 : Int32))) (fun d => (sumF (fun d => b2i (hsS v t nth (F d) p && hsS v t nth (F d) q)) d, nI d)) _ n rfl (fun d hd => ?_) ?_]
  · rfl
  · simp only [qu2]
    rw [h.1, if_pos (nI_le (Nat.le_refl _) (by omega))]
  · simp only [qu2, qlt]
    rw [h.1, if_neg (nI_ge hd (by omega)), qrI_nI (show d < 40 by omega) (by omega), (h.2.2.2 d hd).1]
    simp only [Option.bind_some]
    rw [bits_eq h20 hp hq, nI_1]
    rfl
theorem lm_b {v : vT} {t nth : Nat} {σ : mS} (h : mInv v σ) (hv : vOK v) (h1 : 1 ≤ nth) (h2 : 1 ≤ vTi v t 1) : -1 ≤ lmS v t nth σ ∧ lmS v t nth σ ≤ 70 := by
  unfold lmS
  by_cases hl : nth + vTi v t 1 - 1 ≤ sCa σ
  · rw [if_pos hl]
    exact cin_b h hv (h.2.2.2.1 _ (by omega) hl).1
  · rw [if_neg hl]
    omega
theorem late_eq {M : qM} {n : Nat} {v : vT} {t nth : Nat} {F : Nat → mS} (hn : n ≤ 40) (hv : vOK v) (h1 : 1 ≤ nth) (h2 : 1 ≤ vTi v t 1) (h : taR M n v t nth F) : jTa_late M = some (sumF (fun d => ltT v t nth (F d)) n) := by
  unfold jTa_late
  rw [qlp_for0 (s0 := ((0 : Int32), (0 : Int32))) (fun d => (sumF (fun d => ltT v t nth (F d)) d, nI d)) _ n rfl (fun d hd => ?_) ?_]
  · rfl
  · simp only [qu2]
    rw [h.1, if_pos (nI_le (Nat.le_refl _) (by omega))]
  · have hd2 := lm_b (t := t) (nth := nth) (h.2.2.2 d hd).2.2 hv h1 h2
    simp only [qu2, qlt]
    rw [h.1, if_neg (nI_ge hd (by omega)), qrI_nI (show d < 40 by omega) (by omega), (h.2.2.2 d hd).2.1]
    simp only [Option.bind_some, show (-1 : Int32) = iI (-1) from rfl, iI_eq (show -2147483648 ≤ lmS v t nth (F d) by omega) (by omega) (show -2147483648 ≤ (-1 : Int) by omega) (by omega)]
    rw [nI_1]
    simp only [sumF, ltT]
    split <;> rfl
theorem endsIn_eq {M : qM} {n : Nat} {v : vT} {t nth : Nat} {F : Nat → mS} {a : Int32} (hn : n ≤ 40) (h : taR M n v t nth F) : jTa_endsIn a M = some (sumF (fun d => b2i (decide (iI (lmS v t nth (F d)) = a))) n) := by
  unfold jTa_endsIn
  rw [qlp_for0 (s0 := ((0 : Int32), (0 : Int32))) (fun d => (sumF (fun d => b2i (decide (iI (lmS v t nth (F d)) = a))) d, nI d)) _ n rfl (fun d hd => ?_) ?_]
  · rfl
  · simp only [qu2]
    rw [h.1, if_pos (nI_le (Nat.le_refl _) (by omega))]
  · simp only [qu2, qlt]
    rw [h.1, if_neg (nI_ge hd (by omega)), qrI_nI (show d < 40 by omega) (by omega), (h.2.2.2 d hd).2.1]
    simp only [Option.bind_some]
    rw [nI_1]
    simp only [sumF]
    by_cases hc : iI (lmS v t nth (F d)) = a
    · rw [if_pos hc, decide_eq_true hc]
    · rw [if_neg hc, decide_eq_false hc]
theorem gainsC_eq {M : qM} {kv n s : Nat} {v : vT} {t lk nth : Nat} {se sr : Int32} {F : Nat → mS} (hS : moS M 42 kv v t lk nth se sr) (h : taR M n v t nth F) (hs : s < 20) : jTa_gainsOf (nI s) M = some (sumF (fun p => if vof v p = s then sumF (fun d => iI (gnS v t nth (F d) p)) n else 0) (vP v)) := by
  have hv := hS.1.1
  have h20 := hv.2.2.1
  have hs6 := hv.2.1
  unfold jTa_gainsOf
  rw [qlp_for0 (s0 := ((0 : Int32), (0 : Int32))) (fun p => (sumF (fun p => if vof v p = s then sumF (fun d => iI (gnS v t nth (F d) p)) n else 0) p, nI p)) _ (vP v) rfl (fun p hp => ?_) ?_]
  · rfl
  · simp only [qu2]
    rw [hS.2.2.2.2.2.2.1]
    simp only [Option.bind_some]
    rw [hS.1.2.2.2.1, if_pos (nI_le (Nat.le_refl _) (by omega))]
  · have hvo := (vof_spec hp).1
    simp only [qu2, qlt]
    rw [hS.2.2.2.2.2.2.1]
    simp only [Option.bind_some]
    rw [hS.1.2.2.2.1, if_neg (nI_ge hp (by omega)), qrI_nI (show p < 20 by omega) (by omega), hS.1.2.2.2.2.2.2 p hp, qrI_nI (show p < 20 by omega) (by omega), h.2.2.1 p hp]
    simp only [Option.bind_some, nI_eq (show vof v p < 2 ^ 31 by omega) (show s < 2 ^ 31 by omega)]
    rw [nI_1]
    simp only [sumF]
    split <;> rfl
