/-! ===== one frame for all that is asked over seeds ===== -/
def fzS (v : vT) (q p : Nat) : Bool := decide (p = q ∨ vSi v (vof v p) 3 = 0)
def fzT (v : vT) (s p : Nat) : Bool := decide (vof v p = s ∨ vSi v (vof v p) 3 = 0)
theorem fzS_C {v : vT} (hv : vOK v) {q : Nat} (hq : q < vP v) : fzC v (fzS v q) (nI q) (-1) := by
  intro p hp
  have h20 := hv.2.2.1
  have hs6 := hv.2.1
  have hvo := (vof_spec hp).1
  unfold fzS
  rw [decide_eq_true_eq, nI_eq (by omega) (by omega)]
  exact ⟨fun h => h.elim Or.inl (fun e => Or.inr (Or.inr e)), fun h => h.elim Or.inl (fun e => e.elim (fun e => absurd e (nI_m1 (by omega))) Or.inr)⟩
theorem has_bit : ∀ q, q < 20 → ∀ p, p < 20 → jMd_has (1 <<< (nI q &&& 31)) (nI p) = decide (p = q) := by decide +kernel
theorem fzS_M {v : vT} (hv : vOK v) {q : Nat} (hq : q < vP v) : fzM v (fzS v q) (1 <<< (nI q &&& 31)) (-1) := by
  intro p hp
  have h20 := hv.2.2.1
  have hs6 := hv.2.1
  have hvo := (vof_spec hp).1
  unfold fzS
  rw [decide_eq_true_eq, has_bit q (by omega) p (by omega), decide_eq_true_eq]
  exact ⟨fun h => h.elim Or.inl (fun e => Or.inr (Or.inl e)), fun h => h.elim Or.inl (fun e => e.elim Or.inr (fun e => absurd e (nI_m1 (by omega))))⟩
theorem fzT_C {v : vT} (hv : vOK v) {s : Nat} (hs : s < vSn v) : fzC v (fzT v s) (-1) (nI s) := by
  intro p hp
  have h20 := hv.2.2.1
  have hs6 := hv.2.1
  have hvo := (vof_spec hp).1
  unfold fzT
  rw [decide_eq_true_eq, nI_eq (by omega) (by omega)]
  exact ⟨Or.inr, fun h => h.elim (fun e => absurd e (nI_m1 (by omega))) id⟩
theorem fzT_M {v : vT} (hv : vOK v) {s : Nat} (hs : s < vSn v) : fzM v (fzT v s) 0 (nI s) := by
  intro p hp
  have h20 := hv.2.2.1
  have hs6 := hv.2.1
  have hvo := (vof_spec hp).1
  unfold fzT
  rw [decide_eq_true_eq, has_0 p (by omega), nI_eq (by omega) (by omega)]
  exact ⟨fun h => h.elim (fun e => Or.inr (Or.inr e)) (fun e => Or.inr (Or.inl e)), fun h => h.elim (fun e => by cases e) (fun e => e.elim Or.inr Or.inl)⟩
/-- a state of the class while it tallies; of the reference -/
def cB (vs : Nat → vT) (m : Nat) (M N : qM) (i t lk : Nat) (σ : mS) (c : Nat) (wo : Nat → Nat) (Ws : Nat → wW) : Prop :=
  moR N 33 i (vs i) t lk σ ∧ mmR N i (vs i) t lk σ ∧ cuC N c wo Ws ∧ cuM N c wo Ws ∧ rKe m vs N ∧ fr sYC M N
theorem cB_up {vs : Nat → vT} {m : Nat} {M N N1 : qM} {i t lk : Nat} {σ : mS} {c : Nat} {wo : Nat → Nat} {Ws : Nat → wW} (h : cB vs m M N i t lk σ c wo Ws) (g : fr sYC N N1) : cB vs m M N1 i t lk σ c wo Ws :=
  ⟨moR_Y h.1 g, mmR_Y h.2.1 g, cu_Y h.2.2.1 g, cuM_C h.2.2.2.1 g, rKe_Y h.2.2.2.2.1 g, h.2.2.2.2.2.tr g⟩
noncomputable def FF (v : vT) (t lk nth : Nat) (fz : Nat → Bool) (c : Nat) (wo : Nat → Nat) (Ws : Nat → wW) (d : Nat) : mS := finS v t lk nth fz (vlS c wo Ws) (lN d)
/-- the trial set up, with a number of its own, and run -/
theorem trial_wp {vs : Nat → vT} {m : Nat} {M N : qM} {i t lk n : Nat} {σ : mS} {c : Nat} {wo : Nat → Nat} {Ws : Nat → wW} {j : Nat} {x : Int32} {lk' nth' : Nat} {se sr : Int32} {fz : Nat → Bool} (hj : j < 7) (h : cB vs m M N i t lk σ c wo Ws) (hn : n ≤ 40) (hset : ∀ N1, moS N1 42 (71 + 4 * i) (vs i) t lk (vTi (vs i) t 0) (-1) (-1) → moS (qI N1 42 j x) 42 (71 + 4 * i) (vs i) t lk' nth' se sr) (hf : fzC (vs i) fz se sr) :
    wp ((jTa_takeAfter 33 N).bind fun M1 => qlt (qI M1 42 j x) fun M2 => (jTa_run (nI n) M2).bind fun M3 => some M3) (fun N' => cB vs m M N' i t lk σ c wo Ws ∧ taR N' n (vs i) t nth' (FF (vs i) t lk' nth' fz c wo Ws) ∧ moS N' 42 (71 + 4 * i) (vs i) t lk' nth' se sr) := by
  refine wp_bd ((takeAfter_wp h.1).mono ?_)
  rintro N1 ⟨g1, g2⟩
  have f1 : fr sYC N N1 := g2.mono (fun b j h => by unfold sYC; omega)
  have f2 : fr sYC N (qI N1 42 j x) := f1.tr (fr_I (by unfold sYC; omega))
  have h2 := cB_up h f2
  refine wp_bd ((run_wp hn (hset N1 g1) h2.2.2.1 hf).mono ?_)
  rintro N2 ⟨k1, k2, k3⟩
  exact wp_some ⟨cB_up h2 (sTa_Y k3), k1, k2⟩
theorem qI_id {M : qM} {a i : Nat} {x : Int32} (h : M.1 a i = x) : qI M a i x = M := by
  unfold qI
  have : (fun b j => if b = a ∧ j = i then x else M.1 b j) = M.1 := by
    funext b j
    by_cases hb : b = a ∧ j = i
    · rw [if_pos hb, hb.1, hb.2, h]
    · rw [if_neg hb]
  rw [this]
theorem plain_wp {vs : Nat → vT} {m : Nat} {M N : qM} {i t lk n : Nat} {σ : mS} {c : Nat} {wo : Nat → Nat} {Ws : Nat → wW} (h : cB vs m M N i t lk σ c wo Ws) (hn : n ≤ 40) :
    wp (jTc_runPlain (nI n) N) (fun N' => cB vs m M N' i t lk σ c wo Ws ∧ taR N' n (vs i) t (vTi (vs i) t 0) (FF (vs i) t lk (vTi (vs i) t 0) (fz0 (vs i)) c wo Ws) ∧ moS N' 42 (71 + 4 * i) (vs i) t lk (vTi (vs i) t 0) (-1) (-1)) := by
  unfold jTc_runPlain
  refine wp_bd ((takeAfter_wp h.1).mono ?_)
  rintro N1 ⟨g1, g2⟩
  have h2 := cB_up h (g2.mono (fun b j h => by unfold sYC; omega))
  refine wp_bd ((run_wp hn g1 h2.2.2.1 (fz0_C _ h.1.1.1.1)).mono ?_)
  rintro N2 ⟨k1, k2, k3⟩
  exact wp_some ⟨cB_up h2 (sTa_Y k3), k1, k2⟩
theorem set_moS {N : qM} {kv : Nat} {v : vT} {t lk nth j : Nat} {se sr x : Int32} (h : moS N 42 kv v t lk nth se sr) : (j = 5 → moS (qI N 42 5 x) 42 kv v t lk nth x sr) ∧ (j = 6 → moS (qI N 42 6 x) 42 kv v t lk nth se x) ∧ (∀ nth', (1 ≤ nth' ∧ nth' ≤ 9) → moS (qI N 42 3 (nI nth')) 42 kv v t lk nth' se sr) ∧ (∀ lk', lk' < 2 → moS (qI N 42 2 (nI lk')) 42 kv v t lk' nth se sr) := by
  obtain ⟨a1, a2, a3, a4, a5, a6, a7, a8, a9, b1, b2, b3, b4⟩ := h
  have hV : ∀ (j : Nat) (x : Int32), rVC (qI N 42 j x) kv v := fun j x => rVC_fr a1 (fr_I (S := fun b _ => b = 42) rfl) (fun b j _ _ => by omega)
  refine ⟨fun _ => ?_, fun _ => ?_, fun nth' hn => ?_, fun lk' hl => ?_⟩
  · exact ⟨hV _ _, a2, a3, a4, a5, a6, a7, by simp [qI_1, a8], by simp [qI_1, a9], by simp [qI_1, b1], by simp [qI_1, b2], by simp [qI_1], by simp [qI_1, b4]⟩
  · exact ⟨hV _ _, a2, a3, a4, a5, a6, a7, by simp [qI_1, a8], by simp [qI_1, a9], by simp [qI_1, b1], by simp [qI_1, b2], by simp [qI_1, b3], by simp [qI_1]⟩
  · exact ⟨hV _ _, a2, a3, a4, hn, a6, a7, by simp [qI_1, a8], by simp [qI_1, a9], by simp [qI_1], by simp [qI_1, b2], by simp [qI_1, b3], by simp [qI_1, b4]⟩
  · exact ⟨hV _ _, a2, a3, a4, a5, hl, a7, by simp [qI_1, a8], by simp [qI_1], by simp [qI_1, b1], by simp [qI_1, b2], by simp [qI_1, b3], by simp [qI_1, b4]⟩
theorem sent_wp {vs : Nat → vT} {m : Nat} {M N : qM} {i t lk n q : Nat} {σ : mS} {c : Nat} {wo : Nat → Nat} {Ws : Nat → wW} (h : cB vs m M N i t lk σ c wo Ws) (hn : n ≤ 40) (hq : q < vP (vs i)) :
    wp (jTc_runSent (nI q) (nI n) N) (fun N' => cB vs m M N' i t lk σ c wo Ws ∧ taR N' n (vs i) t (vTi (vs i) t 0) (FF (vs i) t lk (vTi (vs i) t 0) (fzS (vs i) q) c wo Ws)) :=
  (trial_wp (j := 5) (x := nI q) (by omega) h hn (fun N1 h1 => (set_moS (j := 5) h1).1 rfl) (fzS_C h.1.1.1.1 hq)).mono (fun N' h' => ⟨h'.1, h'.2.1⟩)
theorem lateBy_wp {vs : Nat → vT} {m : Nat} {M N : qM} {i t lk n k : Nat} {σ : mS} {c : Nat} {wo : Nat → Nat} {Ws : Nat → wW} (h : cB vs m M N i t lk σ c wo Ws) (hn : n ≤ 40) (hk : 1 ≤ k ∧ k ≤ 9) :
    wp (jTc_lateBy (nI k) (nI n) N) (fun r => r.1 = sumF (fun d => ltT (vs i) t k (FF (vs i) t lk k (fz0 (vs i)) c wo Ws d)) n ∧ cB vs m M r.2 i t lk σ c wo Ws ∧ taR r.2 n (vs i) t k (FF (vs i) t lk k (fz0 (vs i)) c wo Ws)) := by
  have hv := h.1.1.1.1
  have hpl := (hv.2.2.2.1 t h.1.1.2.2.2.1).2.1
  have h1 := trial_wp (j := 3) (x := nI k) (by omega) h hn (fun N1 h1 => (set_moS (j := 3) (x := 0) h1).2.2.1 k hk) (fz0_C _ hv)
  obtain ⟨N', e, k1, k2, k3⟩ := h1
  unfold jTc_lateBy
  obtain ⟨A, eA, eB⟩ := st_bd e
  refine wp_be eA ?_
  have eB : (jTa_run (nI n) (qI A 42 3 (nI k))).bind (fun M3 => some M3) = some N' := eB
  obtain ⟨B, eC, eD⟩ := st_bd eB
  have eD : B = N' := Option.some.inj eD
  subst eD
  refine wp_be eC ?_
  exact wp_be (late_eq hn hv hk.1 hpl.1 k2) (wp_some ⟨rfl, k1, k2⟩)
theorem lateLook_wp {vs : Nat → vT} {m : Nat} {M N : qM} {i t lk n l : Nat} {σ : mS} {c : Nat} {wo : Nat → Nat} {Ws : Nat → wW} (h : cB vs m M N i t lk σ c wo Ws) (hn : n ≤ 40) (hl : l < 2) :
    wp (jTc_lateLooking (nI l) (nI n) N) (fun r => r.1 = sumF (fun d => ltT (vs i) t (vTi (vs i) t 0) (FF (vs i) t l (vTi (vs i) t 0) (fz0 (vs i)) c wo Ws d)) n ∧ cB vs m M r.2 i t lk σ c wo Ws) := by
  have hv := h.1.1.1.1
  have hT := hv.2.2.2.1 t h.1.1.2.2.2.1
  have h1 := trial_wp (j := 2) (x := nI l) (by omega) h hn (fun N1 h1 => (set_moS (j := 2) (x := 0) h1).2.2.2 l hl) (fz0_C _ hv)
  obtain ⟨N', e, k1, k2, k3⟩ := h1
  unfold jTc_lateLooking
  obtain ⟨A, eA, eB⟩ := st_bd e
  refine wp_be eA ?_
  have eB : (jTa_run (nI n) (qI A 42 2 (nI l))).bind (fun M3 => some M3) = some N' := eB
  obtain ⟨B, eC, eD⟩ := st_bd eB
  have eD : B = N' := Option.some.inj eD
  subst eD
  refine wp_be eC ?_
  exact wp_be (late_eq hn hv hT.1.1 hT.2.1.1 k2) (wp_some ⟨rfl, k1⟩)
/-! the reference's side -/
def mB (vs : Nat → vT) (M N : qM) (i t lk : Nat) (σ : mS) (c : Nat) (wo : Nat → Nat) (Ws : Nat → wW) (lk' nth : Nat) (fo st : Int32) : Prop :=
  mmS N i (vs i) t lk' nth fo st ∧ kpM N (vs i) σ ∧ N.1 91 33 = 1 ∧ cuM N c wo Ws ∧ fr sYM M N
theorem mPut {vs : Nat → vT} {M : qM} {i t lk : Nat} {σ : mS} {c : Nat} {wo : Nat → Nat} {Ws : Nat → wW} (h : mmR M i (vs i) t lk σ) (hcu : cuM M c wo Ws) : wp (jMd_putAside M) (fun N => mB vs M N i t lk σ c wo Ws lk (vTi (vs i) t 0) 0 (-1)) :=
  (putAside_wp h.2.1).mono (fun N g => ⟨mmS_off h.1 g.2 (fun b j _ _ => by unfold sPu; omega) (fun j _ _ => by unfold sPu; omega), g.1, by rw [(g.2 91 33 (by simp [sPu])).1]; exact h.2.2, cuM_Y hcu (sPu_Y g.2), sPu_Y g.2⟩)
theorem mB_mm {vs : Nat → vT} {M N N1 : qM} {i t lk : Nat} {σ : mS} {c : Nat} {wo : Nat → Nat} {Ws : Nat → wW} {lk' nth : Nat} {fo st : Int32} (h : mB vs M N i t lk σ c wo Ws lk' nth fo st) (g : fr sMm N N1) : mB vs M N1 i t lk σ c wo Ws lk' nth fo st :=
  ⟨mmS_fr h.1 g, kpM_off h.2.1 g (fun j => by unfold sMm; omega) (fun j _ _ => by unfold sMm; omega), by rw [(g 91 33 (by simp [sMm])).1]; exact h.2.2.1, sMm_cu h.2.2.2.1 g, h.2.2.2.2.tr (sMm_Y g)⟩
theorem mB_over {vs : Nat → vT} {M N : qM} {i t lk n w p : Nat} {σ : mS} {c : Nat} {wo : Nat → Nat} {Ws : Nat → wW} {lk' nth : Nat} {fo st a : Int32} {fz : Nat → Bool} (h : mB vs M N i t lk σ c wo Ws lk' nth fo st) (hn : n ≤ 40) (hw : w < 4) (ha : w < 2 → a = nI p ∧ p < vP (vs i)) (hf : fzM (vs i) fz fo st) :
    wp (jMd_over (nI n) a (nI w) N) (fun r => r.1 = sumF (fun d => trm (vs i) t nth w p (FF (vs i) t lk' nth fz c wo Ws d)) n ∧ mB vs M r.2 i t lk σ c wo Ws lk' nth fo st) :=
  (over_wp hn hw ha h.1 h.2.2.2.1 hf).mono (fun r g => ⟨g.1, mB_mm h g.2⟩)
theorem mB_set {vs : Nat → vT} {M N : qM} {i t lk : Nat} {σ : mS} {c : Nat} {wo : Nat → Nat} {Ws : Nat → wW} {lk' nth : Nat} {fo st : Int32} (h : mB vs M N i t lk σ c wo Ws lk' nth fo st) : (∀ x, mB vs M (qI N 91 36 x) i t lk σ c wo Ws lk' nth x st) ∧ (∀ x, mB vs M (qI N 91 37 x) i t lk σ c wo Ws lk' nth fo x) ∧ (∀ k, (1 ≤ k ∧ k ≤ 9) → mB vs M (qI N 91 32 (nI k)) i t lk σ c wo Ws lk' k fo st) ∧ (∀ l, l < 2 → mB vs M (qI N 91 29 (nI l)) i t lk σ c wo Ws l nth fo st) := by
  obtain ⟨⟨a1, a2, a3, a4, a5, a6, a7, a8, a9, b1, b2⟩, k, h33, hc, g⟩ := h
  have hV : ∀ (j : Nat) (x : Int32), rVM (qI N 91 j x) i (vs i) := fun j x => rVM_fr a1 (fr_I (S := fun b _ => b = 91) rfl) (fun b j _ _ => by omega)
  have hK : ∀ (j : Nat) (x : Int32), j = 29 ∨ j = 32 ∨ j = 36 ∨ j = 37 → kpM (qI N 91 j x) (vs i) σ := fun j x hj => kpM_off k (fr_I (S := fun b j' => b = 91 ∧ j' = j) ⟨rfl, rfl⟩) (fun j' => by omega) (fun j' _ _ => by omega)
  have hC : ∀ (j : Nat) (x : Int32), j = 29 ∨ j = 32 ∨ j = 36 ∨ j = 37 → cuM (qI N 91 j x) c wo Ws := fun j x hj => cuM_fr hc (fr_I (S := fun b j' => b = 91 ∧ j' = j) ⟨rfl, rfl⟩) (fun b j' hb => by omega)
  have hG : ∀ (j : Nat) (x : Int32), j = 29 ∨ j = 32 ∨ j = 36 ∨ j = 37 → fr sYM M (qI N 91 j x) := fun j x hj => g.tr (fr_I (by unfold sYM; omega))
  refine ⟨fun x => ?_, fun x => ?_, fun kk hkk => ?_, fun l hl => ?_⟩
  · exact ⟨⟨hV _ _, a2, a3, a4, a5, by simp [qI_1, a6], by simp [qI_1, a7], by simp [qI_1, a8], by simp [qI_1, a9], by simp [qI_1], by simp [qI_1, b2]⟩, hK _ _ (by omega), by simp [qI_1, h33], hC _ _ (by omega), hG _ _ (by omega)⟩
  · exact ⟨⟨hV _ _, a2, a3, a4, a5, by simp [qI_1, a6], by simp [qI_1, a7], by simp [qI_1, a8], by simp [qI_1, a9], by simp [qI_1, b1], by simp [qI_1]⟩, hK _ _ (by omega), by simp [qI_1, h33], hC _ _ (by omega), hG _ _ (by omega)⟩
  · exact ⟨⟨hV _ _, a2, a3, hkk, a5, by simp [qI_1, a6], by simp [qI_1, a7], by simp [qI_1, a8], by simp [qI_1], by simp [qI_1, b1], by simp [qI_1, b2]⟩, hK _ _ (by omega), by simp [qI_1, h33], hC _ _ (by omega), hG _ _ (by omega)⟩
  · exact ⟨⟨hV _ _, a2, a3, a4, hl, by simp [qI_1, a6], by simp [qI_1, a7], by simp [qI_1], by simp [qI_1, a9], by simp [qI_1, b1], by simp [qI_1, b2]⟩, hK _ _ (by omega), by simp [qI_1, h33], hC _ _ (by omega), hG _ _ (by omega)⟩
theorem mFin {vs : Nat → vT} {M N : qM} {i t lk : Nat} {σ : mS} {c : Nat} {wo : Nat → Nat} {Ws : Nat → wW} {nth : Nat} {fo st x : Int32} (h : mB vs M N i t lk σ c wo Ws lk nth fo st) : wp ((jMd_takeBack N).bind fun M6 => some (x, M6)) (fun r => r.1 = x ∧ mmR r.2 i (vs i) t lk σ ∧ fr sYM M r.2) := by
  refine wp_bd ((takeBack_wp h.1 h.2.1).mono ?_)
  rintro N1 ⟨g1, g2, g3⟩
  exact wp_some ⟨rfl, ⟨g1, g2, by rw [(g3 91 33 (by simp [sTB])).1]; exact h.2.2.1⟩, h.2.2.2.2.tr (sTB_Y g3)⟩
theorem tal_mk {vs : Nat → vT} {m : Nat} {M : qM} {i t lk : Nat} {σ : mS} {c : Nat} {wo : Nat → Nat} {Ws : Nat → wW} {f g : qM → Option (Int32 × qM)} (x : Int32) (hi : i < m) (hi5 : i < 5) (hC : wp (f M) (fun r => r.1 = x ∧ cB vs m M r.2 i t lk σ c wo Ws)) (hM : ∀ M1, cB vs m M M1 i t lk σ c wo Ws → wp (g M1) (fun r => r.1 = x ∧ mmR r.2 i (vs i) t lk σ ∧ fr sYM M1 r.2)) : bth (rMK m vs) sYC sYM f g M := by
  refine bth_mk (P := fun M1 => cB vs m M M1 i t lk σ c wo Ws) x (hC.mono (fun r h => ⟨h.1, h.2, h.2.2.2.2.2.2⟩)) ?_
  intro M1 h1 _
  exact (hM M1 h1).mono (fun r h => ⟨h.1, ⟨Or.inr ⟨i, t, lk, σ, hi, hi5, moR_YM h1.1 h.2.2, h.2.1⟩, rKe_YM h1.2.2.2.2.1 h.2.2⟩, h.2.2⟩)
theorem isSoC_N {M : qM} (h : M.2.2 33 0 = none) (a : Int32) : jTc_isSortOfMorning a M = some false := by
  unfold jTc_isSortOfMorning
  rw [mbeg_f h]
  rfl
theorem isSoM_N {M : qM} (h : M.1 91 33 = 0) (a : Int32) : jMd_isSort a M = some false := by
  unfold jMd_isSort
  rw [if_pos h]
  rfl
theorem isSoC_eq {M : qM} {i : Nat} {v : vT} {t lk : Nat} {σ : mS} (h : moR M 33 i v t lk σ) (a : Int32) : jTc_isSortOfMorning a M = some (jTc_isOf a (nI (vSn v))) := by
  unfold jTc_isSortOfMorning
  rw [mbeg_t h.1.2.2.2.2.2.2.1, h.1.2.2.2.2.2.2.1, if_neg (by decide)]
  simp only [Option.bind_some, h.1.1.2.2.1, b2i_0]
  cases jTc_isOf a (nI (vSn v)) <;> rfl
theorem isSoM_eq {M : qM} {i : Nat} {v : vT} {t lk : Nat} {σ : mS} (h : mmR M i v t lk σ) (a : Int32) : jMd_isSort a M = some (jTc_isOf a (nI (vSn v))) := by
  have hs6 := h.1.1.1.2.1
  unfold jMd_isSort
  rw [h.2.2, if_neg (by decide), h.1.2.2.2.2.2.1, qrI_nI h.1.2.1 (by omega), h.1.1.2.2.1]
  simp only [Option.bind_some, b2i_0, ← isOf_Z a (show vSn v < 1000000 by omega)]
  cases jTc_isOf a (nI (vSn v)) <;> rfl
theorem isPair_t {M : qM} {i p q : Nat} {v : vT} {t lk : Nat} {σ : mS} (h : moR M 33 i v t lk σ) (hp : p < vP v) (hq : q < vP v) (hpq : ¬ nI p = nI q) : jTc_isPair (nI p) (nI q) M = some true := by
  have h20 := h.1.1.1.2.2.1
  unfold jTc_isPair
  rw [isPerC_eq h, isPerC_eq h, isOf_mk hp (by omega), isOf_mk hq (by omega)]
  simp only [Option.bind_some]
  rw [if_neg (by decide), if_neg (by decide), if_neg hpq]
  rfl
