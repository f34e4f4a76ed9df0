/-! ===== promise 41: better ===== -/
def upN (f : Nat → Nat) (s w : Nat) : Nat → Nat := fun o => if o = s then w else f o
theorem upN_up (f : Nat → Nat) (s x y : Nat) : upN (upN f s x) s y = upN f s y := by
  funext o
  unfold upN
  by_cases h : o = s <;> simp [h]
theorem upN_id (f : Nat → Nat) (s : Nat) : upN f s (f s) = f := by
  funext o
  unfold upN
  by_cases h : o = s <;> simp [h]
noncomputable def GG (v : vT) (t lk nth : Nat) (fz : Nat → Bool) (c : Nat) (Ws : Nat → wW) (n s : Nat) (wo : Nat → Nat) : Int32 :=
  sumF (fun d => sumF (fun p => if vof v p = s then iI (gnS v t nth (FF v t lk nth fz c wo Ws d) p) else 0) (vP v)) n
def bwF (f : Nat → Int32) : Nat → Nat × Int32
  | 0 => (0, f 0)
  | j + 1 => if f (j + 1) ≤ (bwF f j).2 then bwF f j else (j + 1, f (j + 1))
theorem bwF_b (f : Nat → Int32) (j : Nat) : (bwF f j).1 ≤ j := by
  induction j with
  | zero => exact Nat.le_refl _
  | succ j ih =>
    simp only [bwF]
    split
    · omega
    · exact Nat.le_refl _
theorem cuC_set {M : qM} {c : Nat} {wo : Nat → Nat} {Ws : Nat → wW} {s w : Nat} (h : cuC M c wo Ws) (hw : w < 6) : cuC (qI M 8 s (nI w)) c (upN wo s w) Ws := by
  obtain ⟨a1, a2, a3, a4⟩ := h
  have g : fr (fun b j => b = 8) M (qI M 8 s (nI w)) := fr_I rfl
  refine ⟨by rw [(g 6 1 (by decide)).1]; exact a1, a2, fun s' hs' => ?_, fun i hi => rWC_fr (a4 i hi) g (fun b j _ _ => by omega)⟩
  rw [qI_1]
  unfold upN
  by_cases hss : s' = s
  · rw [if_pos ⟨rfl, hss⟩, if_pos hss]; exact ⟨rfl, hw⟩
  · rw [if_neg (fun e => hss e.2), if_neg hss]; exact a3 s' hs'
theorem cuM_set {M : qM} {c : Nat} {wo : Nat → Nat} {Ws : Nat → wW} {s w : Nat} (h : cuM M c wo Ws) (hw : w < 6) : cuM (qI M 107 s (nI w)) c (upN wo s w) Ws := by
  obtain ⟨a1, a2, a3, a4⟩ := h
  have g : fr (fun b j => b = 107) M (qI M 107 s (nI w)) := fr_I rfl
  refine ⟨by rw [(g 91 13 (by decide)).1]; exact a1, a2, fun s' hs' => ?_, fun i hi => rWM_fr (a4 i hi) g (fun b j _ _ => by omega)⟩
  rw [qI_1]
  unfold upN
  by_cases hss : s' = s
  · rw [if_pos ⟨rfl, hss⟩, if_pos hss]; exact ⟨rfl, hw⟩
  · rw [if_neg (fun e => hss e.2), if_neg hss]; exact a3 s' hs'
def sBW (b j : Nat) : Prop := sTa b j ∨ b = 41 ∧ (j = 6 ∨ j = 7) ∨ b = 8
theorem moS_BW {M M1 : qM} {kv : Nat} {v : vT} {t lk nth : Nat} {se sr : Int32} (h : moS M 42 kv v t lk nth se sr) (g : fr sBW M M1) : moS M1 42 kv v t lk nth se sr := by
  obtain ⟨a1, a2, a3, a4, a5, a6, a7, a8, a9, b1, b2, b3, b4⟩ := h
  have hj : ∀ j, j < 7 → ¬ sBW 42 j := fun j hj => by unfold sBW sTa sMo; omega
  exact ⟨rVC_fr a1 g (fun b j h1 h2 => by unfold sBW sTa sMo; omega), a2, a3, a4, a5, a6, by rw [(g 42 0 (hj 0 (by omega))).2.2]; exact a7, by rw [(g 42 1 (hj 1 (by omega))).1]; exact a8, by rw [(g 42 2 (hj 2 (by omega))).1]; exact a9, by rw [(g 42 3 (hj 3 (by omega))).1]; exact b1, by rw [(g 42 4 (hj 4 (by omega))).1]; exact b2, by rw [(g 42 5 (hj 5 (by omega))).1]; exact b3, by rw [(g 42 6 (hj 6 (by omega))).1]; exact b4⟩
theorem runG_wp {M : qM} {kv n s : Nat} {v : vT} {t lk nth : Nat} {se sr : Int32} {fz : Nat → Bool} {c : Nat} {wo : Nat → Nat} {Ws : Nat → wW} (hn : n ≤ 40) (hs : s < 20) (hS : moS M 42 kv v t lk nth se sr) (hcu : cuC M c wo Ws) (hf : fzC v fz se sr) :
    wp (jTa_run (nI n) M) (fun M' => jTa_gainsOf (nI s) M' = some (GG v t lk nth fz c Ws n s wo) ∧ moS M' 42 kv v t lk nth se sr ∧ cuC M' c wo Ws ∧ fr sTa M M') := by
  refine (run_wp hn hS hcu hf).mono ?_
  rintro M1 ⟨k1, k2, k3⟩
  refine ⟨?_, k2, cuC_fr hcu k3 (fun b j hb => by unfold sTa sMo; omega), k3⟩
  have k1 : taR M1 n v t nth (FF v t lk nth fz c wo Ws) := k1
  rw [gainsC_eq k2 k1 hs]
  exact congrArg some (sumF_ex (fun p => vof v p = s) (fun p d => iI (gnS v t nth (FF v t lk nth fz c wo Ws d) p)) n (vP v))
theorem bestWay_wp {M : qM} {kv n s : Nat} {v : vT} {t lk nth : Nat} {se sr : Int32} {fz : Nat → Bool} {c : Nat} {wo : Nat → Nat} {Ws : Nat → wW} (hn : n ≤ 40) (hs : s < 6) (hc : 1 ≤ c) (hS : moS M 42 kv v t lk nth se sr) (hcu : cuC M c wo Ws) (hf : fzC v fz se sr) :
    wp (jTa_bestWay (nI s) (nI n) M) (fun r => r.1 = nI (bwF (fun w => GG v t lk nth fz c Ws n s (upN wo s w)) (c - 1)).1 ∧ r.2.1 41 6 = (bwF (fun w => GG v t lk nth fz c Ws n s (upN wo s w)) (c - 1)).2 ∧ r.2.1 41 7 = GG v t lk nth fz c Ws n s wo ∧ moS r.2 42 kv v t lk nth se sr ∧ cuC r.2 c wo Ws ∧ fr sBW M r.2) := by
  have hc6 := hcu.2.1
  have hwo := hcu.2.2.1 s hs
  have hrun : ∀ (N : qM) (wo' : Nat → Nat), moS N 42 kv v t lk nth se sr → cuC N c wo' Ws → wp (jTa_run (nI n) N) (fun M' => jTa_gainsOf (nI s) M' = some (GG v t lk nth fz c Ws n s wo') ∧ moS M' 42 kv v t lk nth se sr ∧ cuC M' c wo' Ws ∧ fr sTa N M') := fun N wo' h1 h2 => runG_wp hn (by omega) h1 h2 hf
  have hGown : GG v t lk nth fz c Ws n s (upN wo s (wo s)) = GG v t lk nth fz c Ws n s wo := by rw [upN_id]
  generalize GG v t lk nth fz c Ws n s = G at *
  unfold jTa_bestWay
  have q1 : qrI M 8 6 (nI s) = some (nI (wo s)) := by rw [qrI_nI hs (by omega), hwo.1]
  refine wp_be q1 ?_
  refine wp_bd ((hrun M wo hS hcu).mono ?_)
  rintro M2 ⟨r1, r2, r3, r4⟩
  refine wp_be r1 ?_
  refine wp_lt ?_
  rintro _ rfl
  have f4 : fr sBW M (qI M2 41 7 (G wo)) := fr.tr (S := sBW) (r4.mono (fun b j h => Or.inl h)) (fr_I (Or.inr (Or.inl ⟨rfl, Or.inr rfl⟩)))
  have c4 : cuC (qI M2 41 7 (G wo)) c wo Ws := cuC_fr r3 (fr_I (S := fun b j => b = 41) rfl) (fun b j hb => by omega)
  have e47 : (qI M2 41 7 (G wo)).1 41 7 = G wo := by rw [qI_1, if_pos ⟨rfl, rfl⟩]
  refine wp_bd (wp_for (fun w x => (w = 0 → x.1 = -1) ∧ (∀ w', w = w' + 1 → x.1 = nI (bwF (fun w => G (upN wo s w)) w').1 ∧ x.2.2.1 41 6 = (bwF (fun w => G (upN wo s w)) w').2) ∧ x.2.1 = nI w ∧ x.2.2.1 41 7 = G wo ∧ (∃ w0, w0 < 6 ∧ cuC x.2.2 c (upN wo s w0) Ws) ∧ fr sBW M x.2.2) c ⟨fun _ => rfl, fun w' h => by omega, rfl, e47, ⟨wo s, hwo.2, by rw [upN_id]; exact c4⟩, f4⟩ ?_ ?_)
  · rintro w ⟨x, y, N⟩ hw ⟨a1, a2, a3, a4, ⟨w0, hw0, a5⟩, a6⟩
    have a1 : w = 0 → x = -1 := a1
    have a2 : ∀ w', w = w' + 1 → x = nI (bwF (fun w => G (upN wo s w)) w').1 ∧ N.1 41 6 = (bwF (fun w => G (upN wo s w)) w').2 := a2
    have a3 : y = nI w := a3
    subst a3
    have a4 : N.1 41 7 = G wo := a4
    have a5 : cuC N c (upN wo s w0) Ws := a5
    have a6 : fr sBW M N := a6
    show wp (qu3 _ _) _
    unfold qu3
    refine wp_in (by rw [a5.1]; exact nI_ge hw (by omega)) ?_
    refine wp_bd (wp_wI rfl hs (by omega) ?_)
    have c8 : cuC (qI N 8 s (nI w)) c (upN wo s w) Ws := by
      have := cuC_set (s := s) (w := w) a5 (by omega)
      rwa [upN_up] at this
    have f8 : fr sBW M (qI N 8 s (nI w)) := a6.tr (fr_I (by unfold sBW; omega))
    have s8 := moS_BW hS f8
    have o6 : (qI N 8 s (nI w)).1 41 6 = N.1 41 6 ∧ (qI N 8 s (nI w)).1 41 7 = N.1 41 7 := ⟨by rw [qI_1, if_neg (by omega)], by rw [qI_1, if_neg (by omega)]⟩
    generalize qI N 8 s (nI w) = N1 at *
    have main : wp (if nI w = nI (wo s) then some N1 else (jTa_run (nI n) N1).bind fun M20 => some M20) (fun N2 => cuC N2 c (upN wo s w) Ws ∧ fr sBW M N2 ∧ N2.1 41 6 = N.1 41 6 ∧ N2.1 41 7 = G wo ∧ (¬ w = wo s → jTa_gainsOf (nI s) N2 = some (G (upN wo s w)))) := by
      refine wp_if (fun h => ?_) (fun h => ?_) <;> rw [nI_eq (by omega) (by omega)] at h
      · exact wp_some ⟨c8, f8, o6.1, by rw [o6.2]; exact a4, fun e => absurd h e⟩
      · refine wp_bd ((hrun N1 _ s8 c8).mono ?_)
        rintro N2 ⟨k1, k2, k3, k4⟩
        exact wp_some ⟨k3, f8.tr (k4.mono (fun b j h => Or.inl h)), by rw [(k4 41 6 (by unfold sTa sMo; omega)).1]; exact o6.1, by rw [(k4 41 7 (by unfold sTa sMo; omega)).1, o6.2]; exact a4, fun _ => k1⟩
    refine wp_bd (main.mono ?_)
    rintro N2 ⟨k1, k2, k3, k4, k5⟩
    have hx14 : wp (if nI w = nI (wo s) then some (N2.1 41 7) else (jTa_gainsOf (nI s) N2).bind fun r19 => some r19) (fun r => r = G (upN wo s w)) := by
      refine wp_if (fun h => ?_) (fun h => ?_) <;> rw [nI_eq (by omega) (by omega)] at h
      · refine wp_some ?_
        rw [k4, h, hGown]
      · exact wp_be (k5 h) (wp_some rfl)
    refine wp_bd (hx14.mono ?_)
    intro g hg
    refine wp_lt ?_
    intro z hz
    have key : (z = true ∧ bwF (fun w => G (upN wo s w)) w = (w, g)) ∨ (z = false ∧ ∃ w', w = w' + 1 ∧ bwF (fun w => G (upN wo s w)) w = bwF (fun w => G (upN wo s w)) w') := by
      cases w with
      | zero =>
        left
        rw [hz, a1 rfl]
        refine ⟨rfl, ?_⟩
        rw [hg]
        rfl
      | succ w' =>
        have hb := bwF_b (fun w => G (upN wo s w)) w'
        obtain ⟨p1, p2⟩ := a2 w' rfl
        rw [hz, p1, if_neg (nI_m1 (by omega)), k3, p2]
        simp only [bwF]
        rw [← hg]
        by_cases hle : g ≤ (bwF (fun w => G (upN wo s w)) w').2
        · right
          rw [if_pos hle, if_pos hle]
          exact ⟨rfl, w', rfl, rfl⟩
        · left
          rw [if_neg hle, if_neg hle]
          exact ⟨rfl, rfl⟩
    rcases key with ⟨rfl, hb⟩ | ⟨rfl, w', hw', hb⟩
    · refine wp_ip rfl ?_
      refine wp_some ⟨fun h => by omega, fun w' h => ?_, nI_1 w, ?_, ⟨w, by omega, cuC_fr k1 (fr_I (S := fun b j => b = 41) rfl) (fun b j hb => by omega)⟩, k2.tr (fr_I (by unfold sBW; omega))⟩
      · rw [show w' = w by omega, hb]
        exact ⟨rfl, by show (qI N2 41 6 g).1 41 6 = _; rw [qI_1, if_pos ⟨rfl, rfl⟩]⟩
      · show (qI N2 41 6 g).1 41 7 = _
        rw [qI_1, if_neg (by omega)]; exact k4
    · refine wp_in (by decide) ?_
      refine wp_some ⟨fun h => by omega, fun w'' h => ?_, nI_1 w, k4, ⟨w, by omega, k1⟩, k2⟩
      rw [show w'' = w by omega, hb]
      obtain ⟨p1, p2⟩ := a2 w' hw'
      exact ⟨p1, by show N2.1 41 6 = _; rw [k3]; exact p2⟩
  · rintro ⟨x, y, N⟩ ⟨a1, a2, a3, a4, ⟨w0, hw0, a5⟩, a6⟩
    obtain ⟨p1, p2⟩ := a2 (c - 1) (by omega)
    have a3 : y = nI c := a3
    subst a3
    have a5 : cuC N c (upN wo s w0) Ws := a5
    have a6 : fr sBW M N := a6
    show wp (qu3 _ _) _
    unfold qu3
    refine wp_ip (by rw [a5.1]; exact nI_le (Nat.le_refl _) (by omega)) (wp_some ?_)
    refine wp_u2 ?_
    refine wp_bd (wp_wI rfl hs (by omega) ?_)
    have c8 : cuC (qI N 8 s (nI (wo s))) c wo Ws := by
      have := cuC_set (s := s) (w := wo s) a5 hwo.2
      rwa [upN_up, upN_id] at this
    have f8 : fr sBW M (qI N 8 s (nI (wo s))) := a6.tr (fr_I (by unfold sBW; omega))
    refine wp_some ⟨p1, ?_, ?_, moS_BW hS f8, c8, f8⟩
    · show (qI N 8 s (nI (wo s))).1 41 6 = _
      rw [qI_1, if_neg (by omega)]; exact p2
    · show (qI N 8 s (nI (wo s))).1 41 7 = _
      rw [qI_1, if_neg (by omega)]; exact a4
/-! the reference's -/
def sZM (b j : Nat) : Prop := sYM b j ∨ b = 107
def mZB (vs : Nat → vT) (M N : qM) (i t lk : Nat) (σ : mS) (c : Nat) (wo : Nat → Nat) (Ws : Nat → wW) : Prop :=
  mmS N i (vs i) t lk (vTi (vs i) t 0) 0 (-1) ∧ kpM N (vs i) σ ∧ N.1 91 33 = 1 ∧ cuM N c wo Ws ∧ fr sZM M N
theorem mZ_gains {vs : Nat → vT} {M N : qM} {i t lk n s : Nat} {σ : mS} {c : Nat} {wo : Nat → Nat} {Ws : Nat → wW} (h : mZB vs M N i t lk σ c wo Ws) (hn : n ≤ 40) (hs : s < 20) :
    wp (jMd_gainsOf (nI s) (nI n) N) (fun r => r.1 = GG (vs i) t lk (vTi (vs i) t 0) (fz0 (vs i)) c Ws n s wo ∧ mZB vs M r.2 i t lk σ c wo Ws ∧ r.2.1 91 68 = N.1 91 68 ∧ fr sMm N r.2) := by
  have hv := h.1.1.1
  have hb : mB vs N N i t lk σ c wo Ws lk (vTi (vs i) t 0) 0 (-1) := ⟨h.1, h.2.1, h.2.2.1, h.2.2.2.1, fr_rf _ _⟩
  have hmm : wp (jMd_gainsOf (nI s) (nI n) N) (fun r => fr sMm N r.2) := by
    have h20 := hv.2.2.1
    unfold jMd_gainsOf
    refine wp_bd (wp_for (fun d x => x.2.1 = nI d ∧ fr sMm N x.2.2) n ⟨rfl, fr_rf _ _⟩ ?_ ?_)
    · rintro d ⟨x, y, N'⟩ hd ⟨a2, a3⟩
      have a2 : y = nI d := a2
      subst a2
      have a3 : fr sMm N N' := a3
      show wp (qu3 _ _) _
      unfold qu3
      refine wp_in (nI_ge hd (by omega)) ?_
      rw [nI_l (by omega)]
      refine wp_bd ((mWhole_wp (lN d) (mmS_fr h.1 a3) (sMm_cu h.2.2.2.1 a3) (fz0_M _ hv)).mono ?_)
      rintro N1 ⟨g1, g2⟩
      have s4 := mmS_fr (mmS_fr h.1 a3) g2
      refine wp_bd ?_
      refine (wp_for (Q := fun _ => True) (fun q (z : Int32 × Int32) => z.2 = nI q) (vP (vs i)) rfl ?_ ?_).mono ?_
      · rintro q ⟨z1, z2⟩ hq k2
        have k2 : z2 = nI q := k2
        subst k2
        refine wp_u2 ?_
        refine wp_be (many_eq s4) ?_
        refine wp_in (nI_ge hq (by omega)) ?_
        rw [s4.2.2.2.2.2.1]
        refine wp_be (sortOf_eq s4.1 s4.2.1 hq) ?_
        refine wp_bd ?_
        refine wp_if (fun hc => wp_be (gainM_eq s4 g1 hq) (wp_some (wp_some (nI_1 q)))) (fun hc => wp_some (wp_some (nI_1 q)))
      · rintro ⟨z1, z2⟩ k2
        have k2 : z2 = nI (vP (vs i)) := k2
        subst k2
        refine wp_u2 ?_
        refine wp_be (many_eq s4) ?_
        exact wp_ip (nI_le (Nat.le_refl _) (by omega)) (wp_some trivial)
      · intro r _
        exact wp_some ⟨nI_1 d, a3.tr g2⟩
    · rintro ⟨x, y, N'⟩ ⟨a2, a3⟩
      have a2 : y = nI n := a2
      subst a2
      show wp (qu3 _ _) _
      unfold qu3
      exact wp_ip (nI_le (Nat.le_refl _) (by omega)) (wp_some (wp_some a3))
  obtain ⟨r, e1, v1, m1⟩ := mGains_wp hb hn hs (fz0_M _ hv)
  obtain ⟨r', e2, g⟩ := hmm
  rw [e1] at e2
  have e2 : r = r' := Option.some.inj e2
  subst e2
  exact ⟨r, e1, v1, ⟨m1.1, m1.2.1, m1.2.2.1, m1.2.2.2.1, h.2.2.2.2.tr (g.mono (fun b j hb => Or.inl (by unfold sMm at hb; unfold sYM; omega)))⟩, (g 91 68 (by simp [sMm])).1, g⟩
theorem mZ_set {vs : Nat → vT} {M N : qM} {i t lk s w : Nat} {σ : mS} {c : Nat} {wo : Nat → Nat} {Ws : Nat → wW} (h : mZB vs M N i t lk σ c wo Ws) (hw : w < 6) : mZB vs M (qI N 107 s (nI w)) i t lk σ c (upN wo s w) Ws := by
  have g : fr (fun b _ => b = 107) N (qI N 107 s (nI w)) := fr_I rfl
  exact ⟨mmS_off h.1 g (fun b j _ _ => by omega) (fun j _ _ => by omega), kpM_off h.2.1 g (fun j => by omega) (fun j _ _ => by omega), by rw [(g 91 33 (by decide)).1]; exact h.2.2.1, cuM_set h.2.2.2.1 hw, h.2.2.2.2.tr (g.mono (fun b j hb => Or.inr hb))⟩
theorem mZ_68 {vs : Nat → vT} {M N : qM} {i t lk : Nat} {x : Int32} {σ : mS} {c : Nat} {wo : Nat → Nat} {Ws : Nat → wW} (h : mZB vs M N i t lk σ c wo Ws) : mZB vs M (qI N 91 68 x) i t lk σ c wo Ws := by
  have g : fr (fun b j => b = 91 ∧ j = 68) N (qI N 91 68 x) := fr_I ⟨rfl, rfl⟩
  exact ⟨mmS_off h.1 g (fun b j _ _ => by omega) (fun j _ _ => by omega), kpM_off h.2.1 g (fun j => by omega) (fun j _ _ => by omega), by rw [(g 91 33 (by omega)).1]; exact h.2.2.1, cuM_fr h.2.2.2.1 g (fun b j hb => by omega), h.2.2.2.2.tr (g.mono (fun b j hb => Or.inl (by unfold sYM; omega)))⟩
theorem betterOf_wp {vs : Nat → vT} {M N : qM} {i t lk n s : Nat} {σ : mS} {c : Nat} {wo : Nat → Nat} {Ws : Nat → wW} (h : mZB vs M N i t lk σ c wo Ws) (hn : n ≤ 40) (hs : s < 6) (hc : 1 ≤ c) :
    wp (jMd_betterOf (nI s) (nI n) N) (fun r => r.1 = nI (bwF (fun w => GG (vs i) t lk (vTi (vs i) t 0) (fz0 (vs i)) c Ws n s (upN wo s w)) (c - 1)).1 ∧ r.2.1 91 68 = (bwF (fun w => GG (vs i) t lk (vTi (vs i) t 0) (fz0 (vs i)) c Ws n s (upN wo s w)) (c - 1)).2 ∧ mZB vs M r.2 i t lk σ c wo Ws) := by
  have hc6 := h.2.2.2.1.2.1
  have hwo := h.2.2.2.1.2.2.1 s hs
  have hg : ∀ (N1 : qM) (wo' : Nat → Nat), mZB vs M N1 i t lk σ c wo' Ws → wp (jMd_gainsOf (nI s) (nI n) N1) (fun r => r.1 = GG (vs i) t lk (vTi (vs i) t 0) (fz0 (vs i)) c Ws n s wo' ∧ mZB vs M r.2 i t lk σ c wo' Ws ∧ r.2.1 91 68 = N1.1 91 68) := fun N1 wo' h1 => (mZ_gains h1 hn (by omega)).mono (fun r h => ⟨h.1, h.2.1, h.2.2.1⟩)
  generalize GG (vs i) t lk (vTi (vs i) t 0) (fz0 (vs i)) c Ws n s = G at *
  unfold jMd_betterOf
  have q1 : qrI N 107 6 (nI s) = some (nI (wo s)) := by rw [qrI_nI hs (by omega), hwo.1]
  refine wp_be q1 ?_
  refine wp_bd (wp_for (fun w x => (∀ w', w = w' + 1 → x.1 = nI (bwF (fun w => G (upN wo s w)) w').1 ∧ x.2.2.1 91 68 = (bwF (fun w => G (upN wo s w)) w').2) ∧ x.2.1 = nI w ∧ ∃ w0, w0 < 6 ∧ mZB vs M x.2.2 i t lk σ c (upN wo s w0) Ws) c ⟨fun w' h => by omega, rfl, wo s, hwo.2, by rw [upN_id]; exact h⟩ ?_ ?_)
  · rintro w ⟨x, y, N1⟩ hw ⟨a2, a3, w0, hw0, a5⟩
    have a2' : ∀ w', w = w' + 1 → x = nI (bwF (fun w => G (upN wo s w)) w').1 ∧ N1.1 91 68 = (bwF (fun w => G (upN wo s w)) w').2 := a2
    clear a2
    have a3 : y = nI w := a3
    subst a3
    have a5 : mZB vs M N1 i t lk σ c (upN wo s w0) Ws := a5
    show wp (qu3 _ _) _
    unfold qu3
    refine wp_in (by rw [a5.2.2.2.1.1]; exact nI_ge hw (by omega)) ?_
    refine wp_bd (wp_wI rfl hs (by omega) ?_)
    have c8 : mZB vs M (qI N1 107 s (nI w)) i t lk σ c (upN wo s w) Ws := by
      have := mZ_set (s := s) (w := w) a5 (by omega)
      rwa [upN_up] at this
    refine wp_bd ((hg _ _ c8).mono ?_)
    rintro ⟨g, N2⟩ ⟨v1, m1, e68⟩
    have v1 : g = G (upN wo s w) := v1
    have m1 : mZB vs M N2 i t lk σ c (upN wo s w) Ws := m1
    have e68' : N2.1 91 68 = N1.1 91 68 := by
      have e68 : N2.1 91 68 = (qI N1 107 s (nI w)).1 91 68 := e68
      rw [e68, qI_1, if_neg (by omega)]
    clear e68
    refine wp_u2 ?_
    refine wp_lt ?_
    intro z hz
    have key : (z = true ∧ bwF (fun w => G (upN wo s w)) w = (w, g)) ∨ (z = false ∧ ∃ w', w = w' + 1 ∧ bwF (fun w => G (upN wo s w)) w = bwF (fun w => G (upN wo s w)) w') := by
      cases w with
      | zero =>
        left
        rw [hz]
        refine ⟨rfl, ?_⟩
        rw [v1]
        rfl
      | succ w' =>
        obtain ⟨p1, p2⟩ := a2' w' rfl
        rw [hz, if_neg (show ¬ nI (w' + 1) = 0 from nI_ne0 (by omega) (by omega)), e68', p2]
        simp only [bwF]
        rw [← v1]
        by_cases hle : g ≤ (bwF (fun w => G (upN wo s w)) w').2
        · right
          rw [if_pos hle, if_pos hle]
          exact ⟨rfl, w', rfl, rfl⟩
        · left
          rw [if_neg hle, if_neg hle]
          exact ⟨rfl, rfl⟩
    rcases key with ⟨rfl, hb⟩ | ⟨rfl, w', hw', hb⟩
    · refine wp_ip rfl ?_
      refine wp_some ⟨fun w' h => ?_, nI_1 w, w, by omega, mZ_68 m1⟩
      rw [show w' = w by omega, hb]
      exact ⟨rfl, by show (qI N2 91 68 g).1 91 68 = _; rw [qI_1, if_pos ⟨rfl, rfl⟩]⟩
    · refine wp_in (by decide) ?_
      refine wp_some ⟨fun w'' h => ?_, nI_1 w, w, by omega, m1⟩
      rw [show w'' = w by omega, hb]
      obtain ⟨p1, p2⟩ := a2' w' hw'
      exact ⟨p1, by show N2.1 91 68 = _; rw [e68']; exact p2⟩
  · rintro ⟨x, y, N1⟩ ⟨a2, a3, w0, hw0, a5⟩
    obtain ⟨p1, p2⟩ := a2 (c - 1) (by omega)
    have a3 : y = nI c := a3
    subst a3
    have a5 : mZB vs M N1 i t lk σ c (upN wo s w0) Ws := a5
    show wp (qu3 _ _) _
    unfold qu3
    refine wp_ip (by rw [a5.2.2.2.1.1]; exact nI_le (Nat.le_refl _) (by omega)) (wp_some ?_)
    refine wp_u2 ?_
    refine wp_bd (wp_wI rfl hs (by omega) ?_)
    have c8 : mZB vs M (qI N1 107 s (nI (wo s))) i t lk σ c wo Ws := by
      have := mZ_set (s := s) (w := wo s) a5 hwo.2
      rwa [upN_up, upN_id] at this
    refine wp_some ⟨p1, ?_, c8⟩
    show (qI N1 107 s (nI (wo s))).1 91 68 = _
    rw [qI_1, if_neg (by omega)]; exact p2
