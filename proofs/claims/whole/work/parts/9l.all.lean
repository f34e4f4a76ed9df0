/-! ===== one relation for all ===== -/
theorem rVM_loc {M M1 : qM} {n : Nat} {v : vT} {S : Nat → Nat → Prop} (h : rVM M n v) (g : fr S M M1) (h1 : ∀ b, 102 ≤ b → b ≤ 104 → ¬ S b n) (h2 : ∀ j, 16 * n ≤ j → j < 16 * n + 16 → ¬ S 105 j) (h3 : ∀ j, 24 * n ≤ j → j < 24 * n + 24 → ¬ S 106 j) : rVM M1 n v := by
  obtain ⟨a, b, c, d, e, f⟩ := h
  have hT := a.1.2
  have hS := a.2.1.2
  exact ⟨a, by rw [(g 102 n (h1 102 (by omega) (by omega))).1]; exact b, by rw [(g 103 n (h1 103 (by omega) (by omega))).1]; exact c, by rw [(g 104 n (h1 104 (by omega) (by omega))).1]; exact d, fun t ht w hw => by rw [(g 105 _ (h2 _ (by omega) (by omega))).1]; exact e t ht w hw, fun s hs w hw => by rw [(g 106 _ (h3 _ (by omega) (by omega))).1]; exact f s hs w hw⟩
theorem rWM_loc {M M1 : qM} {n : Nat} {W : wW} {S : Nat → Nat → Prop} (h : rWM M n W) (g : fr S M M1) (h1 : ¬ S 96 n) (h2 : ∀ b j, 93 ≤ b → b ≤ 94 → 340 * n ≤ j → j < 340 * n + 340 → ¬ S b j) (h3 : ∀ b j, 97 ≤ b → b ≤ 99 → 90 * n ≤ j → j < 90 * n + 90 → ¬ S b j) : rWM M1 n W := by
  obtain ⟨a, b, c, d, e⟩ := h
  refine ⟨a, b, by rw [(g 96 n h1).1]; exact c, mW_frL (C := 340) (Q := 90) (fun j hj => ⟨(g _ _ (h2 _ _ (by omega) (by omega) (by omega) (by omega))).1, (g _ _ (h2 _ _ (by omega) (by omega) (by omega) (by omega))).1⟩) (fun j hj => ⟨(g _ _ (h3 _ _ (by omega) (by omega) (by omega) (by omega))).1, (g _ _ (h3 _ _ (by omega) (by omega) (by omega) (by omega))).1, (g _ _ (h3 _ _ (by omega) (by omega) (by omega) (by omega))).1⟩) W (by omega) (by omega) d, e⟩
def kV (n b j : Nat) : Prop := (71 ≤ b ∧ b < 71 + 4 * n) ∨ (102 ≤ b ∧ b ≤ 104 ∧ j < n) ∨ (b = 105 ∧ j < 16 * n) ∨ (b = 106 ∧ j < 24 * n)
def kCu (c b j : Nat) : Prop := (12 ≤ b ∧ b < 12 + 3 * c) ∨ (93 ≤ b ∧ b ≤ 94 ∧ j < 340 * c) ∨ (b = 96 ∧ j < c) ∨ (97 ≤ b ∧ b ≤ 99 ∧ j < 90 * c)
theorem kV_C {M M1 : qM} {n i : Nat} {v : vT} {S : Nat → Nat → Prop} (h : rVC M (71 + 4 * i) v) (g : fr S M M1) (hi : i < n) (hS : ∀ b j, kV n b j → ¬ S b j) : rVC M1 (71 + 4 * i) v := rVC_fr h g (fun b j h1 h2 => hS b j (.inl (by omega)))
theorem kV_M {M M1 : qM} {n i : Nat} {v : vT} {S : Nat → Nat → Prop} (h : rVM M i v) (g : fr S M M1) (hi : i < n) (hS : ∀ b j, kV n b j → ¬ S b j) : rVM M1 i v := rVM_loc h g (fun b h1 h2 => hS b i (.inr (.inl ⟨h1, h2, hi⟩))) (fun j h1 h2 => hS _ j (.inr (.inr (.inl ⟨rfl, by omega⟩)))) (fun j h1 h2 => hS _ j (.inr (.inr (.inr ⟨rfl, by omega⟩))))
theorem rVsC_k {M M1 : qM} {n : Nat} {vs : Nat → vT} {S : Nat → Nat → Prop} (h : rVsC M n vs) (g : fr S M M1) (hS : ∀ b j, kV n b j → ¬ S b j) (h1 : ¬ S 0 4) : rVsC M1 n vs := ⟨h.1, by rw [(g 0 4 h1).1]; exact h.2.1, fun i hi => kV_C (h.2.2 i hi) g hi hS⟩
theorem rVsM_k {M M1 : qM} {n : Nat} {vs : Nat → vT} {S : Nat → Nat → Prop} (h : rVsM M n vs) (g : fr S M M1) (hS : ∀ b j, kV n b j → ¬ S b j) (h1 : ¬ S 91 22) : rVsM M1 n vs := ⟨h.1, by rw [(g 91 22 h1).1]; exact h.2.1, fun i hi => kV_M (h.2.2 i hi) g hi hS⟩
theorem cuC_k {M M1 : qM} {c : Nat} {wo : Nat → Nat} {Ws : Nat → wW} {S : Nat → Nat → Prop} (h : cuC M c wo Ws) (g : fr S M M1) (hS : ∀ b j, kCu c b j → ¬ S b j) (h1 : ¬ S 6 1) (h2 : ∀ j, ¬ S 8 j) : cuC M1 c wo Ws :=
  ⟨by rw [(g 6 1 h1).1]; exact h.1, h.2.1, fun s hs => by rw [(g 8 s (h2 s)).1]; exact h.2.2.1 s hs, fun i hi => rWC_fr (h.2.2.2 i hi) g (fun b j g1 g2 => hS b j (.inl (by omega)))⟩
theorem cuM_k {M M1 : qM} {c : Nat} {wo : Nat → Nat} {Ws : Nat → wW} {S : Nat → Nat → Prop} (h : cuM M c wo Ws) (g : fr S M M1) (hS : ∀ b j, kCu c b j → ¬ S b j) (h1 : ¬ S 91 13) (h2 : ∀ j, ¬ S 107 j) : cuM M1 c wo Ws :=
  ⟨by rw [(g 91 13 h1).1]; exact h.1, h.2.1, fun s hs => by rw [(g 107 s (h2 s)).1]; exact h.2.2.1 s hs, fun i hi => rWM_loc (h.2.2.2 i hi) g (hS _ _ (.inr (.inr (.inl ⟨rfl, hi⟩)))) (fun b j g1 g2 g3 g4 => hS b j (.inr (.inl ⟨g1, g2, by omega⟩))) (fun b j g1 g2 g3 g4 => hS b j (.inr (.inr (.inr ⟨g1, g2, by omega⟩))))⟩
theorem rRow_k {M M1 : qM} {S : Nat → Nat → Prop} (h : rRow M) (g : fr S M M1) (h1 : ∀ b j, 49 ≤ b → b ≤ 59 → ¬ S b j) (h2 : ∀ j, 43 ≤ j → j ≤ 48 → ¬ S 91 j) (h3 : ∀ j, ¬ S 112 j) : rRow M1 := by
  rcases h with h | ⟨P, m, w, f, k, T, c, hC, hM⟩
  · exact .inl ⟨by rw [(g 49 5 (h1 49 5 (by omega) (by omega))).1]; exact h.1, by rw [(g 91 48 (h2 48 (by omega) (by omega))).1]; exact h.2.1, rPw_fr h.2.2.1 g (fun j => h1 57 j (by omega) (by omega)), rRf_fr h.2.2.2 g (h1 49 11 (by omega) (by omega)) (h1 49 12 (by omega) (by omega))⟩
  · exact .inr ⟨P, m, w, f, k, T, c, rwC_up hC g (rRf_fr hC.2.2.2.2 g (h1 49 11 (by omega) (by omega)) (h1 49 12 (by omega) (by omega))) (fun j _ => h1 49 j (by omega) (by omega)) (fun j => h1 50 j (by omega) (by omega)) (fun j => h1 57 j (by omega) (by omega)) (fun j => h1 59 j (by omega) (by omega)), rwM_up hM g (fun j a b => h2 j a (by omega)) h3⟩
theorem rTo_k {M M1 : qM} {S : Nat → Nat → Prop} (h : rTo M) (g : fr S M M1) (h1 : ¬ S 65 3) (h2 : ¬ S 65 4) : rTo M1 := by
  obtain ⟨a, b, c, d, e⟩ := h
  exact ⟨a, b, c, by rw [(g 65 3 h1).2.2]; exact d, by rw [(g 65 4 h2).2.2]; exact e⟩
theorem rBw_k {M M1 : qM} {S : Nat → Nat → Prop} (h : rBw M) (g : fr S M M1) (h1 : ¬ S 0 12) (h2 : ¬ S 91 57) : rBw M1 := by
  obtain ⟨b, c, d, e⟩ := h
  exact ⟨b, c, by rw [(g 0 12 h1).1]; exact d, by rw [(g 91 57 h2).1]; exact e⟩
theorem rTd_k {M M1 : qM} {n : Nat} {vs : Nat → vT} {S : Nat → Nat → Prop} (h : rTd n vs M) (g : fr S M M1) (hS : ∀ b j, kV n b j → ¬ S b j) (h1 : ¬ S 60 0) (h2 : ¬ S 60 1) (h3 : ∀ j, ¬ S 61 j) (h4 : ¬ S 91 55) (h5 : ¬ S 91 56) (h6 : ∀ j, ¬ S 116 j) : rTd n vs M1 := by
  rcases h with ⟨a, b⟩ | ⟨i, t, f, hi, hi5, hC, hM⟩
  · exact .inl ⟨by rw [(g 60 0 h1).2.2]; exact a, by rw [(g 91 55 h4).1]; exact b⟩
  · obtain ⟨a1, a2, a3, a4, a5, a6⟩ := hC
    obtain ⟨b1, b2, b3, b4, b5, b6⟩ := hM
    exact .inr ⟨i, t, f, hi, hi5, ⟨kV_C a1 g hi hS, a2, by rw [(g 60 0 h1).2.2]; exact a3, by rw [(g 60 1 h2).1]; exact a4, a5, fun o ho => by rw [(g 61 o (h3 o)).1]; exact a6 o ho⟩, ⟨kV_M b1 g hi hS, b2, by rw [(g 91 55 h4).1]; exact b3, by rw [(g 91 56 h5).1]; exact b4, b5, fun o ho => by rw [(g 116 o (h6 o)).1]; exact b6 o ho⟩⟩
theorem rTd_up {M : qM} {n n' : Nat} {vs vs' : Nat → vT} (h : rTd n vs M) (hn : n ≤ n') (hv : ∀ i, i < n → vs' i = vs i) : rTd n' vs' M := by
  rcases h with h | ⟨i, t, f, hi, hi5, hC, hM⟩
  · exact .inl h
  · exact .inr ⟨i, t, f, by omega, hi5, by rw [hv i hi]; exact hC, by rw [hv i hi]; exact hM⟩
theorem moS_k {M M1 : qM} {n k i : Nat} {v : vT} {t lk nth : Nat} {se sr : Int32} {S : Nat → Nat → Prop} (h : moS M k (71 + 4 * i) v t lk nth se sr) (g : fr S M M1) (hi : i < n) (hS : ∀ b j, kV n b j → ¬ S b j) (hk : ∀ j, ¬ S k j) : moS M1 k (71 + 4 * i) v t lk nth se sr := by
  obtain ⟨a1, a2, a3, a4, a5, a6, a7, a8, a9, b1, b2, b3, b4⟩ := h
  exact ⟨kV_C a1 g hi hS, a2, a3, a4, a5, a6, by rw [(g k 0 (hk 0)).2.2]; exact a7, by rw [(g k 1 (hk 1)).1]; exact a8, by rw [(g k 2 (hk 2)).1]; exact a9, by rw [(g k 3 (hk 3)).1]; exact b1, by rw [(g k 4 (hk 4)).1]; exact b2, by rw [(g k 5 (hk 5)).1]; exact b3, by rw [(g k 6 (hk 6)).1]; exact b4⟩
theorem moD_k {M M1 : qM} {k : Nat} {v : vT} {t nth : Nat} {σ : mS} {S : Nat → Nat → Prop} (h : moD M k v t nth σ) (g : fr S M M1) (hk : ∀ b j, k ≤ b → b ≤ k + 3 → ¬ S b j) : moD M1 k v t nth σ := by
  obtain ⟨d1, d2, d3, d4, d5, d6, d7, d8, d9, d10, d11⟩ := h
  have h0 : ∀ j, ¬ S k j := fun j => hk k j (by omega) (by omega)
  exact ⟨by rw [(g k 7 (h0 _)).2.1]; exact d1, by rw [(g k 8 (h0 _)).1]; exact d2, by rw [(g k 9 (h0 _)).1]; exact d3, by rw [(g k 10 (h0 _)).1]; exact d4, by rw [(g k 11 (h0 _)).1]; exact d5, by rw [(g k 12 (h0 _)).1]; exact d6, by rw [(g k 13 (h0 _)).1]; exact d7, by rw [(g k 14 (h0 _)).1]; exact d8, fun p hp => by rw [(g (k + 1) p (hk _ _ (by omega) (by omega))).1, (g (k + 2) p (hk _ _ (by omega) (by omega))).1]; exact d9 p hp, fun s hs => by rw [(g (k + 3) s (hk _ _ (by omega) (by omega))).1]; exact d10 s hs, d11⟩
theorem mmR_k {M M1 : qM} {n i : Nat} {v : vT} {t lk : Nat} {σ : mS} {S : Nat → Nat → Prop} (h : mmR M i v t lk σ) (g : fr S M M1) (hi : i < n) (hS : ∀ b j, kV n b j → ¬ S b j) (h1 : ∀ j, 27 ≤ j → j ≤ 37 → ¬ S 91 j) (h2 : ∀ b j, 108 ≤ b → b ≤ 110 → ¬ S b j) : mmR M1 i v t lk σ := by
  obtain ⟨⟨a1, a2, a3, a4, a5, a6, a7, a8, a9, b1, b2⟩, ⟨d1, d2, d3, d4, d5, d6⟩, e⟩ := h
  have h0 : ∀ j, 27 ≤ j → j ≤ 37 → M1.1 91 j = M.1 91 j := fun j x y => (g 91 j (h1 j x y)).1
  refine ⟨⟨kV_M a1 g hi hS, a2, a3, a4, a5, by rw [h0 27 (by omega) (by omega)]; exact a6, by rw [h0 28 (by omega) (by omega)]; exact a7, by rw [h0 29 (by omega) (by omega)]; exact a8, by rw [h0 32 (by omega) (by omega)]; exact a9, by rw [h0 36 (by omega) (by omega)]; exact b1, by rw [h0 37 (by omega) (by omega)]; exact b2⟩, ⟨by rw [(g 91 35 (h1 35 (by omega) (by omega))).2.1]; exact d1, by rw [h0 30 (by omega) (by omega)]; exact d2, by rw [h0 31 (by omega) (by omega)]; exact d3, by rw [h0 34 (by omega) (by omega)]; exact d4, fun p hp => ?_, d6⟩, by rw [h0 33 (by omega) (by omega)]; exact e⟩
  rw [(g 108 p (h2 _ _ (by omega) (by omega))).1, (g 109 p (h2 _ _ (by omega) (by omega))).1, (g 110 p (h2 _ _ (by omega) (by omega))).1]
  exact d5 p hp
theorem imM_k {M M1 : qM} {i : Nat} {v : vT} {t lk : Nat} {σ : mS} {S : Nat → Nat → Prop} (h : imM M i v t lk σ) (g : fr S M M1) (h1 : ∀ j, 61 ≤ j → j ≤ 67 → ¬ S 91 j) (h2 : ∀ j, ¬ S 120 j) : imM M1 i v t lk σ := by
  obtain ⟨a, b, c, d, e, f, k, l⟩ := h
  have h0 : ∀ j, 61 ≤ j → j ≤ 67 → M1.1 91 j = M.1 91 j := fun j x y => (g 91 j (h1 j x y)).1
  exact ⟨fun p hp => by rw [(g 120 _ (h2 _)).1, (g 120 _ (h2 _)).1, (g 120 _ (h2 _)).1]; exact a p hp, by rw [h0 61 (by omega) (by omega)]; exact b, by rw [h0 62 (by omega) (by omega)]; exact c, by rw [h0 63 (by omega) (by omega)]; exact d, by rw [h0 64 (by omega) (by omega)]; exact e, by rw [h0 65 (by omega) (by omega)]; exact f, by rw [h0 66 (by omega) (by omega)]; exact k, by rw [(g 91 67 (h1 67 (by omega) (by omega))).2.1]; exact l⟩
theorem rMK_k {M M1 : qM} {n : Nat} {vs : Nat → vT} {S : Nat → Nat → Prop} (h : rMK n vs M) (g : fr S M M1) (hS : ∀ b j, kV n b j → ¬ S b j) (h1 : ∀ b j, 33 ≤ b → b ≤ 40 → ¬ S b j) (h2 : ∀ j, 27 ≤ j → j ≤ 37 → ¬ S 91 j) (h3 : ∀ j, 61 ≤ j → j ≤ 67 → ¬ S 91 j) (h4 : ∀ b j, 108 ≤ b → b ≤ 110 → ¬ S b j) (h5 : ∀ j, ¬ S 120 j) : rMK n vs M1 := by
  refine ⟨?_, ?_⟩
  · rcases h.1 with ⟨a, b, c, d⟩ | ⟨i, t, lk, σ, hi, hi5, ⟨a1, a2, a3⟩, hM⟩
    · exact .inl ⟨by rw [(g 33 0 (h1 _ _ (by omega) (by omega))).2.2]; exact a, by rw [(g 91 33 (h2 _ (by omega) (by omega))).1]; exact b, by rw [(g 91 36 (h2 _ (by omega) (by omega))).1]; exact c, by rw [(g 91 37 (h2 _ (by omega) (by omega))).1]; exact d⟩
    · exact .inr ⟨i, t, lk, σ, hi, hi5, ⟨moS_k a1 g hi hS (fun j => h1 _ _ (by omega) (by omega)), moD_k a2 g (fun b j x y => h1 _ _ (by omega) (by omega)), a3⟩, mmR_k hM g hi hS h2 h4⟩
  · rcases h.2 with ⟨a, b⟩ | ⟨i, t, lk, σ, se, sr, hi, hi5, a1, a2, a3, a4, a5⟩
    · exact .inl ⟨by rw [(g 37 0 (h1 _ _ (by omega) (by omega))).2.2]; exact a, by rw [(g 91 64 (h3 _ (by omega) (by omega))).1]; exact b⟩
    · exact .inr ⟨i, t, lk, σ, se, sr, hi, hi5, moS_k a1 g hi hS (fun j => h1 _ _ (by omega) (by omega)), moD_k a2 g (fun b j x y => h1 _ _ (by omega) (by omega)), a3, imM_k a4 g h3 h5, by rw [(g 91 33 (h2 _ (by omega) (by omega))).1]; exact a5⟩
theorem rMK_up {M : qM} {n n' : Nat} {vs vs' : Nat → vT} (h : rMK n vs M) (hn : n ≤ n') (hv : ∀ i, i < n → vs' i = vs i) : rMK n' vs' M := by
  refine ⟨?_, ?_⟩
  · rcases h.1 with h | ⟨i, t, lk, σ, hi, hi5, hC, hM⟩
    · exact .inl h
    · exact .inr ⟨i, t, lk, σ, by omega, hi5, by rw [hv i hi]; exact hC, by rw [hv i hi]; exact hM⟩
  · rcases h.2 with h | ⟨i, t, lk, σ, se, sr, hi, hi5, a1, a2, a3, a4, a5⟩
    · exact .inl h
    · exact .inr ⟨i, t, lk, σ, se, sr, by omega, hi5, by rw [hv i hi]; exact a1, by rw [hv i hi]; exact a2, by rw [hv i hi]; exact a3, by rw [hv i hi]; exact a4, a5⟩
/-- all that class and reference hold alike -/
def RA (n : Nat) (vs : Nat → vT) (c : Nat) (wo : Nat → Nat) (Ws : Nat → wW) (τ : tT) (M : qM) : Prop :=
  (tOK τ ∧ rTC M τ ∧ rTM M τ) ∧ (rVsC M n vs ∧ rVsM M n vs) ∧ (cuC M c wo Ws ∧ cuM M c wo Ws) ∧ rRow M ∧ (rTd n vs M ∧ rTo M) ∧ rBw M ∧ rMK n vs M
def RR (M : qM) : Prop := ∃ n vs c wo Ws τ, RA n vs c wo Ws τ M
def stp {ρ : Type} (f g : qM → Option (ρ × qM)) (M : qM) : Prop := ∃ r M1 M2, f M = some (r, M1) ∧ g M1 = some (r, M2) ∧ RR M2
theorem tp_k {M M1 : qM} {τ : tT} {S : Nat → Nat → Prop} (h : tOK τ ∧ rTC M τ ∧ rTM M τ) (g : fr S M M1) (h1 : ¬ S 1 1) (h2 : ∀ j, ¬ S 2 j) (h3 : ¬ S 91 2) (h4 : ∀ j, ¬ S 92 j) : tOK τ ∧ rTC M1 τ ∧ rTM M1 τ := ⟨h.1, rTC_fr h.2.1 g h1 h2, rTM_fr h.2.2 g h3 h4⟩
theorem RR_row {ρ : Type} {f g : qM → Option (ρ × qM)} {M : qM} (h : RR M) (hb : bth rRow sRC sRM f g M) : stp f g M := by
  obtain ⟨n, vs, c, wo, Ws, τ, h1, h2, h3, h4, h5, h6, h7⟩ := h
  obtain ⟨r, M1, M2, e1, e2, e3, g1, g2⟩ := hb
  have G : fr (fun b j => sRC b j ∨ sRM b j) M M2 := (g1.mono (fun _ _ h => .inl h)).tr (g2.mono (fun _ _ h => .inr h))
  have hn := h2.1.1
  have hc := h3.1.2.1
  refine ⟨r, M1, M2, e1, e2, n, vs, c, wo, Ws, τ, tp_k h1 G ?_ ?_ ?_ ?_, ⟨rVsC_k h2.1 G ?_ ?_, rVsM_k h2.2 G ?_ ?_⟩, ⟨cuC_k h3.1 G ?_ ?_ ?_, cuM_k h3.2 G ?_ ?_ ?_⟩, e3, ⟨rTd_k h5.1 G ?_ ?_ ?_ ?_ ?_ ?_ ?_, rTo_k h5.2 G ?_ ?_⟩, rBw_k h6 G ?_ ?_, rMK_k h7 G ?_ ?_ ?_ ?_ ?_ ?_⟩ <;> intros <;> unfold sRC sRM <;> first | omega | (unfold kV at *; omega) | (unfold kCu at *; omega)
theorem RR_told {ρ : Type} {f g : qM → Option (ρ × qM)} {M : qM} (h : RR M) (hb : ∀ n vs, rVsC M n vs → rVsM M n vs → rTd n vs M → bth (rTd n vs) sTC sTM f g M) : stp f g M := by
  obtain ⟨n, vs, c, wo, Ws, τ, h1, h2, h3, h4, h5, h6, h7⟩ := h
  obtain ⟨r, M1, M2, e1, e2, e3, g1, g2⟩ := hb n vs h2.1 h2.2 h5.1
  have G : fr (fun b j => sTC b j ∨ sTM b j) M M2 := (g1.mono (fun _ _ h => .inl h)).tr (g2.mono (fun _ _ h => .inr h))
  have hn := h2.1.1
  have hc := h3.1.2.1
  refine ⟨r, M1, M2, e1, e2, n, vs, c, wo, Ws, τ, tp_k h1 G ?_ ?_ ?_ ?_, ⟨rVsC_k h2.1 G ?_ ?_, rVsM_k h2.2 G ?_ ?_⟩, ⟨cuC_k h3.1 G ?_ ?_ ?_, cuM_k h3.2 G ?_ ?_ ?_⟩, rRow_k h4 G ?_ ?_ ?_, ⟨e3, rTo_k h5.2 G ?_ ?_⟩, rBw_k h6 G ?_ ?_, rMK_k h7 G ?_ ?_ ?_ ?_ ?_ ?_⟩ <;> intros <;> unfold sTC sTM <;> first | omega | (unfold kV at *; omega) | (unfold kCu at *; omega)
theorem RR_round {M : qM} (h : RR M) (a b : Int32) : stp (jTc_round a b) (jMd_round a b) M := by
  obtain ⟨n, vs, c, wo, Ws, τ, h1, h2, h3, h4, h5, h6, h7⟩ := h
  obtain ⟨r, M1, M2, e1, e2, e3, g1, g2⟩ := p_round h5.1 h5.2 h6 a b
  have G : fr (fun b j => sUC b j ∨ sTM b j) M M2 := (g1.mono (fun _ _ h => .inl h)).tr (g2.mono (fun _ _ h => .inr h))
  have hn := h2.1.1
  have hc := h3.1.2.1
  refine ⟨r, M1, M2, e1, e2, n, vs, c, wo, Ws, τ, tp_k h1 G ?_ ?_ ?_ ?_, ⟨rVsC_k h2.1 G ?_ ?_, rVsM_k h2.2 G ?_ ?_⟩, ⟨cuC_k h3.1 G ?_ ?_ ?_, cuM_k h3.2 G ?_ ?_ ?_⟩, rRow_k h4 G ?_ ?_ ?_, e3, rBw_k h6 G ?_ ?_, rMK_k h7 G ?_ ?_ ?_ ?_ ?_ ?_⟩ <;> intros <;> unfold sUC sTM <;> first | omega | (unfold kV at *; omega) | (unfold kCu at *; omega)
theorem RR_mor {ρ : Type} {f g : qM → Option (ρ × qM)} {M : qM} (h : RR M) (hb : ∀ n vs c wo Ws, rVsC M n vs → rVsM M n vs → cuC M c wo Ws → cuM M c wo Ws → rMK n vs M → bth (rMK n vs) sXC sXM f g M) : stp f g M := by
  obtain ⟨n, vs, c, wo, Ws, τ, h1, h2, h3, h4, h5, h6, h7⟩ := h
  obtain ⟨r, M1, M2, e1, e2, e3, g1, g2⟩ := hb n vs c wo Ws h2.1 h2.2 h3.1 h3.2 h7
  have G : fr (fun b j => sXC b j ∨ sXM b j) M M2 := (g1.mono (fun _ _ h => .inl h)).tr (g2.mono (fun _ _ h => .inr h))
  have hn := h2.1.1
  have hc := h3.1.2.1
  refine ⟨r, M1, M2, e1, e2, n, vs, c, wo, Ws, τ, tp_k h1 G ?_ ?_ ?_ ?_, ⟨rVsC_k h2.1 G ?_ ?_, rVsM_k h2.2 G ?_ ?_⟩, ⟨cuC_k h3.1 G ?_ ?_ ?_, cuM_k h3.2 G ?_ ?_ ?_⟩, rRow_k h4 G ?_ ?_ ?_, ⟨rTd_k h5.1 G ?_ ?_ ?_ ?_ ?_ ?_ ?_, rTo_k h5.2 G ?_ ?_⟩, rBw_k h6 G ?_ ?_, e3⟩ <;> intros <;> unfold sXC sXM <;> first | omega | (unfold kV at *; omega) | (unfold kCu at *; omega)
theorem RR_tal {ρ : Type} {f g : qM → Option (ρ × qM)} {M : qM} (h : RR M) (hb : ∀ n vs c wo Ws, rMK n vs M → cuC M c wo Ws → cuM M c wo Ws → bth (rMK n vs) sYC sYM f g M) : stp f g M := by
  refine RR_mor h (fun n vs c wo Ws _ _ h3 h4 h5 => ?_)
  obtain ⟨r, M1, M2, e1, e2, e3, g1, g2⟩ := hb n vs c wo Ws h5 h3 h4
  exact ⟨r, M1, M2, e1, e2, e3, g1.mono (fun b j hb => by unfold sYC at hb; unfold sXC; omega), g2.mono (fun b j hb => by unfold sYM at hb; unfold sXM; omega)⟩
theorem RR_best {ρ : Type} {f g : qM → Option (ρ × qM)} {M : qM} (h : RR M) (hb : ∀ n vs c wo Ws, rMK n vs M → cuC M c wo Ws → cuM M c wo Ws → bth (rMKW n vs c Ws) sZC sAM f g M) : stp f g M := by
  obtain ⟨n, vs, c, wo, Ws, τ, h1, h2, h3, h4, h5, h6, h7⟩ := h
  obtain ⟨r, M1, M2, e1, e2, ⟨e3, wo', e4⟩, g1, g2⟩ := hb n vs c wo Ws h7 h3.1 h3.2
  have G : fr (fun b j => sZC b j ∨ sAM b j) M M2 := (g1.mono (fun _ _ h => .inl h)).tr (g2.mono (fun _ _ h => .inr h))
  have hn := h2.1.1
  have hc := h3.1.2.1
  refine ⟨r, M1, M2, e1, e2, n, vs, c, wo', Ws, τ, tp_k h1 G ?_ ?_ ?_ ?_, ⟨rVsC_k h2.1 G ?_ ?_, rVsM_k h2.2 G ?_ ?_⟩, e4, rRow_k h4 G ?_ ?_ ?_, ⟨rTd_k h5.1 G ?_ ?_ ?_ ?_ ?_ ?_ ?_, rTo_k h5.2 G ?_ ?_⟩, rBw_k h6 G ?_ ?_, e3⟩ <;> intros <;> unfold sZC sAM sZM sYC sYM <;> first | omega | (unfold kV at *; omega) | (unfold kCu at *; omega)
