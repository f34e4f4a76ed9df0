/-! ===== the calls over the one relation ===== -/
def kA (n c b j : Nat) : Prop := (b = 1 ∧ j = 1) ∨ b = 2 ∨ (b = 91 ∧ (j = 2 ∨ j = 13 ∨ j = 22 ∨ (27 ≤ j ∧ j ≤ 37) ∨ (43 ≤ j ∧ j ≤ 48) ∨ (55 ≤ j ∧ j ≤ 57) ∨ (61 ≤ j ∧ j ≤ 67))) ∨ b = 92 ∨ (b = 0 ∧ (j = 4 ∨ j = 12)) ∨ kV n b j ∨ kCu c b j ∨ (b = 6 ∧ j = 1) ∨ b = 8 ∨ b = 107 ∨ (49 ≤ b ∧ b ≤ 61) ∨ b = 65 ∨ b = 112 ∨ b = 116 ∨ (33 ≤ b ∧ b ≤ 40) ∨ (108 ≤ b ∧ b ≤ 110) ∨ b = 120
theorem RA_fr {M M2 : qM} {n : Nat} {vs : Nat → vT} {c : Nat} {wo : Nat → Nat} {Ws : Nat → wW} {τ : tT} {S : Nat → Nat → Prop} (h : RA n vs c wo Ws τ M) (G : fr S M M2) (hS : ∀ b j, kA n c b j → ¬ S b j) : RA n vs c wo Ws τ M2 := by
  obtain ⟨h1, h2, h3, h4, h5, h6, h7⟩ := h
  have hn := h2.1.1
  have hc := h3.1.2.1
  refine ⟨tp_k h1 G ?_ ?_ ?_ ?_, ⟨rVsC_k h2.1 G ?_ ?_, rVsM_k h2.2 G ?_ ?_⟩, ⟨cuC_k h3.1 G ?_ ?_ ?_, cuM_k h3.2 G ?_ ?_ ?_⟩, rRow_k h4 G ?_ ?_ ?_, ⟨rTd_k h5.1 G ?_ ?_ ?_ ?_ ?_ ?_ ?_, rTo_k h5.2 G ?_ ?_⟩, rBw_k h6 G ?_ ?_, rMK_k h7 G ?_ ?_ ?_ ?_ ?_ ?_⟩ <;> intros <;> refine hS _ _ ?_ <;> first | (unfold kA; omega) | (unfold kA; simp only [*, true_or, or_true])
theorem RR_fr {M M2 : qM} {n : Nat} {vs : Nat → vT} {c : Nat} {wo : Nat → Nat} {Ws : Nat → wW} {τ : tT} {S : Nat → Nat → Prop} (h : RA n vs c wo Ws τ M) (G : fr S M M2) (hS : ∀ b j, kA n c b j → ¬ S b j) : RR M2 := ⟨n, vs, c, wo, Ws, τ, RA_fr h G hS⟩
theorem tp_0 {M : qM} {τ : tT} (h1 : M.1 1 1 = 0) (h2 : M.1 91 2 = 0) : tOK (0, τ.2) ∧ rTC M (0, τ.2) ∧ rTM M (0, τ.2) := ⟨fun j hj => absurd hj (Nat.not_lt_zero j), ⟨h1, Nat.zero_le _, fun j hj => absurd hj (Nat.not_lt_zero j)⟩, ⟨h2, Nat.zero_le _, fun j hj => absurd hj (Nat.not_lt_zero j)⟩⟩
/-- but for the counts -/
def kB (n c b j : Nat) : Prop := kA n c b j ∧ ¬ ((b = 1 ∧ j = 1) ∨ (b = 91 ∧ (j = 2 ∨ j = 13 ∨ j = 22)) ∨ (b = 0 ∧ j = 4) ∨ (b = 6 ∧ j = 1))
theorem RA_addV {M M2 : qM} {n : Nat} {vs : Nat → vT} {c : Nat} {wo : Nat → Nat} {Ws : Nat → wW} {τ : tT} {v : vT} {S : Nat → Nat → Prop} (h : RA n vs c wo Ws τ M) (hn : n < 4) (G : fr S M M2) (hS : ∀ b j, kB n c b j → ¬ S b j) (h13 : ¬ S 91 13) (h61 : ¬ S 6 1) (hvC : rVC M2 (71 + 4 * n) v) (hvM : rVM M2 n v) (g1 : M2.1 0 4 = nI (n + 1)) (g2 : M2.1 91 22 = nI (n + 1)) (g3 : M2.1 1 1 = 0) (g4 : M2.1 91 2 = 0) : RR M2 := by
  obtain ⟨h1, h2, h3, h4, h5, h6, h7⟩ := h
  have hc := h3.1.2.1
  have hV : ∀ b j, kV n b j → ¬ S b j := fun b j hb => hS b j ⟨by unfold kA; simp only [hb, true_or, or_true], by unfold kV at hb; omega⟩
  have hK : ∀ b j, kCu c b j → ¬ S b j := fun b j hb => hS b j ⟨by unfold kA; simp only [hb, true_or, or_true], by unfold kCu at hb; omega⟩
  have hu : ∀ i, i < n → (fun i => if i = n then v else vs i) i = vs i := fun i hi => if_neg (by omega)
  refine ⟨n + 1, fun i => if i = n then v else vs i, c, wo, Ws, (0, τ.2), tp_0 g3 g4, ⟨⟨by omega, g1, fun i hi => ?_⟩, ⟨by omega, g2, fun i hi => ?_⟩⟩, ⟨cuC_k h3.1 G hK h61 ?_, cuM_k h3.2 G hK h13 ?_⟩, rRow_k h4 G ?_ ?_ ?_, ⟨rTd_up (rTd_k h5.1 G hV ?_ ?_ ?_ ?_ ?_ ?_) (by omega) hu, rTo_k h5.2 G ?_ ?_⟩, rBw_k h6 G ?_ ?_, rMK_up (rMK_k h7 G hV ?_ ?_ ?_ ?_ ?_) (by omega) hu⟩
  · by_cases hin : i = n
    · subst hin; simp only [if_true]; exact hvC
    · simp only [if_neg hin]; exact kV_C (h2.1.2.2 i (by omega)) G (by omega) hV
  · by_cases hin : i = n
    · subst hin; simp only [if_true]; exact hvM
    · simp only [if_neg hin]; exact kV_M (h2.2.2.2 i (by omega)) G (by omega) hV
  all_goals (intros; refine hS _ _ ?_; unfold kB kA; omega)
theorem RA_addW {M M2 : qM} {n : Nat} {vs : Nat → vT} {c : Nat} {wo : Nat → Nat} {Ws : Nat → wW} {τ : tT} {W : wW} {S : Nat → Nat → Prop} (h : RA n vs c wo Ws τ M) (hcl : c < 6) (G : fr S M M2) (hS : ∀ b j, kB n c b j → ¬ S b j) (h22 : ¬ S 91 22) (h04 : ¬ S 0 4) (hwC : rWC M2 (12 + 3 * c) W) (hwM : rWM M2 c W) (g1 : M2.1 6 1 = nI (c + 1)) (g2 : M2.1 91 13 = nI (c + 1)) (g3 : M2.1 1 1 = 0) (g4 : M2.1 91 2 = 0) : RR M2 := by
  obtain ⟨h1, h2, h3, h4, h5, h6, h7⟩ := h
  have hn := h2.1.1
  have hV : ∀ b j, kV n b j → ¬ S b j := fun b j hb => hS b j ⟨by unfold kA; simp only [hb, true_or, or_true], by unfold kV at hb; omega⟩
  have hK : ∀ b j, kCu c b j → ¬ S b j := fun b j hb => hS b j ⟨by unfold kA; simp only [hb, true_or, or_true], by unfold kCu at hb; omega⟩
  refine ⟨n, vs, c + 1, wo, fun i => if i = c then W else Ws i, (0, τ.2), tp_0 g3 g4, ⟨rVsC_k h2.1 G hV h04, rVsM_k h2.2 G hV h22⟩, ⟨⟨g1, by omega, fun s hs => ?_, fun i hi => ?_⟩, ⟨g2, by omega, fun s hs => ?_, fun i hi => ?_⟩⟩, rRow_k h4 G ?_ ?_ ?_, ⟨rTd_k h5.1 G hV ?_ ?_ ?_ ?_ ?_ ?_, rTo_k h5.2 G ?_ ?_⟩, rBw_k h6 G ?_ ?_, rMK_k h7 G hV ?_ ?_ ?_ ?_ ?_⟩
  · rw [(G 8 s (hS _ _ (by unfold kB kA; omega))).1]; exact h3.1.2.2.1 s hs
  · by_cases hin : i = c
    · subst hin; simp only [if_true]; exact hwC
    · simp only [if_neg hin]
      exact rWC_fr (h3.1.2.2.2 i (by omega)) G (fun b j k1 k2 => hK b j (.inl (by omega)))
  · rw [(G 107 s (hS _ _ (by unfold kB kA; omega))).1]; exact h3.2.2.2.1 s hs
  · by_cases hin : i = c
    · subst hin; simp only [if_true]; exact hwM
    · simp only [if_neg hin]
      exact rWM_loc (h3.2.2.2.2 i (by omega)) G (hK _ _ (.inr (.inr (.inl ⟨rfl, by omega⟩)))) (fun b j k1 k2 k3 k4 => hK b j (.inr (.inl ⟨k1, k2, by omega⟩))) (fun b j k1 k2 k3 k4 => hK b j (.inr (.inr (.inr ⟨k1, k2, by omega⟩))))
  all_goals (intros; refine hS _ _ ?_; unfold kB kA; omega)
theorem alV {n : Nat} (h : n < 5) : q_al (71 + 4 * n + 1) = 16 ∧ q_al (71 + 4 * n + 2) = 24 ∧ q_al (71 + 4 * n + 3) = 20 := by
  have : n = 0 ∨ n = 1 ∨ n = 2 ∨ n = 3 ∨ n = 4 := by omega
  rcases this with rfl | rfl | rfl | rfl | rfl <;> decide
/-- reading a village: the class into the next, the reference into slot m of whatever memory holds the tape -/
theorem rd_V {M : qM} {n : Nat} {vs : Nat → vT} {c : Nat} {wo : Nat → Nat} {Ws : Nat → wW} {τ : tT} {m : Nat} (h : RA n vs c wo Ws τ M) (hm : m < 5) : ∃ r M1, jVr_read (71 + 4 * n) M = some (r, M1) ∧ fr (vrC (71 + 4 * n)) M M1 ∧ ∀ N, rTM N τ → ∃ N2, jMd_readVillage (nI m) N = some (r, N2) ∧ fr (vrM m) N N2 ∧ (r = -1 → ∃ v, rVC M1 (71 + 4 * n) v ∧ rVM N2 m v) := by
  have hn := h.2.1.1.1
  obtain ⟨a1, a2, a3⟩ := alV (n := n) (by omega)
  obtain ⟨⟨r, M1⟩, o', e1, _, _, f1, _⟩ := village_rd (k := 71 + 4 * n) (n := m) h.1.1 (by omega) hm a1 a2 a3 h.1.2.1 h.1.2.2
  refine ⟨r, M1, e1, f1, fun N hN => ?_⟩
  obtain ⟨p, ⟨r', N2⟩, e3, e4, g1, g2, g3, g4⟩ := village_rd (k := 71 + 4 * n) (n := m) h.1.1 (by omega) hm a1 a2 a3 h.1.2.1 hN
  have : p = (r, M1) := Option.some.inj (e3.symm.trans e1)
  subst this
  have g1 : r = r' := g1
  subst g1
  exact ⟨N2, e4, g3, g4⟩
theorem rd_W {M : qM} {n : Nat} {vs : Nat → vT} {c : Nat} {wo : Nat → Nat} {Ws : Nat → wW} {τ : tT} {m : Nat} (h : RA n vs c wo Ws τ M) (hm : m < 7) : ∃ r M1, jWr_read (12 + 3 * c) M = some (r, M1) ∧ fr (wrC (12 + 3 * c)) M M1 ∧ ∀ N, rTM N τ → ∃ N2, jMd_readWay (nI m) N = some (r, N2) ∧ fr (wrM m) N N2 ∧ (r = -1 → ∃ W, rWC M1 (12 + 3 * c) W ∧ rWM N2 m W) := by
  have hc := h.2.2.1.1.2.1
  obtain ⟨⟨r, M1⟩, o', e1, _, _, f1, _⟩ := way_rd (k := 12 + 3 * c) (n := m) h.1.1 (by omega) hm h.1.2.1 h.1.2.2
  refine ⟨r, M1, e1, f1, fun N hN => ?_⟩
  obtain ⟨p, ⟨r', N2⟩, e3, e4, g1, g2, g3, g4⟩ := way_rd (k := 12 + 3 * c) (n := m) h.1.1 (by omega) hm h.1.2.1 hN
  have : p = (r, M1) := Option.some.inj (e3.symm.trans e1)
  subst this
  have g1 : r = r' := g1
  subst g1
  exact ⟨N2, e4, g3, g4⟩
theorem fault_0 {M : qM} {n : Nat} {vs : Nat → vT} {c : Nat} {wo : Nat → Nat} {Ws : Nat → wW} {τ : tT} {r : Int32} {M1 : qM} (h : RA n vs c wo Ws τ M) (e : jVr_read (71 + 4 * n) M = some (r, M1)) : jTc_fault 0 M = some (r, M1) := by
  have hn := h.2.1.1.1
  show ((qix 5 (M.1 0 4)).bind fun t6 => (jVr_read (71 + 4 * t6) M).bind fun w7 => qu2 w7 fun r8 M9 => some (r8, M9)) = _
  rw [h.2.1.1.2.1, qix_nI (by omega) (by decide), Option.bind_some, e]
  rfl
theorem fault_1 {M : qM} {n : Nat} {vs : Nat → vT} {c : Nat} {wo : Nat → Nat} {Ws : Nat → wW} {τ : tT} {r : Int32} {M1 : qM} (h : RA n vs c wo Ws τ M) (e : jWr_read (12 + 3 * c) M = some (r, M1)) : jTc_fault 1 M = some (r, M1) := by
  have hc := h.2.2.1.1.2.1
  have e1 : jCu_spare M = some (some (12 + 3 * c)) := by
    unfold jCu_spare
    rw [h.2.2.1.1.1]
    have : jminI (nI c) 6 = nI c := by
      have h' : c = 0 ∨ c = 1 ∨ c = 2 ∨ c = 3 ∨ c = 4 ∨ c = 5 ∨ c = 6 := by omega
      rcases h' with rfl | rfl | rfl | rfl | rfl | rfl | rfl <;> decide
    rw [this, qix_nI (by omega) (by decide)]
    rfl
  show ((jCu_spare M).bind fun r1 => (r1).bind fun a2 => qgd (q_way a2) ((jWr_read a2 M).bind fun w3 => qu2 w3 fun r4 M5 => some (r4, M5))) = _
  rw [e1, Option.bind_some, Option.bind_some]
  unfold qgd
  rw [q_way_ix (by omega), e]
  rfl
theorem r_fault {M : qM} (h : RR M) (a : Int32) : stp (jTc_fault a) (jMd_fault a) M := by
  obtain ⟨n, vs, c, wo, Ws, τ, hA⟩ := h
  have hn := hA.2.1.1.1
  have hc := hA.2.2.1.1.2.1
  by_cases h0 : a = 0
  · subst h0
    obtain ⟨r, M1, e1, f1, hN⟩ := rd_V (m := 4) hA (by omega)
    obtain ⟨M2, e2, f2, _⟩ := hN M1 (rTM_fr hA.1.2.2 f1 (by unfold vrC aC; omega) (by unfold vrC aC; intro j; omega))
    refine ⟨r, M1, M2, fault_0 hA e1, ?_, RR_fr hA ((f1.mono (fun _ _ h => .inl h)).tr (f2.mono (fun _ _ h => .inr h))) (S := fun b j => vrC (71 + 4 * n) b j ∨ vrM 4 b j) ?_⟩
    · show (((jMd_readVillage (nI 4) M1).bind fun w7 => qu2 w7 fun r8 M9 => some (r8, M9)).bind fun w3 => qu2 w3 fun x1 M2 => some (x1, M2)) = _
      rw [e2]
      rfl
    · intro b j hb
      unfold kA kV kCu at hb
      unfold vrC vrM aC aM
      omega
  · by_cases h1 : a = 1
    · subst h1
      obtain ⟨r, M1, e1, f1, hN⟩ := rd_W (m := 6) hA (by omega)
      obtain ⟨M2, e2, f2, _⟩ := hN M1 (rTM_fr hA.1.2.2 f1 (by unfold wrC; omega) (by unfold wrC; intro j; omega))
      refine ⟨r, M1, M2, fault_1 hA e1, ?_, RR_fr hA ((f1.mono (fun _ _ h => .inl h)).tr (f2.mono (fun _ _ h => .inr h))) (S := fun b j => wrC (12 + 3 * c) b j ∨ wrM 6 b j) ?_⟩
      · show (((jMd_readWay (nI 6) M1).bind fun w7 => qu2 w7 fun r8 M9 => some (r8, M9)).bind fun w3 => qu2 w3 fun x1 M2 => some (x1, M2)) = _
        rw [e2]
        rfl
      · intro b j hb
        unfold kA kV kCu at hb
        unfold wrC wrM
        omega
    · refine ⟨-2, M, M, ?_, ?_, n, vs, c, wo, Ws, τ, hA⟩
      · unfold jTc_fault
        rw [if_neg h0, if_neg h1]
      · unfold jMd_fault
        rw [if_neg h0, if_neg h1]
        rfl
theorem r_text {M : qM} (h : RR M) (a : Int32) : stp (jTc_text a) (jMd_text a) M := by
  obtain ⟨n, vs, c, wo, Ws, τ, hA⟩ := h
  have hn := hA.2.1.1.1
  have hc := hA.2.2.1.1.2.1
  have h22 : M.1 91 22 = nI n := hA.2.1.2.2.1
  have h04 : M.1 0 4 = nI n := hA.2.1.1.2.1
  have h61 : M.1 6 1 = nI c := hA.2.2.1.1.1
  have h13 : M.1 91 13 = nI c := hA.2.2.1.2.1
  by_cases h0 : a = 0
  · subst h0
    obtain ⟨r, M1, e1, f1, hN⟩ := rd_V (m := n) hA (by omega)
    have q04 : M1.1 0 4 = nI n := by rw [(f1 0 4 (by unfold vrC aC; omega)).1]; exact h04
    have q22 : M1.1 91 22 = nI n := by rw [(f1 91 22 (by unfold vrC aC; omega)).1]; exact h22
    have qM1 : rTM M1 τ := rTM_fr hA.1.2.2 f1 (by unfold vrC aC; omega) (by unfold vrC aC; intro j; omega)
    have eC : jTc_text 0 M = (if (r : Int32) = ((-1) : Int32) then (if (nI n : Int32) < 4 then some (nI n, qI (qI M1 0 4 (nI (n + 1))) 1 1 0) else some ((-1), M1)) else some ((-1), M1)) := by
      show ((jTc_fault 0 M).bind fun w1 => qu2 w1 fun r2 M3 => if (r2 : Int32) = ((-1) : Int32) then (if (M3.1 0 4 : Int32) < 4 then some (M3.1 0 4, qI (qI M3 0 4 ((M3.1 0 4) + 1)) 1 1 0) else some ((-1), M3)) else some ((-1), M3)) = _
      rw [fault_0 hA e1, Option.bind_some]
      unfold qu2
      simp only
      rw [q04, nI_1]
    have eM0 : ∀ N : qM, jMd_text 0 N = (if (if (4 : Int32) ≤ (N.1 91 22 : Int32) then false else true) = true then ((jMd_readVillage (N.1 91 22) N).bind fun w2 => qu2 w2 fun r3 M4 => if (r3 : Int32) = ((-1) : Int32) then some ((qI (qI M4 91 2 0) 91 22 ((qI M4 91 2 0).1 91 22 + 1)).1 91 22 - 1, qI (qI M4 91 2 0) 91 22 ((qI M4 91 2 0).1 91 22 + 1)) else some ((-1), M4)) else some ((-1), N)) := fun _ => rfl
    by_cases h4 : n < 4
    · have hz : ((if (4 : Int32) ≤ nI n then false else true) : Bool) = true := by rw [if_neg (by rw [show (4 : Int32) = nI 4 from rfl, nI_leI (by omega) (by omega)]; omega)]
      rw [if_pos (show nI n < (4 : Int32) from nI_lt (b := 4) h4 (by omega))] at eC
      by_cases hr : r = -1
      · rw [if_pos hr] at eC
        have fN : fr (fun b j => (b = 0 ∧ j = 4) ∨ (b = 1 ∧ j = 1)) M1 (qI (qI M1 0 4 (nI (n + 1))) 1 1 0) := (fr_I (.inl ⟨rfl, rfl⟩)).tr (fr_I (.inr ⟨rfl, rfl⟩))
        have w04 : (qI (qI M1 0 4 (nI (n + 1))) 1 1 0).1 0 4 = nI (n + 1) := by simp [qI_1]
        have w11 : (qI (qI M1 0 4 (nI (n + 1))) 1 1 0).1 1 1 = 0 := by simp [qI_1]
        generalize qI (qI M1 0 4 (nI (n + 1))) 1 1 0 = N1 at eC fN w04 w11
        obtain ⟨N2, e2, f2, hv⟩ := hN N1 (rTM_fr qM1 fN (by omega) (by intro j; omega))
        obtain ⟨v, v1, v2⟩ := hv hr
        have w22 : N1.1 91 22 = nI n := by rw [(fN 91 22 (by omega)).1]; exact q22
        have x22 : N2.1 91 22 = nI n := by rw [(f2 91 22 (by unfold vrM aM; omega)).1]; exact w22
        have eM1 : jMd_text 0 N1 = some (nI n, qI (qI N2 91 2 0) 91 22 (nI (n + 1))) := by
          rw [eM0, w22, if_pos hz, e2, Option.bind_some]
          refine (if_pos hr).trans ?_
          have y1 : (qI N2 91 2 0).1 91 22 + 1 = nI (n + 1) := by rw [qI_1, if_neg (by omega), x22, nI_1]
          rw [y1, qI_1, if_pos ⟨rfl, rfl⟩, show (1 : Int32) = nI 1 from rfl, nI_subE (by omega)]
          rfl
        refine ⟨nI n, N1, _, eC, eM1, ?_⟩
        have G : fr (fun b j => vrC (71 + 4 * n) b j ∨ vrM n b j ∨ (b = 0 ∧ j = 4) ∨ (b = 1 ∧ j = 1) ∨ (b = 91 ∧ (j = 2 ∨ j = 22))) M (qI (qI N2 91 2 0) 91 22 (nI (n + 1))) :=
          (f1.mono (fun _ _ h => .inl h)).tr ((fN.mono (fun b j h => by rcases h with h | h; exact .inr (.inr (.inl h)); exact .inr (.inr (.inr (.inl h))))).tr ((f2.mono (fun _ _ h => .inr (.inl h))).tr ((fr_I (.inr (.inr (.inr (.inr ⟨rfl, .inl rfl⟩))))).tr (fr_I (.inr (.inr (.inr (.inr ⟨rfl, .inr rfl⟩))))))))
        have fE : fr (fun b j => b = 91) N2 (qI (qI N2 91 2 0) 91 22 (nI (n + 1))) := (fr_I (S := fun b _ => b = 91) rfl).tr (fr_I (S := fun b _ => b = 91) rfl)
        refine RA_addV (v := v) hA h4 G ?_ ?_ ?_ ?_ ?_ ?_ ?_ ?_ ?_
        · intro b j hb
          unfold kB kA kV kCu at hb
          unfold vrC vrM aC aM
          omega
        · unfold vrC vrM aC aM; omega
        · unfold vrC vrM aC aM; omega
        · exact rVC_fr (rVC_fr (rVC_fr v1 fN (fun b j k1 k2 => by omega)) f2 (fun b j k1 k2 => by unfold vrM aM; omega)) fE (fun b j k1 k2 => by omega)
        · exact rVM_fr v2 fE (fun b j k1 k2 => by omega)
        · rw [(fE 0 4 (by omega)).1, (f2 0 4 (by unfold vrM aM; omega)).1]; exact w04
        · rw [qI_1, if_pos ⟨rfl, rfl⟩]
        · rw [(fE 1 1 (by omega)).1, (f2 1 1 (by unfold vrM aM; omega)).1]; exact w11
        · simp [qI_1]
      · rw [if_neg hr] at eC
        obtain ⟨M2, e2, f2, _⟩ := hN M1 qM1
        have eM1 : jMd_text 0 M1 = some (-1, M2) := by
          rw [eM0, q22, if_pos hz, e2, Option.bind_some]
          exact if_neg hr
        refine ⟨-1, M1, M2, eC, eM1, RR_fr hA ((f1.mono (fun _ _ h => .inl h)).tr (f2.mono (fun _ _ h => .inr h))) (S := fun b j => vrC (71 + 4 * n) b j ∨ vrM n b j) ?_⟩
        intro b j hb
        unfold kA kV kCu at hb
        unfold vrC vrM aC aM
        omega
    · have eC1 : jTc_text 0 M = some (-1, M1) := by
        rw [eC]
        by_cases hr : r = -1
        · rw [if_pos hr, if_neg (by rw [show (4 : Int32) = nI 4 from rfl, nI_ltI (by omega) (by omega)]; exact h4)]
        · rw [if_neg hr]
      have eM1 : jMd_text 0 M1 = some (-1, M1) := by
        rw [eM0, q22, if_neg]
        rw [if_pos (show (4 : Int32) ≤ nI n from nI_le (a := 4) (by omega) (by omega))]
        decide
      refine ⟨-1, M1, M1, eC1, eM1, RR_fr hA f1 ?_⟩
      intro b j hb
      unfold kA kV kCu at hb
      unfold vrC aC
      omega
  · by_cases h1 : a = 1
    · subst h1
      obtain ⟨r, M1, e1, f1, hN⟩ := rd_W (m := c) hA (by omega)
      have q61 : M1.1 6 1 = nI c := by rw [(f1 6 1 (by unfold wrC; omega)).1]; exact h61
      have q13 : M1.1 91 13 = nI c := by rw [(f1 91 13 (by unfold wrC; omega)).1]; exact h13
      have qM1 : rTM M1 τ := rTM_fr hA.1.2.2 f1 (by unfold wrC; omega) (by unfold wrC; intro j; omega)
      have eC : jTc_text 1 M = (if (r : Int32) = ((-1) : Int32) then (if (nI c : Int32) < 6 then some (nI c, qI (qI M1 6 1 (nI (c + 1))) 1 1 0) else some ((-1), M1)) else some ((-1), M1)) := by
        show ((jTc_fault 1 M).bind fun w1 => qu2 w1 fun r2 M3 => if (r2 : Int32) = ((-1) : Int32) then (if (M3.1 6 1 : Int32) < 6 then some (M3.1 6 1, qI (qI M3 6 1 ((M3.1 6 1) + 1)) 1 1 0) else some ((-1), M3)) else some ((-1), M3)) = _
        rw [fault_1 hA e1, Option.bind_some]
        unfold qu2
        simp only
        rw [q61, nI_1]
      have eM0 : ∀ N : qM, jMd_text 1 N = (if (6 : Int32) ≤ (N.1 91 13 : Int32) then some ((-1), N) else ((jMd_readWay (N.1 91 13) N).bind fun w2 => qu2 w2 fun r3 M4 => if (r3 : Int32) = ((-1) : Int32) then some ((qI (qI M4 91 2 0) 91 13 ((qI M4 91 2 0).1 91 13 + 1)).1 91 13 - 1, qI (qI M4 91 2 0) 91 13 ((qI M4 91 2 0).1 91 13 + 1)) else some ((-1), M4))) := fun _ => rfl
      by_cases h6 : c < 6
      · have hz : ¬ (6 : Int32) ≤ nI c := by rw [show (6 : Int32) = nI 6 from rfl, nI_leI (by omega) (by omega)]; omega
        rw [if_pos (show nI c < (6 : Int32) from nI_lt (b := 6) h6 (by omega))] at eC
        by_cases hr : r = -1
        · rw [if_pos hr] at eC
          have fN : fr (fun b j => (b = 6 ∧ j = 1) ∨ (b = 1 ∧ j = 1)) M1 (qI (qI M1 6 1 (nI (c + 1))) 1 1 0) := (fr_I (.inl ⟨rfl, rfl⟩)).tr (fr_I (.inr ⟨rfl, rfl⟩))
          have w04 : (qI (qI M1 6 1 (nI (c + 1))) 1 1 0).1 6 1 = nI (c + 1) := by simp [qI_1]
          have w11 : (qI (qI M1 6 1 (nI (c + 1))) 1 1 0).1 1 1 = 0 := by simp [qI_1]
          generalize qI (qI M1 6 1 (nI (c + 1))) 1 1 0 = N1 at eC fN w04 w11
          obtain ⟨N2, e2, f2, hv⟩ := hN N1 (rTM_fr qM1 fN (by omega) (by intro j; omega))
          obtain ⟨v, v1, v2⟩ := hv hr
          have w22 : N1.1 91 13 = nI c := by rw [(fN 91 13 (by omega)).1]; exact q13
          have x22 : N2.1 91 13 = nI c := by rw [(f2 91 13 (by unfold wrM; omega)).1]; exact w22
          have eM1 : jMd_text 1 N1 = some (nI c, qI (qI N2 91 2 0) 91 13 (nI (c + 1))) := by
            rw [eM0, w22, if_neg hz, e2, Option.bind_some]
            refine (if_pos hr).trans ?_
            have y1 : (qI N2 91 2 0).1 91 13 + 1 = nI (c + 1) := by rw [qI_1, if_neg (by omega), x22, nI_1]
            rw [y1, qI_1, if_pos ⟨rfl, rfl⟩, show (1 : Int32) = nI 1 from rfl, nI_subE (by omega)]
            rfl
          refine ⟨nI c, N1, _, eC, eM1, ?_⟩
          have G : fr (fun b j => wrC (12 + 3 * c) b j ∨ wrM c b j ∨ (b = 6 ∧ j = 1) ∨ (b = 1 ∧ j = 1) ∨ (b = 91 ∧ (j = 2 ∨ j = 13))) M (qI (qI N2 91 2 0) 91 13 (nI (c + 1))) :=
            (f1.mono (fun _ _ h => .inl h)).tr ((fN.mono (fun b j h => by rcases h with h | h; exact .inr (.inr (.inl h)); exact .inr (.inr (.inr (.inl h))))).tr ((f2.mono (fun _ _ h => .inr (.inl h))).tr ((fr_I (.inr (.inr (.inr (.inr ⟨rfl, .inl rfl⟩))))).tr (fr_I (.inr (.inr (.inr (.inr ⟨rfl, .inr rfl⟩))))))))
          have fE : fr (fun b j => b = 91) N2 (qI (qI N2 91 2 0) 91 13 (nI (c + 1))) := (fr_I (S := fun b _ => b = 91) rfl).tr (fr_I (S := fun b _ => b = 91) rfl)
          refine RA_addW (W := v) hA h6 G ?_ ?_ ?_ ?_ ?_ ?_ ?_ ?_ ?_
          · intro b j hb
            unfold kB kA kV kCu at hb
            unfold wrC wrM
            omega
          · unfold wrC wrM; omega
          · unfold wrC wrM; omega
          · exact rWC_fr (rWC_fr (rWC_fr v1 fN (fun b j k1 k2 => by omega)) f2 (fun b j k1 k2 => by unfold wrM; omega)) fE (fun b j k1 k2 => by omega)
          · exact rWM_fr v2 fE (fun b j k1 k2 => by omega)
          · rw [(fE 6 1 (by omega)).1, (f2 6 1 (by unfold wrM; omega)).1]; exact w04
          · rw [qI_1, if_pos ⟨rfl, rfl⟩]
          · rw [(fE 1 1 (by omega)).1, (f2 1 1 (by unfold wrM; omega)).1]; exact w11
          · simp [qI_1]
        · rw [if_neg hr] at eC
          obtain ⟨M2, e2, f2, _⟩ := hN M1 qM1
          have eM1 : jMd_text 1 M1 = some (-1, M2) := by
            rw [eM0, q13, if_neg hz, e2, Option.bind_some]
            exact if_neg hr
          refine ⟨-1, M1, M2, eC, eM1, RR_fr hA ((f1.mono (fun _ _ h => .inl h)).tr (f2.mono (fun _ _ h => .inr h))) (S := fun b j => wrC (12 + 3 * c) b j ∨ wrM c b j) ?_⟩
          intro b j hb
          unfold kA kV kCu at hb
          unfold wrC wrM
          omega
      · have eC1 : jTc_text 1 M = some (-1, M1) := by
          rw [eC]
          by_cases hr : r = -1
          · rw [if_pos hr, if_neg (by rw [show (6 : Int32) = nI 6 from rfl, nI_ltI (by omega) (by omega)]; exact h6)]
          · rw [if_neg hr]
        have eM1 : jMd_text 1 M1 = some (-1, M1) := by
          rw [eM0, q13, if_pos (show (6 : Int32) ≤ nI c from nI_le (a := 6) (by omega) (by omega))]
        refine ⟨-1, M1, M1, eC1, eM1, RR_fr hA f1 ?_⟩
        intro b j hb
        unfold kA kV kCu at hb
        unfold wrC
        omega
    · refine ⟨-1, M, M, ?_, ?_, n, vs, c, wo, Ws, τ, hA⟩
      · unfold jTc_text jTc_fault
        rw [if_neg h0, if_neg h1]
        rfl
      · unfold jMd_text
        simp only [qlt]
        rw [if_neg h0, if_neg h1]
        rfl
