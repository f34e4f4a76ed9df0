/-! ===== the reference's minutes ===== -/
theorem dten_nn (d : Int64) : ¬ dten d < 0 := by
  rw [dten_eq]
  have hs : ((33 : Int32).toInt64.toUInt64 &&& Int64.toUInt64 63) = 33 := by decide
  rw [hs]
  have hu : ∃ n : Nat, n < 2147483648 ∧ (d.toUInt64 >>> 33).toInt64 = lN n := by
    refine ⟨(d.toUInt64 >>> 33).toNat, ?_, ?_⟩
    · have h1 : (d.toUInt64 >>> 33).toNat = d.toUInt64.toNat >>> 33 := by
        rw [UInt64.toNat_shiftRight]
        rfl
      rw [h1, Nat.shiftRight_eq_div_pow]
      have h2 := d.toUInt64.toNat_lt
      omega
    · apply Int64.toBitVec_inj.mp
      show (d.toUInt64 >>> 33).toBitVec = _
      unfold lN
      rw [Int64.toBitVec_ofNat']
      apply BitVec.eq_of_toNat_eq
      rw [BitVec.toNat_ofNat]
      have h2 := (d.toUInt64 >>> 33).toNat_lt
      rw [Nat.mod_eq_of_lt h2]
      rfl
  obtain ⟨n, hn, e⟩ := hu
  rw [e]
  have hdv : lN n / 10 = lN (n / 10) := by
    have := lN_div (a := n) (b := 10) (by omega) (by omega) (by omega)
    unfold qdvJ at this
    rw [if_neg (by decide)] at this
    exact Option.some.inj this
  rw [hdv, show (10 : Int64) = lN 10 from rfl, lN_mul, lN_sub (by omega), lN_i]
  exact nI_pos (by omega)
theorem wp_u2 {A B β : Type} {a : A} {b : B} {k : A → B → Option β} {Q : β → Prop} (h : wp (k a b) Q) : wp (qu2 (a, b) k) Q := h
def fzM (v : vT) (fz : Nat → Bool) (fo st : Int32) : Prop := ∀ p, p < vP v → (fz p = true ↔ (jMd_has fo (nI p) = true ∨ vSi v (vof v p) 3 = 0 ∨ nI (vof v p) = st))
theorem sMm_cu {M M1 : qM} {c : Nat} {wo : Nat → Nat} {Ws : Nat → wW} (h : cuM M c wo Ws) (g : fr sMm M M1) : cuM M1 c wo Ws :=
  cuM_fr h g (fun b j hb => by unfold sMm; omega)
theorem mmD_fr {M M1 : qM} {v : vT} {σ : mS} (h : mmD M v σ) (g : fr (fun b _ => b = 100 ∨ b = 101) M M1) : mmD M1 v σ := by
  obtain ⟨d1, d2, d3, d4, d5, d6⟩ := h
  refine ⟨by rw [(g 91 35 (by simp)).2.1]; exact d1, by rw [(g 91 30 (by simp)).1]; exact d2, by rw [(g 91 31 (by simp)).1]; exact d3, by rw [(g 91 34 (by simp)).1]; exact d4, fun p hp => ?_, d6⟩
  rw [(g 108 p (by simp)).1, (g 109 p (by simp)).1, (g 110 p (by simp)).1]
  exact d5 p hp
theorem mmD_draw {M : qM} {v : vT} {σ : mS} (h : mmD M v σ) (d : Int64) : mmD (qJ M 91 35 d) v (setD σ d) := by
  obtain ⟨d1, d2, d3, d4, d5, d6⟩ := h
  exact ⟨by rw [qJ_21, if_pos ⟨rfl, rfl⟩]; rfl, d2, d3, d4, d5, d6⟩
theorem waitP {M : qM} {i : Nat} {v : vT} {t lk nth p : Nat} {fo st : Int32} {σ : mS} (h : mmS M i v t lk nth fo st) (hD : mmD M v σ) (hp : p < vP v) (hw : sW σ p = -1) : jMd_waiting (nI p) (nI (vof v p)) M = some (nI (wtS v σ (vof v p) - 1)) ∧ jMd_waiting (nI p) (-1) M = some (nI (wtn v σ - 1)) := by
  have h20 := h.1.1.2.2.1
  have hs6 := h.1.1.2.1
  have hvo := (vof_spec hp).1
  refine ⟨?_, ?_⟩
  · rw [nI_iI p, nI_iI (vof v p), waiting_eq h hD ⟨by omega, by omega⟩ ⟨by omega, by omega⟩]
    have e : wtS v σ (vof v p) = cnt (fun q => decide ((q : Int) ≠ p ∧ sW σ q = -1 ∧ ((vof v p : Int) = -1 ∨ (vof v q : Int) = vof v p))) (vP v) + 1 := by
      unfold wtS
      refine cnt_upd hp (fun q hq => ?_) ?_ ?_
      · exact decide_eq_decide.mpr (by constructor <;> (intro hh; omega))
      · exact decide_eq_false (by omega)
      · exact decide_eq_true ⟨hw, rfl⟩
    rw [e]
    rfl
  · rw [nI_iI p, show (-1 : Int32) = iI (-1) from rfl, waiting_eq h hD ⟨by omega, by omega⟩ ⟨by omega, by omega⟩]
    have e : wtn v σ = cnt (fun q => decide ((q : Int) ≠ p ∧ sW σ q = -1 ∧ ((-1 : Int) = -1 ∨ (vof v q : Int) = -1))) (vP v) + 1 := by
      unfold wtn
      refine cnt_upd hp (fun q hq => ?_) ?_ ?_
      · exact decide_eq_decide.mpr (by constructor <;> (intro hh; omega))
      · exact decide_eq_false (by omega)
      · exact decide_eq_true hw
    rw [e]
    rfl
theorem goesNow_wp {M : qM} {i : Nat} {v : vT} {t lk nth p : Nat} {fo st : Int32} {σ : mS} {fz : Nat → Bool} {c : Nat} {wo : Nat → Nat} {Ws : Nat → wW} (hS : mmS M i v t lk nth fo st) (hD : mmD M v σ) (hcu : cuM M c wo Ws) (hf : fzM v fz fo st) (hp : p < vP v) (hw : sW σ p = -1) :
    wp (jMd_goesNow (nI p) M) (fun r => r.1 = (goS v t lk nth fz (vlS c wo Ws) σ p).1 ∧ mmD r.2 v (goS v t lk nth fz (vlS c wo Ws) σ p).2 ∧ fr sMm M r.2) := by
  have hv := hS.1.1
  have h20 := hv.2.2.1
  have hs6 := hv.2.1
  have hi5 := hS.2.1
  have hvo := (vof_spec hp).1
  have hkn := (hv.2.2.2.2 _ hvo).2.2.2
  have hT := hv.2.2.2.1 t hS.2.2.1
  have hfp := hf p hp
  have hfx : ∀ b, fz p = b → b = true → wp (some (true, M)) (fun r : Bool × qM => r.1 = (goS v t lk nth fz (vlS c wo Ws) σ p).1 ∧ mmD r.2 v (goS v t lk nth fz (vlS c wo Ws) σ p).2 ∧ fr sMm M r.2) := by
    intro b h1 h2
    have hg : goS v t lk nth fz (vlS c wo Ws) σ p = (true, σ) := by
      unfold goS
      rw [if_pos (by rw [h1, h2])]
    rw [hg]
    exact wp_some ⟨rfl, hD, fr_rf _ _⟩
  unfold jMd_goesNow
  rw [hS.2.2.2.2.2.1, hS.2.2.2.2.2.2.2.2.2.1, hS.2.2.2.2.2.2.2.2.2.2]
  refine wp_be (sortOf_eq hS.1 hi5 hp) ?_
  refine wp_if (fun c1 => ?_) (fun c1 => ?_) <;> rw [b2i_0] at c1
  · refine wp_be (sortAt_eq (w := 3) hS.1 hi5 hvo (by decide)) ?_
    refine wp_if (fun c2 => ?_) (fun c2 => ?_)
    · have c2 := (nI_eq (b := 0) (by omega) (by omega)).mp c2
      exact hfx _ rfl (hfp.mpr (Or.inr (Or.inl c2)))
    · refine wp_if (fun c3 => ?_) (fun c3 => ?_)
      · exact hfx _ rfl (hfp.mpr (Or.inr (Or.inr c3)))
      · have hfq : fz p = false := by
          rw [← Bool.not_eq_true, hfp]
          rintro (h | h | h)
          · rw [c1] at h; cases h
          · exact c2 (by rw [h]; rfl)
          · exact c3 h
        have hdr : jMd_draw M = (dten (drw (sD σ)), qJ M 91 35 (drw (sD σ))) := by
          unfold jMd_draw
          simp only [qlt]
          rw [hD.1, ← drw_eq, qJ_21, if_pos ⟨rfl, rfl⟩, ← dten_eq]
        have hg : goS v t lk nth fz (vlS c wo Ws) σ p = (decide (dten (drw (sD σ)) < vlS c wo Ws (vof v p) (ltS v t lk nth σ (vof v p))), setD σ (drw (sD σ))) := by
          unfold goS
          rw [if_neg (by rw [hfq]; decide)]
        have hg1 : (goS v t lk nth fz (vlS c wo Ws) σ p).1 = decide (dten (drw (sD σ)) < vlS c wo Ws (vof v p) (ltS v t lk nth σ (vof v p))) := by rw [hg]
        have hg2 : (goS v t lk nth fz (vlS c wo Ws) σ p).2 = setD σ (drw (sD σ)) := by rw [hg]
        clear hg hfx
        rw [hdr, hg2]
        clear hg2 hdr
        generalize (goS v t lk nth fz (vlS c wo Ws) σ p).1 = gb at hg1 ⊢
        have hnn := dten_nn (drw (sD σ))
        generalize dten (drw (sD σ)) = dt at hnn hg1 ⊢
        have hD5 := mmD_draw hD (drw (sD σ))
        have hfr5 : fr sMm M (qJ M 91 35 (drw (sD σ))) := fr_J (by simp [sMm])
        have hlt : ltS v t lk nth σ (vof v p) = ltS v t lk nth (setD σ (drw (sD σ))) (vof v p) := (ltS_D v t lk nth σ _ _).symm
        rw [hlt] at hg1
        clear hlt
        have hwτ : sW (setD σ (drw (sD σ))) p = -1 := hw
        generalize setD σ (drw (sD σ)) = τ at hg1 hD5 hwτ ⊢
        have hcu5 := sMm_cu hcu hfr5
        have hS5 := mmS_fr hS hfr5
        generalize qJ M 91 35 (drw (sD σ)) = N at hD5 hfr5 hcu5 hS5 ⊢
        refine wp_lt ?_
        rintro _ rfl
        refine wp_u2 ?_
        have hwo := hcu5.2.2.1 (vof v p) (by omega)
        have q6 : ∀ N', fr (fun b _ => b = 100) N N' → qrI N' 107 6 (nI (vof v p)) = some (nI (wo (vof v p))) := by
          intro N' g
          rw [qrI_nI (by omega) (by omega), (g 107 _ (by simp)).1, hwo.1]
        refine wp_be (q6 N (fr_rf _ _)) ?_
        rw [hcu5.1]
        have hc6 := hcu5.2.1
        have hmi := hD5.2.2.2.2.2.2.2.2.2
        have hlk := hS5.2.2.2.2.1
        have hpos := wtn_pos (σ := τ) hp hwτ
        refine wp_if (fun c4 => ?_) (fun c4 => ?_)
        · have c4 := (nI_ltI (by omega) (by omega)).mp c4
          have S1 : ∀ N', fr (fun b _ => b = 100) N N' → mmS N' i v t lk nth fo st ∧ mmD N' v τ := by
            intro N' g
            exact ⟨mmS_fr hS5 (g.mono (fun b j h => by unfold sMm; omega)), mmD_fr hD5 (g.mono (fun b j h => Or.inl h))⟩
          have step : ∀ (N' : qM) (j : Nat) (x : Int32), j < 8 → qwI N' 100 8 (nI j) x = some (qI N' 100 j x) := fun N' j x hj => qwI_nI hj (by omega)
          have fI : ∀ (N' : qM) (j : Nat) (x : Int32), fr (fun b _ => b = 100) N N' → fr (fun b _ => b = 100) N (qI N' 100 j x) := fun N' j x g => g.tr (fr_I rfl)
          have g0 : fr (fun b _ => b = 100) N N := fr_rf _ _
          refine wp_be (step N 0 _ (by omega)) ?_
          rw [hD5.2.1]
          have g1 := fI N 0 (nI (sMi τ)) g0
          generalize hN1 : qI N 100 0 (nI (sMi τ)) = N1 at *
          have l0 : N1.1 100 0 = nI (sMi τ) := by rw [← hN1, qI_1, if_pos ⟨rfl, rfl⟩]
          refine wp_be (step N1 1 _ (by omega)) ?_
          rw [(S1 N1 g1).2.2.2.1]
          have g2 := fI N1 1 (nI (sCa τ)) g1
          generalize hN2 : qI N1 100 1 (nI (sCa τ)) = N2 at *
          have l1 : N2.1 100 1 = nI (sCa τ) := by rw [← hN2, qI_1, if_pos ⟨rfl, rfl⟩]
          have l0 : N2.1 100 0 = nI (sMi τ) := by rw [← hN2, qI_1, if_neg (by omega)]; exact l0
          have hx3 : wp (if N2.1 91 29 = 1 then (jMd_onWay N2).bind fun r26 => some r26 else some 0) (fun x => x = if lk = 0 then 0 else nI (onw v τ)) := by
            obtain ⟨s2, t2⟩ := S1 N2 g2
            rw [s2.2.2.2.2.2.2.2.1]
            refine wp_if (fun hz => ?_) (fun hz => ?_)
            · have hz : lk = 1 := (nI_eq (b := 1) (by omega) (by omega)).mp hz
              refine wp_be (onWay_eq s2 t2) (wp_some ?_)
              rw [if_neg (by omega)]
            · have hz : ¬ lk = 1 := fun e => hz (by rw [e]; rfl)
              exact wp_some (by rw [if_pos (show lk = 0 by omega)])
          refine wp_bd (hx3.mono ?_)
          rintro x3 rfl
          refine wp_be (step N2 2 _ (by omega)) ?_
          have g3 := fI N2 2 (if lk = 0 then 0 else nI (onw v τ)) g2
          generalize hN3 : qI N2 100 2 (if lk = 0 then 0 else nI (onw v τ)) = N3 at *
          have l2 : N3.1 100 2 = if lk = 0 then 0 else nI (onw v τ) := by rw [← hN3, qI_1, if_pos ⟨rfl, rfl⟩]
          have l1 : N3.1 100 1 = nI (sCa τ) := by rw [← hN3, qI_1, if_neg (by omega)]; exact l1
          have l0 : N3.1 100 0 = nI (sMi τ) := by rw [← hN3, qI_1, if_neg (by omega)]; exact l0
          refine wp_be (step N3 3 _ (by omega)) ?_
          rw [(S1 N3 g3).1.2.2.2.2.2.2.2.2.1]
          have g4 := fI N3 3 (nI nth) g3
          generalize hN4 : qI N3 100 3 (nI nth) = N4 at *
          have l3 : N4.1 100 3 = nI nth := by rw [← hN4, qI_1, if_pos ⟨rfl, rfl⟩]
          have l2 : N4.1 100 2 = if lk = 0 then 0 else nI (onw v τ) := by rw [← hN4, qI_1, if_neg (by omega)]; exact l2
          have l1 : N4.1 100 1 = nI (sCa τ) := by rw [← hN4, qI_1, if_neg (by omega)]; exact l1
          have l0 : N4.1 100 0 = nI (sMi τ) := by rw [← hN4, qI_1, if_neg (by omega)]; exact l0
          refine wp_be (waitP (S1 N4 g4).1 (S1 N4 g4).2 hp hwτ).1 ?_
          refine wp_be (step N4 4 _ (by omega)) ?_
          have g5 := fI N4 4 (nI (wtS v τ (vof v p) - 1)) g4
          generalize hN5 : qI N4 100 4 (nI (wtS v τ (vof v p) - 1)) = N5 at *
          have l4 : N5.1 100 4 = nI (wtS v τ (vof v p) - 1) := by rw [← hN5, qI_1, if_pos ⟨rfl, rfl⟩]
          have l3 : N5.1 100 3 = nI nth := by rw [← hN5, qI_1, if_neg (by omega)]; exact l3
          have l2 : N5.1 100 2 = if lk = 0 then 0 else nI (onw v τ) := by rw [← hN5, qI_1, if_neg (by omega)]; exact l2
          have l1 : N5.1 100 1 = nI (sCa τ) := by rw [← hN5, qI_1, if_neg (by omega)]; exact l1
          have l0 : N5.1 100 0 = nI (sMi τ) := by rw [← hN5, qI_1, if_neg (by omega)]; exact l0
          refine wp_be (waitP (S1 N5 g5).1 (S1 N5 g5).2 hp hwτ).2 ?_
          refine wp_be (step N5 5 _ (by omega)) ?_
          have g6 := fI N5 5 (nI (wtn v τ - 1)) g5
          generalize hN6 : qI N5 100 5 (nI (wtn v τ - 1)) = N6 at *
          have l5 : N6.1 100 5 = nI (wtn v τ - 1) := by rw [← hN6, qI_1, if_pos ⟨rfl, rfl⟩]
          have l4 : N6.1 100 4 = nI (wtS v τ (vof v p) - 1) := by rw [← hN6, qI_1, if_neg (by omega)]; exact l4
          have l3 : N6.1 100 3 = nI nth := by rw [← hN6, qI_1, if_neg (by omega)]; exact l3
          have l2 : N6.1 100 2 = if lk = 0 then 0 else nI (onw v τ) := by rw [← hN6, qI_1, if_neg (by omega)]; exact l2
          have l1 : N6.1 100 1 = nI (sCa τ) := by rw [← hN6, qI_1, if_neg (by omega)]; exact l1
          have l0 : N6.1 100 0 = nI (sMi τ) := by rw [← hN6, qI_1, if_neg (by omega)]; exact l0
          obtain ⟨s6, t6⟩ := S1 N6 g6
          rw [s6.2.2.2.2.2.1, s6.2.2.2.2.2.2.1, t6.2.1]
          refine wp_be (thingAt_eq (w := 2) s6.1 hi5 hS.2.2.1 (by decide)) ?_
          refine wp_be (thingAt_eq (w := 3) s6.1 hi5 hS.2.2.1 (by decide)) ?_
          have hmul : vTi v t 3 * sMi τ ≤ 99 * 61 := Nat.mul_le_mul (by omega) (by omega)
          rw [nI_mul, jmax_sub (by omega) (by omega)]
          refine wp_be (step N6 6 _ (by omega)) ?_
          have g7 := fI N6 6 (nI (vTi v t 2 - vTi v t 3 * sMi τ)) g6
          generalize hN7 : qI N6 100 6 (nI (vTi v t 2 - vTi v t 3 * sMi τ)) = N7 at *
          have l6 : N7.1 100 6 = nI (vTi v t 2 - vTi v t 3 * sMi τ) := by rw [← hN7, qI_1, if_pos ⟨rfl, rfl⟩]
          have l5 : N7.1 100 5 = nI (wtn v τ - 1) := by rw [← hN7, qI_1, if_neg (by omega)]; exact l5
          have l4 : N7.1 100 4 = nI (wtS v τ (vof v p) - 1) := by rw [← hN7, qI_1, if_neg (by omega)]; exact l4
          have l3 : N7.1 100 3 = nI nth := by rw [← hN7, qI_1, if_neg (by omega)]; exact l3
          have l2 : N7.1 100 2 = if lk = 0 then 0 else nI (onw v τ) := by rw [← hN7, qI_1, if_neg (by omega)]; exact l2
          have l1 : N7.1 100 1 = nI (sCa τ) := by rw [← hN7, qI_1, if_neg (by omega)]; exact l1
          have l0 : N7.1 100 0 = nI (sMi τ) := by rw [← hN7, qI_1, if_neg (by omega)]; exact l0
          obtain ⟨s7, t7⟩ := S1 N7 g7
          rw [s7.2.2.2.2.2.1]
          refine wp_be (sortAt_eq (w := 2) s7.1 hi5 hvo (by decide)) ?_
          refine wp_be (step N7 7 _ (by omega)) ?_
          have g8 := fI N7 7 (nI (vSi v (vof v p) 2)) g7
          have lall : ∀ j, j < 8 → (qI N7 100 7 (nI (vSi v (vof v p) 2))).1 100 j = ltS v t lk nth τ (vof v p) j := by
            intro j hj
            have : j = 0 ∨ j = 1 ∨ j = 2 ∨ j = 3 ∨ j = 4 ∨ j = 5 ∨ j = 6 ∨ j = 7 := by omega
            rcases this with rfl | rfl | rfl | rfl | rfl | rfl | rfl | rfl
            · rw [qI_1, if_neg (by omega), l0]; rfl
            · rw [qI_1, if_neg (by omega), l1]; rfl
            · rw [qI_1, if_neg (by omega), l2]; rfl
            · rw [qI_1, if_neg (by omega), l3]; rfl
            · rw [qI_1, if_neg (by omega), l4]; rfl
            · rw [qI_1, if_neg (by omega), l5]; rfl
            · rw [qI_1, if_neg (by omega), l6]; rfl
            · rw [qI_1, if_pos ⟨rfl, rfl⟩]; rfl
          generalize qI N7 100 7 (nI (vSi v (vof v p) 2)) = N8 at *
          refine wp_be (q6 N8 g8) ?_
          have hcu8 := cuM_fr hcu5 g8 (fun b j hb => by omega)
          refine wp_bd ((worthOf_wp (lt := ltS v t lk nth τ (vof v p)) (by omega) (hcu8.2.2.2 _ c4) lall).mono ?_)
          rintro ⟨r, N9⟩ ⟨o1, o2⟩
          have o1 : r = wval (ltS v t lk nth τ (vof v p)) (Ws (wo (vof v p))) := o1
          have o2 : fr (fun b _ => b = 101) N8 N9 := o2
          refine wp_some ⟨?_, mmD_fr (S1 N8 g8).2 (o2.mono (fun b j h => Or.inr h)), (hfr5.tr (g8.mono (fun b j h => by unfold sMm; omega))).tr (o2.mono (fun b j h => by unfold sMm; omega))⟩
          show (if r ≤ dt then false else true) = gb
          rw [hg1, le_dec, o1]
          unfold vlS
          rw [if_pos c4]
        · have c4 : ¬ wo (vof v p) < c := fun e => c4 (nI_lt e (by omega))
          refine wp_some ⟨?_, hD5, hfr5⟩
          show false = gb
          rw [hg1]
          unfold vlS
          rw [if_neg c4, decide_eq_false hnn]
  · have c1 : jMd_has fo (nI p) = true := by simpa using c1
    exact hfx _ rfl (hfp.mpr (Or.inl c1))
