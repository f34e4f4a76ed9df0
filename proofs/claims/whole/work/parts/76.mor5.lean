/-! ===== minutes go by ===== -/
def setOv (σ : mS) (b : Bool) : mS := (sW σ, sR σ, sO σ, sMi σ, sCa σ, sD σ, b)
def nxM (σ : mS) : mS := (sW σ, sR σ, sO σ, sMi σ + 1, sCa σ, sD σ, decide (60 < sMi σ + 1))
noncomputable def pas1 (v : vT) (t lk nth : Nat) (fz : Nat → Bool) (vl : Nat → (Nat → Int32) → Int32) (σ : mS) : Bool × mS :=
  if vTi v t 1 ≤ hadF (vTi v t 1) nth (sCa (arrN v σ (vP v))) ∨ vP v ≤ sCa (arrN v σ (vP v)) then (false, setOv (arrN v σ (vP v)) true) else (true, nxM (decN v t lk nth fz vl (arrN v σ (vP v)) (vP v)))
noncomputable def pasN (v : vT) (t lk nth : Nat) (fz : Nat → Bool) (vl : Nat → (Nat → Int32) → Int32) (σ : mS) : Nat → Nat × mS
  | 0 => (0, σ)
  | m + 1 => if sOv (pasN v t lk nth fz vl σ m).2 = true then pasN v t lk nth fz vl σ m else ((pasN v t lk nth fz vl σ m).1 + (if (pas1 v t lk nth fz vl (pasN v t lk nth fz vl σ m).2).1 = true then 1 else 0), (pas1 v t lk nth fz vl (pasN v t lk nth fz vl σ m).2).2)
def mZ (v : vT) (t nth : Nat) (fz : Nat → Bool) (σ : mS) : Prop := (sOv σ = false → sMi σ ≤ 60) ∧ (sOv σ = false → sMi σ ≠ 0 → hadF (vTi v t 1) nth (sCa σ) < vTi v t 1 → ∀ p, p < vP v → fz p = true → sW σ p ≠ -1)
section Pas
variable {v : vT} {t lk nth : Nat} {fz : Nat → Bool} {vl : Nat → (Nat → Int32) → Int32}
theorem nxM_s (σ : mS) : sW (nxM σ) = sW σ ∧ sMi (nxM σ) = sMi σ + 1 ∧ sCa (nxM σ) = sCa σ ∧ sOv (nxM σ) = decide (60 < sMi σ + 1) := ⟨rfl, rfl, rfl, rfl⟩
theorem setOv_s (σ : mS) (b : Bool) : sW (setOv σ b) = sW σ ∧ sMi (setOv σ b) = sMi σ ∧ sCa (setOv σ b) = sCa σ ∧ sOv (setOv σ b) = b := ⟨rfl, rfl, rfl, rfl⟩
theorem pas1_Z (σ : mS) : mZ v t nth fz (pas1 v t lk nth fz vl σ).2 := by
  unfold pas1
  by_cases hc : vTi v t 1 ≤ hadF (vTi v t 1) nth (sCa (arrN v σ (vP v))) ∨ vP v ≤ sCa (arrN v σ (vP v))
  · rw [if_pos hc]
    have h := (setOv_s (arrN v σ (vP v)) true).2.2.2
    refine ⟨fun e => ?_, fun e => ?_⟩ <;> (rw [h] at e; cases e)
  · rw [if_neg hc]
    have h := nxM_s (decN v t lk nth fz vl (arrN v σ (vP v)) (vP v))
    refine ⟨fun e => ?_, fun _ _ hh p hp hf => ?_⟩
    · rw [h.2.2.2, decide_eq_false_iff_not] at e
      show sMi (nxM (decN v t lk nth fz vl (arrN v σ (vP v)) (vP v))) ≤ 60
      rw [h.2.1]
      omega
    · show sW (nxM (decN v t lk nth fz vl (arrN v σ (vP v)) (vP v))) p ≠ -1
      rw [h.1]
      refine decN_fz v t lk nth fz vl (vP v) ?_ p hp hf
      have hh : hadF (vTi v t 1) nth (sCa (nxM (decN v t lk nth fz vl (arrN v σ (vP v)) (vP v)))) < vTi v t 1 := hh
      rw [h.2.2.1] at hh
      exact hh
theorem pas1_f {σ : mS} (h : (pas1 v t lk nth fz vl σ).1 = false) : sOv (pas1 v t lk nth fz vl σ).2 = true := by
  unfold pas1 at h ⊢
  by_cases hc : vTi v t 1 ≤ hadF (vTi v t 1) nth (sCa (arrN v σ (vP v))) ∨ vP v ≤ sCa (arrN v σ (vP v))
  · rw [if_pos hc]; rfl
  · rw [if_neg hc] at h; cases h
theorem pas1_mi (σ : mS) : sMi (pas1 v t lk nth fz vl σ).2 = sMi σ + (if (pas1 v t lk nth fz vl σ).1 = true then 1 else 0) := by
  unfold pas1
  by_cases hc : vTi v t 1 ≤ hadF (vTi v t 1) nth (sCa (arrN v σ (vP v))) ∨ vP v ≤ sCa (arrN v σ (vP v))
  · rw [if_pos hc]
    show sMi (setOv (arrN v σ (vP v)) true) = _
    rw [(setOv_s _ _).2.1, (arrN_s v σ (vP v)).2.1, if_neg (show ¬ false = true by decide)]
    rfl
  · rw [if_neg hc]
    show sMi (nxM (decN v t lk nth fz vl (arrN v σ (vP v)) (vP v))) = _
    rw [(nxM_s _).2.1, (decN_s v t lk nth fz vl _ _).2.1, (arrN_s v σ (vP v)).2.1, if_pos rfl]
theorem pasN_Z {σ : mS} (h : mZ v t nth fz σ) : ∀ m, mZ v t nth fz (pasN v t lk nth fz vl σ m).2 := by
  intro m
  induction m with
  | zero => exact h
  | succ m ih =>
    simp only [pasN]
    split
    · exact ih
    · exact pas1_Z _
theorem pasN_over {σ : mS} {i m : Nat} (h : sOv (pasN v t lk nth fz vl σ i).2 = true) (hi : i ≤ m) : pasN v t lk nth fz vl σ m = pasN v t lk nth fz vl σ i := by
  induction m with
  | zero => rw [show i = 0 by omega]
  | succ m ih =>
    by_cases hm : i = m + 1
    · rw [hm]
    · have e := ih (by omega)
      simp only [pasN]
      rw [e, if_pos h]
theorem pasN_cnt {σ : mS} : ∀ i, sOv (pasN v t lk nth fz vl σ i).2 = false → (pasN v t lk nth fz vl σ i).1 = i ∧ sMi (pasN v t lk nth fz vl σ i).2 = sMi σ + i := by
  intro i
  induction i with
  | zero => intro _; exact ⟨rfl, rfl⟩
  | succ i ih =>
    intro h
    simp only [pasN] at h ⊢
    by_cases ho : sOv (pasN v t lk nth fz vl σ i).2 = true
    · rw [if_pos ho, ho] at h; cases h
    · rw [if_neg ho] at h ⊢
      obtain ⟨i1, i2⟩ := ih (by simpa using ho)
      have h : sOv (pas1 v t lk nth fz vl (pasN v t lk nth fz vl σ i).2).2 = false := h
      have hp : (pas1 v t lk nth fz vl (pasN v t lk nth fz vl σ i).2).1 = true := by
        cases hq : (pas1 v t lk nth fz vl (pasN v t lk nth fz vl σ i).2).1 with
        | true => rfl
        | false => rw [pas1_f hq] at h; cases h
      rw [if_pos hp]
      refine ⟨by show (pasN v t lk nth fz vl σ i).1 + 1 = _; rw [i1], ?_⟩
      show sMi (pas1 v t lk nth fz vl (pasN v t lk nth fz vl σ i).2).2 = _
      rw [pas1_mi, if_pos hp, i2]
      omega
end Pas
theorem moD_ov {M : qM} {k : Nat} {v : vT} {t nth : Nat} {σ : mS} (h : moD M k v t nth σ) (b : Bool) : moD (qI M k 12 (b2i b)) k v t nth (setOv σ b) := by
  obtain ⟨d1, d2, d3, d4, d5, d6, d7, d8, d9, d10, d11⟩ := h
  refine ⟨d1, ?_, ?_, ?_, ?_, ?_, ?_, ?_, fun q hq => ?_, fun s hs => ?_, d11⟩
  · rw [qI_1, if_neg (by omega)]; exact d2
  · rw [qI_1, if_neg (by omega)]; exact d3
  · rw [qI_1, if_neg (by omega)]; exact d4
  · rw [qI_1, if_neg (by omega)]; exact d5
  · rw [qI_1, if_pos ⟨rfl, rfl⟩]; rfl
  · rw [qI_1, if_neg (by omega)]; exact d7
  · rw [qI_1, if_neg (by omega)]; exact d8
  · rw [qI_1, if_neg (by omega), qI_1, if_neg (by omega)]; exact d9 q hq
  · rw [qI_1, if_neg (by omega)]; exact d10 s hs
theorem nxM_inv {v : vT} {σ : mS} (h : mInv v σ) (hm : sMi σ ≤ 60) : mInv v (nxM σ) := by
  obtain ⟨a1, a2, a3, a4, a5⟩ := h
  refine ⟨fun p hp => ?_, a2, a3, a4, ?_⟩
  · have := a1 p hp
    show -1 ≤ sW σ p ∧ sW σ p ≤ ((sMi σ + 1 : Nat) : Int) ∧ (sR σ p = -1 ∨ 1 ≤ sR σ p ∧ sR σ p ≤ sCa σ ∧ 0 ≤ sW σ p)
    omega
  · show sMi σ + 1 ≤ 61
    omega
theorem moD_nx {M : qM} {k : Nat} {v : vT} {t nth : Nat} {σ : mS} (h : moD M k v t nth σ) (hm : sMi σ ≤ 60) : moD (qI (qI M k 8 (nI (sMi σ + 1))) k 12 (b2i (decide (60 < sMi σ + 1)))) k v t nth (nxM σ) := by
  obtain ⟨d1, d2, d3, d4, d5, d6, d7, d8, d9, d10, d11⟩ := h
  refine ⟨d1, ?_, ?_, ?_, ?_, ?_, ?_, ?_, fun q hq => ?_, fun s hs => ?_, nxM_inv d11 hm⟩
  · rw [qI_1, if_neg (by omega), qI_1, if_pos ⟨rfl, rfl⟩]; rfl
  · rw [qI_1, if_neg (by omega), qI_1, if_neg (by omega)]; exact d3
  · rw [qI_1, if_neg (by omega), qI_1, if_neg (by omega)]; exact d4
  · rw [qI_1, if_neg (by omega), qI_1, if_neg (by omega)]; exact d5
  · rw [qI_1, if_pos ⟨rfl, rfl⟩]; rfl
  · rw [qI_1, if_neg (by omega), qI_1, if_neg (by omega)]; exact d7
  · rw [qI_1, if_neg (by omega), qI_1, if_neg (by omega)]; exact d8
  · rw [qI_1, if_neg (by omega), qI_1, if_neg (by omega), qI_1, if_neg (by omega), qI_1, if_neg (by omega)]; exact d9 q hq
  · rw [qI_1, if_neg (by omega), qI_1, if_neg (by omega)]; exact d10 s hs
theorem le60 {m : Nat} (h : m < 1000) : (if nI m ≤ (60 : Int32) then false else true) = decide (60 < m) := by
  by_cases c : 60 < m
  · rw [decide_eq_true c, if_neg (show ¬ nI m ≤ (60 : Int32) from nI_ge (a := 60) c (by omega))]
  · rw [decide_eq_false c, if_pos (show nI m ≤ (60 : Int32) from nI_le (b := 60) (by omega) (by omega))]
theorem pass_wp {M : qM} {k kv : Nat} {v : vT} {t lk nth m : Nat} {se sr : Int32} {σ : mS} {fz : Nat → Bool} {c : Nat} {wo : Nat → Nat} {Ws : Nat → wW} (hk : mok k) (hS : moS M k kv v t lk nth se sr) (hD : moD M k v t nth σ) (hcu : cuC M c wo Ws) (hf : fzC v fz se sr) (hz : mZ v t nth fz σ) (hm : m ≤ 61) :
    wp (jMo_pass k (nI m) M) (fun r => r.1 = nI (pasN v t lk nth fz (vlS c wo Ws) σ m).1 ∧ moD r.2 k v t nth (pasN v t lk nth fz (vlS c wo Ws) σ m).2 ∧ fr (sMo k) M r.2) := by
  have hv := hS.1.1
  have h20 := hv.2.2.1
  have hpl := (hv.2.2.2.1 t hS.2.2.2.1).2.1
  unfold jMo_pass
  refine wp_bd (wp_for (fun i s => s.1 = nI (pasN v t lk nth fz (vlS c wo Ws) σ i).1 ∧ s.2.1 = nI i ∧ moD s.2.2 k v t nth (pasN v t lk nth fz (vlS c wo Ws) σ i).2 ∧ fr (sMo k) M s.2.2) m ⟨rfl, rfl, hD, fr_rf _ _⟩ ?_ ?_)
  · rintro i ⟨x1, x2, N⟩ hi ⟨e1, e2, e3, e4⟩
    have e1 : x1 = nI (pasN v t lk nth fz (vlS c wo Ws) σ i).1 := e1
    have e2 : x2 = nI i := e2
    subst e1 e2
    have e3 : moD N k v t nth (pasN v t lk nth fz (vlS c wo Ws) σ i).2 := e3
    have e4 : fr (sMo k) M N := e4
    have hSN := moS_fr hk hS e4
    have hcN := sMo_cu hk hcu e4
    have hzi := pasN_Z (lk := lk) (vl := vlS c wo Ws) hz i
    simp only [qu3]
    refine wp_in (nI_ge hi (by omega)) ?_
    have hS1 : pasN v t lk nth fz (vlS c wo Ws) σ (i + 1) = if sOv (pasN v t lk nth fz (vlS c wo Ws) σ i).2 = true then pasN v t lk nth fz (vlS c wo Ws) σ i else ((pasN v t lk nth fz (vlS c wo Ws) σ i).1 + (if (pas1 v t lk nth fz (vlS c wo Ws) (pasN v t lk nth fz (vlS c wo Ws) σ i).2).1 = true then 1 else 0), (pas1 v t lk nth fz (vlS c wo Ws) (pasN v t lk nth fz (vlS c wo Ws) σ i).2).2) := rfl
    refine wp_if (fun ho => ?_) (fun ho => ?_) <;> rw [e3.2.2.2.2.2.1, b2i_0] at ho
    · have hp1 : (pasN v t lk nth fz (vlS c wo Ws) σ i).1 = i := (pasN_cnt i ho).1
      rw [if_neg (by rw [ho]; decide)] at hS1
      generalize (pasN v t lk nth fz (vlS c wo Ws) σ i).2 = τ at *
      refine wp_bd ((arrive_wp hk hSN e3).mono ?_)
      rintro N1 ⟨g1, g2⟩
      have hSN1 := moS_fr hk hSN g2
      have hcN1 := sMo_cu hk hcN g2
      have hin1 := g1.2.2.2.2.2.2.2.2.2.2
      have hca1 := sCa_le hin1
      have hhad : hadF (vTi v t 1) nth (sCa (arrN v τ (vP v))) ≤ vTi v t 1 := by unfold hadF; omega
      have has := arrN_s v τ (vP v)
      have hmi : sMi τ ≤ 60 := hzi.1 ho
      have main : wp (if N1.1 k 4 ≤ N1.1 k 11 then qlt (qI N1 k 12 1) fun M12 => some (nI (pasN v t lk nth fz (vlS c wo Ws) σ i).1, M12) else (N1.2.2 k 0).bind fun a13 => if N1.1 k 9 < N1.1 a13 2 then (jMo_decide k N1).bind fun M14 => qlt (qI M14 k 8 ((M14.1 k 8) + 1)) fun M15 => qlt (nI (pasN v t lk nth fz (vlS c wo Ws) σ i).1 + 1 : Int32) fun x16 => qlt ((if (M15.1 k 8 : Int32) ≤ (60 : Int32) then false else true) : Bool) fun z17 => qlt (qI M15 k 12 (b2i z17)) fun M18 => some (x16, M18) else qlt (qI N1 k 12 1) fun M19 => some (nI (pasN v t lk nth fz (vlS c wo Ws) σ i).1, M19)) (fun w => w.1 = nI ((pasN v t lk nth fz (vlS c wo Ws) σ i).1 + (if (pas1 v t lk nth fz (vlS c wo Ws) τ).1 = true then 1 else 0)) ∧ moD w.2 k v t nth (pas1 v t lk nth fz (vlS c wo Ws) τ).2 ∧ fr (sMo k) M w.2) := by
        have stop : (vTi v t 1 ≤ hadF (vTi v t 1) nth (sCa (arrN v τ (vP v))) ∨ vP v ≤ sCa (arrN v τ (vP v))) → wp (some (nI (pasN v t lk nth fz (vlS c wo Ws) σ i).1, qI N1 k 12 1)) (fun w => w.1 = nI ((pasN v t lk nth fz (vlS c wo Ws) σ i).1 + (if (pas1 v t lk nth fz (vlS c wo Ws) τ).1 = true then 1 else 0)) ∧ moD w.2 k v t nth (pas1 v t lk nth fz (vlS c wo Ws) τ).2 ∧ fr (sMo k) M w.2) := by
          intro hc
          unfold pas1
          rw [if_pos hc]
          refine wp_some ⟨?_, moD_ov g1 true, (e4.tr g2).tr (fr_I (by unfold sMo; omega))⟩
          show nI _ = nI (_ + if false = true then 1 else 0)
          rw [if_neg (by decide)]
          rfl
        rw [hSN1.2.2.2.2.2.2.2.2.2.2.1, g1.2.2.2.2.1, g1.2.2.1, hSN1.2.2.2.2.2.2.1]
        refine wp_if (fun hc => ?_) (fun hc => ?_)
        · exact stop (Or.inl ((nI_leI (by omega) (by omega)).mp hc))
        · have hc : hadF (vTi v t 1) nth (sCa (arrN v τ (vP v))) < vTi v t 1 := by
            rcases Nat.lt_or_ge (hadF (vTi v t 1) nth (sCa (arrN v τ (vP v)))) (vTi v t 1) with h1 | h1
            · exact h1
            · exact absurd (nI_le h1 (by omega)) hc
          refine wp_bd (wp_some ?_)
          rw [hSN1.1.2.2.2.1]
          refine wp_if (fun hd => ?_) (fun hd => ?_)
          · have hd := (nI_ltI (by omega) (by omega)).mp hd
            have hz2 : sMi (arrN v τ (vP v)) ≠ 0 → ∀ p, p < vP v → fz p = true → sW (arrN v τ (vP v)) p ≠ -1 := by
              rw [has.1, has.2.1]
              exact fun h0 => hzi.2 ho h0 (Nat.lt_of_le_of_lt (hadF_mono (arrN_ca v τ (vP v))) hc)
            refine wp_bd ((decide_wp hk hSN1 g1 hcN1 hf hz2).mono ?_)
            rintro N2 ⟨k1, k2⟩
            have hds := decN_s v t lk nth fz (vlS c wo Ws) (arrN v τ (vP v)) (vP v)
            have hpd : pas1 v t lk nth fz (vlS c wo Ws) τ = (true, nxM (decN v t lk nth fz (vlS c wo Ws) (arrN v τ (vP v)) (vP v))) := by
              unfold pas1
              rw [if_neg (by omega)]
            rw [hpd]
            generalize decN v t lk nth fz (vlS c wo Ws) (arrN v τ (vP v)) (vP v) = ρ at *
            have hmρ : sMi ρ ≤ 60 := by rw [hds.2.1, has.2.1]; exact hmi
            have e8 : N2.1 k 8 + 1 = nI (sMi ρ + 1) := by rw [k1.2.1, nI_1]
            simp only [qlt]
            rw [e8, show (qI N2 k 8 (nI (sMi ρ + 1))).1 k 8 = nI (sMi ρ + 1) by rw [qI_1, if_pos ⟨rfl, rfl⟩], le60 (by omega)]
            refine wp_some ⟨?_, moD_nx k1 hmρ, ((e4.tr g2).tr k2).tr ((fr_I (by unfold sMo; omega)).tr (fr_I (by unfold sMo; omega)))⟩
            show nI _ + 1 = nI (_ + if true = true then 1 else 0)
            rw [if_pos rfl, nI_1]
          · have hd : vP v ≤ sCa (arrN v τ (vP v)) := by
              rcases Nat.lt_or_ge (sCa (arrN v τ (vP v))) (vP v) with h1 | h1
              · exact absurd (nI_lt h1 (by omega)) hd
              · exact h1
            exact stop (Or.inr hd)
      refine wp_bd (main.mono ?_)
      rintro ⟨y, N2⟩ ⟨k1, k2, k3⟩
      refine wp_some ?_
      show y = nI (pasN v t lk nth fz (vlS c wo Ws) σ (i + 1)).1 ∧ _ ∧ moD N2 k v t nth (pasN v t lk nth fz (vlS c wo Ws) σ (i + 1)).2 ∧ _
      rw [hS1]
      exact ⟨k1, nI_1 i, k2, k3⟩
    · have ho : sOv (pasN v t lk nth fz (vlS c wo Ws) σ i).2 = true := by simpa using ho
      have e := pasN_over ho (show i ≤ m by omega)
      refine wp_some ?_
      show wp _ _
      refine wp_some ?_
      rw [e]
      exact ⟨rfl, e3, e4⟩
  · rintro ⟨x1, x2, N⟩ ⟨e1, e2, e3, e4⟩
    have e2 : x2 = nI m := e2
    subst e2
    simp only [qu3]
    exact wp_ip (nI_le (Nat.le_refl _) (by omega)) (wp_some (wp_some ⟨e1, e3, e4⟩))
