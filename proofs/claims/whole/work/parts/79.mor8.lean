/-! ===== a morning begins; a whole one ===== -/
def begS (d : Int64) : mS := (fun _ => -1, fun _ => -1, fun _ => 0, 0, 0, d, false)
theorem cnt_iv {a b n : Nat} (h1 : a ≤ b) (h2 : b ≤ n) : cnt (fun p => decide (a ≤ p ∧ p < b)) n = b - a := by
  have key : ∀ m, cnt (fun p => decide (a ≤ p ∧ p < b)) m = min m b - min m a := by
    intro m
    induction m with
    | zero => simp [cnt]
    | succ m ih =>
      rw [cnt_S, ih]
      simp only [decide_eq_true_eq]
      split <;> omega
  rw [key n]
  omega
theorem cnt_sort {v : vT} {s : Nat} (hs : s < vSn v) : cnt (fun p => decide (vof v p = s)) (vP v) = vSi v s 0 := by
  have h1 : vCs v s ≤ vCs v (s + 1) := sumN_mono (by omega)
  have h2 : vCs v (s + 1) ≤ vP v := sumN_mono (by omega)
  have h3 := vCs_S v s
  rw [cnt_congr (B := fun p => decide (vCs v s ≤ p ∧ p < vCs v (s + 1))) (fun p hp => ?_), cnt_iv h1 h2]
  · omega
  · refine decide_eq_decide.mpr ⟨fun e => ?_, fun e => vof_uniq hs e.1 e.2⟩
    have := vof_spec hp
    rw [e] at this
    exact this.2
theorem begS_inv (v : vT) (d : Int64) : mInv v (begS d) := by
  refine ⟨fun p hp => ⟨Int.le_refl (-1), by show (-1 : Int) ≤ ((0 : Nat) : Int); omega, Or.inl rfl⟩, ?_, fun p hp h => absurd rfl h, fun r h1 h2 => ?_, by show 0 ≤ 61; omega⟩
  · show 0 = _
    exact (cnt_0 (fun i hi => by rfl)).symm
  · have h2 : r ≤ 0 := h2
    omega
theorem begS_w {v : vT} {d : Int64} (s : Nat) (hs : s < vSn v) : wtn v (begS d) = vP v ∧ wtS v (begS d) s = vSi v s 0 := by
  refine ⟨?_, ?_⟩
  · unfold wtn
    rw [cnt_congr (B := fun _ => true) (fun p hp => by rfl), cnt_all]
  · unfold wtS
    rw [← cnt_sort hs]
    exact cnt_congr (fun p hp => decide_eq_decide.mpr ⟨fun e => e.2, fun e => ⟨rfl, e⟩⟩)
theorem mok_al {k : Nat} (hk : mok k) : q_al (k + 1) = 20 ∧ q_al (k + 2) = 20 := by
  rcases hk with rfl | rfl | rfl <;> exact ⟨by decide, by decide⟩
theorem begin_wp {M : qM} {k kv : Nat} {v : vT} {t lk nth : Nat} {se sr : Int32} (d : Int64) (hk : mok k) (hS : moS M k kv v t lk nth se sr) : wp (jMo_begin k d M) (fun M' => moD M' k v t nth (begS d) ∧ fr (sMo k) M M') := by
  have hv := hS.1.1
  have h20 := hv.2.2.1
  have hs6 := hv.2.1
  have hpl := (hv.2.2.2.1 t hS.2.2.2.1).2.1
  have hn := hS.2.2.2.2.1
  have hal := mok_al hk
  have hq : ∀ (N : qM) (a : Nat) (x : Int32), 7 ≤ a → fr (sMo k) N (qI N k a x) := fun N a x ha => fr_I (by unfold sMo; omega)
  unfold jMo_begin
  simp only [qlt]
  have f3 : fr (sMo k) M (qI (qI (qJ M k 7 d) k 8 0) k 9 0) := ((fr_J (by unfold sMo; omega)).tr (hq _ 8 _ (by omega))).tr (hq _ 9 _ (by omega))
  have hS3 := moS_fr hk hS f3
  refine wp_be hS3.2.2.2.2.2.2.1 ?_
  rw [hS3.1.2.2.2.1]
  refine wp_be (fillI_eq (k + 1) (-1) _ (by omega)) ?_
  refine wp_be (fillI_eq (k + 2) (-1) _ (by omega)) ?_
  rw [hal.1, hal.2]
  have fA : fr (sMo k) M (sI (sI (qI (qI (qI (qI (qI (qI (qI (qJ M k 7 d) k 8 0) k 9 0) k 10 (nI (vP v))) k 11 0) k 12 0) k 13 (-1)) k 14 (-1)) (k + 1) 20 (fun _ => -1)) (k + 2) 20 (fun _ => -1)) :=
    ((((((f3.tr (hq _ 10 _ (by omega))).tr (hq _ 11 _ (by omega))).tr (hq _ 12 _ (by omega))).tr (hq _ 13 _ (by omega))).tr (hq _ 14 _ (by omega))).tr (fr_sI (fun j _ => by unfold sMo; omega))).tr (fr_sI (fun j _ => by unfold sMo; omega))
  have c7 : (sI (sI (qI (qI (qI (qI (qI (qI (qI (qJ M k 7 d) k 8 0) k 9 0) k 10 (nI (vP v))) k 11 0) k 12 0) k 13 (-1)) k 14 (-1)) (k + 1) 20 (fun _ => -1)) (k + 2) 20 (fun _ => -1)).2.1 k 7 = d := by
    show (qJ M k 7 d).2.1 k 7 = d
    rw [qJ_21, if_pos ⟨rfl, rfl⟩]
  have cj : ∀ j, (sI (sI (qI (qI (qI (qI (qI (qI (qI (qJ M k 7 d) k 8 0) k 9 0) k 10 (nI (vP v))) k 11 0) k 12 0) k 13 (-1)) k 14 (-1)) (k + 1) 20 (fun _ => -1)) (k + 2) 20 (fun _ => -1)).1 k j = (qI (qI (qI (qI (qI (qI (qI (qJ M k 7 d) k 8 0) k 9 0) k 10 (nI (vP v))) k 11 0) k 12 0) k 13 (-1)) k 14 (-1)).1 k j := by
    intro j
    rw [sI_off (by omega), sI_off (by omega)]
  have c8 := cj 8
  have c9 := cj 9
  have c10 := cj 10
  have c11 := cj 11
  have c12 := cj 12
  have c13 := cj 13
  have c14 := cj 14
  have crow : ∀ p, p < 20 → (sI (sI (qI (qI (qI (qI (qI (qI (qI (qJ M k 7 d) k 8 0) k 9 0) k 10 (nI (vP v))) k 11 0) k 12 0) k 13 (-1)) k 14 (-1)) (k + 1) 20 (fun _ => -1)) (k + 2) 20 (fun _ => -1)).1 (k + 1) p = -1 ∧ (sI (sI (qI (qI (qI (qI (qI (qI (qI (qJ M k 7 d) k 8 0) k 9 0) k 10 (nI (vP v))) k 11 0) k 12 0) k 13 (-1)) k 14 (-1)) (k + 1) 20 (fun _ => -1)) (k + 2) 20 (fun _ => -1)).1 (k + 2) p = -1 := by
    intro p hp
    exact ⟨by rw [sI_off (by omega), sI_at hp], by rw [sI_at hp]⟩
  clear cj
  simp [qI_1] at c8 c9 c10 c11 c12 c13 c14
  generalize sI (sI (qI (qI (qI (qI (qI (qI (qI (qJ M k 7 d) k 8 0) k 9 0) k 10 (nI (vP v))) k 11 0) k 12 0) k 13 (-1)) k 14 (-1)) (k + 1) 20 (fun _ => -1)) (k + 2) 20 (fun _ => -1) = N0 at *
  refine wp_bd (wp_for (fun q s => s.1 = nI q ∧ (∀ j, j < q → s.2.1 (k + 3) j = nI (vSi v j 0)) ∧ fr (fun b _ => b = k + 3) N0 s.2) (vSn v) ⟨rfl, fun j hj => by omega, fr_rf _ _⟩ ?_ ?_)
  · rintro q ⟨x, N⟩ hq' ⟨e1, e2, e3⟩
    have e1 : x = nI q := e1
    subst e1
    have e3 : fr (fun b _ => b = k + 3) N0 N := e3
    have hSN := moS_fr hk hS (fA.tr (e3.mono (fun b j h => by unfold sMo; omega)))
    refine wp_u2 ?_
    refine wp_be hSN.2.2.2.2.2.2.1 ?_
    refine wp_in (by rw [hSN.1.2.2.1]; exact nI_ge hq' (by omega)) ?_
    refine wp_be hSN.2.2.2.2.2.2.1 ?_
    refine wp_be (ofSort_eq (w := 0) hSN.1 hq' (by decide)) ?_
    refine wp_bd (wp_wI rfl (show q < 6 by omega) (by omega) ?_)
    refine wp_some ⟨nI_1 q, fun j hj => ?_, e3.tr (fr_I rfl)⟩
    show (qI N (k + 3) q _).1 (k + 3) j = _
    rw [qI_1]
    by_cases hjq : j = q
    · rw [if_pos ⟨rfl, hjq⟩, hjq]
    · rw [if_neg (fun e => hjq e.2)]; exact e2 j (by omega)
  · rintro ⟨x, N⟩ ⟨e1, e2, e3⟩
    have e1 : x = nI (vSn v) := e1
    subst e1
    have e3 : fr (fun b _ => b = k + 3) N0 N := e3
    have fN : fr (sMo k) M N := fA.tr (e3.mono (fun b j h => by unfold sMo; omega))
    have hSN := moS_fr hk hS fN
    refine wp_u2 ?_
    refine wp_be hSN.2.2.2.2.2.2.1 ?_
    refine wp_ip (by rw [hSN.1.2.2.1]; exact nI_le (Nat.le_refl _) (by omega)) (wp_some (wp_some ⟨?_, fN⟩))
    have o : ∀ j, N.1 k j = N0.1 k j := fun j => (e3 k j (by omega)).1
    refine ⟨by rw [(e3 k 7 (by omega)).2.1]; exact c7, ?_, ?_, ?_, ?_, ?_, ?_, ?_, fun p hp => ?_, fun s hs => ?_, begS_inv v d⟩
    · rw [o, c8]; rfl
    · rw [o, c9]; rfl
    · rw [o, c10, (begS_w (v := v) 0 (by omega)).1]
    · rw [o, c11]
      show (0 : Int32) = nI (hadF (vTi v t 1) nth 0)
      rw [show hadF (vTi v t 1) nth 0 = 0 by unfold hadF; omega]
      rfl
    · rw [o, c12]; rfl
    · rw [o, c13]
      unfold lmS
      rw [if_neg (by show ¬ nth + vTi v t 1 - 1 ≤ 0; omega)]
      rfl
    · rw [o, c14]
      unfold lpS
      rw [if_pos (by show 0 < nth; omega)]
      rfl
    · rw [(e3 (k + 1) p (by omega)).1, (e3 (k + 2) p (by omega)).1]
      exact crow p hp
    · rw [(begS_w s hs).2]
      exact e2 s hs
theorem beOf_wp {M : qM} {k kv : Nat} {v : vT} {t lk : Nat} (hk : mok k) (hC : rVC M kv v) (h1 : 71 ≤ kv) (h2 : kv ≤ 87) (ht : t < vTn v) (hl : lk < 2) : wp (jMo_beOf k kv (nI t) (nI lk) M) (fun M' => moS M' k kv v t lk (vTi v t 0) (-1) (-1) ∧ fr (fun b j => b = k ∧ j < 7) M M') := by
  have hT := hC.1.2.2.2.1 t ht
  have hk33 : 33 ≤ k ∧ k ≤ 42 := by unfold mok at hk; omega
  have vC : ∀ N, fr (fun b j => b = k ∧ j < 7) M N → rVC N kv v := fun N g => rVC_fr hC g (fun b j _ _ => by omega)
  unfold jMo_beOf
  simp only [qlt]
  have f3 : fr (fun b j => b = k ∧ j < 7) M (qI (qI (qR M k 0 (some kv)) k 1 (nI t)) k 2 (nI lk)) := ((fr_R ⟨rfl, by omega⟩).tr (fr_I ⟨rfl, by omega⟩)).tr (fr_I ⟨rfl, by omega⟩)
  refine wp_be (ofThing_eq (w := 0) (vC _ f3) ht (by decide)) ?_
  have f5 := f3.tr (fr_I (S := fun b j => b = k ∧ j < 7) (M := qI (qI (qR M k 0 (some kv)) k 1 (nI t)) k 2 (nI lk)) (v := nI (vTi v t 0)) (i := 3) (a := k) ⟨rfl, by omega⟩)
  refine wp_be (ofThing_eq (w := 1) (vC _ f5) ht (by decide)) ?_
  have f9 := ((f5.tr (fr_I (v := nI (vTi v t 1)) (i := 4) (a := k) ⟨rfl, by omega⟩)).tr (fr_I (v := -1) (i := 5) (a := k) ⟨rfl, by omega⟩)).tr (fr_I (v := -1) (i := 6) (a := k) ⟨rfl, by omega⟩)
  refine wp_some ⟨⟨vC _ f9, h1, h2, ht, hT.1, hl, ?_, ?_, ?_, ?_, ?_, ?_, ?_⟩, f9⟩
  · show (qR M k 0 (some kv)).2.2 k 0 = _
    rw [qR_22, if_pos ⟨rfl, rfl⟩]
  · simp [qI_1]
  · simp [qI_1]
  · simp [qI_1]
  · simp [qI_1]
  · simp [qI_1]
  · simp [qI_1]
theorem mBegin_wp {M : qM} (v : vT) (d : Int64) : wp (jMd_begin d M) (fun M' => mmD M' v (begS d) ∧ fr sMm M M') := by
  unfold jMd_begin
  refine wp_bd (wp_for (fun q s => s.1 = nI q ∧ (∀ j, j < q → s.2.1 108 j = -1 ∧ s.2.1 109 j = -1 ∧ s.2.1 110 j = -1) ∧ fr sMm M s.2) 20 ⟨rfl, fun j hj => by omega, fr_rf _ _⟩ ?_ ?_)
  · rintro q ⟨x, N⟩ hq ⟨e1, e2, e3⟩
    have e1 : x = nI q := e1
    subst e1
    refine wp_u2 ?_
    refine wp_in (nI_ge (b := 20) hq (by omega)) ?_
    refine wp_bd (wp_wI rfl hq (by omega) ?_)
    refine wp_bd (wp_wI rfl hq (by omega) ?_)
    refine wp_bd (wp_wI rfl hq (by omega) ?_)
    refine wp_some ⟨nI_1 q, fun j hj => ?_, ((e3.tr (fr_I (by simp [sMm]))).tr (fr_I (by simp [sMm]))).tr (fr_I (by simp [sMm]))⟩
    show (qI (qI (qI N 108 q (-1)) 109 q (-1)) 110 q (-1)).1 108 j = -1 ∧ (qI (qI (qI N 108 q (-1)) 109 q (-1)) 110 q (-1)).1 109 j = -1 ∧ (qI (qI (qI N 108 q (-1)) 109 q (-1)) 110 q (-1)).1 110 j = -1
    simp only [qI_1]
    by_cases hjq : j = q
    · simp [hjq]
    · have := e2 j (by omega)
      simp [hjq]
      exact this
  · rintro ⟨x, N⟩ ⟨e1, e2, e3⟩
    have e1 : x = nI 20 := e1
    subst e1
    refine wp_u2 ?_
    refine wp_ip (by decide) (wp_some ?_)
    show wp _ _
    simp only [qlt]
    refine wp_some ⟨⟨?_, ?_, ?_, ?_, fun p hp => ?_, begS_inv v d⟩, (((e3.tr (fr_I (by simp [sMm]))).tr (fr_I (by simp [sMm]))).tr (fr_I (by simp [sMm]))).tr (fr_J (by simp [sMm]))⟩
    · rw [qJ_21, if_pos ⟨rfl, rfl⟩]; rfl
    · rw [qJ_1, qI_1, if_neg (by omega), qI_1, if_neg (by omega), qI_1, if_pos ⟨rfl, rfl⟩]; rfl
    · rw [qJ_1, qI_1, if_neg (by omega), qI_1, if_pos ⟨rfl, rfl⟩]; rfl
    · rw [qJ_1, qI_1, if_pos ⟨rfl, rfl⟩]; rfl
    · have := e2 p hp
      rw [qJ_1, qI_1, if_neg (by omega), qI_1, if_neg (by omega), qI_1, if_neg (by omega), qI_1, if_neg (by omega), qI_1, if_neg (by omega), qI_1, if_neg (by omega), qI_1, if_neg (by omega), qI_1, if_neg (by omega), qI_1, if_neg (by omega)]
      exact this
theorem begS_Z {v : vT} {t nth : Nat} {fz : Nat → Bool} (d : Int64) : mZ v t nth fz (begS d) := ⟨fun _ => by show 0 ≤ 60; omega, fun _ h => absurd rfl h⟩
/-- a whole morning -/
noncomputable def finS (v : vT) (t lk nth : Nat) (fz : Nat → Bool) (vl : Nat → (Nat → Int32) → Int32) (d : Int64) : mS := (pasN v t lk nth fz vl (begS d) 61).2
theorem mWhole_wp {M : qM} {i : Nat} {v : vT} {t lk nth : Nat} {fo st : Int32} {fz : Nat → Bool} {c : Nat} {wo : Nat → Nat} {Ws : Nat → wW} (d : Int64) (hS : mmS M i v t lk nth fo st) (hcu : cuM M c wo Ws) (hf : fzM v fz fo st) :
    wp (jMd_whole d M) (fun M' => mmD M' v (finS v t lk nth fz (vlS c wo Ws) d) ∧ fr sMm M M') := by
  unfold jMd_whole
  refine wp_bd ((mBegin_wp v d).mono ?_)
  rintro M1 ⟨b1, b2⟩
  refine wp_bd (wp_for (fun q N => mmD N v (pasN v t lk nth fz (vlS c wo Ws) (begS d) q).2 ∧ fr sMm M N) 61 ⟨b1, b2⟩ ?_ ?_)
  · rintro q N hq ⟨e1, e2⟩
    have hz := pasN_Z (lk := lk) (vl := vlS c wo Ws) (begS_Z (v := v) (t := t) (nth := nth) (fz := fz) d) q
    have hS1 : pasN v t lk nth fz (vlS c wo Ws) (begS d) (q + 1) = if sOv (pasN v t lk nth fz (vlS c wo Ws) (begS d) q).2 = true then pasN v t lk nth fz (vlS c wo Ws) (begS d) q else ((pasN v t lk nth fz (vlS c wo Ws) (begS d) q).1 + (if (pas1 v t lk nth fz (vlS c wo Ws) (pasN v t lk nth fz (vlS c wo Ws) (begS d) q).2).1 = true then 1 else 0), (pas1 v t lk nth fz (vlS c wo Ws) (pasN v t lk nth fz (vlS c wo Ws) (begS d) q).2).2) := rfl
    refine wp_if (fun ho => ?_) (fun ho => ?_) <;> rw [e1.2.2.2.1, b2i_0] at ho
    · rw [if_neg (by rw [ho]; decide)] at hS1
      refine wp_bd ((minuteOnce_wp (mmS_fr hS e2) e1 (sMm_cu hcu e2) hf ho (hz.1 ho)).mono ?_)
      rintro ⟨g, N1⟩ ⟨k1, k2, k3⟩
      refine wp_some ?_
      show mmD N1 v (pasN v t lk nth fz (vlS c wo Ws) (begS d) (q + 1)).2 ∧ _
      rw [hS1]
      exact ⟨k2, e2.tr k3⟩
    · have ho : sOv (pasN v t lk nth fz (vlS c wo Ws) (begS d) q).2 = true := by simpa using ho
      refine wp_some (wp_some ⟨?_, e2⟩)
      unfold finS
      rw [pasN_over ho (show q ≤ 61 by omega)]
      exact e1
  · rintro N ⟨e1, e2⟩
    have hz := pasN_Z (lk := lk) (vl := vlS c wo Ws) (begS_Z (v := v) (t := t) (nth := nth) (fz := fz) d) 61
    have ho : sOv (pasN v t lk nth fz (vlS c wo Ws) (begS d) 61).2 = true := by
      cases h : sOv (pasN v t lk nth fz (vlS c wo Ws) (begS d) 61).2 with
      | true => rfl
      | false =>
        have h1 := hz.1 h
        have h2 := (pasN_cnt 61 h).2
        have h3 : sMi (begS d) = 0 := rfl
        omega
    exact wp_in (by rw [e1.2.2.2.1, ho]; decide) (wp_some (wp_some ⟨e1, e2⟩))
