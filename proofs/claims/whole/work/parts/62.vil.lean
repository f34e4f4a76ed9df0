/-! ===== villages, as numbers: things, sorts, a thing's items, a sort's items ===== -/
abbrev vT : Type := Nat × Nat × (Nat → Nat → Nat) × (Nat → Nat → Nat)
def vTn (v : vT) : Nat := v.1
def vSn (v : vT) : Nat := v.2.1
def vTi (v : vT) (t w : Nat) : Nat := v.2.2.1 t w
def vSi (v : vT) (s w : Nat) : Nat := v.2.2.2 s w
def vCs (v : vT) (s : Nat) : Nat := sumN (fun i => vSi v i 0) s
def vP (v : vT) : Nat := vCs v (vSn v)
def vof (v : vT) (p : Nat) : Nat := cnt (fun s => decide (vCs v (s + 1) ≤ p)) (vSn v)
def vOK (v : vT) : Prop := (1 ≤ vTn v ∧ vTn v ≤ 4) ∧ (1 ≤ vSn v ∧ vSn v ≤ 6) ∧ vP v ≤ 20 ∧ (∀ t, t < vTn v → (1 ≤ vTi v t 0 ∧ vTi v t 0 ≤ 9) ∧ (1 ≤ vTi v t 1 ∧ vTi v t 1 ≤ 3) ∧ vTi v t 2 ≤ 999 ∧ vTi v t 3 ≤ 99) ∧ (∀ s, s < vSn v → (1 ≤ vSi v s 0 ∧ vSi v s 0 ≤ 9) ∧ vSi v s 1 ≤ 9 ∧ vSi v s 2 ≤ 99 ∧ vSi v s 3 ≤ 1)
theorem cnt_dc {F : Nat → Bool} (hF : ∀ i j, i ≤ j → F j = true → F i = true) : ∀ n, (∀ i, i < cnt F n → F i = true) ∧ (∀ i, cnt F n ≤ i → i < n → F i = false) := by
  intro n
  induction n with
  | zero => exact ⟨fun i hi => by simp only [cnt] at hi; omega, fun i _ hi => by omega⟩
  | succ n ih =>
    have hle := cnt_le F n
    simp only [cnt]
    by_cases hn : F n = true
    · rw [if_pos hn]
      have : cnt F n = n := by
        rcases Nat.lt_or_ge (cnt F n) n with h | h
        · have h1 := ih.2 (cnt F n) (Nat.le_refl _) h
          rw [hF (cnt F n) n (by omega) hn] at h1
          cases h1
        · omega
      exact ⟨fun i hi => hF i n (by omega) hn, fun i h1 h2 => by omega⟩
    · rw [if_neg hn]
      refine ⟨ih.1, fun i h1 h2 => ?_⟩
      by_cases hi : i = n
      · subst hi
        exact Bool.not_eq_true _ ▸ hn
      · exact ih.2 i h1 (by omega)
theorem vCs_dc (v : vT) (p : Nat) : ∀ i j, i ≤ j → (fun s => decide (vCs v (s + 1) ≤ p)) j = true → (fun s => decide (vCs v (s + 1) ≤ p)) i = true := by
  intro i j hij h
  simp only [decide_eq_true_eq] at h ⊢
  have : vCs v (i + 1) ≤ vCs v (j + 1) := sumN_mono (by omega)
  omega
theorem vof_spec {v : vT} {p : Nat} (h : p < vP v) : vof v p < vSn v ∧ vCs v (vof v p) ≤ p ∧ p < vCs v (vof v p + 1) := by
  have hd := cnt_dc (vCs_dc v p) (vSn v)
  have hle : vof v p ≤ vSn v := cnt_le _ _
  have hlt : vof v p < vSn v := by
    rcases Nat.lt_or_ge (vof v p) (vSn v) with h1 | h1
    · exact h1
    · have h2 : vof v p = vSn v := by omega
      unfold vP at h
      rcases Nat.eq_zero_or_pos (vSn v) with h0 | h0
      · rw [h0] at h
        exact absurd h (by simp [vCs, sumN])
      · have h3 := hd.1 (vSn v - 1) (by show _ < vof v p; omega)
        simp only [decide_eq_true_eq] at h3
        rw [show vSn v - 1 + 1 = vSn v by omega] at h3
        omega
  refine ⟨hlt, ?_, ?_⟩
  · rcases Nat.eq_zero_or_pos (vof v p) with h0 | h0
    · rw [h0]; exact Nat.zero_le _
    · have h3 := hd.1 (vof v p - 1) (by show _ < vof v p; omega)
      simp only [decide_eq_true_eq] at h3
      rwa [show vof v p - 1 + 1 = vof v p by omega] at h3
  · have h3 := hd.2 (vof v p) (Nat.le_refl _) hlt
    simp only [decide_eq_false_iff_not] at h3
    omega
theorem vof_uniq {v : vT} {p s : Nat} (hs : s < vSn v) (h1 : vCs v s ≤ p) (h2 : p < vCs v (s + 1)) : vof v p = s := by
  have hd := cnt_dc (vCs_dc v p) (vSn v)
  rcases Nat.lt_trichotomy (vof v p) s with h | h | h
  · have h3 := hd.2 (vof v p) (Nat.le_refl _) (by omega)
    simp only [decide_eq_false_iff_not] at h3
    have : vCs v (vof v p + 1) ≤ vCs v s := sumN_mono (by omega)
    omega
  · exact h
  · have h3 := hd.1 s h
    simp only [decide_eq_true_eq] at h3
    omega
theorem vCs_S (v : vT) (s : Nat) : vCs v (s + 1) = vCs v s + vSi v s 0 := rfl
/-! the class's village at k, the reference's village n -/
def rVC (M : qM) (k : Nat) (v : vT) : Prop := vOK v ∧ M.1 k 0 = nI (vTn v) ∧ M.1 k 1 = nI (vSn v) ∧ M.1 k 2 = nI (vP v) ∧ (∀ t, t < vTn v → ∀ w, w < 4 → M.1 (k + 1) (4 * t + w) = nI (vTi v t w)) ∧ (∀ s, s < vSn v → ∀ w, w < 4 → M.1 (k + 2) (4 * s + w) = nI (vSi v s w)) ∧ (∀ p, p < vP v → M.1 (k + 3) p = nI (vof v p))
def rVM (M : qM) (n : Nat) (v : vT) : Prop := vOK v ∧ M.1 102 n = nI (vTn v) ∧ M.1 103 n = nI (vSn v) ∧ M.1 104 n = nI (vP v) ∧ (∀ t, t < vTn v → ∀ w, w < 4 → M.1 105 (4 * (4 * n + t) + w) = nI (vTi v t w)) ∧ (∀ s, s < vSn v → ∀ w, w < 4 → M.1 106 (4 * (6 * n + s) + w) = nI (vSi v s w))
def rVsC (M : qM) (n : Nat) (f : Nat → vT) : Prop := n ≤ 4 ∧ M.1 0 4 = nI n ∧ ∀ i, i < n → rVC M (71 + 4 * i) (f i)
def rVsM (M : qM) (n : Nat) (f : Nat → vT) : Prop := n ≤ 4 ∧ M.1 91 22 = nI n ∧ ∀ i, i < n → rVM M i (f i)
theorem rVC_fr {M M1 : qM} {k : Nat} {v : vT} {S : Nat → Nat → Prop} (h : rVC M k v) (g : fr S M M1) (h1 : ∀ b j, k ≤ b → b ≤ k + 3 → ¬ S b j) : rVC M1 k v := by
  obtain ⟨h0, h2, h3, h4, h5, h6, h7⟩ := h
  refine ⟨h0, ?_, ?_, ?_, fun t ht w hw => ?_, fun t ht w hw => ?_, fun p hp => ?_⟩
  · rw [(g k 0 (h1 k 0 (by omega) (by omega))).1]; exact h2
  · rw [(g k 1 (h1 k 1 (by omega) (by omega))).1]; exact h3
  · rw [(g k 2 (h1 k 2 (by omega) (by omega))).1]; exact h4
  · rw [(g (k + 1) _ (h1 (k + 1) _ (by omega) (by omega))).1]; exact h5 t ht w hw
  · rw [(g (k + 2) _ (h1 (k + 2) _ (by omega) (by omega))).1]; exact h6 t ht w hw
  · rw [(g (k + 3) _ (h1 (k + 3) _ (by omega) (by omega))).1]; exact h7 p hp
theorem rVM_fr {M M1 : qM} {n : Nat} {v : vT} {S : Nat → Nat → Prop} (h : rVM M n v) (g : fr S M M1) (h1 : ∀ b j, 102 ≤ b → b ≤ 106 → ¬ S b j) : rVM M1 n v := by
  obtain ⟨h0, h2, h3, h4, h5, h6⟩ := h
  refine ⟨h0, ?_, ?_, ?_, fun t ht w hw => ?_, fun t ht w hw => ?_⟩
  · rw [(g _ _ (h1 102 n (by omega) (by omega))).1]; exact h2
  · rw [(g _ _ (h1 103 n (by omega) (by omega))).1]; exact h3
  · rw [(g _ _ (h1 104 n (by omega) (by omega))).1]; exact h4
  · rw [(g 105 _ (h1 105 _ (by omega) (by omega))).1]; exact h5 t ht w hw
  · rw [(g 106 _ (h1 106 _ (by omega) (by omega))).1]; exact h6 t ht w hw
theorem rVsC_fr {M M1 : qM} {n : Nat} {f : Nat → vT} {S : Nat → Nat → Prop} (h : rVsC M n f) (g : fr S M M1) (h1 : ∀ b j, 71 ≤ b → b ≤ 90 → ¬ S b j) (h2 : ¬ S 0 4) : rVsC M1 n f :=
  ⟨h.1, by rw [(g 0 4 h2).1]; exact h.2.1, fun i hi => rVC_fr (h.2.2 i hi) g (fun b j h3 h4 => h1 b j (by omega) (by have := h.1; omega))⟩
theorem rVsM_fr {M M1 : qM} {n : Nat} {f : Nat → vT} {S : Nat → Nat → Prop} (h : rVsM M n f) (g : fr S M M1) (h1 : ∀ b j, 102 ≤ b → b ≤ 106 → ¬ S b j) (h2 : ¬ S 91 22) : rVsM M1 n f :=
  ⟨h.1, by rw [(g 91 22 h2).1]; exact h.2.1, fun i hi => rVM_fr (h.2.2 i hi) g h1⟩
theorem vOK_t {v : vT} (h : vOK v) {t w : Nat} (ht : t < vTn v) (hw : w < 4) : vTi v t w ≤ 999 := by
  have h1 := h.2.2.2.1 t ht
  have : w = 0 ∨ w = 1 ∨ w = 2 ∨ w = 3 := by omega
  rcases this with rfl | rfl | rfl | rfl <;> omega
theorem vOK_s {v : vT} (h : vOK v) {s w : Nat} (hs : s < vSn v) (hw : w < 4) : vSi v s w ≤ 99 := by
  have h1 := h.2.2.2.2 s hs
  have : w = 0 ∨ w = 1 ∨ w = 2 ∨ w = 3 := by omega
  rcases this with rfl | rfl | rfl | rfl <;> omega
theorem vOK_p {v : vT} (h : vOK v) : 1 ≤ vP v := by
  have h1 := h.2.2.2.2 0 (by have := h.2.1; omega)
  have h2 : vCs v 1 ≤ vCs v (vSn v) := sumN_mono (by have := h.2.1; omega)
  have h3 : vCs v 1 = vSi v 0 0 := by simp [vCs, sumN]
  unfold vP
  omega
theorem ofThing_eq {M : qM} {k : Nat} {v : vT} {t w : Nat} (h : rVC M k v) (ht : t < vTn v) (hw : w < 4) : jVi_ofThing k (nI t) (nI w) M = some (nI (vTi v t w)) := by
  have h4 := h.1.1
  unfold jVi_ofThing
  have e : nI t * 4 + nI w = nI (4 * t + w) := by
    rw [show (4 : Int32) = nI 4 from rfl, nI_mul, nI_add, Nat.mul_comm]
  simp only [qlt]
  rw [e, if_neg (nI_pos (by omega)), if_neg (show ¬ (16 : Int32) ≤ nI (4 * t + w) from nI_ge (b := 16) (by omega) (by omega)), qrI_nI (by omega) (by omega), h.2.2.2.2.1 t ht w hw]
  rfl
theorem ofSort_eq {M : qM} {k : Nat} {v : vT} {s w : Nat} (h : rVC M k v) (hs : s < vSn v) (hw : w < 4) : jVi_ofSort k (nI s) (nI w) M = some (nI (vSi v s w)) := by
  have h4 := h.1.2.1
  unfold jVi_ofSort
  have e : nI s * 4 + nI w = nI (4 * s + w) := by
    rw [show (4 : Int32) = nI 4 from rfl, nI_mul, nI_add, Nat.mul_comm]
  simp only [qlt]
  rw [e, if_neg (nI_pos (by omega)), if_neg (show ¬ (24 : Int32) ≤ nI (4 * s + w) from nI_ge (b := 24) (by omega) (by omega)), qrI_nI (by omega) (by omega), h.2.2.2.2.2.1 s hs w hw]
  rfl
theorem ofPerson_eq {M : qM} {k : Nat} {v : vT} {p w : Nat} (h : rVC M k v) (hp : p < vP v) (hw : w < 4) : jVi_ofPerson k (nI p) (nI w) M = some (nI (vSi v (vof v p) w)) := by
  have h4 := h.1.2.2.1
  unfold jVi_ofPerson
  rw [h.2.2.2.1, isOf_mk hp (by omega), if_neg (by decide), qrI_nI (by omega) (by omega)]
  simp only [Option.bind_some]
  rw [h.2.2.2.2.2.2 p hp, ofSort_eq h (vof_spec hp).1 hw]
  rfl
theorem jmax_sub {a b : Nat} (ha : a < 1000000) (hb : b < 1000000) : jmaxI 0 (nI a - nI b) = nI (a - b) := by
  unfold jmaxI
  rw [nI_iI, nI_iI, iI_sub, nI_iI, show (0 : Int32) = iI 0 from rfl]
  by_cases h : (0 : Int) < a - b
  · rw [if_pos (by rw [iI_lt (by omega) (by omega) (by omega) (by omega)]; exact h)]
    exact iI_congr (by omega)
  · rw [if_neg (by rw [iI_lt (by omega) (by omega) (by omega) (by omega)]; exact h)]
    exact iI_congr (by omega)
theorem worthIn_eq {M : qM} {k : Nat} {v : vT} {t m : Nat} (h : rVC M k v) (ht : t < vTn v) (hm : m < 1000) : jVi_worthIn k (nI t) (nI m) M = some (nI (vTi v t 2 - vTi v t 3 * m)) := by
  have h1 := h.1.2.2.2.1 t ht
  have h2 : vTi v t 3 * m ≤ 99 * 999 := Nat.mul_le_mul h1.2.2.2 (by omega)
  unfold jVi_worthIn
  rw [show (2 : Int32) = nI 2 from rfl, show (3 : Int32) = nI 3 from rfl, ofThing_eq h ht (by decide), ofThing_eq h ht (by decide)]
  simp only [Option.bind_some]
  rw [nI_mul, jmax_sub (by omega) (by omega)]
theorem thingAt_eq {M : qM} {n : Nat} {v : vT} {t w : Nat} (h : rVM M n v) (hn : n < 5) (ht : t < vTn v) (hw : w < 4) : jMd_thingAt (nI n) (nI t) (nI w) M = some (nI (vTi v t w)) := by
  have h4 := h.1.1
  unfold jMd_thingAt
  have e : 4 * (4 * nI n + nI t) + nI w = nI (4 * (4 * n + t) + w) := by
    rw [show (4 : Int32) = nI 4 from rfl, nI_mul, nI_add, nI_mul, nI_add]
  rw [e, qrI_nI (by omega) (by omega), h.2.2.2.2.1 t ht w hw]
  rfl
theorem sortAt_eq {M : qM} {n : Nat} {v : vT} {s w : Nat} (h : rVM M n v) (hn : n < 5) (hs : s < vSn v) (hw : w < 4) : jMd_sortAt (nI n) (nI s) (nI w) M = some (nI (vSi v s w)) := by
  have h4 := h.1.2.1
  unfold jMd_sortAt
  have e : 4 * (6 * nI n + nI s) + nI w = nI (4 * (6 * n + s) + w) := by
    rw [show (4 : Int32) = nI 4 from rfl, show (6 : Int32) = nI 6 from rfl, nI_mul, nI_add, nI_mul, nI_add]
  rw [e, qrI_nI (by omega) (by omega), h.2.2.2.2.2 s hs w hw]
  rfl
theorem sortOf_eq {M : qM} {n : Nat} {v : vT} {p : Nat} (h : rVM M n v) (hn : n < 5) (hp : p < vP v) : jMd_sortOf (nI n) (nI p) M = some (nI (vof v p)) := by
  have hv := vof_spec hp
  have h20 := h.1.2.2.1
  unfold jMd_sortOf
  rw [qlp_for0 (s0 := (nI p, (0 : Int32))) (fun s => (nI (p - vCs v s), nI s)) (nI (vof v p)) (vof v p) (by simp [vCs, sumN]; rfl) (fun s hs => ?_) ?_]
  · rfl
  · simp only [qu2]
    rw [show (0 : Int32) = nI 0 from rfl, sortAt_eq h hn hv.1 (by decide)]
    simp only [Option.bind_some]
    have h3 := vCs_S v (vof v p)
    have h4 := vOK_s h.1 hv.1 (w := 0) (by decide)
    rw [if_pos (nI_lt (by omega) (by omega))]
  · simp only [qu2, qlt]
    have h3 := vCs_S v s
    have h5 : vCs v (s + 1) ≤ vCs v (vof v p) := sumN_mono (by omega)
    have h4 := vOK_s h.1 (show s < vSn v by omega) (w := 0) (by decide)
    rw [show (0 : Int32) = nI 0 from rfl, sortAt_eq h hn (by omega) (by decide)]
    simp only [Option.bind_some]
    rw [if_neg (nI_nlt (by omega) (by omega)), nI_subE (by omega), nI_1, show p - vCs v s - vSi v s 0 = p - vCs v (s + 1) by omega]
/-! what is asked of numbers -/
theorem isOf_Z (a : Int32) {T : Nat} (h2 : T < 1000000) : jTc_isOf a (nI T) = jMd_in a 0 (nI T - 1) := by
  rcases Nat.eq_zero_or_pos T with h | h
  · subst h
    exact isOf_in rfl (by decide)
  · exact isOf_T a h h2
theorem isVil_2 {M M' : qM} {n : Nat} {f : Nat → vT} (hC : rVsC M n f) (hM : rVsM M' n f) (a : Int32) : (∃ i, i < n ∧ a = nI i ∧ jTc_isVillage a M = true ∧ jMd_isVillage a M' = true) ∨ (jTc_isVillage a M = false ∧ jMd_isVillage a M' = false) := by
  have h4 := hC.1
  unfold jTc_isVillage jMd_isVillage
  rw [hC.2.1, hM.2.1, ← isOf_Z a (by omega)]
  cases hz : jTc_isOf a (nI n) with
  | false => exact Or.inr ⟨rfl, rfl⟩
  | true =>
    obtain ⟨i, hi, rfl⟩ := isOf_of (by omega) hz
    exact Or.inl ⟨i, hi, rfl, rfl, rfl⟩
theorem isThing_2 {M M' : qM} {n : Nat} {f : Nat → vT} (hC : rVsC M n f) (hM : rVsM M' n f) (a b : Int32) : (∃ i t, i < n ∧ t < vTn (f i) ∧ a = nI i ∧ b = nI t ∧ jTc_isThing a b M = some true ∧ jMd_isThing a b M' = some true) ∨ (jTc_isThing a b M = some false ∧ jMd_isThing a b M' = some false) := by
  have h4 := hC.1
  unfold jTc_isThing jMd_isThing
  rcases isVil_2 hC hM a with ⟨i, hi, rfl, e1, e2⟩ | ⟨e1, e2⟩
  · have hv := hC.2.2 i hi
    have hw := hM.2.2 i hi
    have hT := hv.1.1
    rw [e1, e2, qix_nI (show i < 5 by omega) (by omega), qrI_nI (show i < 5 by omega) (by omega)]
    simp only [Option.bind_some, hv.2.1, hw.2.1, b2i_0, ← isOf_Z b (show vTn (f i) < 1000000 by omega)]
    cases hz : jTc_isOf b (nI (vTn (f i))) with
    | false => exact Or.inr ⟨rfl, rfl⟩
    | true =>
      obtain ⟨t, ht, rfl⟩ := isOf_of (by omega) hz
      exact Or.inl ⟨i, t, hi, ht, rfl, rfl, rfl, rfl⟩
  · rw [e1, e2]
    exact Or.inr ⟨rfl, rfl⟩
/-! ===== promises 6 to 9: village, thing, sort, of ===== -/
theorem p_thing {M : qM} {n : Nat} {f : Nat → vT} (hC : rVsC M n f) (hM : rVsM M n f) (a b c : Int32) : ∃ r, jTc_thing a b c M = some r ∧ jMd_thing a b c M = some r := by
  have h4 := hC.1
  unfold jTc_thing jMd_thing
  rcases isThing_2 hC hM a b with ⟨i, t, hi, ht, rfl, rfl, e1, e2⟩ | ⟨e1, e2⟩
  · rw [e1, e2]
    have e : jMd_in c 0 3 = jTc_isOf c 4 := (isOf_in rfl rfl).symm
    simp only [Option.bind_some, b2i_0, e]
    cases hz : jTc_isOf c 4 with
    | false => exact ⟨-1, rfl, rfl⟩
    | true =>
      obtain ⟨w, hw, rfl⟩ := isOf_of (T := 4) (by decide) hz
      refine ⟨nI (vTi (f i) t w), ?_, ?_⟩
      · rw [qix_nI (show i < 5 by omega) (by omega)]
        simp [ofThing_eq (hC.2.2 i hi) ht hw]
      · simp [thingAt_eq (hM.2.2 i hi) (by omega) ht hw]
  · rw [e1, e2]
    exact ⟨-1, rfl, rfl⟩
theorem p_sort {M : qM} {n : Nat} {f : Nat → vT} (hC : rVsC M n f) (hM : rVsM M n f) (a b c : Int32) : ∃ r, jTc_sort a b c M = some r ∧ jMd_sort a b c M = some r := by
  have h4 := hC.1
  unfold jTc_sort jMd_sort
  rcases isVil_2 hC hM a with ⟨i, hi, rfl, e1, e2⟩ | ⟨e1, e2⟩
  · have hv := hC.2.2 i hi
    have hw := hM.2.2 i hi
    have hT := hv.1.2.1
    have e : jMd_in c 0 3 = jTc_isOf c 4 := (isOf_in rfl rfl).symm
    rw [e1, e2, qix_nI (show i < 5 by omega) (by omega), qrI_nI (show i < 5 by omega) (by omega)]
    simp only [Option.bind_some, hv.2.2.1, hw.2.2.1, b2i_0, ← isOf_Z b (show vSn (f i) < 1000000 by omega), e]
    cases hz : jTc_isOf b (nI (vSn (f i))) with
    | false => exact ⟨-1, rfl, rfl⟩
    | true =>
      obtain ⟨s, hs, rfl⟩ := isOf_of (by omega) hz
      cases hz : jTc_isOf c 4 with
      | false => exact ⟨-1, rfl, rfl⟩
      | true =>
        obtain ⟨w, hw', rfl⟩ := isOf_of (T := 4) (by decide) hz
        refine ⟨nI (vSi (f i) s w), ?_, ?_⟩
        · simp [ofSort_eq hv hs hw']
        · simp [sortAt_eq hw (by omega) hs hw']
  · rw [e1, e2]
    exact ⟨-1, rfl, rfl⟩
theorem p_of {M : qM} {n : Nat} {f : Nat → vT} (hC : rVsC M n f) (hM : rVsM M n f) (a b : Int32) : ∃ r, jTc_of a b M = some r ∧ jMd_of a b M = some r := by
  have h4 := hC.1
  unfold jTc_of jMd_of
  rcases isVil_2 hC hM a with ⟨i, hi, rfl, e1, e2⟩ | ⟨e1, e2⟩
  · have hv := hC.2.2 i hi
    have hw := hM.2.2 i hi
    have hT := hv.1.2.2.1
    rw [e1, e2, qix_nI (show i < 5 by omega) (by omega), qrI_nI (show i < 5 by omega) (by omega)]
    simp only [Option.bind_some, hv.2.2.2.1, hw.2.2.2.1, b2i_0, ← isOf_Z b (show vP (f i) < 1000000 by omega)]
    cases hz : jTc_isOf b (nI (vP (f i))) with
    | false => exact ⟨-1, rfl, rfl⟩
    | true =>
      obtain ⟨p, hp, rfl⟩ := isOf_of (by omega) hz
      refine ⟨nI (vof (f i) p), ?_, ?_⟩
      · rw [qrI_nI (by omega) (by omega), hv.2.2.2.2.2.2 p hp]
        simp
      · simp [sortOf_eq hw (by omega) hp]
  · rw [e1, e2]
    exact ⟨-1, rfl, rfl⟩
/-- where the class answers, and where it throws -/
theorem p_village {M : qM} {n : Nat} {f : Nat → vT} (hC : rVsC M n f) (hM : rVsM M n f) (a b : Int32) : (jTc_isVillage a M = true ∧ jTc_isOf b 3 = true ∧ ∃ r, jTc_village a b M = some r ∧ jMd_village a b M = some (r, qI M 91 0 0)) ∨ ((jTc_isVillage a M = false ∨ jTc_isOf b 3 = false) ∧ jMd_village a b M = some (0, qI M 91 0 1)) := by
  have h4 := hC.1
  have e : jMd_in b 0 2 = jTc_isOf b 3 := (isOf_in rfl rfl).symm
  unfold jTc_village jMd_village
  simp only [e]
  rcases isVil_2 hC hM a with ⟨i, hi, rfl, e1, e2⟩ | ⟨e1, e2⟩
  · have hv := hC.2.2 i hi
    have hw := hM.2.2 i hi
    cases hz : jTc_isOf b 3 with
    | false =>
      refine Or.inr ⟨Or.inr rfl, ?_⟩
      rw [e2]
      simp [qlt, b2i, qI_1]
    | true =>
      refine Or.inl ⟨e1, rfl, ?_⟩
      obtain ⟨w, hw', rfl⟩ := isOf_of (T := 3) (by decide) hz
      rw [e1, e2, qix_nI (show i < 5 by omega) (by omega)]
      have : w = 0 ∨ w = 1 ∨ w = 2 := by omega
      rcases this with rfl | rfl | rfl
      · refine ⟨nI (vTn (f i)), ?_, ?_⟩
        · simp [qlt, b2i, hv.2.1, show nI 0 = 0 from rfl]
        · simp [qlt, b2i, qI_1, show nI 0 = 0 from rfl, qrI_nI (show i < 5 by omega), hw.2.1]
      · refine ⟨nI (vSn (f i)), ?_, ?_⟩
        · simp [qlt, b2i, hv.2.2.1, show nI 1 = 1 from rfl]
        · simp [qlt, b2i, qI_1, show nI 1 = 1 from rfl, qrI_nI (show i < 5 by omega), hw.2.2.1]
      · refine ⟨nI (vP (f i)), ?_, ?_⟩
        · simp [qlt, b2i, hv.2.2.2.1, show nI 2 = 2 from rfl]
        · simp [qlt, b2i, qI_1, show nI 2 = 2 from rfl, qrI_nI (show i < 5 by omega), hw.2.2.2.1]
  · refine Or.inr ⟨Or.inl e1, ?_⟩
    rw [e2]
    simp [qlt, b2i, qI_1]
