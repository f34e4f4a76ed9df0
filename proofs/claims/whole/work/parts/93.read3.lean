/-! ===== letters and numbers ===== -/
def fnd (f : Nat → Int32) (c : Int32) : Nat → Nat → Int32
  | 0, _ => -1
  | m + 1, i => if f i = c then nI i else fnd f c m (i + 1)
theorem fnd_cg {f : Nat → Int32} {c c' : Int32} : ∀ m i, (∀ j, i ≤ j → j < i + m → (f j = c ↔ f j = c')) → fnd f c m i = fnd f c' m i := by
  intro m
  induction m with
  | zero => intro i h; rfl
  | succ m ih =>
    intro i h
    show (if f i = c then _ else _) = (if f i = c' then _ else _)
    by_cases e : f i = c
    · rw [if_pos e, if_pos ((h i (by omega) (by omega)).mp e)]
    · rw [if_neg e, if_neg (fun x => e ((h i (by omega) (by omega)).mpr x)), ih (i + 1) (fun j h1 h2 => h j (by omega) (by omega))]
theorem tB_b : ∀ t, t < 3 → ∀ j, j < q_tN t → 99 ≤ (q_tB t j).toInt ∧ (q_tB t j).toInt < 120 := by decide
theorem tN_b : ∀ t, t < 3 → 0 < q_tN t ∧ q_tN t ≤ 8 := by decide
theorem len_eq (t : Nat) (M : qM) (ht : t < 3) : jJ0_length_8abf5 t M = nI (q_tN t) := by
  have h : t = 0 ∨ t = 1 ∨ t = 2 := by omega
  unfold jJ0_length_8abf5 jJ0_coder_7d493
  simp only [qlt]
  rcases h with rfl | rfl | rfl <;> decide
theorem rB_eq {t i : Nat} (ht : t < 3) (h : i < q_tN t) : qrB t (nI i) = some (q_tB t i) := by
  have := tN_b t ht
  have e : (nI i).toNatClampNeg = i := by
    show (nI i).toInt.toNat = i
    rw [nI_toInt (by omega)]; rfl
  unfold qrB
  rw [e, if_neg]
  rintro (hx | hx)
  · rw [i_lt, nI_toInt (by omega)] at hx
    have : (0 : Int32).toInt = 0 := rfl
    omega
  · omega
theorem ixC {t : Nat} {p : Int32} (ht : t < 3) : ∀ m i, i + m = q_tN t → wp (qlp (σ := Int32) (ρ := (Int32 ⊕ Unit)) (
    fun x2 =>
    if (nI (q_tN t) : Int32) ≤ (x2 : Int32) then
      some (.inr (.inr ()))
    else
      (qrB t x2).bind fun v5 =>
      if (v5 : Int32) = (p : Int32) then
        some (.inr (.inl x2))
      else
        qlt (x2 + 1 : Int32) fun x6 =>
        some (.inl x6)) (nI i)) (fun r => qse r (fun x3 => some x3) (fun _ => some (-1)) = some (fnd (q_tB t) p m i)) := by
  have hb := tN_b t ht
  intro m
  induction m with
  | zero =>
    intro i h
    exact ⟨.inr (), qlp_inr (if_pos (nI_le (by omega) (by omega))), rfl⟩
  | succ m ih =>
    intro i h
    by_cases e : q_tB t i = p
    · refine ⟨.inl (nI i), qlp_inr ?_, ?_⟩
      · rw [if_neg (by rw [nI_leI (by omega) (by omega)]; omega), rB_eq ht (by omega)]
        simp only [Option.bind_some]
        rw [if_pos e]
      · show some _ = some (if q_tB t i = p then _ else _)
        rw [if_pos e]
    · obtain ⟨r, e1, e2⟩ := ih (i + 1) (by omega)
      refine ⟨r, ?_, ?_⟩
      · rw [qlp_inl (s' := nI (i + 1))]
        · exact e1
        · rw [if_neg (by rw [nI_leI (by omega) (by omega)]; omega), rB_eq ht (by omega)]
          simp only [Option.bind_some]
          rw [if_neg e]
          unfold qlt
          rw [nI_1]
      · refine e2.trans ?_
        show _ = some (if q_tB t i = p then _ else _)
        rw [if_neg e]
theorem ix_eq {t c : Nat} {M : qM} (ht : t < 3) (h0 : 0 < c) (h1 : c < 256) : jJ0_indexOf_0f7a4 t (((nI c : Int32).toUInt32 % 65536).toInt32) M = some (fnd (q_tB t) (nI c) (q_tN t) 0) := by
  have hb := tN_b t ht
  have e1 : ((nI c : Int32).toUInt32 % 65536).toInt32 = nI c := by
    have g : (nI c : Int32).toUInt32.toNat = c := by
      show (BitVec.ofNat 32 c).toNat = c
      rw [BitVec.toNat_ofNat]
      omega
    have : (nI c : Int32).toUInt32 % 65536 = (nI c : Int32).toUInt32 := by
      apply UInt32.toNat_inj.mp
      rw [UInt32.toNat_mod, g]
      exact Nat.mod_eq_of_lt (show c < 65536 by omega)
    rw [this]
    rfl
  have e2 : (nI c : Int32).toInt8.toInt32.toInt = (c : Int).bmod 256 := by
    rw [Int8.toInt_toInt32, Int32.toInt_toInt8, nI_toInt (by omega)]
  rw [e1]
  have e3 : jJ1_canEncode_9a6ad (nI c) = true := by
    unfold jJ1_canEncode_9a6ad qlt
    rw [if_neg (by rw [show (0 : Int32) = nI 0 from rfl, nI_ltI (by omega) (by omega)]; omega), if_neg (by rw [show (255 : Int32) = nI 255 from rfl, nI_ltI (by omega) (by omega)]; omega)]
  unfold jJ0_indexOf_0f7a4 jJ0_indexOf_7cf53
  rw [if_neg (by unfold jJ0_isLatin1_aae02; decide), len_eq t M ht]
  unfold jJ1_indexOf_4cfef
  rw [e3, if_neg (by decide)]
  have e4 : jmaxI 0 0 = nI 0 := by decide
  have e5 : jminI (nI (q_tN t)) (Int32.ofNat (q_tN t)) = nI (q_tN t) := by
    unfold jminI
    split <;> rfl
  simp only [qlt]
  rw [e4, e5, if_pos (nI_lt (by omega) (by omega))]
  unfold jJ1_indexOfChar_4cfef
  obtain ⟨r, g1, g2⟩ := ixC (t := t) (p := (nI c : Int32).toInt8.toInt32) ht (q_tN t) 0 (by omega)
  simp only [qlt] at g1 ⊢
  rw [g1]
  simp only [Option.bind_some]
  rw [g2]
  simp only [Option.bind_some]
  rw [fnd_cg]
  intro j _ hj
  have := tB_b t ht j (by omega)
  rw [i_eq, e2, i_eq (y := nI c), nI_toInt (by omega)]
  unfold Int.bmod
  simp only
  split <;> omega
theorem cb_c {τ : tT} (h : tOK τ) {a : Nat} (hc : ¬ cb τ a = -1) : ∃ c : Nat, cb τ a = nI c ∧ 0 < c ∧ c < 256 := by
  have hl := cb_lt hc
  obtain ⟨c, h1, h2, h3⟩ := h a hl
  exact ⟨c, by unfold cb; rw [if_pos hl, h1], h2, h3⟩
noncomputable def ami (t : Nat) (c : Int32) : Int32 := if c = -1 then -1 else fnd (q_tB t) c (q_tN t) 0
theorem among_st {M : qM} {τ : tT} {k a s t : Nat} (ht : t < 3) (hT : tOK τ) (hk : 12 ≤ k) (h : scC M τ k a s) : wp (jTp_peekAmong t M) (fun o => o.1 = ami t (cb τ (sk τ a)) ∧ scC o.2 τ k (sk τ a) s ∧ fr atC M o.2) := by
  unfold jTp_peekAmong
  refine wp_bd ((peek_st hk h).mono (fun o ho => ?_))
  obtain ⟨r, M3⟩ := o
  obtain ⟨e1, e2, e3⟩ := ho
  have e1 : r = cb τ (sk τ a) := e1
  subst e1
  by_cases hc : cb τ (sk τ a) = -1
  · refine wp_be (x := -1) (if_pos hc) (wp_some ⟨?_, e2, e3⟩)
    unfold ami
    rw [if_pos hc]
  · obtain ⟨c, g1, g2, g3⟩ := cb_c hT hc
    refine wp_be (x := fnd (q_tB t) (cb τ (sk τ a)) (q_tN t) 0) ?_ (wp_some ⟨?_, e2, e3⟩)
    · rw [if_neg hc, g1, ix_eq ht g2 g3]
      rfl
    · unfold ami
      rw [if_neg hc]
theorem letter_eq (c : Int32) : jMd_letterOf c = ami 2 c := by
  unfold jMd_letterOf ami
  simp only [qlt]
  by_cases h : c = -1
  · subst h; decide
  · rw [if_neg h]
    show _ = fnd (q_tB 2) c 8 0
    simp only [fnd, show q_tB 2 0 = 116 from rfl, show q_tB 2 1 = 104 from rfl, show q_tB 2 2 = 103 from rfl, show q_tB 2 3 = 110 from rfl, show q_tB 2 4 = 114 from rfl, show q_tB 2 5 = 111 from rfl, show q_tB 2 6 = 118 from rfl, show q_tB 2 7 = 99 from rfl, eq_comm (b := c)]
    rfl
/-! numbers -/
theorem dg_e (r : Int32) : jMd_isDigit r = jTp_isDigit r := rfl
def dv (r : Int32) : Nat := r.toInt.toNat - 48
theorem dg_t {r : Int32} (h : jTp_isDigit r = true) : r = nI (48 + dv r) ∧ dv r < 10 := by
  unfold jTp_isDigit at h
  simp only [qlt] at h
  by_cases h1 : r < 48
  · rw [if_pos h1] at h; cases h
  · rw [if_neg h1] at h
    by_cases h2 : 57 < r
    · rw [if_pos h2] at h; cases h
    · rw [i_lt, show (48 : Int32).toInt = 48 from rfl] at h1
      rw [i_lt, show (57 : Int32).toInt = 57 from rfl] at h2
      unfold dv
      refine ⟨?_, by omega⟩
      rw [i_eq, nI_toInt (by omega)]
      omega
theorem dg_m1 : jTp_isDigit (-1) = false := by decide
theorem dgt_lt {τ : tT} {a : Nat} (h : jTp_isDigit (cb τ a) = true) : a < τ.1 := by
  apply cb_lt
  intro e
  rw [e] at h
  cases h
noncomputable def nmN (τ : tT) : Nat → Nat → Nat → Nat × Nat
  | 0, a, v => (a, v)
  | m + 1, a, v => if jTp_isDigit (cb τ a) = true then nmN τ m (a + 1) (10 * v + dv (cb τ a)) else (a, v)
theorem nmN_le {τ : tT} : ∀ m a v, a ≤ τ.1 → a ≤ (nmN τ m a v).1 ∧ (nmN τ m a v).1 ≤ τ.1 := by
  intro m
  induction m with
  | zero => intro a v h; exact ⟨Nat.le_refl _, h⟩
  | succ m ih =>
    intro a v h
    by_cases hd : jTp_isDigit (cb τ a) = true
    · have e : nmN τ (m + 1) a v = nmN τ m (a + 1) (10 * v + dv (cb τ a)) := if_pos hd
      rw [e]
      have := dgt_lt hd
      have := ih (a + 1) (10 * v + dv (cb τ a)) (by omega)
      omega
    · have e : nmN τ (m + 1) a v = (a, v) := if_neg hd
      rw [e]
      exact ⟨Nat.le_refl _, h⟩
theorem nmN_v {τ : tT} : ∀ m a v N, v < N → (nmN τ m a v).2 < N * 10 ^ m := by
  intro m
  induction m with
  | zero => intro a v N h; show v < N * 1; omega
  | succ m ih =>
    intro a v N h
    have hp : 0 < 10 ^ m := Nat.pow_pos (by decide)
    by_cases hd : jTp_isDigit (cb τ a) = true
    · have e : nmN τ (m + 1) a v = nmN τ m (a + 1) (10 * v + dv (cb τ a)) := if_pos hd
      rw [e]
      have := (dg_t hd).2
      have := ih (a + 1) (10 * v + dv (cb τ a)) (10 * N) (by omega)
      rw [Nat.pow_succ]
      have e2 : 10 * N * 10 ^ m = N * (10 ^ m * 10) := by rw [Nat.mul_comm 10 N, Nat.mul_assoc, Nat.mul_comm 10]
      omega
    · have e : nmN τ (m + 1) a v = (a, v) := if_neg hd
      rw [e]
      show v < _
      rw [Nat.pow_succ]
      have : N * 1 ≤ N * (10 ^ m * 10) := Nat.mul_le_mul_left N (by omega)
      omega
theorem nstep (v : Nat) {r : Int32} (h : jTp_isDigit r = true) : nI v * 10 + r - 48 = nI (10 * v + dv r) := by
  have e := (dg_t h).1
  generalize dv r = x at e ⊢
  subst e
  rw [show (10 : Int32) = nI 10 from rfl, show (48 : Int32) = nI 48 from rfl, nI_mul, nI_add, nI_subE (by omega)]
  congr 1
  omega
theorem numC {τ : tT} {k s p : Nat} (hk : 12 ≤ k) (hp : p < 100) : ∀ m i v {M : qM} {a : Nat}, i + m = p → scC M τ k a s → wp (qlp (σ := (Int32 × Int32 × qM)) (ρ := (Int32 × qM)) (
      fun q => qu3 q fun x4 x5 M6 =>
      if (nI p : Int32) ≤ (x5 : Int32) then
        some (.inr (x4, M6))
      else
        (jTp_next M6).bind fun r14 =>
        if (b2i (jTp_isDigit r14) : Int32) = (0 : Int32) then
          some (.inr (x4, M6))
        else
          (jTp_next M6).bind fun r15 =>
          qlt (((x4 * 10) + r15) - 48 : Int32) fun x16 =>
          qlt (qI M6 1 2 ((M6.1 1 2) + 1)) fun M17 =>
          qlt (x5 + 1 : Int32) fun x18 =>
          some (.inl (x16, x18, M17))) (nI v, nI i, M)) (fun o => o.1 = nI (nmN τ m a v).2 ∧ scC o.2 τ k (nmN τ m a v).1 s ∧ fr atC M o.2) := by
  intro m
  induction m with
  | zero =>
    intro i v M a h hs
    exact ⟨(nI v, M), qlp_inr (if_pos (nI_le (by omega) (by omega))), rfl, hs, fr_rf _ _⟩
  | succ m ih =>
    intro i v M a h hs
    by_cases hd : jTp_isDigit (cb τ a) = true
    · have hl := dgt_lt hd
      obtain ⟨h1, h2⟩ := incC hk hs hl
      obtain ⟨o, e1, e2, e3, e4⟩ := ih (i + 1) (10 * v + dv (cb τ a)) (by omega) h1
      have e : nmN τ (m + 1) a v = nmN τ m (a + 1) (10 * v + dv (cb τ a)) := if_pos hd
      rw [e]
      refine ⟨o, ?_, e2, e3, h2.tr e4⟩
      rw [qlp_inl]
      · exact e1
      · unfold qu3
        simp only
        rw [if_neg (by rw [nI_leI (by omega) (by omega)]; omega), next_eq hs.1 hs.2.1 hs.2.2.1]
        simp only [Option.bind_some]
        rw [if_neg (by rw [hd]; decide)]
        unfold qlt
        rw [nstep v hd, nI_1]
    · have e : nmN τ (m + 1) a v = (a, v) := if_neg hd
      rw [e]
      refine ⟨(nI v, M), qlp_inr ?_, rfl, hs, fr_rf _ _⟩
      unfold qu3
      simp only
      rw [if_neg (by rw [nI_leI (by omega) (by omega)]; omega), next_eq hs.1 hs.2.1 hs.2.2.1]
      simp only [Option.bind_some]
      rw [if_pos (by rw [Bool.not_eq_true] at hd; rw [hd]; decide)]
