/-! ===== promises 2, 3: the tape ===== -/
/-- the tape as a value: how many bytes, and which -/
abbrev tT : Type := Nat × (Nat → Int32)
def tpush (τ : tT) (x : Int32) : tT := if x = 0 then τ else (τ.1 + 1, fun j => if j = τ.1 then x else τ.2 j)
def wby (p s : Int32) : Int32 := ((p.toUInt32 >>> (s.toUInt32 &&& Int32.toUInt32 31)).toInt32) &&& 255
def wc (p s : Int32) : Nat := if wby p s = 0 then 0 else 1
def tadd (τ : tT) (p : Int32) : tT := tpush (tpush (tpush (tpush τ (wby p 24)) (wby p 16)) (wby p 8)) (wby p 0)
def tcnt (p : Int32) : Nat := wc p 24 + wc p 16 + wc p 8 + wc p 0
theorem tpush_1 (τ : tT) (p s : Int32) : (tpush τ (wby p s)).1 = τ.1 + wc p s := by
  unfold tpush wc
  by_cases h : wby p s = 0 <;> simp [h]
theorem tadd_1 (τ : tT) (p : Int32) : (tadd τ p).1 = τ.1 + tcnt p := by
  unfold tadd tcnt
  rw [tpush_1, tpush_1, tpush_1, tpush_1]
  omega
theorem bytesOf_step (p x s s' : Int32) (hs : ¬ s < 0) (hs' : s + (-8) = s') (n : Nat) (hx : x = nI n) :
    (qu2 (x, s) fun x1 x2 =>
    if (x2 : Int32) < (0 : Int32) then
      (some (.inr x1) : Option ((Int32 × Int32) ⊕ Int32))
    else
      qlt ((
        if ((((p : Int32).toUInt32 >>> ((x2 : Int32).toUInt32 &&& Int32.toUInt32 31)).toInt32) &&& 255 : Int32) = (0 : Int32) then
          x1
        else
          qlt (x1 + 1 : Int32) fun x7 =>
          x7) : Int32) fun x5 =>
      qlt (x2 + (-8) : Int32) fun x6 =>
      some (.inl (x5, x6))) = some (.inl (nI (n + wc p s), s')) := by
  subst hx; subst hs'
  unfold qu2 qlt wc wby
  simp only [if_neg hs]
  by_cases h : (((p : Int32).toUInt32 >>> ((s : Int32).toUInt32 &&& Int32.toUInt32 31)).toInt32) &&& 255 = 0
  · simp [h]
  · simp [h, nI_1]
theorem bytesOf_eq (p : Int32) : jTp_bytesOf p = some (nI (tcnt p)) := by
  unfold jTp_bytesOf
  rw [qlp_inl (bytesOf_step p 0 24 16 (by decide) (by decide) 0 rfl), qlp_inl (bytesOf_step p _ 16 8 (by decide) (by decide) _ rfl), qlp_inl (bytesOf_step p _ 8 0 (by decide) (by decide) _ rfl), qlp_inl (bytesOf_step p _ 0 (-8) (by decide) (by decide) _ rfl), qlp_inr (r := nI (0 + wc p 24 + wc p 16 + wc p 8 + wc p 0)) (by unfold qu2; simp)]
  simp [tcnt]
/-- the class's tape, the reference's tape -/
def rTC (M : qM) (τ : tT) : Prop := M.1 1 1 = nI τ.1 ∧ τ.1 ≤ 160 ∧ ∀ j, j < τ.1 → M.1 2 j = τ.2 j
def rTM (M : qM) (τ : tT) : Prop := M.1 91 2 = nI τ.1 ∧ τ.1 ≤ 160 ∧ ∀ j, j < τ.1 → M.1 92 j = τ.2 j
theorem rTC.off {M M1 : qM} {τ : tT} (h : rTC M τ) (f : fM M M1) : rTC M1 τ := by
  unfold rTC
  rw [(f 1 (by decide)).1, (f 2 (by decide)).1]
  exact h
theorem rTM.off {M M1 : qM} {τ : tT} (h : rTM M τ) (f : fC M M1) : rTM M1 τ := by
  unfold rTM
  rw [(f 91 (by decide)).1, (f 92 (by decide)).1]
  exact h
/-- what a push does to the cells, and to nothing else -/
def tW (a b i : Nat) (M : qM) (n : Nat) (x : Int32) : qM := qI (qI M b n x) a i (nI (n + 1))
theorem rTC_push {M : qM} {τ : tT} (h : rTC M τ) (x : Int32) (hx : ¬ x = 0) (hn : τ.1 < 160) : rTC (tW 1 2 1 M τ.1 x) (tpush τ x) := by
  unfold rTC tW tpush
  rw [if_neg hx]
  refine ⟨by simp [qI_1], by show τ.1 + 1 ≤ 160; omega, fun j hj => ?_⟩
  have hj : j < τ.1 + 1 := hj
  simp only [qI_1]
  by_cases hjn : j = τ.1
  · simp [hjn]
  · simp [hjn, h.2.2 j (by omega)]
theorem rTM_push {M : qM} {τ : tT} (h : rTM M τ) (x : Int32) (hx : ¬ x = 0) (hn : τ.1 < 160) : rTM (tW 91 92 2 M τ.1 x) (tpush τ x) := by
  unfold rTM tW tpush
  rw [if_neg hx]
  refine ⟨by simp [qI_1], by show τ.1 + 1 ≤ 160; omega, fun j hj => ?_⟩
  have hj : j < τ.1 + 1 := hj
  simp only [qI_1]
  by_cases hjn : j = τ.1
  · simp [hjn]
  · simp [hjn, h.2.2 j (by omega)]
theorem add_step {M : qM} {τ : tT} (h : rTC M τ) (p s s' : Int32) (hs : ¬ s < 0) (hs' : s + (-8) = s') (hn : τ.1 + wc p s ≤ 160) :
    ∃ M1, (qu2 (s, M) fun x1 M2 =>
    if (x1 : Int32) < (0 : Int32) then
      (some (.inr M2) : Option ((Int32 × qM) ⊕ qM))
    else
      qlt ((((p : Int32).toUInt32 >>> ((x1 : Int32).toUInt32 &&& Int32.toUInt32 31)).toInt32) &&& 255 : Int32) fun x5 =>
      ((
        if (x5 : Int32) = (0 : Int32) then
          some M2
        else
          if (160 : Int32) ≤ (M2.1 1 1 : Int32) then
            some M2
          else
            (qwI M2 2 160 (M2.1 1 1) x5).bind fun M8 =>
            qlt (qI M8 1 1 ((M8.1 1 1) + 1)) fun M9 =>
            some M9) : Option qM).bind fun M6 =>
      qlt (x1 + (-8) : Int32) fun x7 =>
      some (.inl (x7, M6))) = some (.inl (s', M1)) ∧ rTC M1 (tpush τ (wby p s)) ∧ fC M M1 := by
  subst hs'
  unfold wc at hn
  unfold qu2 qlt
  simp only [if_neg hs]
  by_cases hz : wby p s = 0
  · refine ⟨M, ?_, ?_, fC_rf M⟩
    · unfold wby at hz
      simp [hz]
    · unfold tpush
      rw [if_pos hz]
      exact h
  · rw [if_neg hz] at hn
    refine ⟨tW 1 2 1 M τ.1 (wby p s), ?_, rTC_push h _ hz (by omega), (fC_I (by decide)).tr (fC_I (by decide))⟩
    have h1 : ¬ (160 : Int32) ≤ M.1 1 1 := by
      rw [h.1]
      exact nI_ge (a := τ.1) (b := 160) (by omega) (by decide)
    have h2 : qwI M 2 160 (M.1 1 1) (wby p s) = some (qI M 2 τ.1 (wby p s)) := by rw [h.1]; exact qwI_nI (by omega) (by decide)
    unfold wby at hz h2 ⊢
    simp only [if_neg hz, if_neg h1, h2, Option.bind_some]
    unfold tW
    have h3 : (qI M 2 τ.1 (((p.toUInt32 >>> (s.toUInt32 &&& Int32.toUInt32 31)).toInt32) &&& 255)).1 1 1 + 1 = nI (τ.1 + 1) := by
      simp [qI_1, h.1, nI_1]
    rw [h3]
theorem add_eq {M : qM} {τ : tT} (h : rTC M τ) (p : Int32) (hn : τ.1 + tcnt p ≤ 160) : ∃ M1, jTp_add p M = some M1 ∧ rTC M1 (tadd τ p) ∧ fC M M1 := by
  unfold tcnt at hn
  obtain ⟨M1, e1, r1, f1⟩ := add_step h p 24 16 (by decide) (by decide) (by omega)
  obtain ⟨M2, e2, r2, f2⟩ := add_step r1 p 16 8 (by decide) (by decide) (by rw [tpush_1]; omega)
  obtain ⟨M3, e3, r3, f3⟩ := add_step r2 p 8 0 (by decide) (by decide) (by rw [tpush_1, tpush_1]; omega)
  obtain ⟨M4, e4, r4, f4⟩ := add_step r3 p 0 (-8) (by decide) (by decide) (by rw [tpush_1, tpush_1, tpush_1]; omega)
  refine ⟨M4, ?_, r4, ((f1.tr f2).tr f3).tr f4⟩
  unfold jTp_add
  rw [qlp_inl e1, qlp_inl e2, qlp_inl e3, qlp_inl e4, qlp_inr (r := M4) (by unfold qu2; simp)]
  rfl
