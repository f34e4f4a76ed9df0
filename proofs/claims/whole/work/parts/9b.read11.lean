/-! ===== clauses: what a way holds so far ===== -/
theorem cW_frL {M M1 : qM} {k sz : Nat} (g : ∀ j, j < sz → M1.1 (k + 1) j = M.1 (k + 1) j ∧ M1.1 (k + 2) j = M.1 (k + 2) j) : ∀ (W : wW) {s : Nat}, cW M k sz s W → cW M1 k sz s W := by
  intro W
  induction W with
  | nil => intro s h; exact h
  | cons x W ih =>
    intro s h
    refine ⟨fun hx => ?_, fun hx => ?_⟩
    · obtain ⟨a, b, c⟩ := h.1 hx
      have := cW_le W c
      exact ⟨cdC_fr a (fun j _ _ => g j (by omega)), by rw [(g _ (by omega)).1]; exact b, ih c⟩
    · obtain ⟨a, b, c, d, e, f⟩ := h.2 hx
      have := cW_le W f
      exact ⟨cdC_fr a (fun j _ _ => g j (by omega)), by rw [(g _ (by omega)).1]; exact b, by rw [(g _ (by omega)).2]; exact c, cdC_fr d (fun j _ _ => g j (by omega)), by rw [(g _ (by omega)).1]; exact e, ih f⟩
theorem mW_frL {M M1 : qM} {n C Q : Nat} (g1 : ∀ j, j < C → M1.1 93 (340 * n + j) = M.1 93 (340 * n + j) ∧ M1.1 94 (340 * n + j) = M.1 94 (340 * n + j)) (g2 : ∀ j, j < Q → M1.1 97 (90 * n + j) = M.1 97 (90 * n + j) ∧ M1.1 98 (90 * n + j) = M.1 98 (90 * n + j) ∧ M1.1 99 (90 * n + j) = M.1 99 (90 * n + j)) : ∀ (W : wW) {c q : Nat}, c + wln W ≤ C → q + W.length ≤ Q → mW M n c q W → mW M1 n c q W := by
  intro W
  induction W with
  | nil => intro c q _ _ h; trivial
  | cons x W ih =>
    intro c q h1 h2 h
    obtain ⟨a, b, d, e, f, i⟩ := h
    have h1 : c + (x.1.length + x.2.length + wln W) ≤ C := h1
    have h2 : q + (W.length + 1) ≤ Q := h2
    obtain ⟨u1, u2, u3⟩ := g2 q (by omega)
    refine ⟨by rw [u1]; exact a, by rw [u2]; exact b, by rw [u3]; exact d, cdM_fr e (fun j _ _ => g1 j (by omega)), cdM_fr f (fun j _ _ => g1 j (by omega)), ih (by omega) (by omega) i⟩
theorem cW_app1 {M : qM} {k sz mid : Nat} {x : List (Nat × Nat) × List (Nat × Nat)} (h2 : cW M k sz mid [x]) : ∀ (W : wW) {s : Nat}, cW M k mid s W → cW M k sz s (W ++ [x]) := by
  intro W
  induction W with
  | nil =>
    intro s h
    have h : s = mid := h
    subst h
    exact h2
  | cons y W ih =>
    intro s h
    refine ⟨fun hx => ?_, fun hx => ?_⟩
    · obtain ⟨a, b, c⟩ := h.1 hx
      exact ⟨a, b, ih c⟩
    · obtain ⟨a, b, c, d, e, f⟩ := h.2 hx
      exact ⟨a, b, c, d, e, ih f⟩
theorem mW_app1 {M : qM} {n : Nat} {x : List (Nat × Nat) × List (Nat × Nat)} : ∀ (W : wW) {c q : Nat}, mW M n (c + wln W) (q + W.length) [x] → mW M n c q W → mW M n c q (W ++ [x]) := by
  intro W
  induction W with
  | nil => intro c q h2 _; exact h2
  | cons y W ih =>
    intro c q h2 h
    obtain ⟨a, b, d, e, f, i⟩ := h
    refine ⟨a, b, d, e, f, ih ?_ i⟩
    rw [show c + y.1.length + y.2.length + wln W = c + wln (y :: W) by show _ = c + (y.1.length + y.2.length + wln W); omega, show q + 1 + W.length = q + (y :: W).length by simp only [List.length_cons]; omega]
    exact h2
theorem wln_app1 {x : List (Nat × Nat) × List (Nat × Nat)} : ∀ (W : wW), wln (W ++ [x]) = wln W + x.1.length + x.2.length := by
  intro W
  induction W with
  | nil => show x.1.length + x.2.length + 0 = 0 + x.1.length + x.2.length; omega
  | cons y W ih => show y.1.length + y.2.length + wln (W ++ [x]) = y.1.length + y.2.length + wln W + x.1.length + x.2.length; rw [ih]; omega
theorem wfW_app1 {W : wW} {x : List (Nat × Nat) × List (Nat × Nat)} (h : wfW W) (hx : wfc x) : wfW (W ++ [x]) := by
  intro y hy
  rcases List.mem_append.mp hy with h1 | h1
  · exact h y h1
  · rw [List.mem_singleton.mp h1]; exact hx
/-! cells of the reference below 96 kept -/
def lowM (N N1 : qM) : Prop := ∀ b j, b < 96 → N1.1 b j = N.1 b j
theorem low_rf (N : qM) : lowM N N := fun _ _ _ => rfl
theorem lowM.tr {N N1 N2 : qM} (h : lowM N N1) (h2 : lowM N1 N2) : lowM N N2 := fun b j hb => (h2 b j hb).trans (h b j hb)
theorem low_I {N : qM} {b i : Nat} {v : Int32} (hb : 96 ≤ b) : lowM N (qI N b i v) := by
  intro x j hx
  rw [qI_1, if_neg (by omega)]
theorem scM_low {N N1 : qM} {τ : tT} {n a c d : Nat} (h : scM N τ n a c d) (g : lowM N N1) : scM N1 τ n a c d := by
  obtain ⟨h1, h2, h3, h4, h5, h6⟩ := h
  exact ⟨⟨by rw [g 91 2 (by omega)]; exact h1.1, h1.2.1, fun j hj => by rw [g 92 j (by omega)]; exact h1.2.2 j hj⟩, by rw [g 91 3 (by omega)]; exact h2, by rw [g 91 4 (by omega)]; exact h3, by rw [g 91 5 (by omega)]; exact h4, by rw [g 91 14 (by omega)]; exact h5, by rw [g 95 n (by omega)]; exact h6⟩
theorem dM_low {N N1 : qM} {τ : tT} {n w c B : Nat} (h : dM N τ n w c B) (g : lowM N N1) : dM N1 τ n w c B := by
  obtain ⟨h1, h2, h3, h4, y, h5, h6⟩ := h
  exact ⟨⟨by rw [g 91 2 (by omega)]; exact h1.1, h1.2.1, fun j hj => by rw [g 92 j (by omega)]; exact h1.2.2 j hj⟩, by rw [g 91 4 (by omega)]; exact h2, h3, by rw [g 91 14 (by omega)]; exact h4, y, by rw [g 95 n (by omega)]; exact h5, h6⟩
theorem cdM_low {N N1 : qM} {n s : Nat} {L : List (Nat × Nat)} (h : cdM N n s L) (g : lowM N N1) : cdM N1 n s L := cdM_fr h (fun _ _ _ => ⟨g 93 _ (by omega), g 94 _ (by omega)⟩)
/-- what a clause of the reference may change -/
def rcM (n c q b j : Nat) : Prop := rsM n c b j ∨ (b = 96 ∧ j = n) ∨ ((b = 97 ∨ b = 98 ∨ b = 99) ∧ j = 90 * n + q)
theorem rs_rc {n c q : Nat} {N N1 : qM} (h : fr (rsM n c) N N1) : fr (rcM n c q) N N1 := h.mono (fun _ _ hb => .inl hb)
/-! the reference's 'must be this sign' -/
noncomputable def mstM (x : Int32) (M : qM) : Option qM :=
  ((
    if (M.1 91 4 : Int32) = ((-1) : Int32) then
      (jMd_look M).bind fun w55 =>
      qu2 w55 fun r56 M57 =>
      if (r56 : Int32) = x then
        some M57
      else
        qlt (jMd_bad M57) fun M58 =>
        some M58
    else
      some M) : Option qM)
theorem mst_ok {M : qM} {τ : tT} {n a c d : Nat} {x : Int32} (hl : a ≤ τ.1) (h : scM M τ n a c d) : wp (mstM x M) (fun o => fr (rsM n c) M o ∧ (cb τ (sk τ a) = x → scM o τ n (sk τ a) c d) ∧ (¬ cb τ (sk τ a) = x → dM o τ n (sk τ a) c c)) := by
  have h160 := h.1.2.1
  have hsk := sk_le hl
  obtain ⟨⟨r, M6⟩, e, h1, h2, h3⟩ := look_st h hl
  have h1' : r = cb τ (sk τ a) := h1
  subst h1'
  unfold mstM
  refine wp_ip h.2.2.1 (wp_be e ?_)
  by_cases hc : cb τ (sk τ a) = x
  · exact wp_ip hc (wp_some ⟨atM_rs h3, fun _ => h2, fun g => absurd hc g⟩)
  · obtain ⟨f1, f2⟩ := badM h2 (by omega) (Nat.le_refl c)
    exact wp_in hc (wp_some ⟨(atM_rs h3).tr (f2 c), fun g => absurd g hc, fun _ => f1⟩)
theorem mst_bad {M : qM} {τ : tT} {n w c B : Nat} {x : Int32} (h : dM M τ n w c B) : mstM x M = some M := if_neg (dM_w h)
theorem dM_inc {M : qM} {τ : tT} {n w c B : Nat} {v : Int32} (h : dM M τ n w c B) : dM (qI M 91 3 v) τ n w c B := by
  obtain ⟨g1, g2, g3, g4, y, g5, g6⟩ := h
  exact ⟨⟨by simp [qI_1, g1.1], g1.2.1, fun j hj => by simp [qI_1, g1.2.2 j hj]⟩, by simp [qI_1, g2], g3, by simp [qI_1, g4], y, by simp [qI_1, g5], g6⟩
/-! the class's leap -/
theorem lead_wp {M : qM} {k x : Nat} {v : Int32} (hx : x < 160) : wp (jWy_leadTo k (nI x) v M) (fun o => (o = M ∨ o = qI M (k + 2) x v) ∧ ∀ sz, M.1 k 2 = nI sz → sz ≤ 160 → x < sz → o = qI M (k + 2) x v) := by
  unfold jWy_leadTo
  cases hz : jTc_isOf (nI x) (M.1 k 2) with
  | false =>
    refine wp_bd (wp_ip ff0 (wp_some (wp_some ⟨.inl rfl, fun sz h1 h2 h3 => ?_⟩)))
    have : jTc_isOf (nI x) (M.1 k 2) = true := by
      rw [isOf_iff, h1, nI_toInt (by omega), nI_toInt (by omega)]
      omega
    rw [hz] at this
    cases this
  | true =>
    exact wp_bd (wp_in tt0 (wp_bd (wp_wI rfl hx (by decide) (wp_some (wp_some ⟨.inr rfl, fun _ _ _ _ => rfl⟩)))))
theorem scC_k2 {M : qM} {τ : tT} {k a s i : Nat} {v : Int32} (hk : 12 ≤ k) (h : scC M τ k a s) : scC (qI M (k + 2) i v) τ k a s := by
  obtain ⟨h1, h2, h3, h4, h5, h6⟩ := h
  have e : ∀ b j, ¬ b = k + 2 → (qI M (k + 2) i v).1 b j = M.1 b j := by
    intro b j hb
    rw [qI_1, if_neg (by omega)]
  exact ⟨⟨by rw [e 1 1 (by omega)]; exact h1.1, h1.2.1, fun j hj => by rw [e 2 j (by omega)]; exact h1.2.2 j hj⟩, by rw [e 1 2 (by omega)]; exact h2, h3, h4, by rw [e k 2 (by omega)]; exact h5, h6⟩
theorem dC_k2 {M : qM} {τ : tT} {k w i : Nat} {v : Int32} (hk : 12 ≤ k) (h : dC M τ k w) : dC (qI M (k + 2) i v) τ k w := by
  obtain ⟨h1, ⟨a, h2, h3⟩, h4, h5⟩ := h
  have e : ∀ b j, ¬ b = k + 2 → (qI M (k + 2) i v).1 b j = M.1 b j := by
    intro b j hb
    rw [qI_1, if_neg (by omega)]
  exact ⟨⟨by rw [e 1 1 (by omega)]; exact h1.1, h1.2.1, fun j hj => by rw [e 2 j (by omega)]; exact h1.2.2 j hj⟩, ⟨a, by rw [e 1 2 (by omega)]; exact h2, h3⟩, by rw [e 1 3 (by omega)]; exact h4, h5⟩
/-! the reference's end of a clause -/
noncomputable def fnE (x2 : Int32) (M19 : qM) : Option qM :=
      (qrI M19 95 7 (M19.1 91 14)).bind fun v33 =>
      (qwI M19 99 630 x2 v33).bind fun M34 =>
      (qrI M34 96 7 (M34.1 91 14)).bind fun v35 =>
      (qwI M34 96 7 (M34.1 91 14) (v35 + 1)).bind fun M36 =>
      some M36
noncomputable def fnM (x2 : Int32) (z15 : Bool) (M16 : qM) : Option qM :=
    (qrI M16 97 630 x2).bind fun v18 =>
    (qwI M16 98 630 x2 v18).bind fun M19 =>
    qlt ((
      if (b2i z15 : Int32) = (0 : Int32) then
        false
      else
        if (M19.1 91 4 : Int32) = ((-1) : Int32) then
          true
        else
          false) : Bool) fun z20 =>
    if z20 = true then
      (jMd_look M19).bind fun w21 =>
      qu2 w21 fun r22 M23 =>
      if (r22 : Int32) = (63 : Int32) then
        qlt (qI M23 91 3 ((M23.1 91 3) + 1)) fun M24 =>
        (qrI M24 95 7 (M24.1 91 14)).bind fun v25 =>
        (qwI M24 98 630 x2 v25).bind fun M26 =>
        (jMd_sum M26).bind fun M27 =>
        fnE x2 M27
      else
        qlt (jMd_bad M23) fun M32 =>
        some M32
    else
      fnE x2 M19
theorem fnE_wp {N : qM} {n q c : Nat} {u : Int32} (hn : n < 7) (hq : q < 90) (h14 : N.1 91 14 = nI n) (h95 : N.1 95 n = nI c) (h96 : N.1 96 n = u) : wp (fnE (nI (90 * n + q)) N) (fun o => o = qI (qI N 99 (90 * n + q) (nI c)) 96 n (u + 1)) := by
  unfold fnE
  refine wp_bd (wp_rI h14 hn (by decide) (wp_bd (wp_wI rfl (by omega) (by decide) (wp_bd (wp_rI (t := n) (by rw [qI_1, if_neg (by omega)]; exact h14) hn (by decide) (wp_bd (wp_wI (t := n) (by rw [qI_1, if_neg (by omega)]; exact h14) hn (by decide) (wp_some ?_))))))))
  rw [h95, qI_1, if_neg (by omega), h96]
theorem fnE_bad {N : qM} {τ : tT} {n q w c B : Nat} (hn : n < 7) (hq : q < 90) (h : dM N τ n w c B) : wp (fnE (nI (90 * n + q)) N) (fun o => dM o τ n w c B ∧ fr (rcM n c q) N o) := by
  obtain ⟨h1, h2, h3, h4, y, h5, h6⟩ := h
  refine (fnE_wp (u := N.1 96 n) hn hq h4 h5 rfl).mono (fun o ho => ?_)
  subst ho
  exact ⟨dM_low ⟨h1, h2, h3, h4, y, h5, h6⟩ ((low_I (by omega)).tr (low_I (by omega))), (fr_I (.inr (.inr ⟨.inr (.inr rfl), rfl⟩))).tr (fr_I (.inr (.inl ⟨rfl, rfl⟩)))⟩
theorem fnM_bad {N : qM} {τ : tT} {n q w c B : Nat} {z : Bool} (hn : n < 7) (hq : q < 90) (h : dM N τ n w c B) : wp (fnM (nI (90 * n + q)) z N) (fun o => dM o τ n w c B ∧ fr (rcM n c q) N o) := by
  unfold fnM
  refine wp_bd (wp_rI rfl (by omega) (by decide) (wp_bd (wp_wI rfl (by omega) (by decide) (wp_lt (fun z20 hz => wp_in ?_ ?_)))))
  · rw [hz]
    split
    · decide
    · rw [if_neg (dM_w (dM_low h (low_I (by omega))))]
      decide
  · refine (fnE_bad hn hq (dM_low h (low_I (by omega)))).mono (fun o ho => ⟨ho.1, (fr_I (.inr (.inr ⟨.inr (.inl rfl), rfl⟩))).tr ho.2⟩)
/-- a clause without a condition -/
theorem fnM_sum {N : qM} {τ : tT} {n q a c d : Nat} {u v : Int32} (hn : n < 7) (hq : q < 90) (h : scM N τ n a c d) (h96 : N.1 96 n = u) (h97 : N.1 97 (90 * n + q) = v) : wp (fnM (nI (90 * n + q)) false N) (fun o => o = qI (qI (qI N 98 (90 * n + q) v) 99 (90 * n + q) (nI c)) 96 n (u + 1)) := by
  unfold fnM
  refine wp_bd (wp_rI rfl (by omega) (by decide) (wp_bd (wp_wI rfl (by omega) (by decide) (wp_lt (fun z20 hz => wp_in ?_ ?_)))))
  · rw [hz, if_pos ff0]
    decide
  · rw [h97]
    refine fnE_wp hn hq ?_ ?_ ?_
    · rw [qI_1, if_neg (by omega)]; exact h.2.2.2.2.1
    · rw [qI_1, if_neg (by omega)]; exact h.2.2.2.2.2
    · rw [qI_1, if_neg (by omega)]; exact h96
