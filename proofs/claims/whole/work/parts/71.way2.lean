/-! ===== a way: clauses, each a condition's steps (or none) and a sum's ===== -/
abbrev wW : Type := List (List (Nat × Nat) × List (Nat × Nat))
def wfc (x : List (Nat × Nat) × List (Nat × Nat)) : Prop := (x.1 = [] ∨ ∀ lt, ∃ v, (v = 0 ∨ v = 1) ∧ runL lt x.1 [] = some [v]) ∧ ∀ lt, ∃ v, runL lt x.2 [] = some [v]
def wfW (W : wW) : Prop := ∀ x, x ∈ W → wfc x
noncomputable def wvS (lt : Nat → Int32) (S : List (Nat × Nat)) : Int32 := ((runL lt S []).getD []).headD 0
noncomputable def wval (lt : Nat → Int32) : wW → Int32
  | [] => 0
  | x :: W => if x.1 = [] ∨ ¬ runL lt x.1 [] = some [0] then wvS lt x.2 else wval lt W
def cW (M : qM) (k sz : Nat) : Nat → wW → Prop
  | s, [] => s = sz
  | s, x :: W => (x.1 = [] → cdC M k s x.2 ∧ M.1 (k + 1) (s + x.2.length) = 59 ∧ cW M k sz (s + x.2.length + 1) W) ∧ (¬ x.1 = [] → cdC M k s x.1 ∧ M.1 (k + 1) (s + x.1.length) = 63 ∧ M.1 (k + 2) (s + x.1.length) = nI (s + x.1.length + 1 + x.2.length + 1) ∧ cdC M k (s + x.1.length + 1) x.2 ∧ M.1 (k + 1) (s + x.1.length + 1 + x.2.length) = 59 ∧ cW M k sz (s + x.1.length + 1 + x.2.length + 1) W)
def mW (M : qM) (n : Nat) : Nat → Nat → wW → Prop
  | _, _, [] => True
  | c, q, x :: W => M.1 97 (90 * n + q) = nI c ∧ M.1 98 (90 * n + q) = nI (c + x.1.length) ∧ M.1 99 (90 * n + q) = nI (c + x.1.length + x.2.length) ∧ cdM M n c x.1 ∧ cdM M n (c + x.1.length) x.2 ∧ mW M n (c + x.1.length + x.2.length) (q + 1) W
def wln : wW → Nat
  | [] => 0
  | x :: W => x.1.length + x.2.length + wln W
def rWC (M : qM) (k : Nat) (W : wW) : Prop := ∃ sz, sz ≤ 160 ∧ M.1 k 2 = nI sz ∧ cW M k sz 0 W ∧ wfW W
def rWM (M : qM) (n : Nat) (W : wW) : Prop := W.length ≤ 90 ∧ wln W ≤ 340 ∧ M.1 96 n = nI W.length ∧ mW M n 0 0 W ∧ wfW W
theorem cW_le {M : qM} {k sz : Nat} : ∀ (W : wW) {s : Nat}, cW M k sz s W → s ≤ sz := by
  intro W
  induction W with
  | nil => intro s h; exact Nat.le_of_eq h
  | cons x W ih =>
    intro s h
    by_cases hx : x.1 = []
    · have := ih (h.1 hx).2.2
      omega
    · have := ih (h.2 hx).2.2.2.2.2
      omega
theorem cW_fr {M M1 : qM} {k sz : Nat} (g : ∀ j, M1.1 (k + 1) j = M.1 (k + 1) j ∧ M1.1 (k + 2) j = M.1 (k + 2) j) : ∀ (W : wW) {s : Nat}, cW M k sz s W → cW M1 k sz s W := by
  intro W
  induction W with
  | nil => intro s h; exact h
  | cons x W ih =>
    intro s h
    refine ⟨fun hx => ?_, fun hx => ?_⟩
    · obtain ⟨a, b, c⟩ := h.1 hx
      exact ⟨cdC_fr a (fun j _ _ => g j), by rw [(g _).1]; exact b, ih c⟩
    · obtain ⟨a, b, c, d, e, f⟩ := h.2 hx
      exact ⟨cdC_fr a (fun j _ _ => g j), by rw [(g _).1]; exact b, by rw [(g _).2]; exact c, cdC_fr d (fun j _ _ => g j), by rw [(g _).1]; exact e, ih f⟩
theorem mW_fr {M M1 : qM} {n : Nat} (g : ∀ b j, 93 ≤ b → b ≤ 99 → M1.1 b j = M.1 b j) : ∀ (W : wW) {c q : Nat}, mW M n c q W → mW M1 n c q W := by
  intro W
  induction W with
  | nil => intro c q h; trivial
  | cons x W ih =>
    intro c q h
    obtain ⟨a, b, d, e, f, i⟩ := h
    refine ⟨by rw [g _ _ (by omega) (by omega)]; exact a, by rw [g _ _ (by omega) (by omega)]; exact b, by rw [g _ _ (by omega) (by omega)]; exact d, cdM_fr e (fun j _ _ => ⟨g _ _ (by omega) (by omega), g _ _ (by omega) (by omega)⟩), cdM_fr f (fun j _ _ => ⟨g _ _ (by omega) (by omega), g _ _ (by omega) (by omega)⟩), ih i⟩
theorem rWC_fr {M M1 : qM} {k : Nat} {W : wW} {S : Nat → Nat → Prop} (h : rWC M k W) (g : fr S M M1) (h1 : ∀ b j, k ≤ b → b ≤ k + 2 → ¬ S b j) : rWC M1 k W := by
  obtain ⟨sz, a, b, c, d⟩ := h
  exact ⟨sz, a, by rw [(g k 2 (h1 k 2 (by omega) (by omega))).1]; exact b, cW_fr (fun j => ⟨(g _ _ (h1 (k + 1) j (by omega) (by omega))).1, (g _ _ (h1 (k + 2) j (by omega) (by omega))).1⟩) W c, d⟩
theorem rWM_fr {M M1 : qM} {n : Nat} {W : wW} {S : Nat → Nat → Prop} (h : rWM M n W) (g : fr S M M1) (h1 : ∀ b j, 93 ≤ b → b ≤ 99 → ¬ S b j) : rWM M1 n W := by
  obtain ⟨a, b, c, d, e⟩ := h
  exact ⟨a, b, by rw [(g 96 n (h1 96 n (by omega) (by omega))).1]; exact c, mW_fr (fun b j h2 h3 => (g b j (h1 b j h2 h3)).1) W d, e⟩
theorem wvS_eq {lt : Nat → Int32} {S : List (Nat × Nat)} {v : Int32} (h : runL lt S [] = some [v]) : wvS lt S = v := by
  unfold wvS
  rw [h]
  rfl
/-! ===== the class's value ===== -/
noncomputable def tlV (r9 : qM ⊕ (qM ⊕ ((Int32 × qM) ⊕ qM))) : Option (Int32 × qM) :=
  qse r9 (fun M4 =>
    some (0, M4)) (fun r9 =>
    qse r9 (fun M5 =>
      some (0, M5)) (fun r9 =>
      qse r9 (fun r9 =>
        qu2 r9 fun x6 M7 =>
        (qrI M7 11 64 (x6 - 1)).bind fun v10 =>
        some (v10, M7)) (fun M8 =>
        some (0, M8))))
theorem valueIn_df (k : Nat) (M : qM) : jWy_valueIn k M = (qlp (vIb k) (0, 0, M)).bind tlV := rfl
theorem doneC {lt : Nat → Int32} {k sz s : Nat} {S : List (Nat × Nat)} {N : qM} {v : Int32} (hk : 12 ≤ k) (h2 : sz ≤ 160) (h3 : N.1 k 2 = nI sz) (hl : ∀ j, j < 8 → N.1 10 j = lt j) (hc : cdC N k s S) (hd : N.1 (k + 1) (s + S.length) = 59) (hs : s + S.length < sz) (hr : runL lt S [] = some [v]) :
    wp ((qlp (vIb k) (nI 0, nI s, N)).bind tlV) (fun o => o.1 = v ∧ fr (fun b _ => b = 11) N o.2) := by
  obtain ⟨N1, g1, g2, g3, g4⟩ := segC hk h2 S (stk := []) hr hl (by omega) h3 hc trivial (by decide)
  have g1 : qlp (vIb k) (nI 0, nI s, N) = qlp (vIb k) (nI 1, nI (s + S.length), N1) := g1
  rw [g1]
  have d0 : ¬ N1.1 k 2 ≤ nI (s + S.length) := by rw [(g3 k 2 (by omega)).1, h3]; exact nI_ge hs (by omega)
  have q1 : qrI N1 (k + 1) 160 (nI (s + S.length)) = some 59 := by rw [qrI_nI (by omega) (by omega), (g3 (k + 1) _ (by omega)).1, hd]
  have q2 : qrI N1 (k + 2) 160 (nI (s + S.length)) = some (N1.1 (k + 2) (s + S.length)) := qrI_nI (by omega) (by omega)
  have hb : wp (vIb k (nI 1, nI (s + S.length), N1)) (fun o => o = .inr (.inr (.inr (.inl (nI 1, N1))))) := by
    refine wp_in d0 (wp_be q1 (wp_be q2 ?_))
    refine wp_in (by decide) (wp_in (by decide) (wp_in (by show ¬ nI 1 < 1; decide) (wp_ip (by show nI 1 ≤ 64; decide) (wp_ip (by decide) ?_))))
    exact wp_some rfl
  obtain ⟨o, e, rfl⟩ := hb
  rw [qlp_inr e]
  have q3 : qrI N1 11 64 (nI 1 - 1) = some v := by
    rw [show nI 1 - 1 = nI 0 from rfl, qrI_nI (by omega) (by omega)]
    exact congrArg some g2.1
  rw [Option.bind_some]
  unfold tlV
  simp only [qse, qu2]
  exact wp_be q3 (wp_some ⟨rfl, g3⟩)
theorem valC {lt : Nat → Int32} {k sz : Nat} (hk : 12 ≤ k) (h2 : sz ≤ 160) : ∀ (W : wW) {s : Nat} {N : qM}, wfW W → N.1 k 2 = nI sz → (∀ j, j < 8 → N.1 10 j = lt j) → cW N k sz s W →
    wp ((qlp (vIb k) (nI 0, nI s, N)).bind tlV) (fun o => o.1 = wval lt W ∧ fr (fun b _ => b = 11) N o.2) := by
  intro W
  induction W with
  | nil =>
    intro s N _ h3 hl hc
    have hc : s = sz := hc
    subst hc
    have hb : wp (vIb k (nI 0, nI s, N)) (fun o => o = .inr (.inr (.inr (.inr N)))) := by
      refine wp_ip (by rw [h3]; exact nI_le (Nat.le_refl _) (by omega)) (wp_some rfl)
    obtain ⟨o, e, rfl⟩ := hb
    rw [qlp_inr e]
    show wp (some ((0 : Int32), N)) _
    exact wp_some ⟨rfl, fr_rf _ _⟩
  | cons x W ih =>
    intro s N hw h3 hl hc
    have hwx := hw x (by simp)
    have hwW : wfW W := fun y hy => hw y (by simp [hy])
    obtain ⟨v, hv⟩ := hwx.2 lt
    by_cases hx : x.1 = []
    · obtain ⟨a, b, c⟩ := hc.1 hx
      have hle := cW_le W c
      refine (doneC hk h2 h3 hl a b (by omega) hv).mono ?_
      rintro o ⟨o1, o2⟩
      refine ⟨?_, o2⟩
      simp only [wval]
      rw [if_pos (Or.inl hx), wvS_eq hv]
      exact o1
    · obtain ⟨a, b, c, d, e, f⟩ := hc.2 hx
      have hle := cW_le W f
      obtain ⟨w, hw1, hw2⟩ := (hwx.1.resolve_left hx) lt
      obtain ⟨N1, g1, g2, g3, g4⟩ := segC hk h2 x.1 (stk := []) hw2 hl (by omega) h3 a trivial (by decide)
      have g1 : qlp (vIb k) (nI 0, nI s, N) = qlp (vIb k) (nI 1, nI (s + x.1.length), N1) := g1
      have g2 : N1.1 11 0 = w := g2.1
      rw [g1]
      have s3 : N1.1 k 2 = nI sz := by rw [(g3 k 2 (by omega)).1]; exact h3
      have d0 : ¬ N1.1 k 2 ≤ nI (s + x.1.length) := by rw [s3]; exact nI_ge (by omega) (by omega)
      have q1 : qrI N1 (k + 1) 160 (nI (s + x.1.length)) = some 63 := by rw [qrI_nI (by omega) (by omega), (g3 (k + 1) _ (by omega)).1, b]
      have q2 : qrI N1 (k + 2) 160 (nI (s + x.1.length)) = some (nI (s + x.1.length + 1 + x.2.length + 1)) := by rw [qrI_nI (by omega) (by omega), (g3 (k + 2) _ (by omega)).1, c]
      have q3 : qrI N1 11 64 (nI 1 + (-1)) = some w := by rw [show nI 1 + (-1) = nI 0 from rfl, qrI_nI (by omega) (by omega), g2]
      have gg : ∀ j, N1.1 (k + 1) j = N.1 (k + 1) j ∧ N1.1 (k + 2) j = N.1 (k + 2) j := fun j => ⟨(g3 (k + 1) j (by omega)).1, (g3 (k + 2) j (by omega)).1⟩
      have hb : wp (vIb k (nI 1, nI (s + x.1.length), N1)) (fun o => o = .inl (nI 0, nI (if w = 0 then s + x.1.length + 1 + x.2.length + 1 else s + x.1.length + 1), N1)) := by
        refine wp_in d0 (wp_be q1 (wp_be q2 ?_))
        refine wp_in (by decide) (wp_in (by decide) (wp_in (by show ¬ nI 1 < 1; decide) (wp_ip (by show nI 1 ≤ 64; decide) (wp_in (by decide) ?_))))
        refine wp_bd (wp_in (by decide) (wp_ip (by decide) ?_))
        refine wp_lt ?_
        rintro _ rfl
        refine wp_be q3 ?_
        refine wp_lt ?_
        intro x35 hx35
        refine wp_some (wp_some ?_)
        have e9 : x35 + 1 = nI (if w = 0 then s + x.1.length + 1 + x.2.length + 1 else s + x.1.length + 1) := by
          rw [hx35]
          by_cases hz : w = 0
          · rw [if_pos hz, if_pos hz, show nI (s + x.1.length + 1 + x.2.length + 1) - 1 = nI (s + x.1.length + 1 + x.2.length) from nI_pred _]
            unfold jmaxI
            rw [if_pos (nI_lt (by omega) (by omega)), nI_1]
          · rw [if_neg hz, if_neg hz, nI_1]
        show (Sum.inl (nI 1 + (-1), x35 + 1, N1) : _ ⊕ _) = _
        rw [e9]
        rfl
      obtain ⟨o, e1, rfl⟩ := hb
      rw [qlp_inl e1]
      by_cases hz : w = 0
      · rw [if_pos hz]
        have hlN : ∀ j, j < 8 → N1.1 10 j = lt j := fun j hj => by rw [(g3 10 j (by simp)).1]; exact hl j hj
        refine (ih hwW s3 hlN (cW_fr gg W f)).mono ?_
        rintro o ⟨o1, o2⟩
        refine ⟨?_, g3.tr o2⟩
        simp only [wval]
        rw [if_neg]
        · exact o1
        · rintro (h1 | h1)
          · exact hx h1
          · exact h1 (by rw [hw2, hz])
      · rw [if_neg hz]
        have hlN : ∀ j, j < 8 → N1.1 10 j = lt j := fun j hj => by rw [(g3 10 j (by simp)).1]; exact hl j hj
        refine (doneC hk h2 s3 hlN (cdC_fr d (fun j _ _ => gg j)) (by rw [(gg _).1]; exact e) (by omega) hv).mono ?_
        rintro o ⟨o1, o2⟩
        refine ⟨?_, g3.tr o2⟩
        simp only [wval]
        rw [if_pos, wvS_eq hv]
        · exact o1
        · right
          rw [hw2]
          intro h1
          cases h1
          exact hz rfl
theorem valueIn_wp {lt : Nat → Int32} {k : Nat} {W : wW} {M : qM} (hk : 12 ≤ k) (h : rWC M k W) (hl : ∀ j, j < 8 → M.1 10 j = lt j) : wp (jWy_valueIn k M) (fun o => o.1 = wval lt W ∧ fr (fun b _ => b = 11) M o.2) := by
  obtain ⟨sz, a, b, c, d⟩ := h
  rw [valueIn_df]
  exact valC hk a W d b hl c
/-! ===== the reference's value ===== -/
theorem workOut_wp {lt : Nat → Int32} {n c : Nat} {L : List (Nat × Nat)} {N : qM} {v : Int32} (hn : n < 7) (h2 : c + L.length ≤ 340) (hl : ∀ j, j < 8 → N.1 100 j = lt j) (hc : cdM N n c L) (hr : runL lt L [] = some [v]) : wp (jMd_workOut (nI n) (nI c) (nI (c + L.length)) N) (fun o => o.1 = v ∧ fr (fun b _ => b = 101) N o.2) := by
  have e0 : 340 * nI n + nI c = nI (340 * n + c) := by
    rw [show (340 : Int32) = nI 340 from rfl, nI_mul, nI_add]
  have een : 340 * nI n + nI (c + L.length) = nI (340 * n + (c + L.length)) := by
    rw [show (340 : Int32) = nI 340 from rfl, nI_mul, nI_add]
  have hdf : jMd_workOut (nI n) (nI c) (nI (c + L.length)) N = (qlp (wOb (nI n) (nI (c + L.length))) (0, 340 * nI n + nI c, N)).bind fun M5 => (qrI M5 101 80 0).bind fun v7 => some (v7, M5) := rfl
  rw [hdf, e0]
  obtain ⟨N1, g1, g2, g3, g4⟩ := segM hn h2 L (stk := []) hr hl (Nat.le_refl _) hc trivial (by decide)
  have g1 : qlp (wOb (nI n) (nI (c + L.length))) (0, nI (340 * n + c), N) = qlp (wOb (nI n) (nI (c + L.length))) (nI 1, nI (340 * n + (c + L.length)), N1) := g1
  have g2 : N1.1 101 0 = v := g2.1
  rw [g1]
  have hb : wp (wOb (nI n) (nI (c + L.length)) (nI 1, nI (340 * n + (c + L.length)), N1)) (fun o => o = .inr N1) := by
    refine wp_ip (by rw [een]; exact nI_le (Nat.le_refl _) (by omega)) (wp_some rfl)
  obtain ⟨o, e, rfl⟩ := hb
  rw [qlp_inr e, Option.bind_some]
  have q3 : qrI N1 101 80 0 = some v := by rw [show (0 : Int32) = nI 0 from rfl, qrI_nI (by omega) (by omega), g2]
  exact wp_be q3 (wp_some ⟨rfl, g3⟩)
theorem mW_wp {lt : Nat → Int32} {n T : Nat} (hn : n < 7) (hT : T ≤ 90) : ∀ (W : wW) {c q : Nat} {N : qM}, wfW W → q + W.length = T → c + wln W ≤ 340 → N.1 96 n = nI T → (∀ j, j < 8 → N.1 100 j = lt j) → mW N n c q W →
    wp ((qlp (σ := (Int32 × qM)) (ρ := ((Int32 × qM) ⊕ qM)) (
    fun q => qu2 q fun x2 M3 =>
    (qrI M3 96 7 (nI n)).bind fun v13 =>
    if ((90 * (nI n)) + v13 : Int32) ≤ (x2 : Int32) then
      some (.inr (.inr M3))
    else
      (qrI M3 97 630 x2).bind fun v14 =>
      (qrI M3 98 630 x2).bind fun v15 =>
      if (v14 : Int32) = (v15 : Int32) then
        some (.inr (.inl (x2, M3)))
      else
        (qrI M3 97 630 x2).bind fun v16 =>
        (qrI M3 98 630 x2).bind fun v17 =>
        (jMd_workOut (nI n) v16 v17 M3).bind fun w18 =>
        qu2 w18 fun r19 M20 =>
        if (r19 : Int32) = (0 : Int32) then
          qlt (x2 + 1 : Int32) fun x21 =>
          some (.inl (x21, M20))
        else
          some (.inr (.inl (x2, M20)))) (nI (90 * n + q), N)).bind fun r7 =>
  qse r7 (fun r7 =>
    qu2 r7 fun x4 M5 =>
    (qrI M5 98 630 x4).bind fun v8 =>
    (qrI M5 99 630 x4).bind fun v9 =>
    (jMd_workOut (nI n) v8 v9 M5).bind fun w10 =>
    qu2 w10 fun r11 M12 =>
    some (r11, M12)) (fun M6 =>
    some (0, M6))) (fun o => o.1 = wval lt W ∧ fr (fun b _ => b = 101) N o.2) := by
  have eT : 90 * nI n + nI T = nI (90 * n + T) := by
    rw [show (90 : Int32) = nI 90 from rfl, nI_mul, nI_add]
  intro W
  induction W with
  | nil =>
    intro c q N _ hq _ h96 hl _
    have hq : q = T := by simpa using hq
    subst hq
    have q0 : qrI N 96 7 (nI n) = some (nI q) := by rw [qrI_nI hn (by omega), h96]
    rw [qlp_inr (r := .inr N)]
    · rw [Option.bind_some]
      show wp (some ((0 : Int32), N)) _
      exact wp_some ⟨rfl, fr_rf _ _⟩
    · simp only [qu2]
      rw [q0]
      simp only [Option.bind_some]
      rw [if_pos (by rw [eT]; exact nI_le (Nat.le_refl _) (by omega))]
  | cons x W ih =>
    intro c q N hw hq hln h96 hl hm
    obtain ⟨a, b, d, e, f, g⟩ := hm
    have hwx := hw x (by simp)
    have hwW : wfW W := fun y hy => hw y (by simp [hy])
    obtain ⟨v, hv⟩ := hwx.2 lt
    simp only [List.length_cons] at hq
    simp only [wln] at hln
    have q0 : qrI N 96 7 (nI n) = some (nI T) := by rw [qrI_nI hn (by omega), h96]
    have q1 : qrI N 97 630 (nI (90 * n + q)) = some (nI c) := by rw [qrI_nI (by omega) (by omega), a]
    have q2 : qrI N 98 630 (nI (90 * n + q)) = some (nI (c + x.1.length)) := by rw [qrI_nI (by omega) (by omega), b]
    have d0 : ¬ 90 * nI n + nI T ≤ nI (90 * n + q) := by rw [eT]; exact nI_ge (by omega) (by omega)
    have tail : ∀ N1 : qM, fr (fun b _ => b = 101) N N1 → wp ((qrI N1 98 630 (nI (90 * n + q))).bind fun v8 => (qrI N1 99 630 (nI (90 * n + q))).bind fun v9 => (jMd_workOut (nI n) v8 v9 N1).bind fun w10 => qu2 w10 fun r11 M12 => some (r11, M12)) (fun o => o.1 = v ∧ fr (fun b _ => b = 101) N o.2) := by
      intro N1 h1
      have p2 : qrI N1 98 630 (nI (90 * n + q)) = some (nI (c + x.1.length)) := by rw [qrI_nI (by omega) (by omega), (h1 98 _ (by simp)).1, b]
      have p3 : qrI N1 99 630 (nI (90 * n + q)) = some (nI (c + x.1.length + x.2.length)) := by rw [qrI_nI (by omega) (by omega), (h1 99 _ (by simp)).1, d]
      refine wp_be p2 (wp_be p3 (wp_bd ((workOut_wp hn (by omega) (fun j hj => by rw [(h1 100 j (by simp)).1]; exact hl j hj) (cdM_fr f (fun j _ _ => ⟨(h1 93 _ (by simp)).1, (h1 94 _ (by simp)).1⟩)) hv).mono ?_)))
      rintro ⟨r, M2⟩ ⟨o1, o2⟩
      exact wp_some ⟨o1, h1.tr o2⟩
    by_cases hx : x.1 = []
    · rw [qlp_inr (r := .inl (nI (90 * n + q), N))]
      · rw [Option.bind_some]
        refine (tail N (fr_rf _ _)).mono ?_
        rintro o ⟨o1, o2⟩
        refine ⟨?_, o2⟩
        simp only [wval]
        rw [if_pos (Or.inl hx), wvS_eq hv]
        exact o1
      · simp only [qu2]
        rw [q0]
        simp only [Option.bind_some]
        rw [if_neg d0, q1, q2]
        simp only [Option.bind_some]
        rw [if_pos (by rw [hx]; rfl)]
    · have hpos : 0 < x.1.length := by
        cases hxx : x.1 with
        | nil => exact absurd hxx hx
        | cons _ _ => simp
      obtain ⟨w, hw1, hw2⟩ := (hwx.1.resolve_left hx) lt
      obtain ⟨⟨r, N1⟩, e1, e2, e3⟩ := workOut_wp hn (by omega) hl e hw2
      have e2 : r = w := e2
      subst e2
      have e3 : fr (fun b _ => b = 101) N N1 := e3
      by_cases hz : r = 0
      · rw [qlp_inl (s' := (nI (90 * n + (q + 1)), N1))]
        · refine (ih hwW (by omega) (by omega) (by rw [(e3 96 n (by simp)).1]; exact h96) (fun j hj => by rw [(e3 100 j (by simp)).1]; exact hl j hj) (mW_fr (fun b j h1 h3 => (e3 b j (by omega)).1) W g)).mono ?_
          rintro o ⟨o1, o2⟩
          refine ⟨?_, e3.tr o2⟩
          simp only [wval]
          rw [if_neg]
          · exact o1
          · rintro (h1 | h1)
            · exact hx h1
            · exact h1 (by rw [hw2, hz])
        · simp only [qu2, qlt]
          rw [q0]
          simp only [Option.bind_some]
          rw [if_neg d0, q1, q2]
          simp only [Option.bind_some]
          rw [if_neg (by rw [nI_eq (by omega) (by omega)]; omega), e1]
          simp only [Option.bind_some]
          rw [if_pos hz, nI_1, Nat.add_assoc]
      · rw [qlp_inr (r := .inl (nI (90 * n + q), N1))]
        · rw [Option.bind_some]
          refine (tail N1 e3).mono ?_
          rintro o ⟨o1, o2⟩
          refine ⟨?_, o2⟩
          simp only [wval]
          rw [if_pos, wvS_eq hv]
          · exact o1
          · right
            rw [hw2]
            intro h1
            cases h1
            exact hz rfl
        · simp only [qu2, qlt]
          rw [q0]
          simp only [Option.bind_some]
          rw [if_neg d0, q1, q2]
          simp only [Option.bind_some]
          rw [if_neg (by rw [nI_eq (by omega) (by omega)]; omega), e1]
          simp only [Option.bind_some]
          rw [if_neg hz]
theorem worthOf_wp {lt : Nat → Int32} {n : Nat} {W : wW} {M : qM} (hn : n < 7) (h : rWM M n W) (hl : ∀ j, j < 8 → M.1 100 j = lt j) : wp (jMd_worthOf (nI n) M) (fun o => o.1 = wval lt W ∧ fr (fun b _ => b = 101) M o.2) := by
  obtain ⟨a, b, c, d, e⟩ := h
  unfold jMd_worthOf
  simp only [qlt]
  have e0 : 90 * nI n = nI (90 * n + 0) := by
    rw [show (90 : Int32) = nI 90 from rfl, nI_mul]
    rfl
  have := mW_wp (T := W.length) hn a W e (Nat.zero_add _) (by omega) c hl d
  rw [← e0] at this
  exact this
