/-! ===== the readers: two texts side by side ===== -/
def w2 {α β : Type} (p : Option α) (q : Option β) (Q : α → β → Prop) : Prop := ∃ x y, p = some x ∧ q = some y ∧ Q x y
theorem w2.mono {α β : Type} {p : Option α} {q : Option β} {Q Q' : α → β → Prop} (h : w2 p q Q) (g : ∀ x y, Q x y → Q' x y) : w2 p q Q' := by
  obtain ⟨x, y, a, b, c⟩ := h
  exact ⟨x, y, a, b, g x y c⟩
theorem w2_C {α β γ : Type} {p : Option γ} {k : γ → Option α} {q : Option β} {Q : α → β → Prop} (h : wp p (fun x => w2 (k x) q Q)) : w2 (p.bind k) q Q := by
  obtain ⟨x, rfl, h⟩ := h
  exact h
theorem w2_M {α β γ : Type} {p : Option α} {q : Option γ} {k : γ → Option β} {Q : α → β → Prop} (h : wp q (fun x => w2 p (k x) Q)) : w2 p (q.bind k) Q := by
  obtain ⟨x, rfl, h⟩ := h
  exact h
theorem w2_B {α β γ δ : Type} {p : Option γ} {k : γ → Option α} {q : Option δ} {l : δ → Option β} {Q : α → β → Prop} (h : w2 p q (fun x y => w2 (k x) (l y) Q)) : w2 (p.bind k) (q.bind l) Q := by
  obtain ⟨x, y, rfl, rfl, h⟩ := h
  exact h
theorem w2_ss {α β : Type} {x : α} {y : β} {Q : α → β → Prop} (h : Q x y) : w2 (some x) (some y) Q := ⟨x, y, rfl, rfl, h⟩
theorem w2_Cp {α β : Type} {c : Prop} [Decidable c] {a b : Option α} {q : Option β} {Q : α → β → Prop} (h : c) (g : w2 a q Q) : w2 (if c then a else b) q Q := by rw [if_pos h]; exact g
theorem w2_Cn {α β : Type} {c : Prop} [Decidable c] {a b : Option α} {q : Option β} {Q : α → β → Prop} (h : ¬ c) (g : w2 b q Q) : w2 (if c then a else b) q Q := by rw [if_neg h]; exact g
theorem w2_Mp {α β : Type} {c : Prop} [Decidable c] {a b : Option β} {p : Option α} {Q : α → β → Prop} (h : c) (g : w2 p a Q) : w2 p (if c then a else b) Q := by rw [if_pos h]; exact g
theorem w2_Mn {α β : Type} {c : Prop} [Decidable c] {a b : Option β} {p : Option α} {Q : α → β → Prop} (h : ¬ c) (g : w2 p b Q) : w2 p (if c then a else b) Q := by rw [if_neg h]; exact g
def s2 {A B C D : Type} (P : A → C → Prop) (R : B → D → Prop) (o : A ⊕ B) (o' : C ⊕ D) : Prop := match o, o' with
  | .inl a, .inl c => P a c
  | .inr b, .inr d => R b d
  | _, _ => False
theorem w2_lp {σ ρ σ' ρ' : Type} {b : σ → Option (σ ⊕ ρ)} {b' : σ' → Option (σ' ⊕ ρ')} {Q : ρ → ρ' → Prop} (I : Nat → σ → σ' → Prop)
    (step : ∀ m s s', I m s s' → w2 (b s) (b' s') (s2 (fun x y => ∃ m', m' < m ∧ I m' x y) Q)) : ∀ {m : Nat} {s : σ} {s' : σ'}, I m s s' → w2 (qlp b s) (qlp b' s') Q := by
  intro m
  induction m using Nat.strongRecOn with
  | ind m ih =>
    intro s s' h
    obtain ⟨o, o', e, e', h2⟩ := step m s s' h
    cases o with
    | inl x =>
      cases o' with
      | inl y =>
        obtain ⟨m', hm, hi⟩ := h2
        obtain ⟨r, r', g, g', hq⟩ := ih m' hm hi
        exact ⟨r, r', by rw [qlp_inl e]; exact g, by rw [qlp_inl e']; exact g', hq⟩
      | inr y => exact h2.elim
    | inr x =>
      cases o' with
      | inl y => exact h2.elim
      | inr y => exact ⟨x, y, qlp_inr e, qlp_inr e', h2⟩
/-! the tape's byte at a place, and the next place that isn't a space -/
def tOK (τ : tT) : Prop := ∀ j, j < τ.1 → ∃ c : Nat, τ.2 j = nI c ∧ 0 < c ∧ c < 256
def cb (τ : tT) (a : Nat) : Int32 := if a < τ.1 then τ.2 a else -1
def skN (τ : tT) : Nat → Nat → Nat
  | 0, a => a
  | n + 1, a => if τ.2 a = 32 then skN τ n (a + 1) else a
def sk (τ : tT) (a : Nat) : Nat := skN τ (τ.1 - a) a
theorem sk_e {τ : tT} {a : Nat} (h : τ.1 ≤ a) : sk τ a = a := by
  unfold sk
  rw [show τ.1 - a = 0 by omega]
  rfl
theorem sk_s {τ : tT} {a : Nat} (h : a < τ.1) (e : τ.2 a = 32) : sk τ a = sk τ (a + 1) := by
  unfold sk
  rw [show τ.1 - a = (τ.1 - (a + 1)) + 1 by omega]
  show (if τ.2 a = 32 then _ else _) = _
  rw [if_pos e]
theorem sk_n {τ : tT} {a : Nat} (h : a < τ.1) (e : ¬ τ.2 a = 32) : sk τ a = a := by
  unfold sk
  rw [show τ.1 - a = (τ.1 - (a + 1)) + 1 by omega]
  show (if τ.2 a = 32 then _ else _) = _
  rw [if_neg e]
theorem skN_le (τ : tT) : ∀ n a, a ≤ skN τ n a ∧ skN τ n a ≤ a + n := by
  intro n
  induction n with
  | zero => intro a; exact ⟨Nat.le_refl _, Nat.le_refl _⟩
  | succ n ih =>
    intro a
    show a ≤ (if τ.2 a = 32 then _ else _) ∧ (if τ.2 a = 32 then _ else _) ≤ _
    split
    · have := ih (a + 1); omega
    · omega
theorem sk_le {τ : tT} {a : Nat} (h : a ≤ τ.1) : a ≤ sk τ a ∧ sk τ a ≤ τ.1 := by
  have := skN_le τ (τ.1 - a) a
  unfold sk
  omega
theorem next_eq {M : qM} {τ : tT} {a : Nat} (h : rTC M τ) (ha : M.1 1 2 = nI a) (hl : a ≤ τ.1) : jTp_next M = some (cb τ a) := by
  have h160 := h.2.1
  unfold jTp_next cb
  rw [ha, h.1]
  by_cases hlt : a < τ.1
  · rw [if_neg (by rw [show (0 : Int32) = nI 0 from rfl, nI_ltI (by omega) (by omega)]; omega), if_neg (by rw [nI_leI (by omega) (by omega)]; omega), if_neg (by rw [show (160 : Int32) = nI 160 from rfl, nI_leI (by omega) (by omega)]; omega), qrI_nI (by omega) (by omega), if_pos hlt, h.2.2 a hlt]
    rfl
  · rw [if_neg (by rw [show (0 : Int32) = nI 0 from rfl, nI_ltI (by omega) (by omega)]; omega), if_pos (by rw [nI_leI (by omega) (by omega)]; omega), if_neg hlt]
    rfl
theorem here_eq {M : qM} {τ : tT} {a : Nat} (h : rTM M τ) (ha : M.1 91 3 = nI a) (hl : a ≤ τ.1) : jMd_here M = some (cb τ a) := by
  have h160 := h.2.1
  unfold jMd_here cb
  rw [ha, h.1]
  by_cases hlt : a < τ.1
  · rw [if_neg (by rw [nI_leI (by omega) (by omega)]; omega), qrI_nI (by omega) (by omega), if_pos hlt, h.2.2 a hlt]
    rfl
  · rw [if_pos (by rw [nI_leI (by omega) (by omega)]; omega), if_neg hlt]
    rfl
theorem cb_lt {τ : tT} {a : Nat} (h : ¬ cb τ a = -1) : a < τ.1 := by
  unfold cb at h
  by_cases hl : a < τ.1
  · exact hl
  · rw [if_neg hl] at h
    exact absurd rfl h
def atC (b j : Nat) : Prop := b = 1 ∧ j = 2
def atM (b j : Nat) : Prop := b = 91 ∧ j = 3
theorem rTC_fr {M M1 : qM} {τ : tT} {S : Nat → Nat → Prop} (h : rTC M τ) (g : fr S M M1) (h1 : ¬ S 1 1) (h2 : ∀ j, ¬ S 2 j) : rTC M1 τ :=
  ⟨by rw [(g 1 1 h1).1]; exact h.1, h.2.1, fun j hj => by rw [(g 2 j (h2 j)).1]; exact h.2.2 j hj⟩
theorem rTM_fr {M M1 : qM} {τ : tT} {S : Nat → Nat → Prop} (h : rTM M τ) (g : fr S M M1) (h1 : ¬ S 91 2) (h2 : ∀ j, ¬ S 92 j) : rTM M1 τ :=
  ⟨by rw [(g 91 2 h1).1]; exact h.1, h.2.1, fun j hj => by rw [(g 92 j (h2 j)).1]; exact h.2.2 j hj⟩
/-- one turn of peek's loop -/
noncomputable def pkB (M1 : qM) : Option (qM ⊕ (qM ⊕ qM)) :=
    if (M1.1 1 2 : Int32) < (0 : Int32) then
      some (.inr (.inr M1))
    else
      if (M1.1 1 1 : Int32) ≤ (M1.1 1 2 : Int32) then
        some (.inr (.inr M1))
      else
        if (160 : Int32) ≤ (M1.1 1 2 : Int32) then
          some (.inr (.inr M1))
        else
          (qrI M1 2 160 (M1.1 1 2)).bind fun v6 =>
          if (v6 : Int32) = (32 : Int32) then
            qlt (qI M1 1 2 ((M1.1 1 2) + 1)) fun M7 =>
            some (.inl M7)
          else
            some (.inr (.inl M1))
theorem pk_def (M : qM) : jTp_peek M = (qlp pkB M).bind fun r4 => qse r4 (fun M2 => (qrI M2 2 160 (M2.1 1 2)).bind fun v5 => some (v5, M2)) (fun M3 => some ((-1), M3)) := rfl
/-- a space: one place on -/
theorem pk_go {M : qM} {τ : tT} {a : Nat} (h : rTC M τ) (ha : M.1 1 2 = nI a) (hlt : a < τ.1) (he : τ.2 a = 32) : pkB M = some (.inl (qI M 1 2 (nI (a + 1)))) := by
  have h160 := h.2.1
  unfold pkB
  rw [ha, h.1, if_neg (by rw [show (0 : Int32) = nI 0 from rfl, nI_ltI (by omega) (by omega)]; omega), if_neg (by rw [nI_leI (by omega) (by omega)]; omega), if_neg (by rw [show (160 : Int32) = nI 160 from rfl, nI_leI (by omega) (by omega)]; omega), qrI_nI (by omega) (by omega), h.2.2 a hlt]
  simp only [Option.bind_some]
  rw [if_pos he]
  unfold qlt
  rw [nI_1]
/-- no space here: it stays -/
theorem pk_stay {M : qM} {τ : tT} {a : Nat} (h : rTC M τ) (ha : M.1 1 2 = nI a) (hl : a ≤ τ.1) (hn : ¬ (a < τ.1 ∧ τ.2 a = 32)) : jTp_peek M = some (cb τ a, M) := by
  have h160 := h.2.1
  rw [pk_def]
  by_cases hlt : a < τ.1
  · have he : ¬ τ.2 a = 32 := fun e => hn ⟨hlt, e⟩
    have hq : qrI M 2 160 (nI a) = some (τ.2 a) := by rw [qrI_nI (by omega) (by omega), h.2.2 a hlt]
    have e : pkB M = some (.inr (.inl M)) := by
      unfold pkB
      rw [ha, h.1, if_neg (by rw [show (0 : Int32) = nI 0 from rfl, nI_ltI (by omega) (by omega)]; omega), if_neg (by rw [nI_leI (by omega) (by omega)]; omega), if_neg (by rw [show (160 : Int32) = nI 160 from rfl, nI_leI (by omega) (by omega)]; omega), hq]
      simp only [Option.bind_some]
      rw [if_neg he]
    rw [qlp_inr e]
    show ((qrI M 2 160 (M.1 1 2)).bind fun v5 => some (v5, M)) = _
    rw [ha, hq]
    unfold cb
    rw [if_pos hlt]
    rfl
  · have e : pkB M = some (.inr (.inr M)) := by
      unfold pkB
      rw [ha, h.1, if_neg (by rw [show (0 : Int32) = nI 0 from rfl, nI_ltI (by omega) (by omega)]; omega), if_pos (by rw [nI_leI (by omega) (by omega)]; omega)]
    rw [qlp_inr e]
    unfold cb
    rw [if_neg hlt]
    rfl
theorem peek_wp {τ : tT} : ∀ (m : Nat) {M : qM} {a : Nat}, τ.1 - a ≤ m → rTC M τ → M.1 1 2 = nI a → a ≤ τ.1 → wp (jTp_peek M) (fun o => o.1 = cb τ (sk τ a) ∧ o.2.1 1 2 = nI (sk τ a) ∧ fr atC M o.2) := by
  intro m
  induction m with
  | zero =>
    intro M a hm h ha hl
    refine ⟨(cb τ a, M), pk_stay h ha hl (fun hh => absurd hh.1 (by omega)), ?_, ?_, fr_rf _ _⟩
    · show cb τ a = _
      rw [sk_e (by omega)]
    · show M.1 1 2 = _
      rw [sk_e (by omega), ha]
  | succ m ih =>
    intro M a hm h ha hl
    by_cases hs : a < τ.1 ∧ τ.2 a = 32
    · obtain ⟨hlt, he⟩ := hs
      have g : fr atC M (qI M 1 2 (nI (a + 1))) := fr_I ⟨rfl, rfl⟩
      obtain ⟨o, e1, e2, e3, e4⟩ := ih (M := qI M 1 2 (nI (a + 1))) (a := a + 1) (by omega) (rTC_fr h g (by rintro ⟨_, h⟩; omega) (by rintro j ⟨h, _⟩; omega)) (by simp [qI_1]) (by omega)
      refine ⟨o, ?_, by rw [e2, sk_s hlt he], by rw [e3, sk_s hlt he], g.tr e4⟩
      rw [pk_def, qlp_inl (pk_go h ha hlt he), ← pk_def]
      exact e1
    · have hk : sk τ a = a := by
        by_cases hlt : a < τ.1
        · exact sk_n hlt (fun e => hs ⟨hlt, e⟩)
        · exact sk_e (by omega)
      refine ⟨(cb τ a, M), pk_stay h ha hl hs, ?_, ?_, fr_rf _ _⟩
      · show cb τ a = _
        rw [hk]
      · show M.1 1 2 = _
        rw [hk, ha]
theorem look_wp {τ : tT} : ∀ (m : Nat) {M : qM} {a : Nat}, τ.1 - a ≤ m → rTM M τ → M.1 91 3 = nI a → a ≤ τ.1 → wp (jMd_look M) (fun o => o.1 = cb τ (sk τ a) ∧ o.2.1 91 3 = nI (sk τ a) ∧ fr atM M o.2) := by
  have key : ∀ (m : Nat) {M : qM} {a : Nat}, τ.1 - a ≤ m → rTM M τ → M.1 91 3 = nI a → a ≤ τ.1 → wp (qlp (σ := qM) (ρ := qM) (
    fun M1 =>
    (jMd_here M1).bind fun r5 =>
    if (r5 : Int32) = (32 : Int32) then
      qlt (qI M1 91 3 ((M1.1 91 3) + 1)) fun M6 =>
      some (.inl M6)
    else
      some (.inr M1)) M) (fun M' => M'.1 91 3 = nI (sk τ a) ∧ fr atM M M') := by
    intro m
    induction m with
    | zero =>
      intro M a hm h ha hl
      have := h.2.1
      refine ⟨M, qlp_inr ?_, ?_, fr_rf _ _⟩
      · rw [here_eq h ha hl]
        simp only [Option.bind_some]
        rw [if_neg (by unfold cb; rw [if_neg (by omega)]; decide)]
      · rw [sk_e (by omega), ha]
    | succ m ih =>
      intro M a hm h ha hl
      have := h.2.1
      by_cases hlt : a < τ.1
      · by_cases he : τ.2 a = 32
        · have g : fr atM M (qI M 91 3 (nI (a + 1))) := fr_I ⟨rfl, rfl⟩
          obtain ⟨M', e1, e2, e3⟩ := ih (M := qI M 91 3 (nI (a + 1))) (a := a + 1) (by omega) (rTM_fr h g (by rintro ⟨_, h⟩; omega) (by rintro j ⟨h, _⟩; omega)) (by simp [qI_1]) (by omega)
          refine ⟨M', ?_, by rw [e2, sk_s hlt he], g.tr e3⟩
          rw [qlp_inl (s' := qI M 91 3 (nI (a + 1)))]
          · exact e1
          · rw [here_eq h ha hl]
            simp only [Option.bind_some]
            rw [if_pos (by unfold cb; rw [if_pos hlt, he])]
            unfold qlt
            rw [ha, nI_1]
        · refine ⟨M, qlp_inr ?_, ?_, fr_rf _ _⟩
          · rw [here_eq h ha hl]
            simp only [Option.bind_some]
            rw [if_neg (by unfold cb; rw [if_pos hlt]; exact he)]
          · rw [sk_n hlt he, ha]
      · refine ⟨M, qlp_inr ?_, ?_, fr_rf _ _⟩
        · rw [here_eq h ha hl]
          simp only [Option.bind_some]
          rw [if_neg (by unfold cb; rw [if_neg (by omega)]; decide)]
        · rw [sk_e (by omega), ha]
  intro m M a hm h ha hl
  unfold jMd_look
  obtain ⟨M', e1, e2, e3⟩ := key m hm h ha hl
  refine wp_be e1 (wp_be (here_eq (rTM_fr h e3 (by rintro ⟨_, h⟩; omega) (by rintro j ⟨h, _⟩; omega)) e2 (sk_le hl).2) (wp_some ⟨rfl, e2, e3⟩))
