-- needs 52
/-! ===== what a pure text comes to ===== -/
def wp {β : Type} (p : Option β) (Q : β → Prop) : Prop := ∃ o, p = some o ∧ Q o
theorem wp.mono {β : Type} {p : Option β} {Q Q' : β → Prop} (h : wp p Q) (hq : ∀ o, Q o → Q' o) : wp p Q' := by
  obtain ⟨o, h1, h2⟩ := h
  exact ⟨o, h1, hq o h2⟩
theorem wp_some {β : Type} {o : β} {Q : β → Prop} (h : Q o) : wp (some o) Q := ⟨o, rfl, h⟩
theorem wp_eq {β : Type} {p : Option β} {o : β} {Q : β → Prop} (e : p = some o) (h : Q o) : wp p Q := ⟨o, e, h⟩
theorem wp_bd {α β : Type} {a : Option α} {k : α → Option β} {Q : β → Prop} (h : wp a (fun x => wp (k x) Q)) : wp (a.bind k) Q := by
  obtain ⟨x, rfl, o, h1, h2⟩ := h
  exact ⟨o, h1, h2⟩
theorem wp_be {α β : Type} {a : Option α} {x : α} {k : α → Option β} {Q : β → Prop} (e : a = some x) (h : wp (k x) Q) : wp (a.bind k) Q := by
  subst e
  exact h
theorem wp_lt {α β : Type} {a : α} {k : α → Option β} {Q : β → Prop} (h : ∀ x, x = a → wp (k x) Q) : wp (qlt a k) Q := h a rfl
theorem wp_if {β : Type} {c : Prop} [Decidable c] {a b : Option β} {Q : β → Prop} (h1 : c → wp a Q) (h2 : ¬ c → wp b Q) : wp (if c then a else b) Q := by
  by_cases h : c
  · rw [if_pos h]; exact h1 h
  · rw [if_neg h]; exact h2 h
theorem wp_ip {β : Type} {c : Prop} [Decidable c] {a b : Option β} {Q : β → Prop} (h : c) (h1 : wp a Q) : wp (if c then a else b) Q := by rw [if_pos h]; exact h1
theorem wp_in {β : Type} {c : Prop} [Decidable c] {a b : Option β} {Q : β → Prop} (h : ¬ c) (h1 : wp b Q) : wp (if c then a else b) Q := by rw [if_neg h]; exact h1
/-- on an exit, on the other -/
def sm {A B : Type} (P : A → Prop) (R : B → Prop) (o : A ⊕ B) : Prop := match o with
  | .inl a => P a
  | .inr b => R b
theorem wp_se {A B β : Type} {p : A ⊕ B} {f : A → Option β} {g : B → Option β} {Q : β → Prop} (h : sm (fun a => wp (f a) Q) (fun b => wp (g b) Q) p) : wp (qse p f g) Q := by
  cases p with
  | inl a => exact h
  | inr b => exact h
theorem sm.mono {A B : Type} {P P' : A → Prop} {R R' : B → Prop} {o : A ⊕ B} (h : sm P R o) (h1 : ∀ a, P a → P' a) (h2 : ∀ b, R b → R' b) : sm P' R' o := by
  cases o with
  | inl a => exact h1 a h
  | inr b => exact h2 b h
/-! loops -/
theorem wp_lp {σ ρ : Type} {b : σ → Option (σ ⊕ ρ)} {Q : ρ → Prop} {s : σ} (I : σ → Prop) (μ : σ → Nat) (h0 : I s) (step : ∀ s, I s → wp (b s) (sm (fun s' => I s' ∧ μ s' < μ s) Q)) : wp (qlp b s) Q := by
  refine qlp_run I Q μ (fun s hs => ?_) s h0
  obtain ⟨o, h1, h2⟩ := step s hs
  cases o with
  | inl s' => exact .inl ⟨s', h1, h2.1, h2.2⟩
  | inr r => exact .inr ⟨r, h1, h2⟩
theorem wp_for {σ ρ : Type} {b : σ → Option (σ ⊕ ρ)} {Q : ρ → Prop} {s : σ} (I : Nat → σ → Prop) (N : Nat) (h0 : I 0 s) (step : ∀ k s, k < N → I k s → wp (b s) (sm (I (k + 1)) Q)) (he : ∀ s, I N s → wp (b s) (sm (fun _ => False) Q)) : wp (qlp b s) Q := by
  have key : ∀ m k s, k + m = N → I k s → wp (qlp b s) Q := by
    intro m
    induction m with
    | zero =>
      intro k s hk hi
      obtain ⟨o, h1, h2⟩ := he s (by rw [← show k = N by omega]; exact hi)
      cases o with
      | inl s' => exact h2.elim
      | inr r => exact ⟨r, qlp_inr h1, h2⟩
    | succ m ih =>
      intro k s hk hi
      obtain ⟨o, h1, h2⟩ := step k s (by omega) hi
      cases o with
      | inl s' =>
        obtain ⟨r, h3, h4⟩ := ih (k + 1) s' (by omega) h2
        exact ⟨r, by rw [qlp_inl h1]; exact h3, h4⟩
      | inr r => exact ⟨r, qlp_inr h1, h2⟩
  exact key N 0 s (by omega) h0
/-! ===== Int32 as whole numbers ===== -/
def iI (z : Int) : Int32 := Int32.ofInt z
theorem iI_toInt {z : Int} (h1 : -2147483648 ≤ z) (h2 : z < 2147483648) : (iI z).toInt = z := Int32.toInt_ofInt_of_le h1 (by omega)
theorem nI_iI (n : Nat) : nI n = iI n := (Int32.ofInt_eq_ofNat (n := n)).symm
theorem iI_lit (n : Nat) : (OfNat.ofNat n : Int32) = iI (OfNat.ofNat n) := (Int32.ofInt_eq_ofNat (n := n)).symm
theorem iI_add (a b : Int) : iI a + iI b = iI (a + b) := (Int32.ofInt_add a b).symm
theorem iI_sub (a b : Int) : iI a - iI b = iI (a - b) := (Int32.ofInt_sub a b).symm
theorem iI_mul (a b : Int) : iI a * iI b = iI (a * b) := (Int32.ofInt_mul a b).symm
theorem iI_neg (a : Int) : - iI a = iI (-a) := (Int32.ofInt_neg a).symm
theorem iI_le {a b : Int} (h1 : -2147483648 ≤ a) (h2 : a < 2147483648) (h3 : -2147483648 ≤ b) (h4 : b < 2147483648) : (iI a ≤ iI b) = (a ≤ b) := by rw [eq_iff_iff, i_le, iI_toInt h1 h2, iI_toInt h3 h4]
theorem iI_lt {a b : Int} (h1 : -2147483648 ≤ a) (h2 : a < 2147483648) (h3 : -2147483648 ≤ b) (h4 : b < 2147483648) : (iI a < iI b) = (a < b) := by rw [eq_iff_iff, i_lt, iI_toInt h1 h2, iI_toInt h3 h4]
theorem iI_eq {a b : Int} (h1 : -2147483648 ≤ a) (h2 : a < 2147483648) (h3 : -2147483648 ≤ b) (h4 : b < 2147483648) : (iI a = iI b) = (a = b) := by rw [eq_iff_iff, i_eq, iI_toInt h1 h2, iI_toInt h3 h4]
theorem iI_of (x : Int32) : x = iI x.toInt := (Int32.ofInt_toInt x).symm
theorem iI_b (x : Int32) : ∃ z : Int, x = iI z ∧ -2147483648 ≤ z ∧ z < 2147483648 := ⟨x.toInt, iI_of x, Int32.le_toInt x, Int32.toInt_lt x⟩
theorem iI_nI {z : Int} (h : 0 ≤ z) : iI z = nI z.toNat := by rw [nI_iI, Int.toNat_of_nonneg h]
theorem iI_congr {a b : Int} (h : a = b) : iI a = iI b := by rw [h]
theorem b2i_t0 : (b2i true = 0) = False := by simp [b2i]
theorem b2i_f0 : (b2i false = 0) = True := by simp [b2i]
/-! reads and writes -/
theorem wp_rI {M : qM} {a n t : Nat} {i : Int32} {Q : Int32 → Prop} (e : i = nI t) (h : t < n) (hn : n ≤ 2 ^ 31) (hq : Q (M.1 a t)) : wp (qrI M a n i) Q := by subst e; exact ⟨_, qrI_nI h hn, hq⟩
theorem wp_rJ {M : qM} {a n t : Nat} {i : Int32} {Q : Int64 → Prop} (e : i = nI t) (h : t < n) (hn : n ≤ 2 ^ 31) (hq : Q (M.2.1 a t)) : wp (qrJ M a n i) Q := by subst e; exact ⟨_, qrJ_nI h hn, hq⟩
theorem wp_wI {M : qM} {a n t : Nat} {i v : Int32} {Q : qM → Prop} (e : i = nI t) (h : t < n) (hn : n ≤ 2 ^ 31) (hq : Q (qI M a t v)) : wp (qwI M a n i v) Q := by subst e; exact ⟨_, qwI_nI h hn, hq⟩
theorem wp_wJ {M : qM} {a n t : Nat} {i : Int32} {v : Int64} {Q : qM → Prop} (e : i = nI t) (h : t < n) (hn : n ≤ 2 ^ 31) (hq : Q (qJ M a t v)) : wp (qwJ M a n i v) Q := by subst e; exact ⟨_, qwJ_nI h hn, hq⟩
/-! ===== what stays ===== -/
def fr (S : Nat → Nat → Prop) (M M1 : qM) : Prop := ∀ b j, ¬ S b j → M1.1 b j = M.1 b j ∧ M1.2.1 b j = M.2.1 b j ∧ M1.2.2 b j = M.2.2 b j
theorem fr_rf (S : Nat → Nat → Prop) (M : qM) : fr S M M := fun _ _ _ => ⟨rfl, rfl, rfl⟩
theorem fr.tr {S : Nat → Nat → Prop} {M M1 M2 : qM} (h : fr S M M1) (h2 : fr S M1 M2) : fr S M M2 := fun b j hb => ⟨(h2 b j hb).1.trans (h b j hb).1, (h2 b j hb).2.1.trans (h b j hb).2.1, (h2 b j hb).2.2.trans (h b j hb).2.2⟩
theorem fr.mono {S S' : Nat → Nat → Prop} {M M1 : qM} (h : fr S M M1) (hs : ∀ b j, S b j → S' b j) : fr S' M M1 := fun b j hb => h b j (fun hx => hb (hs b j hx))
theorem fr_I {S : Nat → Nat → Prop} {M : qM} {a i : Nat} {v : Int32} (h : S a i) : fr S M (qI M a i v) := by
  intro b j hb
  refine ⟨?_, rfl, rfl⟩
  rw [qI_1, if_neg]
  rintro ⟨rfl, rfl⟩
  exact hb h
theorem fr_J {S : Nat → Nat → Prop} {M : qM} {a i : Nat} {v : Int64} (h : S a i) : fr S M (qJ M a i v) := by
  intro b j hb
  refine ⟨rfl, ?_, rfl⟩
  rw [qJ_21, if_neg]
  rintro ⟨rfl, rfl⟩
  exact hb h
theorem fr_R {S : Nat → Nat → Prop} {M : qM} {a i : Nat} {v : Option Nat} (h : S a i) : fr S M (qR M a i v) := by
  intro b j hb
  refine ⟨rfl, rfl, ?_⟩
  rw [qR_22, if_neg]
  rintro ⟨rfl, rfl⟩
  exact hb h
/-- a row of cells set at once -/
def sI (M : qM) (a n : Nat) (f : Nat → Int32) : qM := (fun b j => if b = a ∧ j < n then f j else M.1 b j, M.2)
def sJ (M : qM) (a n : Nat) (f : Nat → Int64) : qM := (M.1, fun b j => if b = a ∧ j < n then f j else M.2.1 b j, M.2.2)
theorem sI_0 (M : qM) (a : Nat) (f : Nat → Int32) : sI M a 0 f = M := by
  unfold sI
  simp
theorem sJ_0 (M : qM) (a : Nat) (f : Nat → Int64) : sJ M a 0 f = M := by
  unfold sJ
  simp
theorem sI_S (M : qM) (a n : Nat) (f : Nat → Int32) : qI (sI M a n f) a n (f n) = sI M a (n + 1) f := by
  unfold sI qI
  congr 1
  funext b j
  simp only
  by_cases hb : b = a
  · by_cases hj : j = n
    · subst hj; simp [hb]
    · by_cases hl : j < n
      · simp [hb, hj, hl, show j < n + 1 by omega]
      · simp [hb, hj, hl, show ¬ j < n + 1 by omega]
  · simp [hb]
theorem sJ_S (M : qM) (a n : Nat) (f : Nat → Int64) : qJ (sJ M a n f) a n (f n) = sJ M a (n + 1) f := by
  unfold sJ qJ
  congr 2
  funext b j
  simp only
  by_cases hb : b = a
  · by_cases hj : j = n
    · subst hj; simp [hb]
    · by_cases hl : j < n
      · simp [hb, hj, hl, show j < n + 1 by omega]
      · simp [hb, hj, hl, show ¬ j < n + 1 by omega]
  · simp [hb]
theorem sI_at {M : qM} {a n : Nat} {f : Nat → Int32} {j : Nat} (h : j < n) : (sI M a n f).1 a j = f j := by simp [sI, h]
theorem sJ_at {M : qM} {a n : Nat} {f : Nat → Int64} {j : Nat} (h : j < n) : (sJ M a n f).2.1 a j = f j := by simp [sJ, h]
theorem fr_sI {S : Nat → Nat → Prop} {M : qM} {a n : Nat} {f : Nat → Int32} (h : ∀ j, j < n → S a j) : fr S M (sI M a n f) := by
  intro b j hb
  refine ⟨?_, rfl, rfl⟩
  unfold sI
  simp only
  rw [if_neg]
  rintro ⟨rfl, hj⟩
  exact hb (h j hj)
theorem fr_sJ {S : Nat → Nat → Prop} {M : qM} {a n : Nat} {f : Nat → Int64} (h : ∀ j, j < n → S a j) : fr S M (sJ M a n f) := by
  intro b j hb
  refine ⟨rfl, ?_, rfl⟩
  unfold sJ
  simp only
  rw [if_neg]
  rintro ⟨rfl, hj⟩
  exact hb (h j hj)
/-! the JDK's fill -/
theorem fillI_eq (a : Nat) (v : Int32) (M : qM) (hn : q_al a < 2 ^ 31) : jJ7_fill_53178 a v M = some (sI M a (q_al a) (fun _ => v)) := by
  unfold jJ7_fill_53178
  show (qlp _ _).bind _ = _
  rw [qlp_for0 (s0 := ((0 : Int32), M)) (fun k => (nI k, sI M a k (fun _ => v))) (sI M a (q_al a) (fun _ => v)) (q_al a) (by simp only [sI_0]; rfl) (fun k hk => ?_) ?_]
  · rfl
  · simp only [qu2, qlt]
    rw [if_pos (show Int32.ofNat (q_al a) ≤ nI (q_al a) from nI_le (Nat.le_refl _) hn)]
  · simp only [qu2, qlt]
    rw [if_neg (show ¬ Int32.ofNat (q_al a) ≤ nI k from nI_ge hk hn), qwI_nI hk (by omega)]
    simp only [Option.bind_some, nI_1]
    rw [sI_S M a k (fun _ => v)]
theorem fillJ_eq (a : Nat) (v : Int64) (M : qM) (hn : q_al a < 2 ^ 31) : jJ7_fill_d0a16 a v M = some (sJ M a (q_al a) (fun _ => v)) := by
  unfold jJ7_fill_d0a16
  show (qlp _ _).bind _ = _
  rw [qlp_for0 (s0 := ((0 : Int32), M)) (fun k => (nI k, sJ M a k (fun _ => v))) (sJ M a (q_al a) (fun _ => v)) (q_al a) (by simp only [sJ_0]; rfl) (fun k hk => ?_) ?_]
  · rfl
  · simp only [qu2, qlt]
    rw [if_pos (show Int32.ofNat (q_al a) ≤ nI (q_al a) from nI_le (Nat.le_refl _) hn)]
  · simp only [qu2, qlt]
    rw [if_neg (show ¬ Int32.ofNat (q_al a) ≤ nI k from nI_ge hk hn), qwJ_nI hk (by omega)]
    simp only [Option.bind_some, nI_1]
    rw [sJ_S M a k (fun _ => v)]
