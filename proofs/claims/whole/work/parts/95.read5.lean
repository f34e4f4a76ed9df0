/-! ===== what a reader's piece comes to, both sides ===== -/
/-- good: the same steps L written on both sides, at the same place; or both bad at the same place w -/
def PO (τ : tT) (k n a s c d B : Nat) (W : List (Nat × Nat) → Prop) (MC MM : qM) (oC : Bool × qM) (oM : qM) : Prop :=
  fr (rsC k s) MC oC.2 ∧ fr (rsM n c) MM oM ∧
  ((oC.1 = true ∧ ∃ a' L, a + L.length ≤ a' ∧ a < a' ∧ scC oC.2 τ k a' (s + L.length) ∧ scM oM τ n a' (c + L.length) d ∧ cdC oC.2 k s L ∧ cdM oM n c L ∧ W L) ∨
   (oC.1 = false ∧ ∃ w, dC oC.2 τ k w ∧ dM oM τ n w c B))
def WS (D : Nat) (L : List (Nat × Nat)) : Prop := ∀ lt stk, stk.length + D ≤ 60 → ∃ v, runL lt L stk = some (v :: stk)
/-- a reader's piece at depth d -/
def RD (τ : tT) (k n d B : Nat) (W : List (Nat × Nat) → Prop) (f : Int32 → qM → Option (Bool × qM)) (g : qM → Option qM) : Prop :=
  ∀ MC MM a s c, scC MC τ k a s → scM MM τ n a c d → c ≤ s → w2 (f (nI d) MC) (g MM) (PO τ k n a s c d B W MC MM)
theorem opensC {M : qM} {τ : tT} {k a s d : Nat} (hk : 12 ≤ k) (hd : d ≤ 6) (h : scC M τ k a s) (hl : a < τ.1) : fr (rsC k s) M (jWr_openAt (nI d) M).2 ∧ (d < 6 → (jWr_openAt (nI d) M).1 = true ∧ scC (jWr_openAt (nI d) M).2 τ k (a + 1) s) ∧ (d = 6 → (jWr_openAt (nI d) M).1 = false ∧ dC (jWr_openAt (nI d) M).2 τ k a) := by
  unfold jWr_openAt
  by_cases h6 : d < 6
  · rw [if_pos (show nI d < (6 : Int32) from nI_lt (b := 6) h6 (by omega))]
    obtain ⟨h1, h2⟩ := incC hk h hl
    exact ⟨atC_rs h2, fun _ => ⟨rfl, h1⟩, fun e => by omega⟩
  · rw [if_neg (by rw [show (6 : Int32) = nI 6 from rfl, nI_ltI (by omega) (by omega)]; exact h6)]
    obtain ⟨f1, f2, f3⟩ := failC h
    exact ⟨f3 s, fun e => by omega, fun _ => ⟨f2, f1⟩⟩
theorem opensM {M : qM} {τ : tT} {n a c d : Nat} (hd : d ≤ 6) (h : scM M τ n a c d) (hl : a ≤ 160) : fr (rsM n c) M (jMd_opens M) ∧ (d < 6 → scM (jMd_opens M) τ n (a + 1) c (d + 1)) ∧ (d = 6 → dM (jMd_opens M) τ n a c c) := by
  unfold jMd_opens
  simp only [qlt]
  by_cases h6 : d = 6
  · rw [if_pos (by rw [h.2.2.2.1, h6]; rfl)]
    obtain ⟨f1, f2⟩ := badM h hl (Nat.le_refl c)
    refine ⟨(f2 c).tr ((fr_I (.inl ⟨rfl, .inr (.inr rfl)⟩)).tr (fr_I (.inl ⟨rfl, .inl rfl⟩))), fun e => by omega, fun _ => ?_⟩
    obtain ⟨g1, g2, g3, g4, x, g5, g6⟩ := f1
    exact ⟨⟨by simp [qI_1, g1.1], g1.2.1, fun j hj => by simp [qI_1, g1.2.2 j hj]⟩, by simp [qI_1, g2], g3, by simp [qI_1, g4], x, by simp [qI_1, g5], g6⟩
  · rw [if_neg (by rw [h.2.2.2.1, show (6 : Int32) = nI 6 from rfl, nI_eq (by omega) (by omega)]; exact h6)]
    refine ⟨(fr_I (.inl ⟨rfl, .inr (.inr rfl)⟩)).tr (fr_I (.inl ⟨rfl, .inl rfl⟩)), fun _ => ?_, fun e => absurd e h6⟩
    exact ⟨⟨by simp [qI_1, h.1.1], h.1.2.1, fun j hj => by simp [qI_1, h.1.2.2 j hj]⟩, by simp [qI_1, h.2.1, nI_1], by simp [qI_1, h.2.2.1], by simp [qI_1, h.2.2.2.1, nI_1], by simp [qI_1, h.2.2.2.2.1], by simp [qI_1, h.2.2.2.2.2]⟩
/-- a letter or a number: one step -/
theorem cd1 {MC MM : qM} {k n s c o v : Nat} {O : Int32} (hO : O = nI (opC o)) (hv : v < 10000) (h1 : MC.1 (k + 1) s = O) (h2 : MC.1 (k + 2) s = nI v) (h3 : MM.1 93 (340 * n + c) = nI o) (h4 : MM.1 94 (340 * n + c) = nI v) : cdC MC k s [(o, v)] ∧ cdM MM n c [(o, v)] :=
  ⟨⟨h1.trans hO, h2, hv, trivial⟩, ⟨h3, h4, hv, trivial⟩⟩
theorem ami_b (c : Int32) : ami 2 c = -1 ∨ ∃ i, i < 8 ∧ ami 2 c = nI i := by
  unfold ami
  by_cases h : c = -1
  · exact .inl (if_pos h)
  · rw [if_neg h]
    have : ∀ m i, fnd (q_tB 2) c m i = -1 ∨ ∃ j, j < i + m ∧ fnd (q_tB 2) c m i = nI j := by
      intro m
      induction m with
      | zero => intro i; exact .inl rfl
      | succ m ih =>
        intro i
        by_cases e : q_tB 2 i = c
        · exact .inr ⟨i, by omega, if_pos e⟩
        · have e2 : fnd (q_tB 2) c (m + 1) i = fnd (q_tB 2) c m (i + 1) := if_neg e
          rw [e2]
          rcases ih (i + 1) with h | ⟨j, h1, h2⟩
          · exact .inl h
          · exact .inr ⟨j, by omega, h2⟩
    rcases this 8 0 with h | ⟨j, h1, h2⟩
    · exact .inl h
    · exact .inr ⟨j, by omega, h2⟩
theorem WS_num {v : Nat} {D : Nat} (hD : 1 ≤ D) : WS D [(0, v)] := by
  intro lt stk h
  refine ⟨nI v, ?_⟩
  show (rstep lt (0, v) stk).bind _ = _
  unfold rstep
  rw [if_pos rfl, if_pos (by omega)]
  rfl
theorem WS_let {v : Nat} {D : Nat} (hD : 1 ≤ D) (hv : v < 8) : WS D [(1, v)] := by
  intro lt stk h
  refine ⟨lt v, ?_⟩
  show (rstep lt (1, v) stk).bind _ = _
  unfold rstep
  rw [if_neg (show ¬ (1 : Nat) = 0 by decide), if_pos rfl, if_pos ⟨by omega, hv⟩]
  rfl
theorem WS.up {D D' : Nat} {L : List (Nat × Nat)} (h : WS D L) (hd : D ≤ D') : WS D' L := fun lt stk g => h lt stk (by omega)
theorem WS_op {D D' o : Nat} {L1 L2 : List (Nat × Nat)} (h1 : WS D L1) (h2 : WS D' L2) (hd : D' + 1 ≤ D) (ho : 2 ≤ o) (ho2 : o < 9) : WS D (L1 ++ L2 ++ [(o, 0)]) := by
  intro lt stk h
  obtain ⟨v, e1⟩ := h1 lt stk h
  obtain ⟨w, e2⟩ := h2 lt (v :: stk) (by simp only [List.length_cons]; omega)
  refine ⟨jop o v w, ?_⟩
  rw [runL_app, runL_app, e1]
  simp only [Option.bind_some]
  rw [e2]
  simp only [Option.bind_some]
  show (rstep lt (o, 0) _).bind _ = _
  unfold rstep
  rw [if_neg (by show ¬ o = 0; omega), if_neg (by show ¬ o = 1; omega), if_neg (by show ¬ o = 9; omega)]
  simp only
  rw [if_pos ⟨by omega, fun hx => by omega⟩]
  rfl
