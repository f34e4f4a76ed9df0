/-! ===== the memory as a pure value: whole numbers, long numbers, references that change, by relative address and place ===== -/
abbrev qM : Type := (Nat → Nat → Int32) × (Nat → Nat → Int64) × (Nat → Nat → Option Nat)
def qI (M : qM) (a i : Nat) (v : Int32) : qM := (fun b j => if b = a ∧ j = i then v else M.1 b j, M.2)
def qJ (M : qM) (a i : Nat) (v : Int64) : qM := (M.1, fun b j => if b = a ∧ j = i then v else M.2.1 b j, M.2.2)
def qR (M : qM) (a i : Nat) (v : Option Nat) : qM := (M.1, M.2.1, fun b j => if b = a ∧ j = i then v else M.2.2 b j)
def qcpI (M : qM) (sa sp da dp n : Nat) : qM := (fun b j => if b = da ∧ dp ≤ j ∧ j < dp + n then M.1 sa (sp + (j - dp)) else M.1 b j, M.2)
def qcpT (M : qM) (f : Nat → Int32) (sp da dp n : Nat) : qM := (fun b j => if b = da ∧ dp ≤ j ∧ j < dp + n then f (sp + (j - dp)) else M.1 b j, M.2)
/-! the static arrays: class, name, what they hold -/
def q_sn : List (String × String × List Int32) := [("ThirdComer$Village", "PLAIN_THING", [3, 1, 100, 0]), ("ThirdComer$Village", "PLAIN_SORT", [1, 1, 0, 1]), ("ThirdComer$VillageReader", "LEAST_OF_THINGS", [1, 1, 0, 0]), ("ThirdComer$VillageReader", "MOST_OF_THINGS", [9, 3, 999, 99]), ("ThirdComer$VillageReader", "LEAST_OF_SORTS", [1, 0, 0, 0]), ("ThirdComer$VillageReader", "MOST_OF_SORTS", [9, 9, 99, 1]), ("ThirdComer$Row", "CHOOSE", [1, 0, 0, 0, 0, 0, 0, 0, 0, 0, 1, 1, 0, 0, 0, 0, 0, 0, 0, 0, 1, 2, 1, 0, 0, 0, 0, 0, 0, 0, 1, 3, 3, 1, 0, 0, 0, 0, 0, 0, 1, 4, 6, 4, 1, 0, 0, 0, 0, 0, 1, 5, 10, 10, 5, 1, 0, 0, 0, 0, 1, 6, 15, 20, 15, 6, 1, 0, 0, 0, 1, 7, 21, 35, 35, 21, 7, 1, 0, 0, 1, 8, 28, 56, 70, 56, 28, 8, 1, 0, 1, 9, 36, 84, 126, 126, 84, 36, 9, 1])]
def q_sv (i j : Nat) : Int32 := (q_sn.getD i ("", "", [])).2.2.getD j 0
def q_sl (i : Nat) : Nat := (q_sn.getD i ("", "", [])).2.2.length
/-! reads and writes of arrays, with their bounds -/
def qrI (M : qM) (a n : Nat) (i : Int32) : Option Int32 := if i < 0 ∨ n ≤ i.toNatClampNeg then none else some (M.1 a i.toNatClampNeg)
def qrJ (M : qM) (a n : Nat) (i : Int32) : Option Int64 := if i < 0 ∨ n ≤ i.toNatClampNeg then none else some (M.2.1 a i.toNatClampNeg)
def qwI (M : qM) (a n : Nat) (i v : Int32) : Option qM := if i < 0 ∨ n ≤ i.toNatClampNeg then none else some (qI M a i.toNatClampNeg v)
def qwJ (M : qM) (a n : Nat) (i : Int32) (v : Int64) : Option qM := if i < 0 ∨ n ≤ i.toNatClampNeg then none else some (qJ M a i.toNatClampNeg v)
def qrT (f : Nat → Int32) (n : Nat) (i : Int32) : Option Int32 := if i < 0 ∨ n ≤ i.toNatClampNeg then none else some (f i.toNatClampNeg)
def q_tl : List Nat := [4, 4, 8]
def q_tb : List (List Int32) := [[110, 112, 119, 102], [109, 100, 99, 107], [116, 104, 103, 110, 114, 111, 118, 99]]
def q_tN (t : Nat) : Nat := q_tl.getD t 0
def q_tB (t j : Nat) : Int32 := (q_tb.getD t []).getD j 0
def qrB (t : Nat) (i : Int32) : Option Int32 := if i < 0 ∨ q_tN t ≤ i.toNatClampNeg then none else some (q_tB t i.toNatClampNeg)
/-- the place of a row of references -/
def qix (n : Nat) (i : Int32) : Option Nat := if i < 0 ∨ n ≤ i.toNatClampNeg then none else some i.toNatClampNeg
/-- System.arraycopy between int arrays of lengths n1, n2 -/
def qcp (M : qM) (a n1 : Nat) (sp : Int32) (d n2 : Nat) (dp n : Int32) : Option qM :=
  if 0 ≤ sp ∧ 0 ≤ dp ∧ 0 ≤ n ∧ sp.toNatClampNeg + n.toNatClampNeg ≤ n1 ∧ dp.toNatClampNeg + n.toNatClampNeg ≤ n2 then some (qcpI M a sp.toNatClampNeg d dp.toNatClampNeg n.toNatClampNeg) else none
def qct (M : qM) (f : Nat → Int32) (n1 : Nat) (sp : Int32) (d n2 : Nat) (dp n : Int32) : Option qM :=
  if 0 ≤ sp ∧ 0 ≤ dp ∧ 0 ≤ n ∧ sp.toNatClampNeg + n.toNatClampNeg ≤ n1 ∧ dp.toNatClampNeg + n.toNatClampNeg ≤ n2 then some (qcpT M f sp.toNatClampNeg d dp.toNatClampNeg n.toNatClampNeg) else none
def qdvI (x y : Int32) : Option Int32 := if y = 0 then none else some (x / y)
def qrmI (x y : Int32) : Option Int32 := if y = 0 then none else some (x - x / y * y)
def qdvJ (x y : Int64) : Option Int64 := if y = 0 then none else some (x / y)
/-- a number that must be a truth value -/
def qtb (x : Int32) : Option Bool := if x = 0 then some false else if x = 1 then some true else none
def b2i (b : Bool) : Int32 := if b = true then 1 else 0
def jmaxI (x y : Int32) : Int32 := if x < y then y else x
def jminI (x y : Int32) : Int32 := if y < x then y else x
def jmaxJ (x y : Int64) : Int64 := if y < x then x else y
def jminJ (x y : Int64) : Int64 := if y < x then y else x
/-! naming a value, taking rows of values apart -/
def qlt {α β : Type} (a : α) (k : α → β) : β := k a
def qu2 {A B β : Type} (p : A × B) (k : A → B → β) : β := k p.1 p.2
def qu3 {A B C β : Type} (p : A × B × C) (k : A → B → C → β) : β := k p.1 p.2.1 p.2.2
def qu4 {A B C D β : Type} (p : A × B × C × D) (k : A → B → C → D → β) : β := k p.1 p.2.1 p.2.2.1 p.2.2.2
def qu5 {A B C D E β : Type} (p : A × B × C × D × E) (k : A → B → C → D → E → β) : β := k p.1 p.2.1 p.2.2.1 p.2.2.2.1 p.2.2.2.2
def qu6 {A B C D E F β : Type} (p : A × B × C × D × E × F) (k : A → B → C → D → E → F → β) : β := k p.1 p.2.1 p.2.2.1 p.2.2.2.1 p.2.2.2.2.1 p.2.2.2.2.2
def qu7 {A B C D E F G β : Type} (p : A × B × C × D × E × F × G) (k : A → B → C → D → E → F → G → β) : β := k p.1 p.2.1 p.2.2.1 p.2.2.2.1 p.2.2.2.2.1 p.2.2.2.2.2.1 p.2.2.2.2.2.2
def qse {A B β : Type} (p : A ⊕ B) (f : A → β) (g : B → β) : β := match p with
  | .inl a => f a
  | .inr b => g b
/-! loops: the body goes on (inl) or ends (inr) -/
def qlpN {σ ρ : Type} (b : σ → Option (σ ⊕ ρ)) : Nat → σ → Option ρ
  | 0, _ => none
  | n + 1, s => match b s with
    | none => none
    | some (.inl s') => qlpN b n s'
    | some (.inr r) => some r
theorem qlpN_mono {σ ρ : Type} {b : σ → Option (σ ⊕ ρ)} {r : ρ} : ∀ {n m : Nat} {s : σ}, qlpN b n s = some r → n ≤ m → qlpN b m s = some r := by
  intro n
  induction n with
  | zero => intro m s h; cases h
  | succ n ih =>
    intro m s h hm
    obtain ⟨m, rfl⟩ : ∃ k, m = k + 1 := ⟨m - 1, by omega⟩
    simp only [qlpN] at h ⊢
    cases hb : b s with
    | none => rw [hb] at h; cases h
    | some o =>
      rw [hb] at h
      cases o with
      | inl s' => exact ih h (by omega)
      | inr r' => exact h
noncomputable def qlp {σ ρ : Type} (b : σ → Option (σ ⊕ ρ)) (s : σ) : Option ρ :=
  @dite _ (∃ (n : Nat) (r : ρ), qlpN b n s = some r) (Classical.propDecidable _) (fun h => some (Classical.choose (Classical.choose_spec h))) (fun _ => none)
theorem qlp_of {σ ρ : Type} {b : σ → Option (σ ⊕ ρ)} {n : Nat} {s : σ} {r : ρ} (h : qlpN b n s = some r) : qlp b s = some r := by
  have hx : ∃ (n : Nat) (r : ρ), qlpN b n s = some r := ⟨n, r, h⟩
  have h1 : qlp b s = some (Classical.choose (Classical.choose_spec hx)) := by
    unfold qlp
    rw [dif_pos hx]
  have h2 := Classical.choose_spec (Classical.choose_spec hx)
  have h3 := qlpN_mono h (Nat.le_max_left n (Classical.choose hx))
  have h4 := qlpN_mono h2 (Nat.le_max_right n (Classical.choose hx))
  rw [h1, ← h4, h3]
theorem qlp_some {σ ρ : Type} {b : σ → Option (σ ⊕ ρ)} {s : σ} {r : ρ} (h : qlp b s = some r) : ∃ n, qlpN b n s = some r := by
  unfold qlp at h
  by_cases hx : ∃ (n : Nat) (r : ρ), qlpN b n s = some r
  · rw [dif_pos hx] at h
    have h2 := Classical.choose_spec (Classical.choose_spec hx)
    rw [Option.some.inj h] at h2
    exact ⟨_, h2⟩
  · rw [dif_neg hx] at h
    cases h
theorem qlp_inr {σ ρ : Type} {b : σ → Option (σ ⊕ ρ)} {s : σ} {r : ρ} (h : b s = some (.inr r)) : qlp b s = some r := qlp_of (n := 1) (by simp only [qlpN, h])
theorem qlp_inl {σ ρ : Type} {b : σ → Option (σ ⊕ ρ)} {s s' : σ} (h : b s = some (.inl s')) : qlp b s = qlp b s' := by
  cases h1 : qlp b s' with
  | some r =>
    obtain ⟨n, hn⟩ := qlp_some h1
    exact qlp_of (n := n + 1) (by simp only [qlpN, h]; exact hn)
  | none =>
    cases h2 : qlp b s with
    | none => rfl
    | some r =>
      obtain ⟨n, hn⟩ := qlp_some h2
      cases n with
      | zero => cases hn
      | succ n =>
        simp only [qlpN, h] at hn
        rw [qlp_of hn] at h1
        cases h1
/-- what holds of all states of a loop that ends with r -/
theorem qlp_ind {σ ρ : Type} {b : σ → Option (σ ⊕ ρ)} {r : ρ} (G : σ → Prop) (step : ∀ s o, b s = some o → (∀ s', o = .inl s' → G s') → (∀ r', o = .inr r' → r' = r) → G s) : ∀ s, qlp b s = some r → G s := by
  intro s h
  obtain ⟨n, hn⟩ := qlp_some h
  clear h
  induction n generalizing s with
  | zero => cases hn
  | succ n ih =>
    simp only [qlpN] at hn
    cases hb : b s with
    | none => rw [hb] at hn; cases hn
    | some o =>
      rw [hb] at hn
      refine step s o hb (fun s' e => ?_) (fun r' e => ?_)
      · subst e
        exact ih s' hn
      · subst e
        exact Option.some.inj hn
/-- a loop by a measure: an invariant, and what it ends with -/
theorem qlp_run {σ ρ : Type} {b : σ → Option (σ ⊕ ρ)} (I : σ → Prop) (P : ρ → Prop) (μ : σ → Nat) (step : ∀ s, I s → (∃ s', b s = some (.inl s') ∧ I s' ∧ μ s' < μ s) ∨ (∃ r, b s = some (.inr r) ∧ P r)) : ∀ s, I s → ∃ r, qlp b s = some r ∧ P r := by
  intro s
  generalize hn : μ s = n
  induction n using Nat.strongRecOn generalizing s with
  | _ n ih =>
    intro hI
    rcases step s hI with ⟨s', h1, h2, h3⟩ | ⟨r, h1, h2⟩
    · obtain ⟨r, h4, h5⟩ := ih (μ s') (by omega) s' rfl h2
      exact ⟨r, by rw [qlp_inl h1]; exact h4, h5⟩
    · exact ⟨r, qlp_inr h1, h2⟩
/-! how a walk follows its pure text -/
theorem st_lt {α β : Type} {a x : α} {k : α → β} {o : β} (h : qlt a k = o) (e : x = a) : k x = o := by rw [e]; exact h
theorem st_bd {α β : Type} {a : Option α} {k : α → Option β} {o : β} (h : a.bind k = some o) : ∃ x, a = some x ∧ k x = some o := by
  cases a with
  | none => cases h
  | some x => exact ⟨x, rfl, h⟩
theorem st_nn {β : Type} {o : β} {G : Prop} (h : (none : Option β) = some o) : G := by cases h
theorem st_tb {x : Int32} {b : Bool} (h : qtb x = some b) : x = b2i b := by
  unfold qtb at h
  by_cases h0 : x = 0
  · rw [if_pos h0] at h; cases h; rw [h0]; rfl
  · by_cases h1 : x = 1
    · rw [if_neg h0, if_pos h1] at h; cases h; rw [h1]; rfl
    · rw [if_neg h0, if_neg h1] at h; cases h
theorem st_ltx {α β : Type} {a : α} {k : α → β} {o : β} (h : qlt a k = o) : ∃ x, a = x ∧ k x = o := ⟨a, rfl, h⟩
theorem st_lty {α β : Type} {a : α} {k : α → β} {o : β} (h : qlt a k = o) : ∃ x, x = a ∧ k x = o := ⟨a, rfl, h⟩
theorem st_u2 {A B β : Type} {a : A} {b : B} {k : A → B → β} {o : β} (h : qu2 (a, b) k = o) : k a b = o := h
theorem st_u3 {A B C β : Type} {a : A} {b : B} {c : C} {k : A → B → C → β} {o : β} (h : qu3 (a, b, c) k = o) : k a b c = o := h
theorem st_u4 {A B C D β : Type} {a : A} {b : B} {c : C} {d : D} {k : A → B → C → D → β} {o : β} (h : qu4 (a, b, c, d) k = o) : k a b c d = o := h
theorem st_u5 {A B C D E β : Type} {a : A} {b : B} {c : C} {d : D} {e : E} {k : A → B → C → D → E → β} {o : β} (h : qu5 (a, b, c, d, e) k = o) : k a b c d e = o := h
theorem st_u6 {A B C D E F β : Type} {a : A} {b : B} {c : C} {d : D} {e : E} {f : F} {k : A → B → C → D → E → F → β} {o : β} (h : qu6 (a, b, c, d, e, f) k = o) : k a b c d e f = o := h
theorem st_u7 {A B C D E F G β : Type} {a : A} {b : B} {c : C} {d : D} {e : E} {f : F} {g : G} {k : A → B → C → D → E → F → G → β} {o : β} (h : qu7 (a, b, c, d, e, f, g) k = o) : k a b c d e f g = o := h
theorem st_seL {A B β : Type} {a : A} {f : A → β} {g : B → β} {o : β} (h : qse (.inl a) f g = o) : f a = o := h
theorem st_seR {A B β : Type} {b : B} {f : A → β} {g : B → β} {o : β} (h : qse (.inr b) f g = o) : g b = o := h
/-- a reference that may be null; a reference of a kind -/
def qno {β : Type} (o : Option Nat) (a : β) (f : Nat → β) : β := match o with
  | none => a
  | some v => f v
def qgd {β : Type} (b : Bool) (k : Option β) : Option β := if b = true then k else none
theorem st_noN {β : Type} {a : β} {f : Nat → β} {o : β} (h : qno none a f = o) : a = o := h
theorem st_noS {β : Type} {v : Nat} {a : β} {f : Nat → β} {o : β} (h : qno (some v) a f = o) : f v = o := h
theorem st_gd {β : Type} {b : Bool} {k : Option β} {o : β} (h : qgd b k = some o) : b = true ∧ k = some o := by
  unfold qgd at h
  by_cases hb : b = true
  · rw [if_pos hb] at h; exact ⟨hb, h⟩
  · rw [if_neg hb] at h; cases h
theorem qi2 {A B : Type} {a a' : A} {b b' : B} (h : (a, b) = (a', b')) : a = a' ∧ b = b' := by cases h; exact ⟨rfl, rfl⟩
theorem qi3 {A B C : Type} {a a' : A} {b b' : B} {c c' : C} (h : (a, b, c) = (a', b', c')) : a = a' ∧ b = b' ∧ c = c' := by cases h; exact ⟨rfl, rfl, rfl⟩
theorem qi4 {A B C D : Type} {a a' : A} {b b' : B} {c c' : C} {d d' : D} (h : (a, b, c, d) = (a', b', c', d')) : a = a' ∧ b = b' ∧ c = c' ∧ d = d' := by cases h; exact ⟨rfl, rfl, rfl, rfl⟩
theorem qi5 {A B C D E : Type} {a a' : A} {b b' : B} {c c' : C} {d d' : D} {e e' : E} (h : (a, b, c, d, e) = (a', b', c', d', e')) : a = a' ∧ b = b' ∧ c = c' ∧ d = d' ∧ e = e' := by cases h; exact ⟨rfl, rfl, rfl, rfl, rfl⟩
theorem qi6 {A B C D E F : Type} {a a' : A} {b b' : B} {c c' : C} {d d' : D} {e e' : E} {f f' : F} (h : (a, b, c, d, e, f) = (a', b', c', d', e', f')) : a = a' ∧ b = b' ∧ c = c' ∧ d = d' ∧ e = e' ∧ f = f' := by cases h; exact ⟨rfl, rfl, rfl, rfl, rfl, rfl⟩
theorem qi7 {A B C D E F G : Type} {a a' : A} {b b' : B} {c c' : C} {d d' : D} {e e' : E} {f f' : F} {g g' : G} (h : (a, b, c, d, e, f, g) = (a', b', c', d', e', f', g')) : a = a' ∧ b = b' ∧ c = c' ∧ d = d' ∧ e = e' ∧ f = f' ∧ g = g' := by cases h; exact ⟨rfl, rfl, rfl, rfl, rfl, rfl, rfl⟩
/-! ===== where the cells are, by relative address ===== -/
def kdL : List Nat := [11, 4, 20, 8, 10, 22, 0, 23, 20, 20, 20, 20, 9, 20, 20, 9, 20, 20, 9, 20, 20, 9, 20, 20, 9, 20, 20, 9, 20, 20, 9, 20, 20, 1, 20, 20, 20, 1, 20, 20, 20, 3, 1, 20, 20, 20, 20, 20, 20, 2, 20, 21, 21, 21, 21, 21, 21, 21, 20, 20, 5, 20, 20, 20, 20, 6, 20, 20, 20, 20, 20, 7, 20, 20, 20, 7, 20, 20, 20, 7, 20, 20, 20, 7, 20, 20, 20, 7, 20, 20, 20, 12, 20, 20, 20, 20, 20, 20, 20, 20, 20, 20, 20, 20, 20, 20, 20, 20, 20, 20, 20, 20, 20, 20, 21, 21, 20, 20, 20, 20, 20, 20, 21]
def alL : List Nat := [0, 0, 160, 0, 0, 5, 0, 7, 6, 6, 8, 64, 0, 160, 160, 0, 160, 160, 0, 160, 160, 0, 160, 160, 0, 160, 160, 0, 160, 160, 0, 160, 160, 0, 20, 20, 6, 0, 20, 20, 6, 0, 0, 20, 20, 6, 20, 40, 40, 0, 12, 12, 13, 13, 12, 10, 10, 110, 12, 1331, 0, 20, 20, 61, 61, 0, 20, 20, 20, 20, 20, 0, 16, 24, 20, 0, 16, 24, 20, 0, 16, 24, 20, 0, 16, 24, 20, 0, 16, 24, 20, 0, 160, 2380, 2380, 7, 7, 630, 630, 630, 8, 80, 5, 5, 5, 80, 120, 6, 20, 20, 20, 60, 12, 12, 10, 10, 20, 20, 20, 20, 60, 6, 1]
def NK : Nat := 123
def tgL : List (List Nat) := [[3, 0, 3, 3, 3, 3], [2, 0, 0, 0, 0, 0, 0, 1, 0, 0, 0, 0, 0, 0, 0, 3, 3, 3], [0, 0, 0, 0, 0, 0, 3, 3, 3, 3, 3, 2, 2, 3, 3, 3, 0, 0], [3, 3, 3, 3, 0, 0, 0, 0], [3, 0, 0, 0], [2, 0, 3, 3, 3, 3], [3, 3, 3, 2, 2], [0, 0, 0, 3, 3, 3], [3], [3, 3, 0], [3, 2], [3, 3, 3, 3, 0, 3, 3, 3, 3, 3, 3, 3, 0], [0, 3, 0, 0, 0, 0, 3, 3, 3, 3, 3, 3, 3, 0, 0, 3, 3, 3, 3, 3, 3, 3, 0, 3, 3, 3, 3, 0, 0, 0, 0, 0, 0, 0, 0, 1, 0, 0, 3, 0, 0, 0, 1, 0, 0, 0, 0, 0, 0, 3, 3, 3, 3, 3, 3, 0, 0, 0, 3, 3, 3, 0, 0, 0, 0, 0, 0, 1, 0, 3]]
def srL : List (List (Nat × Nat)) := [[(0, 7), (0, 0), (0, 8), (0, 9), (0, 10), (0, 11)], [(0, 0), (0, 0), (0, 0), (0, 0), (0, 0), (0, 0), (0, 0), (0, 0), (0, 0), (0, 0), (0, 0), (0, 0), (0, 0), (0, 0), (0, 0), (1, 1), (1, 2), (1, 3)], [(0, 0), (0, 0), (0, 0), (0, 0), (0, 0), (0, 0), (0, 50), (0, 51), (0, 52), (0, 53), (0, 54), (0, 0), (0, 0), (0, 57), (0, 58), (0, 59), (0, 0), (0, 0)], [(0, 42), (0, 46), (0, 47), (0, 48), (0, 0), (0, 0), (0, 0), (0, 0)], [(0, 2), (0, 0), (0, 0), (0, 0)], [(0, 0), (0, 0), (0, 61), (0, 62), (0, 63), (0, 64)], [(0, 66), (0, 67), (0, 68), (0, 0), (0, 0)], [(0, 0), (0, 0), (0, 0), (1, 1), (1, 2), (1, 3)], [(0, 1)], [(1, 1), (1, 2), (0, 0)], [(0, 1), (0, 0)], [(0, 1), (0, 3), (0, 4), (0, 5), (0, 0), (0, 6), (0, 33), (0, 37), (0, 41), (0, 49), (0, 60), (0, 65), (0, 0)], [(0, 0), (0, 92), (0, 0), (0, 0), (0, 0), (0, 0), (0, 93), (0, 94), (0, 95), (0, 96), (0, 97), (0, 98), (0, 99), (0, 0), (0, 0), (0, 100), (0, 101), (0, 102), (0, 103), (0, 104), (0, 105), (0, 106), (0, 0), (0, 107), (0, 108), (0, 109), (0, 110), (0, 0), (0, 0), (0, 0), (0, 0), (0, 0), (0, 0), (0, 0), (0, 0), (0, 0), (0, 0), (0, 0), (0, 111), (0, 0), (0, 0), (0, 0), (0, 0), (0, 0), (0, 0), (0, 0), (0, 0), (0, 0), (0, 0), (0, 112), (0, 113), (0, 114), (0, 115), (0, 116), (0, 117), (0, 0), (0, 0), (0, 0), (0, 118), (0, 119), (0, 120), (0, 0), (0, 0), (0, 0), (0, 0), (0, 0), (0, 0), (0, 0), (0, 0), (0, 121)]]
def q_kd (k : Nat) : Nat := kdL.getD k 99
def q_al (k : Nat) : Nat := alL.getD k 0
def q_tg (ci j : Nat) : Nat := (tgL.getD ci []).getD j 9
def q_sr (ci j k : Nat) : Nat := if ((srL.getD ci []).getD j (0, 0)).1 = 0 then ((srL.getD ci []).getD j (0, 0)).2 else k + ((srL.getD ci []).getD j (0, 0)).2
def q_nf (ci : Nat) : Nat := (tgL.getD ci []).length
/-- a cell of a kind, and an array's length -/
def q_is (k ci n : Nat) : Prop := q_kd k = ci ∧ k < NK ∧ q_al k = n
def q_vil (k : Nat) : Bool := k == 71 || k == 75 || k == 79 || k == 83 || k == 87
def q_way (k : Nat) : Bool := k == 12 || k == 15 || k == 18 || k == 21 || k == 24 || k == 27 || k == 30
def q_mor (k : Nat) : Bool := k == 33 || k == 37 || k == 42
def q_prt (k : Nat) : Bool := k == 55 || k == 56
def q_tou (k : Nat) : Bool := k == 69 || k == 70
theorem q_vil_0 {k : Nat} (h : q_vil k = true) : q_is (k) 7 0 := by
  simp only [q_vil, Bool.or_eq_true, beq_iff_eq] at h
  rcases h with (((rfl | rfl) | rfl) | rfl) | rfl <;> exact ⟨by decide, by decide, by decide⟩
theorem q_vil_1 {k : Nat} (h : q_vil k = true) : q_is (k + 1) 20 16 := by
  simp only [q_vil, Bool.or_eq_true, beq_iff_eq] at h
  rcases h with (((rfl | rfl) | rfl) | rfl) | rfl <;> exact ⟨by decide, by decide, by decide⟩
theorem q_vil_2 {k : Nat} (h : q_vil k = true) : q_is (k + 2) 20 24 := by
  simp only [q_vil, Bool.or_eq_true, beq_iff_eq] at h
  rcases h with (((rfl | rfl) | rfl) | rfl) | rfl <;> exact ⟨by decide, by decide, by decide⟩
theorem q_vil_3 {k : Nat} (h : q_vil k = true) : q_is (k + 3) 20 20 := by
  simp only [q_vil, Bool.or_eq_true, beq_iff_eq] at h
  rcases h with (((rfl | rfl) | rfl) | rfl) | rfl <;> exact ⟨by decide, by decide, by decide⟩
theorem q_way_0 {k : Nat} (h : q_way k = true) : q_is (k) 9 0 := by
  simp only [q_way, Bool.or_eq_true, beq_iff_eq] at h
  rcases h with (((((rfl | rfl) | rfl) | rfl) | rfl) | rfl) | rfl <;> exact ⟨by decide, by decide, by decide⟩
theorem q_way_1 {k : Nat} (h : q_way k = true) : q_is (k + 1) 20 160 := by
  simp only [q_way, Bool.or_eq_true, beq_iff_eq] at h
  rcases h with (((((rfl | rfl) | rfl) | rfl) | rfl) | rfl) | rfl <;> exact ⟨by decide, by decide, by decide⟩
theorem q_way_2 {k : Nat} (h : q_way k = true) : q_is (k + 2) 20 160 := by
  simp only [q_way, Bool.or_eq_true, beq_iff_eq] at h
  rcases h with (((((rfl | rfl) | rfl) | rfl) | rfl) | rfl) | rfl <;> exact ⟨by decide, by decide, by decide⟩
theorem q_mor_0 {k : Nat} (h : q_mor k = true) : q_is (k) 1 0 := by
  simp only [q_mor, Bool.or_eq_true, beq_iff_eq] at h
  rcases h with (rfl | rfl) | rfl <;> exact ⟨by decide, by decide, by decide⟩
theorem q_mor_1 {k : Nat} (h : q_mor k = true) : q_is (k + 1) 20 20 := by
  simp only [q_mor, Bool.or_eq_true, beq_iff_eq] at h
  rcases h with (rfl | rfl) | rfl <;> exact ⟨by decide, by decide, by decide⟩
theorem q_mor_2 {k : Nat} (h : q_mor k = true) : q_is (k + 2) 20 20 := by
  simp only [q_mor, Bool.or_eq_true, beq_iff_eq] at h
  rcases h with (rfl | rfl) | rfl <;> exact ⟨by decide, by decide, by decide⟩
theorem q_mor_3 {k : Nat} (h : q_mor k = true) : q_is (k + 3) 20 6 := by
  simp only [q_mor, Bool.or_eq_true, beq_iff_eq] at h
  rcases h with (rfl | rfl) | rfl <;> exact ⟨by decide, by decide, by decide⟩
theorem q_prt_0 {k : Nat} (h : q_prt k = true) : q_is (k) 21 10 := by
  simp only [q_prt, Bool.or_eq_true, beq_iff_eq] at h
  rcases h with rfl | rfl <;> exact ⟨by decide, by decide, by decide⟩
theorem q_tou_0 {k : Nat} (h : q_tou k = true) : q_is (k) 20 20 := by
  simp only [q_tou, Bool.or_eq_true, beq_iff_eq] at h
  rcases h with rfl | rfl <;> exact ⟨by decide, by decide, by decide⟩
theorem qk_0 : q_is 0 11 0 := ⟨by decide, by decide, by decide⟩
theorem qk_1 : q_is 1 4 0 := ⟨by decide, by decide, by decide⟩
theorem qk_2 : q_is 2 20 160 := ⟨by decide, by decide, by decide⟩
theorem qk_3 : q_is 3 8 0 := ⟨by decide, by decide, by decide⟩
theorem qk_4 : q_is 4 10 0 := ⟨by decide, by decide, by decide⟩
theorem qk_5 : q_is 5 22 5 := ⟨by decide, by decide, by decide⟩
theorem qk_6 : q_is 6 0 0 := ⟨by decide, by decide, by decide⟩
theorem qk_7 : q_is 7 23 7 := ⟨by decide, by decide, by decide⟩
theorem qk_8 : q_is 8 20 6 := ⟨by decide, by decide, by decide⟩
theorem qk_9 : q_is 9 20 6 := ⟨by decide, by decide, by decide⟩
theorem qk_10 : q_is 10 20 8 := ⟨by decide, by decide, by decide⟩
theorem qk_11 : q_is 11 20 64 := ⟨by decide, by decide, by decide⟩
theorem qk_12 : q_is 12 9 0 := ⟨by decide, by decide, by decide⟩
theorem qk_13 : q_is 13 20 160 := ⟨by decide, by decide, by decide⟩
theorem qk_14 : q_is 14 20 160 := ⟨by decide, by decide, by decide⟩
theorem qk_15 : q_is 15 9 0 := ⟨by decide, by decide, by decide⟩
theorem qk_16 : q_is 16 20 160 := ⟨by decide, by decide, by decide⟩
theorem qk_17 : q_is 17 20 160 := ⟨by decide, by decide, by decide⟩
theorem qk_18 : q_is 18 9 0 := ⟨by decide, by decide, by decide⟩
theorem qk_19 : q_is 19 20 160 := ⟨by decide, by decide, by decide⟩
theorem qk_20 : q_is 20 20 160 := ⟨by decide, by decide, by decide⟩
theorem qk_21 : q_is 21 9 0 := ⟨by decide, by decide, by decide⟩
theorem qk_22 : q_is 22 20 160 := ⟨by decide, by decide, by decide⟩
theorem qk_23 : q_is 23 20 160 := ⟨by decide, by decide, by decide⟩
theorem qk_24 : q_is 24 9 0 := ⟨by decide, by decide, by decide⟩
theorem qk_25 : q_is 25 20 160 := ⟨by decide, by decide, by decide⟩
theorem qk_26 : q_is 26 20 160 := ⟨by decide, by decide, by decide⟩
theorem qk_27 : q_is 27 9 0 := ⟨by decide, by decide, by decide⟩
theorem qk_28 : q_is 28 20 160 := ⟨by decide, by decide, by decide⟩
theorem qk_29 : q_is 29 20 160 := ⟨by decide, by decide, by decide⟩
theorem qk_30 : q_is 30 9 0 := ⟨by decide, by decide, by decide⟩
theorem qk_31 : q_is 31 20 160 := ⟨by decide, by decide, by decide⟩
theorem qk_32 : q_is 32 20 160 := ⟨by decide, by decide, by decide⟩
theorem qk_33 : q_is 33 1 0 := ⟨by decide, by decide, by decide⟩
theorem qk_34 : q_is 34 20 20 := ⟨by decide, by decide, by decide⟩
theorem qk_35 : q_is 35 20 20 := ⟨by decide, by decide, by decide⟩
theorem qk_36 : q_is 36 20 6 := ⟨by decide, by decide, by decide⟩
theorem qk_37 : q_is 37 1 0 := ⟨by decide, by decide, by decide⟩
theorem qk_38 : q_is 38 20 20 := ⟨by decide, by decide, by decide⟩
theorem qk_39 : q_is 39 20 20 := ⟨by decide, by decide, by decide⟩
theorem qk_40 : q_is 40 20 6 := ⟨by decide, by decide, by decide⟩
theorem qk_41 : q_is 41 3 0 := ⟨by decide, by decide, by decide⟩
theorem qk_42 : q_is 42 1 0 := ⟨by decide, by decide, by decide⟩
theorem qk_43 : q_is 43 20 20 := ⟨by decide, by decide, by decide⟩
theorem qk_44 : q_is 44 20 20 := ⟨by decide, by decide, by decide⟩
theorem qk_45 : q_is 45 20 6 := ⟨by decide, by decide, by decide⟩
theorem qk_46 : q_is 46 20 20 := ⟨by decide, by decide, by decide⟩
theorem qk_47 : q_is 47 20 40 := ⟨by decide, by decide, by decide⟩
theorem qk_48 : q_is 48 20 40 := ⟨by decide, by decide, by decide⟩
theorem qk_49 : q_is 49 2 0 := ⟨by decide, by decide, by decide⟩
theorem qk_50 : q_is 50 20 12 := ⟨by decide, by decide, by decide⟩
theorem qk_51 : q_is 51 21 12 := ⟨by decide, by decide, by decide⟩
theorem qk_52 : q_is 52 21 13 := ⟨by decide, by decide, by decide⟩
theorem qk_53 : q_is 53 21 13 := ⟨by decide, by decide, by decide⟩
theorem qk_54 : q_is 54 21 12 := ⟨by decide, by decide, by decide⟩
theorem qk_55 : q_is 55 21 10 := ⟨by decide, by decide, by decide⟩
theorem qk_56 : q_is 56 21 10 := ⟨by decide, by decide, by decide⟩
theorem qk_57 : q_is 57 21 110 := ⟨by decide, by decide, by decide⟩
theorem qk_58 : q_is 58 20 12 := ⟨by decide, by decide, by decide⟩
theorem qk_59 : q_is 59 20 1331 := ⟨by decide, by decide, by decide⟩
theorem qk_60 : q_is 60 5 0 := ⟨by decide, by decide, by decide⟩
theorem qk_61 : q_is 61 20 20 := ⟨by decide, by decide, by decide⟩
theorem qk_62 : q_is 62 20 20 := ⟨by decide, by decide, by decide⟩
theorem qk_63 : q_is 63 20 61 := ⟨by decide, by decide, by decide⟩
theorem qk_64 : q_is 64 20 61 := ⟨by decide, by decide, by decide⟩
theorem qk_65 : q_is 65 6 0 := ⟨by decide, by decide, by decide⟩
theorem qk_66 : q_is 66 20 20 := ⟨by decide, by decide, by decide⟩
theorem qk_67 : q_is 67 20 20 := ⟨by decide, by decide, by decide⟩
theorem qk_68 : q_is 68 20 20 := ⟨by decide, by decide, by decide⟩
theorem qk_69 : q_is 69 20 20 := ⟨by decide, by decide, by decide⟩
theorem qk_70 : q_is 70 20 20 := ⟨by decide, by decide, by decide⟩
theorem qk_71 : q_is 71 7 0 := ⟨by decide, by decide, by decide⟩
theorem qk_72 : q_is 72 20 16 := ⟨by decide, by decide, by decide⟩
theorem qk_73 : q_is 73 20 24 := ⟨by decide, by decide, by decide⟩
theorem qk_74 : q_is 74 20 20 := ⟨by decide, by decide, by decide⟩
theorem qk_75 : q_is 75 7 0 := ⟨by decide, by decide, by decide⟩
theorem qk_76 : q_is 76 20 16 := ⟨by decide, by decide, by decide⟩
theorem qk_77 : q_is 77 20 24 := ⟨by decide, by decide, by decide⟩
theorem qk_78 : q_is 78 20 20 := ⟨by decide, by decide, by decide⟩
theorem qk_79 : q_is 79 7 0 := ⟨by decide, by decide, by decide⟩
theorem qk_80 : q_is 80 20 16 := ⟨by decide, by decide, by decide⟩
theorem qk_81 : q_is 81 20 24 := ⟨by decide, by decide, by decide⟩
theorem qk_82 : q_is 82 20 20 := ⟨by decide, by decide, by decide⟩
theorem qk_83 : q_is 83 7 0 := ⟨by decide, by decide, by decide⟩
theorem qk_84 : q_is 84 20 16 := ⟨by decide, by decide, by decide⟩
theorem qk_85 : q_is 85 20 24 := ⟨by decide, by decide, by decide⟩
theorem qk_86 : q_is 86 20 20 := ⟨by decide, by decide, by decide⟩
theorem qk_87 : q_is 87 7 0 := ⟨by decide, by decide, by decide⟩
theorem qk_88 : q_is 88 20 16 := ⟨by decide, by decide, by decide⟩
theorem qk_89 : q_is 89 20 24 := ⟨by decide, by decide, by decide⟩
theorem qk_90 : q_is 90 20 20 := ⟨by decide, by decide, by decide⟩
theorem qk_91 : q_is 91 12 0 := ⟨by decide, by decide, by decide⟩
theorem qk_92 : q_is 92 20 160 := ⟨by decide, by decide, by decide⟩
theorem qk_93 : q_is 93 20 2380 := ⟨by decide, by decide, by decide⟩
theorem qk_94 : q_is 94 20 2380 := ⟨by decide, by decide, by decide⟩
theorem qk_95 : q_is 95 20 7 := ⟨by decide, by decide, by decide⟩
theorem qk_96 : q_is 96 20 7 := ⟨by decide, by decide, by decide⟩
theorem qk_97 : q_is 97 20 630 := ⟨by decide, by decide, by decide⟩
theorem qk_98 : q_is 98 20 630 := ⟨by decide, by decide, by decide⟩
theorem qk_99 : q_is 99 20 630 := ⟨by decide, by decide, by decide⟩
theorem qk_100 : q_is 100 20 8 := ⟨by decide, by decide, by decide⟩
theorem qk_101 : q_is 101 20 80 := ⟨by decide, by decide, by decide⟩
theorem qk_102 : q_is 102 20 5 := ⟨by decide, by decide, by decide⟩
theorem qk_103 : q_is 103 20 5 := ⟨by decide, by decide, by decide⟩
theorem qk_104 : q_is 104 20 5 := ⟨by decide, by decide, by decide⟩
theorem qk_105 : q_is 105 20 80 := ⟨by decide, by decide, by decide⟩
theorem qk_106 : q_is 106 20 120 := ⟨by decide, by decide, by decide⟩
theorem qk_107 : q_is 107 20 6 := ⟨by decide, by decide, by decide⟩
theorem qk_108 : q_is 108 20 20 := ⟨by decide, by decide, by decide⟩
theorem qk_109 : q_is 109 20 20 := ⟨by decide, by decide, by decide⟩
theorem qk_110 : q_is 110 20 20 := ⟨by decide, by decide, by decide⟩
theorem qk_111 : q_is 111 20 60 := ⟨by decide, by decide, by decide⟩
theorem qk_112 : q_is 112 20 12 := ⟨by decide, by decide, by decide⟩
theorem qk_113 : q_is 113 20 12 := ⟨by decide, by decide, by decide⟩
theorem qk_114 : q_is 114 21 10 := ⟨by decide, by decide, by decide⟩
theorem qk_115 : q_is 115 21 10 := ⟨by decide, by decide, by decide⟩
theorem qk_116 : q_is 116 20 20 := ⟨by decide, by decide, by decide⟩
theorem qk_117 : q_is 117 20 20 := ⟨by decide, by decide, by decide⟩
theorem qk_118 : q_is 118 20 20 := ⟨by decide, by decide, by decide⟩
theorem qk_119 : q_is 119 20 20 := ⟨by decide, by decide, by decide⟩
theorem qk_120 : q_is 120 20 60 := ⟨by decide, by decide, by decide⟩
theorem qk_121 : q_is 121 20 6 := ⟨by decide, by decide, by decide⟩
theorem qk_122 : q_is 122 21 1 := ⟨by decide, by decide, by decide⟩
theorem q_vil_ix {n : Nat} (h : n < 5) : q_vil (71 + 4 * n) = true := by
  have : n = 0 ∨ n = 1 ∨ n = 2 ∨ n = 3 ∨ n = 4 := by omega
  rcases this with rfl | rfl | rfl | rfl | rfl <;> decide
theorem q_way_ix {n : Nat} (h : n < 7) : q_way (12 + 3 * n) = true := by
  have : n = 0 ∨ n = 1 ∨ n = 2 ∨ n = 3 ∨ n = 4 ∨ n = 5 ∨ n = 6 := by omega
  rcases this with rfl | rfl | rfl | rfl | rfl | rfl | rfl <;> decide
/-- the references that change are of their kinds -/
def q_ok (ci j v : Nat) : Bool := if ci = 1 ∨ ci = 5 then q_vil v else if ci = 10 then q_way v else if ci = 2 then q_prt v else q_tou v
def q_Ty (M : qM) : Prop := ∀ k j v : Nat, q_tg (q_kd k) j = 2 → M.2.2 k j = some v → q_ok (q_kd k) j v = true
theorem q_Ty_I {M : qM} (h : q_Ty M) (a i : Nat) (v : Int32) : q_Ty (qI M a i v) := h
theorem q_Ty_J {M : qM} (h : q_Ty M) (a i : Nat) (v : Int64) : q_Ty (qJ M a i v) := h
theorem q_Ty_R {M : qM} (h : q_Ty M) {a i : Nat} {v : Option Nat} (hv : ∀ w, v = some w → q_ok (q_kd a) i w = true) : q_Ty (qR M a i v) := by
  intro k j w h1 h2
  simp only [qR] at h2
  by_cases he : k = a ∧ j = i
  · rw [if_pos he] at h2
    obtain ⟨rfl, rfl⟩ := he
    exact hv w h2
  · rw [if_neg he] at h2
    exact h k j w h1 h2
