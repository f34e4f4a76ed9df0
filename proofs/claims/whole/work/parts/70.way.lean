/-! ===== ways: what their steps come to ===== -/
def opL : List Nat := [48, 97, 43, 45, 42, 47, 61, 60, 62, 33, 38, 124]
def opC (o : Nat) : Nat := opL.getD o 0
theorem worked_some (x : Int32) (p q : Int64) : ∃ r, jMd_worked x p q = some r := by
  unfold jMd_worked
  simp only [qlt]
  by_cases h1 : x = 2
  · exact ⟨_, if_pos h1⟩
  · rw [if_neg h1]
    by_cases h2 : x = 3
    · exact ⟨_, if_pos h2⟩
    · rw [if_neg h2]
      by_cases h3 : x = 4
      · exact ⟨_, if_pos h3⟩
      · rw [if_neg h3]
        by_cases h4 : x = 5
        · rw [if_pos h4]
          by_cases h5 : lg_cmp q 0 = 0
          · rw [if_pos h5]; exact ⟨_, rfl⟩
          · rw [if_neg h5]
            unfold qdvJ
            rw [if_neg (fun e => h5 (by rw [lg_cmp_eq]; exact e))]
            exact ⟨_, rfl⟩
        · rw [if_neg h4]
          split
          · exact ⟨_, rfl⟩
          · split
            · exact ⟨_, rfl⟩
            · split
              · exact ⟨_, rfl⟩
              · split
                · exact ⟨_, rfl⟩
                · exact ⟨_, rfl⟩
noncomputable def jop (o : Nat) (a b : Int32) : Int32 := (jMd_worked (nI o) a.toInt64 b.toInt64).getD 0
theorem worked_eq (o : Nat) (a b : Int32) : jMd_worked (nI o) a.toInt64 b.toInt64 = some (jop o a b) := by
  obtain ⟨r, hr⟩ := worked_some (nI o) a.toInt64 b.toInt64
  unfold jop
  rw [hr]
  rfl
theorem t64_le (a b : Int32) : (a.toInt64 ≤ b.toInt64) ↔ a ≤ b := by
  rw [Int64.le_iff_toInt_le, Int32.toInt_toInt64, Int32.toInt_toInt64, Int32.le_iff_toInt_le]
theorem t64_eq (a b : Int32) : (a.toInt64 = b.toInt64) ↔ a = b := by
  rw [← Int64.toInt_inj, Int32.toInt_toInt64, Int32.toInt_toInt64, Int32.toInt_inj]
theorem t64_0 (a : Int32) : (a.toInt64 = 0) ↔ a = 0 := by
  rw [show (0 : Int64) = (0 : Int32).toInt64 from rfl, t64_eq]
theorem clamp_eq (x : Int64) : (if lg_cmp x 1000000 ≤ 0 then (if (0 : Int32) ≤ lg_cmp x (-1000000) then x.toInt32 else -1000000) else (1000000 : Int32)) = jMd_bounded x := by
  unfold jMd_bounded jmaxJ jminJ
  simp only [lg_cmp_le, lg_cmp_ge]
  by_cases h1 : x ≤ 1000000
  · rw [if_pos h1]
    by_cases h2 : (-1000000 : Int64) ≤ x
    · rw [if_pos h2]
      by_cases h3 : x < 1000000
      · rw [if_pos h3]
        rw [Int64.le_iff_toInt_le] at h2
        by_cases h4 : x < -1000000
        · rw [Int64.lt_iff_toInt_lt] at h4
          omega
        · rw [if_neg h4]
      · have hx : x = 1000000 := by
          rw [← Int64.toInt_inj]
          rw [Int64.lt_iff_toInt_lt] at h3
          rw [Int64.le_iff_toInt_le] at h1
          omega
        subst hx
        decide
    · rw [if_neg h2]
      have h3 : x < 1000000 := by
        rw [Int64.le_iff_toInt_le] at h2
        rw [Int64.lt_iff_toInt_lt]
        have e1 : (-1000000 : Int64).toInt = -1000000 := rfl
        have e2 : (1000000 : Int64).toInt = 1000000 := rfl
        omega
      have h4 : x < -1000000 := by
        rw [Int64.le_iff_toInt_le] at h2
        rw [Int64.lt_iff_toInt_lt]
        omega
      rw [if_pos h3, if_pos h4]
      rfl
  · rw [if_neg h1]
    have h3 : ¬ x < 1000000 := by
      rw [Int64.le_iff_toInt_le] at h1
      rw [Int64.lt_iff_toInt_lt]
      omega
    rw [if_neg h3]
    decide
theorem joined_eq {o : Nat} {a b : Int32} (h1 : 2 ≤ o) (h2 : o < 12) (h9 : ¬ o = 9) (hb : 10 ≤ o → (a = 0 ∨ a = 1) ∧ (b = 0 ∨ b = 1)) : jWy_joined (nI (opC o)) a b = some (jop o a b) := by
  rw [← worked_eq]
  have : o = 2 ∨ o = 3 ∨ o = 4 ∨ o = 5 ∨ o = 6 ∨ o = 7 ∨ o = 8 ∨ o = 10 ∨ o = 11 := by omega
  unfold jWy_joined jMd_worked
  simp only [qlt, clamp_eq]
  rcases this with rfl | rfl | rfl | rfl | rfl | rfl | rfl | rfl | rfl
  · refine (((if_neg (by decide)).trans ((if_neg (by decide)).trans (if_pos (by decide))))).trans (Eq.trans ?_ ((if_pos (by decide))).symm)
    rfl
  · refine (((if_neg (by decide)).trans ((if_neg (by decide)).trans ((if_neg (by decide)).trans (if_pos (by decide)))))).trans (Eq.trans ?_ (((if_neg (by decide)).trans (if_pos (by decide)))).symm)
    rfl
  · refine (((if_neg (by decide)).trans (if_pos (by decide)))).trans (Eq.trans ?_ (((if_neg (by decide)).trans ((if_neg (by decide)).trans (if_pos (by decide))))).symm)
    rfl
  · refine (((if_neg (by decide)).trans ((if_neg (by decide)).trans ((if_neg (by decide)).trans ((if_neg (by decide)).trans (if_pos (by decide))))))).trans (Eq.trans ?_ (((if_neg (by decide)).trans ((if_neg (by decide)).trans ((if_neg (by decide)).trans (if_pos (by decide)))))).symm)
    simp only [lg_cmp_eq, t64_0]
    by_cases hz : b = 0
    · rw [if_pos hz, if_pos hz]
      rfl
    · rw [if_neg hz, if_neg hz]
      cases qdvJ a.toInt64 b.toInt64 <;> rfl
  · refine (((if_neg (by decide)).trans ((if_neg (by decide)).trans ((if_neg (by decide)).trans ((if_neg (by decide)).trans ((if_neg (by decide)).trans ((if_neg (by decide)).trans (if_pos (by decide))))))))).trans (Eq.trans ?_ (((if_neg (by decide)).trans ((if_neg (by decide)).trans ((if_neg (by decide)).trans ((if_neg (by decide)).trans (if_pos (by decide))))))).symm)
    simp only [lg_cmp_eq, t64_eq]
  · refine (((if_neg (by decide)).trans ((if_neg (by decide)).trans ((if_neg (by decide)).trans ((if_neg (by decide)).trans ((if_neg (by decide)).trans (if_pos (by decide)))))))).trans (Eq.trans ?_ (((if_neg (by decide)).trans ((if_neg (by decide)).trans ((if_neg (by decide)).trans ((if_neg (by decide)).trans ((if_neg (by decide)).trans (if_pos (by decide)))))))).symm)
    simp only [lg_cmp_ge, t64_le]
  · refine (((if_neg (by decide)).trans ((if_neg (by decide)).trans ((if_neg (by decide)).trans ((if_neg (by decide)).trans ((if_neg (by decide)).trans ((if_neg (by decide)).trans ((if_neg (by decide)).trans (if_pos (by decide)))))))))).trans (Eq.trans ?_ (((if_neg (by decide)).trans ((if_neg (by decide)).trans ((if_neg (by decide)).trans ((if_neg (by decide)).trans ((if_neg (by decide)).trans ((if_neg (by decide)).trans (if_pos (by decide))))))))).symm)
    simp only [lg_cmp_le, t64_le]
  · refine ((if_pos (by decide))).trans (Eq.trans ?_ (((if_neg (by decide)).trans ((if_neg (by decide)).trans ((if_neg (by decide)).trans ((if_neg (by decide)).trans ((if_neg (by decide)).trans ((if_neg (by decide)).trans ((if_neg (by decide)).trans (if_pos (by decide)))))))))).symm)
    obtain ⟨ha, hb'⟩ := hb (by omega)
    simp only [lg_cmp_eq, t64_0]
    clear hb
    rcases ha with rfl | rfl <;> rcases hb' with rfl | rfl <;> decide
  · refine (((if_neg (by decide)).trans ((if_neg (by decide)).trans ((if_neg (by decide)).trans ((if_neg (by decide)).trans ((if_neg (by decide)).trans ((if_neg (by decide)).trans ((if_neg (by decide)).trans (if_neg (by decide)))))))))).trans (Eq.trans ?_ (((if_neg (by decide)).trans ((if_neg (by decide)).trans ((if_neg (by decide)).trans ((if_neg (by decide)).trans ((if_neg (by decide)).trans ((if_neg (by decide)).trans ((if_neg (by decide)).trans (if_neg (by decide)))))))))).symm)
    obtain ⟨ha, hb'⟩ := hb (by omega)
    simp only [lg_cmp_eq, t64_0]
    clear hb
    rcases ha with rfl | rfl <;> rcases hb' with rfl | rfl <;> decide
theorem jop_bl {o : Nat} (h1 : 6 ≤ o) (h2 : o < 12) (a b : Int32) : jop o a b = 0 ∨ jop o a b = 1 := by
  have hb2 : ∀ z : Bool, b2i z = 0 ∨ b2i z = 1 := by decide
  have : o = 6 ∨ o = 7 ∨ o = 8 ∨ o = 9 ∨ o = 10 ∨ o = 11 := by omega
  unfold jop jMd_worked
  simp only [qlt]
  rcases this with rfl | rfl | rfl | rfl | rfl | rfl
  · rw [if_neg (by decide), if_neg (by decide), if_neg (by decide), if_neg (by decide), if_pos (by decide)]; exact hb2 _
  · rw [if_neg (by decide), if_neg (by decide), if_neg (by decide), if_neg (by decide), if_neg (by decide), if_pos (by decide)]; exact hb2 _
  · rw [if_neg (by decide), if_neg (by decide), if_neg (by decide), if_neg (by decide), if_neg (by decide), if_neg (by decide), if_pos (by decide)]; exact hb2 _
  · rw [if_neg (by decide), if_neg (by decide), if_neg (by decide), if_neg (by decide), if_neg (by decide), if_neg (by decide), if_neg (by decide), if_neg (by decide)]; exact hb2 _
  · rw [if_neg (by decide), if_neg (by decide), if_neg (by decide), if_neg (by decide), if_neg (by decide), if_neg (by decide), if_neg (by decide), if_pos (by decide)]; exact hb2 _
  · rw [if_neg (by decide), if_neg (by decide), if_neg (by decide), if_neg (by decide), if_neg (by decide), if_neg (by decide), if_neg (by decide), if_neg (by decide)]; exact hb2 _
/-! a step over a pile of numbers, the top first -/
noncomputable def rstep (lt : Nat → Int32) (x : Nat × Nat) (stk : List Int32) : Option (List Int32) :=
  if x.1 = 0 then (if stk.length < 60 then some (nI x.2 :: stk) else none)
  else if x.1 = 1 then (if stk.length < 60 ∧ x.2 < 8 then some (lt x.2 :: stk) else none)
  else if x.1 = 9 then (match stk with
    | a :: r => some ((1 - a) :: r)
    | [] => none)
  else match stk with
    | b :: a :: r => if x.1 < 12 ∧ (10 ≤ x.1 → (a = 0 ∨ a = 1) ∧ (b = 0 ∨ b = 1)) then some (jop x.1 a b :: r) else none
    | _ => none
noncomputable def runL (lt : Nat → Int32) : List (Nat × Nat) → List Int32 → Option (List Int32)
  | [], stk => some stk
  | x :: L, stk => (rstep lt x stk).bind (runL lt L)
theorem runL_app (lt : Nat → Int32) (L1 L2 : List (Nat × Nat)) (stk : List Int32) : runL lt (L1 ++ L2) stk = (runL lt L1 stk).bind (runL lt L2) := by
  induction L1 generalizing stk with
  | nil => rfl
  | cons x L ih =>
    show (rstep lt x stk).bind (runL lt (L ++ L2)) = ((rstep lt x stk).bind (runL lt L)).bind (runL lt L2)
    cases rstep lt x stk with
    | none => rfl
    | some s => exact ih s
def cdC (M : qM) (k : Nat) : Nat → List (Nat × Nat) → Prop
  | _, [] => True
  | s, x :: L => M.1 (k + 1) s = nI (opC x.1) ∧ M.1 (k + 2) s = nI x.2 ∧ x.2 < 10000 ∧ cdC M k (s + 1) L
def cdM (M : qM) (n : Nat) : Nat → List (Nat × Nat) → Prop
  | _, [] => True
  | s, x :: L => M.1 93 (340 * n + s) = nI x.1 ∧ M.1 94 (340 * n + s) = nI x.2 ∧ x.2 < 10000 ∧ cdM M n (s + 1) L
theorem cdC_app {M : qM} {k : Nat} {s : Nat} {L1 L2 : List (Nat × Nat)} : cdC M k s (L1 ++ L2) ↔ cdC M k s L1 ∧ cdC M k (s + L1.length) L2 := by
  induction L1 generalizing s with
  | nil => simp [cdC]
  | cons x L ih =>
    show _ ∧ _ ∧ _ ∧ cdC M k (s + 1) (L ++ L2) ↔ (_ ∧ _ ∧ _ ∧ cdC M k (s + 1) L) ∧ _
    rw [ih, show s + (x :: L).length = s + 1 + L.length by simp only [List.length_cons]; omega]
    constructor
    · rintro ⟨a, b, c, d, e⟩; exact ⟨⟨a, b, c, d⟩, e⟩
    · rintro ⟨⟨a, b, c, d⟩, e⟩; exact ⟨a, b, c, d, e⟩
theorem cdM_app {M : qM} {k : Nat} {s : Nat} {L1 L2 : List (Nat × Nat)} : cdM M k s (L1 ++ L2) ↔ cdM M k s L1 ∧ cdM M k (s + L1.length) L2 := by
  induction L1 generalizing s with
  | nil => simp [cdM]
  | cons x L ih =>
    show _ ∧ _ ∧ _ ∧ cdM M k (s + 1) (L ++ L2) ↔ (_ ∧ _ ∧ _ ∧ cdM M k (s + 1) L) ∧ _
    rw [ih, show s + (x :: L).length = s + 1 + L.length by simp only [List.length_cons]; omega]
    constructor
    · rintro ⟨a, b, c, d, e⟩; exact ⟨⟨a, b, c, d⟩, e⟩
    · rintro ⟨⟨a, b, c, d⟩, e⟩; exact ⟨a, b, c, d, e⟩
theorem cdC_fr {M M1 : qM} {k s : Nat} {L : List (Nat × Nat)} (h : cdC M k s L) (g : ∀ j, s ≤ j → j < s + L.length → M1.1 (k + 1) j = M.1 (k + 1) j ∧ M1.1 (k + 2) j = M.1 (k + 2) j) : cdC M1 k s L := by
  induction L generalizing s with
  | nil => trivial
  | cons x L ih =>
    obtain ⟨a, b, c, d⟩ := h
    have g0 := g s (Nat.le_refl _) (by simp)
    exact ⟨by rw [g0.1]; exact a, by rw [g0.2]; exact b, c, ih d (fun j h1 h2 => g j (by omega) (by simp only [List.length_cons]; omega))⟩
theorem cdM_fr {M M1 : qM} {n s : Nat} {L : List (Nat × Nat)} (h : cdM M n s L) (g : ∀ j, s ≤ j → j < s + L.length → M1.1 93 (340 * n + j) = M.1 93 (340 * n + j) ∧ M1.1 94 (340 * n + j) = M.1 94 (340 * n + j)) : cdM M1 n s L := by
  induction L generalizing s with
  | nil => trivial
  | cons x L ih =>
    obtain ⟨a, b, c, d⟩ := h
    have g0 := g s (Nat.le_refl _) (by simp)
    exact ⟨by rw [g0.1]; exact a, by rw [g0.2]; exact b, c, ih d (fun j h1 h2 => g j (by omega) (by simp only [List.length_cons]; omega))⟩
def pk (M : qM) (b : Nat) : List Int32 → Prop
  | [] => True
  | x :: r => M.1 b r.length = x ∧ pk M b r
theorem pk_fr {M M1 : qM} {b : Nat} {stk : List Int32} (h : pk M b stk) (g : ∀ j, j < stk.length → M1.1 b j = M.1 b j) : pk M1 b stk := by
  induction stk with
  | nil => trivial
  | cons x r ih => exact ⟨by rw [g r.length (by simp)]; exact h.1, ih h.2 (fun j hj => g j (by simp only [List.length_cons]; omega))⟩
theorem pk_up {M : qM} {b : Nat} {r : List Int32} {x : Int32} (h : pk M b r) : pk (qI M b r.length x) b (x :: r) :=
  ⟨by rw [qI_1, if_pos ⟨rfl, rfl⟩], pk_fr h (fun j hj => by rw [qI_1, if_neg (by omega)])⟩
noncomputable def vIb (k : Nat) : (Int32 × Int32 × qM) → Option ((Int32 × Int32 × qM) ⊕ (qM ⊕ (qM ⊕ ((Int32 × qM) ⊕ qM)))) :=
    fun q => qu3 q fun x1 x2 M3 =>
    if (M3.1 k 2 : Int32) ≤ (x2 : Int32) then
      some (.inr (.inr (.inr (.inr M3))))
    else
      (qrI M3 (k + 1) 160 x2).bind fun v11 =>
      (qrI M3 (k + 2) 160 x2).bind fun v12 =>
      if (v11 : Int32) = (48 : Int32) then
        if (64 : Int32) ≤ (x1 : Int32) then
          some (.inr (.inl M3))
        else
          if (v11 : Int32) = (97 : Int32) then
            if (b2i (jTc_isOf v12 8) : Int32) = (0 : Int32) then
              some (.inr (.inl M3))
            else
              ((
                if (v11 : Int32) = (48 : Int32) then
                  some v12
                else
                  (qrI M3 10 8 v12).bind fun v22 =>
                  some v22) : Option Int32).bind fun x18 =>
              (qwI M3 11 64 x1 x18).bind fun M19 =>
              qlt (x1 + 1 : Int32) fun x20 =>
              qlt (x2 + 1 : Int32) fun x21 =>
              some (.inl (x20, x21, M19))
          else
            ((
              if (v11 : Int32) = (48 : Int32) then
                some v12
              else
                (qrI M3 10 8 v12).bind fun v17 =>
                some v17) : Option Int32).bind fun x13 =>
            (qwI M3 11 64 x1 x13).bind fun M14 =>
            qlt (x1 + 1 : Int32) fun x15 =>
            qlt (x2 + 1 : Int32) fun x16 =>
            some (.inl (x15, x16, M14))
      else
        if (v11 : Int32) = (97 : Int32) then
          if (64 : Int32) ≤ (x1 : Int32) then
            some (.inr (.inl M3))
          else
            if (v11 : Int32) = (97 : Int32) then
              if (b2i (jTc_isOf v12 8) : Int32) = (0 : Int32) then
                some (.inr (.inl M3))
              else
                ((
                  if (v11 : Int32) = (48 : Int32) then
                    some v12
                  else
                    (qrI M3 10 8 v12).bind fun v47 =>
                    some v47) : Option Int32).bind fun x43 =>
                (qwI M3 11 64 x1 x43).bind fun M44 =>
                qlt (x1 + 1 : Int32) fun x45 =>
                qlt (x2 + 1 : Int32) fun x46 =>
                some (.inl (x45, x46, M44))
            else
              ((
                if (v11 : Int32) = (48 : Int32) then
                  some v12
                else
                  (qrI M3 10 8 v12).bind fun v42 =>
                  some v42) : Option Int32).bind fun x38 =>
              (qwI M3 11 64 x1 x38).bind fun M39 =>
              qlt (x1 + 1 : Int32) fun x40 =>
              qlt (x2 + 1 : Int32) fun x41 =>
              some (.inl (x40, x41, M39))
        else
          if (x1 : Int32) < (1 : Int32) then
            some (.inr (.inr (.inl M3)))
          else
            if (x1 : Int32) ≤ (64 : Int32) then
              if (v11 : Int32) = (59 : Int32) then
                some (.inr (.inr (.inr (.inl (x1, M3)))))
              else
                ((
                  if (v11 : Int32) = (33 : Int32) then
                    (qrI M3 11 64 (x1 - 1)).bind fun v36 =>
                    (qwI M3 11 64 (x1 - 1) (1 - v36)).bind fun M37 =>
                    some (x1, x2, M37)
                  else
                    if (v11 : Int32) = (63 : Int32) then
                      qlt (x1 + (-1) : Int32) fun x33 =>
                      (qrI M3 11 64 x33).bind fun v34 =>
                      qlt ((
                        if (v34 : Int32) = (0 : Int32) then
                          jmaxI x2 (v12 - 1)
                        else
                          x2) : Int32) fun x35 =>
                      some (x33, x35, M3)
                    else
                      if (x1 : Int32) < (2 : Int32) then
                        some (x1, x2, M3)
                      else
                        qlt (x1 + (-1) : Int32) fun x28 =>
                        (qrI M3 11 64 (x28 - 1)).bind fun v29 =>
                        (qrI M3 11 64 x28).bind fun v30 =>
                        (jWy_joined v11 v29 v30).bind fun r31 =>
                        (qwI M3 11 64 (x28 - 1) r31).bind fun M32 =>
                        some (x28, x2, M32)) : Option (Int32 × Int32 × qM)).bind fun w26 =>
                qu3 w26 fun x23 x24 M25 =>
                qlt (x24 + 1 : Int32) fun x27 =>
                some (.inl (x23, x27, M25))
            else
              some (.inr (.inr (.inl M3)))
noncomputable def wOb (p0 p2 : Int32) : (Int32 × Int32 × qM) → Option ((Int32 × Int32 × qM) ⊕ qM) :=
    fun q => qu3 q fun x2 x3 M4 =>
    if ((340 * p0) + p2 : Int32) ≤ (x3 : Int32) then
      some (.inr M4)
    else
      (qrI M4 93 2380 x3).bind fun v8 =>
      ((
        if (v8 : Int32) = (0 : Int32) then
          (qrI M4 93 2380 x3).bind fun v13 =>
          ((
            if (v13 : Int32) = (0 : Int32) then
              (qrI M4 94 2380 x3).bind fun v19 =>
              some v19
            else
              (qrI M4 94 2380 x3).bind fun v17 =>
              (qrI M4 100 8 v17).bind fun v18 =>
              some v18) : Option Int32).bind fun x14 =>
          (qwI M4 101 80 x2 x14).bind fun M15 =>
          qlt (x2 + 1 : Int32) fun x16 =>
          some (x16, M15)
        else
          (qrI M4 93 2380 x3).bind fun v20 =>
          if (v20 : Int32) = (1 : Int32) then
            (qrI M4 93 2380 x3).bind fun v30 =>
            ((
              if (v30 : Int32) = (0 : Int32) then
                (qrI M4 94 2380 x3).bind fun v36 =>
                some v36
              else
                (qrI M4 94 2380 x3).bind fun v34 =>
                (qrI M4 100 8 v34).bind fun v35 =>
                some v35) : Option Int32).bind fun x31 =>
            (qwI M4 101 80 x2 x31).bind fun M32 =>
            qlt (x2 + 1 : Int32) fun x33 =>
            some (x33, M32)
          else
            (qrI M4 93 2380 x3).bind fun v21 =>
            if (v21 : Int32) = (9 : Int32) then
              (qrI M4 101 80 (x2 - 1)).bind fun v28 =>
              (qwI M4 101 80 (x2 - 1) (1 - v28)).bind fun M29 =>
              some (x2, M29)
            else
              qlt (x2 + (-1) : Int32) fun x22 =>
              (qrI M4 93 2380 x3).bind fun v23 =>
              (qrI M4 101 80 (x22 - 1)).bind fun v24 =>
              (qrI M4 101 80 x22).bind fun v25 =>
              (jMd_worked v23 ((v24 : Int32).toInt64) ((v25 : Int32).toInt64)).bind fun r26 =>
              (qwI M4 101 80 (x22 - 1) r26).bind fun M27 =>
              some (x22, M27)) : Option (Int32 × qM)).bind fun w11 =>
      qu2 w11 fun x9 M10 =>
      qlt (x3 + 1 : Int32) fun x12 =>
      some (.inl (x9, x12, M10))
theorem opC_ne : ∀ o, o < 12 → 2 ≤ o → ¬ o = 9 → ¬ nI (opC o) = 48 ∧ ¬ nI (opC o) = 97 ∧ ¬ nI (opC o) = 59 ∧ ¬ nI (opC o) = 33 ∧ ¬ nI (opC o) = 63 := by
  intro o h1 h2 h9
  have : o = 2 ∨ o = 3 ∨ o = 4 ∨ o = 5 ∨ o = 6 ∨ o = 7 ∨ o = 8 ∨ o = 10 ∨ o = 11 := by omega
  rcases this with rfl | rfl | rfl | rfl | rfl | rfl | rfl | rfl | rfl <;> decide
theorem op_ne : ∀ o, o < 12 → 2 ≤ o → ¬ o = 9 → ¬ nI o = 0 ∧ ¬ nI o = 1 ∧ ¬ nI o = 9 := by
  intro o h1 h2 h9
  have : o = 2 ∨ o = 3 ∨ o = 4 ∨ o = 5 ∨ o = 6 ∨ o = 7 ∨ o = 8 ∨ o = 10 ∨ o = 11 := by omega
  rcases this with rfl | rfl | rfl | rfl | rfl | rfl | rfl | rfl | rfl <;> decide
theorem stepC {lt : Nat → Int32} {x : Nat × Nat} {stk stk1 : List Int32} {N : qM} {k at_ sz : Nat} (h : rstep lt x stk = some stk1) (hk : 12 ≤ k) (hl : ∀ j, j < 8 → N.1 10 j = lt j) (h1 : at_ < sz) (h2 : sz ≤ 160) (h3 : N.1 k 2 = nI sz) (h4 : N.1 (k + 1) at_ = nI (opC x.1)) (h5 : N.1 (k + 2) at_ = nI x.2) (h7 : pk N 11 stk) (h8 : stk.length ≤ 60) :
    wp (vIb k (nI stk.length, nI at_, N)) (fun o => ∃ N1, o = .inl (nI stk1.length, nI (at_ + 1), N1) ∧ pk N1 11 stk1 ∧ fr (fun b _ => b = 11) N N1 ∧ stk1.length ≤ 60) := by
  have d0 : ¬ N.1 k 2 ≤ nI at_ := by rw [h3]; exact nI_ge h1 (by omega)
  have q1 : qrI N (k + 1) 160 (nI at_) = some (nI (opC x.1)) := by rw [qrI_nI (by omega) (by omega), h4]
  have q2 : qrI N (k + 2) 160 (nI at_) = some (nI x.2) := by rw [qrI_nI (by omega) (by omega), h5]
  have e0 : nI at_ + 1 = nI (at_ + 1) := nI_1 at_
  unfold rstep at h
  by_cases c0 : x.1 = 0
  · rw [if_pos c0] at h
    rw [c0] at q1
    by_cases hs : stk.length < 60
    · rw [if_pos hs] at h
      cases h
      refine wp_in d0 (wp_be q1 (wp_be q2 ?_))
      refine wp_ip (by decide) (wp_in (nI_ge (b := 64) (by omega) (by omega)) (wp_in (by decide) ?_))
      refine wp_bd (wp_ip (by decide) (wp_some ?_))
      refine wp_bd (wp_wI rfl (show stk.length < 64 by omega) (by omega) ?_)
      refine wp_some ⟨qI N 11 stk.length (nI x.2), ?_, pk_up h7, fr_I rfl, by simp only [List.length_cons]; omega⟩
      rw [List.length_cons, ← nI_1, ← e0]
    · rw [if_neg hs] at h; cases h
  · rw [if_neg c0] at h
    by_cases c1 : x.1 = 1
    · rw [if_pos c1] at h
      rw [c1] at q1
      by_cases hs : stk.length < 60 ∧ x.2 < 8
      · rw [if_pos hs] at h
        cases h
        have hi8 : ¬ b2i (jTc_isOf (nI x.2) 8) = 0 := by rw [show jTc_isOf (nI x.2) 8 = true from isOf_mk (T := 8) hs.2 (by decide)]; decide
        have q3 : qrI N 10 8 (nI x.2) = some (lt x.2) := by rw [qrI_nI hs.2 (by omega), hl _ hs.2]
        refine wp_in d0 (wp_be q1 (wp_be q2 ?_))
        refine wp_in (by decide) (wp_ip (by decide) (wp_in (nI_ge (b := 64) (by omega) (by omega)) (wp_ip (by decide) (wp_in hi8 ?_))))
        refine wp_bd (wp_in (by decide) (wp_be q3 (wp_some ?_)))
        refine wp_bd (wp_wI rfl (show stk.length < 64 by omega) (by omega) ?_)
        refine wp_some ⟨qI N 11 stk.length (lt x.2), ?_, pk_up h7, fr_I rfl, by simp only [List.length_cons]; omega⟩
        rw [List.length_cons, ← nI_1, ← e0]
      · rw [if_neg hs] at h; cases h
    · rw [if_neg c1] at h
      by_cases c9 : x.1 = 9
      · rw [if_pos c9] at h
        rw [c9] at q1
        cases stk with
        | nil => cases h
        | cons a r =>
          cases h
          have hr : r.length ≤ 59 := by simp only [List.length_cons] at h8; omega
          have e1 : nI (r.length + 1) - 1 = nI r.length := nI_pred _
          have q3 : qrI N 11 64 (nI (r.length + 1) - 1) = some a := by rw [e1, qrI_nI (by omega) (by omega), h7.1]
          rw [List.length_cons]
          refine wp_in d0 (wp_be q1 (wp_be q2 ?_))
          refine wp_in (by decide) (wp_in (by decide) (wp_in (nI_nlt (b := 1) (by omega) (by omega)) (wp_ip (nI_le (b := 64) (by omega) (by omega)) (wp_in (by decide) ?_))))
          refine wp_bd (wp_ip (by decide) (wp_be q3 (wp_bd (wp_wI e1 (show r.length < 64 by omega) (by omega) (wp_some ?_)))))
          refine wp_some ⟨qI N 11 r.length (1 - a), ?_, pk_up h7.2, fr_I rfl, by simp only [List.length_cons]; omega⟩
          rw [List.length_cons, ← e0]
      · rw [if_neg c9] at h
        match stk, h, h7, h8 with
        | [], h, _, _ => cases h
        | [_], h, _, _ => cases h
        | b :: a :: r, h, h7, h8 =>
          simp only at h
          by_cases hc : x.1 < 12 ∧ (10 ≤ x.1 → (a = 0 ∨ a = 1) ∧ (b = 0 ∨ b = 1))
          · rw [if_pos hc] at h
            cases h
            have hr : r.length ≤ 58 := by simp only [List.length_cons] at h8; omega
            have e1 : nI (r.length + 1 + 1) + (-1) = nI (r.length + 1) := by
              rw [show (-1 : Int32) = iI (-1) from rfl, nI_iI, nI_iI, iI_add]
              exact iI_congr (by omega)
            have e2 : nI (r.length + 1 + 1) + (-1) - 1 = nI r.length := by rw [e1]; exact nI_pred _
            obtain ⟨n1, n2, n3, n4, n5⟩ := opC_ne x.1 hc.1 (by omega) c9
            have k1 : N.1 11 r.length = a := h7.2.1
            have k2 : N.1 11 (r.length + 1) = b := h7.1
            have q3 : qrI N 11 64 (nI (r.length + 1 + 1) + (-1) - 1) = some a := by rw [e2, qrI_nI (by omega) (by omega), k1]
            have q4 : qrI N 11 64 (nI (r.length + 1 + 1) + (-1)) = some b := by rw [e1, qrI_nI (by omega) (by omega), k2]
            rw [List.length_cons, List.length_cons]
            refine wp_in d0 (wp_be q1 (wp_be q2 ?_))
            refine wp_in n1 (wp_in n2 (wp_in (nI_nlt (b := 1) (by omega) (by omega)) (wp_ip (nI_le (b := 64) (by omega) (by omega)) (wp_in n3 ?_))))
            refine wp_bd (wp_in n4 (wp_in n5 (wp_in (nI_nlt (b := 2) (by omega) (by omega)) ?_)))
            refine wp_lt ?_
            rintro _ rfl
            have q5 : jWy_joined (nI (opC x.1)) a b = some (jop x.1 a b) := joined_eq (by omega) hc.1 c9 hc.2
            refine wp_be q3 (wp_be q4 (wp_be q5 (wp_bd (wp_wI e2 (show r.length < 64 by omega) (by omega) (wp_some ?_)))))
            refine wp_some ⟨qI N 11 r.length (jop x.1 a b), ?_, pk_up h7.2.2, fr_I rfl, by simp only [List.length_cons]; omega⟩
            rw [List.length_cons, ← e0, ← e1]
          · rw [if_neg hc] at h; cases h
theorem stepM {lt : Nat → Int32} {x : Nat × Nat} {stk stk1 : List Int32} {N : qM} {n at_ en : Nat} (h : rstep lt x stk = some stk1) (hn : n < 7) (hl : ∀ j, j < 8 → N.1 100 j = lt j) (h1 : at_ < en) (h2 : en ≤ 340) (h4 : N.1 93 (340 * n + at_) = nI x.1) (h5 : N.1 94 (340 * n + at_) = nI x.2) (h7 : pk N 101 stk) (h8 : stk.length ≤ 60) :
    wp (wOb (nI n) (nI en) (nI stk.length, nI (340 * n + at_), N)) (fun o => ∃ N1, o = .inl (nI stk1.length, nI (340 * n + (at_ + 1)), N1) ∧ pk N1 101 stk1 ∧ fr (fun b _ => b = 101) N N1 ∧ stk1.length ≤ 60) := by
  have een : 340 * nI n + nI en = nI (340 * n + en) := by
    rw [show (340 : Int32) = nI 340 from rfl, nI_mul, nI_add]
  have d0 : ¬ 340 * nI n + nI en ≤ nI (340 * n + at_) := by rw [een]; exact nI_ge (by omega) (by omega)
  have q1 : qrI N 93 2380 (nI (340 * n + at_)) = some (nI x.1) := by rw [qrI_nI (by omega) (by omega), h4]
  have q2 : qrI N 94 2380 (nI (340 * n + at_)) = some (nI x.2) := by rw [qrI_nI (by omega) (by omega), h5]
  have e0 : nI (340 * n + at_) + 1 = nI (340 * n + (at_ + 1)) := by rw [nI_1, Nat.add_assoc]
  unfold rstep at h
  by_cases c0 : x.1 = 0
  · rw [if_pos c0] at h
    rw [c0] at q1
    by_cases hs : stk.length < 60
    · rw [if_pos hs] at h
      cases h
      refine wp_in d0 (wp_be q1 ?_)
      refine wp_bd (wp_ip (by decide) (wp_be q1 (wp_bd (wp_ip (by decide) (wp_be q2 (wp_some ?_))))))
      refine wp_bd (wp_wI rfl (show stk.length < 80 by omega) (by omega) (wp_some ?_))
      refine wp_some ⟨qI N 101 stk.length (nI x.2), ?_, pk_up h7, fr_I rfl, by simp only [List.length_cons]; omega⟩
      rw [List.length_cons, ← nI_1, ← e0]
    · rw [if_neg hs] at h; cases h
  · rw [if_neg c0] at h
    by_cases c1 : x.1 = 1
    · rw [if_pos c1] at h
      rw [c1] at q1
      by_cases hs : stk.length < 60 ∧ x.2 < 8
      · rw [if_pos hs] at h
        cases h
        have q3 : qrI N 100 8 (nI x.2) = some (lt x.2) := by rw [qrI_nI hs.2 (by omega), hl _ hs.2]
        refine wp_in d0 (wp_be q1 ?_)
        refine wp_bd (wp_in (by decide) (wp_be q1 (wp_ip (by decide) (wp_be q1 (wp_bd (wp_in (by decide) (wp_be q2 (wp_be q3 (wp_some ?_)))))))))
        refine wp_bd (wp_wI rfl (show stk.length < 80 by omega) (by omega) (wp_some ?_))
        refine wp_some ⟨qI N 101 stk.length (lt x.2), ?_, pk_up h7, fr_I rfl, by simp only [List.length_cons]; omega⟩
        rw [List.length_cons, ← nI_1, ← e0]
      · rw [if_neg hs] at h; cases h
    · rw [if_neg c1] at h
      by_cases c9 : x.1 = 9
      · rw [if_pos c9] at h
        rw [c9] at q1
        cases stk with
        | nil => cases h
        | cons a r =>
          cases h
          have hr : r.length ≤ 59 := by simp only [List.length_cons] at h8; omega
          have e1 : nI (r.length + 1) - 1 = nI r.length := nI_pred _
          have q3 : qrI N 101 80 (nI (r.length + 1) - 1) = some a := by rw [e1, qrI_nI (by omega) (by omega), h7.1]
          rw [List.length_cons]
          refine wp_in d0 (wp_be q1 ?_)
          refine wp_bd (wp_in (by decide) (wp_be q1 (wp_in (by decide) (wp_be q1 (wp_ip (by decide) (wp_be q3 (wp_bd (wp_wI e1 (show r.length < 80 by omega) (by omega) (wp_some ?_)))))))))
          refine wp_some ⟨qI N 101 r.length (1 - a), ?_, pk_up h7.2, fr_I rfl, by simp only [List.length_cons]; omega⟩
          rw [List.length_cons, ← e0]
      · rw [if_neg c9] at h
        match stk, h, h7, h8 with
        | [], h, _, _ => cases h
        | [_], h, _, _ => cases h
        | b :: a :: r, h, h7, h8 =>
          simp only at h
          by_cases hc : x.1 < 12 ∧ (10 ≤ x.1 → (a = 0 ∨ a = 1) ∧ (b = 0 ∨ b = 1))
          · rw [if_pos hc] at h
            cases h
            have hr : r.length ≤ 58 := by simp only [List.length_cons] at h8; omega
            have e1 : nI (r.length + 1 + 1) + (-1) = nI (r.length + 1) := by
              rw [show (-1 : Int32) = iI (-1) from rfl, nI_iI, nI_iI, iI_add]
              exact iI_congr (by omega)
            have e2 : nI (r.length + 1 + 1) + (-1) - 1 = nI r.length := by rw [e1]; exact nI_pred _
            obtain ⟨n1, n2, n3⟩ := op_ne x.1 hc.1 (by omega) c9
            have k1 : N.1 101 r.length = a := h7.2.1
            have k2 : N.1 101 (r.length + 1) = b := h7.1
            have q3 : qrI N 101 80 (nI (r.length + 1 + 1) + (-1) - 1) = some a := by rw [e2, qrI_nI (by omega) (by omega), k1]
            have q4 : qrI N 101 80 (nI (r.length + 1 + 1) + (-1)) = some b := by rw [e1, qrI_nI (by omega) (by omega), k2]
            rw [List.length_cons, List.length_cons]
            refine wp_in d0 (wp_be q1 ?_)
            refine wp_bd (wp_in n1 (wp_be q1 (wp_in n2 (wp_be q1 (wp_in n3 ?_)))))
            refine wp_be q1 (wp_be q3 (wp_be q4 (wp_be (worked_eq x.1 a b) (wp_bd (wp_wI e2 (show r.length < 80 by omega) (by omega) (wp_some ?_))))))
            refine wp_some ⟨qI N 101 r.length (jop x.1 a b), ?_, pk_up h7.2.2, fr_I rfl, by simp only [List.length_cons]; omega⟩
            rw [List.length_cons, ← e0, ← e1]
          · rw [if_neg hc] at h; cases h
/-! a stretch of steps -/
theorem segC {lt : Nat → Int32} {k sz : Nat} (hk : 12 ≤ k) (h2 : sz ≤ 160) : ∀ (L : List (Nat × Nat)) {stk stk' : List Int32} {N : qM} {at_ : Nat}, runL lt L stk = some stk' → (∀ j, j < 8 → N.1 10 j = lt j) → at_ + L.length ≤ sz → N.1 k 2 = nI sz → cdC N k at_ L → pk N 11 stk → stk.length ≤ 60 →
    ∃ N1, qlp (vIb k) (nI stk.length, nI at_, N) = qlp (vIb k) (nI stk'.length, nI (at_ + L.length), N1) ∧ pk N1 11 stk' ∧ fr (fun b _ => b = 11) N N1 ∧ stk'.length ≤ 60 := by
  intro L
  induction L with
  | nil =>
    intro stk stk' N at_ h _ _ _ _ hp hs
    cases h
    exact ⟨N, rfl, hp, fr_rf _ _, hs⟩
  | cons x L ih =>
    intro stk stk' N at_ h hl h1 h3 hc hp hs
    obtain ⟨s1, e1, e2⟩ : ∃ s1, rstep lt x stk = some s1 ∧ runL lt L s1 = some stk' := by
      cases hx : rstep lt x stk with
      | none => simp only [runL, hx] at h; cases h
      | some s1 => exact ⟨s1, rfl, by simp only [runL, hx] at h; exact h⟩
    simp only [List.length_cons] at h1
    obtain ⟨o, g1, N1, rfl, g2, g3, g4⟩ := stepC e1 hk hl (by omega) h2 h3 hc.1 hc.2.1 hp hs
    obtain ⟨N2, k1, k2, k3, k4⟩ := ih e2 (fun j hj => by rw [(g3 10 j (by simp)).1]; exact hl j hj) (show at_ + 1 + L.length ≤ sz by omega) (by rw [(g3 k 2 (by omega)).1]; exact h3) (cdC_fr hc.2.2.2 (fun j _ _ => ⟨(g3 (k + 1) j (by omega)).1, (g3 (k + 2) j (by omega)).1⟩)) g2 g4
    refine ⟨N2, ?_, k2, g3.tr k3, k4⟩
    rw [qlp_inl g1, k1, show at_ + 1 + L.length = at_ + (x :: L).length by simp only [List.length_cons]; omega]
theorem segM {lt : Nat → Int32} {n en : Nat} (hn : n < 7) (h2 : en ≤ 340) : ∀ (L : List (Nat × Nat)) {stk stk' : List Int32} {N : qM} {at_ : Nat}, runL lt L stk = some stk' → (∀ j, j < 8 → N.1 100 j = lt j) → at_ + L.length ≤ en → cdM N n at_ L → pk N 101 stk → stk.length ≤ 60 →
    ∃ N1, qlp (wOb (nI n) (nI en)) (nI stk.length, nI (340 * n + at_), N) = qlp (wOb (nI n) (nI en)) (nI stk'.length, nI (340 * n + (at_ + L.length)), N1) ∧ pk N1 101 stk' ∧ fr (fun b _ => b = 101) N N1 ∧ stk'.length ≤ 60 := by
  intro L
  induction L with
  | nil =>
    intro stk stk' N at_ h _ _ _ hp hs
    cases h
    exact ⟨N, rfl, hp, fr_rf _ _, hs⟩
  | cons x L ih =>
    intro stk stk' N at_ h hl h1 hc hp hs
    obtain ⟨s1, e1, e2⟩ : ∃ s1, rstep lt x stk = some s1 ∧ runL lt L s1 = some stk' := by
      cases hx : rstep lt x stk with
      | none => simp only [runL, hx] at h; cases h
      | some s1 => exact ⟨s1, rfl, by simp only [runL, hx] at h; exact h⟩
    simp only [List.length_cons] at h1
    obtain ⟨o, g1, N1, rfl, g2, g3, g4⟩ := stepM e1 hn hl (show at_ < en by omega) h2 hc.1 hc.2.1 hp hs
    obtain ⟨N2, k1, k2, k3, k4⟩ := ih e2 (fun j hj => by rw [(g3 100 j (by simp)).1]; exact hl j hj) (show at_ + 1 + L.length ≤ en by omega) (cdM_fr hc.2.2.2 (fun j _ _ => ⟨(g3 93 _ (by simp)).1, (g3 94 _ (by simp)).1⟩)) g2 g4
    refine ⟨N2, ?_, k2, g3.tr k3, k4⟩
    rw [qlp_inl g1, k1, show at_ + 1 + L.length = at_ + (x :: L).length by simp only [List.length_cons]; omega]
