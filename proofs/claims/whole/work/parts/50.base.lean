/-! ===== pure rows: numbers, memory ===== -/
theorem b2i_0 (b : Bool) : (b2i b = 0) = (b = false) := by cases b <;> simp [b2i]
theorem b2i_t : b2i true = 1 := rfl
theorem b2i_f : b2i false = 0 := rfl
theorem qI_1 (M : qM) (a i b j : Nat) (v : Int32) : (qI M a i v).1 b j = if b = a ∧ j = i then v else M.1 b j := rfl
theorem qI_2 (M : qM) (a i : Nat) (v : Int32) : (qI M a i v).2 = M.2 := rfl
theorem qJ_1 (M : qM) (a i : Nat) (v : Int64) : (qJ M a i v).1 = M.1 := rfl
theorem qJ_21 (M : qM) (a i b j : Nat) (v : Int64) : (qJ M a i v).2.1 b j = if b = a ∧ j = i then v else M.2.1 b j := rfl
theorem qJ_22 (M : qM) (a i : Nat) (v : Int64) : (qJ M a i v).2.2 = M.2.2 := rfl
theorem qR_1 (M : qM) (a i : Nat) (v : Option Nat) : (qR M a i v).1 = M.1 := rfl
theorem qR_21 (M : qM) (a i : Nat) (v : Option Nat) : (qR M a i v).2.1 = M.2.1 := rfl
theorem qR_22 (M : qM) (a i b j : Nat) (v : Option Nat) : (qR M a i v).2.2 b j = if b = a ∧ j = i then v else M.2.2 b j := rfl
theorem i_le {x y : Int32} : x ≤ y ↔ x.toInt ≤ y.toInt := Int32.le_iff_toInt_le
theorem i_lt {x y : Int32} : x < y ↔ x.toInt < y.toInt := Int32.lt_iff_toInt_lt
theorem i_eq {x y : Int32} : x = y ↔ x.toInt = y.toInt := Int32.toInt_inj.symm
theorem isOf_iff (a n : Int32) : jTc_isOf a n = true ↔ 0 ≤ a.toInt ∧ a.toInt < n.toInt := by
  unfold jTc_isOf qlt
  have h0 : (0 : Int32).toInt = 0 := rfl
  simp only [i_lt, i_le, h0]
  by_cases h : a.toInt < 0
  · simp [h]
    omega
  · by_cases h2 : n.toInt ≤ a.toInt
    · simp [h, h2] <;> omega
    · simp [h, h2] <;> omega
theorem in_iff (a l h : Int32) : jMd_in a l h = true ↔ l.toInt ≤ a.toInt ∧ a.toInt ≤ h.toInt := by
  unfold jMd_in qlt
  simp only [i_lt]
  by_cases h1 : a.toInt < l.toInt
  · simp [h1]
    omega
  · by_cases h2 : h.toInt < a.toInt
    · simp [h1, h2] <;> omega
    · simp [h1, h2] <;> omega
theorem isOf_in {a n l h : Int32} (hl : l.toInt = 0) (hn : n.toInt = h.toInt + 1) : jTc_isOf a n = jMd_in a l h := by
  rw [Bool.eq_iff_iff, isOf_iff, in_iff]
  omega
/-- a number in a row -/
theorem isOf_nI {a n : Int32} (h : jTc_isOf a n = true) : ∃ t : Nat, a = nI t ∧ (t : Int) < n.toInt ∧ t < 2 ^ 31 := by
  rw [isOf_iff] at h
  have hn : n.toInt < 2 ^ 31 := Int32.toInt_lt n
  refine ⟨a.toInt.toNat, ?_, by omega, by omega⟩
  rw [i_eq, nI_toInt (by omega)]
  omega
theorem qrI_nI {M : qM} {a n t : Nat} (h : t < n) (hn : n ≤ 2 ^ 31) : qrI M a n (nI t) = some (M.1 a t) := by
  unfold qrI
  rw [nI_clamp (by omega), if_neg]
  rintro (h1 | h1)
  · exact nI_pos (by omega) h1
  · omega
theorem qrJ_nI {M : qM} {a n t : Nat} (h : t < n) (hn : n ≤ 2 ^ 31) : qrJ M a n (nI t) = some (M.2.1 a t) := by
  unfold qrJ
  rw [nI_clamp (by omega), if_neg]
  rintro (h1 | h1)
  · exact nI_pos (by omega) h1
  · omega
theorem qwI_nI {M : qM} {a n t : Nat} {v : Int32} (h : t < n) (hn : n ≤ 2 ^ 31) : qwI M a n (nI t) v = some (qI M a t v) := by
  unfold qwI
  rw [nI_clamp (by omega), if_neg]
  rintro (h1 | h1)
  · exact nI_pos (by omega) h1
  · omega
theorem qwJ_nI {M : qM} {a n t : Nat} {v : Int64} (h : t < n) (hn : n ≤ 2 ^ 31) : qwJ M a n (nI t) v = some (qJ M a t v) := by
  unfold qwJ
  rw [nI_clamp (by omega), if_neg]
  rintro (h1 | h1)
  · exact nI_pos (by omega) h1
  · omega
theorem qix_nI {n t : Nat} (h : t < n) (hn : n ≤ 2 ^ 31) : qix n (nI t) = some t := by
  unfold qix
  rw [nI_clamp (by omega), if_neg]
  rintro (h1 | h1)
  · exact nI_pos (by omega) h1
  · omega
theorem qrT_nI {f : Nat → Int32} {n t : Nat} (h : t < n) (hn : n ≤ 2 ^ 31) : qrT f n (nI t) = some (f t) := by
  unfold qrT
  rw [nI_clamp (by omega), if_neg]
  rintro (h1 | h1)
  · exact nI_pos (by omega) h1
  · omega
/-! ===== what is outside: cells of the class are 0 .. 90, of the reference 91 .. 121 ===== -/
def fC (M M1 : qM) : Prop := ∀ b, 91 ≤ b → M1.1 b = M.1 b ∧ M1.2.1 b = M.2.1 b ∧ M1.2.2 b = M.2.2 b
def fM (M M1 : qM) : Prop := ∀ b, b < 91 → M1.1 b = M.1 b ∧ M1.2.1 b = M.2.1 b ∧ M1.2.2 b = M.2.2 b
theorem fC_rf (M : qM) : fC M M := fun _ _ => ⟨rfl, rfl, rfl⟩
theorem fM_rf (M : qM) : fM M M := fun _ _ => ⟨rfl, rfl, rfl⟩
theorem fC.tr {M M1 M2 : qM} (h : fC M M1) (h2 : fC M1 M2) : fC M M2 := fun b hb => ⟨(h2 b hb).1.trans (h b hb).1, (h2 b hb).2.1.trans (h b hb).2.1, (h2 b hb).2.2.trans (h b hb).2.2⟩
theorem fM.tr {M M1 M2 : qM} (h : fM M M1) (h2 : fM M1 M2) : fM M M2 := fun b hb => ⟨(h2 b hb).1.trans (h b hb).1, (h2 b hb).2.1.trans (h b hb).2.1, (h2 b hb).2.2.trans (h b hb).2.2⟩
theorem fC_I {M : qM} {a i : Nat} {v : Int32} (h : a < 91) : fC M (qI M a i v) := fun _ hb => ⟨qI_off (by omega), rfl, rfl⟩
theorem fC_J {M : qM} {a i : Nat} {v : Int64} (h : a < 91) : fC M (qJ M a i v) := fun _ hb => ⟨rfl, qJ_off (by omega), rfl⟩
theorem fC_R {M : qM} {a i : Nat} {v : Option Nat} (h : a < 91) : fC M (qR M a i v) := fun _ hb => ⟨rfl, rfl, qR_off (by omega)⟩
theorem fM_I {M : qM} {a i : Nat} {v : Int32} (h : 91 ≤ a) : fM M (qI M a i v) := fun _ hb => ⟨qI_off (by omega), rfl, rfl⟩
theorem fM_J {M : qM} {a i : Nat} {v : Int64} (h : 91 ≤ a) : fM M (qJ M a i v) := fun _ hb => ⟨rfl, qJ_off (by omega), rfl⟩
/-! ===== the simplest promises ===== -/
/-- between, and which way a sort has -/
def rB (M : qM) : Prop := M.1 0 12 = M.1 91 57
def rY (M : qM) : Prop := ∀ j, j < 6 → M.1 8 j = M.1 107 j
theorem p_between {M : qM} (h : rB M) (v : Int32) : ∃ r M1 M2, jTc_between v M = (r, M1) ∧ jMd_between v M1 = (r, M2) ∧ rB M2 ∧ fC M M1 ∧ fM M1 M2 := by
  have e : jTc_isOf v 10 = jMd_in v 0 9 := isOf_in rfl rfl
  unfold jTc_between jMd_between
  simp only [b2i_0, e, qlt]
  cases hz : jMd_in v 0 9 with
  | false => exact ⟨false, M, M, by simp, by simp, h, fC_rf M, fM_rf M⟩
  | true => exact ⟨true, qI M 0 12 v, qI (qI M 0 12 v) 91 57 v, by simp, by simp, by simp [rB, qI_1], fC_I (by decide), fM_I (by decide)⟩
theorem p_wayOf {M : qM} (h : rY M) (a : Int32) : ∃ r, jTc_wayOf a M = some r ∧ jMd_wayOf a M = some r := by
  have e : jTc_isOf a 6 = jMd_in a 0 5 := isOf_in rfl rfl
  unfold jTc_wayOf jMd_wayOf
  simp only [b2i_0, e]
  cases hz : jMd_in a 0 5 with
  | false => exact ⟨-1, by simp, by simp⟩
  | true =>
    rw [← e] at hz
    obtain ⟨t, rfl, ht, -⟩ := isOf_nI hz
    have ht : t < 6 := by have h6 : (6 : Int32).toInt = 6 := rfl; omega
    refine ⟨M.1 8 t, ?_, ?_⟩
    · simp [qrI_nI ht]
    · simp [qrI_nI ht, h t ht]
theorem p_way {M : qM} (h : rY M) (a w : Int32) : ∃ r M1 M2, jTc_way a w M = some (r, M1) ∧ jMd_way a w M1 = some (r, M2) ∧ rY M2 ∧ fC M M1 ∧ fM M1 M2 := by
  have e : jTc_isOf a 6 = jMd_in a 0 5 := isOf_in rfl rfl
  have e2 : jTc_isOf w 6 = jMd_in w 0 5 := isOf_in rfl rfl
  unfold jTc_way jMd_way
  simp only [b2i_0, e, e2]
  cases hz : jMd_in a 0 5 with
  | false => exact ⟨false, M, M, by simp, by simp, h, fC_rf M, fM_rf M⟩
  | true =>
    cases hw : jMd_in w 0 5 with
    | false => exact ⟨false, M, M, by simp, by simp, h, fC_rf M, fM_rf M⟩
    | true =>
      rw [← e] at hz
      obtain ⟨t, rfl, ht, -⟩ := isOf_nI hz
      have ht : t < 6 := by have h6 : (6 : Int32).toInt = 6 := rfl; omega
      refine ⟨true, qI M 8 t w, qI (qI M 8 t w) 107 t w, by simp [qwI_nI ht], by simp [qwI_nI ht], ?_, fC_I (by decide), fM_I (by decide)⟩
      intro j hj
      simp only [qI_1]
      by_cases hjt : j = t
      · simp [hjt]
      · simp [hjt, h j hj]
