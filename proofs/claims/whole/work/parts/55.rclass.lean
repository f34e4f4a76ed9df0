-- needs 52 53 54
/-! ===== the row: the class's side ===== -/
theorem sJ_upd {M : qM} {a n i : Nat} {f : Nat → Int64} {v : Int64} (h : i < n) : qJ (sJ M a n f) a i v = sJ M a n (fun j => if j = i then v else f j) := by
  unfold sJ qJ
  congr 2
  funext b j
  simp only
  by_cases hb : b = a
  · by_cases hj : j = i
    · subst hj; simp [hb, h]
    · by_cases hl : j < n
      · simp [hb, hj, hl]
      · simp [hb, hj, hl]
  · simp [hb]
theorem sI_upd {M : qM} {a n i : Nat} {f : Nat → Int32} {v : Int32} (h : i < n) : qI (sI M a n f) a i v = sI M a n (fun j => if j = i then v else f j) := by
  unfold sI qI
  congr 1
  funext b j
  simp only
  by_cases hb : b = a
  · by_cases hj : j = i
    · subst hj; simp [hb, h]
    · by_cases hl : j < n
      · simp [hb, hj, hl]
      · simp [hb, hj, hl]
  · simp [hb]
theorem sJ_off {M : qM} {a n x : Nat} {f : Nat → Int64} (h : ¬ x = a) : (sJ M a n f).2.1 x = M.2.1 x := by
  funext j
  simp [sJ, h]
theorem sI_off {M : qM} {a n x : Nat} {f : Nat → Int32} (h : ¬ x = a) : (sI M a n f).1 x = M.1 x := by
  funext j
  simp [sI, h]
theorem sJ_1 {M : qM} {a n : Nat} {f : Nat → Int64} : (sJ M a n f).1 = M.1 := rfl
theorem sJ_2 {M : qM} {a n : Nat} {f : Nat → Int64} : (sJ M a n f).2.2 = M.2.2 := rfl
def pab (a b : Nat) : Prop := a = 55 ∧ b = 56 ∨ a = 56 ∧ b = 55
theorem goOn_eq {M : qM} {a b : Nat} {p : Nat → Nat} {A c t m : Nat} (hpw : rPw M) (hab : pab a b) (h11 : M.2.2 49 11 = some a) (h12 : M.2.2 49 12 = some b) (hm : M.1 49 1 = nI m) (h1m : 1 ≤ m) (hmb : m < 100) (hA : A < 10) (hc : c < 11) (ht : t < 12) (hp : ∀ j, j < 10 → M.2.1 a j = lN (p j)) (hb : ∀ j, j < 10 → p j ≤ 1000000000) :
    jRo_goOn (nI A) (nI c) (nI t) M = some (qR (qR (qJ (qJ (sJ M b 10 (fun i => lN (nx p A c i))) 51 t (lN (tks p A c m))) 54 t (lN (shs p A c m))) 49 11 (some b)) 49 12 (some a)) := by
  have hne : ¬ a = b := by rcases hab with ⟨rfl, rfl⟩ | ⟨rfl, rfl⟩ <;> decide
  have hb57 : ¬ 57 = b := by rcases hab with ⟨rfl, rfl⟩ | ⟨rfl, rfl⟩ <;> decide
  have hal : q_al b = 10 := by rcases hab with ⟨rfl, rfl⟩ | ⟨rfl, rfl⟩ <;> decide
  have hN57 : ∀ f : Nat → Int64, rPw (sJ M b 10 f) := by
    intro f x hx e he
    rw [sJ_off hb57]
    exact hpw x hx e he
  unfold jRo_goOn
  rw [h12]
  simp only [Option.bind_some]
  rw [fillJ_eq b 0 M (by omega), hal]
  simp only [Option.bind_some]
  rw [qlp_for0 (s0 := ((0 : Int64), (0 : Int64), (0 : Int32), sJ M b 10 (fun _ => 0))) (fun J => (lN (sumN (tkr p A c m) J), lN (sumN (shr p A c m) J), nI J, sJ M b 10 (fun i => lN (acc p A c J 0 i)))) (lN (tks p A c m), lN (shs p A c m), sJ M b 10 (fun i => lN (nx p A c i))) (A + 1) rfl (fun J hJ => ?_) ?_]
  · simp only [Option.bind_some, qu3, qlt]
    rw [qwJ_nI ht (by decide)]
    simp only [Option.bind_some]
    rw [qwJ_nI ht (by decide)]
    simp only [Option.bind_some, qJ_22, sJ_2, h11, h12]
  · simp only [qu4]
    rw [if_pos (nI_lt (by omega) (by omega))]
    rfl
  · simp only [qu4, qlt]
    have e100 : (100 : Int32) = nI 100 := rfl
    rw [if_neg (nI_nlt (by omega) (by omega)), nI_subE (show J ≤ A by omega), e100, nI_add, qrJ_nI (by omega) (by decide)]
    have h10 : (sJ M b 10 (fun i => lN (acc p A c J 0 i))).2.1 57 (100 + (A - J)) = lN (10 ^ (A - J)) := hN57 _ 10 (by decide) (A - J) (by omega)
    rw [h10]
    simp only [Option.bind_some]
    have h9 := pow_le9 (A - J) (by omega)
    have h90 := pow_pos10 (A - J)
    by_cases hz : p J = 0
    · rw [qlp_inr (r := (lN (sumN (tkr p A c m) J), lN (sumN (shr p A c m) J), sJ M b 10 (fun i => lN (acc p A c J 0 i))))]
      · simp only [Option.bind_some, qu3, nI_1]
        have e1 : sumN (tkr p A c m) (J + 1) = sumN (tkr p A c m) J := by
          show sumN (tkr p A c m) J + tkr p A c m J = _
          rw [show tkr p A c m J = 0 from sumN_zero (fun k hk => by simp [mor_0 hz])]
          rfl
        have e2 : sumN (shr p A c m) (J + 1) = sumN (shr p A c m) J := by
          show sumN (shr p A c m) J + shr p A c m J = _
          rw [show shr p A c m J = 0 from sumN_zero (fun k hk => by simp [mor_0 hz])]
          rfl
        have e3 : (fun i => lN (acc p A c (J + 1) 0 i)) = (fun i => lN (acc p A c J 0 i)) := by
          funext i
          rw [← acc_J, acc_z p hz]
        rw [e1, e2, e3]
      · simp only [qu4]
        rw [if_neg (nI_pos (n := A - J) (by omega))]
        simp only [sJ_2, h11, Option.bind_some]
        rw [qrJ_nI (show J < 10 by omega) (by decide), sJ_off hne, hp J (by omega), hz]
        rfl
    · rw [qlp_for0 (s0 := (lN (sumN (tkr p A c m) J), lN (sumN (shr p A c m) J), (0 : Int32), sJ M b 10 (fun i => lN (acc p A c J 0 i)))) (fun K => (lN (sumN (tkr p A c m) J + sumN (fun k => if J < m ∧ m ≤ J + k then mor p A c J k else 0) K), lN (sumN (shr p A c m) J + sumN (fun k => if J < m ∧ m ≤ J + k + 1 then mor p A c J k / (k + 1) else 0) K), nI K, sJ M b 10 (fun i => lN (acc p A c J K i)))) (lN (sumN (tkr p A c m) (J + 1)), lN (sumN (shr p A c m) (J + 1)), sJ M b 10 (fun i => lN (acc p A c (J + 1) 0 i))) (A - J + 1) rfl (fun K hK => ?_) ?_]
      · simp only [Option.bind_some, qu3, nI_1]
      · simp only [qu4]
        rw [if_pos (nI_lt (by omega) (by omega))]
        have e3 : (fun i => lN (acc p A c (J + 1) 0 i)) = (fun i => lN (acc p A c J (A - J + 1) i)) := by
          funext i
          rw [← acc_J]
        rw [e3]
        rfl
      · simp only [qu4, qlt]
        rw [if_neg (nI_nlt (by omega) (by omega))]
        simp only [sJ_2, h11, h12, Option.bind_some]
        rw [qrJ_nI (show J < 10 by omega) (by decide), sJ_off hne, hp J (by omega)]
        simp only [Option.bind_some]
        have hpJ := hb J (by omega)
        have c1 : ¬ lg_cmp (lN (p J)) 0 ≤ 0 := by
          rw [lg_cmp_le, ← lN_0, lN_le' (by omega) (by omega)]
          omega
        have c2 : ¬ lg_cmp (lN (10 ^ (A - J))) 0 ≤ 0 := by
          rw [lg_cmp_le, ← lN_0, lN_le' (by omega) (by omega)]
          omega
        rw [if_neg c1, if_neg c2, jRo_weight_eq (hN57 _) (by omega) (by omega) hc]
        simp only [Option.bind_some]
        have hmb2 := mor_b (p := p) (a := A) (c := c) (j := J) (k := K) hA hc (by omega) hpJ
        have hdv : qdvJ (lN (p J) * lN (wt (A - J) K c)) (lN (10 ^ (A - J))) = some (lN (mor p A c J K)) := by
          rw [lN_mul]
          exact lN_div hmb2.1 (by omega) (pow_pos10 _)
        rw [hdv]
        simp only [Option.bind_some]
        rw [nI_add, qrJ_nI (show J + K < 10 by omega) (by decide), sJ_at (show J + K < 10 by omega)]
        simp only [Option.bind_some]
        rw [qwJ_nI (show J + K < 10 by omega) (by decide), sJ_upd (show J + K < 10 by omega)]
        simp only [Option.bind_some, sJ_1, hm]
        have e1 : (1 : Int32) = nI 1 := rfl
        have c3 : (nI m ≤ nI J) = (m ≤ J) := propext (nI_leI (by omega) (by omega))
        have c4 : (nI (J + K) < nI m) = (J + K < m) := propext (nI_ltI (by omega) (by omega))
        have c5 : (nI (J + K) < nI m - 1) = (J + K < m - 1) := by rw [e1, nI_subE h1m]; exact propext (nI_ltI (by omega) (by omega))
        simp only [c3, c4, c5]
        have hx : ((fun j => if j = J + K then lN (acc p A c J K (J + K)) + lN (mor p A c J K) else lN (acc p A c J K j)) : Nat → Int64) = (fun i => lN (acc p A c J (K + 1) i)) := by
          funext i
          rw [acc_S]
          by_cases hi : i = J + K
          · subst hi
            rw [if_pos rfl, if_pos rfl, lN_add]
          · rw [if_neg hi, if_neg (fun e => hi e.symm), Nat.add_zero]
        rw [hx, nI_1]
        have hd2 : qdvJ (lN (mor p A c J K)) (nI (K + 1)).toInt64 = some (lN (mor p A c J K / (K + 1))) := by
          rw [nI_l (by omega)]
          exact lN_div (by omega) (by omega) (by omega)
        rw [hd2]
        by_cases q1 : m ≤ J
        · simp [q1, show ¬ J < m by omega, sumN, ← lN_add, lN_0]
        · by_cases q2 : J + K < m - 1
          · simp [q1, q2, show J < m by omega, show J + K < m by omega, show ¬ m ≤ J + K by omega, show ¬ m ≤ J + K + 1 by omega, sumN, ← lN_add, lN_0]
          · by_cases q3 : J + K < m
            · simp [q1, q2, q3, show J < m by omega, show ¬ m ≤ J + K by omega, show m ≤ J + K + 1 by omega, sumN, ← lN_add, lN_0, Int64.add_assoc]
            · simp [q1, q2, q3, show J < m by omega, show m ≤ J + K by omega, show m ≤ J + K + 1 by omega, sumN, ← lN_add, lN_0, Int64.add_assoc]
