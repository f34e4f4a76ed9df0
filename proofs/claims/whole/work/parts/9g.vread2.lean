/-! ===== the items of a thing or a sort ===== -/
def iLo (z : Bool) (w : Nat) : Nat := cond z ([1, 1, 0, 0].getD w 0) ([1, 0, 0, 0].getD w 0)
def iHi (z : Bool) (w : Nat) : Nat := cond z ([9, 3, 999, 99].getD w 0) ([9, 9, 99, 1].getD w 0)
def iUs (z : Bool) (w : Nat) : Nat := cond z ([3, 1, 100, 0].getD w 0) ([1, 1, 0, 1].getD w 0)
def kT (z : Bool) : Nat := cond z 0 1
def kL (z : Bool) : Nat := cond z 2 4
def kH (z : Bool) : Nat := cond z 3 5
theorem w4 {w : Nat} (h : w < 4) : w = 0 ∨ w = 1 ∨ w = 2 ∨ w = 3 := by omega
theorem sv_lo (z : Bool) {w : Nat} (h : w < 4) : q_sv (kL z) w = nI (iLo z w) ∧ jMd_lowest z (nI w) = nI (iLo z w) := by
  cases z <;> rcases w4 h with rfl | rfl | rfl | rfl <;> decide
theorem sv_hi (z : Bool) {w : Nat} (h : w < 4) : q_sv (kH z) w = nI (iHi z w) ∧ jMd_highest z (nI w) = nI (iHi z w) := by
  cases z <;> rcases w4 h with rfl | rfl | rfl | rfl <;> decide
theorem sv_us (z : Bool) {w : Nat} (h : w < 4) : q_sv (cond z 0 1) w = nI (iUs z w) ∧ jMd_usual z (nI w) = nI (iUs z w) := by
  cases z <;> rcases w4 h with rfl | rfl | rfl | rfl <;> decide
theorem us_b (z : Bool) {w : Nat} (h : w < 4) : iLo z w ≤ iUs z w ∧ iUs z w ≤ iHi z w ∧ iHi z w ≤ 999 := by
  cases z <;> rcases w4 h with rfl | rfl | rfl | rfl <;> decide
theorem num_ami (z : Bool) (c : Int32) : jMd_numberOf z c = ami (kT z) c := by
  unfold jMd_numberOf ami
  by_cases h : c = -1
  · subst h; cases z <;> decide
  · rw [if_neg h]
    cases z with
    | true =>
      rw [if_neg tt0]
      show _ = fnd (q_tB 0) c 4 0
      simp only [qlt, fnd, show q_tB 0 0 = 110 from rfl, show q_tB 0 1 = 112 from rfl, show q_tB 0 2 = 119 from rfl, show q_tB 0 3 = 102 from rfl, eq_comm (b := c)]
      rfl
    | false =>
      rw [if_pos ff0]
      show _ = fnd (q_tB 1) c 4 0
      simp only [qlt, fnd, show q_tB 1 0 = 109 from rfl, show q_tB 1 1 = 100 from rfl, show q_tB 1 2 = 99 from rfl, show q_tB 1 3 = 107 from rfl, eq_comm (b := c)]
      rfl
theorem ami_bT (z : Bool) (c : Int32) : ami (kT z) c = -1 ∨ ∃ i, i < 4 ∧ ami (kT z) c = nI i := by
  rw [← num_ami]
  unfold jMd_numberOf
  simp only [qlt]
  cases z with
  | true =>
    rw [if_neg tt0]
    by_cases h0 : c = 110
    · exact .inr ⟨0, by omega, if_pos h0⟩
    · rw [if_neg h0]
      by_cases h1 : c = 112
      · exact .inr ⟨1, by omega, if_pos h1⟩
      · rw [if_neg h1]
        by_cases h2 : c = 119
        · exact .inr ⟨2, by omega, if_pos h2⟩
        · rw [if_neg h2]
          by_cases h3 : c = 102
          · exact .inr ⟨3, by omega, if_pos h3⟩
          · exact .inl (if_neg h3)
  | false =>
    rw [if_pos ff0]
    by_cases h0 : c = 109
    · exact .inr ⟨0, by omega, if_pos h0⟩
    · rw [if_neg h0]
      by_cases h1 : c = 100
      · exact .inr ⟨1, by omega, if_pos h1⟩
      · rw [if_neg h1]
        by_cases h2 : c = 99
        · exact .inr ⟨2, by omega, if_pos h2⟩
        · rw [if_neg h2]
          by_cases h3 : c = 107
          · exact .inr ⟨3, by omega, if_pos h3⟩
          · exact .inl (if_neg h3)
theorem ami_59 (z : Bool) : ami (kT z) 59 = -1 := by
  rw [← num_ami]
  cases z <;> decide
theorem ami_m1 (z : Bool) : ami (kT z) (-1) = -1 := by
  rw [← num_ami]
  cases z <;> decide
def pcn (m : Nat) : Nat := m % 2 + m / 2 % 2 + m / 4 % 2 + m / 8 % 2
theorem pcn_le (m : Nat) : pcn m ≤ 4 := by
  unfold pcn
  omega
theorem msk {m i : Nat} (hm : m < 16) (hi : i < 4) : ((nI m >>> (nI i &&& 31)) &&& 1 = 0 ∧ jMd_has (nI m) (nI i) = false ∧ ∃ m', m' < 16 ∧ pcn m' = pcn m + 1 ∧ nI m ||| (1 <<< (nI i &&& 31)) = nI m') ∨ (¬ (nI m >>> (nI i &&& 31)) &&& 1 = 0 ∧ jMd_has (nI m) (nI i) = true) := by
  have key : ∀ m : Fin 16, ∀ i : Fin 4, ((nI m.1 >>> (nI i.1 &&& 31)) &&& 1 = 0 ∧ (¬ (nI m.1 >>> (nI i.1 &&& 31)) &&& 1 = 1) ∧ pcn (m.1 ||| 2 ^ i.1) = pcn m.1 + 1 ∧ (m.1 ||| 2 ^ i.1) < 16 ∧ nI m.1 ||| (1 <<< (nI i.1 &&& 31)) = nI (m.1 ||| 2 ^ i.1)) ∨ (¬ (nI m.1 >>> (nI i.1 &&& 31)) &&& 1 = 0 ∧ (nI m.1 >>> (nI i.1 &&& 31)) &&& 1 = 1) := by decide +kernel
  rcases key ⟨m, hm⟩ ⟨i, hi⟩ with ⟨h1, h2, h3, h4, h5⟩ | ⟨h1, h2⟩
  · refine .inl ⟨h1, ?_, m ||| 2 ^ i, h4, h3, h5⟩
    unfold jMd_has qlt
    exact if_neg h2
  · refine .inr ⟨h1, ?_⟩
    unfold jMd_has qlt
    exact if_pos h2
noncomputable def itB (p0 : Nat) (p1 : Nat) (p2 : Nat) (p3 : Nat) (p4 : Int32) : (Int32 × Int32 × qM) → Option ((Int32 × Int32 × qM) ⊕ (qM ⊕ (qM ⊕ (qM ⊕ (qM ⊕ qM))))) :=
    fun q => qu3 q fun x1 x2 M3 =>
    if (4 : Int32) < (x2 : Int32) then
      some (.inr (.inr (.inr (.inr (.inr M3)))))
    else
      (jTp_peekAmong p0 M3).bind fun w16 =>
      qu2 w16 fun r17 M18 =>
      if (r17 : Int32) < (0 : Int32) then
        some (.inr (.inl M18))
      else
        if (r17 : Int32) < (4 : Int32) then
          if ((x1 >>> (r17 &&& 31)) &&& 1 : Int32) = (0 : Int32) then
            qlt (x1 ||| (1 <<< (r17 &&& 31)) : Int32) fun x19 =>
            qlt (qI M18 1 2 ((M18.1 1 2) + 1)) fun M20 =>
            (jTp_takeNumber 3 M20).bind fun w21 =>
            qu2 w21 fun r22 M23 =>
            if (r22 : Int32) = ((-1) : Int32) then
              some (.inr (.inr (.inr (.inl M23))))
            else
              (qrT (q_sv p1) 4 r17).bind fun v24 =>
              if (r22 : Int32) < (v24 : Int32) then
                some (.inr (.inr (.inr (.inr (.inl M23)))))
              else
                (qrT (q_sv p2) 4 r17).bind fun v25 =>
                if (r22 : Int32) ≤ (v25 : Int32) then
                  (qwI M23 p3 (q_al p3) (p4 + r17) r22).bind fun M26 =>
                  qlt (x2 + 1 : Int32) fun x27 =>
                  some (.inl (x19, x27, M26))
                else
                  some (.inr (.inr (.inr (.inr (.inl M23)))))
          else
            some (.inr (.inr (.inl M18)))
        else
          some (.inr (.inl M18))
noncomputable def itF (r9 : qM ⊕ (qM ⊕ (qM ⊕ (qM ⊕ qM)))) : Option (Bool × qM) :=
  qse r9 (fun M4 =>
    some (true, M4)) (fun r9 =>
    qse r9 (fun M5 =>
      qlt (jTp_fail (M5.1 1 2) M5) fun w10 =>
      qu2 w10 fun r11 M12 =>
      some (r11, M12)) (fun r9 =>
      qse r9 (fun M6 =>
        some (false, M6)) (fun r9 =>
        qse r9 (fun M7 =>
          qlt (jTp_fail ((M7.1 1 2) - 1) M7) fun w13 =>
          qu2 w13 fun r14 M15 =>
          some (r14, M15)) (fun M8 =>
          some (true, M8)))))
theorem items_eC (p0 p1 p2 p3 : Nat) (p4 : Int32) (M : qM) : jVr_readItems p0 p1 p2 p3 p4 M = (qlp (itB p0 p1 p2 p3 p4) (0, 0, M)).bind itF := rfl
noncomputable def inM (z4 : Bool) (a8 : Nat) (x9 : Int32) : (Int32 × qM) → Option ((Int32 × qM) ⊕ qM) :=
      fun q => qu2 q fun x14 M15 =>
      if (M15.1 91 4 : Int32) = ((-1) : Int32) then
        (jMd_look M15).bind fun w34 =>
        qu2 w34 fun r35 M36 =>
        if ((jMd_numberOf z4 r35) : Int32) = ((-1) : Int32) then
          some (.inr M36)
        else
          (jMd_here M36).bind fun r37 =>
          if (b2i (jMd_has x14 (jMd_numberOf z4 r37)) : Int32) = (0 : Int32) then
            (jMd_here M36).bind fun r38 =>
            qlt ((jMd_numberOf z4 r38) : Int32) fun x39 =>
            qlt (x14 ||| (1 <<< (x39 &&& 31)) : Int32) fun x40 =>
            qlt (qI M36 91 3 ((M36.1 91 3) + 1)) fun M41 =>
            (jMd_number (jMd_lowest z4 x39) (jMd_highest z4 x39) M41).bind fun w42 =>
            qu2 w42 fun r43 M44 =>
            (qwI M44 a8 (q_al a8) (x9 + x39) r43).bind fun M45 =>
            some (.inl (x40, M45))
          else
            some (.inr M36)
      else
        some (.inr M15)
def iC (A X b j : Nat) : Prop := aC b j ∨ (b = A ∧ X ≤ j ∧ j < X + 4)
def iM (A Y b j : Nat) : Prop := aM b j ∨ (b = A ∧ Y ≤ j ∧ j < Y + 4)
theorem iC_a {A X : Nat} {M M1 : qM} (h : fr aC M M1) : fr (iC A X) M M1 := h.mono (fun _ _ hb => .inl hb)
theorem iM_a {A X : Nat} {M M1 : qM} (h : fr aM M M1) : fr (iM A X) M M1 := h.mono (fun _ _ hb => .inl hb)
def ITs (z : Bool) (A X B Y : Nat) (it : Nat → Nat) (M N : qM) : Prop := ∀ w, w < 4 → M.1 A (X + w) = nI (it w) ∧ N.1 B (Y + w) = nI (it w) ∧ iLo z w ≤ it w ∧ it w ≤ iHi z w
def IP (z : Bool) (τ : tT) (A X B Y a : Nat) (M N : qM) (o : Bool × qM) (N' : qM) : Prop :=
  fr (iC A X) M o.2 ∧ fr (iM B Y) N N' ∧
  ((o.1 = true ∧ ∃ a' it, a ≤ a' ∧ tC o.2 τ a' ∧ tM N' τ a' ∧ sk τ a' = a' ∧ ITs z A X B Y it o.2 N') ∨
   (o.1 = false ∧ ∃ w, dC o.2 τ 0 w ∧ eM N' τ w) ∨
   (o.1 = false ∧ ∃ a', a' ≤ τ.1 ∧ dC o.2 τ 0 a' ∧ tM N' τ a' ∧ sk τ a' = a' ∧ ¬ cb τ a' = -1 ∧ ¬ cb τ a' = 59))
theorem ITs_fr {z : Bool} {A X B Y : Nat} {it : Nat → Nat} {M N M1 N1 : qM} {S T : Nat → Nat → Prop} (h : ITs z A X B Y it M N) (g1 : fr S M M1) (g2 : fr T N N1) (h1 : ∀ j, ¬ S A j) (h2 : ∀ j, ¬ T B j) : ITs z A X B Y it M1 N1 := by
  intro w hw
  obtain ⟨a, b, c⟩ := h w hw
  exact ⟨by rw [(g1 A _ (h1 _)).1]; exact a, by rw [(g2 B _ (h2 _)).1]; exact b, c⟩
theorem items_rd {z : Bool} {τ : tT} {A X B Y : Nat} (hT : tOK τ) (hA : 12 ≤ A) (hA2 : X + 4 ≤ q_al A) (hA3 : q_al A ≤ 1000) (hB : 102 ≤ B) (hB2 : Y + 4 ≤ q_al B) (hB3 : q_al B ≤ 1000) : ∀ m {a mk : Nat} {it : Nat → Nat} {M N : qM}, τ.1 - a < m → mk < 16 → tC M τ a → tM N τ a → ITs z A X B Y it M N →
    w2 ((qlp (itB (kT z) (kL z) (kH z) A (nI X)) (nI mk, nI (pcn mk), M)).bind itF) (qlp (inM z B (nI Y)) (nI mk, N)) (IP z τ A X B Y a M N) := by
  intro m
  induction m with
  | zero => intro a mk it M N h; omega
  | succ m ih =>
    intro a mk it M N hm hmk hC hM hI
    have h160 := hC.1.2.1
    have hal := hC.2.2
    have hsk := sk_le hal
    have hpc := pcn_le mk
    have hg : ¬ (4 : Int32) < nI (pcn mk) := by rw [show (4 : Int32) = nI 4 from rfl, nI_ltI (by omega) (by omega)]; omega
    have hkt : kT z < 3 := by cases z <;> decide
    obtain ⟨M18, e1, c1, c2⟩ := amongT hkt hT hC
    obtain ⟨N36, e2, m1, m2⟩ := lookT hal hM
    have hss := sk_sk (τ := τ) _ a (Nat.le_refl _) hal
    have hI2 : ITs z A X B Y it M18 N36 := ITs_fr hI c2 m2 (by rintro j ⟨h, _⟩; omega) (by rintro j ⟨h, _⟩; omega)
    rcases ami_bT z (cb τ (sk τ a)) with hi | ⟨i, hi4, hi⟩
    · have eC : itB (kT z) (kL z) (kH z) A (nI X) (nI mk, nI (pcn mk), M) = some (.inr (.inl M18)) := by
        show (if (4 : Int32) < nI (pcn mk) then _ else _) = _
        rw [if_neg hg, e1, Option.bind_some, hi]
        rfl
      have eM' : inM z B (nI Y) (nI mk, N) = some (.inr N36) := by
        show (if (N.1 91 4 : Int32) = ((-1) : Int32) then _ else _) = _
        rw [if_pos hM.2.2, e2, Option.bind_some]
        exact if_pos (by rw [num_ami]; exact hi)
      rw [qlp_inr eC, qlp_inr eM', Option.bind_some]
      exact ⟨(true, M18), N36, rfl, rfl, iC_a (at_aC c2), iM_a (at_aM m2), .inl ⟨rfl, sk τ a, it, hsk.1, c1, m1, hss, hI2⟩⟩
    · have hne : ¬ cb τ (sk τ a) = -1 := by
        intro e
        rw [e, ami_m1] at hi
        exact nI_m1 (show i < 2147483648 by omega) hi.symm
      have hn59 : ¬ cb τ (sk τ a) = 59 := by
        intro e
        rw [e, ami_59] at hi
        exact nI_m1 (show i < 2147483648 by omega) hi.symm
      have hlt := cb_lt hne
      have hg0 : ¬ nI i < 0 := by rw [show (0 : Int32) = nI 0 from rfl, nI_ltI (by omega) (by omega)]; omega
      have hg4 : nI i < 4 := nI_lt (b := 4) hi4 (by omega)
      have hhere := here_eq m1.1 m1.2.1 hsk.2
      have hnum : jMd_numberOf z (cb τ (sk τ a)) = nI i := by rw [num_ami]; exact hi
      rcases msk hmk hi4 with ⟨b1, b2, mk', b3, b4, b5⟩ | ⟨b1, b2⟩
      · obtain ⟨i1, i2⟩ := incT c1 hlt
        obtain ⟨j1, j2⟩ := incTM m1
        obtain ⟨⟨r22, M23⟩, e3, t1, t2, t3, t4⟩ := takeNumberT i1
        have hb := us_b z hi4
        obtain ⟨⟨r43, N44⟩, e4, u1, u2, u3, u4, u5⟩ := numberT (lo := iLo z i) (hi := iHi z i) (a := sk τ a + 1) (by omega) (by omega) (by omega) j1
        have t1 : fr aC (qI M18 1 2 (M18.1 1 2 + 1)) M23 := t1
        have u1 : fr aM (qI N36 91 3 (N36.1 91 3 + 1)) N44 := u1
        have fC1 : fr (iC A X) M M23 := iC_a (((at_aC c2).tr (at_aC i2)).tr t1)
        have fM1 : fr (iM B Y) N N44 := iM_a (((at_aM m2).tr (at_aM j2)).tr u1)
        have hwM : qwI N44 B (q_al B) (nI Y + nI i) r43 = some (qI N44 B (Y + i) r43) := by rw [nI_add]; exact qwI_nI (by omega) (by omega)
        have gW : fr (iM B Y) N44 (qI N44 B (Y + i) r43) := fr_I (.inr ⟨rfl, by omega, by omega⟩)
        have eM1 : inM z B (nI Y) (nI mk, N) = some (.inl (nI mk', qI N44 B (Y + i) r43)) := by
          show (if (N.1 91 4 : Int32) = ((-1) : Int32) then _ else _) = _
          rw [if_pos hM.2.2, e2, Option.bind_some]
          refine (if_neg (by rw [hnum]; exact nI_m1 (by omega))).trans ?_
          show (jMd_here N36).bind _ = _
          rw [hhere, Option.bind_some]
          show (if b2i (jMd_has (nI mk) (jMd_numberOf z (cb τ (sk τ a)))) = 0 then _ else _) = _
          rw [hnum, b2, if_pos ff0, Option.bind_some, hnum]
          show ((jMd_number (jMd_lowest z (nI i)) (jMd_highest z (nI i)) (qI N36 91 3 (N36.1 91 3 + 1))).bind _) = _
          rw [(sv_lo z hi4).2, (sv_hi z hi4).2, e4, Option.bind_some]
          show ((qwI N44 B (q_al B) (nI Y + nI i) r43).bind _) = _
          rw [hwM, Option.bind_some, b5]
        have eC0 : itB (kT z) (kL z) (kH z) A (nI X) (nI mk, nI (pcn mk), M) = (if (r22 : Int32) = ((-1) : Int32) then
              some (.inr (.inr (.inr (.inl M23))))
            else
              (qrT (q_sv (kL z)) 4 (nI i)).bind fun v24 =>
              if (r22 : Int32) < (v24 : Int32) then
                some (.inr (.inr (.inr (.inr (.inl M23)))))
              else
                (qrT (q_sv (kH z)) 4 (nI i)).bind fun v25 =>
                if (r22 : Int32) ≤ (v25 : Int32) then
                  (qwI M23 A (q_al A) (nI X + nI i) r22).bind fun M26 =>
                  qlt (nI (pcn mk) + 1 : Int32) fun x27 =>
                  some (.inl (nI mk', x27, M26))
                else
                  some (.inr (.inr (.inr (.inr (.inl M23)))))) := by
          show (if (4 : Int32) < nI (pcn mk) then _ else _) = _
          rw [if_neg hg, e1, Option.bind_some, hi]
          refine (if_neg hg0).trans ((if_pos hg4).trans ((if_pos b1).trans ?_))
          show ((jTp_takeNumber 3 (qI M18 1 2 (M18.1 1 2 + 1))).bind _) = _
          rw [e3, Option.bind_some, ← b5]
          rfl
        rw [qrT_nI hi4 (by decide), (sv_lo z hi4).1, Option.bind_some, qrT_nI hi4 (by decide), (sv_hi z hi4).1, Option.bind_some] at eC0
        have eM2 : ∀ w, eM N44 τ w → qlp (inM z B (nI Y)) (nI mk, N) = some (qI N44 B (Y + i) r43) ∧ eM (qI N44 B (Y + i) r43) τ w := by
          intro w hw
          have hw2 : eM (qI N44 B (Y + i) r43) τ w := eM_fr (S := fun b _ => b = B) hw (fr_I rfl) (by omega) (by omega) (by omega) (by intro j h; omega)
          refine ⟨?_, hw2⟩
          rw [qlp_inl eM1]
          exact qlp_inr (if_neg (eM_w hw2))
        have sk3 := sk_le (τ := τ) (a := sk τ a + 1) (by omega)
        cases hd : jTp_isDigit (cb τ (sk τ (sk τ a + 1))) with
        | false =>
          obtain ⟨y1, y2⟩ := t2 hd
          have y1 : r22 = -1 := y1
          obtain ⟨v1, v2⟩ := eM2 _ (u2 hd)
          rw [if_pos y1] at eC0
          rw [qlp_inr eC0, v1, Option.bind_some]
          exact ⟨(false, M23), _, rfl, rfl, fC1, fM1.tr gW, .inr (.inl ⟨rfl, _, y2, v2⟩)⟩
        | true =>
          have hne3 := nE_gt (p := 3) hd (by omega)
          have hv := nV3_lt τ (sk τ (sk τ a + 1))
          cases hd2 : jTp_isDigit (cb τ (nE τ 3 (sk τ (sk τ a + 1)))) with
          | true =>
            obtain ⟨y1, y2⟩ := t3 hd hd2
            have y1 : r22 = -1 := y1
            obtain ⟨v1, v2⟩ := eM2 _ (u3 hd hd2)
            rw [if_pos y1] at eC0
            rw [qlp_inr eC0, v1, Option.bind_some]
            exact ⟨(false, M23), _, rfl, rfl, fC1, fM1.tr gW, .inr (.inl ⟨rfl, _, y2, v2⟩)⟩
          | false =>
            obtain ⟨y1, y2⟩ := t4 hd hd2
            have y1 : r22 = nI (nV τ 3 (sk τ (sk τ a + 1))) := y1
            have y2 : tC M23 τ (nE τ 3 (sk τ (sk τ a + 1))) := y2
            subst y1
            rw [if_neg (nI_m1 (by omega))] at eC0
            have hex : ¬ (iLo z i ≤ nV τ 3 (sk τ (sk τ a + 1)) ∧ nV τ 3 (sk τ (sk τ a + 1)) ≤ iHi z i) → itB (kT z) (kL z) (kH z) A (nI X) (nI mk, nI (pcn mk), M) = some (.inr (.inr (.inr (.inr (.inl M23))))) := by
              intro hr
              rw [eC0]
              by_cases h1 : nV τ 3 (sk τ (sk τ a + 1)) < iLo z i
              · exact if_pos (nI_lt h1 (by omega))
              · rw [if_neg (by rw [nI_ltI (by omega) (by omega)]; exact h1), if_neg (by rw [nI_leI (by omega) (by omega)]; omega)]
            by_cases hr : iLo z i ≤ nV τ 3 (sk τ (sk τ a + 1)) ∧ nV τ 3 (sk τ (sk τ a + 1)) ≤ iHi z i
            · obtain ⟨z1, z2⟩ := u4 hd hd2 hr
              have z1 : r43 = nI (nV τ 3 (sk τ (sk τ a + 1))) := z1
              have z2 : tM N44 τ (nE τ 3 (sk τ (sk τ a + 1))) := z2
              subst z1
              have hwC : qwI M23 A (q_al A) (nI X + nI i) (nI (nV τ 3 (sk τ (sk τ a + 1)))) = some (qI M23 A (X + i) (nI (nV τ 3 (sk τ (sk τ a + 1))))) := by rw [nI_add]; exact qwI_nI (by omega) (by omega)
              rw [if_neg (by rw [nI_ltI (by omega) (by omega)]; omega), if_pos (nI_le hr.2 (by omega)), hwC, Option.bind_some] at eC0
              have eC1 : itB (kT z) (kL z) (kH z) A (nI X) (nI mk, nI (pcn mk), M) = some (.inl (nI mk', nI (pcn mk'), qI M23 A (X + i) (nI (nV τ 3 (sk τ (sk τ a + 1)))))) := by
                rw [eC0, b4, ← nI_1]
                rfl
              rw [qlp_inl eC1, qlp_inl eM1]
              have gWC : fr (iC A X) M23 (qI M23 A (X + i) (nI (nV τ 3 (sk τ (sk τ a + 1))))) := fr_I (.inr ⟨rfl, by omega, by omega⟩)
              have sC' : tC (qI M23 A (X + i) (nI (nV τ 3 (sk τ (sk τ a + 1))))) τ (nE τ 3 (sk τ (sk τ a + 1))) := tC_fr (S := fun b _ => b = A) y2 (fr_I rfl) (by omega) (by omega) (by intro j h; omega)
              have sM' : tM (qI N44 B (Y + i) (nI (nV τ 3 (sk τ (sk τ a + 1))))) τ (nE τ 3 (sk τ (sk τ a + 1))) := tM_fr (S := fun b _ => b = B) z2 (fr_I rfl) (by omega) (by omega) (by omega) (by intro j h; omega)
              have hI3 : ITs z A X B Y (fun w => if w = i then nV τ 3 (sk τ (sk τ a + 1)) else it w) (qI M23 A (X + i) (nI (nV τ 3 (sk τ (sk τ a + 1))))) (qI N44 B (Y + i) (nI (nV τ 3 (sk τ (sk τ a + 1))))) := by
                have hI4 : ITs z A X B Y it M23 N44 := ITs_fr hI2 ((at_aC i2).tr t1) ((at_aM j2).tr u1) (by rintro j ⟨h, _⟩; omega) (by rintro j ⟨h, _⟩; omega)
                intro w hw
                obtain ⟨g1, g2, g3⟩ := hI4 w hw
                rw [qI_1, qI_1]
                by_cases hwi : w = i
                · subst hwi
                  simp only [and_self, if_true]
                  exact ⟨trivial, trivial, hr⟩
                · rw [if_neg (by omega), if_neg (by omega)]
                  simp only [if_neg hwi]
                  exact ⟨g1, g2, g3⟩
              obtain ⟨x1, y1, k1, k2, k3, k4, k5⟩ := ih (by omega) b3 sC' sM' hI3
              refine ⟨x1, y1, k1, k2, (fC1.tr gWC).tr k3, (fM1.tr gW).tr k4, ?_⟩
              rcases k5 with ⟨k6, a', it', k7, k8⟩ | k5 | k5
              · exact .inl ⟨k6, a', it', by omega, k8⟩
              · exact .inr (.inl k5)
              · exact .inr (.inr k5)
            · obtain ⟨v1, v2⟩ := eM2 _ (u5 hd hd2 hr)
              rw [qlp_inr (hex hr), v1, Option.bind_some]
              obtain ⟨f1, f2⟩ := failT y2 (w := nE τ 3 (sk τ (sk τ a + 1)) - 1) (by omega)
              have ef : itF (.inr (.inr (.inr (.inl M23)))) = some (false, qI M23 1 3 (nI (nE τ 3 (sk τ (sk τ a + 1)) - 1))) := by
                show some ((jTp_fail (M23.1 1 2 - 1) M23).1, (jTp_fail (M23.1 1 2 - 1) M23).2) = _
                rw [y2.2.1, show (1 : Int32) = nI 1 from rfl, nI_subE (by omega)]
                rfl
              exact ⟨_, _, ef, rfl, fC1.tr (iC_a f2), fM1.tr gW, .inr (.inl ⟨rfl, _, f1, v2⟩)⟩
      · have eC : itB (kT z) (kL z) (kH z) A (nI X) (nI mk, nI (pcn mk), M) = some (.inr (.inr (.inl M18))) := by
          show (if (4 : Int32) < nI (pcn mk) then _ else _) = _
          rw [if_neg hg, e1, Option.bind_some, hi]
          exact (if_neg hg0).trans ((if_pos hg4).trans (if_neg b1))
        have eM' : inM z B (nI Y) (nI mk, N) = some (.inr N36) := by
          show (if (N.1 91 4 : Int32) = ((-1) : Int32) then _ else _) = _
          rw [if_pos hM.2.2, e2, Option.bind_some]
          refine (if_neg (by rw [hnum]; exact nI_m1 (by omega))).trans ?_
          show (jMd_here N36).bind _ = _
          rw [hhere, Option.bind_some]
          show (if b2i (jMd_has (nI mk) (jMd_numberOf z (cb τ (sk τ a)))) = 0 then _ else _) = _
          rw [hnum, b2, if_neg tt0]
        rw [qlp_inr eC, qlp_inr eM', Option.bind_some]
        obtain ⟨f1, f2⟩ := failT c1 (w := sk τ a) (by omega)
        have ef : itF (.inr (.inl M18)) = some (false, qI M18 1 3 (nI (sk τ a))) := by
          show some ((jTp_fail (M18.1 1 2) M18).1, (jTp_fail (M18.1 1 2) M18).2) = _
          rw [c1.2.1]
          rfl
        exact ⟨_, _, ef, rfl, iC_a ((at_aC c2).tr f2), iM_a (at_aM m2), .inr (.inr ⟨rfl, sk τ a, hsk.2, f1, m1, hss, hne, hn59⟩)⟩
