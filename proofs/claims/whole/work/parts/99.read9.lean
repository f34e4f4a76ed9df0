/-! ===== conditions ===== -/
def WB (D : Nat) (L : List (Nat × Nat)) : Prop := ∀ lt stk, stk.length + D ≤ 60 → ∃ v, (v = 0 ∨ v = 1) ∧ runL lt L stk = some (v :: stk)
theorem WB.up {D D' : Nat} {L : List (Nat × Nat)} (h : WB D L) (hd : D ≤ D') : WB D' L := fun lt stk g => h lt stk (by omega)
theorem WB_cmp {D D' o : Nat} {L1 L2 : List (Nat × Nat)} (h1 : WS D L1) (h2 : WS D L2) (hd : D + 1 ≤ D') (ho : 6 ≤ o) (ho2 : o < 9) : WB D' (L1 ++ L2 ++ [(o, 0)]) := by
  intro lt stk h
  obtain ⟨v, e1⟩ := h1 lt stk (by omega)
  obtain ⟨w, e2⟩ := h2 lt (v :: stk) (by simp only [List.length_cons]; omega)
  refine ⟨jop o v w, jop_bl ho (by omega) v w, ?_⟩
  rw [runL_app, runL_app, e1]
  simp only [Option.bind_some]
  rw [e2]
  simp only [Option.bind_some]
  show (rstep lt (o, 0) _).bind _ = _
  unfold rstep
  rw [if_neg (by show ¬ o = 0; omega), if_neg (by show ¬ o = 1; omega), if_neg (by show ¬ o = 9; omega)]
  simp only
  rw [if_pos ⟨by omega, fun hx => by omega⟩]
  rfl
theorem WB_op {D D' o : Nat} {L1 L2 : List (Nat × Nat)} (h1 : WB D' L1) (h2 : WB D L2) (hd : D + 1 ≤ D') (ho : 10 ≤ o) (ho2 : o < 12) : WB D' (L1 ++ L2 ++ [(o, 0)]) := by
  intro lt stk h
  obtain ⟨v, v1, e1⟩ := h1 lt stk (by omega)
  obtain ⟨w, w1, e2⟩ := h2 lt (v :: stk) (by simp only [List.length_cons]; omega)
  refine ⟨jop o v w, jop_bl (by omega) (by omega) v w, ?_⟩
  rw [runL_app, runL_app, e1]
  simp only [Option.bind_some]
  rw [e2]
  simp only [Option.bind_some]
  show (rstep lt (o, 0) _).bind _ = _
  unfold rstep
  rw [if_neg (by show ¬ o = 0; omega), if_neg (by show ¬ o = 1; omega), if_neg (by show ¬ o = 9; omega)]
  simp only
  rw [if_pos ⟨by omega, fun hx => ⟨v1, w1⟩⟩]
  rfl
theorem WB_not {D : Nat} {L : List (Nat × Nat)} (h1 : WB D L) : WB D (L ++ [(9, 0)]) := by
  intro lt stk h
  obtain ⟨v, v1, e1⟩ := h1 lt stk (by omega)
  refine ⟨1 - v, by rcases v1 with rfl | rfl <;> decide, ?_⟩
  rw [runL_app, e1]
  simp only [Option.bind_some]
  show (rstep lt (9, 0) _).bind _ = _
  unfold rstep
  rw [if_neg (by decide), if_neg (by decide), if_pos rfl]
  rfl
theorem w2_bM {α β γ : Type} {p : Option α} {q : Option γ} {l : γ → Option β} {Q : α → β → Prop} (h : w2 p q (fun x y => wp (l y) (Q x))) : w2 p (q.bind l) Q := by
  obtain ⟨x, y, rfl, rfl, z, e, h⟩ := h
  exact ⟨x, z, rfl, e, h⟩
theorem sign_eq (x : Int32) : jWr_isComparison x = jMd_isSign x := rfl
theorem sign_o {x : Int32} (h : jMd_isSign x = true) : ∃ o, 6 ≤ o ∧ o < 9 ∧ x = nI (opC o) ∧ ((if x = 61 then 6 else if x = 60 then 7 else 8) : Int32) = nI o ∧ ¬ x = -1 := by
  unfold jMd_isSign qlt at h
  by_cases h1 : x = 61
  · subst h1; exact ⟨6, by omega, by omega, by decide, by decide, by decide⟩
  · by_cases h2 : x = 60
    · subst h2; exact ⟨7, by omega, by omega, by decide, by decide, by decide⟩
    · by_cases h3 : x = 62
      · subst h3; exact ⟨8, by omega, by omega, by decide, by decide, by decide⟩
      · rw [if_neg h1, if_neg h2, if_neg h3] at h; cases h
/-- what a live state is -/
def AL (τ : tT) (k n a b s c d : Nat) (W : List (Nat × Nat) → Prop) (MC MM M N : qM) (a' : Nat) (L : List (Nat × Nat)) : Prop :=
  fr (rsC k s) MC M ∧ fr (rsM n c) MM N ∧ a + L.length ≤ a' ∧ b < a' ∧ scC M τ k a' (s + L.length) ∧ scM N τ n a' (c + L.length) d ∧ cdC M k s L ∧ cdM N n c L ∧ W L
theorem PB_cs {τ : tT} {k n a b s c d B : Nat} {W : List (Nat × Nat) → Prop} {MC MM M N : qM} {z : Bool} (h : PB τ k n a b s c d B W MC MM (z, M) N) : (z = true ∧ ∃ a' L, AL τ k n a b s c d W MC MM M N a' L) ∨ (z = false ∧ fr (rsC k s) MC M ∧ fr (rsM n c) MM N ∧ ∃ w, dC M τ k w ∧ dM N τ n w c B) := by
  obtain ⟨h1, h2, h3⟩ := h
  rcases h3 with ⟨z1, a', L, l1, l2, l3, l4, l5, l6, l7⟩ | ⟨z1, w, w1, w2'⟩
  · exact .inl ⟨z1, a', L, h1, h2, l1, l2, l3, l4, l5, l6, l7⟩
  · exact .inr ⟨z1, h1, h2, w, w1, w2'⟩
theorem AL_PB {τ : tT} {k n a b s c d B a' : Nat} {L : List (Nat × Nat)} {W : List (Nat × Nat) → Prop} {MC MM M N : qM} (h : AL τ k n a b s c d W MC MM M N a' L) : PB τ k n a b s c d B W MC MM (true, M) N := by
  obtain ⟨h1, h2, l1, l2, l3, l4, l5, l6, l7⟩ := h
  exact ⟨h1, h2, .inl ⟨rfl, a', L, l1, l2, l3, l4, l5, l6, l7⟩⟩
/-- both look at the next sign -/
theorem AL_C {τ : tT} {k n a b s c d a' : Nat} {L : List (Nat × Nat)} {W : List (Nat × Nat) → Prop} {MC MM M N : qM} (hk : 12 ≤ k) (h : AL τ k n a b s c d W MC MM M N a' L) : ∃ M1 N1, jTp_peek M = some (cb τ (sk τ a'), M1) ∧ jMd_look N = some (cb τ (sk τ a'), N1) ∧ AL τ k n a b s c d W MC MM M1 N1 (sk τ a') L := by
  obtain ⟨h1, h2, l1, l2, l3, l4, l5, l6, l7⟩ := h
  have hal := l3.2.2.1
  have hsk := sk_le hal
  obtain ⟨⟨r, M1⟩, e, p1, p2, p3⟩ := peek_st hk l3
  obtain ⟨⟨r', N1⟩, e', q1, q2, q3⟩ := look_st l4 hal
  have p1' : r = cb τ (sk τ a') := p1
  have q1' : r' = cb τ (sk τ a') := q1
  subst p1' q1'
  exact ⟨M1, N1, e, e', h1.tr (atC_rs p3), h2.tr (atM_rs q3), by omega, by omega, p2, q2, cdC_at hk l5 p3, cdM_at l6 q3, l7⟩
theorem AL_inc {τ : tT} {k n a b s c d a' : Nat} {L : List (Nat × Nat)} {W : List (Nat × Nat) → Prop} {MC MM M N : qM} (hk : 12 ≤ k) (hl : a' < τ.1) (h : AL τ k n a b s c d W MC MM M N a' L) : AL τ k n a b s c d W MC MM (qI M 1 2 (M.1 1 2 + 1)) (qI N 91 3 (N.1 91 3 + 1)) (a' + 1) L := by
  obtain ⟨h1, h2, l1, l2, l3, l4, l5, l6, l7⟩ := h
  obtain ⟨i1, i2⟩ := incC hk l3 hl
  obtain ⟨j1, j2⟩ := incM l4
  exact ⟨h1.tr (atC_rs i2), h2.tr (atM_rs j2), by omega, by omega, i1, j1, cdC_at hk l5 i2, cdM_at l6 j2, l7⟩
/-- both say: wrong here -/
theorem AL_bad {τ : tT} {k n a b s c d a' B : Nat} {L : List (Nat × Nat)} {W W' : List (Nat × Nat) → Prop} {MC MM M N : qM} (h : AL τ k n a b s c d W MC MM M N a' L) (hcs : c ≤ s) (hB : 160 ≤ B) : (jTp_fail (M.1 1 2) M).1 = false ∧ PB τ k n a b s c d B W' MC MM (false, (jTp_fail (M.1 1 2) M).2) (jMd_bad N) := by
  obtain ⟨h1, h2, l1, l2, l3, l4, l5, l6, l7⟩ := h
  have h160 := l3.1.2.1
  have hal := l3.2.2.1
  have hsa := l3.2.2.2.2.2
  obtain ⟨f1, f2, f3⟩ := failC l3
  obtain ⟨g1, g2⟩ := badM (B := B) l4 (by omega) (by omega)
  exact ⟨f2, h1.tr (f3 s), h2.tr (g2 c), .inr ⟨rfl, a', f1, dM_up g1 (by omega) (Nat.le_refl _)⟩⟩
/-- a comparison behind a sum -/
noncomputable def cmpC (p0 : Int32) (M146 : qM) : Option (Bool × qM) :=
              (jTp_peek M146).bind fun w147 =>
              qu2 w147 fun r148 M149 =>
              if (b2i (jWr_isComparison r148) : Int32) = (0 : Int32) then
                qlt (jTp_fail (M149.1 1 2) M149) fun w161 =>
                qu2 w161 fun r162 M163 =>
                some (r162, M163)
              else
                qlt (qI M149 1 2 ((M149.1 1 2) + 1)) fun M150 =>
                (jWr_readSum p0 M150).bind fun w151 =>
                qu2 w151 fun r152 M153 =>
                ((
                  if (b2i r152 : Int32) = (0 : Int32) then
                    some (false, M153)
                  else
                    (M153.2.2 4 1).bind fun a157 =>
                    (jWy_add a157 r148 0 M153).bind fun w158 =>
                    qu2 w158 fun r159 M160 =>
                    if (b2i r159 : Int32) = (0 : Int32) then
                      some (false, M160)
                    else
                      some (true, M160)) : Option (Bool × qM)).bind fun w156 =>
                qu2 w156 fun z154 M155 =>
                some (z154, M155)
theorem cmp_rd {τ : tT} {k n a b s c d a' : Nat} {L : List (Nat × Nat)} {MC MM M N : qM} (hT : tOK τ) (hk : 12 ≤ k) (hn : n < 7) (hd : d ≤ 6) (hcs : c ≤ s) (h : AL τ k n a b s c d (WS (2 * (6 - d) + 3)) MC MM M N a' L) : w2 (cmpC (nI d) M) (jMd_compare N) (PB τ k n a b s c d (163 + 2 * (6 - d)) (WB (2 * (6 - d) + 4)) MC MM) := by
  have hw := h.2.2.2.2.2.1.2.2.1
  obtain ⟨M1, N1, e1, e2, h'⟩ := AL_C hk h
  have hal := h.2.2.2.2.1.2.2.1
  have hsk := sk_le hal
  have hba := h.2.2.2.1
  unfold cmpC jMd_compare
  refine w2_C (wp_eq e1 ?_)
  refine w2_M (wp_ip hw (wp_be e2 (wp_some ?_)))
  show w2 (if b2i (jWr_isComparison (cb τ (sk τ a'))) = 0 then _ else _) (if b2i (jMd_isSign (cb τ (sk τ a'))) = 0 then _ else _) _
  rw [sign_eq]
  cases hs : jMd_isSign (cb τ (sk τ a')) with
  | false =>
    refine w2_Cp ff0 (w2_Mp ff0 ?_)
    obtain ⟨f1, f2⟩ := AL_bad (B := 163 + 2 * (6 - d)) (W' := WB (2 * (6 - d) + 4)) h' hcs (by omega)
    refine w2_ss (x := ((jTp_fail (M1.1 1 2) M1).1, (jTp_fail (M1.1 1 2) M1).2)) ?_
    rw [f1]
    exact f2
  | true =>
    obtain ⟨o, o1, o2, o3, o4, o5⟩ := sign_o hs
    have hlt := cb_lt o5
    refine w2_Cn tt0 (w2_Mn tt0 ?_)
    obtain ⟨i1, i2, i3, i4, i5, i6, i7, i8, i9⟩ := AL_inc hk hlt h'
    have hsa := h'.2.2.2.2.1.2.2.2.2.2
    obtain ⟨oC, oM, q1, q2, hp⟩ := readSum_rd (d := d) hT hk hn hd _ _ _ _ _ i5 i6 (by omega)
    refine w2_C (wp_eq q1 ?_)
    refine w2_M (wp_eq q2 ?_)
    obtain ⟨zC, M16⟩ := oC
    show w2 (Option.bind _ _) (Option.bind (jMd_put (if cb τ (sk τ a') = 61 then 6 else if cb τ (sk τ a') = 60 then 7 else 8) 0 oM) _) _
    rw [o4]
    refine w2_B ((comb (a := a) (b := sk τ a') (O := cb τ (sk τ a')) (W := WB (2 * (6 - d) + 4)) hk hn o3 rfl (by omega) hcs i1 i2 h'.2.2.1 hsa i7 i8 hp (fun L2 hL2 => WB_cmp i9 hL2 (by omega) o1 o2)).mono (fun x y hxy => ?_))
    obtain ⟨z17, M18⟩ := x
    exact w2_ss (PB_up hxy (by omega) (by omega) (fun _ hL => hL))
/-- 'and', 'or': one operand after the other -/
noncomputable def gAC (x : Int32) (f : qM → Option (Bool × qM)) (q0 : Bool × qM) : Option (Bool × qM) :=
  (qlp (σ := (Bool × qM)) (ρ := (Bool × qM)) (
    fun q => qu2 q fun z4 M5 =>
    if (b2i z4 : Int32) = (0 : Int32) then
      some (.inr (z4, M5))
    else
      (jTp_peek M5).bind fun w9 =>
      qu2 w9 fun r10 M11 =>
      if (r10 : Int32) = x then
        if (M11.1 1 1 : Int32) ≤ (M11.1 1 2 : Int32) then
          some (.inr (z4, M11))
        else
          qlt (qI M11 1 2 ((M11.1 1 2) + 1)) fun M12 =>
          (f M12).bind fun w13 =>
          qu2 w13 fun r14 M15 =>
          ((
            if (b2i r14 : Int32) = (0 : Int32) then
              some (false, M15)
            else
              (M15.2.2 4 1).bind fun a19 =>
              (jWy_add a19 x 0 M15).bind fun w20 =>
              qu2 w20 fun r21 M22 =>
              if (b2i r21 : Int32) = (0 : Int32) then
                some (false, M22)
              else
                some (true, M22)) : Option (Bool × qM)).bind fun w18 =>
          qu2 w18 fun z16 M17 =>
          some (.inl (z16, M17))
      else
        some (.inr (z4, M11))) q0).bind fun r8 =>
  qu2 r8 fun z6 M7 =>
  some (z6, M7)
noncomputable def gAM (x o : Int32) (g : qM → Option qM) (M : qM) : Option qM :=
  (qlp (σ := qM) (ρ := qM) (
    fun M1 =>
    if (M1.1 91 4 : Int32) = ((-1) : Int32) then
      (jMd_look M1).bind fun w4 =>
      qu2 w4 fun r5 M6 =>
      if (r5 : Int32) = x then
        qlt (qI M6 91 3 ((M6.1 91 3) + 1)) fun M7 =>
        (g M7).bind fun M8 =>
        (jMd_put o 0 M8).bind fun M9 =>
        some (.inl M9)
      else
        some (.inr M6)
    else
      some (.inr M1)) M).bind fun M2 =>
  some M2
theorem truth_gAC (rc : Int32 → Bool → qM → Option (Bool × qM)) (p0 : Int32) (p1 : Bool) (M : qM) : jWr_readTruthF rc p0 p1 M = (rc p0 p1 M).bind (gAC 38 (rc p0 false)) := rfl
theorem cond_gAC (rc : Int32 → Bool → qM → Option (Bool × qM)) (p0 : Int32) (p1 : Bool) (M : qM) : jWr_readConditionF rc p0 p1 M = (jWr_readTruthF rc p0 p1 M).bind (gAC 124 (jWr_readTruthF rc p0 false)) := rfl
theorem and_gAM (rc : qM → Option qM) : jMd_goOnAndF rc = gAM 38 10 rc := rfl
theorem or_gAM (rc : qM → Option qM) : jMd_goOnOrF rc = gAM 124 11 (fun M => (rc M).bind (jMd_goOnAndF rc)) := by
  funext M
  unfold jMd_goOnOrF gAM
  simp only [Option.bind_assoc]
theorem go_rd {τ : tT} {k n a b s c d D B o : Nat} {x o32 : Int32} {f : Int32 → qM → Option (Bool × qM)} {g : qM → Option qM} {MC MM N : qM} {q : Bool × qM} (hk : 12 ≤ k) (hn : n < 7) (hB : B < 340) (hcs : c ≤ s) (ho : 10 ≤ o) (ho2 : o < 12) (hx : x = nI (opC o)) (hxm : ¬ x = -1) (he : o32 = nI o) (hr : RD τ k n d B (WB D) f g) (hab : a ≤ b) (h : PB τ k n a b s c d (B + 1) (WB (D + 1)) MC MM q N) :
    w2 (gAC x (f (nI d)) q) (gAM x o32 g N) (PB τ k n a b s c d (B + 1) (WB (D + 1)) MC MM) := by
  unfold gAC gAM
  refine w2_B (w2.mono (Q := PB τ k n a b s c d (B + 1) (WB (D + 1)) MC MM) (w2_lp (fun m q N => ∃ b', b ≤ b' ∧ m = τ.1 - b' ∧ PB τ k n a b' s c d (B + 1) (WB (D + 1)) MC MM q N) (fun m q N hq => ?_) ⟨b, Nat.le_refl _, rfl, h⟩) (fun u v huv => ?_))
  · obtain ⟨b', hb, rfl, hq⟩ := hq
    obtain ⟨z4, M5⟩ := q
    rcases PB_cs hq with ⟨rfl, a', L, hA⟩ | ⟨rfl, h1, h2, w, w1, w2'⟩
    · have hw := hA.2.2.2.2.2.1.2.2.1
      have hba := hA.2.2.2.1
      have hal := hA.2.2.2.2.1.2.2.1
      have hsk := sk_le hal
      obtain ⟨M1, N1, e1, e2, h'⟩ := AL_C hk hA
      have h160 := h'.2.2.2.2.1.1.2.1
      refine w2_Mp hw ?_
      refine w2_C (wp_eq e1 ?_)
      refine w2_M (wp_eq e2 ?_)
      show w2 (if cb τ (sk τ a') = x then _ else _) (if cb τ (sk τ a') = x then _ else _) _
      by_cases hcx : cb τ (sk τ a') = x
      · have hlt := cb_lt (show ¬ cb τ (sk τ a') = -1 by rw [hcx]; exact hxm)
        have l3' := h'.2.2.2.2.1
        refine w2_Cp hcx (w2_Mp hcx (w2_Cn (by rw [l3'.1.1, l3'.2.1, nI_leI (by omega) (by omega)]; omega) ?_))
        obtain ⟨i1, i2, i3, i4, i5, i6, i7, i8, i9⟩ := AL_inc hk hlt h'
        have hsa := l3'.2.2.2.2.2
        obtain ⟨oC, oM, q1, q2, hp⟩ := hr _ _ _ _ _ i5 i6 (by omega)
        refine w2_C (wp_eq q1 ?_)
        refine w2_M (wp_eq q2 ?_)
        obtain ⟨zC, M16⟩ := oC
        refine w2_B ((comb (a := a) (b := sk τ a') (O := x) (W := WB (D + 1)) hk hn hx he hB hcs i1 i2 h'.2.2.1 hsa i7 i8 hp (fun L2 hL2 => WB_op i9 hL2 (by omega) ho ho2)).mono (fun x y hxy => ?_))
        obtain ⟨z17, M18⟩ := x
        exact w2_ss ⟨τ.1 - sk τ a', by omega, sk τ a', by omega, rfl, hxy⟩
      · refine w2_Cn hcx (w2_Mn hcx (w2_ss ?_))
        exact PB_up (AL_PB h') hb (Nat.le_refl _) (fun _ hL => hL)
    · refine ⟨.inr (false, M5), .inr N, rfl, if_neg (dM_w w2'), h1, h2, .inr ⟨rfl, w, w1, w2'⟩⟩
  · exact w2_ss huv
theorem truth_go {τ : tT} {k n a b s c d D B : Nat} {rc : Int32 → Bool → qM → Option (Bool × qM)} {g : qM → Option qM} {MC MM M : qM} {p1 : Bool} {q : Option qM} (hk : 12 ≤ k) (hn : n < 7) (hB : B < 340) (hcs : c ≤ s) (hab : a ≤ b) (hr : RD τ k n d B (WB D) (fun p => rc p false) g) (h : w2 (rc (nI d) p1 M) q (PB τ k n a b s c d B (WB D) MC MM)) :
    w2 (jWr_readTruthF rc (nI d) p1 M) (q.bind (jMd_goOnAndF g)) (PB τ k n a b s c d (B + 1) (WB (D + 1)) MC MM) := by
  rw [truth_gAC, and_gAM]
  refine w2_B (h.mono (fun x y hxy => ?_))
  exact go_rd (o := 10) (f := fun p => rc p false) hk hn hB hcs (by omega) (by omega) (by decide) (by decide) rfl hr hab (PB_up hxy (Nat.le_refl _) (by omega) (fun L hL => hL.up (by omega)))
theorem truth_rd {τ : tT} {k n d D B : Nat} {rc : Int32 → Bool → qM → Option (Bool × qM)} {g : qM → Option qM} (hk : 12 ≤ k) (hn : n < 7) (hB : B < 340) (hr : RD τ k n d B (WB D) (fun p => rc p false) g) : RD τ k n d (B + 1) (WB (D + 1)) (fun p => jWr_readTruthF rc p false) (fun M => (g M).bind (jMd_goOnAndF g)) := by
  intro MC MM a s c hC hM hcs
  exact truth_go hk hn hB hcs (Nat.le_refl _) hr (hr _ _ _ _ _ hC hM hcs)
theorem cond_go {τ : tT} {k n a b s c d D B : Nat} {rc : Int32 → Bool → qM → Option (Bool × qM)} {g : qM → Option qM} {MC MM M : qM} {p1 : Bool} {q : Option qM} (hk : 12 ≤ k) (hn : n < 7) (hB : B + 1 < 340) (hcs : c ≤ s) (hab : a ≤ b) (hr : RD τ k n d B (WB D) (fun p => rc p false) g) (h : w2 (rc (nI d) p1 M) q (PB τ k n a b s c d B (WB D) MC MM)) :
    w2 (jWr_readConditionF rc (nI d) p1 M) ((q.bind (jMd_goOnAndF g)).bind (jMd_goOnOrF g)) (PB τ k n a b s c d (B + 2) (WB (D + 2)) MC MM) := by
  rw [cond_gAC, or_gAM]
  refine w2_B ((truth_go hk hn (by omega) hcs hab hr h).mono (fun x y hxy => ?_))
  exact go_rd (o := 11) (f := fun p => jWr_readTruthF rc p false) hk hn hB hcs (by omega) (by omega) (by decide) (by decide) rfl (truth_rd hk hn (by omega) hr) hab (PB_up hxy (Nat.le_refl _) (by omega) (fun L hL => hL.up (by omega)))
theorem cond_eM (g : qM → Option qM) (M : qM) : jMd_conditionF g M = ((g M).bind (jMd_goOnAndF g)).bind (jMd_goOnOrF g) := by
  unfold jMd_conditionF
  cases g M with
  | none => rfl
  | some M1 =>
    simp only [Option.bind_some]
    cases jMd_goOnAndF g M1 with
    | none => rfl
    | some M2 =>
      simp only [Option.bind_some]
      cases jMd_goOnOrF g M2 <;> rfl
theorem cond_rd {τ : tT} {k n d D B : Nat} {rc : Int32 → Bool → qM → Option (Bool × qM)} {g : qM → Option qM} (hk : 12 ≤ k) (hn : n < 7) (hB : B + 1 < 340) (hr : RD τ k n d B (WB D) (fun p => rc p false) g) : RD τ k n d (B + 2) (WB (D + 2)) (fun p => jWr_readConditionF rc p false) (jMd_conditionF g) := by
  intro MC MM a s c hC hM hcs
  rw [cond_eM]
  exact cond_go hk hn hB hcs (Nat.le_refl _) hr (hr _ _ _ _ _ hC hM hcs)
