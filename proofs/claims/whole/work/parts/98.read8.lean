/-! ===== operands and operators: terms and sums ===== -/
/-- as PO, with a place that has been passed -/
def PB (τ : tT) (k n a b s c d B : Nat) (W : List (Nat × Nat) → Prop) (MC MM : qM) (oC : Bool × qM) (oM : qM) : Prop :=
  fr (rsC k s) MC oC.2 ∧ fr (rsM n c) MM oM ∧
  ((oC.1 = true ∧ ∃ a' L, a + L.length ≤ a' ∧ b < a' ∧ scC oC.2 τ k a' (s + L.length) ∧ scM oM τ n a' (c + L.length) d ∧ cdC oC.2 k s L ∧ cdM oM n c L ∧ W L) ∨
   (oC.1 = false ∧ ∃ w, dC oC.2 τ k w ∧ dM oM τ n w c B))
theorem PO_PB {τ : tT} {k n a s c d B : Nat} {W : List (Nat × Nat) → Prop} {MC MM oM : qM} {oC : Bool × qM} : PO τ k n a s c d B W MC MM oC oM ↔ PB τ k n a a s c d B W MC MM oC oM := Iff.rfl
theorem PB_up {τ : tT} {k n a b b' s c d B B' : Nat} {W W' : List (Nat × Nat) → Prop} {MC MM oM : qM} {oC : Bool × qM} (h : PB τ k n a b s c d B W MC MM oC oM) (hb : b' ≤ b) (hB : B ≤ B') (hW : ∀ L, W L → W' L) : PB τ k n a b' s c d B' W' MC MM oC oM := by
  obtain ⟨h1, h2, h3⟩ := h
  refine ⟨h1, h2, ?_⟩
  rcases h3 with ⟨z, a', L, l1, l2, l3, l4, l5, l6, l7⟩ | ⟨z, w, w1, w2'⟩
  · exact .inl ⟨z, a', L, l1, by omega, l3, l4, l5, l6, hW L l7⟩
  · exact .inr ⟨z, w, w1, dM_up w2' (Nat.le_refl _) hB⟩
theorem dC_peek {M : qM} {τ : tT} {k w : Nat} (h : dC M τ k w) : wp (jTp_peek M) (fun o => dC o.2 τ k w ∧ fr atC M o.2) := by
  obtain ⟨h1, ⟨a, h2, h3⟩, h4, h5⟩ := h
  refine (peek_wp _ (Nat.le_refl _) h1 h2 h3).mono (fun o ho => ⟨⟨?_, ⟨sk τ a, ho.2.1, (sk_le h3).2⟩, ?_, h5⟩, ho.2.2⟩)
  · exact rTC_fr h1 ho.2.2 (by rintro ⟨_, h⟩; omega) (by rintro j ⟨h, _⟩; omega)
  · rw [(ho.2.2 1 3 (by rintro ⟨_, h⟩; omega)).1]; exact h4
theorem cdC_at {M M1 : qM} {k s : Nat} {L : List (Nat × Nat)} (hk : 12 ≤ k) (h : cdC M k s L) (g : fr atC M M1) : cdC M1 k s L :=
  cdC_fr h (fun j _ _ => ⟨(g _ _ (by rintro ⟨h, _⟩; omega)).1, (g _ _ (by rintro ⟨h, _⟩; omega)).1⟩)
theorem cdM_at {M M1 : qM} {n s : Nat} {L : List (Nat × Nat)} (h : cdM M n s L) (g : fr atM M M1) : cdM M1 n s L :=
  cdM_fr h (fun j _ _ => ⟨(g _ _ (by rintro ⟨h, _⟩; omega)).1, (g _ _ (by rintro ⟨h, _⟩; omega)).1⟩)
/-- an operand behind L, then its operator -/
theorem comb {τ : tT} {k n a b s c d B o : Nat} {O o32 : Int32} {W0 W : List (Nat × Nat) → Prop} {MC MM M M' oM : qM} {oC : Bool × qM} {L : List (Nat × Nat)} (hk : 12 ≤ k) (hn : n < 7) (hO : O = nI (opC o)) (ho : o32 = nI o) (hB : B < 340) (hcs : c ≤ s) (g1 : fr (rsC k s) MC M) (g2 : fr (rsM n c) MM M') (g3 : a + L.length ≤ b) (g4 : s + L.length ≤ b) (g5 : cdC M k s L) (g6 : cdM M' n c L) (hp : PO τ k n (b + 1) (s + L.length) (c + L.length) d B W0 M M' oC oM) (hW : ∀ L2, W0 L2 → W (L ++ L2 ++ [(o, 0)])) :
    w2 ((if (b2i oC.1 : Int32) = (0 : Int32) then some (false, oC.2) else
              (oC.2.2.2 4 1).bind fun a23 =>
              (jWy_add a23 O 0 oC.2).bind fun w24 =>
              qu2 w24 fun r25 M26 =>
              if (b2i r25 : Int32) = (0 : Int32) then
                some (false, M26)
              else
                some (true, M26)) : Option (Bool × qM)) (jMd_put o32 0 oM) (PB τ k n a b s c d (B + 1) W MC MM) := by
  subst ho
  obtain ⟨z, M16⟩ := oC
  obtain ⟨f1, f2, hp⟩ := hp
  have f1' : fr (rsC k s) M M16 := f1.mono (fun _ _ hb => rsC_up (by omega) hb)
  have f2' : fr (rsM n c) M' oM := f2.mono (fun _ _ hb => rsM_up (by omega) hb)
  rcases hp with ⟨z1, a', L2, l1, l2, l3, l4, l5, l6, l7⟩ | ⟨z1, w, w1, w2'⟩
  · have z1' : z = true := z1
    subst z1'
    have l3' : scC M16 τ k a' (s + L.length + L2.length) := l3
    have h160 := l3'.1.2.1
    have hal := l3'.2.2.1
    refine w2_Cn tt0 ?_
    refine w2_C (wp_eq l3'.2.2.2.1 ?_)
    refine w2_C ((add_st (o := O) (v := 0) hk l3' (by omega)).mono (fun r hr => ?_))
    obtain ⟨rb, M26⟩ := r
    obtain ⟨b1, b2, b3, b4, b5⟩ := hr
    have b1' : rb = true := b1
    subst b1'
    show w2 (if b2i true = 0 then some (false, M26) else some (true, M26)) _ _
    refine w2_Cn tt0 ?_
    obtain ⟨N, e, n1, n2, n3, n4⟩ := put_ok (o := nI o) (v := 0) hn l4 (by omega)
    rw [e]
    have b3' : fr (rsC k s) M16 M26 := b3.mono (fun _ _ hb => rsC_up (by omega) hb)
    have n2' : fr (rsM n c) oM N := n2.mono (fun _ _ hb => rsM_up (by omega) hb)
    obtain ⟨q1, q2⟩ := cd1 (MC := M26) (MM := N) (k := k) (n := n) (s := s + L.length + L2.length) (c := c + L.length + L2.length) (o := o) (v := 0) (O := O) hO (by omega) b4 b5 n3 n4
    have hl3 : ∀ t : Nat, t + (L ++ L2 ++ [((o, 0) : Nat × Nat)]).length = t + L.length + L2.length + 1 := by
      intro t
      simp only [List.length_append, List.length_singleton]
      omega
    refine w2_ss ⟨(g1.tr f1').tr b3', (g2.tr f2').tr n2', .inl ⟨rfl, a', L ++ L2 ++ [(o, 0)], ?_, by omega, ?_, ?_, ?_, ?_, hW L2 l7⟩⟩
    · simp only [List.length_append, List.length_singleton]; omega
    · rw [hl3 s]; exact b2
    · rw [hl3 c]; exact n1
    · rw [cdC_app, cdC_app]
      refine ⟨⟨?_, ?_⟩, by rw [show s + (L ++ L2).length = s + L.length + L2.length by simp only [List.length_append]; omega]; exact q1⟩
      · exact cdC_fr (cdC_fr g5 (fun j j1 j2 => ⟨(f1 _ _ (by unfold rsC; omega)).1, (f1 _ _ (by unfold rsC; omega)).1⟩)) (fun j j1 j2 => ⟨(b3 _ _ (by unfold rsC; omega)).1, (b3 _ _ (by unfold rsC; omega)).1⟩)
      · exact cdC_fr l5 (fun j j1 j2 => ⟨(b3 _ _ (by unfold rsC; omega)).1, (b3 _ _ (by unfold rsC; omega)).1⟩)
    · rw [cdM_app, cdM_app]
      refine ⟨⟨?_, ?_⟩, by rw [show c + (L ++ L2).length = c + L.length + L2.length by simp only [List.length_append]; omega]; exact q2⟩
      · exact cdM_fr (cdM_fr g6 (fun j j1 j2 => ⟨(f2 _ _ (by unfold rsM; omega)).1, (f2 _ _ (by unfold rsM; omega)).1⟩)) (fun j j1 j2 => ⟨(n2 _ _ (by unfold rsM; omega)).1, (n2 _ _ (by unfold rsM; omega)).1⟩)
      · exact cdM_fr l6 (fun j j1 j2 => ⟨(n2 _ _ (by unfold rsM; omega)).1, (n2 _ _ (by unfold rsM; omega)).1⟩)
  · have z1' : z = false := z1
    subst z1'
    have w1' : dC M16 τ k w := w1
    obtain ⟨N, e, n1, n2⟩ := put_bad (o := nI o) (v := 0) hn w2' hB
    refine ⟨(false, M16), N, rfl, e, g1.tr f1', (g2.tr f2').tr (n2.mono (fun _ _ hb => rsM_up (by omega) hb)), .inr ⟨rfl, w, w1', dM_up n1 (by omega) (Nat.le_refl _)⟩⟩
/-- the loop's state: the next sign is known -/
def LI (τ : tT) (k n a s c d B : Nat) (W : List (Nat × Nat) → Prop) (MC MM : qM) (m : Nat) (q : Bool × Int32 × qM) (q' : Int32 × qM) : Prop :=
  fr (rsC k s) MC q.2.2 ∧ fr (rsM n c) MM q'.2 ∧
  ((q.1 = true ∧ ∃ a' L, m = τ.1 - a' + 1 ∧ a + L.length ≤ a' ∧ a < a' ∧ q.2.1 = cb τ a' ∧ q'.1 = cb τ a' ∧ scC q.2.2 τ k a' (s + L.length) ∧ scM q'.2 τ n a' (c + L.length) d ∧ cdC q.2.2 k s L ∧ cdM q'.2 n c L ∧ W L) ∨
   (q.1 = false ∧ m = 0 ∧ q'.1 = -1 ∧ ∃ w, dC q.2.2 τ k w ∧ dM q'.2 τ n w c B))
theorem peek2 {τ : tT} {k n a b s c d B : Nat} {W : List (Nat × Nat) → Prop} {MC MM oM : qM} {z : Bool} {M3 : qM} (hk : 12 ≤ k) (hab : a ≤ b) (h : PB τ k n a b s c d B W MC MM (z, M3) oM) :
    w2 (jTp_peek M3) ((if (oM.1 91 4 : Int32) = ((-1) : Int32) then (jMd_look oM).bind fun w20 => qu2 w20 fun r21 M22 => some (r21, M22) else some ((-1), oM)) : Option (Int32 × qM))
      (fun w w' => ∃ m, m ≤ τ.1 - b ∧ LI τ k n a s c d B W MC MM m (z, w.1, w.2) w') := by
  obtain ⟨h1, h2, h3⟩ := h
  rcases h3 with ⟨z1, a', L, l1, l2, l3, l4, l5, l6, l7⟩ | ⟨z1, w, w1, w2'⟩
  · have l3' : scC M3 τ k a' (s + L.length) := l3
    have hal := l3'.2.2.1
    have hsk := sk_le hal
    obtain ⟨o, e, p1, p2, p3⟩ := peek_st hk l3'
    obtain ⟨o', e', q1, q2, q3⟩ := look_st l4 hal
    refine ⟨o, o', e, ?_, τ.1 - sk τ a' + 1, by omega, h1.tr (atC_rs p3), h2.tr (atM_rs q3), .inl ⟨z1, sk τ a', L, rfl, by omega, by omega, p1, q1, p2, q2, cdC_at hk l5 p3, cdM_at l6 q3, l7⟩⟩
    rw [if_pos l4.2.2.1, e']
    rfl
  · obtain ⟨o, e, p1, p2⟩ := dC_peek w1
    refine ⟨o, (-1, oM), e, if_neg (dM_w w2'), 0, by omega, h1.tr (atC_rs p2), h2, .inr ⟨z1, rfl, rfl, w, p1, w2'⟩⟩
noncomputable def gCs (f : Int32 → qM → Option (Bool × qM)) (p0 x8 : Int32) (M9 : qM) : Option ((Bool × Int32 × qM) ⊕ (Bool × qM)) :=
          qlt (qI M9 1 2 ((M9.1 1 2) + 1)) fun M13 =>
          (f p0 M13).bind fun w14 =>
          qu2 w14 fun r15 M16 =>
          ((
            if (b2i r15 : Int32) = (0 : Int32) then
              some (false, M16)
            else
              (M16.2.2 4 1).bind fun a23 =>
              (jWy_add a23 x8 0 M16).bind fun w24 =>
              qu2 w24 fun r25 M26 =>
              if (b2i r25 : Int32) = (0 : Int32) then
                some (false, M26)
              else
                some (true, M26)) : Option (Bool × qM)).bind fun w19 =>
          qu2 w19 fun z17 M18 =>
          (jTp_peek M18).bind fun w20 =>
          qu2 w20 fun r21 M22 =>
          some (.inl (z17, r21, M22))
noncomputable def gC (x y : Int32) (f : Int32 → qM → Option (Bool × qM)) (p0 : Int32) (M : qM) : Option (Bool × qM) :=
  (f p0 M).bind fun w1 =>
  qu2 w1 fun r2 M3 =>
  (jTp_peek M3).bind fun w4 =>
  qu2 w4 fun r5 M6 =>
  (qlp (σ := (Bool × Int32 × qM)) (ρ := (Bool × qM)) (
    fun q => qu3 q fun z7 x8 M9 =>
    if (b2i z7 : Int32) = (0 : Int32) then
      some (.inr (z7, M9))
    else
      if (x8 : Int32) = x then
        if (M9.1 1 1 : Int32) ≤ (M9.1 1 2 : Int32) then
          some (.inr (z7, M9))
        else
          gCs f p0 x8 M9
      else
        if (x8 : Int32) = y then
          if (M9.1 1 1 : Int32) ≤ (M9.1 1 2 : Int32) then
            some (.inr (z7, M9))
          else
            gCs f p0 x8 M9
        else
          some (.inr (z7, M9))) (r2, r5, M6)).bind fun r12 =>
  qu2 r12 fun z10 M11 =>
  some (z10, M11)
noncomputable def gMs (g : qM → Option qM) (x12 : Int32) (M6 : qM) : Option ((Int32 × qM) ⊕ qM) :=
      qlt (qI M6 91 3 ((M6.1 91 3) + 1)) fun M10 =>
      (g M10).bind fun M11 =>
      (jMd_put x12 0 M11).bind fun M13 =>
      ((
        if (M13.1 91 4 : Int32) = ((-1) : Int32) then
          (jMd_look M13).bind fun w17 =>
          qu2 w17 fun r18 M19 =>
          some (r18, M19)
        else
          some ((-1), M13)) : Option (Int32 × qM)).bind fun w16 =>
      qu2 w16 fun x14 M15 =>
      some (.inl (x14, M15))
noncomputable def gM (x y o o' : Int32) (g : qM → Option qM) (M : qM) : Option qM :=
  (g M).bind fun M1 =>
  ((
    if (M1.1 91 4 : Int32) = ((-1) : Int32) then
      (jMd_look M1).bind fun w20 =>
      qu2 w20 fun r21 M22 =>
      some (r21, M22)
    else
      some ((-1), M1)) : Option (Int32 × qM)).bind fun w4 =>
  qu2 w4 fun x2 M3 =>
  (qlp (σ := (Int32 × qM)) (ρ := qM) (
    fun q => qu2 q fun x5 M6 =>
    qlt ((
      if (x5 : Int32) = x then
        true
      else
        if (x5 : Int32) = y then
          true
        else
          false) : Bool) fun z9 =>
    if z9 = true then
      gMs g (if (x5 : Int32) = x then o else o') M6
    else
      some (.inr M6)) (x2, M3)).bind fun M7 =>
  some M7
theorem term_gC (rc : Int32 → qM → Option (Bool × qM)) : jWr_readTermF rc = gC 42 47 (jWr_readAtomF rc) := rfl
theorem sum_gC (rc : Int32 → qM → Option (Bool × qM)) : jWr_readSumF rc = gC 43 45 (jWr_readTermF rc) := rfl
theorem term_gM (rc : qM → Option qM) : jMd_termF rc = gM 42 47 4 5 (jMd_atomF rc) := rfl
theorem sum_gM (rc : qM → Option qM) : jMd_sumF rc = gM 43 45 2 3 (jMd_termF rc) := rfl
/-- one more operand -/
theorem more_rd {τ : tT} {k n a s c d D B o : Nat} {MC MM M9 N9 : qM} {f : Int32 → qM → Option (Bool × qM)} {g : qM → Option qM} (hk : 12 ≤ k) (hn : n < 7) (hB : B < 340) (ho : 2 ≤ o) (ho2 : o < 9) (hcs : c ≤ s) (hr : RD τ k n d B (WS D) f g) {a' : Nat} {L : List (Nat × Nat)} (hO : cb τ a' = nI (opC o)) (hlt : a' < τ.1)
    (h1 : fr (rsC k s) MC M9) (h2 : fr (rsM n c) MM N9) (l1 : a + L.length ≤ a') (l0 : a < a') (l3 : scC M9 τ k a' (s + L.length)) (l4 : scM N9 τ n a' (c + L.length) d) (l5 : cdC M9 k s L) (l6 : cdM N9 n c L) (l7 : WS (D + 1) L) :
    w2 (gCs f (nI d) (cb τ a') M9) (gMs g (nI o) N9) (s2 (fun x y => ∃ m', m' < τ.1 - a' + 1 ∧ LI τ k n a s c d (B + 1) (WS (D + 1)) MC MM m' x y) (PB τ k n a a s c d (B + 1) (WS (D + 1)) MC MM)) := by
  obtain ⟨i1, i2⟩ := incC hk l3 hlt
  obtain ⟨j1, j2⟩ := incM l4
  have hsa := l3.2.2.2.2.2
  unfold gCs gMs
  obtain ⟨oC, oM, q1, q2, hp⟩ := hr _ _ _ _ _ i1 j1 (by omega)
  refine w2_C (wp_eq q1 ?_)
  refine w2_M (wp_eq q2 ?_)
  obtain ⟨zC, M16⟩ := oC
  refine w2_B ((comb (a := a) (b := a') (O := cb τ a') (W := WS (D + 1)) hk hn hO rfl hB hcs (h1.tr (atC_rs i2)) (h2.tr (atM_rs j2)) l1 hsa (cdC_at hk l5 i2) (cdM_at l6 j2) hp (fun L2 hL2 => WS_op l7 hL2 (by omega) ho ho2)).mono (fun x y hxy => ?_))
  obtain ⟨z17, M18⟩ := x
  refine w2_B ((peek2 hk (by omega) hxy).mono (fun w w' hw => ?_))
  obtain ⟨r21, M22⟩ := w
  obtain ⟨x14, M15⟩ := w'
  obtain ⟨m, hm, hw⟩ := hw
  exact w2_ss ⟨m, by omega, hw⟩
theorem op_rd {τ : tT} {k n d D B o o' : Nat} {x y o32 o32' : Int32} {f : Int32 → qM → Option (Bool × qM)} {g : qM → Option qM} (hk : 12 ≤ k) (hn : n < 7) (hB : B < 340) (ho : 2 ≤ o) (ho2 : o < 9) (ho' : 2 ≤ o') (ho2' : o' < 9) (hx : x = nI (opC o)) (hy : y = nI (opC o')) (hxm : ¬ x = -1) (hym : ¬ y = -1) (he : o32 = nI o) (he' : o32' = nI o') (hr : RD τ k n d B (WS D) f g) :
    RD τ k n d (B + 1) (WS (D + 1)) (gC x y f) (gM x y o32 o32' g) := by
  intro MC MM a s c hC hM hcs
  unfold gC gM
  obtain ⟨oC, oM, q1, q2, hp⟩ := hr _ _ _ _ _ hC hM hcs
  refine w2_C (wp_eq q1 ?_)
  refine w2_M (wp_eq q2 ?_)
  obtain ⟨zC, M3⟩ := oC
  have hp' : PB τ k n a a s c d (B + 1) (WS (D + 1)) MC MM (zC, M3) oM := PB_up (PO_PB.mp hp) (Nat.le_refl _) (by omega) (fun L hL => hL.up (by omega))
  refine w2_B ((peek2 hk (Nat.le_refl _) hp').mono (fun w w' hw => ?_))
  obtain ⟨r5, M6⟩ := w
  obtain ⟨x2, N3⟩ := w'
  obtain ⟨m, hm, hw⟩ := hw
  refine w2_B (w2.mono (Q := PB τ k n a a s c d (B + 1) (WS (D + 1)) MC MM) (w2_lp (LI τ k n a s c d (B + 1) (WS (D + 1)) MC MM) (fun m q q' hq => ?_) hw) (fun u v huv => ?_))
  · obtain ⟨z7, x8, M9⟩ := q
    obtain ⟨x5, N6⟩ := q'
    obtain ⟨h1, h2, h3⟩ := hq
    rcases h3 with ⟨z1, a', L, lm, l1, l0, lx, lx', l3, l4, l5, l6, l7⟩ | ⟨z1, lm, lx', w, w1, w2'⟩
    · have z1' : z7 = true := z1
      have lx1 : x8 = cb τ a' := lx
      have lx2 : x5 = cb τ a' := lx'
      subst z1' lx1 lx2 lm
      have l3' : scC M9 τ k a' (s + L.length) := l3
      have l4' : scM N6 τ n a' (c + L.length) d := l4
      have h160 := l3'.1.2.1
      have hal := l3'.2.2.1
      by_cases hcx : cb τ a' = x
      · have hlt := cb_lt (show ¬ cb τ a' = -1 by rw [hcx]; exact hxm)
        refine w2_Cp hcx (w2_Cn (by rw [l3'.1.1, l3'.2.1, nI_leI (by omega) (by omega)]; omega) ?_)
        have e : (qu2 (cb τ a', N6) fun x5 M6 => qlt ((if (x5 : Int32) = x then true else if (x5 : Int32) = y then true else false) : Bool) fun z9 => if z9 = true then gMs g (if (x5 : Int32) = x then o32 else o32') M6 else some (.inr M6)) = gMs g (nI o) N6 := by
          unfold qu2 qlt
          simp only [if_pos hcx, he]
          rfl
        rw [e]
        exact more_rd hk hn hB ho ho2 hcs hr (hcx.trans hx) hlt h1 h2 l1 l0 l3' l4' l5 l6 l7
      · refine w2_Cn hcx ?_
        by_cases hcy : cb τ a' = y
        · have hlt := cb_lt (show ¬ cb τ a' = -1 by rw [hcy]; exact hym)
          refine w2_Cp hcy (w2_Cn (by rw [l3'.1.1, l3'.2.1, nI_leI (by omega) (by omega)]; omega) ?_)
          have e : (qu2 (cb τ a', N6) fun x5 M6 => qlt ((if (x5 : Int32) = x then true else if (x5 : Int32) = y then true else false) : Bool) fun z9 => if z9 = true then gMs g (if (x5 : Int32) = x then o32 else o32') M6 else some (.inr M6)) = gMs g (nI o') N6 := by
            unfold qu2 qlt
            simp only [if_neg hcx, if_pos hcy, he']
            rfl
          rw [e]
          exact more_rd hk hn hB ho' ho2' hcs hr (hcy.trans hy) hlt h1 h2 l1 l0 l3' l4' l5 l6 l7
        · refine w2_Cn hcy ?_
          have e : (qu2 (cb τ a', N6) fun x5 M6 => qlt ((if (x5 : Int32) = x then true else if (x5 : Int32) = y then true else false) : Bool) fun z9 => if z9 = true then gMs g (if (x5 : Int32) = x then o32 else o32') M6 else some (.inr M6)) = some (.inr N6) := by
            unfold qu2 qlt
            simp only [if_neg hcx, if_neg hcy]
            rfl
          rw [e]
          exact w2_ss ⟨h1, h2, .inl ⟨rfl, a', L, l1, l0, l3', l4', l5, l6, l7⟩⟩
    · have z1' : z7 = false := z1
      have lx2 : x5 = -1 := lx'
      subst z1' lx2
      have e : (qu2 ((-1 : Int32), N6) fun x5 M6 => qlt ((if (x5 : Int32) = x then true else if (x5 : Int32) = y then true else false) : Bool) fun z9 => if z9 = true then gMs g (if (x5 : Int32) = x then o32 else o32') M6 else some (.inr M6)) = some (.inr N6) := by
        unfold qu2 qlt
        simp only [if_neg (show ¬ (-1 : Int32) = x from fun h => hxm h.symm), if_neg (show ¬ (-1 : Int32) = y from fun h => hym h.symm)]
        rfl
      rw [e]
      exact ⟨.inr (false, M9), .inr N6, rfl, rfl, h1, h2, .inr ⟨rfl, w, w1, w2'⟩⟩
  · exact w2_ss (PO_PB.mpr huv)
theorem term_rd {τ : tT} {k n d : Nat} {fC : Int32 → qM → Option (Bool × qM)} {fM : qM → Option qM} (hT : tOK τ) (hk : 12 ≤ k) (hn : n < 7) (hd : d ≤ 6) (hrc : d < 6 → RD τ k n (d + 1) (160 + 2 * (6 - d)) (WS (2 * (6 - d) + 1)) fC fM) : RD τ k n d (160 + 2 * (6 - d) + 1) (WS (2 * (6 - d) + 1 + 1)) (jWr_readTermF fC) (jMd_termF fM) := by
  rw [term_gC, term_gM]
  exact op_rd (o := 4) (o' := 5) hk hn (by omega) (by omega) (by omega) (by omega) (by omega) (by decide) (by decide) (by decide) (by decide) rfl rfl (atom_rd hT hk hn hd hrc)
theorem sum_rd {τ : tT} {k n d : Nat} {fC : Int32 → qM → Option (Bool × qM)} {fM : qM → Option qM} (hT : tOK τ) (hk : 12 ≤ k) (hn : n < 7) (hd : d ≤ 6) (hrc : d < 6 → RD τ k n (d + 1) (160 + 2 * (6 - d)) (WS (2 * (6 - d) + 1)) fC fM) : RD τ k n d (162 + 2 * (6 - d)) (WS (2 * (6 - d) + 3)) (jWr_readSumF fC) (jMd_sumF fM) := by
  rw [sum_gC, sum_gM]
  have := op_rd (o := 2) (o' := 3) (x := 43) (y := 45) hk hn (by omega) (by omega) (by omega) (by omega) (by omega) (by decide) (by decide) (by decide) (by decide) rfl rfl (term_rd hT hk hn hd hrc)
  rw [show 162 + 2 * (6 - d) = 160 + 2 * (6 - d) + 1 + 1 by omega, show 2 * (6 - d) + 3 = 2 * (6 - d) + 1 + 1 + 1 by omega]
  exact this
theorem sumN_rd {τ : tT} {k n : Nat} (hT : tOK τ) (hk : 12 ≤ k) (hn : n < 7) : ∀ N d, d ≤ 6 → 7 - d ≤ N → RD τ k n d (162 + 2 * (6 - d)) (WS (2 * (6 - d) + 3)) (jWr_readSumN N) (jMd_sumN N) := by
  intro N
  induction N with
  | zero => intro d h1 h2; omega
  | succ N ih =>
    intro d h1 h2
    show RD τ k n d _ _ (jWr_readSumF (jWr_readSumN N)) (jMd_sumF (jMd_sumN N))
    refine sum_rd hT hk hn h1 (fun h6 => ?_)
    have := ih (d + 1) (by omega) (by omega)
    rw [show 162 + 2 * (6 - (d + 1)) = 160 + 2 * (6 - d) by omega, show 2 * (6 - (d + 1)) + 3 = 2 * (6 - d) + 1 by omega] at this
    exact this
theorem readSum_rd {τ : tT} {k n d : Nat} (hT : tOK τ) (hk : 12 ≤ k) (hn : n < 7) (hd : d ≤ 6) : RD τ k n d (162 + 2 * (6 - d)) (WS (2 * (6 - d) + 3)) jWr_readSum jMd_sum :=
  sumN_rd hT hk hn 9 d hd (by omega)
