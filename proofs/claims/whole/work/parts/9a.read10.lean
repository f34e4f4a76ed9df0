/-! ===== units ===== -/
theorem PB_dec {τ : tT} {k n a b s c d B : Nat} {W : List (Nat × Nat) → Prop} {MC MM N : qM} {q : Bool × qM} (h : PB τ k n a b s c (d + 1) B W MC MM q N) : PB τ k n a b s c d B W MC MM q (qI N 91 5 (N.1 91 5 - 1)) := by
  obtain ⟨h1, h2, h3⟩ := h
  refine ⟨h1, h2.tr (fr_I (.inl ⟨rfl, .inr (.inr rfl)⟩)), ?_⟩
  rcases h3 with ⟨z1, a', L, l1, l2, l3, l4, l5, l6, l7⟩ | ⟨z1, w, w1, w2'⟩
  · have e5 : nI (d + 1) - 1 = nI d := by rw [show (1 : Int32) = nI 1 from rfl, nI_subE (by omega)]; rfl
    refine .inl ⟨z1, a', L, l1, l2, l3, ?_, l5, cdM_fr l6 (fun j _ _ => ⟨by simp [qI_1], by simp [qI_1]⟩), l7⟩
    exact ⟨⟨by simp [qI_1, l4.1.1], l4.1.2.1, fun j hj => by simp [qI_1, l4.1.2.2 j hj]⟩, by simp [qI_1, l4.2.1], by simp [qI_1, l4.2.2.1], by simp [qI_1, l4.2.2.2.1, e5], by simp [qI_1, l4.2.2.2.2.1], by simp [qI_1, l4.2.2.2.2.2]⟩
  · obtain ⟨g1, g2, g3, g4, y, g5, g6⟩ := w2'
    exact .inr ⟨z1, w, w1, ⟨by simp [qI_1, g1.1], g1.2.1, fun j hj => by simp [qI_1, g1.2.2 j hj]⟩, by simp [qI_1, g2], g3, by simp [qI_1, g4], y, by simp [qI_1, g5], g6⟩
/-- a closing sign -/
theorem close_rd {τ : tT} {k n a a0 b s c d B : Nat} {x : Int32} {W : List (Nat × Nat) → Prop} {MC MM M N : qM} {z : Bool} (hx : ¬ x = -1) (hk : 12 ≤ k) (hcs : c ≤ s) (hB : 160 ≤ B) (ha : a ≤ a0) (h : PB τ k n a0 b s c (d + 1) B W MC MM (z, M) N) :
    w2 ((if (b2i z : Int32) = (0 : Int32) then some (false, M) else
              (jTp_take x M).bind fun w173 =>
              qu2 w173 fun r174 M175 =>
              if (b2i r174 : Int32) = (0 : Int32) then
                some (false, M175)
              else
                some (true, M175)) : Option (Bool × qM)) (jMd_closes x N) (PB τ k n a b s c d B W MC MM) := by
  obtain ⟨h1, h2, h3⟩ := h
  have h1 : fr (rsC k s) MC M := h1
  rcases h3 with ⟨z1, a', L, l1, l2, l3, l4, l5, l6, l7⟩ | ⟨z1, w, w1, w2'⟩
  · have z1' : z = true := z1
    subst z1'
    have l3' : scC M τ k a' (s + L.length) := l3
    have h160 := l3'.1.2.1
    have hal := l3'.2.2.1
    have hsa := l3'.2.2.2.2.2
    have hsk := sk_le hal
    refine w2_Cn tt0 ?_
    obtain ⟨N8, e8, n1, n2, n3⟩ := closesM (x := x) hal l4
    refine w2_C ((takeC hx hk l3').mono (fun o ho => ?_))
    obtain ⟨tb, M33⟩ := o
    obtain ⟨t1, t2, t3⟩ := ho
    have t1 : fr (rsC k (s + L.length)) M M33 := t1
    have gC : fr (rsC k s) MC M33 := h1.tr (t1.mono (fun _ _ hb => rsC_up (by omega) hb))
    have gM : fr (rsM n c) MM N8 := h2.tr (n1.mono (fun _ _ hb => rsM_up (by omega) hb))
    by_cases hy : cb τ (sk τ a') = x
    · obtain ⟨tb1, tS⟩ := t2 hy
      have tb' : tb = true := tb1
      subst tb'
      refine ⟨(true, M33), N8, rfl, e8, gC, gM, .inl ⟨rfl, sk τ a' + 1, L, by omega, by omega, tS, n2 hy, ?_, ?_, l7⟩⟩
      · exact cdC_fr l5 (fun j j1 j2 => ⟨(t1 _ _ (by unfold rsC; omega)).1, (t1 _ _ (by unfold rsC; omega)).1⟩)
      · exact cdM_fr l6 (fun j j1 j2 => ⟨(n1 _ _ (by unfold rsM; omega)).1, (n1 _ _ (by unfold rsM; omega)).1⟩)
    · obtain ⟨tb1, tS⟩ := t3 hy
      have tb' : tb = false := tb1
      subst tb'
      exact ⟨(false, M33), N8, rfl, e8, gC, gM, .inr ⟨rfl, sk τ a', tS, dM_up (n3 hy) (by omega) (by omega)⟩⟩
  · have z1' : z = false := z1
    subst z1'
    obtain ⟨N8, e8, n1, n2⟩ := closesB (x := x) w2'
    exact ⟨(false, M), N8, rfl, e8, h1, h2.tr n1, .inr ⟨rfl, w, w1, n2⟩⟩
theorem peek_fix {M : qM} {τ : tT} {a : Nat} (h : rTC M τ) (ha : M.1 1 2 = nI a) (hl : a ≤ τ.1) (hs : sk τ a = a) : jTp_peek M = some (cb τ a, M) := by
  refine pk_stay h ha hl ?_
  rintro ⟨hlt, e⟩
  have e1 := sk_s hlt e
  have := sk_le (τ := τ) (a := a + 1) (by omega)
  omega
theorem unit_rd {τ : tT} {k n d : Nat} {rc : Int32 → Bool → qM → Option (Bool × qM)} {g : qM → Option qM} (hT : tOK τ) (hk : 12 ≤ k) (hn : n < 7) (hd : d ≤ 6) (hrc : d < 6 → RD τ k n (d + 1) (161 + 2 * (6 - d)) (WB (2 * (6 - d) + 2)) (fun p => rc p false) g) : RD τ k n d (163 + 2 * (6 - d)) (WB (2 * (6 - d) + 4)) (fun p => jWr_readUnitF rc p false) (jMd_unitF g) := by
  intro MC MM a s c hC hM hcs
  show w2 (jWr_readUnitF rc (nI d) false MC) (jMd_unitF g MM) _
  have h160 := hC.1.2.1
  have hsa := hC.2.2.2.2.2
  have hal := hC.2.2.1
  have hsk := sk_le hal
  have hd1 : nI d + 1 = nI (d + 1) := by rw [nI_1]
  unfold jWr_readUnitF jMd_unitF
  obtain ⟨⟨r, M3⟩, e1, h1, c2, c3⟩ := peek_st hk hC
  have h1' : r = cb τ (sk τ a) := h1
  subst h1'
  obtain ⟨⟨r, N3⟩, e2, h1, m2, m3⟩ := look_st hM hal
  have h1' : r = cb τ (sk τ a) := h1
  subst h1'
  have c2 : scC M3 τ k (sk τ a) s := c2
  have m2 : scM N3 τ n (sk τ a) c d := m2
  have fC0 : fr (rsC k s) MC M3 := atC_rs c3
  have fM0 : fr (rsM n c) MM N3 := atM_rs m3
  refine w2_C (wp_eq e1 ?_)
  refine w2_M (wp_eq e2 ?_)
  rw [hd1]
  by_cases h33 : cb τ (sk τ a) = 33
  · have hbl := cb_lt (show ¬ cb τ (sk τ a) = -1 by rw [h33]; decide)
    obtain ⟨o1, o2, o3⟩ := opensC hk hd c2 hbl
    obtain ⟨p1, p2, p3⟩ := opensM hd m2 (by omega)
    refine w2_Cp h33 ?_
    refine w2_B ?_
    refine w2_Mp h33 ?_
    generalize jWr_openAt (nI d) M3 = w at o1 o2 o3
    generalize jMd_opens N3 = N6 at p1 p2 p3
    obtain ⟨wb, wM⟩ := w
    have o1 : fr (rsC k s) M3 wM := o1
    by_cases h6 : d < 6
    · obtain ⟨ob, oS⟩ := o2 h6
      have ob' : wb = true := ob
      subst ob'
      have oS' : scC wM τ k (sk τ a + 1) s := oS
      have p2' := p2 h6
      refine w2_Mp p2'.2.2.1 ?_
      obtain ⟨⟨zC, M30⟩, oM, q1, q2, hp⟩ := hrc h6 _ _ _ _ _ oS' p2' hcs
      refine w2_C (wp_eq q1 ?_)
      refine w2_M (wp_eq q2 ?_)
      refine w2_bM ((comb (a := a) (b := sk τ a) (o := 9) (O := 33) (o32 := 9) (W := WB (2 * (6 - d) + 4)) (L := []) hk hn (by decide) rfl (by omega) hcs (fC0.tr o1) (fM0.tr p1) hsk.1 (by show s + 0 ≤ _; omega) trivial trivial hp (fun L2 hL2 => (WB_not hL2).up (by omega))).mono (fun x y hxy => wp_some ?_))
      obtain ⟨zz, MM1⟩ := x
      exact w2_ss (PO_PB.mpr (PB_up (PB_dec hxy) hsk.1 (by omega) (fun _ hL => hL)))
    · obtain ⟨ob, oS⟩ := o3 (by omega)
      have ob' : wb = false := ob
      subst ob'
      have p3' := p3 (by omega)
      refine w2_Mn (dM_w p3') ?_
      exact ⟨(false, wM), N6, rfl, rfl, (false, wM), N6, rfl, rfl, ⟨fC0.tr o1, fM0.tr p1, .inr ⟨rfl, sk τ a, oS, dM_up p3' (Nat.le_refl _) (by omega)⟩⟩⟩
  · refine w2_Cn h33 ?_
    by_cases h40 : cb τ (sk τ a) = 40
    · have hbl := cb_lt (show ¬ cb τ (sk τ a) = -1 by rw [h40]; decide)
      obtain ⟨o1, o2, o3⟩ := opensC hk hd c2 hbl
      obtain ⟨p1, p2, p3⟩ := opensM hd m2 (by omega)
      refine w2_Cp ff0 (w2_Cp h40 ?_)
      refine w2_B ?_
      refine w2_Mn h33 (w2_Mp h40 ?_)
      generalize jWr_openAt (nI d) M3 = w at o1 o2 o3
      generalize jMd_opens N3 = N6 at p1 p2 p3
      obtain ⟨wb, wM⟩ := w
      have o1 : fr (rsC k s) M3 wM := o1
      by_cases h6 : d < 6
      · obtain ⟨ob, oS⟩ := o2 h6
        have ob' : wb = true := ob
        subst ob'
        have oS' : scC wM τ k (sk τ a + 1) s := oS
        have p2' := p2 h6
        refine w2_Mp p2'.2.2.1 ?_
        obtain ⟨⟨zC, M30⟩, oM, q1, q2, f1, f2, hp⟩ := cond_rd hk hn (by omega) (hrc h6) _ _ _ _ _ oS' p2' hcs
        refine w2_C (wp_eq q1 ?_)
        refine w2_M (wp_eq q2 ?_)
        have hp' : PB τ k n (sk τ a + 1) (sk τ a + 1) s c (d + 1) (161 + 2 * (6 - d) + 2) (WB (2 * (6 - d) + 2 + 2)) MC MM (zC, M30) oM := ⟨(fC0.tr o1).tr f1, (fM0.tr p1).tr f2, hp⟩
        refine w2_bM ((close_rd (a := a) (x := 41) (by decide) hk hcs (by omega) (by omega) hp').mono (fun x y hxy => wp_some ?_))
        obtain ⟨zz, MM1⟩ := x
        exact w2_ss (PO_PB.mpr (PB_up hxy (by omega) (by omega) (fun _ hL => hL.up (by omega))))
      · obtain ⟨ob, oS⟩ := o3 (by omega)
        have ob' : wb = false := ob
        subst ob'
        have p3' := p3 (by omega)
        refine w2_Mn (dM_w p3') ?_
        exact ⟨(false, wM), N6, rfl, rfl, (false, wM), N6, rfl, rfl, ⟨fC0.tr o1, fM0.tr p1, .inr ⟨rfl, sk τ a, oS, dM_up p3' (Nat.le_refl _) (by omega)⟩⟩⟩
    · refine w2_Cp ff0 (w2_Cn h40 (w2_Cp ff0 ?_))
      refine w2_bM ?_
      refine w2_Mn h33 (w2_Mn h40 ?_)
      obtain ⟨⟨zC, M30⟩, oM, q1, q2, f1, f2, hp⟩ := readSum_rd (d := d) hT hk hn hd _ _ _ _ _ c2 m2 hcs
      refine w2_C (wp_eq q1 ?_)
      refine w2_M (wp_eq q2 ?_)
      have f1 : fr (rsC k s) M3 M30 := f1
      rcases hp with ⟨z1, a', L, l1, l2, l3, l4, l5, l6, l7⟩ | ⟨z1, w, w1, w2'⟩
      · have z1' : zC = true := z1
        subst z1'
        have hA : AL τ k n a a s c d (WS (2 * (6 - d) + 3)) MC MM M30 oM a' L := ⟨fC0.tr f1, fM0.tr f2, by omega, by omega, l3, l4, l5, l6, l7⟩
        refine w2_Mp l4.2.2.1 ?_
        refine w2_bM ((cmp_rd hT hk hn hd hcs hA).mono (fun x y hxy => wp_some (wp_some ?_)))
        exact PO_PB.mpr hxy
      · have z1' : zC = false := z1
        subst z1'
        refine w2_Mn (dM_w w2') ?_
        exact ⟨(false, M30), oM, rfl, rfl, wp_some ⟨fC0.tr f1, fM0.tr f2, .inr ⟨rfl, w, w1, dM_up w2' (Nat.le_refl _) (by omega)⟩⟩⟩
theorem unitN_rd {τ : tT} {k n : Nat} (hT : tOK τ) (hk : 12 ≤ k) (hn : n < 7) : ∀ N d, d ≤ 6 → 7 - d ≤ N → RD τ k n d (163 + 2 * (6 - d)) (WB (2 * (6 - d) + 4)) (fun p => jWr_readUnitN N p false) (jMd_unitN N) := by
  intro N
  induction N with
  | zero => intro d h1 h2; omega
  | succ N ih =>
    intro d h1 h2
    show RD τ k n d _ _ (fun p => jWr_readUnitF (jWr_readUnitN N) p false) (jMd_unitF (jMd_unitN N))
    refine unit_rd hT hk hn h1 (fun h6 => ?_)
    have := ih (d + 1) (by omega) (by omega)
    rw [show 163 + 2 * (6 - (d + 1)) = 161 + 2 * (6 - d) by omega, show 2 * (6 - (d + 1)) + 4 = 2 * (6 - d) + 2 by omega] at this
    exact this
theorem unitT_rd {τ : tT} {k n a b s c d a' : Nat} {L : List (Nat × Nat)} {rc : Int32 → Bool → qM → Option (Bool × qM)} {MC MM M N : qM} (hT : tOK τ) (hk : 12 ≤ k) (hn : n < 7) (hd : d ≤ 6) (hcs : c ≤ s) (hs : sk τ a' = a') (h : AL τ k n a b s c d (WS (2 * (6 - d) + 3)) MC MM M N a' L) : w2 (jWr_readUnitF rc (nI d) true M) (jMd_compare N) (PB τ k n a b s c d (163 + 2 * (6 - d)) (WB (2 * (6 - d) + 4)) MC MM) := by
  have l3 := h.2.2.2.2.1
  have e := peek_fix l3.1 l3.2.1 l3.2.2.1 hs
  have h2 := cmp_rd hT hk hn hd hcs h
  unfold jWr_readUnitF
  refine w2_C (wp_eq e ?_)
  exact h2
