/-! ===== a village's text, whole ===== -/
def VP (k n : Nat) (M N : qM) (o o' : Int32 × qM) : Prop := o.1 = o'.1 ∧ fr (vrC k) M o.2 ∧ fr (vrM n) N o'.2 ∧ (o.1 = -1 → ∃ v, rVC o.2 k v ∧ rVM o'.2 n v)
theorem vloop {τ : tT} {k n : Nat} (hT : tOK τ) (hk : 12 ≤ k) (hn : n < 5) (ha1 : q_al (k + 1) = 16) (ha2 : q_al (k + 2) = 24) (ha3 : q_al (k + 3) = 20) : ∀ m {a c : Nat} {v : vT} {M N : qM}, τ.1 - a < m → c ≤ 10 → tC M τ a → tM N τ a → vPk v → vcC M k v → vcM N n v →
    w2 ((qlp (vbC k) (nI c, M)).bind (vfC k)) ((jMd_part (nI n) N).bind fun M6 => (qlp (vbM (nI n)) (nI c, M6)).bind (vE (nI n))) (VP k n M N) := by
  intro m
  induction m with
  | zero => intro a c v M N h; omega
  | succ m ih =>
    intro a c v M N hm hcl hC hM hv hc hmm
    have h160 := hC.1.2.1
    have hg : ¬ (10 : Int32) < nI c := by rw [show (10 : Int32) = nI 10 from rfl, nI_ltI (by omega) (by omega)]; omega
    obtain ⟨⟨z, M13⟩, N6, e1, e2, f1, f2, hp⟩ := part_rd hT hk hn ha1 ha2 ha3 hC hM hv hc hmm
    have f1 : fr (vrC k) M M13 := f1
    rw [e2, Option.bind_some]
    rcases hp with ⟨z1, a', v', ha, k1, k2, k3, k4, k5⟩ | ⟨z1, w, k1, k2⟩ | ⟨z1, a', k0, k1, k2, k3, k4, k5⟩
    · have z1' : z = true := z1
      subst z1'
      have k1 : tC M13 τ a' := k1
      have k4 : vcC M13 k v' := k4
      have hal := k1.2.2
      have hsk := sk_le hal
      obtain ⟨M16, e3, c1, c2⟩ := peekT k1
      obtain ⟨N21, e4, m1, m2⟩ := lookT hal k2
      have hss := sk_sk (τ := τ) _ a' (Nat.le_refl _) hal
      have hc16 : vcC M16 k v' := vcC_fr hk k4 (at_aC c2)
      have hm21 : vcM N21 n v' := vcM_fr k5 (at_aM m2)
      have fC1 : fr (vrC k) M M16 := f1.tr ((at_aC c2).mono (fun b j hb => .inl hb))
      have fM1 : fr (vrM n) N N21 := f2.tr ((at_aM m2).mono (fun b j hb => .inl hb))
      have eC0 : vbC k (nI c, M) = (if (cb τ (sk τ a') : Int32) = ((-1) : Int32) then
          some (.inr (.inr (.inl M16)))
        else
          if (cb τ (sk τ a') : Int32) = (59 : Int32) then
            if (nI c : Int32) = (10 : Int32) then
              some (.inr (.inr (.inr (.inl M16))))
            else
              some (.inl (nI c + 1, qI M16 1 2 ((M16.1 1 2) + 1)))
          else
            some (.inr (.inr (.inr (.inl M16))))) := by
        show (if (10 : Int32) < nI c then _ else _) = _
        rw [if_neg hg, e1, Option.bind_some]
        show ((jTp_peek M13).bind _) = _
        rw [e3, Option.bind_some]
        rfl
      have eM0 : vbM (nI n) (nI c, N6) = (if (cb τ (sk τ a') : Int32) = (59 : Int32) then
        if (10 : Int32) ≤ (nI c : Int32) then
          some (.inr N21)
        else
          (jMd_part (nI n) (qI N21 91 3 ((N21.1 91 3) + 1))).bind fun M23 =>
          some (.inl (nI c + 1, M23))
        else
          some (.inr N21)) := by
        show (if (N6.1 91 4 : Int32) = ((-1) : Int32) then _ else _) = _
        rw [if_pos k2.2.2, e4, Option.bind_some]
        rfl
      have hend : ¬ cb τ (sk τ a') = -1 → vbC k (nI c, M) = some (.inr (.inr (.inr (.inl M16)))) → vbM (nI n) (nI c, N6) = some (.inr N21) → w2 ((qlp (vbC k) (nI c, M)).bind (vfC k)) ((qlp (vbM (nI n)) (nI c, N6)).bind (vE (nI n))) (VP k n M N) := by
        intro h1 h2 h3
        obtain ⟨N1, g1, g2⟩ := vE_o (p0 := nI n) hsk.2 m1 (by rw [hss]; exact h1)
        rw [qlp_inr h2, qlp_inr h3, Option.bind_some, Option.bind_some, g1, hss]
        refine ⟨(M16.1 1 2, M16), _, rfl, rfl, c1.2.1, fC1, fM1.tr (g2.mono (fun b j hb => .inl hb)), fun g => ?_⟩
        have g : M16.1 1 2 = -1 := g
        rw [c1.2.1] at g
        exact absurd g (nI_m1 (by omega))
      by_cases hc1 : cb τ (sk τ a') = -1
      · rw [if_pos hc1] at eC0
        rw [if_neg (by rw [hc1]; decide)] at eM0
        obtain ⟨N1, g1, g2⟩ := vE_m hn hsk.2 m1 (by rw [hss]; exact hc1) hm21.1 hm21.2.1 (by have := k3.1; omega) (by have := k3.2.1; omega)
        rw [qlp_inr eC0, qlp_inr eM0, Option.bind_some, Option.bind_some, g1, hss]
        have hz : ∀ x : Nat, x < 1000 → ((nI x ≤ (0 : Int32)) ↔ (x = 0)) := fun x hx => by rw [show (0 : Int32) = nI 0 from rfl, nI_leI (by omega) (by omega)]; omega
        have ef : vfC k (.inr (.inl M16)) = some (if vTn v' = 0 ∨ vSn v' = 0 then nI (sk τ a') else -1, M16) := by
          show some ((if (M16.1 k 0 : Int32) ≤ (0 : Int32) then M16.1 1 2 else if (M16.1 k 1 : Int32) ≤ (0 : Int32) then M16.1 1 2 else (-1) : Int32), M16) = _
          rw [hc16.1, hc16.2.1, c1.2.1]
          have hT := hz (vTn v') (by have := k3.1; omega)
          have hS := hz (vSn v') (by have := k3.2.1; omega)
          by_cases hT0 : vTn v' = 0
          · rw [if_pos (hT.mpr hT0), if_pos (.inl hT0)]
          · rw [if_neg (fun h => hT0 (hT.mp h))]
            by_cases hS0 : vSn v' = 0
            · rw [if_pos (hS.mpr hS0), if_pos (.inr hS0)]
            · rw [if_neg (fun h => hS0 (hS.mp h)), if_neg (by rintro (h | h); exact hT0 h; exact hS0 h)]
        refine ⟨_, _, ef, rfl, rfl, fC1, fM1.tr (g2.mono (fun b j hb => .inl hb)), fun g => ?_⟩
        by_cases hb : vTn v' = 0 ∨ vSn v' = 0
        · have g : (if vTn v' = 0 ∨ vSn v' = 0 then nI (sk τ a') else -1) = -1 := g
          rw [if_pos hb] at g
          exact absurd g (nI_m1 (by omega))
        · have hok : vOK v' := vPk_ok k3 (by omega) (by omega)
          exact ⟨v', ⟨hok, hc16⟩, ⟨hok, vcM_fr hm21 g2⟩⟩
      · rw [if_neg hc1] at eC0
        by_cases h59 : cb τ (sk τ a') = 59
        · rw [if_pos h59] at eC0 eM0
          by_cases h10 : c = 10
          · rw [if_pos (by rw [h10]; rfl)] at eC0
            rw [if_pos (by rw [h10]; decide)] at eM0
            exact hend hc1 eC0 eM0
          · rw [if_neg (by rw [show (10 : Int32) = nI 10 from rfl, nI_eq (by omega) (by omega)]; exact h10), nI_1] at eC0
            rw [if_neg (by rw [show (10 : Int32) = nI 10 from rfl, nI_leI (by omega) (by omega)]; omega)] at eM0
            have hlt := cb_lt hc1
            obtain ⟨i1, i2⟩ := incT c1 hlt
            obtain ⟨j1, j2⟩ := incTM m1
            obtain ⟨x1, y1, g1, g2, g3, g4, g5, g6⟩ := ih (c := c + 1) (by omega) (by omega) i1 j1 k3 (vcC_fr hk hc16 (at_aC i2)) (vcM_fr hm21 (at_aM j2))
            obtain ⟨N23, g7, g8⟩ := Option.bind_eq_some_iff.mp g2
            rw [g7, Option.bind_some, nI_1] at eM0
            rw [qlp_inl eC0, qlp_inl eM0]
            exact ⟨x1, y1, g1, g8, g3, (fC1.tr ((at_aC i2).mono (fun b j hb => .inl hb))).tr g4, (fM1.tr ((at_aM j2).mono (fun b j hb => .inl hb))).tr g5, g6⟩
        · rw [if_neg h59] at eC0 eM0
          exact hend hc1 eC0 eM0
    · have z1' : z = false := z1
      subst z1'
      have k1 : dC M13 τ 0 w := k1
      have eC : vbC k (nI c, M) = some (.inr (.inl M13)) := by
        show (if (10 : Int32) < nI c then _ else _) = _
        rw [if_neg hg, e1]
        rfl
      have eM' : vbM (nI n) (nI c, N6) = some (.inr N6) := if_neg (eM_w k2)
      rw [qlp_inr eC, qlp_inr eM', Option.bind_some, Option.bind_some, vE_e k2]
      refine ⟨(M13.1 1 3, M13), _, rfl, rfl, k1.2.2.1, f1, f2, fun g => ?_⟩
      have g : M13.1 1 3 = -1 := g
      rw [k1.2.2.1] at g
      exact absurd g (nI_m1 (by have := k1.2.2.2; omega))
    · have z1' : z = false := z1
      subst z1'
      have k1 : dC M13 τ 0 a' := k1
      have eC : vbC k (nI c, M) = some (.inr (.inl M13)) := by
        show (if (10 : Int32) < nI c then _ else _) = _
        rw [if_neg hg, e1]
        rfl
      obtain ⟨N21, e4, m1, m2⟩ := lookT k0 k2
      rw [k3] at e4 m1
      have eM' : vbM (nI n) (nI c, N6) = some (.inr N21) := by
        show (if (N6.1 91 4 : Int32) = ((-1) : Int32) then _ else _) = _
        rw [if_pos k2.2.2, e4, Option.bind_some]
        exact if_neg k5
      obtain ⟨N1, g1, g2⟩ := vE_o (p0 := nI n) k0 m1 (by rw [k3]; exact k4)
      rw [qlp_inr eC, qlp_inr eM', Option.bind_some, Option.bind_some, g1, k3]
      refine ⟨(M13.1 1 3, M13), _, rfl, rfl, k1.2.2.1, f1, (f2.tr ((at_aM m2).mono (fun b j hb => .inl hb))).tr (g2.mono (fun b j hb => .inl hb)), fun g => ?_⟩
      have g : M13.1 1 3 = -1 := g
      rw [k1.2.2.1] at g
      exact absurd g (nI_m1 (by omega))
theorem village_rd {τ : tT} {k n : Nat} {M N : qM} (hT : tOK τ) (hk : 12 ≤ k) (hn : n < 5) (ha1 : q_al (k + 1) = 16) (ha2 : q_al (k + 2) = 24) (ha3 : q_al (k + 3) = 20) (hC : rTC M τ) (hM : rTM N τ) : w2 (jVr_read k M) (jMd_readVillage (nI n) N) (VP k n M N) := by
  rw [vread_eC, vread_eM hn]
  have fC0 : fr (vrC k) M (qI (qI (qI (qI (qI M 1 2 0) 1 3 (-1)) k 0 0) k 1 0) k 2 0) := by
    refine (fr_I ?_).tr ((fr_I ?_).tr ((fr_I ?_).tr ((fr_I ?_).tr (fr_I ?_))))
    · exact .inl ⟨rfl, .inl rfl⟩
    · exact .inl ⟨rfl, .inr rfl⟩
    · exact .inr (.inl ⟨rfl, by omega⟩)
    · exact .inr (.inl ⟨rfl, by omega⟩)
    · exact .inr (.inl ⟨rfl, by omega⟩)
  have fM0 : fr (vrM n) N (qI (qI (qI (qI (qI N 91 3 0) 91 4 (-1)) 102 n 0) 103 n 0) 104 n 0) := by
    refine (fr_I ?_).tr ((fr_I ?_).tr ((fr_I ?_).tr ((fr_I ?_).tr (fr_I ?_))))
    · exact .inl ⟨rfl, .inl rfl⟩
    · exact .inl ⟨rfl, .inr rfl⟩
    · exact .inr (.inl ⟨.inl rfl, rfl⟩)
    · exact .inr (.inl ⟨.inr (.inl rfl), rfl⟩)
    · exact .inr (.inl ⟨.inr (.inr rfl), rfl⟩)
  have k1 : ¬ 1 = k := by omega
  have k2 : ¬ 2 = k := by omega
  have hC' : tC (qI (qI (qI (qI (qI M 1 2 0) 1 3 (-1)) k 0 0) k 1 0) k 2 0) τ 0 := by
    refine ⟨⟨?_, hC.2.1, fun j hj => ?_⟩, ?_, by omega⟩
    · simp [qI_1, k1, hC.1]
    · simp [qI_1, k2, hC.2.2 j hj]
    · simp [qI_1, k1]; rfl
  have hM' : tM (qI (qI (qI (qI (qI N 91 3 0) 91 4 (-1)) 102 n 0) 103 n 0) 104 n 0) τ 0 := by
    refine ⟨⟨?_, hM.2.1, fun j hj => ?_⟩, ?_, ?_⟩
    · simp [qI_1, hM.1]
    · simp [qI_1, hM.2.2 j hj]
    · simp [qI_1]; rfl
    · simp [qI_1]
  have hv0 : vPk (0, 0, fun _ _ => 0, fun _ _ => 0) := ⟨Nat.zero_le _, Nat.zero_le _, Nat.zero_le _, fun t ht => absurd ht (Nat.not_lt_zero t), fun t ht => absurd ht (Nat.not_lt_zero t)⟩
  have hc0 : vcC (qI (qI (qI (qI (qI M 1 2 0) 1 3 (-1)) k 0 0) k 1 0) k 2 0) k (0, 0, fun _ _ => 0, fun _ _ => 0) := by
    refine ⟨?_, ?_, ?_, fun t ht => absurd ht (Nat.not_lt_zero t), fun t ht => absurd ht (Nat.not_lt_zero t), fun t ht => absurd ht (Nat.not_lt_zero t)⟩
    · simp [qI_1]; rfl
    · simp [qI_1]; rfl
    · simp [qI_1]; rfl
  have hm0 : vcM (qI (qI (qI (qI (qI N 91 3 0) 91 4 (-1)) 102 n 0) 103 n 0) 104 n 0) n (0, 0, fun _ _ => 0, fun _ _ => 0) := by
    refine ⟨?_, ?_, ?_, fun t ht => absurd ht (Nat.not_lt_zero t), fun t ht => absurd ht (Nat.not_lt_zero t)⟩
    · simp [qI_1]; rfl
    · simp [qI_1]; rfl
    · simp [qI_1]; rfl
  obtain ⟨x, y, g1, g2, g3, g4, g5, g6⟩ := vloop hT hk hn ha1 ha2 ha3 _ (c := 1) (Nat.lt_succ_self _) (by omega) hC' hM' hv0 hc0 hm0
  exact ⟨x, y, g1, g2, g3, fC0.tr g4, fM0.tr g5, g6⟩
