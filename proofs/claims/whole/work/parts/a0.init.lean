/-! ===== what the constructors leave ===== -/
noncomputable def ro0 (M : qM) : qM :=
  qlt (qI M 49 0 0) fun M1 =>
  qlt (qI M1 49 1 0) fun M2 =>
  qlt (qI M2 49 2 0) fun M3 =>
  qlt (qI M3 49 3 0) fun M4 =>
  qlt (qI M4 49 4 0) fun M5 =>
  qlt (qI M5 49 5 0) fun M6 =>
  qlt (qR M6 49 6 (some 50)) fun M7 =>
  qlt (qR M7 49 7 (some 51)) fun M8 =>
  qlt (qR M8 49 8 (some 52)) fun M9 =>
  qlt (qR M9 49 9 (some 53)) fun M10 =>
  qlt (qR M10 49 10 (some 54)) fun M11 =>
  qlt (qR M11 49 11 (some 55)) fun M12 =>
  qlt (qR M12 49 12 (some 56)) fun M13 =>
  qlt (qR M13 49 13 (some 57)) fun M14 =>
  qlt (qR M14 49 14 (some 58)) fun M15 =>
  qlt (qR M15 49 15 (some 59)) fun M16 =>
  qlt (qI M16 49 16 0) fun M17 =>
  qlt (qI M17 49 17 (-1)) fun M18 =>
  M18

/-- the powers -/
noncomputable def pwf (i : Nat) : Int64 := lN ((i / 10) ^ (i % 10))
noncomputable def roI (M : qM) : qM := sJ (ro0 M) 57 110 pwf
theorem ro_in {M0 M : qM} {x : Nat} (hx : x < 11) (hR : M.2.2 49 13 = some 57) (hM : M = sJ M0 57 (10 * x) pwf) : (qlp (σ := (Int64 × Int32 × qM)) (ρ := qM) (
        fun q => qu3 q fun x23 x24 M25 =>
        if (10 : Int32) ≤ (x24 : Int32) then
          some (.inr M25)
        else
          (M25.2.2 49 13).bind fun a29 =>
          qgd (a29 == 57) (
            (qwJ M25 57 110 ((nI x * 10) + x24) x23).bind fun M30 =>
            qlt (x23 * ((nI x : Int32).toInt64) : Int64) fun x31 =>
            qlt (x24 + 1 : Int32) fun x32 =>
            some (.inl (x31, x32, M30)))) (1, 0, M)) = some (sJ M0 57 (10 * (x + 1)) pwf) := by
  have h0 : (lN (x ^ 0), nI 0, sJ M0 57 (10 * x + 0) pwf) = ((1 : Int64), (0 : Int32), M) := by rw [hM]; rfl
  refine qlp_for0 (fun k => (lN (x ^ k), nI k, sJ M0 57 (10 * x + k) pwf)) (sJ M0 57 (10 * (x + 1)) pwf) 10 h0 (fun k hk => ?_) ?_
  · unfold qu3
    simp only
    rw [if_neg (show ¬ (10 : Int32) ≤ nI k from nI_ge (a := k) (b := 10) hk (by decide))]
    have e1 : (sJ M0 57 (10 * x + k) pwf).2.2 49 13 = some 57 := by
      rw [hM] at hR
      exact hR
    rw [e1, Option.bind_some]
    have e2 : nI x * 10 + nI k = nI (10 * x + k) := by rw [show (10 : Int32) = nI 10 from rfl, nI_mul, nI_add, Nat.mul_comm]
    have e3 : pwf (10 * x + k) = lN (x ^ k) := by
      unfold pwf
      rw [show (10 * x + k) / 10 = x by omega, show (10 * x + k) % 10 = k by omega]
    show ((qwJ (sJ M0 57 (10 * x + k) pwf) 57 110 (nI x * 10 + nI k) (lN (x ^ k))).bind _) = _
    rw [e2, qwJ_nI (by omega) (by decide), Option.bind_some]
    unfold qlt
    have e4 : lN (x ^ k) * (nI x).toInt64 = lN (x ^ (k + 1)) := by
      rw [nI_l (show x < 2147483648 by omega), lN_mul, ← Nat.pow_succ]
    rw [e4, nI_1, ← e3, sJ_S M0 57 (10 * x + k) pwf]
    rfl
  · unfold qu3
    simp only
    rw [if_pos (show (10 : Int32) ≤ nI 10 by decide), show 10 * x + 10 = 10 * (x + 1) by omega]
theorem ro_eq (M : qM) : jRo_init M = some (roI M) := by
  have key : (qlp (σ := (Int32 × qM)) (ρ := qM) (
    fun q => qu2 q fun x19 M20 =>
    if (11 : Int32) ≤ (x19 : Int32) then
      some (.inr M20)
    else
      (qlp (σ := (Int64 × Int32 × qM)) (ρ := qM) (
        fun q => qu3 q fun x23 x24 M25 =>
        if (10 : Int32) ≤ (x24 : Int32) then
          some (.inr M25)
        else
          (M25.2.2 49 13).bind fun a29 =>
          qgd (a29 == 57) (
            (qwJ M25 57 110 ((x19 * 10) + x24) x23).bind fun M30 =>
            qlt (x23 * ((x19 : Int32).toInt64) : Int64) fun x31 =>
            qlt (x24 + 1 : Int32) fun x32 =>
            some (.inl (x31, x32, M30)))) (1, 0, M20)).bind fun M26 =>
      qlt (x19 + 1 : Int32) fun x28 =>
      some (.inl (x28, M26))) (0, ro0 M)) = some (roI M) := by
    have h0 : (nI 0, sJ (ro0 M) 57 (10 * 0) pwf) = ((0 : Int32), ro0 M) := by rw [show 10 * 0 = 0 from rfl, sJ_0]; rfl
    refine qlp_for0 (fun k => (nI k, sJ (ro0 M) 57 (10 * k) pwf)) (sJ (ro0 M) 57 110 pwf) 11 h0 (fun k hk => ?_) ?_
    · unfold qu2
      simp only
      rw [if_neg (show ¬ (11 : Int32) ≤ nI k from nI_ge (a := k) (b := 11) hk (by decide)), ro_in (M0 := ro0 M) hk rfl rfl, Option.bind_some]
      unfold qlt
      rw [nI_1]
    · unfold qu2
      simp only
      rw [if_pos (show (11 : Int32) ≤ nI 11 by decide)]
  exact congrArg (fun o => Option.bind o (fun M21 => some M21)) key
noncomputable def tcF (M : qM) : Option qM :=
  qlt (jTp_init M) fun M1 =>
  qlt (qR M1 0 0 (some 1)) fun M2 =>
  (M2.2.2 0 0).bind fun a3 =>
  qgd (a3 == 1) (
    qlt (jVr_init M2) fun M4 =>
    qlt (qR M4 0 1 (some 3)) fun M5 =>
    (M5.2.2 0 0).bind fun a6 =>
    qgd (a6 == 1) (
      qlt (jWr_init M5) fun M7 =>
      qlt (qR M7 0 2 (some 4)) fun M8 =>
      qlt (qR M8 0 3 (some 5)) fun M9 =>
      qlt (qI M9 0 4 0) fun M10 =>
      (jCu_init M10).bind fun M11 =>
      qlt (qR M11 0 5 (some 6)) fun M12 =>
      qlt (jMo_init 33 M12) fun M13 =>
      qlt (qR M13 0 6 (some 33)) fun M14 =>
      qlt (jMo_init 37 M14) fun M15 =>
      qlt (qR M15 0 7 (some 37)) fun M16 =>
      qlt (jTa_init M16) fun M17 =>
      qlt (qR M17 0 8 (some 41)) fun M18 =>
      (some (roI M18)).bind fun M19 =>
      qlt (qR M19 0 9 (some 49)) fun M20 =>
      qlt (jTo_init M20) fun M21 =>
      qlt (qR M21 0 10 (some 60)) fun M22 =>
      qlt (jTr_init M22) fun M23 =>
      qlt (qR M23 0 11 (some 65)) fun M24 =>
      qlt (qI M24 0 12 1) fun M25 =>
      (M25.2.2 0 3).bind fun a26 =>
      qgd (a26 == 5) (
        (M25.2.2 0 3).bind fun a27 =>
        qgd (a27 == 5) (
          qlt (jVi_init 71 M25) fun M28 =>
          qlt (qR M28 5 (0 : Int32).toNatClampNeg (some 71)) fun M29 =>
          (M29.2.2 0 3).bind fun a30 =>
          qgd (a30 == 5) (
            (M29.2.2 0 3).bind fun a31 =>
            qgd (a31 == 5) (
              qlt (jVi_init 75 M29) fun M32 =>
              qlt (qR M32 5 (1 : Int32).toNatClampNeg (some 75)) fun M33 =>
              (M33.2.2 0 3).bind fun a34 =>
              qgd (a34 == 5) (
                (M33.2.2 0 3).bind fun a35 =>
                qgd (a35 == 5) (
                  qlt (jVi_init 79 M33) fun M36 =>
                  qlt (qR M36 5 (2 : Int32).toNatClampNeg (some 79)) fun M37 =>
                  (M37.2.2 0 3).bind fun a38 =>
                  qgd (a38 == 5) (
                    (M37.2.2 0 3).bind fun a39 =>
                    qgd (a39 == 5) (
                      qlt (jVi_init 83 M37) fun M40 =>
                      qlt (qR M40 5 (3 : Int32).toNatClampNeg (some 83)) fun M41 =>
                      (M41.2.2 0 3).bind fun a42 =>
                      qgd (a42 == 5) (
                        (M41.2.2 0 3).bind fun a43 =>
                        qgd (a43 == 5) (
                          qlt (jVi_init 87 M41) fun M44 =>
                          qlt (qR M44 5 (4 : Int32).toNatClampNeg (some 87)) fun M45 =>
                          (M45.2.2 0 3).bind fun a46 =>
                          qgd (a46 == 5) (
                            some M45)))))))))))))
theorem tc_eq (M : qM) : jTc_init M = tcF M := by
  unfold jTc_init tcF
  simp only [ro_eq]
def zM : qM := (fun _ _ => 0, fun _ _ => 0, fun _ _ => none)
noncomputable def MT : qM := (tcF zM).getD zM
theorem MT_eq : jTc_init zM = some MT := by
  rw [tc_eq]
  rfl
noncomputable def MI : qM := jMd_init MT
theorem MI_pw : ∃ A, MI.2.1 = (sJ A 57 110 pwf).2.1 := ⟨_, rfl⟩
set_option maxRecDepth 100000 in
theorem RR_init : RR MI := by
  refine ⟨0, fun _ => (0, 0, fun _ _ => 0, fun _ _ => 0), 0, fun _ => 0, fun _ => [], (0, fun _ => 0), ⟨fun j hj => absurd hj (Nat.not_lt_zero j), ⟨rfl, Nat.zero_le _, fun j hj => absurd hj (Nat.not_lt_zero j)⟩, ⟨rfl, Nat.zero_le _, fun j hj => absurd hj (Nat.not_lt_zero j)⟩⟩, ⟨⟨Nat.zero_le _, rfl, fun j hj => absurd hj (Nat.not_lt_zero j)⟩, ⟨Nat.zero_le _, rfl, fun j hj => absurd hj (Nat.not_lt_zero j)⟩⟩, ⟨⟨rfl, Nat.zero_le _, fun s _ => ⟨rfl, Nat.zero_lt_succ 5⟩, fun j hj => absurd hj (Nat.not_lt_zero j)⟩, ⟨rfl, Nat.zero_le _, fun s _ => ⟨rfl, Nat.zero_lt_succ 5⟩, fun j hj => absurd hj (Nat.not_lt_zero j)⟩⟩, .inl ⟨rfl, rfl, ?_, 55, 56, .inl ⟨rfl, rfl⟩, rfl, rfl⟩, ⟨.inl ⟨rfl, rfl⟩, 69, 70, .inl ⟨rfl, rfl⟩, rfl, rfl⟩, ⟨1, by decide, rfl, rfl⟩, ⟨.inl ⟨rfl, rfl, rfl, rfl⟩, .inl ⟨rfl, rfl⟩⟩⟩
  intro b hb e he
  obtain ⟨A, hA⟩ := MI_pw
  rw [hA, sJ_at (by omega)]
  unfold pwf
  rw [show (b * 10 + e) / 10 = b by omega, show (b * 10 + e) % 10 = e by omega]
/-- what never changes is in its place -/
theorem MI_fix : ∀ k : Fin 123, ∀ j : Fin 70, q_tg (q_kd k.1) j.1 = 3 → MI.2.2 k.1 j.1 = some (q_sr (q_kd k.1) j.1 k.1) := by decide +kernel
theorem MI_ty0 : ∀ k : Fin 123, ∀ j : Fin 70, q_tg (q_kd k.1) j.1 = 2 → ∀ v, MI.2.2 k.1 j.1 = some v → q_ok (q_kd k.1) j.1 v = true := by
  have h : ∀ k : Fin 123, ∀ j : Fin 70, q_tg (q_kd k.1) j.1 = 2 → ((MI.2.2 k.1 j.1).all (fun v => q_ok (q_kd k.1) j.1 v)) = true := by decide +kernel
  intro k j h1 v h2
  have := h k j h1
  rw [h2] at this
  exact this
theorem MI_vs : ∀ i : Fin 5, MI.2.2 5 i.1 = some (71 + 4 * i.1) := by decide +kernel
theorem MI_ws : ∀ i : Fin 7, MI.2.2 7 i.1 = some (12 + 3 * i.1) := by decide +kernel
theorem tg_b {ci j : Nat} (h : q_tg ci j = 2) : j < 70 ∧ ci < 13 := by
  unfold q_tg at h
  rcases Nat.lt_or_ge ci 13 with h2 | h2
  · refine ⟨?_, h2⟩
    have hl : (tgL.getD ci []).length ≤ 70 := (by decide : ∀ c : Fin 13, (tgL.getD c.1 []).length ≤ 70) ⟨ci, h2⟩
    rcases Nat.lt_or_ge j 70 with h1 | h1
    · exact h1
    · rw [List.getD_eq_getElem?_getD, List.getElem?_eq_none (by omega)] at h
      cases h
  · have e : tgL.getD ci [] = [] := by
      rw [List.getD_eq_getElem?_getD, List.getElem?_eq_none (by show tgL.length ≤ ci; exact h2)]
      rfl
    rw [e] at h
    cases h
theorem kd_b {k : Nat} (h : q_kd k < 99) : k < 123 := by
  rcases Nat.lt_or_ge k 123 with h1 | h1
  · exact h1
  · unfold q_kd at h
    rw [List.getD_eq_getElem?_getD, List.getElem?_eq_none (by show kdL.length ≤ k; exact h1)] at h
    exact absurd h (by decide)
theorem MI_Ty : q_Ty MI := by
  intro k j v h1 h2
  obtain ⟨hj, hc⟩ := tg_b h1
  exact MI_ty0 ⟨k, kd_b (by omega)⟩ ⟨j, hj⟩ h1 v h2
theorem MI_fs {X : qX} {k : Nat} (hk : k < 123) (hc : q_kd k < 13) : q_fs X (q_kd k) k MI = c_fs X (q_kd k) k MI := by
  have hl : (tgL.getD (q_kd k) []).length ≤ 70 := (by decide : ∀ c : Fin 13, (tgL.getD c.1 []).length ≤ 70) ⟨q_kd k, hc⟩
  unfold q_fs c_fs
  refine List.map_congr_left (fun j hj => ?_)
  have hj : j < q_nf (q_kd k) := List.mem_range.mp hj
  have hj70 : j < 70 := by unfold q_nf at hj; omega
  unfold q_fv c_fv
  by_cases h3 : q_tg (q_kd k) j = 3
  · rw [h3]
    simp only
    rw [MI_fix ⟨k, hk⟩ ⟨j, hj70⟩ h3]
    rfl
  · generalize q_tg (q_kd k) j = z at h3 ⊢
    rcases z with _ | _ | _ | _ | z
    · rfl
    · rfl
    · rfl
    · exact absurd rfl h3
    · rfl
theorem arrV_cg {cA : ClassId} {n : Nat} {f g : Nat → Value} (h : ∀ i, i < n → f i = g i) : arrV cA n f = arrV cA n g := by
  unfold arrV
  congr 1
  exact Array.ext (by simp) (fun i h1 h2 => by simp at h1 ⊢; exact h i h1)
theorem kd_all : ∀ k : Fin 123, (q_kd k.1 < 13 ∨ q_kd k.1 = 20 ∨ q_kd k.1 = 21 ∨ (q_kd k.1 = 22 ∧ k.1 = 5) ∨ (q_kd k.1 = 23 ∧ k.1 = 7)) := by decide +kernel
/-- behind the makers: the world of all calls -/
theorem c_to_q {X : qX} {B : Nat} {H : Heap} (h : c_P X B 123 MI H) : q_P X MI H := by
  refine ⟨fun k q hq => ?_, MI_Ty⟩
  have hl : k < NK := by
    have := (List.getElem?_eq_some_iff.mp hq).1
    simpa [q_W] using this
  rw [q_W_get hl] at hq
  cases hq
  have h1 := h.1 k _ (c_W_get (n := 123) hl)
  rcases kd_all ⟨k, hl⟩ with hk | hk | hk | ⟨hk, h5⟩ | ⟨hk, h7⟩
  · have hk : q_kd k < 13 := hk
    have e : q_E X MI k = c_E X MI k := by
      unfold q_E c_E
      rw [if_neg (by omega), if_neg (by omega), if_neg (by omega), if_neg (by omega), if_neg (by omega), if_neg (by omega), if_neg (by omega), if_neg (by omega), MI_fs hl hk]
    rw [e]; exact h1
  · have hk : q_kd k = 20 := hk
    have e : q_E X MI k = c_E X MI k := by
      unfold q_E c_E
      rw [if_pos hk, if_pos hk]
    rw [e]; exact h1
  · have hk : q_kd k = 21 := hk
    have e : q_E X MI k = c_E X MI k := by
      unfold q_E c_E
      rw [if_neg (by omega), if_pos hk, if_neg (by omega), if_pos hk]
    rw [e]; exact h1
  · have h5 : k = 5 := h5
    subst h5
    have e1 : H[X.1 5]? = some (vp_cell X.2.1.2.2.1 (5, .inr (.inr (.inr (.inr (fun i => (MI.2.2 5 i).map X.1)))))) := h1
    show H[X.1 5]? = some (vp_cell X.2.1.2.2.1 (5, .inr (.inr (.inr (.inr (fun i => some (X.1 (71 + 4 * i))))))))
    rw [e1, vp_cell_q, vp_cell_q]
    exact congrArg some (arrV_cg (fun i hi => by rw [MI_vs ⟨i, hi⟩]; rfl))
  · have h7 : k = 7 := h7
    subst h7
    have e1 : H[X.1 7]? = some (vp_cell X.2.1.2.2.2 (7, .inr (.inr (.inr (.inr (fun i => (MI.2.2 7 i).map X.1)))))) := h1
    show H[X.1 7]? = some (vp_cell X.2.1.2.2.2 (7, .inr (.inr (.inr (.inr (fun i => some (X.1 (12 + 3 * i))))))))
    rw [e1, vp_cell_q, vp_cell_q]
    exact congrArg some (arrV_cg (fun i hi => by rw [MI_ws ⟨i, hi⟩]; rfl))
