/-! ===== a part of a village's text ===== -/
def vrC (k b j : Nat) : Prop := aC b j ∨ (b = k ∧ j < 3) ∨ b = k + 1 ∨ b = k + 2 ∨ b = k + 3
def vrM (n b j : Nat) : Prop := aM b j ∨ ((b = 102 ∨ b = 103 ∨ b = 104) ∧ j = n) ∨ (b = 105 ∧ 16 * n ≤ j ∧ j < 16 * n + 16) ∨ (b = 106 ∧ 24 * n ≤ j ∧ j < 24 * n + 24)
def vPk (v : vT) : Prop := vTn v ≤ 4 ∧ vSn v ≤ 6 ∧ vP v ≤ 20 ∧ (∀ t, t < vTn v → ∀ w, w < 4 → iLo true w ≤ vTi v t w ∧ vTi v t w ≤ iHi true w) ∧ (∀ s, s < vSn v → ∀ w, w < 4 → iLo false w ≤ vSi v s w ∧ vSi v s w ≤ iHi false w)
def vcC (M : qM) (k : Nat) (v : vT) : Prop := M.1 k 0 = nI (vTn v) ∧ M.1 k 1 = nI (vSn v) ∧ M.1 k 2 = nI (vP v) ∧ (∀ t, t < vTn v → ∀ w, w < 4 → M.1 (k + 1) (4 * t + w) = nI (vTi v t w)) ∧ (∀ s, s < vSn v → ∀ w, w < 4 → M.1 (k + 2) (4 * s + w) = nI (vSi v s w)) ∧ (∀ p, p < vP v → M.1 (k + 3) p = nI (vof v p))
def vcM (M : qM) (n : Nat) (v : vT) : Prop := M.1 102 n = nI (vTn v) ∧ M.1 103 n = nI (vSn v) ∧ M.1 104 n = nI (vP v) ∧ (∀ t, t < vTn v → ∀ w, w < 4 → M.1 105 (4 * (4 * n + t) + w) = nI (vTi v t w)) ∧ (∀ s, s < vSn v → ∀ w, w < 4 → M.1 106 (4 * (6 * n + s) + w) = nI (vSi v s w))
theorem vPk_ok {v : vT} (h : vPk v) (h1 : 1 ≤ vTn v) (h2 : 1 ≤ vSn v) : vOK v := by
  obtain ⟨a, b, c, d, e⟩ := h
  refine ⟨⟨h1, a⟩, ⟨h2, b⟩, c, fun t ht => ?_, fun s hs => ?_⟩
  · have h0 := d t ht 0 (by omega)
    have h1 := d t ht 1 (by omega)
    have h2 := d t ht 2 (by omega)
    have h3 := d t ht 3 (by omega)
    exact ⟨h0, h1, h2.2, h3.2⟩
  · have h0 := e s hs 0 (by omega)
    have h1 := e s hs 1 (by omega)
    have h2 := e s hs 2 (by omega)
    have h3 := e s hs 3 (by omega)
    exact ⟨h0, h1.2, h2.2, h3.2⟩
/-- one thing more, one sort more -/
def vAT (v : vT) (it : Nat → Nat) : vT := (v.1 + 1, v.2.1, fun t w => if t = v.1 then it w else v.2.2.1 t w, v.2.2.2)
def vAS (v : vT) (it : Nat → Nat) : vT := (v.1, v.2.1 + 1, v.2.2.1, fun s w => if s = v.2.1 then it w else v.2.2.2 s w)
theorem vAS_Cs {v : vT} {it : Nat → Nat} {s : Nat} (h : s ≤ vSn v) : vCs (vAS v it) s = vCs v s := by
  unfold vCs
  refine sumN_congr (fun i hi => ?_)
  show (if i = v.2.1 then it 0 else v.2.2.2 i 0) = _
  rw [if_neg (by unfold vSn at h; omega)]
  rfl
theorem vAS_P (v : vT) (it : Nat → Nat) : vP (vAS v it) = vP v + it 0 := by
  show vCs (vAS v it) (vSn v + 1) = _
  rw [vCs_S, vAS_Cs (Nat.le_refl _)]
  show vCs v (vSn v) + (if v.2.1 = v.2.1 then it 0 else v.2.2.2 _ 0) = _
  rw [if_pos rfl]
  rfl
theorem vAS_of {v : vT} {it : Nat → Nat} {p : Nat} (h : p < vP v) : vof (vAS v it) p = vof v p := by
  obtain ⟨h1, h2, h3⟩ := vof_spec h
  refine vof_uniq (v := vAS v it) (show vof v p < vSn v + 1 by omega) (by rw [vAS_Cs (by omega)]; exact h2) (by rw [vAS_Cs (by omega)]; exact h3)
theorem vAS_of2 {v : vT} {it : Nat → Nat} {p : Nat} (h1 : vP v ≤ p) (h2 : p < vP v + it 0) : vof (vAS v it) p = vSn v := by
  refine vof_uniq (v := vAS v it) (show vSn v < vSn v + 1 by omega) (by rw [vAS_Cs (Nat.le_refl _)]; exact h1) ?_
  have := vAS_P v it
  unfold vP at this
  rw [show vSn (vAS v it) = vSn v + 1 from rfl] at this
  rw [this]
  exact h2
theorem vAT_P (v : vT) (it : Nat → Nat) : vP (vAT v it) = vP v := rfl
theorem vAT_of (v : vT) (it : Nat → Nat) (p : Nat) : vof (vAT v it) p = vof v p := rfl
/-! the reference's pieces -/
noncomputable def usB (z4 : Bool) (a8 : Nat) (x9 : Int32) : (Int32 × qM) → Option ((Int32 × qM) ⊕ qM) :=
      fun q => qu2 q fun x10 M11 =>
      if (4 : Int32) ≤ (x10 : Int32) then
        some (.inr M11)
      else
        (qwI M11 a8 (q_al a8) (x9 + x10) (jMd_usual z4 x10)).bind fun M46 =>
        qlt (x10 + 1 : Int32) fun x47 =>
        some (.inl (x47, M46))
theorem us_wp {z : Bool} {B Y : Nat} {N : qM} (hB2 : Y + 4 ≤ q_al B) (hB3 : q_al B ≤ 1000) : wp (qlp (usB z B (nI Y)) (0, N)) (fun o => (∀ w, w < 4 → o.1 B (Y + w) = nI (iUs z w)) ∧ fr (fun b j => b = B ∧ Y ≤ j ∧ j < Y + 4) N o) := by
  refine wp_for (fun k s => ∃ N', s = (nI k, N') ∧ (∀ w, w < k → N'.1 B (Y + w) = nI (iUs z w)) ∧ fr (fun b j => b = B ∧ Y ≤ j ∧ j < Y + 4) N N') 4 ⟨N, rfl, fun w hw => by omega, fr_rf _ _⟩ (fun k s hk hs => ?_) (fun s hs => ?_)
  · obtain ⟨N', rfl, h1, h2⟩ := hs
    refine wp_in (by show ¬ (4 : Int32) ≤ nI k; rw [show (4 : Int32) = nI 4 from rfl, nI_leI (by omega) (by omega)]; omega) (wp_bd (wp_wI (t := Y + k) (by rw [nI_add]) (by omega) (by omega) (wp_some ?_)))
    refine ⟨_, by rw [nI_1], fun w hw => ?_, h2.tr (fr_I ⟨rfl, by omega, by omega⟩)⟩
    rw [qI_1]
    by_cases hwk : w = k
    · subst hwk
      rw [if_pos ⟨rfl, rfl⟩]
      exact (sv_us z hk).2
    · rw [if_neg (by omega)]
      exact h1 w (by omega)
  · obtain ⟨N', rfl, h1, h2⟩ := hs
    exact ⟨.inr N', rfl, h1, h2⟩
noncomputable def prR (p0 : Int32) (M26 : qM) : Option qM :=
    (jMd_look M26).bind fun w27 =>
    qu2 w27 fun r28 M29 =>
    (qrI M29 104 5 p0).bind fun v30 =>
    qlt ((
      if (v30 : Int32) ≤ (20 : Int32) then
        M29
      else
        qlt (jMd_bad M29) fun M32 =>
        M32) : qM) fun M31 =>
    some M31
noncomputable def prE (z4 : Bool) (a8 : Nat) (x9 p0 : Int32) (M16 : qM) : Option qM :=
    (qrI M16 102 5 p0).bind fun v18 =>
    qlt ((
      if (b2i z4 : Int32) = (0 : Int32) then
        false
      else
        true) : Bool) fun z19 =>
    (qwI M16 102 5 p0 (v18 + (b2i z19))).bind fun M20 =>
    (qrI M20 103 5 p0).bind fun v21 =>
    qlt ((
      if (b2i z4 : Int32) = (0 : Int32) then
        true
      else
        false) : Bool) fun z22 =>
    (qwI M20 103 5 p0 (v21 + (b2i z22))).bind fun M23 =>
    (qrI M23 104 5 p0).bind fun v24 =>
    ((
      if (b2i z4 : Int32) = (0 : Int32) then
        (qrI M23 a8 (q_al a8) x9).bind fun v33 =>
        some v33
      else
        some 0) : Option Int32).bind fun x25 =>
    (qwI M23 104 5 p0 (v24 + x25)).bind fun M26 =>
    prR p0 M26
def pr1 (z : Bool) (n : Nat) (N : qM) : qM := qI N 102 n (N.1 102 n + b2i z)
def pr2 (z : Bool) (n : Nat) (N : qM) : qM := qI (pr1 z n N) 103 n ((pr1 z n N).1 103 n + b2i (!z))
def prN (z : Bool) (B Y n : Nat) (N : qM) : qM := qI (pr2 z n N) 104 n ((pr2 z n N).1 104 n + cond z 0 ((pr2 z n N).1 B Y))
theorem prE_go {z : Bool} {B Y n : Nat} {N : qM} {Q : qM → Prop} (hn : n < 5) (hB2 : Y < q_al B) (hB3 : q_al B ≤ 1000) (h : wp (prR (nI n) (prN z B Y n N)) Q) : wp (prE z B (nI Y) (nI n) N) Q := by
  unfold prE
  cases z with
  | true =>
    refine wp_bd (wp_rI rfl hn (by decide) (wp_bd (wp_wI rfl hn (by decide) (wp_bd (wp_rI rfl hn (by decide) (wp_bd (wp_wI rfl hn (by decide) (wp_bd (wp_rI rfl hn (by decide) (wp_bd ?_))))))))))
    refine wp_in tt0 (wp_some ?_)
    exact wp_bd (wp_wI rfl hn (by decide) h)
  | false =>
    refine wp_bd (wp_rI rfl hn (by decide) (wp_bd (wp_wI rfl hn (by decide) (wp_bd (wp_rI rfl hn (by decide) (wp_bd (wp_wI rfl hn (by decide) (wp_bd (wp_rI rfl hn (by decide) (wp_bd ?_))))))))))
    refine wp_ip ff0 (wp_bd (wp_rI rfl hB2 (by omega) (wp_some ?_)))
    exact wp_bd (wp_wI rfl hn (by decide) h)
def cM (n b j : Nat) : Prop := (b = 102 ∨ b = 103 ∨ b = 104) ∧ j = n
theorem prN_fr (z : Bool) (B Y n : Nat) (N : qM) : fr (cM n) N (prN z B Y n N) := (fr_I ⟨.inl rfl, rfl⟩).tr ((fr_I ⟨.inr (.inl rfl), rfl⟩).tr (fr_I ⟨.inr (.inr rfl), rfl⟩))
theorem prN_v {z : Bool} {B Y n T S P u : Nat} {N : qM} (hB : 104 < B) (h1 : N.1 102 n = nI T) (h2 : N.1 103 n = nI S) (h3 : N.1 104 n = nI P) (h4 : z = false → N.1 B Y = nI u) : (prN z B Y n N).1 102 n = nI (T + cond z 1 0) ∧ (prN z B Y n N).1 103 n = nI (S + cond z 0 1) ∧ (prN z B Y n N).1 104 n = nI (P + cond z 0 u) := by
  unfold prN pr2 pr1
  cases z with
  | true => refine ⟨?_, ?_, ?_⟩ <;> simp [qI_1, h1, h2, h3, b2i, nI_1, Int32.add_zero]
  | false =>
    have h4 := h4 rfl
    refine ⟨?_, ?_, ?_⟩
    · simp [qI_1, h1, b2i, Int32.add_zero]
    · simp [qI_1, h2, b2i, nI_1]
    · simp [qI_1, h3, h4, show ¬ B = 102 by omega, show ¬ B = 103 by omega, nI_add]
theorem lookE {M : qM} {τ : tT} {w : Nat} (h : eM M τ w) : ∃ r M1, jMd_look M = some (r, M1) ∧ eM M1 τ w ∧ fr atM M M1 := by
  obtain ⟨a, h1, h2⟩ := h.2.2.2
  obtain ⟨⟨r, M1⟩, e, g1, g2, g3⟩ := look_wp _ (Nat.le_refl _) h.1 h1 h2
  exact ⟨r, M1, e, ⟨rTM_fr h.1 g3 (by rintro ⟨_, h⟩; omega) (by rintro j ⟨h, _⟩; omega), by rw [(g3 91 4 (by rintro ⟨_, h⟩; omega)).1]; exact h.2.1, h.2.2.1, _, g2, (sk_le h2).2⟩, g3⟩
theorem prR_t {M : qM} {τ : tT} {a n P : Nat} (hn : n < 5) (hl : a ≤ τ.1) (h : tM M τ a) (h3 : M.1 104 n = nI P) (hP : P < 100000) : wp (prR (nI n) M) (fun o => fr aM M o ∧ (P ≤ 20 → tM o τ (sk τ a)) ∧ (20 < P → eM o τ (sk τ a))) := by
  obtain ⟨M1, e, m1, m2⟩ := lookT hl h
  have hsk := sk_le hl
  unfold prR
  refine wp_be e (wp_bd (wp_rI rfl hn (by decide) (wp_lt (fun M31 hM => wp_some ?_))))
  rw [(m2 104 n (by rintro ⟨h, _⟩; omega)).1, h3] at hM
  by_cases hp : P ≤ 20
  · rw [if_pos (show nI P ≤ (20 : Int32) from nI_le (b := 20) hp (by omega))] at hM
    subst hM
    exact ⟨at_aM m2, fun _ => m1, fun g => by omega⟩
  · rw [if_neg (by rw [show (20 : Int32) = nI 20 from rfl, nI_leI (by omega) (by omega)]; exact hp)] at hM
    have hM : M31 = jMd_bad M1 := hM
    subst hM
    obtain ⟨f1, f2⟩ := badT m1 hsk.2
    exact ⟨(at_aM m2).tr f2, fun g => absurd g hp, fun _ => f1⟩
theorem prR_e {M : qM} {τ : tT} {w n : Nat} (hn : n < 5) (h : eM M τ w) : wp (prR (nI n) M) (fun o => fr aM M o ∧ eM o τ w) := by
  obtain ⟨r, M1, e, m1, m2⟩ := lookE h
  unfold prR
  refine wp_be e (wp_bd (wp_rI rfl hn (by decide) (wp_lt (fun M31 hM => wp_some ?_))))
  by_cases hp : M1.1 104 n ≤ 20
  · rw [if_pos hp] at hM
    subst hM
    exact ⟨at_aM m2, m1⟩
  · rw [if_neg hp] at hM
    have hM : M31 = jMd_bad M1 := hM
    subst hM
    obtain ⟨f1, f2⟩ := bad_eM m1
    exact ⟨(at_aM m2).tr f2, f1⟩
/-! the class's pieces -/
theorem addG {M : qM} {f : Nat → Int32} {A X L : Nat} (h : X + 4 ≤ L) (hL : L ≤ 1000) : qct M f 4 0 A L (nI X) 4 = some (qcpT M f 0 A X 4) := by
  unfold qct
  have e4 : (4 : Int32).toNatClampNeg = 4 := rfl
  have e0 : (0 : Int32).toNatClampNeg = 0 := rfl
  rw [nI_clamp (by omega), e4, e0, if_pos]
  refine ⟨by decide, ?_, by decide, by omega, h⟩
  rw [show (0 : Int32) = nI 0 from rfl, nI_leI (by omega) (by omega)]
  omega
theorem cpT_1 {M : qM} {f : Nat → Int32} {A X w : Nat} (h : w < 4) : (qcpT M f 0 A X 4).1 A (X + w) = f w := by
  show (if A = A ∧ X ≤ X + w ∧ X + w < X + 4 then f (0 + (X + w - X)) else _) = _
  rw [if_pos ⟨rfl, by omega, by omega⟩, Nat.zero_add, Nat.add_sub_cancel_left]
theorem fr_cpT {S : Nat → Nat → Prop} {M : qM} {f : Nat → Int32} {A X : Nat} (h : ∀ j, X ≤ j → j < X + 4 → S A j) : fr S M (qcpT M f 0 A X 4) := by
  intro b j hb
  refine ⟨?_, rfl, rfl⟩
  show (if b = A ∧ X ≤ j ∧ j < X + 4 then _ else _) = _
  rw [if_neg]
  rintro ⟨rfl, h1, h2⟩
  exact hb (h j h1 h2)
theorem addThing_eq {M : qM} {k T : Nat} (h : M.1 k 0 = nI T) (hT : T < 4) : ∃ M1, jVi_addThing k M = some (nI (4 * T), M1) ∧ M1.1 k 0 = nI (T + 1) ∧ (∀ w, w < 4 → M1.1 (k + 1) (4 * T + w) = nI (iUs true w)) ∧ fr (fun b j => (b = k ∧ j = 0) ∨ (b = k + 1 ∧ 4 * T ≤ j ∧ j < 4 * T + 4)) M M1 := by
  have e : M.1 k 0 * 4 = nI (4 * T) := by rw [h, show (4 : Int32) = nI 4 from rfl, nI_mul, Nat.mul_comm]
  refine ⟨qI (qcpT M (q_sv 0) 0 (k + 1) (4 * T) 4) k 0 (nI (T + 1)), ?_, by rw [qI_1, if_pos ⟨rfl, rfl⟩], fun w hw => ?_, ?_⟩
  · unfold jVi_addThing qlt
    rw [e]
    show ((qct M (q_sv 0) 4 0 (k + 1) 16 (nI (4 * T)) 4).bind _) = _
    rw [addG (by omega) (by omega), Option.bind_some]
    have e2 : (qcpT M (q_sv 0) 0 (k + 1) (4 * T) 4).1 k 0 = nI T := by
      show (if k = k + 1 ∧ _ then _ else _) = _
      rw [if_neg (by omega)]; exact h
    rw [e2, nI_1]
  · rw [qI_1, if_neg (by omega), cpT_1 hw]
    exact (sv_us true hw).1
  · exact (fr_cpT (fun j h1 h2 => .inr ⟨rfl, h1, h2⟩)).tr (fr_I (.inl ⟨rfl, rfl⟩))
theorem addSort_eq {M : qM} {k T : Nat} (h : M.1 k 1 = nI T) (hT : T < 6) : ∃ M1, jVi_addSort k M = some (nI (4 * T), M1) ∧ M1.1 k 1 = nI (T + 1) ∧ (∀ w, w < 4 → M1.1 (k + 2) (4 * T + w) = nI (iUs false w)) ∧ fr (fun b j => (b = k ∧ j = 1) ∨ (b = k + 2 ∧ 4 * T ≤ j ∧ j < 4 * T + 4)) M M1 := by
  have e : M.1 k 1 * 4 = nI (4 * T) := by rw [h, show (4 : Int32) = nI 4 from rfl, nI_mul, Nat.mul_comm]
  refine ⟨qI (qcpT M (q_sv 1) 0 (k + 2) (4 * T) 4) k 1 (nI (T + 1)), ?_, by rw [qI_1, if_pos ⟨rfl, rfl⟩], fun w hw => ?_, ?_⟩
  · unfold jVi_addSort qlt
    rw [e]
    show ((qct M (q_sv 1) 4 0 (k + 2) 24 (nI (4 * T)) 4).bind _) = _
    rw [addG (by omega) (by omega), Option.bind_some]
    have e2 : (qcpT M (q_sv 1) 0 (k + 2) (4 * T) 4).1 k 1 = nI T := by
      show (if k = k + 2 ∧ _ then _ else _) = _
      rw [if_neg (by omega)]; exact h
    rw [e2, nI_1]
  · rw [qI_1, if_neg (by omega), cpT_1 hw]
    exact (sv_us false hw).1
  · exact (fr_cpT (fun j h1 h2 => .inr ⟨rfl, h1, h2⟩)).tr (fr_I (.inl ⟨rfl, rfl⟩))
theorem fill_wp {M : qM} {A P u : Nat} {v : Int32} (hA : q_al A = 20) (h : P + u ≤ 20) : wp (jJ7_fill_fda19 A (nI P) (nI (P + u)) v M) (fun o => (∀ p, P ≤ p → p < P + u → o.1 A p = v) ∧ fr (fun b j => b = A ∧ P ≤ j) M o) := by
  unfold jJ7_fill_fda19 jJ7_rangeCheck_23922
  rw [hA]
  refine wp_bd (wp_ip (nI_le (by omega) (by omega)) (wp_ip (by rw [show (0 : Int32) = nI 0 from rfl, nI_leI (by omega) (by omega)]; omega) (wp_ip (show nI (P + u) ≤ nI 20 from nI_le (by omega) (by omega)) (wp_some ?_))))
  refine wp_bd ((wp_for (fun k s => ∃ M', s = (nI (P + k), M') ∧ (∀ p, P ≤ p → p < P + k → M'.1 A p = v) ∧ fr (fun b j => b = A ∧ P ≤ j) M M') u ⟨M, rfl, fun p h1 h2 => by omega, fr_rf _ _⟩ (fun k s hk hs => ?_) (fun s hs => ?_)).mono (fun o ho => wp_some ho))
  · obtain ⟨M', rfl, h1, h2⟩ := hs
    refine wp_in (by show ¬ nI (P + u) ≤ nI (P + k); rw [nI_leI (by omega) (by omega)]; omega) (wp_bd (wp_wI (t := P + k) rfl (by omega) (by decide) (wp_some ?_)))
    refine ⟨_, by rw [nI_1, Nat.add_assoc], fun p h3 h4 => ?_, h2.tr (fr_I ⟨rfl, by omega⟩)⟩
    rw [qI_1]
    by_cases hp : p = P + k
    · rw [if_pos ⟨rfl, hp⟩]
    · rw [if_neg (by omega)]
      exact h1 p h3 (by omega)
  · obtain ⟨M', rfl, h1, h2⟩ := hs
    exact wp_ip (nI_le (Nat.le_refl _) (by omega)) (wp_some ⟨h1, h2⟩)
theorem settle_eq {M : qM} {k S P u : Nat} (hA : q_al (k + 3) = 20) (h1 : M.1 k 1 = nI (S + 1)) (h2 : M.1 k 2 = nI P) (h3 : M.1 (k + 2) (4 * S) = nI u) (hS : S < 6) (hP : P ≤ 20) (hu : u < 1000) : (P + u ≤ 20 → wp (jVi_settlePeople k M) (fun o => o.1 = true ∧ o.2.1 k 2 = nI (P + u) ∧ (∀ p, P ≤ p → p < P + u → o.2.1 (k + 3) p = nI S) ∧ fr (fun b j => (b = k ∧ j = 2) ∨ (b = k + 3 ∧ P ≤ j)) M o.2)) ∧ (20 < P + u → jVi_settlePeople k M = some (false, M)) := by
  have e1 : M.1 k 1 - 1 = nI S := by rw [h1, show (1 : Int32) = nI 1 from rfl, nI_subE (by omega)]; rfl
  have e2 : jVi_ofSort k (nI S) 0 M = some (nI u) := by
    unfold jVi_ofSort
    have e3 : nI S * 4 + 0 = nI (4 * S) := by rw [show (4 : Int32) = nI 4 from rfl, nI_mul, Int32.add_zero, Nat.mul_comm]
    simp only [qlt]
    rw [e3, if_neg (by rw [show (0 : Int32) = nI 0 from rfl, nI_ltI (by omega) (by omega)]; omega), if_neg (by rw [show (24 : Int32) = nI 24 from rfl, nI_leI (by omega) (by omega)]; omega), qrI_nI (by omega) (by decide), h3]
    rfl
  refine ⟨fun h => ?_, fun h => ?_⟩
  · unfold jVi_settlePeople
    simp only [qlt]
    rw [e1, e2, Option.bind_some, h2, nI_add, if_pos (show nI (P + u) ≤ (20 : Int32) from nI_le (b := 20) h (by omega))]
    refine wp_bd ((fill_wp hA h).mono (fun o ho => wp_some ⟨rfl, by rw [qI_1, if_pos ⟨rfl, rfl⟩], fun p g1 g2 => ?_, ?_⟩))
    · rw [qI_1, if_neg (by omega)]; exact ho.1 p g1 g2
    · exact (ho.2.mono (fun b j hb => .inr hb)).tr (fr_I (.inl ⟨rfl, rfl⟩))
  · unfold jVi_settlePeople
    simp only [qlt]
    rw [e1, e2, Option.bind_some, h2, nI_add, if_neg (by rw [show (20 : Int32) = nI 20 from rfl, nI_leI (by omega) (by omega)]; omega)]
