/-! ===== a morning told: ranks, gains, answers, as numbers ===== -/
theorem cnt_S (F : Nat → Bool) (n : Nat) : cnt F (n + 1) = cnt F n + (if F n = true then 1 else 0) := by
  simp only [cnt]
  split <;> rfl
theorem cnt_sp {A B C : Nat → Bool} {n : Nat} (h : ∀ i, i < n → (if C i = true then 1 else 0) = (if A i = true then 1 else 0) + (if B i = true then 1 else (0 : Nat))) : cnt C n = cnt A n + cnt B n := by
  induction n with
  | zero => rfl
  | succ n ih =>
    have h1 := h n (by omega)
    have h2 := ih (fun i hi => h i (by omega))
    rw [cnt_S, cnt_S, cnt_S]
    omega
theorem cnt_congr {A B : Nat → Bool} {n : Nat} (h : ∀ i, i < n → A i = B i) : cnt A n = cnt B n := by
  induction n with
  | zero => rfl
  | succ n ih => rw [cnt_S, cnt_S, ih (fun i hi => h i (by omega)), h n (by omega)]
theorem cnt_0 {A : Nat → Bool} {n : Nat} (h : ∀ i, i < n → A i = false) : cnt A n = 0 := by
  induction n with
  | zero => rfl
  | succ n ih => rw [cnt_S, ih (fun i hi => h i (by omega)), h n (by omega)]; rfl
def rk (n : Nat) (f : Nat → Int) (p m : Int) : Nat := 1 + cnt (fun o => decide ((o : Int) ≠ p ∧ f o ≠ -1 ∧ (f o < m ∨ f o = m ∧ (o : Int) < p))) n
def cm (n : Nat) (f : Nat → Int) (p m : Int) : Nat := cnt (fun o => decide ((o : Int) ≠ p ∧ f o = m)) n
def ah (n : Nat) (f : Nat → Int) (p m : Int) : Nat := cnt (fun o => decide ((o : Int) ≠ p ∧ f o ≠ -1 ∧ f o < m)) n
def sm_ (n : Nat) (f : Nat → Int) (p m : Int) : Nat := cnt (fun o => decide ((o : Int) ≠ p ∧ f o = m ∧ (o : Int) < p)) n
theorem rk_sp {n : Nat} {f : Nat → Int} {p m : Int} (hm : 0 ≤ m) : rk n f p m = 1 + sm_ n f p m + ah n f p m := by
  unfold rk sm_ ah
  rw [Nat.add_assoc]
  congr 1
  refine cnt_sp (fun i hi => ?_)
  simp only [decide_eq_true_eq]
  split <;> split <;> split <;> omega
theorem ah_S {n : Nat} {f : Nat → Int} {p m : Int} (hm : 0 ≤ m) : ah n f p (m + 1) = ah n f p m + cm n f p m := by
  unfold ah cm
  refine cnt_sp (fun i hi => ?_)
  simp only [decide_eq_true_eq]
  split <;> split <;> split <;> omega
theorem rk_le {n : Nat} {f : Nat → Int} {p m : Int} : rk n f p m ≤ n + 1 := by
  unfold rk
  have := cnt_le (fun o => decide ((o : Int) ≠ p ∧ f o ≠ -1 ∧ (f o < m ∨ f o = m ∧ (o : Int) < p))) n
  omega
def tgn (v : vT) (t : Nat) (f : Nat → Int) (p : Nat) (m : Int) : Int :=
  if m < 0 then -((vSi v (vof v p) 2 : Int) * 60) else (if vTi v t 0 ≤ rk (vP v) f p m ∧ rk (vP v) f p m < vTi v t 0 + vTi v t 1 then ((vTi v t 2 - vTi v t 3 * m.toNat : Nat) : Int) else 0) - (vSi v (vof v p) 2 : Int) * m
theorem tgn_b {v : vT} {t p : Nat} {f : Nat → Int} {m : Int} (hv : vOK v) (ht : t < vTn v) (hp : p < vP v) (hm : m ≤ 60) : -6000 ≤ tgn v t f p m ∧ tgn v t f p m ≤ 1000 := by
  have h1 := hv.2.2.2.1 t ht
  have h2 := hv.2.2.2.2 (vof v p) (vof_spec hp).1
  unfold tgn
  by_cases h0 : m < 0
  · rw [if_pos h0]
    omega
  · rw [if_neg h0]
    have h3 : (vSi v (vof v p) 2 : Int) * m ≤ 99 * 60 := Int.mul_le_mul (by omega) hm (by omega) (by omega)
    have h4 : 0 ≤ (vSi v (vof v p) 2 : Int) * m := Int.mul_nonneg (by omega) (by omega)
    split <;> omega
def bst (g : Int → Int) : Nat → Int × Int
  | 0 => (0, g 0)
  | k + 1 => if g ((k : Int) + 1) ≤ (bst g k).2 then bst g k else ((k : Int) + 1, g ((k : Int) + 1))
theorem bst_b (g : Int → Int) (k : Nat) : 0 ≤ (bst g k).1 ∧ (bst g k).1 ≤ k ∧ (bst g k).2 = g (bst g k).1 := by
  induction k with
  | zero => exact ⟨Int.le_refl _, Int.le_refl _, rfl⟩
  | succ k ih =>
    simp only [bst]
    split
    · exact ⟨ih.1, by omega, ih.2.2⟩
    · refine ⟨?_, ?_, rfl⟩
      · show (0 : Int) ≤ (k : Int) + 1
        omega
      · show (k : Int) + 1 ≤ ((k + 1 : Nat) : Int)
        omega
def ansI (g : Int → Int) : Int := if g (-1) ≤ (bst g 60).2 then (bst g 60).1 else -1
theorem ansI_b (g : Int → Int) : -1 ≤ ansI g ∧ ansI g ≤ 60 := by
  have h := bst_b g 60
  unfold ansI
  split <;> omega
theorem bst_congr {g g' : Int → Int} (h : ∀ m, -1 ≤ m → m ≤ 60 → g m = g' m) : ∀ k, k ≤ 60 → bst g k = bst g' k := by
  intro k
  induction k with
  | zero => intro _; simp only [bst]; rw [h 0 (by omega) (by omega)]
  | succ k ih => intro hk; simp only [bst]; rw [ih (by omega), h _ (by omega) (by omega)]
theorem ansI_congr {g g' : Int → Int} (h : ∀ m, -1 ≤ m → m ≤ 60 → g m = g' m) : ansI g = ansI g' := by
  unfold ansI
  rw [bst_congr h 60 (by omega), h (-1) (by omega) (by omega)]
def trg (v : vT) (t : Nat) (f : Nat → Int) (p : Nat) : Int := tgn v t f p (ansI (tgn v t f p)) - tgn v t f p (f p)
def upI (f : Nat → Int) (p : Nat) (x : Int) : Nat → Int := fun o => if o = p then x else f o
theorem rk_up {n p : Nat} {f : Nat → Int} {m x : Int} : rk n (upI f p x) p m = rk n f p m := by
  unfold rk
  congr 1
  refine cnt_congr (fun i hi => ?_)
  by_cases h : i = p
  · subst h; simp
  · simp [upI, h]
theorem tgn_up {v : vT} {t p : Nat} {f : Nat → Int} {m x : Int} : tgn v t (upI f p x) p m = tgn v t f p m := by
  unfold tgn
  rw [rk_up]
theorem rk_ext {n : Nat} {f f' : Nat → Int} {p m : Int} (h : ∀ o, o < n → f o = f' o) : rk n f p m = rk n f' p m := by
  unfold rk
  congr 1
  exact cnt_congr (fun i hi => by rw [h i hi])
theorem tgn_ext {v : vT} {t p : Nat} {f f' : Nat → Int} (h : ∀ o, o < vP v → f o = f' o) : tgn v t f p = tgn v t f' p := by
  funext m
  unfold tgn
  rw [rk_ext h]
/-! ===== the class's side ===== -/
def tdC (M : qM) (k : Nat) (v : vT) (t : Nat) (f : Nat → Int) : Prop := rVC M k v ∧ 71 ≤ k ∧ M.2.2 60 0 = some k ∧ M.1 60 1 = nI t ∧ t < vTn v ∧ ∀ o, o < 20 → M.1 61 o = iI (f o) ∧ -1 ≤ f o ∧ f o ≤ 60
def sRk (b j : Nat) : Prop := b = 63 ∨ b = 64
theorem tdC_fr {M M1 : qM} {k : Nat} {v : vT} {t : Nat} {f : Nat → Int} {S : Nat → Nat → Prop} (h : tdC M k v t f) (g : fr S M M1) (h1 : ∀ b j, 71 ≤ b → ¬ S b j) (h2 : ∀ j, j < 2 → ¬ S 60 j) (h3 : ∀ j, ¬ S 61 j) : tdC M1 k v t f := by
  obtain ⟨a1, a2, a3, a4, a5, a6⟩ := h
  exact ⟨rVC_fr a1 g (fun b j hb _ => h1 b j (by omega)), a2, by rw [(g 60 0 (h2 0 (by omega))).2.2]; exact a3, by rw [(g 60 1 (h2 1 (by omega))).1]; exact a4, a5, fun o ho => by rw [(g 61 o (h3 o)).1]; exact a6 o ho⟩
theorem tdC_rk {M M1 : qM} {k : Nat} {v : vT} {t : Nat} {f : Nat → Int} (h : tdC M k v t f) (g : fr sRk M M1) : tdC M1 k v t f :=
  tdC_fr h g (fun b j hb => by unfold sRk; omega) (fun j _ => by simp [sRk]) (fun j => by simp [sRk])
theorem iI_isOf {m : Int} (h1 : -1 ≤ m) (h2 : m ≤ 60) : jTc_isOf (iI m) 61 = decide (0 ≤ m) := by
  rw [Bool.eq_iff_iff, isOf_iff, iI_toInt (by omega) (by omega), decide_eq_true_eq]
  have : (61 : Int32).toInt = 61 := rfl
  omega
theorem iI_nat {m : Int} (h : 0 ≤ m) : iI m = nI m.toNat := iI_nI h
theorem rankB_wp {M : qM} {k : Nat} {v : vT} {t : Nat} {f : Nat → Int} {p : Int} (h : tdC M k v t f) (hp1 : -1 ≤ p) (hp2 : p < 20) :
    wp (jTo_rankBesideOthers (iI p) M) (fun M' => (∀ m, m < 61 → M'.1 64 m = nI (rk (vP v) f p m)) ∧ (∀ m, m < 61 → M'.1 63 m = nI (cm (vP v) f p m)) ∧ fr sRk M M') := by
  have h20 := h.1.1.2.2.1
  unfold jTo_rankBesideOthers
  refine wp_be (fillI_eq 63 0 M (by decide)) ?_
  refine wp_be (fillI_eq 64 1 _ (by decide)) ?_
  refine wp_bd (wp_for (fun o s => s.1 = nI o ∧ (∀ m, m < 61 → s.2.1 63 m = nI (cm o f p m)) ∧ (∀ m, m < 61 → s.2.1 64 m = nI (1 + sm_ o f p m)) ∧ fr sRk M s.2) (vP v) ?_ ?_ ?_)
  · refine ⟨rfl, fun m hm => ?_, fun m hm => ?_, ?_⟩
    · show (sI (sI M 63 (q_al 63) _) 64 (q_al 64) _).1 63 m = _
      rw [sI_off (by decide), sI_at (by exact hm)]
      rfl
    · show (sI (sI M 63 (q_al 63) _) 64 (q_al 64) _).1 64 m = _
      rw [sI_at (by exact hm)]
      rfl
    · exact (fr_sI (fun j _ => Or.inl rfl)).tr (fr_sI (fun j _ => Or.inr rfl))
  · rintro o ⟨x, N⟩ ho ⟨e1, e2, e3, e4⟩
    have e1 : x = nI o := e1
    subst e1
    have e2 : ∀ m, m < 61 → N.1 63 m = nI (cm o f p m) := e2
    have e3 : ∀ m, m < 61 → N.1 64 m = nI (1 + sm_ o f p m) := e3
    have e4 : fr sRk M N := e4
    have hN := tdC_rk h e4
    have hfo := hN.2.2.2.2.2 o (by omega)
    simp only [qu2]
    refine wp_be hN.2.2.1 ?_
    rw [hN.1.2.2.2.1]
    refine wp_in (nI_ge ho (by omega)) ?_
    refine wp_be (qrI_nI (show o < 20 by omega) (by omega)) ?_
    rw [hfo.1]
    refine wp_bd ?_
    refine wp_if (fun hz => ?_) (fun hz => ?_) <;> rw [nI_iI o, iI_eq (by omega) (by omega) (by omega) (by omega)] at hz
    · refine wp_some (wp_some ⟨nI_1 o, fun m hm => ?_, fun m hm => ?_, e4⟩)
      · show N.1 63 m = _
        rw [e2 m hm]
        unfold cm
        rw [cnt_S, if_neg (by simp [hz])]
        rfl
      · show N.1 64 m = _
        rw [e3 m hm]
        unfold sm_
        rw [cnt_S, if_neg (by simp [hz])]
        rfl
    · rw [iI_isOf hfo.2.1 hfo.2.2]
      refine wp_if (fun hy => ?_) (fun hy => ?_)
      · rw [b2i_0, decide_eq_false_iff_not] at hy
        refine wp_some (wp_some ⟨nI_1 o, fun m hm => ?_, fun m hm => ?_, e4⟩)
        · show N.1 63 m = _
          rw [e2 m hm]
          unfold cm
          rw [cnt_S, if_neg (by simp only [decide_eq_true_eq]; omega)]
          rfl
        · show N.1 64 m = _
          rw [e3 m hm]
          unfold sm_
          rw [cnt_S, if_neg (by simp only [decide_eq_true_eq]; omega)]
          rfl
      · rw [b2i_0, decide_eq_false_iff_not, Decidable.not_not] at hy
        obtain ⟨q, hq⟩ : ∃ q : Nat, f o = q := ⟨(f o).toNat, by omega⟩
        have hq61 : q < 61 := by omega
        rw [hq, ← nI_iI]
        refine wp_be (qrI_nI hq61 (by omega)) ?_
        refine wp_bd (wp_wI rfl hq61 (by omega) ?_)
        refine wp_be (qrI_nI hq61 (by omega)) ?_
        refine wp_lt (fun z hz2 => ?_)
        refine wp_bd (wp_wI rfl hq61 (by omega) ?_)
        refine wp_some (wp_some ⟨nI_1 o, fun m hm => ?_, fun m hm => ?_, ?_⟩)
        · show (qI (qI N 63 q _) 64 q _).1 63 m = _
          rw [qI_1, if_neg (by omega), qI_1]
          unfold cm
          rw [cnt_S]
          by_cases hmq : m = q
          · subst hmq
            rw [if_pos ⟨rfl, rfl⟩, e2 m hm, if_pos (by simp only [decide_eq_true_eq]; omega), nI_1]
            rfl
          · rw [if_neg (by omega), e2 m hm, if_neg (by simp only [decide_eq_true_eq]; omega)]
            rfl
        · show (qI (qI N 63 q _) 64 q _).1 64 m = _
          rw [qI_1]
          unfold sm_
          rw [cnt_S]
          by_cases hmq : m = q
          · subst hmq
            rw [if_pos ⟨rfl, rfl⟩]
            show (qI N 63 m _).1 64 m + b2i z = _
            rw [qI_1, if_neg (by omega), e3 m hm, hz2]
            by_cases hop : (o : Int) < p
            · rw [if_neg (by rw [nI_iI, iI_le (by omega) (by omega) (by omega) (by omega)]; omega), if_pos (by simp only [decide_eq_true_eq]; omega)]
              show _ + 1 = _
              rw [nI_1]
              rfl
            · rw [if_pos (by rw [nI_iI, iI_le (by omega) (by omega) (by omega) (by omega)]; omega), if_neg (by simp only [decide_eq_true_eq]; omega)]
              show nI _ + nI 0 = _
              rw [nI_add]
              rfl
          · rw [if_neg (by omega)]
            show (qI N 63 q _).1 64 m = _
            rw [qI_1, if_neg (by omega), e3 m hm, if_neg (by simp only [decide_eq_true_eq]; omega)]
            rfl
        · exact (e4.tr (fr_I (Or.inl rfl))).tr (fr_I (Or.inr rfl))
  · rintro ⟨x, N⟩ ⟨e1, e2, e3, e4⟩
    have e1 : x = nI (vP v) := e1
    subst e1
    have e2 : ∀ m, m < 61 → N.1 63 m = nI (cm (vP v) f p m) := e2
    have e3 : ∀ m, m < 61 → N.1 64 m = nI (1 + sm_ (vP v) f p m) := e3
    have e4 : fr sRk M N := e4
    have hN := tdC_rk h e4
    simp only [qu2]
    refine wp_be hN.2.2.1 ?_
    rw [hN.1.2.2.2.1]
    refine wp_ip (nI_le (Nat.le_refl _) (by omega)) (wp_some ?_)
    show wp _ _
    refine wp_bd (wp_for (fun m s => s.1 = nI (ah (vP v) f p m) ∧ s.2.1 = nI m ∧ (∀ j, j < 61 → s.2.2.1 63 j = nI (cm (vP v) f p j)) ∧ (∀ j, j < 61 → s.2.2.1 64 j = if j < m then nI (rk (vP v) f p j) else nI (1 + sm_ (vP v) f p j)) ∧ fr sRk M s.2.2) 61 ?_ ?_ ?_)
    · refine ⟨?_, rfl, e2, fun j hj => by rw [if_neg (by omega)]; exact e3 j hj, e4⟩
      show (0 : Int32) = nI (ah (vP v) f p 0)
      have : ah (vP v) f p 0 = 0 := by
        unfold ah
        refine cnt_0 (fun i hi => ?_)
        have := (h.2.2.2.2.2 i (by omega)).2.1
        simp only [decide_eq_false_iff_not]
        omega
      rw [this]
      rfl
    · rintro m ⟨x, y, N1⟩ hm ⟨g1, g2, g3, g4, g5⟩
      have g1 : x = nI (ah (vP v) f p m) := g1
      have g2 : y = nI m := g2
      subst g1 g2
      have g3 : ∀ j, j < 61 → N1.1 63 j = nI (cm (vP v) f p j) := g3
      have g4 : ∀ j, j < 61 → N1.1 64 j = if j < m then nI (rk (vP v) f p j) else nI (1 + sm_ (vP v) f p j) := g4
      have g5 : fr sRk M N1 := g5
      simp only [qu3]
      refine wp_in (nI_nlt (a := 60) (by omega) (by omega)) ?_
      refine wp_be (qrI_nI hm (by omega)) ?_
      refine wp_bd (wp_wI rfl hm (by omega) ?_)
      refine wp_be (qrI_nI hm (by omega)) ?_
      refine wp_some ⟨?_, nI_1 m, fun j hj => ?_, fun j hj => ?_, g5.tr (fr_I (Or.inr rfl))⟩
      · show nI _ + (qI N1 64 m _).1 63 m = nI (ah (vP v) f p ((m : Int) + 1))
        rw [qI_1, if_neg (by omega), g3 m hm, nI_add, ah_S (by omega)]
      · show (qI N1 64 m _).1 63 j = _
        rw [qI_1, if_neg (by omega)]
        exact g3 j hj
      · show (qI N1 64 m _).1 64 j = _
        rw [qI_1]
        by_cases hjm : j = m
        · subst hjm
          rw [if_pos ⟨rfl, rfl⟩, if_pos (by omega), g4 j hj, if_neg (by omega), nI_add, rk_sp (by omega)]
        · rw [if_neg (by omega), g4 j hj]
          by_cases hl : j < m
          · rw [if_pos hl, if_pos (by omega)]
          · rw [if_neg hl, if_neg (by omega)]
    · rintro ⟨x, y, N1⟩ ⟨g1, g2, g3, g4, g5⟩
      have g2 : y = nI 61 := g2
      subst g2
      simp only [qu3]
      refine wp_ip (by decide) (wp_some ?_)
      refine wp_some ⟨fun m hm => ?_, g3, g5⟩
      have := g4 m hm
      rw [if_pos hm] at this
      exact this
theorem hasBy_eq {M : qM} {k : Nat} {v : vT} {t : Nat} {f : Nat → Int} {r : Nat} (h : tdC M k v t f) (hr : r < 1000) : jTo_hasBy (nI r) M = some (decide (vTi v t 0 ≤ r ∧ r < vTi v t 0 + vTi v t 1)) := by
  have ht := h.1.1.2.2.2.1 t h.2.2.2.2.1
  unfold jTo_hasBy
  rw [h.2.2.1, h.2.2.2.1]
  simp only [Option.bind_some]
  rw [show (0 : Int32) = nI 0 from rfl, show (1 : Int32) = nI 1 from rfl, ofThing_eq h.1 h.2.2.2.2.1 (by decide), ofThing_eq h.1 h.2.2.2.2.1 (by decide)]
  simp only [Option.bind_some]
  rw [nI_add]
  by_cases h1 : vTi v t 0 ≤ r
  · rw [if_neg (nI_nlt h1 (by omega))]
    by_cases h2 : r < vTi v t 0 + vTi v t 1
    · rw [if_neg (nI_ge h2 (by omega)), decide_eq_true ⟨h1, h2⟩]
      rfl
    · rw [if_pos (nI_le (by omega) (by omega)), decide_eq_false (fun e => h2 e.2)]
      rfl
  · rw [if_pos (nI_lt (by omega) (by omega)), decide_eq_false (fun e => h1 e.1)]
    rfl
theorem gainBy_eq {M : qM} {k : Nat} {v : vT} {t p : Nat} {f : Nat → Int} {m : Int} (h : tdC M k v t f) (hp : p < vP v) (hr : ∀ m, m < 61 → M.1 64 m = nI (rk (vP v) f p m)) (h1 : -1 ≤ m) (h2 : m ≤ 60) : jTo_gainBy (nI p) (iI m) M = some (iI (tgn v t f p m)) := by
  have h20 := h.1.1.2.2.1
  unfold jTo_gainBy tgn
  rw [h.2.2.1]
  simp only [Option.bind_some]
  rw [show (2 : Int32) = nI 2 from rfl, ofPerson_eq h.1 hp (by decide), iI_isOf h1 h2]
  simp only [Option.bind_some, b2i_0, decide_eq_false_iff_not]
  by_cases hm : m < 0
  · rw [if_pos (by omega), if_pos hm, nI_iI, iI_neg, show (60 : Int32) = iI 60 from rfl, iI_mul]
    congr 2
    omega
  · obtain ⟨q, rfl⟩ : ∃ q : Nat, m = q := ⟨m.toNat, by omega⟩
    have hrk := rk_le (n := vP v) (f := f) (p := p) (m := q)
    rw [if_neg (by omega), if_neg hm, ← nI_iI, qrI_nI (show q < 61 by omega) (by omega)]
    simp only [Option.bind_some]
    rw [hr q (by omega), hasBy_eq h (by omega), h.2.2.2.1]
    simp only [Option.bind_some, decide_eq_false_iff_not]
    by_cases hh : vTi v t 0 ≤ rk (vP v) f p q ∧ rk (vP v) f p q < vTi v t 0 + vTi v t 1
    · rw [if_neg (fun e => e hh), if_pos hh, worthIn_eq h.1 h.2.2.2.2.1 (by omega)]
      simp only [Option.bind_some]
      rw [nI_mul, nI_iI, nI_iI, iI_sub]
      congr 2
    · rw [if_pos hh, if_neg hh]
      simp only [Option.bind_some]
      rw [nI_mul, nI_iI, show (0 : Int32) = iI 0 from rfl, iI_sub]
      congr 2
theorem bestB_eq {M : qM} {k : Nat} {v : vT} {t p : Nat} {f : Nat → Int} (h : tdC M k v t f) (hp : p < vP v) (hr : ∀ m, m < 61 → M.1 64 m = nI (rk (vP v) f p m)) : jTo_bestBesideOthers (nI p) M = some (iI (ansI (tgn v t f p))) := by
  unfold jTo_bestBesideOthers
  have hg : ∀ m : Int, -1 ≤ m → m ≤ 60 → jTo_gainBy (nI p) (iI m) M = some (iI (tgn v t f p m)) := fun m h1 h2 => gainBy_eq h hp hr h1 h2
  rw [show (0 : Int32) = iI 0 from rfl, hg 0 (by omega) (by omega)]
  simp only [Option.bind_some]
  have hb : ∀ i : Nat, i ≤ 60 → -6000 ≤ (bst (tgn v t f p) i).2 ∧ (bst (tgn v t f p) i).2 ≤ 1000 := by
    intro i hi
    have h1 := bst_b (tgn v t f p) i
    rw [h1.2.2]
    exact tgn_b h.1.1 h.2.2.2.2.1 hp (by omega)
  rw [qlp_for0 (s0 := (iI 0, iI (tgn v t f p 0), (1 : Int32))) (fun i => (iI (bst (tgn v t f p) i).1, iI (bst (tgn v t f p) i).2, nI (i + 1))) (iI (bst (tgn v t f p) 60).1, iI (bst (tgn v t f p) 60).2) 60 rfl (fun i hi => ?_) ?_]
  · simp only [Option.bind_some, qu2, qlt]
    rw [show (-1 : Int32) = iI (-1) from rfl, hg (-1) (by omega) (by omega)]
    simp only [Option.bind_some]
    have h1 := hb 60 (by omega)
    have h2 := tgn_b (f := f) (m := -1) h.1.1 h.2.2.2.2.1 hp (by omega)
    unfold ansI
    simp only [iI_le (show -2147483648 ≤ tgn v t f p (-1) by omega) (by omega) (show -2147483648 ≤ (bst (tgn v t f p) 60).2 by omega) (by omega)]
    split <;> rfl
  · simp only [qu3]
    rw [if_pos (by decide)]
  · simp only [qu3, qlt]
    have ec : ((i + 1 : Nat) : Int) = (i : Int) + 1 := by omega
    rw [if_neg (show ¬ (60 : Int32) < nI (i + 1) from nI_nlt (a := 60) (b := i + 1) (by omega) (by omega)), nI_1, nI_iI (i + 1), ec, hg _ (by omega) (by omega)]
    simp only [Option.bind_some, qu2]
    have h1 := hb i (by omega)
    have h2 := tgn_b (f := f) (m := (i : Int) + 1) h.1.1 h.2.2.2.2.1 hp (by omega)
    simp only [bst, iI_le (show -2147483648 ≤ tgn v t f p ((i : Int) + 1) by omega) (by omega) (show -2147483648 ≤ (bst (tgn v t f p) i).2 by omega) (by omega)]
    split <;> rfl
