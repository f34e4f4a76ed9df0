/-! ===== by turns till none changes ===== -/
def tsq {S : Type} (n : Nat) (ch : Nat → S → Bool) (nx : Nat → S → S) (s0 : S) : Nat → S × Nat
  | 0 => (s0, 0)
  | i + 1 => if ch (i % n) (tsq n ch nx s0 i).1 = true then (nx (i % n) (tsq n ch nx s0 i).1, (tsq n ch nx s0 i).2 + 1) else tsq n ch nx s0 i
def tfx {S : Type} (n : Nat) (ch : Nat → S → Bool) (s : S) : Prop := ∀ p, p < n → ch p s = false
theorem tsq_t {S : Type} {n : Nat} {ch : Nat → S → Bool} {nx : Nat → S → S} {s0 : S} {i : Nat} (h : ch (i % n) (tsq n ch nx s0 i).1 = true) : tsq n ch nx s0 (i + 1) = (nx (i % n) (tsq n ch nx s0 i).1, (tsq n ch nx s0 i).2 + 1) := by
  simp only [tsq]
  rw [if_pos h]
theorem tsq_f {S : Type} {n : Nat} {ch : Nat → S → Bool} {nx : Nat → S → S} {s0 : S} {i : Nat} (h : ch (i % n) (tsq n ch nx s0 i).1 = false) : tsq n ch nx s0 (i + 1) = tsq n ch nx s0 i := by
  simp only [tsq]
  rw [if_neg (by rw [h]; decide)]
theorem tsq_fx {S : Type} {n : Nat} {ch : Nat → S → Bool} {nx : Nat → S → S} {s0 : S} {i j : Nat} (hn : 0 < n) (h : tfx n ch (tsq n ch nx s0 i).1) (hij : i ≤ j) : tsq n ch nx s0 j = tsq n ch nx s0 i := by
  induction j with
  | zero => rw [show i = 0 by omega]
  | succ j ih =>
    by_cases hj : i = j + 1
    · rw [hj]
    · have e := ih (by omega)
      rw [tsq_f, e]
      rw [e]
      exact h _ (Nat.mod_lt _ hn)
theorem tsq_mono {S : Type} {n : Nat} {ch : Nat → S → Bool} {nx : Nat → S → S} {s0 : S} {i j : Nat} (hij : i ≤ j) : (tsq n ch nx s0 i).2 ≤ (tsq n ch nx s0 j).2 := by
  induction j with
  | zero => rw [show i = 0 by omega]; exact Nat.le_refl _
  | succ j ih =>
    by_cases hj : i = j + 1
    · rw [hj]; exact Nat.le_refl _
    · have e := ih (by omega)
      cases hc : ch (j % n) (tsq n ch nx s0 j).1 with
      | true => rw [tsq_t hc]; show _ ≤ _ + 1; omega
      | false => rw [tsq_f hc]; exact e
theorem tsq_le {S : Type} {n : Nat} {ch : Nat → S → Bool} {nx : Nat → S → S} {s0 : S} (i : Nat) : (tsq n ch nx s0 i).2 ≤ i := by
  induction i with
  | zero => exact Nat.le_refl _
  | succ i ih =>
    cases hc : ch (i % n) (tsq n ch nx s0 i).1 with
    | true => rw [tsq_t hc]; show _ + 1 ≤ _; omega
    | false => rw [tsq_f hc]; omega
/-- no change over some steps: the state stands, and nobody of them would change -/
theorem tsq_still {S : Type} {n : Nat} {ch : Nat → S → Bool} {nx : Nat → S → S} {s0 : S} {i : Nat} : ∀ k, (tsq n ch nx s0 (i + k)).2 = (tsq n ch nx s0 i).2 → tsq n ch nx s0 (i + k) = tsq n ch nx s0 i ∧ ∀ j, j < k → ch ((i + j) % n) (tsq n ch nx s0 i).1 = false := by
  intro k
  induction k with
  | zero => intro _; exact ⟨rfl, fun j hj => by omega⟩
  | succ k ih =>
    intro h
    have h1 : (tsq n ch nx s0 i).2 ≤ (tsq n ch nx s0 (i + k)).2 := tsq_mono (by omega)
    have h2 : (tsq n ch nx s0 (i + k)).2 ≤ (tsq n ch nx s0 (i + (k + 1))).2 := tsq_mono (by omega)
    obtain ⟨e1, e2⟩ := ih (by omega)
    cases hc : ch ((i + k) % n) (tsq n ch nx s0 (i + k)).1 with
    | true =>
      have := tsq_t (nx := nx) hc
      rw [show i + (k + 1) = i + k + 1 by omega, this] at h
      have h : (tsq n ch nx s0 (i + k)).2 + 1 = (tsq n ch nx s0 i).2 := h
      omega
    | false =>
      have := tsq_f (nx := nx) hc
      refine ⟨by rw [show i + (k + 1) = i + k + 1 by omega, this, e1], fun j hj => ?_⟩
      by_cases hjk : j = k
      · rw [hjk, ← e1]; exact hc
      · exact e2 j (by omega)
theorem tsq_round {S : Type} {n : Nat} {ch : Nat → S → Bool} {nx : Nat → S → S} {s0 : S} {r : Nat} (h : (tsq n ch nx s0 (r * n + n)).2 = (tsq n ch nx s0 (r * n)).2) : tfx n ch (tsq n ch nx s0 (r * n + n)).1 := by
  obtain ⟨e1, e2⟩ := tsq_still n h
  rw [e1]
  intro p hp
  have := e2 p hp
  rwa [show (r * n + p) % n = p by rw [Nat.mul_comm, Nat.mul_add_mod, Nat.mod_eq_of_lt hp]] at this
/-- the result -/
def tres {S : Type} (n : Nat) (ch : Nat → S → Bool) (nx : Nat → S → S) (s0 : S) (B : Nat) (r : Int32) (s : S) : Prop := (∃ i, tfx n ch (tsq n ch nx s0 i).1 ∧ (tsq n ch nx s0 i).2 ≤ B ∧ r = nI (tsq n ch nx s0 i).2 ∧ s = (tsq n ch nx s0 i).1) ∨ (∃ i, B < (tsq n ch nx s0 i).2 ∧ r = -1 ∧ s = s0)
theorem tres_uniq {S : Type} {n : Nat} {ch : Nat → S → Bool} {nx : Nat → S → S} {s0 : S} {B : Nat} {r r' : Int32} {s s' : S} (hn : 0 < n) (h : tres n ch nx s0 B r s) (h' : tres n ch nx s0 B r' s') : r = r' ∧ s = s' := by
  rcases h with ⟨i, a1, a2, a3, a4⟩ | ⟨i, a1, a2, a3⟩
  · rcases h' with ⟨j, b1, b2, b3, b4⟩ | ⟨j, b1, b2, b3⟩
    · rcases Nat.le_total i j with hij | hij
      · have e := tsq_fx hn a1 hij
        rw [e] at b3 b4
        exact ⟨by rw [a3, b3], by rw [a4, b4]⟩
      · have e := tsq_fx hn b1 hij
        rw [e] at a3 a4
        exact ⟨by rw [a3, b3], by rw [a4, b4]⟩
    · rcases Nat.le_total i j with hij | hij
      · have e := tsq_fx hn a1 hij
        rw [e] at b1
        omega
      · have := tsq_mono (n := n) (ch := ch) (nx := nx) (s0 := s0) hij
        omega
  · rcases h' with ⟨j, b1, b2, b3, b4⟩ | ⟨j, b1, b2, b3⟩
    · rcases Nat.le_total j i with hij | hij
      · have e := tsq_fx hn b1 hij
        rw [e] at a1
        omega
      · have := tsq_mono (n := n) (ch := ch) (nx := nx) (s0 := s0) hij
        omega
    · exact ⟨by rw [a2, b2], by rw [a3, b3]⟩
theorem tsq_S {S : Type} (n : Nat) (ch : Nat → S → Bool) (nx : Nat → S → S) (s0 : S) (i : Nat) : (tsq n ch nx s0 (i + 1)).2 ≤ (tsq n ch nx s0 i).2 + 1 := by
  cases hc : ch (i % n) (tsq n ch nx s0 i).1 with
  | true => rw [tsq_t hc]; exact Nat.le_refl _
  | false => rw [tsq_f hc]; omega
/-- the reference's count of those who did not change, one behind another -/
def tst {S : Type} (n : Nat) (ch : Nat → S → Bool) (nx : Nat → S → S) (s0 : S) (i st : Nat) : Prop := st ≤ n ∧ st ≤ i ∧ ∀ j, j < st → ch ((i - 1 - j) % n) (tsq n ch nx s0 i).1 = false
theorem tst_fx {S : Type} {n : Nat} {ch : Nat → S → Bool} {nx : Nat → S → S} {s0 : S} {i : Nat} (h : tst n ch nx s0 i n) : tfx n ch (tsq n ch nx s0 i).1 := by
  intro p hp
  have h1 := h.2.1
  have hm : (i - 1 - p) % n < n := Nat.mod_lt _ (by omega)
  have h2 := h.2.2 ((i - 1 - p) % n) hm
  have e : (i - 1 - (i - 1 - p) % n) % n = p := by
    have h3 := Nat.div_add_mod (i - 1 - p) n
    rw [show i - 1 - (i - 1 - p) % n = n * ((i - 1 - p) / n) + p by omega, Nat.mul_add_mod, Nat.mod_eq_of_lt hp]
  rwa [e] at h2
theorem tst_f {S : Type} {n : Nat} {ch : Nat → S → Bool} {nx : Nat → S → S} {s0 : S} {i st : Nat} (h : tst n ch nx s0 i st) (hs : st < n) (hc : ch (i % n) (tsq n ch nx s0 i).1 = false) : tst n ch nx s0 (i + 1) (st + 1) := by
  refine ⟨by omega, by have := h.2.1; omega, fun j hj => ?_⟩
  rw [tsq_f hc]
  by_cases hj0 : j = 0
  · subst hj0
    exact hc
  · have := h.2.2 (j - 1) (by omega)
    rwa [show i - 1 - (j - 1) = i + 1 - 1 - j by omega] at this
theorem tst_0 {S : Type} {n : Nat} {ch : Nat → S → Bool} {nx : Nat → S → S} {s0 : S} (i : Nat) : tst n ch nx s0 i 0 := ⟨by omega, by omega, fun j hj => by omega⟩
theorem rm_nI {a n : Nat} (hn : 0 < n) (ha : a < 2147483648) (hb : n < 2147483648) : qrmI (nI a) (nI n) = some (nI (a % n)) := by
  unfold qrmI
  rw [if_neg (nI_ne0 hn (by omega))]
  have hd : nI a / nI n = nI (a / n) := by
    show Int32.ofNat a / Int32.ofNat n = Int32.ofNat (a / n)
    rw [Int32.ofNat_div (by omega) (by omega)]
  have hm := Nat.div_add_mod a n
  have hc := Nat.mul_comm n (a / n)
  rw [hd, nI_mul, nI_subE (by omega)]
  congr 2
  omega
/-! ===== promise 33: settle ===== -/
def stC (v : vT) (t : Nat) (p : Nat) (f : Nat → Int) : Bool := decide (0 < trg v t f p)
def stN (v : vT) (t : Nat) (p : Nat) (f : Nat → Int) : Nat → Int := upI f p (ansI (tgn v t f p))
def sSt (b j : Nat) : Prop := b = 61 ∨ b = 63 ∨ b = 64
theorem sSt_C {M M1 : qM} (g : fr sSt M M1) : fr sTC M M1 := g.mono (fun b j h => by unfold sSt at h; unfold sTC; omega)
theorem sRk_S {M M1 : qM} (g : fr sRk M M1) : fr sSt M M1 := g.mono (fun b j h => by unfold sRk at h; unfold sSt; omega)
theorem cp_wp {M : qM} {a d : Nat} (had : ¬ a = d) : wp (qcp M a 20 0 d 20 0 20) (fun M' => (∀ o, o < 20 → M'.1 d o = M.1 a o) ∧ fr (fun b _ => b = d) M M') := by
  unfold qcp
  refine wp_ip (by decide) (wp_some ⟨fun o ho => ?_, fun b j hb => ⟨?_, rfl, rfl⟩⟩)
  · show (if d = d ∧ (0 : Int32).toNatClampNeg ≤ o ∧ o < (0 : Int32).toNatClampNeg + (20 : Int32).toNatClampNeg then M.1 a ((0 : Int32).toNatClampNeg + (o - (0 : Int32).toNatClampNeg)) else M.1 d o) = _
    rw [show (0 : Int32).toNatClampNeg = 0 from rfl, show (20 : Int32).toNatClampNeg = 20 from rfl, if_pos ⟨rfl, by omega, by omega⟩]
    rw [Nat.zero_add, Nat.sub_zero]
  · show (if b = d ∧ _ then _ else M.1 b j) = _
    rw [if_neg (fun e => hb e.1)]
theorem takeTurns_wp {M : qM} {k : Nat} {v : vT} {t : Nat} {f : Nat → Int} (h : tdC M k v t f) : wp (jTo_takeTurns M) (fun r => ∃ g, tres (vP v) (stC v t) (stN v t) f 1000 r.1 g ∧ tdC r.2 k v t g ∧ fr sTC M r.2) := by
  have h20 := h.1.1.2.2.1
  have hn := vOK_p h.1.1
  unfold jTo_takeTurns
  refine wp_bd ((cp_wp (by decide)).mono ?_)
  rintro M1 ⟨c1, c2⟩
  have g1 : fr sTC M M1 := c2.mono (fun b j hb => by unfold sTC; omega)
  have hC1 : tdC M1 k v t f := tdC_fr h c2 (fun b j hb => by omega) (fun j _ => by decide) (fun j => by decide)
  have rest : ∀ N g, tdC N k v t g → fr sSt M1 N → wp ((qcp N 62 20 0 61 20 0 20).bind fun M10 => some ((-1 : Int32), M10)) (fun r => r.1 = -1 ∧ tdC r.2 k v t f ∧ fr sTC M r.2) := by
    intro N g d1 d2
    refine wp_bd ((cp_wp (by decide)).mono ?_)
    rintro N1 ⟨d3, d4⟩
    refine wp_some ⟨rfl, ?_, (g1.tr (sSt_C d2)).tr (d4.mono (fun b j hb => by unfold sTC; omega))⟩
    obtain ⟨a1, a2, a3, a4, a5, a6⟩ := d1
    refine ⟨rVC_fr a1 d4 (fun b j hb _ => by omega), a2, by rw [(d4 60 0 (by decide)).2.2]; exact a3, by rw [(d4 60 1 (by decide)).1]; exact a4, a5, fun o ho => ?_⟩
    show N1.1 61 o = _ ∧ _
    rw [d3 o ho, (d2 62 o (by simp [sSt])).1, c1 o ho]
    exact h.2.2.2.2.2 o ho
  refine wp_bd (wp_for (fun r s => s.1 = nI (tsq (vP v) (stC v t) (stN v t) f (r * vP v)).2 ∧ s.2.1 = nI r ∧ r ≤ (tsq (vP v) (stC v t) (stN v t) f (r * vP v)).2 ∧ (tsq (vP v) (stC v t) (stN v t) f (r * vP v)).2 ≤ 1000 ∧ tdC s.2.2 k v t (tsq (vP v) (stC v t) (stN v t) f (r * vP v)).1 ∧ fr sSt M1 s.2.2) 1001 ?_ ?_ ?_)
  · rw [Nat.zero_mul]
    exact ⟨rfl, rfl, Nat.le_refl _, Nat.zero_le _, hC1, fr_rf _ _⟩
  · rintro r ⟨x, y, N⟩ hr ⟨e1, e2, e3, e4, e5, e6⟩
    have e1 : x = nI (tsq (vP v) (stC v t) (stN v t) f (r * vP v)).2 := e1
    have e2 : y = nI r := e2
    subst e1 e2
    have e5 : tdC N k v t (tsq (vP v) (stC v t) (stN v t) f (r * vP v)).1 := e5
    have e6 : fr sSt M1 N := e6
    simp only [qu3]
    refine wp_in (nI_nlt (a := 1000) (by omega) (by omega)) ?_
    refine wp_bd ?_
    refine (wp_for (Q := fun (o : Int32 × qM) => ∃ q, q ≤ vP v ∧ o.1 = nI (tsq (vP v) (stC v t) (stN v t) f (r * vP v + q)).2 ∧ (q = vP v ∨ 1000 < (tsq (vP v) (stC v t) (stN v t) f (r * vP v + q)).2) ∧ tdC o.2 k v t (tsq (vP v) (stC v t) (stN v t) f (r * vP v + q)).1 ∧ fr sSt M1 o.2) (fun q s => s.1 = nI (tsq (vP v) (stC v t) (stN v t) f (r * vP v + q)).2 ∧ s.2.1 = nI q ∧ tdC s.2.2 k v t (tsq (vP v) (stC v t) (stN v t) f (r * vP v + q)).1 ∧ fr sSt M1 s.2.2) (vP v) ⟨rfl, rfl, e5, e6⟩ ?_ ?_).mono ?_
    · rintro q ⟨x, y, N⟩ hq ⟨a1, a2, a3, a4⟩
      have a1 : x = nI (tsq (vP v) (stC v t) (stN v t) f (r * vP v + q)).2 := a1
      have a2 : y = nI q := a2
      subst a1 a2
      have a3 : tdC N k v t (tsq (vP v) (stC v t) (stN v t) f (r * vP v + q)).1 := a3
      have a4 : fr sSt M1 N := a4
      have hle := tsq_le (n := vP v) (ch := stC v t) (nx := stN v t) (s0 := f) (r * vP v + q)
      have hrv : r * vP v ≤ 1001 * 20 := Nat.mul_le_mul (by omega) (by omega)
      have hmod : (r * vP v + q) % vP v = q := by rw [Nat.mul_comm, Nat.mul_add_mod, Nat.mod_eq_of_lt hq]
      simp only [qu3]
      refine wp_be a3.2.2.1 ?_
      rw [a3.1.2.2.2.1]
      refine wp_in (nI_ge hq (by omega)) ?_
      refine wp_if (fun hc => ?_) (fun hc => ?_)
      · refine wp_some ⟨q, by omega, rfl, Or.inr ?_, a3, a4⟩
        exact (nI_ltI (a := 1000) (by omega) (by omega)).mp hc
      · have hb := trg_b (f := (tsq (vP v) (stC v t) (stN v t) f (r * vP v + q)).1) h.1.1 h.2.2.2.2.1 hq (a3.2.2.2.2.2 q (by omega)).2.2
        refine wp_bd ((regretOf_wp a3 hq).mono ?_)
        rintro ⟨z, N1⟩ ⟨b1, b2, b3⟩
        have b1 : z = iI (trg v t (tsq (vP v) (stC v t) (stN v t) f (r * vP v + q)).1 q) := b1
        subst b1
        have b2 : tdC N1 k v t (tsq (vP v) (stC v t) (stN v t) f (r * vP v + q)).1 := b2
        have b3 : fr sRk N N1 := b3
        simp only [qu2]
        refine wp_bd ?_
        refine wp_if (fun hd => ?_) (fun hd => ?_) <;> rw [show (0 : Int32) = iI 0 from rfl, iI_le (by omega) (by omega) (by omega) (by omega)] at hd
        · have hch : stC v t ((r * vP v + q) % vP v) (tsq (vP v) (stC v t) (stN v t) f (r * vP v + q)).1 = false := by
            rw [hmod]; exact decide_eq_false (p := 0 < trg v t _ q) (by omega)
          have ee := tsq_f (nx := stN v t) hch
          refine wp_some (wp_some ⟨?_, nI_1 q, ?_, a4.tr (sRk_S b3)⟩)
          · show nI _ = nI (tsq (vP v) (stC v t) (stN v t) f (r * vP v + q + 1)).2
            rw [ee]
          · show tdC N1 k v t (tsq (vP v) (stC v t) (stN v t) f (r * vP v + q + 1)).1
            rw [ee]; exact b2
        · have hch : stC v t ((r * vP v + q) % vP v) (tsq (vP v) (stC v t) (stN v t) f (r * vP v + q)).1 = true := by
            rw [hmod]; exact decide_eq_true (p := 0 < trg v t _ q) (by omega)
          have ee := tsq_t (nx := stN v t) hch
          rw [hmod] at ee
          refine wp_bd ((answerOf_wp b2 hq).mono ?_)
          rintro ⟨z, N2⟩ ⟨d1, _, d2, d3⟩
          have d1 : z = iI (ansI (tgn v t (tsq (vP v) (stC v t) (stN v t) f (r * vP v + q)).1 q)) := d1
          subst d1
          have ha := ansI_b (tgn v t (tsq (vP v) (stC v t) (stN v t) f (r * vP v + q)).1 q)
          simp only [qu2]
          refine wp_bd (wp_wI rfl (show q < 20 by omega) (by omega) ?_)
          refine wp_some (wp_some ⟨?_, nI_1 q, ?_, ((a4.tr (sRk_S b3)).tr (sRk_S d3)).tr (fr_I (Or.inl rfl))⟩)
          · show nI _ + 1 = nI (tsq (vP v) (stC v t) (stN v t) f (r * vP v + q + 1)).2
            rw [ee, nI_1]
          · show tdC _ k v t (tsq (vP v) (stC v t) (stN v t) f (r * vP v + q + 1)).1
            rw [ee]; exact tdC_up d2 ha.1 ha.2
    · rintro ⟨x, y, N⟩ ⟨a1, a2, a3, a4⟩
      have a2 : y = nI (vP v) := a2
      subst a2
      have a3 : tdC N k v t (tsq (vP v) (stC v t) (stN v t) f (r * vP v + vP v)).1 := a3
      simp only [qu3]
      refine wp_be a3.2.2.1 ?_
      rw [a3.1.2.2.2.1]
      exact wp_ip (nI_le (Nat.le_refl _) (by omega)) (wp_some ⟨vP v, Nat.le_refl _, a1, Or.inl rfl, a3, a4⟩)
    · rintro ⟨x, N1⟩ ⟨q, a1, a2, a3, a4, a5⟩
      have a2 : x = nI (tsq (vP v) (stC v t) (stN v t) f (r * vP v + q)).2 := a2
      subst a2
      have a4 : tdC N1 k v t (tsq (vP v) (stC v t) (stN v t) f (r * vP v + q)).1 := a4
      have a5 : fr sSt M1 N1 := a5
      have hle := tsq_le (n := vP v) (ch := stC v t) (nx := stN v t) (s0 := f) (r * vP v + q)
      have hrv : r * vP v ≤ 1001 * 20 := Nat.mul_le_mul (by omega) (by omega)
      simp only [qu2]
      refine wp_if (fun hc => ?_) (fun hc => ?_)
      · have hc := (nI_leI (b := 1000) (by omega) (by omega)).mp hc
        have hq : q = vP v := by omega
        subst hq
        refine wp_if (fun hd => ?_) (fun hd => ?_)
        · have hd := (nI_eq (by omega) (by omega)).mp hd
          refine wp_some (wp_se (wp_se ?_))
          exact wp_some ⟨_, Or.inl ⟨_, tsq_round hd, hc, rfl, rfl⟩, a4, g1.tr (sSt_C a5)⟩
        · have hm : (tsq (vP v) (stC v t) (stN v t) f (r * vP v)).2 ≤ (tsq (vP v) (stC v t) (stN v t) f (r * vP v + vP v)).2 := tsq_mono (by omega)
          have hne : ¬ (tsq (vP v) (stC v t) (stN v t) f (r * vP v + vP v)).2 = (tsq (vP v) (stC v t) (stN v t) f (r * vP v)).2 := fun e => hd (by rw [e])
          have e8 : (r + 1) * vP v = r * vP v + vP v := Nat.succ_mul _ _
          refine wp_some ?_
          show nI _ = nI (tsq _ _ _ _ ((r + 1) * vP v)).2 ∧ _ ∧ r + 1 ≤ (tsq _ _ _ _ ((r + 1) * vP v)).2 ∧ (tsq _ _ _ _ ((r + 1) * vP v)).2 ≤ 1000 ∧ tdC _ k v t (tsq _ _ _ _ ((r + 1) * vP v)).1 ∧ _
          rw [e8]
          exact ⟨rfl, nI_1 r, by omega, hc, a4, a5⟩
      · have hc : 1000 < (tsq (vP v) (stC v t) (stN v t) f (r * vP v + q)).2 := by
          rcases Nat.lt_or_ge 1000 (tsq (vP v) (stC v t) (stN v t) f (r * vP v + q)).2 with h1 | h1
          · exact h1
          · exact absurd (nI_le (b := 1000) h1 (by omega)) hc
        refine wp_some (wp_se ?_)
        exact (rest N1 _ a4 a5).mono (fun o ho => ⟨f, Or.inr ⟨_, hc, ho.1, rfl⟩, ho.2⟩)
  · rintro ⟨x, y, N⟩ ⟨e1, e2, e3, e4, e5, e6⟩
    exact absurd e3 (by omega)
theorem mcopy_wp {M : qM} {a d : Nat} (had : ¬ a = d) : wp (qlp (σ := (Int32 × qM)) (ρ := qM) (fun q => qu2 q fun x1 M2 => if (20 : Int32) ≤ (x1 : Int32) then some (.inr M2) else (qrI M2 a 20 x1).bind fun v37 => (qwI M2 d 20 x1 v37).bind fun M38 => qlt (x1 + 1 : Int32) fun x39 => some (.inl (x39, M38))) (0, M)) (fun M' => (∀ o, o < 20 → M'.1 d o = M.1 a o) ∧ fr (fun b _ => b = d) M M') := by
  refine wp_for (fun o s => s.1 = nI o ∧ (∀ j, j < o → s.2.1 d j = M.1 a j) ∧ fr (fun b _ => b = d) M s.2) 20 ⟨rfl, fun j hj => by omega, fr_rf _ _⟩ ?_ ?_
  · rintro o ⟨x, N⟩ ho ⟨e1, e2, e3⟩
    have e1 : x = nI o := e1
    subst e1
    simp only [qu2]
    refine wp_in (nI_ge (b := 20) ho (by omega)) ?_
    refine wp_be (qrI_nI ho (by omega)) ?_
    refine wp_bd (wp_wI rfl ho (by omega) ?_)
    refine wp_some ⟨nI_1 o, fun j hj => ?_, e3.tr (fr_I rfl)⟩
    show (qI N d o (N.1 a o)).1 d j = _
    rw [qI_1]
    by_cases hjo : j = o
    · rw [if_pos ⟨rfl, hjo⟩, hjo]
      exact (e3 a o had).1
    · rw [if_neg (fun e => hjo e.2)]
      exact e2 j (by omega)
  · rintro ⟨x, N⟩ ⟨e1, e2, e3⟩
    have e1 : x = nI 20 := e1
    subst e1
    simp only [qu2]
    exact wp_ip (by decide) (wp_some ⟨e2, e3⟩)
theorem mSettle_wp {M : qM} {i : Nat} {v : vT} {t : Nat} {f : Nat → Int} (h : tdM M i v t f) : wp (jMd_settle M) (fun r => ∃ g, tres (vP v) (stC v t) (stN v t) f 1000 r.1 g ∧ tdM r.2 i v t g ∧ fr sTM M r.2) := by
  have h20 := h.1.1.2.2.1
  have hn := vOK_p h.1.1
  have hi := h.2.1
  unfold jMd_settle
  rw [h.2.2.1]
  refine wp_in (nI_m1 (by omega)) ?_
  refine wp_bd ((mcopy_wp (by decide)).mono ?_)
  rintro M1 ⟨c1, c2⟩
  have g1 : fr sTM M M1 := c2.mono (fun b j hb => by unfold sTM; omega)
  have hM1 : tdM M1 i v t f := tdM_fr h c2 (fun b j _ _ => by omega) (fun j _ _ => by decide) (fun j => by decide)
  refine wp_bd ?_
  refine (wp_lp (Q := fun (o : Int32 × qM) => ∃ q, q < 2000000000 ∧ o.1 = nI (tsq (vP v) (stC v t) (stN v t) f q).2 ∧ (tsq (vP v) (stC v t) (stN v t) f q).2 ≤ 1001 ∧ (tfx (vP v) (stC v t) (tsq (vP v) (stC v t) (stN v t) f q).1 ∨ 1000 < (tsq (vP v) (stC v t) (stN v t) f q).2) ∧ tdM o.2 i v t (tsq (vP v) (stC v t) (stN v t) f q).1 ∧ fr sT6 M1 o.2)
    (fun s => ∃ q st, q + (1001 - (tsq (vP v) (stC v t) (stN v t) f q).2) * (vP v + 1) + (vP v - st) ≤ 100000 ∧ s.1 = nI (tsq (vP v) (stC v t) (stN v t) f q).2 ∧ s.2.1 = nI st ∧ s.2.2.1 = nI (q % vP v) ∧ (tsq (vP v) (stC v t) (stN v t) f q).2 ≤ 1001 ∧ tst (vP v) (stC v t) (stN v t) f q st ∧ tdM s.2.2.2 i v t (tsq (vP v) (stC v t) (stN v t) f q).1 ∧ fr sT6 M1 s.2.2.2)
    (fun s => (1001 - s.1.toNatClampNeg) * (vP v + 1) + (vP v - s.2.1.toNatClampNeg)) ?_ ?_).mono ?_
  · refine ⟨0, 0, ?_, rfl, rfl, by rw [Nat.zero_mod]; rfl, Nat.zero_le _, tst_0 0, hM1, fr_rf _ _⟩
    show 0 + (1001 - 0) * (vP v + 1) + (vP v - 0) ≤ 100000
    omega
  · rintro ⟨x, y, z, N⟩ ⟨q, st, b0, b1, b2, b3, b4, b5, b6, b7⟩
    have b1 : x = nI (tsq (vP v) (stC v t) (stN v t) f q).2 := b1
    have b2 : y = nI st := b2
    have b3 : z = nI (q % vP v) := b3
    subst b1 b2 b3
    have b6 : tdM N i v t (tsq (vP v) (stC v t) (stN v t) f q).1 := b6
    have b7 : fr sT6 M1 N := b7
    have b8 := b5.1
    have b9 := b5.2.1
    have hp : q % vP v < vP v := Nat.mod_lt _ (by omega)
    simp only [qu4]
    rw [b6.2.2.1]
    refine wp_be (qrI_nI hi (by omega)) ?_
    rw [b6.1.2.2.2.1]
    refine wp_if (fun hc => ?_) (fun hc => ?_)
    · have hc := (nI_leI (by omega) (by omega)).mp hc
      have hst : st = vP v := by omega
      subst hst
      exact wp_some ⟨q, by omega, rfl, b4, Or.inl (tst_fx b5), b6, b7⟩
    · have hc : st < vP v := by
        rcases Nat.lt_or_ge st (vP v) with h1 | h1
        · exact h1
        · exact absurd (nI_le h1 (by omega)) hc
      refine wp_if (fun hd => ?_) (fun hd => ?_)
      · exact wp_some ⟨q, by omega, rfl, b4, Or.inr ((nI_ltI (a := 1000) (by omega) (by omega)).mp hd), b6, b7⟩
      · have hd : (tsq (vP v) (stC v t) (stN v t) f q).2 ≤ 1000 := by
          rcases Nat.lt_or_ge 1000 (tsq (vP v) (stC v t) (stN v t) f q).2 with h1 | h1
          · exact absurd (nI_lt (a := 1000) h1 (by omega)) hd
          · exact h1
        have hb := trg_b (f := (tsq (vP v) (stC v t) (stN v t) f q).1) h.1.1 h.2.2.2.2.1 hp (b6.2.2.2.2.2 (q % vP v) (by omega)).2.2
        refine wp_bd ((mRegret_wp b6 hp).mono ?_)
        rintro ⟨w, N1⟩ ⟨d1, d2, d3⟩
        have d1 : w = iI (trg v t (tsq (vP v) (stC v t) (stN v t) f q).1 (q % vP v)) := d1
        subst d1
        have d2 : tdM N1 i v t (tsq (vP v) (stC v t) (stN v t) f q).1 := d2
        have d3 : fr (sTo (q % vP v)) N N1 := d3
        have d4 : fr sT6 M1 N1 := b7.tr (d3.mono (fun b j hb => hb.1))
        have hfp := d2.2.2.2.2.2 (q % vP v) (by omega)
        have hq1 : (q % vP v + 1) % vP v = (q + 1) % vP v := Nat.mod_add_mod _ _ _
        have hle := tsq_le (n := vP v) (ch := stC v t) (nx := stN v t) (s0 := f) q
        simp only [qu2]
        simp only [qlt, show (0 : Int32) = iI 0 from rfl, iI_le (show -2147483648 ≤ trg v t (tsq (vP v) (stC v t) (stN v t) f q).1 (q % vP v) by omega) (by omega) (show -2147483648 ≤ (0 : Int) by omega) (by omega)]
        by_cases hch : trg v t (tsq (vP v) (stC v t) (stN v t) f q).1 (q % vP v) ≤ 0
        · have hcf : stC v t (q % vP v) (tsq (vP v) (stC v t) (stN v t) f q).1 = false := by
            exact decide_eq_false (p := 0 < trg v t _ (q % vP v)) (by omega)
          have ee := tsq_f (nx := stN v t) hcf
          rw [if_pos hch]
          refine wp_bd ?_
          refine wp_ip (by decide) ?_
          refine wp_be (qrI_nI (by omega) (by omega)) ?_
          refine wp_some ?_
          refine wp_bd (wp_wI rfl (show q % vP v < 20 by omega) (by omega) ?_)
          have m2 : tdM (qI N1 116 (q % vP v) (N1.1 116 (q % vP v))) i v t (tsq (vP v) (stC v t) (stN v t) f q).1 := by
            have := tdM_up (p := q % vP v) d2 hfp.2.1 hfp.2.2
            rw [upI_id] at this
            rw [hfp.1]
            exact this
          rw [m2.2.2.1]
          refine wp_be (qrI_nI hi (by omega)) ?_
          rw [m2.1.2.2.2.1, nI_1]
          refine wp_be (rm_nI (by omega) (by omega) (by omega)) ?_
          refine wp_some ⟨⟨q + 1, st + 1, ?_, ?_, ?_, ?_, ?_, tst_f b5 hc hcf, ?_, d4.tr (fr_I rfl)⟩, ?_⟩
          · rw [ee]; omega
          · rw [ee]
            show nI _ + nI 0 = _
            rw [nI_add]
            rfl
          · show nI st + 1 = _
            exact nI_1 st
          · show nI ((q % vP v + 1) % vP v) = _
            rw [hq1]
          · rw [ee]; exact b4
          · rw [ee]; exact m2
          · show (1001 - (nI (tsq (vP v) (stC v t) (stN v t) f q).2 + nI 0).toNatClampNeg) * (vP v + 1) + (vP v - (nI st + 1).toNatClampNeg) < (1001 - (nI (tsq (vP v) (stC v t) (stN v t) f q).2).toNatClampNeg) * (vP v + 1) + (vP v - (nI st).toNatClampNeg)
            rw [nI_add, nI_1, nI_clamp (by omega), nI_clamp (by omega), nI_clamp (by omega), nI_clamp (by omega), Nat.add_zero]
            omega
        · have hcf : stC v t (q % vP v) (tsq (vP v) (stC v t) (stN v t) f q).1 = true := by
            exact decide_eq_true (p := 0 < trg v t _ (q % vP v)) (by omega)
          have ee := tsq_t (nx := stN v t) hcf
          have ha := ansI_b (tgn v t (tsq (vP v) (stC v t) (stN v t) f q).1 (q % vP v))
          rw [if_neg hch]
          refine wp_bd ?_
          refine wp_in (by decide) ?_
          refine wp_bd ((mAnswer_wp d2 hp).mono ?_)
          rintro ⟨w, N2⟩ ⟨k1, k2, k3⟩
          have k1 : w = iI (ansI (tgn v t (tsq (vP v) (stC v t) (stN v t) f q).1 (q % vP v))) := k1
          subst k1
          have k2 : tdM N2 i v t (tsq (vP v) (stC v t) (stN v t) f q).1 := k2
          have k3 : fr (sTo (q % vP v)) N1 N2 := k3
          simp only [qu2]
          refine wp_some ?_
          simp only
          refine wp_bd (wp_wI rfl (show q % vP v < 20 by omega) (by omega) ?_)
          have m2 := tdM_up (p := q % vP v) k2 ha.1 ha.2
          rw [m2.2.2.1]
          refine wp_be (qrI_nI hi (by omega)) ?_
          rw [m2.1.2.2.2.1, nI_1]
          refine wp_be (rm_nI (by omega) (by omega) (by omega)) ?_
          have hmul : (1001 - (tsq (vP v) (stC v t) (stN v t) f q).2) * (vP v + 1) = (1001 - ((tsq (vP v) (stC v t) (stN v t) f q).2 + 1)) * (vP v + 1) + (vP v + 1) := by
            rw [show 1001 - (tsq (vP v) (stC v t) (stN v t) f q).2 = (1001 - ((tsq (vP v) (stC v t) (stN v t) f q).2 + 1)) + 1 by omega, Nat.succ_mul]
          refine wp_some ⟨⟨q + 1, 0, ?_, ?_, rfl, ?_, ?_, tst_0 _, ?_, (d4.tr (k3.mono (fun b j hb => hb.1))).tr (fr_I rfl)⟩, ?_⟩
          · rw [ee]
            show q + 1 + (1001 - ((tsq (vP v) (stC v t) (stN v t) f q).2 + 1)) * (vP v + 1) + (vP v - 0) ≤ 100000
            omega
          · rw [ee]
            show nI _ + nI 1 = _
            rw [nI_add]
          · show nI ((q % vP v + 1) % vP v) = _
            rw [hq1]
          · rw [ee]; show _ + 1 ≤ _; omega
          · rw [ee]; exact m2
          · show (1001 - (nI (tsq (vP v) (stC v t) (stN v t) f q).2 + nI 1).toNatClampNeg) * (vP v + 1) + (vP v - (nI 0).toNatClampNeg) < (1001 - (nI (tsq (vP v) (stC v t) (stN v t) f q).2).toNatClampNeg) * (vP v + 1) + (vP v - (nI st).toNatClampNeg)
            rw [nI_add, nI_clamp (by omega), nI_clamp (by omega), nI_clamp (by omega), nI_clamp (by omega), hmul]
            omega
  · rintro ⟨x, N⟩ ⟨q, b0, b1, b2, b3, b4, b5⟩
    have b1 : x = nI (tsq (vP v) (stC v t) (stN v t) f q).2 := b1
    subst b1
    have b4 : tdM N i v t (tsq (vP v) (stC v t) (stN v t) f q).1 := b4
    have b5 : fr sT6 M1 N := b5
    have b6 : fr sTM M1 N := b5.mono (fun b j hb => by unfold sT6 at hb; unfold sTM; omega)
    simp only [qu2]
    refine wp_if (fun hc => ?_) (fun hc => ?_)
    · have hc := (nI_ltI (a := 1000) (by omega) (by omega)).mp hc
      refine wp_bd ((mcopy_wp (by decide)).mono ?_)
      rintro N1 ⟨d3, d4⟩
      have hcell : ∀ o, o < 20 → N1.1 116 o = iI (f o) := by
        intro o ho
        rw [d3 o ho, (b5 117 o (by simp [sT6])).1, c1 o ho]
        exact (h.2.2.2.2.2 o ho).1
      refine wp_some ⟨f, Or.inr ⟨q, hc, rfl, rfl⟩, ?_, (g1.tr b6).tr (d4.mono (fun b j hb => by unfold sTM; omega))⟩
      obtain ⟨a1, a2, a3, a4, a5, a6⟩ := b4
      exact ⟨rVM_fr a1 d4 (fun b j _ _ => by omega), a2, by rw [(d4 91 55 (by decide)).1]; exact a3, by rw [(d4 91 56 (by decide)).1]; exact a4, a5, fun o ho => ⟨hcell o ho, (h.2.2.2.2.2 o ho).2⟩⟩
    · have hc : (tsq (vP v) (stC v t) (stN v t) f q).2 ≤ 1000 := by
        rcases Nat.lt_or_ge 1000 (tsq (vP v) (stC v t) (stN v t) f q).2 with h1 | h1
        · exact absurd (nI_lt (a := 1000) h1 (by omega)) hc
        · exact h1
      have hfx := b3.resolve_right (by omega)
      exact wp_some ⟨_, Or.inl ⟨q, hfx, hc, rfl, rfl⟩, b4, g1.tr b6⟩
theorem p_settle {M : qM} {n : Nat} {vs : Nat → vT} (h : rTd n vs M) : bth (rTd n vs) sTC sTM jTc_settle jMd_settle M := by
  rcases h with h | ⟨i, t, f, hi, hi5, hC, hM⟩
  · refine ⟨-1, M, M, ?_, ?_, Or.inl h, fr_rf _ _, fr_rf _ _⟩
    · unfold jTc_settle; rw [began_f h.1]; rfl
    · unfold jMd_settle; rw [if_pos h.2]
  · obtain ⟨⟨r, M1⟩, e1, g, g1, g2, g3⟩ := takeTurns_wp hC
    have g2 : tdC M1 (71 + 4 * i) (vs i) t g := g2
    have g3 : fr sTC M M1 := g3
    obtain ⟨⟨r', M2⟩, e2, g', g4, g5, g6⟩ := mSettle_wp (tdM_C hM g3)
    have g5 : tdM M2 i (vs i) t g' := g5
    have g6 : fr sTM M1 M2 := g6
    obtain ⟨hr, hg⟩ := tres_uniq (vOK_p hC.1.1) g1 g4
    have hr : r = r' := hr
    subst hr hg
    refine ⟨r, M1, M2, ?_, e2, rTd_mk hi hi5 g2 g5 g6, g3, g6⟩
    unfold jTc_settle
    rw [began_t hC.2.2.1, if_neg (by decide), e1]
    rfl
