/-! ===== the world at the law's entry ===== -/
def fW : List Cond := flatC (Jvm.Cond.and given_1 narrow_1)
theorem w_cls : ∀ (c : Nat) (q : vw_C), vwCl[c]? = some q → (∀ w ∈ u_ws q.1 q.2.1 q.2.2, w ∈ q_tbl) ∧ Cond.instantiable q.1 q.2.2 ∈ q_tbl := by
  intro c q h
  have hc : c < 13 := by
    have := (List.getElem?_eq_some_iff.mp h).1
    exact this
  have hd : c = 0 ∨ c = 1 ∨ c = 2 ∨ c = 3 ∨ c = 4 ∨ c = 5 ∨ c = 6 ∨ c = 7 ∨ c = 8 ∨ c = 9 ∨ c = 10 ∨ c = 11 ∨ c = 12 := by omega
  rcases hd with rfl | rfl | rfl | rfl | rfl | rfl | rfl | rfl | rfl | rfl | rfl | rfl | rfl
  · cases h; exact ⟨qc_0.2.2.2.1, by decide +kernel⟩
  · cases h; exact ⟨qc_1.2.2.2.1, by decide +kernel⟩
  · cases h; exact ⟨qc_2.2.2.2.1, by decide +kernel⟩
  · cases h; exact ⟨qc_3.2.2.2.1, by decide +kernel⟩
  · cases h; exact ⟨qc_4.2.2.2.1, by decide +kernel⟩
  · cases h; exact ⟨qc_5.2.2.2.1, by decide +kernel⟩
  · cases h; exact ⟨qc_6.2.2.2.1, by decide +kernel⟩
  · cases h; exact ⟨qc_7.2.2.2.1, by decide +kernel⟩
  · cases h; exact ⟨qc_8.2.2.2.1, by decide +kernel⟩
  · cases h; exact ⟨qc_9.2.2.2.1, by decide +kernel⟩
  · cases h; exact ⟨qc_10.2.2.2.1, by decide +kernel⟩
  · cases h; exact ⟨qc_11.2.2.2.1, by decide +kernel⟩
  · cases h; exact ⟨qc_12.2.2.2.1, by decide +kernel⟩
section WD
variable {s : State} {args : Array Value}
theorem w_known (hts : ∀ w ∈ q_tbl, w.before args s = true) : ∃ D : va_G, ∀ (c : Nat) (q : vw_C), vwCl[c]? = some q → u_Kn s q.1 q.2.1 q.2.2 (D.1 c) (D.2 c) := by
  have h : ∀ c : Nat, ∃ (z : ClassId × (Nat → Nat)), ∀ q : vw_C, vwCl[c]? = some q → u_Kn s q.1 q.2.1 q.2.2 z.1 z.2 := by
    intro c
    cases hq : vwCl[c]? with
    | none => exact ⟨(0, fun _ => 0), fun q h => by cases h⟩
    | some q =>
      obtain ⟨h1, h2⟩ := w_cls c q hq
      obtain ⟨cC, iS, h3⟩ := u_known hts h1 (hts _ h2)
      exact ⟨(cC, iS), fun q' h => by cases h; exact h3⟩
  obtain ⟨f, hf⟩ := Classical.axiomOfChoice h
  exact ⟨(fun c => (f c).1, fun c => (f c).2), hf⟩
theorem w_arr {t : FieldType} (ht : va_RA s 0 t = (s.vm.findClass ("[" ++ t.toString) = some 0)) (h : (Cond.arrayClass t).before args s = true) : ∃ c, ArrOfT s c t ∧ s.vm.findClass ("[" ++ t.toString) = some c := by
  obtain ⟨c, k, comp, h1, h2, h3⟩ := Cond.arrayClass_spec h
  exact ⟨c, fun n z => ⟨fun k h => (by cases h), k, h2, comp, h3⟩, h1⟩
theorem w_over {C : String} (h : (Cond.arrayOver (.object C)).before args s = true) : ∃ c, ArrOfT s c (.object C) ∧ va_RA s c (.object C) := by
  obtain ⟨comp, c, k, h1, h2, h3, h4, h5⟩ := Cond.arrayOver_spec h
  exact ⟨c, fun n z => ⟨fun k h => (by cases h), k, h3, comp, h4⟩, k, comp, h3, h4, h1, h5⟩
theorem w_K (hts : ∀ w ∈ q_tbl, w.before args s = true) (hV : (Cond.arrayOver (.object "ThirdComer$Village")).before args s = true) (hY : (Cond.arrayOver (.object "ThirdComer$Way")).before args s = true) : ∃ (cs : ClassId × ClassId × ClassId × ClassId) (D : va_G), ∀ (f g h k : Nat → Nat), va_K D vwCl (q_ty (f, cs, D, g, h, k)) s := by
  obtain ⟨D, hD⟩ := w_known hts
  obtain ⟨cI, i1, i2⟩ := w_arr (t := .int) (s := s) rfl (hts _ (by decide +kernel))
  obtain ⟨cJ, j1, j2⟩ := w_arr (t := .long) (s := s) rfl (hts _ (by decide +kernel))
  obtain ⟨cV, v1, v2⟩ := w_over hV
  obtain ⟨cY, y1, y2⟩ := w_over hY
  refine ⟨(cI, cJ, cV, cY), D, fun f g h k => ⟨hD, fun n q hq => ?_⟩⟩
  have hn : n < 4 := (List.getElem?_eq_some_iff.mp hq).1
  have hd : n = 0 ∨ n = 1 ∨ n = 2 ∨ n = 3 := by omega
  rcases hd with rfl | rfl | rfl | rfl
  · cases hq; exact ⟨i1, i2⟩
  · cases hq; exact ⟨j1, j2⟩
  · cases hq; exact ⟨v1, v2⟩
  · cases hq; exact ⟨y1, y2⟩
/-- the static arrays -/
def w_tm (i : Nat) : Term := .static (q_sn.getD i ("", "", [])).1 (q_sn.getD i ("", "", [])).2.1 "[I"
theorem w_s1 : ∀ i : Fin 7, Cond.laysStatic (q_sn.getD i.1 ("", "", [])).1 (q_sn.getD i.1 ("", "", [])).2.1 "[I" ∈ lw_tbl ∧ Cond.initialized (q_sn.getD i.1 ("", "", [])).1 ∈ lw_tbl ∧ q_sl i.1 < 2 ^ 31 ∧ Cond.arrayOf (w_tm i.1) .int ∈ fW ∧ Cond.eq (.length (w_tm i.1)) (.int (Int32.ofNat (q_sl i.1))) ∈ fW := by decide +kernel
theorem w_s2 : ∀ i : Fin 7, ∀ j : Fin (q_sl i.1), Cond.eq (.elem (w_tm i.1) (.int (Int32.ofNat j.1))) (.int (q_sv i.1 j.1)) ∈ fW := by decide +kernel
theorem w_st (hts : ∀ w ∈ lw_tbl, w.before args s = true) (hf : ∀ w ∈ fW, w.before args s = true) {A : Nat → Prop} (hA : ∀ a : Nat, a < s.heap.size → ¬ A a) : ∃ g : Nat → Nat, ∀ i, i < 7 → va_Z (q_sn.getD i ("", "", [])).1 (q_sn.getD i ("", "", [])).2.1 "[I" (.ref (g i)) A s s.heap ∧ va_T .int (g i) (q_sl i) (fun j => .int (q_sv i j)) A s s.heap := by
  have h : ∀ i : Nat, ∃ t : Nat, i < 7 → va_Z (q_sn.getD i ("", "", [])).1 (q_sn.getD i ("", "", [])).2.1 "[I" (.ref t) A s s.heap ∧ va_T .int t (q_sl i) (fun j => .int (q_sv i j)) A s s.heap := by
    intro i
    by_cases hi : i < 7
    · obtain ⟨k1, k2, k3, k4, k5⟩ := w_s1 ⟨i, hi⟩
      obtain ⟨t, h1, h2⟩ := va_Tof (A := A) (f := fun j => .int (q_sv i j)) k3 (hf _ k4) (va_eqt (hf _ k5)) (fun j hj => va_eqt (hf _ (w_s2 ⟨i, hi⟩ ⟨j, hj⟩))) hA
      exact ⟨t, fun _ => ⟨va_Zof (hts _ k1) (hts _ k2) h1 hA, h2⟩⟩
    · exact ⟨0, fun h => absurd h hi⟩
  obtain ⟨g, hg⟩ := Classical.axiomOfChoice h
  exact ⟨g, hg⟩
/-- the texts -/
def w_tx (i : Nat) : Term := .string (q_tn.getD i ("", 0, "")).1 (q_tn.getD i ("", 0, "")).2.1
theorem w_t1 : ∀ i : Fin 3, q_tl.getD i.1 0 < 2 ^ 31 ∧ Cond.exactly (w_tx i.1) "java/lang/String" ∈ fW ∧ Cond.eq (.field (w_tx i.1) "java/lang/String" "coder" "B") (.int 0) ∈ fW ∧ Cond.arrayOf (.field (w_tx i.1) "java/lang/String" "value" "[B") .byte ∈ fW ∧ Cond.eq (.length (.field (w_tx i.1) "java/lang/String" "value" "[B")) (.int (Int32.ofNat (q_tl.getD i.1 0))) ∈ fW := by decide +kernel
theorem w_t2 : ∀ i : Fin 3, ∀ j : Fin (q_tl.getD i.1 0), Cond.eq (.elem (.field (w_tx i.1) "java/lang/String" "value" "[B") (.int (Int32.ofNat j.1))) (.int ((q_tb.getD i.1 []).getD j.1 0)) ∈ fW := by decide +kernel
theorem w_t3 : ∀ i : Fin 3, ∀ j : Fin 3, i.1 ≠ j.1 → Cond.not (Cond.eq (w_tx i.1) (w_tx j.1)) ∈ fW ∨ Cond.not (Cond.eq (w_tx j.1) (w_tx i.1)) ∈ fW := by decide +kernel
theorem w_t4 : ∀ i : Fin 5, Cond.stringRef (q_tn.getD i.1 ("", 0, "")).1 (q_tn.getD i.1 ("", 0, "")).2.1 (q_tn.getD i.1 ("", 0, "")).2.2 ∈ lw_tbl := by decide +kernel
theorem w_te (hcls : ∃ c, s.vm.findClass RX11 = some c) {k : Nat} {tx : String} (h : (Cond.stringRef RX11 k tx).before args s = true) : ∃ a, (Term.string RX11 k).eval args s none [] s = some (.ref a) := by
  obtain ⟨c, hc⟩ := hcls
  obtain ⟨k, cf, i, a, -, -, -, -, -, hev⟩ := Cond.stringRef_spec hc h
  exact ⟨a, hev⟩
theorem w_str (hts : ∀ w ∈ lw_tbl, w.before args s = true) (hf : ∀ w ∈ fW, w.before args s = true) (hcls : ∃ c, s.vm.findClass RX11 = some c) {A : Nat → Prop} (hA : ∀ a : Nat, a < s.heap.size → ¬ A a) : ∃ h k : Nat → Nat, vk_S 3 q_tl q_tb h k A s s.heap ∧ ∀ i, i < 5 → vk_R (q_tn.getD i ("", 0, "")).1 (q_tn.getD i ("", 0, "")).2.1 (q_tn.getD i ("", 0, "")).2.2 (h i) s := by
  obtain ⟨adK, adV, h1, h2⟩ := vk_Sof (A := A) (N := 3) (tm := w_tx) (len := q_tl) (byt := q_tb) (args := args) (s := s) (fun i hi => (w_t1 ⟨i, hi⟩).1) (fun i hi => hf _ (w_t1 ⟨i, hi⟩).2.1) (fun i hi => hf _ (w_t1 ⟨i, hi⟩).2.2.1) (fun i hi => hf _ (w_t1 ⟨i, hi⟩).2.2.2.1) (fun i hi => hf _ (w_t1 ⟨i, hi⟩).2.2.2.2) (fun i hi j hj => hf _ (w_t2 ⟨i, hi⟩ ⟨j, hj⟩)) (fun i j hi hj hij => (w_t3 ⟨i, hi⟩ ⟨j, hj⟩ hij).imp (hf _) (hf _)) hA
  obtain ⟨a3, e3⟩ := w_te hcls (hts _ (w_t4 ⟨3, by decide⟩))
  obtain ⟨a4, e4⟩ := w_te hcls (hts _ (w_t4 ⟨4, by decide⟩))
  refine ⟨fun i => if i < 3 then adK i else if i = 3 then a3 else a4, adV, ⟨fun i hi => ?_, fun i j hi hj h => ?_⟩, fun i hi => ?_⟩
  · simp only [if_pos hi]
    exact h1.1 i hi
  · simp only [if_pos hi, if_pos hj] at h
    exact h1.2 i j hi hj h
  · have hd : i < 3 ∨ i = 3 ∨ i = 4 := by omega
    rcases hd with h3 | rfl | rfl
    · simp only [if_pos h3]
      exact vk_R.of (hts _ (w_t4 ⟨i, hi⟩)) (h2 i h3)
    · exact vk_R.of (hts _ (w_t4 ⟨3, by decide⟩)) e3
    · exact vk_R.of (hts _ (w_t4 ⟨4, by decide⟩)) e4
end WD
theorem w_w1 : Cond.laysStatic "java/lang/String" "COMPACT_STRINGS" "Z" ∈ lw_tbl ∧ Cond.initialized "java/lang/String" ∈ lw_tbl ∧ Cond.eq (.static "java/lang/String" "COMPACT_STRINGS" "Z") (.int 1) ∈ fW := by decide +kernel
theorem w_w2 : ∀ i : Fin 4, Cond.methodLinkNest (q_nl.getD i.1 ("", 0)).1 (q_nl.getD i.1 ("", 0)).2 yX11_isOf "ThirdComer" ∈ lw_tbl := by decide +kernel
theorem w_w3 : ∀ i : Fin 8, Cond.methodLinkNest (c_nl.getD i.1 ("", 0, yX11_isOf)).1 (c_nl.getD i.1 ("", 0, yX11_isOf)).2.1 (c_nl.getD i.1 ("", 0, yX11_isOf)).2.2 "ThirdComer" ∈ lw_tbl := by decide +kernel
theorem w_w4 : Cond.arrayOver (.object "ThirdComer$Village") ∈ lw_tbl ∧ Cond.arrayOver (.object "ThirdComer$Way") ∈ lw_tbl := by decide +kernel
theorem w_w5 : (Cond.laysStatic Bundle.tN "UNASSIGNED_STACK" Bundle.steD ∈ lw_tbl ∧ Cond.isRef (.static Bundle.tN "UNASSIGNED_STACK" Bundle.steD) ∈ fW) ∧ (Cond.laysStatic Bundle.tN "SUPPRESSED_SENTINEL" Bundle.listD ∈ lw_tbl ∧ Cond.isRef (.static Bundle.tN "SUPPRESSED_SENTINEL" Bundle.listD) ∈ fW) ∧ Cond.initialized Bundle.tN ∈ lw_tbl := by decide +kernel
theorem w_w6 : ∀ w ∈ lW, w ∈ lw_tbl ∧ w.onTables = true := by decide +kernel
