/-! ===== the machine's cells as the pure memory says ===== -/
/-- addresses; the classes of the arrays; the tables' numbers; the static arrays' and the texts' addresses -/
abbrev qX : Type := (Nat → Nat) × (ClassId × ClassId × ClassId × ClassId) × va_G × (Nat → Nat) × (Nat → Nat) × (Nat → Nat)
def q_fv (X : qX) (ci j k : Nat) (M : qM) : Value := match q_tg ci j with
  | 0 => .int (M.1 k j)
  | 1 => .long (M.2.1 k j)
  | 2 => va_rf ((M.2.2 k j).map X.1)
  | 3 => .ref (X.1 (q_sr ci j k))
  | _ => .null
def q_fs (X : qX) (ci k : Nat) (M : qM) : List Value := (List.range (q_nf ci)).map (fun j => q_fv X ci j k M)
def q_E (X : qX) (M : qM) (k : Nat) : va_E :=
  if q_kd k = 20 then .inl (X.2.1.1, q_al k, .inl (M.1 k))
  else if q_kd k = 21 then .inl (X.2.1.2.1, q_al k, .inr (.inl (M.2.1 k)))
  else if q_kd k = 22 then .inl (X.2.1.2.2.1, q_al k, .inr (.inr (.inr (.inr (fun i => some (X.1 (71 + 4 * i)))))))
  else if q_kd k = 23 then .inl (X.2.1.2.2.2, q_al k, .inr (.inr (.inr (.inr (fun i => some (X.1 (12 + 3 * i)))))))
  else .inr (q_kd k, q_fs X (q_kd k) k M)
def q_W (X : qX) (M : qM) : va_W := (List.range NK).map (fun k => (X.1 k, q_E X M k))
def q_ty (X : qX) : List (ClassId × FieldType) := [(X.2.1.1, .int), (X.2.1.2.1, .long), (X.2.1.2.2.1, .object "ThirdComer$Village"), (X.2.1.2.2.2, .object "ThirdComer$Way")]
/-- the heap holds the memory -/
def q_P (X : qX) (M : qM) (H : Heap) : Prop := va_P X.2.2.1 vwCl (q_W X M) H ∧ q_Ty M
def q_A (X : qX) : Nat → Prop := fun q => ∃ k, k < NK ∧ q = X.1 k
def q_inj (X : qX) : Prop := ∀ i j, i < NK → j < NK → X.1 i = X.1 j → i = j
/-! the static arrays: class, name, what they hold; the texts -/
def q_tn : List (String × Nat × String) := [("ThirdComer$VillageReader", 49, "npwf"), ("ThirdComer$VillageReader", 72, "mdck"), ("ThirdComer$WayReader", 88, "thgnrovc"), ("ThirdComer", 129, "no such village, or nothing of this number is told of one"), ("ThirdComer", 348, "no row, or no such minute in it")]
def q_nl : List (String × Nat) := [("ThirdComer$Customs", 41), ("ThirdComer$Told", 43), ("ThirdComer$Village", 53), ("ThirdComer$Way", 22)]
def q_S (X : qX) (U : State) (H : Heap) : Prop :=
  (∀ i, i < 7 → va_Z (q_sn.getD i ("", "", [])).1 (q_sn.getD i ("", "", [])).2.1 "[I" (.ref (X.2.2.2.1 i)) (q_A X) U H ∧ va_T .int (X.2.2.2.1 i) (q_sl i) (fun j => .int (q_sv i j)) (q_A X) U H) ∧
  vk_S 3 q_tl q_tb X.2.2.2.2.1 X.2.2.2.2.2 (q_A X) U H ∧
  (∀ i, i < 5 → vk_R (q_tn.getD i ("", 0, "")).1 (q_tn.getD i ("", 0, "")).2.1 (q_tn.getD i ("", 0, "")).2.2 (X.2.2.2.2.1 i) U) ∧
  va_Z "java/lang/String" "COMPACT_STRINGS" "Z" (.int 1) (q_A X) U H ∧
  (∀ i, i < 4 → va_Nw (.methodLinkNest (q_nl.getD i ("", 0)).1 (q_nl.getD i ("", 0)).2 yX11_isOf "ThirdComer") U)
theorem q_S.same {X : qX} {u U : State} {H : Heap} (hv : U.vm = u.vm) (h : q_S X u H) : q_S X U H := by
  have ha : u.vm.Alike U.vm := by rw [hv]; exact Vm.Alike.refl _
  exact ⟨fun i hi => ⟨va_Z.moved ha (h.1 i hi).1, va_T.moved ha (h.1 i hi).2⟩, vk_S.moved ha h.2.1, fun i hi => vk_R.same hv (h.2.2.1 i hi), va_Z.moved ha h.2.2.2.1, fun i hi => va_Nw.same rfl hv.symm (h.2.2.2.2 i hi)⟩
theorem q_S.warm {X : qX} {u U : State} {H : Heap} (hW : u.WarmedH U.vm) (h : q_S X u H) : q_S X U H := by
  have ha : u.vm.Alike U.vm := hW.alike
  exact ⟨fun i hi => ⟨va_Z.moved ha (h.1 i hi).1, va_T.moved ha (h.1 i hi).2⟩, vk_S.moved ha h.2.1, fun i hi => vk_R.warm hW (h.2.2.1 i hi), va_Z.moved ha h.2.2.2.1, fun i hi => va_Nw.warmM hW (h.2.2.2.2 i hi)⟩
theorem q_S.kept {X : qX} {U : State} {H H1 : Heap} (h : q_S X U H) (hq : ∀ a : Nat, a < H.size → ¬ q_A X a → H1[a]? = H[a]?) : q_S X U H1 :=
  ⟨fun i hi => ⟨(h.1 i hi).1.kept hq, (h.1 i hi).2.kept hq⟩, h.2.1.kept hq, h.2.2.1, h.2.2.2.1.kept hq, h.2.2.2.2⟩
theorem q_W_get {X : qX} {M : qM} {k : Nat} (h : k < NK) : (q_W X M)[k]? = some (X.1 k, q_E X M k) := by
  unfold q_W
  rw [List.getElem?_map, List.getElem?_range h]
  rfl
theorem q_W_set {X : qX} {M M1 : qM} {k : Nat} {e : va_E} (h : k < NK) (he : q_E X M1 k = e) (ho : ∀ b, b ≠ k → q_E X M1 b = q_E X M b) : (q_W X M).set k (X.1 k, e) = q_W X M1 := by
  apply List.ext_getElem?
  intro i
  by_cases hi : i = k
  · subst hi
    rw [List.getElem?_set_self (by simp [q_W, h]), q_W_get h, he]
  · rw [List.getElem?_set_ne (Ne.symm hi)]
    by_cases hl : i < NK
    · rw [q_W_get hl, q_W_get hl, ho i hi]
    · simp only [q_W, List.getElem?_map]
      rw [List.getElem?_eq_none (by simpa using hl)]
      rfl
theorem q_W_D {X : qX} {M : qM} (h : q_inj X) : va_D (q_A X) (q_W X M) := by
  have key : ∀ (k : Nat) (q : Nat × va_E), (q_W X M)[k]? = some q → k < NK ∧ q.1 = X.1 k := by
    intro k q hk
    have hl : k < NK := by
      have := (List.getElem?_eq_some_iff.mp hk).1
      simpa [q_W] using this
    rw [q_W_get hl] at hk
    cases hk
    exact ⟨hl, rfl⟩
  refine ⟨fun i j x y hi hj hxy => ?_, fun k q hk => ?_⟩
  · obtain ⟨h1, h2⟩ := key i x hi
    obtain ⟨h3, h4⟩ := key j y hj
    exact h i j h1 h3 (by rw [← h2, ← h4]; exact hxy)
  · obtain ⟨h1, h2⟩ := key k q hk
    exact ⟨k, h1, h2⟩
theorem q_E_obj {X : qX} {M : qM} {k ci n : Nat} (hk : q_is k ci n) (h : ci < 20) : q_E X M k = .inr (ci, q_fs X ci k M) := by
  unfold q_E
  rw [hk.1, if_neg (by omega), if_neg (by omega), if_neg (by omega), if_neg (by omega)]
theorem q_E_I {X : qX} {M : qM} {k n : Nat} (hk : q_is k 20 n) : q_E X M k = .inl (X.2.1.1, n, .inl (M.1 k)) := by
  unfold q_E
  rw [if_pos hk.1, hk.2.2]
theorem q_E_J {X : qX} {M : qM} {k n : Nat} (hk : q_is k 21 n) : q_E X M k = .inl (X.2.1.2.1, n, .inr (.inl (M.2.1 k))) := by
  unfold q_E
  rw [if_neg (by rw [hk.1]; decide), if_pos hk.1, hk.2.2]
theorem q_E_V {X : qX} {M : qM} {k n : Nat} (hk : q_is k 22 n) : q_E X M k = .inl (X.2.1.2.2.1, n, .inr (.inr (.inr (.inr (fun i => some (X.1 (71 + 4 * i))))))) := by
  unfold q_E
  rw [if_neg (by rw [hk.1]; decide), if_neg (by rw [hk.1]; decide), if_pos hk.1, hk.2.2]
theorem q_E_Y {X : qX} {M : qM} {k n : Nat} (hk : q_is k 23 n) : q_E X M k = .inl (X.2.1.2.2.2, n, .inr (.inr (.inr (.inr (fun i => some (X.1 (12 + 3 * i))))))) := by
  unfold q_E
  rw [if_neg (by rw [hk.1]; decide), if_neg (by rw [hk.1]; decide), if_neg (by rw [hk.1]; decide), if_pos hk.1, hk.2.2]
theorem q_fs_get {X : qX} {M : qM} {ci k j : Nat} (h : j < q_nf ci) : (q_fs X ci k M)[j]? = some (q_fv X ci j k M) := by
  unfold q_fs
  rw [List.getElem?_map, List.getElem?_range h]
  rfl
theorem q_fs_len {X : qX} {M : qM} {ci k : Nat} : (q_fs X ci k M).length = q_nf ci := by simp [q_fs]
theorem q_fs_set {X : qX} {M M1 : qM} {ci k j : Nat} {v : Value} (h : j < q_nf ci) (hv : q_fv X ci j k M1 = v) (ho : ∀ i, i ≠ j → q_fv X ci i k M1 = q_fv X ci i k M) : (q_fs X ci k M).set j v = q_fs X ci k M1 := by
  apply List.ext_getElem?
  intro i
  by_cases hi : i = j
  · subst hi
    rw [List.getElem?_set_self (by rw [q_fs_len]; exact h), q_fs_get h, hv]
  · rw [List.getElem?_set_ne (Ne.symm hi)]
    by_cases hl : i < q_nf ci
    · rw [q_fs_get hl, q_fs_get hl, ho i hi]
    · rw [List.getElem?_eq_none (by rw [q_fs_len]; omega), List.getElem?_eq_none (by rw [q_fs_len]; omega)]
theorem q_fv_off {X : qX} {M M1 : qM} {ci j k : Nat} (h1 : M1.1 k j = M.1 k j) (h2 : M1.2.1 k j = M.2.1 k j) (h3 : M1.2.2 k j = M.2.2 k j) : q_fv X ci j k M1 = q_fv X ci j k M := by
  unfold q_fv
  rw [h1, h2, h3]
theorem q_E_off {X : qX} {M M1 : qM} {k : Nat} (h1 : M1.1 k = M.1 k) (h2 : M1.2.1 k = M.2.1 k) (h3 : M1.2.2 k = M.2.2 k) : q_E X M1 k = q_E X M k := by
  have h : q_fs X (q_kd k) k M1 = q_fs X (q_kd k) k M := by
    unfold q_fs
    exact List.map_congr_left (fun j _ => q_fv_off (congrFun h1 j) (congrFun h2 j) (congrFun h3 j))
  unfold q_E
  rw [h1, h2, h]
theorem qI_off {M : qM} {a i b : Nat} {v : Int32} (h : b ≠ a) : (qI M a i v).1 b = M.1 b := by
  funext j
  simp [qI, h]
theorem qJ_off {M : qM} {a i b : Nat} {v : Int64} (h : b ≠ a) : (qJ M a i v).2.1 b = M.2.1 b := by
  funext j
  simp [qJ, h]
theorem qR_off {M : qM} {a i b : Nat} {v : Option Nat} (h : b ≠ a) : (qR M a i v).2.2 b = M.2.2 b := by
  funext j
  simp [qR, h]
theorem q_WI {X : qX} {M : qM} {k ci n j : Nat} {v : Int32} (hk : q_is k ci n) (h : ci < 20) (hj : j < q_nf ci) (ht : q_tg ci j = 0) : (q_W X M).set k (X.1 k, .inr (ci, (q_fs X ci k M).set j (.int v))) = q_W X (qI M k j v) := by
  refine q_W_set hk.2.1 ?_ (fun b hb => q_E_off (qI_off hb) rfl rfl)
  rw [q_E_obj hk h]
  exact congrArg (fun l => Sum.inr (ci, l)) (q_fs_set (M := M) (M1 := qI M k j v) hj (by simp [q_fv, ht, qI]) (fun i hi => q_fv_off (by simp [qI, hi]) rfl rfl)).symm
theorem q_WJ {X : qX} {M : qM} {k ci n j : Nat} {v : Int64} (hk : q_is k ci n) (h : ci < 20) (hj : j < q_nf ci) (ht : q_tg ci j = 1) : (q_W X M).set k (X.1 k, .inr (ci, (q_fs X ci k M).set j (.long v))) = q_W X (qJ M k j v) := by
  refine q_W_set hk.2.1 ?_ (fun b hb => q_E_off rfl (qJ_off hb) rfl)
  rw [q_E_obj hk h]
  exact congrArg (fun l => Sum.inr (ci, l)) (q_fs_set (M := M) (M1 := qJ M k j v) hj (by simp [q_fv, ht, qJ]) (fun i hi => q_fv_off rfl (by simp [qJ, hi]) rfl)).symm
theorem q_WR {X : qX} {M : qM} {k ci n j : Nat} {v : Option Nat} (hk : q_is k ci n) (h : ci < 20) (hj : j < q_nf ci) (ht : q_tg ci j = 2) : (q_W X M).set k (X.1 k, .inr (ci, (q_fs X ci k M).set j (va_rf (v.map X.1)))) = q_W X (qR M k j v) := by
  refine q_W_set hk.2.1 ?_ (fun b hb => q_E_off rfl rfl (qR_off hb))
  rw [q_E_obj hk h]
  exact congrArg (fun l => Sum.inr (ci, l)) (q_fs_set (M := M) (M1 := qR M k j v) hj (by simp [q_fv, ht, qR]) (fun i hi => q_fv_off rfl rfl (by simp [qR, hi]))).symm
theorem q_WaI {X : qX} {M : qM} {k n j : Nat} {v : Int32} (hk : q_is k 20 n) : (q_W X M).set k (X.1 k, .inl (X.2.1.1, n, .inl (upd (M.1 k) j v))) = q_W X (qI M k j v) := by
  refine q_W_set hk.2.1 ?_ (fun b hb => q_E_off (qI_off hb) rfl rfl)
  rw [q_E_I hk]
  have : (qI M k j v).1 k = upd (M.1 k) j v := by funext i; simp [qI, upd]
  rw [this]
theorem q_WaJ {X : qX} {M : qM} {k n j : Nat} {v : Int64} (hk : q_is k 21 n) : (q_W X M).set k (X.1 k, .inl (X.2.1.2.1, n, .inr (.inl (vp_updL (M.2.1 k) j v)))) = q_W X (qJ M k j v) := by
  refine q_W_set hk.2.1 ?_ (fun b hb => q_E_off rfl (qJ_off hb) rfl)
  rw [q_E_J hk]
  have : (qJ M k j v).2.1 k = vp_updL (M.2.1 k) j v := by funext i; simp [qJ, vp_updL]
  rw [this]
theorem q_WaC {X : qX} {M : qM} {d n : Nat} {f : Nat → Int32} {sp dp ln : Nat} {M1 : qM} (hk : q_is d 20 n) (hM : M1 = (fun b j => if b = d ∧ dp ≤ j ∧ j < dp + ln then f (sp + (j - dp)) else M.1 b j, M.2)) : (q_W X M).set d (X.1 d, .inl (X.2.1.1, n, .inl (va_cpy f (M.1 d) sp dp ln))) = q_W X M1 := by
  subst hM
  refine q_W_set hk.2.1 ?_ (fun b hb => q_E_off (by funext j; simp [hb]) rfl rfl)
  rw [q_E_I hk]
  have : (fun j => if d = d ∧ dp ≤ j ∧ j < dp + ln then f (sp + (j - dp)) else M.1 d j) = va_cpy f (M.1 d) sp dp ln := by funext i; simp [va_cpy]
  exact congrArg (fun z => (Sum.inl (X.2.1.1, n, Sum.inl z) : va_E)) this
/-! ===== the words: one list for all methods ===== -/
def q_tbl : List Cond := lw_tbl.filter goodWord
theorem q_in (w : Cond) (i : Nat) (h : tables_1[i]? = some w) (hg : goodWord w = true) : w ∈ q_tbl := List.mem_filter.mpr ⟨List.mem_append_right _ (List.mem_of_getElem? h), hg⟩
theorem q_inS (w : Cond) (i : Nat) (h : (k2_sels lw_privs)[i]? = some w) (hg : goodWord w = true) : w ∈ q_tbl := List.mem_filter.mpr ⟨List.mem_append_left _ (List.mem_of_getElem? h), hg⟩
theorem q_good {w : Cond} (h : w ∈ q_tbl) : (w.onTables && w.keeps) = true ∨ ∃ ty, w = .arrayClass ty := good_of_word (List.mem_filter.mp h).2
theorem q_goodIn {y y1 : MethodName} {cc cc1 : ByteArray} {n n1 : Nat} {r r1 : Option FieldType} (h : Cond.code y1 cc1 n1 r1 ∈ q_tbl) : GoodIn (Cond.code y cc n r :: q_tbl) (Cond.code y1 cc1 n1 r1 :: q_tbl) := by
  intro w hw
  rcases List.mem_cons.mp hw with rfl | hw
  · exact ⟨List.mem_cons_of_mem _ h, q_good h⟩
  · exact ⟨List.mem_cons_of_mem _ hw, q_good hw⟩
