/-! ===== making: the cells so far, all references read out of the memory ===== -/
def c_fv (X : qX) (ci j k : Nat) (M : qM) : Value := match q_tg ci j with
  | 0 => .int (M.1 k j)
  | 1 => .long (M.2.1 k j)
  | 2 => va_rf ((M.2.2 k j).map X.1)
  | 3 => va_rf ((M.2.2 k j).map X.1)
  | _ => .null
def c_fs (X : qX) (ci k : Nat) (M : qM) : List Value := (List.range (q_nf ci)).map (fun j => c_fv X ci j k M)
def c_E (X : qX) (M : qM) (k : Nat) : va_E :=
  if q_kd k = 20 then .inl (X.2.1.1, q_al k, .inl (M.1 k))
  else if q_kd k = 21 then .inl (X.2.1.2.1, q_al k, .inr (.inl (M.2.1 k)))
  else if q_kd k = 22 then .inl (X.2.1.2.2.1, q_al k, .inr (.inr (.inr (.inr (fun i => (M.2.2 k i).map X.1)))))
  else if q_kd k = 23 then .inl (X.2.1.2.2.2, q_al k, .inr (.inr (.inr (.inr (fun i => (M.2.2 k i).map X.1)))))
  else .inr (q_kd k, c_fs X (q_kd k) k M)
def c_W (X : qX) (n : Nat) (M : qM) : va_W := (List.range n).map (fun k => (X.1 k, c_E X M k))
def c_new (M : qM) (n : Nat) : Prop := ∀ k, n ≤ k → ∀ j, M.1 k j = 0 ∧ M.2.1 k j = 0 ∧ M.2.2 k j = none
def c_P (X : qX) (B n : Nat) (M : qM) (H : Heap) : Prop := va_P X.2.2.1 vwCl (c_W X n M) H ∧ H.size = B + n ∧ n ≤ NK ∧ c_new M n
def c_nl : List (String × Nat × MethodName) := [(RX11, 9, yX4_init), (RX0, 34, yX9_init), (RX11, 51, yX1_init), (RX11, 61, yX3_init), (RX3, 11, yX1_init), (RX11, 75, yX5_init), (RX11, 82, yX6_init), (RX11, 90, yX7_init)]
def c_K (X : qX) (B : Nat) (U : State) : Prop := va_K X.2.2.1 vwCl (q_ty X) U ∧ (∀ k, k < NK → X.1 k = B + k) ∧ va_AO "ThirdComer$Village" U ∧ va_AO "ThirdComer$Way" U ∧ (∀ i, i < 8 → va_Nw (.methodLinkNest (c_nl.getD i ("", 0, yX11_isOf)).1 (c_nl.getD i ("", 0, yX11_isOf)).2.1 (c_nl.getD i ("", 0, yX11_isOf)).2.2 "ThirdComer") U)
def c_A (B : Nat) : Nat → Prop := fun q => B ≤ q
def c_H (X : qX) (B n : Nat) (M : qM) (s : State) (H : Heap) (locs : List Loc) : Prop := c_P X B n M H ∧ va_S (c_A B) s.heap H locs
def cE (X : qX) (B : Nat) (p : Program) (s : State) (m : MethodId) (args : Array Value) (c : Code) (cc : ByteArray) (nL : Nat) (own : String) : Prop :=
  p.tables.exec = Jvm.exec ∧ c.code = cc ∧ c.maxLocals = nL ∧ s.vm.findClass own = some m.cls ∧ (∀ w ∈ q_tbl, w.before args s = true) ∧ c_K X B s ∧ B ≤ s.heap.size
theorem c_K.same {X : qX} {B : Nat} {u U : State} (hv : U.vm = u.vm) (h : c_K X B u) : c_K X B U := by
  have ha : u.vm.Alike U.vm := by rw [hv]; exact Vm.Alike.refl _
  exact ⟨va_K.moved ha h.1, h.2.1, va_AO.moved ha h.2.2.1, va_AO.moved ha h.2.2.2.1, fun i hi => va_Nw.same rfl hv.symm (h.2.2.2.2 i hi)⟩
theorem c_K.warm {X : qX} {B : Nat} {u U : State} (hW : u.WarmedH U.vm) (h : c_K X B u) : c_K X B U :=
  ⟨va_K.moved hW.alike h.1, h.2.1, va_AO.moved hW.alike h.2.2.1, va_AO.moved hW.alike h.2.2.2.1, fun i hi => va_Nw.warmM hW (h.2.2.2.2 i hi)⟩
theorem c_W_get {X : qX} {M : qM} {n k : Nat} (h : k < n) : (c_W X n M)[k]? = some (X.1 k, c_E X M k) := by
  unfold c_W
  rw [List.getElem?_map, List.getElem?_range h]
  rfl
theorem c_W_set {X : qX} {M M1 : qM} {n k : Nat} {e : va_E} (h : k < n) (he : c_E X M1 k = e) (ho : ∀ b, b ≠ k → c_E X M1 b = c_E X M b) : (c_W X n M).set k (X.1 k, e) = c_W X n M1 := by
  apply List.ext_getElem?
  intro i
  by_cases hi : i = k
  · subst hi
    rw [List.getElem?_set_self (by simp [c_W, h]), c_W_get h, he]
  · rw [List.getElem?_set_ne (Ne.symm hi)]
    by_cases hl : i < n
    · rw [c_W_get hl, c_W_get hl, ho i hi]
    · simp only [c_W, List.getElem?_map]
      rw [List.getElem?_eq_none (by simpa using hl)]
      rfl
theorem c_W_D {X : qX} {B : Nat} {M : qM} {n : Nat} (h : ∀ k, k < NK → X.1 k = B + k) (hn : n ≤ NK) : va_D (c_A B) (c_W X n M) := by
  have key : ∀ (k : Nat) (q : Nat × va_E), (c_W X n M)[k]? = some q → q.1 = B + k := by
    intro k q hk
    have hl : k < n := by
      have := (List.getElem?_eq_some_iff.mp hk).1
      simpa [c_W] using this
    rw [c_W_get hl] at hk
    cases hk
    exact h k (by omega)
  refine ⟨fun i j x y hi hj hxy => ?_, fun k q hk => ?_⟩
  · have h1 := key i x hi
    have h2 := key j y hj
    omega
  · have h1 := key k q hk
    show B ≤ q.1
    omega
theorem c_W_push {X : qX} {M : qM} {n : Nat} {e : va_E} (he : c_E X M n = e) : c_W X n M ++ [(X.1 n, e)] = c_W X (n + 1) M := by
  unfold c_W
  rw [List.range_succ, List.map_append, ← he]
  rfl
theorem c_E_obj {X : qX} {M : qM} {k ci n : Nat} (hk : q_is k ci n) (h : ci < 20) : c_E X M k = .inr (ci, c_fs X ci k M) := by
  unfold c_E
  rw [hk.1, if_neg (by omega), if_neg (by omega), if_neg (by omega), if_neg (by omega)]
theorem c_E_I {X : qX} {M : qM} {k n : Nat} (hk : q_is k 20 n) : c_E X M k = .inl (X.2.1.1, n, .inl (M.1 k)) := by
  unfold c_E
  rw [if_pos hk.1, hk.2.2]
theorem c_E_J {X : qX} {M : qM} {k n : Nat} (hk : q_is k 21 n) : c_E X M k = .inl (X.2.1.2.1, n, .inr (.inl (M.2.1 k))) := by
  unfold c_E
  rw [if_neg (by rw [hk.1]; decide), if_pos hk.1, hk.2.2]
theorem c_E_V {X : qX} {M : qM} {k n : Nat} (hk : q_is k 22 n) : c_E X M k = .inl (X.2.1.2.2.1, n, .inr (.inr (.inr (.inr (fun i => (M.2.2 k i).map X.1))))) := by
  unfold c_E
  rw [if_neg (by rw [hk.1]; decide), if_neg (by rw [hk.1]; decide), if_pos hk.1, hk.2.2]
theorem c_E_Y {X : qX} {M : qM} {k n : Nat} (hk : q_is k 23 n) : c_E X M k = .inl (X.2.1.2.2.2, n, .inr (.inr (.inr (.inr (fun i => (M.2.2 k i).map X.1))))) := by
  unfold c_E
  rw [if_neg (by rw [hk.1]; decide), if_neg (by rw [hk.1]; decide), if_neg (by rw [hk.1]; decide), if_pos hk.1, hk.2.2]
theorem c_fs_get {X : qX} {M : qM} {ci k j : Nat} (h : j < q_nf ci) : (c_fs X ci k M)[j]? = some (c_fv X ci j k M) := by
  unfold c_fs
  rw [List.getElem?_map, List.getElem?_range h]
  rfl
theorem c_fs_len {X : qX} {M : qM} {ci k : Nat} : (c_fs X ci k M).length = q_nf ci := by simp [c_fs]
theorem c_fs_set {X : qX} {M M1 : qM} {ci k j : Nat} {v : Value} (h : j < q_nf ci) (hv : c_fv X ci j k M1 = v) (ho : ∀ i, i ≠ j → c_fv X ci i k M1 = c_fv X ci i k M) : (c_fs X ci k M).set j v = c_fs X ci k M1 := by
  apply List.ext_getElem?
  intro i
  by_cases hi : i = j
  · subst hi
    rw [List.getElem?_set_self (by rw [c_fs_len]; exact h), c_fs_get h, hv]
  · rw [List.getElem?_set_ne (Ne.symm hi)]
    by_cases hl : i < q_nf ci
    · rw [c_fs_get hl, c_fs_get hl, ho i hi]
    · rw [List.getElem?_eq_none (by rw [c_fs_len]; omega), List.getElem?_eq_none (by rw [c_fs_len]; omega)]
theorem c_fv_off {X : qX} {M M1 : qM} {ci j k : Nat} (h1 : M1.1 k j = M.1 k j) (h2 : M1.2.1 k j = M.2.1 k j) (h3 : M1.2.2 k j = M.2.2 k j) : c_fv X ci j k M1 = c_fv X ci j k M := by
  unfold c_fv
  rw [h1, h2, h3]
theorem c_E_off {X : qX} {M M1 : qM} {k : Nat} (h1 : M1.1 k = M.1 k) (h2 : M1.2.1 k = M.2.1 k) (h3 : M1.2.2 k = M.2.2 k) : c_E X M1 k = c_E X M k := by
  have h : c_fs X (q_kd k) k M1 = c_fs X (q_kd k) k M := by
    unfold c_fs
    exact List.map_congr_left (fun j _ => c_fv_off (congrFun h1 j) (congrFun h2 j) (congrFun h3 j))
  unfold c_E
  rw [h1, h2, h3, h]
theorem c_WI {X : qX} {M : qM} {N k ci n j : Nat} {v : Int32} (hN : k < N) (hk : q_is k ci n) (h : ci < 20) (hj : j < q_nf ci) (ht : q_tg ci j = 0) : (c_W X N M).set k (X.1 k, .inr (ci, (c_fs X ci k M).set j (.int v))) = c_W X N (qI M k j v) := by
  refine c_W_set hN ?_ (fun b hb => c_E_off (qI_off hb) rfl rfl)
  rw [c_E_obj hk h]
  exact congrArg (fun l => Sum.inr (ci, l)) (c_fs_set (M := M) (M1 := qI M k j v) hj (by simp [c_fv, ht, qI]) (fun i hi => c_fv_off (by simp [qI, hi]) rfl rfl)).symm
theorem c_WJ {X : qX} {M : qM} {N k ci n j : Nat} {v : Int64} (hN : k < N) (hk : q_is k ci n) (h : ci < 20) (hj : j < q_nf ci) (ht : q_tg ci j = 1) : (c_W X N M).set k (X.1 k, .inr (ci, (c_fs X ci k M).set j (.long v))) = c_W X N (qJ M k j v) := by
  refine c_W_set hN ?_ (fun b hb => c_E_off rfl (qJ_off hb) rfl)
  rw [c_E_obj hk h]
  exact congrArg (fun l => Sum.inr (ci, l)) (c_fs_set (M := M) (M1 := qJ M k j v) hj (by simp [c_fv, ht, qJ]) (fun i hi => c_fv_off rfl (by simp [qJ, hi]) rfl)).symm
theorem c_WR {X : qX} {M : qM} {N k ci n j : Nat} {v : Option Nat} (hN : k < N) (hk : q_is k ci n) (h : ci < 20) (hj : j < q_nf ci) (ht : q_tg ci j = 2 ∨ q_tg ci j = 3) : (c_W X N M).set k (X.1 k, .inr (ci, (c_fs X ci k M).set j (va_rf (v.map X.1)))) = c_W X N (qR M k j v) := by
  refine c_W_set hN ?_ (fun b hb => c_E_off rfl rfl (qR_off hb))
  rw [c_E_obj hk h]
  exact congrArg (fun l => Sum.inr (ci, l)) (c_fs_set (M := M) (M1 := qR M k j v) hj (by rcases ht with ht | ht <;> simp [c_fv, ht, qR]) (fun i hi => c_fv_off rfl rfl (by simp [qR, hi]))).symm
theorem c_WaJ {X : qX} {M : qM} {N k n j : Nat} {v : Int64} (hN : k < N) (hk : q_is k 21 n) : (c_W X N M).set k (X.1 k, .inl (X.2.1.2.1, n, .inr (.inl (vp_updL (M.2.1 k) j v)))) = c_W X N (qJ M k j v) := by
  refine c_W_set hN ?_ (fun b hb => c_E_off rfl (qJ_off hb) rfl)
  rw [c_E_J hk]
  have : (qJ M k j v).2.1 k = vp_updL (M.2.1 k) j v := by funext i; simp [qJ, vp_updL]
  rw [this]
theorem c_WaR {X : qX} {M : qM} {k j : Nat} {v : Nat} : (fun i => ((qR M k j (some v)).2.2 k i).map X.1) = va_up (fun i => (M.2.2 k i).map X.1) j (some (X.1 v)) := by
  funext i
  by_cases h : i = j
  · simp [qR, va_up, h]
  · simp [qR, va_up, h]
theorem c_new_I {M : qM} {n a i : Nat} {v : Int32} (h : c_new M n) (ha : a < n) : c_new (qI M a i v) n := fun k hk j => ⟨by rw [qI_off (by omega)]; exact (h k hk j).1, (h k hk j).2.1, (h k hk j).2.2⟩
theorem c_new_J {M : qM} {n a i : Nat} {v : Int64} (h : c_new M n) (ha : a < n) : c_new (qJ M a i v) n := fun k hk j => ⟨(h k hk j).1, by rw [qJ_off (by omega)]; exact (h k hk j).2.1, (h k hk j).2.2⟩
theorem c_new_R {M : qM} {n a i : Nat} {v : Option Nat} (h : c_new M n) (ha : a < n) : c_new (qR M a i v) n := fun k hk j => ⟨(h k hk j).1, (h k hk j).2.1, by rw [qR_off (by omega)]; exact (h k hk j).2.2⟩
section CW
variable {X : qX} {B : Nat} {p : Program} {l : Launch} {e : Env} {R : Room} {s : State} {m : MethodId} {args : Array Value} {below : List Frame} {meth : Method} {c : Code} {H : Heap} {locs : List Loc} {cells slots : Nat} {Q : State → Prop}
variable {cc : ByteArray} {nL : Nat} {own : String} {M M1 : qM} {pc : Nat} {ls : Array Slot} {rest : List Value} {N k ci n j idx : Nat}
/-- a field that is read while things are made -/
theorem cz_gR {v : Nat} {tg : Nat} (hE : cE X B p s m args c cc nL own) (hH : c_H X B N M s H locs) (hF : q_Fr own idx ci j tg) (htg : tg = 2 ∨ tg = 3) (hN : k < N) (hk : q_is k ci n) (hv : M.2.2 k j = some v) (hdg : decode cc pc = .ok (.getfield idx, 3))
    (kk : W p l e R s m args below meth c H locs cells slots Q (F0 m (pc + 3) ls (.ref (X.1 v) :: rest))) : W p l e R s m args below meth c H locs cells slots Q (F0 m pc ls (.ref (X.1 k) :: rest)) := by
  obtain ⟨hx, hb, -, ho, hts, hK, -⟩ := hE
  obtain ⟨C, T, N', ty, ⟨c1, c2, c3, c4, -, -⟩, hj, ht, hl⟩ := hF
  exact va_get hx hb hts c4 ho hK.1 hH.1.1 k (by rw [c_W_get hN, c_E_obj hk c2]) c1 j hj (hts _ hl) (fun _ h => h) (by rw [c_fs_get (by omega)]; rcases htg with h | h <;> (rw [h] at ht; simp only [c_fv, ht, hv]; rfl)) hdg kk
/-- fields that are written while things are made, final or not -/
def c_Fw (own : String) (idx ci j tg : Nat) (fin : Bool) (t : FieldType) : Prop := ∃ C T N ty, q_C ci C T N ty ∧ j < N ∧ q_tg ci j = tg ∧ Cond.fieldLink own idx (T j).1 (T j).2.1 (T j).2.2.1 ∈ q_tbl ∧ (T j).2.2.2 = fin ∧ parseFieldDescriptor (T j).2.2.1 = some t ∧ (T j).1 = own
theorem c_put {v : Value} {t : FieldType} {tg : Nat} {fin : Bool} (hin : meth.name = "<init>") (hE : cE X B p s m args c cc nL own) (hH : c_H X B N M s H locs) (hF : c_Fw own idx ci j tg fin t) (hN : k < N) (hk : q_is k ci n) (hn : narrow t v = v ∧ fits t v = true)
    (hset : (c_W X N M).set k (X.1 k, .inr (ci, (c_fs X ci k M).set j v)) = c_W X N M1) (hnew : c_new M1 N) (hdg : decode cc pc = .ok (.putfield idx, 3))
    (kk : ∀ (H : Heap) (locs : List Loc), c_H X B N M1 s H locs → W p l e R s m args below meth c H locs cells slots Q (F0 m (pc + 3) ls rest)) : W p l e R s m args below meth c H locs cells slots Q (F0 m pc ls (v :: .ref (X.1 k) :: rest)) := by
  obtain ⟨hx, hb, -, ho, hts, hK, -⟩ := hE
  obtain ⟨C, T, N', ty, ⟨c1, c2, c3, c4, c5, c6⟩, hj, ht, hl, hfin, hd, hdc⟩ := hF
  obtain ⟨⟨hP, hsz, hNK, hnw⟩, hS0⟩ := hH
  have hD := c_W_D (X := X) (M := M) hK.2.1 hNK
  have he : (c_W X N M)[k]? = some (X.1 k, .inr (ci, c_fs X ci k M)) := by rw [c_W_get hN, c_E_obj hk c2]
  have hap := va_apart (own := own) hts c4 ty c5 c6 hK.1 c1
  have hlen : j < (c_fs X ci k M).length := by rw [c_fs_len]; omega
  obtain ⟨r, h1, cell, q1, q2, q3, q4⟩ := hP k _ he
  have hr : r = (C, T, N') := Option.some.inj (h1.symm.trans c1)
  subst hr
  obtain ⟨hS, hfc, kC, hkC, hkind⟩ := hK.1.1 ci _ c1
  obtain ⟨cf, kf, fi, f, hi, hsl⟩ := hS j hj
  have hlay := hts _ (c4 _ (u_in_lay hj))
  have hst := (u_facts hfc hkC (u_lays hts c4 hj) hi).1
  have go : ∀ (H' : Heap), H'[X.1 k]? = some (cell.setSlot f.slot v) → H'.size = H.size → (∀ q, q ≠ X.1 k → H'[q]? = H[q]?) → W p l e R s m args below meth c H' (locs ++ [⟨X.1 k, f.slot⟩]) cells slots Q (F0 m (pc + 3) ls rest) := by
    intro H' e1 e2 e3
    rw [hsl] at e1 ⊢
    have hat : va_at X.2.2.1 vwCl (X.1 k, .inr (ci, (c_fs X ci k M).set j v)) H' := ⟨_, c1, t_OB.to (V := updV (vp_V (c_fs X ci k M)) j v) ⟨_, e1, q2, q3, t_set q4 hap hj v⟩ (fun i _ => vp_updV_set hlen v i)⟩
    have hP1 := hP.set hD he hat e3
    rw [hset] at hP1
    exact kk H' _ ⟨⟨hP1, by rw [e2]; exact hsz, hNK, hnew⟩, hS0.put e2 e3 (hD.2 k _ he)⟩
  unfold u_lay at hlay
  cases fin with
  | false =>
    rw [if_neg (by rw [hfin]; decide)] at hlay
    have h6 := u_store hfc hkC hkind hlay hi hd hn.1 hn.2
    exact W.putK hx hb (f := f) ⟨ho, hts _ hl, ⟨_, _, _, hi⟩, hst⟩ (by rw [q2]; exact h6) q1 q3 (by rw [hsl]; exact k2_hasslot (q4 j hj)) rfl rfl hdg go
  | true =>
    rw [if_pos hfin] at hlay
    have hcf : m.cls = cf := by
      obtain ⟨_, _, c', _, _, _, -, -, hf', -, -, -, hown2, -⟩ := Cond.laysFinal_spec hlay
      have e1 : c' = cf := by have := hi.symm.trans hf'; simp at this; exact this.1.symm
      rw [hdc] at hown2
      rw [← e1]
      exact Option.some.inj (ho.symm.trans hown2)
    have h6 := u_fits hfc hkC hkind (Or.inr hlay) hi hd hn.1 hn.2
    exact W.putFinK hx hb ho (hts _ hl) hi hst hcf hin (by rw [q2]; exact h6) q1 q3 (by rw [hsl]; exact k2_hasslot (q4 j hj)) rfl rfl hdg go
theorem cz_pI {v : Int32} {fin : Bool} (hin : meth.name = "<init>") (hE : cE X B p s m args c cc nL own) (hH : c_H X B N M s H locs) (hF : c_Fw own idx ci j 0 fin .int) (hN : k < N) (hk : q_is k ci n) (hM : M1 = qI M k j v) (hdg : decode cc pc = .ok (.putfield idx, 3))
    (kk : ∀ (H : Heap) (locs : List Loc), c_H X B N M1 s H locs → W p l e R s m args below meth c H locs cells slots Q (F0 m (pc + 3) ls rest)) : W p l e R s m args below meth c H locs cells slots Q (F0 m pc ls (.int v :: .ref (X.1 k) :: rest)) := by
  subst hM
  have hF0 := hF
  obtain ⟨C, T, N', ty, hC, hj, ht, -⟩ := hF
  exact c_put hin hE hH hF0 hN hk ⟨rfl, rfl⟩ (c_WI hN hk hC.2.1 (by have := hC.2.2.1; omega) ht) (c_new_I hH.1.2.2.2 hN) hdg kk
theorem cz_pZ {v : Int32} {fin : Bool} (hin : meth.name = "<init>") (hE : cE X B p s m args c cc nL own) (hH : c_H X B N M s H locs) (hF : c_Fw own idx ci j 0 fin .boolean) (hN : k < N) (hk : q_is k ci n) (hv : narrow .boolean (.int v) = .int v ∧ fits .boolean (.int v) = true) (hM : M1 = qI M k j v) (hdg : decode cc pc = .ok (.putfield idx, 3))
    (kk : ∀ (H : Heap) (locs : List Loc), c_H X B N M1 s H locs → W p l e R s m args below meth c H locs cells slots Q (F0 m (pc + 3) ls rest)) : W p l e R s m args below meth c H locs cells slots Q (F0 m pc ls (.int v :: .ref (X.1 k) :: rest)) := by
  subst hM
  have hF0 := hF
  obtain ⟨C, T, N', ty, hC, hj, ht, -⟩ := hF
  exact c_put hin hE hH hF0 hN hk hv (c_WI hN hk hC.2.1 (by have := hC.2.2.1; omega) ht) (c_new_I hH.1.2.2.2 hN) hdg kk
theorem cz_pJ {v : Int64} {fin : Bool} (hin : meth.name = "<init>") (hE : cE X B p s m args c cc nL own) (hH : c_H X B N M s H locs) (hF : c_Fw own idx ci j 1 fin .long) (hN : k < N) (hk : q_is k ci n) (hM : M1 = qJ M k j v) (hdg : decode cc pc = .ok (.putfield idx, 3))
    (kk : ∀ (H : Heap) (locs : List Loc), c_H X B N M1 s H locs → W p l e R s m args below meth c H locs cells slots Q (F0 m (pc + 3) ls rest)) : W p l e R s m args below meth c H locs cells slots Q (F0 m pc ls (.long v :: .ref (X.1 k) :: rest)) := by
  subst hM
  have hF0 := hF
  obtain ⟨C, T, N', ty, hC, hj, ht, -⟩ := hF
  exact c_put hin hE hH hF0 hN hk ⟨rfl, rfl⟩ (c_WJ hN hk hC.2.1 (by have := hC.2.2.1; omega) ht) (c_new_J hH.1.2.2.2 hN) hdg kk
theorem cz_pR {v tg : Nat} {fin : Bool} {t : FieldType} (hin : meth.name = "<init>") (hE : cE X B p s m args c cc nL own) (hH : c_H X B N M s H locs) (hF : c_Fw own idx ci j tg fin t) (htg : tg = 2 ∨ tg = 3) (hN : k < N) (hk : q_is k ci n) (hM : M1 = qR M k j (some v)) (hn : narrow t (.ref (X.1 v)) = .ref (X.1 v) ∧ fits t (.ref (X.1 v)) = true) (hdg : decode cc pc = .ok (.putfield idx, 3))
    (kk : ∀ (H : Heap) (locs : List Loc), c_H X B N M1 s H locs → W p l e R s m args below meth c H locs cells slots Q (F0 m (pc + 3) ls rest)) : W p l e R s m args below meth c H locs cells slots Q (F0 m pc ls (.ref (X.1 v) :: .ref (X.1 k) :: rest)) := by
  subst hM
  have hF0 := hF
  obtain ⟨C, T, N', ty, hC, hj, ht, -⟩ := hF
  exact c_put hin hE hH hF0 hN hk hn (c_WR (v := some v) hN hk hC.2.1 (by have := hC.2.2.1; omega) (by rcases htg with h | h <;> rw [h] at ht <;> simp [ht])) (c_new_R hH.1.2.2.2 hN) hdg kk
theorem cz_pN {tg : Nat} {fin : Bool} {t : FieldType} (hin : meth.name = "<init>") (hE : cE X B p s m args c cc nL own) (hH : c_H X B N M s H locs) (hF : c_Fw own idx ci j tg fin t) (htg : tg = 2 ∨ tg = 3) (hN : k < N) (hk : q_is k ci n) (hM : M1 = qR M k j none) (hn : narrow t .null = .null ∧ fits t .null = true) (hdg : decode cc pc = .ok (.putfield idx, 3))
    (kk : ∀ (H : Heap) (locs : List Loc), c_H X B N M1 s H locs → W p l e R s m args below meth c H locs cells slots Q (F0 m (pc + 3) ls rest)) : W p l e R s m args below meth c H locs cells slots Q (F0 m pc ls (.null :: .ref (X.1 k) :: rest)) := by
  subst hM
  have hF0 := hF
  obtain ⟨C, T, N', ty, hC, hj, ht, -⟩ := hF
  exact c_put hin hE hH hF0 hN hk hn (c_WR (v := none) hN hk hC.2.1 (by have := hC.2.2.1; omega) (by rcases htg with h | h <;> rw [h] at ht <;> simp [ht])) (c_new_R hH.1.2.2.2 hN) hdg kk
/-! cells that are made -/
theorem c_grow {H1 : Heap} (hE : cE X B p s m args c cc nL own) (hH : c_H X B N M s H locs) (hN : N < NK) (o1 : ∀ q, q < H.size → H1[q]? = H[q]?) (z1 : H1.size = H.size + 1) (he : va_at X.2.2.1 vwCl (X.1 N, c_E X M N) H1) : c_H X B (N + 1) M s H1 locs := by
  obtain ⟨-, -, -, -, -, hK, -⟩ := hE
  obtain ⟨⟨hP, hsz, hNK, hnw⟩, hS⟩ := hH
  have hk : ∀ (k : Nat) (x : Nat × va_E), (c_W X N M)[k]? = some x → H1[x.1]? = H[x.1]? := fun k x hx => o1 x.1 ((hP k x hx).lt)
  refine ⟨⟨?_, by rw [z1, hsz]; rfl, hN, fun k h j => hnw k (by omega) j⟩, Nat.le_trans hS.1 (by omega), fun x h1 h2 => (o1 x (Nat.lt_of_lt_of_le h1 hS.1)).trans (hS.2.1 x h1 h2), hS.2.2⟩
  rw [← c_W_push (X := X) (M := M) (n := N) rfl]
  refine (hP.kept hk).app (fun k x hx => ?_)
  have hz : k < 1 := (List.getElem?_eq_some_iff.mp hx).1
  rw [show k = 0 by omega] at hx
  cases hx
  exact he
theorem cz_new {C : String} {T : u_T} {N' : Nat} {ty : Nat → FieldType} (hE : cE X B p s m args c cc nL own) (hH : c_H X B N M s H locs) (hC : q_C ci C T N' ty) (hN : N < NK) (hk : q_is N ci 0) (hcl : Cond.classLink own idx C ∈ q_tbl) (hinst : Cond.instantiable C N' ∈ q_tbl) (hini : Cond.initialized C ∈ q_tbl) (hdf : ∀ j, j < N' → defaultValue (ty j) = (match q_tg ci j with | 0 => Value.int 0 | 1 => Value.long 0 | 2 => Value.null | 3 => Value.null | _ => Value.null)) (hcells : cells + 1 ≤ R.cells) (hslots : slots + N' ≤ R.slots) (hdg : decode cc pc = .ok (.new idx, 3))
    (kk : ∀ (H : Heap), c_H X B (N + 1) M s H locs → W p l e R s m args below meth c H locs (cells + 1) (slots + N') Q (F0 m (pc + 3) ls (.ref (X.1 N) :: rest))) : W p l e R s m args below meth c H locs cells slots Q (F0 m pc ls rest) := by
  have hE0 := hE
  obtain ⟨hx, hb, -, ho, hts, hK, -⟩ := hE
  obtain ⟨c1, c2, c3, c4, c5, c6⟩ := hC
  have hKn := hK.1.1 ci _ c1
  have hadr : X.1 N = H.size := by rw [hK.2.1 N hN, hH.1.2.1]
  refine W.newcK hx hb ho (hts _ hcl) (hts _ hinst) (hts _ hini) rfl hdg hcells hslots hKn.2.1 rfl fun H1 kC hkC e1 z1 o1 => ?_
  rw [← hadr]
  refine kk H1 (c_grow hE0 hH hN o1 z1 ?_)
  rw [c_E_obj hk c2]
  refine ⟨_, c1, ?_⟩
  show t_OB (X.1 N) _ _ _ _ _
  rw [hadr]
  refine (u_born ty hts c4 hKn hkC e1 c5).to (fun j hj => ?_)
  rw [hdf j hj]
  have hnw := hH.1.2.2.2 N (Nat.le_refl _) j
  have hg : (c_fs X ci N M)[j]? = some (c_fv X ci j N M) := c_fs_get (by omega)
  have hv : vp_V (c_fs X ci N M) j = c_fv X ci j N M := by
    unfold vp_V
    rw [List.getD_eq_getElem?_getD, hg]
    rfl
  rw [hv]
  unfold c_fv
  rw [hnw.1, hnw.2.1, hnw.2.2]
  rfl
theorem cz_newI {i : Int32} (hE : cE X B p s m args c cc nL own) (hH : c_H X B N M s H locs) (hN : N < NK) (hk : q_is N 20 n) (harr : Cond.arrayClass .int ∈ q_tbl) (hi : ¬ i < 0) (hn : i.toNatClampNeg = n) (hby : n * componentBytes .int ≤ 536870912) (hcells : cells + 1 ≤ R.cells) (hslots : slots + n ≤ R.slots) (hdg : decode cc pc = .ok (.newarray .int, 2))
    (kk : ∀ (H : Heap), c_H X B (N + 1) M s H locs → W p l e R s m args below meth c H locs (cells + 1) (slots + n) Q (F0 m (pc + 2) ls (.ref (X.1 N) :: rest))) : W p l e R s m args below meth c H locs cells slots Q (F0 m pc ls (.int i :: rest)) := by
  have hE0 := hE
  obtain ⟨hx, hb, -, ho, hts, hK, -⟩ := hE
  have hadr : X.1 N = H.size := by rw [hK.2.1 N hN, hH.1.2.1]
  refine va_newaK hx hb (atype := .int) (hts _ harr) rfl hdg rfl hi hn hby hcells hslots rfl fun H1 cA e1 z1 o1 hAr hNm => ?_
  have hcA : cA = X.2.1.1 := Option.some.inj (hNm.symm.trans (hK.1.2 0 (X.2.1.1, .int) rfl).2)
  rw [← hadr]
  refine kk H1 (c_grow hE0 hH hN o1 z1 ?_)
  rw [c_E_I hk]
  show H1[X.1 N]? = some (vp_cell _ _)
  rw [hadr, e1, hcA]
  have : M.1 N = fun _ => 0 := funext fun j => (hH.1.2.2.2 N (Nat.le_refl _) j).1
  rw [this]
  rfl
theorem cz_newJ {i : Int32} (hE : cE X B p s m args c cc nL own) (hH : c_H X B N M s H locs) (hN : N < NK) (hk : q_is N 21 n) (harr : Cond.arrayClass .long ∈ q_tbl) (hi : ¬ i < 0) (hn : i.toNatClampNeg = n) (hby : n * componentBytes .long ≤ 536870912) (hcells : cells + 1 ≤ R.cells) (hslots : slots + n ≤ R.slots) (hdg : decode cc pc = .ok (.newarray .long, 2))
    (kk : ∀ (H : Heap), c_H X B (N + 1) M s H locs → W p l e R s m args below meth c H locs (cells + 1) (slots + n) Q (F0 m (pc + 2) ls (.ref (X.1 N) :: rest))) : W p l e R s m args below meth c H locs cells slots Q (F0 m pc ls (.int i :: rest)) := by
  have hE0 := hE
  obtain ⟨hx, hb, -, ho, hts, hK, -⟩ := hE
  have hadr : X.1 N = H.size := by rw [hK.2.1 N hN, hH.1.2.1]
  refine va_newaK hx hb (atype := .long) (hts _ harr) rfl hdg rfl hi hn hby hcells hslots rfl fun H1 cA e1 z1 o1 hAr hNm => ?_
  have hcA : cA = X.2.1.2.1 := Option.some.inj (hNm.symm.trans (hK.1.2 1 (X.2.1.2.1, .long) rfl).2)
  rw [← hadr]
  refine kk H1 (c_grow hE0 hH hN o1 z1 ?_)
  rw [c_E_J hk]
  show H1[X.1 N]? = some (vp_cell _ _)
  rw [hadr, e1, hcA]
  have : M.2.1 N = fun _ => 0 := funext fun j => (hH.1.2.2.2 N (Nat.le_refl _) j).2.1
  rw [this]
  rfl
theorem cz_newV {i : Int32} (hE : cE X B p s m args c cc nL own) (hH : c_H X B N M s H locs) (hN : N < NK) (hk : q_is N 22 n) (hcl : Cond.classLink own idx "ThirdComer$Village" ∈ q_tbl) (hi : ¬ i < 0) (hn : i.toNatClampNeg = n) (hby : n * 4 ≤ 536870912) (hcells : cells + 1 ≤ R.cells) (hslots : slots + n ≤ R.slots) (hdg : decode cc pc = .ok (.anewarray idx, 3))
    (kk : ∀ (H : Heap), c_H X B (N + 1) M s H locs → W p l e R s m args below meth c H locs (cells + 1) (slots + n) Q (F0 m (pc + 3) ls (.ref (X.1 N) :: rest))) : W p l e R s m args below meth c H locs cells slots Q (F0 m pc ls (.int i :: rest)) := by
  have hE0 := hE
  obtain ⟨hx, hb, -, ho, hts, hK, -⟩ := hE
  have hadr : X.1 N = H.size := by rw [hK.2.1 N hN, hH.1.2.1]
  subst hn
  refine W.anew hx hb ho (hts _ hcl) (va_AO.use hK.2.2.1) rfl hdg rfl hi hby hcells hslots fun cA kA comp f1 f2 f3 f4 => ?_
  generalize hH1 : H.push ({ cls := cA, slots := Array.replicate i.toNatClampNeg .null, vm := .none } : Cell) = H1
  have z1 : H1.size = H.size + 1 := by rw [← hH1, Array.size_push]
  have e1 : H1[H.size]? = some (arrV cA i.toNatClampNeg (fun _ => .null)) := by rw [← hH1, Array.getElem?_push_size, ← arrV_new]
  have o1 : ∀ q : Nat, q < H.size → H1[q]? = H[q]? := fun q hq => by rw [← hH1, Array.getElem?_push, if_neg (Nat.ne_of_lt hq)]
  obtain ⟨kA', comp', -, -, -, hNm⟩ := (hK.1.2 2 (X.2.1.2.2.1, .object "ThirdComer$Village") rfl).2
  have hcA : cA = X.2.1.2.2.1 := Option.some.inj (f1.symm.trans hNm)
  rw [← hadr]
  refine kk H1 (c_grow hE0 hH hN o1 z1 ?_)
  rw [c_E_V hk]
  show H1[X.1 N]? = some (vp_cell _ _)
  rw [hadr, e1, hcA]
  have : (fun i => (M.2.2 N i).map X.1) = fun _ => none := funext fun j => by rw [(hH.1.2.2.2 N (Nat.le_refl _) j).2.2]; rfl
  rw [this]
  rfl
theorem cz_newY {i : Int32} (hE : cE X B p s m args c cc nL own) (hH : c_H X B N M s H locs) (hN : N < NK) (hk : q_is N 23 n) (hcl : Cond.classLink own idx "ThirdComer$Way" ∈ q_tbl) (hi : ¬ i < 0) (hn : i.toNatClampNeg = n) (hby : n * 4 ≤ 536870912) (hcells : cells + 1 ≤ R.cells) (hslots : slots + n ≤ R.slots) (hdg : decode cc pc = .ok (.anewarray idx, 3))
    (kk : ∀ (H : Heap), c_H X B (N + 1) M s H locs → W p l e R s m args below meth c H locs (cells + 1) (slots + n) Q (F0 m (pc + 3) ls (.ref (X.1 N) :: rest))) : W p l e R s m args below meth c H locs cells slots Q (F0 m pc ls (.int i :: rest)) := by
  have hE0 := hE
  obtain ⟨hx, hb, -, ho, hts, hK, -⟩ := hE
  have hadr : X.1 N = H.size := by rw [hK.2.1 N hN, hH.1.2.1]
  subst hn
  refine W.anew hx hb ho (hts _ hcl) (va_AO.use hK.2.2.2.1) rfl hdg rfl hi hby hcells hslots fun cA kA comp f1 f2 f3 f4 => ?_
  generalize hH1 : H.push ({ cls := cA, slots := Array.replicate i.toNatClampNeg .null, vm := .none } : Cell) = H1
  have z1 : H1.size = H.size + 1 := by rw [← hH1, Array.size_push]
  have e1 : H1[H.size]? = some (arrV cA i.toNatClampNeg (fun _ => .null)) := by rw [← hH1, Array.getElem?_push_size, ← arrV_new]
  have o1 : ∀ q : Nat, q < H.size → H1[q]? = H[q]? := fun q hq => by rw [← hH1, Array.getElem?_push, if_neg (Nat.ne_of_lt hq)]
  obtain ⟨kA', comp', -, -, -, hNm⟩ := (hK.1.2 3 (X.2.1.2.2.2, .object "ThirdComer$Way") rfl).2
  have hcA : cA = X.2.1.2.2.2 := Option.some.inj (f1.symm.trans hNm)
  rw [← hadr]
  refine kk H1 (c_grow hE0 hH hN o1 z1 ?_)
  rw [c_E_Y hk]
  show H1[X.1 N]? = some (vp_cell _ _)
  rw [hadr, e1, hcA]
  have : (fun i => (M.2.2 N i).map X.1) = fun _ => none := funext fun j => by rw [(hH.1.2.2.2 N (Nat.le_refl _) j).2.2]; rfl
  rw [this]
  rfl
/-! arrays while things are made -/
theorem cz_alV {v : Int32} (hE : cE X B p s m args c cc nL own) (hH : c_H X B N M s H locs) (hN : k < N) (hk : q_is k 22 n) (hv : Int32.ofNat n = v) (hdg : decode cc pc = .ok (.arraylength, 1))
    (kk : W p l e R s m args below meth c H locs cells slots Q (F0 m (pc + 1) ls (.int v :: rest))) : W p l e R s m args below meth c H locs cells slots Q (F0 m pc ls (.ref (X.1 k) :: rest)) :=
  va_alen hE.1 hE.2.1 hE.2.2.2.2.2.1.1 hH.1.1 k 2 (by rw [c_W_get hN, c_E_V hk]) rfl hv hdg kk
theorem cz_alY {v : Int32} (hE : cE X B p s m args c cc nL own) (hH : c_H X B N M s H locs) (hN : k < N) (hk : q_is k 23 n) (hv : Int32.ofNat n = v) (hdg : decode cc pc = .ok (.arraylength, 1))
    (kk : W p l e R s m args below meth c H locs cells slots Q (F0 m (pc + 1) ls (.int v :: rest))) : W p l e R s m args below meth c H locs cells slots Q (F0 m pc ls (.ref (X.1 k) :: rest)) :=
  va_alen hE.1 hE.2.1 hE.2.2.2.2.2.1.1 hH.1.1 k 3 (by rw [c_W_get hN, c_E_Y hk]) rfl hv hdg kk
theorem cz_last {i : Int32} {v : Int64} (hE : cE X B p s m args c cc nL own) (hH : c_H X B N M s H locs) (hN : k < N) (hk : q_is k 21 n) (hv : qwJ M k n i v = some M1) (hdg : decode cc pc = .ok (.lastore, 1))
    (kk : ∀ (H : Heap) (locs : List Loc), c_H X B N M1 s H locs → W p l e R s m args below meth c H locs cells slots Q (F0 m (pc + 1) ls rest)) : W p l e R s m args below meth c H locs cells slots Q (F0 m pc ls (.long v :: .int i :: .ref (X.1 k) :: rest)) := by
  obtain ⟨hx, hb, -, ho, hts, hK, -⟩ := hE
  obtain ⟨⟨hP, hsz, hNK, hnw⟩, hS⟩ := hH
  unfold qwJ at hv
  by_cases hc : i < 0 ∨ n ≤ i.toNatClampNeg
  · rw [if_pos hc] at hv; cases hv
  rw [if_neg hc] at hv
  cases hv
  have hD := c_W_D (X := X) (M := M) hK.2.1 hNK
  have he : (c_W X N M)[k]? = some (X.1 k, .inl (X.2.1.2.1, n, .inr (.inl (M.2.1 k)))) := by rw [c_W_get hN, c_E_J hk]
  refine W.last hx hb (hP k _ he) ((hK.1.2 1 (X.2.1.2.1, .long) rfl).1 n (fun j => .long (M.2.1 k j))) (fun q => by cases q) (by show ¬ (i < 0 ∨ (arrV _ _ _).slots.size ≤ _); rw [arrV_size]; exact hc) rfl rfl hdg fun H1 e z oq => ?_
  have hat : va_at X.2.2.1 vwCl (X.1 k, .inl (X.2.1.2.1, n, .inr (.inl (vp_updL (M.2.1 k) i.toNatClampNeg v)))) H1 := by
    show H1[X.1 k]? = some (vp_cell _ _)
    rw [e]
    rw [vp_cell_l, vp_cell_l, arrV_store]
    congr 2
    funext q
    by_cases hq : q = i.toNatClampNeg
    · subst hq
      simp [updV, vp_updL]
    · simp [updV, vp_updL, hq]
  have hP1 := hP.set hD he hat oq
  rw [c_WaJ hN hk] at hP1
  exact kk H1 _ ⟨⟨hP1, by rw [z]; exact hsz, hNK, c_new_J hnw hN⟩, hS.put z oq (hD.2 k _ he)⟩
theorem c_aast {i : Int32} {v cj t0 nv : Nat} {cA : ClassId} {r : vw_C} (hE : cE X B p s m args c cc nL own) (hH : c_H X B N M s H locs) (hN : k < N) (he : (c_W X N M)[k]? = some (X.1 k, .inl (cA, n, .inr (.inr (.inr (.inr (fun i => (M.2.2 k i).map X.1))))))) (ht : (q_ty X)[t0]? = some (cA, .object r.1)) (hv : v < N) (hvk : q_is v cj nv) (hcj : cj < 20) (hc : vwCl[cj]? = some r)
    (hset : (c_W X N M).set k (X.1 k, .inl (cA, n, .inr (.inr (.inr (.inr (va_up (fun i => (M.2.2 k i).map X.1) i.toNatClampNeg (some (X.1 v)))))))) = c_W X N (qR M k i.toNatClampNeg (some v))) (hin : ¬ (i < 0 ∨ n ≤ i.toNatClampNeg)) (hdg : decode cc pc = .ok (.aastore, 1))
    (kk : ∀ (H : Heap) (locs : List Loc), c_H X B N (qR M k i.toNatClampNeg (some v)) s H locs → W p l e R s m args below meth c H locs cells slots Q (F0 m (pc + 1) ls rest)) : W p l e R s m args below meth c H locs cells slots Q (F0 m pc ls (.ref (X.1 v) :: .int i :: .ref (X.1 k) :: rest)) := by
  obtain ⟨hx, hb, -, ho, hts, hK, -⟩ := hE
  obtain ⟨⟨hP, hsz, hNK, hnw⟩, hS⟩ := hH
  have hD := c_W_D (X := X) (M := M) hK.2.1 hNK
  have hv' : (c_W X N M)[v]? = some (X.1 v, .inr (cj, c_fs X cj v M)) := by rw [c_W_get hv, c_E_obj hvk hcj]
  have hlt : i.toNatClampNeg < n := Nat.not_le.mp fun q => hin (Or.inr q)
  have h0 : ¬ i < 0 := fun q => hin (Or.inl q)
  obtain ⟨r', hr', cellV, g1, g2, g3, -⟩ := hP v _ hv'
  have hcls := (hK.1.1 cj r hc).2
  obtain ⟨kA, comp, k1, k2, k3, -⟩ := (hK.1.2 t0 _ ht).2
  have hcomp : comp = X.2.2.1.1 cj := Option.some.inj (k3.symm.trans hcls.1)
  subst hcomp
  obtain ⟨kC, hkC, -⟩ := hcls.2
  refine W.aast hx hb (hP k _ he) (fun q h => by cases h) (fun h => by cases h) k1 k2 rfl hkC ⟨h0, by show _ < (arrV _ _ _).slots.size; rw [arrV_size]; exact hlt⟩ g1 (fun q h => by rw [g3] at h; cases h) (by rw [g2]; exact hkC) (by rw [g2]; exact va_assign hcls) rfl rfl hdg fun H1 e z oq => ?_
  have hat : va_at X.2.2.1 vwCl (X.1 k, .inl (cA, n, .inr (.inr (.inr (.inr (va_up (fun i => (M.2.2 k i).map X.1) i.toNatClampNeg (some (X.1 v)))))))) H1 := by
    show H1[X.1 k]? = some (vp_cell _ _)
    rw [e]
    rw [vp_cell_q, vp_cell_q, arrV_store]
    congr 2
    funext q
    by_cases hq : q = i.toNatClampNeg
    · subst hq
      simp [updV, va_up, va_rf]
    · simp [updV, va_up, hq]
  have hP1 := hP.set hD he hat oq
  rw [hset] at hP1
  exact kk H1 _ ⟨⟨hP1, by rw [z]; exact hsz, hNK, c_new_R hnw hN⟩, hS.put z oq (hD.2 k _ he)⟩
theorem cz_astV {i : Int32} {v nv : Nat} (hE : cE X B p s m args c cc nL own) (hH : c_H X B N M s H locs) (hN : k < N) (hk : q_is k 22 n) (hv : v < N) (hvk : q_is v 7 nv) (hin : ¬ (i < 0 ∨ n ≤ i.toNatClampNeg)) (hM : M1 = qR M k i.toNatClampNeg (some v)) (hdg : decode cc pc = .ok (.aastore, 1))
    (kk : ∀ (H : Heap) (locs : List Loc), c_H X B N M1 s H locs → W p l e R s m args below meth c H locs cells slots Q (F0 m (pc + 1) ls rest)) : W p l e R s m args below meth c H locs cells slots Q (F0 m pc ls (.ref (X.1 v) :: .int i :: .ref (X.1 k) :: rest)) := by
  subst hM
  refine c_aast (t0 := 2) (r := (RX7, TX7, 6)) hE hH hN (by rw [c_W_get hN, c_E_V hk]) rfl hv hvk (by decide) rfl ?_ hin hdg kk
  refine c_W_set hN ?_ (fun b hb => c_E_off rfl rfl (qR_off hb))
  rw [c_E_V hk, c_WaR]
theorem cz_astY {i : Int32} {v nv : Nat} (hE : cE X B p s m args c cc nL own) (hH : c_H X B N M s H locs) (hN : k < N) (hk : q_is k 23 n) (hv : v < N) (hvk : q_is v 9 nv) (hin : ¬ (i < 0 ∨ n ≤ i.toNatClampNeg)) (hM : M1 = qR M k i.toNatClampNeg (some v)) (hdg : decode cc pc = .ok (.aastore, 1))
    (kk : ∀ (H : Heap) (locs : List Loc), c_H X B N M1 s H locs → W p l e R s m args below meth c H locs cells slots Q (F0 m (pc + 1) ls rest)) : W p l e R s m args below meth c H locs cells slots Q (F0 m pc ls (.ref (X.1 v) :: .int i :: .ref (X.1 k) :: rest)) := by
  subst hM
  refine c_aast (t0 := 3) (r := (RX9, TX9, 3)) hE hH hN (by rw [c_W_get hN, c_E_Y hk]) rfl hv hvk (by decide) rfl ?_ hin hdg kk
  refine c_W_set hN ?_ (fun b hb => c_E_off rfl rfl (qR_off hb))
  rw [c_E_Y hk, c_WaR]
theorem cz_obj {a : Nat} (hE : cE X B p s m args c cc nL own) (h1 : Cond.methodLink own idx Lib.objectInit ∈ q_tbl) (h2 : Cond.instanceMethod Lib.objectInit ∈ q_tbl) (h3 : Cond.code Lib.objectInit ⟨#[0xb1]⟩ 1 none ∈ q_tbl) (hls : ls.size = nL) (hf : 1 ≤ R.frames) (hl : (rest.map fun v => v.category).sum + 12 ≤ R.locals) (hdg : decode cc pc = .ok (.invokespecial idx, 3))
    (kk : W p l e R s m args below meth c H locs cells slots Q (F0 m (pc + 3) ls rest)) : W p l e R s m args below meth c H locs cells slots Q (F0 m pc ls (.ref a :: rest)) :=
  W.objInit hE.1 hE.2.1 hE.2.2.2.1 (hE.2.2.2.2.1 _ h1) (hE.2.2.2.2.1 _ h2) (hE.2.2.2.2.1 _ h3) rfl (hls.trans hE.2.2.1.symm) rfl hdg hf (by show 2 * 0 + _ + 12 ≤ _; omega) kk
end CW
/-! contracts of makers -/
def c_rm (lv mc ms : Nat) : Room := { frames := lv, cells := mc, slots := ms, locals := 64 * lv }
def c_Pc (X : qX) (B n : Nat) (M : qM) (av : List Value) : Array Value → State → Prop := va_Pc av (fun U => c_P X B n M U.heap ∧ c_K X B U ∧ B ≤ U.heap.size)
def c_Qv (X : qX) (B n : Nat) (M : qM) : Array Value → State → Outcome → State → Prop := va_Qv (fun (_ : Unit) => True) (fun _ t => c_P X B n M t.heap) (c_A B)
def c_Met (l : Launch) (X : qX) (B : Nat) (y : MethodName) (cc : ByteArray) (nL lv mc ms n0 n1 : Nat) (M M1 : qM) (av : List Value) : Prop :=
  Met l y (Cond.code y cc nL none :: q_tbl) (c_rm lv mc ms) (c_Pc X B n0 M av) (c_Qv X B n1 M1) mc ms (c_A B)
theorem c_Pc_blind {X : qX} {B n : Nat} {M : qM} {av : List Value} : FrameBlind (c_Pc X B n M av) := by
  intro a U g mk h
  obtain ⟨h0, hP, hK, hi⟩ := h
  exact ⟨h0, hP, c_K.same rfl hK, hi⟩
theorem c_enter {l : Launch} {X : qX} {B : Nat} {y : MethodName} {cc : ByteArray} {nL lv mc ms n0 n1 : Nat} {M M1 : qM} {av : List Value} (hy : plainName y.cls = true) (hn : (lg_sl av).length ≤ nL) (hi : y.name = "<init>")
    (body : ∀ p e s m args below meth c, cE X B p s m args c cc nL y.cls → meth.name = "<init>" → meth.sig.returnType = none → meth.locks = false → ∀ H locs, c_H X B n0 M s H locs → ∀ ls, lv_has ls nL (lv_args 0 av) → W p l e (c_rm lv mc ms) s m args below meth c H locs 0 0 (MQ below (c_Qv X B n1 M1) args s mc ms (c_A B)) (F0 m 0 ls [])) : c_Met l X B y cc nL lv mc ms n0 n1 M M1 av := by
  refine Met.ofW (cc := cc) (maxL := nL) (ret := none) hy rfl ?_
  intro p e s m args below meth c s₁ Bd hml hv
  obtain ⟨rfl, hP, hK, hB⟩ := hv
  have hts := atoms_spec (ws := Cond.code y cc nL none :: q_tbl) Bd.pre
  rw [lg_entry_eq]
  exact body p e s m _ below meth c ⟨Bd.exec, Bd.bytes, hml, findClass_of_methodNamed Bd.named, fun w hw => hts w (List.mem_cons_of_mem _ hw), hK, hB⟩ ((name_of_methodNamed Bd.named Bd.method).1.trans hi) Bd.returns Bd.notSynchronized _ _ ⟨hP, va_S.rf⟩ _ (lv_entry av hn)
theorem cz_ret {X : qX} {B N : Nat} {p : Program} {l : Launch} {e : Env} {R : Room} {s : State} {m : MethodId} {args : Array Value} {below : List Frame} {meth : Method} {c : Code} {H : Heap} {locs : List Loc} {cells slots mc ms : Nat} {cc : ByteArray} {nL : Nat} {own : String} {M : qM} {pc : Nat} {ls : Array Slot}
    (hE : cE X B p s m args c cc nL own) (hr : meth.sig.returnType = none) (hlocks : meth.locks = false) (hH : c_H X B N M s H locs) (h1 : cells ≤ mc) (h2 : slots ≤ ms) (hdg : decode cc pc = .ok (.return_, 1)) : W p l e R s m args below meth c H locs cells slots (MQ below (c_Qv X B N M) args s mc ms (c_A B)) (F0 m pc ls []) := by
  obtain ⟨hx, hb, -⟩ := hE
  refine W.widen h1 h2 ?_
  exact W.vret hx hb hr (fun t ht hW => ⟨⟨(), rfl, trivial, by show c_P X B N M t.heap; rw [ht]; exact hH.1⟩, hH.2.F ht⟩) hH.2.2.2 hdg hlocks
/-! calls of makers -/
def c_Km (y : MethodName) (cc : ByteArray) (nL np : Nat) : Prop := Cond.code y cc nL none ∈ q_tbl ∧ Cond.initialized y.cls ∈ q_tbl ∧ (y.cls ≠ "java/lang/invoke/MethodHandle" ∧ y.cls ≠ "java/lang/invoke/VarHandle" ∧ (parseMethodDescriptor y.desc).map (fun d => d.parameters.length) = some np) ∧ y.name = "<init>" ∧ Cond.instanceMethod y ∈ q_tbl
section CC
variable {X : qX} {B : Nat} {p : Program} {l : Launch} {e : Env} {R : Room} {s : State} {m : MethodId} {args : Array Value} {below : List Frame} {meth : Method} {c : Code} {H : Heap} {locs : List Loc} {cells slots : Nat} {Q : State → Prop}
variable {cc cc1 : ByteArray} {nL nL1 np : Nat} {own : String} {M M1 : qM} {pc : Nat} {ls : Array Slot} {As rest st0 : List Value} {N n1 k idx lv mc ms : Nat} {y : MethodName}
theorem c_pre {av : List Value} (hE : cE X B p s m args c cc nL own) (hH : c_H X B N M s H locs) : ∀ U : State, U.heap = H → s.WarmedH U.vm → c_Pc X B N M av av.toArray U := by
  intro U hU hW
  obtain ⟨-, -, -, -, -, hK, hB⟩ := hE
  exact ⟨rfl, by rw [hU]; exact hH.1, c_K.warm hW hK, by rw [hU]; exact Nat.le_trans hB hH.2.1⟩
theorem c_pay (hts : ∀ w ∈ q_tbl, w.before args s = true) (h : Cond.code y cc1 nL1 none ∈ q_tbl) : ∀ w ∈ (Cond.code y cc1 nL1 none :: q_tbl), ∀ (a' : Array Value) (U : State), s.WarmedH U.vm → w.before a' U = true := by
  refine pay_in hts (fun w hw => ?_)
  rcases List.mem_cons.mp hw with rfl | hw
  · exact ⟨h, q_good h⟩
  · exact ⟨hw, q_good hw⟩
theorem c_back {a0 : Array Value} (hE : cE X B p s m args c cc nL own) (hr : va_Run p l e R s m args below meth c H locs cells slots mc ms (F0 m pc ls st0) rest (c_Qv X B n1 M1 a0) (c_A B)) (hH : c_H X B N M s H locs)
    (kk : ∀ (H : Heap) (locs : List Loc), c_H X B n1 M1 s H locs → W p l e R s m args below meth c H locs (cells + mc) (slots + ms) Q (F0 m (pc + 3) ls rest)) : W p l e R s m args below meth c H locs cells slots Q (F0 m pc ls st0) := by
  refine va_callv hr hH.2 (fun _ _ h => h) (fun _ h => h) (fun u t H1 locs1 ht hvm hw hB _ _ hS => ?_)
  have hB : c_P X B n1 M1 t.heap := hB
  rw [ht] at hB
  exact kk H1 locs1 ⟨hB, hS⟩
theorem cz_callI (hE : cE X B p s m args c cc nL own) (hH : c_H X B N M s H locs) (hM : c_Met l X B y cc1 nL1 lv mc ms N n1 M M1 (.ref (X.1 k) :: As)) (hK : c_Km y cc1 nL1 np) (hlk : Cond.methodLink own idx y ∈ q_tbl) (hf1 : lv + 1 ≤ R.frames) (hf2 : 8 + (nL1 + 11) + 64 * lv ≤ R.locals) (hn : As.length = np) (hls : ls.size = nL) (hst : st0 = As.reverse ++ .ref (X.1 k) :: rest) (hW : (rest.map fun v => v.category).sum ≤ 8) (hc : cells + mc ≤ R.cells) (hs : slots + ms ≤ R.slots) (hdg : decode cc pc = .ok (.invokespecial idx, 3))
    (kk : ∀ (H : Heap) (locs : List Loc), c_H X B n1 M1 s H locs → W p l e R s m args below meth c H locs (cells + mc) (slots + ms) Q (F0 m (pc + 3) ls rest)) : W p l e R s m args below meth c H locs cells slots Q (F0 m pc ls st0) := by
  have hE0 := hE
  obtain ⟨hx, hb, hml, ho, hts, hKK, hB⟩ := hE
  obtain ⟨k1, k2, k3, k4, k5⟩ := hK
  refine c_back hE0 (va_runI (Ts := q_tbl) (As := As) (rest := rest) (bytes := cc1) (maxL := nL1) (n := np) ⟨hx, hb, hml, ho, hts⟩ hM ⟨⟨rfl, rfl, hf1, hf2, c_pay hts k1, List.mem_cons_self, hts _ k1, hts _ k2, ⟨k3.1, k3.2.1⟩, ?_, hts _ hlk⟩, k4, hts _ k5⟩ ⟨c_Pc_blind, c_pre hE0 hH⟩ rfl hn hls hst (lv_room hW) hdg ⟨hc, hs⟩) hH kk
  intro sig h
  have h2 := k3.2.2
  rw [h] at h2
  exact (Option.some.inj h2).symm
theorem cz_callN (i : Nat) (hE : cE X B p s m args c cc nL own) (hH : c_H X B N M s H locs) (hM : c_Met l X B y cc1 nL1 lv mc ms N n1 M M1 (.ref (X.1 k) :: As)) (hK : c_Km y cc1 nL1 np) (hi : i < 8) (hlk : c_nl.getD i ("", 0, yX11_isOf) = (own, idx, y)) (hf1 : lv + 1 ≤ R.frames) (hf2 : 8 + (nL1 + 11) + 64 * lv ≤ R.locals) (hn : As.length = np) (hls : ls.size = nL) (hst : st0 = As.reverse ++ .ref (X.1 k) :: rest) (hW : (rest.map fun v => v.category).sum ≤ 8) (hc : cells + mc ≤ R.cells) (hs : slots + ms ≤ R.slots) (hdg : decode cc pc = .ok (.invokespecial idx, 3))
    (kk : ∀ (H : Heap) (locs : List Loc), c_H X B n1 M1 s H locs → W p l e R s m args below meth c H locs (cells + mc) (slots + ms) Q (F0 m (pc + 3) ls rest)) : W p l e R s m args below meth c H locs cells slots Q (F0 m pc ls st0) := by
  have hE0 := hE
  obtain ⟨hx, hb, hml, ho, hts, hKK, hB⟩ := hE
  obtain ⟨k1, k2, k3, k4, k5⟩ := hK
  have hl := hKK.2.2.2.2 i hi
  rw [hlk] at hl
  refine c_back hE0 (va_runIN (Ts := q_tbl) (As := As) (rest := rest) (bytes := cc1) (maxL := nL1) (n := np) (host := "ThirdComer") ⟨hx, hb, hml, ho, hts⟩ hM ⟨⟨⟨rfl, rfl, hf1, hf2, c_pay hts k1, List.mem_cons_self⟩, hts _ k1, hts _ k2, ⟨k3.1, k3.2.1⟩, ?_, va_Nw.use rfl hl⟩, k4, hts _ k5⟩ ⟨c_Pc_blind, c_pre hE0 hH⟩ rfl hn hls hst (lv_room hW) hdg ⟨hc, hs⟩) hH kk
  intro sig h
  have h2 := k3.2.2
  rw [h] at h2
  exact (Option.some.inj h2).symm
end CC
