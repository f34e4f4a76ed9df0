/-! ===== steps of the machine over the pure memory ===== -/
theorem q_isal {k ci n : Nat} (h : q_is k ci n) : q_is k ci (q_al k) := ⟨h.1, h.2.1, rfl⟩
theorem q_nz (b : Bool) : narrow .boolean (.int (b2i b)) = .int (b2i b) ∧ fits .boolean (.int (b2i b)) = true := by cases b <;> exact ⟨rfl, rfl⟩
theorem q_nzb {x : Int32} {b : Bool} (h : qtb x = some b) : narrow .boolean (.int x) = .int x ∧ fits .boolean (.int x) = true := by rw [st_tb h]; exact q_nz b
def q_rm (n : Nat) : Room := { frames := n, cells := 0, slots := 0, locals := 64 * n }
def qE (X : qX) (p : Program) (s : State) (m : MethodId) (args : Array Value) (c : Code) (cc : ByteArray) (nL : Nat) (own : String) : Prop :=
  p.tables.exec = Jvm.exec ∧ c.code = cc ∧ c.maxLocals = nL ∧ s.vm.findClass own = some m.cls ∧ (∀ w ∈ q_tbl, w.before args s = true) ∧ va_K X.2.2.1 vwCl (q_ty X) s ∧ q_inj X ∧ q_S X s s.heap
def q_H (X : qX) (M : qM) (s : State) (H : Heap) (locs : List Loc) : Prop := q_P X M H ∧ va_S (q_A X) s.heap H locs
def q_C (ci : Nat) (C : String) (T : u_T) (N : Nat) (ty : Nat → FieldType) : Prop :=
  vwCl[ci]? = some (C, T, N) ∧ ci < 20 ∧ N = q_nf ci ∧ (∀ w ∈ u_ws C T N, w ∈ q_tbl) ∧ (∀ k, k < N → parseFieldDescriptor (T k).2.2.1 = some (ty k)) ∧ (∀ a, a < N → ∀ b, b < N → a ≠ b → (T a).2.1 ≠ (T b).2.1)
/-- a field that is read, and one that is written, by the number under which a class names it -/
def q_Fr (own : String) (idx ci j tg : Nat) : Prop := ∃ C T N ty, q_C ci C T N ty ∧ j < N ∧ q_tg ci j = tg ∧ Cond.fieldLink own idx (T j).1 (T j).2.1 (T j).2.2.1 ∈ q_tbl
def q_Fw (own : String) (idx ci j tg : Nat) (t : FieldType) : Prop := ∃ C T N ty, q_C ci C T N ty ∧ j < N ∧ q_tg ci j = tg ∧ Cond.fieldLink own idx (T j).1 (T j).2.1 (T j).2.2.1 ∈ q_tbl ∧ (T j).2.2.2 = false ∧ parseFieldDescriptor (T j).2.2.1 = some t
def q_Km (own : String) (idx : Nat) (y : MethodName) (cc : ByteArray) (n : Nat) (ret : Option FieldType) (np : Nat) : Prop :=
  Cond.code y cc n ret ∈ q_tbl ∧ Cond.methodLink own idx y ∈ q_tbl ∧ Cond.initialized y.cls ∈ q_tbl ∧ (y.cls ≠ "java/lang/invoke/MethodHandle" ∧ y.cls ≠ "java/lang/invoke/VarHandle" ∧ (parseMethodDescriptor y.desc).map (fun d => d.parameters.length) = some np) ∧ n ≤ 40
def q_KV (own : String) (idx : Nat) (y : MethodName) (cc : ByteArray) (n : Nat) (ret : Option FieldType) (np ci : Nat) : Prop :=
  q_Km own idx y cc n ret np ∧ Cond.instanceMethod y ∈ q_tbl ∧ Cond.selects y.cls y y ∈ q_tbl ∧ ∃ T N, vwCl[ci]? = some (y.cls, T, N) ∧ ci < 20
def q_KS (own : String) (idx : Nat) (y : MethodName) (cc : ByteArray) (n : Nat) (ret : Option FieldType) (np : Nat) : Prop :=
  q_Km own idx y cc n ret np ∧ Cond.static y ∈ q_tbl
def q_KN (own : String) (idx : Nat) (y : MethodName) (cc : ByteArray) (n : Nat) (ret : Option FieldType) (np : Nat) (host : String) : Prop :=
  Cond.code y cc n ret ∈ q_tbl ∧ (∃ i, i < 4 ∧ own = (q_nl.getD i ("", 0)).1 ∧ idx = (q_nl.getD i ("", 0)).2 ∧ y = yX11_isOf ∧ host = "ThirdComer") ∧ Cond.initialized y.cls ∈ q_tbl ∧ (y.cls ≠ "java/lang/invoke/MethodHandle" ∧ y.cls ≠ "java/lang/invoke/VarHandle" ∧ (parseMethodDescriptor y.desc).map (fun d => d.parameters.length) = some np) ∧ n ≤ 40 ∧ Cond.static y ∈ q_tbl
/-! contracts -/
def q_Pc (X : qX) (M : qM) (av : List Value) : Array Value → State → Prop := va_Pc av (fun U => q_P X M U.heap ∧ va_K X.2.2.1 vwCl (q_ty X) U ∧ q_inj X ∧ q_S X U U.heap)
def q_Qi (X : qX) (r : Int32) (M : qM) : Array Value → State → Outcome → State → Prop := va_Qi (fun r' (_ : Unit) => r' = r) (fun _ t => q_P X M t.heap) (q_A X)
def q_Ql (X : qX) (r : Int64) (M : qM) : Array Value → State → Outcome → State → Prop := va_Ql (fun r' (_ : Unit) => r' = r) (fun _ t => q_P X M t.heap) (q_A X)
def q_Qv (X : qX) (M : qM) : Array Value → State → Outcome → State → Prop := va_Qv (fun (_ : Unit) => True) (fun _ t => q_P X M t.heap) (q_A X)
def q_Qq (X : qX) (r : Option Nat) (M : qM) : Array Value → State → Outcome → State → Prop := va_Qq (fun r' (_ : Unit) => r' = r.map X.1) (fun _ t => q_P X M t.heap) (q_A X)
def q_Met (l : Launch) (X : qX) (y : MethodName) (cc : ByteArray) (n : Nat) (ret : Option FieldType) (lv : Nat) (M : qM) (av : List Value) (Q : Array Value → State → Outcome → State → Prop) : Prop :=
  Met l y (Cond.code y cc n ret :: q_tbl) (q_rm lv) (q_Pc X M av) Q 0 0 (q_A X)
theorem q_Pc_blind {X : qX} {M : qM} {av : List Value} : FrameBlind (q_Pc X M av) := by
  intro a U g mk h
  obtain ⟨h0, hP, hK, hi, hS⟩ := h
  exact ⟨h0, hP, va_K.moved (u := U) (U := U.calling g mk a) (Vm.Alike.refl U.vm) hK, hi, q_S.same rfl hS⟩
theorem q_pre {X : qX} {p : Program} {s : State} {m : MethodId} {args : Array Value} {c : Code} {cc : ByteArray} {nL : Nat} {own : String} {M : qM} {H : Heap} {locs : List Loc} {av : List Value} (hE : qE X p s m args c cc nL own) (hH : q_H X M s H locs) : ∀ U : State, U.heap = H → s.WarmedH U.vm → q_Pc X M av av.toArray U := by
  intro U hU hW
  obtain ⟨-, -, -, -, -, hK, hi, hS⟩ := hE
  refine ⟨rfl, by rw [hU]; exact hH.1, va_K.moved hW.alike hK, hi, ?_⟩
  refine q_S.kept (q_S.warm hW hS) (fun a h1 h2 => ?_)
  rw [hU]
  exact hH.2.2.1 a h1 h2
section QW
variable {X : qX} {p : Program} {l : Launch} {e : Env} {R : Room} {s : State} {m : MethodId} {args : Array Value} {below : List Frame} {meth : Method} {c : Code} {H : Heap} {locs : List Loc} {cells slots : Nat} {Q : State → Prop}
variable {cc : ByteArray} {nL : Nat} {own : String} {M M1 : qM} {pc : Nat} {ls : Array Slot} {rest : List Value} {k ci n j idx : Nat}
theorem pz_gI (hE : qE X p s m args c cc nL own) (hH : q_H X M s H locs) (hF : q_Fr own idx ci j 0) (hk : q_is k ci n) (hdg : decode cc pc = .ok (.getfield idx, 3))
    (kk : W p l e R s m args below meth c H locs cells slots Q (F0 m (pc + 3) ls (.int (M.1 k j) :: rest))) : W p l e R s m args below meth c H locs cells slots Q (F0 m pc ls (.ref (X.1 k) :: rest)) := by
  obtain ⟨hx, hb, -, ho, hts, hK, -, -⟩ := hE
  obtain ⟨C, T, N, ty, ⟨c1, c2, c3, c4, -, -⟩, hj, ht, hl⟩ := hF
  exact va_get hx hb hts c4 ho hK hH.1.1 k (by rw [q_W_get hk.2.1, q_E_obj hk c2]) c1 j hj (hts _ hl) (fun _ h => h) (by rw [q_fs_get (by omega)]; simp only [q_fv, ht]) hdg kk
theorem pz_gJ (hE : qE X p s m args c cc nL own) (hH : q_H X M s H locs) (hF : q_Fr own idx ci j 1) (hk : q_is k ci n) (hdg : decode cc pc = .ok (.getfield idx, 3))
    (kk : W p l e R s m args below meth c H locs cells slots Q (F0 m (pc + 3) ls (.long (M.2.1 k j) :: rest))) : W p l e R s m args below meth c H locs cells slots Q (F0 m pc ls (.ref (X.1 k) :: rest)) := by
  obtain ⟨hx, hb, -, ho, hts, hK, -, -⟩ := hE
  obtain ⟨C, T, N, ty, ⟨c1, c2, c3, c4, -, -⟩, hj, ht, hl⟩ := hF
  exact va_get hx hb hts c4 ho hK hH.1.1 k (by rw [q_W_get hk.2.1, q_E_obj hk c2]) c1 j hj (hts _ hl) (fun _ h => h) (by rw [q_fs_get (by omega)]; simp only [q_fv, ht]) hdg kk
/-- a reference that never changes -/
theorem pz_gS {a : Nat} (hE : qE X p s m args c cc nL own) (hH : q_H X M s H locs) (hF : q_Fr own idx ci j 3) (hk : q_is k ci n) (ha : q_sr ci j k = a) (hdg : decode cc pc = .ok (.getfield idx, 3))
    (kk : W p l e R s m args below meth c H locs cells slots Q (F0 m (pc + 3) ls (.ref (X.1 a) :: rest))) : W p l e R s m args below meth c H locs cells slots Q (F0 m pc ls (.ref (X.1 k) :: rest)) := by
  obtain ⟨hx, hb, -, ho, hts, hK, -, -⟩ := hE
  obtain ⟨C, T, N, ty, ⟨c1, c2, c3, c4, -, -⟩, hj, ht, hl⟩ := hF
  subst ha
  exact va_get hx hb hts c4 ho hK hH.1.1 k (by rw [q_W_get hk.2.1, q_E_obj hk c2]) c1 j hj (hts _ hl) (fun _ h => h) (by rw [q_fs_get (by omega)]; simp only [q_fv, ht]) hdg kk
/-- a reference that changes, and is there -/
theorem pz_gR {v : Nat} (hE : qE X p s m args c cc nL own) (hH : q_H X M s H locs) (hF : q_Fr own idx ci j 2) (hk : q_is k ci n) (hv : M.2.2 k j = some v) (hdg : decode cc pc = .ok (.getfield idx, 3))
    (kk : q_ok ci j v = true → W p l e R s m args below meth c H locs cells slots Q (F0 m (pc + 3) ls (.ref (X.1 v) :: rest))) : W p l e R s m args below meth c H locs cells slots Q (F0 m pc ls (.ref (X.1 k) :: rest)) := by
  obtain ⟨hx, hb, -, ho, hts, hK, -, -⟩ := hE
  obtain ⟨C, T, N, ty, ⟨c1, c2, c3, c4, -, -⟩, hj, ht, hl⟩ := hF
  have hok : q_ok ci j v = true := by
    have := hH.1.2 k j v (by rw [hk.1]; exact ht) hv
    rwa [hk.1] at this
  exact va_get hx hb hts c4 ho hK hH.1.1 k (by rw [q_W_get hk.2.1, q_E_obj hk c2]) c1 j hj (hts _ hl) (fun _ h => h) (by rw [q_fs_get (by omega)]; simp only [q_fv, ht, hv]; rfl) hdg (kk hok)
/-- a reference that changes, asked whether it is null -/
theorem pz_gQ (hE : qE X p s m args c cc nL own) (hH : q_H X M s H locs) (hF : q_Fr own idx ci j 2) (hk : q_is k ci n) (hdg : decode cc pc = .ok (.getfield idx, 3))
    (kk : W p l e R s m args below meth c H locs cells slots Q (F0 m (pc + 3) ls (va_rf ((M.2.2 k j).map X.1) :: rest))) : W p l e R s m args below meth c H locs cells slots Q (F0 m pc ls (.ref (X.1 k) :: rest)) := by
  obtain ⟨hx, hb, -, ho, hts, hK, -, -⟩ := hE
  obtain ⟨C, T, N, ty, ⟨c1, c2, c3, c4, -, -⟩, hj, ht, hl⟩ := hF
  exact va_get hx hb hts c4 ho hK hH.1.1 k (by rw [q_W_get hk.2.1, q_E_obj hk c2]) c1 j hj (hts _ hl) (fun _ h => h) (by rw [q_fs_get (by omega)]; simp only [q_fv, ht]) hdg kk
theorem pz_pI {v : Int32} (hE : qE X p s m args c cc nL own) (hH : q_H X M s H locs) (hF : q_Fw own idx ci j 0 .int) (hk : q_is k ci n) (hM : M1 = qI M k j v) (hdg : decode cc pc = .ok (.putfield idx, 3))
    (kk : ∀ (H : Heap) (locs : List Loc), q_H X M1 s H locs → W p l e R s m args below meth c H locs cells slots Q (F0 m (pc + 3) ls rest)) : W p l e R s m args below meth c H locs cells slots Q (F0 m pc ls (.int v :: .ref (X.1 k) :: rest)) := by
  obtain ⟨hx, hb, -, ho, hts, hK, hi, -⟩ := hE
  obtain ⟨C, T, N, ty, ⟨c1, c2, c3, c4, c5, c6⟩, hj, ht, hl, hfin, hd⟩ := hF
  subst hM
  refine va_put hx hb hts c4 ty c5 c6 ho hK hH.1.1 (q_W_D hi) hH.2 k (by rw [q_W_get hk.2.1, q_E_obj hk c2]) c1 j hj (hts _ hl) (fun _ h => h) hfin hd rfl rfl (by rw [q_fs_len]; omega) hdg (fun H1 locs1 h1 _ h3 => kk H1 locs1 ⟨⟨?_, hH.1.2⟩, h3⟩)
  rw [q_WI hk c2 (by omega) ht] at h1
  exact h1
theorem pz_pZ {v : Int32} (hE : qE X p s m args c cc nL own) (hH : q_H X M s H locs) (hF : q_Fw own idx ci j 0 .boolean) (hk : q_is k ci n) (hv : narrow .boolean (.int v) = .int v ∧ fits .boolean (.int v) = true) (hM : M1 = qI M k j v) (hdg : decode cc pc = .ok (.putfield idx, 3))
    (kk : ∀ (H : Heap) (locs : List Loc), q_H X M1 s H locs → W p l e R s m args below meth c H locs cells slots Q (F0 m (pc + 3) ls rest)) : W p l e R s m args below meth c H locs cells slots Q (F0 m pc ls (.int v :: .ref (X.1 k) :: rest)) := by
  obtain ⟨hx, hb, -, ho, hts, hK, hi, -⟩ := hE
  obtain ⟨C, T, N, ty, ⟨c1, c2, c3, c4, c5, c6⟩, hj, ht, hl, hfin, hd⟩ := hF
  subst hM
  refine va_put hx hb hts c4 ty c5 c6 ho hK hH.1.1 (q_W_D hi) hH.2 k (by rw [q_W_get hk.2.1, q_E_obj hk c2]) c1 j hj (hts _ hl) (fun _ h => h) hfin hd hv.1 hv.2 (by rw [q_fs_len]; omega) hdg (fun H1 locs1 h1 _ h3 => kk H1 locs1 ⟨⟨?_, hH.1.2⟩, h3⟩)
  rw [q_WI hk c2 (by omega) ht] at h1
  exact h1
theorem pz_pJ {v : Int64} (hE : qE X p s m args c cc nL own) (hH : q_H X M s H locs) (hF : q_Fw own idx ci j 1 .long) (hk : q_is k ci n) (hM : M1 = qJ M k j v) (hdg : decode cc pc = .ok (.putfield idx, 3))
    (kk : ∀ (H : Heap) (locs : List Loc), q_H X M1 s H locs → W p l e R s m args below meth c H locs cells slots Q (F0 m (pc + 3) ls rest)) : W p l e R s m args below meth c H locs cells slots Q (F0 m pc ls (.long v :: .ref (X.1 k) :: rest)) := by
  obtain ⟨hx, hb, -, ho, hts, hK, hi, -⟩ := hE
  obtain ⟨C, T, N, ty, ⟨c1, c2, c3, c4, c5, c6⟩, hj, ht, hl, hfin, hd⟩ := hF
  subst hM
  refine va_put hx hb hts c4 ty c5 c6 ho hK hH.1.1 (q_W_D hi) hH.2 k (by rw [q_W_get hk.2.1, q_E_obj hk c2]) c1 j hj (hts _ hl) (fun _ h => h) hfin hd rfl rfl (by rw [q_fs_len]; omega) hdg (fun H1 locs1 h1 _ h3 => kk H1 locs1 ⟨⟨?_, hH.1.2⟩, h3⟩)
  rw [q_WJ hk c2 (by omega) ht] at h1
  exact h1
theorem pz_pR {v : Nat} {t : FieldType} (hE : qE X p s m args c cc nL own) (hH : q_H X M s H locs) (hF : q_Fw own idx ci j 2 t) (hk : q_is k ci n) (hv : q_ok ci j v = true) (hM : M1 = qR M k j (some v)) (hn : narrow t (.ref (X.1 v)) = .ref (X.1 v) ∧ fits t (.ref (X.1 v)) = true) (hdg : decode cc pc = .ok (.putfield idx, 3))
    (kk : ∀ (H : Heap) (locs : List Loc), q_H X M1 s H locs → W p l e R s m args below meth c H locs cells slots Q (F0 m (pc + 3) ls rest)) : W p l e R s m args below meth c H locs cells slots Q (F0 m pc ls (.ref (X.1 v) :: .ref (X.1 k) :: rest)) := by
  obtain ⟨hx, hb, -, ho, hts, hK, hi, -⟩ := hE
  obtain ⟨C, T, N, ty, ⟨c1, c2, c3, c4, c5, c6⟩, hj, ht, hl, hfin, hd⟩ := hF
  subst hM
  refine va_put hx hb hts c4 ty c5 c6 ho hK hH.1.1 (q_W_D hi) hH.2 k (by rw [q_W_get hk.2.1, q_E_obj hk c2]) c1 j hj (hts _ hl) (fun _ h => h) hfin hd hn.1 hn.2 (by rw [q_fs_len]; omega) hdg (fun H1 locs1 h1 _ h3 => kk H1 locs1 ⟨⟨?_, q_Ty_R hH.1.2 (fun w hw => by cases hw; rw [hk.1]; exact hv)⟩, h3⟩)
  have hq := q_WR (X := X) (M := M) (v := some v) hk c2 (by omega) ht
  rw [show va_rf ((some v).map X.1) = .ref (X.1 v) from rfl] at hq
  rw [hq] at h1
  exact h1
theorem q_vp {i : Int32} {n : Nat} (h : ¬ (i < 0 ∨ n ≤ i.toNatClampNeg)) : vp_in i n := h
theorem pz_iald {i v : Int32} (hE : qE X p s m args c cc nL own) (hH : q_H X M s H locs) (hk : q_is k 20 n) (hv : qrI M k n i = some v) (hdg : decode cc pc = .ok (.iaload, 1))
    (kk : W p l e R s m args below meth c H locs cells slots Q (F0 m (pc + 1) ls (.int v :: rest))) : W p l e R s m args below meth c H locs cells slots Q (F0 m pc ls (.int i :: .ref (X.1 k) :: rest)) := by
  obtain ⟨hx, hb, -, ho, hts, hK, -, -⟩ := hE
  unfold qrI at hv
  by_cases hc : i < 0 ∨ n ≤ i.toNatClampNeg
  · rw [if_pos hc] at hv; cases hv
  · rw [if_neg hc] at hv
    cases hv
    exact va_iald hx hb hK hH.1.1 k 0 (by rw [q_W_get hk.2.1, q_E_I hk]) rfl (q_vp hc) hdg kk
theorem pz_lald {i : Int32} {v : Int64} (hE : qE X p s m args c cc nL own) (hH : q_H X M s H locs) (hk : q_is k 21 n) (hv : qrJ M k n i = some v) (hdg : decode cc pc = .ok (.laload, 1))
    (kk : W p l e R s m args below meth c H locs cells slots Q (F0 m (pc + 1) ls (.long v :: rest))) : W p l e R s m args below meth c H locs cells slots Q (F0 m pc ls (.int i :: .ref (X.1 k) :: rest)) := by
  obtain ⟨hx, hb, -, ho, hts, hK, -, -⟩ := hE
  unfold qrJ at hv
  by_cases hc : i < 0 ∨ n ≤ i.toNatClampNeg
  · rw [if_pos hc] at hv; cases hv
  · rw [if_neg hc] at hv
    cases hv
    exact va_lald hx hb hK hH.1.1 k 1 (by rw [q_W_get hk.2.1, q_E_J hk]) rfl (q_vp hc) hdg kk
theorem pz_iast {i v : Int32} (hE : qE X p s m args c cc nL own) (hH : q_H X M s H locs) (hk : q_is k 20 n) (hv : qwI M k n i v = some M1) (hdg : decode cc pc = .ok (.iastore, 1))
    (kk : ∀ (H : Heap) (locs : List Loc), q_H X M1 s H locs → W p l e R s m args below meth c H locs cells slots Q (F0 m (pc + 1) ls rest)) : W p l e R s m args below meth c H locs cells slots Q (F0 m pc ls (.int v :: .int i :: .ref (X.1 k) :: rest)) := by
  obtain ⟨hx, hb, -, ho, hts, hK, hi, -⟩ := hE
  unfold qwI at hv
  by_cases hc : i < 0 ∨ n ≤ i.toNatClampNeg
  · rw [if_pos hc] at hv; cases hv
  · rw [if_neg hc] at hv
    cases hv
    refine va_iast hx hb hK hH.1.1 (q_W_D hi) hH.2 k 0 (by rw [q_W_get hk.2.1, q_E_I hk]) rfl (q_vp hc) hdg (fun H1 locs1 h1 _ h3 => kk H1 locs1 ⟨⟨?_, hH.1.2⟩, h3⟩)
    rw [q_WaI hk] at h1
    exact h1
theorem pz_last {i : Int32} {v : Int64} (hE : qE X p s m args c cc nL own) (hH : q_H X M s H locs) (hk : q_is k 21 n) (hv : qwJ M k n i v = some M1) (hdg : decode cc pc = .ok (.lastore, 1))
    (kk : ∀ (H : Heap) (locs : List Loc), q_H X M1 s H locs → W p l e R s m args below meth c H locs cells slots Q (F0 m (pc + 1) ls rest)) : W p l e R s m args below meth c H locs cells slots Q (F0 m pc ls (.long v :: .int i :: .ref (X.1 k) :: rest)) := by
  obtain ⟨hx, hb, -, ho, hts, hK, hi, -⟩ := hE
  unfold qwJ at hv
  by_cases hc : i < 0 ∨ n ≤ i.toNatClampNeg
  · rw [if_pos hc] at hv; cases hv
  · rw [if_neg hc] at hv
    cases hv
    refine va_last hx hb hK hH.1.1 (q_W_D hi) hH.2 k 1 (by rw [q_W_get hk.2.1, q_E_J hk]) rfl (q_vp hc) hdg (fun H1 locs1 h1 _ h3 => kk H1 locs1 ⟨⟨?_, hH.1.2⟩, h3⟩)
    rw [q_WaJ hk] at h1
    exact h1
theorem pz_alenI {v : Int32} (hE : qE X p s m args c cc nL own) (hH : q_H X M s H locs) (hk : q_is k 20 n) (hv : Int32.ofNat n = v) (hdg : decode cc pc = .ok (.arraylength, 1))
    (kk : W p l e R s m args below meth c H locs cells slots Q (F0 m (pc + 1) ls (.int v :: rest))) : W p l e R s m args below meth c H locs cells slots Q (F0 m pc ls (.ref (X.1 k) :: rest)) := by
  obtain ⟨hx, hb, -, ho, hts, hK, -, -⟩ := hE
  exact va_alen hx hb hK hH.1.1 k 0 (by rw [q_W_get hk.2.1, q_E_I hk]) rfl hv hdg kk
theorem pz_alenJ {v : Int32} (hE : qE X p s m args c cc nL own) (hH : q_H X M s H locs) (hk : q_is k 21 n) (hv : Int32.ofNat n = v) (hdg : decode cc pc = .ok (.arraylength, 1))
    (kk : W p l e R s m args below meth c H locs cells slots Q (F0 m (pc + 1) ls (.int v :: rest))) : W p l e R s m args below meth c H locs cells slots Q (F0 m pc ls (.ref (X.1 k) :: rest)) := by
  obtain ⟨hx, hb, -, ho, hts, hK, -, -⟩ := hE
  exact va_alen hx hb hK hH.1.1 k 1 (by rw [q_W_get hk.2.1, q_E_J hk]) rfl hv hdg kk
theorem pz_alenV {v : Int32} (hE : qE X p s m args c cc nL own) (hH : q_H X M s H locs) (hk : q_is k 22 n) (hv : Int32.ofNat n = v) (hdg : decode cc pc = .ok (.arraylength, 1))
    (kk : W p l e R s m args below meth c H locs cells slots Q (F0 m (pc + 1) ls (.int v :: rest))) : W p l e R s m args below meth c H locs cells slots Q (F0 m pc ls (.ref (X.1 k) :: rest)) := by
  obtain ⟨hx, hb, -, ho, hts, hK, -, -⟩ := hE
  exact va_alen hx hb hK hH.1.1 k 2 (by rw [q_W_get hk.2.1, q_E_V hk]) rfl hv hdg kk
theorem pz_aldV {i : Int32} {t : Nat} (hE : qE X p s m args c cc nL own) (hH : q_H X M s H locs) (hk : q_is k 22 5) (hv : qix 5 i = some t) (hdg : decode cc pc = .ok (.aaload, 1))
    (kk : q_vil (71 + 4 * t) = true → W p l e R s m args below meth c H locs cells slots Q (F0 m (pc + 1) ls (.ref (X.1 (71 + 4 * t)) :: rest))) : W p l e R s m args below meth c H locs cells slots Q (F0 m pc ls (.int i :: .ref (X.1 k) :: rest)) := by
  obtain ⟨hx, hb, -, ho, hts, hK, -, -⟩ := hE
  unfold qix at hv
  by_cases hc : i < 0 ∨ 5 ≤ i.toNatClampNeg
  · rw [if_pos hc] at hv; cases hv
  · rw [if_neg hc] at hv
    cases hv
    exact va_aldq (f := fun i => some (X.1 (71 + 4 * i))) hx hb hK hH.1.1 k 2 (by rw [q_W_get hk.2.1, q_E_V hk]) rfl (q_vp hc) hdg (kk (q_vil_ix (by omega)))
theorem pz_aldY {i : Int32} {t : Nat} (hE : qE X p s m args c cc nL own) (hH : q_H X M s H locs) (hk : q_is k 23 7) (hv : qix 7 i = some t) (hdg : decode cc pc = .ok (.aaload, 1))
    (kk : q_way (12 + 3 * t) = true → W p l e R s m args below meth c H locs cells slots Q (F0 m (pc + 1) ls (.ref (X.1 (12 + 3 * t)) :: rest))) : W p l e R s m args below meth c H locs cells slots Q (F0 m pc ls (.int i :: .ref (X.1 k) :: rest)) := by
  obtain ⟨hx, hb, -, ho, hts, hK, -, -⟩ := hE
  unfold qix at hv
  by_cases hc : i < 0 ∨ 7 ≤ i.toNatClampNeg
  · rw [if_pos hc] at hv; cases hv
  · rw [if_neg hc] at hv
    cases hv
    exact va_aldq (f := fun i => some (X.1 (12 + 3 * i))) hx hb hK hH.1.1 k 3 (by rw [q_W_get hk.2.1, q_E_Y hk]) rfl (q_vp hc) hdg (kk (q_way_ix (by omega)))
/-! static arrays -/
theorem pz_gT (i : Nat) (hE : qE X p s m args c cc nL own) (hH : q_H X M s H locs) (hi : i < 7) (hl : Cond.fieldLink own idx (q_sn.getD i ("", "", [])).1 (q_sn.getD i ("", "", [])).2.1 "[I" ∈ q_tbl) (hdg : decode cc pc = .ok (.getstatic idx, 3))
    (kk : W p l e R s m args below meth c H locs cells slots Q (F0 m (pc + 3) ls (.ref (X.2.2.2.1 i) :: rest))) : W p l e R s m args below meth c H locs cells slots Q (F0 m pc ls rest) := by
  obtain ⟨hx, hb, -, ho, hts, hK, -, hS⟩ := hE
  exact va_gets hx hb (hS.1 i hi).1 hH.2 ho (hts _ hl) (fun _ h => h) hdg kk
theorem pz_tld (t : Nat) {i v : Int32} (hE : qE X p s m args c cc nL own) (hH : q_H X M s H locs) (ht : t < 7) (hn : q_sl t = n) (hv : qrT (q_sv t) n i = some v) (hdg : decode cc pc = .ok (.iaload, 1))
    (kk : W p l e R s m args below meth c H locs cells slots Q (F0 m (pc + 1) ls (.int v :: rest))) : W p l e R s m args below meth c H locs cells slots Q (F0 m pc ls (.int i :: .ref (X.2.2.2.1 t) :: rest)) := by
  obtain ⟨hx, hb, -, ho, hts, hK, -, hS⟩ := hE
  subst hn
  unfold qrT at hv
  by_cases hc : i < 0 ∨ q_sl t ≤ i.toNatClampNeg
  · rw [if_pos hc] at hv; cases hv
  · rw [if_neg hc] at hv
    cases hv
    exact va_ti hx hb (hS.1 t ht).2 hH.2 (q_vp hc) rfl hdg kk
/-! copies -/
theorem pz_cpy {a n1 : Nat} {sp dp ln : Int32} (hE : qE X p s m args c cc nL own) (hH : q_H X M s H locs) (hlink : Cond.methodLink own idx arraycopyName ∈ q_tbl) (hnat : Cond.native arraycopyName ∈ q_tbl) (hstat : Cond.static arraycopyName ∈ q_tbl) (hini : Cond.initialized "java/lang/System" ∈ q_tbl)
    (ha : q_is a 20 n1) (hk : q_is k 20 n) (hv : qcp M a n1 sp k n dp ln = some M1) (hls : ls.size = nL) (hframes : 1 ≤ R.frames) (hlocals : (rest.map fun v => v.category).sum + (nativeFrameWords "java/lang/System" "arraycopy" 5 + 11) ≤ R.locals) (hdg : decode cc pc = .ok (.invokestatic idx, 3))
    (kk : ∀ (H : Heap) (locs : List Loc), q_H X M1 s H locs → W p l e R s m args below meth c H locs cells slots Q (F0 m (pc + 3) ls rest)) : W p l e R s m args below meth c H locs cells slots Q (F0 m pc ls (.int ln :: .int dp :: .ref (X.1 k) :: .int sp :: .ref (X.1 a) :: rest)) := by
  obtain ⟨hx, hb, hml, ho, hts, hK, hi, -⟩ := hE
  unfold qcp at hv
  by_cases hc : 0 ≤ sp ∧ 0 ≤ dp ∧ 0 ≤ ln ∧ sp.toNatClampNeg + ln.toNatClampNeg ≤ n1 ∧ dp.toNatClampNeg + ln.toNatClampNeg ≤ n
  · rw [if_pos hc] at hv
    cases hv
    refine va_copyi hx hb (hml.trans hls.symm) ho (hts _ hlink) (hts _ hnat) (hts _ hstat) (hts _ hini) hK hH.1.1 (q_W_D hi) hH.2 a k 0 0 (by rw [q_W_get ha.2.1, q_E_I ha]) (by rw [q_W_get hk.2.1, q_E_I hk]) rfl rfl rfl (Int32.not_lt.mpr hc.1) (Int32.not_lt.mpr hc.2.1) (Int32.not_lt.mpr hc.2.2.1) hc.2.2.2.1 hc.2.2.2.2 (fun _ _ => rfl) hframes hlocals hdg (fun H1 locs1 h1 _ h3 => kk H1 locs1 ⟨⟨?_, hH.1.2⟩, h3⟩)
    rw [q_WaC hk rfl] at h1
    exact h1
  · rw [if_neg hc] at hv; cases hv
theorem q_nn {z : Int32} (hz : 0 ≤ z) : z.toInt = (z.toNatClampNeg : Int) := by
  have hz0 : (0 : Int) ≤ z.toInt := by simpa using Int32.le_iff_toInt_le.mp hz
  show z.toInt = ((z.toInt.toNat : Nat) : Int)
  omega
/-- a copy out of a static int array -/
theorem pz_cpt (u : Nat) {n1 : Nat} {sp dp ln : Int32} (hE : qE X p s m args c cc nL own) (hH : q_H X M s H locs) (hlink : Cond.methodLink own idx arraycopyName ∈ q_tbl) (hnat : Cond.native arraycopyName ∈ q_tbl) (hstat : Cond.static arraycopyName ∈ q_tbl) (hini : Cond.initialized "java/lang/System" ∈ q_tbl)
    (hu : u < 7) (hul : q_sl u = n1) (hk : q_is k 20 n) (hv : qct M (q_sv u) n1 sp k n dp ln = some M1) (hls : ls.size = nL) (hframes : 1 ≤ R.frames) (hlocals : (rest.map fun v => v.category).sum + (nativeFrameWords "java/lang/System" "arraycopy" 5 + 11) ≤ R.locals) (hdg : decode cc pc = .ok (.invokestatic idx, 3))
    (kk : ∀ (H : Heap) (locs : List Loc), q_H X M1 s H locs → W p l e R s m args below meth c H locs cells slots Q (F0 m (pc + 3) ls rest)) : W p l e R s m args below meth c H locs cells slots Q (F0 m pc ls (.int ln :: .int dp :: .ref (X.1 k) :: .int sp :: .ref (X.2.2.2.1 u) :: rest)) := by
  obtain ⟨hx, hb, hml, ho, hts, hK, hi, hSt⟩ := hE
  subst hul
  unfold qct at hv
  by_cases hc : 0 ≤ sp ∧ 0 ≤ dp ∧ 0 ≤ ln ∧ sp.toNatClampNeg + ln.toNatClampNeg ≤ q_sl u ∧ dp.toNatClampNeg + ln.toNatClampNeg ≤ n
  case neg => rw [if_neg hc] at hv; cases hv
  rw [if_pos hc] at hv
  obtain ⟨g1, g2, g3, g4, g5⟩ := hc
  have hPk : (q_W X M)[k]? = some (X.1 k, .inl (X.2.1.1, n, .inl (M.1 k))) := by rw [q_W_get hk.2.1, q_E_I hk]
  intro T hT Y
  obtain ⟨scr, hs1, hs2, hs3, hs4, -, hs5, hs7⟩ := (hSt.1 u hu).2
  have hc0 : H[X.2.2.2.1 u]? = some scr := by rw [hH.2.2.1 _ (Array.getElem?_eq_some_iff.mp hs1).1 hs7]; exact hs1
  have hc1 : H[X.1 k]? = some (vp_cell X.2.1.1 (n, .inl (M.1 k))) := hH.1.1 k _ hPk
  obtain ⟨hs6, k0, hk0, cm0, hkk0⟩ := hs2
  obtain ⟨-, k1, hk1, cm1, hkk1⟩ := (hK.2 0 (X.2.1.1, .int) rfl).1 n (fun j => .int (M.1 k j))
  obtain ⟨vm', Y', step⟩ := Y.arraycopy hx ho (hts _ hlink) (hts _ hnat) (hts _ hstat) (hts _ hini) (src := X.2.2.2.1 u) (dst := X.1 k) (cs := scr) (cd := vp_cell X.2.1.1 (n, .inl (M.1 k))) (srcPos := sp) (destPos := dp) (n := ln) (by rw [hT]; exact hc0) (by rw [hT]; exact hc1)
    hs6 (fun _ h => by cases h) hs3 (fun h => by cases h) hk0 hk1 hkk0 hkk1 (by simp [refKind]) (Int32.not_lt.mpr g1) (Int32.not_lt.mpr g2) (Int32.not_lt.mpr g3)
    (by rw [q_nn g1, q_nn g3]; omega)
    (by rw [q_nn g2, q_nn g3]; show ¬ _ > ((arrV X.2.1.1 n (fun j => .int (M.1 k j))).slots.size : Int); rw [arrV_size]; omega)
    (fun vm₁ _ i hi => by
      have e : scr.slots.getD (sp.toNatClampNeg + i) .null = .int (q_sv u (sp.toNatClampNeg + i)) := by
        rw [Array.getD_eq_getD_getElem?, hs5 _ (by omega)]
        rfl
      refine ⟨?_, ?_⟩
      · rw [e]
        rfl
      · rw [e]
        exact trivial)
    (g := F0 m pc ls (.int ln :: .int dp :: .ref (X.1 k) :: .int sp :: .ref (X.2.2.2.1 u) :: rest)) rfl (by rw [hml, hls]) (rest := rest) rfl (by rw [hb]; exact hdg) hframes (by show 2 * 0 + _ + _ ≤ _; omega)
  have e1 : copied scr (vp_cell X.2.1.1 (n, .inl (M.1 k))) sp dp ln = vp_cell X.2.1.1 (n, .inl (va_cpy (q_sv u) (M.1 k) sp.toNatClampNeg dp.toNatClampNeg ln.toNatClampNeg)) := va_copiedX (fun z => .int z) scr X.2.1.1 (q_sv u) (M.1 k) hs5 g4
  rw [e1] at Y' step
  have hl : X.1 k < H.size := (Array.getElem?_eq_some_iff.mp hc1).1
  have hheap : ((T.setVm vm').setCell (X.1 k) (vp_cell X.2.1.1 (n, .inl (va_cpy (q_sv u) (M.1 k) sp.toNatClampNeg dp.toNatClampNeg ln.toNatClampNeg)))).heap = H.setIfInBounds (X.1 k) (vp_cell X.2.1.1 (n, .inl (va_cpy (q_sv u) (M.1 k) sp.toNatClampNeg dp.toNatClampNeg ln.toNatClampNeg))) := by rw [← hT]; rfl
  have oq : ∀ q : Nat, q ≠ X.1 k → (H.setIfInBounds (X.1 k) (vp_cell X.2.1.1 (n, .inl (va_cpy (q_sv u) (M.1 k) sp.toNatClampNeg dp.toNatClampNeg ln.toNatClampNeg))))[q]? = H[q]? := fun q hq => by simp [Array.getElem?_setIfInBounds, Ne.symm hq]
  have hD := q_W_D (X := X) (M := M) hi
  have hat : va_at X.2.2.1 vwCl (X.1 k, .inl (X.2.1.1, n, .inl (va_cpy (q_sv u) (M.1 k) sp.toNatClampNeg dp.toNatClampNeg ln.toNatClampNeg))) (H.setIfInBounds (X.1 k) (vp_cell X.2.1.1 (n, .inl (va_cpy (q_sv u) (M.1 k) sp.toNatClampNeg dp.toNatClampNeg ln.toNatClampNeg)))) := by
    show (H.setIfInBounds (X.1 k) (vp_cell X.2.1.1 (n, .inl (va_cpy (q_sv u) (M.1 k) sp.toNatClampNeg dp.toNatClampNeg ln.toNatClampNeg))))[X.1 k]? = some (vp_cell X.2.1.1 (n, .inl (va_cpy (q_sv u) (M.1 k) sp.toNatClampNeg dp.toNatClampNeg ln.toNatClampNeg)))
    simp [Array.getElem?_setIfInBounds, hl]
  have hP1 := hH.1.1.set hD hPk hat oq
  rw [q_WaC (M1 := M1) hk (Option.some.inj hv).symm] at hP1
  have hTy : q_Ty M1 := by rw [← Option.some.inj hv]; exact hH.1.2
  obtain ⟨t, a1, b1⟩ := kk _ _ ⟨⟨hP1, hTy⟩, by simp; exact hH.2.1, fun q g1 g2 => by
      rw [oq q (fun e => g2 (by rw [e]; exact ⟨k, hk.2.1, rfl⟩))]
      exact hH.2.2.1 q g1 g2, fun q hq => by
      rcases List.mem_append.mp hq with h | h
      · exact hH.2.2.2 q h
      · obtain ⟨z, -, hz⟩ := List.mem_map.mp h
        rw [← hz]
        exact ⟨k, hk.2.1, rfl⟩⟩ _ hheap Y'
  exact ⟨t, step t a1, b1⟩
/-! texts -/
theorem pz_ldcS (t : Nat) {tx : String} (hE : qE X p s m args c cc nL own) (ht : t < 3) (h1 : (q_tn.getD t ("", 0, "")).1 = own) (h2 : (q_tn.getD t ("", 0, "")).2.1 = idx) (h3 : (q_tn.getD t ("", 0, "")).2.2 = tx) (hdg : decode cc pc = .ok (.ldc idx, 2))
    (kk : W p l e R s m args below meth c H locs cells slots Q (F0 m (pc + 2) ls (.ref (X.2.2.2.2.1 t) :: rest))) : W p l e R s m args below meth c H locs cells slots Q (F0 m pc ls rest) := by
  obtain ⟨hx, hb, -, ho, -, -, -, hS⟩ := hE
  have h := hS.2.2.1 t (by omega)
  rw [h1, h2] at h
  exact va_ldcS hx hb ho h hdg kk
theorem pz_sgV {t : Nat} (hE : qE X p s m args c cc nL own) (hH : q_H X M s H locs) (ht : t < 3) (hl : Cond.fieldLink own idx "java/lang/String" "value" "[B" ∈ q_tbl) (hdg : decode cc pc = .ok (.getfield idx, 3))
    (kk : W p l e R s m args below meth c H locs cells slots Q (F0 m (pc + 3) ls (.ref (X.2.2.2.2.2 t) :: rest))) : W p l e R s m args below meth c H locs cells slots Q (F0 m pc ls (.ref (X.2.2.2.2.1 t) :: rest)) := by
  obtain ⟨hx, hb, -, ho, hts, -, -, hS⟩ := hE
  exact vk_getf hx hb (hS.2.1.1 t ht).2.2.1 hH.2 ho (hts _ hl) (fun _ h => h) hdg kk
theorem pz_sgC {t : Nat} (hE : qE X p s m args c cc nL own) (hH : q_H X M s H locs) (ht : t < 3) (hl : Cond.fieldLink own idx "java/lang/String" "coder" "B" ∈ q_tbl) (hdg : decode cc pc = .ok (.getfield idx, 3))
    (kk : W p l e R s m args below meth c H locs cells slots Q (F0 m (pc + 3) ls (.int 0 :: rest))) : W p l e R s m args below meth c H locs cells slots Q (F0 m pc ls (.ref (X.2.2.2.2.1 t) :: rest)) := by
  obtain ⟨hx, hb, -, ho, hts, -, -, hS⟩ := hE
  exact vk_getf hx hb (hS.2.1.1 t ht).2.1 hH.2 ho (hts _ hl) (fun _ h => h) hdg kk
theorem pz_gcs (hE : qE X p s m args c cc nL own) (hH : q_H X M s H locs) (hl : Cond.fieldLink own idx "java/lang/String" "COMPACT_STRINGS" "Z" ∈ q_tbl) (hdg : decode cc pc = .ok (.getstatic idx, 3))
    (kk : W p l e R s m args below meth c H locs cells slots Q (F0 m (pc + 3) ls (.int 1 :: rest))) : W p l e R s m args below meth c H locs cells slots Q (F0 m pc ls rest) := by
  obtain ⟨hx, hb, -, ho, hts, -, -, hS⟩ := hE
  exact va_gets hx hb hS.2.2.2.1 hH.2 ho (hts _ hl) (fun _ h => h) hdg kk
theorem pz_blen {t : Nat} (hE : qE X p s m args c cc nL own) (hH : q_H X M s H locs) (ht : t < 3) (hdg : decode cc pc = .ok (.arraylength, 1))
    (kk : W p l e R s m args below meth c H locs cells slots Q (F0 m (pc + 1) ls (.int (Int32.ofNat (q_tN t)) :: rest))) : W p l e R s m args below meth c H locs cells slots Q (F0 m pc ls (.ref (X.2.2.2.2.2 t) :: rest)) := by
  obtain ⟨hx, hb, -, ho, hts, -, -, hS⟩ := hE
  exact va_tlen hx hb (hS.2.1.1 t ht).2.2.2 hH.2 rfl hdg kk
theorem pz_bald {t : Nat} {i v : Int32} (hE : qE X p s m args c cc nL own) (hH : q_H X M s H locs) (ht : t < 3) (hv : qrB t i = some v) (hdg : decode cc pc = .ok (.baload, 1))
    (kk : W p l e R s m args below meth c H locs cells slots Q (F0 m (pc + 1) ls (.int v :: rest))) : W p l e R s m args below meth c H locs cells slots Q (F0 m pc ls (.int i :: .ref (X.2.2.2.2.2 t) :: rest)) := by
  obtain ⟨hx, hb, -, ho, hts, -, -, hS⟩ := hE
  unfold qrB at hv
  by_cases hc : i < 0 ∨ q_tN t ≤ i.toNatClampNeg
  · rw [if_pos hc] at hv; cases hv
  · rw [if_neg hc] at hv
    cases hv
    exact va_tb hx hb (hS.2.1.1 t ht).2.2.2 hH.2 (q_vp hc) rfl hdg kk
/-! numbers out of the pool, division, null, switches -/
theorem pz_ldc {v : Int32} (hE : qE X p s m args c cc nL own) (hm : Cond.constant own idx v ∈ q_tbl) (hdg : decode cc pc = .ok (.ldc idx, 2))
    (kk : W p l e R s m args below meth c H locs cells slots Q (F0 m (pc + 2) ls (.int v :: rest))) : W p l e R s m args below meth c H locs cells slots Q (F0 m pc ls rest) := lv_ldc hE.1 hE.2.1 hE.2.2.2.1 (hE.2.2.2.2.1 _ hm) hdg kk
theorem pz_ldcw {v : Int32} (hE : qE X p s m args c cc nL own) (hm : Cond.constant own idx v ∈ q_tbl) (hdg : decode cc pc = .ok (.ldc_w idx, 3))
    (kk : W p l e R s m args below meth c H locs cells slots Q (F0 m (pc + 3) ls (.int v :: rest))) : W p l e R s m args below meth c H locs cells slots Q (F0 m pc ls rest) := lv_ldcw hE.1 hE.2.1 hE.2.2.2.1 (hE.2.2.2.2.1 _ hm) hdg kk
theorem pz_ldc2 {v : Int64} (hE : qE X p s m args c cc nL own) (hm : Cond.constantLong own idx v ∈ q_tbl) (hdg : decode cc pc = .ok (.ldc2_w idx, 3))
    (kk : W p l e R s m args below meth c H locs cells slots Q (F0 m (pc + 3) ls (.long v :: rest))) : W p l e R s m args below meth c H locs cells slots Q (F0 m pc ls rest) := lv_ldc2 hE.1 hE.2.1 hE.2.2.2.1 (hE.2.2.2.2.1 _ hm) hdg kk
theorem pz_irem {x y v : Int32} (hE : qE X p s m args c cc nL own) (hv : qrmI x y = some v) (hdg : decode cc pc = .ok (.irem, 1))
    (kk : W p l e R s m args below meth c H locs cells slots Q (F0 m (pc + 1) ls (.int v :: rest))) : W p l e R s m args below meth c H locs cells slots Q (F0 m pc ls (.int y :: .int x :: rest)) := by
  unfold qrmI at hv
  by_cases h : y = 0
  · rw [if_pos h] at hv; cases hv
  · rw [if_neg h] at hv
    cases hv
    exact lv_irem hE.1 hE.2.1 hdg h kk
theorem pz_idiv {x y v : Int32} (hE : qE X p s m args c cc nL own) (hv : qdvI x y = some v) (hdg : decode cc pc = .ok (.idiv, 1))
    (kk : W p l e R s m args below meth c H locs cells slots Q (F0 m (pc + 1) ls (.int v :: rest))) : W p l e R s m args below meth c H locs cells slots Q (F0 m pc ls (.int y :: .int x :: rest)) := by
  unfold qdvI at hv
  by_cases h : y = 0
  · rw [if_pos h] at hv; cases hv
  · rw [if_neg h] at hv
    cases hv
    exact lv_idiv hE.1 hE.2.1 hdg h kk
theorem pz_ldiv {x y v : Int64} (hE : qE X p s m args c cc nL own) (hv : qdvJ x y = some v) (hdg : decode cc pc = .ok (.ldiv, 1))
    (kk : W p l e R s m args below meth c H locs cells slots Q (F0 m (pc + 1) ls (.long v :: rest))) : W p l e R s m args below meth c H locs cells slots Q (F0 m pc ls (.long y :: .long x :: rest)) := by
  unfold qdvJ at hv
  by_cases h : y = 0
  · rw [if_pos h] at hv; cases hv
  · rw [if_neg h] at hv
    cases hv
    exact lv_ldiv hE.1 hE.2.1 hdg h kk
theorem pz_ifnull {o : Option Nat} {off : Int} {tgt : Nat} (hE : qE X p s m args c cc nL own) (hdg : decode cc pc = .ok (.ifnull off, 3)) (ht : (pc : Int) + off = (tgt : Int))
    (kt : o = none → W p l e R s m args below meth c H locs cells slots Q (F0 m tgt ls rest)) (kf : ¬ o = none → W p l e R s m args below meth c H locs cells slots Q (F0 m (pc + 3) ls rest)) : W p l e R s m args below meth c H locs cells slots Q (F0 m pc ls (va_rf (o.map X.1) :: rest)) := by
  cases o with
  | none => exact lv_ifnullN hE.1 hE.2.1 hdg ht (kt rfl)
  | some v => exact lv_ifnull hE.1 hE.2.1 hdg (kf (by simp))
theorem pz_ifnonnull {o : Option Nat} {off : Int} {tgt : Nat} (hE : qE X p s m args c cc nL own) (hdg : decode cc pc = .ok (.ifnonnull off, 3)) (ht : (pc : Int) + off = (tgt : Int))
    (kt : ¬ o = none → W p l e R s m args below meth c H locs cells slots Q (F0 m tgt ls rest)) (kf : o = none → W p l e R s m args below meth c H locs cells slots Q (F0 m (pc + 3) ls rest)) : W p l e R s m args below meth c H locs cells slots Q (F0 m pc ls (va_rf (o.map X.1) :: rest)) := by
  cases o with
  | none => exact lv_ifnonnullN hE.1 hE.2.1 hdg (kf rfl)
  | some v => exact lv_ifnonnull hE.1 hE.2.1 hdg ht (kt (by simp))
theorem pz_tabD {dflt lo hi : Int} {offs : Array Int} {len : Nat} {x : Int32} {tgt : Nat} (hE : qE X p s m args c cc nL own) (hdg : decode cc pc = .ok (.tableswitch dflt lo hi offs, len)) (h : ¬ x.toInt < lo → ¬ hi < x.toInt → offs[(x.toInt - lo).toNat]? = some dflt) (ht : (pc : Int) + dflt = (tgt : Int))
    (k : W p l e R s m args below meth c H locs cells slots Q (F0 m tgt ls rest)) : W p l e R s m args below meth c H locs cells slots Q (F0 m pc ls (.int x :: rest)) := by
  by_cases h1 : x.toInt < lo
  · exact lv_tableOut hE.1 hE.2.1 hdg (Or.inl h1) ht k
  · by_cases h2 : hi < x.toInt
    · exact lv_tableOut hE.1 hE.2.1 hdg (Or.inr h2) ht k
    · exact lv_tableIn hE.1 hE.2.1 hdg h1 h2 (h h1 h2) ht k
theorem pz_maxI {x y : Int32} (hE : qE X p s m args c cc nL own) (h1 : Cond.methodLink own idx Lib.Math.max.name ∈ q_tbl) (h2 : Cond.static Lib.Math.max.name ∈ q_tbl) (h3 : Cond.initialized "java/lang/Math" ∈ q_tbl) (h4 : Cond.code Lib.Math.max.name Lib.Math.max.code 2 (some .int) ∈ q_tbl) (hls : ls.size = nL) (hf : 1 ≤ R.frames) (hl : (rest.map fun v => v.category).sum + 13 ≤ R.locals) (hc : cells ≤ R.cells) (hs : slots ≤ R.slots) (hdg : decode cc pc = .ok (.invokestatic idx, 3))
    (kk : W p l e R s m args below meth c H locs cells slots Q (F0 m (pc + 3) ls (.int (jmaxI x y) :: rest))) : W p l e R s m args below meth c H locs cells slots Q (F0 m pc ls (.int y :: .int x :: rest)) :=
  va_mmax hE.1 hE.2.1 (hE.2.2.1.trans hls.symm) hE.2.2.2.1 (hE.2.2.2.2.1 _ h1) (hE.2.2.2.2.1 _ h2) (hE.2.2.2.2.1 _ h3) (hE.2.2.2.2.1 _ h4) hf hl hc hs hdg kk
theorem pz_minI {x y : Int32} (hE : qE X p s m args c cc nL own) (h1 : Cond.methodLink own idx Lib.Math.min.name ∈ q_tbl) (h2 : Cond.static Lib.Math.min.name ∈ q_tbl) (h3 : Cond.initialized "java/lang/Math" ∈ q_tbl) (h4 : Cond.code Lib.Math.min.name Lib.Math.min.code 2 (some .int) ∈ q_tbl) (hls : ls.size = nL) (hf : 1 ≤ R.frames) (hl : (rest.map fun v => v.category).sum + 13 ≤ R.locals) (hc : cells ≤ R.cells) (hs : slots ≤ R.slots) (hdg : decode cc pc = .ok (.invokestatic idx, 3))
    (kk : W p l e R s m args below meth c H locs cells slots Q (F0 m (pc + 3) ls (.int (jminI x y) :: rest))) : W p l e R s m args below meth c H locs cells slots Q (F0 m pc ls (.int y :: .int x :: rest)) :=
  va_mmin hE.1 hE.2.1 (hE.2.2.1.trans hls.symm) hE.2.2.2.1 (hE.2.2.2.2.1 _ h1) (hE.2.2.2.2.1 _ h2) (hE.2.2.2.2.1 _ h3) (hE.2.2.2.2.1 _ h4) hf hl hc hs hdg kk
theorem pz_maxJ {x y : Int64} (hE : qE X p s m args c cc nL own) (h1 : Cond.methodLink own idx Lib.MathLoose.max_long.x ∈ q_tbl) (h2 : Cond.static Lib.MathLoose.max_long.x ∈ q_tbl) (h3 : Cond.initialized "java/lang/Math" ∈ q_tbl) (h4 : Cond.code Lib.MathLoose.max_long.x Lib.MathLoose.max_long.code 4 (some .long) ∈ q_tbl) (hls : ls.size = nL) (hf : 1 ≤ R.frames) (hl : (rest.map fun v => v.category).sum + 15 ≤ R.locals) (hc : cells ≤ R.cells) (hs : slots ≤ R.slots) (hdg : decode cc pc = .ok (.invokestatic idx, 3))
    (kk : W p l e R s m args below meth c H locs cells slots Q (F0 m (pc + 3) ls (.long (jmaxJ x y) :: rest))) : W p l e R s m args below meth c H locs cells slots Q (F0 m pc ls (.long y :: .long x :: rest)) :=
  va_mmax_long hE.1 hE.2.1 (hE.2.2.1.trans hls.symm) hE.2.2.2.1 (hE.2.2.2.2.1 _ h1) (hE.2.2.2.2.1 _ h2) (hE.2.2.2.2.1 _ h3) (hE.2.2.2.2.1 _ h4) hf hl hc hs hdg kk
theorem pz_minJ {x y : Int64} (hE : qE X p s m args c cc nL own) (h1 : Cond.methodLink own idx Lib.MathLoose.min_long.x ∈ q_tbl) (h2 : Cond.static Lib.MathLoose.min_long.x ∈ q_tbl) (h3 : Cond.initialized "java/lang/Math" ∈ q_tbl) (h4 : Cond.code Lib.MathLoose.min_long.x Lib.MathLoose.min_long.code 4 (some .long) ∈ q_tbl) (hls : ls.size = nL) (hf : 1 ≤ R.frames) (hl : (rest.map fun v => v.category).sum + 15 ≤ R.locals) (hc : cells ≤ R.cells) (hs : slots ≤ R.slots) (hdg : decode cc pc = .ok (.invokestatic idx, 3))
    (kk : W p l e R s m args below meth c H locs cells slots Q (F0 m (pc + 3) ls (.long (jminJ x y) :: rest))) : W p l e R s m args below meth c H locs cells slots Q (F0 m pc ls (.long y :: .long x :: rest)) :=
  va_mmin_long hE.1 hE.2.1 (hE.2.2.1.trans hls.symm) hE.2.2.2.1 (hE.2.2.2.2.1 _ h1) (hE.2.2.2.2.1 _ h2) (hE.2.2.2.2.1 _ h3) (hE.2.2.2.2.1 _ h4) hf hl hc hs hdg kk
/-! ends -/
theorem pz_reti {r : Int32} (hE : qE X p s m args c cc nL own) (hr : meth.sig.returnType = some .int) (hlocks : meth.locks = false) (hH : q_H X M s H locs) (hdg : decode cc pc = .ok (.ireturn, 1)) : W p l e R s m args below meth c H locs cells slots (MQ below (q_Qi X r M) args s cells slots (q_A X)) (F0 m pc ls [.int r]) := by
  obtain ⟨hx, hb, -⟩ := hE
  exact W.iret hx hb hr (fun t ht hW => ⟨⟨r, (), rfl, rfl, by show q_P X M t.heap; rw [ht]; exact hH.1⟩, hH.2.F ht⟩) hH.2.2.2 hdg hlocks
theorem pz_retz {r : Int32} {b : Bool} (hE : qE X p s m args c cc nL own) (hr : meth.sig.returnType = some .boolean) (hlocks : meth.locks = false) (hH : q_H X M s H locs) (hb : r = b2i b) (hdg : decode cc pc = .ok (.ireturn, 1)) : W p l e R s m args below meth c H locs cells slots (MQ below (q_Qi X (b2i b) M) args s cells slots (q_A X)) (F0 m pc ls [.int r]) := by
  obtain ⟨hx, hbb, -⟩ := hE
  subst hb
  exact W.zret hx hbb hr (by cases b <;> rfl) (fun t ht hW => ⟨⟨b2i b, (), rfl, rfl, by show q_P X M t.heap; rw [ht]; exact hH.1⟩, hH.2.F ht⟩) hH.2.2.2 hdg hlocks
theorem pz_retb {b : Bool} (hE : qE X p s m args c cc nL own) (hr : meth.sig.returnType = some .byte) (hlocks : meth.locks = false) (hH : q_H X M s H locs) (hdg : decode cc pc = .ok (.ireturn, 1)) : W p l e R s m args below meth c H locs cells slots (MQ below (q_Qi X (b2i b) M) args s cells slots (q_A X)) (F0 m pc ls [.int (b2i b)]) := by
  obtain ⟨hx, hbb, -⟩ := hE
  exact W.zret hx hbb hr (by cases b <;> rfl) (fun t ht hW => ⟨⟨b2i b, (), rfl, rfl, by show q_P X M t.heap; rw [ht]; exact hH.1⟩, hH.2.F ht⟩) hH.2.2.2 hdg hlocks
theorem pz_retl {r : Int64} (hE : qE X p s m args c cc nL own) (hr : meth.sig.returnType = some .long) (hlocks : meth.locks = false) (hH : q_H X M s H locs) (hdg : decode cc pc = .ok (.lreturn, 1)) : W p l e R s m args below meth c H locs cells slots (MQ below (q_Ql X r M) args s cells slots (q_A X)) (F0 m pc ls [.long r]) := by
  obtain ⟨hx, hb, -⟩ := hE
  exact W.lret hx hb hr (fun t ht hW => ⟨⟨r, (), rfl, rfl, by show q_P X M t.heap; rw [ht]; exact hH.1⟩, hH.2.F ht⟩) hH.2.2.2 hdg hlocks
theorem pz_retv (hE : qE X p s m args c cc nL own) (hr : meth.sig.returnType = none) (hlocks : meth.locks = false) (hH : q_H X M s H locs) (hdg : decode cc pc = .ok (.return_, 1)) : W p l e R s m args below meth c H locs cells slots (MQ below (q_Qv X M) args s cells slots (q_A X)) (F0 m pc ls []) := by
  obtain ⟨hx, hb, -⟩ := hE
  exact W.vret hx hb hr (fun t ht hW => ⟨⟨(), rfl, trivial, by show q_P X M t.heap; rw [ht]; exact hH.1⟩, hH.2.F ht⟩) hH.2.2.2 hdg hlocks
theorem pz_reta {r : Option Nat} {v : Value} {rt : FieldType} (hE : qE X p s m args c cc nL own) (hr : meth.sig.returnType = some rt) (hrt : (∃ n, rt = .object n) ∨ ∃ t, rt = .array t) (hlocks : meth.locks = false) (hH : q_H X M s H locs) (hv : v = va_rf (r.map X.1)) (hdg : decode cc pc = .ok (.areturn, 1)) : W p l e R s m args below meth c H locs cells slots (MQ below (q_Qq X r M) args s cells slots (q_A X)) (F0 m pc ls [v]) := by
  obtain ⟨hx, hb, -⟩ := hE
  subst hv
  exact W.aret hx hb hr hrt (va_rf_or _) (fun t ht hW => ⟨⟨r.map X.1, (), rfl, rfl, by show q_P X M t.heap; rw [ht]; exact hH.1⟩, hH.2.F ht⟩) hH.2.2.2 hdg hlocks
end QW
/-- a contract's beginning -/
theorem q_enter {l : Launch} {X : qX} {y : MethodName} {cc : ByteArray} {n : Nat} {ret : Option FieldType} {lv : Nat} {M : qM} {av : List Value} {Q : Array Value → State → Outcome → State → Prop} (hy : plainName y.cls = true) (hn : (lg_sl av).length ≤ n)
    (body : ∀ p e s m args below meth c, qE X p s m args c cc n y.cls → meth.sig.returnType = ret → meth.locks = false → ∀ H locs, q_H X M s H locs → ∀ ls, lv_has ls n (lv_args 0 av) → W p l e (q_rm lv) s m args below meth c H locs 0 0 (MQ below Q args s 0 0 (q_A X)) (F0 m 0 ls [])) : q_Met l X y cc n ret lv M av Q := by
  refine Met.ofW (cc := cc) (maxL := n) (ret := ret) hy rfl ?_
  intro p e s m args below meth c s₁ B hml hv
  obtain ⟨rfl, hP, hK, hi, hS⟩ := hv
  have hts := atoms_spec (ws := Cond.code y cc n ret :: q_tbl) B.pre
  rw [lg_entry_eq]
  exact body p e s m _ below meth c ⟨B.exec, B.bytes, hml, findClass_of_methodNamed B.named, fun w hw => hts w (List.mem_cons_of_mem _ hw), hK, hi, hS⟩ B.returns B.notSynchronized _ _ ⟨hP, va_S.rf⟩ _ (lv_entry av hn)
/-! ===== calls ===== -/
section QC
variable {X : qX} {p : Program} {l : Launch} {e : Env} {s : State} {m : MethodId} {args : Array Value} {below : List Frame} {meth : Method} {c : Code} {H : Heap} {locs : List Loc} {Q : State → Prop} {lw lv : Nat}
variable {cc cc1 : ByteArray} {nL n1 np : Nat} {own : String} {M M1 : qM} {pc : Nat} {ls : Array Slot} {As rest st0 : List Value} {k ci n idx : Nat} {y : MethodName} {ret : Option FieldType}
theorem q_callB (hE : qE X p s m args c cc nL own) (hK : q_Km own idx y cc1 n1 ret np) (hr : lv < lw) : CallB (q_rm lw) s args own idx y cc1 n1 ret (Cond.code y cc1 n1 ret :: q_tbl) (q_rm lv) 0 0 np := by
  obtain ⟨-, -, -, -, hts, -⟩ := hE
  obtain ⟨k1, k2, k3, k4, k5⟩ := hK
  refine callB_of np hts ?_ rfl rfl rfl (hts _ k3) (hts _ k2) k4 ⟨hr, ?_⟩
  · intro w hw
    rcases List.mem_cons.mp hw with rfl | hw
    · exact ⟨k1, q_good k1⟩
    · exact ⟨hw, q_good hw⟩
  · show 8 + (n1 + 11) + 64 * lv ≤ 64 * lw
    omega
theorem q_runV {Qc : Array Value → State → Outcome → State → Prop} (hE : qE X p s m args c cc nL own) (hH : q_H X M s H locs) (hM : q_Met l X y cc1 n1 ret lv M (.ref (X.1 k) :: As) Qc) (hK : q_KV own idx y cc1 n1 ret np ci) (hk : q_is k ci n) (hr : lv < lw) (hn : As.length = np) (hls : ls.size = nL) (hst : st0 = As.reverse ++ .ref (X.1 k) :: rest) (hW : (rest.map fun v => v.category).sum ≤ 8) (hdg : decode cc pc = .ok (.invokevirtual idx, 3)) :
    va_Run p l e (q_rm lw) s m args below meth c H locs 0 0 0 0 (F0 m pc ls st0) rest (Qc (Value.ref (X.1 k) :: As).toArray) (q_A X) := by
  have hE0 := hE
  obtain ⟨hx, hb, hml, ho, hts, hKK, hi, -⟩ := hE
  obtain ⟨k0, k1, k2, T, N, k3, k4⟩ := hK
  exact va_runV (Ts := q_tbl) ⟨hx, hb, hml, ho, hts⟩ hM ⟨q_callB hE0 k0 hr, hts _ k1, hts _ k2⟩ ⟨q_Pc_blind, va_recv hKK hH.1.1 k3 (by rw [q_W_get hk.2.1, q_E_obj hk k4]), q_pre hE0 hH⟩ rfl hn hls hst (lv_room hW) hdg ⟨Nat.le_refl 0, Nat.le_refl 0⟩
def q_KT (own : String) (idx : Nat) (y : MethodName) (cc : ByteArray) (n : Nat) (ret : Option FieldType) (np : Nat) : Prop :=
  q_Km own idx y cc n ret np ∧ Cond.instanceMethod y ∈ q_tbl ∧ Cond.selects y.cls y y ∈ q_tbl ∧ y.cls = "java/lang/String"
theorem q_runT {t : Nat} {Qc : Array Value → State → Outcome → State → Prop} (hE : qE X p s m args c cc nL own) (hH : q_H X M s H locs) (hM : q_Met l X y cc1 n1 ret lv M (.ref (X.2.2.2.2.1 t) :: As) Qc) (hK : q_KT own idx y cc1 n1 ret np) (ht : t < 3) (hr : lv < lw) (hn : As.length = np) (hls : ls.size = nL) (hst : st0 = As.reverse ++ .ref (X.2.2.2.2.1 t) :: rest) (hW : (rest.map fun v => v.category).sum ≤ 8) (hdg : decode cc pc = .ok (.invokevirtual idx, 3)) :
    va_Run p l e (q_rm lw) s m args below meth c H locs 0 0 0 0 (F0 m pc ls st0) rest (Qc (Value.ref (X.2.2.2.2.1 t) :: As).toArray) (q_A X) := by
  have hE0 := hE
  obtain ⟨hx, hb, hml, ho, hts, hKK, hi, hSS⟩ := hE
  obtain ⟨k0, k1, k2, k3⟩ := hK
  exact va_runV (Ts := q_tbl) ⟨hx, hb, hml, ho, hts⟩ hM ⟨q_callB hE0 k0 hr, hts _ k1, hts _ k2⟩ ⟨q_Pc_blind, by rw [k3]; exact vk_recv hSS.2.1 ht hH.2, q_pre hE0 hH⟩ rfl hn hls hst (lv_room hW) hdg ⟨Nat.le_refl 0, Nat.le_refl 0⟩
theorem q_runS {Qc : Array Value → State → Outcome → State → Prop} (hE : qE X p s m args c cc nL own) (hH : q_H X M s H locs) (hM : q_Met l X y cc1 n1 ret lv M As Qc) (hK : q_KS own idx y cc1 n1 ret np) (hr : lv < lw) (hn : As.length = np) (hls : ls.size = nL) (hst : st0 = As.reverse ++ rest) (hW : (rest.map fun v => v.category).sum ≤ 8) (hdg : decode cc pc = .ok (.invokestatic idx, 3)) :
    va_Run p l e (q_rm lw) s m args below meth c H locs 0 0 0 0 (F0 m pc ls st0) rest (Qc As.toArray) (q_A X) := by
  have hE0 := hE
  obtain ⟨hx, hb, hml, ho, hts, hKK, hi, -⟩ := hE
  obtain ⟨k0, k1⟩ := hK
  exact va_runS (Ts := q_tbl) ⟨hx, hb, hml, ho, hts⟩ hM ⟨q_callB hE0 k0 hr, hts _ k1⟩ ⟨q_Pc_blind, q_pre hE0 hH⟩ rfl hn hls hst (lv_room hW) hdg ⟨Nat.le_refl 0, Nat.le_refl 0⟩
theorem q_calli {r : Int32} {a : Array Value} (hr : va_Run p l e (q_rm lw) s m args below meth c H locs 0 0 0 0 (F0 m pc ls st0) rest (q_Qi X r M1 a) (q_A X)) (hH : q_H X M s H locs)
    (kk : ∀ (H : Heap) (locs : List Loc), q_H X M1 s H locs → W p l e (q_rm lw) s m args below meth c H locs 0 0 Q (F0 m (pc + 3) ls (.int r :: rest))) : W p l e (q_rm lw) s m args below meth c H locs 0 0 Q (F0 m pc ls st0) := by
  refine va_calli hr hH.2 (fun _ _ h => h) (fun _ h => h) (fun r' u t H1 locs1 ht hvm hw hB _ _ hS => ?_)
  subst hw
  have hB : q_P X M1 t.heap := hB
  rw [ht] at hB
  exact kk H1 locs1 ⟨hB, hS⟩
theorem q_calll {r : Int64} {a : Array Value} (hr : va_Run p l e (q_rm lw) s m args below meth c H locs 0 0 0 0 (F0 m pc ls st0) rest (q_Ql X r M1 a) (q_A X)) (hH : q_H X M s H locs)
    (kk : ∀ (H : Heap) (locs : List Loc), q_H X M1 s H locs → W p l e (q_rm lw) s m args below meth c H locs 0 0 Q (F0 m (pc + 3) ls (.long r :: rest))) : W p l e (q_rm lw) s m args below meth c H locs 0 0 Q (F0 m pc ls st0) := by
  refine va_calll hr hH.2 (fun _ _ h => h) (fun _ h => h) (fun r' u t H1 locs1 ht hvm hw hB _ _ hS => ?_)
  subst hw
  have hB : q_P X M1 t.heap := hB
  rw [ht] at hB
  exact kk H1 locs1 ⟨hB, hS⟩
theorem q_callv {a : Array Value} (hr : va_Run p l e (q_rm lw) s m args below meth c H locs 0 0 0 0 (F0 m pc ls st0) rest (q_Qv X M1 a) (q_A X)) (hH : q_H X M s H locs)
    (kk : ∀ (H : Heap) (locs : List Loc), q_H X M1 s H locs → W p l e (q_rm lw) s m args below meth c H locs 0 0 Q (F0 m (pc + 3) ls rest)) : W p l e (q_rm lw) s m args below meth c H locs 0 0 Q (F0 m pc ls st0) := by
  refine va_callv hr hH.2 (fun _ _ h => h) (fun _ h => h) (fun u t H1 locs1 ht hvm hw hB _ _ hS => ?_)
  have hB : q_P X M1 t.heap := hB
  rw [ht] at hB
  exact kk H1 locs1 ⟨hB, hS⟩
theorem q_callq {r : Option Nat} {a : Array Value} (hr : va_Run p l e (q_rm lw) s m args below meth c H locs 0 0 0 0 (F0 m pc ls st0) rest (q_Qq X r M1 a) (q_A X)) (hH : q_H X M s H locs)
    (kk : ∀ (H : Heap) (locs : List Loc), q_H X M1 s H locs → W p l e (q_rm lw) s m args below meth c H locs 0 0 Q (F0 m (pc + 3) ls (va_rf (r.map X.1) :: rest))) : W p l e (q_rm lw) s m args below meth c H locs 0 0 Q (F0 m pc ls st0) := by
  refine va_callq hr hH.2 (fun _ _ h => h) (fun _ h => h) (fun r' u t H1 locs1 ht hvm hw hB _ _ hS => ?_)
  subst hw
  have hB : q_P X M1 t.heap := hB
  rw [ht] at hB
  exact kk H1 locs1 ⟨hB, hS⟩
/-- a static method of another class of the nest that is private there -/
theorem q_runSN {host : String} {Qc : Array Value → State → Outcome → State → Prop} (hE : qE X p s m args c cc nL own) (hH : q_H X M s H locs) (hM : q_Met l X y cc1 n1 ret lv M As Qc) (hK : q_KN own idx y cc1 n1 ret np host) (hr : lv < lw) (hn : As.length = np) (hls : ls.size = nL) (hst : st0 = As.reverse ++ rest) (hW : (rest.map fun v => v.category).sum ≤ 8) (hdg : decode cc pc = .ok (.invokestatic idx, 3)) :
    va_Run p l e (q_rm lw) s m args below meth c H locs 0 0 0 0 (F0 m pc ls st0) rest (Qc As.toArray) (q_A X) := by
  have hE0 := hE
  obtain ⟨hx, hb, hml, ho, hts, hKK, hi, hSS⟩ := hE
  obtain ⟨k1, ⟨i0, hi0, e1, e2, e3, e4⟩, k3, k4, k5, k6⟩ := hK
  have k2 : (Cond.methodLinkNest own idx y host).before args s = true := by rw [e1, e2, e3, e4]; exact va_Nw.use rfl (hSS.2.2.2.2 i0 hi0)
  refine va_runSN (bytes := cc1) (maxL := n1) (ret := ret) (host := host) (Ts := q_tbl) ⟨hx, hb, hml, ho, hts⟩ hM ?_ ⟨q_Pc_blind, q_pre hE0 hH⟩ rfl hn hls hst (lv_room hW) hdg ⟨Nat.le_refl 0, Nat.le_refl 0⟩
  refine ⟨⟨⟨rfl, rfl, hr, (by show 8 + (n1 + 11) + 64 * lv ≤ 64 * lw; omega), ?_, List.mem_cons_self⟩, hts _ k1, hts _ k3, ⟨k4.1, k4.2.1⟩, ?_, k2⟩, hts _ k6, trivial⟩
  · refine pay_in hts (fun w hw => ?_)
    rcases List.mem_cons.mp hw with rfl | hw
    · exact ⟨k1, q_good k1⟩
    · exact ⟨hw, q_good hw⟩
  · intro sig h
    have h2 := k4.2.2
    rw [h] at h2
    exact (Option.some.inj h2).symm
end QC
