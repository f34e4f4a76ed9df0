/-! ===== the law: its frame ===== -/
def R_law : String := "ThirdComerLaw"
def lw_P (b : Addr) (xs : List Int32) (args : Array Value) (s : State) : Prop := args = #[.ref b] ∧ s.IntsAt b xs ∧ xs.length ≤ 3584 ∧ (Jvm.Cond.and given_1 narrow_1).before args s = true
def lw_Q (_ : Array Value) (s : State) (o : Outcome) (t : State) : Prop := o = .returned (some (.int 1)) ∧ Framed s o t [] 601024 7293034
def lw_Z (below : List Frame) (a : Array Value) (s : State) : State → Prop := fun t => ∃ o, t.status = .running ∧ Ended t below o ∧ lw_Q a s o t
/-- the law's own end, with 1 on the stack, nothing written that was there before, its room as the claim has it -/
theorem lw_ret {p : Program} {l : Launch} {e : Env} {s : State} {m : MethodId} {below : List Frame} {meth : Method} {c : Code} {b : Nat} (hx : p.tables.exec = Jvm.exec) (hb : c.code = code) (hr : meth.sig.returnType = ret) (hlocks : meth.locks = false) {pc : Nat} {H : Heap} {ls : Array Slot} (hdg : decode code pc = .ok (.ireturn, 1)) : W p l e room_1 s m #[Value.ref b] below meth c H [] 601024 7293034 (lw_Z below #[Value.ref b] s) (F0 m pc ls [.int 1]) := by
  intro T hT X
  obtain ⟨fs, hret, hrun, hended, hW, hframe⟩ := X.leave (v := some (.int 1)) (hlocks := hlocks) (fun h => by rw [hr] at h; cases h)
  have hmeth' : T.vm.method? m = some meth := X.method'
  refine ⟨T.setFrames fs, ?_, .returned (some (.int 1)), hrun, hended, rfl, ⟨_, rfl⟩, hW, hframe⟩
  jvm_step X.here [X.here.top, hx, hb, hdg, hmeth', hr, ret, narrow_b1]
  (try refine ⟨rfl, ?_⟩); (try refine ⟨rfl, ?_⟩)
  first | (intro acts; rw [hret _ acts rfl rfl rfl]) | rw [hret _ _ rfl rfl rfl]
  exact Steps.refl _
/-- what holds at the law's entry: the machine, the code, the tables' words (any of lw_tbl by 'hts w (by decide +kernel)'), the script of L ints xs at the cell b, what the Statement gives of the start (any of its parts by flat_of_before) -/
def lw_At (p : Program) (s : State) (m : MethodId) (meth : Method) (c : Code) (b L : Nat) (xs : Nat → Int32) : Prop :=
  p.tables.exec = Jvm.exec ∧ c.code = code ∧ meth.sig.returnType = ret ∧ c.maxLocals = 8 ∧ s.vm.findClass R_law = some m.cls ∧ (∀ w ∈ lw_tbl, w.before #[Value.ref b] s = true) ∧ va_X b L xs s s.heap ∧ b < s.heap.size ∧ meth.locks = false ∧ (Jvm.Cond.and given_1 narrow_1).before #[Value.ref b] s = true

/-- the script, and that it lies apart -/
def lX (X : qX) (b L n : Nat) (xs : Nat → Int32) (s : State) : Prop := va_X b L xs s s.heap ∧ b < s.heap.size ∧ ¬ q_A X b ∧ 7 * n + 7 ≤ L ∧ L ≤ 3584
/-- what a throw needs besides -/
def lW : List Cond := [.declares (Bundle.initS "java/lang/RuntimeException"), .declares (Bundle.initS "java/lang/Exception"), .declares (Bundle.initS Bundle.tN), .castable "java/util/NoSuchElementException" "java/util/NoSuchElementException"]
def lV (X : qX) (U : State) (H : Heap) : Prop := vx_Zq Bundle.tN "UNASSIGNED_STACK" Bundle.steD (q_A X) U H ∧ vx_Zq Bundle.tN "SUPPRESSED_SENTINEL" Bundle.listD (q_A X) U H ∧ ∀ w ∈ lW, w.before #[] U = true
theorem lW_tr {u U : State} {w : Cond} (hw : w.onTables = true) (h : w.before #[] (u.setVm U.vm) = true) : w.before #[] U = true := by
  have e := Cond.onTables_vm (A := #[]) (A' := #[]) (U := u) (U' := U) U.vm w hw
  have hU : U.setVm U.vm = U := rfl
  rw [hU] at e
  rw [← e]
  exact h
theorem lW_moved {u U : State} (hvm : u.vm.Alike U.vm) (h : ∀ w ∈ lW, w.before #[] u = true) : ∀ w ∈ lW, w.before #[] U = true := by
  intro w hw
  have h1 := h w hw
  unfold lW at hw
  simp only [List.mem_cons, List.not_mem_nil, or_false] at hw
  rcases hw with rfl | rfl | rfl | rfl
  · exact lW_tr rfl (by rw [Cond.declares_setVm hvm]; exact h1)
  · exact lW_tr rfl (by rw [Cond.declares_setVm hvm]; exact h1)
  · exact lW_tr rfl (by rw [Cond.declares_setVm hvm]; exact h1)
  · exact lW_tr rfl (by rw [Cond.castable_setVm hvm]; exact h1)
theorem lV.moved {X : qX} {u U : State} {H : Heap} (hvm : u.vm.Alike U.vm) (h : lV X u H) : lV X U H := ⟨vx_Zq.moved hvm h.1, vx_Zq.moved hvm h.2.1, lW_moved hvm h.2.2⟩
theorem lV.kept {X : qX} {U : State} {H H1 : Heap} (h : lV X U H) (hq : ∀ a : Nat, a < H.size → ¬ q_A X a → H1[a]? = H[a]?) : lV X U H1 := ⟨vx_Zq.kept h.1 hq, vx_Zq.kept h.2.1 hq, h.2.2⟩
/-- behind a case -/
def lK (X : qX) (p : Program) (l : Launch) (e : Env) (s : State) (m : MethodId) (b : Nat) (below : List Frame) (meth : Method) (c : Code) (cells slots n : Nat) : Prop :=
  ∀ (H : Heap) (locs : List Loc) (M : qM), q_H X M s H locs → RR M → ∀ ls : Array Slot, lv_has ls 8 [(4, .int (nI (7 * n))), (3, .ref (X.1 122)), (2, .ref (X.1 91)), (1, .ref (X.1 0)), (0, .ref b)] →
    W p l e room_1 s m #[Value.ref b] below meth c H locs (cells + 1) (slots + 6) (lw_Z below #[Value.ref b] s) (F0 m 2039 ls [])
section LQ
variable {X : qX} {p : Program} {l : Launch} {e : Env} {s : State} {m : MethodId} {args : Array Value} {below : List Frame} {meth : Method} {c : Code} {H : Heap} {locs : List Loc} {cells slots : Nat} {Q : State → Prop}
variable {cc cc1 : ByteArray} {pc : Nat} {ls : Array Slot} {st0 rest As : List Value} {M M1 : qM} {own : String} {nL idx np ci k n n1 lv : Nat} {y : MethodName} {ret : Option FieldType}
theorem lq_ld {R : Room} {b L N k : Nat} {kk : Int32} {xs : Nat → Int32} (hE : qE X p s m args c cc nL own) (hX : lX X b L N xs s) (hH : q_H X M s H locs) (hk : nI k = kk) (hlt : k < 7) (hdg : decode cc pc = .ok (.iaload, 1))
    (k9 : W p l e R s m args below meth c H locs cells slots Q (F0 m (pc + 1) ls (.int (xs (7 * N + k)) :: rest))) : W p l e R s m args below meth c H locs cells slots Q (F0 m pc ls (.int (nI (7 * N) + kk) :: .ref b :: rest)) := by
  obtain ⟨x1, x2, x3, x4, x5⟩ := hX
  subst hk
  rw [nI_add]
  have e1 : (nI (7 * N + k)).toNatClampNeg = 7 * N + k := nI_clamp (by omega)
  refine va_sld hE.1 hE.2.1 x1 x2 x3 hH.2 (i := nI (7 * N + k)) ?_ hdg ?_
  · rintro (h1 | h1)
    · exact nI_pos (by omega) h1
    · rw [e1] at h1; omega
  · rw [e1]; exact k9
theorem lq_runV {Qc : Array Value → State → Outcome → State → Prop} (hE : qE X p s m args c cc nL own) (hH : q_H X M s H locs) (hM : q_Met l X y cc1 n1 ret lv M (.ref (X.1 k) :: As) Qc) (hK : q_KV own idx y cc1 n1 ret np ci) (hk : q_is k ci n) (hr : lv + 1 ≤ 2048 ∧ 8 + (n1 + 11) + 64 * lv ≤ 84000) (hn : As.length = np) (hls : ls.size = nL) (hst : st0 = As.reverse ++ .ref (X.1 k) :: rest) (hW : (rest.map fun v => v.category).sum ≤ 8) (hdg : decode cc pc = .ok (.invokevirtual idx, 3)) (hc : cells ≤ 601024) (hs : slots ≤ 7293034) :
    va_Run p l e room_1 s m args below meth c H locs cells slots 0 0 (F0 m pc ls st0) rest (Qc (Value.ref (X.1 k) :: As).toArray) (q_A X) := by
  have hE0 := hE
  obtain ⟨hx, hb, hml, ho, hts, hKK, hi, -⟩ := hE
  obtain ⟨⟨k1, k2, k3, k4, k5⟩, k6, k7, T, N, k8, k9⟩ := hK
  refine va_runV (Ts := q_tbl) ⟨hx, hb, hml, ho, hts⟩ hM ⟨callB_of np hts ?_ rfl rfl rfl (hts _ k3) (hts _ k2) k4 hr, hts _ k6, hts _ k7⟩ ⟨q_Pc_blind, va_recv hKK hH.1.1 k8 (by rw [q_W_get hk.2.1, q_E_obj hk k9]), q_pre hE0 hH⟩ rfl hn hls hst (lv_room hW) hdg ⟨hc, hs⟩
  intro w hw
  rcases List.mem_cons.mp hw with rfl | hw
  · exact ⟨k1, q_good k1⟩
  · exact ⟨hw, q_good hw⟩
theorem lq_calli {r : Int32} {a : Array Value} (hr : va_Run p l e room_1 s m args below meth c H locs cells slots 0 0 (F0 m pc ls st0) rest (q_Qi X r M1 a) (q_A X)) (hH : q_H X M s H locs)
    (kk : ∀ (H : Heap) (locs : List Loc), q_H X M1 s H locs → W p l e room_1 s m args below meth c H locs cells slots Q (F0 m (pc + 3) ls (.int r :: rest))) : W p l e room_1 s m args below meth c H locs cells slots Q (F0 m pc ls st0) := by
  refine va_calli hr hH.2 (fun _ _ h => h) (fun _ h => h) (fun r' u t H1 locs1 ht hvm hw hB _ _ hS => ?_)
  subst hw
  have hB : q_P X M1 t.heap := hB
  rw [ht] at hB
  exact kk H1 locs1 ⟨hB, hS⟩
theorem lq_calll {r : Int64} {a : Array Value} (hr : va_Run p l e room_1 s m args below meth c H locs cells slots 0 0 (F0 m pc ls st0) rest (q_Ql X r M1 a) (q_A X)) (hH : q_H X M s H locs)
    (kk : ∀ (H : Heap) (locs : List Loc), q_H X M1 s H locs → W p l e room_1 s m args below meth c H locs cells slots Q (F0 m (pc + 3) ls (.long r :: rest))) : W p l e room_1 s m args below meth c H locs cells slots Q (F0 m pc ls st0) := by
  refine va_calll hr hH.2 (fun _ _ h => h) (fun _ h => h) (fun r' u t H1 locs1 ht hvm hw hB _ _ hS => ?_)
  subst hw
  have hB : q_P X M1 t.heap := hB
  rw [ht] at hB
  exact kk H1 locs1 ⟨hB, hS⟩
theorem lq_cmp (r : Int64) : lg_cmp r r = 0 := by
  unfold lg_cmp
  rw [if_neg (by simp [Int64.lt_irrefl]), if_pos rfl]
end LQ
