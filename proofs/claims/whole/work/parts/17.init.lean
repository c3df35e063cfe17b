/-! constructors: a world 'pre ++ cur'; what a constructor makes lies in cur -/
def Jw (D : va_G) (cy : Nat → ClassId) (A : Nat → Prop) (s : State) (pre cur : va_W) (H : Heap) (locs : List Loc) : Prop := va_P D vwCl (pre ++ cur) H ∧ va_D A (pre ++ cur) ∧ va_S A s.heap H locs
def CJ (l : Launch) (y : MethodName) (wsn : List Cond) (rm : Room) (D : va_G) (cy : Nat → ClassId) (X : State → Prop) (h0 : Nat) (As : List Value) (c0 : va_E) (B : va_W → Prop) (mc ms : Nat) : Prop := ∀ (pre : va_W) (sz : Nat), Met l y wsn rm (va_Pc (.ref h0 :: As) (fun U => U.heap.size = sz ∧ va_P D vwCl (pre ++ [(h0, c0)]) U.heap ∧ va_K D vwCl (tyL cy) U ∧ va_D (fun _ => True) (pre ++ [(h0, c0)]) ∧ X U))
  (fun _ st oc t => oc = .returned none ∧ (∃ cur, B cur ∧ va_P D vwCl (pre ++ cur) t.heap ∧ va_D (va_A (pre ++ [(h0, c0)]) sz) (pre ++ cur)) ∧ va_F (va_A (pre ++ [(h0, c0)]) sz) st t) mc ms (va_A (pre ++ [(h0, c0)]) sz)
/-- a premise that a new frame and a warming leave -/
def XK (X : State → Prop) : Prop := ∀ s U : State, s.WarmedH U.vm → X s → X U
def q_nest : List (String × Nat × MethodName) := [(RX5, 24, yX3_init), (RX5, 60, yX2_init), (RX5, 61, yX4_init), (RX4, 23, yX3_init), (RX5, 62, yX1_init)]
def XJ (U : State) : Prop := va_AO "Homewatcher$Task" U ∧ va_AO "Homewatcher$Version" U ∧ va_AO "Homewatcher$Hit" U ∧ ∀ q ∈ q_nest, va_Nw (.methodLinkNest q.1 q.2.1 q.2.2 "Homewatcher") U
theorem XK_t : XK XJ := fun _ _ hW h => ⟨va_AO.moved hW.alike h.1, va_AO.moved hW.alike h.2.1, va_AO.moved hW.alike h.2.2.1, fun q hq => va_Nw.warmM hW (h.2.2.2 q hq)⟩
def MJ (p : Program) (s : State) (m : MethodId) (args : Array Value) (meth : Method) (c : Code) (D : va_G) (cy : Nat → ClassId) (A : Nat → Prop) (cc : ByteArray) (own : String) (nL : Nat) (Ts : List Cond) (rt : Option FieldType := none) : Prop :=
  p.tables.exec = Jvm.exec ∧ c.code = cc ∧ c.maxLocals = nL ∧ s.vm.findClass own = some m.cls ∧ (∀ w ∈ Ts, w.before args s = true) ∧ meth.sig.returnType = rt ∧ meth.locks = false ∧ va_K D vwCl (tyL cy) s ∧ ∀ q, s.heap.size ≤ q → A q
theorem arrL {pre cur : va_W} {i : Nat} : (pre ++ cur)[pre.length + i]? = cur[i]? := by
  rw [List.getElem?_append_right (by omega), Nat.add_sub_cancel_left]
theorem setL {pre cur : va_W} {i : Nat} {z : Nat × va_E} : (pre ++ cur).set (pre.length + i) z = pre ++ cur.set i z := by
  rw [List.set_append_right _ _ (by omega), Nat.add_sub_cancel_left]
theorem cA_of {D : va_G} {cy : Nat → ClassId} {s : State} {cA : ClassId} {ty : FieldType} {t : Nat} (h : va_K D vwCl (tyL cy ++ [(cA, ty)]) s) (ht : (tyL cy)[t]? = some (cy t, ty)) : cA = cy t := by
  have h1 := (h.2 8 (cA, ty) rfl).2
  have ht8 : (tyL cy ++ [(cA, ty)])[t]? = some (cy t, ty) := by
    rw [List.getElem?_append_left (List.getElem?_eq_some_iff.mp ht).1]
    exact ht
  have h2 := (h.2 t (cy t, ty) ht8).2
  cases ty with
  | object C =>
    obtain ⟨kA, comp, a1, a2, a3, a4⟩ := h1
    obtain ⟨kB, comp2, b1, b2, b3, b4⟩ := h2
    exact Option.some.inj (a4.symm.trans b4)
  | _ => exact Option.some.inj (Eq.trans (Eq.symm h1) h2)
section QJ
variable {p : Program} {l : Launch} {e : Env} {R : Room} {s : State} {m : MethodId} {args : Array Value} {below : List Frame} {meth : Method} {c : Code} {D : va_G} {cy : Nat → ClassId} {A : Nat → Prop} {cc : ByteArray} {own : String} {nL : Nat} {Ts : List Cond} {H : Heap} {locs : List Loc} {cells slots : Nat} {Q : State → Prop} {pc : Nat} {ls : Array Slot} {rest : List Value} {pre cur : va_W} {rt : Option FieldType}
theorem j_start {y : MethodName} {ws ws' : List Cond} {rm : Room} {h0 : Nat} {As : List Value} {c0 : va_E} {B : va_W → Prop} {X : State → Prop} {mc ms maxL : Nat} (hy : plainName y.cls = true) (hw : ws = Cond.code y cc maxL none :: ws') (hlen : (lg_sl (.ref h0 :: As)).length ≤ maxL)
    (body : ∀ (p : Program) (e : Env) (s : State) (m : MethodId) (args : Array Value) (below : List Frame) (meth : Method) (c : Code) (ls : Array Slot) (A : Nat → Prop) (pre : va_W), A = va_A (pre ++ [(h0, c0)]) s.heap.size → MJ p s m args meth c D cy A cc y.cls maxL ws → X s → Jw D cy A s pre [(h0, c0)] s.heap [] → lv_has ls maxL (lv_args 0 (.ref h0 :: As)) → meth.name = y.name →
      W p l e rm s m args below meth c s.heap [] 0 0 (MQ below (fun _ st oc t => oc = .returned none ∧ (∃ cur, B cur ∧ va_P D vwCl (pre ++ cur) t.heap ∧ va_D A (pre ++ cur)) ∧ va_F A st t) args s mc ms A) (F0 m 0 ls [])) : CJ l y ws rm D cy X h0 As c0 B mc ms := by
  intro pre sz
  refine Met.ofW (cc := cc) (maxL := maxL) (ret := none) hy hw ?_
  intro p e s m args below meth c s₁ B0 hml hv
  obtain ⟨rfl, hsz, hP, hK, hD, hX⟩ := hv
  subst hsz
  have hl := lv_entry (.ref h0 :: As) (n := maxL) hlen
  rw [lg_entry_eq]
  generalize (lg_sl (.ref h0 :: As) ++ List.replicate (maxL - (lg_sl (.ref h0 :: As)).length) Slot.unset).toArray = ls at hl ⊢
  exact body p e s m _ below meth c ls _ pre rfl ⟨B0.exec, B0.bytes, hml, findClass_of_methodNamed B0.named, atoms_spec (ws := ws) B0.pre, B0.returns, B0.notSynchronized, hK, fun q hq => Or.inr hq⟩ hX ⟨hP, hD.self, va_S.rf⟩ hl (name_of_methodNamed B0.named B0.method).1
theorem j_new {C : String} {T : u_T} {N ci index : Nat} {fs : List Value} (ty : Nat → FieldType) (C0 : MJ p s m args meth c D cy A cc own nL Ts rt) (hw : Jw D cy A s pre cur H locs) (hin : ∀ w ∈ u_ws C T N, w ∈ Ts) (hty : ∀ k, k < N → parseFieldDescriptor (T k).2.2.1 = some (ty k)) (hcl : Cond.classLink own index C ∈ Ts) (hinst : Cond.instantiable C N ∈ Ts) (hini : Cond.initialized C ∈ Ts) (hc : vwCl[ci]? = some (C, T, N)) (hfs : ∀ j, j < N → defaultValue (ty j) = vp_V fs j) (hr : cells + 1 ≤ R.cells ∧ slots + N ≤ R.slots) (hdg : decode cc pc = .ok (.new index, 3))
    (kk : ∀ (q : Nat) (H1 : Heap), Jw D cy A s pre (cur ++ [(q, .inr (ci, fs))]) H1 locs → W p l e R s m args below meth c H1 locs (cells + 1) (slots + N) Q (F0 m (pc + 3) ls (.ref q :: rest))) : W p l e R s m args below meth c H locs cells slots Q (F0 m pc ls rest) := by
  obtain ⟨hx, hb, hml, hown, hts, -, -, hK, hA⟩ := C0
  refine va_new (D := D) (cl := vwCl) hx hb hts hin ty hty hown (hts _ hcl) (hts _ hinst) (hts _ hini) hK hw.1 hw.2.1 hw.2.2 hA hc hfs hr.1 hr.2 hdg (fun q H1 hP hD hS => ?_)
  rw [List.append_assoc] at hP hD
  exact kk q H1 ⟨hP, hD, hS⟩
theorem j_newa {atype : ArrayType} {ty : FieldType} {n : Int32} {N t : Nat} (C0 : MJ p s m args meth c D cy A cc own nL Ts rt) (hw : Jw D cy A s pre cur H locs) (harr : Cond.arrayClass (newarray.typeOf atype) ∈ Ts) (hty : newarray.typeOf atype = ty) (hd : defaultValue ty = .int 0) (ht : (tyL cy)[t]? = some (cy t, ty)) (hn : ¬ n < 0) (hN : n.toNatClampNeg = N) (hbytes : N * componentBytes ty ≤ 536870912) (hr : cells + 1 ≤ R.cells ∧ slots + N ≤ R.slots) (hdg : decode cc pc = .ok (.newarray atype, 2))
    (kk : ∀ (q : Nat) (H1 : Heap), Jw D cy A s pre (cur ++ [(q, wI (cy t) N (fun _ => 0))]) H1 locs → W p l e R s m args below meth c H1 locs (cells + 1) (slots + N) Q (F0 m (pc + 2) ls (.ref q :: rest))) : W p l e R s m args below meth c H locs cells slots Q (F0 m pc ls (.int n :: rest)) := by
  obtain ⟨hx, hb, hml, hown, hts, -, -, hK, hA⟩ := C0
  refine va_newa (D := D) (cl := vwCl) (a0 := (N, .inl (fun _ => 0))) hx hb (hts _ harr) hty hK hw.1 hw.2.1 hw.2.2 hA (fun cA => by rw [hd]; rfl) hn hN hbytes hr.1 hr.2 hdg (fun q cA H1 hK1 hP hD hS => ?_)
  have hcA := cA_of hK1 ht
  subst hcA
  rw [List.append_assoc] at hP hD
  exact kk q H1 ⟨hP, hD, hS⟩
theorem j_newq {C : String} {index : Nat} {n : Int32} {N t : Nat} (C0 : MJ p s m args meth c D cy A cc own nL Ts rt) (hw : Jw D cy A s pre cur H locs) (hcl : Cond.classLink own index C ∈ Ts) (hover : va_AO C s) (ht : (tyL cy)[t]? = some (cy t, .object C)) (hn : ¬ n < 0) (hN : n.toNatClampNeg = N) (hbytes : N * 4 ≤ 536870912) (hr : cells + 1 ≤ R.cells ∧ slots + N ≤ R.slots) (hdg : decode cc pc = .ok (.anewarray index, 3))
    (kk : ∀ (q : Nat) (H1 : Heap), Jw D cy A s pre (cur ++ [(q, wR (cy t) N (fun _ => none))]) H1 locs → W p l e R s m args below meth c H1 locs (cells + 1) (slots + N) Q (F0 m (pc + 3) ls (.ref q :: rest))) : W p l e R s m args below meth c H locs cells slots Q (F0 m pc ls (.int n :: rest)) := by
  obtain ⟨hx, hb, hml, hown, hts, -, -, hK, hA⟩ := C0
  refine va_newq (D := D) (cl := vwCl) hx hb hown (hts _ hcl) hover hK hw.1 hw.2.1 hw.2.2 hA hn hN hbytes hr.1 hr.2 hdg (fun q cA H1 hK1 hP hD hS => ?_)
  have hcA := cA_of hK1 ht
  subst hcA
  rw [List.append_assoc] at hP hD
  exact kk q H1 ⟨hP, hD, hS⟩
theorem j_put {refc C : String} {T : u_T} {ty0 : Nat → FieldType} {N ci index kf i a : Nat} {fs : List Value} {v : Value} {ty : FieldType} (C0 : MJ p s m args meth c D cy A cc own nL Ts rt) (hw : Jw D cy A s pre cur H locs) (hi : cur[i]? = some (a, .inr (ci, fs))) (hin : ∀ w ∈ u_ws C T N, w ∈ Ts) (hc : vwCl[ci]? = some (C, T, N)) (hty : ∀ k, k < N → parseFieldDescriptor (T k).2.2.1 = some (ty0 k)) (hnm : ∀ a, a < N → ∀ b, b < N → a ≠ b → (T a).2.1 ≠ (T b).2.1) (hkf : kf < N) (hl : Cond.fieldLink own index refc (T kf).2.1 (T kf).2.2.1 ∈ Ts) (hsame : (T kf).1 = refc) (hfin : (T kf).2.2.2 = false) (hd : parseFieldDescriptor (T kf).2.2.1 = some ty) (hn : narrow ty v = v ∧ fits ty v = true) (hlen : kf < fs.length) (hdg : decode cc pc = .ok (.putfield index, 3))
    (kk : ∀ (H1 : Heap) (locs1 : List Loc), Jw D cy A s pre (cur.set i (a, .inr (ci, fs.set kf v))) H1 locs1 → W p l e R s m args below meth c H1 locs1 cells slots Q (F0 m (pc + 3) ls rest)) : W p l e R s m args below meth c H locs cells slots Q (F0 m pc ls (v :: .ref a :: rest)) := by
  obtain ⟨hx, hb, hml, hown, hts, -, -, hK, hA⟩ := C0
  refine va_put (D := D) (cl := vwCl) (ty := ty) hx hb hts hin ty0 hty hnm hown hK hw.1 hw.2.1 hw.2.2 (pre.length + i) (arrL.trans hi) hc kf hkf (hts _ hl) (fun z h => by rw [← hsame]; exact h) hfin hd hn.1 hn.2 hlen hdg (fun H1 locs1 hP hD hS => ?_)
  rw [setL] at hP hD
  exact kk H1 locs1 ⟨hP, hD, hS⟩
theorem j_putF {refc C : String} {T : u_T} {ty0 : Nat → FieldType} {N ci index kf i a : Nat} {fs : List Value} {v : Value} {ty : FieldType} (C0 : MJ p s m args meth c D cy A cc own nL Ts rt) (hinit : meth.name = "<init>") (hw : Jw D cy A s pre cur H locs) (hi : cur[i]? = some (a, .inr (ci, fs))) (hin : ∀ w ∈ u_ws C T N, w ∈ Ts) (hc : vwCl[ci]? = some (C, T, N)) (hty : ∀ k, k < N → parseFieldDescriptor (T k).2.2.1 = some (ty0 k)) (hnm : ∀ a, a < N → ∀ b, b < N → a ≠ b → (T a).2.1 ≠ (T b).2.1) (hkf : kf < N) (hl : Cond.fieldLink own index refc (T kf).2.1 (T kf).2.2.1 ∈ Ts) (hsame : (T kf).1 = refc) (hdecl : (T kf).1 = own) (hfin : (T kf).2.2.2 = true) (hd : parseFieldDescriptor (T kf).2.2.1 = some ty) (hn : narrow ty v = v ∧ fits ty v = true) (hlen : kf < fs.length) (hdg : decode cc pc = .ok (.putfield index, 3))
    (kk : ∀ (H1 : Heap) (locs1 : List Loc), Jw D cy A s pre (cur.set i (a, .inr (ci, fs.set kf v))) H1 locs1 → W p l e R s m args below meth c H1 locs1 cells slots Q (F0 m (pc + 3) ls rest)) : W p l e R s m args below meth c H locs cells slots Q (F0 m pc ls (v :: .ref a :: rest)) := by
  obtain ⟨hx, hb, hml, hown, hts, -, -, hK, hA⟩ := C0
  refine va_putF (D := D) (cl := vwCl) (ty := ty) hx hb hts hin ty0 hty hnm hown hK hw.1 hw.2.1 hw.2.2 (pre.length + i) (arrL.trans hi) hc kf hkf (hts _ hl) (fun z h => by rw [← hsame]; exact h) hfin hinit hdecl hd hn.1 hn.2 hlen hdg (fun H1 locs1 hP hD hS => ?_)
  rw [setL] at hP hD
  exact kk H1 locs1 ⟨hP, hD, hS⟩
theorem j_get {refc C : String} {T : u_T} {N ci index kf i a : Nat} {fs : List Value} {v : Value} (C0 : MJ p s m args meth c D cy A cc own nL Ts rt) (hw : Jw D cy A s pre cur H locs) (hi : cur[i]? = some (a, .inr (ci, fs))) (hin : ∀ w ∈ u_ws C T N, w ∈ Ts) (hc : vwCl[ci]? = some (C, T, N)) (hkf : kf < N) (hl : Cond.fieldLink own index refc (T kf).2.1 (T kf).2.2.1 ∈ Ts) (hsame : (T kf).1 = refc) (hv : fs[kf]? = some v) (hdg : decode cc pc = .ok (.getfield index, 3))
    (kk : W p l e R s m args below meth c H locs cells slots Q (F0 m (pc + 3) ls (v :: rest))) : W p l e R s m args below meth c H locs cells slots Q (F0 m pc ls (.ref a :: rest)) := by
  obtain ⟨hx, hb, hml, hown, hts, -, -, hK, -⟩ := C0
  exact va_get (D := D) (cl := vwCl) hx hb hts hin hown hK hw.1 (pre.length + i) (arrL.trans hi) hc kf hkf (hts _ hl) (fun z h => by rw [← hsame]; exact h) hv hdg kk
theorem j_astq {i t k ci n v a : Nat} {Cn : String} {T : u_T} {N : Nat} {vs : List Value} {f : Nat → Option Nat} {ix : Int32} (C0 : MJ p s m args meth c D cy A cc own nL Ts rt) (hw : Jw D cy A s pre cur H locs) (hi : cur[i]? = some (a, wR (cy t) n f)) (ht : (tyL cy)[t]? = some (cy t, .object Cn)) (hk : cur[k]? = some (v, .inr (ci, vs))) (hc : vwCl[ci]? = some (Cn, T, N)) (hx9 : vp_in ix n) (hdg : decode cc pc = .ok (.aastore, 1))
    (kk : ∀ (H1 : Heap) (locs1 : List Loc), Jw D cy A s pre (cur.set i (a, wR (cy t) n (va_up f ix.toNatClampNeg (some v)))) H1 locs1 → W p l e R s m args below meth c H1 locs1 cells slots Q (F0 m (pc + 1) ls rest)) : W p l e R s m args below meth c H locs cells slots Q (F0 m pc ls (.ref v :: .int ix :: .ref a :: rest)) := by
  obtain ⟨hx, hb, hml, hown, hts, -, -, hK, -⟩ := C0
  refine va_astq (D := D) (cl := vwCl) (r := (Cn, T, N)) (f := f) hx hb hK hw.1 hw.2.1 hw.2.2 (pre.length + i) t (pre.length + k) ci (arrL.trans hi) ht (arrL.trans hk) hc hx9 hdg (fun H1 locs1 hP hD hS => ?_)
  rw [setL] at hP hD
  exact kk H1 locs1 ⟨hP, hD, hS⟩
theorem j_callI {y : MethodName} {ws ws' : List Cond} {rm : Room} {As : List Value} {nA : Nat} {h0 : Nat} {c0 : va_E} {B : va_W → Prop} {X : State → Prop} {mc ms maxL index : Nat} {bytes : ByteArray} {st0 : List Value}
    (C0 : MJ p s m args meth c D cy A cc own nL Ts rt) (hXK : XK X) (hX : X s) (hw : Jw D cy A s pre (cur ++ [(h0, c0)]) H locs) (hM : CJ l y ws rm D cy X h0 As c0 B mc ms)
    (hG : GoodIn Ts ws) (hws : ws = Cond.code y bytes maxL none :: ws') (hrm : rm.cells = mc ∧ rm.slots = ms) (hini : Cond.initialized y.cls ∈ Ts) (hlk : Cond.methodLink own index y ∈ Ts) (hins : Cond.instanceMethod y ∈ Ts) (hy1 : y.name = "<init>") (hd : y.cls ≠ "java/lang/invoke/MethodHandle" ∧ y.cls ≠ "java/lang/invoke/VarHandle" ∧ (parseMethodDescriptor y.desc).map (fun d => d.parameters.length) = some nA) (hnA : As.length = nA) (hR : rm.frames + 1 ≤ R.frames ∧ 8 + (maxL + 11) + rm.locals ≤ R.locals)
    (hls : ls.size = nL) (hcat : (rest.map fun v => v.category).sum ≤ 8) (hf : cells + mc ≤ R.cells ∧ slots + ms ≤ R.slots) (hst : st0 = As.reverse ++ .ref h0 :: rest) (hdg : decode cc pc = .ok (.invokespecial index, 3))
    (kk : ∀ (cur1 : va_W) (H1 : Heap) (locs1 : List Loc), B cur1 → Jw D cy A s pre (cur ++ cur1) H1 locs1 → W p l e R s m args below meth c H1 locs1 (cells + mc) (slots + ms) Q (F0 m (pc + 3) ls rest)) : W p l e R s m args below meth c H locs cells slots Q (F0 m pc ls st0) := by
  obtain ⟨hx, hb, hml, hown, hts, -, -, hK, hA⟩ := C0
  have hw1 : va_P D vwCl ((pre ++ cur) ++ [(h0, c0)]) H := by rw [List.append_assoc]; exact hw.1
  have hw2 : va_D A ((pre ++ cur) ++ [(h0, c0)]) := by rw [List.append_assoc]; exact hw.2.1
  have hr := va_runI (e := e) (meth := meth) (below := below) (locs := locs) (As := As) (rest := rest) (n := nA) (g := F0 m pc ls st0) ⟨hx, hb, hml, hown, hts⟩ (hM (pre ++ cur) H.size) (cwI nA hts hG hws hrm.1 hrm.2 (hts _ hini) (hts _ hlk) (hts _ hins) hy1 hd hR)
    ⟨fun a U g mk q => by obtain ⟨q0, q1, qP, qK, qD, qX⟩ := q; exact ⟨q0, q1, qP, va_K.moved (u := U) (U := U.calling g mk a) (Vm.Alike.refl U.vm) qK, qD, hXK U (U.calling g mk a) (State.WarmedH.refl U) qX⟩, fun U hU hW => ⟨rfl, by rw [hU], by rw [hU]; exact hw1, va_K.moved hW.alike hK, hw2.weaken (fun _ _ _ _ => trivial), hXK s U hW hX⟩⟩ rfl hnA hls hst (lv_room hcat) hdg hf
  have hAA : ∀ q, va_A ((pre ++ cur) ++ [(h0, c0)]) H.size q → A q := fun q h => by
    rcases h with ⟨k, e9, h9⟩ | h9
    · exact hw2.2 k (q, e9) h9
    · exact hA q (Nat.le_trans hw.2.2.1 h9)
  intro T hT X9
  obtain ⟨v, st₀, t, T', L, h00, X', hL, e1, e2, ⟨hv, ⟨cur1, hB, hP1, hD1⟩, hz, hk⟩, st⟩ := hr T hT X9
  cases hv
  rw [h00] at hz hk
  rw [List.append_assoc] at hP1
  have hD2 : va_D A (pre ++ (cur ++ cur1)) := by
    rw [← List.append_assoc]
    exact hD1.weaken (fun _ _ _ h => hAA _ h)
  obtain ⟨t2, a1, b1⟩ := kk cur1 T'.heap (locs ++ L) hB ⟨by rw [e1]; exact hP1, hD2, ⟨Nat.le_trans hw.2.2.1 (by rw [e1]; exact hz), fun q h1 h2 => by rw [e1, hk q (Nat.lt_of_lt_of_le h1 hw.2.2.1) (fun z => h2 (hAA q z))]; exact hw.2.2.2.1 q h1 h2, fun q hq => by
      rcases List.mem_append.mp hq with h | h
      · exact hw.2.2.2.2 q h
      · exact hAA _ (hL q h)⟩⟩ T' rfl X'
  exact ⟨t2, st t2 a1, b1⟩
theorem j_callN {y : MethodName} {ws ws' : List Cond} {rm : Room} {As : List Value} {nA : Nat} {h0 : Nat} {c0 : va_E} {B : va_W → Prop} {X : State → Prop} {mc ms maxL index : Nat} {bytes : ByteArray} {host : String} {st0 : List Value}
    (C0 : MJ p s m args meth c D cy A cc own nL Ts rt) (hXK : XK X) (hX : X s) (hw : Jw D cy A s pre (cur ++ [(h0, c0)]) H locs) (hM : CJ l y ws rm D cy X h0 As c0 B mc ms)
    (hG : GoodIn Ts ws) (hws : ws = Cond.code y bytes maxL none :: ws') (hrm : rm.cells = mc ∧ rm.slots = ms) (hini : Cond.initialized y.cls ∈ Ts) (hlk : va_Nw (.methodLinkNest own index y host) s) (hins : Cond.instanceMethod y ∈ Ts) (hy1 : y.name = "<init>") (hd : y.cls ≠ "java/lang/invoke/MethodHandle" ∧ y.cls ≠ "java/lang/invoke/VarHandle" ∧ (parseMethodDescriptor y.desc).map (fun d => d.parameters.length) = some nA) (hnA : As.length = nA) (hR : rm.frames + 1 ≤ R.frames ∧ 8 + (maxL + 11) + rm.locals ≤ R.locals)
    (hls : ls.size = nL) (hcat : (rest.map fun v => v.category).sum ≤ 8) (hf : cells + mc ≤ R.cells ∧ slots + ms ≤ R.slots) (hst : st0 = As.reverse ++ .ref h0 :: rest) (hdg : decode cc pc = .ok (.invokespecial index, 3))
    (kk : ∀ (cur1 : va_W) (H1 : Heap) (locs1 : List Loc), B cur1 → Jw D cy A s pre (cur ++ cur1) H1 locs1 → W p l e R s m args below meth c H1 locs1 (cells + mc) (slots + ms) Q (F0 m (pc + 3) ls rest)) : W p l e R s m args below meth c H locs cells slots Q (F0 m pc ls st0) := by
  obtain ⟨hx, hb, hml, hown, hts, -, -, hK, hA⟩ := C0
  have hw1 : va_P D vwCl ((pre ++ cur) ++ [(h0, c0)]) H := by rw [List.append_assoc]; exact hw.1
  have hw2 : va_D A ((pre ++ cur) ++ [(h0, c0)]) := by rw [List.append_assoc]; exact hw.2.1
  have hr := va_runIN (e := e) (meth := meth) (below := below) (locs := locs) (As := As) (rest := rest) (n := nA) (g := F0 m pc ls st0) ⟨hx, hb, hml, hown, hts⟩ (hM (pre ++ cur) H.size) ⟨va_cnB nA hts hG hws hrm.1 hrm.2 hlk (hts _ hini) hd hR, hy1, hts _ hins⟩
    ⟨fun a U g mk q => by obtain ⟨q0, q1, qP, qK, qD, qX⟩ := q; exact ⟨q0, q1, qP, va_K.moved (u := U) (U := U.calling g mk a) (Vm.Alike.refl U.vm) qK, qD, hXK U (U.calling g mk a) (State.WarmedH.refl U) qX⟩, fun U hU hW => ⟨rfl, by rw [hU], by rw [hU]; exact hw1, va_K.moved hW.alike hK, hw2.weaken (fun _ _ _ _ => trivial), hXK s U hW hX⟩⟩ rfl hnA hls hst (lv_room hcat) hdg hf
  have hAA : ∀ q, va_A ((pre ++ cur) ++ [(h0, c0)]) H.size q → A q := fun q h => by
    rcases h with ⟨k, e9, h9⟩ | h9
    · exact hw2.2 k (q, e9) h9
    · exact hA q (Nat.le_trans hw.2.2.1 h9)
  intro T hT X9
  obtain ⟨v, st₀, t, T', L, h00, X', hL, e1, e2, ⟨hv, ⟨cur1, hB, hP1, hD1⟩, hz, hk⟩, st⟩ := hr T hT X9
  cases hv
  rw [h00] at hz hk
  rw [List.append_assoc] at hP1
  have hD2 : va_D A (pre ++ (cur ++ cur1)) := by
    rw [← List.append_assoc]
    exact hD1.weaken (fun _ _ _ h => hAA _ h)
  obtain ⟨t2, a1, b1⟩ := kk cur1 T'.heap (locs ++ L) hB ⟨by rw [e1]; exact hP1, hD2, ⟨Nat.le_trans hw.2.2.1 (by rw [e1]; exact hz), fun q h1 h2 => by rw [e1, hk q (Nat.lt_of_lt_of_le h1 hw.2.2.1) (fun z => h2 (hAA q z))]; exact hw.2.2.2.1 q h1 h2, fun q hq => by
      rcases List.mem_append.mp hq with h | h
      · exact hw.2.2.2.2 q h
      · exact hAA _ (hL q h)⟩⟩ T' rfl X'
  exact ⟨t2, st t2 a1, b1⟩
theorem j_ret {B : va_W → Prop} {mc ms : Nat} (C0 : MJ p s m args meth c D cy A cc own nL Ts) (hw : Jw D cy A s pre cur H locs) (hB : B cur) (hc : cells ≤ mc ∧ slots ≤ ms) (hdg : decode cc pc = .ok (.return_, 1)) :
    W p l e R s m args below meth c H locs cells slots (MQ below (fun _ st oc t => oc = .returned none ∧ (∃ cur, B cur ∧ va_P D vwCl (pre ++ cur) t.heap ∧ va_D A (pre ++ cur)) ∧ va_F A st t) args s mc ms A) (F0 m pc ls []) := by
  obtain ⟨hx, hb, hml, hown, hts, hr, hlk, -⟩ := C0
  refine W.widen hc.1 hc.2 ?_
  exact W.vret hx hb hr (fun t ht hW => ⟨rfl, ⟨cur, hB, by rw [ht]; exact hw.1, hw.2.1⟩, hw.2.2.F ht⟩) hw.2.2.2.2 hdg hlk
theorem j_obj {idx a : Nat} (C0 : MJ p s m args meth c D cy A cc own nL Ts rt) (hlink : Cond.methodLink own idx Lib.objectInit ∈ Ts) (hinst : Cond.instanceMethod Lib.objectInit ∈ Ts) (hcode : Cond.code Lib.objectInit ⟨#[0xb1]⟩ 1 none ∈ Ts) (hls : ls.size = nL) (hf : 1 ≤ R.frames) (hlo : (rest.map fun v => v.category).sum + 12 ≤ R.locals) (hdg : decode cc pc = .ok (.invokespecial idx, 3))
    (kk : W p l e R s m args below meth c H locs cells slots Q (F0 m (pc + 3) ls rest)) : W p l e R s m args below meth c H locs cells slots Q (F0 m pc ls (.ref a :: rest)) := by
  obtain ⟨hx, hb, hml, hown, hts, -⟩ := C0
  exact W.objInit hx hb hown (hts _ hlink) (hts _ hinst) (hts _ hcode) rfl (by rw [hml]; exact hls) rfl hdg hf (by show 2 * 0 + _ + 12 ≤ R.locals; omega) kk
theorem j_max {index : Nat} {y z : Int32} (C0 : MJ p s m args meth c D cy A cc own nL Ts rt) (hls : ls.size = nL) (hT : ∀ w ∈ ([.methodLink own index Lib.Math.max.name, .static Lib.Math.max.name, .initialized "java/lang/Math", .code Lib.Math.max.name Lib.Math.max.code 2 (some .int)] : List Cond), w ∈ Ts) (hframes : 1 ≤ R.frames) (hlocals : (rest.map fun v => v.category).sum + 13 ≤ R.locals) (hcs : cells ≤ R.cells ∧ slots ≤ R.slots) (hdg : decode cc pc = .ok (.invokestatic index, 3))
    (kk : W p l e R s m args below meth c H locs cells slots Q (F0 m (pc + 3) ls (.int (if y < z then z else y) :: rest))) : W p l e R s m args below meth c H locs cells slots Q (F0 m pc ls (.int z :: .int y :: rest)) := by
  obtain ⟨hx, hb, hml, hown, hts, -⟩ := C0
  exact va_mmax hx hb (by rw [hml, hls]) hown (hts _ (hT _ (by simp))) (hts _ (hT _ (by simp))) (hts _ (hT _ (by simp))) (hts _ (hT _ (by simp))) hframes hlocals hcs.1 hcs.2 hdg kk
end QJ
theorem df0 : ∀ j, j < 3 → defaultValue (tyX0 j) = vp_V [.null, .null, .int 0] j := fun j hj => by
  rcases (show j = 0 ∨ j = 1 ∨ j = 2 by omega) with rfl | rfl | rfl <;> rfl
theorem df1 : ∀ j, j < 4 → defaultValue (tyX1 j) = vp_V [.int 0, .int 0, .int 0, .int 0] j := fun j hj => by
  rcases (show j = 0 ∨ j = 1 ∨ j = 2 ∨ j = 3 by omega) with rfl | rfl | rfl | rfl <;> rfl
theorem df2 : ∀ j, j < 5 → defaultValue (tyX2 j) = vp_V [.int 0, .int 0, .int 0, .int 0, .int 0] j := fun j hj => by
  rcases (show j = 0 ∨ j = 1 ∨ j = 2 ∨ j = 3 ∨ j = 4 by omega) with rfl | rfl | rfl | rfl | rfl <;> rfl
theorem df3 : ∀ j, j < 2 → defaultValue (tyX3 j) = vp_V [.null, .int 0] j := fun j hj => by
  rcases (show j = 0 ∨ j = 1 by omega) with rfl | rfl <;> rfl
theorem df4 : ∀ j, j < 10 → defaultValue (tyX4 j) = vp_V [.int 0, .int 0, .int 0, .int 0, .int 0, .int 0, .int 0, .int 0, .null, .null] j := fun j hj => by
  rcases (show j = 0 ∨ j = 1 ∨ j = 2 ∨ j = 3 ∨ j = 4 ∨ j = 5 ∨ j = 6 ∨ j = 7 ∨ j = 8 ∨ j = 9 by omega) with rfl | rfl | rfl | rfl | rfl | rfl | rfl | rfl | rfl | rfl <;> rfl
theorem df5 : ∀ j, j < 17 → defaultValue (tyX5 j) = vp_V [.null, .int 0, .null, .int 0, .null, .int 0, .int 0, .null, .null, .int 0, .int 0, .null, .null, .null, .null, .int 0, .int 0] j := fun j hj => by
  rcases (show j = 0 ∨ j = 1 ∨ j = 2 ∨ j = 3 ∨ j = 4 ∨ j = 5 ∨ j = 6 ∨ j = 7 ∨ j = 8 ∨ j = 9 ∨ j = 10 ∨ j = 11 ∨ j = 12 ∨ j = 13 ∨ j = 14 ∨ j = 15 ∨ j = 16 by omega) with rfl | rfl | rfl | rfl | rfl | rfl | rfl | rfl | rfl | rfl | rfl | rfl | rfl | rfl | rfl | rfl | rfl <;> rfl
theorem df6 : ∀ j, j < 35 → defaultValue (tyX6 j) = vp_V [.int 0, .int 0, .int 0, .int 0, .int 0, .int 0, .int 0, .int 0, .int 0, .int 0, .null, .null, .null, .null, .null, .null, .null, .null, .null, .null, .null, .null, .null, .null, .null, .null, .null, .null, .null, .null, .null, .null, .null, .null, .null] j := fun j hj => by
  rcases (show j = 0 ∨ j = 1 ∨ j = 2 ∨ j = 3 ∨ j = 4 ∨ j = 5 ∨ j = 6 ∨ j = 7 ∨ j = 8 ∨ j = 9 ∨ j = 10 ∨ j = 11 ∨ j = 12 ∨ j = 13 ∨ j = 14 ∨ j = 15 ∨ j = 16 ∨ j = 17 ∨ j = 18 ∨ j = 19 ∨ j = 20 ∨ j = 21 ∨ j = 22 ∨ j = 23 ∨ j = 24 ∨ j = 25 ∨ j = 26 ∨ j = 27 ∨ j = 28 ∨ j = 29 ∨ j = 30 ∨ j = 31 ∨ j = 32 ∨ j = 33 ∨ j = 34 by omega) with rfl | rfl | rfl | rfl | rfl | rfl | rfl | rfl | rfl | rfl | rfl | rfl | rfl | rfl | rfl | rfl | rfl | rfl | rfl | rfl | rfl | rfl | rfl | rfl | rfl | rfl | rfl | rfl | rfl | rfl | rfl | rfl | rfl | rfl | rfl <;> rfl
theorem bag_pos {a : Nat} (ha : 0 < a ∧ a < 2 ^ 20) : (0 : Int32) < nI a := by
  rw [show (0 : Int32) = nI 0 from rfl]
  exact nI_lt ha.1 (by omega)
theorem bag_nn {a : Nat} (ha : 0 < a ∧ a < 2 ^ 20) : ¬ nI a < 0 := nI_pos (by omega)
theorem bag_cl {a : Nat} (ha : 0 < a ∧ a < 2 ^ 20) : (nI a).toNatClampNeg = a := nI_clamp (by omega)
theorem bag_by {a : Nat} (ha : 0 < a ∧ a < 2 ^ 20) : a * componentBytes .int ≤ 536870912 := by
  show a * 4 ≤ 536870912
  omega
abbrev rmX2_init : Room := { frames := 1, cells := 0, slots := 0, locals := 30 }
set_option maxHeartbeats 4000000 in
set_option maxRecDepth 100000 in
theorem ctX2_init {l : Launch} {D : va_G} {cy : Nat → ClassId} {h0 : Nat} : CJ l yX2_init wsX2_init rmX2_init D cy XJ h0 [] (.inr (4, [.int 0, .int 0, .int 0, .int 0, .int 0])) (fun cur => cur = [(h0, .inr (4, [.int 0, .int 0, .int 0, .int 0, .int 0]))]) 0 0 := by
  refine j_start (cc := cX2_init) (maxL := 1) (by decide) rfl (Nat.le_of_ble_eq_true rfl) ?_
  intro p e s m args below meth c ls A pre hAe C0 hX hw hl hinit
  have C0 : MJ p s m args meth c D cy A cX2_init RX2 1 wsX2_init := C0
  obtain ⟨hx, hb, hml, hown, hts, -⟩ := id C0
  have hl : lv_has ls 1 [(0, .ref h0)] := hl
  refine lv_aload_n hx hb dX2_init_0 rfl (lv_at hl 0 rfl) ?_
  refine j_obj C0 (List.mem_of_getElem? (i := 1) rfl) (List.mem_of_getElem? (i := 2) rfl) (List.mem_of_getElem? (i := 3) rfl) hl.1 (Nat.le_of_ble_eq_true rfl) (Nat.le_of_ble_eq_true rfl) dX2_init_1 ?_
  exact j_ret C0 hw rfl ⟨(Nat.le_of_ble_eq_true rfl), (Nat.le_of_ble_eq_true rfl)⟩ dX2_init_4
abbrev rmX1_init : Room := { frames := 1, cells := 0, slots := 0, locals := 30 }
set_option maxHeartbeats 4000000 in
set_option maxRecDepth 100000 in
theorem ctX1_init {l : Launch} {D : va_G} {cy : Nat → ClassId} {h0 : Nat} : CJ l yX1_init wsX1_init rmX1_init D cy XJ h0 [] (.inr (3, [.int 0, .int 0, .int 0, .int 0])) (fun cur => cur = [(h0, .inr (3, [.int 0, .int 0, .int 0, .int (-1)]))]) 0 0 := by
  refine j_start (cc := cX1_init) (maxL := 1) (by decide) rfl (Nat.le_of_ble_eq_true rfl) ?_
  intro p e s m args below meth c ls A pre hAe C0 hX hw hl hinit
  have C0 : MJ p s m args meth c D cy A cX1_init RX1 1 wsX1_init := C0
  obtain ⟨hx, hb, hml, hown, hts, -⟩ := id C0
  have hl : lv_has ls 1 [(0, .ref h0)] := hl
  refine lv_aload_n hx hb dX1_init_0 rfl (lv_at hl 0 rfl) ?_
  refine j_obj C0 (List.mem_of_getElem? (i := 1) rfl) (List.mem_of_getElem? (i := 2) rfl) (List.mem_of_getElem? (i := 3) rfl) hl.1 (Nat.le_of_ble_eq_true rfl) (Nat.le_of_ble_eq_true rfl) dX1_init_1 ?_
  refine lv_aload_n hx hb dX1_init_4 rfl (lv_at hl 0 rfl) ?_
  refine lv_iconst (v := -1) hx hb dX1_init_5 (by decide) ?_
  refine j_put (C := RX1) (T := TX1) (ty0 := tyX1) (N := 4) (ci := 3) (kf := 3) (i := 0) (ty := .int) (fs := [.int 0, .int 0, .int 0, .int 0]) C0 hw rfl (fun _ h9 => List.mem_cons_of_mem _ (List.mem_append_right _ h9)) rfl tyX1_ok nmX1 (by decide) (List.mem_of_getElem? (i := 4) rfl) rfl rfl (by decide +kernel) ⟨rfl, rfl⟩ (Nat.le_of_ble_eq_true rfl) dX1_init_6 (fun H locs hw => ?_)
  have hw : Jw D cy A s pre [(h0, .inr (3, [.int 0, .int 0, .int 0, .int (-1)]))] H _ := hw
  exact j_ret C0 hw rfl ⟨(Nat.le_of_ble_eq_true rfl), (Nat.le_of_ble_eq_true rfl)⟩ dX1_init_9
abbrev rmX3_init : Room := { frames := 1, cells := 1, slots := 40, locals := 30 }
set_option maxHeartbeats 4000000 in
set_option maxRecDepth 100000 in
theorem ctX3_init {l : Launch} {D : va_G} {cy : Nat → ClassId} {h0 : Nat} : CJ l yX3_init wsX3_init rmX3_init D cy XJ h0 [] (.inr (5, [.null, .int 0])) (fun cur => ∃ q1, cur = [(h0, .inr (5, [.ref q1, .int 0])), (q1, wI (cy 0) 40 (fun _ => 0))]) 1 40 := by
  refine j_start (cc := cX3_init) (maxL := 1) (by decide) rfl (Nat.le_of_ble_eq_true rfl) ?_
  intro p e s m args below meth c ls A pre hAe C0 hX hw hl hinit
  have C0 : MJ p s m args meth c D cy A cX3_init RX3 1 wsX3_init := C0
  obtain ⟨hx, hb, hml, hown, hts, -⟩ := id C0
  have hl : lv_has ls 1 [(0, .ref h0)] := hl
  refine lv_aload_n hx hb dX3_init_0 rfl (lv_at hl 0 rfl) ?_
  refine j_obj C0 (List.mem_of_getElem? (i := 1) rfl) (List.mem_of_getElem? (i := 2) rfl) (List.mem_of_getElem? (i := 3) rfl) hl.1 (Nat.le_of_ble_eq_true rfl) (Nat.le_of_ble_eq_true rfl) dX3_init_1 ?_
  refine lv_aload_n hx hb dX3_init_4 rfl (lv_at hl 0 rfl) ?_
  refine lv_bipush (v := 40) hx hb dX3_init_5 (by decide) ?_
  refine j_newa (atype := .int) (ty := .int) (t := 0) (N := 40) C0 hw (List.mem_of_getElem? (i := 4) rfl) rfl rfl rfl (by decide) (by decide) (Nat.le_of_ble_eq_true rfl) ⟨(Nat.le_of_ble_eq_true rfl), (Nat.le_of_ble_eq_true rfl)⟩ dX3_init_7 (fun q1 H hw => ?_)
  have hw : Jw D cy A s pre [(h0, .inr (5, [.null, .int 0])), (q1, wI (cy 0) 40 (fun _ => 0))] H _ := hw
  refine j_putF (C := RX3) (T := TX3) (ty0 := tyX3) (N := 2) (ci := 5) (kf := 0) (i := 0) (ty := .array .int) (fs := [.null, .int 0]) C0 hinit hw rfl (fun _ h9 => List.mem_cons_of_mem _ (List.mem_append_right _ h9)) rfl tyX3_ok nmX3 (by decide) (List.mem_of_getElem? (i := 5) rfl) rfl rfl rfl (by decide +kernel) ⟨rfl, rfl⟩ (Nat.le_of_ble_eq_true rfl) dX3_init_9 (fun H locs hw => ?_)
  have hw : Jw D cy A s pre [(h0, .inr (5, [.ref q1, .int 0])), (q1, wI (cy 0) 40 (fun _ => 0))] H _ := hw
  exact j_ret C0 hw ⟨_, rfl⟩ ⟨(Nat.le_of_ble_eq_true rfl), (Nat.le_of_ble_eq_true rfl)⟩ dX3_init_12
def rmX0_init (a : Nat) : Room := { frames := 1, cells := 2, slots := 2 * a, locals := 30 }
set_option maxHeartbeats 4000000 in
set_option maxRecDepth 100000 in
theorem ctX0_init {l : Launch} {D : va_G} {cy : Nat → ClassId} {h0 : Nat} {a : Nat} (ha : 0 < a ∧ a < 2 ^ 20) : CJ l yX0_init wsX0_init (rmX0_init a) D cy XJ h0 [.int (nI a)] (.inr (2, [.null, .null, .int 0])) (fun cur => ∃ q1 q2, cur = [(h0, .inr (2, [.ref q1, .ref q2, .int 0])), (q1, wI (cy 0) a (fun _ => 0)), (q2, wI (cy 0) a (fun _ => 0))]) 2 (2 * a) := by
  refine j_start (cc := cX0_init) (maxL := 2) (by decide) rfl (Nat.le_of_ble_eq_true rfl) ?_
  intro p e s m args below meth c ls A pre hAe C0 hX hw hl hinit
  have C0 : MJ p s m args meth c D cy A cX0_init RX0 2 wsX0_init := C0
  obtain ⟨hx, hb, hml, hown, hts, -⟩ := id C0
  have hl : lv_has ls 2 [(0, .ref h0), (1, .int (nI a))] := hl
  have hrm : (rmX0_init a).cells = 2 ∧ (rmX0_init a).slots = 2 * a := ⟨rfl, rfl⟩
  refine lv_aload_n hx hb dX0_init_0 rfl (lv_at hl 0 rfl) ?_
  refine j_obj C0 (List.mem_of_getElem? (i := 1) rfl) (List.mem_of_getElem? (i := 2) rfl) (List.mem_of_getElem? (i := 3) rfl) hl.1 (Nat.le_of_ble_eq_true rfl) (Nat.le_of_ble_eq_true rfl) dX0_init_1 ?_
  refine lv_aload_n hx hb dX0_init_4 rfl (lv_at hl 0 rfl) ?_
  refine lv_iconst (v := 0) hx hb dX0_init_5 (by decide) ?_
  refine lv_iload_n hx hb dX0_init_6 rfl (lv_at hl 1 rfl) ?_
  refine j_max C0 hl.1 (List.forall_mem_cons.mpr ⟨(List.mem_of_getElem? (i := 4) rfl), (List.forall_mem_cons.mpr ⟨(List.mem_of_getElem? (i := 5) rfl), (List.forall_mem_cons.mpr ⟨(List.mem_of_getElem? (i := 6) rfl), (List.forall_mem_cons.mpr ⟨(List.mem_of_getElem? (i := 7) rfl), (fun _ h9 => absurd h9 List.not_mem_nil)⟩)⟩)⟩)⟩) (Nat.le_of_ble_eq_true rfl) (Nat.le_of_ble_eq_true rfl) ⟨(by simp only [rmX0_init]; omega), (by simp only [rmX0_init]; omega)⟩ dX0_init_7 ?_
  refine j_newa (atype := .int) (ty := .int) (t := 0) (N := a) C0 hw (List.mem_of_getElem? (i := 8) rfl) rfl rfl rfl (by rw [if_pos (bag_pos ha)]; exact bag_nn ha) (by rw [if_pos (bag_pos ha)]; exact bag_cl ha) (bag_by ha) ⟨(by simp only [rmX0_init]; omega), (by simp only [rmX0_init]; omega)⟩ dX0_init_10 (fun q1 H hw => ?_)
  have hw : Jw D cy A s pre [(h0, .inr (2, [.null, .null, .int 0])), (q1, wI (cy 0) a (fun _ => 0))] H _ := hw
  refine j_putF (C := RX0) (T := TX0) (ty0 := tyX0) (N := 3) (ci := 2) (kf := 0) (i := 0) (ty := .array .int) (fs := [.null, .null, .int 0]) C0 hinit hw rfl (fun _ h9 => List.mem_cons_of_mem _ (List.mem_append_right _ h9)) rfl tyX0_ok nmX0 (by decide) (List.mem_of_getElem? (i := 9) rfl) rfl rfl rfl (by decide +kernel) ⟨rfl, rfl⟩ (Nat.le_of_ble_eq_true rfl) dX0_init_12 (fun H locs hw => ?_)
  have hw : Jw D cy A s pre [(h0, .inr (2, [.ref q1, .null, .int 0])), (q1, wI (cy 0) a (fun _ => 0))] H _ := hw
  refine lv_aload_n hx hb dX0_init_15 rfl (lv_at hl 0 rfl) ?_
  refine lv_iconst (v := 0) hx hb dX0_init_16 (by decide) ?_
  refine lv_iload_n hx hb dX0_init_17 rfl (lv_at hl 1 rfl) ?_
  refine j_max C0 hl.1 (List.forall_mem_cons.mpr ⟨(List.mem_of_getElem? (i := 4) rfl), (List.forall_mem_cons.mpr ⟨(List.mem_of_getElem? (i := 5) rfl), (List.forall_mem_cons.mpr ⟨(List.mem_of_getElem? (i := 6) rfl), (List.forall_mem_cons.mpr ⟨(List.mem_of_getElem? (i := 7) rfl), (fun _ h9 => absurd h9 List.not_mem_nil)⟩)⟩)⟩)⟩) (Nat.le_of_ble_eq_true rfl) (Nat.le_of_ble_eq_true rfl) ⟨(by simp only [rmX0_init]; omega), (by simp only [rmX0_init]; omega)⟩ dX0_init_18 ?_
  refine j_newa (atype := .int) (ty := .int) (t := 0) (N := a) C0 hw (List.mem_of_getElem? (i := 8) rfl) rfl rfl rfl (by rw [if_pos (bag_pos ha)]; exact bag_nn ha) (by rw [if_pos (bag_pos ha)]; exact bag_cl ha) (bag_by ha) ⟨(by simp only [rmX0_init]; omega), (by simp only [rmX0_init]; omega)⟩ dX0_init_21 (fun q2 H hw => ?_)
  have hw : Jw D cy A s pre [(h0, .inr (2, [.ref q1, .null, .int 0])), (q1, wI (cy 0) a (fun _ => 0)), (q2, wI (cy 0) a (fun _ => 0))] H _ := hw
  refine j_putF (C := RX0) (T := TX0) (ty0 := tyX0) (N := 3) (ci := 2) (kf := 1) (i := 0) (ty := .array .int) (fs := [.ref q1, .null, .int 0]) C0 hinit hw rfl (fun _ h9 => List.mem_cons_of_mem _ (List.mem_append_right _ h9)) rfl tyX0_ok nmX0 (by decide) (List.mem_of_getElem? (i := 10) rfl) rfl rfl rfl (by decide +kernel) ⟨rfl, rfl⟩ (Nat.le_of_ble_eq_true rfl) dX0_init_23 (fun H locs hw => ?_)
  have hw : Jw D cy A s pre [(h0, .inr (2, [.ref q1, .ref q2, .int 0])), (q1, wI (cy 0) a (fun _ => 0)), (q2, wI (cy 0) a (fun _ => 0))] H _ := hw
  exact j_ret C0 hw ⟨_, _, rfl⟩ ⟨(Nat.le_of_ble_eq_true rfl), by omega⟩ dX0_init_26
abbrev rmX4_init : Room := { frames := 2, cells := 5, slots := 119, locals := 51 }
set_option maxHeartbeats 4000000 in
set_option maxRecDepth 100000 in
theorem ctX4_init {l : Launch} {D : va_G} {cy : Nat → ClassId} {h0 : Nat} : CJ l yX4_init wsX4_init rmX4_init D cy XJ h0 [] (.inr (6, [.int 0, .int 0, .int 0, .int 0, .int 0, .int 0, .int 0, .int 0, .null, .null])) (fun cur => ∃ q1 q2 q3 q4 q5, cur = [(h0, .inr (6, [.int 0, .int 0, .int (-1), .int 0, .int (-1), .int (-1), .int 0, .int 0, .ref q1, .ref q3])), (q1, .inr (5, [.ref q2, .int 0])), (q2, wI (cy 0) 40 (fun _ => 0)), (q3, .inr (2, [.ref q4, .ref q5, .int 0])), (q4, wI (cy 0) 37 (fun _ => 0)), (q5, wI (cy 0) 37 (fun _ => 0))]) 5 119 := by
  refine j_start (cc := cX4_init) (maxL := 1) (by decide) rfl (Nat.le_of_ble_eq_true rfl) ?_
  intro p e s m args below meth c ls A pre hAe C0 hX hw hl hinit
  have C0 : MJ p s m args meth c D cy A cX4_init RX4 1 wsX4_init := C0
  obtain ⟨hx, hb, hml, hown, hts, -⟩ := id C0
  have hl : lv_has ls 1 [(0, .ref h0)] := hl
  refine lv_aload_n hx hb dX4_init_0 rfl (lv_at hl 0 rfl) ?_
  refine j_obj C0 (List.mem_of_getElem? (i := 1) rfl) (List.mem_of_getElem? (i := 2) rfl) (List.mem_of_getElem? (i := 3) rfl) hl.1 (Nat.le_of_ble_eq_true rfl) (Nat.le_of_ble_eq_true rfl) dX4_init_1 ?_
  refine lv_aload_n hx hb dX4_init_4 rfl (lv_at hl 0 rfl) ?_
  refine lv_iconst (v := -1) hx hb dX4_init_5 (by decide) ?_
  refine j_put (C := RX4) (T := TX4) (ty0 := tyX4) (N := 10) (ci := 6) (kf := 2) (i := 0) (ty := .int) (fs := [.int 0, .int 0, .int 0, .int 0, .int 0, .int 0, .int 0, .int 0, .null, .null]) C0 hw rfl (fun _ h9 => List.mem_cons_of_mem _ (List.mem_append_left _ (List.mem_append_left _ (List.mem_append_right _ h9)))) rfl tyX4_ok nmX4 (by decide) (List.mem_of_getElem? (i := 4) rfl) rfl rfl (by decide +kernel) ⟨rfl, rfl⟩ (Nat.le_of_ble_eq_true rfl) dX4_init_6 (fun H locs hw => ?_)
  have hw : Jw D cy A s pre [(h0, .inr (6, [.int 0, .int 0, .int (-1), .int 0, .int 0, .int 0, .int 0, .int 0, .null, .null]))] H _ := hw
  refine lv_aload_n hx hb dX4_init_9 rfl (lv_at hl 0 rfl) ?_
  refine lv_iconst (v := -1) hx hb dX4_init_10 (by decide) ?_
  refine j_put (C := RX4) (T := TX4) (ty0 := tyX4) (N := 10) (ci := 6) (kf := 4) (i := 0) (ty := .int) (fs := [.int 0, .int 0, .int (-1), .int 0, .int 0, .int 0, .int 0, .int 0, .null, .null]) C0 hw rfl (fun _ h9 => List.mem_cons_of_mem _ (List.mem_append_left _ (List.mem_append_left _ (List.mem_append_right _ h9)))) rfl tyX4_ok nmX4 (by decide) (List.mem_of_getElem? (i := 5) rfl) rfl rfl (by decide +kernel) ⟨rfl, rfl⟩ (Nat.le_of_ble_eq_true rfl) dX4_init_11 (fun H locs hw => ?_)
  have hw : Jw D cy A s pre [(h0, .inr (6, [.int 0, .int 0, .int (-1), .int 0, .int (-1), .int 0, .int 0, .int 0, .null, .null]))] H _ := hw
  refine lv_aload_n hx hb dX4_init_14 rfl (lv_at hl 0 rfl) ?_
  refine lv_iconst (v := -1) hx hb dX4_init_15 (by decide) ?_
  refine j_put (C := RX4) (T := TX4) (ty0 := tyX4) (N := 10) (ci := 6) (kf := 5) (i := 0) (ty := .int) (fs := [.int 0, .int 0, .int (-1), .int 0, .int (-1), .int 0, .int 0, .int 0, .null, .null]) C0 hw rfl (fun _ h9 => List.mem_cons_of_mem _ (List.mem_append_left _ (List.mem_append_left _ (List.mem_append_right _ h9)))) rfl tyX4_ok nmX4 (by decide) (List.mem_of_getElem? (i := 6) rfl) rfl rfl (by decide +kernel) ⟨rfl, rfl⟩ (Nat.le_of_ble_eq_true rfl) dX4_init_16 (fun H locs hw => ?_)
  have hw : Jw D cy A s pre [(h0, .inr (6, [.int 0, .int 0, .int (-1), .int 0, .int (-1), .int (-1), .int 0, .int 0, .null, .null]))] H _ := hw
  refine lv_aload_n hx hb dX4_init_19 rfl (lv_at hl 0 rfl) ?_
  refine j_new (C := RX3) (T := TX3) (N := 2) (ci := 5) (fs := [.null, .int 0]) tyX3 C0 hw (fun _ h9 => List.mem_cons_of_mem _ (List.mem_append_left _ (List.mem_append_right _ h9))) tyX3_ok (List.mem_of_getElem? (i := 7) rfl) (List.mem_of_getElem? (i := 8) rfl) (List.mem_of_getElem? (i := 9) rfl) rfl df3 ⟨(Nat.le_of_ble_eq_true rfl), (Nat.le_of_ble_eq_true rfl)⟩ dX4_init_20 (fun q1 H hw => ?_)
  have hw : Jw D cy A s pre [(h0, .inr (6, [.int 0, .int 0, .int (-1), .int 0, .int (-1), .int (-1), .int 0, .int 0, .null, .null])), (q1, .inr (5, [.null, .int 0]))] H _ := hw
  refine lv_dup hx hb dX4_init_23 rfl ?_
  refine j_callN (cur := [(h0, .inr (6, [.int 0, .int 0, .int (-1), .int 0, .int (-1), .int (-1), .int 0, .int 0, .null, .null]))]) (h0 := q1) (As := []) (nA := 0) C0 XK_t hX hw (ctX3_init (D := D) (cy := cy) (h0 := q1)) gX4_init_X3_init_n23 rfl ⟨rfl, rfl⟩ (List.mem_of_getElem? (i := 9) rfl) (hX.2.2.2 _ (List.mem_of_getElem? (i := 3) rfl)) (List.mem_of_getElem? (i := 15) rfl) rfl (by decide +kernel) rfl ⟨(Nat.le_of_ble_eq_true rfl), (Nat.le_of_ble_eq_true rfl)⟩ hl.1 (Nat.le_of_ble_eq_true rfl) ⟨(Nat.le_of_ble_eq_true rfl), (Nat.le_of_ble_eq_true rfl)⟩ rfl dX4_init_24 (fun cur1 H locs hB hw => ?_)
  obtain ⟨q2, rfl⟩ := hB
  have hw : Jw D cy A s pre [(h0, .inr (6, [.int 0, .int 0, .int (-1), .int 0, .int (-1), .int (-1), .int 0, .int 0, .null, .null])), (q1, .inr (5, [.ref q2, .int 0])), (q2, wI (cy 0) 40 (fun _ => 0))] H _ := hw
  refine j_putF (C := RX4) (T := TX4) (ty0 := tyX4) (N := 10) (ci := 6) (kf := 8) (i := 0) (ty := .object "Homewatcher$Text") (fs := [.int 0, .int 0, .int (-1), .int 0, .int (-1), .int (-1), .int 0, .int 0, .null, .null]) C0 hinit hw rfl (fun _ h9 => List.mem_cons_of_mem _ (List.mem_append_left _ (List.mem_append_left _ (List.mem_append_right _ h9)))) rfl tyX4_ok nmX4 (by decide) (List.mem_of_getElem? (i := 10) rfl) rfl rfl rfl (by decide +kernel) ⟨rfl, rfl⟩ (Nat.le_of_ble_eq_true rfl) dX4_init_27 (fun H locs hw => ?_)
  have hw : Jw D cy A s pre [(h0, .inr (6, [.int 0, .int 0, .int (-1), .int 0, .int (-1), .int (-1), .int 0, .int 0, .ref q1, .null])), (q1, .inr (5, [.ref q2, .int 0])), (q2, wI (cy 0) 40 (fun _ => 0))] H _ := hw
  refine lv_aload_n hx hb dX4_init_30 rfl (lv_at hl 0 rfl) ?_
  refine j_new (C := RX0) (T := TX0) (N := 3) (ci := 2) (fs := [.null, .null, .int 0]) tyX0 C0 hw (fun _ h9 => List.mem_cons_of_mem _ (List.mem_append_right _ h9)) tyX0_ok (List.mem_of_getElem? (i := 11) rfl) (List.mem_of_getElem? (i := 12) rfl) (List.mem_of_getElem? (i := 13) rfl) rfl df0 ⟨(Nat.le_of_ble_eq_true rfl), (Nat.le_of_ble_eq_true rfl)⟩ dX4_init_31 (fun q3 H hw => ?_)
  have hw : Jw D cy A s pre [(h0, .inr (6, [.int 0, .int 0, .int (-1), .int 0, .int (-1), .int (-1), .int 0, .int 0, .ref q1, .null])), (q1, .inr (5, [.ref q2, .int 0])), (q2, wI (cy 0) 40 (fun _ => 0)), (q3, .inr (2, [.null, .null, .int 0]))] H _ := hw
  refine lv_dup hx hb dX4_init_34 rfl ?_
  refine lv_bipush (v := 37) hx hb dX4_init_35 (by decide) ?_
  refine j_callI (cur := [(h0, .inr (6, [.int 0, .int 0, .int (-1), .int 0, .int (-1), .int (-1), .int 0, .int 0, .ref q1, .null])), (q1, .inr (5, [.ref q2, .int 0])), (q2, wI (cy 0) 40 (fun _ => 0))]) (h0 := q3) (As := [.int 37]) (nA := 1) C0 XK_t hX hw (ctX0_init (D := D) (cy := cy) (h0 := q3) (a := 37) (by decide)) gX4_init_X0_init rfl ⟨rfl, rfl⟩ (List.mem_of_getElem? (i := 13) rfl) (List.mem_of_getElem? (i := 20) rfl) (List.mem_of_getElem? (i := 21) rfl) rfl (by decide +kernel) rfl ⟨(Nat.le_of_ble_eq_true rfl), (Nat.le_of_ble_eq_true rfl)⟩ hl.1 (Nat.le_of_ble_eq_true rfl) ⟨(Nat.le_of_ble_eq_true rfl), (Nat.le_of_ble_eq_true rfl)⟩ rfl dX4_init_37 (fun cur1 H locs hB hw => ?_)
  obtain ⟨q4, q5, rfl⟩ := hB
  have hw : Jw D cy A s pre [(h0, .inr (6, [.int 0, .int 0, .int (-1), .int 0, .int (-1), .int (-1), .int 0, .int 0, .ref q1, .null])), (q1, .inr (5, [.ref q2, .int 0])), (q2, wI (cy 0) 40 (fun _ => 0)), (q3, .inr (2, [.ref q4, .ref q5, .int 0])), (q4, wI (cy 0) 37 (fun _ => 0)), (q5, wI (cy 0) 37 (fun _ => 0))] H _ := hw
  refine j_putF (C := RX4) (T := TX4) (ty0 := tyX4) (N := 10) (ci := 6) (kf := 9) (i := 0) (ty := .object "Homewatcher$Bag") (fs := [.int 0, .int 0, .int (-1), .int 0, .int (-1), .int (-1), .int 0, .int 0, .ref q1, .null]) C0 hinit hw rfl (fun _ h9 => List.mem_cons_of_mem _ (List.mem_append_left _ (List.mem_append_left _ (List.mem_append_right _ h9)))) rfl tyX4_ok nmX4 (by decide) (List.mem_of_getElem? (i := 14) rfl) rfl rfl rfl (by decide +kernel) ⟨rfl, rfl⟩ (Nat.le_of_ble_eq_true rfl) dX4_init_40 (fun H locs hw => ?_)
  have hw : Jw D cy A s pre [(h0, .inr (6, [.int 0, .int 0, .int (-1), .int 0, .int (-1), .int (-1), .int 0, .int 0, .ref q1, .ref q3])), (q1, .inr (5, [.ref q2, .int 0])), (q2, wI (cy 0) 40 (fun _ => 0)), (q3, .inr (2, [.ref q4, .ref q5, .int 0])), (q4, wI (cy 0) 37 (fun _ => 0)), (q5, wI (cy 0) 37 (fun _ => 0))] H _ := hw
  exact j_ret C0 hw ⟨_, _, _, _, _, rfl⟩ ⟨(Nat.le_of_ble_eq_true rfl), (Nat.le_of_ble_eq_true rfl)⟩ dX4_init_43
abbrev rmX6_init : Room := { frames := 1, cells := 25, slots := 5786, locals := 30 }
set_option maxHeartbeats 4000000 in
set_option maxRecDepth 100000 in
theorem ctX6_init {l : Launch} {D : va_G} {cy : Nat → ClassId} {h0 : Nat} : CJ l yX6_init wsX6_init rmX6_init D cy XJ h0 [] (.inr (8, [.int 0, .int 0, .int 0, .int 0, .int 0, .int 0, .int 0, .int 0, .int 0, .int 0, .null, .null, .null, .null, .null, .null, .null, .null, .null, .null, .null, .null, .null, .null, .null, .null, .null, .null, .null, .null, .null, .null, .null, .null, .null])) (fun cur => ∃ q1 q2 q3 q4 q5 q6 q7 q8 q9 q10 q11 q12 q13 q14 q15 q16 q17 q18 q19 q20 q21 q22 q23 q24 q25, cur = (h0, .inr (8, [.int 0, .int 0, .int 0, .int 0, .int 0, .int 0, .int 0, .int 0, .int 3, .int 0, .ref q1, .ref q2, .ref q3, .ref q4, .ref q5, .ref q6, .ref q7, .ref q8, .ref q9, .ref q10, .ref q11, .ref q12, .ref q13, .ref q14, .ref q15, .ref q16, .ref q17, .ref q18, .ref q19, .ref q20, .ref q21, .ref q22, .ref q23, .ref q24, .ref q25])) :: [(q1, wI (cy 0) 4 (fun _ => 0)), (q2, wI (cy 0) 12 (fun _ => 0)), (q3, wI (cy 0) 10 (fun _ => 0)), (q4, wI (cy 0) 10 (fun _ => 0)), (q5, wI (cy 0) 10 (fun _ => 0)), (q6, wI (cy 0) 10 (fun _ => 0)), (q7, wI (cy 1) 10 (fun _ => 0)), (q8, wI (cy 0) 40 (fun _ => 0)), (q9, wI (cy 0) 60 (fun _ => 0)), (q10, wI (cy 0) 60 (fun _ => 0)), (q11, wI (cy 0) 60 (fun _ => 0)), (q12, wI (cy 0) 60 (fun _ => 0)), (q13, wI (cy 0) 60 (fun _ => 0)), (q14, wI (cy 0) 60 (fun _ => 0)), (q15, wI (cy 0) 60 (fun _ => 0)), (q16, wI (cy 0) 60 (fun _ => 0)), (q17, wI (cy 0) 60 (fun _ => 0)), (q18, wI (cy 0) 2400 (fun _ => 0)), (q19, wI (cy 0) 2400 (fun _ => 0)), (q20, wI (cy 0) 60 (fun _ => 0)), (q21, wI (cy 0) 40 (fun _ => 0)), (q22, wI (cy 0) 40 (fun _ => 0)), (q23, wI (cy 0) 40 (fun _ => 0)), (q24, wI (cy 0) 40 (fun _ => 0)), (q25, wI (cy 2) 120 (fun _ => 0))]) 25 5786 := by
  refine j_start (cc := cX6_init) (maxL := 1) (by decide) rfl (Nat.le_of_ble_eq_true rfl) ?_
  intro p e s m args below meth c ls A pre hAe C0 hX hw hl hinit
  have C0 : MJ p s m args meth c D cy A cX6_init RX6 1 wsX6_init := C0
  obtain ⟨hx, hb, hml, hown, hts, -⟩ := id C0
  have hl : lv_has ls 1 [(0, .ref h0)] := hl
  refine lv_aload_n hx hb dX6_init_0 rfl (lv_at hl 0 rfl) ?_
  refine j_obj C0 (List.mem_of_getElem? (i := 1) rfl) (List.mem_of_getElem? (i := 2) rfl) (List.mem_of_getElem? (i := 3) rfl) hl.1 (Nat.le_of_ble_eq_true rfl) (Nat.le_of_ble_eq_true rfl) dX6_init_1 ?_
  refine lv_aload_n hx hb dX6_init_4 rfl (lv_at hl 0 rfl) ?_
  refine lv_iconst (v := 0) hx hb dX6_init_5 (by decide) ?_
  refine j_put (C := RX6) (T := TX6) (ty0 := tyX6) (N := 35) (ci := 8) (kf := 0) (i := 0) (ty := .int) (fs := [.int 0, .int 0, .int 0, .int 0, .int 0, .int 0, .int 0, .int 0, .int 0, .int 0, .null, .null, .null, .null, .null, .null, .null, .null, .null, .null, .null, .null, .null, .null, .null, .null, .null, .null, .null, .null, .null, .null, .null, .null, .null]) C0 hw rfl (fun _ h9 => List.mem_cons_of_mem _ (List.mem_append_right _ h9)) rfl tyX6_ok nmX6 (by decide) (List.mem_of_getElem? (i := 4) rfl) rfl rfl (by decide +kernel) ⟨rfl, rfl⟩ (Nat.le_of_ble_eq_true rfl) dX6_init_6 (fun H locs hw => ?_)
  have hw : Jw D cy A s pre [(h0, .inr (8, [.int 0, .int 0, .int 0, .int 0, .int 0, .int 0, .int 0, .int 0, .int 0, .int 0, .null, .null, .null, .null, .null, .null, .null, .null, .null, .null, .null, .null, .null, .null, .null, .null, .null, .null, .null, .null, .null, .null, .null, .null, .null]))] H _ := hw
  refine lv_aload_n hx hb dX6_init_9 rfl (lv_at hl 0 rfl) ?_
  refine lv_iconst (v := 0) hx hb dX6_init_10 (by decide) ?_
  refine j_put (C := RX6) (T := TX6) (ty0 := tyX6) (N := 35) (ci := 8) (kf := 1) (i := 0) (ty := .int) (fs := [.int 0, .int 0, .int 0, .int 0, .int 0, .int 0, .int 0, .int 0, .int 0, .int 0, .null, .null, .null, .null, .null, .null, .null, .null, .null, .null, .null, .null, .null, .null, .null, .null, .null, .null, .null, .null, .null, .null, .null, .null, .null]) C0 hw rfl (fun _ h9 => List.mem_cons_of_mem _ (List.mem_append_right _ h9)) rfl tyX6_ok nmX6 (by decide) (List.mem_of_getElem? (i := 5) rfl) rfl rfl (by decide +kernel) ⟨rfl, rfl⟩ (Nat.le_of_ble_eq_true rfl) dX6_init_11 (fun H locs hw => ?_)
  have hw : Jw D cy A s pre [(h0, .inr (8, [.int 0, .int 0, .int 0, .int 0, .int 0, .int 0, .int 0, .int 0, .int 0, .int 0, .null, .null, .null, .null, .null, .null, .null, .null, .null, .null, .null, .null, .null, .null, .null, .null, .null, .null, .null, .null, .null, .null, .null, .null, .null]))] H _ := hw
  refine lv_aload_n hx hb dX6_init_14 rfl (lv_at hl 0 rfl) ?_
  refine lv_iconst (v := 0) hx hb dX6_init_15 (by decide) ?_
  refine j_put (C := RX6) (T := TX6) (ty0 := tyX6) (N := 35) (ci := 8) (kf := 2) (i := 0) (ty := .int) (fs := [.int 0, .int 0, .int 0, .int 0, .int 0, .int 0, .int 0, .int 0, .int 0, .int 0, .null, .null, .null, .null, .null, .null, .null, .null, .null, .null, .null, .null, .null, .null, .null, .null, .null, .null, .null, .null, .null, .null, .null, .null, .null]) C0 hw rfl (fun _ h9 => List.mem_cons_of_mem _ (List.mem_append_right _ h9)) rfl tyX6_ok nmX6 (by decide) (List.mem_of_getElem? (i := 6) rfl) rfl rfl (by decide +kernel) ⟨rfl, rfl⟩ (Nat.le_of_ble_eq_true rfl) dX6_init_16 (fun H locs hw => ?_)
  have hw : Jw D cy A s pre [(h0, .inr (8, [.int 0, .int 0, .int 0, .int 0, .int 0, .int 0, .int 0, .int 0, .int 0, .int 0, .null, .null, .null, .null, .null, .null, .null, .null, .null, .null, .null, .null, .null, .null, .null, .null, .null, .null, .null, .null, .null, .null, .null, .null, .null]))] H _ := hw
  refine lv_aload_n hx hb dX6_init_19 rfl (lv_at hl 0 rfl) ?_
  refine lv_iconst (v := 0) hx hb dX6_init_20 (by decide) ?_
  refine j_put (C := RX6) (T := TX6) (ty0 := tyX6) (N := 35) (ci := 8) (kf := 3) (i := 0) (ty := .int) (fs := [.int 0, .int 0, .int 0, .int 0, .int 0, .int 0, .int 0, .int 0, .int 0, .int 0, .null, .null, .null, .null, .null, .null, .null, .null, .null, .null, .null, .null, .null, .null, .null, .null, .null, .null, .null, .null, .null, .null, .null, .null, .null]) C0 hw rfl (fun _ h9 => List.mem_cons_of_mem _ (List.mem_append_right _ h9)) rfl tyX6_ok nmX6 (by decide) (List.mem_of_getElem? (i := 7) rfl) rfl rfl (by decide +kernel) ⟨rfl, rfl⟩ (Nat.le_of_ble_eq_true rfl) dX6_init_21 (fun H locs hw => ?_)
  have hw : Jw D cy A s pre [(h0, .inr (8, [.int 0, .int 0, .int 0, .int 0, .int 0, .int 0, .int 0, .int 0, .int 0, .int 0, .null, .null, .null, .null, .null, .null, .null, .null, .null, .null, .null, .null, .null, .null, .null, .null, .null, .null, .null, .null, .null, .null, .null, .null, .null]))] H _ := hw
  refine lv_aload_n hx hb dX6_init_24 rfl (lv_at hl 0 rfl) ?_
  refine lv_iconst (v := 0) hx hb dX6_init_25 (by decide) ?_
  refine j_put (C := RX6) (T := TX6) (ty0 := tyX6) (N := 35) (ci := 8) (kf := 4) (i := 0) (ty := .int) (fs := [.int 0, .int 0, .int 0, .int 0, .int 0, .int 0, .int 0, .int 0, .int 0, .int 0, .null, .null, .null, .null, .null, .null, .null, .null, .null, .null, .null, .null, .null, .null, .null, .null, .null, .null, .null, .null, .null, .null, .null, .null, .null]) C0 hw rfl (fun _ h9 => List.mem_cons_of_mem _ (List.mem_append_right _ h9)) rfl tyX6_ok nmX6 (by decide) (List.mem_of_getElem? (i := 8) rfl) rfl rfl (by decide +kernel) ⟨rfl, rfl⟩ (Nat.le_of_ble_eq_true rfl) dX6_init_26 (fun H locs hw => ?_)
  have hw : Jw D cy A s pre [(h0, .inr (8, [.int 0, .int 0, .int 0, .int 0, .int 0, .int 0, .int 0, .int 0, .int 0, .int 0, .null, .null, .null, .null, .null, .null, .null, .null, .null, .null, .null, .null, .null, .null, .null, .null, .null, .null, .null, .null, .null, .null, .null, .null, .null]))] H _ := hw
  refine lv_aload_n hx hb dX6_init_29 rfl (lv_at hl 0 rfl) ?_
  refine lv_iconst (v := 0) hx hb dX6_init_30 (by decide) ?_
  refine j_put (C := RX6) (T := TX6) (ty0 := tyX6) (N := 35) (ci := 8) (kf := 5) (i := 0) (ty := .int) (fs := [.int 0, .int 0, .int 0, .int 0, .int 0, .int 0, .int 0, .int 0, .int 0, .int 0, .null, .null, .null, .null, .null, .null, .null, .null, .null, .null, .null, .null, .null, .null, .null, .null, .null, .null, .null, .null, .null, .null, .null, .null, .null]) C0 hw rfl (fun _ h9 => List.mem_cons_of_mem _ (List.mem_append_right _ h9)) rfl tyX6_ok nmX6 (by decide) (List.mem_of_getElem? (i := 9) rfl) rfl rfl (by decide +kernel) ⟨rfl, rfl⟩ (Nat.le_of_ble_eq_true rfl) dX6_init_31 (fun H locs hw => ?_)
  have hw : Jw D cy A s pre [(h0, .inr (8, [.int 0, .int 0, .int 0, .int 0, .int 0, .int 0, .int 0, .int 0, .int 0, .int 0, .null, .null, .null, .null, .null, .null, .null, .null, .null, .null, .null, .null, .null, .null, .null, .null, .null, .null, .null, .null, .null, .null, .null, .null, .null]))] H _ := hw
  refine lv_aload_n hx hb dX6_init_34 rfl (lv_at hl 0 rfl) ?_
  refine lv_iconst (v := 0) hx hb dX6_init_35 (by decide) ?_
  refine j_put (C := RX6) (T := TX6) (ty0 := tyX6) (N := 35) (ci := 8) (kf := 6) (i := 0) (ty := .int) (fs := [.int 0, .int 0, .int 0, .int 0, .int 0, .int 0, .int 0, .int 0, .int 0, .int 0, .null, .null, .null, .null, .null, .null, .null, .null, .null, .null, .null, .null, .null, .null, .null, .null, .null, .null, .null, .null, .null, .null, .null, .null, .null]) C0 hw rfl (fun _ h9 => List.mem_cons_of_mem _ (List.mem_append_right _ h9)) rfl tyX6_ok nmX6 (by decide) (List.mem_of_getElem? (i := 10) rfl) rfl rfl (by decide +kernel) ⟨rfl, rfl⟩ (Nat.le_of_ble_eq_true rfl) dX6_init_36 (fun H locs hw => ?_)
  have hw : Jw D cy A s pre [(h0, .inr (8, [.int 0, .int 0, .int 0, .int 0, .int 0, .int 0, .int 0, .int 0, .int 0, .int 0, .null, .null, .null, .null, .null, .null, .null, .null, .null, .null, .null, .null, .null, .null, .null, .null, .null, .null, .null, .null, .null, .null, .null, .null, .null]))] H _ := hw
  refine lv_aload_n hx hb dX6_init_39 rfl (lv_at hl 0 rfl) ?_
  refine lv_iconst (v := 0) hx hb dX6_init_40 (by decide) ?_
  refine j_put (C := RX6) (T := TX6) (ty0 := tyX6) (N := 35) (ci := 8) (kf := 7) (i := 0) (ty := .int) (fs := [.int 0, .int 0, .int 0, .int 0, .int 0, .int 0, .int 0, .int 0, .int 0, .int 0, .null, .null, .null, .null, .null, .null, .null, .null, .null, .null, .null, .null, .null, .null, .null, .null, .null, .null, .null, .null, .null, .null, .null, .null, .null]) C0 hw rfl (fun _ h9 => List.mem_cons_of_mem _ (List.mem_append_right _ h9)) rfl tyX6_ok nmX6 (by decide) (List.mem_of_getElem? (i := 11) rfl) rfl rfl (by decide +kernel) ⟨rfl, rfl⟩ (Nat.le_of_ble_eq_true rfl) dX6_init_41 (fun H locs hw => ?_)
  have hw : Jw D cy A s pre [(h0, .inr (8, [.int 0, .int 0, .int 0, .int 0, .int 0, .int 0, .int 0, .int 0, .int 0, .int 0, .null, .null, .null, .null, .null, .null, .null, .null, .null, .null, .null, .null, .null, .null, .null, .null, .null, .null, .null, .null, .null, .null, .null, .null, .null]))] H _ := hw
  refine lv_aload_n hx hb dX6_init_44 rfl (lv_at hl 0 rfl) ?_
  refine lv_iconst (v := 3) hx hb dX6_init_45 (by decide) ?_
  refine j_put (C := RX6) (T := TX6) (ty0 := tyX6) (N := 35) (ci := 8) (kf := 8) (i := 0) (ty := .int) (fs := [.int 0, .int 0, .int 0, .int 0, .int 0, .int 0, .int 0, .int 0, .int 0, .int 0, .null, .null, .null, .null, .null, .null, .null, .null, .null, .null, .null, .null, .null, .null, .null, .null, .null, .null, .null, .null, .null, .null, .null, .null, .null]) C0 hw rfl (fun _ h9 => List.mem_cons_of_mem _ (List.mem_append_right _ h9)) rfl tyX6_ok nmX6 (by decide) (List.mem_of_getElem? (i := 12) rfl) rfl rfl (by decide +kernel) ⟨rfl, rfl⟩ (Nat.le_of_ble_eq_true rfl) dX6_init_46 (fun H locs hw => ?_)
  have hw : Jw D cy A s pre [(h0, .inr (8, [.int 0, .int 0, .int 0, .int 0, .int 0, .int 0, .int 0, .int 0, .int 3, .int 0, .null, .null, .null, .null, .null, .null, .null, .null, .null, .null, .null, .null, .null, .null, .null, .null, .null, .null, .null, .null, .null, .null, .null, .null, .null]))] H _ := hw
  refine lv_aload_n hx hb dX6_init_49 rfl (lv_at hl 0 rfl) ?_
  refine lv_iconst (v := 0) hx hb dX6_init_50 (by decide) ?_
  refine j_put (C := RX6) (T := TX6) (ty0 := tyX6) (N := 35) (ci := 8) (kf := 9) (i := 0) (ty := .int) (fs := [.int 0, .int 0, .int 0, .int 0, .int 0, .int 0, .int 0, .int 0, .int 3, .int 0, .null, .null, .null, .null, .null, .null, .null, .null, .null, .null, .null, .null, .null, .null, .null, .null, .null, .null, .null, .null, .null, .null, .null, .null, .null]) C0 hw rfl (fun _ h9 => List.mem_cons_of_mem _ (List.mem_append_right _ h9)) rfl tyX6_ok nmX6 (by decide) (List.mem_of_getElem? (i := 13) rfl) rfl rfl (by decide +kernel) ⟨rfl, rfl⟩ (Nat.le_of_ble_eq_true rfl) dX6_init_51 (fun H locs hw => ?_)
  have hw : Jw D cy A s pre [(h0, .inr (8, [.int 0, .int 0, .int 0, .int 0, .int 0, .int 0, .int 0, .int 0, .int 3, .int 0, .null, .null, .null, .null, .null, .null, .null, .null, .null, .null, .null, .null, .null, .null, .null, .null, .null, .null, .null, .null, .null, .null, .null, .null, .null]))] H _ := hw
  refine lv_aload_n hx hb dX6_init_54 rfl (lv_at hl 0 rfl) ?_
  refine lv_iconst (v := 4) hx hb dX6_init_55 (by decide) ?_
  refine j_newa (atype := .int) (ty := .int) (t := 0) (N := 4) C0 hw (List.mem_of_getElem? (i := 14) rfl) rfl rfl rfl (by decide) (by decide) (Nat.le_of_ble_eq_true rfl) ⟨(Nat.le_of_ble_eq_true rfl), (Nat.le_of_ble_eq_true rfl)⟩ dX6_init_56 (fun q1 H hw => ?_)
  have hw : Jw D cy A s pre [(h0, .inr (8, [.int 0, .int 0, .int 0, .int 0, .int 0, .int 0, .int 0, .int 0, .int 3, .int 0, .null, .null, .null, .null, .null, .null, .null, .null, .null, .null, .null, .null, .null, .null, .null, .null, .null, .null, .null, .null, .null, .null, .null, .null, .null])), (q1, wI (cy 0) 4 (fun _ => 0))] H _ := hw
  refine j_putF (C := RX6) (T := TX6) (ty0 := tyX6) (N := 35) (ci := 8) (kf := 10) (i := 0) (ty := .array .int) (fs := [.int 0, .int 0, .int 0, .int 0, .int 0, .int 0, .int 0, .int 0, .int 3, .int 0, .null, .null, .null, .null, .null, .null, .null, .null, .null, .null, .null, .null, .null, .null, .null, .null, .null, .null, .null, .null, .null, .null, .null, .null, .null]) C0 hinit hw rfl (fun _ h9 => List.mem_cons_of_mem _ (List.mem_append_right _ h9)) rfl tyX6_ok nmX6 (by decide) (List.mem_of_getElem? (i := 15) rfl) rfl rfl rfl (by decide +kernel) ⟨rfl, rfl⟩ (Nat.le_of_ble_eq_true rfl) dX6_init_58 (fun H locs hw => ?_)
  have hw : Jw D cy A s pre [(h0, .inr (8, [.int 0, .int 0, .int 0, .int 0, .int 0, .int 0, .int 0, .int 0, .int 3, .int 0, .ref q1, .null, .null, .null, .null, .null, .null, .null, .null, .null, .null, .null, .null, .null, .null, .null, .null, .null, .null, .null, .null, .null, .null, .null, .null])), (q1, wI (cy 0) 4 (fun _ => 0))] H _ := hw
  refine lv_aload_n hx hb dX6_init_61 rfl (lv_at hl 0 rfl) ?_
  refine lv_bipush (v := 12) hx hb dX6_init_62 (by decide) ?_
  refine j_newa (atype := .int) (ty := .int) (t := 0) (N := 12) C0 hw (List.mem_of_getElem? (i := 14) rfl) rfl rfl rfl (by decide) (by decide) (Nat.le_of_ble_eq_true rfl) ⟨(Nat.le_of_ble_eq_true rfl), (Nat.le_of_ble_eq_true rfl)⟩ dX6_init_64 (fun q2 H hw => ?_)
  have hw : Jw D cy A s pre [(h0, .inr (8, [.int 0, .int 0, .int 0, .int 0, .int 0, .int 0, .int 0, .int 0, .int 3, .int 0, .ref q1, .null, .null, .null, .null, .null, .null, .null, .null, .null, .null, .null, .null, .null, .null, .null, .null, .null, .null, .null, .null, .null, .null, .null, .null])), (q1, wI (cy 0) 4 (fun _ => 0)), (q2, wI (cy 0) 12 (fun _ => 0))] H _ := hw
  refine j_putF (C := RX6) (T := TX6) (ty0 := tyX6) (N := 35) (ci := 8) (kf := 11) (i := 0) (ty := .array .int) (fs := [.int 0, .int 0, .int 0, .int 0, .int 0, .int 0, .int 0, .int 0, .int 3, .int 0, .ref q1, .null, .null, .null, .null, .null, .null, .null, .null, .null, .null, .null, .null, .null, .null, .null, .null, .null, .null, .null, .null, .null, .null, .null, .null]) C0 hinit hw rfl (fun _ h9 => List.mem_cons_of_mem _ (List.mem_append_right _ h9)) rfl tyX6_ok nmX6 (by decide) (List.mem_of_getElem? (i := 16) rfl) rfl rfl rfl (by decide +kernel) ⟨rfl, rfl⟩ (Nat.le_of_ble_eq_true rfl) dX6_init_66 (fun H locs hw => ?_)
  have hw : Jw D cy A s pre [(h0, .inr (8, [.int 0, .int 0, .int 0, .int 0, .int 0, .int 0, .int 0, .int 0, .int 3, .int 0, .ref q1, .ref q2, .null, .null, .null, .null, .null, .null, .null, .null, .null, .null, .null, .null, .null, .null, .null, .null, .null, .null, .null, .null, .null, .null, .null])), (q1, wI (cy 0) 4 (fun _ => 0)), (q2, wI (cy 0) 12 (fun _ => 0))] H _ := hw
  refine lv_aload_n hx hb dX6_init_69 rfl (lv_at hl 0 rfl) ?_
  refine lv_bipush (v := 10) hx hb dX6_init_70 (by decide) ?_
  refine j_newa (atype := .int) (ty := .int) (t := 0) (N := 10) C0 hw (List.mem_of_getElem? (i := 14) rfl) rfl rfl rfl (by decide) (by decide) (Nat.le_of_ble_eq_true rfl) ⟨(Nat.le_of_ble_eq_true rfl), (Nat.le_of_ble_eq_true rfl)⟩ dX6_init_72 (fun q3 H hw => ?_)
  have hw : Jw D cy A s pre [(h0, .inr (8, [.int 0, .int 0, .int 0, .int 0, .int 0, .int 0, .int 0, .int 0, .int 3, .int 0, .ref q1, .ref q2, .null, .null, .null, .null, .null, .null, .null, .null, .null, .null, .null, .null, .null, .null, .null, .null, .null, .null, .null, .null, .null, .null, .null])), (q1, wI (cy 0) 4 (fun _ => 0)), (q2, wI (cy 0) 12 (fun _ => 0)), (q3, wI (cy 0) 10 (fun _ => 0))] H _ := hw
  refine j_putF (C := RX6) (T := TX6) (ty0 := tyX6) (N := 35) (ci := 8) (kf := 12) (i := 0) (ty := .array .int) (fs := [.int 0, .int 0, .int 0, .int 0, .int 0, .int 0, .int 0, .int 0, .int 3, .int 0, .ref q1, .ref q2, .null, .null, .null, .null, .null, .null, .null, .null, .null, .null, .null, .null, .null, .null, .null, .null, .null, .null, .null, .null, .null, .null, .null]) C0 hinit hw rfl (fun _ h9 => List.mem_cons_of_mem _ (List.mem_append_right _ h9)) rfl tyX6_ok nmX6 (by decide) (List.mem_of_getElem? (i := 17) rfl) rfl rfl rfl (by decide +kernel) ⟨rfl, rfl⟩ (Nat.le_of_ble_eq_true rfl) dX6_init_74 (fun H locs hw => ?_)
  have hw : Jw D cy A s pre [(h0, .inr (8, [.int 0, .int 0, .int 0, .int 0, .int 0, .int 0, .int 0, .int 0, .int 3, .int 0, .ref q1, .ref q2, .ref q3, .null, .null, .null, .null, .null, .null, .null, .null, .null, .null, .null, .null, .null, .null, .null, .null, .null, .null, .null, .null, .null, .null])), (q1, wI (cy 0) 4 (fun _ => 0)), (q2, wI (cy 0) 12 (fun _ => 0)), (q3, wI (cy 0) 10 (fun _ => 0))] H _ := hw
  refine lv_aload_n hx hb dX6_init_77 rfl (lv_at hl 0 rfl) ?_
  refine lv_bipush (v := 10) hx hb dX6_init_78 (by decide) ?_
  refine j_newa (atype := .int) (ty := .int) (t := 0) (N := 10) C0 hw (List.mem_of_getElem? (i := 14) rfl) rfl rfl rfl (by decide) (by decide) (Nat.le_of_ble_eq_true rfl) ⟨(Nat.le_of_ble_eq_true rfl), (Nat.le_of_ble_eq_true rfl)⟩ dX6_init_80 (fun q4 H hw => ?_)
  have hw : Jw D cy A s pre [(h0, .inr (8, [.int 0, .int 0, .int 0, .int 0, .int 0, .int 0, .int 0, .int 0, .int 3, .int 0, .ref q1, .ref q2, .ref q3, .null, .null, .null, .null, .null, .null, .null, .null, .null, .null, .null, .null, .null, .null, .null, .null, .null, .null, .null, .null, .null, .null])), (q1, wI (cy 0) 4 (fun _ => 0)), (q2, wI (cy 0) 12 (fun _ => 0)), (q3, wI (cy 0) 10 (fun _ => 0)), (q4, wI (cy 0) 10 (fun _ => 0))] H _ := hw
  refine j_putF (C := RX6) (T := TX6) (ty0 := tyX6) (N := 35) (ci := 8) (kf := 13) (i := 0) (ty := .array .int) (fs := [.int 0, .int 0, .int 0, .int 0, .int 0, .int 0, .int 0, .int 0, .int 3, .int 0, .ref q1, .ref q2, .ref q3, .null, .null, .null, .null, .null, .null, .null, .null, .null, .null, .null, .null, .null, .null, .null, .null, .null, .null, .null, .null, .null, .null]) C0 hinit hw rfl (fun _ h9 => List.mem_cons_of_mem _ (List.mem_append_right _ h9)) rfl tyX6_ok nmX6 (by decide) (List.mem_of_getElem? (i := 18) rfl) rfl rfl rfl (by decide +kernel) ⟨rfl, rfl⟩ (Nat.le_of_ble_eq_true rfl) dX6_init_82 (fun H locs hw => ?_)
  have hw : Jw D cy A s pre [(h0, .inr (8, [.int 0, .int 0, .int 0, .int 0, .int 0, .int 0, .int 0, .int 0, .int 3, .int 0, .ref q1, .ref q2, .ref q3, .ref q4, .null, .null, .null, .null, .null, .null, .null, .null, .null, .null, .null, .null, .null, .null, .null, .null, .null, .null, .null, .null, .null])), (q1, wI (cy 0) 4 (fun _ => 0)), (q2, wI (cy 0) 12 (fun _ => 0)), (q3, wI (cy 0) 10 (fun _ => 0)), (q4, wI (cy 0) 10 (fun _ => 0))] H _ := hw
  refine lv_aload_n hx hb dX6_init_85 rfl (lv_at hl 0 rfl) ?_
  refine lv_bipush (v := 10) hx hb dX6_init_86 (by decide) ?_
  refine j_newa (atype := .int) (ty := .int) (t := 0) (N := 10) C0 hw (List.mem_of_getElem? (i := 14) rfl) rfl rfl rfl (by decide) (by decide) (Nat.le_of_ble_eq_true rfl) ⟨(Nat.le_of_ble_eq_true rfl), (Nat.le_of_ble_eq_true rfl)⟩ dX6_init_88 (fun q5 H hw => ?_)
  have hw : Jw D cy A s pre [(h0, .inr (8, [.int 0, .int 0, .int 0, .int 0, .int 0, .int 0, .int 0, .int 0, .int 3, .int 0, .ref q1, .ref q2, .ref q3, .ref q4, .null, .null, .null, .null, .null, .null, .null, .null, .null, .null, .null, .null, .null, .null, .null, .null, .null, .null, .null, .null, .null])), (q1, wI (cy 0) 4 (fun _ => 0)), (q2, wI (cy 0) 12 (fun _ => 0)), (q3, wI (cy 0) 10 (fun _ => 0)), (q4, wI (cy 0) 10 (fun _ => 0)), (q5, wI (cy 0) 10 (fun _ => 0))] H _ := hw
  refine j_putF (C := RX6) (T := TX6) (ty0 := tyX6) (N := 35) (ci := 8) (kf := 14) (i := 0) (ty := .array .int) (fs := [.int 0, .int 0, .int 0, .int 0, .int 0, .int 0, .int 0, .int 0, .int 3, .int 0, .ref q1, .ref q2, .ref q3, .ref q4, .null, .null, .null, .null, .null, .null, .null, .null, .null, .null, .null, .null, .null, .null, .null, .null, .null, .null, .null, .null, .null]) C0 hinit hw rfl (fun _ h9 => List.mem_cons_of_mem _ (List.mem_append_right _ h9)) rfl tyX6_ok nmX6 (by decide) (List.mem_of_getElem? (i := 19) rfl) rfl rfl rfl (by decide +kernel) ⟨rfl, rfl⟩ (Nat.le_of_ble_eq_true rfl) dX6_init_90 (fun H locs hw => ?_)
  have hw : Jw D cy A s pre [(h0, .inr (8, [.int 0, .int 0, .int 0, .int 0, .int 0, .int 0, .int 0, .int 0, .int 3, .int 0, .ref q1, .ref q2, .ref q3, .ref q4, .ref q5, .null, .null, .null, .null, .null, .null, .null, .null, .null, .null, .null, .null, .null, .null, .null, .null, .null, .null, .null, .null])), (q1, wI (cy 0) 4 (fun _ => 0)), (q2, wI (cy 0) 12 (fun _ => 0)), (q3, wI (cy 0) 10 (fun _ => 0)), (q4, wI (cy 0) 10 (fun _ => 0)), (q5, wI (cy 0) 10 (fun _ => 0))] H _ := hw
  refine lv_aload_n hx hb dX6_init_93 rfl (lv_at hl 0 rfl) ?_
  refine lv_bipush (v := 10) hx hb dX6_init_94 (by decide) ?_
  refine j_newa (atype := .int) (ty := .int) (t := 0) (N := 10) C0 hw (List.mem_of_getElem? (i := 14) rfl) rfl rfl rfl (by decide) (by decide) (Nat.le_of_ble_eq_true rfl) ⟨(Nat.le_of_ble_eq_true rfl), (Nat.le_of_ble_eq_true rfl)⟩ dX6_init_96 (fun q6 H hw => ?_)
  have hw : Jw D cy A s pre [(h0, .inr (8, [.int 0, .int 0, .int 0, .int 0, .int 0, .int 0, .int 0, .int 0, .int 3, .int 0, .ref q1, .ref q2, .ref q3, .ref q4, .ref q5, .null, .null, .null, .null, .null, .null, .null, .null, .null, .null, .null, .null, .null, .null, .null, .null, .null, .null, .null, .null])), (q1, wI (cy 0) 4 (fun _ => 0)), (q2, wI (cy 0) 12 (fun _ => 0)), (q3, wI (cy 0) 10 (fun _ => 0)), (q4, wI (cy 0) 10 (fun _ => 0)), (q5, wI (cy 0) 10 (fun _ => 0)), (q6, wI (cy 0) 10 (fun _ => 0))] H _ := hw
  refine j_putF (C := RX6) (T := TX6) (ty0 := tyX6) (N := 35) (ci := 8) (kf := 15) (i := 0) (ty := .array .int) (fs := [.int 0, .int 0, .int 0, .int 0, .int 0, .int 0, .int 0, .int 0, .int 3, .int 0, .ref q1, .ref q2, .ref q3, .ref q4, .ref q5, .null, .null, .null, .null, .null, .null, .null, .null, .null, .null, .null, .null, .null, .null, .null, .null, .null, .null, .null, .null]) C0 hinit hw rfl (fun _ h9 => List.mem_cons_of_mem _ (List.mem_append_right _ h9)) rfl tyX6_ok nmX6 (by decide) (List.mem_of_getElem? (i := 20) rfl) rfl rfl rfl (by decide +kernel) ⟨rfl, rfl⟩ (Nat.le_of_ble_eq_true rfl) dX6_init_98 (fun H locs hw => ?_)
  have hw : Jw D cy A s pre [(h0, .inr (8, [.int 0, .int 0, .int 0, .int 0, .int 0, .int 0, .int 0, .int 0, .int 3, .int 0, .ref q1, .ref q2, .ref q3, .ref q4, .ref q5, .ref q6, .null, .null, .null, .null, .null, .null, .null, .null, .null, .null, .null, .null, .null, .null, .null, .null, .null, .null, .null])), (q1, wI (cy 0) 4 (fun _ => 0)), (q2, wI (cy 0) 12 (fun _ => 0)), (q3, wI (cy 0) 10 (fun _ => 0)), (q4, wI (cy 0) 10 (fun _ => 0)), (q5, wI (cy 0) 10 (fun _ => 0)), (q6, wI (cy 0) 10 (fun _ => 0))] H _ := hw
  refine lv_aload_n hx hb dX6_init_101 rfl (lv_at hl 0 rfl) ?_
  refine lv_bipush (v := 10) hx hb dX6_init_102 (by decide) ?_
  refine j_newa (atype := .char) (ty := .char) (t := 1) (N := 10) C0 hw (List.mem_of_getElem? (i := 21) rfl) rfl rfl rfl (by decide) (by decide) (Nat.le_of_ble_eq_true rfl) ⟨(Nat.le_of_ble_eq_true rfl), (Nat.le_of_ble_eq_true rfl)⟩ dX6_init_104 (fun q7 H hw => ?_)
  have hw : Jw D cy A s pre [(h0, .inr (8, [.int 0, .int 0, .int 0, .int 0, .int 0, .int 0, .int 0, .int 0, .int 3, .int 0, .ref q1, .ref q2, .ref q3, .ref q4, .ref q5, .ref q6, .null, .null, .null, .null, .null, .null, .null, .null, .null, .null, .null, .null, .null, .null, .null, .null, .null, .null, .null])), (q1, wI (cy 0) 4 (fun _ => 0)), (q2, wI (cy 0) 12 (fun _ => 0)), (q3, wI (cy 0) 10 (fun _ => 0)), (q4, wI (cy 0) 10 (fun _ => 0)), (q5, wI (cy 0) 10 (fun _ => 0)), (q6, wI (cy 0) 10 (fun _ => 0)), (q7, wI (cy 1) 10 (fun _ => 0))] H _ := hw
  refine j_putF (C := RX6) (T := TX6) (ty0 := tyX6) (N := 35) (ci := 8) (kf := 16) (i := 0) (ty := .array .char) (fs := [.int 0, .int 0, .int 0, .int 0, .int 0, .int 0, .int 0, .int 0, .int 3, .int 0, .ref q1, .ref q2, .ref q3, .ref q4, .ref q5, .ref q6, .null, .null, .null, .null, .null, .null, .null, .null, .null, .null, .null, .null, .null, .null, .null, .null, .null, .null, .null]) C0 hinit hw rfl (fun _ h9 => List.mem_cons_of_mem _ (List.mem_append_right _ h9)) rfl tyX6_ok nmX6 (by decide) (List.mem_of_getElem? (i := 22) rfl) rfl rfl rfl (by decide +kernel) ⟨rfl, rfl⟩ (Nat.le_of_ble_eq_true rfl) dX6_init_106 (fun H locs hw => ?_)
  have hw : Jw D cy A s pre [(h0, .inr (8, [.int 0, .int 0, .int 0, .int 0, .int 0, .int 0, .int 0, .int 0, .int 3, .int 0, .ref q1, .ref q2, .ref q3, .ref q4, .ref q5, .ref q6, .ref q7, .null, .null, .null, .null, .null, .null, .null, .null, .null, .null, .null, .null, .null, .null, .null, .null, .null, .null])), (q1, wI (cy 0) 4 (fun _ => 0)), (q2, wI (cy 0) 12 (fun _ => 0)), (q3, wI (cy 0) 10 (fun _ => 0)), (q4, wI (cy 0) 10 (fun _ => 0)), (q5, wI (cy 0) 10 (fun _ => 0)), (q6, wI (cy 0) 10 (fun _ => 0)), (q7, wI (cy 1) 10 (fun _ => 0))] H _ := hw
  refine lv_aload_n hx hb dX6_init_109 rfl (lv_at hl 0 rfl) ?_
  refine lv_bipush (v := 40) hx hb dX6_init_110 (by decide) ?_
  refine j_newa (atype := .int) (ty := .int) (t := 0) (N := 40) C0 hw (List.mem_of_getElem? (i := 14) rfl) rfl rfl rfl (by decide) (by decide) (Nat.le_of_ble_eq_true rfl) ⟨(Nat.le_of_ble_eq_true rfl), (Nat.le_of_ble_eq_true rfl)⟩ dX6_init_112 (fun q8 H hw => ?_)
  have hw : Jw D cy A s pre [(h0, .inr (8, [.int 0, .int 0, .int 0, .int 0, .int 0, .int 0, .int 0, .int 0, .int 3, .int 0, .ref q1, .ref q2, .ref q3, .ref q4, .ref q5, .ref q6, .ref q7, .null, .null, .null, .null, .null, .null, .null, .null, .null, .null, .null, .null, .null, .null, .null, .null, .null, .null])), (q1, wI (cy 0) 4 (fun _ => 0)), (q2, wI (cy 0) 12 (fun _ => 0)), (q3, wI (cy 0) 10 (fun _ => 0)), (q4, wI (cy 0) 10 (fun _ => 0)), (q5, wI (cy 0) 10 (fun _ => 0)), (q6, wI (cy 0) 10 (fun _ => 0)), (q7, wI (cy 1) 10 (fun _ => 0)), (q8, wI (cy 0) 40 (fun _ => 0))] H _ := hw
  refine j_putF (C := RX6) (T := TX6) (ty0 := tyX6) (N := 35) (ci := 8) (kf := 17) (i := 0) (ty := .array .int) (fs := [.int 0, .int 0, .int 0, .int 0, .int 0, .int 0, .int 0, .int 0, .int 3, .int 0, .ref q1, .ref q2, .ref q3, .ref q4, .ref q5, .ref q6, .ref q7, .null, .null, .null, .null, .null, .null, .null, .null, .null, .null, .null, .null, .null, .null, .null, .null, .null, .null]) C0 hinit hw rfl (fun _ h9 => List.mem_cons_of_mem _ (List.mem_append_right _ h9)) rfl tyX6_ok nmX6 (by decide) (List.mem_of_getElem? (i := 23) rfl) rfl rfl rfl (by decide +kernel) ⟨rfl, rfl⟩ (Nat.le_of_ble_eq_true rfl) dX6_init_114 (fun H locs hw => ?_)
  have hw : Jw D cy A s pre [(h0, .inr (8, [.int 0, .int 0, .int 0, .int 0, .int 0, .int 0, .int 0, .int 0, .int 3, .int 0, .ref q1, .ref q2, .ref q3, .ref q4, .ref q5, .ref q6, .ref q7, .ref q8, .null, .null, .null, .null, .null, .null, .null, .null, .null, .null, .null, .null, .null, .null, .null, .null, .null])), (q1, wI (cy 0) 4 (fun _ => 0)), (q2, wI (cy 0) 12 (fun _ => 0)), (q3, wI (cy 0) 10 (fun _ => 0)), (q4, wI (cy 0) 10 (fun _ => 0)), (q5, wI (cy 0) 10 (fun _ => 0)), (q6, wI (cy 0) 10 (fun _ => 0)), (q7, wI (cy 1) 10 (fun _ => 0)), (q8, wI (cy 0) 40 (fun _ => 0))] H _ := hw
  refine lv_aload_n hx hb dX6_init_117 rfl (lv_at hl 0 rfl) ?_
  refine lv_bipush (v := 60) hx hb dX6_init_118 (by decide) ?_
  refine j_newa (atype := .int) (ty := .int) (t := 0) (N := 60) C0 hw (List.mem_of_getElem? (i := 14) rfl) rfl rfl rfl (by decide) (by decide) (Nat.le_of_ble_eq_true rfl) ⟨(Nat.le_of_ble_eq_true rfl), (Nat.le_of_ble_eq_true rfl)⟩ dX6_init_120 (fun q9 H hw => ?_)
  have hw : Jw D cy A s pre [(h0, .inr (8, [.int 0, .int 0, .int 0, .int 0, .int 0, .int 0, .int 0, .int 0, .int 3, .int 0, .ref q1, .ref q2, .ref q3, .ref q4, .ref q5, .ref q6, .ref q7, .ref q8, .null, .null, .null, .null, .null, .null, .null, .null, .null, .null, .null, .null, .null, .null, .null, .null, .null])), (q1, wI (cy 0) 4 (fun _ => 0)), (q2, wI (cy 0) 12 (fun _ => 0)), (q3, wI (cy 0) 10 (fun _ => 0)), (q4, wI (cy 0) 10 (fun _ => 0)), (q5, wI (cy 0) 10 (fun _ => 0)), (q6, wI (cy 0) 10 (fun _ => 0)), (q7, wI (cy 1) 10 (fun _ => 0)), (q8, wI (cy 0) 40 (fun _ => 0)), (q9, wI (cy 0) 60 (fun _ => 0))] H _ := hw
  refine j_putF (C := RX6) (T := TX6) (ty0 := tyX6) (N := 35) (ci := 8) (kf := 18) (i := 0) (ty := .array .int) (fs := [.int 0, .int 0, .int 0, .int 0, .int 0, .int 0, .int 0, .int 0, .int 3, .int 0, .ref q1, .ref q2, .ref q3, .ref q4, .ref q5, .ref q6, .ref q7, .ref q8, .null, .null, .null, .null, .null, .null, .null, .null, .null, .null, .null, .null, .null, .null, .null, .null, .null]) C0 hinit hw rfl (fun _ h9 => List.mem_cons_of_mem _ (List.mem_append_right _ h9)) rfl tyX6_ok nmX6 (by decide) (List.mem_of_getElem? (i := 24) rfl) rfl rfl rfl (by decide +kernel) ⟨rfl, rfl⟩ (Nat.le_of_ble_eq_true rfl) dX6_init_122 (fun H locs hw => ?_)
  have hw : Jw D cy A s pre [(h0, .inr (8, [.int 0, .int 0, .int 0, .int 0, .int 0, .int 0, .int 0, .int 0, .int 3, .int 0, .ref q1, .ref q2, .ref q3, .ref q4, .ref q5, .ref q6, .ref q7, .ref q8, .ref q9, .null, .null, .null, .null, .null, .null, .null, .null, .null, .null, .null, .null, .null, .null, .null, .null])), (q1, wI (cy 0) 4 (fun _ => 0)), (q2, wI (cy 0) 12 (fun _ => 0)), (q3, wI (cy 0) 10 (fun _ => 0)), (q4, wI (cy 0) 10 (fun _ => 0)), (q5, wI (cy 0) 10 (fun _ => 0)), (q6, wI (cy 0) 10 (fun _ => 0)), (q7, wI (cy 1) 10 (fun _ => 0)), (q8, wI (cy 0) 40 (fun _ => 0)), (q9, wI (cy 0) 60 (fun _ => 0))] H _ := hw
  refine lv_aload_n hx hb dX6_init_125 rfl (lv_at hl 0 rfl) ?_
  refine lv_bipush (v := 60) hx hb dX6_init_126 (by decide) ?_
  refine j_newa (atype := .int) (ty := .int) (t := 0) (N := 60) C0 hw (List.mem_of_getElem? (i := 14) rfl) rfl rfl rfl (by decide) (by decide) (Nat.le_of_ble_eq_true rfl) ⟨(Nat.le_of_ble_eq_true rfl), (Nat.le_of_ble_eq_true rfl)⟩ dX6_init_128 (fun q10 H hw => ?_)
  have hw : Jw D cy A s pre [(h0, .inr (8, [.int 0, .int 0, .int 0, .int 0, .int 0, .int 0, .int 0, .int 0, .int 3, .int 0, .ref q1, .ref q2, .ref q3, .ref q4, .ref q5, .ref q6, .ref q7, .ref q8, .ref q9, .null, .null, .null, .null, .null, .null, .null, .null, .null, .null, .null, .null, .null, .null, .null, .null])), (q1, wI (cy 0) 4 (fun _ => 0)), (q2, wI (cy 0) 12 (fun _ => 0)), (q3, wI (cy 0) 10 (fun _ => 0)), (q4, wI (cy 0) 10 (fun _ => 0)), (q5, wI (cy 0) 10 (fun _ => 0)), (q6, wI (cy 0) 10 (fun _ => 0)), (q7, wI (cy 1) 10 (fun _ => 0)), (q8, wI (cy 0) 40 (fun _ => 0)), (q9, wI (cy 0) 60 (fun _ => 0)), (q10, wI (cy 0) 60 (fun _ => 0))] H _ := hw
  refine j_putF (C := RX6) (T := TX6) (ty0 := tyX6) (N := 35) (ci := 8) (kf := 19) (i := 0) (ty := .array .int) (fs := [.int 0, .int 0, .int 0, .int 0, .int 0, .int 0, .int 0, .int 0, .int 3, .int 0, .ref q1, .ref q2, .ref q3, .ref q4, .ref q5, .ref q6, .ref q7, .ref q8, .ref q9, .null, .null, .null, .null, .null, .null, .null, .null, .null, .null, .null, .null, .null, .null, .null, .null]) C0 hinit hw rfl (fun _ h9 => List.mem_cons_of_mem _ (List.mem_append_right _ h9)) rfl tyX6_ok nmX6 (by decide) (List.mem_of_getElem? (i := 25) rfl) rfl rfl rfl (by decide +kernel) ⟨rfl, rfl⟩ (Nat.le_of_ble_eq_true rfl) dX6_init_130 (fun H locs hw => ?_)
  have hw : Jw D cy A s pre [(h0, .inr (8, [.int 0, .int 0, .int 0, .int 0, .int 0, .int 0, .int 0, .int 0, .int 3, .int 0, .ref q1, .ref q2, .ref q3, .ref q4, .ref q5, .ref q6, .ref q7, .ref q8, .ref q9, .ref q10, .null, .null, .null, .null, .null, .null, .null, .null, .null, .null, .null, .null, .null, .null, .null])), (q1, wI (cy 0) 4 (fun _ => 0)), (q2, wI (cy 0) 12 (fun _ => 0)), (q3, wI (cy 0) 10 (fun _ => 0)), (q4, wI (cy 0) 10 (fun _ => 0)), (q5, wI (cy 0) 10 (fun _ => 0)), (q6, wI (cy 0) 10 (fun _ => 0)), (q7, wI (cy 1) 10 (fun _ => 0)), (q8, wI (cy 0) 40 (fun _ => 0)), (q9, wI (cy 0) 60 (fun _ => 0)), (q10, wI (cy 0) 60 (fun _ => 0))] H _ := hw
  refine lv_aload_n hx hb dX6_init_133 rfl (lv_at hl 0 rfl) ?_
  refine lv_bipush (v := 60) hx hb dX6_init_134 (by decide) ?_
  refine j_newa (atype := .int) (ty := .int) (t := 0) (N := 60) C0 hw (List.mem_of_getElem? (i := 14) rfl) rfl rfl rfl (by decide) (by decide) (Nat.le_of_ble_eq_true rfl) ⟨(Nat.le_of_ble_eq_true rfl), (Nat.le_of_ble_eq_true rfl)⟩ dX6_init_136 (fun q11 H hw => ?_)
  have hw : Jw D cy A s pre [(h0, .inr (8, [.int 0, .int 0, .int 0, .int 0, .int 0, .int 0, .int 0, .int 0, .int 3, .int 0, .ref q1, .ref q2, .ref q3, .ref q4, .ref q5, .ref q6, .ref q7, .ref q8, .ref q9, .ref q10, .null, .null, .null, .null, .null, .null, .null, .null, .null, .null, .null, .null, .null, .null, .null])), (q1, wI (cy 0) 4 (fun _ => 0)), (q2, wI (cy 0) 12 (fun _ => 0)), (q3, wI (cy 0) 10 (fun _ => 0)), (q4, wI (cy 0) 10 (fun _ => 0)), (q5, wI (cy 0) 10 (fun _ => 0)), (q6, wI (cy 0) 10 (fun _ => 0)), (q7, wI (cy 1) 10 (fun _ => 0)), (q8, wI (cy 0) 40 (fun _ => 0)), (q9, wI (cy 0) 60 (fun _ => 0)), (q10, wI (cy 0) 60 (fun _ => 0)), (q11, wI (cy 0) 60 (fun _ => 0))] H _ := hw
  refine j_putF (C := RX6) (T := TX6) (ty0 := tyX6) (N := 35) (ci := 8) (kf := 20) (i := 0) (ty := .array .int) (fs := [.int 0, .int 0, .int 0, .int 0, .int 0, .int 0, .int 0, .int 0, .int 3, .int 0, .ref q1, .ref q2, .ref q3, .ref q4, .ref q5, .ref q6, .ref q7, .ref q8, .ref q9, .ref q10, .null, .null, .null, .null, .null, .null, .null, .null, .null, .null, .null, .null, .null, .null, .null]) C0 hinit hw rfl (fun _ h9 => List.mem_cons_of_mem _ (List.mem_append_right _ h9)) rfl tyX6_ok nmX6 (by decide) (List.mem_of_getElem? (i := 26) rfl) rfl rfl rfl (by decide +kernel) ⟨rfl, rfl⟩ (Nat.le_of_ble_eq_true rfl) dX6_init_138 (fun H locs hw => ?_)
  have hw : Jw D cy A s pre [(h0, .inr (8, [.int 0, .int 0, .int 0, .int 0, .int 0, .int 0, .int 0, .int 0, .int 3, .int 0, .ref q1, .ref q2, .ref q3, .ref q4, .ref q5, .ref q6, .ref q7, .ref q8, .ref q9, .ref q10, .ref q11, .null, .null, .null, .null, .null, .null, .null, .null, .null, .null, .null, .null, .null, .null])), (q1, wI (cy 0) 4 (fun _ => 0)), (q2, wI (cy 0) 12 (fun _ => 0)), (q3, wI (cy 0) 10 (fun _ => 0)), (q4, wI (cy 0) 10 (fun _ => 0)), (q5, wI (cy 0) 10 (fun _ => 0)), (q6, wI (cy 0) 10 (fun _ => 0)), (q7, wI (cy 1) 10 (fun _ => 0)), (q8, wI (cy 0) 40 (fun _ => 0)), (q9, wI (cy 0) 60 (fun _ => 0)), (q10, wI (cy 0) 60 (fun _ => 0)), (q11, wI (cy 0) 60 (fun _ => 0))] H _ := hw
  refine lv_aload_n hx hb dX6_init_141 rfl (lv_at hl 0 rfl) ?_
  refine lv_bipush (v := 60) hx hb dX6_init_142 (by decide) ?_
  refine j_newa (atype := .int) (ty := .int) (t := 0) (N := 60) C0 hw (List.mem_of_getElem? (i := 14) rfl) rfl rfl rfl (by decide) (by decide) (Nat.le_of_ble_eq_true rfl) ⟨(Nat.le_of_ble_eq_true rfl), (Nat.le_of_ble_eq_true rfl)⟩ dX6_init_144 (fun q12 H hw => ?_)
  have hw : Jw D cy A s pre [(h0, .inr (8, [.int 0, .int 0, .int 0, .int 0, .int 0, .int 0, .int 0, .int 0, .int 3, .int 0, .ref q1, .ref q2, .ref q3, .ref q4, .ref q5, .ref q6, .ref q7, .ref q8, .ref q9, .ref q10, .ref q11, .null, .null, .null, .null, .null, .null, .null, .null, .null, .null, .null, .null, .null, .null])), (q1, wI (cy 0) 4 (fun _ => 0)), (q2, wI (cy 0) 12 (fun _ => 0)), (q3, wI (cy 0) 10 (fun _ => 0)), (q4, wI (cy 0) 10 (fun _ => 0)), (q5, wI (cy 0) 10 (fun _ => 0)), (q6, wI (cy 0) 10 (fun _ => 0)), (q7, wI (cy 1) 10 (fun _ => 0)), (q8, wI (cy 0) 40 (fun _ => 0)), (q9, wI (cy 0) 60 (fun _ => 0)), (q10, wI (cy 0) 60 (fun _ => 0)), (q11, wI (cy 0) 60 (fun _ => 0)), (q12, wI (cy 0) 60 (fun _ => 0))] H _ := hw
  refine j_putF (C := RX6) (T := TX6) (ty0 := tyX6) (N := 35) (ci := 8) (kf := 21) (i := 0) (ty := .array .int) (fs := [.int 0, .int 0, .int 0, .int 0, .int 0, .int 0, .int 0, .int 0, .int 3, .int 0, .ref q1, .ref q2, .ref q3, .ref q4, .ref q5, .ref q6, .ref q7, .ref q8, .ref q9, .ref q10, .ref q11, .null, .null, .null, .null, .null, .null, .null, .null, .null, .null, .null, .null, .null, .null]) C0 hinit hw rfl (fun _ h9 => List.mem_cons_of_mem _ (List.mem_append_right _ h9)) rfl tyX6_ok nmX6 (by decide) (List.mem_of_getElem? (i := 27) rfl) rfl rfl rfl (by decide +kernel) ⟨rfl, rfl⟩ (Nat.le_of_ble_eq_true rfl) dX6_init_146 (fun H locs hw => ?_)
  have hw : Jw D cy A s pre [(h0, .inr (8, [.int 0, .int 0, .int 0, .int 0, .int 0, .int 0, .int 0, .int 0, .int 3, .int 0, .ref q1, .ref q2, .ref q3, .ref q4, .ref q5, .ref q6, .ref q7, .ref q8, .ref q9, .ref q10, .ref q11, .ref q12, .null, .null, .null, .null, .null, .null, .null, .null, .null, .null, .null, .null, .null])), (q1, wI (cy 0) 4 (fun _ => 0)), (q2, wI (cy 0) 12 (fun _ => 0)), (q3, wI (cy 0) 10 (fun _ => 0)), (q4, wI (cy 0) 10 (fun _ => 0)), (q5, wI (cy 0) 10 (fun _ => 0)), (q6, wI (cy 0) 10 (fun _ => 0)), (q7, wI (cy 1) 10 (fun _ => 0)), (q8, wI (cy 0) 40 (fun _ => 0)), (q9, wI (cy 0) 60 (fun _ => 0)), (q10, wI (cy 0) 60 (fun _ => 0)), (q11, wI (cy 0) 60 (fun _ => 0)), (q12, wI (cy 0) 60 (fun _ => 0))] H _ := hw
  refine lv_aload_n hx hb dX6_init_149 rfl (lv_at hl 0 rfl) ?_
  refine lv_bipush (v := 60) hx hb dX6_init_150 (by decide) ?_
  refine j_newa (atype := .int) (ty := .int) (t := 0) (N := 60) C0 hw (List.mem_of_getElem? (i := 14) rfl) rfl rfl rfl (by decide) (by decide) (Nat.le_of_ble_eq_true rfl) ⟨(Nat.le_of_ble_eq_true rfl), (Nat.le_of_ble_eq_true rfl)⟩ dX6_init_152 (fun q13 H hw => ?_)
  have hw : Jw D cy A s pre [(h0, .inr (8, [.int 0, .int 0, .int 0, .int 0, .int 0, .int 0, .int 0, .int 0, .int 3, .int 0, .ref q1, .ref q2, .ref q3, .ref q4, .ref q5, .ref q6, .ref q7, .ref q8, .ref q9, .ref q10, .ref q11, .ref q12, .null, .null, .null, .null, .null, .null, .null, .null, .null, .null, .null, .null, .null])), (q1, wI (cy 0) 4 (fun _ => 0)), (q2, wI (cy 0) 12 (fun _ => 0)), (q3, wI (cy 0) 10 (fun _ => 0)), (q4, wI (cy 0) 10 (fun _ => 0)), (q5, wI (cy 0) 10 (fun _ => 0)), (q6, wI (cy 0) 10 (fun _ => 0)), (q7, wI (cy 1) 10 (fun _ => 0)), (q8, wI (cy 0) 40 (fun _ => 0)), (q9, wI (cy 0) 60 (fun _ => 0)), (q10, wI (cy 0) 60 (fun _ => 0)), (q11, wI (cy 0) 60 (fun _ => 0)), (q12, wI (cy 0) 60 (fun _ => 0)), (q13, wI (cy 0) 60 (fun _ => 0))] H _ := hw
  refine j_putF (C := RX6) (T := TX6) (ty0 := tyX6) (N := 35) (ci := 8) (kf := 22) (i := 0) (ty := .array .int) (fs := [.int 0, .int 0, .int 0, .int 0, .int 0, .int 0, .int 0, .int 0, .int 3, .int 0, .ref q1, .ref q2, .ref q3, .ref q4, .ref q5, .ref q6, .ref q7, .ref q8, .ref q9, .ref q10, .ref q11, .ref q12, .null, .null, .null, .null, .null, .null, .null, .null, .null, .null, .null, .null, .null]) C0 hinit hw rfl (fun _ h9 => List.mem_cons_of_mem _ (List.mem_append_right _ h9)) rfl tyX6_ok nmX6 (by decide) (List.mem_of_getElem? (i := 28) rfl) rfl rfl rfl (by decide +kernel) ⟨rfl, rfl⟩ (Nat.le_of_ble_eq_true rfl) dX6_init_154 (fun H locs hw => ?_)
  have hw : Jw D cy A s pre [(h0, .inr (8, [.int 0, .int 0, .int 0, .int 0, .int 0, .int 0, .int 0, .int 0, .int 3, .int 0, .ref q1, .ref q2, .ref q3, .ref q4, .ref q5, .ref q6, .ref q7, .ref q8, .ref q9, .ref q10, .ref q11, .ref q12, .ref q13, .null, .null, .null, .null, .null, .null, .null, .null, .null, .null, .null, .null])), (q1, wI (cy 0) 4 (fun _ => 0)), (q2, wI (cy 0) 12 (fun _ => 0)), (q3, wI (cy 0) 10 (fun _ => 0)), (q4, wI (cy 0) 10 (fun _ => 0)), (q5, wI (cy 0) 10 (fun _ => 0)), (q6, wI (cy 0) 10 (fun _ => 0)), (q7, wI (cy 1) 10 (fun _ => 0)), (q8, wI (cy 0) 40 (fun _ => 0)), (q9, wI (cy 0) 60 (fun _ => 0)), (q10, wI (cy 0) 60 (fun _ => 0)), (q11, wI (cy 0) 60 (fun _ => 0)), (q12, wI (cy 0) 60 (fun _ => 0)), (q13, wI (cy 0) 60 (fun _ => 0))] H _ := hw
  refine lv_aload_n hx hb dX6_init_157 rfl (lv_at hl 0 rfl) ?_
  refine lv_bipush (v := 60) hx hb dX6_init_158 (by decide) ?_
  refine j_newa (atype := .int) (ty := .int) (t := 0) (N := 60) C0 hw (List.mem_of_getElem? (i := 14) rfl) rfl rfl rfl (by decide) (by decide) (Nat.le_of_ble_eq_true rfl) ⟨(Nat.le_of_ble_eq_true rfl), (Nat.le_of_ble_eq_true rfl)⟩ dX6_init_160 (fun q14 H hw => ?_)
  have hw : Jw D cy A s pre [(h0, .inr (8, [.int 0, .int 0, .int 0, .int 0, .int 0, .int 0, .int 0, .int 0, .int 3, .int 0, .ref q1, .ref q2, .ref q3, .ref q4, .ref q5, .ref q6, .ref q7, .ref q8, .ref q9, .ref q10, .ref q11, .ref q12, .ref q13, .null, .null, .null, .null, .null, .null, .null, .null, .null, .null, .null, .null])), (q1, wI (cy 0) 4 (fun _ => 0)), (q2, wI (cy 0) 12 (fun _ => 0)), (q3, wI (cy 0) 10 (fun _ => 0)), (q4, wI (cy 0) 10 (fun _ => 0)), (q5, wI (cy 0) 10 (fun _ => 0)), (q6, wI (cy 0) 10 (fun _ => 0)), (q7, wI (cy 1) 10 (fun _ => 0)), (q8, wI (cy 0) 40 (fun _ => 0)), (q9, wI (cy 0) 60 (fun _ => 0)), (q10, wI (cy 0) 60 (fun _ => 0)), (q11, wI (cy 0) 60 (fun _ => 0)), (q12, wI (cy 0) 60 (fun _ => 0)), (q13, wI (cy 0) 60 (fun _ => 0)), (q14, wI (cy 0) 60 (fun _ => 0))] H _ := hw
  refine j_putF (C := RX6) (T := TX6) (ty0 := tyX6) (N := 35) (ci := 8) (kf := 23) (i := 0) (ty := .array .int) (fs := [.int 0, .int 0, .int 0, .int 0, .int 0, .int 0, .int 0, .int 0, .int 3, .int 0, .ref q1, .ref q2, .ref q3, .ref q4, .ref q5, .ref q6, .ref q7, .ref q8, .ref q9, .ref q10, .ref q11, .ref q12, .ref q13, .null, .null, .null, .null, .null, .null, .null, .null, .null, .null, .null, .null]) C0 hinit hw rfl (fun _ h9 => List.mem_cons_of_mem _ (List.mem_append_right _ h9)) rfl tyX6_ok nmX6 (by decide) (List.mem_of_getElem? (i := 29) rfl) rfl rfl rfl (by decide +kernel) ⟨rfl, rfl⟩ (Nat.le_of_ble_eq_true rfl) dX6_init_162 (fun H locs hw => ?_)
  have hw : Jw D cy A s pre [(h0, .inr (8, [.int 0, .int 0, .int 0, .int 0, .int 0, .int 0, .int 0, .int 0, .int 3, .int 0, .ref q1, .ref q2, .ref q3, .ref q4, .ref q5, .ref q6, .ref q7, .ref q8, .ref q9, .ref q10, .ref q11, .ref q12, .ref q13, .ref q14, .null, .null, .null, .null, .null, .null, .null, .null, .null, .null, .null])), (q1, wI (cy 0) 4 (fun _ => 0)), (q2, wI (cy 0) 12 (fun _ => 0)), (q3, wI (cy 0) 10 (fun _ => 0)), (q4, wI (cy 0) 10 (fun _ => 0)), (q5, wI (cy 0) 10 (fun _ => 0)), (q6, wI (cy 0) 10 (fun _ => 0)), (q7, wI (cy 1) 10 (fun _ => 0)), (q8, wI (cy 0) 40 (fun _ => 0)), (q9, wI (cy 0) 60 (fun _ => 0)), (q10, wI (cy 0) 60 (fun _ => 0)), (q11, wI (cy 0) 60 (fun _ => 0)), (q12, wI (cy 0) 60 (fun _ => 0)), (q13, wI (cy 0) 60 (fun _ => 0)), (q14, wI (cy 0) 60 (fun _ => 0))] H _ := hw
  refine lv_aload_n hx hb dX6_init_165 rfl (lv_at hl 0 rfl) ?_
  refine lv_bipush (v := 60) hx hb dX6_init_166 (by decide) ?_
  refine j_newa (atype := .int) (ty := .int) (t := 0) (N := 60) C0 hw (List.mem_of_getElem? (i := 14) rfl) rfl rfl rfl (by decide) (by decide) (Nat.le_of_ble_eq_true rfl) ⟨(Nat.le_of_ble_eq_true rfl), (Nat.le_of_ble_eq_true rfl)⟩ dX6_init_168 (fun q15 H hw => ?_)
  have hw : Jw D cy A s pre [(h0, .inr (8, [.int 0, .int 0, .int 0, .int 0, .int 0, .int 0, .int 0, .int 0, .int 3, .int 0, .ref q1, .ref q2, .ref q3, .ref q4, .ref q5, .ref q6, .ref q7, .ref q8, .ref q9, .ref q10, .ref q11, .ref q12, .ref q13, .ref q14, .null, .null, .null, .null, .null, .null, .null, .null, .null, .null, .null])), (q1, wI (cy 0) 4 (fun _ => 0)), (q2, wI (cy 0) 12 (fun _ => 0)), (q3, wI (cy 0) 10 (fun _ => 0)), (q4, wI (cy 0) 10 (fun _ => 0)), (q5, wI (cy 0) 10 (fun _ => 0)), (q6, wI (cy 0) 10 (fun _ => 0)), (q7, wI (cy 1) 10 (fun _ => 0)), (q8, wI (cy 0) 40 (fun _ => 0)), (q9, wI (cy 0) 60 (fun _ => 0)), (q10, wI (cy 0) 60 (fun _ => 0)), (q11, wI (cy 0) 60 (fun _ => 0)), (q12, wI (cy 0) 60 (fun _ => 0)), (q13, wI (cy 0) 60 (fun _ => 0)), (q14, wI (cy 0) 60 (fun _ => 0)), (q15, wI (cy 0) 60 (fun _ => 0))] H _ := hw
  refine j_putF (C := RX6) (T := TX6) (ty0 := tyX6) (N := 35) (ci := 8) (kf := 24) (i := 0) (ty := .array .int) (fs := [.int 0, .int 0, .int 0, .int 0, .int 0, .int 0, .int 0, .int 0, .int 3, .int 0, .ref q1, .ref q2, .ref q3, .ref q4, .ref q5, .ref q6, .ref q7, .ref q8, .ref q9, .ref q10, .ref q11, .ref q12, .ref q13, .ref q14, .null, .null, .null, .null, .null, .null, .null, .null, .null, .null, .null]) C0 hinit hw rfl (fun _ h9 => List.mem_cons_of_mem _ (List.mem_append_right _ h9)) rfl tyX6_ok nmX6 (by decide) (List.mem_of_getElem? (i := 30) rfl) rfl rfl rfl (by decide +kernel) ⟨rfl, rfl⟩ (Nat.le_of_ble_eq_true rfl) dX6_init_170 (fun H locs hw => ?_)
  have hw : Jw D cy A s pre [(h0, .inr (8, [.int 0, .int 0, .int 0, .int 0, .int 0, .int 0, .int 0, .int 0, .int 3, .int 0, .ref q1, .ref q2, .ref q3, .ref q4, .ref q5, .ref q6, .ref q7, .ref q8, .ref q9, .ref q10, .ref q11, .ref q12, .ref q13, .ref q14, .ref q15, .null, .null, .null, .null, .null, .null, .null, .null, .null, .null])), (q1, wI (cy 0) 4 (fun _ => 0)), (q2, wI (cy 0) 12 (fun _ => 0)), (q3, wI (cy 0) 10 (fun _ => 0)), (q4, wI (cy 0) 10 (fun _ => 0)), (q5, wI (cy 0) 10 (fun _ => 0)), (q6, wI (cy 0) 10 (fun _ => 0)), (q7, wI (cy 1) 10 (fun _ => 0)), (q8, wI (cy 0) 40 (fun _ => 0)), (q9, wI (cy 0) 60 (fun _ => 0)), (q10, wI (cy 0) 60 (fun _ => 0)), (q11, wI (cy 0) 60 (fun _ => 0)), (q12, wI (cy 0) 60 (fun _ => 0)), (q13, wI (cy 0) 60 (fun _ => 0)), (q14, wI (cy 0) 60 (fun _ => 0)), (q15, wI (cy 0) 60 (fun _ => 0))] H _ := hw
  refine lv_aload_n hx hb dX6_init_173 rfl (lv_at hl 0 rfl) ?_
  refine lv_bipush (v := 60) hx hb dX6_init_174 (by decide) ?_
  refine j_newa (atype := .int) (ty := .int) (t := 0) (N := 60) C0 hw (List.mem_of_getElem? (i := 14) rfl) rfl rfl rfl (by decide) (by decide) (Nat.le_of_ble_eq_true rfl) ⟨(Nat.le_of_ble_eq_true rfl), (Nat.le_of_ble_eq_true rfl)⟩ dX6_init_176 (fun q16 H hw => ?_)
  have hw : Jw D cy A s pre [(h0, .inr (8, [.int 0, .int 0, .int 0, .int 0, .int 0, .int 0, .int 0, .int 0, .int 3, .int 0, .ref q1, .ref q2, .ref q3, .ref q4, .ref q5, .ref q6, .ref q7, .ref q8, .ref q9, .ref q10, .ref q11, .ref q12, .ref q13, .ref q14, .ref q15, .null, .null, .null, .null, .null, .null, .null, .null, .null, .null])), (q1, wI (cy 0) 4 (fun _ => 0)), (q2, wI (cy 0) 12 (fun _ => 0)), (q3, wI (cy 0) 10 (fun _ => 0)), (q4, wI (cy 0) 10 (fun _ => 0)), (q5, wI (cy 0) 10 (fun _ => 0)), (q6, wI (cy 0) 10 (fun _ => 0)), (q7, wI (cy 1) 10 (fun _ => 0)), (q8, wI (cy 0) 40 (fun _ => 0)), (q9, wI (cy 0) 60 (fun _ => 0)), (q10, wI (cy 0) 60 (fun _ => 0)), (q11, wI (cy 0) 60 (fun _ => 0)), (q12, wI (cy 0) 60 (fun _ => 0)), (q13, wI (cy 0) 60 (fun _ => 0)), (q14, wI (cy 0) 60 (fun _ => 0)), (q15, wI (cy 0) 60 (fun _ => 0)), (q16, wI (cy 0) 60 (fun _ => 0))] H _ := hw
  refine j_putF (C := RX6) (T := TX6) (ty0 := tyX6) (N := 35) (ci := 8) (kf := 25) (i := 0) (ty := .array .int) (fs := [.int 0, .int 0, .int 0, .int 0, .int 0, .int 0, .int 0, .int 0, .int 3, .int 0, .ref q1, .ref q2, .ref q3, .ref q4, .ref q5, .ref q6, .ref q7, .ref q8, .ref q9, .ref q10, .ref q11, .ref q12, .ref q13, .ref q14, .ref q15, .null, .null, .null, .null, .null, .null, .null, .null, .null, .null]) C0 hinit hw rfl (fun _ h9 => List.mem_cons_of_mem _ (List.mem_append_right _ h9)) rfl tyX6_ok nmX6 (by decide) (List.mem_of_getElem? (i := 31) rfl) rfl rfl rfl (by decide +kernel) ⟨rfl, rfl⟩ (Nat.le_of_ble_eq_true rfl) dX6_init_178 (fun H locs hw => ?_)
  have hw : Jw D cy A s pre [(h0, .inr (8, [.int 0, .int 0, .int 0, .int 0, .int 0, .int 0, .int 0, .int 0, .int 3, .int 0, .ref q1, .ref q2, .ref q3, .ref q4, .ref q5, .ref q6, .ref q7, .ref q8, .ref q9, .ref q10, .ref q11, .ref q12, .ref q13, .ref q14, .ref q15, .ref q16, .null, .null, .null, .null, .null, .null, .null, .null, .null])), (q1, wI (cy 0) 4 (fun _ => 0)), (q2, wI (cy 0) 12 (fun _ => 0)), (q3, wI (cy 0) 10 (fun _ => 0)), (q4, wI (cy 0) 10 (fun _ => 0)), (q5, wI (cy 0) 10 (fun _ => 0)), (q6, wI (cy 0) 10 (fun _ => 0)), (q7, wI (cy 1) 10 (fun _ => 0)), (q8, wI (cy 0) 40 (fun _ => 0)), (q9, wI (cy 0) 60 (fun _ => 0)), (q10, wI (cy 0) 60 (fun _ => 0)), (q11, wI (cy 0) 60 (fun _ => 0)), (q12, wI (cy 0) 60 (fun _ => 0)), (q13, wI (cy 0) 60 (fun _ => 0)), (q14, wI (cy 0) 60 (fun _ => 0)), (q15, wI (cy 0) 60 (fun _ => 0)), (q16, wI (cy 0) 60 (fun _ => 0))] H _ := hw
  refine lv_aload_n hx hb dX6_init_181 rfl (lv_at hl 0 rfl) ?_
  refine lv_bipush (v := 60) hx hb dX6_init_182 (by decide) ?_
  refine j_newa (atype := .int) (ty := .int) (t := 0) (N := 60) C0 hw (List.mem_of_getElem? (i := 14) rfl) rfl rfl rfl (by decide) (by decide) (Nat.le_of_ble_eq_true rfl) ⟨(Nat.le_of_ble_eq_true rfl), (Nat.le_of_ble_eq_true rfl)⟩ dX6_init_184 (fun q17 H hw => ?_)
  have hw : Jw D cy A s pre [(h0, .inr (8, [.int 0, .int 0, .int 0, .int 0, .int 0, .int 0, .int 0, .int 0, .int 3, .int 0, .ref q1, .ref q2, .ref q3, .ref q4, .ref q5, .ref q6, .ref q7, .ref q8, .ref q9, .ref q10, .ref q11, .ref q12, .ref q13, .ref q14, .ref q15, .ref q16, .null, .null, .null, .null, .null, .null, .null, .null, .null])), (q1, wI (cy 0) 4 (fun _ => 0)), (q2, wI (cy 0) 12 (fun _ => 0)), (q3, wI (cy 0) 10 (fun _ => 0)), (q4, wI (cy 0) 10 (fun _ => 0)), (q5, wI (cy 0) 10 (fun _ => 0)), (q6, wI (cy 0) 10 (fun _ => 0)), (q7, wI (cy 1) 10 (fun _ => 0)), (q8, wI (cy 0) 40 (fun _ => 0)), (q9, wI (cy 0) 60 (fun _ => 0)), (q10, wI (cy 0) 60 (fun _ => 0)), (q11, wI (cy 0) 60 (fun _ => 0)), (q12, wI (cy 0) 60 (fun _ => 0)), (q13, wI (cy 0) 60 (fun _ => 0)), (q14, wI (cy 0) 60 (fun _ => 0)), (q15, wI (cy 0) 60 (fun _ => 0)), (q16, wI (cy 0) 60 (fun _ => 0)), (q17, wI (cy 0) 60 (fun _ => 0))] H _ := hw
  refine j_putF (C := RX6) (T := TX6) (ty0 := tyX6) (N := 35) (ci := 8) (kf := 26) (i := 0) (ty := .array .int) (fs := [.int 0, .int 0, .int 0, .int 0, .int 0, .int 0, .int 0, .int 0, .int 3, .int 0, .ref q1, .ref q2, .ref q3, .ref q4, .ref q5, .ref q6, .ref q7, .ref q8, .ref q9, .ref q10, .ref q11, .ref q12, .ref q13, .ref q14, .ref q15, .ref q16, .null, .null, .null, .null, .null, .null, .null, .null, .null]) C0 hinit hw rfl (fun _ h9 => List.mem_cons_of_mem _ (List.mem_append_right _ h9)) rfl tyX6_ok nmX6 (by decide) (List.mem_of_getElem? (i := 32) rfl) rfl rfl rfl (by decide +kernel) ⟨rfl, rfl⟩ (Nat.le_of_ble_eq_true rfl) dX6_init_186 (fun H locs hw => ?_)
  have hw : Jw D cy A s pre [(h0, .inr (8, [.int 0, .int 0, .int 0, .int 0, .int 0, .int 0, .int 0, .int 0, .int 3, .int 0, .ref q1, .ref q2, .ref q3, .ref q4, .ref q5, .ref q6, .ref q7, .ref q8, .ref q9, .ref q10, .ref q11, .ref q12, .ref q13, .ref q14, .ref q15, .ref q16, .ref q17, .null, .null, .null, .null, .null, .null, .null, .null])), (q1, wI (cy 0) 4 (fun _ => 0)), (q2, wI (cy 0) 12 (fun _ => 0)), (q3, wI (cy 0) 10 (fun _ => 0)), (q4, wI (cy 0) 10 (fun _ => 0)), (q5, wI (cy 0) 10 (fun _ => 0)), (q6, wI (cy 0) 10 (fun _ => 0)), (q7, wI (cy 1) 10 (fun _ => 0)), (q8, wI (cy 0) 40 (fun _ => 0)), (q9, wI (cy 0) 60 (fun _ => 0)), (q10, wI (cy 0) 60 (fun _ => 0)), (q11, wI (cy 0) 60 (fun _ => 0)), (q12, wI (cy 0) 60 (fun _ => 0)), (q13, wI (cy 0) 60 (fun _ => 0)), (q14, wI (cy 0) 60 (fun _ => 0)), (q15, wI (cy 0) 60 (fun _ => 0)), (q16, wI (cy 0) 60 (fun _ => 0)), (q17, wI (cy 0) 60 (fun _ => 0))] H _ := hw
  refine lv_aload_n hx hb dX6_init_189 rfl (lv_at hl 0 rfl) ?_
  refine lv_sipush (v := 2400) hx hb dX6_init_190 (by decide) ?_
  refine j_newa (atype := .int) (ty := .int) (t := 0) (N := 2400) C0 hw (List.mem_of_getElem? (i := 14) rfl) rfl rfl rfl (by decide) (by decide) (Nat.le_of_ble_eq_true rfl) ⟨(Nat.le_of_ble_eq_true rfl), (Nat.le_of_ble_eq_true rfl)⟩ dX6_init_193 (fun q18 H hw => ?_)
  have hw : Jw D cy A s pre [(h0, .inr (8, [.int 0, .int 0, .int 0, .int 0, .int 0, .int 0, .int 0, .int 0, .int 3, .int 0, .ref q1, .ref q2, .ref q3, .ref q4, .ref q5, .ref q6, .ref q7, .ref q8, .ref q9, .ref q10, .ref q11, .ref q12, .ref q13, .ref q14, .ref q15, .ref q16, .ref q17, .null, .null, .null, .null, .null, .null, .null, .null])), (q1, wI (cy 0) 4 (fun _ => 0)), (q2, wI (cy 0) 12 (fun _ => 0)), (q3, wI (cy 0) 10 (fun _ => 0)), (q4, wI (cy 0) 10 (fun _ => 0)), (q5, wI (cy 0) 10 (fun _ => 0)), (q6, wI (cy 0) 10 (fun _ => 0)), (q7, wI (cy 1) 10 (fun _ => 0)), (q8, wI (cy 0) 40 (fun _ => 0)), (q9, wI (cy 0) 60 (fun _ => 0)), (q10, wI (cy 0) 60 (fun _ => 0)), (q11, wI (cy 0) 60 (fun _ => 0)), (q12, wI (cy 0) 60 (fun _ => 0)), (q13, wI (cy 0) 60 (fun _ => 0)), (q14, wI (cy 0) 60 (fun _ => 0)), (q15, wI (cy 0) 60 (fun _ => 0)), (q16, wI (cy 0) 60 (fun _ => 0)), (q17, wI (cy 0) 60 (fun _ => 0)), (q18, wI (cy 0) 2400 (fun _ => 0))] H _ := hw
  refine j_putF (C := RX6) (T := TX6) (ty0 := tyX6) (N := 35) (ci := 8) (kf := 27) (i := 0) (ty := .array .int) (fs := [.int 0, .int 0, .int 0, .int 0, .int 0, .int 0, .int 0, .int 0, .int 3, .int 0, .ref q1, .ref q2, .ref q3, .ref q4, .ref q5, .ref q6, .ref q7, .ref q8, .ref q9, .ref q10, .ref q11, .ref q12, .ref q13, .ref q14, .ref q15, .ref q16, .ref q17, .null, .null, .null, .null, .null, .null, .null, .null]) C0 hinit hw rfl (fun _ h9 => List.mem_cons_of_mem _ (List.mem_append_right _ h9)) rfl tyX6_ok nmX6 (by decide) (List.mem_of_getElem? (i := 33) rfl) rfl rfl rfl (by decide +kernel) ⟨rfl, rfl⟩ (Nat.le_of_ble_eq_true rfl) dX6_init_195 (fun H locs hw => ?_)
  have hw : Jw D cy A s pre [(h0, .inr (8, [.int 0, .int 0, .int 0, .int 0, .int 0, .int 0, .int 0, .int 0, .int 3, .int 0, .ref q1, .ref q2, .ref q3, .ref q4, .ref q5, .ref q6, .ref q7, .ref q8, .ref q9, .ref q10, .ref q11, .ref q12, .ref q13, .ref q14, .ref q15, .ref q16, .ref q17, .ref q18, .null, .null, .null, .null, .null, .null, .null])), (q1, wI (cy 0) 4 (fun _ => 0)), (q2, wI (cy 0) 12 (fun _ => 0)), (q3, wI (cy 0) 10 (fun _ => 0)), (q4, wI (cy 0) 10 (fun _ => 0)), (q5, wI (cy 0) 10 (fun _ => 0)), (q6, wI (cy 0) 10 (fun _ => 0)), (q7, wI (cy 1) 10 (fun _ => 0)), (q8, wI (cy 0) 40 (fun _ => 0)), (q9, wI (cy 0) 60 (fun _ => 0)), (q10, wI (cy 0) 60 (fun _ => 0)), (q11, wI (cy 0) 60 (fun _ => 0)), (q12, wI (cy 0) 60 (fun _ => 0)), (q13, wI (cy 0) 60 (fun _ => 0)), (q14, wI (cy 0) 60 (fun _ => 0)), (q15, wI (cy 0) 60 (fun _ => 0)), (q16, wI (cy 0) 60 (fun _ => 0)), (q17, wI (cy 0) 60 (fun _ => 0)), (q18, wI (cy 0) 2400 (fun _ => 0))] H _ := hw
  refine lv_aload_n hx hb dX6_init_198 rfl (lv_at hl 0 rfl) ?_
  refine lv_sipush (v := 2400) hx hb dX6_init_199 (by decide) ?_
  refine j_newa (atype := .int) (ty := .int) (t := 0) (N := 2400) C0 hw (List.mem_of_getElem? (i := 14) rfl) rfl rfl rfl (by decide) (by decide) (Nat.le_of_ble_eq_true rfl) ⟨(Nat.le_of_ble_eq_true rfl), (Nat.le_of_ble_eq_true rfl)⟩ dX6_init_202 (fun q19 H hw => ?_)
  have hw : Jw D cy A s pre [(h0, .inr (8, [.int 0, .int 0, .int 0, .int 0, .int 0, .int 0, .int 0, .int 0, .int 3, .int 0, .ref q1, .ref q2, .ref q3, .ref q4, .ref q5, .ref q6, .ref q7, .ref q8, .ref q9, .ref q10, .ref q11, .ref q12, .ref q13, .ref q14, .ref q15, .ref q16, .ref q17, .ref q18, .null, .null, .null, .null, .null, .null, .null])), (q1, wI (cy 0) 4 (fun _ => 0)), (q2, wI (cy 0) 12 (fun _ => 0)), (q3, wI (cy 0) 10 (fun _ => 0)), (q4, wI (cy 0) 10 (fun _ => 0)), (q5, wI (cy 0) 10 (fun _ => 0)), (q6, wI (cy 0) 10 (fun _ => 0)), (q7, wI (cy 1) 10 (fun _ => 0)), (q8, wI (cy 0) 40 (fun _ => 0)), (q9, wI (cy 0) 60 (fun _ => 0)), (q10, wI (cy 0) 60 (fun _ => 0)), (q11, wI (cy 0) 60 (fun _ => 0)), (q12, wI (cy 0) 60 (fun _ => 0)), (q13, wI (cy 0) 60 (fun _ => 0)), (q14, wI (cy 0) 60 (fun _ => 0)), (q15, wI (cy 0) 60 (fun _ => 0)), (q16, wI (cy 0) 60 (fun _ => 0)), (q17, wI (cy 0) 60 (fun _ => 0)), (q18, wI (cy 0) 2400 (fun _ => 0)), (q19, wI (cy 0) 2400 (fun _ => 0))] H _ := hw
  refine j_putF (C := RX6) (T := TX6) (ty0 := tyX6) (N := 35) (ci := 8) (kf := 28) (i := 0) (ty := .array .int) (fs := [.int 0, .int 0, .int 0, .int 0, .int 0, .int 0, .int 0, .int 0, .int 3, .int 0, .ref q1, .ref q2, .ref q3, .ref q4, .ref q5, .ref q6, .ref q7, .ref q8, .ref q9, .ref q10, .ref q11, .ref q12, .ref q13, .ref q14, .ref q15, .ref q16, .ref q17, .ref q18, .null, .null, .null, .null, .null, .null, .null]) C0 hinit hw rfl (fun _ h9 => List.mem_cons_of_mem _ (List.mem_append_right _ h9)) rfl tyX6_ok nmX6 (by decide) (List.mem_of_getElem? (i := 34) rfl) rfl rfl rfl (by decide +kernel) ⟨rfl, rfl⟩ (Nat.le_of_ble_eq_true rfl) dX6_init_204 (fun H locs hw => ?_)
  have hw : Jw D cy A s pre [(h0, .inr (8, [.int 0, .int 0, .int 0, .int 0, .int 0, .int 0, .int 0, .int 0, .int 3, .int 0, .ref q1, .ref q2, .ref q3, .ref q4, .ref q5, .ref q6, .ref q7, .ref q8, .ref q9, .ref q10, .ref q11, .ref q12, .ref q13, .ref q14, .ref q15, .ref q16, .ref q17, .ref q18, .ref q19, .null, .null, .null, .null, .null, .null])), (q1, wI (cy 0) 4 (fun _ => 0)), (q2, wI (cy 0) 12 (fun _ => 0)), (q3, wI (cy 0) 10 (fun _ => 0)), (q4, wI (cy 0) 10 (fun _ => 0)), (q5, wI (cy 0) 10 (fun _ => 0)), (q6, wI (cy 0) 10 (fun _ => 0)), (q7, wI (cy 1) 10 (fun _ => 0)), (q8, wI (cy 0) 40 (fun _ => 0)), (q9, wI (cy 0) 60 (fun _ => 0)), (q10, wI (cy 0) 60 (fun _ => 0)), (q11, wI (cy 0) 60 (fun _ => 0)), (q12, wI (cy 0) 60 (fun _ => 0)), (q13, wI (cy 0) 60 (fun _ => 0)), (q14, wI (cy 0) 60 (fun _ => 0)), (q15, wI (cy 0) 60 (fun _ => 0)), (q16, wI (cy 0) 60 (fun _ => 0)), (q17, wI (cy 0) 60 (fun _ => 0)), (q18, wI (cy 0) 2400 (fun _ => 0)), (q19, wI (cy 0) 2400 (fun _ => 0))] H _ := hw
  refine lv_aload_n hx hb dX6_init_207 rfl (lv_at hl 0 rfl) ?_
  refine lv_bipush (v := 60) hx hb dX6_init_208 (by decide) ?_
  refine j_newa (atype := .int) (ty := .int) (t := 0) (N := 60) C0 hw (List.mem_of_getElem? (i := 14) rfl) rfl rfl rfl (by decide) (by decide) (Nat.le_of_ble_eq_true rfl) ⟨(Nat.le_of_ble_eq_true rfl), (Nat.le_of_ble_eq_true rfl)⟩ dX6_init_210 (fun q20 H hw => ?_)
  have hw : Jw D cy A s pre [(h0, .inr (8, [.int 0, .int 0, .int 0, .int 0, .int 0, .int 0, .int 0, .int 0, .int 3, .int 0, .ref q1, .ref q2, .ref q3, .ref q4, .ref q5, .ref q6, .ref q7, .ref q8, .ref q9, .ref q10, .ref q11, .ref q12, .ref q13, .ref q14, .ref q15, .ref q16, .ref q17, .ref q18, .ref q19, .null, .null, .null, .null, .null, .null])), (q1, wI (cy 0) 4 (fun _ => 0)), (q2, wI (cy 0) 12 (fun _ => 0)), (q3, wI (cy 0) 10 (fun _ => 0)), (q4, wI (cy 0) 10 (fun _ => 0)), (q5, wI (cy 0) 10 (fun _ => 0)), (q6, wI (cy 0) 10 (fun _ => 0)), (q7, wI (cy 1) 10 (fun _ => 0)), (q8, wI (cy 0) 40 (fun _ => 0)), (q9, wI (cy 0) 60 (fun _ => 0)), (q10, wI (cy 0) 60 (fun _ => 0)), (q11, wI (cy 0) 60 (fun _ => 0)), (q12, wI (cy 0) 60 (fun _ => 0)), (q13, wI (cy 0) 60 (fun _ => 0)), (q14, wI (cy 0) 60 (fun _ => 0)), (q15, wI (cy 0) 60 (fun _ => 0)), (q16, wI (cy 0) 60 (fun _ => 0)), (q17, wI (cy 0) 60 (fun _ => 0)), (q18, wI (cy 0) 2400 (fun _ => 0)), (q19, wI (cy 0) 2400 (fun _ => 0)), (q20, wI (cy 0) 60 (fun _ => 0))] H _ := hw
  refine j_putF (C := RX6) (T := TX6) (ty0 := tyX6) (N := 35) (ci := 8) (kf := 29) (i := 0) (ty := .array .int) (fs := [.int 0, .int 0, .int 0, .int 0, .int 0, .int 0, .int 0, .int 0, .int 3, .int 0, .ref q1, .ref q2, .ref q3, .ref q4, .ref q5, .ref q6, .ref q7, .ref q8, .ref q9, .ref q10, .ref q11, .ref q12, .ref q13, .ref q14, .ref q15, .ref q16, .ref q17, .ref q18, .ref q19, .null, .null, .null, .null, .null, .null]) C0 hinit hw rfl (fun _ h9 => List.mem_cons_of_mem _ (List.mem_append_right _ h9)) rfl tyX6_ok nmX6 (by decide) (List.mem_of_getElem? (i := 35) rfl) rfl rfl rfl (by decide +kernel) ⟨rfl, rfl⟩ (Nat.le_of_ble_eq_true rfl) dX6_init_212 (fun H locs hw => ?_)
  have hw : Jw D cy A s pre [(h0, .inr (8, [.int 0, .int 0, .int 0, .int 0, .int 0, .int 0, .int 0, .int 0, .int 3, .int 0, .ref q1, .ref q2, .ref q3, .ref q4, .ref q5, .ref q6, .ref q7, .ref q8, .ref q9, .ref q10, .ref q11, .ref q12, .ref q13, .ref q14, .ref q15, .ref q16, .ref q17, .ref q18, .ref q19, .ref q20, .null, .null, .null, .null, .null])), (q1, wI (cy 0) 4 (fun _ => 0)), (q2, wI (cy 0) 12 (fun _ => 0)), (q3, wI (cy 0) 10 (fun _ => 0)), (q4, wI (cy 0) 10 (fun _ => 0)), (q5, wI (cy 0) 10 (fun _ => 0)), (q6, wI (cy 0) 10 (fun _ => 0)), (q7, wI (cy 1) 10 (fun _ => 0)), (q8, wI (cy 0) 40 (fun _ => 0)), (q9, wI (cy 0) 60 (fun _ => 0)), (q10, wI (cy 0) 60 (fun _ => 0)), (q11, wI (cy 0) 60 (fun _ => 0)), (q12, wI (cy 0) 60 (fun _ => 0)), (q13, wI (cy 0) 60 (fun _ => 0)), (q14, wI (cy 0) 60 (fun _ => 0)), (q15, wI (cy 0) 60 (fun _ => 0)), (q16, wI (cy 0) 60 (fun _ => 0)), (q17, wI (cy 0) 60 (fun _ => 0)), (q18, wI (cy 0) 2400 (fun _ => 0)), (q19, wI (cy 0) 2400 (fun _ => 0)), (q20, wI (cy 0) 60 (fun _ => 0))] H _ := hw
  refine lv_aload_n hx hb dX6_init_215 rfl (lv_at hl 0 rfl) ?_
  refine lv_bipush (v := 40) hx hb dX6_init_216 (by decide) ?_
  refine j_newa (atype := .int) (ty := .int) (t := 0) (N := 40) C0 hw (List.mem_of_getElem? (i := 14) rfl) rfl rfl rfl (by decide) (by decide) (Nat.le_of_ble_eq_true rfl) ⟨(Nat.le_of_ble_eq_true rfl), (Nat.le_of_ble_eq_true rfl)⟩ dX6_init_218 (fun q21 H hw => ?_)
  have hw : Jw D cy A s pre [(h0, .inr (8, [.int 0, .int 0, .int 0, .int 0, .int 0, .int 0, .int 0, .int 0, .int 3, .int 0, .ref q1, .ref q2, .ref q3, .ref q4, .ref q5, .ref q6, .ref q7, .ref q8, .ref q9, .ref q10, .ref q11, .ref q12, .ref q13, .ref q14, .ref q15, .ref q16, .ref q17, .ref q18, .ref q19, .ref q20, .null, .null, .null, .null, .null])), (q1, wI (cy 0) 4 (fun _ => 0)), (q2, wI (cy 0) 12 (fun _ => 0)), (q3, wI (cy 0) 10 (fun _ => 0)), (q4, wI (cy 0) 10 (fun _ => 0)), (q5, wI (cy 0) 10 (fun _ => 0)), (q6, wI (cy 0) 10 (fun _ => 0)), (q7, wI (cy 1) 10 (fun _ => 0)), (q8, wI (cy 0) 40 (fun _ => 0)), (q9, wI (cy 0) 60 (fun _ => 0)), (q10, wI (cy 0) 60 (fun _ => 0)), (q11, wI (cy 0) 60 (fun _ => 0)), (q12, wI (cy 0) 60 (fun _ => 0)), (q13, wI (cy 0) 60 (fun _ => 0)), (q14, wI (cy 0) 60 (fun _ => 0)), (q15, wI (cy 0) 60 (fun _ => 0)), (q16, wI (cy 0) 60 (fun _ => 0)), (q17, wI (cy 0) 60 (fun _ => 0)), (q18, wI (cy 0) 2400 (fun _ => 0)), (q19, wI (cy 0) 2400 (fun _ => 0)), (q20, wI (cy 0) 60 (fun _ => 0)), (q21, wI (cy 0) 40 (fun _ => 0))] H _ := hw
  refine j_putF (C := RX6) (T := TX6) (ty0 := tyX6) (N := 35) (ci := 8) (kf := 30) (i := 0) (ty := .array .int) (fs := [.int 0, .int 0, .int 0, .int 0, .int 0, .int 0, .int 0, .int 0, .int 3, .int 0, .ref q1, .ref q2, .ref q3, .ref q4, .ref q5, .ref q6, .ref q7, .ref q8, .ref q9, .ref q10, .ref q11, .ref q12, .ref q13, .ref q14, .ref q15, .ref q16, .ref q17, .ref q18, .ref q19, .ref q20, .null, .null, .null, .null, .null]) C0 hinit hw rfl (fun _ h9 => List.mem_cons_of_mem _ (List.mem_append_right _ h9)) rfl tyX6_ok nmX6 (by decide) (List.mem_of_getElem? (i := 36) rfl) rfl rfl rfl (by decide +kernel) ⟨rfl, rfl⟩ (Nat.le_of_ble_eq_true rfl) dX6_init_220 (fun H locs hw => ?_)
  have hw : Jw D cy A s pre [(h0, .inr (8, [.int 0, .int 0, .int 0, .int 0, .int 0, .int 0, .int 0, .int 0, .int 3, .int 0, .ref q1, .ref q2, .ref q3, .ref q4, .ref q5, .ref q6, .ref q7, .ref q8, .ref q9, .ref q10, .ref q11, .ref q12, .ref q13, .ref q14, .ref q15, .ref q16, .ref q17, .ref q18, .ref q19, .ref q20, .ref q21, .null, .null, .null, .null])), (q1, wI (cy 0) 4 (fun _ => 0)), (q2, wI (cy 0) 12 (fun _ => 0)), (q3, wI (cy 0) 10 (fun _ => 0)), (q4, wI (cy 0) 10 (fun _ => 0)), (q5, wI (cy 0) 10 (fun _ => 0)), (q6, wI (cy 0) 10 (fun _ => 0)), (q7, wI (cy 1) 10 (fun _ => 0)), (q8, wI (cy 0) 40 (fun _ => 0)), (q9, wI (cy 0) 60 (fun _ => 0)), (q10, wI (cy 0) 60 (fun _ => 0)), (q11, wI (cy 0) 60 (fun _ => 0)), (q12, wI (cy 0) 60 (fun _ => 0)), (q13, wI (cy 0) 60 (fun _ => 0)), (q14, wI (cy 0) 60 (fun _ => 0)), (q15, wI (cy 0) 60 (fun _ => 0)), (q16, wI (cy 0) 60 (fun _ => 0)), (q17, wI (cy 0) 60 (fun _ => 0)), (q18, wI (cy 0) 2400 (fun _ => 0)), (q19, wI (cy 0) 2400 (fun _ => 0)), (q20, wI (cy 0) 60 (fun _ => 0)), (q21, wI (cy 0) 40 (fun _ => 0))] H _ := hw
  refine lv_aload_n hx hb dX6_init_223 rfl (lv_at hl 0 rfl) ?_
  refine lv_bipush (v := 40) hx hb dX6_init_224 (by decide) ?_
  refine j_newa (atype := .int) (ty := .int) (t := 0) (N := 40) C0 hw (List.mem_of_getElem? (i := 14) rfl) rfl rfl rfl (by decide) (by decide) (Nat.le_of_ble_eq_true rfl) ⟨(Nat.le_of_ble_eq_true rfl), (Nat.le_of_ble_eq_true rfl)⟩ dX6_init_226 (fun q22 H hw => ?_)
  have hw : Jw D cy A s pre [(h0, .inr (8, [.int 0, .int 0, .int 0, .int 0, .int 0, .int 0, .int 0, .int 0, .int 3, .int 0, .ref q1, .ref q2, .ref q3, .ref q4, .ref q5, .ref q6, .ref q7, .ref q8, .ref q9, .ref q10, .ref q11, .ref q12, .ref q13, .ref q14, .ref q15, .ref q16, .ref q17, .ref q18, .ref q19, .ref q20, .ref q21, .null, .null, .null, .null])), (q1, wI (cy 0) 4 (fun _ => 0)), (q2, wI (cy 0) 12 (fun _ => 0)), (q3, wI (cy 0) 10 (fun _ => 0)), (q4, wI (cy 0) 10 (fun _ => 0)), (q5, wI (cy 0) 10 (fun _ => 0)), (q6, wI (cy 0) 10 (fun _ => 0)), (q7, wI (cy 1) 10 (fun _ => 0)), (q8, wI (cy 0) 40 (fun _ => 0)), (q9, wI (cy 0) 60 (fun _ => 0)), (q10, wI (cy 0) 60 (fun _ => 0)), (q11, wI (cy 0) 60 (fun _ => 0)), (q12, wI (cy 0) 60 (fun _ => 0)), (q13, wI (cy 0) 60 (fun _ => 0)), (q14, wI (cy 0) 60 (fun _ => 0)), (q15, wI (cy 0) 60 (fun _ => 0)), (q16, wI (cy 0) 60 (fun _ => 0)), (q17, wI (cy 0) 60 (fun _ => 0)), (q18, wI (cy 0) 2400 (fun _ => 0)), (q19, wI (cy 0) 2400 (fun _ => 0)), (q20, wI (cy 0) 60 (fun _ => 0)), (q21, wI (cy 0) 40 (fun _ => 0)), (q22, wI (cy 0) 40 (fun _ => 0))] H _ := hw
  refine j_putF (C := RX6) (T := TX6) (ty0 := tyX6) (N := 35) (ci := 8) (kf := 31) (i := 0) (ty := .array .int) (fs := [.int 0, .int 0, .int 0, .int 0, .int 0, .int 0, .int 0, .int 0, .int 3, .int 0, .ref q1, .ref q2, .ref q3, .ref q4, .ref q5, .ref q6, .ref q7, .ref q8, .ref q9, .ref q10, .ref q11, .ref q12, .ref q13, .ref q14, .ref q15, .ref q16, .ref q17, .ref q18, .ref q19, .ref q20, .ref q21, .null, .null, .null, .null]) C0 hinit hw rfl (fun _ h9 => List.mem_cons_of_mem _ (List.mem_append_right _ h9)) rfl tyX6_ok nmX6 (by decide) (List.mem_of_getElem? (i := 37) rfl) rfl rfl rfl (by decide +kernel) ⟨rfl, rfl⟩ (Nat.le_of_ble_eq_true rfl) dX6_init_228 (fun H locs hw => ?_)
  have hw : Jw D cy A s pre [(h0, .inr (8, [.int 0, .int 0, .int 0, .int 0, .int 0, .int 0, .int 0, .int 0, .int 3, .int 0, .ref q1, .ref q2, .ref q3, .ref q4, .ref q5, .ref q6, .ref q7, .ref q8, .ref q9, .ref q10, .ref q11, .ref q12, .ref q13, .ref q14, .ref q15, .ref q16, .ref q17, .ref q18, .ref q19, .ref q20, .ref q21, .ref q22, .null, .null, .null])), (q1, wI (cy 0) 4 (fun _ => 0)), (q2, wI (cy 0) 12 (fun _ => 0)), (q3, wI (cy 0) 10 (fun _ => 0)), (q4, wI (cy 0) 10 (fun _ => 0)), (q5, wI (cy 0) 10 (fun _ => 0)), (q6, wI (cy 0) 10 (fun _ => 0)), (q7, wI (cy 1) 10 (fun _ => 0)), (q8, wI (cy 0) 40 (fun _ => 0)), (q9, wI (cy 0) 60 (fun _ => 0)), (q10, wI (cy 0) 60 (fun _ => 0)), (q11, wI (cy 0) 60 (fun _ => 0)), (q12, wI (cy 0) 60 (fun _ => 0)), (q13, wI (cy 0) 60 (fun _ => 0)), (q14, wI (cy 0) 60 (fun _ => 0)), (q15, wI (cy 0) 60 (fun _ => 0)), (q16, wI (cy 0) 60 (fun _ => 0)), (q17, wI (cy 0) 60 (fun _ => 0)), (q18, wI (cy 0) 2400 (fun _ => 0)), (q19, wI (cy 0) 2400 (fun _ => 0)), (q20, wI (cy 0) 60 (fun _ => 0)), (q21, wI (cy 0) 40 (fun _ => 0)), (q22, wI (cy 0) 40 (fun _ => 0))] H _ := hw
  refine lv_aload_n hx hb dX6_init_231 rfl (lv_at hl 0 rfl) ?_
  refine lv_bipush (v := 40) hx hb dX6_init_232 (by decide) ?_
  refine j_newa (atype := .int) (ty := .int) (t := 0) (N := 40) C0 hw (List.mem_of_getElem? (i := 14) rfl) rfl rfl rfl (by decide) (by decide) (Nat.le_of_ble_eq_true rfl) ⟨(Nat.le_of_ble_eq_true rfl), (Nat.le_of_ble_eq_true rfl)⟩ dX6_init_234 (fun q23 H hw => ?_)
  have hw : Jw D cy A s pre [(h0, .inr (8, [.int 0, .int 0, .int 0, .int 0, .int 0, .int 0, .int 0, .int 0, .int 3, .int 0, .ref q1, .ref q2, .ref q3, .ref q4, .ref q5, .ref q6, .ref q7, .ref q8, .ref q9, .ref q10, .ref q11, .ref q12, .ref q13, .ref q14, .ref q15, .ref q16, .ref q17, .ref q18, .ref q19, .ref q20, .ref q21, .ref q22, .null, .null, .null])), (q1, wI (cy 0) 4 (fun _ => 0)), (q2, wI (cy 0) 12 (fun _ => 0)), (q3, wI (cy 0) 10 (fun _ => 0)), (q4, wI (cy 0) 10 (fun _ => 0)), (q5, wI (cy 0) 10 (fun _ => 0)), (q6, wI (cy 0) 10 (fun _ => 0)), (q7, wI (cy 1) 10 (fun _ => 0)), (q8, wI (cy 0) 40 (fun _ => 0)), (q9, wI (cy 0) 60 (fun _ => 0)), (q10, wI (cy 0) 60 (fun _ => 0)), (q11, wI (cy 0) 60 (fun _ => 0)), (q12, wI (cy 0) 60 (fun _ => 0)), (q13, wI (cy 0) 60 (fun _ => 0)), (q14, wI (cy 0) 60 (fun _ => 0)), (q15, wI (cy 0) 60 (fun _ => 0)), (q16, wI (cy 0) 60 (fun _ => 0)), (q17, wI (cy 0) 60 (fun _ => 0)), (q18, wI (cy 0) 2400 (fun _ => 0)), (q19, wI (cy 0) 2400 (fun _ => 0)), (q20, wI (cy 0) 60 (fun _ => 0)), (q21, wI (cy 0) 40 (fun _ => 0)), (q22, wI (cy 0) 40 (fun _ => 0)), (q23, wI (cy 0) 40 (fun _ => 0))] H _ := hw
  refine j_putF (C := RX6) (T := TX6) (ty0 := tyX6) (N := 35) (ci := 8) (kf := 32) (i := 0) (ty := .array .int) (fs := [.int 0, .int 0, .int 0, .int 0, .int 0, .int 0, .int 0, .int 0, .int 3, .int 0, .ref q1, .ref q2, .ref q3, .ref q4, .ref q5, .ref q6, .ref q7, .ref q8, .ref q9, .ref q10, .ref q11, .ref q12, .ref q13, .ref q14, .ref q15, .ref q16, .ref q17, .ref q18, .ref q19, .ref q20, .ref q21, .ref q22, .null, .null, .null]) C0 hinit hw rfl (fun _ h9 => List.mem_cons_of_mem _ (List.mem_append_right _ h9)) rfl tyX6_ok nmX6 (by decide) (List.mem_of_getElem? (i := 38) rfl) rfl rfl rfl (by decide +kernel) ⟨rfl, rfl⟩ (Nat.le_of_ble_eq_true rfl) dX6_init_236 (fun H locs hw => ?_)
  have hw : Jw D cy A s pre [(h0, .inr (8, [.int 0, .int 0, .int 0, .int 0, .int 0, .int 0, .int 0, .int 0, .int 3, .int 0, .ref q1, .ref q2, .ref q3, .ref q4, .ref q5, .ref q6, .ref q7, .ref q8, .ref q9, .ref q10, .ref q11, .ref q12, .ref q13, .ref q14, .ref q15, .ref q16, .ref q17, .ref q18, .ref q19, .ref q20, .ref q21, .ref q22, .ref q23, .null, .null])), (q1, wI (cy 0) 4 (fun _ => 0)), (q2, wI (cy 0) 12 (fun _ => 0)), (q3, wI (cy 0) 10 (fun _ => 0)), (q4, wI (cy 0) 10 (fun _ => 0)), (q5, wI (cy 0) 10 (fun _ => 0)), (q6, wI (cy 0) 10 (fun _ => 0)), (q7, wI (cy 1) 10 (fun _ => 0)), (q8, wI (cy 0) 40 (fun _ => 0)), (q9, wI (cy 0) 60 (fun _ => 0)), (q10, wI (cy 0) 60 (fun _ => 0)), (q11, wI (cy 0) 60 (fun _ => 0)), (q12, wI (cy 0) 60 (fun _ => 0)), (q13, wI (cy 0) 60 (fun _ => 0)), (q14, wI (cy 0) 60 (fun _ => 0)), (q15, wI (cy 0) 60 (fun _ => 0)), (q16, wI (cy 0) 60 (fun _ => 0)), (q17, wI (cy 0) 60 (fun _ => 0)), (q18, wI (cy 0) 2400 (fun _ => 0)), (q19, wI (cy 0) 2400 (fun _ => 0)), (q20, wI (cy 0) 60 (fun _ => 0)), (q21, wI (cy 0) 40 (fun _ => 0)), (q22, wI (cy 0) 40 (fun _ => 0)), (q23, wI (cy 0) 40 (fun _ => 0))] H _ := hw
  refine lv_aload_n hx hb dX6_init_239 rfl (lv_at hl 0 rfl) ?_
  refine lv_bipush (v := 40) hx hb dX6_init_240 (by decide) ?_
  refine j_newa (atype := .int) (ty := .int) (t := 0) (N := 40) C0 hw (List.mem_of_getElem? (i := 14) rfl) rfl rfl rfl (by decide) (by decide) (Nat.le_of_ble_eq_true rfl) ⟨(Nat.le_of_ble_eq_true rfl), (Nat.le_of_ble_eq_true rfl)⟩ dX6_init_242 (fun q24 H hw => ?_)
  have hw : Jw D cy A s pre [(h0, .inr (8, [.int 0, .int 0, .int 0, .int 0, .int 0, .int 0, .int 0, .int 0, .int 3, .int 0, .ref q1, .ref q2, .ref q3, .ref q4, .ref q5, .ref q6, .ref q7, .ref q8, .ref q9, .ref q10, .ref q11, .ref q12, .ref q13, .ref q14, .ref q15, .ref q16, .ref q17, .ref q18, .ref q19, .ref q20, .ref q21, .ref q22, .ref q23, .null, .null])), (q1, wI (cy 0) 4 (fun _ => 0)), (q2, wI (cy 0) 12 (fun _ => 0)), (q3, wI (cy 0) 10 (fun _ => 0)), (q4, wI (cy 0) 10 (fun _ => 0)), (q5, wI (cy 0) 10 (fun _ => 0)), (q6, wI (cy 0) 10 (fun _ => 0)), (q7, wI (cy 1) 10 (fun _ => 0)), (q8, wI (cy 0) 40 (fun _ => 0)), (q9, wI (cy 0) 60 (fun _ => 0)), (q10, wI (cy 0) 60 (fun _ => 0)), (q11, wI (cy 0) 60 (fun _ => 0)), (q12, wI (cy 0) 60 (fun _ => 0)), (q13, wI (cy 0) 60 (fun _ => 0)), (q14, wI (cy 0) 60 (fun _ => 0)), (q15, wI (cy 0) 60 (fun _ => 0)), (q16, wI (cy 0) 60 (fun _ => 0)), (q17, wI (cy 0) 60 (fun _ => 0)), (q18, wI (cy 0) 2400 (fun _ => 0)), (q19, wI (cy 0) 2400 (fun _ => 0)), (q20, wI (cy 0) 60 (fun _ => 0)), (q21, wI (cy 0) 40 (fun _ => 0)), (q22, wI (cy 0) 40 (fun _ => 0)), (q23, wI (cy 0) 40 (fun _ => 0)), (q24, wI (cy 0) 40 (fun _ => 0))] H _ := hw
  refine j_putF (C := RX6) (T := TX6) (ty0 := tyX6) (N := 35) (ci := 8) (kf := 33) (i := 0) (ty := .array .int) (fs := [.int 0, .int 0, .int 0, .int 0, .int 0, .int 0, .int 0, .int 0, .int 3, .int 0, .ref q1, .ref q2, .ref q3, .ref q4, .ref q5, .ref q6, .ref q7, .ref q8, .ref q9, .ref q10, .ref q11, .ref q12, .ref q13, .ref q14, .ref q15, .ref q16, .ref q17, .ref q18, .ref q19, .ref q20, .ref q21, .ref q22, .ref q23, .null, .null]) C0 hinit hw rfl (fun _ h9 => List.mem_cons_of_mem _ (List.mem_append_right _ h9)) rfl tyX6_ok nmX6 (by decide) (List.mem_of_getElem? (i := 39) rfl) rfl rfl rfl (by decide +kernel) ⟨rfl, rfl⟩ (Nat.le_of_ble_eq_true rfl) dX6_init_244 (fun H locs hw => ?_)
  have hw : Jw D cy A s pre [(h0, .inr (8, [.int 0, .int 0, .int 0, .int 0, .int 0, .int 0, .int 0, .int 0, .int 3, .int 0, .ref q1, .ref q2, .ref q3, .ref q4, .ref q5, .ref q6, .ref q7, .ref q8, .ref q9, .ref q10, .ref q11, .ref q12, .ref q13, .ref q14, .ref q15, .ref q16, .ref q17, .ref q18, .ref q19, .ref q20, .ref q21, .ref q22, .ref q23, .ref q24, .null])), (q1, wI (cy 0) 4 (fun _ => 0)), (q2, wI (cy 0) 12 (fun _ => 0)), (q3, wI (cy 0) 10 (fun _ => 0)), (q4, wI (cy 0) 10 (fun _ => 0)), (q5, wI (cy 0) 10 (fun _ => 0)), (q6, wI (cy 0) 10 (fun _ => 0)), (q7, wI (cy 1) 10 (fun _ => 0)), (q8, wI (cy 0) 40 (fun _ => 0)), (q9, wI (cy 0) 60 (fun _ => 0)), (q10, wI (cy 0) 60 (fun _ => 0)), (q11, wI (cy 0) 60 (fun _ => 0)), (q12, wI (cy 0) 60 (fun _ => 0)), (q13, wI (cy 0) 60 (fun _ => 0)), (q14, wI (cy 0) 60 (fun _ => 0)), (q15, wI (cy 0) 60 (fun _ => 0)), (q16, wI (cy 0) 60 (fun _ => 0)), (q17, wI (cy 0) 60 (fun _ => 0)), (q18, wI (cy 0) 2400 (fun _ => 0)), (q19, wI (cy 0) 2400 (fun _ => 0)), (q20, wI (cy 0) 60 (fun _ => 0)), (q21, wI (cy 0) 40 (fun _ => 0)), (q22, wI (cy 0) 40 (fun _ => 0)), (q23, wI (cy 0) 40 (fun _ => 0)), (q24, wI (cy 0) 40 (fun _ => 0))] H _ := hw
  refine lv_aload_n hx hb dX6_init_247 rfl (lv_at hl 0 rfl) ?_
  refine lv_bipush (v := 120) hx hb dX6_init_248 (by decide) ?_
  refine j_newa (atype := .boolean) (ty := .boolean) (t := 2) (N := 120) C0 hw (List.mem_of_getElem? (i := 40) rfl) rfl rfl rfl (by decide) (by decide) (Nat.le_of_ble_eq_true rfl) ⟨(Nat.le_of_ble_eq_true rfl), (Nat.le_of_ble_eq_true rfl)⟩ dX6_init_250 (fun q25 H hw => ?_)
  have hw : Jw D cy A s pre [(h0, .inr (8, [.int 0, .int 0, .int 0, .int 0, .int 0, .int 0, .int 0, .int 0, .int 3, .int 0, .ref q1, .ref q2, .ref q3, .ref q4, .ref q5, .ref q6, .ref q7, .ref q8, .ref q9, .ref q10, .ref q11, .ref q12, .ref q13, .ref q14, .ref q15, .ref q16, .ref q17, .ref q18, .ref q19, .ref q20, .ref q21, .ref q22, .ref q23, .ref q24, .null])), (q1, wI (cy 0) 4 (fun _ => 0)), (q2, wI (cy 0) 12 (fun _ => 0)), (q3, wI (cy 0) 10 (fun _ => 0)), (q4, wI (cy 0) 10 (fun _ => 0)), (q5, wI (cy 0) 10 (fun _ => 0)), (q6, wI (cy 0) 10 (fun _ => 0)), (q7, wI (cy 1) 10 (fun _ => 0)), (q8, wI (cy 0) 40 (fun _ => 0)), (q9, wI (cy 0) 60 (fun _ => 0)), (q10, wI (cy 0) 60 (fun _ => 0)), (q11, wI (cy 0) 60 (fun _ => 0)), (q12, wI (cy 0) 60 (fun _ => 0)), (q13, wI (cy 0) 60 (fun _ => 0)), (q14, wI (cy 0) 60 (fun _ => 0)), (q15, wI (cy 0) 60 (fun _ => 0)), (q16, wI (cy 0) 60 (fun _ => 0)), (q17, wI (cy 0) 60 (fun _ => 0)), (q18, wI (cy 0) 2400 (fun _ => 0)), (q19, wI (cy 0) 2400 (fun _ => 0)), (q20, wI (cy 0) 60 (fun _ => 0)), (q21, wI (cy 0) 40 (fun _ => 0)), (q22, wI (cy 0) 40 (fun _ => 0)), (q23, wI (cy 0) 40 (fun _ => 0)), (q24, wI (cy 0) 40 (fun _ => 0)), (q25, wI (cy 2) 120 (fun _ => 0))] H _ := hw
  refine j_putF (C := RX6) (T := TX6) (ty0 := tyX6) (N := 35) (ci := 8) (kf := 34) (i := 0) (ty := .array .boolean) (fs := [.int 0, .int 0, .int 0, .int 0, .int 0, .int 0, .int 0, .int 0, .int 3, .int 0, .ref q1, .ref q2, .ref q3, .ref q4, .ref q5, .ref q6, .ref q7, .ref q8, .ref q9, .ref q10, .ref q11, .ref q12, .ref q13, .ref q14, .ref q15, .ref q16, .ref q17, .ref q18, .ref q19, .ref q20, .ref q21, .ref q22, .ref q23, .ref q24, .null]) C0 hinit hw rfl (fun _ h9 => List.mem_cons_of_mem _ (List.mem_append_right _ h9)) rfl tyX6_ok nmX6 (by decide) (List.mem_of_getElem? (i := 41) rfl) rfl rfl rfl (by decide +kernel) ⟨rfl, rfl⟩ (Nat.le_of_ble_eq_true rfl) dX6_init_252 (fun H locs hw => ?_)
  have hw : Jw D cy A s pre [(h0, .inr (8, [.int 0, .int 0, .int 0, .int 0, .int 0, .int 0, .int 0, .int 0, .int 3, .int 0, .ref q1, .ref q2, .ref q3, .ref q4, .ref q5, .ref q6, .ref q7, .ref q8, .ref q9, .ref q10, .ref q11, .ref q12, .ref q13, .ref q14, .ref q15, .ref q16, .ref q17, .ref q18, .ref q19, .ref q20, .ref q21, .ref q22, .ref q23, .ref q24, .ref q25])), (q1, wI (cy 0) 4 (fun _ => 0)), (q2, wI (cy 0) 12 (fun _ => 0)), (q3, wI (cy 0) 10 (fun _ => 0)), (q4, wI (cy 0) 10 (fun _ => 0)), (q5, wI (cy 0) 10 (fun _ => 0)), (q6, wI (cy 0) 10 (fun _ => 0)), (q7, wI (cy 1) 10 (fun _ => 0)), (q8, wI (cy 0) 40 (fun _ => 0)), (q9, wI (cy 0) 60 (fun _ => 0)), (q10, wI (cy 0) 60 (fun _ => 0)), (q11, wI (cy 0) 60 (fun _ => 0)), (q12, wI (cy 0) 60 (fun _ => 0)), (q13, wI (cy 0) 60 (fun _ => 0)), (q14, wI (cy 0) 60 (fun _ => 0)), (q15, wI (cy 0) 60 (fun _ => 0)), (q16, wI (cy 0) 60 (fun _ => 0)), (q17, wI (cy 0) 60 (fun _ => 0)), (q18, wI (cy 0) 2400 (fun _ => 0)), (q19, wI (cy 0) 2400 (fun _ => 0)), (q20, wI (cy 0) 60 (fun _ => 0)), (q21, wI (cy 0) 40 (fun _ => 0)), (q22, wI (cy 0) 40 (fun _ => 0)), (q23, wI (cy 0) 40 (fun _ => 0)), (q24, wI (cy 0) 40 (fun _ => 0)), (q25, wI (cy 2) 120 (fun _ => 0))] H _ := hw
  exact j_ret C0 hw ⟨_, _, _, _, _, _, _, _, _, _, _, _, _, _, _, _, _, _, _, _, _, _, _, _, _, rfl⟩ ⟨(Nat.le_of_ble_eq_true rfl), (Nat.le_of_ble_eq_true rfl)⟩ dX6_init_255
/-! the class's own constructor -/
def M0 : Mem := fun v _ _ => if v = 7 ∨ v = 68 then 3 else if v = 12 ∨ v = 14 ∨ v = 15 ∨ v = 58 then -1 else 0
def x0 : XX := (0, 0)
def WFa (ad : Nat → Nat) (n : Nat) (w : Nat → va_E) : va_W := (List.range n).map (fun k => (ad k, w k))
theorem WFa_at {ad : Nat → Nat} {n k : Nat} {w : Nat → va_E} (h : k < n) : (WFa ad n w)[k]? = some (ad k, w k) := by
  unfold WFa
  rw [List.getElem?_map, List.getElem?_range h]
  rfl
theorem WFa_len {ad : Nat → Nat} {n : Nat} {w : Nat → va_E} : (WFa ad n w).length = n := by simp [WFa]
theorem WFa_congr {ad ad' : Nat → Nat} {n : Nat} {w w' : Nat → va_E} (h : ∀ k, k < n → ad k = ad' k ∧ w k = w' k) : WFa ad n w = WFa ad' n w' := by
  refine List.ext_getElem? fun k => ?_
  by_cases hk : k < n
  · rw [WFa_at hk, WFa_at hk, (h k hk).1, (h k hk).2]
  · rw [List.getElem?_eq_none (by rw [WFa_len]; omega), List.getElem?_eq_none (by rw [WFa_len]; omega)]
theorem WFa_set {ad : Nat → Nat} {n k : Nat} {w : Nat → va_E} {e : va_E} (h : k < n) : (WFa ad n w).set k (ad k, e) = WFa ad n (va_up w k e) := by
  refine List.ext_getElem? fun j => ?_
  by_cases hj : j = k
  · subst hj
    rw [List.getElem?_set_self (by rw [WFa_len]; exact h), WFa_at h]
    simp [va_up]
  · rw [List.getElem?_set_ne (Ne.symm hj)]
    by_cases hn : j < n
    · rw [WFa_at hn, WFa_at hn]
      simp [va_up, hj]
    · rw [List.getElem?_eq_none (by rw [WFa_len]; omega), List.getElem?_eq_none (by rw [WFa_len]; omega)]
def dE : Nat × va_E := (0, .inr (0, []))
theorem WFa_app {ad : Nat → Nat} {n : Nat} {w : Nat → va_E} (c : va_W) : WFa ad n w ++ c = WFa (fun k => if k < n then ad k else (c.getD (k - n) dE).1) (n + c.length) (fun k => if k < n then w k else (c.getD (k - n) dE).2) := by
  refine List.ext_getElem? fun j => ?_
  by_cases hj : j < n
  · rw [List.getElem?_append_left (by rw [WFa_len]; exact hj), WFa_at hj, WFa_at (by omega)]
    simp [hj]
  · rw [List.getElem?_append_right (by rw [WFa_len]; omega), WFa_len]
    by_cases hn : j < n + c.length
    · rw [WFa_at hn]
      simp only [hj, if_false]
      rw [List.getD_eq_getElem?_getD, List.getElem?_eq_getElem (by omega)]
      rfl
    · rw [List.getElem?_eq_none (by omega), List.getElem?_eq_none (by rw [WFa_len]; omega)]
theorem WFa_of (c : va_W) : c = WFa (fun k => (c.getD k dE).1) c.length (fun k => (c.getD k dE).2) := by
  have h := WFa_app (ad := fun _ => 0) (n := 0) (w := fun _ => dE.2) c
  rw [show WFa (fun _ => 0) 0 (fun _ => dE.2) = [] from rfl, List.nil_append] at h
  refine h.trans ?_
  simp
/-- a cell's contents name only cells of its own group, or of the first seventeen -/
theorem wc_ad {cy : Nat → ClassId} {ad ad' : Nat → Nat} {M : Mem} {x : XX} {n k : Nat} (h : ∀ j, j < n → ad j = ad' j) (hn : 17 ≤ n) (hg : n ≤ 27 ∨ (n < 387 ∧ (n - 27) % 6 = 0) ∨ 387 ≤ n) (h427 : k < 427) (hk : k < n) (h3 : k ≠ 3) (h6 : k ≠ 6) (h16 : k ≠ 16) : wc cy ad M x k = wc cy ad' M x k := by
  unfold wc
  by_cases k0 : k = 0
  · subst k0
    simp only [if_true, wHW]
    rw [h 1 (by omega), h 2 (by omega), h 3 (by omega), h (cText 60) (by show 4 < n; omega), h 6 (by omega), h (cBag 60) (by show 7 < n; omega), h (cBag 61) (by show 10 < n; omega), h (cBag 62) (by show 13 < n; omega), h 16 (by omega)]
  rw [if_neg k0, if_neg k0]
  by_cases k1 : k = 1
  · rw [if_pos k1, if_pos k1]
  rw [if_neg k1, if_neg k1]
  by_cases k2 : k = 2
  · rw [if_pos k2, if_pos k2]
  rw [if_neg k2, if_neg k2, if_neg h3, if_neg h3]
  by_cases k4 : k = 4
  · rw [if_pos k4, if_pos k4]
    simp only [wText]
    rw [h (cCodes 60) (by show 5 < n; omega)]
  rw [if_neg k4, if_neg k4]
  by_cases k5 : k = 5
  · rw [if_pos k5, if_pos k5]
  rw [if_neg k5, if_neg k5, if_neg h6, if_neg h6]
  by_cases k16 : k < 16
  · rw [if_pos k16, if_pos k16]
    by_cases r0 : (k - 7) % 3 = 0
    · rw [if_pos r0, if_pos r0]
      simp only [wBag]
      have e1 : cBag (60 + (k - 7) / 3) = k := by unfold cBag; rw [if_neg (by omega)]; omega
      rw [h (cKeys (60 + (k - 7) / 3)) (by unfold cKeys; omega), h (cCounts (60 + (k - 7) / 3)) (by unfold cCounts; omega)]
    · rw [if_neg r0, if_neg r0]
  rw [if_neg k16, if_neg k16, if_neg h16, if_neg h16]
  by_cases k27 : k < 27
  · rw [if_pos k27, if_pos k27]
  rw [if_neg k27, if_neg k27]
  by_cases k387 : k < 387
  · rw [if_pos k387, if_pos k387]
    have hgr : 27 + 6 * ((k - 27) / 6) + 5 < n := by omega
    have eT : cText ((k - 27) / 6) = 28 + 6 * ((k - 27) / 6) := by unfold cText; rw [if_pos (by omega)]
    have eB : cBag ((k - 27) / 6) = 30 + 6 * ((k - 27) / 6) := by unfold cBag; rw [if_pos (by omega)]
    by_cases r0 : (k - 27) % 6 = 0
    · rw [if_pos r0, if_pos r0]
      simp only [wVer]
      rw [h (cText ((k - 27) / 6)) (by omega), h (cBag ((k - 27) / 6)) (by omega)]
    rw [if_neg r0, if_neg r0]
    by_cases r1 : (k - 27) % 6 = 1
    · rw [if_pos r1, if_pos r1]
      simp only [wText]
      rw [h (cCodes ((k - 27) / 6)) (by unfold cCodes; omega)]
    rw [if_neg r1, if_neg r1]
    by_cases r2 : (k - 27) % 6 = 2
    · rw [if_pos r2, if_pos r2]
    rw [if_neg r2, if_neg r2]
    by_cases r3 : (k - 27) % 6 = 3
    · rw [if_pos r3, if_pos r3]
      simp only [wBag]
      rw [h (cKeys ((k - 27) / 6)) (by unfold cKeys; omega), h (cCounts ((k - 27) / 6)) (by unfold cCounts; omega)]
    rw [if_neg r3, if_neg r3]
  rw [if_neg k387, if_neg k387]
  rw [if_pos h427, if_pos h427]
/-- the class's cells while they are made: n of them; the rows of references hold f, g, h -/
def HWs (cy : Nat → ClassId) (h0 n : Nat) (f g h : Nat → Option Nat) (ad : Nat → Nat) (w : Nat → va_E) : Prop := ad 0 = h0 ∧ (∀ k, k < n → k ≠ 3 → k ≠ 6 → k ≠ 16 → w k = wc cy ad M0 x0 k) ∧ w 3 = wR (cy 5) 10 f ∧ w 6 = wR (cy 6) 60 g ∧ w 16 = wR (cy 7) 40 h
/-- what the class's constructor leaves -/
def HWB (cy : Nat → ClassId) (h0 : Nat) (cur : va_W) : Prop := ∃ (ad : Nat → Nat) (w : Nat → va_E) (f g h : Nat → Option Nat), cur = WFa ad 427 w ∧ HWs cy h0 427 f g h ad w ∧ (∀ j, j < 10 → f j = some (ad (cTask j))) ∧ (∀ j, j < 60 → g j = some (ad (cVer j))) ∧ ∀ j, j < 40 → h j = some (ad (cHit j))
/-- one more group of cells behind the n -/
theorem HWs_app {cy : Nat → ClassId} {h0 n : Nat} {f g h f' g' h' : Nat → Option Nat} {ad : Nat → Nat} {w w' : Nat → va_E} {c : va_W} (hs : HWs cy h0 n f g h ad w) (hn : 17 ≤ n) (hg : n ≤ 27 ∨ (n < 387 ∧ (n - 27) % 6 = 0) ∨ 387 ≤ n) (h427 : n + c.length ≤ 427)
    (hw3 : w' 3 = wR (cy 5) 10 f') (hw6 : w' 6 = wR (cy 6) 60 g') (hw16 : w' 16 = wR (cy 7) 40 h') (hwo : ∀ k, k ≠ 3 → k ≠ 6 → k ≠ 16 → w' k = if k < n then w k else (c.getD (k - n) dE).2)
    (hc : ∀ i, i < c.length → (c.getD i dE).2 = wc cy (fun k => if k < n then ad k else (c.getD (k - n) dE).1) M0 x0 (n + i)) : HWs cy h0 (n + c.length) f' g' h' (fun k => if k < n then ad k else (c.getD (k - n) dE).1) w' := by
  refine ⟨?_, fun k hk k3 k6 k16 => ?_, hw3, hw6, hw16⟩
  · show (if 0 < n then ad 0 else _) = h0
    rw [if_pos (by omega)]
    exact hs.1
  · rw [hwo k k3 k6 k16]
    by_cases hkn : k < n
    · rw [if_pos hkn, hs.2.1 k hkn k3 k6 k16]
      exact wc_ad (n := n) (fun j hj => by simp [hj]) hn hg (by omega) hkn k3 k6 k16
    · rw [if_neg hkn]
      have h2 := hc (k - n) (by omega)
      rw [show n + (k - n) = k by omega] at h2
      exact h2
abbrev adx (ad : Nat → Nat) (n : Nat) (c : va_W) : Nat → Nat := fun k => if k < n then ad k else (c.getD (k - n) dE).1
abbrev wx (w : Nat → va_E) (n : Nat) (c : va_W) : Nat → va_E := fun k => if k < n then w k else (c.getD (k - n) dE).2
theorem adx_l {ad : Nat → Nat} {n k : Nat} {c : va_W} (h : k < n) : adx ad n c k = ad k := if_pos h
theorem adx_r {ad : Nat → Nat} {n i k : Nat} {c : va_W} (h : k = n + i) : adx ad n c k = (c.getD i dE).1 := by
  subst h
  show (if n + i < n then _ else _) = _
  rw [if_neg (by omega), Nat.add_sub_cancel_left]
theorem WFa_step {ad : Nat → Nat} {n k : Nat} {w : Nat → va_E} {c : va_W} {e : va_E} (hk : k < n) : (WFa ad n w ++ c).set k (ad k, e) = WFa (adx ad n c) (n + c.length) (va_up (wx w n c) k e) := by
  rw [WFa_app]
  have h := WFa_set (ad := adx ad n c) (n := n + c.length) (k := k) (w := wx w n c) (e := e) (by omega)
  rw [adx_l hk] at h
  exact h
theorem WFa_l {ad : Nat → Nat} {n k : Nat} {w : Nat → va_E} {c : va_W} (hk : k < n) : (WFa ad n w ++ c)[k]? = some (ad k, w k) := by
  rw [List.getElem?_append_left (by rw [WFa_len]; exact hk), WFa_at hk]
theorem WFa_r {ad : Nat → Nat} {n : Nat} {w : Nat → va_E} {c : va_W} : (WFa ad n w ++ c)[n]? = c[0]? := by
  rw [List.getElem?_append_right (by rw [WFa_len]; omega), WFa_len, Nat.sub_self]
def hwF (ad : Nat → Nat) : List Value := match wHW ad M0 with
  | .inr q => q.2
  | _ => []
theorem hwF_e {ad : Nat → Nat} : wHW ad M0 = .inr (7, hwF ad) := rfl
abbrev rmX5_init : Room := { frames := 3, cells := 426, slots := 17081, locals := 71 }
section QHW
variable {p : Program} {l : Launch} {e : Env} {R : Room} {s : State} {m : MethodId} {args : Array Value} {below : List Frame} {meth : Method} {c : Code} {D : va_G} {cy : Nat → ClassId} {A : Nat → Prop} {cc : ByteArray} {own : String} {nL : Nat} {Ts : List Cond} {H : Heap} {locs : List Loc} {cells slots : Nat} {Q : State → Prop} {pc : Nat} {ls : Array Slot} {rest : List Value} {pre cur : va_W} {rt : Option FieldType}
set_option maxHeartbeats 4000000 in
set_option maxRecDepth 100000 in
theorem jl_Task {h0 : Nat} {g h : Nat → Option Nat} {Ex : (Nat → Nat) → Prop} (hEx : ∀ ad ad1 : Nat → Nat, (∀ k, k < 17 → ad k = ad1 k) → Ex ad → Ex ad1) (C0 : MJ p s m args meth c D cy A cX5_init RX5 2 wsX5_init) (hX : XJ s)
    (kk : ∀ (ad : Nat → Nat) (w : Nat → va_E) (f : Nat → Option Nat) (ls : Array Slot) (H : Heap) (locs : List Loc), Jw D cy A s pre (WFa ad 27 w) H locs → HWs cy h0 27 f g h ad w → (∀ j, j < 10 → f j = some (ad (17 + 1 * j))) → Ex ad → lv_has ls 2 [(1, .int (nI 10)), (0, .ref h0)] → W p l e rmX5_init s m args below meth c H locs 26 9181 Q (F0 m 130 ls [])) :
    ∀ (d i : Nat), i + d = 10 → ∀ (ad : Nat → Nat) (w : Nat → va_E) (f : Nat → Option Nat) (ls : Array Slot) (H : Heap) (locs : List Loc), Jw D cy A s pre (WFa ad (17 + 1 * i) w) H locs → HWs cy h0 (17 + 1 * i) f g h ad w → (∀ j, j < i → f j = some (ad (17 + 1 * j))) → Ex ad → lv_has ls 2 [(1, .int (nI i)), (0, .ref h0)] → W p l e rmX5_init s m args below meth c H locs (16 + 1 * i) (9131 + 5 * i) Q (F0 m 105 ls []) := by
  obtain ⟨hx, hb, hml, hown, hts, -⟩ := id C0
  intro d
  induction d with
  | zero =>
    intro i hi ad w f ls H locs hw hs hf he hl
    have h9 : i = 10 := by omega
    subst h9
    refine lv_iload_n hx hb dX5_init_105 rfl (lv_at hl 0 rfl) ?_
    refine lv_bipush (v := 10) hx hb dX5_init_106 (by decide) ?_
    refine q_icmp_ge (tgt := 130) (A := some ()) (B := none) (r := ()) hx hb dX5_init_108 (by decide) (if_pos (by decide)) (fun _ => ?_) (fun h => by cases h)
    exact kk ad w f ls H locs hw hs hf he hl
  | succ d ih =>
    intro i hi ad w f ls H locs hw hs hf he hl
    have e0 : (WFa ad (17 + 1 * i) w)[0]? = some (h0, .inr (7, hwF ad)) := by
      rw [WFa_at (by omega), hs.2.1 0 (by omega) (by decide) (by decide) (by decide), hs.1]
      rfl
    have w3 : w 3 = wR (cy 5) 10 f := hs.2.2.1
    refine lv_iload_n hx hb dX5_init_105 rfl (lv_at hl 0 rfl) ?_
    refine lv_bipush (v := 10) hx hb dX5_init_106 (by decide) ?_
    refine q_icmp_ge (tgt := 130) (A := none) (B := some ()) (r := ()) hx hb dX5_init_108 (by decide) (if_neg (nI_ge (b := 10) (by omega) (by decide))) (fun h => by cases h) (fun _ => ?_)
    refine lv_aload_n hx hb dX5_init_111 rfl (lv_at hl 1 rfl) ?_
    refine j_get (C := RX5) (T := TX5) (N := 17) (ci := 7) (kf := 4) (i := 0) (fs := hwF ad) C0 hw e0 (fun _ h9 => List.mem_cons_of_mem _ (List.mem_append_left _ (List.mem_append_left _ (List.mem_append_left _ (List.mem_append_left _ (List.mem_append_left _ (List.mem_append_right _ h9))))))) rfl (by decide) (List.mem_of_getElem? (i := 8) rfl) rfl rfl dX5_init_112 ?_
    refine lv_iload_n hx hb dX5_init_115 rfl (lv_at hl 0 rfl) ?_
    refine j_new (C := RX2) (T := TX2) (N := 5) (ci := 4) (fs := [.int 0, .int 0, .int 0, .int 0, .int 0]) tyX2 C0 hw (fun _ h9 => List.mem_cons_of_mem _ (List.mem_append_left _ (List.mem_append_left _ (List.mem_append_right _ h9)))) tyX2_ok (List.mem_of_getElem? (i := 7) rfl) (List.mem_of_getElem? (i := 24) rfl) (List.mem_of_getElem? (i := 25) rfl) rfl df2 ⟨(show 16 + 1 * i + 1 ≤ 426 by omega), (show 9131 + 5 * i + 5 ≤ 17081 by omega)⟩ dX5_init_116 (fun q H hw => ?_)
    refine lv_dup hx hb dX5_init_119 rfl ?_
    refine j_callN (cur := WFa ad (17 + 1 * i) w) (h0 := q) (As := []) (nA := 0) C0 XK_t hX hw (ctX2_init (D := D) (cy := cy) (h0 := q)) gX5_init_X2_init_n60 rfl ⟨rfl, rfl⟩ (List.mem_of_getElem? (i := 25) rfl) (hX.2.2.2 _ (List.mem_of_getElem? (i := 1) rfl)) (List.mem_of_getElem? (i := 44) rfl) rfl (by decide +kernel) rfl ⟨(Nat.le_of_ble_eq_true rfl), (Nat.le_of_ble_eq_true rfl)⟩ hl.1 (Nat.le_of_ble_eq_true rfl) ⟨(show 16 + 1 * i + 1 + 0 ≤ 426 by omega), (show 9131 + 5 * i + 5 + 0 ≤ 17081 by omega)⟩ rfl dX5_init_120 (fun cur1 H locs hB hw => ?_)
    subst hB
    refine j_astq (i := 3) (t := 5) (k := (17 + 1 * i)) (n := 10) (f := f) C0 hw ((WFa_l (by omega)).trans (by rw [w3])) rfl (WFa_r.trans rfl) rfl (vp_in_nI (by omega) (by decide)) dX5_init_123 (fun H locs hw => ?_)
    rw [nI_clamp (by omega), WFa_step (by omega)] at hw
    refine lv_iinc (k := 0) (v := nI (i + 1)) (lv' := [(1, .int (nI (i + 1))), (0, .ref h0)]) hx hb dX5_init_124 hl rfl (by rw [nI_succ]; rfl) (by decide) rfl (fun ls hl => ?_)
    refine lv_goto (tgt := 105) hx hb dX5_init_127 (by decide) ?_
    refine W.widen (show _ ≤ 16 + 1 * (i + 1) by omega) (show _ ≤ 9131 + 5 * (i + 1) by omega) (ih (i + 1) (by omega) _ _ (va_up f i (some q)) ls H _ hw ?_ (fun j hj => ?_) (hEx ad _ (fun k hk => (adx_l (by omega)).symm) he) hl)
    · refine HWs_app (f' := (va_up f i (some q))) (g' := _) (h' := _) hs (by omega) (by omega) (show _ + 1 ≤ 427 by omega) (va_up_self _ _ _) ((va_up_ne _ _ (by decide)).trans ((if_pos (by omega)).trans hs.2.2.2.1)) ((va_up_ne _ _ (by decide)).trans ((if_pos (by omega)).trans hs.2.2.2.2)) (fun k k3 k6 k16 => va_up_ne _ _ k3) (fun k hk => ?_)
      have h9 : k = 0 := by have : k < 1 := hk; omega
      subst h9
      have h8 := (at_Task (cy := cy) (ad := adx ad (17 + 1 * i) [(q, .inr (4, [.int 0, .int 0, .int 0, .int 0, .int 0]))]) (M := M0) (x := x0) (j := i) (by omega)).2
      rw [show cTask i = (17 + 1 * i) + 0 by unfold cTask; omega] at h8
      exact Eq.trans rfl h8.symm
    · by_cases hj9 : j = i
      · subst hj9
        rw [va_up_self, adx_r (i := 0) (by omega)]
        rfl
      · rw [va_up_ne _ _ hj9, hf j (by omega), adx_l (by omega)]
set_option maxHeartbeats 4000000 in
set_option maxRecDepth 100000 in
theorem jl_Ver {h0 : Nat} {g h : Nat → Option Nat} {Ex : (Nat → Nat) → Prop} (hEx : ∀ ad ad1 : Nat → Nat, (∀ k, k < 27 → ad k = ad1 k) → Ex ad → Ex ad1) (C0 : MJ p s m args meth c D cy A cX5_init RX5 2 wsX5_init) (hX : XJ s)
    (kk : ∀ (ad : Nat → Nat) (w : Nat → va_E) (f : Nat → Option Nat) (ls : Array Slot) (H : Heap) (locs : List Loc), Jw D cy A s pre (WFa ad 387 w) H locs → HWs cy h0 387 g f h ad w → (∀ j, j < 60 → f j = some (ad (27 + 6 * j))) → Ex ad → lv_has ls 2 [(1, .int (nI 60)), (0, .ref h0)] → W p l e rmX5_init s m args below meth c H locs 386 16921 Q (F0 m 157 ls [])) :
    ∀ (d i : Nat), i + d = 60 → ∀ (ad : Nat → Nat) (w : Nat → va_E) (f : Nat → Option Nat) (ls : Array Slot) (H : Heap) (locs : List Loc), Jw D cy A s pre (WFa ad (27 + 6 * i) w) H locs → HWs cy h0 (27 + 6 * i) g f h ad w → (∀ j, j < i → f j = some (ad (27 + 6 * j))) → Ex ad → lv_has ls 2 [(1, .int (nI i)), (0, .ref h0)] → W p l e rmX5_init s m args below meth c H locs (26 + 6 * i) (9181 + 129 * i) Q (F0 m 132 ls []) := by
  obtain ⟨hx, hb, hml, hown, hts, -⟩ := id C0
  intro d
  induction d with
  | zero =>
    intro i hi ad w f ls H locs hw hs hf he hl
    have h9 : i = 60 := by omega
    subst h9
    refine lv_iload_n hx hb dX5_init_132 rfl (lv_at hl 0 rfl) ?_
    refine lv_bipush (v := 60) hx hb dX5_init_133 (by decide) ?_
    refine q_icmp_ge (tgt := 157) (A := some ()) (B := none) (r := ()) hx hb dX5_init_135 (by decide) (if_pos (by decide)) (fun _ => ?_) (fun h => by cases h)
    exact kk ad w f ls H locs hw hs hf he hl
  | succ d ih =>
    intro i hi ad w f ls H locs hw hs hf he hl
    have e0 : (WFa ad (27 + 6 * i) w)[0]? = some (h0, .inr (7, hwF ad)) := by
      rw [WFa_at (by omega), hs.2.1 0 (by omega) (by decide) (by decide) (by decide), hs.1]
      rfl
    have w3 : w 6 = wR (cy 6) 60 f := hs.2.2.2.1
    refine lv_iload_n hx hb dX5_init_132 rfl (lv_at hl 0 rfl) ?_
    refine lv_bipush (v := 60) hx hb dX5_init_133 (by decide) ?_
    refine q_icmp_ge (tgt := 157) (A := none) (B := some ()) (r := ()) hx hb dX5_init_135 (by decide) (if_neg (nI_ge (b := 60) (by omega) (by decide))) (fun h => by cases h) (fun _ => ?_)
    refine lv_aload_n hx hb dX5_init_138 rfl (lv_at hl 1 rfl) ?_
    refine j_get (C := RX5) (T := TX5) (N := 17) (ci := 7) (kf := 8) (i := 0) (fs := hwF ad) C0 hw e0 (fun _ h9 => List.mem_cons_of_mem _ (List.mem_append_left _ (List.mem_append_left _ (List.mem_append_left _ (List.mem_append_left _ (List.mem_append_left _ (List.mem_append_right _ h9))))))) rfl (by decide) (List.mem_of_getElem? (i := 14) rfl) rfl rfl dX5_init_139 ?_
    refine lv_iload_n hx hb dX5_init_142 rfl (lv_at hl 0 rfl) ?_
    refine j_new (C := RX4) (T := TX4) (N := 10) (ci := 6) (fs := [.int 0, .int 0, .int 0, .int 0, .int 0, .int 0, .int 0, .int 0, .null, .null]) tyX4 C0 hw (fun _ h9 => List.mem_cons_of_mem _ (List.mem_append_left _ (List.mem_append_right _ h9))) tyX4_ok (List.mem_of_getElem? (i := 13) rfl) (List.mem_of_getElem? (i := 26) rfl) (List.mem_of_getElem? (i := 27) rfl) rfl df4 ⟨(show 26 + 6 * i + 1 ≤ 426 by omega), (show 9181 + 129 * i + 10 ≤ 17081 by omega)⟩ dX5_init_143 (fun q H hw => ?_)
    refine lv_dup hx hb dX5_init_146 rfl ?_
    refine j_callN (cur := WFa ad (27 + 6 * i) w) (h0 := q) (As := []) (nA := 0) C0 XK_t hX hw (ctX4_init (D := D) (cy := cy) (h0 := q)) gX5_init_X4_init_n61 rfl ⟨rfl, rfl⟩ (List.mem_of_getElem? (i := 27) rfl) (hX.2.2.2 _ (List.mem_of_getElem? (i := 2) rfl)) (List.mem_of_getElem? (i := 47) rfl) rfl (by decide +kernel) rfl ⟨(Nat.le_of_ble_eq_true rfl), (Nat.le_of_ble_eq_true rfl)⟩ hl.1 (Nat.le_of_ble_eq_true rfl) ⟨(show 26 + 6 * i + 1 + 5 ≤ 426 by omega), (show 9181 + 129 * i + 10 + 119 ≤ 17081 by omega)⟩ rfl dX5_init_147 (fun cur1 H locs hB hw => ?_)
    obtain ⟨q1, q2, q3, q4, q5, hB⟩ := hB
    subst hB
    refine j_astq (i := 6) (t := 6) (k := (27 + 6 * i)) (n := 60) (f := f) C0 hw ((WFa_l (by omega)).trans (by rw [w3])) rfl (WFa_r.trans rfl) rfl (vp_in_nI (by omega) (by decide)) dX5_init_150 (fun H locs hw => ?_)
    rw [nI_clamp (by omega), WFa_step (by omega)] at hw
    refine lv_iinc (k := 0) (v := nI (i + 1)) (lv' := [(1, .int (nI (i + 1))), (0, .ref h0)]) hx hb dX5_init_151 hl rfl (by rw [nI_succ]; rfl) (by decide) rfl (fun ls hl => ?_)
    refine lv_goto (tgt := 132) hx hb dX5_init_154 (by decide) ?_
    refine W.widen (show _ ≤ 26 + 6 * (i + 1) by omega) (show _ ≤ 9181 + 129 * (i + 1) by omega) (ih (i + 1) (by omega) _ _ (va_up f i (some q)) ls H _ hw ?_ (fun j hj => ?_) (hEx ad _ (fun k hk => (adx_l (by omega)).symm) he) hl)
    · refine HWs_app (f' := _) (g' := (va_up f i (some q))) (h' := _) hs (by omega) (by omega) (show _ + 6 ≤ 427 by omega) ((va_up_ne _ _ (by decide)).trans ((if_pos (by omega)).trans hs.2.2.1)) (va_up_self _ _ _) ((va_up_ne _ _ (by decide)).trans ((if_pos (by omega)).trans hs.2.2.2.2)) (fun k k3 k6 k16 => va_up_ne _ _ k6) (fun k hk => ?_)
      have h9 : k < 6 := hk
      rcases (show k = 0 ∨ k = 1 ∨ k = 2 ∨ k = 3 ∨ k = 4 ∨ k = 5 by omega) with rfl | rfl | rfl | rfl | rfl | rfl
      · have h8 := (at_Ver (cy := cy) (ad := adx ad (27 + 6 * i) [(q, .inr (6, [.int 0, .int 0, .int (-1), .int 0, .int (-1), .int (-1), .int 0, .int 0, .ref q1, .ref q3])), (q1, .inr (5, [.ref q2, .int 0])), (q2, wI (cy 0) 40 (fun _ => 0)), (q3, .inr (2, [.ref q4, .ref q5, .int 0])), (q4, wI (cy 0) 37 (fun _ => 0)), (q5, wI (cy 0) 37 (fun _ => 0))]) (M := M0) (x := x0) (j := i) (by omega)).2
        rw [show cVer i = (27 + 6 * i) + 0 by unfold cVer; omega] at h8
        refine Eq.trans ?_ h8.symm
        unfold wVer
        rw [adx_r (i := 1) (show cText i = (27 + 6 * i) + 1 by unfold cText; rw [if_pos (by omega)]; omega), adx_r (i := 3) (show cBag i = (27 + 6 * i) + 3 by unfold cBag; rw [if_pos (by omega)]; omega)]
        rfl
      · have h8 := (at_Text (cy := cy) (ad := adx ad (27 + 6 * i) [(q, .inr (6, [.int 0, .int 0, .int (-1), .int 0, .int (-1), .int (-1), .int 0, .int 0, .ref q1, .ref q3])), (q1, .inr (5, [.ref q2, .int 0])), (q2, wI (cy 0) 40 (fun _ => 0)), (q3, .inr (2, [.ref q4, .ref q5, .int 0])), (q4, wI (cy 0) 37 (fun _ => 0)), (q5, wI (cy 0) 37 (fun _ => 0))]) (M := M0) (x := x0) (j := i) (by omega)).2
        rw [show cText i = (27 + 6 * i) + 1 by unfold cText; rw [if_pos (by omega)]; omega] at h8
        refine Eq.trans ?_ h8.symm
        unfold wText
        rw [adx_r (i := 2) (show cCodes i = (27 + 6 * i) + 2 by unfold cCodes cText; rw [if_pos (by omega)]; omega)]
        rfl
      · have h8 := (at_codes (cy := cy) (ad := adx ad (27 + 6 * i) [(q, .inr (6, [.int 0, .int 0, .int (-1), .int 0, .int (-1), .int (-1), .int 0, .int 0, .ref q1, .ref q3])), (q1, .inr (5, [.ref q2, .int 0])), (q2, wI (cy 0) 40 (fun _ => 0)), (q3, .inr (2, [.ref q4, .ref q5, .int 0])), (q4, wI (cy 0) 37 (fun _ => 0)), (q5, wI (cy 0) 37 (fun _ => 0))]) (M := M0) (x := x0) (j := i) (by omega)).2
        rw [show cCodes i = (27 + 6 * i) + 2 by unfold cCodes cText; rw [if_pos (by omega)]; omega] at h8
        refine Eq.trans ?_ h8.symm
        rfl
      · have h8 := (at_Bag (cy := cy) (ad := adx ad (27 + 6 * i) [(q, .inr (6, [.int 0, .int 0, .int (-1), .int 0, .int (-1), .int (-1), .int 0, .int 0, .ref q1, .ref q3])), (q1, .inr (5, [.ref q2, .int 0])), (q2, wI (cy 0) 40 (fun _ => 0)), (q3, .inr (2, [.ref q4, .ref q5, .int 0])), (q4, wI (cy 0) 37 (fun _ => 0)), (q5, wI (cy 0) 37 (fun _ => 0))]) (M := M0) (x := x0) (j := i) (by omega)).2
        rw [show cBag i = (27 + 6 * i) + 3 by unfold cBag; rw [if_pos (by omega)]; omega] at h8
        refine Eq.trans ?_ h8.symm
        unfold wBag
        rw [adx_r (i := 4) (show cKeys i = (27 + 6 * i) + 4 by unfold cKeys cBag; rw [if_pos (by omega)]; omega), adx_r (i := 5) (show cCounts i = (27 + 6 * i) + 5 by unfold cCounts cBag; rw [if_pos (by omega)]; omega)]
        rfl
      · have h8 := (at_keys (cy := cy) (ad := adx ad (27 + 6 * i) [(q, .inr (6, [.int 0, .int 0, .int (-1), .int 0, .int (-1), .int (-1), .int 0, .int 0, .ref q1, .ref q3])), (q1, .inr (5, [.ref q2, .int 0])), (q2, wI (cy 0) 40 (fun _ => 0)), (q3, .inr (2, [.ref q4, .ref q5, .int 0])), (q4, wI (cy 0) 37 (fun _ => 0)), (q5, wI (cy 0) 37 (fun _ => 0))]) (M := M0) (x := x0) (j := i) (by omega)).2
        rw [show cKeys i = (27 + 6 * i) + 4 by unfold cKeys cBag; rw [if_pos (by omega)]; omega] at h8
        refine Eq.trans ?_ h8.symm
        rw [show bl i = 37 by unfold bl; rw [if_pos (by omega)]]
        rfl
      · have h8 := (at_counts (cy := cy) (ad := adx ad (27 + 6 * i) [(q, .inr (6, [.int 0, .int 0, .int (-1), .int 0, .int (-1), .int (-1), .int 0, .int 0, .ref q1, .ref q3])), (q1, .inr (5, [.ref q2, .int 0])), (q2, wI (cy 0) 40 (fun _ => 0)), (q3, .inr (2, [.ref q4, .ref q5, .int 0])), (q4, wI (cy 0) 37 (fun _ => 0)), (q5, wI (cy 0) 37 (fun _ => 0))]) (M := M0) (x := x0) (j := i) (by omega)).2
        rw [show cCounts i = (27 + 6 * i) + 5 by unfold cCounts cBag; rw [if_pos (by omega)]; omega] at h8
        refine Eq.trans ?_ h8.symm
        rw [show bl i = 37 by unfold bl; rw [if_pos (by omega)]]
        rfl
    · by_cases hj9 : j = i
      · subst hj9
        rw [va_up_self, adx_r (i := 0) (by omega)]
        rfl
      · rw [va_up_ne _ _ hj9, hf j (by omega), adx_l (by omega)]
set_option maxHeartbeats 4000000 in
set_option maxRecDepth 100000 in
theorem jl_Hit {h0 : Nat} {g h : Nat → Option Nat} {Ex : (Nat → Nat) → Prop} (hEx : ∀ ad ad1 : Nat → Nat, (∀ k, k < 387 → ad k = ad1 k) → Ex ad → Ex ad1) (C0 : MJ p s m args meth c D cy A cX5_init RX5 2 wsX5_init) (hX : XJ s)
    (kk : ∀ (ad : Nat → Nat) (w : Nat → va_E) (f : Nat → Option Nat) (ls : Array Slot) (H : Heap) (locs : List Loc), Jw D cy A s pre (WFa ad 427 w) H locs → HWs cy h0 427 g h f ad w → (∀ j, j < 40 → f j = some (ad (387 + 1 * j))) → Ex ad → lv_has ls 2 [(1, .int (nI 40)), (0, .ref h0)] → W p l e rmX5_init s m args below meth c H locs 426 17081 Q (F0 m 184 ls [])) :
    ∀ (d i : Nat), i + d = 40 → ∀ (ad : Nat → Nat) (w : Nat → va_E) (f : Nat → Option Nat) (ls : Array Slot) (H : Heap) (locs : List Loc), Jw D cy A s pre (WFa ad (387 + 1 * i) w) H locs → HWs cy h0 (387 + 1 * i) g h f ad w → (∀ j, j < i → f j = some (ad (387 + 1 * j))) → Ex ad → lv_has ls 2 [(1, .int (nI i)), (0, .ref h0)] → W p l e rmX5_init s m args below meth c H locs (386 + 1 * i) (16921 + 4 * i) Q (F0 m 159 ls []) := by
  obtain ⟨hx, hb, hml, hown, hts, -⟩ := id C0
  intro d
  induction d with
  | zero =>
    intro i hi ad w f ls H locs hw hs hf he hl
    have h9 : i = 40 := by omega
    subst h9
    refine lv_iload_n hx hb dX5_init_159 rfl (lv_at hl 0 rfl) ?_
    refine lv_bipush (v := 40) hx hb dX5_init_160 (by decide) ?_
    refine q_icmp_ge (tgt := 184) (A := some ()) (B := none) (r := ()) hx hb dX5_init_162 (by decide) (if_pos (by decide)) (fun _ => ?_) (fun h => by cases h)
    exact kk ad w f ls H locs hw hs hf he hl
  | succ d ih =>
    intro i hi ad w f ls H locs hw hs hf he hl
    have e0 : (WFa ad (387 + 1 * i) w)[0]? = some (h0, .inr (7, hwF ad)) := by
      rw [WFa_at (by omega), hs.2.1 0 (by omega) (by decide) (by decide) (by decide), hs.1]
      rfl
    have w3 : w 16 = wR (cy 7) 40 f := hs.2.2.2.2
    refine lv_iload_n hx hb dX5_init_159 rfl (lv_at hl 0 rfl) ?_
    refine lv_bipush (v := 40) hx hb dX5_init_160 (by decide) ?_
    refine q_icmp_ge (tgt := 184) (A := none) (B := some ()) (r := ()) hx hb dX5_init_162 (by decide) (if_neg (nI_ge (b := 40) (by omega) (by decide))) (fun h => by cases h) (fun _ => ?_)
    refine lv_aload_n hx hb dX5_init_165 rfl (lv_at hl 1 rfl) ?_
    refine j_get (C := RX5) (T := TX5) (N := 17) (ci := 7) (kf := 14) (i := 0) (fs := hwF ad) C0 hw e0 (fun _ h9 => List.mem_cons_of_mem _ (List.mem_append_left _ (List.mem_append_left _ (List.mem_append_left _ (List.mem_append_left _ (List.mem_append_left _ (List.mem_append_right _ h9))))))) rfl (by decide) (List.mem_of_getElem? (i := 22) rfl) rfl rfl dX5_init_166 ?_
    refine lv_iload_n hx hb dX5_init_169 rfl (lv_at hl 0 rfl) ?_
    refine j_new (C := RX1) (T := TX1) (N := 4) (ci := 3) (fs := [.int 0, .int 0, .int 0, .int 0]) tyX1 C0 hw (fun _ h9 => List.mem_cons_of_mem _ (List.mem_append_right _ h9)) tyX1_ok (List.mem_of_getElem? (i := 21) rfl) (List.mem_of_getElem? (i := 28) rfl) (List.mem_of_getElem? (i := 29) rfl) rfl df1 ⟨(show 386 + 1 * i + 1 ≤ 426 by omega), (show 16921 + 4 * i + 4 ≤ 17081 by omega)⟩ dX5_init_170 (fun q H hw => ?_)
    refine lv_dup hx hb dX5_init_173 rfl ?_
    refine j_callN (cur := WFa ad (387 + 1 * i) w) (h0 := q) (As := []) (nA := 0) C0 XK_t hX hw (ctX1_init (D := D) (cy := cy) (h0 := q)) gX5_init_X1_init_n62 rfl ⟨rfl, rfl⟩ (List.mem_of_getElem? (i := 29) rfl) (hX.2.2.2 _ (List.mem_of_getElem? (i := 4) rfl)) (List.mem_of_getElem? (i := 58) rfl) rfl (by decide +kernel) rfl ⟨(Nat.le_of_ble_eq_true rfl), (Nat.le_of_ble_eq_true rfl)⟩ hl.1 (Nat.le_of_ble_eq_true rfl) ⟨(show 386 + 1 * i + 1 + 0 ≤ 426 by omega), (show 16921 + 4 * i + 4 + 0 ≤ 17081 by omega)⟩ rfl dX5_init_174 (fun cur1 H locs hB hw => ?_)
    subst hB
    refine j_astq (i := 16) (t := 7) (k := (387 + 1 * i)) (n := 40) (f := f) C0 hw ((WFa_l (by omega)).trans (by rw [w3])) rfl (WFa_r.trans rfl) rfl (vp_in_nI (by omega) (by decide)) dX5_init_177 (fun H locs hw => ?_)
    rw [nI_clamp (by omega), WFa_step (by omega)] at hw
    refine lv_iinc (k := 0) (v := nI (i + 1)) (lv' := [(1, .int (nI (i + 1))), (0, .ref h0)]) hx hb dX5_init_178 hl rfl (by rw [nI_succ]; rfl) (by decide) rfl (fun ls hl => ?_)
    refine lv_goto (tgt := 159) hx hb dX5_init_181 (by decide) ?_
    refine W.widen (show _ ≤ 386 + 1 * (i + 1) by omega) (show _ ≤ 16921 + 4 * (i + 1) by omega) (ih (i + 1) (by omega) _ _ (va_up f i (some q)) ls H _ hw ?_ (fun j hj => ?_) (hEx ad _ (fun k hk => (adx_l (by omega)).symm) he) hl)
    · refine HWs_app (f' := _) (g' := _) (h' := (va_up f i (some q))) hs (by omega) (by omega) (show _ + 1 ≤ 427 by omega) ((va_up_ne _ _ (by decide)).trans ((if_pos (by omega)).trans hs.2.2.1)) ((va_up_ne _ _ (by decide)).trans ((if_pos (by omega)).trans hs.2.2.2.1)) (va_up_self _ _ _) (fun k k3 k6 k16 => va_up_ne _ _ k16) (fun k hk => ?_)
      have h9 : k = 0 := by have : k < 1 := hk; omega
      subst h9
      have h8 := (at_Hit (cy := cy) (ad := adx ad (387 + 1 * i) [(q, .inr (3, [.int 0, .int 0, .int 0, .int (-1)]))]) (M := M0) (x := x0) (j := i) (by omega)).2
      rw [show cHit i = (387 + 1 * i) + 0 by unfold cHit; omega] at h8
      exact Eq.trans rfl h8.symm
    · by_cases hj9 : j = i
      · subst hj9
        rw [va_up_self, adx_r (i := 0) (by omega)]
        rfl
      · rw [va_up_ne _ _ hj9, hf j (by omega), adx_l (by omega)]
end QHW
set_option maxHeartbeats 8000000 in
set_option maxRecDepth 100000 in
theorem ctX5_init {l : Launch} {D : va_G} {cy : Nat → ClassId} {h0 : Nat} : CJ l yX5_init wsX5_init rmX5_init D cy XJ h0 [] (.inr (7, [.null, .int 0, .null, .int 0, .null, .int 0, .int 0, .null, .null, .int 0, .int 0, .null, .null, .null, .null, .int 0, .int 0])) (HWB cy h0) 426 17081 := by
  refine j_start (cc := cX5_init) (maxL := 2) (by decide) rfl (Nat.le_of_ble_eq_true rfl) ?_
  intro p e s m args below meth c ls A pre hAe C0 hX hw hl hinit
  have C0 : MJ p s m args meth c D cy A cX5_init RX5 2 wsX5_init := C0
  obtain ⟨hx, hb, hml, hown, hts, -⟩ := id C0
  have hl : lv_has ls 2 [(0, .ref h0)] := hl
  refine lv_aload_n hx hb dX5_init_0 rfl (lv_at hl 0 rfl) ?_
  refine j_obj C0 (List.mem_of_getElem? (i := 1) rfl) (List.mem_of_getElem? (i := 2) rfl) (List.mem_of_getElem? (i := 3) rfl) hl.1 (Nat.le_of_ble_eq_true rfl) (Nat.le_of_ble_eq_true rfl) dX5_init_1 ?_
  refine lv_aload_n hx hb dX5_init_4 rfl (lv_at hl 0 rfl) ?_
  refine lv_iconst (v := 4) hx hb dX5_init_5 (by decide) ?_
  refine j_newa (atype := .int) (ty := .int) (t := 0) (N := 4) C0 hw (List.mem_of_getElem? (i := 4) rfl) rfl rfl rfl (by decide) (by decide) (Nat.le_of_ble_eq_true rfl) ⟨(Nat.le_of_ble_eq_true rfl), (Nat.le_of_ble_eq_true rfl)⟩ dX5_init_6 (fun q1 H hw => ?_)
  have hw : Jw D cy A s pre [(h0, .inr (7, [.null, .int 0, .null, .int 0, .null, .int 0, .int 0, .null, .null, .int 0, .int 0, .null, .null, .null, .null, .int 0, .int 0])), (q1, wI (cy 0) 4 (fun _ => 0))] H _ := hw
  refine j_putF (C := RX5) (T := TX5) (ty0 := tyX5) (N := 17) (ci := 7) (kf := 0) (i := 0) (ty := .array .int) (fs := [.null, .int 0, .null, .int 0, .null, .int 0, .int 0, .null, .null, .int 0, .int 0, .null, .null, .null, .null, .int 0, .int 0]) C0 hinit hw rfl (fun _ h9 => List.mem_cons_of_mem _ (List.mem_append_left _ (List.mem_append_left _ (List.mem_append_left _ (List.mem_append_left _ (List.mem_append_left _ (List.mem_append_right _ h9))))))) rfl tyX5_ok nmX5 (by decide) (List.mem_of_getElem? (i := 5) rfl) rfl rfl rfl (by decide +kernel) ⟨rfl, rfl⟩ (Nat.le_of_ble_eq_true rfl) dX5_init_8 (fun H locs hw => ?_)
  have hw : Jw D cy A s pre [(h0, .inr (7, [.ref q1, .int 0, .null, .int 0, .null, .int 0, .int 0, .null, .null, .int 0, .int 0, .null, .null, .null, .null, .int 0, .int 0])), (q1, wI (cy 0) 4 (fun _ => 0))] H _ := hw
  refine lv_aload_n hx hb dX5_init_11 rfl (lv_at hl 0 rfl) ?_
  refine lv_bipush (v := 12) hx hb dX5_init_12 (by decide) ?_
  refine j_newa (atype := .int) (ty := .int) (t := 0) (N := 12) C0 hw (List.mem_of_getElem? (i := 4) rfl) rfl rfl rfl (by decide) (by decide) (Nat.le_of_ble_eq_true rfl) ⟨(Nat.le_of_ble_eq_true rfl), (Nat.le_of_ble_eq_true rfl)⟩ dX5_init_14 (fun q2 H hw => ?_)
  have hw : Jw D cy A s pre [(h0, .inr (7, [.ref q1, .int 0, .null, .int 0, .null, .int 0, .int 0, .null, .null, .int 0, .int 0, .null, .null, .null, .null, .int 0, .int 0])), (q1, wI (cy 0) 4 (fun _ => 0)), (q2, wI (cy 0) 12 (fun _ => 0))] H _ := hw
  refine j_putF (C := RX5) (T := TX5) (ty0 := tyX5) (N := 17) (ci := 7) (kf := 2) (i := 0) (ty := .array .int) (fs := [.ref q1, .int 0, .null, .int 0, .null, .int 0, .int 0, .null, .null, .int 0, .int 0, .null, .null, .null, .null, .int 0, .int 0]) C0 hinit hw rfl (fun _ h9 => List.mem_cons_of_mem _ (List.mem_append_left _ (List.mem_append_left _ (List.mem_append_left _ (List.mem_append_left _ (List.mem_append_left _ (List.mem_append_right _ h9))))))) rfl tyX5_ok nmX5 (by decide) (List.mem_of_getElem? (i := 6) rfl) rfl rfl rfl (by decide +kernel) ⟨rfl, rfl⟩ (Nat.le_of_ble_eq_true rfl) dX5_init_16 (fun H locs hw => ?_)
  have hw : Jw D cy A s pre [(h0, .inr (7, [.ref q1, .int 0, .ref q2, .int 0, .null, .int 0, .int 0, .null, .null, .int 0, .int 0, .null, .null, .null, .null, .int 0, .int 0])), (q1, wI (cy 0) 4 (fun _ => 0)), (q2, wI (cy 0) 12 (fun _ => 0))] H _ := hw
  refine lv_aload_n hx hb dX5_init_19 rfl (lv_at hl 0 rfl) ?_
  refine lv_bipush (v := 10) hx hb dX5_init_20 (by decide) ?_
  refine j_newq (t := 5) (N := 10) C0 hw (List.mem_of_getElem? (i := 7) rfl) hX.1 rfl (by decide) (by decide) (Nat.le_of_ble_eq_true rfl) ⟨(Nat.le_of_ble_eq_true rfl), (Nat.le_of_ble_eq_true rfl)⟩ dX5_init_22 (fun q3 H hw => ?_)
  have hw : Jw D cy A s pre [(h0, .inr (7, [.ref q1, .int 0, .ref q2, .int 0, .null, .int 0, .int 0, .null, .null, .int 0, .int 0, .null, .null, .null, .null, .int 0, .int 0])), (q1, wI (cy 0) 4 (fun _ => 0)), (q2, wI (cy 0) 12 (fun _ => 0)), (q3, wR (cy 5) 10 (fun _ => none))] H _ := hw
  refine j_putF (C := RX5) (T := TX5) (ty0 := tyX5) (N := 17) (ci := 7) (kf := 4) (i := 0) (ty := .array (.object "Homewatcher$Task")) (fs := [.ref q1, .int 0, .ref q2, .int 0, .null, .int 0, .int 0, .null, .null, .int 0, .int 0, .null, .null, .null, .null, .int 0, .int 0]) C0 hinit hw rfl (fun _ h9 => List.mem_cons_of_mem _ (List.mem_append_left _ (List.mem_append_left _ (List.mem_append_left _ (List.mem_append_left _ (List.mem_append_left _ (List.mem_append_right _ h9))))))) rfl tyX5_ok nmX5 (by decide) (List.mem_of_getElem? (i := 8) rfl) rfl rfl rfl (by decide +kernel) ⟨rfl, rfl⟩ (Nat.le_of_ble_eq_true rfl) dX5_init_25 (fun H locs hw => ?_)
  have hw : Jw D cy A s pre [(h0, .inr (7, [.ref q1, .int 0, .ref q2, .int 0, .ref q3, .int 0, .int 0, .null, .null, .int 0, .int 0, .null, .null, .null, .null, .int 0, .int 0])), (q1, wI (cy 0) 4 (fun _ => 0)), (q2, wI (cy 0) 12 (fun _ => 0)), (q3, wR (cy 5) 10 (fun _ => none))] H _ := hw
  refine lv_aload_n hx hb dX5_init_28 rfl (lv_at hl 0 rfl) ?_
  refine j_new (C := RX3) (T := TX3) (N := 2) (ci := 5) (fs := [.null, .int 0]) tyX3 C0 hw (fun _ h9 => List.mem_cons_of_mem _ (List.mem_append_left _ (List.mem_append_left _ (List.mem_append_left _ (List.mem_append_left _ (List.mem_append_right _ h9)))))) tyX3_ok (List.mem_of_getElem? (i := 9) rfl) (List.mem_of_getElem? (i := 10) rfl) (List.mem_of_getElem? (i := 11) rfl) rfl df3 ⟨(Nat.le_of_ble_eq_true rfl), (Nat.le_of_ble_eq_true rfl)⟩ dX5_init_29 (fun q4 H hw => ?_)
  have hw : Jw D cy A s pre [(h0, .inr (7, [.ref q1, .int 0, .ref q2, .int 0, .ref q3, .int 0, .int 0, .null, .null, .int 0, .int 0, .null, .null, .null, .null, .int 0, .int 0])), (q1, wI (cy 0) 4 (fun _ => 0)), (q2, wI (cy 0) 12 (fun _ => 0)), (q3, wR (cy 5) 10 (fun _ => none)), (q4, .inr (5, [.null, .int 0]))] H _ := hw
  refine lv_dup hx hb dX5_init_32 rfl ?_
  refine j_callN (cur := [(h0, .inr (7, [.ref q1, .int 0, .ref q2, .int 0, .ref q3, .int 0, .int 0, .null, .null, .int 0, .int 0, .null, .null, .null, .null, .int 0, .int 0])), (q1, wI (cy 0) 4 (fun _ => 0)), (q2, wI (cy 0) 12 (fun _ => 0)), (q3, wR (cy 5) 10 (fun _ => none))]) (h0 := q4) (As := []) (nA := 0) C0 XK_t hX hw (ctX3_init (D := D) (cy := cy) (h0 := q4)) gX5_init_X3_init_n24 rfl ⟨rfl, rfl⟩ (List.mem_of_getElem? (i := 11) rfl) (hX.2.2.2 _ (List.mem_of_getElem? (i := 0) rfl)) (List.mem_of_getElem? (i := 30) rfl) rfl (by decide +kernel) rfl ⟨(Nat.le_of_ble_eq_true rfl), (Nat.le_of_ble_eq_true rfl)⟩ hl.1 (Nat.le_of_ble_eq_true rfl) ⟨(Nat.le_of_ble_eq_true rfl), (Nat.le_of_ble_eq_true rfl)⟩ rfl dX5_init_33 (fun cur1 H locs hB hw => ?_)
  obtain ⟨q5, rfl⟩ := hB
  have hw : Jw D cy A s pre [(h0, .inr (7, [.ref q1, .int 0, .ref q2, .int 0, .ref q3, .int 0, .int 0, .null, .null, .int 0, .int 0, .null, .null, .null, .null, .int 0, .int 0])), (q1, wI (cy 0) 4 (fun _ => 0)), (q2, wI (cy 0) 12 (fun _ => 0)), (q3, wR (cy 5) 10 (fun _ => none)), (q4, .inr (5, [.ref q5, .int 0])), (q5, wI (cy 0) 40 (fun _ => 0))] H _ := hw
  refine j_putF (C := RX5) (T := TX5) (ty0 := tyX5) (N := 17) (ci := 7) (kf := 7) (i := 0) (ty := .object "Homewatcher$Text") (fs := [.ref q1, .int 0, .ref q2, .int 0, .ref q3, .int 0, .int 0, .null, .null, .int 0, .int 0, .null, .null, .null, .null, .int 0, .int 0]) C0 hinit hw rfl (fun _ h9 => List.mem_cons_of_mem _ (List.mem_append_left _ (List.mem_append_left _ (List.mem_append_left _ (List.mem_append_left _ (List.mem_append_left _ (List.mem_append_right _ h9))))))) rfl tyX5_ok nmX5 (by decide) (List.mem_of_getElem? (i := 12) rfl) rfl rfl rfl (by decide +kernel) ⟨rfl, rfl⟩ (Nat.le_of_ble_eq_true rfl) dX5_init_36 (fun H locs hw => ?_)
  have hw : Jw D cy A s pre [(h0, .inr (7, [.ref q1, .int 0, .ref q2, .int 0, .ref q3, .int 0, .int 0, .ref q4, .null, .int 0, .int 0, .null, .null, .null, .null, .int 0, .int 0])), (q1, wI (cy 0) 4 (fun _ => 0)), (q2, wI (cy 0) 12 (fun _ => 0)), (q3, wR (cy 5) 10 (fun _ => none)), (q4, .inr (5, [.ref q5, .int 0])), (q5, wI (cy 0) 40 (fun _ => 0))] H _ := hw
  refine lv_aload_n hx hb dX5_init_39 rfl (lv_at hl 0 rfl) ?_
  refine lv_bipush (v := 60) hx hb dX5_init_40 (by decide) ?_
  refine j_newq (t := 6) (N := 60) C0 hw (List.mem_of_getElem? (i := 13) rfl) hX.2.1 rfl (by decide) (by decide) (Nat.le_of_ble_eq_true rfl) ⟨(Nat.le_of_ble_eq_true rfl), (Nat.le_of_ble_eq_true rfl)⟩ dX5_init_42 (fun q6 H hw => ?_)
  have hw : Jw D cy A s pre [(h0, .inr (7, [.ref q1, .int 0, .ref q2, .int 0, .ref q3, .int 0, .int 0, .ref q4, .null, .int 0, .int 0, .null, .null, .null, .null, .int 0, .int 0])), (q1, wI (cy 0) 4 (fun _ => 0)), (q2, wI (cy 0) 12 (fun _ => 0)), (q3, wR (cy 5) 10 (fun _ => none)), (q4, .inr (5, [.ref q5, .int 0])), (q5, wI (cy 0) 40 (fun _ => 0)), (q6, wR (cy 6) 60 (fun _ => none))] H _ := hw
  refine j_putF (C := RX5) (T := TX5) (ty0 := tyX5) (N := 17) (ci := 7) (kf := 8) (i := 0) (ty := .array (.object "Homewatcher$Version")) (fs := [.ref q1, .int 0, .ref q2, .int 0, .ref q3, .int 0, .int 0, .ref q4, .null, .int 0, .int 0, .null, .null, .null, .null, .int 0, .int 0]) C0 hinit hw rfl (fun _ h9 => List.mem_cons_of_mem _ (List.mem_append_left _ (List.mem_append_left _ (List.mem_append_left _ (List.mem_append_left _ (List.mem_append_left _ (List.mem_append_right _ h9))))))) rfl tyX5_ok nmX5 (by decide) (List.mem_of_getElem? (i := 14) rfl) rfl rfl rfl (by decide +kernel) ⟨rfl, rfl⟩ (Nat.le_of_ble_eq_true rfl) dX5_init_45 (fun H locs hw => ?_)
  have hw : Jw D cy A s pre [(h0, .inr (7, [.ref q1, .int 0, .ref q2, .int 0, .ref q3, .int 0, .int 0, .ref q4, .ref q6, .int 0, .int 0, .null, .null, .null, .null, .int 0, .int 0])), (q1, wI (cy 0) 4 (fun _ => 0)), (q2, wI (cy 0) 12 (fun _ => 0)), (q3, wR (cy 5) 10 (fun _ => none)), (q4, .inr (5, [.ref q5, .int 0])), (q5, wI (cy 0) 40 (fun _ => 0)), (q6, wR (cy 6) 60 (fun _ => none))] H _ := hw
  refine lv_aload_n hx hb dX5_init_48 rfl (lv_at hl 0 rfl) ?_
  refine j_new (C := RX0) (T := TX0) (N := 3) (ci := 2) (fs := [.null, .null, .int 0]) tyX0 C0 hw (fun _ h9 => List.mem_cons_of_mem _ (List.mem_append_left _ (List.mem_append_left _ (List.mem_append_left _ (List.mem_append_right _ h9))))) tyX0_ok (List.mem_of_getElem? (i := 15) rfl) (List.mem_of_getElem? (i := 16) rfl) (List.mem_of_getElem? (i := 17) rfl) rfl df0 ⟨(Nat.le_of_ble_eq_true rfl), (Nat.le_of_ble_eq_true rfl)⟩ dX5_init_49 (fun q7 H hw => ?_)
  have hw : Jw D cy A s pre [(h0, .inr (7, [.ref q1, .int 0, .ref q2, .int 0, .ref q3, .int 0, .int 0, .ref q4, .ref q6, .int 0, .int 0, .null, .null, .null, .null, .int 0, .int 0])), (q1, wI (cy 0) 4 (fun _ => 0)), (q2, wI (cy 0) 12 (fun _ => 0)), (q3, wR (cy 5) 10 (fun _ => none)), (q4, .inr (5, [.ref q5, .int 0])), (q5, wI (cy 0) 40 (fun _ => 0)), (q6, wR (cy 6) 60 (fun _ => none)), (q7, .inr (2, [.null, .null, .int 0]))] H _ := hw
  refine lv_dup hx hb dX5_init_52 rfl ?_
  refine lv_sipush (v := 2220) hx hb dX5_init_53 (by decide) ?_
  refine j_callI (cur := [(h0, .inr (7, [.ref q1, .int 0, .ref q2, .int 0, .ref q3, .int 0, .int 0, .ref q4, .ref q6, .int 0, .int 0, .null, .null, .null, .null, .int 0, .int 0])), (q1, wI (cy 0) 4 (fun _ => 0)), (q2, wI (cy 0) 12 (fun _ => 0)), (q3, wR (cy 5) 10 (fun _ => none)), (q4, .inr (5, [.ref q5, .int 0])), (q5, wI (cy 0) 40 (fun _ => 0)), (q6, wR (cy 6) 60 (fun _ => none))]) (h0 := q7) (As := [.int 2220]) (nA := 1) C0 XK_t hX hw (ctX0_init (D := D) (cy := cy) (h0 := q7) (a := 2220) (by decide)) gX5_init_X0_init rfl ⟨rfl, rfl⟩ (List.mem_of_getElem? (i := 17) rfl) (List.mem_of_getElem? (i := 34) rfl) (List.mem_of_getElem? (i := 35) rfl) rfl (by decide +kernel) rfl ⟨(Nat.le_of_ble_eq_true rfl), (Nat.le_of_ble_eq_true rfl)⟩ hl.1 (Nat.le_of_ble_eq_true rfl) ⟨(Nat.le_of_ble_eq_true rfl), (Nat.le_of_ble_eq_true rfl)⟩ rfl dX5_init_56 (fun cur1 H locs hB hw => ?_)
  obtain ⟨q8, q9, rfl⟩ := hB
  have hw : Jw D cy A s pre [(h0, .inr (7, [.ref q1, .int 0, .ref q2, .int 0, .ref q3, .int 0, .int 0, .ref q4, .ref q6, .int 0, .int 0, .null, .null, .null, .null, .int 0, .int 0])), (q1, wI (cy 0) 4 (fun _ => 0)), (q2, wI (cy 0) 12 (fun _ => 0)), (q3, wR (cy 5) 10 (fun _ => none)), (q4, .inr (5, [.ref q5, .int 0])), (q5, wI (cy 0) 40 (fun _ => 0)), (q6, wR (cy 6) 60 (fun _ => none)), (q7, .inr (2, [.ref q8, .ref q9, .int 0])), (q8, wI (cy 0) 2220 (fun _ => 0)), (q9, wI (cy 0) 2220 (fun _ => 0))] H _ := hw
  refine j_putF (C := RX5) (T := TX5) (ty0 := tyX5) (N := 17) (ci := 7) (kf := 11) (i := 0) (ty := .object "Homewatcher$Bag") (fs := [.ref q1, .int 0, .ref q2, .int 0, .ref q3, .int 0, .int 0, .ref q4, .ref q6, .int 0, .int 0, .null, .null, .null, .null, .int 0, .int 0]) C0 hinit hw rfl (fun _ h9 => List.mem_cons_of_mem _ (List.mem_append_left _ (List.mem_append_left _ (List.mem_append_left _ (List.mem_append_left _ (List.mem_append_left _ (List.mem_append_right _ h9))))))) rfl tyX5_ok nmX5 (by decide) (List.mem_of_getElem? (i := 18) rfl) rfl rfl rfl (by decide +kernel) ⟨rfl, rfl⟩ (Nat.le_of_ble_eq_true rfl) dX5_init_59 (fun H locs hw => ?_)
  have hw : Jw D cy A s pre [(h0, .inr (7, [.ref q1, .int 0, .ref q2, .int 0, .ref q3, .int 0, .int 0, .ref q4, .ref q6, .int 0, .int 0, .ref q7, .null, .null, .null, .int 0, .int 0])), (q1, wI (cy 0) 4 (fun _ => 0)), (q2, wI (cy 0) 12 (fun _ => 0)), (q3, wR (cy 5) 10 (fun _ => none)), (q4, .inr (5, [.ref q5, .int 0])), (q5, wI (cy 0) 40 (fun _ => 0)), (q6, wR (cy 6) 60 (fun _ => none)), (q7, .inr (2, [.ref q8, .ref q9, .int 0])), (q8, wI (cy 0) 2220 (fun _ => 0)), (q9, wI (cy 0) 2220 (fun _ => 0))] H _ := hw
  refine lv_aload_n hx hb dX5_init_62 rfl (lv_at hl 0 rfl) ?_
  refine j_new (C := RX0) (T := TX0) (N := 3) (ci := 2) (fs := [.null, .null, .int 0]) tyX0 C0 hw (fun _ h9 => List.mem_cons_of_mem _ (List.mem_append_left _ (List.mem_append_left _ (List.mem_append_left _ (List.mem_append_right _ h9))))) tyX0_ok (List.mem_of_getElem? (i := 15) rfl) (List.mem_of_getElem? (i := 16) rfl) (List.mem_of_getElem? (i := 17) rfl) rfl df0 ⟨(Nat.le_of_ble_eq_true rfl), (Nat.le_of_ble_eq_true rfl)⟩ dX5_init_63 (fun q10 H hw => ?_)
  have hw : Jw D cy A s pre [(h0, .inr (7, [.ref q1, .int 0, .ref q2, .int 0, .ref q3, .int 0, .int 0, .ref q4, .ref q6, .int 0, .int 0, .ref q7, .null, .null, .null, .int 0, .int 0])), (q1, wI (cy 0) 4 (fun _ => 0)), (q2, wI (cy 0) 12 (fun _ => 0)), (q3, wR (cy 5) 10 (fun _ => none)), (q4, .inr (5, [.ref q5, .int 0])), (q5, wI (cy 0) 40 (fun _ => 0)), (q6, wR (cy 6) 60 (fun _ => none)), (q7, .inr (2, [.ref q8, .ref q9, .int 0])), (q8, wI (cy 0) 2220 (fun _ => 0)), (q9, wI (cy 0) 2220 (fun _ => 0)), (q10, .inr (2, [.null, .null, .int 0]))] H _ := hw
  refine lv_dup hx hb dX5_init_66 rfl ?_
  refine lv_sipush (v := 2220) hx hb dX5_init_67 (by decide) ?_
  refine j_callI (cur := [(h0, .inr (7, [.ref q1, .int 0, .ref q2, .int 0, .ref q3, .int 0, .int 0, .ref q4, .ref q6, .int 0, .int 0, .ref q7, .null, .null, .null, .int 0, .int 0])), (q1, wI (cy 0) 4 (fun _ => 0)), (q2, wI (cy 0) 12 (fun _ => 0)), (q3, wR (cy 5) 10 (fun _ => none)), (q4, .inr (5, [.ref q5, .int 0])), (q5, wI (cy 0) 40 (fun _ => 0)), (q6, wR (cy 6) 60 (fun _ => none)), (q7, .inr (2, [.ref q8, .ref q9, .int 0])), (q8, wI (cy 0) 2220 (fun _ => 0)), (q9, wI (cy 0) 2220 (fun _ => 0))]) (h0 := q10) (As := [.int 2220]) (nA := 1) C0 XK_t hX hw (ctX0_init (D := D) (cy := cy) (h0 := q10) (a := 2220) (by decide)) gX5_init_X0_init rfl ⟨rfl, rfl⟩ (List.mem_of_getElem? (i := 17) rfl) (List.mem_of_getElem? (i := 34) rfl) (List.mem_of_getElem? (i := 35) rfl) rfl (by decide +kernel) rfl ⟨(Nat.le_of_ble_eq_true rfl), (Nat.le_of_ble_eq_true rfl)⟩ hl.1 (Nat.le_of_ble_eq_true rfl) ⟨(Nat.le_of_ble_eq_true rfl), (Nat.le_of_ble_eq_true rfl)⟩ rfl dX5_init_70 (fun cur1 H locs hB hw => ?_)
  obtain ⟨q11, q12, rfl⟩ := hB
  have hw : Jw D cy A s pre [(h0, .inr (7, [.ref q1, .int 0, .ref q2, .int 0, .ref q3, .int 0, .int 0, .ref q4, .ref q6, .int 0, .int 0, .ref q7, .null, .null, .null, .int 0, .int 0])), (q1, wI (cy 0) 4 (fun _ => 0)), (q2, wI (cy 0) 12 (fun _ => 0)), (q3, wR (cy 5) 10 (fun _ => none)), (q4, .inr (5, [.ref q5, .int 0])), (q5, wI (cy 0) 40 (fun _ => 0)), (q6, wR (cy 6) 60 (fun _ => none)), (q7, .inr (2, [.ref q8, .ref q9, .int 0])), (q8, wI (cy 0) 2220 (fun _ => 0)), (q9, wI (cy 0) 2220 (fun _ => 0)), (q10, .inr (2, [.ref q11, .ref q12, .int 0])), (q11, wI (cy 0) 2220 (fun _ => 0)), (q12, wI (cy 0) 2220 (fun _ => 0))] H _ := hw
  refine j_putF (C := RX5) (T := TX5) (ty0 := tyX5) (N := 17) (ci := 7) (kf := 12) (i := 0) (ty := .object "Homewatcher$Bag") (fs := [.ref q1, .int 0, .ref q2, .int 0, .ref q3, .int 0, .int 0, .ref q4, .ref q6, .int 0, .int 0, .ref q7, .null, .null, .null, .int 0, .int 0]) C0 hinit hw rfl (fun _ h9 => List.mem_cons_of_mem _ (List.mem_append_left _ (List.mem_append_left _ (List.mem_append_left _ (List.mem_append_left _ (List.mem_append_left _ (List.mem_append_right _ h9))))))) rfl tyX5_ok nmX5 (by decide) (List.mem_of_getElem? (i := 19) rfl) rfl rfl rfl (by decide +kernel) ⟨rfl, rfl⟩ (Nat.le_of_ble_eq_true rfl) dX5_init_73 (fun H locs hw => ?_)
  have hw : Jw D cy A s pre [(h0, .inr (7, [.ref q1, .int 0, .ref q2, .int 0, .ref q3, .int 0, .int 0, .ref q4, .ref q6, .int 0, .int 0, .ref q7, .ref q10, .null, .null, .int 0, .int 0])), (q1, wI (cy 0) 4 (fun _ => 0)), (q2, wI (cy 0) 12 (fun _ => 0)), (q3, wR (cy 5) 10 (fun _ => none)), (q4, .inr (5, [.ref q5, .int 0])), (q5, wI (cy 0) 40 (fun _ => 0)), (q6, wR (cy 6) 60 (fun _ => none)), (q7, .inr (2, [.ref q8, .ref q9, .int 0])), (q8, wI (cy 0) 2220 (fun _ => 0)), (q9, wI (cy 0) 2220 (fun _ => 0)), (q10, .inr (2, [.ref q11, .ref q12, .int 0])), (q11, wI (cy 0) 2220 (fun _ => 0)), (q12, wI (cy 0) 2220 (fun _ => 0))] H _ := hw
  refine lv_aload_n hx hb dX5_init_76 rfl (lv_at hl 0 rfl) ?_
  refine j_new (C := RX0) (T := TX0) (N := 3) (ci := 2) (fs := [.null, .null, .int 0]) tyX0 C0 hw (fun _ h9 => List.mem_cons_of_mem _ (List.mem_append_left _ (List.mem_append_left _ (List.mem_append_left _ (List.mem_append_right _ h9))))) tyX0_ok (List.mem_of_getElem? (i := 15) rfl) (List.mem_of_getElem? (i := 16) rfl) (List.mem_of_getElem? (i := 17) rfl) rfl df0 ⟨(Nat.le_of_ble_eq_true rfl), (Nat.le_of_ble_eq_true rfl)⟩ dX5_init_77 (fun q13 H hw => ?_)
  have hw : Jw D cy A s pre [(h0, .inr (7, [.ref q1, .int 0, .ref q2, .int 0, .ref q3, .int 0, .int 0, .ref q4, .ref q6, .int 0, .int 0, .ref q7, .ref q10, .null, .null, .int 0, .int 0])), (q1, wI (cy 0) 4 (fun _ => 0)), (q2, wI (cy 0) 12 (fun _ => 0)), (q3, wR (cy 5) 10 (fun _ => none)), (q4, .inr (5, [.ref q5, .int 0])), (q5, wI (cy 0) 40 (fun _ => 0)), (q6, wR (cy 6) 60 (fun _ => none)), (q7, .inr (2, [.ref q8, .ref q9, .int 0])), (q8, wI (cy 0) 2220 (fun _ => 0)), (q9, wI (cy 0) 2220 (fun _ => 0)), (q10, .inr (2, [.ref q11, .ref q12, .int 0])), (q11, wI (cy 0) 2220 (fun _ => 0)), (q12, wI (cy 0) 2220 (fun _ => 0)), (q13, .inr (2, [.null, .null, .int 0]))] H _ := hw
  refine lv_dup hx hb dX5_init_80 rfl ?_
  refine lv_bipush (v := 37) hx hb dX5_init_81 (by decide) ?_
  refine j_callI (cur := [(h0, .inr (7, [.ref q1, .int 0, .ref q2, .int 0, .ref q3, .int 0, .int 0, .ref q4, .ref q6, .int 0, .int 0, .ref q7, .ref q10, .null, .null, .int 0, .int 0])), (q1, wI (cy 0) 4 (fun _ => 0)), (q2, wI (cy 0) 12 (fun _ => 0)), (q3, wR (cy 5) 10 (fun _ => none)), (q4, .inr (5, [.ref q5, .int 0])), (q5, wI (cy 0) 40 (fun _ => 0)), (q6, wR (cy 6) 60 (fun _ => none)), (q7, .inr (2, [.ref q8, .ref q9, .int 0])), (q8, wI (cy 0) 2220 (fun _ => 0)), (q9, wI (cy 0) 2220 (fun _ => 0)), (q10, .inr (2, [.ref q11, .ref q12, .int 0])), (q11, wI (cy 0) 2220 (fun _ => 0)), (q12, wI (cy 0) 2220 (fun _ => 0))]) (h0 := q13) (As := [.int 37]) (nA := 1) C0 XK_t hX hw (ctX0_init (D := D) (cy := cy) (h0 := q13) (a := 37) (by decide)) gX5_init_X0_init rfl ⟨rfl, rfl⟩ (List.mem_of_getElem? (i := 17) rfl) (List.mem_of_getElem? (i := 34) rfl) (List.mem_of_getElem? (i := 35) rfl) rfl (by decide +kernel) rfl ⟨(Nat.le_of_ble_eq_true rfl), (Nat.le_of_ble_eq_true rfl)⟩ hl.1 (Nat.le_of_ble_eq_true rfl) ⟨(Nat.le_of_ble_eq_true rfl), (Nat.le_of_ble_eq_true rfl)⟩ rfl dX5_init_83 (fun cur1 H locs hB hw => ?_)
  obtain ⟨q14, q15, rfl⟩ := hB
  have hw : Jw D cy A s pre [(h0, .inr (7, [.ref q1, .int 0, .ref q2, .int 0, .ref q3, .int 0, .int 0, .ref q4, .ref q6, .int 0, .int 0, .ref q7, .ref q10, .null, .null, .int 0, .int 0])), (q1, wI (cy 0) 4 (fun _ => 0)), (q2, wI (cy 0) 12 (fun _ => 0)), (q3, wR (cy 5) 10 (fun _ => none)), (q4, .inr (5, [.ref q5, .int 0])), (q5, wI (cy 0) 40 (fun _ => 0)), (q6, wR (cy 6) 60 (fun _ => none)), (q7, .inr (2, [.ref q8, .ref q9, .int 0])), (q8, wI (cy 0) 2220 (fun _ => 0)), (q9, wI (cy 0) 2220 (fun _ => 0)), (q10, .inr (2, [.ref q11, .ref q12, .int 0])), (q11, wI (cy 0) 2220 (fun _ => 0)), (q12, wI (cy 0) 2220 (fun _ => 0)), (q13, .inr (2, [.ref q14, .ref q15, .int 0])), (q14, wI (cy 0) 37 (fun _ => 0)), (q15, wI (cy 0) 37 (fun _ => 0))] H _ := hw
  refine j_putF (C := RX5) (T := TX5) (ty0 := tyX5) (N := 17) (ci := 7) (kf := 13) (i := 0) (ty := .object "Homewatcher$Bag") (fs := [.ref q1, .int 0, .ref q2, .int 0, .ref q3, .int 0, .int 0, .ref q4, .ref q6, .int 0, .int 0, .ref q7, .ref q10, .null, .null, .int 0, .int 0]) C0 hinit hw rfl (fun _ h9 => List.mem_cons_of_mem _ (List.mem_append_left _ (List.mem_append_left _ (List.mem_append_left _ (List.mem_append_left _ (List.mem_append_left _ (List.mem_append_right _ h9))))))) rfl tyX5_ok nmX5 (by decide) (List.mem_of_getElem? (i := 20) rfl) rfl rfl rfl (by decide +kernel) ⟨rfl, rfl⟩ (Nat.le_of_ble_eq_true rfl) dX5_init_86 (fun H locs hw => ?_)
  have hw : Jw D cy A s pre [(h0, .inr (7, [.ref q1, .int 0, .ref q2, .int 0, .ref q3, .int 0, .int 0, .ref q4, .ref q6, .int 0, .int 0, .ref q7, .ref q10, .ref q13, .null, .int 0, .int 0])), (q1, wI (cy 0) 4 (fun _ => 0)), (q2, wI (cy 0) 12 (fun _ => 0)), (q3, wR (cy 5) 10 (fun _ => none)), (q4, .inr (5, [.ref q5, .int 0])), (q5, wI (cy 0) 40 (fun _ => 0)), (q6, wR (cy 6) 60 (fun _ => none)), (q7, .inr (2, [.ref q8, .ref q9, .int 0])), (q8, wI (cy 0) 2220 (fun _ => 0)), (q9, wI (cy 0) 2220 (fun _ => 0)), (q10, .inr (2, [.ref q11, .ref q12, .int 0])), (q11, wI (cy 0) 2220 (fun _ => 0)), (q12, wI (cy 0) 2220 (fun _ => 0)), (q13, .inr (2, [.ref q14, .ref q15, .int 0])), (q14, wI (cy 0) 37 (fun _ => 0)), (q15, wI (cy 0) 37 (fun _ => 0))] H _ := hw
  refine lv_aload_n hx hb dX5_init_89 rfl (lv_at hl 0 rfl) ?_
  refine lv_bipush (v := 40) hx hb dX5_init_90 (by decide) ?_
  refine j_newq (t := 7) (N := 40) C0 hw (List.mem_of_getElem? (i := 21) rfl) hX.2.2.1 rfl (by decide) (by decide) (Nat.le_of_ble_eq_true rfl) ⟨(Nat.le_of_ble_eq_true rfl), (Nat.le_of_ble_eq_true rfl)⟩ dX5_init_92 (fun q16 H hw => ?_)
  have hw : Jw D cy A s pre [(h0, .inr (7, [.ref q1, .int 0, .ref q2, .int 0, .ref q3, .int 0, .int 0, .ref q4, .ref q6, .int 0, .int 0, .ref q7, .ref q10, .ref q13, .null, .int 0, .int 0])), (q1, wI (cy 0) 4 (fun _ => 0)), (q2, wI (cy 0) 12 (fun _ => 0)), (q3, wR (cy 5) 10 (fun _ => none)), (q4, .inr (5, [.ref q5, .int 0])), (q5, wI (cy 0) 40 (fun _ => 0)), (q6, wR (cy 6) 60 (fun _ => none)), (q7, .inr (2, [.ref q8, .ref q9, .int 0])), (q8, wI (cy 0) 2220 (fun _ => 0)), (q9, wI (cy 0) 2220 (fun _ => 0)), (q10, .inr (2, [.ref q11, .ref q12, .int 0])), (q11, wI (cy 0) 2220 (fun _ => 0)), (q12, wI (cy 0) 2220 (fun _ => 0)), (q13, .inr (2, [.ref q14, .ref q15, .int 0])), (q14, wI (cy 0) 37 (fun _ => 0)), (q15, wI (cy 0) 37 (fun _ => 0)), (q16, wR (cy 7) 40 (fun _ => none))] H _ := hw
  refine j_putF (C := RX5) (T := TX5) (ty0 := tyX5) (N := 17) (ci := 7) (kf := 14) (i := 0) (ty := .array (.object "Homewatcher$Hit")) (fs := [.ref q1, .int 0, .ref q2, .int 0, .ref q3, .int 0, .int 0, .ref q4, .ref q6, .int 0, .int 0, .ref q7, .ref q10, .ref q13, .null, .int 0, .int 0]) C0 hinit hw rfl (fun _ h9 => List.mem_cons_of_mem _ (List.mem_append_left _ (List.mem_append_left _ (List.mem_append_left _ (List.mem_append_left _ (List.mem_append_left _ (List.mem_append_right _ h9))))))) rfl tyX5_ok nmX5 (by decide) (List.mem_of_getElem? (i := 22) rfl) rfl rfl rfl (by decide +kernel) ⟨rfl, rfl⟩ (Nat.le_of_ble_eq_true rfl) dX5_init_95 (fun H locs hw => ?_)
  have hw : Jw D cy A s pre [(h0, .inr (7, [.ref q1, .int 0, .ref q2, .int 0, .ref q3, .int 0, .int 0, .ref q4, .ref q6, .int 0, .int 0, .ref q7, .ref q10, .ref q13, .ref q16, .int 0, .int 0])), (q1, wI (cy 0) 4 (fun _ => 0)), (q2, wI (cy 0) 12 (fun _ => 0)), (q3, wR (cy 5) 10 (fun _ => none)), (q4, .inr (5, [.ref q5, .int 0])), (q5, wI (cy 0) 40 (fun _ => 0)), (q6, wR (cy 6) 60 (fun _ => none)), (q7, .inr (2, [.ref q8, .ref q9, .int 0])), (q8, wI (cy 0) 2220 (fun _ => 0)), (q9, wI (cy 0) 2220 (fun _ => 0)), (q10, .inr (2, [.ref q11, .ref q12, .int 0])), (q11, wI (cy 0) 2220 (fun _ => 0)), (q12, wI (cy 0) 2220 (fun _ => 0)), (q13, .inr (2, [.ref q14, .ref q15, .int 0])), (q14, wI (cy 0) 37 (fun _ => 0)), (q15, wI (cy 0) 37 (fun _ => 0)), (q16, wR (cy 7) 40 (fun _ => none))] H _ := hw
  refine lv_aload_n hx hb dX5_init_98 rfl (lv_at hl 0 rfl) ?_
  refine lv_iconst (v := 3) hx hb dX5_init_99 (by decide) ?_
  refine j_put (C := RX5) (T := TX5) (ty0 := tyX5) (N := 17) (ci := 7) (kf := 16) (i := 0) (ty := .int) (fs := [.ref q1, .int 0, .ref q2, .int 0, .ref q3, .int 0, .int 0, .ref q4, .ref q6, .int 0, .int 0, .ref q7, .ref q10, .ref q13, .ref q16, .int 0, .int 0]) C0 hw rfl (fun _ h9 => List.mem_cons_of_mem _ (List.mem_append_left _ (List.mem_append_left _ (List.mem_append_left _ (List.mem_append_left _ (List.mem_append_left _ (List.mem_append_right _ h9))))))) rfl tyX5_ok nmX5 (by decide) (List.mem_of_getElem? (i := 23) rfl) rfl rfl (by decide +kernel) ⟨rfl, rfl⟩ (Nat.le_of_ble_eq_true rfl) dX5_init_100 (fun H locs hw => ?_)
  have hw : Jw D cy A s pre [(h0, .inr (7, [.ref q1, .int 0, .ref q2, .int 0, .ref q3, .int 0, .int 0, .ref q4, .ref q6, .int 0, .int 0, .ref q7, .ref q10, .ref q13, .ref q16, .int 0, .int 3])), (q1, wI (cy 0) 4 (fun _ => 0)), (q2, wI (cy 0) 12 (fun _ => 0)), (q3, wR (cy 5) 10 (fun _ => none)), (q4, .inr (5, [.ref q5, .int 0])), (q5, wI (cy 0) 40 (fun _ => 0)), (q6, wR (cy 6) 60 (fun _ => none)), (q7, .inr (2, [.ref q8, .ref q9, .int 0])), (q8, wI (cy 0) 2220 (fun _ => 0)), (q9, wI (cy 0) 2220 (fun _ => 0)), (q10, .inr (2, [.ref q11, .ref q12, .int 0])), (q11, wI (cy 0) 2220 (fun _ => 0)), (q12, wI (cy 0) 2220 (fun _ => 0)), (q13, .inr (2, [.ref q14, .ref q15, .int 0])), (q14, wI (cy 0) 37 (fun _ => 0)), (q15, wI (cy 0) 37 (fun _ => 0)), (q16, wR (cy 7) 40 (fun _ => none))] H _ := hw
  rw [WFa_of [(h0, .inr (7, [.ref q1, .int 0, .ref q2, .int 0, .ref q3, .int 0, .int 0, .ref q4, .ref q6, .int 0, .int 0, .ref q7, .ref q10, .ref q13, .ref q16, .int 0, .int 3])), (q1, wI (cy 0) 4 (fun _ => 0)), (q2, wI (cy 0) 12 (fun _ => 0)), (q3, wR (cy 5) 10 (fun _ => none)), (q4, .inr (5, [.ref q5, .int 0])), (q5, wI (cy 0) 40 (fun _ => 0)), (q6, wR (cy 6) 60 (fun _ => none)), (q7, .inr (2, [.ref q8, .ref q9, .int 0])), (q8, wI (cy 0) 2220 (fun _ => 0)), (q9, wI (cy 0) 2220 (fun _ => 0)), (q10, .inr (2, [.ref q11, .ref q12, .int 0])), (q11, wI (cy 0) 2220 (fun _ => 0)), (q12, wI (cy 0) 2220 (fun _ => 0)), (q13, .inr (2, [.ref q14, .ref q15, .int 0])), (q14, wI (cy 0) 37 (fun _ => 0)), (q15, wI (cy 0) 37 (fun _ => 0)), (q16, wR (cy 7) 40 (fun _ => none))]] at hw
  refine lv_iconst (v := 0) hx hb dX5_init_103 (by decide) ?_
  refine lv_istore_n (lv' := [(1, .int (nI 0)), (0, .ref h0)]) hx hb dX5_init_104 rfl hl (by decide) rfl (fun ls hl => ?_)
  refine jl_Task (Ex := fun _ => True) (fun _ _ _ h => h) C0 hX (fun ad w f ls H locs hw hs hf _ hl => ?_) 10 0 rfl _ _ _ ls _ _ hw ⟨rfl, fun k hk k3 k6 k16 => ?_, rfl, rfl, rfl⟩ (fun _ h => absurd h (Nat.not_lt_zero _)) trivial hl
  · refine lv_iconst (v := 0) hx hb dX5_init_130 (by decide) ?_
    refine lv_istore_n (lv' := [(1, .int (nI 0)), (0, .ref h0)]) hx hb dX5_init_131 rfl hl (by decide) rfl (fun ls hl => ?_)
    refine jl_Ver (Ex := fun ad => ∀ j, j < 10 → f j = some (ad (17 + 1 * j))) (fun ad ad1 h h1 j hj => (h1 j hj).trans (congrArg some (h _ (by omega)))) C0 hX (fun ad w g ls H locs hw hs hg hf hl => ?_) 60 0 rfl _ _ _ ls _ _ hw hs (fun _ h => absurd h (Nat.not_lt_zero _)) hf hl
    refine lv_iconst (v := 0) hx hb dX5_init_157 (by decide) ?_
    refine lv_istore_n (lv' := [(1, .int (nI 0)), (0, .ref h0)]) hx hb dX5_init_158 rfl hl (by decide) rfl (fun ls hl => ?_)
    refine jl_Hit (Ex := fun ad => (∀ j, j < 10 → f j = some (ad (17 + 1 * j))) ∧ ∀ j, j < 60 → g j = some (ad (27 + 6 * j))) (fun ad ad1 h h1 => ⟨fun j hj => (h1.1 j hj).trans (congrArg some (h _ (by omega))), fun j hj => (h1.2 j hj).trans (congrArg some (h _ (by omega)))⟩) C0 hX (fun ad w h ls H locs hw hs hh hfg hl => ?_) 40 0 rfl _ _ _ ls _ _ hw hs (fun _ h => absurd h (Nat.not_lt_zero _)) ⟨hf, hg⟩ hl
    exact j_ret C0 hw ⟨ad, w, f, g, h, rfl, hs, fun j hj => (hfg.1 j hj).trans (by rw [show cTask j = 17 + 1 * j by unfold cTask; omega]), hfg.2, fun j hj => (hh j hj).trans (by rw [show cHit j = 387 + 1 * j by unfold cHit; omega])⟩ ⟨(Nat.le_of_ble_eq_true rfl), (Nat.le_of_ble_eq_true rfl)⟩ dX5_init_184
  · rcases (show k = 0 ∨ k = 1 ∨ k = 2 ∨ k = 3 ∨ k = 4 ∨ k = 5 ∨ k = 6 ∨ k = 7 ∨ k = 8 ∨ k = 9 ∨ k = 10 ∨ k = 11 ∨ k = 12 ∨ k = 13 ∨ k = 14 ∨ k = 15 ∨ k = 16 by have : k < 17 := hk; omega) with rfl | rfl | rfl | rfl | rfl | rfl | rfl | rfl | rfl | rfl | rfl | rfl | rfl | rfl | rfl | rfl | rfl <;> first | rfl | exact absurd rfl (by assumption)
