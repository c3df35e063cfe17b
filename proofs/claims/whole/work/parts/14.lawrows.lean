theorem arrV_ext {cI : ClassId} {N : Nat} {f g : Nat → Value} (h : ∀ j, j < N → f j = g j) : arrV cI N f = arrV cI N g := by
  unfold arrV
  have e : (fun j : Fin N => f j.val) = (fun j : Fin N => g j.val) := funext fun j => h j.val j.isLt
  rw [e]
section QL
variable {p : Program} {l : Launch} {e : Env} {R : Room} {s : State} {m : MethodId} {args : Array Value} {below : List Frame} {meth : Method} {c : Code} {D : va_G} {cy : Nat → ClassId} {ad : Nat → Nat} {x : XX} {cc : ByteArray} {own : String} {nL : Nat} {Ts : List Cond} {ret : Option FieldType} {M : Mem} {H : Heap} {locs : List Loc} {cells slots : Nat} {Q : State → Prop} {pc : Nat} {ls : Array Slot} {rest : List Value}
theorem q_startW {y : MethodName} {ws ws' : List Cond} {rm : Room} {av : List Value} {x' : XX} {M' : Mem} {rv : Option Value} {mc ms maxL : Nat} {hh : List (Nat × Nat × Nat × Nat)} (hy : plainName y.cls = true) (hw : ws = Cond.codeWith y cc maxL ret hh :: ws') (hlen : (lg_sl av).length ≤ maxL)
    (body : ∀ (p : Program) (e : Env) (s : State) (m : MethodId) (args : Array Value) (below : List Frame) (meth : Method) (c : Code) (ls : Array Slot), MX p l s m args meth c D cy ad cc y.cls maxL ws ret → Wd D cy ad x s M s.heap [] → lv_has ls maxL (lv_args 0 av) → c.exceptionTable.toList = tableOf hh →
      W p l e rm s m args below meth c s.heap [] 0 0 (MQ below (q_QN D cy ad x' M' rv s.heap.size) args s mc ms (AA ad s.heap.size)) (F0 m 0 ls [])) : CN l y ws rm D cy ad av x M x' M' rv mc ms := by
  intro sz
  refine va_MetW (cc := cc) (maxL := maxL) (ret := ret) (hh := hh) hy hw ?_
  intro p e s m args below meth c s₁ B hml hv
  obtain ⟨rfl, hsz, hP, hK, hD, hZ, hV⟩ := hv
  subst hsz
  have hl := lv_entry av (n := maxL) hlen
  rw [lg_entry_eq]
  generalize (lg_sl av ++ List.replicate (maxL - (lg_sl av).length) Slot.unset).toArray = ls at hl ⊢
  exact body p e s m _ below meth c ls ⟨B.exec, B.bytes, hml, findClass_of_methodNamed B.named, atoms_spec (ws := ws) B.pre, B.returns, B.notSynchronized, hK, hZ, hV⟩ ⟨hP, wl_D2 hD, va_S.rf⟩ hl (vx_table (x := y) B (atoms_spec (ws := ws) B.pre _ (by rw [hw]; exact List.mem_cons_self)))
theorem wl_out {x' : XX} {k : Nat} {e0 : va_E} (hk : k < 455) (he : wc cy ad M x' k = e0) (ho : ∀ j, j ≠ k → wc cy ad M x' j = wc cy ad M x j) : (WL cy ad M x).set k (ad k, e0) = WL cy ad M x' := WL_set hk he ho
theorem wc_x {x' : XX} {k : Nat} (hk : k < 453) : wc cy ad M x' k = wc cy ad M x k := by
  unfold wc
  by_cases h : k < 427
  · simp [h, show k < 453 by omega]
  · simp [hk]
theorem wc_x3 {y : Int64} {k : Nat} (hk : k ≠ 453) : wc cy ad M (y, x.2) k = wc cy ad M x k := by
  by_cases h : k < 453
  · exact wc_x h
  · unfold wc
    rw [if_neg (by omega), if_neg (by omega), if_neg (by omega), if_neg (by omega), if_neg (by omega), if_neg (by omega), if_neg (by omega), if_neg (by omega), if_neg (by omega), if_neg (by omega), if_neg (by omega), if_neg (by omega), if_neg (by omega), if_neg (by omega), if_neg hk]
    rw [if_neg (by omega), if_neg (by omega), if_neg (by omega), if_neg (by omega), if_neg (by omega), if_neg (by omega), if_neg (by omega), if_neg (by omega), if_neg (by omega), if_neg (by omega), if_neg (by omega), if_neg (by omega), if_neg (by omega), if_neg (by omega), if_neg hk]
theorem wc_x4 {y : UInt64} {k : Nat} (hk : k < 454) : wc cy ad M (x.1, y) k = wc cy ad M x k := by
  by_cases h : k < 453
  · exact wc_x h
  · have e : k = 453 := by omega
    subst e
    rfl
theorem q_last {y : Int64} {β : Type} {K : XX → Option β} {r : β} (C0 : MX p l s m args meth c D cy ad cc own nL Ts ret) (hw : Wd D cy ad x s M H locs) (h : q_lt (y, x.2) K = some r) (hdg : decode cc pc = .ok (.lastore, 1))
    (kk : ∀ (x1 : XX) (H1 : Heap) (locs1 : List Loc), Wd D cy ad x1 s M H1 locs1 → K x1 = some r → W p l e R s m args below meth c H1 locs1 cells slots Q (F0 m (pc + 1) ls rest)) : W p l e R s m args below meth c H locs cells slots Q (F0 m pc ls (.long y :: .int 0 :: .ref (ad 453) :: rest)) := by
  obtain ⟨hx, hb, hml, hown, hts, -, -, hK, -⟩ := C0
  refine va_last (D := D) (cl := vwCl) (n := 1) (f := fun _ => x.1) hx hb hK hw.1 hw.2.1 hw.2.2 453 3 ((WL_at (cy := cy) (ad := ad) (M := M) (x := x) (k := 453) (by decide)).trans (by rw [(at_out (cy := cy) (ad := ad) (M := M) (x := x)).2])) rfl (vp_in_nI (n := 0) (N := 1) (by decide) (by decide)) hdg (fun H1 locs1 hP hD hS => ?_)
  have he : wc cy ad M (y, x.2) 453 = .inl (cy 3, 1, .inr (.inl (fun _ => y))) := at_out.2
  have hP2 : va_P D vwCl (WL cy ad M (y, x.2)) H1 := by
    rw [← wl_out (x := x) (by decide) he (fun j hj => wc_x3 hj)]
    intro k q hk
    by_cases hk3 : k = 453
    · subst hk3
      rw [List.getElem?_set_self (by rw [WL_len]; decide)] at hk
      cases hk
      have h2 := hP 453 _ (List.getElem?_set_self (by rw [WL_len]; decide))
      have e9 : vp_cell (cy 3) (1, .inr (.inl (vp_updL (fun _ => x.1) (0 : Int32).toNatClampNeg y))) = vp_cell (cy 3) (1, .inr (.inl (fun _ => y))) := by
        refine (vp_cell_l _ _ _).trans (Eq.trans ?_ (vp_cell_l _ _ _).symm)
        exact arrV_ext fun j hj => by
          have : j = 0 := by omega
          subst this
          rfl
      exact h2.trans (congrArg some e9)
    · exact hP k q (by rw [List.getElem?_set_ne (Ne.symm hk3)] at hk ⊢; exact hk)
  exact kk (y, x.2) H1 locs1 (wd_of hP2 hw.2.1 hS) h
theorem q_dast {y : UInt64} {β : Type} {K : XX → Option β} {r : β} (C0 : MX p l s m args meth c D cy ad cc own nL Ts ret) (hw : Wd D cy ad x s M H locs) (h : q_lt (x.1, y) K = some r) (hdg : decode cc pc = .ok (.dastore, 1))
    (kk : ∀ (x1 : XX) (H1 : Heap) (locs1 : List Loc), Wd D cy ad x1 s M H1 locs1 → K x1 = some r → W p l e R s m args below meth c H1 locs1 cells slots Q (F0 m (pc + 1) ls rest)) : W p l e R s m args below meth c H locs cells slots Q (F0 m pc ls (.double y :: .int 0 :: .ref (ad 454) :: rest)) := by
  obtain ⟨hx, hb, hml, hown, hts, -, -, hK, -⟩ := C0
  refine va_dast (D := D) (cl := vwCl) (n := 1) (f := fun _ => x.2) hx hb hK hw.1 hw.2.1 hw.2.2 454 4 ((WL_at (cy := cy) (ad := ad) (M := M) (x := x) (k := 454) (by decide)).trans (by rw [(at_outD (cy := cy) (ad := ad) (M := M) (x := x)).2])) rfl (vp_in_nI (n := 0) (N := 1) (by decide) (by decide)) hdg (fun H1 locs1 hP hD hS => ?_)
  have he : wc cy ad M (x.1, y) 454 = .inl (cy 4, 1, .inr (.inr (.inr (.inl (fun _ => y))))) := at_outD.2
  have hP2 : va_P D vwCl (WL cy ad M (x.1, y)) H1 := by
    intro k q hk
    obtain ⟨hk5, rfl⟩ := WL_inv hk
    by_cases hk3 : k = 454
    · subst hk3
      have h2 := hP 454 _ (List.getElem?_set_self (by rw [WL_len]; decide))
      rw [he]
      refine h2.trans (congrArg some ?_)
      refine (vp_cell_d _ _ _).trans (Eq.trans ?_ (vp_cell_d _ _ _).symm)
      exact arrV_ext fun j hj => by
        have : j = 0 := by omega
        subst this
        rfl
    · rw [wc_x4 (x := x) (by omega)]
      exact hP k _ (by rw [List.getElem?_set_ne (Ne.symm hk3)]; exact WL_at hk5)
  exact kk (x.1, y) H1 locs1 (wd_of hP2 hw.2.1 hS) h
theorem q_lald (C0 : MX p l s m args meth c D cy ad cc own nL Ts ret) (hw : Wd D cy ad x s M H locs) (hdg : decode cc pc = .ok (.laload, 1))
    (kk : W p l e R s m args below meth c H locs cells slots Q (F0 m (pc + 1) ls (.long x.1 :: rest))) : W p l e R s m args below meth c H locs cells slots Q (F0 m pc ls (.int 0 :: .ref (ad 453) :: rest)) := by
  obtain ⟨hx, hb, hml, hown, hts, -, -, hK, -⟩ := C0
  exact va_lald (D := D) (cl := vwCl) (n := 1) (f := fun _ => x.1) hx hb hK hw.1 453 3 ((WL_at (cy := cy) (ad := ad) (M := M) (x := x) (k := 453) (by decide)).trans (by rw [(at_out (cy := cy) (ad := ad) (M := M) (x := x)).2])) rfl (vp_in_nI (n := 0) (N := 1) (by decide) (by decide)) hdg kk
theorem q_dald (C0 : MX p l s m args meth c D cy ad cc own nL Ts ret) (hw : Wd D cy ad x s M H locs) (hdg : decode cc pc = .ok (.daload, 1))
    (kk : W p l e R s m args below meth c H locs cells slots Q (F0 m (pc + 1) ls (.double x.2 :: rest))) : W p l e R s m args below meth c H locs cells slots Q (F0 m pc ls (.int 0 :: .ref (ad 454) :: rest)) := by
  obtain ⟨hx, hb, hml, hown, hts, -, -, hK, -⟩ := C0
  exact va_dald (D := D) (cl := vwCl) (n := 1) (f := fun _ => x.2) hx hb hK hw.1 454 4 ((WL_at (cy := cy) (ad := ad) (M := M) (x := x) (k := 454) (by decide)).trans (by rw [(at_outD (cy := cy) (ad := ad) (M := M) (x := x)).2])) rfl (vp_in_nI (n := 0) (N := 1) (by decide) (by decide)) hdg kk
/-- a call that may throw, where this method may catch -/
def q_bh {α β : Type} (f : Option (Mem × (α ⊕ Nat))) (k : Mem → α → Option β) (kx : Mem → Nat → Option β) : Option β := match f with
  | none => none
  | some (M1, .inl r) => k M1 r
  | some (M1, .inr n) => kx M1 n
theorem q_bh_in {α β : Type} {f : Option (Mem × (α ⊕ Nat))} {k : Mem → α → Option β} {kx : Mem → Nat → Option β} {r : β} (h : q_bh f k kx = some r) : (∃ M1 a, f = some (M1, .inl a) ∧ k M1 a = some r) ∨ ∃ M1 n, f = some (M1, .inr n) ∧ kx M1 n = some r := by
  cases f with
  | none => cases h
  | some q =>
    obtain ⟨M1, a | n⟩ := q
    · exact Or.inl ⟨M1, a, rfl, h⟩
    · exact Or.inr ⟨M1, n, rfl, h⟩
theorem q_callVX {α β : Type} {y : MethodName} {ws ws' : List Cond} {rm : Room} {As : List Value} {nA : Nat} {f : Option (Mem × (α ⊕ Nat))} {g : α → Option Value} {K : Mem → α → Option β} {Kx : Mem → Nat → Option β} {r : β} {mc ms maxL ci k index N : Nat} {C : String} {T : u_T} {fs : List Value} {bytes : ByteArray} {rt : Option FieldType} {st0 : List Value}
    (C0 : MX p l s m args meth c D cy ad cc own nL Ts ret) (hw : Wd D cy ad x s M H locs) (ha : At_ cy ad M x k (.inr (ci, fs))) (hci : vwCl[ci]? = some (C, T, N)) (hM : ∀ r1, f = some r1 → CT l y ws rm D cy ad (.ref (ad k) :: As) x M r1.1 (q_ou g r1.2) mc ms)
    (hG : GoodIn Ts (wsV own index C y ws)) (hws : ws = Cond.code y bytes maxL rt :: ws') (hrm : rm.cells = mc ∧ rm.slots = ms) (hd : y.cls = C ∧ y.cls ≠ "java/lang/invoke/MethodHandle" ∧ y.cls ≠ "java/lang/invoke/VarHandle" ∧ (parseMethodDescriptor y.desc).map (fun d => d.parameters.length) = some nA) (hnA : As.length = nA) (hR : rm.frames + 1 ≤ R.frames ∧ 8 + (maxL + 11) + rm.locals ≤ R.locals)
    (hls : ls.size = nL) (hcat : (rest.map fun v => v.category).sum ≤ 8) (hf : cells + mc ≤ R.cells ∧ slots + ms ≤ R.slots) (hst : st0 = As.reverse ++ .ref (ad k) :: rest) (h : q_bh f K Kx = some r) (hdg : decode cc pc = .ok (.invokevirtual index, 3))
    (kx : ∀ (M1 : Mem) (n : Nat) (H1 : Heap) (locs1 : List Loc) (q : Nat) (ce : Cell), Wd D cy ad x s M1 H1 locs1 → Kx M1 n = some r → H1[q]? = some ce → ce.vm = .none → s.vm.findClass (q_xn n) = some ce.cls → vx_W p l e R s m args below meth c H1 locs1 (cells + mc) (slots + ms) Q (F0 m pc ls rest) q)
    (kk : ∀ (M1 : Mem) (a : α) (H1 : Heap) (locs1 : List Loc), Wd D cy ad x s M1 H1 locs1 → K M1 a = some r → W p l e R s m args below meth c H1 locs1 (cells + mc) (slots + ms) Q (F0 m (pc + 3) ls ((g a).toList ++ rest))) : W p l e R s m args below meth c H locs cells slots Q (F0 m pc ls st0) := by
  obtain ⟨hx, hb, hml, hown, hts, -, hlk, hK, hZ, hV⟩ := C0
  have hr := fun r1 hf1 => vx_runV (As := As) (rest := rest) (n := nA) ⟨hx, hb, hml, hown, hts⟩ (hM r1 hf1 H.size) (cwV nA hts hG hws hrm.1 hrm.2 hd hR) (g := F0 m pc ls st0) (e := e) (meth := meth) (below := below) (locs := locs) ⟨Pw.blind, va_recv hK hw.1 (q := (C, T, N)) hci ((WL_at ha.1).trans (by rw [ha.2])), q_pre hK hZ hV hw⟩ rfl hnA hls hst (lv_room hcat) hdg hf
  intro T0 hT X
  rcases q_bh_in h with ⟨M1, a1, hf1, hk⟩ | ⟨M1, n, hf1, hk⟩
  · rcases hr _ hf1 T0 hT X with ⟨v, st₀, t, T', L, h0, X', hL, e1, e2, ⟨⟨rv, hrv, hv⟩, hP1, hF⟩, st⟩ | ⟨q, st₀, t, T', L, E, ce, h0, X', hL, e1, e2, ⟨⟨n, hn, -⟩, -⟩, -⟩
    · cases hv
      cases hrv
      obtain ⟨t2, a2, b2⟩ := kk M1 a1 T'.heap (locs ++ L) (wd_of (by rw [e1]; exact hP1) hw.2.1 (q_S (H1 := H) h0 e1 hw.2.2 hL hF)) hk T' rfl X'
      exact ⟨t2, st t2 a2, b2⟩
    · cases hn
  · rcases hr _ hf1 T0 hT X with ⟨v, st₀, t, T', L, h0, X', hL, e1, e2, ⟨⟨rv, hrv, hv⟩, -⟩, st⟩ | ⟨q, st₀, t, T', L, E, ce, h0, X', hL, e1, e2, ⟨⟨n1, hn, hE⟩, hP1, hF⟩, hce, hcv, hcl, st⟩
    · cases hrv
    · cases hn
      obtain ⟨t2, a2, b2⟩ := kx M1 n T'.heap (locs ++ L) q ce (wd_of (by rw [e1]; exact hP1) hw.2.1 (q_S (H1 := H) h0 e1 hw.2.2 hL hF)) hk (by rw [e1]; exact hce) hcv (by rw [← hE]; exact hcl) T' rfl X'
      exact ⟨t2, st.trans a2, b2⟩
theorem q_callVXi {β : Type} {y : MethodName} {ws ws' : List Cond} {rm : Room} {As : List Value} {nA : Nat} {f : Option (Mem × (Int32 ⊕ Nat))} {K : Mem → Int32 → Option β} {Kx : Mem → Nat → Option β} {r : β} {mc ms maxL ci k index N : Nat} {C : String} {T : u_T} {fs : List Value} {bytes : ByteArray} {rt : Option FieldType} {st0 : List Value}
    (C0 : MX p l s m args meth c D cy ad cc own nL Ts ret) (hw : Wd D cy ad x s M H locs) (ha : At_ cy ad M x k (.inr (ci, fs))) (hci : vwCl[ci]? = some (C, T, N)) (hM : ∀ r1, f = some r1 → CT l y ws rm D cy ad (.ref (ad k) :: As) x M r1.1 (q_ou q_vi r1.2) mc ms)
    (hG : GoodIn Ts (wsV own index C y ws)) (hws : ws = Cond.code y bytes maxL rt :: ws') (hrm : rm.cells = mc ∧ rm.slots = ms) (hd : y.cls = C ∧ y.cls ≠ "java/lang/invoke/MethodHandle" ∧ y.cls ≠ "java/lang/invoke/VarHandle" ∧ (parseMethodDescriptor y.desc).map (fun d => d.parameters.length) = some nA) (hnA : As.length = nA) (hR : rm.frames + 1 ≤ R.frames ∧ 8 + (maxL + 11) + rm.locals ≤ R.locals)
    (hls : ls.size = nL) (hcat : (rest.map fun v => v.category).sum ≤ 8) (hf : cells + mc ≤ R.cells ∧ slots + ms ≤ R.slots) (hst : st0 = As.reverse ++ .ref (ad k) :: rest) (h : q_bh f K Kx = some r) (hdg : decode cc pc = .ok (.invokevirtual index, 3))
    (kx : ∀ (M1 : Mem) (n : Nat) (H1 : Heap) (locs1 : List Loc) (q : Nat) (ce : Cell), Wd D cy ad x s M1 H1 locs1 → Kx M1 n = some r → H1[q]? = some ce → ce.vm = .none → s.vm.findClass (q_xn n) = some ce.cls → vx_W p l e R s m args below meth c H1 locs1 (cells + mc) (slots + ms) Q (F0 m pc ls rest) q)
    (kk : ∀ (M1 : Mem) (a : Int32) (H1 : Heap) (locs1 : List Loc), Wd D cy ad x s M1 H1 locs1 → K M1 a = some r → W p l e R s m args below meth c H1 locs1 (cells + mc) (slots + ms) Q (F0 m (pc + 3) ls (.int a :: rest))) : W p l e R s m args below meth c H locs cells slots Q (F0 m pc ls st0) :=
  q_callVX (g := q_vi) C0 hw ha hci hM hG hws hrm hd hnA hR hls hcat hf hst h hdg kx (fun M1 a H1 locs1 hw1 h1 => kk M1 a H1 locs1 hw1 h1)
theorem q_callVXl {β : Type} {y : MethodName} {ws ws' : List Cond} {rm : Room} {As : List Value} {nA : Nat} {f : Option (Mem × (Int64 ⊕ Nat))} {K : Mem → Int64 → Option β} {Kx : Mem → Nat → Option β} {r : β} {mc ms maxL ci k index N : Nat} {C : String} {T : u_T} {fs : List Value} {bytes : ByteArray} {rt : Option FieldType} {st0 : List Value}
    (C0 : MX p l s m args meth c D cy ad cc own nL Ts ret) (hw : Wd D cy ad x s M H locs) (ha : At_ cy ad M x k (.inr (ci, fs))) (hci : vwCl[ci]? = some (C, T, N)) (hM : ∀ r1, f = some r1 → CT l y ws rm D cy ad (.ref (ad k) :: As) x M r1.1 (q_ou q_vl r1.2) mc ms)
    (hG : GoodIn Ts (wsV own index C y ws)) (hws : ws = Cond.code y bytes maxL rt :: ws') (hrm : rm.cells = mc ∧ rm.slots = ms) (hd : y.cls = C ∧ y.cls ≠ "java/lang/invoke/MethodHandle" ∧ y.cls ≠ "java/lang/invoke/VarHandle" ∧ (parseMethodDescriptor y.desc).map (fun d => d.parameters.length) = some nA) (hnA : As.length = nA) (hR : rm.frames + 1 ≤ R.frames ∧ 8 + (maxL + 11) + rm.locals ≤ R.locals)
    (hls : ls.size = nL) (hcat : (rest.map fun v => v.category).sum ≤ 8) (hf : cells + mc ≤ R.cells ∧ slots + ms ≤ R.slots) (hst : st0 = As.reverse ++ .ref (ad k) :: rest) (h : q_bh f K Kx = some r) (hdg : decode cc pc = .ok (.invokevirtual index, 3))
    (kx : ∀ (M1 : Mem) (n : Nat) (H1 : Heap) (locs1 : List Loc) (q : Nat) (ce : Cell), Wd D cy ad x s M1 H1 locs1 → Kx M1 n = some r → H1[q]? = some ce → ce.vm = .none → s.vm.findClass (q_xn n) = some ce.cls → vx_W p l e R s m args below meth c H1 locs1 (cells + mc) (slots + ms) Q (F0 m pc ls rest) q)
    (kk : ∀ (M1 : Mem) (a : Int64) (H1 : Heap) (locs1 : List Loc), Wd D cy ad x s M1 H1 locs1 → K M1 a = some r → W p l e R s m args below meth c H1 locs1 (cells + mc) (slots + ms) Q (F0 m (pc + 3) ls (.long a :: rest))) : W p l e R s m args below meth c H locs cells slots Q (F0 m pc ls st0) :=
  q_callVX (g := q_vl) C0 hw ha hci hM hG hws hrm hd hnA hR hls hcat hf hst h hdg kx (fun M1 a H1 locs1 hw1 h1 => kk M1 a H1 locs1 hw1 h1)
theorem q_callVXf {β : Type} {y : MethodName} {ws ws' : List Cond} {rm : Room} {As : List Value} {nA : Nat} {f : Option (Mem × (UInt32 ⊕ Nat))} {K : Mem → UInt32 → Option β} {Kx : Mem → Nat → Option β} {r : β} {mc ms maxL ci k index N : Nat} {C : String} {T : u_T} {fs : List Value} {bytes : ByteArray} {rt : Option FieldType} {st0 : List Value}
    (C0 : MX p l s m args meth c D cy ad cc own nL Ts ret) (hw : Wd D cy ad x s M H locs) (ha : At_ cy ad M x k (.inr (ci, fs))) (hci : vwCl[ci]? = some (C, T, N)) (hM : ∀ r1, f = some r1 → CT l y ws rm D cy ad (.ref (ad k) :: As) x M r1.1 (q_ou q_vf r1.2) mc ms)
    (hG : GoodIn Ts (wsV own index C y ws)) (hws : ws = Cond.code y bytes maxL rt :: ws') (hrm : rm.cells = mc ∧ rm.slots = ms) (hd : y.cls = C ∧ y.cls ≠ "java/lang/invoke/MethodHandle" ∧ y.cls ≠ "java/lang/invoke/VarHandle" ∧ (parseMethodDescriptor y.desc).map (fun d => d.parameters.length) = some nA) (hnA : As.length = nA) (hR : rm.frames + 1 ≤ R.frames ∧ 8 + (maxL + 11) + rm.locals ≤ R.locals)
    (hls : ls.size = nL) (hcat : (rest.map fun v => v.category).sum ≤ 8) (hf : cells + mc ≤ R.cells ∧ slots + ms ≤ R.slots) (hst : st0 = As.reverse ++ .ref (ad k) :: rest) (h : q_bh f K Kx = some r) (hdg : decode cc pc = .ok (.invokevirtual index, 3))
    (kx : ∀ (M1 : Mem) (n : Nat) (H1 : Heap) (locs1 : List Loc) (q : Nat) (ce : Cell), Wd D cy ad x s M1 H1 locs1 → Kx M1 n = some r → H1[q]? = some ce → ce.vm = .none → s.vm.findClass (q_xn n) = some ce.cls → vx_W p l e R s m args below meth c H1 locs1 (cells + mc) (slots + ms) Q (F0 m pc ls rest) q)
    (kk : ∀ (M1 : Mem) (a : UInt32) (H1 : Heap) (locs1 : List Loc), Wd D cy ad x s M1 H1 locs1 → K M1 a = some r → W p l e R s m args below meth c H1 locs1 (cells + mc) (slots + ms) Q (F0 m (pc + 3) ls (.float a :: rest))) : W p l e R s m args below meth c H locs cells slots Q (F0 m pc ls st0) :=
  q_callVX (g := q_vf) C0 hw ha hci hM hG hws hrm hd hnA hR hls hcat hf hst h hdg kx (fun M1 a H1 locs1 hw1 h1 => kk M1 a H1 locs1 hw1 h1)
theorem q_callVXd {β : Type} {y : MethodName} {ws ws' : List Cond} {rm : Room} {As : List Value} {nA : Nat} {f : Option (Mem × (UInt64 ⊕ Nat))} {K : Mem → UInt64 → Option β} {Kx : Mem → Nat → Option β} {r : β} {mc ms maxL ci k index N : Nat} {C : String} {T : u_T} {fs : List Value} {bytes : ByteArray} {rt : Option FieldType} {st0 : List Value}
    (C0 : MX p l s m args meth c D cy ad cc own nL Ts ret) (hw : Wd D cy ad x s M H locs) (ha : At_ cy ad M x k (.inr (ci, fs))) (hci : vwCl[ci]? = some (C, T, N)) (hM : ∀ r1, f = some r1 → CT l y ws rm D cy ad (.ref (ad k) :: As) x M r1.1 (q_ou q_vd r1.2) mc ms)
    (hG : GoodIn Ts (wsV own index C y ws)) (hws : ws = Cond.code y bytes maxL rt :: ws') (hrm : rm.cells = mc ∧ rm.slots = ms) (hd : y.cls = C ∧ y.cls ≠ "java/lang/invoke/MethodHandle" ∧ y.cls ≠ "java/lang/invoke/VarHandle" ∧ (parseMethodDescriptor y.desc).map (fun d => d.parameters.length) = some nA) (hnA : As.length = nA) (hR : rm.frames + 1 ≤ R.frames ∧ 8 + (maxL + 11) + rm.locals ≤ R.locals)
    (hls : ls.size = nL) (hcat : (rest.map fun v => v.category).sum ≤ 8) (hf : cells + mc ≤ R.cells ∧ slots + ms ≤ R.slots) (hst : st0 = As.reverse ++ .ref (ad k) :: rest) (h : q_bh f K Kx = some r) (hdg : decode cc pc = .ok (.invokevirtual index, 3))
    (kx : ∀ (M1 : Mem) (n : Nat) (H1 : Heap) (locs1 : List Loc) (q : Nat) (ce : Cell), Wd D cy ad x s M1 H1 locs1 → Kx M1 n = some r → H1[q]? = some ce → ce.vm = .none → s.vm.findClass (q_xn n) = some ce.cls → vx_W p l e R s m args below meth c H1 locs1 (cells + mc) (slots + ms) Q (F0 m pc ls rest) q)
    (kk : ∀ (M1 : Mem) (a : UInt64) (H1 : Heap) (locs1 : List Loc), Wd D cy ad x s M1 H1 locs1 → K M1 a = some r → W p l e R s m args below meth c H1 locs1 (cells + mc) (slots + ms) Q (F0 m (pc + 3) ls (.double a :: rest))) : W p l e R s m args below meth c H locs cells slots Q (F0 m pc ls st0) :=
  q_callVX (g := q_vd) C0 hw ha hci hM hG hws hrm hd hnA hR hls hcat hf hst h hdg kx (fun M1 a H1 locs1 hw1 h1 => kk M1 a H1 locs1 hw1 h1)
theorem q_catch {n : Nat} {name : String} {q : Addr} {ce : Cell} {hh : List (Nat × Nat × Nat × Nat)} (C0 : MX p l s m args meth c D cy ad cc own nL Ts ret) (htab : c.exceptionTable.toList = tableOf hh) (pre : List ExceptionTableEntry) (z : ExceptionTableEntry) (suf : List ExceptionTableEntry) (hs : tableOf hh = pre ++ z :: suf)
    (hpass : ∀ w ∈ pre, covers w pc = false ∨ (w.catchType ≠ 0 ∧ ∃ nm : String, Cond.classLink own w.catchType nm ∈ Ts ∧ (q_xn n, nm) ∈ q_ncs)) (hc : covers z pc = true) (h0 : z.catchType ≠ 0) (hl : Cond.classLink own z.catchType name ∈ Ts) (hn : q_xn n = name) (hE : name ∈ q_exs) (hce : H[q]? = some ce) (hcv : ce.vm = .none) (hcl : s.vm.findClass (q_xn n) = some ce.cls)
    (kk : W p l e R s m args below meth c H locs cells slots Q (F0 m z.handlerPc ls [.ref q])) : vx_W p l e R s m args below meth c H locs cells slots Q (F0 m pc ls rest) q := by
  obtain ⟨hx, hb, hml, hown, hts, -, hlk, hK, hZ, hV⟩ := C0
  refine vx_catch (E := q_xn n) (name := name) hown pre z suf (htab.trans hs) (fun w hw => ?_) hc h0 (hts _ hl) (by rw [hn]; exact va_Nw.use rfl (hV.2.1 _ hE)) hce hcv hcl kk
  rcases hpass w hw with h | ⟨h1, nm, h2, h3⟩
  · exact Or.inl h
  · exact Or.inr ⟨h1, nm, hts _ h2, hV.2.2.2 _ h3⟩
def QW (D : va_G) (cy : Nat → ClassId) (ad : Nat → Nat) (below : List Frame) (args : Array Value) (s : State) (r : Mem × (XX × Int32)) (mc ms : Nat) : State → Prop := MQ below (q_QN D cy ad r.2.1 r.1 (q_vi r.2.2) s.heap.size) args s mc ms (AA ad s.heap.size)
theorem q_iretW {y : Int32} {r : Mem × (XX × Int32)} {mc ms : Nat} (C0 : MX p l s m args meth c D cy ad cc own nL Ts (some .int)) (hw : Wd D cy ad x s M H locs) (h : some (M, (x, y)) = some r) (hc : cells ≤ mc ∧ slots ≤ ms) (hdg : decode cc pc = .ok (.ireturn, 1)) : W p l e R s m args below meth c H locs cells slots (QW D cy ad below args s r mc ms) (F0 m pc ls [.int y]) := by
  obtain ⟨hx, hb, hml, hown, hts, hr, hlk, -⟩ := C0
  cases h
  refine W.widen hc.1 hc.2 ?_
  exact W.iret (v := y) hx hb hr (fun t ht hW => ⟨rfl, by rw [ht]; exact hw.1, hw.2.2.F ht⟩) hw.2.2.2.2 hdg hlk
def q_bw {β : Type} (f : Option (Mem × (XX × Int32))) (k : Mem → XX → Int32 → Option β) : Option β := match f with
  | none => none
  | some r => k r.1 r.2.1 r.2.2
theorem q_bw_in {β : Type} {f : Option (Mem × (XX × Int32))} {k : Mem → XX → Int32 → Option β} {r : β} (h : q_bw f k = some r) : ∃ M1 x1 a, f = some (M1, (x1, a)) ∧ k M1 x1 a = some r := by
  cases f with
  | none => cases h
  | some q => exact ⟨q.1, q.2.1, q.2.2, rfl, h⟩
theorem q_callSW {β : Type} {y : MethodName} {ws ws' : List Cond} {rm : Room} {As : List Value} {nA : Nat} {f : Option (Mem × (XX × Int32))} {K : Mem → XX → Int32 → Option β} {r : β} {mc ms maxL index : Nat} {bytes : ByteArray} {rt : Option FieldType} {st0 : List Value} {hh : List (Nat × Nat × Nat × Nat)}
    (C0 : MX p l s m args meth c D cy ad cc own nL Ts ret) (hw : Wd D cy ad x s M H locs) (hM : ∀ r1, f = some r1 → CN l y ws rm D cy ad As x M r1.2.1 r1.1 (q_vi r1.2.2) mc ms)
    (hG : GoodIn Ts (va_wsS own index y ws)) (hws : ws = Cond.codeWith y bytes maxL rt hh :: ws') (hrm : rm.cells = mc ∧ rm.slots = ms) (hd : y.cls ≠ "java/lang/invoke/MethodHandle" ∧ y.cls ≠ "java/lang/invoke/VarHandle" ∧ (parseMethodDescriptor y.desc).map (fun d => d.parameters.length) = some nA) (hnA : As.length = nA) (hR : rm.frames + 1 ≤ R.frames ∧ 8 + (maxL + 11) + rm.locals ≤ R.locals)
    (hls : ls.size = nL) (hcat : (rest.map fun v => v.category).sum ≤ 8) (hf : cells + mc ≤ R.cells ∧ slots + ms ≤ R.slots) (hst : st0 = As.reverse ++ rest) (h : q_bw f K = some r) (hdg : decode cc pc = .ok (.invokestatic index, 3))
    (kk : ∀ (M1 : Mem) (x1 : XX) (a : Int32) (H1 : Heap) (locs1 : List Loc), Wd D cy ad x1 s M1 H1 locs1 → K M1 x1 a = some r → W p l e R s m args below meth c H1 locs1 (cells + mc) (slots + ms) Q (F0 m (pc + 3) ls (.int a :: rest))) : W p l e R s m args below meth c H locs cells slots Q (F0 m pc ls st0) := by
  obtain ⟨hx, hb, hml, hown, hts, -, -, hK, hZ, hV⟩ := C0
  obtain ⟨M1, x1, a, hfr, hk⟩ := q_bw_in h
  refine q_afterN hw (vx_runSW (As := As) (rest := rest) (n := nA) ⟨hx, hb, hml, hown, hts⟩ (hM _ hfr H.size) (vx_cwSW nA hts hG hws hrm.1 hrm.2 hd hR) ⟨Pw.blind, q_pre hK hZ hV hw⟩ rfl hnA hls hst (lv_room hcat) hdg hf) (fun H1 locs1 hw1 => ?_)
  exact kk M1 x1 a H1 locs1 hw1 hk
end QL
