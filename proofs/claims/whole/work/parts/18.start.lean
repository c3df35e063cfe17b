/-! THE CLAIM OUT OF ONE WALK OF THE LAW'S BODY. Your part is whole_start (and what it stands on); all else here is the same for every law, but numbers. -/
def R_law : String := "HomewatcherLaw"
def lw_P (b : Addr) (xs : List Int32) (args : Array Value) (s : State) : Prop := args = #[.ref b] ∧ s.IntsAt b xs ∧ xs.length ≤ 3072 ∧ (Jvm.Cond.and given_1 narrow_1).before args s = true
/-- what a walk over the start with the record d0 says of its end, said of the start itself -/
theorem lw_closed {s t : State} {o : Outcome} {d0 : Drawn} {L : List Loc} {k n : Nat} (hd0 : s.drawn.sameBut d0 lw_cs) (hv : ∃ v, o = .returned v) (hW : (s.setDrawn d0).WarmedH t.vm) (hs : (s.setDrawn d0).sameButNew ({ t with vm := s.vm } : State) L k n) : State.butDraws s t lw_cs (fun t1 => Framed s o t1 L k n) := by
  have h2 : t.drawn = d0 := congrArg State.drawn hs.1
  refine ⟨⟨hv, hW, State.sameButNew.setDrawn hs s.drawn⟩, ?_, by decide⟩
  rw [h2]
  exact hd0
def lw_Q (_ : Array Value) (s : State) (o : Outcome) (t : State) : Prop := o = .returned (some (.int 1)) ∧ State.butDraws s t lw_cs (fun t1 => Framed s o t1 [] 603072 7211114)
def lw_Z (below : List Frame) (a : Array Value) (s : State) : State → Prop := fun t => ∃ o, t.status = .running ∧ Ended t below o ∧ lw_Q a s o t
/-- the law's own end, with 1 on the stack, nothing written that was there before, its room as the claim has it; d0: the record of draws at this point (at the entry s.drawn: begin with 'refine W.base ?_' and 'have hd0 := Drawn.sameBut.refl s.drawn lw_cs') -/
theorem lw_ret {p : Program} {l : Launch} {e : Env} {s : State} {m : MethodId} {below : List Frame} {meth : Method} {c : Code} {b : Nat} {d0 : Drawn} (hd0 : s.drawn.sameBut d0 lw_cs) (hx : p.tables.exec = Jvm.exec) (hb : c.code = code) (hr : meth.sig.returnType = ret) (hlocks : meth.locks = false) {pc : Nat} {H : Heap} {ls : Array Slot} (hdg : decode code pc = .ok (.ireturn, 1)) : W p l e room_1 (s.setDrawn d0) m #[Value.ref b] below meth c H [] 603072 7211114 (lw_Z below #[Value.ref b] s) (F0 m pc ls [.int 1]) := by
  intro T hT X
  obtain ⟨fs, hret, hrun, hended, hW, hframe⟩ := X.leave (v := some (.int 1)) (hlocks := hlocks) (fun h => by rw [hr] at h; cases h)
  have hmeth' : T.vm.method? m = some meth := X.method'
  refine ⟨T.setFrames fs, ?_, .returned (some (.int 1)), hrun, hended, rfl, lw_closed hd0 ⟨_, rfl⟩ hW hframe⟩
  jvm_step X.here [X.here.top, hx, hb, hdg, hmeth', hr, ret, narrow_b1]
  (try refine ⟨rfl, ?_⟩); (try refine ⟨rfl, ?_⟩)
  first | (intro acts; rw [hret _ acts rfl rfl rfl]) | rw [hret _ _ rfl rfl rfl]
  exact Steps.refl _
/-- what holds at the law's entry: the machine, the code, the tables' words (any of lw_tbl by 'hts w (by decide +kernel)'), the script of L ints xs at the cell b, what the Statement gives of the start (any of its parts by flat_of_before) -/
def lw_At (p : Program) (s : State) (m : MethodId) (meth : Method) (c : Code) (b L : Nat) (xs : Nat → Int32) : Prop :=
  p.tables.exec = Jvm.exec ∧ c.code = code ∧ meth.sig.returnType = ret ∧ c.maxLocals = 9 ∧ s.vm.findClass R_law = some m.cls ∧ (∀ w ∈ lw_tbl, w.before #[Value.ref b] s = true) ∧ va_X b L xs s s.heap ∧ b < s.heap.size ∧ meth.locks = false ∧ (Jvm.Cond.and given_1 narrow_1).before #[Value.ref b] s = true
section QS
theorem q_pick {s : State} {cl : List vw_C} (h : ∀ (c : Nat) (q : vw_C), cl[c]? = some q → ∃ (cC : ClassId) (iS : Nat → Nat), u_Kn s q.1 q.2.1 q.2.2 cC iS) : ∃ D : va_G, ∀ (c : Nat) (q : vw_C), cl[c]? = some q → u_Kn s q.1 q.2.1 q.2.2 (D.1 c) (D.2 c) := by
  have h' : ∀ c : Nat, ∃ r : ClassId × (Nat → Nat), ∀ q : vw_C, cl[c]? = some q → u_Kn s q.1 q.2.1 q.2.2 r.1 r.2 := fun c => by
    rcases hc : cl[c]? with _ | q
    · exact ⟨(0, fun _ => 0), fun q hq => by cases hq⟩
    · obtain ⟨a, b, hab⟩ := h c q hc
      exact ⟨(a, b), fun q' hq => by cases hq; exact hab⟩
  exact ⟨(fun c => (Classical.choose (h' c)).1, fun c => (Classical.choose (h' c)).2), fun c q hq => Classical.choose_spec (h' c) q hq⟩
theorem q_arr {s : State} {args : Array Value} {ty : FieldType} (h : (Cond.arrayClass ty).before args s = true) (hr : ∀ cA, s.vm.findClass ("[" ++ ty.toString) = some cA → va_RA s cA ty) : ∃ cA, ArrOfT s cA ty ∧ va_RA s cA ty := by
  obtain ⟨c, k, comp, h1, h2, h3⟩ := Cond.arrayClass_spec h
  exact ⟨c, fun n z => ⟨fun k h => (by cases h), k, h2, comp, h3⟩, hr c h1⟩
theorem q_arrO {s : State} {C : String} (h : va_AO C s) : ∃ cA, ArrOfT s cA (.object C) ∧ va_RA s cA (.object C) := by
  obtain ⟨comp, c, k, h1, -, h2, h3, h4⟩ := Cond.arrayOver_spec h
  exact ⟨c, fun n z => ⟨fun k h => (by cases h), k, h2, comp, h3⟩, k, comp, h2, h3, h1, h4⟩
theorem q_str {s : State} {A : Array Value} {own tx : String} {k : Nat} (h : (Cond.stringRef own k tx).before A s = true) : ∃ a : Nat, vk_R own k tx a s := by
  cases hcur : s.vm.findClass own with
  | none => simp [Cond.before, Cond.holds, Cond.value, hcur] at h
  | some cur =>
    obtain ⟨k', cf, i, a, -, -, -, -, -, h2⟩ := Cond.stringRef_spec hcur h
    exact ⟨a, vk_R.of h h2⟩
set_option maxRecDepth 100000 in
set_option maxHeartbeats 4000000 in
theorem q_w_J0 : ∀ w ∈ u_ws RJ0 TJ0 2, w ∈ lw_tbl := q_memp _ [462, 464] rfl
set_option maxRecDepth 100000 in
set_option maxHeartbeats 4000000 in
theorem q_w_J6 : ∀ w ∈ u_ws RJx00060 TJx00060 6, w ∈ lw_tbl := q_memp _ [450, 451, 452, 453, 454, 455] rfl
set_option maxRecDepth 100000 in
set_option maxHeartbeats 4000000 in
theorem q_w_inst : ∀ w ∈ ([.instantiable RJ0 4, .instantiable RJx00060 6, .instantiable RX0 3, .instantiable RX1 4, .instantiable RX2 5, .instantiable RX3 2, .instantiable RX4 10, .instantiable RX5 17, .instantiable RX6 35] : List Cond), w ∈ lw_tbl := q_memp _ [461, 443, 92, 187, 115, 74, 138, 64, 918] rfl
set_option maxRecDepth 100000 in
set_option maxHeartbeats 4000000 in
theorem q_w_arr : ∀ w ∈ ([.arrayClass .int, .arrayClass .char, .arrayClass .boolean, .arrayClass .long, .arrayClass .double] : List Cond), w ∈ lw_tbl := q_memp _ [88, 1029, 1030, 1301, 1302] rfl
set_option maxRecDepth 100000 in
set_option maxHeartbeats 4000000 in
theorem q_w_AO : ∀ w ∈ (["Homewatcher$Task", "Homewatcher$Version", "Homewatcher$Hit"].map (fun C => Cond.arrayOver (.object C)) : List Cond), w ∈ lw_tbl := q_memp _ [72, 90, 114] rfl
set_option maxRecDepth 100000 in
set_option maxHeartbeats 4000000 in
theorem q_w_nest : ∀ w ∈ (q_nest.map (fun q => Cond.methodLinkNest q.1 q.2.1 q.2.2 "Homewatcher") : List Cond), w ∈ lw_tbl := q_memp _ [75, 116, 139, 144, 188] rfl
set_option maxRecDepth 100000 in
set_option maxHeartbeats 4000000 in
theorem q_w_str : ∀ w ∈ (q_strs.map (fun q => Cond.stringRef q.1 q.2.1 q.2.2) : List Cond), w ∈ lw_tbl := q_memp _ [396, 432, 483, 487, 499, 500, 509, 529, 534, 547, 573, 602, 607, 612, 622, 634, 635, 652, 678, 691, 703, 709, 765, 781, 816, 835, 843, 855, 907, 916] rfl
set_option maxRecDepth 100000 in
set_option maxHeartbeats 4000000 in
theorem q_w_cast : ∀ w ∈ (q_exs.map (fun E => Cond.castable E E) : List Cond), w ∈ lw_tbl := q_memp _ [353, 425, 476, 566, 615, 900] rfl
set_option maxRecDepth 100000 in
set_option maxHeartbeats 4000000 in
theorem q_w_decl : ∀ w ∈ (q_sups.map (fun E => Cond.declares (Bundle.initS E)) : List Cond), w ∈ lw_tbl := q_memp _ [355, 357, 359] rfl
set_option maxRecDepth 100000 in
set_option maxHeartbeats 4000000 in
theorem q_w_lays : ∀ w ∈ ([.laysStatic Bundle.tN "UNASSIGNED_STACK" Bundle.steD, .laysStatic Bundle.tN "SUPPRESSED_SENTINEL" Bundle.listD, .initialized Bundle.tN] : List Cond), w ∈ lw_tbl := q_memp _ [378, 380, 51] rfl
set_option maxRecDepth 100000 in
set_option maxHeartbeats 4000000 in
theorem q_w_new : ∀ w ∈ ([.classLink RL 8 RX5, .instantiable RX5 17, .initialized RX5, .classLink RL 132 RX6, .instantiable RX6 35, .initialized RX6, .arrayClass .long, .arrayClass .double] : List Cond), w ∈ lw_tbl := q_memp _ [63, 64, 43, 917, 918, 50, 1301, 1302] rfl
set_option maxRecDepth 100000 in
theorem q_w_nc : ∀ q ∈ q_ncs, Cond.not (.castable q.1 q.2) ∈ (flatC (Jvm.Cond.and given_1 narrow_1)) := by decide +kernel
theorem q_setup {p : Program} {s : State} {m : MethodId} {meth : Method} {c : Code} {b L : Nat} {xs : Nat → Int32} (C0 : lw_At p s m meth c b L xs) : ∃ (D : va_G) (cy : Nat → ClassId), va_K D vwCl (tyL cy) s ∧ XJ s ∧ VK s ∧ ∀ ad : Nat → Nat, (∀ k, k < 455 → s.heap.size ≤ ad k) → ZZ (AA ad s.heap.size) s s.heap := by
  obtain ⟨hx, hb, hr, hml, hown, hts, hX, hbl, hlk, hgv⟩ := C0
  have hfl := flat_of_before _ hgv
  have hO : ∀ C, C ∈ ["Homewatcher$Task", "Homewatcher$Version", "Homewatcher$Hit"] → va_AO C s := fun C hC => va_AO.of (hts (.arrayOver (.object C)) (q_w_AO _ (List.mem_map_of_mem (f := fun C => Cond.arrayOver (.object C)) hC)))
  have o5 := hO "Homewatcher$Task" (by simp)
  have o6 := hO "Homewatcher$Version" (by simp)
  have o7 := hO "Homewatcher$Hit" (by simp)
  obtain ⟨D, hD⟩ := q_pick (s := s) (cl := vwCl) (fun c q hq => by
    have hc : c < 9 := (List.getElem?_eq_some_iff.mp hq).1
    rcases (show c = 0 ∨ c = 1 ∨ c = 2 ∨ c = 3 ∨ c = 4 ∨ c = 5 ∨ c = 6 ∨ c = 7 ∨ c = 8 by omega) with rfl | rfl | rfl | rfl | rfl | rfl | rfl | rfl | rfl <;> cases hq
    · exact u_known (n := 4) hts q_w_J0 (hts _ (q_w_inst _ (List.mem_of_getElem? (i := 0) rfl)))
    · exact u_known (n := 6) hts q_w_J6 (hts _ (q_w_inst _ (List.mem_of_getElem? (i := 1) rfl)))
    · exact u_known (n := 3) hts wsX00_in (hts _ (q_w_inst _ (List.mem_of_getElem? (i := 2) rfl)))
    · exact u_known (n := 4) hts wsX10_in (hts _ (q_w_inst _ (List.mem_of_getElem? (i := 3) rfl)))
    · exact u_known (n := 5) hts wsX20_in (hts _ (q_w_inst _ (List.mem_of_getElem? (i := 4) rfl)))
    · exact u_known (n := 2) hts wsX30_in (hts _ (q_w_inst _ (List.mem_of_getElem? (i := 5) rfl)))
    · exact u_known (n := 10) hts wsX40_in (hts _ (q_w_inst _ (List.mem_of_getElem? (i := 6) rfl)))
    · exact u_known (n := 17) hts wsX50_in (hts _ (q_w_inst _ (List.mem_of_getElem? (i := 7) rfl)))
    · exact u_known (n := 35) hts wsX60_in (hts _ (q_w_inst _ (List.mem_of_getElem? (i := 8) rfl))))
  obtain ⟨c0, a0⟩ := q_arr (ty := .int) (hts _ (q_w_arr _ (List.mem_of_getElem? (i := 0) rfl))) (fun _ h => h)
  obtain ⟨c1, a1⟩ := q_arr (ty := .char) (hts _ (q_w_arr _ (List.mem_of_getElem? (i := 1) rfl))) (fun _ h => h)
  obtain ⟨c2, a2⟩ := q_arr (ty := .boolean) (hts _ (q_w_arr _ (List.mem_of_getElem? (i := 2) rfl))) (fun _ h => h)
  obtain ⟨c3, a3⟩ := q_arr (ty := .long) (hts _ (q_w_arr _ (List.mem_of_getElem? (i := 3) rfl))) (fun _ h => h)
  obtain ⟨c4, a4⟩ := q_arr (ty := .double) (hts _ (q_w_arr _ (List.mem_of_getElem? (i := 4) rfl))) (fun _ h => h)
  obtain ⟨c5, a5⟩ := q_arrO o5
  obtain ⟨c6, a6⟩ := q_arrO o6
  obtain ⟨c7, a7⟩ := q_arrO o7
  refine ⟨D, fun k => match k with | 0 => c0 | 1 => c1 | 2 => c2 | 3 => c3 | 4 => c4 | 5 => c5 | 6 => c6 | _ => c7, ⟨hD, fun k q hq => ?_⟩, ⟨o5, o6, o7, fun q hq => va_Nw.of rfl (hts _ (q_w_nest _ (List.mem_map_of_mem (f := fun q => Cond.methodLinkNest q.1 q.2.1 q.2.2 "Homewatcher") hq)))⟩, ⟨fun q hq => q_str (hts _ (q_w_str _ (List.mem_map_of_mem (f := fun q => Cond.stringRef q.1 q.2.1 q.2.2) hq))), fun E hE => va_Nw.of rfl (hts _ (q_w_cast _ (List.mem_map_of_mem (f := fun E => Cond.castable E E) hE))), fun E hE => va_Nw.of rfl (hts _ (q_w_decl _ (List.mem_map_of_mem (f := fun E => Cond.declares (Bundle.initS E)) hE))), fun q hq => va_Nc.of (hfl _ (q_w_nc q hq))⟩, fun ad had => ?_⟩
  · have hc : k < 8 := (List.getElem?_eq_some_iff.mp hq).1
    rcases (show k = 0 ∨ k = 1 ∨ k = 2 ∨ k = 3 ∨ k = 4 ∨ k = 5 ∨ k = 6 ∨ k = 7 by omega) with rfl | rfl | rfl | rfl | rfl | rfl | rfl | rfl <;> cases hq
    · exact a0
    · exact a1
    · exact a2
    · exact a3
    · exact a4
    · exact a5
    · exact a6
    · exact a7
  · have hA : ∀ a : Nat, a < s.heap.size → ¬ AA ad s.heap.size a := fun a ha h => by
      rcases h with ⟨k, hk, rfl⟩ | h
      · have := had k hk
        omega
      · omega
    exact ⟨vx_Zqof (hts _ (q_w_lays _ (List.mem_of_getElem? (i := 0) rfl))) (hts _ (q_w_lays _ (List.mem_of_getElem? (i := 2) rfl))) (hfl _ (by decide +kernel)) hA, vx_Zqof (hts _ (q_w_lays _ (List.mem_of_getElem? (i := 1) rfl))) (hts _ (q_w_lays _ (List.mem_of_getElem? (i := 2) rfl))) (hfl _ (by decide +kernel)) hA⟩
/-- the cells that were made are the world -/
theorem q_world {D : va_G} {cy : Nat → ClassId} {h0 : Nat} {adA : Nat → Nat} {wA : Nat → va_E} {f g h : Nat → Option Nat} {C : va_W} {H : Heap} {A : Nat → Prop} (hs : HWs cy h0 427 f g h adA wA) (hf : ∀ j, j < 10 → f j = some (adA (cTask j))) (hg : ∀ j, j < 60 → g j = some (adA (cVer j))) (hh : ∀ j, j < 40 → h j = some (adA (cHit j))) (hlen : C.length = 28)
    (hc : ∀ i, i < 28 → (C.getD i dE).2 = wc cy (adx adA 427 C) M0 x0 (427 + i)) (hP : va_P D vwCl (WFa adA 427 wA ++ C) H) (hD : va_D A (WFa adA 427 wA ++ C)) : va_P D vwCl (WL cy (adx adA 427 C) M0 x0) H ∧ va_D A (WL cy (adx adA 427 C) M0 x0) := by
  rw [WFa_app, hlen] at hP hD
  have hR : ∀ (n : Nat) (cA : ClassId) (a : Nat) (u v : Nat → Option Nat), (∀ j, j < n → u j = v j) → va_at D vwCl (a, wR cA n u) H → va_at D vwCl (a, wR cA n v) H := fun n cA a u v huv h1 => by
    have h2 : H[a]? = some (vp_cell cA (n, .inr (.inr (.inr (.inr u))))) := h1
    show H[a]? = some (vp_cell cA (n, .inr (.inr (.inr (.inr v)))))
    rw [h2, vp_cell_q, vp_cell_q]
    exact congrArg some (arrV_ext fun j hj => by rw [huv j hj])
  refine ⟨fun k q hk => ?_, fun i j p q hi hj hpq => ?_, fun k q hk => ?_⟩
  · obtain ⟨hk5, rfl⟩ := WL_inv hk
    have h1 := hP k _ (WFa_at hk5)
    by_cases h427 : k < 427
    · have hw : (if k < 427 then wA k else (C.getD (k - 427) dE).2) = wA k := if_pos h427
      rw [hw] at h1
      by_cases k3 : k = 3
      · subst k3
        rw [hs.2.2.1] at h1
        exact hR 10 _ _ _ _ (fun j hj => (hf j hj).trans (congrArg some (adx_l (by unfold cTask; omega)).symm)) h1
      by_cases k6 : k = 6
      · subst k6
        rw [hs.2.2.2.1] at h1
        exact hR 60 _ _ _ _ (fun j hj => (hg j hj).trans (congrArg some (adx_l (by unfold cVer; omega)).symm)) h1
      by_cases k16 : k = 16
      · subst k16
        rw [hs.2.2.2.2] at h1
        exact hR 40 _ _ _ _ (fun j hj => (hh j hj).trans (congrArg some (adx_l (by unfold cHit; omega)).symm)) h1
      rw [hs.2.1 k h427 k3 k6 k16, wc_ad (n := 427) (ad' := adx adA 427 C) (fun j hj => (adx_l hj).symm) (by decide) (Or.inr (Or.inr (by decide))) h427 h427 k3 k6 k16] at h1
      exact h1
    · have hw : (if k < 427 then wA k else (C.getD (k - 427) dE).2) = (C.getD (k - 427) dE).2 := if_neg h427
      rw [hw, hc (k - 427) (by omega), show 427 + (k - 427) = k by omega] at h1
      exact h1
  · obtain ⟨h1, rfl⟩ := WL_inv hi
    obtain ⟨h2, rfl⟩ := WL_inv hj
    exact hD.1 i j _ _ (WFa_at h1) (WFa_at h2) hpq
  · obtain ⟨h1, rfl⟩ := WL_inv hk
    exact hD.2 k (adx adA 427 C k, wx wA 427 C k) (WFa_at h1)
set_option maxHeartbeats 4000000 in
set_option maxRecDepth 100000 in
theorem q_new {p : Program} {l : Launch} {e : Env} {s : State} {m : MethodId} {below : List Frame} {meth : Method} {c : Code} {D : va_G} {cy : Nat → ClassId} {Q : State → Prop} {b L : Nat} {xs : Nat → Int32} (C0 : lw_At p s m meth c b L xs) (hK : va_K D vwCl (tyL cy) s) (hXJ : XJ s)
    (kk : ∀ (ad : Nat → Nat) (H : Heap) (locs : List Loc) (ls : Array Slot), va_P D vwCl (WL cy ad M0 x0) H → va_D (fun q => s.heap.size ≤ q) (WL cy ad M0 x0) → va_S (fun q => s.heap.size ≤ q) s.heap H locs → lv_has ls 9 [(5, .int 0), (4, .ref (ad 454)), (3, .ref (ad 453)), (2, .ref (ad 427)), (1, .ref (ad 0)), (0, .ref b)] → W p l e room_1 s m #[Value.ref b] below meth c H locs 455 22921 Q (F0 m 28 ls [])) : W p l e room_1 s m #[Value.ref b] below meth c s.heap [] 0 0 Q (entryFrame m ([Value.ref b] : List Value).toArray 9) := by
  obtain ⟨hx, hb, hr, hml, hown, hts, hX, hbl, hlk, hgv⟩ := C0
  have J1 : MJ p s m #[Value.ref b] meth c D cy (fun q => s.heap.size ≤ q) cL_law RL 9 lw_tbl ret := ⟨hx, hb, hml, hown, hts, hr, hlk, hK, fun q h => h⟩
  have J2 : MJ p s m #[Value.ref b] meth c D cy (fun q => s.heap.size ≤ q) cL_law RL 9 wsL_law ret := ⟨hx, hb, hml, hown, fun w h => hts w (wsL_law_in w h), hr, hlk, hK, fun q h => h⟩
  have hl := lv_entry [Value.ref b] (n := 9) (Nat.le_of_ble_eq_true rfl)
  rw [lg_entry_eq]
  generalize (lg_sl [Value.ref b] ++ List.replicate (9 - (lg_sl [Value.ref b]).length) Slot.unset).toArray = ls at hl ⊢
  have hl : lv_has ls 9 [(0, .ref b)] := hl
  have hw : Jw D cy (fun q => s.heap.size ≤ q) s [] [] s.heap [] := ⟨fun k q h => (by cases h), ⟨fun i j p q h => (by cases h), fun k q h => (by cases h)⟩, va_S.rf⟩
  refine j_new (C := RX5) (T := TX5) (N := 17) (ci := 7) (fs := [.null, .int 0, .null, .int 0, .null, .int 0, .int 0, .null, .null, .int 0, .int 0, .null, .null, .null, .null, .int 0, .int 0]) tyX5 J1 hw wsX50_in tyX5_ok (q_w_new _ (List.mem_of_getElem? (i := 0) rfl)) (q_w_new _ (List.mem_of_getElem? (i := 1) rfl)) (q_w_new _ (List.mem_of_getElem? (i := 2) rfl)) rfl df5 ⟨(Nat.le_of_ble_eq_true rfl), (Nat.le_of_ble_eq_true rfl)⟩ dL_law_0 (fun h0 H hw0 => ?_)
  have hw0 : Jw D cy (fun q => s.heap.size ≤ q) s [] ([] ++ [(h0, .inr (7, [.null, .int 0, .null, .int 0, .null, .int 0, .int 0, .null, .null, .int 0, .int 0, .null, .null, .null, .null, .int 0, .int 0]))]) H _ := hw0
  refine lv_dup hx hb dL_law_3 rfl ?_
  refine j_callI (cur := []) (h0 := h0) (As := []) (nA := 0) J2 XK_t hXJ hw0 (ctX5_init (D := D) (cy := cy) (h0 := h0)) gL_law_X5_init rfl ⟨rfl, rfl⟩ (List.mem_of_getElem? (i := 2) rfl) (List.mem_of_getElem? (i := 8) rfl) (List.mem_of_getElem? (i := 9) rfl) rfl (by decide +kernel) rfl ⟨(Nat.le_of_ble_eq_true rfl), (Nat.le_of_ble_eq_true rfl)⟩ hl.1 (Nat.le_of_ble_eq_true rfl) ⟨(Nat.le_of_ble_eq_true rfl), (Nat.le_of_ble_eq_true rfl)⟩ rfl dL_law_4 (fun cur1 H locs hB hw => ?_)
  obtain ⟨adA, wA, f, g, h, rfl, hs, hf, hg, hh⟩ := hB
  have hw : Jw D cy (fun q => s.heap.size ≤ q) s [] (WFa adA 427 wA) H _ := hw
  have h0e : h0 = adA 0 := hs.1.symm
  subst h0e
  refine lv_astore_n (lv' := [(1, .ref (adA 0)), (0, .ref b)]) hx hb dL_law_7 rfl hl (by decide) rfl (fun ls hl => ?_)
  refine j_new (C := RX6) (T := TX6) (N := 35) (ci := 8) (fs := [.int 0, .int 0, .int 0, .int 0, .int 0, .int 0, .int 0, .int 0, .int 0, .int 0, .null, .null, .null, .null, .null, .null, .null, .null, .null, .null, .null, .null, .null, .null, .null, .null, .null, .null, .null, .null, .null, .null, .null, .null, .null]) tyX6 J1 hw wsX60_in tyX6_ok (q_w_new _ (List.mem_of_getElem? (i := 3) rfl)) (q_w_new _ (List.mem_of_getElem? (i := 4) rfl)) (q_w_new _ (List.mem_of_getElem? (i := 5) rfl)) rfl df6 ⟨(Nat.le_of_ble_eq_true rfl), (Nat.le_of_ble_eq_true rfl)⟩ dL_law_8 (fun q1m H hw => ?_)
  refine lv_dup hx hb dL_law_11 rfl ?_
  refine j_callI (cur := WFa adA 427 wA) (h0 := q1m) (As := []) (nA := 0) J2 XK_t hXJ hw (ctX6_init (D := D) (cy := cy) (h0 := q1m)) gL_law_X6_init rfl ⟨rfl, rfl⟩ (List.mem_of_getElem? (i := 5) rfl) (List.mem_of_getElem? (i := 72) rfl) (List.mem_of_getElem? (i := 73) rfl) rfl (by decide +kernel) rfl ⟨(Nat.le_of_ble_eq_true rfl), (Nat.le_of_ble_eq_true rfl)⟩ hl.1 (Nat.le_of_ble_eq_true rfl) ⟨(Nat.le_of_ble_eq_true rfl), (Nat.le_of_ble_eq_true rfl)⟩ rfl dL_law_12 (fun cur1 H locs hB hw => ?_)
  obtain ⟨q1, q2, q3, q4, q5, q6, q7, q8, q9, q10, q11, q12, q13, q14, q15, q16, q17, q18, q19, q20, q21, q22, q23, q24, q25, hB⟩ := hB
  subst hB
  refine lv_astore_n (lv' := [(2, .ref q1m), (1, .ref (adA 0)), (0, .ref b)]) hx hb dL_law_15 rfl hl (by decide) rfl (fun ls hl => ?_)
  refine lv_iconst (v := 1) hx hb dL_law_16 (by decide) ?_
  refine va_newa (ty := .long) (N' := 1) (a0 := (1, .inr (.inl (fun _ => 0)))) hx hb (hts _ (q_w_new _ (List.mem_of_getElem? (i := 6) rfl))) rfl hK hw.1 hw.2.1 hw.2.2 (fun q h => h) (fun cA => rfl) (by decide) (by decide) (Nat.le_of_ble_eq_true rfl) (Nat.le_of_ble_eq_true rfl) (Nat.le_of_ble_eq_true rfl) dL_law_17 (fun qo cA H hK1 hP1 hD1 hS1 => ?_)
  have hcA := cA_of (t := 3) hK1 rfl
  subst hcA
  refine lv_astore_n (lv' := [(3, .ref qo), (2, .ref q1m), (1, .ref (adA 0)), (0, .ref b)]) hx hb dL_law_19 rfl hl (by decide) rfl (fun ls hl => ?_)
  refine lv_iconst (v := 1) hx hb dL_law_20 (by decide) ?_
  refine va_newa (ty := .double) (N' := 1) (a0 := (1, .inr (.inr (.inr (.inl (fun _ => 0)))))) hx hb (hts _ (q_w_new _ (List.mem_of_getElem? (i := 7) rfl))) rfl hK hP1 hD1 hS1 (fun q h => h) (fun cA => rfl) (by decide) (by decide) (Nat.le_of_ble_eq_true rfl) (Nat.le_of_ble_eq_true rfl) (Nat.le_of_ble_eq_true rfl) dL_law_21 (fun qd cA H hK1 hP1 hD1 hS1 => ?_)
  have hcA := cA_of (t := 4) hK1 rfl
  subst hcA
  refine lv_astore (lv' := [(4, .ref qd), (3, .ref qo), (2, .ref q1m), (1, .ref (adA 0)), (0, .ref b)]) hx hb dL_law_23 hl (by decide) rfl (fun ls hl => ?_)
  refine lv_iconst (v := 0) hx hb dL_law_25 (by decide) ?_
  refine lv_istore (lv' := [(5, .int 0), (4, .ref qd), (3, .ref qo), (2, .ref q1m), (1, .ref (adA 0)), (0, .ref b)]) hx hb dL_law_26 hl (by decide) rfl (fun ls hl => ?_)
  rw [List.nil_append, List.append_assoc, List.append_assoc] at hP1 hD1
  obtain ⟨hP2, hD2⟩ := q_world (C := [(q1m, .inr (8, [.int 0, .int 0, .int 0, .int 0, .int 0, .int 0, .int 0, .int 0, .int 3, .int 0, .ref q1, .ref q2, .ref q3, .ref q4, .ref q5, .ref q6, .ref q7, .ref q8, .ref q9, .ref q10, .ref q11, .ref q12, .ref q13, .ref q14, .ref q15, .ref q16, .ref q17, .ref q18, .ref q19, .ref q20, .ref q21, .ref q22, .ref q23, .ref q24, .ref q25])), (q1, wI (cy 0) 4 (fun _ => 0)), (q2, wI (cy 0) 12 (fun _ => 0)), (q3, wI (cy 0) 10 (fun _ => 0)), (q4, wI (cy 0) 10 (fun _ => 0)), (q5, wI (cy 0) 10 (fun _ => 0)), (q6, wI (cy 0) 10 (fun _ => 0)), (q7, wI (cy 1) 10 (fun _ => 0)), (q8, wI (cy 0) 40 (fun _ => 0)), (q9, wI (cy 0) 60 (fun _ => 0)), (q10, wI (cy 0) 60 (fun _ => 0)), (q11, wI (cy 0) 60 (fun _ => 0)), (q12, wI (cy 0) 60 (fun _ => 0)), (q13, wI (cy 0) 60 (fun _ => 0)), (q14, wI (cy 0) 60 (fun _ => 0)), (q15, wI (cy 0) 60 (fun _ => 0)), (q16, wI (cy 0) 60 (fun _ => 0)), (q17, wI (cy 0) 60 (fun _ => 0)), (q18, wI (cy 0) 2400 (fun _ => 0)), (q19, wI (cy 0) 2400 (fun _ => 0)), (q20, wI (cy 0) 60 (fun _ => 0)), (q21, wI (cy 0) 40 (fun _ => 0)), (q22, wI (cy 0) 40 (fun _ => 0)), (q23, wI (cy 0) 40 (fun _ => 0)), (q24, wI (cy 0) 40 (fun _ => 0)), (q25, wI (cy 2) 120 (fun _ => 0)), (qo, .inl (cy 3, 1, .inr (.inl (fun _ => 0)))), (qd, .inl (cy 4, 1, .inr (.inr (.inr (.inl (fun _ => 0))))))]) hs hf hg hh rfl (fun i hi => by
    rcases (show i = 0 ∨ i = 1 ∨ i = 2 ∨ i = 3 ∨ i = 4 ∨ i = 5 ∨ i = 6 ∨ i = 7 ∨ i = 8 ∨ i = 9 ∨ i = 10 ∨ i = 11 ∨ i = 12 ∨ i = 13 ∨ i = 14 ∨ i = 15 ∨ i = 16 ∨ i = 17 ∨ i = 18 ∨ i = 19 ∨ i = 20 ∨ i = 21 ∨ i = 22 ∨ i = 23 ∨ i = 24 ∨ i = 25 ∨ i = 26 ∨ i = 27 by omega) with rfl | rfl | rfl | rfl | rfl | rfl | rfl | rfl | rfl | rfl | rfl | rfl | rfl | rfl | rfl | rfl | rfl | rfl | rfl | rfl | rfl | rfl | rfl | rfl | rfl | rfl | rfl | rfl <;> rfl) hP1 hD1
  refine W.widen (Nat.le_of_ble_eq_true rfl) (Nat.le_of_ble_eq_true rfl) (kk _ H _ ls hP2 hD2 hS1 ?_)
  exact hl
/-- one step of the script -/
def q_op (F : Nat) (M : Mem) (x : XX) (c s1 s2 s3 s4 s5 : Int32) : Option (Mem × XX) :=
  if c = nI 0 then fL_case0 F M x s1 s2 s3 s4 s5 else
  if c = nI 1 then fL_case1 F M x s1 s2 s3 s4 s5 else
  if c = nI 2 then fL_case2 F M x s1 s2 s3 s4 s5 else
  if c = nI 3 then fL_case3 F M x s1 s2 s3 s4 s5 else
  if c = nI 4 then fL_case4 F M x s1 s2 s3 s4 s5 else
  if c = nI 5 then fL_case5 F M x s1 s2 s3 s4 s5 else
  if c = nI 6 then fL_case6 F M x s1 s2 s3 s4 s5 else
  if c = nI 7 then fL_case7 F M x s1 s2 s3 s4 s5 else
  if c = nI 8 then fL_case8 F M x s1 s2 s3 s4 s5 else
  if c = nI 9 then fL_case9 F M x s1 s2 s3 s4 s5 else
  if c = nI 10 then fL_case10 F M x s1 s2 s3 s4 s5 else
  if c = nI 11 then fL_case11 F M x s1 s2 s3 s4 s5 else
  if c = nI 12 then fL_case12 F M x s1 s2 s3 s4 s5 else
  if c = nI 13 then fL_case13 F M x s1 s2 s3 s4 s5 else
  if c = nI 14 then fL_case14 F M x s1 s2 s3 s4 s5 else
  if c = nI 15 then fL_case15 F M x s1 s2 s3 s4 s5 else
  if c = nI 16 then fL_case16 F M x s1 s2 s3 s4 s5 else
  if c = nI 17 then fL_case17 F M x s1 s2 s3 s4 s5 else
  if c = nI 18 then fL_case18 F M x s1 s2 s3 s4 s5 else
  if c = nI 19 then fL_case19 F M x s1 s2 s3 s4 s5 else
  if c = nI 20 then fL_case20 F M x s1 s2 s3 s4 s5 else
  if c = nI 21 then fL_case21 F M x s1 s2 s3 s4 s5 else
  if c = nI 22 then fL_case22 F M x s1 s2 s3 s4 s5 else
  if c = nI 23 then fL_case23 F M x s1 s2 s3 s4 s5 else
  if c = nI 24 then fL_case24 F M x s1 s2 s3 s4 s5 else
  if c = nI 25 then fL_case25 F M x s1 s2 s3 s4 s5 else
  if c = nI 26 then fL_case26 F M x s1 s2 s3 s4 s5 else
  if c = nI 27 then fL_case27 F M x s1 s2 s3 s4 s5 else
  if c = nI 28 then fL_case28 F M x s1 s2 s3 s4 s5 else
  if c = nI 29 then fL_case29 F M x s1 s2 s3 s4 s5 else
  if c = nI 30 then fL_case30 F M x s1 s2 s3 s4 s5 else
  if c = nI 31 then fL_case31 F M x s1 s2 s3 s4 s5 else
  if c = nI 32 then fL_case32 F M x s1 s2 s3 s4 s5 else
  if c = nI 33 then fL_case33 F M x s1 s2 s3 s4 s5 else
  if c = nI 34 then fL_case34 F M x s1 s2 s3 s4 s5 else
  if c = nI 35 then fL_case35 F M x s1 s2 s3 s4 s5 else
  if c = nI 36 then fL_case36 F M x s1 s2 s3 s4 s5 else
  if c = nI 37 then fL_case37 F M x s1 s2 s3 s4 s5 else
  some (M, x)
theorem q_gtL {L t : Nat} (hL : L ≤ 3072) (ht : t ≤ 513) : (Int32.ofNat L - 6 < nI (6 * t)) ↔ ¬ 6 * t + 6 ≤ L := by
  have h1 : (Int32.ofNat L - 6).toInt = (L : Int) - 6 := by
    have e : Int32.ofNat L = nI L := rfl
    rw [e, Int32.toInt_sub, nI_toInt (by omega), show (6 : Int32).toInt = 6 from rfl]
    exact Int.bmod_eq_of_le (by omega) (by omega)
  rw [Int32.lt_iff_toInt_lt, h1, nI_toInt (by omega)]
  omega
theorem q_out {c : Int32} (h : ∀ j : Nat, j ≤ 37 → c ≠ nI j) : c.toInt < 0 ∨ 37 < c.toInt := by
  by_cases h1 : c < 0
  · exact Or.inl (Int32.lt_iff_toInt_lt.mp h1)
  · by_cases h2 : c ≤ 37
    · obtain ⟨j, hj, rfl⟩ := nI_of2 (M := 37) (n := 37) rfl h1 h2
      exact absurd rfl (h j hj)
    · refine Or.inr ?_
      have h3 : ¬ c.toInt ≤ (37 : Int32).toInt := fun h4 => h2 (Int32.le_iff_toInt_le.mpr h4)
      have h5 : (37 : Int32).toInt = 37 := rfl
      omega
section QLP
variable {p : Program} {l : Launch} {e : Env} {s : State} {m : MethodId} {args : Array Value} {below : List Frame} {meth : Method} {c : Code} {D : va_G} {cy : Nat → ClassId} {ad : Nat → Nat} {x : XX} {Q : State → Prop} {F b L : Nat} {xs : Nat → Int32} {M : Mem} {H : Heap} {locs : List Loc} {ls : Array Slot} {ret : Option FieldType}
set_option maxHeartbeats 4000000 in
set_option maxRecDepth 100000 in
theorem q_body {v5 z s1 s2 s3 s4 s5 : Int32} {r : Mem × XX} {ce sl : Nat} (hst : l.stackTraces = false) (C0 : MX p l s m args meth c D cy ad cL_law RL 9 wsL_law ret) (hX : va_X b L xs s s.heap) (hbl : b < s.heap.size) (hbA : ¬ AA ad s.heap.size b) (hce : ce + 8 ≤ 603072) (hsl : sl + 48 ≤ 7211114) (hs1 : vp_in (v5 + 1) L ∧ xs (v5 + 1).toNatClampNeg = s1) (hs2 : vp_in (v5 + 2) L ∧ xs (v5 + 2).toNatClampNeg = s2) (hs3 : vp_in (v5 + 3) L ∧ xs (v5 + 3).toNatClampNeg = s3) (hs4 : vp_in (v5 + 4) L ∧ xs (v5 + 4).toNatClampNeg = s4) (hs5 : vp_in (v5 + 5) L ∧ xs (v5 + 5).toNatClampNeg = s5)
    (hk : ∀ (H : Heap) (locs : List Loc) (ls : Array Slot), Wd D cy ad r.2 s r.1 H locs → lv_has ls 9 [(0, .ref b), (1, .ref (ad 0)), (2, .ref (ad 427)), (3, .ref (ad 453)), (4, .ref (ad 454)), (5, .int v5)] → W p l e room_1 s m args below meth c H locs (ce + 8) (sl + 48) Q (F0 m 2355 ls []))
    (hw : Wd D cy ad x s M H locs) (hl : lv_has ls 9 [(0, .ref b), (1, .ref (ad 0)), (2, .ref (ad 427)), (3, .ref (ad 453)), (4, .ref (ad 454)), (5, .int v5)]) (h : q_op F M x z s1 s2 s3 s4 s5 = some r) : W p l e room_1 s m args below meth c H locs ce sl Q (F0 m 45 ls [.int z]) := by
  obtain ⟨hx, hb, hml, hown, hts, -⟩ := id C0
  unfold q_op at h
  by_cases h0 : z = nI 0
  · rw [if_pos h0] at h
    subst h0
    exact lv_tableIn (off := 167) (tgt := 212) hx hb dL_law_45 (by decide) (by decide) (by decide) (by decide) (wL_case0 hst C0 hX hbl hbA hce hsl hs1 hs2 hs3 hs4 hs5 hk hw hl h)
  rw [if_neg h0] at h
  by_cases h1 : z = nI 1
  · rw [if_pos h1] at h
    subst h1
    exact lv_tableIn (off := 223) (tgt := 268) hx hb dL_law_45 (by decide) (by decide) (by decide) (by decide) (wL_case1 hst C0 hX hbl hbA hce hsl hs1 hs2 hs3 hs4 hs5 hk hw hl h)
  rw [if_neg h1] at h
  by_cases h2 : z = nI 2
  · rw [if_pos h2] at h
    subst h2
    exact lv_tableIn (off := 279) (tgt := 324) hx hb dL_law_45 (by decide) (by decide) (by decide) (by decide) (wL_case2 hst C0 hX hbl hbA hce hsl hs1 hs2 hs3 hs4 hs5 hk hw hl h)
  rw [if_neg h2] at h
  by_cases h3 : z = nI 3
  · rw [if_pos h3] at h
    subst h3
    exact lv_tableIn (off := 385) (tgt := 430) hx hb dL_law_45 (by decide) (by decide) (by decide) (by decide) (wL_case3 hst C0 hX hbl hbA hce hsl hs1 hs2 hs3 hs4 hs5 hk hw hl h)
  rw [if_neg h3] at h
  by_cases h4 : z = nI 4
  · rw [if_pos h4] at h
    subst h4
    exact lv_tableIn (off := 441) (tgt := 486) hx hb dL_law_45 (by decide) (by decide) (by decide) (by decide) (wL_case4 hst C0 hX hbl hbA hce hsl hs1 hs2 hs3 hs4 hs5 hk hw hl h)
  rw [if_neg h4] at h
  by_cases h5 : z = nI 5
  · rw [if_pos h5] at h
    subst h5
    exact lv_tableIn (off := 497) (tgt := 542) hx hb dL_law_45 (by decide) (by decide) (by decide) (by decide) (wL_case5 hst C0 hX hbl hbA hce hsl hs1 hs2 hs3 hs4 hs5 hk hw hl h)
  rw [if_neg h5] at h
  by_cases h6 : z = nI 6
  · rw [if_pos h6] at h
    subst h6
    exact lv_tableIn (off := 553) (tgt := 598) hx hb dL_law_45 (by decide) (by decide) (by decide) (by decide) (wL_case6 hst C0 hX hbl hbA hce hsl hs1 hs2 hs3 hs4 hs5 hk hw hl h)
  rw [if_neg h6] at h
  by_cases h7 : z = nI 7
  · rw [if_pos h7] at h
    subst h7
    exact lv_tableIn (off := 621) (tgt := 666) hx hb dL_law_45 (by decide) (by decide) (by decide) (by decide) (wL_case7 hst C0 hX hbl hbA hce hsl hs1 hs2 hs3 hs4 hs5 hk hw hl h)
  rw [if_neg h7] at h
  by_cases h8 : z = nI 8
  · rw [if_pos h8] at h
    subst h8
    exact lv_tableIn (off := 634) (tgt := 679) hx hb dL_law_45 (by decide) (by decide) (by decide) (by decide) (wL_case8 hst C0 hX hbl hbA hce hsl hs1 hs2 hs3 hs4 hs5 hk hw hl h)
  rw [if_neg h8] at h
  by_cases h9 : z = nI 9
  · rw [if_pos h9] at h
    subst h9
    exact lv_tableIn (off := 647) (tgt := 692) hx hb dL_law_45 (by decide) (by decide) (by decide) (by decide) (wL_case9 hst C0 hX hbl hbA hce hsl hs1 hs2 hs3 hs4 hs5 hk hw hl h)
  rw [if_neg h9] at h
  by_cases h10 : z = nI 10
  · rw [if_pos h10] at h
    subst h10
    exact lv_tableIn (off := 703) (tgt := 748) hx hb dL_law_45 (by decide) (by decide) (by decide) (by decide) (wL_case10 hst C0 hX hbl hbA hce hsl hs1 hs2 hs3 hs4 hs5 hk hw hl h)
  rw [if_neg h10] at h
  by_cases h11 : z = nI 11
  · rw [if_pos h11] at h
    subst h11
    exact lv_tableIn (off := 795) (tgt := 840) hx hb dL_law_45 (by decide) (by decide) (by decide) (by decide) (wL_case11 hst C0 hX hbl hbA hce hsl hs1 hs2 hs3 hs4 hs5 hk hw hl h)
  rw [if_neg h11] at h
  by_cases h12 : z = nI 12
  · rw [if_pos h12] at h
    subst h12
    exact lv_tableIn (off := 865) (tgt := 910) hx hb dL_law_45 (by decide) (by decide) (by decide) (by decide) (wL_case12 hst C0 hX hbl hbA hce hsl hs1 hs2 hs3 hs4 hs5 hk hw hl h)
  rw [if_neg h12] at h
  by_cases h13 : z = nI 13
  · rw [if_pos h13] at h
    subst h13
    exact lv_tableIn (off := 921) (tgt := 966) hx hb dL_law_45 (by decide) (by decide) (by decide) (by decide) (wL_case13 hst C0 hX hbl hbA hce hsl hs1 hs2 hs3 hs4 hs5 hk hw hl h)
  rw [if_neg h13] at h
  by_cases h14 : z = nI 14
  · rw [if_pos h14] at h
    subst h14
    exact lv_tableIn (off := 989) (tgt := 1034) hx hb dL_law_45 (by decide) (by decide) (by decide) (by decide) (wL_case14 hst C0 hX hbl hbA hce hsl hs1 hs2 hs3 hs4 hs5 hk hw hl h)
  rw [if_neg h14] at h
  by_cases h15 : z = nI 15
  · rw [if_pos h15] at h
    subst h15
    exact lv_tableIn (off := 1045) (tgt := 1090) hx hb dL_law_45 (by decide) (by decide) (by decide) (by decide) (wL_case15 hst C0 hX hbl hbA hce hsl hs1 hs2 hs3 hs4 hs5 hk hw hl h)
  rw [if_neg h15] at h
  by_cases h16 : z = nI 16
  · rw [if_pos h16] at h
    subst h16
    exact lv_tableIn (off := 1108) (tgt := 1153) hx hb dL_law_45 (by decide) (by decide) (by decide) (by decide) (wL_case16 hst C0 hX hbl hbA hce hsl hs1 hs2 hs3 hs4 hs5 hk hw hl h)
  rw [if_neg h16] at h
  by_cases h17 : z = nI 17
  · rw [if_pos h17] at h
    subst h17
    exact lv_tableIn (off := 1171) (tgt := 1216) hx hb dL_law_45 (by decide) (by decide) (by decide) (by decide) (wL_case17 hst C0 hX hbl hbA hce hsl hs1 hs2 hs3 hs4 hs5 hk hw hl h)
  rw [if_neg h17] at h
  by_cases h18 : z = nI 18
  · rw [if_pos h18] at h
    subst h18
    exact lv_tableIn (off := 1227) (tgt := 1272) hx hb dL_law_45 (by decide) (by decide) (by decide) (by decide) (wL_case18 hst C0 hX hbl hbA hce hsl hs1 hs2 hs3 hs4 hs5 hk hw hl h)
  rw [if_neg h18] at h
  by_cases h19 : z = nI 19
  · rw [if_pos h19] at h
    subst h19
    exact lv_tableIn (off := 1295) (tgt := 1340) hx hb dL_law_45 (by decide) (by decide) (by decide) (by decide) (wL_case19 hst C0 hX hbl hbA hce hsl hs1 hs2 hs3 hs4 hs5 hk hw hl h)
  rw [if_neg h19] at h
  by_cases h20 : z = nI 20
  · rw [if_pos h20] at h
    subst h20
    exact lv_tableIn (off := 1363) (tgt := 1408) hx hb dL_law_45 (by decide) (by decide) (by decide) (by decide) (wL_case20 hst C0 hX hbl hbA hce hsl hs1 hs2 hs3 hs4 hs5 hk hw hl h)
  rw [if_neg h20] at h
  by_cases h21 : z = nI 21
  · rw [if_pos h21] at h
    subst h21
    exact lv_tableIn (off := 1431) (tgt := 1476) hx hb dL_law_45 (by decide) (by decide) (by decide) (by decide) (wL_case21 hst C0 hX hbl hbA hce hsl hs1 hs2 hs3 hs4 hs5 hk hw hl h)
  rw [if_neg h21] at h
  by_cases h22 : z = nI 22
  · rw [if_pos h22] at h
    subst h22
    exact lv_tableIn (off := 1499) (tgt := 1544) hx hb dL_law_45 (by decide) (by decide) (by decide) (by decide) (wL_case22 hst C0 hX hbl hbA hce hsl hs1 hs2 hs3 hs4 hs5 hk hw hl h)
  rw [if_neg h22] at h
  by_cases h23 : z = nI 23
  · rw [if_pos h23] at h
    subst h23
    exact lv_tableIn (off := 1574) (tgt := 1619) hx hb dL_law_45 (by decide) (by decide) (by decide) (by decide) (wL_case23 hst C0 hX hbl hbA hce hsl hs1 hs2 hs3 hs4 hs5 hk hw hl h)
  rw [if_neg h23] at h
  by_cases h24 : z = nI 24
  · rw [if_pos h24] at h
    subst h24
    exact lv_tableIn (off := 1642) (tgt := 1687) hx hb dL_law_45 (by decide) (by decide) (by decide) (by decide) (wL_case24 hst C0 hX hbl hbA hce hsl hs1 hs2 hs3 hs4 hs5 hk hw hl h)
  rw [if_neg h24] at h
  by_cases h25 : z = nI 25
  · rw [if_pos h25] at h
    subst h25
    exact lv_tableIn (off := 1710) (tgt := 1755) hx hb dL_law_45 (by decide) (by decide) (by decide) (by decide) (wL_case25 hst C0 hX hbl hbA hce hsl hs1 hs2 hs3 hs4 hs5 hk hw hl h)
  rw [if_neg h25] at h
  by_cases h26 : z = nI 26
  · rw [if_pos h26] at h
    subst h26
    exact lv_tableIn (off := 1723) (tgt := 1768) hx hb dL_law_45 (by decide) (by decide) (by decide) (by decide) (wL_case26 hst C0 hX hbl hbA hce hsl hs1 hs2 hs3 hs4 hs5 hk hw hl h)
  rw [if_neg h26] at h
  by_cases h27 : z = nI 27
  · rw [if_pos h27] at h
    subst h27
    exact lv_tableIn (off := 1748) (tgt := 1793) hx hb dL_law_45 (by decide) (by decide) (by decide) (by decide) (wL_case27 hst C0 hX hbl hbA hce hsl hs1 hs2 hs3 hs4 hs5 hk hw hl h)
  rw [if_neg h27] at h
  by_cases h28 : z = nI 28
  · rw [if_pos h28] at h
    subst h28
    exact lv_tableIn (off := 1804) (tgt := 1849) hx hb dL_law_45 (by decide) (by decide) (by decide) (by decide) (wL_case28 hst C0 hX hbl hbA hce hsl hs1 hs2 hs3 hs4 hs5 hk hw hl h)
  rw [if_neg h28] at h
  by_cases h29 : z = nI 29
  · rw [if_pos h29] at h
    subst h29
    exact lv_tableIn (off := 1817) (tgt := 1862) hx hb dL_law_45 (by decide) (by decide) (by decide) (by decide) (wL_case29 hst C0 hX hbl hbA hce hsl hs1 hs2 hs3 hs4 hs5 hk hw hl h)
  rw [if_neg h29] at h
  by_cases h30 : z = nI 30
  · rw [if_pos h30] at h
    subst h30
    exact lv_tableIn (off := 1887) (tgt := 1932) hx hb dL_law_45 (by decide) (by decide) (by decide) (by decide) (wL_case30 hst C0 hX hbl hbA hce hsl hs1 hs2 hs3 hs4 hs5 hk hw hl h)
  rw [if_neg h30] at h
  by_cases h31 : z = nI 31
  · rw [if_pos h31] at h
    subst h31
    exact lv_tableIn (off := 1955) (tgt := 2000) hx hb dL_law_45 (by decide) (by decide) (by decide) (by decide) (wL_case31 hst C0 hX hbl hbA hce hsl hs1 hs2 hs3 hs4 hs5 hk hw hl h)
  rw [if_neg h31] at h
  by_cases h32 : z = nI 32
  · rw [if_pos h32] at h
    subst h32
    exact lv_tableIn (off := 1999) (tgt := 2044) hx hb dL_law_45 (by decide) (by decide) (by decide) (by decide) (wL_case32 hst C0 hX hbl hbA hce hsl hs1 hs2 hs3 hs4 hs5 hk hw hl h)
  rw [if_neg h32] at h
  by_cases h33 : z = nI 33
  · rw [if_pos h33] at h
    subst h33
    exact lv_tableIn (off := 2055) (tgt := 2100) hx hb dL_law_45 (by decide) (by decide) (by decide) (by decide) (wL_case33 hst C0 hX hbl hbA hce hsl hs1 hs2 hs3 hs4 hs5 hk hw hl h)
  rw [if_neg h33] at h
  by_cases h34 : z = nI 34
  · rw [if_pos h34] at h
    subst h34
    exact lv_tableIn (off := 2111) (tgt := 2156) hx hb dL_law_45 (by decide) (by decide) (by decide) (by decide) (wL_case34 hst C0 hX hbl hbA hce hsl hs1 hs2 hs3 hs4 hs5 hk hw hl h)
  rw [if_neg h34] at h
  by_cases h35 : z = nI 35
  · rw [if_pos h35] at h
    subst h35
    exact lv_tableIn (off := 2166) (tgt := 2211) hx hb dL_law_45 (by decide) (by decide) (by decide) (by decide) (wL_case35 hst C0 hX hbl hbA hce hsl hs1 hs2 hs3 hs4 hs5 hk hw hl h)
  rw [if_neg h35] at h
  by_cases h36 : z = nI 36
  · rw [if_pos h36] at h
    subst h36
    exact lv_tableIn (off := 2232) (tgt := 2277) hx hb dL_law_45 (by decide) (by decide) (by decide) (by decide) (wL_case36 hst C0 hX hbl hbA hce hsl hs1 hs2 hs3 hs4 hs5 hk hw hl h)
  rw [if_neg h36] at h
  by_cases h37 : z = nI 37
  · rw [if_pos h37] at h
    subst h37
    exact lv_tableIn (off := 2297) (tgt := 2342) hx hb dL_law_45 (by decide) (by decide) (by decide) (by decide) (wL_case37 hst C0 hX hbl hbA hce hsl hs1 hs2 hs3 hs4 hs5 hk hw hl h)
  rw [if_neg h37] at h
  refine lv_tableOut (tgt := 2355) hx hb dL_law_45 (q_out fun j hj => ?_) (by decide) (q_fin h hk hw hl (lw_ccl (a := 0) (Nat.zero_le _)) (lw_csl (a := 0) (Nat.zero_le _)))
  rcases (show j = 0 ∨ j = 1 ∨ j = 2 ∨ j = 3 ∨ j = 4 ∨ j = 5 ∨ j = 6 ∨ j = 7 ∨ j = 8 ∨ j = 9 ∨ j = 10 ∨ j = 11 ∨ j = 12 ∨ j = 13 ∨ j = 14 ∨ j = 15 ∨ j = 16 ∨ j = 17 ∨ j = 18 ∨ j = 19 ∨ j = 20 ∨ j = 21 ∨ j = 22 ∨ j = 23 ∨ j = 24 ∨ j = 25 ∨ j = 26 ∨ j = 27 ∨ j = 28 ∨ j = 29 ∨ j = 30 ∨ j = 31 ∨ j = 32 ∨ j = 33 ∨ j = 34 ∨ j = 35 ∨ j = 36 ∨ j = 37 by omega) with rfl | rfl | rfl | rfl | rfl | rfl | rfl | rfl | rfl | rfl | rfl | rfl | rfl | rfl | rfl | rfl | rfl | rfl | rfl | rfl | rfl | rfl | rfl | rfl | rfl | rfl | rfl | rfl | rfl | rfl | rfl | rfl | rfl | rfl | rfl | rfl | rfl | rfl <;> assumption
set_option maxHeartbeats 4000000 in
theorem q_loop {Inv : Mem → Prop} (hstep : ∀ (M : Mem) (x : XX) (c s1 s2 s3 s4 s5 : Int32), Inv M → ∃ r, q_op F M x c s1 s2 s3 s4 s5 = some r ∧ Inv r.1) (hst : l.stackTraces = false) (hL : L ≤ 3072) (C0 : MX p l s m args meth c D cy ad cL_law RL 9 wsL_law ret) (hX : va_X b L xs s s.heap) (hbl : b < s.heap.size) (hbA : ¬ AA ad s.heap.size b)
    (kk : ∀ (M : Mem) (x : XX) (H : Heap) (locs : List Loc) (ls : Array Slot), Wd D cy ad x s M H locs → W p l e room_1 s m args below meth c H locs 603072 7211114 Q (F0 m 2361 ls [])) :
    ∀ (d t : Nat), t + d = 513 → ∀ (M : Mem) (x : XX) (H : Heap) (locs : List Loc) (ls : Array Slot), Inv M → Wd D cy ad x s M H locs → lv_has ls 9 [(0, .ref b), (1, .ref (ad 0)), (2, .ref (ad 427)), (3, .ref (ad 453)), (4, .ref (ad 454)), (5, .int (nI (6 * t)))] → W p l e room_1 s m args below meth c H locs (455 + 8 * t) (22921 + 48 * t) Q (F0 m 28 ls []) := by
  obtain ⟨hx, hb, hml, hown, hts, -⟩ := id C0
  intro d
  induction d with
  | zero =>
    intro t ht M x H locs ls hi hw hl
    refine lv_iload hx hb dL_law_28 (lv_at hl 5 rfl) ?_
    refine lv_aload_n hx hb dL_law_30 rfl (lv_at hl 0 rfl) ?_
    refine va_slen hx hb hX hbl hbA hw.2.2 dL_law_31 ?_
    refine lv_bipush (v := 6) hx hb dL_law_32 (by decide) ?_
    refine lv_isub hx hb dL_law_34 ?_
    refine q_icmp_gt (tgt := 2361) (A := some ()) (B := none) (r := ()) hx hb dL_law_35 (by decide) (if_pos ((q_gtL hL (by omega)).mpr (by omega))) (fun _ => ?_) (fun h => by cases h)
    exact W.widen (by omega) (by omega) (kk M x H locs ls hw)
  | succ d ih =>
    intro t ht M x H locs ls hi hw hl
    refine lv_iload hx hb dL_law_28 (lv_at hl 5 rfl) ?_
    refine lv_aload_n hx hb dL_law_30 rfl (lv_at hl 0 rfl) ?_
    refine va_slen hx hb hX hbl hbA hw.2.2 dL_law_31 ?_
    refine lv_bipush (v := 6) hx hb dL_law_32 (by decide) ?_
    refine lv_isub hx hb dL_law_34 ?_
    by_cases h6 : 6 * t + 6 ≤ L
    · refine q_icmp_gt (tgt := 2361) (A := none) (B := some ()) (r := ()) hx hb dL_law_35 (by decide) (if_neg (fun h => (q_gtL hL (by omega)).mp h h6)) (fun h => by cases h) (fun _ => ?_)
      have hin : ∀ j, j < 6 → vp_in (nI (6 * t) + nI j) L ∧ xs (nI (6 * t) + nI j).toNatClampNeg = xs (6 * t + j) := fun j hj => by
        rw [nI_add]
        exact ⟨vp_in_nI (by omega) (by omega), by rw [nI_clamp (by omega)]⟩
      obtain ⟨r, hr1, hr2⟩ := hstep M x (xs (6 * t) &&& 63) (xs (6 * t + 1)) (xs (6 * t + 2)) (xs (6 * t + 3)) (xs (6 * t + 4)) (xs (6 * t + 5)) hi
      refine lv_aload_n hx hb dL_law_38 rfl (lv_at hl 0 rfl) ?_
      refine lv_iload hx hb dL_law_39 (lv_at hl 5 rfl) ?_
      refine q_sld C0 hX hbl hbA hw ⟨vp_in_nI (n := 6 * t) (by omega) (by omega), congrArg xs (nI_clamp (by omega))⟩ dL_law_41 ?_
      refine lv_bipush (v := 63) hx hb dL_law_42 (by decide) ?_
      refine lv_iand hx hb dL_law_44 ?_
      refine q_body (r := r) hst C0 hX hbl hbA (by omega) (by omega) (hin 1 (by decide)) (hin 2 (by decide)) (hin 3 (by decide)) (hin 4 (by decide)) (hin 5 (by decide)) (fun H locs ls hw hl => ?_) hw hl hr1
      refine lv_iinc (k := 5) (v := nI (6 * (t + 1))) hx hb dL_law_2355 hl rfl (nI_add (6 * t) 6) (by decide) rfl (fun ls hl => ?_)
      refine lv_goto (tgt := 28) hx hb dL_law_2358 (by decide) ?_
      refine W.widen (show _ ≤ 455 + 8 * (t + 1) by omega) (show _ ≤ 22921 + 48 * (t + 1) by omega) (ih (t + 1) (by omega) r.1 r.2 H locs ls hr2 hw (lv_sub hl [1, 2, 3, 4, 5, 0] rfl))
    · refine q_icmp_gt (tgt := 2361) (A := some ()) (B := none) (r := ()) hx hb dL_law_35 (by decide) (if_pos ((q_gtL hL (by omega)).mpr h6)) (fun _ => ?_) (fun h => by cases h)
      exact W.widen (by omega) (by omega) (kk M x H locs ls hw)
end QLP
/-- the whole walk, out of an invariant of the numbers alone -/
theorem q_run {Inv : Mem → Prop} {F : Nat} (hstep : ∀ (M : Mem) (x : XX) (c s1 s2 s3 s4 s5 : Int32), Inv M → ∃ r, q_op F M x c s1 s2 s3 s4 s5 = some r ∧ Inv r.1) (h0 : Inv M0) {p : Program} {e : Env} {s : State} {m : MethodId} {below : List Frame} {meth : Method} {c : Code} (l : Launch) (hflags : l.flags = flags0) {b L : Nat} {xs : Nat → Int32} (hL : L ≤ 3072) (C0 : lw_At p s m meth c b L xs) : W p l e room_1 s m #[Value.ref b] below meth c s.heap [] 0 0 (lw_Z below #[Value.ref b] s) (entryFrame m ([Value.ref b] : List Value).toArray 9) := by
  have hst : l.stackTraces = false := by
    unfold Launch.stackTraces
    rw [hflags]
    decide +kernel
  obtain ⟨D, cy, hK, hXJ, hV, hZ⟩ := q_setup C0
  refine q_new C0 hK hXJ (fun ad H locs ls hP hD hS hl => ?_)
  have had : ∀ k, k < 455 → s.heap.size ≤ ad k := fun k hk => hD.2 k _ (WL_at hk)
  obtain ⟨hx, hb, hr, hml, hown, hts, hX, hbl, hlk, hgv⟩ := C0
  have C1 : MX p l s m #[Value.ref b] meth c D cy ad cL_law RL 9 wsL_law ret := ⟨hx, hb, hml, hown, fun w h => hts w (wsL_law_in w h), hr, hlk, hK, hZ ad had, hV⟩
  have hbA : ¬ AA ad s.heap.size b := fun h => by
    rcases h with ⟨k, hk, h⟩ | h
    · have := had k hk
      omega
    · omega
  have hw : Wd D cy ad x0 s M0 H locs := ⟨hP, hD.weaken (fun k q hk hq => Or.inr hq), hS.1, fun q h1 h2 => hS.2.1 q h1 (fun h => h2 (Or.inr h)), fun q hq => Or.inr (hS.2.2 q hq)⟩
  refine q_loop hstep hst hL C1 hX hbl hbA (fun M x H locs ls hw => ?_) 513 0 rfl M0 x0 H locs ls h0 hw (lv_sub hl [5, 4, 3, 2, 1, 0] rfl)
  refine va_forget (fun q hq => ?_) ?_
  · rcases hw.2.2.2.2 q hq with ⟨k, hk, h⟩ | h
    · rw [h]
      exact had k hk
    · exact h
  refine lv_iconst (v := 1) hx hb dL_law_2361 (by decide) ?_
  refine W.base ?_
  exact lw_ret (Drawn.sameBut.refl s.drawn lw_cs) hx hb hr hlk dL_law_2362
end QS
