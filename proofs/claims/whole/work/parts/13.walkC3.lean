/-! HomewatcherModel.markOf(II)I -/
abbrev rmX6_markOf : Room := { frames := 3, cells := 0, slots := 0, locals := 65 }
def fX6_markOf_26 (F : Nat) (M : Mem) : Option (Mem × Int32) :=
    some (M, (0 : Int32))
set_option maxHeartbeats 4000000 in
set_option maxRecDepth 100000 in
theorem wX6_markOf_26 {p : Program} {l : Launch} {e : Env} {s : State} {m : MethodId} {args : Array Value} {below : List Frame} {meth : Method} {c : Code} {D : va_G} {cy : Nat → ClassId} {ad : Nat → Nat} {x : XX} {F : Nat} {r : Mem × Int32} (hst : l.stackTraces = false) (C0 : MX p l s m args meth c D cy ad cX6_markOf RX6 4 wsX6_markOf (some .int)) : ∀ (M : Mem) (H : Heap) (locs : List Loc) (ls : Array Slot), Wd D cy ad x s M H locs → lv_has ls 4 [] → fX6_markOf_26 F M = some r → W p l e rmX6_markOf s m args below meth c H locs 0 0 (QN D cy ad below args s x q_vi r 0 0) (F0 m 26 ls []) := by
  obtain ⟨hx, hb, hml, hown, hts, -⟩ := id C0
  intro M H locs ls hw hl h
  unfold fX6_markOf_26 at h
  refine lv_iconst (v := 0) hx hb dX6_markOf_26 (by decide) ?_
  exact q_iretN C0 hw h ⟨(Nat.le_of_ble_eq_true rfl), (Nat.le_of_ble_eq_true rfl)⟩ dX6_markOf_27
def fX6_markOf (F : Nat) (M : Mem) (a0 : Int32) (a1 : Int32) : Option (Mem × Int32) :=
    q_bn (fX6_countingOf F M a0 a1) fun M1 z2 =>
    q_lt (z2) fun z3 =>
    q_ax (((10 : Int32) * a0) + a1) 120 fun j4 =>
    if (M1 49 0 j4) = (0 : Int32) then
    (if z3 = (-1 : Int32) then
    (fX6_markOf_26 F M1)
    else
    (q_ax a1 10 fun j5 =>
    q_ax z3 60 fun j6 =>
    q_bn (fX6_lateOf F M1 z3) fun M7 z8 =>
    q_bn (fX6_offOf F M7 a1 z8) fun M9 z10 =>
    q_bn (fX6_greater F M9 (0 : Int32) ((((M1 29 0 j5) * (M1 41 0 j6)) / (100 : Int32)) - z10)) fun M11 z12 =>
    some (M11, z12)))
    else
    (fX6_markOf_26 F M1)
set_option maxHeartbeats 4000000 in
set_option maxRecDepth 100000 in
theorem ctX6_markOf {l : Launch} (hst : l.stackTraces = false) {D : va_G} {cy : Nat → ClassId} {ad : Nat → Nat} {x : XX} {F : Nat} {M : Mem} {a0 : Int32} {a1 : Int32} {r : Mem × Int32} (h : fX6_markOf F M a0 a1 = some r) : CN l yX6_markOf wsX6_markOf rmX6_markOf D cy ad [.ref (ad 427), .int a0, .int a1] x M x r.1 (q_vi r.2) 0 0 := by
  refine q_startN (cc := cX6_markOf) (maxL := 4) (ret := (some .int)) (by decide) rfl (Nat.le_of_ble_eq_true rfl) ?_
  intro p e s m args below meth c ls C0 hw hl hnm
  obtain ⟨hx, hb, hml, hown, hts, -⟩ := id C0
  have C0 : MX p l s m args meth c D cy ad cX6_markOf RX6 4 wsX6_markOf ((some .int)) := C0
  have hown : s.vm.findClass RX6 = some m.cls := hown
  have hl : lv_has ls 4 [(0, .ref (ad 427)), (1, .int a0), (2, .int a1)] := hl
  show W p l e rmX6_markOf s m args below meth c s.heap [] 0 0 (QN D cy ad below args s x q_vi r 0 0) (F0 m 0 ls [])
  unfold fX6_markOf at h
  refine lv_aload_n hx hb dX6_markOf_0 rfl (lv_at hl 0 rfl) ?_
  refine lv_iload_n hx hb dX6_markOf_1 rfl (lv_at hl 1 rfl) ?_
  refine lv_iload_n hx hb dX6_markOf_2 rfl (lv_at hl 2 rfl) ?_
  refine q_callVNi (As := [.int a0, .int a1]) (nA := 2) C0 hw at_Mod rfl (fun r1 h1 => ctX6_countingOf hst h1) gX6_markOf_X6_countingOf rfl ⟨rfl, rfl⟩ (by decide +kernel) rfl ⟨(Nat.le_of_ble_eq_true rfl), (Nat.le_of_ble_eq_true rfl)⟩ hl.1 (Nat.le_of_ble_eq_true rfl) ⟨(Nat.le_of_ble_eq_true rfl), (Nat.le_of_ble_eq_true rfl)⟩ rfl h dX6_markOf_3 (fun M1 z2 H locs hw h => ?_)
  refine q_istore_n (lv' := fun z3 => [(3, .int z3), (0, .ref (ad 427)), (1, .int a0), (2, .int a1)]) hx hb dX6_markOf_6 rfl hl (by decide) (fun _ => rfl) h (fun z3 ls hl h => ?_)
  refine lv_aload_n hx hb dX6_markOf_7 rfl (lv_at hl 1 rfl) ?_
  refine gf_Mod_isLost C0 hw (fun _ h9 => List.mem_cons_of_mem _ (List.mem_append_left _ (List.mem_append_right _ h9))) (List.mem_of_getElem? (i := 1) rfl) dX6_markOf_8 ?_
  refine lv_bipush (v := 10) hx hb dX6_markOf_11 (by decide) ?_
  refine lv_iload_n hx hb dX6_markOf_13 rfl (lv_at hl 2 rfl) ?_
  refine lv_imul hx hb dX6_markOf_14 ?_
  refine lv_iload_n hx hb dX6_markOf_15 rfl (lv_at hl 3 rfl) ?_
  refine lv_iadd hx hb dX6_markOf_16 ?_
  refine q_zald C0 hw at_m49 h dX6_markOf_17 (fun j4 hj4 h => ?_)
  refine q_if_ne (tgt := 26) hx hb dX6_markOf_18 (by decide) h (fun h => ?_) (fun h => ?_)
  · exact wX6_markOf_26 hst C0  M1 _ _ _ hw (lv_sub hl [] rfl) h
  · refine lv_iload_n hx hb dX6_markOf_21 rfl (lv_at hl 0 rfl) ?_
    refine lv_iconst (v := -1) hx hb dX6_markOf_22 (by decide) ?_
    refine q_icmp_ne (tgt := 28) hx hb dX6_markOf_23 (by decide) h (fun h => ?_) (fun h => ?_)
    · refine lv_iconst (v := 0) hx hb dX6_markOf_28 (by decide) ?_
      refine lv_aload_n hx hb dX6_markOf_29 rfl (lv_at hl 1 rfl) ?_
      refine gf_Mod_fulls C0 hw (fun _ h9 => List.mem_cons_of_mem _ (List.mem_append_left _ (List.mem_append_right _ h9))) (List.mem_of_getElem? (i := 2) rfl) dX6_markOf_30 ?_
      refine lv_iload_n hx hb dX6_markOf_33 rfl (lv_at hl 3 rfl) ?_
      refine q_iald C0 hw at_m29 h dX6_markOf_34 (fun j5 hj5 h => ?_)
      refine lv_aload_n hx hb dX6_markOf_35 rfl (lv_at hl 1 rfl) ?_
      refine gf_Mod_points C0 hw (fun _ h9 => List.mem_cons_of_mem _ (List.mem_append_left _ (List.mem_append_right _ h9))) (List.mem_of_getElem? (i := 3) rfl) dX6_markOf_36 ?_
      refine lv_iload_n hx hb dX6_markOf_39 rfl (lv_at hl 0 rfl) ?_
      refine q_iald C0 hw at_m41 h dX6_markOf_40 (fun j6 hj6 h => ?_)
      refine lv_imul hx hb dX6_markOf_41 ?_
      refine lv_bipush (v := 100) hx hb dX6_markOf_42 (by decide) ?_
      refine lv_idiv hx hb dX6_markOf_44 (by decide) ?_
      refine lv_aload_n hx hb dX6_markOf_45 rfl (lv_at hl 1 rfl) ?_
      refine lv_iload_n hx hb dX6_markOf_46 rfl (lv_at hl 3 rfl) ?_
      refine lv_aload_n hx hb dX6_markOf_47 rfl (lv_at hl 1 rfl) ?_
      refine lv_iload_n hx hb dX6_markOf_48 rfl (lv_at hl 0 rfl) ?_
      refine q_callVNi (As := [.int z3]) (nA := 1) C0 hw at_Mod rfl (fun r1 h1 => ctX6_lateOf hst h1) gX6_markOf_X6_lateOf rfl ⟨rfl, rfl⟩ (by decide +kernel) rfl ⟨(Nat.le_of_ble_eq_true rfl), (Nat.le_of_ble_eq_true rfl)⟩ hl.1 (Nat.le_of_ble_eq_true rfl) ⟨(Nat.le_of_ble_eq_true rfl), (Nat.le_of_ble_eq_true rfl)⟩ rfl h dX6_markOf_49 (fun M7 z8 H locs hw h => ?_)
      refine q_callVNi (As := [.int a1, .int z8]) (nA := 2) C0 hw at_Mod rfl (fun r1 h1 => ctX6_offOf hst h1) gX6_markOf_X6_offOf rfl ⟨rfl, rfl⟩ (by decide +kernel) rfl ⟨(Nat.le_of_ble_eq_true rfl), (Nat.le_of_ble_eq_true rfl)⟩ hl.1 (Nat.le_of_ble_eq_true rfl) ⟨(Nat.le_of_ble_eq_true rfl), (Nat.le_of_ble_eq_true rfl)⟩ rfl h dX6_markOf_52 (fun M9 z10 H locs hw h => ?_)
      refine lv_isub hx hb dX6_markOf_55 ?_
      refine q_callSNi (As := [.int ((0 : Int32)), .int ((((M1 29 0 j5) * (M1 41 0 j6)) / (100 : Int32)) - z10)]) (nA := 2) C0 hw (fun r1 h1 => ctX6_greater hst h1) gX6_markOf_X6_greater rfl ⟨rfl, rfl⟩ (by decide +kernel) rfl ⟨(Nat.le_of_ble_eq_true rfl), (Nat.le_of_ble_eq_true rfl)⟩ hl.1 (Nat.le_of_ble_eq_true rfl) ⟨(Nat.le_of_ble_eq_true rfl), (Nat.le_of_ble_eq_true rfl)⟩ rfl h dX6_markOf_56 (fun M11 z12 H locs hw h => ?_)
      exact q_iretN C0 hw h ⟨(Nat.le_of_ble_eq_true rfl), (Nat.le_of_ble_eq_true rfl)⟩ dX6_markOf_59
    · exact wX6_markOf_26 hst C0  M1 _ _ _ hw (lv_sub hl [] rfl) h
/-! HomewatcherModel.mark(II)I -/
abbrev rmX6_mark : Room := { frames := 4, cells := 0, slots := 0, locals := 88 }
def fX6_mark_16 (F : Nat) (M : Mem) : Option (Mem × Int32) :=
    q_bn (fX6_fails F M (1 : Int32)) fun M1 z2 =>
    some (M1, z2)
set_option maxHeartbeats 4000000 in
set_option maxRecDepth 100000 in
theorem wX6_mark_16 {p : Program} {l : Launch} {e : Env} {s : State} {m : MethodId} {args : Array Value} {below : List Frame} {meth : Method} {c : Code} {D : va_G} {cy : Nat → ClassId} {ad : Nat → Nat} {x : XX} {F : Nat} {r : Mem × Int32} (hst : l.stackTraces = false) (C0 : MX p l s m args meth c D cy ad cX6_mark RX6 3 wsX6_mark (some .int)) : ∀ (M : Mem) (H : Heap) (locs : List Loc) (ls : Array Slot), Wd D cy ad x s M H locs → lv_has ls 3 [(0, .ref (ad 427))] → fX6_mark_16 F M = some r → W p l e rmX6_mark s m args below meth c H locs 0 0 (QN D cy ad below args s x q_vi r 0 0) (F0 m 16 ls []) := by
  obtain ⟨hx, hb, hml, hown, hts, -⟩ := id C0
  intro M H locs ls hw hl h
  unfold fX6_mark_16 at h
  refine lv_aload_n hx hb dX6_mark_16 rfl (lv_at hl 0 rfl) ?_
  refine lv_iconst (v := 1) hx hb dX6_mark_17 (by decide) ?_
  refine q_callVNi (As := [.int ((1 : Int32))]) (nA := 1) C0 hw at_Mod rfl (fun r1 h1 => ctX6_fails hst h1) gX6_mark_X6_fails rfl ⟨rfl, rfl⟩ (by decide +kernel) rfl ⟨(Nat.le_of_ble_eq_true rfl), (Nat.le_of_ble_eq_true rfl)⟩ hl.1 (Nat.le_of_ble_eq_true rfl) ⟨(Nat.le_of_ble_eq_true rfl), (Nat.le_of_ble_eq_true rfl)⟩ rfl h dX6_mark_18 (fun M1 z2 H locs hw h => ?_)
  exact q_iretN C0 hw h ⟨(Nat.le_of_ble_eq_true rfl), (Nat.le_of_ble_eq_true rfl)⟩ dX6_mark_21
def fX6_mark_49 (F : Nat) (M : Mem) (s0 : Int32) : Option (Mem × Int32) :=
    some (M, s0)
set_option maxHeartbeats 4000000 in
set_option maxRecDepth 100000 in
theorem wX6_mark_49 {p : Program} {l : Launch} {e : Env} {s : State} {m : MethodId} {args : Array Value} {below : List Frame} {meth : Method} {c : Code} {D : va_G} {cy : Nat → ClassId} {ad : Nat → Nat} {x : XX} {F : Nat} {r : Mem × Int32} (hst : l.stackTraces = false) (C0 : MX p l s m args meth c D cy ad cX6_mark RX6 3 wsX6_mark (some .int)) : ∀ (M : Mem) (s0 : Int32) (H : Heap) (locs : List Loc) (ls : Array Slot), Wd D cy ad x s M H locs → lv_has ls 3 [] → fX6_mark_49 F M s0 = some r → W p l e rmX6_mark s m args below meth c H locs 0 0 (QN D cy ad below args s x q_vi r 0 0) (F0 m 49 ls [.int s0]) := by
  obtain ⟨hx, hb, hml, hown, hts, -⟩ := id C0
  intro M s0 H locs ls hw hl h
  unfold fX6_mark_49 at h
  exact q_iretN C0 hw h ⟨(Nat.le_of_ble_eq_true rfl), (Nat.le_of_ble_eq_true rfl)⟩ dX6_mark_49
def fX6_mark (F : Nat) (M : Mem) (a0 : Int32) (a1 : Int32) : Option (Mem × Int32) :=
    q_bn (fX6_isPupil F M a0) fun M1 z2 =>
    if z2 = (0 : Int32) then
    (fX6_mark_16 F M1)
    else
    (q_bn (fX6_isTask F M1 a1) fun M3 z4 =>
    if z4 = (0 : Int32) then
    (fX6_mark_16 F M3)
    else
    (q_bn (fX6_isFrozenOf F M3 a0 a1) fun M5 z6 =>
    if z6 = (0 : Int32) then
    (q_bn (fX6_markOf F M5 a0 a1) fun M7 z8 =>
    q_bn (fX6_tells F M7 z8) fun M9 z10 =>
    fX6_mark_49 F M9 z10)
    else
    (q_bn (fX6_fails F M5 (2 : Int32)) fun M7 z8 =>
    fX6_mark_49 F M7 z8)))
set_option maxHeartbeats 4000000 in
set_option maxRecDepth 100000 in
theorem ctX6_mark {l : Launch} (hst : l.stackTraces = false) {D : va_G} {cy : Nat → ClassId} {ad : Nat → Nat} {x : XX} {F : Nat} {M : Mem} {a0 : Int32} {a1 : Int32} {r : Mem × Int32} (h : fX6_mark F M a0 a1 = some r) : CN l yX6_mark wsX6_mark rmX6_mark D cy ad [.ref (ad 427), .int a0, .int a1] x M x r.1 (q_vi r.2) 0 0 := by
  refine q_startN (cc := cX6_mark) (maxL := 3) (ret := (some .int)) (by decide) rfl (Nat.le_of_ble_eq_true rfl) ?_
  intro p e s m args below meth c ls C0 hw hl hnm
  obtain ⟨hx, hb, hml, hown, hts, -⟩ := id C0
  have C0 : MX p l s m args meth c D cy ad cX6_mark RX6 3 wsX6_mark ((some .int)) := C0
  have hown : s.vm.findClass RX6 = some m.cls := hown
  have hl : lv_has ls 3 [(0, .ref (ad 427)), (1, .int a0), (2, .int a1)] := hl
  show W p l e rmX6_mark s m args below meth c s.heap [] 0 0 (QN D cy ad below args s x q_vi r 0 0) (F0 m 0 ls [])
  unfold fX6_mark at h
  refine lv_aload_n hx hb dX6_mark_0 rfl (lv_at hl 0 rfl) ?_
  refine lv_iload_n hx hb dX6_mark_1 rfl (lv_at hl 1 rfl) ?_
  refine q_callVNi (As := [.int a0]) (nA := 1) C0 hw at_Mod rfl (fun r1 h1 => ctX6_isPupil hst h1) gX6_mark_X6_isPupil rfl ⟨rfl, rfl⟩ (by decide +kernel) rfl ⟨(Nat.le_of_ble_eq_true rfl), (Nat.le_of_ble_eq_true rfl)⟩ hl.1 (Nat.le_of_ble_eq_true rfl) ⟨(Nat.le_of_ble_eq_true rfl), (Nat.le_of_ble_eq_true rfl)⟩ rfl h dX6_mark_2 (fun M1 z2 H locs hw h => ?_)
  refine q_if_eq (tgt := 16) hx hb dX6_mark_5 (by decide) h (fun h => ?_) (fun h => ?_)
  · exact wX6_mark_16 hst C0  M1 _ _ _ hw (lv_sub hl [0] rfl) h
  · refine lv_aload_n hx hb dX6_mark_8 rfl (lv_at hl 0 rfl) ?_
    refine lv_iload_n hx hb dX6_mark_9 rfl (lv_at hl 2 rfl) ?_
    refine q_callVNi (As := [.int a1]) (nA := 1) C0 hw at_Mod rfl (fun r1 h1 => ctX6_isTask hst h1) gX6_mark_X6_isTask rfl ⟨rfl, rfl⟩ (by decide +kernel) rfl ⟨(Nat.le_of_ble_eq_true rfl), (Nat.le_of_ble_eq_true rfl)⟩ hl.1 (Nat.le_of_ble_eq_true rfl) ⟨(Nat.le_of_ble_eq_true rfl), (Nat.le_of_ble_eq_true rfl)⟩ rfl h dX6_mark_10 (fun M3 z4 H locs hw h => ?_)
    refine q_if_ne (tgt := 22) hx hb dX6_mark_13 (by decide) h (fun h => ?_) (fun h => ?_)
    · refine lv_aload_n hx hb dX6_mark_22 rfl (lv_at hl 0 rfl) ?_
      refine lv_iload_n hx hb dX6_mark_23 rfl (lv_at hl 1 rfl) ?_
      refine lv_iload_n hx hb dX6_mark_24 rfl (lv_at hl 2 rfl) ?_
      refine q_callVNi (As := [.int a0, .int a1]) (nA := 2) C0 hw at_Mod rfl (fun r1 h1 => ctX6_isFrozenOf hst h1) gX6_mark_X6_isFrozenOf rfl ⟨rfl, rfl⟩ (by decide +kernel) rfl ⟨(Nat.le_of_ble_eq_true rfl), (Nat.le_of_ble_eq_true rfl)⟩ hl.1 (Nat.le_of_ble_eq_true rfl) ⟨(Nat.le_of_ble_eq_true rfl), (Nat.le_of_ble_eq_true rfl)⟩ rfl h dX6_mark_25 (fun M5 z6 H locs hw h => ?_)
      refine q_if_eq (tgt := 39) hx hb dX6_mark_28 (by decide) h (fun h => ?_) (fun h => ?_)
      · refine lv_aload_n hx hb dX6_mark_39 rfl (lv_at hl 0 rfl) ?_
        refine lv_aload_n hx hb dX6_mark_40 rfl (lv_at hl 0 rfl) ?_
        refine lv_iload_n hx hb dX6_mark_41 rfl (lv_at hl 1 rfl) ?_
        refine lv_iload_n hx hb dX6_mark_42 rfl (lv_at hl 2 rfl) ?_
        refine q_callVNi (As := [.int a0, .int a1]) (nA := 2) C0 hw at_Mod rfl (fun r1 h1 => ctX6_markOf hst h1) gX6_mark_X6_markOf rfl ⟨rfl, rfl⟩ (by decide +kernel) rfl ⟨(Nat.le_of_ble_eq_true rfl), (Nat.le_of_ble_eq_true rfl)⟩ hl.1 (Nat.le_of_ble_eq_true rfl) ⟨(Nat.le_of_ble_eq_true rfl), (Nat.le_of_ble_eq_true rfl)⟩ rfl h dX6_mark_43 (fun M7 z8 H locs hw h => ?_)
        refine q_callVNi (As := [.int z8]) (nA := 1) C0 hw at_Mod rfl (fun r1 h1 => ctX6_tells hst h1) gX6_mark_X6_tells rfl ⟨rfl, rfl⟩ (by decide +kernel) rfl ⟨(Nat.le_of_ble_eq_true rfl), (Nat.le_of_ble_eq_true rfl)⟩ hl.1 (Nat.le_of_ble_eq_true rfl) ⟨(Nat.le_of_ble_eq_true rfl), (Nat.le_of_ble_eq_true rfl)⟩ rfl h dX6_mark_46 (fun M9 z10 H locs hw h => ?_)
        exact wX6_mark_49 hst C0  M9 z10 _ _ _ hw (lv_sub hl [] rfl) h
      · refine lv_aload_n hx hb dX6_mark_31 rfl (lv_at hl 0 rfl) ?_
        refine lv_iconst (v := 2) hx hb dX6_mark_32 (by decide) ?_
        refine q_callVNi (As := [.int ((2 : Int32))]) (nA := 1) C0 hw at_Mod rfl (fun r1 h1 => ctX6_fails hst h1) gX6_mark_X6_fails rfl ⟨rfl, rfl⟩ (by decide +kernel) rfl ⟨(Nat.le_of_ble_eq_true rfl), (Nat.le_of_ble_eq_true rfl)⟩ hl.1 (Nat.le_of_ble_eq_true rfl) ⟨(Nat.le_of_ble_eq_true rfl), (Nat.le_of_ble_eq_true rfl)⟩ rfl h dX6_mark_33 (fun M7 z8 H locs hw h => ?_)
        refine lv_goto (tgt := 49) hx hb dX6_mark_36 (by decide) ?_
        exact wX6_mark_49 hst C0  M7 z8 _ _ _ hw (lv_sub hl [] rfl) h
    · exact wX6_mark_16 hst C0  M3 _ _ _ hw (lv_sub hl [0] rfl) h
/-! HomewatcherModel.isFrozen(II)Z -/
abbrev rmX6_isFrozen : Room := { frames := 2, cells := 0, slots := 0, locals := 43 }
def fX6_isFrozen_46 (F : Nat) (M : Mem) (s0 : Int32) : Option (Mem × Int32) :=
    q_gd (q_isZ s0) (
    some (M, s0))
set_option maxHeartbeats 4000000 in
set_option maxRecDepth 100000 in
theorem wX6_isFrozen_46 {p : Program} {l : Launch} {e : Env} {s : State} {m : MethodId} {args : Array Value} {below : List Frame} {meth : Method} {c : Code} {D : va_G} {cy : Nat → ClassId} {ad : Nat → Nat} {x : XX} {F : Nat} {r : Mem × Int32} (hst : l.stackTraces = false) (C0 : MX p l s m args meth c D cy ad cX6_isFrozen RX6 3 wsX6_isFrozen (some .boolean)) : ∀ (M : Mem) (s0 : Int32) (H : Heap) (locs : List Loc) (ls : Array Slot), Wd D cy ad x s M H locs → lv_has ls 3 [] → fX6_isFrozen_46 F M s0 = some r → W p l e rmX6_isFrozen s m args below meth c H locs 0 0 (QN D cy ad below args s x q_vi r 0 0) (F0 m 46 ls [.int s0]) := by
  obtain ⟨hx, hb, hml, hown, hts, -⟩ := id C0
  intro M s0 H locs ls hw hl h
  unfold fX6_isFrozen_46 at h
  refine q_guard h (fun g h => ?_)
  exact q_zretN C0 hw (q_isZ_in g) h ⟨(Nat.le_of_ble_eq_true rfl), (Nat.le_of_ble_eq_true rfl)⟩ dX6_isFrozen_46
def fX6_isFrozen_45 (F : Nat) (M : Mem) : Option (Mem × Int32) :=
    fX6_isFrozen_46 F M (0 : Int32)
set_option maxHeartbeats 4000000 in
set_option maxRecDepth 100000 in
theorem wX6_isFrozen_45 {p : Program} {l : Launch} {e : Env} {s : State} {m : MethodId} {args : Array Value} {below : List Frame} {meth : Method} {c : Code} {D : va_G} {cy : Nat → ClassId} {ad : Nat → Nat} {x : XX} {F : Nat} {r : Mem × Int32} (hst : l.stackTraces = false) (C0 : MX p l s m args meth c D cy ad cX6_isFrozen RX6 3 wsX6_isFrozen (some .boolean)) : ∀ (M : Mem) (H : Heap) (locs : List Loc) (ls : Array Slot), Wd D cy ad x s M H locs → lv_has ls 3 [] → fX6_isFrozen_45 F M = some r → W p l e rmX6_isFrozen s m args below meth c H locs 0 0 (QN D cy ad below args s x q_vi r 0 0) (F0 m 45 ls []) := by
  obtain ⟨hx, hb, hml, hown, hts, -⟩ := id C0
  intro M H locs ls hw hl h
  unfold fX6_isFrozen_45 at h
  refine lv_iconst (v := 0) hx hb dX6_isFrozen_45 (by decide) ?_
  exact wX6_isFrozen_46 hst C0  M (0 : Int32) _ _ _ hw (lv_sub hl [] rfl) h
def fX6_isFrozen_22 (F : Nat) (M : Mem) (s0 : Int32) (v1 : Int32) (v2 : Int32) : Option (Mem × Int32) :=
    q_lt (up M 69 0 0 s0) fun M1 =>
    if (M1 69 0 0) = (0 : Int32) then
    (q_bn (fX6_isFrozenOf F M1 v1 v2) fun M2 z3 =>
    if z3 = (0 : Int32) then
    (fX6_isFrozen_45 F M2)
    else
    (fX6_isFrozen_46 F M2 (1 : Int32)))
    else
    (fX6_isFrozen_45 F M1)
set_option maxHeartbeats 4000000 in
set_option maxRecDepth 100000 in
theorem wX6_isFrozen_22 {p : Program} {l : Launch} {e : Env} {s : State} {m : MethodId} {args : Array Value} {below : List Frame} {meth : Method} {c : Code} {D : va_G} {cy : Nat → ClassId} {ad : Nat → Nat} {x : XX} {F : Nat} {r : Mem × Int32} (hst : l.stackTraces = false) (C0 : MX p l s m args meth c D cy ad cX6_isFrozen RX6 3 wsX6_isFrozen (some .boolean)) : ∀ (M : Mem) (s0 : Int32) (v1 : Int32) (v2 : Int32) (H : Heap) (locs : List Loc) (ls : Array Slot), Wd D cy ad x s M H locs → lv_has ls 3 [(0, .ref (ad 427)), (1, .int v1), (2, .int v2)] → fX6_isFrozen_22 F M s0 v1 v2 = some r → W p l e rmX6_isFrozen s m args below meth c H locs 0 0 (QN D cy ad below args s x q_vi r 0 0) (F0 m 22 ls [.int s0, .ref (ad 427)]) := by
  obtain ⟨hx, hb, hml, hown, hts, -⟩ := id C0
  intro M s0 v1 v2 H locs ls hw hl h
  unfold fX6_isFrozen_22 at h
  refine pf_Mod_thrown C0 hw (fun _ h9 => List.mem_cons_of_mem _ (List.mem_append_left _ (List.mem_append_right _ h9))) (List.mem_of_getElem? (i := 1) rfl) dX6_isFrozen_22 h (fun M1 H locs hw h => ?_)
  refine lv_aload_n hx hb dX6_isFrozen_25 rfl (lv_at hl 0 rfl) ?_
  refine gf_Mod_thrown C0 hw (fun _ h9 => List.mem_cons_of_mem _ (List.mem_append_left _ (List.mem_append_right _ h9))) (List.mem_of_getElem? (i := 1) rfl) dX6_isFrozen_26 ?_
  refine q_if_ne (tgt := 45) hx hb dX6_isFrozen_29 (by decide) h (fun h => ?_) (fun h => ?_)
  · exact wX6_isFrozen_45 hst C0  M1 _ _ _ hw (lv_sub hl [] rfl) h
  · refine lv_aload_n hx hb dX6_isFrozen_32 rfl (lv_at hl 0 rfl) ?_
    refine lv_iload_n hx hb dX6_isFrozen_33 rfl (lv_at hl 1 rfl) ?_
    refine lv_iload_n hx hb dX6_isFrozen_34 rfl (lv_at hl 2 rfl) ?_
    refine q_callVNi (As := [.int v1, .int v2]) (nA := 2) C0 hw at_Mod rfl (fun r1 h1 => ctX6_isFrozenOf hst h1) gX6_isFrozen_X6_isFrozenOf rfl ⟨rfl, rfl⟩ (by decide +kernel) rfl ⟨(Nat.le_of_ble_eq_true rfl), (Nat.le_of_ble_eq_true rfl)⟩ hl.1 (Nat.le_of_ble_eq_true rfl) ⟨(Nat.le_of_ble_eq_true rfl), (Nat.le_of_ble_eq_true rfl)⟩ rfl h dX6_isFrozen_35 (fun M2 z3 H locs hw h => ?_)
    refine q_if_eq (tgt := 45) hx hb dX6_isFrozen_38 (by decide) h (fun h => ?_) (fun h => ?_)
    · exact wX6_isFrozen_45 hst C0  M2 _ _ _ hw (lv_sub hl [] rfl) h
    · refine lv_iconst (v := 1) hx hb dX6_isFrozen_41 (by decide) ?_
      refine lv_goto (tgt := 46) hx hb dX6_isFrozen_42 (by decide) ?_
      exact wX6_isFrozen_46 hst C0  M2 (1 : Int32) _ _ _ hw (lv_sub hl [] rfl) h
def fX6_isFrozen_21 (F : Nat) (M : Mem) (v1 : Int32) (v2 : Int32) : Option (Mem × Int32) :=
    fX6_isFrozen_22 F M (1 : Int32) v1 v2
set_option maxHeartbeats 4000000 in
set_option maxRecDepth 100000 in
theorem wX6_isFrozen_21 {p : Program} {l : Launch} {e : Env} {s : State} {m : MethodId} {args : Array Value} {below : List Frame} {meth : Method} {c : Code} {D : va_G} {cy : Nat → ClassId} {ad : Nat → Nat} {x : XX} {F : Nat} {r : Mem × Int32} (hst : l.stackTraces = false) (C0 : MX p l s m args meth c D cy ad cX6_isFrozen RX6 3 wsX6_isFrozen (some .boolean)) : ∀ (M : Mem) (v1 : Int32) (v2 : Int32) (H : Heap) (locs : List Loc) (ls : Array Slot), Wd D cy ad x s M H locs → lv_has ls 3 [(0, .ref (ad 427)), (1, .int v1), (2, .int v2)] → fX6_isFrozen_21 F M v1 v2 = some r → W p l e rmX6_isFrozen s m args below meth c H locs 0 0 (QN D cy ad below args s x q_vi r 0 0) (F0 m 21 ls [.ref (ad 427)]) := by
  obtain ⟨hx, hb, hml, hown, hts, -⟩ := id C0
  intro M v1 v2 H locs ls hw hl h
  unfold fX6_isFrozen_21 at h
  refine lv_iconst (v := 1) hx hb dX6_isFrozen_21 (by decide) ?_
  exact wX6_isFrozen_22 hst C0  M (1 : Int32) v1 v2 _ _ _ hw (lv_sub hl [0, 1, 2] rfl) h
def fX6_isFrozen (F : Nat) (M : Mem) (a0 : Int32) (a1 : Int32) : Option (Mem × Int32) :=
    q_bn (fX6_isPupil F M a0) fun M1 z2 =>
    if z2 = (0 : Int32) then
    (fX6_isFrozen_21 F M1 a0 a1)
    else
    (q_bn (fX6_isTask F M1 a1) fun M3 z4 =>
    if z4 = (0 : Int32) then
    (fX6_isFrozen_21 F M3 a0 a1)
    else
    (fX6_isFrozen_22 F M3 (0 : Int32) a0 a1))
set_option maxHeartbeats 4000000 in
set_option maxRecDepth 100000 in
theorem ctX6_isFrozen {l : Launch} (hst : l.stackTraces = false) {D : va_G} {cy : Nat → ClassId} {ad : Nat → Nat} {x : XX} {F : Nat} {M : Mem} {a0 : Int32} {a1 : Int32} {r : Mem × Int32} (h : fX6_isFrozen F M a0 a1 = some r) : CN l yX6_isFrozen wsX6_isFrozen rmX6_isFrozen D cy ad [.ref (ad 427), .int a0, .int a1] x M x r.1 (q_vi r.2) 0 0 := by
  refine q_startN (cc := cX6_isFrozen) (maxL := 3) (ret := (some .boolean)) (by decide) rfl (Nat.le_of_ble_eq_true rfl) ?_
  intro p e s m args below meth c ls C0 hw hl hnm
  obtain ⟨hx, hb, hml, hown, hts, -⟩ := id C0
  have C0 : MX p l s m args meth c D cy ad cX6_isFrozen RX6 3 wsX6_isFrozen ((some .boolean)) := C0
  have hown : s.vm.findClass RX6 = some m.cls := hown
  have hl : lv_has ls 3 [(0, .ref (ad 427)), (1, .int a0), (2, .int a1)] := hl
  show W p l e rmX6_isFrozen s m args below meth c s.heap [] 0 0 (QN D cy ad below args s x q_vi r 0 0) (F0 m 0 ls [])
  unfold fX6_isFrozen at h
  refine lv_aload_n hx hb dX6_isFrozen_0 rfl (lv_at hl 0 rfl) ?_
  refine lv_aload_n hx hb dX6_isFrozen_1 rfl (lv_at hl 0 rfl) ?_
  refine lv_iload_n hx hb dX6_isFrozen_2 rfl (lv_at hl 1 rfl) ?_
  refine q_callVNi (As := [.int a0]) (nA := 1) C0 hw at_Mod rfl (fun r1 h1 => ctX6_isPupil hst h1) gX6_isFrozen_X6_isPupil rfl ⟨rfl, rfl⟩ (by decide +kernel) rfl ⟨(Nat.le_of_ble_eq_true rfl), (Nat.le_of_ble_eq_true rfl)⟩ hl.1 (Nat.le_of_ble_eq_true rfl) ⟨(Nat.le_of_ble_eq_true rfl), (Nat.le_of_ble_eq_true rfl)⟩ rfl h dX6_isFrozen_3 (fun M1 z2 H locs hw h => ?_)
  refine q_if_eq (tgt := 21) hx hb dX6_isFrozen_6 (by decide) h (fun h => ?_) (fun h => ?_)
  · exact wX6_isFrozen_21 hst C0  M1 a0 a1 _ _ _ hw (lv_sub hl [0, 1, 2] rfl) h
  · refine lv_aload_n hx hb dX6_isFrozen_9 rfl (lv_at hl 0 rfl) ?_
    refine lv_iload_n hx hb dX6_isFrozen_10 rfl (lv_at hl 2 rfl) ?_
    refine q_callVNi (As := [.int a1]) (nA := 1) C0 hw at_Mod rfl (fun r1 h1 => ctX6_isTask hst h1) gX6_isFrozen_X6_isTask rfl ⟨rfl, rfl⟩ (by decide +kernel) rfl ⟨(Nat.le_of_ble_eq_true rfl), (Nat.le_of_ble_eq_true rfl)⟩ hl.1 (Nat.le_of_ble_eq_true rfl) ⟨(Nat.le_of_ble_eq_true rfl), (Nat.le_of_ble_eq_true rfl)⟩ rfl h dX6_isFrozen_11 (fun M3 z4 H locs hw h => ?_)
    refine q_if_eq (tgt := 21) hx hb dX6_isFrozen_14 (by decide) h (fun h => ?_) (fun h => ?_)
    · exact wX6_isFrozen_21 hst C0  M3 a0 a1 _ _ _ hw (lv_sub hl [0, 1, 2] rfl) h
    · refine lv_iconst (v := 0) hx hb dX6_isFrozen_17 (by decide) ?_
      refine lv_goto (tgt := 22) hx hb dX6_isFrozen_18 (by decide) ?_
      exact wX6_isFrozen_22 hst C0  M3 (0 : Int32) a0 a1 _ _ _ hw (lv_sub hl [0, 1, 2] rfl) h
/-! HomewatcherModel.shared(II)I -/
abbrev rmX6_shared : Room := { frames := 2, cells := 0, slots := 0, locals := 43 }
def fX6_shared_34 (F : Nat) (M : Mem) (s0 : Int32) : Option (Mem × Int32) :=
    some (M, s0)
set_option maxHeartbeats 4000000 in
set_option maxRecDepth 100000 in
theorem wX6_shared_34 {p : Program} {l : Launch} {e : Env} {s : State} {m : MethodId} {args : Array Value} {below : List Frame} {meth : Method} {c : Code} {D : va_G} {cy : Nat → ClassId} {ad : Nat → Nat} {x : XX} {F : Nat} {r : Mem × Int32} (hst : l.stackTraces = false) (C0 : MX p l s m args meth c D cy ad cX6_shared RX6 3 wsX6_shared (some .int)) : ∀ (M : Mem) (s0 : Int32) (H : Heap) (locs : List Loc) (ls : Array Slot), Wd D cy ad x s M H locs → lv_has ls 3 [] → fX6_shared_34 F M s0 = some r → W p l e rmX6_shared s m args below meth c H locs 0 0 (QN D cy ad below args s x q_vi r 0 0) (F0 m 34 ls [.int s0]) := by
  obtain ⟨hx, hb, hml, hown, hts, -⟩ := id C0
  intro M s0 H locs ls hw hl h
  unfold fX6_shared_34 at h
  exact q_iretN C0 hw h ⟨(Nat.le_of_ble_eq_true rfl), (Nat.le_of_ble_eq_true rfl)⟩ dX6_shared_34
def fX6_shared_29 (F : Nat) (M : Mem) : Option (Mem × Int32) :=
    q_bn (fX6_fails F M (1 : Int32)) fun M1 z2 =>
    fX6_shared_34 F M1 z2
set_option maxHeartbeats 4000000 in
set_option maxRecDepth 100000 in
theorem wX6_shared_29 {p : Program} {l : Launch} {e : Env} {s : State} {m : MethodId} {args : Array Value} {below : List Frame} {meth : Method} {c : Code} {D : va_G} {cy : Nat → ClassId} {ad : Nat → Nat} {x : XX} {F : Nat} {r : Mem × Int32} (hst : l.stackTraces = false) (C0 : MX p l s m args meth c D cy ad cX6_shared RX6 3 wsX6_shared (some .int)) : ∀ (M : Mem) (H : Heap) (locs : List Loc) (ls : Array Slot), Wd D cy ad x s M H locs → lv_has ls 3 [(0, .ref (ad 427))] → fX6_shared_29 F M = some r → W p l e rmX6_shared s m args below meth c H locs 0 0 (QN D cy ad below args s x q_vi r 0 0) (F0 m 29 ls []) := by
  obtain ⟨hx, hb, hml, hown, hts, -⟩ := id C0
  intro M H locs ls hw hl h
  unfold fX6_shared_29 at h
  refine lv_aload_n hx hb dX6_shared_29 rfl (lv_at hl 0 rfl) ?_
  refine lv_iconst (v := 1) hx hb dX6_shared_30 (by decide) ?_
  refine q_callVNi (As := [.int ((1 : Int32))]) (nA := 1) C0 hw at_Mod rfl (fun r1 h1 => ctX6_fails hst h1) gX6_shared_X6_fails rfl ⟨rfl, rfl⟩ (by decide +kernel) rfl ⟨(Nat.le_of_ble_eq_true rfl), (Nat.le_of_ble_eq_true rfl)⟩ hl.1 (Nat.le_of_ble_eq_true rfl) ⟨(Nat.le_of_ble_eq_true rfl), (Nat.le_of_ble_eq_true rfl)⟩ rfl h dX6_shared_31 (fun M1 z2 H locs hw h => ?_)
  exact wX6_shared_34 hst C0  M1 z2 _ _ _ hw (lv_sub hl [] rfl) h
def fX6_shared (F : Nat) (M : Mem) (a0 : Int32) (a1 : Int32) : Option (Mem × Int32) :=
    q_bn (fX6_isVersion F M a0) fun M1 z2 =>
    if z2 = (0 : Int32) then
    (fX6_shared_29 F M1)
    else
    (q_bn (fX6_isVersion F M1 a1) fun M3 z4 =>
    if z4 = (0 : Int32) then
    (fX6_shared_29 F M3)
    else
    (q_bn (fX6_common F M3 a0 a1) fun M5 z6 =>
    q_bn (fX6_tells F M5 z6) fun M7 z8 =>
    fX6_shared_34 F M7 z8))
set_option maxHeartbeats 4000000 in
set_option maxRecDepth 100000 in
theorem ctX6_shared {l : Launch} (hst : l.stackTraces = false) {D : va_G} {cy : Nat → ClassId} {ad : Nat → Nat} {x : XX} {F : Nat} {M : Mem} {a0 : Int32} {a1 : Int32} {r : Mem × Int32} (h : fX6_shared F M a0 a1 = some r) : CN l yX6_shared wsX6_shared rmX6_shared D cy ad [.ref (ad 427), .int a0, .int a1] x M x r.1 (q_vi r.2) 0 0 := by
  refine q_startN (cc := cX6_shared) (maxL := 3) (ret := (some .int)) (by decide) rfl (Nat.le_of_ble_eq_true rfl) ?_
  intro p e s m args below meth c ls C0 hw hl hnm
  obtain ⟨hx, hb, hml, hown, hts, -⟩ := id C0
  have C0 : MX p l s m args meth c D cy ad cX6_shared RX6 3 wsX6_shared ((some .int)) := C0
  have hown : s.vm.findClass RX6 = some m.cls := hown
  have hl : lv_has ls 3 [(0, .ref (ad 427)), (1, .int a0), (2, .int a1)] := hl
  show W p l e rmX6_shared s m args below meth c s.heap [] 0 0 (QN D cy ad below args s x q_vi r 0 0) (F0 m 0 ls [])
  unfold fX6_shared at h
  refine lv_aload_n hx hb dX6_shared_0 rfl (lv_at hl 0 rfl) ?_
  refine lv_iload_n hx hb dX6_shared_1 rfl (lv_at hl 1 rfl) ?_
  refine q_callVNi (As := [.int a0]) (nA := 1) C0 hw at_Mod rfl (fun r1 h1 => ctX6_isVersion hst h1) gX6_shared_X6_isVersion rfl ⟨rfl, rfl⟩ (by decide +kernel) rfl ⟨(Nat.le_of_ble_eq_true rfl), (Nat.le_of_ble_eq_true rfl)⟩ hl.1 (Nat.le_of_ble_eq_true rfl) ⟨(Nat.le_of_ble_eq_true rfl), (Nat.le_of_ble_eq_true rfl)⟩ rfl h dX6_shared_2 (fun M1 z2 H locs hw h => ?_)
  refine q_if_eq (tgt := 29) hx hb dX6_shared_5 (by decide) h (fun h => ?_) (fun h => ?_)
  · exact wX6_shared_29 hst C0  M1 _ _ _ hw (lv_sub hl [0] rfl) h
  · refine lv_aload_n hx hb dX6_shared_8 rfl (lv_at hl 0 rfl) ?_
    refine lv_iload_n hx hb dX6_shared_9 rfl (lv_at hl 2 rfl) ?_
    refine q_callVNi (As := [.int a1]) (nA := 1) C0 hw at_Mod rfl (fun r1 h1 => ctX6_isVersion hst h1) gX6_shared_X6_isVersion rfl ⟨rfl, rfl⟩ (by decide +kernel) rfl ⟨(Nat.le_of_ble_eq_true rfl), (Nat.le_of_ble_eq_true rfl)⟩ hl.1 (Nat.le_of_ble_eq_true rfl) ⟨(Nat.le_of_ble_eq_true rfl), (Nat.le_of_ble_eq_true rfl)⟩ rfl h dX6_shared_10 (fun M3 z4 H locs hw h => ?_)
    refine q_if_eq (tgt := 29) hx hb dX6_shared_13 (by decide) h (fun h => ?_) (fun h => ?_)
    · exact wX6_shared_29 hst C0  M3 _ _ _ hw (lv_sub hl [0] rfl) h
    · refine lv_aload_n hx hb dX6_shared_16 rfl (lv_at hl 0 rfl) ?_
      refine lv_aload_n hx hb dX6_shared_17 rfl (lv_at hl 0 rfl) ?_
      refine lv_iload_n hx hb dX6_shared_18 rfl (lv_at hl 1 rfl) ?_
      refine lv_iload_n hx hb dX6_shared_19 rfl (lv_at hl 2 rfl) ?_
      refine q_callVNi (As := [.int a0, .int a1]) (nA := 2) C0 hw at_Mod rfl (fun r1 h1 => ctX6_common hst h1) gX6_shared_X6_common rfl ⟨rfl, rfl⟩ (by decide +kernel) rfl ⟨(Nat.le_of_ble_eq_true rfl), (Nat.le_of_ble_eq_true rfl)⟩ hl.1 (Nat.le_of_ble_eq_true rfl) ⟨(Nat.le_of_ble_eq_true rfl), (Nat.le_of_ble_eq_true rfl)⟩ rfl h dX6_shared_20 (fun M5 z6 H locs hw h => ?_)
      refine q_callVNi (As := [.int z6]) (nA := 1) C0 hw at_Mod rfl (fun r1 h1 => ctX6_tells hst h1) gX6_shared_X6_tells rfl ⟨rfl, rfl⟩ (by decide +kernel) rfl ⟨(Nat.le_of_ble_eq_true rfl), (Nat.le_of_ble_eq_true rfl)⟩ hl.1 (Nat.le_of_ble_eq_true rfl) ⟨(Nat.le_of_ble_eq_true rfl), (Nat.le_of_ble_eq_true rfl)⟩ rfl h dX6_shared_23 (fun M7 z8 H locs hw h => ?_)
      refine lv_goto (tgt := 34) hx hb dX6_shared_26 (by decide) ?_
      exact wX6_shared_34 hst C0  M7 z8 _ _ _ hw (lv_sub hl [] rfl) h
/-! HomewatcherModel.shingle(II)I -/
abbrev rmX6_shingle : Room := { frames := 2, cells := 0, slots := 0, locals := 43 }
def fX6_shingle_53 (F : Nat) (M : Mem) (s0 : Int32) : Option (Mem × Int32) :=
    some (M, s0)
set_option maxHeartbeats 4000000 in
set_option maxRecDepth 100000 in
theorem wX6_shingle_53 {p : Program} {l : Launch} {e : Env} {s : State} {m : MethodId} {args : Array Value} {below : List Frame} {meth : Method} {c : Code} {D : va_G} {cy : Nat → ClassId} {ad : Nat → Nat} {x : XX} {F : Nat} {r : Mem × Int32} (hst : l.stackTraces = false) (C0 : MX p l s m args meth c D cy ad cX6_shingle RX6 3 wsX6_shingle (some .int)) : ∀ (M : Mem) (s0 : Int32) (H : Heap) (locs : List Loc) (ls : Array Slot), Wd D cy ad x s M H locs → lv_has ls 3 [] → fX6_shingle_53 F M s0 = some r → W p l e rmX6_shingle s m args below meth c H locs 0 0 (QN D cy ad below args s x q_vi r 0 0) (F0 m 53 ls [.int s0]) := by
  obtain ⟨hx, hb, hml, hown, hts, -⟩ := id C0
  intro M s0 H locs ls hw hl h
  unfold fX6_shingle_53 at h
  exact q_iretN C0 hw h ⟨(Nat.le_of_ble_eq_true rfl), (Nat.le_of_ble_eq_true rfl)⟩ dX6_shingle_53
def fX6_shingle (F : Nat) (M : Mem) (a0 : Int32) (a1 : Int32) : Option (Mem × Int32) :=
    q_bn (fX6_isVersion F M a0) fun M1 z2 =>
    if z2 = (0 : Int32) then
    (q_bn (fX6_fails F M1 (1 : Int32)) fun M3 z4 =>
    some (M3, z4))
    else
    (q_ax a0 60 fun j3 =>
    q_bn (fX6_in F M1 a1 (0 : Int32) ((M1 44 0 j3) - (1 : Int32))) fun M4 z5 =>
    if z5 = (0 : Int32) then
    (q_bn (fX6_fails F M4 (2 : Int32)) fun M6 z7 =>
    fX6_shingle_53 F M6 z7)
    else
    (q_ax (((40 : Int32) * a0) + a1) 2400 fun j6 =>
    q_bn (fX6_tells F M4 (M4 43 0 j6)) fun M7 z8 =>
    fX6_shingle_53 F M7 z8))
set_option maxHeartbeats 4000000 in
set_option maxRecDepth 100000 in
theorem ctX6_shingle {l : Launch} (hst : l.stackTraces = false) {D : va_G} {cy : Nat → ClassId} {ad : Nat → Nat} {x : XX} {F : Nat} {M : Mem} {a0 : Int32} {a1 : Int32} {r : Mem × Int32} (h : fX6_shingle F M a0 a1 = some r) : CN l yX6_shingle wsX6_shingle rmX6_shingle D cy ad [.ref (ad 427), .int a0, .int a1] x M x r.1 (q_vi r.2) 0 0 := by
  refine q_startN (cc := cX6_shingle) (maxL := 3) (ret := (some .int)) (by decide) rfl (Nat.le_of_ble_eq_true rfl) ?_
  intro p e s m args below meth c ls C0 hw hl hnm
  obtain ⟨hx, hb, hml, hown, hts, -⟩ := id C0
  have C0 : MX p l s m args meth c D cy ad cX6_shingle RX6 3 wsX6_shingle ((some .int)) := C0
  have hown : s.vm.findClass RX6 = some m.cls := hown
  have hl : lv_has ls 3 [(0, .ref (ad 427)), (1, .int a0), (2, .int a1)] := hl
  show W p l e rmX6_shingle s m args below meth c s.heap [] 0 0 (QN D cy ad below args s x q_vi r 0 0) (F0 m 0 ls [])
  unfold fX6_shingle at h
  refine lv_aload_n hx hb dX6_shingle_0 rfl (lv_at hl 0 rfl) ?_
  refine lv_iload_n hx hb dX6_shingle_1 rfl (lv_at hl 1 rfl) ?_
  refine q_callVNi (As := [.int a0]) (nA := 1) C0 hw at_Mod rfl (fun r1 h1 => ctX6_isVersion hst h1) gX6_shingle_X6_isVersion rfl ⟨rfl, rfl⟩ (by decide +kernel) rfl ⟨(Nat.le_of_ble_eq_true rfl), (Nat.le_of_ble_eq_true rfl)⟩ hl.1 (Nat.le_of_ble_eq_true rfl) ⟨(Nat.le_of_ble_eq_true rfl), (Nat.le_of_ble_eq_true rfl)⟩ rfl h dX6_shingle_2 (fun M1 z2 H locs hw h => ?_)
  refine q_if_ne (tgt := 14) hx hb dX6_shingle_5 (by decide) h (fun h => ?_) (fun h => ?_)
  · refine lv_iload_n hx hb dX6_shingle_14 rfl (lv_at hl 2 rfl) ?_
    refine lv_iconst (v := 0) hx hb dX6_shingle_15 (by decide) ?_
    refine lv_aload_n hx hb dX6_shingle_16 rfl (lv_at hl 0 rfl) ?_
    refine gf_Mod_shingleCounts C0 hw (fun _ h9 => List.mem_cons_of_mem _ (List.mem_append_left _ (List.mem_append_right _ h9))) (List.mem_of_getElem? (i := 1) rfl) dX6_shingle_17 ?_
    refine lv_iload_n hx hb dX6_shingle_20 rfl (lv_at hl 1 rfl) ?_
    refine q_iald C0 hw at_m44 h dX6_shingle_21 (fun j3 hj3 h => ?_)
    refine lv_iconst (v := 1) hx hb dX6_shingle_22 (by decide) ?_
    refine lv_isub hx hb dX6_shingle_23 ?_
    refine q_callSNi (As := [.int a1, .int ((0 : Int32)), .int ((M1 44 0 j3) - (1 : Int32))]) (nA := 3) C0 hw (fun r1 h1 => ctX6_in hst h1) gX6_shingle_X6_in rfl ⟨rfl, rfl⟩ (by decide +kernel) rfl ⟨(Nat.le_of_ble_eq_true rfl), (Nat.le_of_ble_eq_true rfl)⟩ hl.1 (Nat.le_of_ble_eq_true rfl) ⟨(Nat.le_of_ble_eq_true rfl), (Nat.le_of_ble_eq_true rfl)⟩ rfl h dX6_shingle_24 (fun M4 z5 H locs hw h => ?_)
    refine q_if_eq (tgt := 48) hx hb dX6_shingle_27 (by decide) h (fun h => ?_) (fun h => ?_)
    · refine lv_aload_n hx hb dX6_shingle_48 rfl (lv_at hl 0 rfl) ?_
      refine lv_iconst (v := 2) hx hb dX6_shingle_49 (by decide) ?_
      refine q_callVNi (As := [.int ((2 : Int32))]) (nA := 1) C0 hw at_Mod rfl (fun r1 h1 => ctX6_fails hst h1) gX6_shingle_X6_fails rfl ⟨rfl, rfl⟩ (by decide +kernel) rfl ⟨(Nat.le_of_ble_eq_true rfl), (Nat.le_of_ble_eq_true rfl)⟩ hl.1 (Nat.le_of_ble_eq_true rfl) ⟨(Nat.le_of_ble_eq_true rfl), (Nat.le_of_ble_eq_true rfl)⟩ rfl h dX6_shingle_50 (fun M6 z7 H locs hw h => ?_)
      exact wX6_shingle_53 hst C0  M6 z7 _ _ _ hw (lv_sub hl [] rfl) h
    · refine lv_aload_n hx hb dX6_shingle_30 rfl (lv_at hl 0 rfl) ?_
      refine lv_aload_n hx hb dX6_shingle_31 rfl (lv_at hl 0 rfl) ?_
      refine gf_Mod_shingles C0 hw (fun _ h9 => List.mem_cons_of_mem _ (List.mem_append_left _ (List.mem_append_right _ h9))) (List.mem_of_getElem? (i := 2) rfl) dX6_shingle_32 ?_
      refine lv_bipush (v := 40) hx hb dX6_shingle_35 (by decide) ?_
      refine lv_iload_n hx hb dX6_shingle_37 rfl (lv_at hl 1 rfl) ?_
      refine lv_imul hx hb dX6_shingle_38 ?_
      refine lv_iload_n hx hb dX6_shingle_39 rfl (lv_at hl 2 rfl) ?_
      refine lv_iadd hx hb dX6_shingle_40 ?_
      refine q_iald C0 hw at_m43 h dX6_shingle_41 (fun j6 hj6 h => ?_)
      refine q_callVNi (As := [.int (M4 43 0 j6)]) (nA := 1) C0 hw at_Mod rfl (fun r1 h1 => ctX6_tells hst h1) gX6_shingle_X6_tells rfl ⟨rfl, rfl⟩ (by decide +kernel) rfl ⟨(Nat.le_of_ble_eq_true rfl), (Nat.le_of_ble_eq_true rfl)⟩ hl.1 (Nat.le_of_ble_eq_true rfl) ⟨(Nat.le_of_ble_eq_true rfl), (Nat.le_of_ble_eq_true rfl)⟩ rfl h dX6_shingle_42 (fun M7 z8 H locs hw h => ?_)
      refine lv_goto (tgt := 53) hx hb dX6_shingle_45 (by decide) ?_
      exact wX6_shingle_53 hst C0  M7 z8 _ _ _ hw (lv_sub hl [] rfl) h
  · refine lv_aload_n hx hb dX6_shingle_8 rfl (lv_at hl 0 rfl) ?_
    refine lv_iconst (v := 1) hx hb dX6_shingle_9 (by decide) ?_
    refine q_callVNi (As := [.int ((1 : Int32))]) (nA := 1) C0 hw at_Mod rfl (fun r1 h1 => ctX6_fails hst h1) gX6_shingle_X6_fails rfl ⟨rfl, rfl⟩ (by decide +kernel) rfl ⟨(Nat.le_of_ble_eq_true rfl), (Nat.le_of_ble_eq_true rfl)⟩ hl.1 (Nat.le_of_ble_eq_true rfl) ⟨(Nat.le_of_ble_eq_true rfl), (Nat.le_of_ble_eq_true rfl)⟩ rfl h dX6_shingle_10 (fun M3 z4 H locs hw h => ?_)
    exact q_iretN C0 hw h ⟨(Nat.le_of_ble_eq_true rfl), (Nat.le_of_ble_eq_true rfl)⟩ dX6_shingle_13
/-! HomewatcherModel.holdersOf(II)I -/
abbrev rmX6_holdersOf : Room := { frames := 0, cells := 0, slots := 0, locals := 0 }
def fX6_holdersOf_60 (F : Nat) (k14 : Mem → Int32 → Int32 → Int32 → Int32 → Int32 → Option (Mem × Int32)) (M : Mem) (s0 : Int32) (s1 : Int32) (v1 : Int32) (v2 : Int32) (v4 : Int32) (v5 : Int32) : Option (Mem × Int32) :=
    q_lt (s1 + s0) fun z1 =>
    q_lt (v5 + (1 : Int32)) fun z2 =>
    k14 M v1 v2 z1 v4 z2
set_option maxHeartbeats 4000000 in
set_option maxRecDepth 100000 in
theorem wX6_holdersOf_60 {p : Program} {l : Launch} {e : Env} {s : State} {m : MethodId} {args : Array Value} {below : List Frame} {meth : Method} {c : Code} {D : va_G} {cy : Nat → ClassId} {ad : Nat → Nat} {x : XX} {F : Nat} {r : Mem × Int32} (hst : l.stackTraces = false) (C0 : MX p l s m args meth c D cy ad cX6_holdersOf RX6 6 wsX6_holdersOf (some .int)) {k14 : Mem → Int32 → Int32 → Int32 → Int32 → Int32 → Option (Mem × Int32)} (hk14 : ∀ (M : Mem) (v1 : Int32) (v2 : Int32) (v3 : Int32) (v4 : Int32) (v5 : Int32) (H : Heap) (locs : List Loc) (ls : Array Slot), Wd D cy ad x s M H locs → lv_has ls 6 [(0, .ref (ad 427)), (1, .int v1), (2, .int v2), (3, .int v3), (4, .int v4), (5, .int v5)] → k14 M v1 v2 v3 v4 v5 = some r → W p l e rmX6_holdersOf s m args below meth c H locs 0 0 (QN D cy ad below args s x q_vi r 0 0) (F0 m 14 ls [])) : ∀ (M : Mem) (s0 : Int32) (s1 : Int32) (v1 : Int32) (v2 : Int32) (v4 : Int32) (v5 : Int32) (H : Heap) (locs : List Loc) (ls : Array Slot), Wd D cy ad x s M H locs → lv_has ls 6 [(0, .ref (ad 427)), (1, .int v1), (2, .int v2), (4, .int v4), (5, .int v5)] → fX6_holdersOf_60 F k14 M s0 s1 v1 v2 v4 v5 = some r → W p l e rmX6_holdersOf s m args below meth c H locs 0 0 (QN D cy ad below args s x q_vi r 0 0) (F0 m 60 ls [.int s0, .int s1]) := by
  obtain ⟨hx, hb, hml, hown, hts, -⟩ := id C0
  intro M s0 s1 v1 v2 v4 v5 H locs ls hw hl h
  unfold fX6_holdersOf_60 at h
  refine lv_iadd hx hb dX6_holdersOf_60 ?_
  refine q_istore_n (lv' := fun z1 => [(3, .int z1), (0, .ref (ad 427)), (1, .int v1), (2, .int v2), (4, .int v4), (5, .int v5)]) hx hb dX6_holdersOf_61 rfl hl (by decide) (fun _ => rfl) h (fun z1 ls hl h => ?_)
  refine q_iinc (k := 5) (cst := 1) (lv' := fun z2 => [(5, .int z2), (3, .int z1), (0, .ref (ad 427)), (1, .int v1), (2, .int v2), (4, .int v4)]) hx hb dX6_holdersOf_62 hl rfl rfl (by decide) (fun _ => rfl) h (fun z2 ls hl h => ?_)
  refine lv_goto (tgt := 14) hx hb dX6_holdersOf_65 (by decide) ?_
  exact hk14 M v1 v2 z1 v4 z2 _ _ _ hw (lv_sub hl [2, 3, 4, 1, 5, 0] rfl) h
def fX6_holdersOf_59 (F : Nat) (k14 : Mem → Int32 → Int32 → Int32 → Int32 → Int32 → Option (Mem × Int32)) (M : Mem) (s0 : Int32) (v1 : Int32) (v2 : Int32) (v4 : Int32) (v5 : Int32) : Option (Mem × Int32) :=
    fX6_holdersOf_60 F k14 M (0 : Int32) s0 v1 v2 v4 v5
set_option maxHeartbeats 4000000 in
set_option maxRecDepth 100000 in
theorem wX6_holdersOf_59 {p : Program} {l : Launch} {e : Env} {s : State} {m : MethodId} {args : Array Value} {below : List Frame} {meth : Method} {c : Code} {D : va_G} {cy : Nat → ClassId} {ad : Nat → Nat} {x : XX} {F : Nat} {r : Mem × Int32} (hst : l.stackTraces = false) (C0 : MX p l s m args meth c D cy ad cX6_holdersOf RX6 6 wsX6_holdersOf (some .int)) {k14 : Mem → Int32 → Int32 → Int32 → Int32 → Int32 → Option (Mem × Int32)} (hk14 : ∀ (M : Mem) (v1 : Int32) (v2 : Int32) (v3 : Int32) (v4 : Int32) (v5 : Int32) (H : Heap) (locs : List Loc) (ls : Array Slot), Wd D cy ad x s M H locs → lv_has ls 6 [(0, .ref (ad 427)), (1, .int v1), (2, .int v2), (3, .int v3), (4, .int v4), (5, .int v5)] → k14 M v1 v2 v3 v4 v5 = some r → W p l e rmX6_holdersOf s m args below meth c H locs 0 0 (QN D cy ad below args s x q_vi r 0 0) (F0 m 14 ls [])) : ∀ (M : Mem) (s0 : Int32) (v1 : Int32) (v2 : Int32) (v4 : Int32) (v5 : Int32) (H : Heap) (locs : List Loc) (ls : Array Slot), Wd D cy ad x s M H locs → lv_has ls 6 [(0, .ref (ad 427)), (1, .int v1), (2, .int v2), (4, .int v4), (5, .int v5)] → fX6_holdersOf_59 F k14 M s0 v1 v2 v4 v5 = some r → W p l e rmX6_holdersOf s m args below meth c H locs 0 0 (QN D cy ad below args s x q_vi r 0 0) (F0 m 59 ls [.int s0]) := by
  obtain ⟨hx, hb, hml, hown, hts, -⟩ := id C0
  intro M s0 v1 v2 v4 v5 H locs ls hw hl h
  unfold fX6_holdersOf_59 at h
  refine lv_iconst (v := 0) hx hb dX6_holdersOf_59 (by decide) ?_
  exact wX6_holdersOf_60 hst C0 hk14 M (0 : Int32) s0 v1 v2 v4 v5 _ _ _ hw (lv_sub hl [0, 1, 2, 3, 4] rfl) h
def fX6_holdersOf_14 (F : Nat) (k5 : Mem → Int32 → Int32 → Int32 → Int32 → Option (Mem × Int32)) : Nat → Mem → Int32 → Int32 → Int32 → Int32 → Int32 → Option (Mem × Int32)
  | 0, _, _, _, _, _, _ => none
  | n + 1, M, v1, v2, v3, v4, v5 =>
    q_ax v4 60 fun j1 =>
    if (M 44 0 j1) ≤ v5 then
    (q_lt (v4 + (1 : Int32)) fun z2 =>
    k5 M v1 v2 v3 z2)
    else
    (q_ax v4 60 fun j2 =>
    if (M 38 0 j2) = (1 : Int32) then
    (q_ax (((40 : Int32) * v4) + v5) 2400 fun j3 =>
    if (M 43 0 j3) = v1 then
    (fX6_holdersOf_60 F (fX6_holdersOf_14 F k5 n) M (1 : Int32) v3 v1 v2 v4 v5)
    else
    (fX6_holdersOf_59 F (fX6_holdersOf_14 F k5 n) M v3 v1 v2 v4 v5))
    else
    (fX6_holdersOf_59 F (fX6_holdersOf_14 F k5 n) M v3 v1 v2 v4 v5))
set_option maxHeartbeats 4000000 in
set_option maxRecDepth 100000 in
theorem wX6_holdersOf_14 {p : Program} {l : Launch} {e : Env} {s : State} {m : MethodId} {args : Array Value} {below : List Frame} {meth : Method} {c : Code} {D : va_G} {cy : Nat → ClassId} {ad : Nat → Nat} {x : XX} {F : Nat} {r : Mem × Int32} (hst : l.stackTraces = false) (C0 : MX p l s m args meth c D cy ad cX6_holdersOf RX6 6 wsX6_holdersOf (some .int)) {k5 : Mem → Int32 → Int32 → Int32 → Int32 → Option (Mem × Int32)} (hk5 : ∀ (M : Mem) (v1 : Int32) (v2 : Int32) (v3 : Int32) (v4 : Int32) (H : Heap) (locs : List Loc) (ls : Array Slot), Wd D cy ad x s M H locs → lv_has ls 6 [(0, .ref (ad 427)), (1, .int v1), (2, .int v2), (3, .int v3), (4, .int v4)] → k5 M v1 v2 v3 v4 = some r → W p l e rmX6_holdersOf s m args below meth c H locs 0 0 (QN D cy ad below args s x q_vi r 0 0) (F0 m 5 ls [])) : ∀ (n : Nat) (M : Mem) (v1 : Int32) (v2 : Int32) (v3 : Int32) (v4 : Int32) (v5 : Int32) (H : Heap) (locs : List Loc) (ls : Array Slot), Wd D cy ad x s M H locs → lv_has ls 6 [(0, .ref (ad 427)), (1, .int v1), (2, .int v2), (3, .int v3), (4, .int v4), (5, .int v5)] → fX6_holdersOf_14 F k5 n M v1 v2 v3 v4 v5 = some r → W p l e rmX6_holdersOf s m args below meth c H locs 0 0 (QN D cy ad below args s x q_vi r 0 0) (F0 m 14 ls []) := by
  obtain ⟨hx, hb, hml, hown, hts, -⟩ := id C0
  intro n
  induction n with
  | zero =>
    intro M v1 v2 v3 v4 v5 H locs ls hw hl h
    exact q_no h
  | succ n ih =>
    intro M v1 v2 v3 v4 v5 H locs ls hw hl h
    unfold fX6_holdersOf_14 at h
    refine lv_iload hx hb dX6_holdersOf_14 (lv_at hl 5 rfl) ?_
    refine lv_aload_n hx hb dX6_holdersOf_16 rfl (lv_at hl 0 rfl) ?_
    refine gf_Mod_shingleCounts C0 hw (fun _ h9 => List.mem_cons_of_mem _ (List.mem_append_left _ (List.mem_append_right _ h9))) (List.mem_of_getElem? (i := 1) rfl) dX6_holdersOf_17 ?_
    refine lv_iload hx hb dX6_holdersOf_20 (lv_at hl 4 rfl) ?_
    refine q_iald C0 hw at_m44 h dX6_holdersOf_22 (fun j1 hj1 h => ?_)
    refine q_icmp_ge (tgt := 68) hx hb dX6_holdersOf_23 (by decide) h (fun h => ?_) (fun h => ?_)
    · refine q_iinc (k := 4) (cst := 1) (lv' := fun z2 => [(4, .int z2), (0, .ref (ad 427)), (1, .int v1), (2, .int v2), (3, .int v3), (5, .int v5)]) hx hb dX6_holdersOf_68 hl rfl rfl (by decide) (fun _ => rfl) h (fun z2 ls hl h => ?_)
      refine lv_goto (tgt := 5) hx hb dX6_holdersOf_71 (by decide) ?_
      exact hk5 M v1 v2 v3 z2 _ _ _ hw (lv_sub hl [1, 2, 3, 4, 0] rfl) h
    · refine lv_iload_n hx hb dX6_holdersOf_26 rfl (lv_at hl 3 rfl) ?_
      refine lv_aload_n hx hb dX6_holdersOf_27 rfl (lv_at hl 0 rfl) ?_
      refine gf_Mod_states C0 hw (fun _ h9 => List.mem_cons_of_mem _ (List.mem_append_left _ (List.mem_append_right _ h9))) (List.mem_of_getElem? (i := 2) rfl) dX6_holdersOf_28 ?_
      refine lv_iload hx hb dX6_holdersOf_31 (lv_at hl 4 rfl) ?_
      refine q_iald C0 hw at_m38 h dX6_holdersOf_33 (fun j2 hj2 h => ?_)
      refine lv_iconst (v := 1) hx hb dX6_holdersOf_34 (by decide) ?_
      refine q_icmp_ne (tgt := 59) hx hb dX6_holdersOf_35 (by decide) h (fun h => ?_) (fun h => ?_)
      · exact wX6_holdersOf_59 hst C0 ih M v3 v1 v2 v4 v5 _ _ _ hw (lv_sub hl [0, 1, 2, 4, 5] rfl) h
      · refine lv_aload_n hx hb dX6_holdersOf_38 rfl (lv_at hl 0 rfl) ?_
        refine gf_Mod_shingles C0 hw (fun _ h9 => List.mem_cons_of_mem _ (List.mem_append_left _ (List.mem_append_right _ h9))) (List.mem_of_getElem? (i := 3) rfl) dX6_holdersOf_39 ?_
        refine lv_bipush (v := 40) hx hb dX6_holdersOf_42 (by decide) ?_
        refine lv_iload hx hb dX6_holdersOf_44 (lv_at hl 4 rfl) ?_
        refine lv_imul hx hb dX6_holdersOf_46 ?_
        refine lv_iload hx hb dX6_holdersOf_47 (lv_at hl 5 rfl) ?_
        refine lv_iadd hx hb dX6_holdersOf_49 ?_
        refine q_iald C0 hw at_m43 h dX6_holdersOf_50 (fun j3 hj3 h => ?_)
        refine lv_iload_n hx hb dX6_holdersOf_51 rfl (lv_at hl 1 rfl) ?_
        refine q_icmp_ne (tgt := 59) hx hb dX6_holdersOf_52 (by decide) h (fun h => ?_) (fun h => ?_)
        · exact wX6_holdersOf_59 hst C0 ih M v3 v1 v2 v4 v5 _ _ _ hw (lv_sub hl [0, 1, 2, 4, 5] rfl) h
        · refine lv_iconst (v := 1) hx hb dX6_holdersOf_55 (by decide) ?_
          refine lv_goto (tgt := 60) hx hb dX6_holdersOf_56 (by decide) ?_
          exact wX6_holdersOf_60 hst C0 ih M (1 : Int32) v3 v1 v2 v4 v5 _ _ _ hw (lv_sub hl [0, 1, 2, 4, 5] rfl) h
def fX6_holdersOf_5 (F : Nat) : Nat → Mem → Int32 → Int32 → Int32 → Int32 → Option (Mem × Int32)
  | 0, _, _, _, _, _ => none
  | n + 1, M, v1, v2, v3, v4 =>
    if v2 ≤ v4 then
    (some (M, v3))
    else
    (q_lt ((0 : Int32)) fun z1 =>
    fX6_holdersOf_14 F (fX6_holdersOf_5 F n) F M v1 v2 v3 v4 z1)
set_option maxHeartbeats 4000000 in
set_option maxRecDepth 100000 in
theorem wX6_holdersOf_5 {p : Program} {l : Launch} {e : Env} {s : State} {m : MethodId} {args : Array Value} {below : List Frame} {meth : Method} {c : Code} {D : va_G} {cy : Nat → ClassId} {ad : Nat → Nat} {x : XX} {F : Nat} {r : Mem × Int32} (hst : l.stackTraces = false) (C0 : MX p l s m args meth c D cy ad cX6_holdersOf RX6 6 wsX6_holdersOf (some .int)) : ∀ (n : Nat) (M : Mem) (v1 : Int32) (v2 : Int32) (v3 : Int32) (v4 : Int32) (H : Heap) (locs : List Loc) (ls : Array Slot), Wd D cy ad x s M H locs → lv_has ls 6 [(0, .ref (ad 427)), (1, .int v1), (2, .int v2), (3, .int v3), (4, .int v4)] → fX6_holdersOf_5 F n M v1 v2 v3 v4 = some r → W p l e rmX6_holdersOf s m args below meth c H locs 0 0 (QN D cy ad below args s x q_vi r 0 0) (F0 m 5 ls []) := by
  obtain ⟨hx, hb, hml, hown, hts, -⟩ := id C0
  intro n
  induction n with
  | zero =>
    intro M v1 v2 v3 v4 H locs ls hw hl h
    exact q_no h
  | succ n ih =>
    intro M v1 v2 v3 v4 H locs ls hw hl h
    unfold fX6_holdersOf_5 at h
    refine lv_iload hx hb dX6_holdersOf_5 (lv_at hl 4 rfl) ?_
    refine lv_iload_n hx hb dX6_holdersOf_7 rfl (lv_at hl 2 rfl) ?_
    refine q_icmp_ge (tgt := 74) hx hb dX6_holdersOf_8 (by decide) h (fun h => ?_) (fun h => ?_)
    · refine lv_iload_n hx hb dX6_holdersOf_74 rfl (lv_at hl 3 rfl) ?_
      exact q_iretN C0 hw h ⟨(Nat.le_of_ble_eq_true rfl), (Nat.le_of_ble_eq_true rfl)⟩ dX6_holdersOf_75
    · refine lv_iconst (v := 0) hx hb dX6_holdersOf_11 (by decide) ?_
      refine q_istore (lv' := fun z1 => [(5, .int z1), (0, .ref (ad 427)), (1, .int v1), (2, .int v2), (3, .int v3), (4, .int v4)]) hx hb dX6_holdersOf_12 hl (by decide) (fun _ => rfl) h (fun z1 ls hl h => ?_)
      exact wX6_holdersOf_14 hst C0 ih F M v1 v2 v3 v4 z1 _ _ _ hw (lv_sub hl [1, 2, 3, 4, 5, 0] rfl) h
def fX6_holdersOf (F : Nat) (M : Mem) (a0 : Int32) (a1 : Int32) : Option (Mem × Int32) :=
    q_lt ((0 : Int32)) fun z1 =>
    q_lt ((0 : Int32)) fun z2 =>
    fX6_holdersOf_5 F F M a0 a1 z1 z2
set_option maxHeartbeats 4000000 in
set_option maxRecDepth 100000 in
theorem ctX6_holdersOf {l : Launch} (hst : l.stackTraces = false) {D : va_G} {cy : Nat → ClassId} {ad : Nat → Nat} {x : XX} {F : Nat} {M : Mem} {a0 : Int32} {a1 : Int32} {r : Mem × Int32} (h : fX6_holdersOf F M a0 a1 = some r) : CN l yX6_holdersOf wsX6_holdersOf rmX6_holdersOf D cy ad [.ref (ad 427), .int a0, .int a1] x M x r.1 (q_vi r.2) 0 0 := by
  refine q_startN (cc := cX6_holdersOf) (maxL := 6) (ret := (some .int)) (by decide) rfl (Nat.le_of_ble_eq_true rfl) ?_
  intro p e s m args below meth c ls C0 hw hl hnm
  obtain ⟨hx, hb, hml, hown, hts, -⟩ := id C0
  have C0 : MX p l s m args meth c D cy ad cX6_holdersOf RX6 6 wsX6_holdersOf ((some .int)) := C0
  have hown : s.vm.findClass RX6 = some m.cls := hown
  have hl : lv_has ls 6 [(0, .ref (ad 427)), (1, .int a0), (2, .int a1)] := hl
  show W p l e rmX6_holdersOf s m args below meth c s.heap [] 0 0 (QN D cy ad below args s x q_vi r 0 0) (F0 m 0 ls [])
  unfold fX6_holdersOf at h
  refine lv_iconst (v := 0) hx hb dX6_holdersOf_0 (by decide) ?_
  refine q_istore_n (lv' := fun z1 => [(3, .int z1), (0, .ref (ad 427)), (1, .int a0), (2, .int a1)]) hx hb dX6_holdersOf_1 rfl hl (by decide) (fun _ => rfl) h (fun z1 ls hl h => ?_)
  refine lv_iconst (v := 0) hx hb dX6_holdersOf_2 (by decide) ?_
  refine q_istore (lv' := fun z2 => [(4, .int z2), (3, .int z1), (0, .ref (ad 427)), (1, .int a0), (2, .int a1)]) hx hb dX6_holdersOf_3 hl (by decide) (fun _ => rfl) h (fun z2 ls hl h => ?_)
  exact wX6_holdersOf_5 hst C0  F M a0 a1 z1 z2 _ _ _ hw (lv_sub hl [2, 3, 4, 1, 0] rfl) h
/-! HomewatcherModel.indexed()I -/
abbrev rmX6_indexed : Room := { frames := 1, cells := 0, slots := 0, locals := 25 }
def fX6_indexed_59 (F : Nat) (k14 : Mem → Int32 → Int32 → Int32 → Option (Mem × Int32)) (M : Mem) (s0 : Int32) (s1 : Int32) (v2 : Int32) (v3 : Int32) : Option (Mem × Int32) :=
    q_lt (s1 + s0) fun z1 =>
    q_lt (v3 + (1 : Int32)) fun z2 =>
    k14 M z1 v2 z2
set_option maxHeartbeats 4000000 in
set_option maxRecDepth 100000 in
theorem wX6_indexed_59 {p : Program} {l : Launch} {e : Env} {s : State} {m : MethodId} {args : Array Value} {below : List Frame} {meth : Method} {c : Code} {D : va_G} {cy : Nat → ClassId} {ad : Nat → Nat} {x : XX} {F : Nat} {r : Mem × Int32} (hst : l.stackTraces = false) (C0 : MX p l s m args meth c D cy ad cX6_indexed RX6 4 wsX6_indexed (some .int)) {k14 : Mem → Int32 → Int32 → Int32 → Option (Mem × Int32)} (hk14 : ∀ (M : Mem) (v1 : Int32) (v2 : Int32) (v3 : Int32) (H : Heap) (locs : List Loc) (ls : Array Slot), Wd D cy ad x s M H locs → lv_has ls 4 [(0, .ref (ad 427)), (1, .int v1), (2, .int v2), (3, .int v3)] → k14 M v1 v2 v3 = some r → W p l e rmX6_indexed s m args below meth c H locs 0 0 (QN D cy ad below args s x q_vi r 0 0) (F0 m 14 ls [])) : ∀ (M : Mem) (s0 : Int32) (s1 : Int32) (v2 : Int32) (v3 : Int32) (H : Heap) (locs : List Loc) (ls : Array Slot), Wd D cy ad x s M H locs → lv_has ls 4 [(0, .ref (ad 427)), (2, .int v2), (3, .int v3)] → fX6_indexed_59 F k14 M s0 s1 v2 v3 = some r → W p l e rmX6_indexed s m args below meth c H locs 0 0 (QN D cy ad below args s x q_vi r 0 0) (F0 m 59 ls [.int s0, .int s1]) := by
  obtain ⟨hx, hb, hml, hown, hts, -⟩ := id C0
  intro M s0 s1 v2 v3 H locs ls hw hl h
  unfold fX6_indexed_59 at h
  refine lv_iadd hx hb dX6_indexed_59 ?_
  refine q_istore_n (lv' := fun z1 => [(1, .int z1), (0, .ref (ad 427)), (2, .int v2), (3, .int v3)]) hx hb dX6_indexed_60 rfl hl (by decide) (fun _ => rfl) h (fun z1 ls hl h => ?_)
  refine q_iinc (k := 3) (cst := 1) (lv' := fun z2 => [(3, .int z2), (1, .int z1), (0, .ref (ad 427)), (2, .int v2)]) hx hb dX6_indexed_61 hl rfl rfl (by decide) (fun _ => rfl) h (fun z2 ls hl h => ?_)
  refine lv_goto (tgt := 14) hx hb dX6_indexed_64 (by decide) ?_
  exact hk14 M z1 v2 z2 _ _ _ hw (lv_sub hl [2, 1, 3, 0] rfl) h
def fX6_indexed_58 (F : Nat) (k14 : Mem → Int32 → Int32 → Int32 → Option (Mem × Int32)) (M : Mem) (s0 : Int32) (v2 : Int32) (v3 : Int32) : Option (Mem × Int32) :=
    fX6_indexed_59 F k14 M (0 : Int32) s0 v2 v3
set_option maxHeartbeats 4000000 in
set_option maxRecDepth 100000 in
theorem wX6_indexed_58 {p : Program} {l : Launch} {e : Env} {s : State} {m : MethodId} {args : Array Value} {below : List Frame} {meth : Method} {c : Code} {D : va_G} {cy : Nat → ClassId} {ad : Nat → Nat} {x : XX} {F : Nat} {r : Mem × Int32} (hst : l.stackTraces = false) (C0 : MX p l s m args meth c D cy ad cX6_indexed RX6 4 wsX6_indexed (some .int)) {k14 : Mem → Int32 → Int32 → Int32 → Option (Mem × Int32)} (hk14 : ∀ (M : Mem) (v1 : Int32) (v2 : Int32) (v3 : Int32) (H : Heap) (locs : List Loc) (ls : Array Slot), Wd D cy ad x s M H locs → lv_has ls 4 [(0, .ref (ad 427)), (1, .int v1), (2, .int v2), (3, .int v3)] → k14 M v1 v2 v3 = some r → W p l e rmX6_indexed s m args below meth c H locs 0 0 (QN D cy ad below args s x q_vi r 0 0) (F0 m 14 ls [])) : ∀ (M : Mem) (s0 : Int32) (v2 : Int32) (v3 : Int32) (H : Heap) (locs : List Loc) (ls : Array Slot), Wd D cy ad x s M H locs → lv_has ls 4 [(0, .ref (ad 427)), (2, .int v2), (3, .int v3)] → fX6_indexed_58 F k14 M s0 v2 v3 = some r → W p l e rmX6_indexed s m args below meth c H locs 0 0 (QN D cy ad below args s x q_vi r 0 0) (F0 m 58 ls [.int s0]) := by
  obtain ⟨hx, hb, hml, hown, hts, -⟩ := id C0
  intro M s0 v2 v3 H locs ls hw hl h
  unfold fX6_indexed_58 at h
  refine lv_iconst (v := 0) hx hb dX6_indexed_58 (by decide) ?_
  exact wX6_indexed_59 hst C0 hk14 M (0 : Int32) s0 v2 v3 _ _ _ hw (lv_sub hl [0, 1, 2] rfl) h
def fX6_indexed_14 (F : Nat) (k4 : Mem → Int32 → Int32 → Option (Mem × Int32)) : Nat → Mem → Int32 → Int32 → Int32 → Option (Mem × Int32)
  | 0, _, _, _, _ => none
  | n + 1, M, v1, v2, v3 =>
    q_ax v2 60 fun j1 =>
    if (M 44 0 j1) ≤ v3 then
    (q_lt (v2 + (1 : Int32)) fun z2 =>
    k4 M v1 z2)
    else
    (q_ax v2 60 fun j2 =>
    if (M 38 0 j2) = (1 : Int32) then
    (q_ax (((40 : Int32) * v2) + v3) 2400 fun j3 =>
    q_bn (fX6_holdersOf F M (M 43 0 j3) v2) fun M4 z5 =>
    if z5 = (0 : Int32) then
    (fX6_indexed_59 F (fX6_indexed_14 F k4 n) M4 (1 : Int32) v1 v2 v3)
    else
    (fX6_indexed_58 F (fX6_indexed_14 F k4 n) M4 v1 v2 v3))
    else
    (fX6_indexed_58 F (fX6_indexed_14 F k4 n) M v1 v2 v3))
set_option maxHeartbeats 4000000 in
set_option maxRecDepth 100000 in
theorem wX6_indexed_14 {p : Program} {l : Launch} {e : Env} {s : State} {m : MethodId} {args : Array Value} {below : List Frame} {meth : Method} {c : Code} {D : va_G} {cy : Nat → ClassId} {ad : Nat → Nat} {x : XX} {F : Nat} {r : Mem × Int32} (hst : l.stackTraces = false) (C0 : MX p l s m args meth c D cy ad cX6_indexed RX6 4 wsX6_indexed (some .int)) {k4 : Mem → Int32 → Int32 → Option (Mem × Int32)} (hk4 : ∀ (M : Mem) (v1 : Int32) (v2 : Int32) (H : Heap) (locs : List Loc) (ls : Array Slot), Wd D cy ad x s M H locs → lv_has ls 4 [(0, .ref (ad 427)), (1, .int v1), (2, .int v2)] → k4 M v1 v2 = some r → W p l e rmX6_indexed s m args below meth c H locs 0 0 (QN D cy ad below args s x q_vi r 0 0) (F0 m 4 ls [])) : ∀ (n : Nat) (M : Mem) (v1 : Int32) (v2 : Int32) (v3 : Int32) (H : Heap) (locs : List Loc) (ls : Array Slot), Wd D cy ad x s M H locs → lv_has ls 4 [(0, .ref (ad 427)), (1, .int v1), (2, .int v2), (3, .int v3)] → fX6_indexed_14 F k4 n M v1 v2 v3 = some r → W p l e rmX6_indexed s m args below meth c H locs 0 0 (QN D cy ad below args s x q_vi r 0 0) (F0 m 14 ls []) := by
  obtain ⟨hx, hb, hml, hown, hts, -⟩ := id C0
  intro n
  induction n with
  | zero =>
    intro M v1 v2 v3 H locs ls hw hl h
    exact q_no h
  | succ n ih =>
    intro M v1 v2 v3 H locs ls hw hl h
    unfold fX6_indexed_14 at h
    refine lv_iload_n hx hb dX6_indexed_14 rfl (lv_at hl 3 rfl) ?_
    refine lv_aload_n hx hb dX6_indexed_15 rfl (lv_at hl 0 rfl) ?_
    refine gf_Mod_shingleCounts C0 hw (fun _ h9 => List.mem_cons_of_mem _ (List.mem_append_left _ (List.mem_append_right _ h9))) (List.mem_of_getElem? (i := 2) rfl) dX6_indexed_16 ?_
    refine lv_iload_n hx hb dX6_indexed_19 rfl (lv_at hl 2 rfl) ?_
    refine q_iald C0 hw at_m44 h dX6_indexed_20 (fun j1 hj1 h => ?_)
    refine q_icmp_ge (tgt := 67) hx hb dX6_indexed_21 (by decide) h (fun h => ?_) (fun h => ?_)
    · refine q_iinc (k := 2) (cst := 1) (lv' := fun z2 => [(2, .int z2), (0, .ref (ad 427)), (1, .int v1), (3, .int v3)]) hx hb dX6_indexed_67 hl rfl rfl (by decide) (fun _ => rfl) h (fun z2 ls hl h => ?_)
      refine lv_goto (tgt := 4) hx hb dX6_indexed_70 (by decide) ?_
      exact hk4 M v1 z2 _ _ _ hw (lv_sub hl [1, 2, 0] rfl) h
    · refine lv_iload_n hx hb dX6_indexed_24 rfl (lv_at hl 1 rfl) ?_
      refine lv_aload_n hx hb dX6_indexed_25 rfl (lv_at hl 0 rfl) ?_
      refine gf_Mod_states C0 hw (fun _ h9 => List.mem_cons_of_mem _ (List.mem_append_left _ (List.mem_append_right _ h9))) (List.mem_of_getElem? (i := 3) rfl) dX6_indexed_26 ?_
      refine lv_iload_n hx hb dX6_indexed_29 rfl (lv_at hl 2 rfl) ?_
      refine q_iald C0 hw at_m38 h dX6_indexed_30 (fun j2 hj2 h => ?_)
      refine lv_iconst (v := 1) hx hb dX6_indexed_31 (by decide) ?_
      refine q_icmp_ne (tgt := 58) hx hb dX6_indexed_32 (by decide) h (fun h => ?_) (fun h => ?_)
      · exact wX6_indexed_58 hst C0 ih M v1 v2 v3 _ _ _ hw (lv_sub hl [0, 2, 3] rfl) h
      · refine lv_aload_n hx hb dX6_indexed_35 rfl (lv_at hl 0 rfl) ?_
        refine lv_aload_n hx hb dX6_indexed_36 rfl (lv_at hl 0 rfl) ?_
        refine gf_Mod_shingles C0 hw (fun _ h9 => List.mem_cons_of_mem _ (List.mem_append_left _ (List.mem_append_right _ h9))) (List.mem_of_getElem? (i := 4) rfl) dX6_indexed_37 ?_
        refine lv_bipush (v := 40) hx hb dX6_indexed_40 (by decide) ?_
        refine lv_iload_n hx hb dX6_indexed_42 rfl (lv_at hl 2 rfl) ?_
        refine lv_imul hx hb dX6_indexed_43 ?_
        refine lv_iload_n hx hb dX6_indexed_44 rfl (lv_at hl 3 rfl) ?_
        refine lv_iadd hx hb dX6_indexed_45 ?_
        refine q_iald C0 hw at_m43 h dX6_indexed_46 (fun j3 hj3 h => ?_)
        refine lv_iload_n hx hb dX6_indexed_47 rfl (lv_at hl 2 rfl) ?_
        refine q_callVNi (As := [.int (M 43 0 j3), .int v2]) (nA := 2) C0 hw at_Mod rfl (fun r1 h1 => ctX6_holdersOf hst h1) gX6_indexed_X6_holdersOf rfl ⟨rfl, rfl⟩ (by decide +kernel) rfl ⟨(Nat.le_of_ble_eq_true rfl), (Nat.le_of_ble_eq_true rfl)⟩ hl.1 (Nat.le_of_ble_eq_true rfl) ⟨(Nat.le_of_ble_eq_true rfl), (Nat.le_of_ble_eq_true rfl)⟩ rfl h dX6_indexed_48 (fun M4 z5 H locs hw h => ?_)
        refine q_if_ne (tgt := 58) hx hb dX6_indexed_51 (by decide) h (fun h => ?_) (fun h => ?_)
        · exact wX6_indexed_58 hst C0 ih M4 v1 v2 v3 _ _ _ hw (lv_sub hl [0, 2, 3] rfl) h
        · refine lv_iconst (v := 1) hx hb dX6_indexed_54 (by decide) ?_
          refine lv_goto (tgt := 59) hx hb dX6_indexed_55 (by decide) ?_
          exact wX6_indexed_59 hst C0 ih M4 (1 : Int32) v1 v2 v3 _ _ _ hw (lv_sub hl [0, 2, 3] rfl) h
def fX6_indexed_4 (F : Nat) : Nat → Mem → Int32 → Int32 → Option (Mem × Int32)
  | 0, _, _, _ => none
  | n + 1, M, v1, v2 =>
    if (M 64 0 0) ≤ v2 then
    (q_bn (fX6_tells F M v1) fun M1 z2 =>
    some (M1, z2))
    else
    (q_lt ((0 : Int32)) fun z1 =>
    fX6_indexed_14 F (fX6_indexed_4 F n) F M v1 v2 z1)
set_option maxHeartbeats 4000000 in
set_option maxRecDepth 100000 in
theorem wX6_indexed_4 {p : Program} {l : Launch} {e : Env} {s : State} {m : MethodId} {args : Array Value} {below : List Frame} {meth : Method} {c : Code} {D : va_G} {cy : Nat → ClassId} {ad : Nat → Nat} {x : XX} {F : Nat} {r : Mem × Int32} (hst : l.stackTraces = false) (C0 : MX p l s m args meth c D cy ad cX6_indexed RX6 4 wsX6_indexed (some .int)) : ∀ (n : Nat) (M : Mem) (v1 : Int32) (v2 : Int32) (H : Heap) (locs : List Loc) (ls : Array Slot), Wd D cy ad x s M H locs → lv_has ls 4 [(0, .ref (ad 427)), (1, .int v1), (2, .int v2)] → fX6_indexed_4 F n M v1 v2 = some r → W p l e rmX6_indexed s m args below meth c H locs 0 0 (QN D cy ad below args s x q_vi r 0 0) (F0 m 4 ls []) := by
  obtain ⟨hx, hb, hml, hown, hts, -⟩ := id C0
  intro n
  induction n with
  | zero =>
    intro M v1 v2 H locs ls hw hl h
    exact q_no h
  | succ n ih =>
    intro M v1 v2 H locs ls hw hl h
    unfold fX6_indexed_4 at h
    refine lv_iload_n hx hb dX6_indexed_4 rfl (lv_at hl 2 rfl) ?_
    refine lv_aload_n hx hb dX6_indexed_5 rfl (lv_at hl 0 rfl) ?_
    refine gf_Mod_versions C0 hw (fun _ h9 => List.mem_cons_of_mem _ (List.mem_append_left _ (List.mem_append_right _ h9))) (List.mem_of_getElem? (i := 1) rfl) dX6_indexed_6 ?_
    refine q_icmp_ge (tgt := 73) hx hb dX6_indexed_9 (by decide) h (fun h => ?_) (fun h => ?_)
    · refine lv_aload_n hx hb dX6_indexed_73 rfl (lv_at hl 0 rfl) ?_
      refine lv_iload_n hx hb dX6_indexed_74 rfl (lv_at hl 1 rfl) ?_
      refine q_callVNi (As := [.int v1]) (nA := 1) C0 hw at_Mod rfl (fun r1 h1 => ctX6_tells hst h1) gX6_indexed_X6_tells rfl ⟨rfl, rfl⟩ (by decide +kernel) rfl ⟨(Nat.le_of_ble_eq_true rfl), (Nat.le_of_ble_eq_true rfl)⟩ hl.1 (Nat.le_of_ble_eq_true rfl) ⟨(Nat.le_of_ble_eq_true rfl), (Nat.le_of_ble_eq_true rfl)⟩ rfl h dX6_indexed_75 (fun M1 z2 H locs hw h => ?_)
      exact q_iretN C0 hw h ⟨(Nat.le_of_ble_eq_true rfl), (Nat.le_of_ble_eq_true rfl)⟩ dX6_indexed_78
    · refine lv_iconst (v := 0) hx hb dX6_indexed_12 (by decide) ?_
      refine q_istore_n (lv' := fun z1 => [(3, .int z1), (0, .ref (ad 427)), (1, .int v1), (2, .int v2)]) hx hb dX6_indexed_13 rfl hl (by decide) (fun _ => rfl) h (fun z1 ls hl h => ?_)
      exact wX6_indexed_14 hst C0 ih F M v1 v2 z1 _ _ _ hw (lv_sub hl [1, 2, 3, 0] rfl) h
def fX6_indexed (F : Nat) (M : Mem) : Option (Mem × Int32) :=
    q_lt ((0 : Int32)) fun z1 =>
    q_lt ((0 : Int32)) fun z2 =>
    fX6_indexed_4 F F M z1 z2
set_option maxHeartbeats 4000000 in
set_option maxRecDepth 100000 in
theorem ctX6_indexed {l : Launch} (hst : l.stackTraces = false) {D : va_G} {cy : Nat → ClassId} {ad : Nat → Nat} {x : XX} {F : Nat} {M : Mem} {r : Mem × Int32} (h : fX6_indexed F M = some r) : CN l yX6_indexed wsX6_indexed rmX6_indexed D cy ad [.ref (ad 427)] x M x r.1 (q_vi r.2) 0 0 := by
  refine q_startN (cc := cX6_indexed) (maxL := 4) (ret := (some .int)) (by decide) rfl (Nat.le_of_ble_eq_true rfl) ?_
  intro p e s m args below meth c ls C0 hw hl hnm
  obtain ⟨hx, hb, hml, hown, hts, -⟩ := id C0
  have C0 : MX p l s m args meth c D cy ad cX6_indexed RX6 4 wsX6_indexed ((some .int)) := C0
  have hown : s.vm.findClass RX6 = some m.cls := hown
  have hl : lv_has ls 4 [(0, .ref (ad 427))] := hl
  show W p l e rmX6_indexed s m args below meth c s.heap [] 0 0 (QN D cy ad below args s x q_vi r 0 0) (F0 m 0 ls [])
  unfold fX6_indexed at h
  refine lv_iconst (v := 0) hx hb dX6_indexed_0 (by decide) ?_
  refine q_istore_n (lv' := fun z1 => [(1, .int z1), (0, .ref (ad 427))]) hx hb dX6_indexed_1 rfl hl (by decide) (fun _ => rfl) h (fun z1 ls hl h => ?_)
  refine lv_iconst (v := 0) hx hb dX6_indexed_2 (by decide) ?_
  refine q_istore_n (lv' := fun z2 => [(2, .int z2), (1, .int z1), (0, .ref (ad 427))]) hx hb dX6_indexed_3 rfl hl (by decide) (fun _ => rfl) h (fun z2 ls hl h => ?_)
  exact wX6_indexed_4 hst C0  F M z1 z2 _ _ _ hw (lv_sub hl [2, 1, 0] rfl) h
/-! HomewatcherModel.holders(I)I -/
abbrev rmX6_holders : Room := { frames := 1, cells := 0, slots := 0, locals := 25 }
def fX6_holders (F : Nat) (M : Mem) (a0 : Int32) : Option (Mem × Int32) :=
    q_bn (fX6_holdersOf F M a0 (M 64 0 0)) fun M1 z2 =>
    q_bn (fX6_tells F M1 z2) fun M3 z4 =>
    some (M3, z4)
set_option maxHeartbeats 4000000 in
set_option maxRecDepth 100000 in
theorem ctX6_holders {l : Launch} (hst : l.stackTraces = false) {D : va_G} {cy : Nat → ClassId} {ad : Nat → Nat} {x : XX} {F : Nat} {M : Mem} {a0 : Int32} {r : Mem × Int32} (h : fX6_holders F M a0 = some r) : CN l yX6_holders wsX6_holders rmX6_holders D cy ad [.ref (ad 427), .int a0] x M x r.1 (q_vi r.2) 0 0 := by
  refine q_startN (cc := cX6_holders) (maxL := 2) (ret := (some .int)) (by decide) rfl (Nat.le_of_ble_eq_true rfl) ?_
  intro p e s m args below meth c ls C0 hw hl hnm
  obtain ⟨hx, hb, hml, hown, hts, -⟩ := id C0
  have C0 : MX p l s m args meth c D cy ad cX6_holders RX6 2 wsX6_holders ((some .int)) := C0
  have hown : s.vm.findClass RX6 = some m.cls := hown
  have hl : lv_has ls 2 [(0, .ref (ad 427)), (1, .int a0)] := hl
  show W p l e rmX6_holders s m args below meth c s.heap [] 0 0 (QN D cy ad below args s x q_vi r 0 0) (F0 m 0 ls [])
  unfold fX6_holders at h
  refine lv_aload_n hx hb dX6_holders_0 rfl (lv_at hl 0 rfl) ?_
  refine lv_aload_n hx hb dX6_holders_1 rfl (lv_at hl 0 rfl) ?_
  refine lv_iload_n hx hb dX6_holders_2 rfl (lv_at hl 1 rfl) ?_
  refine lv_aload_n hx hb dX6_holders_3 rfl (lv_at hl 0 rfl) ?_
  refine gf_Mod_versions C0 hw (fun _ h9 => List.mem_cons_of_mem _ (List.mem_append_left _ (List.mem_append_right _ h9))) (List.mem_of_getElem? (i := 1) rfl) dX6_holders_4 ?_
  refine q_callVNi (As := [.int a0, .int (M 64 0 0)]) (nA := 2) C0 hw at_Mod rfl (fun r1 h1 => ctX6_holdersOf hst h1) gX6_holders_X6_holdersOf rfl ⟨rfl, rfl⟩ (by decide +kernel) rfl ⟨(Nat.le_of_ble_eq_true rfl), (Nat.le_of_ble_eq_true rfl)⟩ hl.1 (Nat.le_of_ble_eq_true rfl) ⟨(Nat.le_of_ble_eq_true rfl), (Nat.le_of_ble_eq_true rfl)⟩ rfl h dX6_holders_7 (fun M1 z2 H locs hw h => ?_)
  refine q_callVNi (As := [.int z2]) (nA := 1) C0 hw at_Mod rfl (fun r1 h1 => ctX6_tells hst h1) gX6_holders_X6_tells rfl ⟨rfl, rfl⟩ (by decide +kernel) rfl ⟨(Nat.le_of_ble_eq_true rfl), (Nat.le_of_ble_eq_true rfl)⟩ hl.1 (Nat.le_of_ble_eq_true rfl) ⟨(Nat.le_of_ble_eq_true rfl), (Nat.le_of_ble_eq_true rfl)⟩ rfl h dX6_holders_10 (fun M3 z4 H locs hw h => ?_)
  exact q_iretN C0 hw h ⟨(Nat.le_of_ble_eq_true rfl), (Nat.le_of_ble_eq_true rfl)⟩ dX6_holders_13
/-! HomewatcherModel.threshold(I)I -/
abbrev rmX6_threshold : Room := { frames := 1, cells := 0, slots := 0, locals := 22 }
def fX6_threshold (F : Nat) (M : Mem) (a0 : Int32) : Option (Mem × Int32) :=
    q_bn (fX6_in F M a0 (1 : Int32) (37 : Int32)) fun M1 z2 =>
    if z2 = (0 : Int32) then
    (q_bn (fX6_fails F M1 (1 : Int32)) fun M3 z4 =>
    some (M3, z4))
    else
    (q_lt (M1 68 0 0) fun z3 =>
    q_lt (up M1 68 0 0 a0) fun M4 =>
    q_bn (fX6_tells F M4 z3) fun M5 z6 =>
    some (M5, z6))
set_option maxHeartbeats 4000000 in
set_option maxRecDepth 100000 in
theorem ctX6_threshold {l : Launch} (hst : l.stackTraces = false) {D : va_G} {cy : Nat → ClassId} {ad : Nat → Nat} {x : XX} {F : Nat} {M : Mem} {a0 : Int32} {r : Mem × Int32} (h : fX6_threshold F M a0 = some r) : CN l yX6_threshold wsX6_threshold rmX6_threshold D cy ad [.ref (ad 427), .int a0] x M x r.1 (q_vi r.2) 0 0 := by
  refine q_startN (cc := cX6_threshold) (maxL := 3) (ret := (some .int)) (by decide) rfl (Nat.le_of_ble_eq_true rfl) ?_
  intro p e s m args below meth c ls C0 hw hl hnm
  obtain ⟨hx, hb, hml, hown, hts, -⟩ := id C0
  have C0 : MX p l s m args meth c D cy ad cX6_threshold RX6 3 wsX6_threshold ((some .int)) := C0
  have hown : s.vm.findClass RX6 = some m.cls := hown
  have hl : lv_has ls 3 [(0, .ref (ad 427)), (1, .int a0)] := hl
  show W p l e rmX6_threshold s m args below meth c s.heap [] 0 0 (QN D cy ad below args s x q_vi r 0 0) (F0 m 0 ls [])
  unfold fX6_threshold at h
  refine lv_iload_n hx hb dX6_threshold_0 rfl (lv_at hl 1 rfl) ?_
  refine lv_iconst (v := 1) hx hb dX6_threshold_1 (by decide) ?_
  refine lv_bipush (v := 37) hx hb dX6_threshold_2 (by decide) ?_
  refine q_callSNi (As := [.int a0, .int ((1 : Int32)), .int ((37 : Int32))]) (nA := 3) C0 hw (fun r1 h1 => ctX6_in hst h1) gX6_threshold_X6_in rfl ⟨rfl, rfl⟩ (by decide +kernel) rfl ⟨(Nat.le_of_ble_eq_true rfl), (Nat.le_of_ble_eq_true rfl)⟩ hl.1 (Nat.le_of_ble_eq_true rfl) ⟨(Nat.le_of_ble_eq_true rfl), (Nat.le_of_ble_eq_true rfl)⟩ rfl h dX6_threshold_4 (fun M1 z2 H locs hw h => ?_)
  refine q_if_ne (tgt := 16) hx hb dX6_threshold_7 (by decide) h (fun h => ?_) (fun h => ?_)
  · refine lv_aload_n hx hb dX6_threshold_16 rfl (lv_at hl 0 rfl) ?_
    refine gf_Mod_threshold C0 hw (fun _ h9 => List.mem_cons_of_mem _ (List.mem_append_right _ h9)) (List.mem_of_getElem? (i := 1) rfl) dX6_threshold_17 ?_
    refine q_istore_n (lv' := fun z3 => [(2, .int z3), (0, .ref (ad 427)), (1, .int a0)]) hx hb dX6_threshold_20 rfl hl (by decide) (fun _ => rfl) h (fun z3 ls hl h => ?_)
    refine lv_aload_n hx hb dX6_threshold_21 rfl (lv_at hl 1 rfl) ?_
    refine lv_iload_n hx hb dX6_threshold_22 rfl (lv_at hl 2 rfl) ?_
    refine pf_Mod_threshold C0 hw (fun _ h9 => List.mem_cons_of_mem _ (List.mem_append_right _ h9)) (List.mem_of_getElem? (i := 1) rfl) dX6_threshold_23 h (fun M4 H locs hw h => ?_)
    refine lv_aload_n hx hb dX6_threshold_26 rfl (lv_at hl 1 rfl) ?_
    refine lv_iload_n hx hb dX6_threshold_27 rfl (lv_at hl 0 rfl) ?_
    refine q_callVNi (As := [.int z3]) (nA := 1) C0 hw at_Mod rfl (fun r1 h1 => ctX6_tells hst h1) gX6_threshold_X6_tells rfl ⟨rfl, rfl⟩ (by decide +kernel) rfl ⟨(Nat.le_of_ble_eq_true rfl), (Nat.le_of_ble_eq_true rfl)⟩ hl.1 (Nat.le_of_ble_eq_true rfl) ⟨(Nat.le_of_ble_eq_true rfl), (Nat.le_of_ble_eq_true rfl)⟩ rfl h dX6_threshold_28 (fun M5 z6 H locs hw h => ?_)
    exact q_iretN C0 hw h ⟨(Nat.le_of_ble_eq_true rfl), (Nat.le_of_ble_eq_true rfl)⟩ dX6_threshold_31
  · refine lv_aload_n hx hb dX6_threshold_10 rfl (lv_at hl 0 rfl) ?_
    refine lv_iconst (v := 1) hx hb dX6_threshold_11 (by decide) ?_
    refine q_callVNi (As := [.int ((1 : Int32))]) (nA := 1) C0 hw at_Mod rfl (fun r1 h1 => ctX6_fails hst h1) gX6_threshold_X6_fails rfl ⟨rfl, rfl⟩ (by decide +kernel) rfl ⟨(Nat.le_of_ble_eq_true rfl), (Nat.le_of_ble_eq_true rfl)⟩ hl.1 (Nat.le_of_ble_eq_true rfl) ⟨(Nat.le_of_ble_eq_true rfl), (Nat.le_of_ble_eq_true rfl)⟩ rfl h dX6_threshold_12 (fun M3 z4 H locs hw h => ?_)
    exact q_iretN C0 hw h ⟨(Nat.le_of_ble_eq_true rfl), (Nat.le_of_ble_eq_true rfl)⟩ dX6_threshold_15
/-! HomewatcherModel.hits()I -/
abbrev rmX6_hits : Room := { frames := 1, cells := 0, slots := 0, locals := 21 }
def fX6_hits (F : Nat) (M : Mem) : Option (Mem × Int32) :=
    q_bn (fX6_tells F M (M 66 0 0)) fun M1 z2 =>
    some (M1, z2)
set_option maxHeartbeats 4000000 in
set_option maxRecDepth 100000 in
theorem ctX6_hits {l : Launch} (hst : l.stackTraces = false) {D : va_G} {cy : Nat → ClassId} {ad : Nat → Nat} {x : XX} {F : Nat} {M : Mem} {r : Mem × Int32} (h : fX6_hits F M = some r) : CN l yX6_hits wsX6_hits rmX6_hits D cy ad [.ref (ad 427)] x M x r.1 (q_vi r.2) 0 0 := by
  refine q_startN (cc := cX6_hits) (maxL := 1) (ret := (some .int)) (by decide) rfl (Nat.le_of_ble_eq_true rfl) ?_
  intro p e s m args below meth c ls C0 hw hl hnm
  obtain ⟨hx, hb, hml, hown, hts, -⟩ := id C0
  have C0 : MX p l s m args meth c D cy ad cX6_hits RX6 1 wsX6_hits ((some .int)) := C0
  have hown : s.vm.findClass RX6 = some m.cls := hown
  have hl : lv_has ls 1 [(0, .ref (ad 427))] := hl
  show W p l e rmX6_hits s m args below meth c s.heap [] 0 0 (QN D cy ad below args s x q_vi r 0 0) (F0 m 0 ls [])
  unfold fX6_hits at h
  refine lv_aload_n hx hb dX6_hits_0 rfl (lv_at hl 0 rfl) ?_
  refine lv_aload_n hx hb dX6_hits_1 rfl (lv_at hl 0 rfl) ?_
  refine gf_Mod_hits C0 hw (fun _ h9 => List.mem_cons_of_mem _ (List.mem_append_right _ h9)) (List.mem_of_getElem? (i := 1) rfl) dX6_hits_2 ?_
  refine q_callVNi (As := [.int (M 66 0 0)]) (nA := 1) C0 hw at_Mod rfl (fun r1 h1 => ctX6_tells hst h1) gX6_hits_X6_tells rfl ⟨rfl, rfl⟩ (by decide +kernel) rfl ⟨(Nat.le_of_ble_eq_true rfl), (Nat.le_of_ble_eq_true rfl)⟩ hl.1 (Nat.le_of_ble_eq_true rfl) ⟨(Nat.le_of_ble_eq_true rfl), (Nat.le_of_ble_eq_true rfl)⟩ rfl h dX6_hits_5 (fun M1 z2 H locs hw h => ?_)
  exact q_iretN C0 hw h ⟨(Nat.le_of_ble_eq_true rfl), (Nat.le_of_ble_eq_true rfl)⟩ dX6_hits_8
/-! HomewatcherModel.hit(IC)I -/
abbrev rmX6_hit : Room := { frames := 1, cells := 0, slots := 0, locals := 22 }
def fX6_hit (F : Nat) (M : Mem) (a0 : Int32) (a1 : Int32) : Option (Mem × Int32) :=
    q_bn (fX6_in F M a0 (0 : Int32) ((M 66 0 0) - (1 : Int32))) fun M1 z2 =>
    if z2 = (0 : Int32) then
    (q_bn (fX6_fails F M1 (1 : Int32)) fun M3 z4 =>
    some (M3, z4))
    else
    (if a1 = (99 : Int32) then
    (q_ax a0 40 fun j3 =>
    q_bn (fX6_tells F M1 (M1 47 0 j3)) fun M4 z5 =>
    some (M4, z5))
    else
    if a1 = (104 : Int32) then
    (q_ax a0 40 fun j3 =>
    q_bn (fX6_tells F M1 (M1 48 0 j3)) fun M4 z5 =>
    some (M4, z5))
    else
    if a1 = (110 : Int32) then
    (q_ax a0 40 fun j3 =>
    q_bn (fX6_tells F M1 (M1 45 0 j3)) fun M4 z5 =>
    some (M4, z5))
    else
    if a1 = (111 : Int32) then
    (q_ax a0 40 fun j3 =>
    q_bn (fX6_tells F M1 (M1 46 0 j3)) fun M4 z5 =>
    some (M4, z5))
    else
    (q_bn (fX6_fails F M1 (2 : Int32)) fun M3 z4 =>
    some (M3, z4)))
set_option maxHeartbeats 4000000 in
set_option maxRecDepth 100000 in
theorem ctX6_hit {l : Launch} (hst : l.stackTraces = false) {D : va_G} {cy : Nat → ClassId} {ad : Nat → Nat} {x : XX} {F : Nat} {M : Mem} {a0 : Int32} {a1 : Int32} {r : Mem × Int32} (h : fX6_hit F M a0 a1 = some r) : CN l yX6_hit wsX6_hit rmX6_hit D cy ad [.ref (ad 427), .int a0, .int a1] x M x r.1 (q_vi r.2) 0 0 := by
  refine q_startN (cc := cX6_hit) (maxL := 3) (ret := (some .int)) (by decide) rfl (Nat.le_of_ble_eq_true rfl) ?_
  intro p e s m args below meth c ls C0 hw hl hnm
  obtain ⟨hx, hb, hml, hown, hts, -⟩ := id C0
  have C0 : MX p l s m args meth c D cy ad cX6_hit RX6 3 wsX6_hit ((some .int)) := C0
  have hown : s.vm.findClass RX6 = some m.cls := hown
  have hl : lv_has ls 3 [(0, .ref (ad 427)), (1, .int a0), (2, .int a1)] := hl
  show W p l e rmX6_hit s m args below meth c s.heap [] 0 0 (QN D cy ad below args s x q_vi r 0 0) (F0 m 0 ls [])
  unfold fX6_hit at h
  refine lv_iload_n hx hb dX6_hit_0 rfl (lv_at hl 1 rfl) ?_
  refine lv_iconst (v := 0) hx hb dX6_hit_1 (by decide) ?_
  refine lv_aload_n hx hb dX6_hit_2 rfl (lv_at hl 0 rfl) ?_
  refine gf_Mod_hits C0 hw (fun _ h9 => List.mem_cons_of_mem _ (List.mem_append_left _ (List.mem_append_right _ h9))) (List.mem_of_getElem? (i := 1) rfl) dX6_hit_3 ?_
  refine lv_iconst (v := 1) hx hb dX6_hit_6 (by decide) ?_
  refine lv_isub hx hb dX6_hit_7 ?_
  refine q_callSNi (As := [.int a0, .int ((0 : Int32)), .int ((M 66 0 0) - (1 : Int32))]) (nA := 3) C0 hw (fun r1 h1 => ctX6_in hst h1) gX6_hit_X6_in rfl ⟨rfl, rfl⟩ (by decide +kernel) rfl ⟨(Nat.le_of_ble_eq_true rfl), (Nat.le_of_ble_eq_true rfl)⟩ hl.1 (Nat.le_of_ble_eq_true rfl) ⟨(Nat.le_of_ble_eq_true rfl), (Nat.le_of_ble_eq_true rfl)⟩ rfl h dX6_hit_8 (fun M1 z2 H locs hw h => ?_)
  refine q_if_ne (tgt := 20) hx hb dX6_hit_11 (by decide) h (fun h => ?_) (fun h => ?_)
  · refine lv_iload_n hx hb dX6_hit_20 rfl (lv_at hl 2 rfl) ?_
    refine q_if (P := a1 = (99 : Int32)) h (fun e0 h => ?_) (fun n0 h => ?_)
    · refine lv_lookup (off := 65) (tgt := 86) hx hb dX6_hit_21 (by decide) (by rw [e0]; decide) (by decide) ?_
      refine lv_aload_n hx hb dX6_hit_86 rfl (lv_at hl 0 rfl) ?_
      refine lv_aload_n hx hb dX6_hit_87 rfl (lv_at hl 0 rfl) ?_
      refine gf_Mod_hitCommon C0 hw (fun _ h9 => List.mem_cons_of_mem _ (List.mem_append_left _ (List.mem_append_right _ h9))) (List.mem_of_getElem? (i := 4) rfl) dX6_hit_88 ?_
      refine lv_iload_n hx hb dX6_hit_91 rfl (lv_at hl 1 rfl) ?_
      refine q_iald C0 hw at_m47 h dX6_hit_92 (fun j3 hj3 h => ?_)
      refine q_callVNi (As := [.int (M1 47 0 j3)]) (nA := 1) C0 hw at_Mod rfl (fun r1 h1 => ctX6_tells hst h1) gX6_hit_X6_tells rfl ⟨rfl, rfl⟩ (by decide +kernel) rfl ⟨(Nat.le_of_ble_eq_true rfl), (Nat.le_of_ble_eq_true rfl)⟩ hl.1 (Nat.le_of_ble_eq_true rfl) ⟨(Nat.le_of_ble_eq_true rfl), (Nat.le_of_ble_eq_true rfl)⟩ rfl h dX6_hit_93 (fun M4 z5 H locs hw h => ?_)
      exact q_iretN C0 hw h ⟨(Nat.le_of_ble_eq_true rfl), (Nat.le_of_ble_eq_true rfl)⟩ dX6_hit_96
    · skip
      refine q_if (P := a1 = (104 : Int32)) h (fun e1 h => ?_) (fun n1 h => ?_)
      · refine lv_lookup (off := 76) (tgt := 97) hx hb dX6_hit_21 (by decide) (by rw [e1]; decide) (by decide) ?_
        refine lv_aload_n hx hb dX6_hit_97 rfl (lv_at hl 0 rfl) ?_
        refine lv_aload_n hx hb dX6_hit_98 rfl (lv_at hl 0 rfl) ?_
        refine gf_Mod_hitHeard C0 hw (fun _ h9 => List.mem_cons_of_mem _ (List.mem_append_left _ (List.mem_append_right _ h9))) (List.mem_of_getElem? (i := 5) rfl) dX6_hit_99 ?_
        refine lv_iload_n hx hb dX6_hit_102 rfl (lv_at hl 1 rfl) ?_
        refine q_iald C0 hw at_m48 h dX6_hit_103 (fun j3 hj3 h => ?_)
        refine q_callVNi (As := [.int (M1 48 0 j3)]) (nA := 1) C0 hw at_Mod rfl (fun r1 h1 => ctX6_tells hst h1) gX6_hit_X6_tells rfl ⟨rfl, rfl⟩ (by decide +kernel) rfl ⟨(Nat.le_of_ble_eq_true rfl), (Nat.le_of_ble_eq_true rfl)⟩ hl.1 (Nat.le_of_ble_eq_true rfl) ⟨(Nat.le_of_ble_eq_true rfl), (Nat.le_of_ble_eq_true rfl)⟩ rfl h dX6_hit_104 (fun M4 z5 H locs hw h => ?_)
        exact q_iretN C0 hw h ⟨(Nat.le_of_ble_eq_true rfl), (Nat.le_of_ble_eq_true rfl)⟩ dX6_hit_107
      · skip
        refine q_if (P := a1 = (110 : Int32)) h (fun e2 h => ?_) (fun n2 h => ?_)
        · refine lv_lookup (off := 43) (tgt := 64) hx hb dX6_hit_21 (by decide) (by rw [e2]; decide) (by decide) ?_
          refine lv_aload_n hx hb dX6_hit_64 rfl (lv_at hl 0 rfl) ?_
          refine lv_aload_n hx hb dX6_hit_65 rfl (lv_at hl 0 rfl) ?_
          refine gf_Mod_hitNew C0 hw (fun _ h9 => List.mem_cons_of_mem _ (List.mem_append_left _ (List.mem_append_right _ h9))) (List.mem_of_getElem? (i := 2) rfl) dX6_hit_66 ?_
          refine lv_iload_n hx hb dX6_hit_69 rfl (lv_at hl 1 rfl) ?_
          refine q_iald C0 hw at_m45 h dX6_hit_70 (fun j3 hj3 h => ?_)
          refine q_callVNi (As := [.int (M1 45 0 j3)]) (nA := 1) C0 hw at_Mod rfl (fun r1 h1 => ctX6_tells hst h1) gX6_hit_X6_tells rfl ⟨rfl, rfl⟩ (by decide +kernel) rfl ⟨(Nat.le_of_ble_eq_true rfl), (Nat.le_of_ble_eq_true rfl)⟩ hl.1 (Nat.le_of_ble_eq_true rfl) ⟨(Nat.le_of_ble_eq_true rfl), (Nat.le_of_ble_eq_true rfl)⟩ rfl h dX6_hit_71 (fun M4 z5 H locs hw h => ?_)
          exact q_iretN C0 hw h ⟨(Nat.le_of_ble_eq_true rfl), (Nat.le_of_ble_eq_true rfl)⟩ dX6_hit_74
        · skip
          refine q_if (P := a1 = (111 : Int32)) h (fun e3 h => ?_) (fun n3 h => ?_)
          · refine lv_lookup (off := 54) (tgt := 75) hx hb dX6_hit_21 (by decide) (by rw [e3]; decide) (by decide) ?_
            refine lv_aload_n hx hb dX6_hit_75 rfl (lv_at hl 0 rfl) ?_
            refine lv_aload_n hx hb dX6_hit_76 rfl (lv_at hl 0 rfl) ?_
            refine gf_Mod_hitOld C0 hw (fun _ h9 => List.mem_cons_of_mem _ (List.mem_append_left _ (List.mem_append_right _ h9))) (List.mem_of_getElem? (i := 3) rfl) dX6_hit_77 ?_
            refine lv_iload_n hx hb dX6_hit_80 rfl (lv_at hl 1 rfl) ?_
            refine q_iald C0 hw at_m46 h dX6_hit_81 (fun j3 hj3 h => ?_)
            refine q_callVNi (As := [.int (M1 46 0 j3)]) (nA := 1) C0 hw at_Mod rfl (fun r1 h1 => ctX6_tells hst h1) gX6_hit_X6_tells rfl ⟨rfl, rfl⟩ (by decide +kernel) rfl ⟨(Nat.le_of_ble_eq_true rfl), (Nat.le_of_ble_eq_true rfl)⟩ hl.1 (Nat.le_of_ble_eq_true rfl) ⟨(Nat.le_of_ble_eq_true rfl), (Nat.le_of_ble_eq_true rfl)⟩ rfl h dX6_hit_82 (fun M4 z5 H locs hw h => ?_)
            exact q_iretN C0 hw h ⟨(Nat.le_of_ble_eq_true rfl), (Nat.le_of_ble_eq_true rfl)⟩ dX6_hit_85
          · skip
            refine lv_lookup (off := 87) (tgt := 108) hx hb dX6_hit_21 (by decide) ((lv_osw n0 (by decide)).trans ((lv_osw n1 (by decide)).trans ((lv_osw n2 (by decide)).trans ((lv_osw n3 (by decide)).trans rfl)))) (by decide) ?_
            refine lv_aload_n hx hb dX6_hit_108 rfl (lv_at hl 0 rfl) ?_
            refine lv_iconst (v := 2) hx hb dX6_hit_109 (by decide) ?_
            refine q_callVNi (As := [.int ((2 : Int32))]) (nA := 1) C0 hw at_Mod rfl (fun r1 h1 => ctX6_fails hst h1) gX6_hit_X6_fails rfl ⟨rfl, rfl⟩ (by decide +kernel) rfl ⟨(Nat.le_of_ble_eq_true rfl), (Nat.le_of_ble_eq_true rfl)⟩ hl.1 (Nat.le_of_ble_eq_true rfl) ⟨(Nat.le_of_ble_eq_true rfl), (Nat.le_of_ble_eq_true rfl)⟩ rfl h dX6_hit_110 (fun M3 z4 H locs hw h => ?_)
            exact q_iretN C0 hw h ⟨(Nat.le_of_ble_eq_true rfl), (Nat.le_of_ble_eq_true rfl)⟩ dX6_hit_113
  · refine lv_aload_n hx hb dX6_hit_14 rfl (lv_at hl 0 rfl) ?_
    refine lv_iconst (v := 1) hx hb dX6_hit_15 (by decide) ?_
    refine q_callVNi (As := [.int ((1 : Int32))]) (nA := 1) C0 hw at_Mod rfl (fun r1 h1 => ctX6_fails hst h1) gX6_hit_X6_fails rfl ⟨rfl, rfl⟩ (by decide +kernel) rfl ⟨(Nat.le_of_ble_eq_true rfl), (Nat.le_of_ble_eq_true rfl)⟩ hl.1 (Nat.le_of_ble_eq_true rfl) ⟨(Nat.le_of_ble_eq_true rfl), (Nat.le_of_ble_eq_true rfl)⟩ rfl h dX6_hit_16 (fun M3 z4 H locs hw h => ?_)
    exact q_iretN C0 hw h ⟨(Nat.le_of_ble_eq_true rfl), (Nat.le_of_ble_eq_true rfl)⟩ dX6_hit_19
/-! HomewatcherModel.loses(I)V -/
abbrev rmX6_loses : Room := { frames := 0, cells := 0, slots := 0, locals := 0 }
def fX6_loses (F : Nat) (M : Mem) (a0 : Int32) : Option (Mem × Unit) :=
    q_ax a0 60 fun j1 =>
    q_ax a0 60 fun j2 =>
    q_ax (((10 : Int32) * (M 33 0 j1)) + (M 34 0 j2)) 120 fun j3 =>
    q_lt (up M 49 0 j3 (vp_nar .boolean (1 : Int32))) fun M4 =>
    some (M4, ())
set_option maxHeartbeats 4000000 in
set_option maxRecDepth 100000 in
theorem ctX6_loses {l : Launch} (hst : l.stackTraces = false) {D : va_G} {cy : Nat → ClassId} {ad : Nat → Nat} {x : XX} {F : Nat} {M : Mem} {a0 : Int32} {r : Mem × Unit} (h : fX6_loses F M a0 = some r) : CN l yX6_loses wsX6_loses rmX6_loses D cy ad [.ref (ad 427), .int a0] x M x r.1 (q_vv r.2) 0 0 := by
  refine q_startN (cc := cX6_loses) (maxL := 2) (ret := none) (by decide) rfl (Nat.le_of_ble_eq_true rfl) ?_
  intro p e s m args below meth c ls C0 hw hl hnm
  obtain ⟨hx, hb, hml, hown, hts, -⟩ := id C0
  have C0 : MX p l s m args meth c D cy ad cX6_loses RX6 2 wsX6_loses (none) := C0
  have hown : s.vm.findClass RX6 = some m.cls := hown
  have hl : lv_has ls 2 [(0, .ref (ad 427)), (1, .int a0)] := hl
  show W p l e rmX6_loses s m args below meth c s.heap [] 0 0 (QN D cy ad below args s x q_vv r 0 0) (F0 m 0 ls [])
  unfold fX6_loses at h
  refine lv_aload_n hx hb dX6_loses_0 rfl (lv_at hl 0 rfl) ?_
  refine gf_Mod_isLost C0 hw (fun _ h9 => List.mem_cons_of_mem _ (List.mem_append_left _ (List.mem_append_right _ h9))) (List.mem_of_getElem? (i := 1) rfl) dX6_loses_1 ?_
  refine lv_bipush (v := 10) hx hb dX6_loses_4 (by decide) ?_
  refine lv_aload_n hx hb dX6_loses_6 rfl (lv_at hl 0 rfl) ?_
  refine gf_Mod_pupilOf C0 hw (fun _ h9 => List.mem_cons_of_mem _ (List.mem_append_left _ (List.mem_append_right _ h9))) (List.mem_of_getElem? (i := 2) rfl) dX6_loses_7 ?_
  refine lv_iload_n hx hb dX6_loses_10 rfl (lv_at hl 1 rfl) ?_
  refine q_iald C0 hw at_m33 h dX6_loses_11 (fun j1 hj1 h => ?_)
  refine lv_imul hx hb dX6_loses_12 ?_
  refine lv_aload_n hx hb dX6_loses_13 rfl (lv_at hl 0 rfl) ?_
  refine gf_Mod_taskOf C0 hw (fun _ h9 => List.mem_cons_of_mem _ (List.mem_append_left _ (List.mem_append_right _ h9))) (List.mem_of_getElem? (i := 3) rfl) dX6_loses_14 ?_
  refine lv_iload_n hx hb dX6_loses_17 rfl (lv_at hl 1 rfl) ?_
  refine q_iald C0 hw at_m34 h dX6_loses_18 (fun j2 hj2 h => ?_)
  refine lv_iadd hx hb dX6_loses_19 ?_
  refine lv_iconst (v := 1) hx hb dX6_loses_20 (by decide) ?_
  refine q_zast (v := 49) C0 hw rfl (fun _ => at_m49) h dX6_loses_21 (fun j3 M4 H locs hj3 hw h => ?_)
  exact q_vretN C0 hw h ⟨(Nat.le_of_ble_eq_true rfl), (Nat.le_of_ble_eq_true rfl)⟩ dX6_loses_22
/-! HomewatcherModel.hear(II)I -/
abbrev rmX6_hear : Room := { frames := 1, cells := 0, slots := 0, locals := 22 }
def fX6_hear_123 (F : Nat) (k97 : Mem → Int32 → Int32 → Option (Mem × Int32)) (M : Mem) (s0 : Int32) (s1 : Int32) (v4 : Int32) : Option (Mem × Int32) :=
    q_lt (s1 + s0) fun z1 =>
    q_lt (v4 + (1 : Int32)) fun z2 =>
    k97 M z1 z2
set_option maxHeartbeats 4000000 in
set_option maxRecDepth 100000 in
theorem wX6_hear_123 {p : Program} {l : Launch} {e : Env} {s : State} {m : MethodId} {args : Array Value} {below : List Frame} {meth : Method} {c : Code} {D : va_G} {cy : Nat → ClassId} {ad : Nat → Nat} {x : XX} {F : Nat} {r : Mem × Int32} (hst : l.stackTraces = false) (C0 : MX p l s m args meth c D cy ad cX6_hear RX6 5 wsX6_hear (some .int)) {k97 : Mem → Int32 → Int32 → Option (Mem × Int32)} (hk97 : ∀ (M : Mem) (v3 : Int32) (v4 : Int32) (H : Heap) (locs : List Loc) (ls : Array Slot), Wd D cy ad x s M H locs → lv_has ls 5 [(0, .ref (ad 427)), (3, .int v3), (4, .int v4)] → k97 M v3 v4 = some r → W p l e rmX6_hear s m args below meth c H locs 0 0 (QN D cy ad below args s x q_vi r 0 0) (F0 m 97 ls [])) : ∀ (M : Mem) (s0 : Int32) (s1 : Int32) (v4 : Int32) (H : Heap) (locs : List Loc) (ls : Array Slot), Wd D cy ad x s M H locs → lv_has ls 5 [(0, .ref (ad 427)), (4, .int v4)] → fX6_hear_123 F k97 M s0 s1 v4 = some r → W p l e rmX6_hear s m args below meth c H locs 0 0 (QN D cy ad below args s x q_vi r 0 0) (F0 m 123 ls [.int s0, .int s1]) := by
  obtain ⟨hx, hb, hml, hown, hts, -⟩ := id C0
  intro M s0 s1 v4 H locs ls hw hl h
  unfold fX6_hear_123 at h
  refine lv_iadd hx hb dX6_hear_123 ?_
  refine q_istore_n (lv' := fun z1 => [(3, .int z1), (0, .ref (ad 427)), (4, .int v4)]) hx hb dX6_hear_124 rfl hl (by decide) (fun _ => rfl) h (fun z1 ls hl h => ?_)
  refine q_iinc (k := 2) (cst := 1) (lv' := fun z2 => [(4, .int z2), (3, .int z1), (0, .ref (ad 427))]) hx hb dX6_hear_125 hl rfl rfl (by decide) (fun _ => rfl) h (fun z2 ls hl h => ?_)
  refine lv_goto (tgt := 97) hx hb dX6_hear_128 (by decide) ?_
  exact hk97 M z1 z2 _ _ _ hw (lv_sub hl [2, 1, 0] rfl) h
def fX6_hear_97 (F : Nat) : Nat → Mem → Int32 → Int32 → Option (Mem × Int32)
  | 0, _, _, _ => none
  | n + 1, M, v3, v4 =>
    if (M 66 0 0) ≤ v4 then
    (q_bn (fX6_tells F M v3) fun M1 z2 =>
    some (M1, z2))
    else
    (q_ax v4 40 fun j1 =>
    if (M 48 0 j1) = (-1 : Int32) then
    (fX6_hear_123 F (fX6_hear_97 F n) M (1 : Int32) v3 v4)
    else
    (fX6_hear_123 F (fX6_hear_97 F n) M (0 : Int32) v3 v4))
set_option maxHeartbeats 4000000 in
set_option maxRecDepth 100000 in
theorem wX6_hear_97 {p : Program} {l : Launch} {e : Env} {s : State} {m : MethodId} {args : Array Value} {below : List Frame} {meth : Method} {c : Code} {D : va_G} {cy : Nat → ClassId} {ad : Nat → Nat} {x : XX} {F : Nat} {r : Mem × Int32} (hst : l.stackTraces = false) (C0 : MX p l s m args meth c D cy ad cX6_hear RX6 5 wsX6_hear (some .int)) : ∀ (n : Nat) (M : Mem) (v3 : Int32) (v4 : Int32) (H : Heap) (locs : List Loc) (ls : Array Slot), Wd D cy ad x s M H locs → lv_has ls 5 [(0, .ref (ad 427)), (3, .int v3), (4, .int v4)] → fX6_hear_97 F n M v3 v4 = some r → W p l e rmX6_hear s m args below meth c H locs 0 0 (QN D cy ad below args s x q_vi r 0 0) (F0 m 97 ls []) := by
  obtain ⟨hx, hb, hml, hown, hts, -⟩ := id C0
  intro n
  induction n with
  | zero =>
    intro M v3 v4 H locs ls hw hl h
    exact q_no h
  | succ n ih =>
    intro M v3 v4 H locs ls hw hl h
    unfold fX6_hear_97 at h
    refine lv_iload hx hb dX6_hear_97 (lv_at hl 2 rfl) ?_
    refine lv_aload_n hx hb dX6_hear_99 rfl (lv_at hl 0 rfl) ?_
    refine gf_Mod_hits C0 hw (fun _ h9 => List.mem_cons_of_mem _ (List.mem_append_left _ (List.mem_append_right _ h9))) (List.mem_of_getElem? (i := 1) rfl) dX6_hear_100 ?_
    refine q_icmp_ge (tgt := 131) hx hb dX6_hear_103 (by decide) h (fun h => ?_) (fun h => ?_)
    · refine lv_aload_n hx hb dX6_hear_131 rfl (lv_at hl 0 rfl) ?_
      refine lv_iload_n hx hb dX6_hear_132 rfl (lv_at hl 1 rfl) ?_
      refine q_callVNi (As := [.int v3]) (nA := 1) C0 hw at_Mod rfl (fun r1 h1 => ctX6_tells hst h1) gX6_hear_X6_tells rfl ⟨rfl, rfl⟩ (by decide +kernel) rfl ⟨(Nat.le_of_ble_eq_true rfl), (Nat.le_of_ble_eq_true rfl)⟩ hl.1 (Nat.le_of_ble_eq_true rfl) ⟨(Nat.le_of_ble_eq_true rfl), (Nat.le_of_ble_eq_true rfl)⟩ rfl h dX6_hear_133 (fun M1 z2 H locs hw h => ?_)
      exact q_iretN C0 hw h ⟨(Nat.le_of_ble_eq_true rfl), (Nat.le_of_ble_eq_true rfl)⟩ dX6_hear_136
    · refine lv_iload_n hx hb dX6_hear_106 rfl (lv_at hl 1 rfl) ?_
      refine lv_aload_n hx hb dX6_hear_107 rfl (lv_at hl 0 rfl) ?_
      refine gf_Mod_hitHeard C0 hw (fun _ h9 => List.mem_cons_of_mem _ (List.mem_append_left _ (List.mem_append_right _ h9))) (List.mem_of_getElem? (i := 2) rfl) dX6_hear_108 ?_
      refine lv_iload hx hb dX6_hear_111 (lv_at hl 2 rfl) ?_
      refine q_iald C0 hw at_m48 h dX6_hear_113 (fun j1 hj1 h => ?_)
      refine lv_iconst (v := -1) hx hb dX6_hear_114 (by decide) ?_
      refine q_icmp_ne (tgt := 122) hx hb dX6_hear_115 (by decide) h (fun h => ?_) (fun h => ?_)
      · refine lv_iconst (v := 0) hx hb dX6_hear_122 (by decide) ?_
        exact wX6_hear_123 hst C0 ih M (0 : Int32) v3 v4 _ _ _ hw (lv_sub hl [0, 2] rfl) h
      · refine lv_iconst (v := 1) hx hb dX6_hear_118 (by decide) ?_
        refine lv_goto (tgt := 123) hx hb dX6_hear_119 (by decide) ?_
        exact wX6_hear_123 hst C0 ih M (1 : Int32) v3 v4 _ _ _ hw (lv_sub hl [0, 2] rfl) h
def fX6_hear_92 (F : Nat) (M : Mem) : Option (Mem × Int32) :=
    q_lt ((0 : Int32)) fun z1 =>
    q_lt ((0 : Int32)) fun z2 =>
    fX6_hear_97 F F M z1 z2
set_option maxHeartbeats 4000000 in
set_option maxRecDepth 100000 in
theorem wX6_hear_92 {p : Program} {l : Launch} {e : Env} {s : State} {m : MethodId} {args : Array Value} {below : List Frame} {meth : Method} {c : Code} {D : va_G} {cy : Nat → ClassId} {ad : Nat → Nat} {x : XX} {F : Nat} {r : Mem × Int32} (hst : l.stackTraces = false) (C0 : MX p l s m args meth c D cy ad cX6_hear RX6 5 wsX6_hear (some .int)) : ∀ (M : Mem) (H : Heap) (locs : List Loc) (ls : Array Slot), Wd D cy ad x s M H locs → lv_has ls 5 [(0, .ref (ad 427))] → fX6_hear_92 F M = some r → W p l e rmX6_hear s m args below meth c H locs 0 0 (QN D cy ad below args s x q_vi r 0 0) (F0 m 92 ls []) := by
  obtain ⟨hx, hb, hml, hown, hts, -⟩ := id C0
  intro M H locs ls hw hl h
  unfold fX6_hear_92 at h
  refine lv_iconst (v := 0) hx hb dX6_hear_92 (by decide) ?_
  refine q_istore_n (lv' := fun z1 => [(3, .int z1), (0, .ref (ad 427))]) hx hb dX6_hear_93 rfl hl (by decide) (fun _ => rfl) h (fun z1 ls hl h => ?_)
  refine lv_iconst (v := 0) hx hb dX6_hear_94 (by decide) ?_
  refine q_istore (lv' := fun z2 => [(4, .int z2), (3, .int z1), (0, .ref (ad 427))]) hx hb dX6_hear_95 hl (by decide) (fun _ => rfl) h (fun z2 ls hl h => ?_)
  exact wX6_hear_97 hst C0  F M z1 z2 _ _ _ hw (lv_sub hl [2, 1, 0] rfl) h
def fX6_hear_75 (F : Nat) (M : Mem) (v1 : Int32) (v2 : Int32) : Option (Mem × Int32) :=
    if (v2 / (2 : Int32)) = (1 : Int32) then
    (q_ax v1 40 fun j1 =>
    q_bn (fX6_loses F M (M 46 0 j1)) fun M2 _ =>
    fX6_hear_92 F M2)
    else
    (fX6_hear_92 F M)
set_option maxHeartbeats 4000000 in
set_option maxRecDepth 100000 in
theorem wX6_hear_75 {p : Program} {l : Launch} {e : Env} {s : State} {m : MethodId} {args : Array Value} {below : List Frame} {meth : Method} {c : Code} {D : va_G} {cy : Nat → ClassId} {ad : Nat → Nat} {x : XX} {F : Nat} {r : Mem × Int32} (hst : l.stackTraces = false) (C0 : MX p l s m args meth c D cy ad cX6_hear RX6 5 wsX6_hear (some .int)) : ∀ (M : Mem) (v1 : Int32) (v2 : Int32) (H : Heap) (locs : List Loc) (ls : Array Slot), Wd D cy ad x s M H locs → lv_has ls 5 [(0, .ref (ad 427)), (1, .int v1), (2, .int v2)] → fX6_hear_75 F M v1 v2 = some r → W p l e rmX6_hear s m args below meth c H locs 0 0 (QN D cy ad below args s x q_vi r 0 0) (F0 m 75 ls []) := by
  obtain ⟨hx, hb, hml, hown, hts, -⟩ := id C0
  intro M v1 v2 H locs ls hw hl h
  unfold fX6_hear_75 at h
  refine lv_iload_n hx hb dX6_hear_75 rfl (lv_at hl 2 rfl) ?_
  refine lv_iconst (v := 2) hx hb dX6_hear_76 (by decide) ?_
  refine lv_idiv hx hb dX6_hear_77 (by decide) ?_
  refine lv_iconst (v := 1) hx hb dX6_hear_78 (by decide) ?_
  refine q_icmp_ne (tgt := 92) hx hb dX6_hear_79 (by decide) h (fun h => ?_) (fun h => ?_)
  · exact wX6_hear_92 hst C0  M _ _ _ hw (lv_sub hl [0] rfl) h
  · refine lv_aload_n hx hb dX6_hear_82 rfl (lv_at hl 0 rfl) ?_
    refine lv_aload_n hx hb dX6_hear_83 rfl (lv_at hl 0 rfl) ?_
    refine gf_Mod_hitOld C0 hw (fun _ h9 => List.mem_cons_of_mem _ (List.mem_append_left _ (List.mem_append_right _ h9))) (List.mem_of_getElem? (i := 4) rfl) dX6_hear_84 ?_
    refine lv_iload_n hx hb dX6_hear_87 rfl (lv_at hl 1 rfl) ?_
    refine q_iald C0 hw at_m46 h dX6_hear_88 (fun j1 hj1 h => ?_)
    refine q_callVNv (As := [.int (M 46 0 j1)]) (nA := 1) C0 hw at_Mod rfl (fun r1 h1 => ctX6_loses hst h1) gX6_hear_X6_loses rfl ⟨rfl, rfl⟩ (by decide +kernel) rfl ⟨(Nat.le_of_ble_eq_true rfl), (Nat.le_of_ble_eq_true rfl)⟩ hl.1 (Nat.le_of_ble_eq_true rfl) ⟨(Nat.le_of_ble_eq_true rfl), (Nat.le_of_ble_eq_true rfl)⟩ rfl h dX6_hear_89 (fun M2 H locs hw h => ?_)
    exact wX6_hear_92 hst C0  M2 _ _ _ hw (lv_sub hl [0] rfl) h
def fX6_hear (F : Nat) (M : Mem) (a0 : Int32) (a1 : Int32) : Option (Mem × Int32) :=
    q_bn (fX6_in F M a0 (0 : Int32) ((M 66 0 0) - (1 : Int32))) fun M1 z2 =>
    if z2 = (0 : Int32) then
    (q_bn (fX6_fails F M1 (1 : Int32)) fun M3 z4 =>
    some (M3, z4))
    else
    (q_bn (fX6_in F M1 a1 (0 : Int32) (3 : Int32)) fun M3 z4 =>
    if z4 = (0 : Int32) then
    (q_bn (fX6_fails F M3 (2 : Int32)) fun M5 z6 =>
    some (M5, z6))
    else
    (q_ax a0 40 fun j5 =>
    if (M3 48 0 j5) = (-1 : Int32) then
    (q_ax a0 40 fun j6 =>
    q_lt (up M3 48 0 j6 a1) fun M7 =>
    if (a1 - a1 / (2 : Int32) * (2 : Int32)) = (1 : Int32) then
    (q_ax a0 40 fun j8 =>
    q_bn (fX6_loses F M7 (M7 45 0 j8)) fun M9 _ =>
    fX6_hear_75 F M9 a0 a1)
    else
    (fX6_hear_75 F M7 a0 a1))
    else
    (q_bn (fX6_fails F M3 (3 : Int32)) fun M6 z7 =>
    some (M6, z7))))
set_option maxHeartbeats 4000000 in
set_option maxRecDepth 100000 in
theorem ctX6_hear {l : Launch} (hst : l.stackTraces = false) {D : va_G} {cy : Nat → ClassId} {ad : Nat → Nat} {x : XX} {F : Nat} {M : Mem} {a0 : Int32} {a1 : Int32} {r : Mem × Int32} (h : fX6_hear F M a0 a1 = some r) : CN l yX6_hear wsX6_hear rmX6_hear D cy ad [.ref (ad 427), .int a0, .int a1] x M x r.1 (q_vi r.2) 0 0 := by
  refine q_startN (cc := cX6_hear) (maxL := 5) (ret := (some .int)) (by decide) rfl (Nat.le_of_ble_eq_true rfl) ?_
  intro p e s m args below meth c ls C0 hw hl hnm
  obtain ⟨hx, hb, hml, hown, hts, -⟩ := id C0
  have C0 : MX p l s m args meth c D cy ad cX6_hear RX6 5 wsX6_hear ((some .int)) := C0
  have hown : s.vm.findClass RX6 = some m.cls := hown
  have hl : lv_has ls 5 [(0, .ref (ad 427)), (1, .int a0), (2, .int a1)] := hl
  show W p l e rmX6_hear s m args below meth c s.heap [] 0 0 (QN D cy ad below args s x q_vi r 0 0) (F0 m 0 ls [])
  unfold fX6_hear at h
  refine lv_iload_n hx hb dX6_hear_0 rfl (lv_at hl 1 rfl) ?_
  refine lv_iconst (v := 0) hx hb dX6_hear_1 (by decide) ?_
  refine lv_aload_n hx hb dX6_hear_2 rfl (lv_at hl 0 rfl) ?_
  refine gf_Mod_hits C0 hw (fun _ h9 => List.mem_cons_of_mem _ (List.mem_append_left _ (List.mem_append_right _ h9))) (List.mem_of_getElem? (i := 1) rfl) dX6_hear_3 ?_
  refine lv_iconst (v := 1) hx hb dX6_hear_6 (by decide) ?_
  refine lv_isub hx hb dX6_hear_7 ?_
  refine q_callSNi (As := [.int a0, .int ((0 : Int32)), .int ((M 66 0 0) - (1 : Int32))]) (nA := 3) C0 hw (fun r1 h1 => ctX6_in hst h1) gX6_hear_X6_in rfl ⟨rfl, rfl⟩ (by decide +kernel) rfl ⟨(Nat.le_of_ble_eq_true rfl), (Nat.le_of_ble_eq_true rfl)⟩ hl.1 (Nat.le_of_ble_eq_true rfl) ⟨(Nat.le_of_ble_eq_true rfl), (Nat.le_of_ble_eq_true rfl)⟩ rfl h dX6_hear_8 (fun M1 z2 H locs hw h => ?_)
  refine q_if_ne (tgt := 20) hx hb dX6_hear_11 (by decide) h (fun h => ?_) (fun h => ?_)
  · refine lv_iload_n hx hb dX6_hear_20 rfl (lv_at hl 2 rfl) ?_
    refine lv_iconst (v := 0) hx hb dX6_hear_21 (by decide) ?_
    refine lv_iconst (v := 3) hx hb dX6_hear_22 (by decide) ?_
    refine q_callSNi (As := [.int a1, .int ((0 : Int32)), .int ((3 : Int32))]) (nA := 3) C0 hw (fun r1 h1 => ctX6_in hst h1) gX6_hear_X6_in rfl ⟨rfl, rfl⟩ (by decide +kernel) rfl ⟨(Nat.le_of_ble_eq_true rfl), (Nat.le_of_ble_eq_true rfl)⟩ hl.1 (Nat.le_of_ble_eq_true rfl) ⟨(Nat.le_of_ble_eq_true rfl), (Nat.le_of_ble_eq_true rfl)⟩ rfl h dX6_hear_23 (fun M3 z4 H locs hw h => ?_)
    refine q_if_ne (tgt := 35) hx hb dX6_hear_26 (by decide) h (fun h => ?_) (fun h => ?_)
    · refine lv_aload_n hx hb dX6_hear_35 rfl (lv_at hl 0 rfl) ?_
      refine gf_Mod_hitHeard C0 hw (fun _ h9 => List.mem_cons_of_mem _ (List.mem_append_left _ (List.mem_append_right _ h9))) (List.mem_of_getElem? (i := 2) rfl) dX6_hear_36 ?_
      refine lv_iload_n hx hb dX6_hear_39 rfl (lv_at hl 1 rfl) ?_
      refine q_iald C0 hw at_m48 h dX6_hear_40 (fun j5 hj5 h => ?_)
      refine lv_iconst (v := -1) hx hb dX6_hear_41 (by decide) ?_
      refine q_icmp_eq (tgt := 51) hx hb dX6_hear_42 (by decide) h (fun h => ?_) (fun h => ?_)
      · refine lv_aload_n hx hb dX6_hear_51 rfl (lv_at hl 0 rfl) ?_
        refine gf_Mod_hitHeard C0 hw (fun _ h9 => List.mem_cons_of_mem _ (List.mem_append_left _ (List.mem_append_right _ h9))) (List.mem_of_getElem? (i := 2) rfl) dX6_hear_52 ?_
        refine lv_iload_n hx hb dX6_hear_55 rfl (lv_at hl 1 rfl) ?_
        refine lv_iload_n hx hb dX6_hear_56 rfl (lv_at hl 2 rfl) ?_
        refine q_iast (v := 48) C0 hw rfl (fun _ => at_m48) h dX6_hear_57 (fun j6 M7 H locs hj6 hw h => ?_)
        refine lv_iload_n hx hb dX6_hear_58 rfl (lv_at hl 2 rfl) ?_
        refine lv_iconst (v := 2) hx hb dX6_hear_59 (by decide) ?_
        refine lv_irem hx hb dX6_hear_60 (by decide) ?_
        refine lv_iconst (v := 1) hx hb dX6_hear_61 (by decide) ?_
        refine q_icmp_ne (tgt := 75) hx hb dX6_hear_62 (by decide) h (fun h => ?_) (fun h => ?_)
        · exact wX6_hear_75 hst C0  M7 a0 a1 _ _ _ hw (lv_sub hl [0, 1, 2] rfl) h
        · refine lv_aload_n hx hb dX6_hear_65 rfl (lv_at hl 0 rfl) ?_
          refine lv_aload_n hx hb dX6_hear_66 rfl (lv_at hl 0 rfl) ?_
          refine gf_Mod_hitNew C0 hw (fun _ h9 => List.mem_cons_of_mem _ (List.mem_append_left _ (List.mem_append_right _ h9))) (List.mem_of_getElem? (i := 3) rfl) dX6_hear_67 ?_
          refine lv_iload_n hx hb dX6_hear_70 rfl (lv_at hl 1 rfl) ?_
          refine q_iald C0 hw at_m45 h dX6_hear_71 (fun j8 hj8 h => ?_)
          refine q_callVNv (As := [.int (M7 45 0 j8)]) (nA := 1) C0 hw at_Mod rfl (fun r1 h1 => ctX6_loses hst h1) gX6_hear_X6_loses rfl ⟨rfl, rfl⟩ (by decide +kernel) rfl ⟨(Nat.le_of_ble_eq_true rfl), (Nat.le_of_ble_eq_true rfl)⟩ hl.1 (Nat.le_of_ble_eq_true rfl) ⟨(Nat.le_of_ble_eq_true rfl), (Nat.le_of_ble_eq_true rfl)⟩ rfl h dX6_hear_72 (fun M9 H locs hw h => ?_)
          exact wX6_hear_75 hst C0  M9 a0 a1 _ _ _ hw (lv_sub hl [0, 1, 2] rfl) h
      · refine lv_aload_n hx hb dX6_hear_45 rfl (lv_at hl 0 rfl) ?_
        refine lv_iconst (v := 3) hx hb dX6_hear_46 (by decide) ?_
        refine q_callVNi (As := [.int ((3 : Int32))]) (nA := 1) C0 hw at_Mod rfl (fun r1 h1 => ctX6_fails hst h1) gX6_hear_X6_fails rfl ⟨rfl, rfl⟩ (by decide +kernel) rfl ⟨(Nat.le_of_ble_eq_true rfl), (Nat.le_of_ble_eq_true rfl)⟩ hl.1 (Nat.le_of_ble_eq_true rfl) ⟨(Nat.le_of_ble_eq_true rfl), (Nat.le_of_ble_eq_true rfl)⟩ rfl h dX6_hear_47 (fun M6 z7 H locs hw h => ?_)
        exact q_iretN C0 hw h ⟨(Nat.le_of_ble_eq_true rfl), (Nat.le_of_ble_eq_true rfl)⟩ dX6_hear_50
    · refine lv_aload_n hx hb dX6_hear_29 rfl (lv_at hl 0 rfl) ?_
      refine lv_iconst (v := 2) hx hb dX6_hear_30 (by decide) ?_
      refine q_callVNi (As := [.int ((2 : Int32))]) (nA := 1) C0 hw at_Mod rfl (fun r1 h1 => ctX6_fails hst h1) gX6_hear_X6_fails rfl ⟨rfl, rfl⟩ (by decide +kernel) rfl ⟨(Nat.le_of_ble_eq_true rfl), (Nat.le_of_ble_eq_true rfl)⟩ hl.1 (Nat.le_of_ble_eq_true rfl) ⟨(Nat.le_of_ble_eq_true rfl), (Nat.le_of_ble_eq_true rfl)⟩ rfl h dX6_hear_31 (fun M5 z6 H locs hw h => ?_)
      exact q_iretN C0 hw h ⟨(Nat.le_of_ble_eq_true rfl), (Nat.le_of_ble_eq_true rfl)⟩ dX6_hear_34
  · refine lv_aload_n hx hb dX6_hear_14 rfl (lv_at hl 0 rfl) ?_
    refine lv_iconst (v := 1) hx hb dX6_hear_15 (by decide) ?_
    refine q_callVNi (As := [.int ((1 : Int32))]) (nA := 1) C0 hw at_Mod rfl (fun r1 h1 => ctX6_fails hst h1) gX6_hear_X6_fails rfl ⟨rfl, rfl⟩ (by decide +kernel) rfl ⟨(Nat.le_of_ble_eq_true rfl), (Nat.le_of_ble_eq_true rfl)⟩ hl.1 (Nat.le_of_ble_eq_true rfl) ⟨(Nat.le_of_ble_eq_true rfl), (Nat.le_of_ble_eq_true rfl)⟩ rfl h dX6_hear_16 (fun M3 z4 H locs hw h => ?_)
    exact q_iretN C0 hw h ⟨(Nat.le_of_ble_eq_true rfl), (Nat.le_of_ble_eq_true rfl)⟩ dX6_hear_19
/-! HomewatcherModel.next()I -/
abbrev rmX6_next : Room := { frames := 1, cells := 0, slots := 0, locals := 21 }
def fX6_next_72 (F : Nat) (M : Mem) (s0 : Int32) : Option (Mem × Int32) :=
    some (M, s0)
set_option maxHeartbeats 4000000 in
set_option maxRecDepth 100000 in
theorem wX6_next_72 {p : Program} {l : Launch} {e : Env} {s : State} {m : MethodId} {args : Array Value} {below : List Frame} {meth : Method} {c : Code} {D : va_G} {cy : Nat → ClassId} {ad : Nat → Nat} {x : XX} {F : Nat} {r : Mem × Int32} (hst : l.stackTraces = false) (C0 : MX p l s m args meth c D cy ad cX6_next RX6 3 wsX6_next (some .int)) : ∀ (M : Mem) (s0 : Int32) (H : Heap) (locs : List Loc) (ls : Array Slot), Wd D cy ad x s M H locs → lv_has ls 3 [] → fX6_next_72 F M s0 = some r → W p l e rmX6_next s m args below meth c H locs 0 0 (QN D cy ad below args s x q_vi r 0 0) (F0 m 72 ls [.int s0]) := by
  obtain ⟨hx, hb, hml, hown, hts, -⟩ := id C0
  intro M s0 H locs ls hw hl h
  unfold fX6_next_72 at h
  exact q_iretN C0 hw h ⟨(Nat.le_of_ble_eq_true rfl), (Nat.le_of_ble_eq_true rfl)⟩ dX6_next_72
def fX6_next_47 (F : Nat) (k4 : Mem → Int32 → Int32 → Option (Mem × Int32)) (M : Mem) (s0 : Int32) (v2 : Int32) : Option (Mem × Int32) :=
    q_lt (s0) fun z1 =>
    q_lt (v2 + (1 : Int32)) fun z2 =>
    k4 M z1 z2
set_option maxHeartbeats 4000000 in
set_option maxRecDepth 100000 in
theorem wX6_next_47 {p : Program} {l : Launch} {e : Env} {s : State} {m : MethodId} {args : Array Value} {below : List Frame} {meth : Method} {c : Code} {D : va_G} {cy : Nat → ClassId} {ad : Nat → Nat} {x : XX} {F : Nat} {r : Mem × Int32} (hst : l.stackTraces = false) (C0 : MX p l s m args meth c D cy ad cX6_next RX6 3 wsX6_next (some .int)) {k4 : Mem → Int32 → Int32 → Option (Mem × Int32)} (hk4 : ∀ (M : Mem) (v1 : Int32) (v2 : Int32) (H : Heap) (locs : List Loc) (ls : Array Slot), Wd D cy ad x s M H locs → lv_has ls 3 [(0, .ref (ad 427)), (1, .int v1), (2, .int v2)] → k4 M v1 v2 = some r → W p l e rmX6_next s m args below meth c H locs 0 0 (QN D cy ad below args s x q_vi r 0 0) (F0 m 4 ls [])) : ∀ (M : Mem) (s0 : Int32) (v2 : Int32) (H : Heap) (locs : List Loc) (ls : Array Slot), Wd D cy ad x s M H locs → lv_has ls 3 [(0, .ref (ad 427)), (2, .int v2)] → fX6_next_47 F k4 M s0 v2 = some r → W p l e rmX6_next s m args below meth c H locs 0 0 (QN D cy ad below args s x q_vi r 0 0) (F0 m 47 ls [.int s0]) := by
  obtain ⟨hx, hb, hml, hown, hts, -⟩ := id C0
  intro M s0 v2 H locs ls hw hl h
  unfold fX6_next_47 at h
  refine q_istore_n (lv' := fun z1 => [(1, .int z1), (0, .ref (ad 427)), (2, .int v2)]) hx hb dX6_next_47 rfl hl (by decide) (fun _ => rfl) h (fun z1 ls hl h => ?_)
  refine q_iinc (k := 2) (cst := 1) (lv' := fun z2 => [(2, .int z2), (1, .int z1), (0, .ref (ad 427))]) hx hb dX6_next_48 hl rfl rfl (by decide) (fun _ => rfl) h (fun z2 ls hl h => ?_)
  refine lv_goto (tgt := 4) hx hb dX6_next_51 (by decide) ?_
  exact hk4 M z1 z2 _ _ _ hw (lv_sub hl [2, 1, 0] rfl) h
def fX6_next_46 (F : Nat) (k4 : Mem → Int32 → Int32 → Option (Mem × Int32)) (M : Mem) (v1 : Int32) (v2 : Int32) : Option (Mem × Int32) :=
    fX6_next_47 F k4 M v1 v2
set_option maxHeartbeats 4000000 in
set_option maxRecDepth 100000 in
theorem wX6_next_46 {p : Program} {l : Launch} {e : Env} {s : State} {m : MethodId} {args : Array Value} {below : List Frame} {meth : Method} {c : Code} {D : va_G} {cy : Nat → ClassId} {ad : Nat → Nat} {x : XX} {F : Nat} {r : Mem × Int32} (hst : l.stackTraces = false) (C0 : MX p l s m args meth c D cy ad cX6_next RX6 3 wsX6_next (some .int)) {k4 : Mem → Int32 → Int32 → Option (Mem × Int32)} (hk4 : ∀ (M : Mem) (v1 : Int32) (v2 : Int32) (H : Heap) (locs : List Loc) (ls : Array Slot), Wd D cy ad x s M H locs → lv_has ls 3 [(0, .ref (ad 427)), (1, .int v1), (2, .int v2)] → k4 M v1 v2 = some r → W p l e rmX6_next s m args below meth c H locs 0 0 (QN D cy ad below args s x q_vi r 0 0) (F0 m 4 ls [])) : ∀ (M : Mem) (v1 : Int32) (v2 : Int32) (H : Heap) (locs : List Loc) (ls : Array Slot), Wd D cy ad x s M H locs → lv_has ls 3 [(0, .ref (ad 427)), (1, .int v1), (2, .int v2)] → fX6_next_46 F k4 M v1 v2 = some r → W p l e rmX6_next s m args below meth c H locs 0 0 (QN D cy ad below args s x q_vi r 0 0) (F0 m 46 ls []) := by
  obtain ⟨hx, hb, hml, hown, hts, -⟩ := id C0
  intro M v1 v2 H locs ls hw hl h
  unfold fX6_next_46 at h
  refine lv_iload_n hx hb dX6_next_46 rfl (lv_at hl 1 rfl) ?_
  exact wX6_next_47 hst C0 hk4 M v1 v2 _ _ _ hw (lv_sub hl [0, 2] rfl) h
def fX6_next_42 (F : Nat) (k4 : Mem → Int32 → Int32 → Option (Mem × Int32)) (M : Mem) (v2 : Int32) : Option (Mem × Int32) :=
    fX6_next_47 F k4 M v2 v2
set_option maxHeartbeats 4000000 in
set_option maxRecDepth 100000 in
theorem wX6_next_42 {p : Program} {l : Launch} {e : Env} {s : State} {m : MethodId} {args : Array Value} {below : List Frame} {meth : Method} {c : Code} {D : va_G} {cy : Nat → ClassId} {ad : Nat → Nat} {x : XX} {F : Nat} {r : Mem × Int32} (hst : l.stackTraces = false) (C0 : MX p l s m args meth c D cy ad cX6_next RX6 3 wsX6_next (some .int)) {k4 : Mem → Int32 → Int32 → Option (Mem × Int32)} (hk4 : ∀ (M : Mem) (v1 : Int32) (v2 : Int32) (H : Heap) (locs : List Loc) (ls : Array Slot), Wd D cy ad x s M H locs → lv_has ls 3 [(0, .ref (ad 427)), (1, .int v1), (2, .int v2)] → k4 M v1 v2 = some r → W p l e rmX6_next s m args below meth c H locs 0 0 (QN D cy ad below args s x q_vi r 0 0) (F0 m 4 ls [])) : ∀ (M : Mem) (v2 : Int32) (H : Heap) (locs : List Loc) (ls : Array Slot), Wd D cy ad x s M H locs → lv_has ls 3 [(0, .ref (ad 427)), (2, .int v2)] → fX6_next_42 F k4 M v2 = some r → W p l e rmX6_next s m args below meth c H locs 0 0 (QN D cy ad below args s x q_vi r 0 0) (F0 m 42 ls []) := by
  obtain ⟨hx, hb, hml, hown, hts, -⟩ := id C0
  intro M v2 H locs ls hw hl h
  unfold fX6_next_42 at h
  refine lv_iload_n hx hb dX6_next_42 rfl (lv_at hl 1 rfl) ?_
  refine lv_goto (tgt := 47) hx hb dX6_next_43 (by decide) ?_
  exact wX6_next_47 hst C0 hk4 M v2 v2 _ _ _ hw (lv_sub hl [0, 1] rfl) h
def fX6_next_4 (F : Nat) : Nat → Mem → Int32 → Int32 → Option (Mem × Int32)
  | 0, _, _, _ => none
  | n + 1, M, v1, v2 =>
    if (M 66 0 0) ≤ v2 then
    (if v1 = (-1 : Int32) then
    (q_bn (fX6_fails F M (1 : Int32)) fun M1 z2 =>
    fX6_next_72 F M1 z2)
    else
    (q_bn (fX6_tells F M v1) fun M1 z2 =>
    fX6_next_72 F M1 z2))
    else
    (q_ax v2 40 fun j1 =>
    if (M 48 0 j1) = (-1 : Int32) then
    (if v1 = (-1 : Int32) then
    (fX6_next_42 F (fX6_next_4 F n) M v2)
    else
    (q_ax v2 40 fun j2 =>
    q_ax v1 40 fun j3 =>
    if (M 47 0 j2) ≤ (M 47 0 j3) then
    (fX6_next_46 F (fX6_next_4 F n) M v1 v2)
    else
    (fX6_next_42 F (fX6_next_4 F n) M v2)))
    else
    (fX6_next_46 F (fX6_next_4 F n) M v1 v2))
set_option maxHeartbeats 4000000 in
set_option maxRecDepth 100000 in
theorem wX6_next_4 {p : Program} {l : Launch} {e : Env} {s : State} {m : MethodId} {args : Array Value} {below : List Frame} {meth : Method} {c : Code} {D : va_G} {cy : Nat → ClassId} {ad : Nat → Nat} {x : XX} {F : Nat} {r : Mem × Int32} (hst : l.stackTraces = false) (C0 : MX p l s m args meth c D cy ad cX6_next RX6 3 wsX6_next (some .int)) : ∀ (n : Nat) (M : Mem) (v1 : Int32) (v2 : Int32) (H : Heap) (locs : List Loc) (ls : Array Slot), Wd D cy ad x s M H locs → lv_has ls 3 [(0, .ref (ad 427)), (1, .int v1), (2, .int v2)] → fX6_next_4 F n M v1 v2 = some r → W p l e rmX6_next s m args below meth c H locs 0 0 (QN D cy ad below args s x q_vi r 0 0) (F0 m 4 ls []) := by
  obtain ⟨hx, hb, hml, hown, hts, -⟩ := id C0
  intro n
  induction n with
  | zero =>
    intro M v1 v2 H locs ls hw hl h
    exact q_no h
  | succ n ih =>
    intro M v1 v2 H locs ls hw hl h
    unfold fX6_next_4 at h
    refine lv_iload_n hx hb dX6_next_4 rfl (lv_at hl 2 rfl) ?_
    refine lv_aload_n hx hb dX6_next_5 rfl (lv_at hl 0 rfl) ?_
    refine gf_Mod_hits C0 hw (fun _ h9 => List.mem_cons_of_mem _ (List.mem_append_left _ (List.mem_append_right _ h9))) (List.mem_of_getElem? (i := 1) rfl) dX6_next_6 ?_
    refine q_icmp_ge (tgt := 54) hx hb dX6_next_9 (by decide) h (fun h => ?_) (fun h => ?_)
    · refine lv_iload_n hx hb dX6_next_54 rfl (lv_at hl 1 rfl) ?_
      refine lv_iconst (v := -1) hx hb dX6_next_55 (by decide) ?_
      refine q_icmp_ne (tgt := 67) hx hb dX6_next_56 (by decide) h (fun h => ?_) (fun h => ?_)
      · refine lv_aload_n hx hb dX6_next_67 rfl (lv_at hl 0 rfl) ?_
        refine lv_iload_n hx hb dX6_next_68 rfl (lv_at hl 1 rfl) ?_
        refine q_callVNi (As := [.int v1]) (nA := 1) C0 hw at_Mod rfl (fun r1 h1 => ctX6_tells hst h1) gX6_next_X6_tells rfl ⟨rfl, rfl⟩ (by decide +kernel) rfl ⟨(Nat.le_of_ble_eq_true rfl), (Nat.le_of_ble_eq_true rfl)⟩ hl.1 (Nat.le_of_ble_eq_true rfl) ⟨(Nat.le_of_ble_eq_true rfl), (Nat.le_of_ble_eq_true rfl)⟩ rfl h dX6_next_69 (fun M1 z2 H locs hw h => ?_)
        exact wX6_next_72 hst C0  M1 z2 _ _ _ hw (lv_sub hl [] rfl) h
      · refine lv_aload_n hx hb dX6_next_59 rfl (lv_at hl 0 rfl) ?_
        refine lv_iconst (v := 1) hx hb dX6_next_60 (by decide) ?_
        refine q_callVNi (As := [.int ((1 : Int32))]) (nA := 1) C0 hw at_Mod rfl (fun r1 h1 => ctX6_fails hst h1) gX6_next_X6_fails rfl ⟨rfl, rfl⟩ (by decide +kernel) rfl ⟨(Nat.le_of_ble_eq_true rfl), (Nat.le_of_ble_eq_true rfl)⟩ hl.1 (Nat.le_of_ble_eq_true rfl) ⟨(Nat.le_of_ble_eq_true rfl), (Nat.le_of_ble_eq_true rfl)⟩ rfl h dX6_next_61 (fun M1 z2 H locs hw h => ?_)
        refine lv_goto (tgt := 72) hx hb dX6_next_64 (by decide) ?_
        exact wX6_next_72 hst C0  M1 z2 _ _ _ hw (lv_sub hl [] rfl) h
    · refine lv_aload_n hx hb dX6_next_12 rfl (lv_at hl 0 rfl) ?_
      refine gf_Mod_hitHeard C0 hw (fun _ h9 => List.mem_cons_of_mem _ (List.mem_append_left _ (List.mem_append_right _ h9))) (List.mem_of_getElem? (i := 2) rfl) dX6_next_13 ?_
      refine lv_iload_n hx hb dX6_next_16 rfl (lv_at hl 2 rfl) ?_
      refine q_iald C0 hw at_m48 h dX6_next_17 (fun j1 hj1 h => ?_)
      refine lv_iconst (v := -1) hx hb dX6_next_18 (by decide) ?_
      refine q_icmp_ne (tgt := 46) hx hb dX6_next_19 (by decide) h (fun h => ?_) (fun h => ?_)
      · exact wX6_next_46 hst C0 ih M v1 v2 _ _ _ hw (lv_sub hl [0, 1, 2] rfl) h
      · refine lv_iload_n hx hb dX6_next_22 rfl (lv_at hl 1 rfl) ?_
        refine lv_iconst (v := -1) hx hb dX6_next_23 (by decide) ?_
        refine q_icmp_eq (tgt := 42) hx hb dX6_next_24 (by decide) h (fun h => ?_) (fun h => ?_)
        · exact wX6_next_42 hst C0 ih M v2 _ _ _ hw (lv_sub hl [0, 2] rfl) h
        · refine lv_aload_n hx hb dX6_next_27 rfl (lv_at hl 0 rfl) ?_
          refine gf_Mod_hitCommon C0 hw (fun _ h9 => List.mem_cons_of_mem _ (List.mem_append_left _ (List.mem_append_right _ h9))) (List.mem_of_getElem? (i := 3) rfl) dX6_next_28 ?_
          refine lv_iload_n hx hb dX6_next_31 rfl (lv_at hl 2 rfl) ?_
          refine q_iald C0 hw at_m47 h dX6_next_32 (fun j2 hj2 h => ?_)
          refine lv_aload_n hx hb dX6_next_33 rfl (lv_at hl 0 rfl) ?_
          refine gf_Mod_hitCommon C0 hw (fun _ h9 => List.mem_cons_of_mem _ (List.mem_append_left _ (List.mem_append_right _ h9))) (List.mem_of_getElem? (i := 3) rfl) dX6_next_34 ?_
          refine lv_iload_n hx hb dX6_next_37 rfl (lv_at hl 1 rfl) ?_
          refine q_iald C0 hw at_m47 h dX6_next_38 (fun j3 hj3 h => ?_)
          refine q_icmp_le (tgt := 46) hx hb dX6_next_39 (by decide) h (fun h => ?_) (fun h => ?_)
          · exact wX6_next_46 hst C0 ih M v1 v2 _ _ _ hw (lv_sub hl [0, 1, 2] rfl) h
          · exact wX6_next_42 hst C0 ih M v2 _ _ _ hw (lv_sub hl [0, 2] rfl) h
def fX6_next (F : Nat) (M : Mem) : Option (Mem × Int32) :=
    q_lt ((-1 : Int32)) fun z1 =>
    q_lt ((0 : Int32)) fun z2 =>
    fX6_next_4 F F M z1 z2
set_option maxHeartbeats 4000000 in
set_option maxRecDepth 100000 in
theorem ctX6_next {l : Launch} (hst : l.stackTraces = false) {D : va_G} {cy : Nat → ClassId} {ad : Nat → Nat} {x : XX} {F : Nat} {M : Mem} {r : Mem × Int32} (h : fX6_next F M = some r) : CN l yX6_next wsX6_next rmX6_next D cy ad [.ref (ad 427)] x M x r.1 (q_vi r.2) 0 0 := by
  refine q_startN (cc := cX6_next) (maxL := 3) (ret := (some .int)) (by decide) rfl (Nat.le_of_ble_eq_true rfl) ?_
  intro p e s m args below meth c ls C0 hw hl hnm
  obtain ⟨hx, hb, hml, hown, hts, -⟩ := id C0
  have C0 : MX p l s m args meth c D cy ad cX6_next RX6 3 wsX6_next ((some .int)) := C0
  have hown : s.vm.findClass RX6 = some m.cls := hown
  have hl : lv_has ls 3 [(0, .ref (ad 427))] := hl
  show W p l e rmX6_next s m args below meth c s.heap [] 0 0 (QN D cy ad below args s x q_vi r 0 0) (F0 m 0 ls [])
  unfold fX6_next at h
  refine lv_iconst (v := -1) hx hb dX6_next_0 (by decide) ?_
  refine q_istore_n (lv' := fun z1 => [(1, .int z1), (0, .ref (ad 427))]) hx hb dX6_next_1 rfl hl (by decide) (fun _ => rfl) h (fun z1 ls hl h => ?_)
  refine lv_iconst (v := 0) hx hb dX6_next_2 (by decide) ?_
  refine q_istore_n (lv' := fun z2 => [(2, .int z2), (1, .int z1), (0, .ref (ad 427))]) hx hb dX6_next_3 rfl hl (by decide) (fun _ => rfl) h (fun z2 ls hl h => ?_)
  exact wX6_next_4 hst C0  F M z1 z2 _ _ _ hw (lv_sub hl [2, 1, 0] rfl) h
/-! HomewatcherModel.byteSumOf(I)B -/
abbrev rmX6_byteSumOf : Room := { frames := 1, cells := 0, slots := 0, locals := 22 }
def fX6_byteSumOf_30 (F : Nat) (k4 : Mem → Int32 → Int32 → Int32 → Option (Mem × Int32)) : Nat → Mem → Int32 → Int32 → Int32 → Int32 → Int32 → Option (Mem × Int32)
  | 0, _, _, _, _, _, _ => none
  | n + 1, M, v1, v2, v3, v4, v5 =>
    q_bn (fX6_charsOf F M v4) fun M1 z2 =>
    if z2 ≤ v5 then
    (q_lt (v3 + (1 : Int32)) fun z3 =>
    k4 M1 v1 v2 z3)
    else
    (q_bn (fX6_charOf F M1 v4 v5) fun M3 z4 =>
    q_lt ((v2 + z4).toInt8.toInt32) fun z5 =>
    q_lt (v5 + (1 : Int32)) fun z6 =>
    fX6_byteSumOf_30 F k4 n M3 v1 z5 v3 v4 z6)
set_option maxHeartbeats 4000000 in
set_option maxRecDepth 100000 in
theorem wX6_byteSumOf_30 {p : Program} {l : Launch} {e : Env} {s : State} {m : MethodId} {args : Array Value} {below : List Frame} {meth : Method} {c : Code} {D : va_G} {cy : Nat → ClassId} {ad : Nat → Nat} {x : XX} {F : Nat} {r : Mem × Int32} (hst : l.stackTraces = false) (C0 : MX p l s m args meth c D cy ad cX6_byteSumOf RX6 6 wsX6_byteSumOf (some .byte)) {k4 : Mem → Int32 → Int32 → Int32 → Option (Mem × Int32)} (hk4 : ∀ (M : Mem) (v1 : Int32) (v2 : Int32) (v3 : Int32) (H : Heap) (locs : List Loc) (ls : Array Slot), Wd D cy ad x s M H locs → lv_has ls 6 [(0, .ref (ad 427)), (1, .int v1), (2, .int v2), (3, .int v3)] → k4 M v1 v2 v3 = some r → W p l e rmX6_byteSumOf s m args below meth c H locs 0 0 (QN D cy ad below args s x q_vi r 0 0) (F0 m 4 ls [])) : ∀ (n : Nat) (M : Mem) (v1 : Int32) (v2 : Int32) (v3 : Int32) (v4 : Int32) (v5 : Int32) (H : Heap) (locs : List Loc) (ls : Array Slot), Wd D cy ad x s M H locs → lv_has ls 6 [(0, .ref (ad 427)), (1, .int v1), (2, .int v2), (3, .int v3), (4, .int v4), (5, .int v5)] → fX6_byteSumOf_30 F k4 n M v1 v2 v3 v4 v5 = some r → W p l e rmX6_byteSumOf s m args below meth c H locs 0 0 (QN D cy ad below args s x q_vi r 0 0) (F0 m 30 ls []) := by
  obtain ⟨hx, hb, hml, hown, hts, -⟩ := id C0
  intro n
  induction n with
  | zero =>
    intro M v1 v2 v3 v4 v5 H locs ls hw hl h
    exact q_no h
  | succ n ih =>
    intro M v1 v2 v3 v4 v5 H locs ls hw hl h
    unfold fX6_byteSumOf_30 at h
    refine lv_iload hx hb dX6_byteSumOf_30 (lv_at hl 5 rfl) ?_
    refine lv_iload hx hb dX6_byteSumOf_32 (lv_at hl 4 rfl) ?_
    refine q_callSNi (As := [.int v4]) (nA := 1) C0 hw (fun r1 h1 => ctX6_charsOf hst h1) gX6_byteSumOf_X6_charsOf rfl ⟨rfl, rfl⟩ (by decide +kernel) rfl ⟨(Nat.le_of_ble_eq_true rfl), (Nat.le_of_ble_eq_true rfl)⟩ hl.1 (Nat.le_of_ble_eq_true rfl) ⟨(Nat.le_of_ble_eq_true rfl), (Nat.le_of_ble_eq_true rfl)⟩ rfl h dX6_byteSumOf_34 (fun M1 z2 H locs hw h => ?_)
    refine q_icmp_ge (tgt := 57) hx hb dX6_byteSumOf_37 (by decide) h (fun h => ?_) (fun h => ?_)
    · refine q_iinc (k := 3) (cst := 1) (lv' := fun z3 => [(3, .int z3), (0, .ref (ad 427)), (1, .int v1), (2, .int v2), (4, .int v4), (5, .int v5)]) hx hb dX6_byteSumOf_57 hl rfl rfl (by decide) (fun _ => rfl) h (fun z3 ls hl h => ?_)
      refine lv_goto (tgt := 4) hx hb dX6_byteSumOf_60 (by decide) ?_
      exact hk4 M1 v1 v2 z3 _ _ _ hw (lv_sub hl [1, 2, 3, 0] rfl) h
    · refine lv_iload_n hx hb dX6_byteSumOf_40 rfl (lv_at hl 2 rfl) ?_
      refine lv_iload hx hb dX6_byteSumOf_41 (lv_at hl 4 rfl) ?_
      refine lv_iload hx hb dX6_byteSumOf_43 (lv_at hl 5 rfl) ?_
      refine q_callSNi (As := [.int v4, .int v5]) (nA := 2) C0 hw (fun r1 h1 => ctX6_charOf hst h1) gX6_byteSumOf_X6_charOf rfl ⟨rfl, rfl⟩ (by decide +kernel) rfl ⟨(Nat.le_of_ble_eq_true rfl), (Nat.le_of_ble_eq_true rfl)⟩ hl.1 (Nat.le_of_ble_eq_true rfl) ⟨(Nat.le_of_ble_eq_true rfl), (Nat.le_of_ble_eq_true rfl)⟩ rfl h dX6_byteSumOf_45 (fun M3 z4 H locs hw h => ?_)
      refine lv_iadd hx hb dX6_byteSumOf_48 ?_
      refine lv_i2b hx hb dX6_byteSumOf_49 rfl ?_
      refine q_istore_n (lv' := fun z5 => [(2, .int z5), (0, .ref (ad 427)), (1, .int v1), (3, .int v3), (4, .int v4), (5, .int v5)]) hx hb dX6_byteSumOf_50 rfl hl (by decide) (fun _ => rfl) h (fun z5 ls hl h => ?_)
      refine q_iinc (k := 5) (cst := 1) (lv' := fun z6 => [(5, .int z6), (2, .int z5), (0, .ref (ad 427)), (1, .int v1), (3, .int v3), (4, .int v4)]) hx hb dX6_byteSumOf_51 hl rfl rfl (by decide) (fun _ => rfl) h (fun z6 ls hl h => ?_)
      refine lv_goto (tgt := 30) hx hb dX6_byteSumOf_54 (by decide) ?_
      exact ih M3 v1 z5 v3 v4 z6 _ _ _ hw (lv_sub hl [2, 3, 1, 4, 5, 0] rfl) h
def fX6_byteSumOf_4 (F : Nat) : Nat → Mem → Int32 → Int32 → Int32 → Option (Mem × Int32)
  | 0, _, _, _, _ => none
  | n + 1, M, v1, v2, v3 =>
    q_ax v1 60 fun j1 =>
    if (M 37 0 j1) ≤ v3 then
    (q_gd (q_isB v2) (
    some (M, v2)))
    else
    (q_ax (((40 : Int32) * v1) + v3) 2400 fun j2 =>
    q_lt (M 42 0 j2) fun z3 =>
    q_lt ((0 : Int32)) fun z4 =>
    fX6_byteSumOf_30 F (fX6_byteSumOf_4 F n) F M v1 v2 v3 z3 z4)
set_option maxHeartbeats 4000000 in
set_option maxRecDepth 100000 in
theorem wX6_byteSumOf_4 {p : Program} {l : Launch} {e : Env} {s : State} {m : MethodId} {args : Array Value} {below : List Frame} {meth : Method} {c : Code} {D : va_G} {cy : Nat → ClassId} {ad : Nat → Nat} {x : XX} {F : Nat} {r : Mem × Int32} (hst : l.stackTraces = false) (C0 : MX p l s m args meth c D cy ad cX6_byteSumOf RX6 6 wsX6_byteSumOf (some .byte)) : ∀ (n : Nat) (M : Mem) (v1 : Int32) (v2 : Int32) (v3 : Int32) (H : Heap) (locs : List Loc) (ls : Array Slot), Wd D cy ad x s M H locs → lv_has ls 6 [(0, .ref (ad 427)), (1, .int v1), (2, .int v2), (3, .int v3)] → fX6_byteSumOf_4 F n M v1 v2 v3 = some r → W p l e rmX6_byteSumOf s m args below meth c H locs 0 0 (QN D cy ad below args s x q_vi r 0 0) (F0 m 4 ls []) := by
  obtain ⟨hx, hb, hml, hown, hts, -⟩ := id C0
  intro n
  induction n with
  | zero =>
    intro M v1 v2 v3 H locs ls hw hl h
    exact q_no h
  | succ n ih =>
    intro M v1 v2 v3 H locs ls hw hl h
    unfold fX6_byteSumOf_4 at h
    refine lv_iload_n hx hb dX6_byteSumOf_4 rfl (lv_at hl 3 rfl) ?_
    refine lv_aload_n hx hb dX6_byteSumOf_5 rfl (lv_at hl 0 rfl) ?_
    refine gf_Mod_sizes C0 hw (fun _ h9 => List.mem_cons_of_mem _ (List.mem_append_left _ (List.mem_append_right _ h9))) (List.mem_of_getElem? (i := 1) rfl) dX6_byteSumOf_6 ?_
    refine lv_iload_n hx hb dX6_byteSumOf_9 rfl (lv_at hl 1 rfl) ?_
    refine q_iald C0 hw at_m37 h dX6_byteSumOf_10 (fun j1 hj1 h => ?_)
    refine q_icmp_ge (tgt := 63) hx hb dX6_byteSumOf_11 (by decide) h (fun h => ?_) (fun h => ?_)
    · refine lv_iload_n hx hb dX6_byteSumOf_63 rfl (lv_at hl 2 rfl) ?_
      refine q_guard h (fun g h => ?_)
      exact q_zretN C0 hw (q_isB_in g) h ⟨(Nat.le_of_ble_eq_true rfl), (Nat.le_of_ble_eq_true rfl)⟩ dX6_byteSumOf_64
    · refine lv_aload_n hx hb dX6_byteSumOf_14 rfl (lv_at hl 0 rfl) ?_
      refine gf_Mod_texts C0 hw (fun _ h9 => List.mem_cons_of_mem _ (List.mem_append_left _ (List.mem_append_right _ h9))) (List.mem_of_getElem? (i := 2) rfl) dX6_byteSumOf_15 ?_
      refine lv_bipush (v := 40) hx hb dX6_byteSumOf_18 (by decide) ?_
      refine lv_iload_n hx hb dX6_byteSumOf_20 rfl (lv_at hl 1 rfl) ?_
      refine lv_imul hx hb dX6_byteSumOf_21 ?_
      refine lv_iload_n hx hb dX6_byteSumOf_22 rfl (lv_at hl 3 rfl) ?_
      refine lv_iadd hx hb dX6_byteSumOf_23 ?_
      refine q_iald C0 hw at_m42 h dX6_byteSumOf_24 (fun j2 hj2 h => ?_)
      refine q_istore (lv' := fun z3 => [(4, .int z3), (0, .ref (ad 427)), (1, .int v1), (2, .int v2), (3, .int v3)]) hx hb dX6_byteSumOf_25 hl (by decide) (fun _ => rfl) h (fun z3 ls hl h => ?_)
      refine lv_iconst (v := 0) hx hb dX6_byteSumOf_27 (by decide) ?_
      refine q_istore (lv' := fun z4 => [(5, .int z4), (4, .int z3), (0, .ref (ad 427)), (1, .int v1), (2, .int v2), (3, .int v3)]) hx hb dX6_byteSumOf_28 hl (by decide) (fun _ => rfl) h (fun z4 ls hl h => ?_)
      exact wX6_byteSumOf_30 hst C0 ih F M v1 v2 v3 z3 z4 _ _ _ hw (lv_sub hl [2, 3, 4, 5, 1, 0] rfl) h
def fX6_byteSumOf (F : Nat) (M : Mem) (a0 : Int32) : Option (Mem × Int32) :=
    q_lt ((0 : Int32)) fun z1 =>
    q_lt ((0 : Int32)) fun z2 =>
    fX6_byteSumOf_4 F F M a0 z1 z2
set_option maxHeartbeats 4000000 in
set_option maxRecDepth 100000 in
theorem ctX6_byteSumOf {l : Launch} (hst : l.stackTraces = false) {D : va_G} {cy : Nat → ClassId} {ad : Nat → Nat} {x : XX} {F : Nat} {M : Mem} {a0 : Int32} {r : Mem × Int32} (h : fX6_byteSumOf F M a0 = some r) : CN l yX6_byteSumOf wsX6_byteSumOf rmX6_byteSumOf D cy ad [.ref (ad 427), .int a0] x M x r.1 (q_vi r.2) 0 0 := by
  refine q_startN (cc := cX6_byteSumOf) (maxL := 6) (ret := (some .byte)) (by decide) rfl (Nat.le_of_ble_eq_true rfl) ?_
  intro p e s m args below meth c ls C0 hw hl hnm
  obtain ⟨hx, hb, hml, hown, hts, -⟩ := id C0
  have C0 : MX p l s m args meth c D cy ad cX6_byteSumOf RX6 6 wsX6_byteSumOf ((some .byte)) := C0
  have hown : s.vm.findClass RX6 = some m.cls := hown
  have hl : lv_has ls 6 [(0, .ref (ad 427)), (1, .int a0)] := hl
  show W p l e rmX6_byteSumOf s m args below meth c s.heap [] 0 0 (QN D cy ad below args s x q_vi r 0 0) (F0 m 0 ls [])
  unfold fX6_byteSumOf at h
  refine lv_iconst (v := 0) hx hb dX6_byteSumOf_0 (by decide) ?_
  refine q_istore_n (lv' := fun z1 => [(2, .int z1), (0, .ref (ad 427)), (1, .int a0)]) hx hb dX6_byteSumOf_1 rfl hl (by decide) (fun _ => rfl) h (fun z1 ls hl h => ?_)
  refine lv_iconst (v := 0) hx hb dX6_byteSumOf_2 (by decide) ?_
  refine q_istore_n (lv' := fun z2 => [(3, .int z2), (2, .int z1), (0, .ref (ad 427)), (1, .int a0)]) hx hb dX6_byteSumOf_3 rfl hl (by decide) (fun _ => rfl) h (fun z2 ls hl h => ?_)
  exact wX6_byteSumOf_4 hst C0  F M a0 z1 z2 _ _ _ hw (lv_sub hl [2, 3, 1, 0] rfl) h
/-! HomewatcherModel.byteSum(I)B -/
abbrev rmX6_byteSum : Room := { frames := 2, cells := 0, slots := 0, locals := 47 }
def fX6_byteSum_33 (F : Nat) (M : Mem) (s0 : Int32) : Option (Mem × Int32) :=
    q_gd (q_isB s0) (
    some (M, s0))
set_option maxHeartbeats 4000000 in
set_option maxRecDepth 100000 in
theorem wX6_byteSum_33 {p : Program} {l : Launch} {e : Env} {s : State} {m : MethodId} {args : Array Value} {below : List Frame} {meth : Method} {c : Code} {D : va_G} {cy : Nat → ClassId} {ad : Nat → Nat} {x : XX} {F : Nat} {r : Mem × Int32} (hst : l.stackTraces = false) (C0 : MX p l s m args meth c D cy ad cX6_byteSum RX6 2 wsX6_byteSum (some .byte)) : ∀ (M : Mem) (s0 : Int32) (H : Heap) (locs : List Loc) (ls : Array Slot), Wd D cy ad x s M H locs → lv_has ls 2 [] → fX6_byteSum_33 F M s0 = some r → W p l e rmX6_byteSum s m args below meth c H locs 0 0 (QN D cy ad below args s x q_vi r 0 0) (F0 m 33 ls [.int s0]) := by
  obtain ⟨hx, hb, hml, hown, hts, -⟩ := id C0
  intro M s0 H locs ls hw hl h
  unfold fX6_byteSum_33 at h
  refine q_guard h (fun g h => ?_)
  exact q_zretN C0 hw (q_isB_in g) h ⟨(Nat.le_of_ble_eq_true rfl), (Nat.le_of_ble_eq_true rfl)⟩ dX6_byteSum_33
def fX6_byteSum_14 (F : Nat) (M : Mem) (s0 : Int32) (v1 : Int32) : Option (Mem × Int32) :=
    q_lt (up M 69 0 0 s0) fun M1 =>
    if (M1 69 0 0) ≤ (0 : Int32) then
    (q_bn (fX6_byteSumOf F M1 v1) fun M2 z3 =>
    fX6_byteSum_33 F M2 z3)
    else
    (fX6_byteSum_33 F M1 (0 : Int32))
set_option maxHeartbeats 4000000 in
set_option maxRecDepth 100000 in
theorem wX6_byteSum_14 {p : Program} {l : Launch} {e : Env} {s : State} {m : MethodId} {args : Array Value} {below : List Frame} {meth : Method} {c : Code} {D : va_G} {cy : Nat → ClassId} {ad : Nat → Nat} {x : XX} {F : Nat} {r : Mem × Int32} (hst : l.stackTraces = false) (C0 : MX p l s m args meth c D cy ad cX6_byteSum RX6 2 wsX6_byteSum (some .byte)) : ∀ (M : Mem) (s0 : Int32) (v1 : Int32) (H : Heap) (locs : List Loc) (ls : Array Slot), Wd D cy ad x s M H locs → lv_has ls 2 [(0, .ref (ad 427)), (1, .int v1)] → fX6_byteSum_14 F M s0 v1 = some r → W p l e rmX6_byteSum s m args below meth c H locs 0 0 (QN D cy ad below args s x q_vi r 0 0) (F0 m 14 ls [.int s0, .ref (ad 427)]) := by
  obtain ⟨hx, hb, hml, hown, hts, -⟩ := id C0
  intro M s0 v1 H locs ls hw hl h
  unfold fX6_byteSum_14 at h
  refine pf_Mod_thrown C0 hw (fun _ h9 => List.mem_cons_of_mem _ (List.mem_append_left _ (List.mem_append_right _ h9))) (List.mem_of_getElem? (i := 1) rfl) dX6_byteSum_14 h (fun M1 H locs hw h => ?_)
  refine lv_aload_n hx hb dX6_byteSum_17 rfl (lv_at hl 0 rfl) ?_
  refine gf_Mod_thrown C0 hw (fun _ h9 => List.mem_cons_of_mem _ (List.mem_append_left _ (List.mem_append_right _ h9))) (List.mem_of_getElem? (i := 1) rfl) dX6_byteSum_18 ?_
  refine q_if_le (tgt := 28) hx hb dX6_byteSum_21 (by decide) h (fun h => ?_) (fun h => ?_)
  · refine lv_aload_n hx hb dX6_byteSum_28 rfl (lv_at hl 0 rfl) ?_
    refine lv_iload_n hx hb dX6_byteSum_29 rfl (lv_at hl 1 rfl) ?_
    refine q_callVNi (As := [.int v1]) (nA := 1) C0 hw at_Mod rfl (fun r1 h1 => ctX6_byteSumOf hst h1) gX6_byteSum_X6_byteSumOf rfl ⟨rfl, rfl⟩ (by decide +kernel) rfl ⟨(Nat.le_of_ble_eq_true rfl), (Nat.le_of_ble_eq_true rfl)⟩ hl.1 (Nat.le_of_ble_eq_true rfl) ⟨(Nat.le_of_ble_eq_true rfl), (Nat.le_of_ble_eq_true rfl)⟩ rfl h dX6_byteSum_30 (fun M2 z3 H locs hw h => ?_)
    exact wX6_byteSum_33 hst C0  M2 z3 _ _ _ hw (lv_sub hl [] rfl) h
  · refine lv_iconst (v := 0) hx hb dX6_byteSum_24 (by decide) ?_
    refine lv_goto (tgt := 33) hx hb dX6_byteSum_25 (by decide) ?_
    exact wX6_byteSum_33 hst C0  M1 (0 : Int32) _ _ _ hw (lv_sub hl [] rfl) h
def fX6_byteSum (F : Nat) (M : Mem) (a0 : Int32) : Option (Mem × Int32) :=
    q_bn (fX6_isVersion F M a0) fun M1 z2 =>
    if z2 = (0 : Int32) then
    (fX6_byteSum_14 F M1 (1 : Int32) a0)
    else
    (fX6_byteSum_14 F M1 (0 : Int32) a0)
set_option maxHeartbeats 4000000 in
set_option maxRecDepth 100000 in
theorem ctX6_byteSum {l : Launch} (hst : l.stackTraces = false) {D : va_G} {cy : Nat → ClassId} {ad : Nat → Nat} {x : XX} {F : Nat} {M : Mem} {a0 : Int32} {r : Mem × Int32} (h : fX6_byteSum F M a0 = some r) : CN l yX6_byteSum wsX6_byteSum rmX6_byteSum D cy ad [.ref (ad 427), .int a0] x M x r.1 (q_vi r.2) 0 0 := by
  refine q_startN (cc := cX6_byteSum) (maxL := 2) (ret := (some .byte)) (by decide) rfl (Nat.le_of_ble_eq_true rfl) ?_
  intro p e s m args below meth c ls C0 hw hl hnm
  obtain ⟨hx, hb, hml, hown, hts, -⟩ := id C0
  have C0 : MX p l s m args meth c D cy ad cX6_byteSum RX6 2 wsX6_byteSum ((some .byte)) := C0
  have hown : s.vm.findClass RX6 = some m.cls := hown
  have hl : lv_has ls 2 [(0, .ref (ad 427)), (1, .int a0)] := hl
  show W p l e rmX6_byteSum s m args below meth c s.heap [] 0 0 (QN D cy ad below args s x q_vi r 0 0) (F0 m 0 ls [])
  unfold fX6_byteSum at h
  refine lv_aload_n hx hb dX6_byteSum_0 rfl (lv_at hl 0 rfl) ?_
  refine lv_aload_n hx hb dX6_byteSum_1 rfl (lv_at hl 0 rfl) ?_
  refine lv_iload_n hx hb dX6_byteSum_2 rfl (lv_at hl 1 rfl) ?_
  refine q_callVNi (As := [.int a0]) (nA := 1) C0 hw at_Mod rfl (fun r1 h1 => ctX6_isVersion hst h1) gX6_byteSum_X6_isVersion rfl ⟨rfl, rfl⟩ (by decide +kernel) rfl ⟨(Nat.le_of_ble_eq_true rfl), (Nat.le_of_ble_eq_true rfl)⟩ hl.1 (Nat.le_of_ble_eq_true rfl) ⟨(Nat.le_of_ble_eq_true rfl), (Nat.le_of_ble_eq_true rfl)⟩ rfl h dX6_byteSum_3 (fun M1 z2 H locs hw h => ?_)
  refine q_if_eq (tgt := 13) hx hb dX6_byteSum_6 (by decide) h (fun h => ?_) (fun h => ?_)
  · refine lv_iconst (v := 1) hx hb dX6_byteSum_13 (by decide) ?_
    exact wX6_byteSum_14 hst C0  M1 (1 : Int32) a0 _ _ _ hw (lv_sub hl [0, 1] rfl) h
  · refine lv_iconst (v := 0) hx hb dX6_byteSum_9 (by decide) ?_
    refine lv_goto (tgt := 14) hx hb dX6_byteSum_10 (by decide) ?_
    exact wX6_byteSum_14 hst C0  M1 (0 : Int32) a0 _ _ _ hw (lv_sub hl [0, 1] rfl) h
/-! HomewatcherModel.shortSum(I)S -/
abbrev rmX6_shortSum : Room := { frames := 2, cells := 0, slots := 0, locals := 43 }
def fX6_shortSum_90 (F : Nat) (M : Mem) (v2 : Int32) : Option (Mem × Int32) :=
    q_gd (q_isS v2) (
    some (M, v2))
set_option maxHeartbeats 4000000 in
set_option maxRecDepth 100000 in
theorem wX6_shortSum_90 {p : Program} {l : Launch} {e : Env} {s : State} {m : MethodId} {args : Array Value} {below : List Frame} {meth : Method} {c : Code} {D : va_G} {cy : Nat → ClassId} {ad : Nat → Nat} {x : XX} {F : Nat} {r : Mem × Int32} (hst : l.stackTraces = false) (C0 : MX p l s m args meth c D cy ad cX6_shortSum RX6 6 wsX6_shortSum (some .short)) : ∀ (M : Mem) (v2 : Int32) (H : Heap) (locs : List Loc) (ls : Array Slot), Wd D cy ad x s M H locs → lv_has ls 6 [(2, .int v2)] → fX6_shortSum_90 F M v2 = some r → W p l e rmX6_shortSum s m args below meth c H locs 0 0 (QN D cy ad below args s x q_vi r 0 0) (F0 m 90 ls []) := by
  obtain ⟨hx, hb, hml, hown, hts, -⟩ := id C0
  intro M v2 H locs ls hw hl h
  unfold fX6_shortSum_90 at h
  refine lv_iload_n hx hb dX6_shortSum_90 rfl (lv_at hl 0 rfl) ?_
  refine q_guard h (fun g h => ?_)
  exact q_zretN C0 hw (q_isS_in g) h ⟨(Nat.le_of_ble_eq_true rfl), (Nat.le_of_ble_eq_true rfl)⟩ dX6_shortSum_91
def fX6_shortSum_54 (F : Nat) (k21 : Mem → Int32 → Int32 → Int32 → Option (Mem × Int32)) : Nat → Mem → Int32 → Int32 → Int32 → Int32 → Int32 → Option (Mem × Int32)
  | 0, _, _, _, _, _, _ => none
  | n + 1, M, v1, v2, v3, v4, v5 =>
    q_bn (fX6_charsOf F M v4) fun M1 z2 =>
    if z2 ≤ v5 then
    (q_lt (v3 + (1 : Int32)) fun z3 =>
    k21 M1 v1 v2 z3)
    else
    (q_bn (fX6_charOf F M1 v4 v5) fun M3 z4 =>
    q_lt ((((31 : Int32) * v2) + z4).toInt16.toInt32) fun z5 =>
    q_lt (v5 + (1 : Int32)) fun z6 =>
    fX6_shortSum_54 F k21 n M3 v1 z5 v3 v4 z6)
set_option maxHeartbeats 4000000 in
set_option maxRecDepth 100000 in
theorem wX6_shortSum_54 {p : Program} {l : Launch} {e : Env} {s : State} {m : MethodId} {args : Array Value} {below : List Frame} {meth : Method} {c : Code} {D : va_G} {cy : Nat → ClassId} {ad : Nat → Nat} {x : XX} {F : Nat} {r : Mem × Int32} (hst : l.stackTraces = false) (C0 : MX p l s m args meth c D cy ad cX6_shortSum RX6 6 wsX6_shortSum (some .short)) {k21 : Mem → Int32 → Int32 → Int32 → Option (Mem × Int32)} (hk21 : ∀ (M : Mem) (v1 : Int32) (v2 : Int32) (v3 : Int32) (H : Heap) (locs : List Loc) (ls : Array Slot), Wd D cy ad x s M H locs → lv_has ls 6 [(0, .ref (ad 427)), (1, .int v1), (2, .int v2), (3, .int v3)] → k21 M v1 v2 v3 = some r → W p l e rmX6_shortSum s m args below meth c H locs 0 0 (QN D cy ad below args s x q_vi r 0 0) (F0 m 21 ls [])) : ∀ (n : Nat) (M : Mem) (v1 : Int32) (v2 : Int32) (v3 : Int32) (v4 : Int32) (v5 : Int32) (H : Heap) (locs : List Loc) (ls : Array Slot), Wd D cy ad x s M H locs → lv_has ls 6 [(0, .ref (ad 427)), (1, .int v1), (2, .int v2), (3, .int v3), (4, .int v4), (5, .int v5)] → fX6_shortSum_54 F k21 n M v1 v2 v3 v4 v5 = some r → W p l e rmX6_shortSum s m args below meth c H locs 0 0 (QN D cy ad below args s x q_vi r 0 0) (F0 m 54 ls []) := by
  obtain ⟨hx, hb, hml, hown, hts, -⟩ := id C0
  intro n
  induction n with
  | zero =>
    intro M v1 v2 v3 v4 v5 H locs ls hw hl h
    exact q_no h
  | succ n ih =>
    intro M v1 v2 v3 v4 v5 H locs ls hw hl h
    unfold fX6_shortSum_54 at h
    refine lv_iload hx hb dX6_shortSum_54 (lv_at hl 5 rfl) ?_
    refine lv_iload hx hb dX6_shortSum_56 (lv_at hl 4 rfl) ?_
    refine q_callSNi (As := [.int v4]) (nA := 1) C0 hw (fun r1 h1 => ctX6_charsOf hst h1) gX6_shortSum_X6_charsOf rfl ⟨rfl, rfl⟩ (by decide +kernel) rfl ⟨(Nat.le_of_ble_eq_true rfl), (Nat.le_of_ble_eq_true rfl)⟩ hl.1 (Nat.le_of_ble_eq_true rfl) ⟨(Nat.le_of_ble_eq_true rfl), (Nat.le_of_ble_eq_true rfl)⟩ rfl h dX6_shortSum_58 (fun M1 z2 H locs hw h => ?_)
    refine q_icmp_ge (tgt := 84) hx hb dX6_shortSum_61 (by decide) h (fun h => ?_) (fun h => ?_)
    · refine q_iinc (k := 3) (cst := 1) (lv' := fun z3 => [(3, .int z3), (0, .ref (ad 427)), (1, .int v1), (2, .int v2), (4, .int v4), (5, .int v5)]) hx hb dX6_shortSum_84 hl rfl rfl (by decide) (fun _ => rfl) h (fun z3 ls hl h => ?_)
      refine lv_goto (tgt := 21) hx hb dX6_shortSum_87 (by decide) ?_
      exact hk21 M1 v1 v2 z3 _ _ _ hw (lv_sub hl [1, 2, 3, 0] rfl) h
    · refine lv_bipush (v := 31) hx hb dX6_shortSum_64 (by decide) ?_
      refine lv_iload_n hx hb dX6_shortSum_66 rfl (lv_at hl 2 rfl) ?_
      refine lv_imul hx hb dX6_shortSum_67 ?_
      refine lv_iload hx hb dX6_shortSum_68 (lv_at hl 4 rfl) ?_
      refine lv_iload hx hb dX6_shortSum_70 (lv_at hl 5 rfl) ?_
      refine q_callSNi (As := [.int v4, .int v5]) (nA := 2) C0 hw (fun r1 h1 => ctX6_charOf hst h1) gX6_shortSum_X6_charOf rfl ⟨rfl, rfl⟩ (by decide +kernel) rfl ⟨(Nat.le_of_ble_eq_true rfl), (Nat.le_of_ble_eq_true rfl)⟩ hl.1 (Nat.le_of_ble_eq_true rfl) ⟨(Nat.le_of_ble_eq_true rfl), (Nat.le_of_ble_eq_true rfl)⟩ rfl h dX6_shortSum_72 (fun M3 z4 H locs hw h => ?_)
      refine lv_iadd hx hb dX6_shortSum_75 ?_
      refine lv_i2s hx hb dX6_shortSum_76 rfl ?_
      refine q_istore_n (lv' := fun z5 => [(2, .int z5), (0, .ref (ad 427)), (1, .int v1), (3, .int v3), (4, .int v4), (5, .int v5)]) hx hb dX6_shortSum_77 rfl hl (by decide) (fun _ => rfl) h (fun z5 ls hl h => ?_)
      refine q_iinc (k := 5) (cst := 1) (lv' := fun z6 => [(5, .int z6), (2, .int z5), (0, .ref (ad 427)), (1, .int v1), (3, .int v3), (4, .int v4)]) hx hb dX6_shortSum_78 hl rfl rfl (by decide) (fun _ => rfl) h (fun z6 ls hl h => ?_)
      refine lv_goto (tgt := 54) hx hb dX6_shortSum_81 (by decide) ?_
      exact ih M3 v1 z5 v3 v4 z6 _ _ _ hw (lv_sub hl [2, 3, 1, 4, 5, 0] rfl) h
def fX6_shortSum_21 (F : Nat) : Nat → Mem → Int32 → Int32 → Int32 → Option (Mem × Int32)
  | 0, _, _, _, _ => none
  | n + 1, M, v1, v2, v3 =>
    if (M 69 0 0) = (0 : Int32) then
    (q_ax v1 60 fun j1 =>
    if (M 37 0 j1) ≤ v3 then
    (fX6_shortSum_90 F M v2)
    else
    (q_ax (((40 : Int32) * v1) + v3) 2400 fun j2 =>
    q_lt (M 42 0 j2) fun z3 =>
    q_lt ((0 : Int32)) fun z4 =>
    fX6_shortSum_54 F (fX6_shortSum_21 F n) F M v1 v2 v3 z3 z4))
    else
    (fX6_shortSum_90 F M v2)
set_option maxHeartbeats 4000000 in
set_option maxRecDepth 100000 in
theorem wX6_shortSum_21 {p : Program} {l : Launch} {e : Env} {s : State} {m : MethodId} {args : Array Value} {below : List Frame} {meth : Method} {c : Code} {D : va_G} {cy : Nat → ClassId} {ad : Nat → Nat} {x : XX} {F : Nat} {r : Mem × Int32} (hst : l.stackTraces = false) (C0 : MX p l s m args meth c D cy ad cX6_shortSum RX6 6 wsX6_shortSum (some .short)) : ∀ (n : Nat) (M : Mem) (v1 : Int32) (v2 : Int32) (v3 : Int32) (H : Heap) (locs : List Loc) (ls : Array Slot), Wd D cy ad x s M H locs → lv_has ls 6 [(0, .ref (ad 427)), (1, .int v1), (2, .int v2), (3, .int v3)] → fX6_shortSum_21 F n M v1 v2 v3 = some r → W p l e rmX6_shortSum s m args below meth c H locs 0 0 (QN D cy ad below args s x q_vi r 0 0) (F0 m 21 ls []) := by
  obtain ⟨hx, hb, hml, hown, hts, -⟩ := id C0
  intro n
  induction n with
  | zero =>
    intro M v1 v2 v3 H locs ls hw hl h
    exact q_no h
  | succ n ih =>
    intro M v1 v2 v3 H locs ls hw hl h
    unfold fX6_shortSum_21 at h
    refine lv_aload_n hx hb dX6_shortSum_21 rfl (lv_at hl 0 rfl) ?_
    refine gf_Mod_thrown C0 hw (fun _ h9 => List.mem_cons_of_mem _ (List.mem_append_left _ (List.mem_append_right _ h9))) (List.mem_of_getElem? (i := 1) rfl) dX6_shortSum_22 ?_
    refine q_if_ne (tgt := 90) hx hb dX6_shortSum_25 (by decide) h (fun h => ?_) (fun h => ?_)
    · exact wX6_shortSum_90 hst C0  M v2 _ _ _ hw (lv_sub hl [2] rfl) h
    · refine lv_iload_n hx hb dX6_shortSum_28 rfl (lv_at hl 3 rfl) ?_
      refine lv_aload_n hx hb dX6_shortSum_29 rfl (lv_at hl 0 rfl) ?_
      refine gf_Mod_sizes C0 hw (fun _ h9 => List.mem_cons_of_mem _ (List.mem_append_left _ (List.mem_append_right _ h9))) (List.mem_of_getElem? (i := 2) rfl) dX6_shortSum_30 ?_
      refine lv_iload_n hx hb dX6_shortSum_33 rfl (lv_at hl 1 rfl) ?_
      refine q_iald C0 hw at_m37 h dX6_shortSum_34 (fun j1 hj1 h => ?_)
      refine q_icmp_ge (tgt := 90) hx hb dX6_shortSum_35 (by decide) h (fun h => ?_) (fun h => ?_)
      · exact wX6_shortSum_90 hst C0  M v2 _ _ _ hw (lv_sub hl [2] rfl) h
      · refine lv_aload_n hx hb dX6_shortSum_38 rfl (lv_at hl 0 rfl) ?_
        refine gf_Mod_texts C0 hw (fun _ h9 => List.mem_cons_of_mem _ (List.mem_append_left _ (List.mem_append_right _ h9))) (List.mem_of_getElem? (i := 3) rfl) dX6_shortSum_39 ?_
        refine lv_bipush (v := 40) hx hb dX6_shortSum_42 (by decide) ?_
        refine lv_iload_n hx hb dX6_shortSum_44 rfl (lv_at hl 1 rfl) ?_
        refine lv_imul hx hb dX6_shortSum_45 ?_
        refine lv_iload_n hx hb dX6_shortSum_46 rfl (lv_at hl 3 rfl) ?_
        refine lv_iadd hx hb dX6_shortSum_47 ?_
        refine q_iald C0 hw at_m42 h dX6_shortSum_48 (fun j2 hj2 h => ?_)
        refine q_istore (lv' := fun z3 => [(4, .int z3), (0, .ref (ad 427)), (1, .int v1), (2, .int v2), (3, .int v3)]) hx hb dX6_shortSum_49 hl (by decide) (fun _ => rfl) h (fun z3 ls hl h => ?_)
        refine lv_iconst (v := 0) hx hb dX6_shortSum_51 (by decide) ?_
        refine q_istore (lv' := fun z4 => [(5, .int z4), (4, .int z3), (0, .ref (ad 427)), (1, .int v1), (2, .int v2), (3, .int v3)]) hx hb dX6_shortSum_52 hl (by decide) (fun _ => rfl) h (fun z4 ls hl h => ?_)
        exact wX6_shortSum_54 hst C0 ih F M v1 v2 v3 z3 z4 _ _ _ hw (lv_sub hl [2, 3, 4, 5, 1, 0] rfl) h
def fX6_shortSum_14 (F : Nat) (M : Mem) (s0 : Int32) (v1 : Int32) : Option (Mem × Int32) :=
    q_lt (up M 69 0 0 s0) fun M1 =>
    q_lt ((0 : Int32)) fun z2 =>
    q_lt ((0 : Int32)) fun z3 =>
    fX6_shortSum_21 F F M1 v1 z2 z3
set_option maxHeartbeats 4000000 in
set_option maxRecDepth 100000 in
theorem wX6_shortSum_14 {p : Program} {l : Launch} {e : Env} {s : State} {m : MethodId} {args : Array Value} {below : List Frame} {meth : Method} {c : Code} {D : va_G} {cy : Nat → ClassId} {ad : Nat → Nat} {x : XX} {F : Nat} {r : Mem × Int32} (hst : l.stackTraces = false) (C0 : MX p l s m args meth c D cy ad cX6_shortSum RX6 6 wsX6_shortSum (some .short)) : ∀ (M : Mem) (s0 : Int32) (v1 : Int32) (H : Heap) (locs : List Loc) (ls : Array Slot), Wd D cy ad x s M H locs → lv_has ls 6 [(0, .ref (ad 427)), (1, .int v1)] → fX6_shortSum_14 F M s0 v1 = some r → W p l e rmX6_shortSum s m args below meth c H locs 0 0 (QN D cy ad below args s x q_vi r 0 0) (F0 m 14 ls [.int s0, .ref (ad 427)]) := by
  obtain ⟨hx, hb, hml, hown, hts, -⟩ := id C0
  intro M s0 v1 H locs ls hw hl h
  unfold fX6_shortSum_14 at h
  refine pf_Mod_thrown C0 hw (fun _ h9 => List.mem_cons_of_mem _ (List.mem_append_left _ (List.mem_append_right _ h9))) (List.mem_of_getElem? (i := 1) rfl) dX6_shortSum_14 h (fun M1 H locs hw h => ?_)
  refine lv_iconst (v := 0) hx hb dX6_shortSum_17 (by decide) ?_
  refine q_istore_n (lv' := fun z2 => [(2, .int z2), (0, .ref (ad 427)), (1, .int v1)]) hx hb dX6_shortSum_18 rfl hl (by decide) (fun _ => rfl) h (fun z2 ls hl h => ?_)
  refine lv_iconst (v := 0) hx hb dX6_shortSum_19 (by decide) ?_
  refine q_istore_n (lv' := fun z3 => [(3, .int z3), (2, .int z2), (0, .ref (ad 427)), (1, .int v1)]) hx hb dX6_shortSum_20 rfl hl (by decide) (fun _ => rfl) h (fun z3 ls hl h => ?_)
  exact wX6_shortSum_21 hst C0  F M1 v1 z2 z3 _ _ _ hw (lv_sub hl [2, 3, 1, 0] rfl) h
def fX6_shortSum (F : Nat) (M : Mem) (a0 : Int32) : Option (Mem × Int32) :=
    q_bn (fX6_isVersion F M a0) fun M1 z2 =>
    if z2 = (0 : Int32) then
    (fX6_shortSum_14 F M1 (1 : Int32) a0)
    else
    (fX6_shortSum_14 F M1 (0 : Int32) a0)
set_option maxHeartbeats 4000000 in
set_option maxRecDepth 100000 in
theorem ctX6_shortSum {l : Launch} (hst : l.stackTraces = false) {D : va_G} {cy : Nat → ClassId} {ad : Nat → Nat} {x : XX} {F : Nat} {M : Mem} {a0 : Int32} {r : Mem × Int32} (h : fX6_shortSum F M a0 = some r) : CN l yX6_shortSum wsX6_shortSum rmX6_shortSum D cy ad [.ref (ad 427), .int a0] x M x r.1 (q_vi r.2) 0 0 := by
  refine q_startN (cc := cX6_shortSum) (maxL := 6) (ret := (some .short)) (by decide) rfl (Nat.le_of_ble_eq_true rfl) ?_
  intro p e s m args below meth c ls C0 hw hl hnm
  obtain ⟨hx, hb, hml, hown, hts, -⟩ := id C0
  have C0 : MX p l s m args meth c D cy ad cX6_shortSum RX6 6 wsX6_shortSum ((some .short)) := C0
  have hown : s.vm.findClass RX6 = some m.cls := hown
  have hl : lv_has ls 6 [(0, .ref (ad 427)), (1, .int a0)] := hl
  show W p l e rmX6_shortSum s m args below meth c s.heap [] 0 0 (QN D cy ad below args s x q_vi r 0 0) (F0 m 0 ls [])
  unfold fX6_shortSum at h
  refine lv_aload_n hx hb dX6_shortSum_0 rfl (lv_at hl 0 rfl) ?_
  refine lv_aload_n hx hb dX6_shortSum_1 rfl (lv_at hl 0 rfl) ?_
  refine lv_iload_n hx hb dX6_shortSum_2 rfl (lv_at hl 1 rfl) ?_
  refine q_callVNi (As := [.int a0]) (nA := 1) C0 hw at_Mod rfl (fun r1 h1 => ctX6_isVersion hst h1) gX6_shortSum_X6_isVersion rfl ⟨rfl, rfl⟩ (by decide +kernel) rfl ⟨(Nat.le_of_ble_eq_true rfl), (Nat.le_of_ble_eq_true rfl)⟩ hl.1 (Nat.le_of_ble_eq_true rfl) ⟨(Nat.le_of_ble_eq_true rfl), (Nat.le_of_ble_eq_true rfl)⟩ rfl h dX6_shortSum_3 (fun M1 z2 H locs hw h => ?_)
  refine q_if_eq (tgt := 13) hx hb dX6_shortSum_6 (by decide) h (fun h => ?_) (fun h => ?_)
  · refine lv_iconst (v := 1) hx hb dX6_shortSum_13 (by decide) ?_
    exact wX6_shortSum_14 hst C0  M1 (1 : Int32) a0 _ _ _ hw (lv_sub hl [0, 1] rfl) h
  · refine lv_iconst (v := 0) hx hb dX6_shortSum_9 (by decide) ?_
    refine lv_goto (tgt := 14) hx hb dX6_shortSum_10 (by decide) ?_
    exact wX6_shortSum_14 hst C0  M1 (0 : Int32) a0 _ _ _ hw (lv_sub hl [0, 1] rfl) h
/-! HomewatcherModel.packed(I)J -/
abbrev rmX6_packed : Room := { frames := 2, cells := 0, slots := 0, locals := 47 }
def fX6_packed_14 (F : Nat) (M : Mem) (s0 : Int32) (v1 : Int32) : Option (Mem × Int64) :=
    q_lt (up M 69 0 0 s0) fun M1 =>
    if (M1 69 0 0) ≤ (0 : Int32) then
    (q_bn (fX6_byteSumOf F M1 v1) fun M2 z3 =>
    q_lt (((v1.toInt64) <<< ((48 : Int32).toInt64 &&& 63)) ||| (((z3 &&& (255 : Int32)).toInt64) <<< ((40 : Int32).toInt64 &&& 63))) fun z4 =>
    q_ax v1 60 fun j5 =>
    q_ax v1 60 fun j6 =>
    q_ax v1 60 fun j7 =>
    some (M2, ((z4 ||| (((M2 33 0 j5).toInt64) <<< ((36 : Int32).toInt64 &&& 63))) ||| (((M2 34 0 j6).toInt64) <<< ((32 : Int32).toInt64 &&& 63))) ||| ((M2 36 0 j7).toInt64)))
    else
    (some (M1, (0 : Int64)))
set_option maxHeartbeats 4000000 in
set_option maxRecDepth 100000 in
theorem wX6_packed_14 {p : Program} {l : Launch} {e : Env} {s : State} {m : MethodId} {args : Array Value} {below : List Frame} {meth : Method} {c : Code} {D : va_G} {cy : Nat → ClassId} {ad : Nat → Nat} {x : XX} {F : Nat} {r : Mem × Int64} (hst : l.stackTraces = false) (C0 : MX p l s m args meth c D cy ad cX6_packed RX6 4 wsX6_packed (some .long)) : ∀ (M : Mem) (s0 : Int32) (v1 : Int32) (H : Heap) (locs : List Loc) (ls : Array Slot), Wd D cy ad x s M H locs → lv_has ls 4 [(0, .ref (ad 427)), (1, .int v1)] → fX6_packed_14 F M s0 v1 = some r → W p l e rmX6_packed s m args below meth c H locs 0 0 (QN D cy ad below args s x q_vl r 0 0) (F0 m 14 ls [.int s0, .ref (ad 427)]) := by
  obtain ⟨hx, hb, hml, hown, hts, -⟩ := id C0
  intro M s0 v1 H locs ls hw hl h
  unfold fX6_packed_14 at h
  refine pf_Mod_thrown C0 hw (fun _ h9 => List.mem_cons_of_mem _ (List.mem_append_left _ (List.mem_append_right _ h9))) (List.mem_of_getElem? (i := 1) rfl) dX6_packed_14 h (fun M1 H locs hw h => ?_)
  refine lv_aload_n hx hb dX6_packed_17 rfl (lv_at hl 0 rfl) ?_
  refine gf_Mod_thrown C0 hw (fun _ h9 => List.mem_cons_of_mem _ (List.mem_append_left _ (List.mem_append_right _ h9))) (List.mem_of_getElem? (i := 1) rfl) dX6_packed_18 ?_
  refine q_if_le (tgt := 26) hx hb dX6_packed_21 (by decide) h (fun h => ?_) (fun h => ?_)
  · refine lv_iload_n hx hb dX6_packed_26 rfl (lv_at hl 1 rfl) ?_
    refine lv_i2l hx hb dX6_packed_27 rfl ?_
    refine lv_bipush (v := 48) hx hb dX6_packed_28 (by decide) ?_
    refine lv_lshl hx hb dX6_packed_30 rfl ?_
    refine lv_aload_n hx hb dX6_packed_31 rfl (lv_at hl 0 rfl) ?_
    refine lv_iload_n hx hb dX6_packed_32 rfl (lv_at hl 1 rfl) ?_
    refine q_callVNi (As := [.int v1]) (nA := 1) C0 hw at_Mod rfl (fun r1 h1 => ctX6_byteSumOf hst h1) gX6_packed_X6_byteSumOf rfl ⟨rfl, rfl⟩ (by decide +kernel) rfl ⟨(Nat.le_of_ble_eq_true rfl), (Nat.le_of_ble_eq_true rfl)⟩ hl.1 (Nat.le_of_ble_eq_true rfl) ⟨(Nat.le_of_ble_eq_true rfl), (Nat.le_of_ble_eq_true rfl)⟩ rfl h dX6_packed_33 (fun M2 z3 H locs hw h => ?_)
    refine lv_sipush (v := 255) hx hb dX6_packed_36 (by decide) ?_
    refine lv_iand hx hb dX6_packed_39 ?_
    refine lv_i2l hx hb dX6_packed_40 rfl ?_
    refine lv_bipush (v := 40) hx hb dX6_packed_41 (by decide) ?_
    refine lv_lshl hx hb dX6_packed_43 rfl ?_
    refine lv_lor hx hb dX6_packed_44 ?_
    refine q_lstore_n (lv' := fun z4 => [(2, .long (z4)), (0, .ref (ad 427)), (1, .int v1)]) hx hb dX6_packed_45 rfl hl (by decide) (fun _ => rfl) h (fun z4 ls hl h => ?_)
    refine lv_lload_n hx hb dX6_packed_46 rfl (lv_at hl 0 rfl) ?_
    refine lv_aload_n hx hb dX6_packed_47 rfl (lv_at hl 1 rfl) ?_
    refine gf_Mod_pupilOf C0 hw (fun _ h9 => List.mem_cons_of_mem _ (List.mem_append_left _ (List.mem_append_right _ h9))) (List.mem_of_getElem? (i := 2) rfl) dX6_packed_48 ?_
    refine lv_iload_n hx hb dX6_packed_51 rfl (lv_at hl 2 rfl) ?_
    refine q_iald C0 hw at_m33 h dX6_packed_52 (fun j5 hj5 h => ?_)
    refine lv_i2l hx hb dX6_packed_53 rfl ?_
    refine lv_bipush (v := 36) hx hb dX6_packed_54 (by decide) ?_
    refine lv_lshl hx hb dX6_packed_56 rfl ?_
    refine lv_lor hx hb dX6_packed_57 ?_
    refine lv_aload_n hx hb dX6_packed_58 rfl (lv_at hl 1 rfl) ?_
    refine gf_Mod_taskOf C0 hw (fun _ h9 => List.mem_cons_of_mem _ (List.mem_append_left _ (List.mem_append_right _ h9))) (List.mem_of_getElem? (i := 3) rfl) dX6_packed_59 ?_
    refine lv_iload_n hx hb dX6_packed_62 rfl (lv_at hl 2 rfl) ?_
    refine q_iald C0 hw at_m34 h dX6_packed_63 (fun j6 hj6 h => ?_)
    refine lv_i2l hx hb dX6_packed_64 rfl ?_
    refine lv_bipush (v := 32) hx hb dX6_packed_65 (by decide) ?_
    refine lv_lshl hx hb dX6_packed_67 rfl ?_
    refine lv_lor hx hb dX6_packed_68 ?_
    refine lv_aload_n hx hb dX6_packed_69 rfl (lv_at hl 1 rfl) ?_
    refine gf_Mod_saved C0 hw (fun _ h9 => List.mem_cons_of_mem _ (List.mem_append_left _ (List.mem_append_right _ h9))) (List.mem_of_getElem? (i := 4) rfl) dX6_packed_70 ?_
    refine lv_iload_n hx hb dX6_packed_73 rfl (lv_at hl 2 rfl) ?_
    refine q_iald C0 hw at_m36 h dX6_packed_74 (fun j7 hj7 h => ?_)
    refine lv_i2l hx hb dX6_packed_75 rfl ?_
    refine lv_lor hx hb dX6_packed_76 ?_
    exact q_lretN C0 hw h ⟨(Nat.le_of_ble_eq_true rfl), (Nat.le_of_ble_eq_true rfl)⟩ dX6_packed_77
  · refine lv_lconst (v := 0) hx hb dX6_packed_24 rfl ?_
    exact q_lretN C0 hw h ⟨(Nat.le_of_ble_eq_true rfl), (Nat.le_of_ble_eq_true rfl)⟩ dX6_packed_25
def fX6_packed (F : Nat) (M : Mem) (a0 : Int32) : Option (Mem × Int64) :=
    q_bn (fX6_isVersion F M a0) fun M1 z2 =>
    if z2 = (0 : Int32) then
    (fX6_packed_14 F M1 (1 : Int32) a0)
    else
    (fX6_packed_14 F M1 (0 : Int32) a0)
set_option maxHeartbeats 4000000 in
set_option maxRecDepth 100000 in
theorem ctX6_packed {l : Launch} (hst : l.stackTraces = false) {D : va_G} {cy : Nat → ClassId} {ad : Nat → Nat} {x : XX} {F : Nat} {M : Mem} {a0 : Int32} {r : Mem × Int64} (h : fX6_packed F M a0 = some r) : CN l yX6_packed wsX6_packed rmX6_packed D cy ad [.ref (ad 427), .int a0] x M x r.1 (q_vl r.2) 0 0 := by
  refine q_startN (cc := cX6_packed) (maxL := 4) (ret := (some .long)) (by decide) rfl (Nat.le_of_ble_eq_true rfl) ?_
  intro p e s m args below meth c ls C0 hw hl hnm
  obtain ⟨hx, hb, hml, hown, hts, -⟩ := id C0
  have C0 : MX p l s m args meth c D cy ad cX6_packed RX6 4 wsX6_packed ((some .long)) := C0
  have hown : s.vm.findClass RX6 = some m.cls := hown
  have hl : lv_has ls 4 [(0, .ref (ad 427)), (1, .int a0)] := hl
  show W p l e rmX6_packed s m args below meth c s.heap [] 0 0 (QN D cy ad below args s x q_vl r 0 0) (F0 m 0 ls [])
  unfold fX6_packed at h
  refine lv_aload_n hx hb dX6_packed_0 rfl (lv_at hl 0 rfl) ?_
  refine lv_aload_n hx hb dX6_packed_1 rfl (lv_at hl 0 rfl) ?_
  refine lv_iload_n hx hb dX6_packed_2 rfl (lv_at hl 1 rfl) ?_
  refine q_callVNi (As := [.int a0]) (nA := 1) C0 hw at_Mod rfl (fun r1 h1 => ctX6_isVersion hst h1) gX6_packed_X6_isVersion rfl ⟨rfl, rfl⟩ (by decide +kernel) rfl ⟨(Nat.le_of_ble_eq_true rfl), (Nat.le_of_ble_eq_true rfl)⟩ hl.1 (Nat.le_of_ble_eq_true rfl) ⟨(Nat.le_of_ble_eq_true rfl), (Nat.le_of_ble_eq_true rfl)⟩ rfl h dX6_packed_3 (fun M1 z2 H locs hw h => ?_)
  refine q_if_eq (tgt := 13) hx hb dX6_packed_6 (by decide) h (fun h => ?_) (fun h => ?_)
  · refine lv_iconst (v := 1) hx hb dX6_packed_13 (by decide) ?_
    exact wX6_packed_14 hst C0  M1 (1 : Int32) a0 _ _ _ hw (lv_sub hl [0, 1] rfl) h
  · refine lv_iconst (v := 0) hx hb dX6_packed_9 (by decide) ?_
    refine lv_goto (tgt := 14) hx hb dX6_packed_10 (by decide) ?_
    exact wX6_packed_14 hst C0  M1 (0 : Int32) a0 _ _ _ hw (lv_sub hl [0, 1] rfl) h
/-! HomewatcherModel.inShare()F -/
abbrev rmX6_inShare : Room := { frames := 0, cells := 0, slots := 0, locals := 0 }
def fX6_inShare_71 (F : Nat) (M : Mem) (s0 : UInt32) : Option (Mem × UInt32) :=
    some (M, s0)
set_option maxHeartbeats 4000000 in
set_option maxRecDepth 100000 in
theorem wX6_inShare_71 {p : Program} {l : Launch} {e : Env} {s : State} {m : MethodId} {args : Array Value} {below : List Frame} {meth : Method} {c : Code} {D : va_G} {cy : Nat → ClassId} {ad : Nat → Nat} {x : XX} {F : Nat} {r : Mem × UInt32} (hst : l.stackTraces = false) (C0 : MX p l s m args meth c D cy ad cX6_inShare RX6 3 wsX6_inShare (some .float)) : ∀ (M : Mem) (s0 : UInt32) (H : Heap) (locs : List Loc) (ls : Array Slot), Wd D cy ad x s M H locs → lv_has ls 3 [] → fX6_inShare_71 F M s0 = some r → W p l e rmX6_inShare s m args below meth c H locs 0 0 (QN D cy ad below args s x q_vf r 0 0) (F0 m 71 ls [.float (s0)]) := by
  obtain ⟨hx, hb, hml, hown, hts, -⟩ := id C0
  intro M s0 H locs ls hw hl h
  unfold fX6_inShare_71 at h
  exact q_fretN C0 hw h ⟨(Nat.le_of_ble_eq_true rfl), (Nat.le_of_ble_eq_true rfl)⟩ dX6_inShare_71
def fX6_inShare_44 (F : Nat) (k20 : Mem → Int32 → Int32 → Option (Mem × UInt32)) (M : Mem) (s0 : Int32) (s1 : Int32) (v2 : Int32) : Option (Mem × UInt32) :=
    q_lt (s1 + s0) fun z1 =>
    q_lt (v2 + (1 : Int32)) fun z2 =>
    k20 M z1 z2
set_option maxHeartbeats 4000000 in
set_option maxRecDepth 100000 in
theorem wX6_inShare_44 {p : Program} {l : Launch} {e : Env} {s : State} {m : MethodId} {args : Array Value} {below : List Frame} {meth : Method} {c : Code} {D : va_G} {cy : Nat → ClassId} {ad : Nat → Nat} {x : XX} {F : Nat} {r : Mem × UInt32} (hst : l.stackTraces = false) (C0 : MX p l s m args meth c D cy ad cX6_inShare RX6 3 wsX6_inShare (some .float)) {k20 : Mem → Int32 → Int32 → Option (Mem × UInt32)} (hk20 : ∀ (M : Mem) (v1 : Int32) (v2 : Int32) (H : Heap) (locs : List Loc) (ls : Array Slot), Wd D cy ad x s M H locs → lv_has ls 3 [(0, .ref (ad 427)), (1, .int v1), (2, .int v2)] → k20 M v1 v2 = some r → W p l e rmX6_inShare s m args below meth c H locs 0 0 (QN D cy ad below args s x q_vf r 0 0) (F0 m 20 ls [])) : ∀ (M : Mem) (s0 : Int32) (s1 : Int32) (v2 : Int32) (H : Heap) (locs : List Loc) (ls : Array Slot), Wd D cy ad x s M H locs → lv_has ls 3 [(0, .ref (ad 427)), (2, .int v2)] → fX6_inShare_44 F k20 M s0 s1 v2 = some r → W p l e rmX6_inShare s m args below meth c H locs 0 0 (QN D cy ad below args s x q_vf r 0 0) (F0 m 44 ls [.int s0, .int s1]) := by
  obtain ⟨hx, hb, hml, hown, hts, -⟩ := id C0
  intro M s0 s1 v2 H locs ls hw hl h
  unfold fX6_inShare_44 at h
  refine lv_iadd hx hb dX6_inShare_44 ?_
  refine q_istore_n (lv' := fun z1 => [(1, .int z1), (0, .ref (ad 427)), (2, .int v2)]) hx hb dX6_inShare_45 rfl hl (by decide) (fun _ => rfl) h (fun z1 ls hl h => ?_)
  refine q_iinc (k := 2) (cst := 1) (lv' := fun z2 => [(2, .int z2), (1, .int z1), (0, .ref (ad 427))]) hx hb dX6_inShare_46 hl rfl rfl (by decide) (fun _ => rfl) h (fun z2 ls hl h => ?_)
  refine lv_goto (tgt := 20) hx hb dX6_inShare_49 (by decide) ?_
  exact hk20 M z1 z2 _ _ _ hw (lv_sub hl [2, 1, 0] rfl) h
def fX6_inShare_20 (F : Nat) : Nat → Mem → Int32 → Int32 → Option (Mem × UInt32)
  | 0, _, _, _ => none
  | n + 1, M, v1, v2 =>
    if (M 64 0 0) ≤ v2 then
    (if (M 69 0 0) ≤ (0 : Int32) then
    (q_gd (q_n32 (FP.fdiv (FP.i2f v1) (FP.i2f (M 64 0 0)))) (
    fX6_inShare_71 F M (FP.fdiv (FP.i2f v1) (FP.i2f (M 64 0 0)))))
    else
    (fX6_inShare_71 F M (FP.fconst0)))
    else
    (q_ax v2 60 fun j1 =>
    if (M 38 0 j1) = (1 : Int32) then
    (fX6_inShare_44 F (fX6_inShare_20 F n) M (1 : Int32) v1 v2)
    else
    (fX6_inShare_44 F (fX6_inShare_20 F n) M (0 : Int32) v1 v2))
set_option maxHeartbeats 4000000 in
set_option maxRecDepth 100000 in
theorem wX6_inShare_20 {p : Program} {l : Launch} {e : Env} {s : State} {m : MethodId} {args : Array Value} {below : List Frame} {meth : Method} {c : Code} {D : va_G} {cy : Nat → ClassId} {ad : Nat → Nat} {x : XX} {F : Nat} {r : Mem × UInt32} (hst : l.stackTraces = false) (C0 : MX p l s m args meth c D cy ad cX6_inShare RX6 3 wsX6_inShare (some .float)) : ∀ (n : Nat) (M : Mem) (v1 : Int32) (v2 : Int32) (H : Heap) (locs : List Loc) (ls : Array Slot), Wd D cy ad x s M H locs → lv_has ls 3 [(0, .ref (ad 427)), (1, .int v1), (2, .int v2)] → fX6_inShare_20 F n M v1 v2 = some r → W p l e rmX6_inShare s m args below meth c H locs 0 0 (QN D cy ad below args s x q_vf r 0 0) (F0 m 20 ls []) := by
  obtain ⟨hx, hb, hml, hown, hts, -⟩ := id C0
  intro n
  induction n with
  | zero =>
    intro M v1 v2 H locs ls hw hl h
    exact q_no h
  | succ n ih =>
    intro M v1 v2 H locs ls hw hl h
    unfold fX6_inShare_20 at h
    refine lv_iload_n hx hb dX6_inShare_20 rfl (lv_at hl 2 rfl) ?_
    refine lv_aload_n hx hb dX6_inShare_21 rfl (lv_at hl 0 rfl) ?_
    refine gf_Mod_versions C0 hw (fun _ h9 => List.mem_cons_of_mem _ (List.mem_append_left _ (List.mem_append_right _ h9))) (List.mem_of_getElem? (i := 1) rfl) dX6_inShare_22 ?_
    refine q_icmp_ge (tgt := 52) hx hb dX6_inShare_25 (by decide) h (fun h => ?_) (fun h => ?_)
    · refine lv_aload_n hx hb dX6_inShare_52 rfl (lv_at hl 0 rfl) ?_
      refine gf_Mod_thrown C0 hw (fun _ h9 => List.mem_cons_of_mem _ (List.mem_append_left _ (List.mem_append_right _ h9))) (List.mem_of_getElem? (i := 2) rfl) dX6_inShare_53 ?_
      refine q_if_le (tgt := 63) hx hb dX6_inShare_56 (by decide) h (fun h => ?_) (fun h => ?_)
      · refine lv_iload_n hx hb dX6_inShare_63 rfl (lv_at hl 1 rfl) ?_
        refine lv_i2f hx hb dX6_inShare_64 ?_
        refine lv_aload_n hx hb dX6_inShare_65 rfl (lv_at hl 0 rfl) ?_
        refine gf_Mod_versions C0 hw (fun _ h9 => List.mem_cons_of_mem _ (List.mem_append_left _ (List.mem_append_right _ h9))) (List.mem_of_getElem? (i := 1) rfl) dX6_inShare_66 ?_
        refine lv_i2f hx hb dX6_inShare_69 ?_
        refine q_guard h (fun g h => ?_)
        refine lv_fdiv hx hb dX6_inShare_70 (q_n32_in g) ?_
        exact wX6_inShare_71 hst C0  M (FP.fdiv (FP.i2f v1) (FP.i2f (M 64 0 0))) _ _ _ hw (lv_sub hl [] rfl) h
      · refine lv_fconst0 hx hb dX6_inShare_59 ?_
        refine lv_goto (tgt := 71) hx hb dX6_inShare_60 (by decide) ?_
        exact wX6_inShare_71 hst C0  M (FP.fconst0) _ _ _ hw (lv_sub hl [] rfl) h
    · refine lv_iload_n hx hb dX6_inShare_28 rfl (lv_at hl 1 rfl) ?_
      refine lv_aload_n hx hb dX6_inShare_29 rfl (lv_at hl 0 rfl) ?_
      refine gf_Mod_states C0 hw (fun _ h9 => List.mem_cons_of_mem _ (List.mem_append_left _ (List.mem_append_right _ h9))) (List.mem_of_getElem? (i := 3) rfl) dX6_inShare_30 ?_
      refine lv_iload_n hx hb dX6_inShare_33 rfl (lv_at hl 2 rfl) ?_
      refine q_iald C0 hw at_m38 h dX6_inShare_34 (fun j1 hj1 h => ?_)
      refine lv_iconst (v := 1) hx hb dX6_inShare_35 (by decide) ?_
      refine q_icmp_ne (tgt := 43) hx hb dX6_inShare_36 (by decide) h (fun h => ?_) (fun h => ?_)
      · refine lv_iconst (v := 0) hx hb dX6_inShare_43 (by decide) ?_
        exact wX6_inShare_44 hst C0 ih M (0 : Int32) v1 v2 _ _ _ hw (lv_sub hl [0, 2] rfl) h
      · refine lv_iconst (v := 1) hx hb dX6_inShare_39 (by decide) ?_
        refine lv_goto (tgt := 44) hx hb dX6_inShare_40 (by decide) ?_
        exact wX6_inShare_44 hst C0 ih M (1 : Int32) v1 v2 _ _ _ hw (lv_sub hl [0, 2] rfl) h
def fX6_inShare_13 (F : Nat) (M : Mem) (s0 : Int32) : Option (Mem × UInt32) :=
    q_lt (up M 69 0 0 s0) fun M1 =>
    q_lt ((0 : Int32)) fun z2 =>
    q_lt ((0 : Int32)) fun z3 =>
    fX6_inShare_20 F F M1 z2 z3
set_option maxHeartbeats 4000000 in
set_option maxRecDepth 100000 in
theorem wX6_inShare_13 {p : Program} {l : Launch} {e : Env} {s : State} {m : MethodId} {args : Array Value} {below : List Frame} {meth : Method} {c : Code} {D : va_G} {cy : Nat → ClassId} {ad : Nat → Nat} {x : XX} {F : Nat} {r : Mem × UInt32} (hst : l.stackTraces = false) (C0 : MX p l s m args meth c D cy ad cX6_inShare RX6 3 wsX6_inShare (some .float)) : ∀ (M : Mem) (s0 : Int32) (H : Heap) (locs : List Loc) (ls : Array Slot), Wd D cy ad x s M H locs → lv_has ls 3 [(0, .ref (ad 427))] → fX6_inShare_13 F M s0 = some r → W p l e rmX6_inShare s m args below meth c H locs 0 0 (QN D cy ad below args s x q_vf r 0 0) (F0 m 13 ls [.int s0, .ref (ad 427)]) := by
  obtain ⟨hx, hb, hml, hown, hts, -⟩ := id C0
  intro M s0 H locs ls hw hl h
  unfold fX6_inShare_13 at h
  refine pf_Mod_thrown C0 hw (fun _ h9 => List.mem_cons_of_mem _ (List.mem_append_left _ (List.mem_append_right _ h9))) (List.mem_of_getElem? (i := 2) rfl) dX6_inShare_13 h (fun M1 H locs hw h => ?_)
  refine lv_iconst (v := 0) hx hb dX6_inShare_16 (by decide) ?_
  refine q_istore_n (lv' := fun z2 => [(1, .int z2), (0, .ref (ad 427))]) hx hb dX6_inShare_17 rfl hl (by decide) (fun _ => rfl) h (fun z2 ls hl h => ?_)
  refine lv_iconst (v := 0) hx hb dX6_inShare_18 (by decide) ?_
  refine q_istore_n (lv' := fun z3 => [(2, .int z3), (1, .int z2), (0, .ref (ad 427))]) hx hb dX6_inShare_19 rfl hl (by decide) (fun _ => rfl) h (fun z3 ls hl h => ?_)
  exact wX6_inShare_20 hst C0  F M1 z2 z3 _ _ _ hw (lv_sub hl [2, 1, 0] rfl) h
def fX6_inShare (F : Nat) (M : Mem) : Option (Mem × UInt32) :=
    if (M 64 0 0) = (0 : Int32) then
    (fX6_inShare_13 F M (1 : Int32))
    else
    (fX6_inShare_13 F M (0 : Int32))
set_option maxHeartbeats 4000000 in
set_option maxRecDepth 100000 in
theorem ctX6_inShare {l : Launch} (hst : l.stackTraces = false) {D : va_G} {cy : Nat → ClassId} {ad : Nat → Nat} {x : XX} {F : Nat} {M : Mem} {r : Mem × UInt32} (h : fX6_inShare F M = some r) : CN l yX6_inShare wsX6_inShare rmX6_inShare D cy ad [.ref (ad 427)] x M x r.1 (q_vf r.2) 0 0 := by
  refine q_startN (cc := cX6_inShare) (maxL := 3) (ret := (some .float)) (by decide) rfl (Nat.le_of_ble_eq_true rfl) ?_
  intro p e s m args below meth c ls C0 hw hl hnm
  obtain ⟨hx, hb, hml, hown, hts, -⟩ := id C0
  have C0 : MX p l s m args meth c D cy ad cX6_inShare RX6 3 wsX6_inShare ((some .float)) := C0
  have hown : s.vm.findClass RX6 = some m.cls := hown
  have hl : lv_has ls 3 [(0, .ref (ad 427))] := hl
  show W p l e rmX6_inShare s m args below meth c s.heap [] 0 0 (QN D cy ad below args s x q_vf r 0 0) (F0 m 0 ls [])
  unfold fX6_inShare at h
  refine lv_aload_n hx hb dX6_inShare_0 rfl (lv_at hl 0 rfl) ?_
  refine lv_aload_n hx hb dX6_inShare_1 rfl (lv_at hl 0 rfl) ?_
  refine gf_Mod_versions C0 hw (fun _ h9 => List.mem_cons_of_mem _ (List.mem_append_left _ (List.mem_append_right _ h9))) (List.mem_of_getElem? (i := 1) rfl) dX6_inShare_2 ?_
  refine q_if_ne (tgt := 12) hx hb dX6_inShare_5 (by decide) h (fun h => ?_) (fun h => ?_)
  · refine lv_iconst (v := 0) hx hb dX6_inShare_12 (by decide) ?_
    exact wX6_inShare_13 hst C0  M (0 : Int32) _ _ _ hw (lv_sub hl [0] rfl) h
  · refine lv_iconst (v := 1) hx hb dX6_inShare_8 (by decide) ?_
    refine lv_goto (tgt := 13) hx hb dX6_inShare_9 (by decide) ?_
    exact wX6_inShare_13 hst C0  M (1 : Int32) _ _ _ hw (lv_sub hl [0] rfl) h
/-! HomewatcherModel.meanMark()D -/
abbrev rmX6_meanMark : Room := { frames := 4, cells := 0, slots := 0, locals := 88 }
def fX6_meanMark_106 (F : Nat) (M : Mem) (s0 : UInt64) : Option (Mem × UInt64) :=
    some (M, s0)
set_option maxHeartbeats 4000000 in
set_option maxRecDepth 100000 in
theorem wX6_meanMark_106 {p : Program} {l : Launch} {e : Env} {s : State} {m : MethodId} {args : Array Value} {below : List Frame} {meth : Method} {c : Code} {D : va_G} {cy : Nat → ClassId} {ad : Nat → Nat} {x : XX} {F : Nat} {r : Mem × UInt64} (hst : l.stackTraces = false) (C0 : MX p l s m args meth c D cy ad cX6_meanMark RX6 5 wsX6_meanMark (some .double)) : ∀ (M : Mem) (s0 : UInt64) (H : Heap) (locs : List Loc) (ls : Array Slot), Wd D cy ad x s M H locs → lv_has ls 5 [] → fX6_meanMark_106 F M s0 = some r → W p l e rmX6_meanMark s m args below meth c H locs 0 0 (QN D cy ad below args s x q_vd r 0 0) (F0 m 106 ls [.double (s0)]) := by
  obtain ⟨hx, hb, hml, hown, hts, -⟩ := id C0
  intro M s0 H locs ls hw hl h
  unfold fX6_meanMark_106 at h
  exact q_dretN C0 hw h ⟨(Nat.le_of_ble_eq_true rfl), (Nat.le_of_ble_eq_true rfl)⟩ dX6_meanMark_106
def fX6_meanMark_87 (F : Nat) (M : Mem) (s0 : Int32) (v1 : Int32) (v2 : Int32) : Option (Mem × UInt64) :=
    q_lt (up M 69 0 0 s0) fun M1 =>
    if (M1 69 0 0) ≤ (0 : Int32) then
    (q_gd (q_n64 (FP.ddiv (FP.i2d v1) (FP.i2d v2))) (
    fX6_meanMark_106 F M1 (FP.ddiv (FP.i2d v1) (FP.i2d v2))))
    else
    (fX6_meanMark_106 F M1 (FP.dconst0))
set_option maxHeartbeats 4000000 in
set_option maxRecDepth 100000 in
theorem wX6_meanMark_87 {p : Program} {l : Launch} {e : Env} {s : State} {m : MethodId} {args : Array Value} {below : List Frame} {meth : Method} {c : Code} {D : va_G} {cy : Nat → ClassId} {ad : Nat → Nat} {x : XX} {F : Nat} {r : Mem × UInt64} (hst : l.stackTraces = false) (C0 : MX p l s m args meth c D cy ad cX6_meanMark RX6 5 wsX6_meanMark (some .double)) : ∀ (M : Mem) (s0 : Int32) (v1 : Int32) (v2 : Int32) (H : Heap) (locs : List Loc) (ls : Array Slot), Wd D cy ad x s M H locs → lv_has ls 5 [(0, .ref (ad 427)), (1, .int v1), (2, .int v2)] → fX6_meanMark_87 F M s0 v1 v2 = some r → W p l e rmX6_meanMark s m args below meth c H locs 0 0 (QN D cy ad below args s x q_vd r 0 0) (F0 m 87 ls [.int s0, .ref (ad 427)]) := by
  obtain ⟨hx, hb, hml, hown, hts, -⟩ := id C0
  intro M s0 v1 v2 H locs ls hw hl h
  unfold fX6_meanMark_87 at h
  refine pf_Mod_thrown C0 hw (fun _ h9 => List.mem_cons_of_mem _ (List.mem_append_left _ (List.mem_append_right _ h9))) (List.mem_of_getElem? (i := 5) rfl) dX6_meanMark_87 h (fun M1 H locs hw h => ?_)
  refine lv_aload_n hx hb dX6_meanMark_90 rfl (lv_at hl 0 rfl) ?_
  refine gf_Mod_thrown C0 hw (fun _ h9 => List.mem_cons_of_mem _ (List.mem_append_left _ (List.mem_append_right _ h9))) (List.mem_of_getElem? (i := 5) rfl) dX6_meanMark_91 ?_
  refine q_if_le (tgt := 101) hx hb dX6_meanMark_94 (by decide) h (fun h => ?_) (fun h => ?_)
  · refine lv_iload_n hx hb dX6_meanMark_101 rfl (lv_at hl 1 rfl) ?_
    refine lv_i2d hx hb dX6_meanMark_102 ?_
    refine lv_iload_n hx hb dX6_meanMark_103 rfl (lv_at hl 2 rfl) ?_
    refine lv_i2d hx hb dX6_meanMark_104 ?_
    refine q_guard h (fun g h => ?_)
    refine lv_ddiv hx hb dX6_meanMark_105 (q_n64_in g) ?_
    exact wX6_meanMark_106 hst C0  M1 (FP.ddiv (FP.i2d v1) (FP.i2d v2)) _ _ _ hw (lv_sub hl [] rfl) h
  · refine lv_dconst0 hx hb dX6_meanMark_97 ?_
    refine lv_goto (tgt := 106) hx hb dX6_meanMark_98 (by decide) ?_
    exact wX6_meanMark_106 hst C0  M1 (FP.dconst0) _ _ _ hw (lv_sub hl [] rfl) h
def fX6_meanMark_65 (F : Nat) (k17 : Mem → Int32 → Int32 → Int32 → Int32 → Option (Mem × UInt64)) (M : Mem) (v1 : Int32) (v2 : Int32) (v3 : Int32) (v4 : Int32) : Option (Mem × UInt64) :=
    q_lt (v4 + (1 : Int32)) fun z1 =>
    k17 M v1 v2 v3 z1
set_option maxHeartbeats 4000000 in
set_option maxRecDepth 100000 in
theorem wX6_meanMark_65 {p : Program} {l : Launch} {e : Env} {s : State} {m : MethodId} {args : Array Value} {below : List Frame} {meth : Method} {c : Code} {D : va_G} {cy : Nat → ClassId} {ad : Nat → Nat} {x : XX} {F : Nat} {r : Mem × UInt64} (hst : l.stackTraces = false) (C0 : MX p l s m args meth c D cy ad cX6_meanMark RX6 5 wsX6_meanMark (some .double)) {k17 : Mem → Int32 → Int32 → Int32 → Int32 → Option (Mem × UInt64)} (hk17 : ∀ (M : Mem) (v1 : Int32) (v2 : Int32) (v3 : Int32) (v4 : Int32) (H : Heap) (locs : List Loc) (ls : Array Slot), Wd D cy ad x s M H locs → lv_has ls 5 [(0, .ref (ad 427)), (1, .int v1), (2, .int v2), (3, .int v3), (4, .int v4)] → k17 M v1 v2 v3 v4 = some r → W p l e rmX6_meanMark s m args below meth c H locs 0 0 (QN D cy ad below args s x q_vd r 0 0) (F0 m 17 ls [])) : ∀ (M : Mem) (v1 : Int32) (v2 : Int32) (v3 : Int32) (v4 : Int32) (H : Heap) (locs : List Loc) (ls : Array Slot), Wd D cy ad x s M H locs → lv_has ls 5 [(0, .ref (ad 427)), (1, .int v1), (2, .int v2), (3, .int v3), (4, .int v4)] → fX6_meanMark_65 F k17 M v1 v2 v3 v4 = some r → W p l e rmX6_meanMark s m args below meth c H locs 0 0 (QN D cy ad below args s x q_vd r 0 0) (F0 m 65 ls []) := by
  obtain ⟨hx, hb, hml, hown, hts, -⟩ := id C0
  intro M v1 v2 v3 v4 H locs ls hw hl h
  unfold fX6_meanMark_65 at h
  refine q_iinc (k := 4) (cst := 1) (lv' := fun z1 => [(4, .int z1), (0, .ref (ad 427)), (1, .int v1), (2, .int v2), (3, .int v3)]) hx hb dX6_meanMark_65 hl rfl rfl (by decide) (fun _ => rfl) h (fun z1 ls hl h => ?_)
  refine lv_goto (tgt := 17) hx hb dX6_meanMark_68 (by decide) ?_
  exact hk17 M v1 v2 v3 z1 _ _ _ hw (lv_sub hl [1, 2, 3, 4, 0] rfl) h
def fX6_meanMark_17 (F : Nat) (k6 : Mem → Int32 → Int32 → Int32 → Option (Mem × UInt64)) : Nat → Mem → Int32 → Int32 → Int32 → Int32 → Option (Mem × UInt64)
  | 0, _, _, _, _, _ => none
  | n + 1, M, v1, v2, v3, v4 =>
    if (M 63 0 0) ≤ v4 then
    (q_lt (v3 + (1 : Int32)) fun z1 =>
    k6 M v1 v2 z1)
    else
    (q_ax v4 10 fun j1 =>
    q_ax v3 12 fun j2 =>
    if (M 27 0 j1) = (M 26 0 j2) then
    (q_bn (fX6_isFrozenOf F M v3 v4) fun M3 z4 =>
    if z4 = (0 : Int32) then
    (q_bn (fX6_markOf F M3 v3 v4) fun M5 z6 =>
    q_lt (v1 + z6) fun z7 =>
    q_lt (v2 + (1 : Int32)) fun z8 =>
    fX6_meanMark_65 F (fX6_meanMark_17 F k6 n) M5 z7 z8 v3 v4)
    else
    (fX6_meanMark_65 F (fX6_meanMark_17 F k6 n) M3 v1 v2 v3 v4))
    else
    (fX6_meanMark_65 F (fX6_meanMark_17 F k6 n) M v1 v2 v3 v4))
set_option maxHeartbeats 4000000 in
set_option maxRecDepth 100000 in
theorem wX6_meanMark_17 {p : Program} {l : Launch} {e : Env} {s : State} {m : MethodId} {args : Array Value} {below : List Frame} {meth : Method} {c : Code} {D : va_G} {cy : Nat → ClassId} {ad : Nat → Nat} {x : XX} {F : Nat} {r : Mem × UInt64} (hst : l.stackTraces = false) (C0 : MX p l s m args meth c D cy ad cX6_meanMark RX6 5 wsX6_meanMark (some .double)) {k6 : Mem → Int32 → Int32 → Int32 → Option (Mem × UInt64)} (hk6 : ∀ (M : Mem) (v1 : Int32) (v2 : Int32) (v3 : Int32) (H : Heap) (locs : List Loc) (ls : Array Slot), Wd D cy ad x s M H locs → lv_has ls 5 [(0, .ref (ad 427)), (1, .int v1), (2, .int v2), (3, .int v3)] → k6 M v1 v2 v3 = some r → W p l e rmX6_meanMark s m args below meth c H locs 0 0 (QN D cy ad below args s x q_vd r 0 0) (F0 m 6 ls [])) : ∀ (n : Nat) (M : Mem) (v1 : Int32) (v2 : Int32) (v3 : Int32) (v4 : Int32) (H : Heap) (locs : List Loc) (ls : Array Slot), Wd D cy ad x s M H locs → lv_has ls 5 [(0, .ref (ad 427)), (1, .int v1), (2, .int v2), (3, .int v3), (4, .int v4)] → fX6_meanMark_17 F k6 n M v1 v2 v3 v4 = some r → W p l e rmX6_meanMark s m args below meth c H locs 0 0 (QN D cy ad below args s x q_vd r 0 0) (F0 m 17 ls []) := by
  obtain ⟨hx, hb, hml, hown, hts, -⟩ := id C0
  intro n
  induction n with
  | zero =>
    intro M v1 v2 v3 v4 H locs ls hw hl h
    exact q_no h
  | succ n ih =>
    intro M v1 v2 v3 v4 H locs ls hw hl h
    unfold fX6_meanMark_17 at h
    refine lv_iload hx hb dX6_meanMark_17 (lv_at hl 4 rfl) ?_
    refine lv_aload_n hx hb dX6_meanMark_19 rfl (lv_at hl 0 rfl) ?_
    refine gf_Mod_tasks C0 hw (fun _ h9 => List.mem_cons_of_mem _ (List.mem_append_left _ (List.mem_append_right _ h9))) (List.mem_of_getElem? (i := 2) rfl) dX6_meanMark_20 ?_
    refine q_icmp_ge (tgt := 71) hx hb dX6_meanMark_23 (by decide) h (fun h => ?_) (fun h => ?_)
    · refine q_iinc (k := 3) (cst := 1) (lv' := fun z1 => [(3, .int z1), (0, .ref (ad 427)), (1, .int v1), (2, .int v2), (4, .int v4)]) hx hb dX6_meanMark_71 hl rfl rfl (by decide) (fun _ => rfl) h (fun z1 ls hl h => ?_)
      refine lv_goto (tgt := 6) hx hb dX6_meanMark_74 (by decide) ?_
      exact hk6 M v1 v2 z1 _ _ _ hw (lv_sub hl [1, 2, 3, 0] rfl) h
    · refine lv_aload_n hx hb dX6_meanMark_26 rfl (lv_at hl 0 rfl) ?_
      refine gf_Mod_taskClass C0 hw (fun _ h9 => List.mem_cons_of_mem _ (List.mem_append_left _ (List.mem_append_right _ h9))) (List.mem_of_getElem? (i := 3) rfl) dX6_meanMark_27 ?_
      refine lv_iload hx hb dX6_meanMark_30 (lv_at hl 4 rfl) ?_
      refine q_iald C0 hw at_m27 h dX6_meanMark_32 (fun j1 hj1 h => ?_)
      refine lv_aload_n hx hb dX6_meanMark_33 rfl (lv_at hl 0 rfl) ?_
      refine gf_Mod_classOf C0 hw (fun _ h9 => List.mem_cons_of_mem _ (List.mem_append_left _ (List.mem_append_right _ h9))) (List.mem_of_getElem? (i := 4) rfl) dX6_meanMark_34 ?_
      refine lv_iload_n hx hb dX6_meanMark_37 rfl (lv_at hl 3 rfl) ?_
      refine q_iald C0 hw at_m26 h dX6_meanMark_38 (fun j2 hj2 h => ?_)
      refine q_icmp_ne (tgt := 65) hx hb dX6_meanMark_39 (by decide) h (fun h => ?_) (fun h => ?_)
      · exact wX6_meanMark_65 hst C0 ih M v1 v2 v3 v4 _ _ _ hw (lv_sub hl [0, 1, 2, 3, 4] rfl) h
      · refine lv_aload_n hx hb dX6_meanMark_42 rfl (lv_at hl 0 rfl) ?_
        refine lv_iload_n hx hb dX6_meanMark_43 rfl (lv_at hl 3 rfl) ?_
        refine lv_iload hx hb dX6_meanMark_44 (lv_at hl 4 rfl) ?_
        refine q_callVNi (As := [.int v3, .int v4]) (nA := 2) C0 hw at_Mod rfl (fun r1 h1 => ctX6_isFrozenOf hst h1) gX6_meanMark_X6_isFrozenOf rfl ⟨rfl, rfl⟩ (by decide +kernel) rfl ⟨(Nat.le_of_ble_eq_true rfl), (Nat.le_of_ble_eq_true rfl)⟩ hl.1 (Nat.le_of_ble_eq_true rfl) ⟨(Nat.le_of_ble_eq_true rfl), (Nat.le_of_ble_eq_true rfl)⟩ rfl h dX6_meanMark_46 (fun M3 z4 H locs hw h => ?_)
        refine q_if_ne (tgt := 65) hx hb dX6_meanMark_49 (by decide) h (fun h => ?_) (fun h => ?_)
        · exact wX6_meanMark_65 hst C0 ih M3 v1 v2 v3 v4 _ _ _ hw (lv_sub hl [0, 1, 2, 3, 4] rfl) h
        · refine lv_iload_n hx hb dX6_meanMark_52 rfl (lv_at hl 1 rfl) ?_
          refine lv_aload_n hx hb dX6_meanMark_53 rfl (lv_at hl 0 rfl) ?_
          refine lv_iload_n hx hb dX6_meanMark_54 rfl (lv_at hl 3 rfl) ?_
          refine lv_iload hx hb dX6_meanMark_55 (lv_at hl 4 rfl) ?_
          refine q_callVNi (As := [.int v3, .int v4]) (nA := 2) C0 hw at_Mod rfl (fun r1 h1 => ctX6_markOf hst h1) gX6_meanMark_X6_markOf rfl ⟨rfl, rfl⟩ (by decide +kernel) rfl ⟨(Nat.le_of_ble_eq_true rfl), (Nat.le_of_ble_eq_true rfl)⟩ hl.1 (Nat.le_of_ble_eq_true rfl) ⟨(Nat.le_of_ble_eq_true rfl), (Nat.le_of_ble_eq_true rfl)⟩ rfl h dX6_meanMark_57 (fun M5 z6 H locs hw h => ?_)
          refine lv_iadd hx hb dX6_meanMark_60 ?_
          refine q_istore_n (lv' := fun z7 => [(1, .int z7), (0, .ref (ad 427)), (2, .int v2), (3, .int v3), (4, .int v4)]) hx hb dX6_meanMark_61 rfl hl (by decide) (fun _ => rfl) h (fun z7 ls hl h => ?_)
          refine q_iinc (k := 2) (cst := 1) (lv' := fun z8 => [(2, .int z8), (1, .int z7), (0, .ref (ad 427)), (3, .int v3), (4, .int v4)]) hx hb dX6_meanMark_62 hl rfl rfl (by decide) (fun _ => rfl) h (fun z8 ls hl h => ?_)
          exact wX6_meanMark_65 hst C0 ih M5 z7 z8 v3 v4 _ _ _ hw (lv_sub hl [2, 1, 0, 3, 4] rfl) h
def fX6_meanMark_6 (F : Nat) : Nat → Mem → Int32 → Int32 → Int32 → Option (Mem × UInt64)
  | 0, _, _, _, _ => none
  | n + 1, M, v1, v2, v3 =>
    if (M 62 0 0) ≤ v3 then
    (if v2 = (0 : Int32) then
    (fX6_meanMark_87 F M (1 : Int32) v1 v2)
    else
    (fX6_meanMark_87 F M (0 : Int32) v1 v2))
    else
    (q_lt ((0 : Int32)) fun z1 =>
    fX6_meanMark_17 F (fX6_meanMark_6 F n) F M v1 v2 v3 z1)
set_option maxHeartbeats 4000000 in
set_option maxRecDepth 100000 in
theorem wX6_meanMark_6 {p : Program} {l : Launch} {e : Env} {s : State} {m : MethodId} {args : Array Value} {below : List Frame} {meth : Method} {c : Code} {D : va_G} {cy : Nat → ClassId} {ad : Nat → Nat} {x : XX} {F : Nat} {r : Mem × UInt64} (hst : l.stackTraces = false) (C0 : MX p l s m args meth c D cy ad cX6_meanMark RX6 5 wsX6_meanMark (some .double)) : ∀ (n : Nat) (M : Mem) (v1 : Int32) (v2 : Int32) (v3 : Int32) (H : Heap) (locs : List Loc) (ls : Array Slot), Wd D cy ad x s M H locs → lv_has ls 5 [(0, .ref (ad 427)), (1, .int v1), (2, .int v2), (3, .int v3)] → fX6_meanMark_6 F n M v1 v2 v3 = some r → W p l e rmX6_meanMark s m args below meth c H locs 0 0 (QN D cy ad below args s x q_vd r 0 0) (F0 m 6 ls []) := by
  obtain ⟨hx, hb, hml, hown, hts, -⟩ := id C0
  intro n
  induction n with
  | zero =>
    intro M v1 v2 v3 H locs ls hw hl h
    exact q_no h
  | succ n ih =>
    intro M v1 v2 v3 H locs ls hw hl h
    unfold fX6_meanMark_6 at h
    refine lv_iload_n hx hb dX6_meanMark_6 rfl (lv_at hl 3 rfl) ?_
    refine lv_aload_n hx hb dX6_meanMark_7 rfl (lv_at hl 0 rfl) ?_
    refine gf_Mod_pupils C0 hw (fun _ h9 => List.mem_cons_of_mem _ (List.mem_append_left _ (List.mem_append_right _ h9))) (List.mem_of_getElem? (i := 1) rfl) dX6_meanMark_8 ?_
    refine q_icmp_ge (tgt := 77) hx hb dX6_meanMark_11 (by decide) h (fun h => ?_) (fun h => ?_)
    · refine lv_aload_n hx hb dX6_meanMark_77 rfl (lv_at hl 0 rfl) ?_
      refine lv_iload_n hx hb dX6_meanMark_78 rfl (lv_at hl 2 rfl) ?_
      refine q_if_ne (tgt := 86) hx hb dX6_meanMark_79 (by decide) h (fun h => ?_) (fun h => ?_)
      · refine lv_iconst (v := 0) hx hb dX6_meanMark_86 (by decide) ?_
        exact wX6_meanMark_87 hst C0  M (0 : Int32) v1 v2 _ _ _ hw (lv_sub hl [0, 1, 2] rfl) h
      · refine lv_iconst (v := 1) hx hb dX6_meanMark_82 (by decide) ?_
        refine lv_goto (tgt := 87) hx hb dX6_meanMark_83 (by decide) ?_
        exact wX6_meanMark_87 hst C0  M (1 : Int32) v1 v2 _ _ _ hw (lv_sub hl [0, 1, 2] rfl) h
    · refine lv_iconst (v := 0) hx hb dX6_meanMark_14 (by decide) ?_
      refine q_istore (lv' := fun z1 => [(4, .int z1), (0, .ref (ad 427)), (1, .int v1), (2, .int v2), (3, .int v3)]) hx hb dX6_meanMark_15 hl (by decide) (fun _ => rfl) h (fun z1 ls hl h => ?_)
      exact wX6_meanMark_17 hst C0 ih F M v1 v2 v3 z1 _ _ _ hw (lv_sub hl [1, 2, 3, 4, 0] rfl) h
def fX6_meanMark (F : Nat) (M : Mem) : Option (Mem × UInt64) :=
    q_lt ((0 : Int32)) fun z1 =>
    q_lt ((0 : Int32)) fun z2 =>
    q_lt ((0 : Int32)) fun z3 =>
    fX6_meanMark_6 F F M z1 z2 z3
set_option maxHeartbeats 4000000 in
set_option maxRecDepth 100000 in
theorem ctX6_meanMark {l : Launch} (hst : l.stackTraces = false) {D : va_G} {cy : Nat → ClassId} {ad : Nat → Nat} {x : XX} {F : Nat} {M : Mem} {r : Mem × UInt64} (h : fX6_meanMark F M = some r) : CN l yX6_meanMark wsX6_meanMark rmX6_meanMark D cy ad [.ref (ad 427)] x M x r.1 (q_vd r.2) 0 0 := by
  refine q_startN (cc := cX6_meanMark) (maxL := 5) (ret := (some .double)) (by decide) rfl (Nat.le_of_ble_eq_true rfl) ?_
  intro p e s m args below meth c ls C0 hw hl hnm
  obtain ⟨hx, hb, hml, hown, hts, -⟩ := id C0
  have C0 : MX p l s m args meth c D cy ad cX6_meanMark RX6 5 wsX6_meanMark ((some .double)) := C0
  have hown : s.vm.findClass RX6 = some m.cls := hown
  have hl : lv_has ls 5 [(0, .ref (ad 427))] := hl
  show W p l e rmX6_meanMark s m args below meth c s.heap [] 0 0 (QN D cy ad below args s x q_vd r 0 0) (F0 m 0 ls [])
  unfold fX6_meanMark at h
  refine lv_iconst (v := 0) hx hb dX6_meanMark_0 (by decide) ?_
  refine q_istore_n (lv' := fun z1 => [(1, .int z1), (0, .ref (ad 427))]) hx hb dX6_meanMark_1 rfl hl (by decide) (fun _ => rfl) h (fun z1 ls hl h => ?_)
  refine lv_iconst (v := 0) hx hb dX6_meanMark_2 (by decide) ?_
  refine q_istore_n (lv' := fun z2 => [(2, .int z2), (1, .int z1), (0, .ref (ad 427))]) hx hb dX6_meanMark_3 rfl hl (by decide) (fun _ => rfl) h (fun z2 ls hl h => ?_)
  refine lv_iconst (v := 0) hx hb dX6_meanMark_4 (by decide) ?_
  refine q_istore_n (lv' := fun z3 => [(3, .int z3), (2, .int z2), (1, .int z1), (0, .ref (ad 427))]) hx hb dX6_meanMark_5 rfl hl (by decide) (fun _ => rfl) h (fun z3 ls hl h => ?_)
  exact wX6_meanMark_6 hst C0  F M z1 z2 z3 _ _ _ hw (lv_sub hl [3, 2, 1, 0] rfl) h
/-! HomewatcherModel.isTrue()Z -/
abbrev rmX6_isTrue : Room := { frames := 0, cells := 0, slots := 0, locals := 0 }
def fX6_isTrue (F : Nat) (M : Mem) : Option (Mem × Int32) :=
    q_lt (up M 69 0 0 (0 : Int32)) fun M1 =>
    some (M1, (1 : Int32))
set_option maxHeartbeats 4000000 in
set_option maxRecDepth 100000 in
theorem ctX6_isTrue {l : Launch} (hst : l.stackTraces = false) {D : va_G} {cy : Nat → ClassId} {ad : Nat → Nat} {x : XX} {F : Nat} {M : Mem} {r : Mem × Int32} (h : fX6_isTrue F M = some r) : CN l yX6_isTrue wsX6_isTrue rmX6_isTrue D cy ad [.ref (ad 427)] x M x r.1 (q_vi r.2) 0 0 := by
  refine q_startN (cc := cX6_isTrue) (maxL := 1) (ret := (some .boolean)) (by decide) rfl (Nat.le_of_ble_eq_true rfl) ?_
  intro p e s m args below meth c ls C0 hw hl hnm
  obtain ⟨hx, hb, hml, hown, hts, -⟩ := id C0
  have C0 : MX p l s m args meth c D cy ad cX6_isTrue RX6 1 wsX6_isTrue ((some .boolean)) := C0
  have hown : s.vm.findClass RX6 = some m.cls := hown
  have hl : lv_has ls 1 [(0, .ref (ad 427))] := hl
  show W p l e rmX6_isTrue s m args below meth c s.heap [] 0 0 (QN D cy ad below args s x q_vi r 0 0) (F0 m 0 ls [])
  unfold fX6_isTrue at h
  refine lv_aload_n hx hb dX6_isTrue_0 rfl (lv_at hl 0 rfl) ?_
  refine lv_iconst (v := 0) hx hb dX6_isTrue_1 (by decide) ?_
  refine pf_Mod_thrown C0 hw (fun _ h9 => List.mem_cons_of_mem _ (List.mem_append_right _ h9)) (List.mem_of_getElem? (i := 1) rfl) dX6_isTrue_2 h (fun M1 H locs hw h => ?_)
  refine lv_iconst (v := 1) hx hb dX6_isTrue_5 (by decide) ?_
  exact q_zretN C0 hw rfl h ⟨(Nat.le_of_ble_eq_true rfl), (Nat.le_of_ble_eq_true rfl)⟩ dX6_isTrue_6
