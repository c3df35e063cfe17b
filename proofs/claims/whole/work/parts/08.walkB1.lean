/-! Homewatcher.needRange(III)V -/
abbrev rmX5_needRange : Room := { frames := 6, cells := 1, slots := 6, locals := 90 }
def fX5_needRange_10 (F : Nat) (M : Mem) : Option (Mem × (Unit ⊕ Nat)) :=
    some (M, Sum.inr 1)
set_option maxHeartbeats 4000000 in
set_option maxRecDepth 100000 in
theorem wX5_needRange_10 {p : Program} {l : Launch} {e : Env} {s : State} {m : MethodId} {args : Array Value} {below : List Frame} {meth : Method} {c : Code} {D : va_G} {cy : Nat → ClassId} {ad : Nat → Nat} {x : XX} {F : Nat} {r : Mem × (Unit ⊕ Nat)} (hst : l.stackTraces = false) (C0 : MX p l s m args meth c D cy ad cX5_needRange RX5 3 wsX5_needRange (none)) (ht : ∀ z ∈ c.exceptionTable.toList, False) : ∀ (M : Mem) (H : Heap) (locs : List Loc) (ls : Array Slot), Wd D cy ad x s M H locs → lv_has ls 3 [] → fX5_needRange_10 F M = some r → W p l e rmX5_needRange s m args below meth c H locs 0 0 (QT D cy ad below args s x q_vv r 1 6) (F0 m 10 ls []) := by
  obtain ⟨hx, hb, hml, hown, hts, -⟩ := id C0
  intro M H locs ls hw hl h
  unfold fX5_needRange_10 at h
  exact q_thrSW C0 ht hst hw (ik := 210) (is := 346) (ic := 214) xp_214 (List.mem_of_getElem? (i := 1) rfl) (List.mem_of_getElem? (i := 2) rfl) (List.mem_of_getElem? (i := 0) rfl) (fun _ h9 => List.mem_cons_of_mem _ (List.mem_append_right _ h9)) hl.1 dX5_needRange_10 dX5_needRange_13 dX5_needRange_14 dX5_needRange_17 dX5_needRange_20 ⟨(Nat.le_of_ble_eq_true rfl), (Nat.le_of_ble_eq_true rfl), (Nat.le_of_ble_eq_true rfl), (Nat.le_of_ble_eq_true rfl)⟩ ⟨(Nat.le_of_ble_eq_true rfl), (Nat.le_of_ble_eq_true rfl)⟩ h
def fX5_needRange (F : Nat) (M : Mem) (a0 : Int32) (a1 : Int32) (a2 : Int32) : Option (Mem × (Unit ⊕ Nat)) :=
    if a0 < a1 then
    (fX5_needRange_10 F M)
    else
    (if a0 ≤ a2 then
    (some (M, Sum.inl ()))
    else
    (fX5_needRange_10 F M))
set_option maxHeartbeats 4000000 in
set_option maxRecDepth 100000 in
theorem ctX5_needRange {l : Launch} (hst : l.stackTraces = false) {D : va_G} {cy : Nat → ClassId} {ad : Nat → Nat} {x : XX} {F : Nat} {M : Mem} {a0 : Int32} {a1 : Int32} {a2 : Int32} {r : Mem × (Unit ⊕ Nat)} (h : fX5_needRange F M a0 a1 a2 = some r) : CT l yX5_needRange wsX5_needRange rmX5_needRange D cy ad [.int a0, .int a1, .int a2] x M r.1 (q_ou q_vv r.2) 1 6 := by
  refine q_startT (cc := cX5_needRange) (maxL := 3) (ret := none) (by decide) rfl (Nat.le_of_ble_eq_true rfl) ?_
  intro p e s m args below meth c ls C0 hw hl ht
  obtain ⟨hx, hb, hml, hown, hts, -⟩ := id C0
  have C0 : MX p l s m args meth c D cy ad cX5_needRange RX5 3 wsX5_needRange (none) := C0
  have hown : s.vm.findClass RX5 = some m.cls := hown
  have hl : lv_has ls 3 [(0, .int a0), (1, .int a1), (2, .int a2)] := hl
  show W p l e rmX5_needRange s m args below meth c s.heap [] 0 0 (QT D cy ad below args s x q_vv r 1 6) (F0 m 0 ls [])
  unfold fX5_needRange at h
  refine lv_iload_n hx hb dX5_needRange_0 rfl (lv_at hl 0 rfl) ?_
  refine lv_iload_n hx hb dX5_needRange_1 rfl (lv_at hl 1 rfl) ?_
  refine q_icmp_lt (tgt := 10) hx hb dX5_needRange_2 (by decide) h (fun h => ?_) (fun h => ?_)
  · exact wX5_needRange_10 hst C0 ht  M _ _ _ hw (lv_sub hl [] rfl) h
  · refine lv_iload_n hx hb dX5_needRange_5 rfl (lv_at hl 0 rfl) ?_
    refine lv_iload_n hx hb dX5_needRange_6 rfl (lv_at hl 2 rfl) ?_
    refine q_icmp_le (tgt := 21) hx hb dX5_needRange_7 (by decide) h (fun h => ?_) (fun h => ?_)
    · exact q_vretT C0 hw h ⟨(Nat.le_of_ble_eq_true rfl), (Nat.le_of_ble_eq_true rfl)⟩ dX5_needRange_21
    · exact wX5_needRange_10 hst C0 ht  M _ _ _ hw (lv_sub hl [] rfl) h
/-! Homewatcher.classroom(I)I -/
abbrev rmX5_classroom : Room := { frames := 7, cells := 2, slots := 12, locals := 112 }
def fX5_classroom (F : Nat) (M : Mem) (a0 : Int32) : Option (Mem × (Int32 ⊕ Nat)) :=
    q_bx (fX5_needRange F M a0 (-720 : Int32) (720 : Int32)) fun M1 _ =>
    if (M1 0 0 0) < (4 : Int32) then
    (q_ax (M1 0 0 0) 4 fun j3 =>
    q_lt (up M1 20 0 j3 a0) fun M4 =>
    q_lt (up M4 0 0 0 ((M4 0 0 0) + (1 : Int32))) fun M5 =>
    some (M5, Sum.inl ((M5 0 0 0) - (1 : Int32))))
    else
    (some (M1, Sum.inr 2))
set_option maxHeartbeats 4000000 in
set_option maxRecDepth 100000 in
theorem ctX5_classroom {l : Launch} (hst : l.stackTraces = false) {D : va_G} {cy : Nat → ClassId} {ad : Nat → Nat} {x : XX} {F : Nat} {M : Mem} {a0 : Int32} {r : Mem × (Int32 ⊕ Nat)} (h : fX5_classroom F M a0 = some r) : CT l yX5_classroom wsX5_classroom rmX5_classroom D cy ad [.ref (ad 0), .int a0] x M r.1 (q_ou q_vi r.2) 2 12 := by
  refine q_startT (cc := cX5_classroom) (maxL := 2) (ret := (some .int)) (by decide) rfl (Nat.le_of_ble_eq_true rfl) ?_
  intro p e s m args below meth c ls C0 hw hl ht
  obtain ⟨hx, hb, hml, hown, hts, -⟩ := id C0
  have C0 : MX p l s m args meth c D cy ad cX5_classroom RX5 2 wsX5_classroom ((some .int)) := C0
  have hown : s.vm.findClass RX5 = some m.cls := hown
  have hl : lv_has ls 2 [(0, .ref (ad 0)), (1, .int a0)] := hl
  show W p l e rmX5_classroom s m args below meth c s.heap [] 0 0 (QT D cy ad below args s x q_vi r 2 12) (F0 m 0 ls [])
  unfold fX5_classroom at h
  refine lv_iload_n hx hb dX5_classroom_0 rfl (lv_at hl 1 rfl) ?_
  refine lv_sipush (v := -720) hx hb dX5_classroom_1 (by decide) ?_
  refine lv_sipush (v := 720) hx hb dX5_classroom_4 (by decide) ?_
  refine q_callSTv (As := [.int a0, .int ((-720 : Int32)), .int ((720 : Int32))]) (nA := 3) C0 ht hw (fun r1 h1 => ctX5_needRange hst h1) gX5_classroom_X5_needRange rfl ⟨rfl, rfl⟩ (by decide +kernel) rfl ⟨(Nat.le_of_ble_eq_true rfl), (Nat.le_of_ble_eq_true rfl)⟩ hl.1 (Nat.le_of_ble_eq_true rfl) ⟨(Nat.le_of_ble_eq_true rfl), (Nat.le_of_ble_eq_true rfl)⟩ ⟨(Nat.le_of_ble_eq_true rfl), (Nat.le_of_ble_eq_true rfl)⟩ rfl h dX5_classroom_7 (fun M1 H locs hw h => ?_)
  refine lv_aload_n hx hb dX5_classroom_10 rfl (lv_at hl 0 rfl) ?_
  refine gf_HW_classCount C0 hw (fun _ h9 => List.mem_cons_of_mem _ (List.mem_append_left _ (List.mem_append_left _ (List.mem_append_left _ (List.mem_append_right _ h9))))) (List.mem_of_getElem? (i := 3) rfl) dX5_classroom_11 ?_
  refine lv_iconst (v := 4) hx hb dX5_classroom_14 (by decide) ?_
  refine q_icmp_lt (tgt := 28) hx hb dX5_classroom_15 (by decide) h (fun h => ?_) (fun h => ?_)
  · refine lv_aload_n hx hb dX5_classroom_28 rfl (lv_at hl 0 rfl) ?_
    refine gf_HW_offsets C0 hw (fun _ h9 => List.mem_cons_of_mem _ (List.mem_append_left _ (List.mem_append_left _ (List.mem_append_left _ (List.mem_append_right _ h9))))) (List.mem_of_getElem? (i := 4) rfl) dX5_classroom_29 ?_
    refine lv_aload_n hx hb dX5_classroom_32 rfl (lv_at hl 0 rfl) ?_
    refine gf_HW_classCount C0 hw (fun _ h9 => List.mem_cons_of_mem _ (List.mem_append_left _ (List.mem_append_left _ (List.mem_append_left _ (List.mem_append_right _ h9))))) (List.mem_of_getElem? (i := 3) rfl) dX5_classroom_33 ?_
    refine lv_iload_n hx hb dX5_classroom_36 rfl (lv_at hl 1 rfl) ?_
    refine q_iast (v := 20) C0 hw rfl (fun _ => at_a20) h dX5_classroom_37 (fun j3 M4 H locs hj3 hw h => ?_)
    refine lv_aload_n hx hb dX5_classroom_38 rfl (lv_at hl 0 rfl) ?_
    refine lv_dup hx hb dX5_classroom_39 rfl ?_
    refine gf_HW_classCount C0 hw (fun _ h9 => List.mem_cons_of_mem _ (List.mem_append_left _ (List.mem_append_left _ (List.mem_append_left _ (List.mem_append_right _ h9))))) (List.mem_of_getElem? (i := 3) rfl) dX5_classroom_40 ?_
    refine lv_iconst (v := 1) hx hb dX5_classroom_43 (by decide) ?_
    refine lv_iadd hx hb dX5_classroom_44 ?_
    refine pf_HW_classCount C0 hw (fun _ h9 => List.mem_cons_of_mem _ (List.mem_append_left _ (List.mem_append_left _ (List.mem_append_left _ (List.mem_append_right _ h9))))) (List.mem_of_getElem? (i := 3) rfl) dX5_classroom_45 h (fun M5 H locs hw h => ?_)
    refine lv_aload_n hx hb dX5_classroom_48 rfl (lv_at hl 0 rfl) ?_
    refine gf_HW_classCount C0 hw (fun _ h9 => List.mem_cons_of_mem _ (List.mem_append_left _ (List.mem_append_left _ (List.mem_append_left _ (List.mem_append_right _ h9))))) (List.mem_of_getElem? (i := 3) rfl) dX5_classroom_49 ?_
    refine lv_iconst (v := 1) hx hb dX5_classroom_52 (by decide) ?_
    refine lv_isub hx hb dX5_classroom_53 ?_
    exact q_iretT C0 hw h ⟨(Nat.le_of_ble_eq_true rfl), (Nat.le_of_ble_eq_true rfl)⟩ dX5_classroom_54
  · exact q_thrS C0 ht hst hw (ik := 70) (is := 72) (ic := 74) xp_74 (List.mem_of_getElem? (i := 1) rfl) (List.mem_of_getElem? (i := 2) rfl) (List.mem_of_getElem? (i := 1) rfl) (fun _ h9 => List.mem_cons_of_mem _ (List.mem_append_left _ (List.mem_append_left _ (List.mem_append_right _ h9)))) hl.1 dX5_classroom_18 dX5_classroom_21 dX5_classroom_22 dX5_classroom_24 dX5_classroom_27 ⟨(Nat.le_of_ble_eq_true rfl), (Nat.le_of_ble_eq_true rfl), (Nat.le_of_ble_eq_true rfl), (Nat.le_of_ble_eq_true rfl)⟩ ⟨(Nat.le_of_ble_eq_true rfl), (Nat.le_of_ble_eq_true rfl)⟩ h
/-! Homewatcher.needClass(I)V -/
abbrev rmX5_needClass : Room := { frames := 6, cells := 1, slots := 6, locals := 90 }
def fX5_needClass_12 (F : Nat) (M : Mem) : Option (Mem × (Unit ⊕ Nat)) :=
    some (M, Sum.inr 3)
set_option maxHeartbeats 4000000 in
set_option maxRecDepth 100000 in
theorem wX5_needClass_12 {p : Program} {l : Launch} {e : Env} {s : State} {m : MethodId} {args : Array Value} {below : List Frame} {meth : Method} {c : Code} {D : va_G} {cy : Nat → ClassId} {ad : Nat → Nat} {x : XX} {F : Nat} {r : Mem × (Unit ⊕ Nat)} (hst : l.stackTraces = false) (C0 : MX p l s m args meth c D cy ad cX5_needClass RX5 2 wsX5_needClass (none)) (ht : ∀ z ∈ c.exceptionTable.toList, False) : ∀ (M : Mem) (H : Heap) (locs : List Loc) (ls : Array Slot), Wd D cy ad x s M H locs → lv_has ls 2 [] → fX5_needClass_12 F M = some r → W p l e rmX5_needClass s m args below meth c H locs 0 0 (QT D cy ad below args s x q_vv r 1 6) (F0 m 12 ls []) := by
  obtain ⟨hx, hb, hml, hown, hts, -⟩ := id C0
  intro M H locs ls hw hl h
  unfold fX5_needClass_12 at h
  exact q_thrSW C0 ht hst hw (ik := 130) (is := 356) (ic := 134) xp_134 (List.mem_of_getElem? (i := 1) rfl) (List.mem_of_getElem? (i := 2) rfl) (List.mem_of_getElem? (i := 2) rfl) (fun _ h9 => List.mem_cons_of_mem _ (List.mem_append_right _ h9)) hl.1 dX5_needClass_12 dX5_needClass_15 dX5_needClass_16 dX5_needClass_19 dX5_needClass_22 ⟨(Nat.le_of_ble_eq_true rfl), (Nat.le_of_ble_eq_true rfl), (Nat.le_of_ble_eq_true rfl), (Nat.le_of_ble_eq_true rfl)⟩ ⟨(Nat.le_of_ble_eq_true rfl), (Nat.le_of_ble_eq_true rfl)⟩ h
def fX5_needClass (F : Nat) (M : Mem) (a0 : Int32) : Option (Mem × (Unit ⊕ Nat)) :=
    if a0 < (0 : Int32) then
    (fX5_needClass_12 F M)
    else
    (if a0 < (M 0 0 0) then
    (some (M, Sum.inl ()))
    else
    (fX5_needClass_12 F M))
set_option maxHeartbeats 4000000 in
set_option maxRecDepth 100000 in
theorem ctX5_needClass {l : Launch} (hst : l.stackTraces = false) {D : va_G} {cy : Nat → ClassId} {ad : Nat → Nat} {x : XX} {F : Nat} {M : Mem} {a0 : Int32} {r : Mem × (Unit ⊕ Nat)} (h : fX5_needClass F M a0 = some r) : CT l yX5_needClass wsX5_needClass rmX5_needClass D cy ad [.ref (ad 0), .int a0] x M r.1 (q_ou q_vv r.2) 1 6 := by
  refine q_startT (cc := cX5_needClass) (maxL := 2) (ret := none) (by decide) rfl (Nat.le_of_ble_eq_true rfl) ?_
  intro p e s m args below meth c ls C0 hw hl ht
  obtain ⟨hx, hb, hml, hown, hts, -⟩ := id C0
  have C0 : MX p l s m args meth c D cy ad cX5_needClass RX5 2 wsX5_needClass (none) := C0
  have hown : s.vm.findClass RX5 = some m.cls := hown
  have hl : lv_has ls 2 [(0, .ref (ad 0)), (1, .int a0)] := hl
  show W p l e rmX5_needClass s m args below meth c s.heap [] 0 0 (QT D cy ad below args s x q_vv r 1 6) (F0 m 0 ls [])
  unfold fX5_needClass at h
  refine lv_iload_n hx hb dX5_needClass_0 rfl (lv_at hl 1 rfl) ?_
  refine q_if_lt (tgt := 12) hx hb dX5_needClass_1 (by decide) h (fun h => ?_) (fun h => ?_)
  · exact wX5_needClass_12 hst C0 ht  M _ _ _ hw (lv_sub hl [] rfl) h
  · refine lv_iload_n hx hb dX5_needClass_4 rfl (lv_at hl 1 rfl) ?_
    refine lv_aload_n hx hb dX5_needClass_5 rfl (lv_at hl 0 rfl) ?_
    refine gf_HW_classCount C0 hw (fun _ h9 => List.mem_cons_of_mem _ (List.mem_append_left _ (List.mem_append_right _ h9))) (List.mem_of_getElem? (i := 3) rfl) dX5_needClass_6 ?_
    refine q_icmp_lt (tgt := 23) hx hb dX5_needClass_9 (by decide) h (fun h => ?_) (fun h => ?_)
    · exact q_vretT C0 hw h ⟨(Nat.le_of_ble_eq_true rfl), (Nat.le_of_ble_eq_true rfl)⟩ dX5_needClass_23
    · exact wX5_needClass_12 hst C0 ht  M _ _ _ hw (lv_sub hl [] rfl) h
/-! Homewatcher.pupil(I)I -/
abbrev rmX5_pupil : Room := { frames := 7, cells := 2, slots := 12, locals := 111 }
def fX5_pupil (F : Nat) (M : Mem) (a0 : Int32) : Option (Mem × (Int32 ⊕ Nat)) :=
    q_bx (fX5_needClass F M a0) fun M1 _ =>
    if (M1 1 0 0) < (12 : Int32) then
    (q_ax (M1 1 0 0) 12 fun j3 =>
    q_lt (up M1 21 0 j3 a0) fun M4 =>
    q_lt (up M4 1 0 0 ((M4 1 0 0) + (1 : Int32))) fun M5 =>
    some (M5, Sum.inl ((M5 1 0 0) - (1 : Int32))))
    else
    (some (M1, Sum.inr 2))
set_option maxHeartbeats 4000000 in
set_option maxRecDepth 100000 in
theorem ctX5_pupil {l : Launch} (hst : l.stackTraces = false) {D : va_G} {cy : Nat → ClassId} {ad : Nat → Nat} {x : XX} {F : Nat} {M : Mem} {a0 : Int32} {r : Mem × (Int32 ⊕ Nat)} (h : fX5_pupil F M a0 = some r) : CT l yX5_pupil wsX5_pupil rmX5_pupil D cy ad [.ref (ad 0), .int a0] x M r.1 (q_ou q_vi r.2) 2 12 := by
  refine q_startT (cc := cX5_pupil) (maxL := 2) (ret := (some .int)) (by decide) rfl (Nat.le_of_ble_eq_true rfl) ?_
  intro p e s m args below meth c ls C0 hw hl ht
  obtain ⟨hx, hb, hml, hown, hts, -⟩ := id C0
  have C0 : MX p l s m args meth c D cy ad cX5_pupil RX5 2 wsX5_pupil ((some .int)) := C0
  have hown : s.vm.findClass RX5 = some m.cls := hown
  have hl : lv_has ls 2 [(0, .ref (ad 0)), (1, .int a0)] := hl
  show W p l e rmX5_pupil s m args below meth c s.heap [] 0 0 (QT D cy ad below args s x q_vi r 2 12) (F0 m 0 ls [])
  unfold fX5_pupil at h
  refine lv_aload_n hx hb dX5_pupil_0 rfl (lv_at hl 0 rfl) ?_
  refine lv_iload_n hx hb dX5_pupil_1 rfl (lv_at hl 1 rfl) ?_
  refine q_callVTv (As := [.int a0]) (nA := 1) C0 ht hw at_HW rfl (fun r1 h1 => ctX5_needClass hst h1) gX5_pupil_X5_needClass rfl ⟨rfl, rfl⟩ (by decide +kernel) rfl ⟨(Nat.le_of_ble_eq_true rfl), (Nat.le_of_ble_eq_true rfl)⟩ hl.1 (Nat.le_of_ble_eq_true rfl) ⟨(Nat.le_of_ble_eq_true rfl), (Nat.le_of_ble_eq_true rfl)⟩ ⟨(Nat.le_of_ble_eq_true rfl), (Nat.le_of_ble_eq_true rfl)⟩ rfl h dX5_pupil_2 (fun M1 H locs hw h => ?_)
  refine lv_aload_n hx hb dX5_pupil_5 rfl (lv_at hl 0 rfl) ?_
  refine gf_HW_pupilCount C0 hw (fun _ h9 => List.mem_cons_of_mem _ (List.mem_append_left _ (List.mem_append_left _ (List.mem_append_left _ (List.mem_append_right _ h9))))) (List.mem_of_getElem? (i := 3) rfl) dX5_pupil_6 ?_
  refine lv_bipush (v := 12) hx hb dX5_pupil_9 (by decide) ?_
  refine q_icmp_lt (tgt := 24) hx hb dX5_pupil_11 (by decide) h (fun h => ?_) (fun h => ?_)
  · refine lv_aload_n hx hb dX5_pupil_24 rfl (lv_at hl 0 rfl) ?_
    refine gf_HW_classOfPupil C0 hw (fun _ h9 => List.mem_cons_of_mem _ (List.mem_append_left _ (List.mem_append_left _ (List.mem_append_left _ (List.mem_append_right _ h9))))) (List.mem_of_getElem? (i := 4) rfl) dX5_pupil_25 ?_
    refine lv_aload_n hx hb dX5_pupil_28 rfl (lv_at hl 0 rfl) ?_
    refine gf_HW_pupilCount C0 hw (fun _ h9 => List.mem_cons_of_mem _ (List.mem_append_left _ (List.mem_append_left _ (List.mem_append_left _ (List.mem_append_right _ h9))))) (List.mem_of_getElem? (i := 3) rfl) dX5_pupil_29 ?_
    refine lv_iload_n hx hb dX5_pupil_32 rfl (lv_at hl 1 rfl) ?_
    refine q_iast (v := 21) C0 hw rfl (fun _ => at_a21) h dX5_pupil_33 (fun j3 M4 H locs hj3 hw h => ?_)
    refine lv_aload_n hx hb dX5_pupil_34 rfl (lv_at hl 0 rfl) ?_
    refine lv_dup hx hb dX5_pupil_35 rfl ?_
    refine gf_HW_pupilCount C0 hw (fun _ h9 => List.mem_cons_of_mem _ (List.mem_append_left _ (List.mem_append_left _ (List.mem_append_left _ (List.mem_append_right _ h9))))) (List.mem_of_getElem? (i := 3) rfl) dX5_pupil_36 ?_
    refine lv_iconst (v := 1) hx hb dX5_pupil_39 (by decide) ?_
    refine lv_iadd hx hb dX5_pupil_40 ?_
    refine pf_HW_pupilCount C0 hw (fun _ h9 => List.mem_cons_of_mem _ (List.mem_append_left _ (List.mem_append_left _ (List.mem_append_left _ (List.mem_append_right _ h9))))) (List.mem_of_getElem? (i := 3) rfl) dX5_pupil_41 h (fun M5 H locs hw h => ?_)
    refine lv_aload_n hx hb dX5_pupil_44 rfl (lv_at hl 0 rfl) ?_
    refine gf_HW_pupilCount C0 hw (fun _ h9 => List.mem_cons_of_mem _ (List.mem_append_left _ (List.mem_append_left _ (List.mem_append_left _ (List.mem_append_right _ h9))))) (List.mem_of_getElem? (i := 3) rfl) dX5_pupil_45 ?_
    refine lv_iconst (v := 1) hx hb dX5_pupil_48 (by decide) ?_
    refine lv_isub hx hb dX5_pupil_49 ?_
    exact q_iretT C0 hw h ⟨(Nat.le_of_ble_eq_true rfl), (Nat.le_of_ble_eq_true rfl)⟩ dX5_pupil_50
  · exact q_thrS C0 ht hst hw (ik := 70) (is := 83) (ic := 74) xp_74 (List.mem_of_getElem? (i := 1) rfl) (List.mem_of_getElem? (i := 2) rfl) (List.mem_of_getElem? (i := 3) rfl) (fun _ h9 => List.mem_cons_of_mem _ (List.mem_append_left _ (List.mem_append_left _ (List.mem_append_right _ h9)))) hl.1 dX5_pupil_14 dX5_pupil_17 dX5_pupil_18 dX5_pupil_20 dX5_pupil_23 ⟨(Nat.le_of_ble_eq_true rfl), (Nat.le_of_ble_eq_true rfl), (Nat.le_of_ble_eq_true rfl), (Nat.le_of_ble_eq_true rfl)⟩ ⟨(Nat.le_of_ble_eq_true rfl), (Nat.le_of_ble_eq_true rfl)⟩ h
/-! Homewatcher.needRule(C)V -/
abbrev rmX5_needRule : Room := { frames := 6, cells := 1, slots := 6, locals := 90 }
def fX5_needRule_35 (F : Nat) (M : Mem) : Option (Mem × (Unit ⊕ Nat)) :=
    some (M, Sum.inl ())
set_option maxHeartbeats 4000000 in
set_option maxRecDepth 100000 in
theorem wX5_needRule_35 {p : Program} {l : Launch} {e : Env} {s : State} {m : MethodId} {args : Array Value} {below : List Frame} {meth : Method} {c : Code} {D : va_G} {cy : Nat → ClassId} {ad : Nat → Nat} {x : XX} {F : Nat} {r : Mem × (Unit ⊕ Nat)} (hst : l.stackTraces = false) (C0 : MX p l s m args meth c D cy ad cX5_needRule RX5 1 wsX5_needRule (none)) (ht : ∀ z ∈ c.exceptionTable.toList, False) : ∀ (M : Mem) (H : Heap) (locs : List Loc) (ls : Array Slot), Wd D cy ad x s M H locs → lv_has ls 1 [] → fX5_needRule_35 F M = some r → W p l e rmX5_needRule s m args below meth c H locs 0 0 (QT D cy ad below args s x q_vv r 1 6) (F0 m 35 ls []) := by
  obtain ⟨hx, hb, hml, hown, hts, -⟩ := id C0
  intro M H locs ls hw hl h
  unfold fX5_needRule_35 at h
  exact q_vretT C0 hw h ⟨(Nat.le_of_ble_eq_true rfl), (Nat.le_of_ble_eq_true rfl)⟩ dX5_needRule_35
def fX5_needRule (F : Nat) (M : Mem) (a0 : Int32) : Option (Mem × (Unit ⊕ Nat)) :=
    if a0 = (104 : Int32) then
    (fX5_needRule_35 F M)
    else
    (if a0 = (100 : Int32) then
    (fX5_needRule_35 F M)
    else
    (if a0 = (103 : Int32) then
    (fX5_needRule_35 F M)
    else
    (if a0 = (115 : Int32) then
    (fX5_needRule_35 F M)
    else
    (some (M, Sum.inr 1)))))
set_option maxHeartbeats 4000000 in
set_option maxRecDepth 100000 in
theorem ctX5_needRule {l : Launch} (hst : l.stackTraces = false) {D : va_G} {cy : Nat → ClassId} {ad : Nat → Nat} {x : XX} {F : Nat} {M : Mem} {a0 : Int32} {r : Mem × (Unit ⊕ Nat)} (h : fX5_needRule F M a0 = some r) : CT l yX5_needRule wsX5_needRule rmX5_needRule D cy ad [.int a0] x M r.1 (q_ou q_vv r.2) 1 6 := by
  refine q_startT (cc := cX5_needRule) (maxL := 1) (ret := none) (by decide) rfl (Nat.le_of_ble_eq_true rfl) ?_
  intro p e s m args below meth c ls C0 hw hl ht
  obtain ⟨hx, hb, hml, hown, hts, -⟩ := id C0
  have C0 : MX p l s m args meth c D cy ad cX5_needRule RX5 1 wsX5_needRule (none) := C0
  have hown : s.vm.findClass RX5 = some m.cls := hown
  have hl : lv_has ls 1 [(0, .int a0)] := hl
  show W p l e rmX5_needRule s m args below meth c s.heap [] 0 0 (QT D cy ad below args s x q_vv r 1 6) (F0 m 0 ls [])
  unfold fX5_needRule at h
  refine lv_iload_n hx hb dX5_needRule_0 rfl (lv_at hl 0 rfl) ?_
  refine lv_bipush (v := 104) hx hb dX5_needRule_1 (by decide) ?_
  refine q_icmp_eq (tgt := 35) hx hb dX5_needRule_3 (by decide) h (fun h => ?_) (fun h => ?_)
  · exact wX5_needRule_35 hst C0 ht  M _ _ _ hw (lv_sub hl [] rfl) h
  · refine lv_iload_n hx hb dX5_needRule_6 rfl (lv_at hl 0 rfl) ?_
    refine lv_bipush (v := 100) hx hb dX5_needRule_7 (by decide) ?_
    refine q_icmp_eq (tgt := 35) hx hb dX5_needRule_9 (by decide) h (fun h => ?_) (fun h => ?_)
    · exact wX5_needRule_35 hst C0 ht  M _ _ _ hw (lv_sub hl [] rfl) h
    · refine lv_iload_n hx hb dX5_needRule_12 rfl (lv_at hl 0 rfl) ?_
      refine lv_bipush (v := 103) hx hb dX5_needRule_13 (by decide) ?_
      refine q_icmp_eq (tgt := 35) hx hb dX5_needRule_15 (by decide) h (fun h => ?_) (fun h => ?_)
      · exact wX5_needRule_35 hst C0 ht  M _ _ _ hw (lv_sub hl [] rfl) h
      · refine lv_iload_n hx hb dX5_needRule_18 rfl (lv_at hl 0 rfl) ?_
        refine lv_bipush (v := 115) hx hb dX5_needRule_19 (by decide) ?_
        refine q_icmp_eq (tgt := 35) hx hb dX5_needRule_21 (by decide) h (fun h => ?_) (fun h => ?_)
        · exact wX5_needRule_35 hst C0 ht  M _ _ _ hw (lv_sub hl [] rfl) h
        · exact q_thrSW C0 ht hst hw (ik := 210) (is := 348) (ic := 214) xp_214 (List.mem_of_getElem? (i := 1) rfl) (List.mem_of_getElem? (i := 2) rfl) (List.mem_of_getElem? (i := 4) rfl) (fun _ h9 => List.mem_cons_of_mem _ (List.mem_append_right _ h9)) hl.1 dX5_needRule_24 dX5_needRule_27 dX5_needRule_28 dX5_needRule_31 dX5_needRule_34 ⟨(Nat.le_of_ble_eq_true rfl), (Nat.le_of_ble_eq_true rfl), (Nat.le_of_ble_eq_true rfl), (Nat.le_of_ble_eq_true rfl)⟩ ⟨(Nat.le_of_ble_eq_true rfl), (Nat.le_of_ble_eq_true rfl)⟩ h
/-! Homewatcher.task(IIICI)I -/
abbrev rmX5_task : Room := { frames := 7, cells := 6, slots := 36, locals := 112 }
def fX5_task (F : Nat) (M : Mem) (a0 : Int32) (a1 : Int32) (a2 : Int32) (a3 : Int32) (a4 : Int32) : Option (Mem × (Int32 ⊕ Nat)) :=
    q_bx (fX5_needClass F M a0) fun M1 _ =>
    q_bx (fX5_needRange F M1 a1 (0 : Int32) (1000000 : Int32)) fun M3 _ =>
    q_bx (fX5_needRange F M3 a2 (1 : Int32) (100 : Int32)) fun M5 _ =>
    q_bx (fX5_needRange F M5 a4 (0 : Int32) (100 : Int32)) fun M7 _ =>
    q_bx (fX5_needRule F M7 a3) fun M9 _ =>
    if (M9 2 0 0) < (10 : Int32) then
    (q_ax (M9 2 0 0) 10 fun j11 =>
    q_lt (up M9 50 j11 0 a0) fun M12 =>
    q_lt (up M12 51 j11 0 a1) fun M13 =>
    q_lt (up M13 52 j11 0 a2) fun M14 =>
    q_gd (q_isC a3) (
    q_lt (up M14 53 j11 0 a3) fun M15 =>
    q_lt (up M15 54 j11 0 a4) fun M16 =>
    q_lt (up M16 2 0 0 ((M16 2 0 0) + (1 : Int32))) fun M17 =>
    some (M17, Sum.inl ((M17 2 0 0) - (1 : Int32)))))
    else
    (some (M9, Sum.inr 2))
set_option maxHeartbeats 4000000 in
set_option maxRecDepth 100000 in
theorem ctX5_task {l : Launch} (hst : l.stackTraces = false) {D : va_G} {cy : Nat → ClassId} {ad : Nat → Nat} {x : XX} {F : Nat} {M : Mem} {a0 : Int32} {a1 : Int32} {a2 : Int32} {a3 : Int32} {a4 : Int32} {r : Mem × (Int32 ⊕ Nat)} (h : fX5_task F M a0 a1 a2 a3 a4 = some r) : CT l yX5_task wsX5_task rmX5_task D cy ad [.ref (ad 0), .int a0, .int a1, .int a2, .int a3, .int a4] x M r.1 (q_ou q_vi r.2) 6 36 := by
  refine q_startT (cc := cX5_task) (maxL := 7) (ret := (some .int)) (by decide) rfl (Nat.le_of_ble_eq_true rfl) ?_
  intro p e s m args below meth c ls C0 hw hl ht
  obtain ⟨hx, hb, hml, hown, hts, -⟩ := id C0
  have C0 : MX p l s m args meth c D cy ad cX5_task RX5 7 wsX5_task ((some .int)) := C0
  have hown : s.vm.findClass RX5 = some m.cls := hown
  have hl : lv_has ls 7 [(0, .ref (ad 0)), (1, .int a0), (2, .int a1), (3, .int a2), (4, .int a3), (5, .int a4)] := hl
  show W p l e rmX5_task s m args below meth c s.heap [] 0 0 (QT D cy ad below args s x q_vi r 6 36) (F0 m 0 ls [])
  unfold fX5_task at h
  refine lv_aload_n hx hb dX5_task_0 rfl (lv_at hl 0 rfl) ?_
  refine lv_iload_n hx hb dX5_task_1 rfl (lv_at hl 1 rfl) ?_
  refine q_callVTv (As := [.int a0]) (nA := 1) C0 ht hw at_HW rfl (fun r1 h1 => ctX5_needClass hst h1) gX5_task_X5_needClass rfl ⟨rfl, rfl⟩ (by decide +kernel) rfl ⟨(Nat.le_of_ble_eq_true rfl), (Nat.le_of_ble_eq_true rfl)⟩ hl.1 (Nat.le_of_ble_eq_true rfl) ⟨(Nat.le_of_ble_eq_true rfl), (Nat.le_of_ble_eq_true rfl)⟩ ⟨(Nat.le_of_ble_eq_true rfl), (Nat.le_of_ble_eq_true rfl)⟩ rfl h dX5_task_2 (fun M1 H locs hw h => ?_)
  refine lv_iload_n hx hb dX5_task_5 rfl (lv_at hl 2 rfl) ?_
  refine lv_iconst (v := 0) hx hb dX5_task_6 (by decide) ?_
  refine lv_ldc (v := 1000000) hx hb hown (hts _ (List.mem_of_getElem? (i := 3) rfl)) dX5_task_7 ?_
  refine q_callSTv (As := [.int a1, .int ((0 : Int32)), .int ((1000000 : Int32))]) (nA := 3) C0 ht hw (fun r1 h1 => ctX5_needRange hst h1) gX5_task_X5_needRange rfl ⟨rfl, rfl⟩ (by decide +kernel) rfl ⟨(Nat.le_of_ble_eq_true rfl), (Nat.le_of_ble_eq_true rfl)⟩ hl.1 (Nat.le_of_ble_eq_true rfl) ⟨(Nat.le_of_ble_eq_true rfl), (Nat.le_of_ble_eq_true rfl)⟩ ⟨(Nat.le_of_ble_eq_true rfl), (Nat.le_of_ble_eq_true rfl)⟩ rfl h dX5_task_9 (fun M3 H locs hw h => ?_)
  refine lv_iload_n hx hb dX5_task_12 rfl (lv_at hl 3 rfl) ?_
  refine lv_iconst (v := 1) hx hb dX5_task_13 (by decide) ?_
  refine lv_bipush (v := 100) hx hb dX5_task_14 (by decide) ?_
  refine q_callSTv (As := [.int a2, .int ((1 : Int32)), .int ((100 : Int32))]) (nA := 3) C0 ht hw (fun r1 h1 => ctX5_needRange hst h1) gX5_task_X5_needRange rfl ⟨rfl, rfl⟩ (by decide +kernel) rfl ⟨(Nat.le_of_ble_eq_true rfl), (Nat.le_of_ble_eq_true rfl)⟩ hl.1 (Nat.le_of_ble_eq_true rfl) ⟨(Nat.le_of_ble_eq_true rfl), (Nat.le_of_ble_eq_true rfl)⟩ ⟨(Nat.le_of_ble_eq_true rfl), (Nat.le_of_ble_eq_true rfl)⟩ rfl h dX5_task_16 (fun M5 H locs hw h => ?_)
  refine lv_iload hx hb dX5_task_19 (lv_at hl 5 rfl) ?_
  refine lv_iconst (v := 0) hx hb dX5_task_21 (by decide) ?_
  refine lv_bipush (v := 100) hx hb dX5_task_22 (by decide) ?_
  refine q_callSTv (As := [.int a4, .int ((0 : Int32)), .int ((100 : Int32))]) (nA := 3) C0 ht hw (fun r1 h1 => ctX5_needRange hst h1) gX5_task_X5_needRange rfl ⟨rfl, rfl⟩ (by decide +kernel) rfl ⟨(Nat.le_of_ble_eq_true rfl), (Nat.le_of_ble_eq_true rfl)⟩ hl.1 (Nat.le_of_ble_eq_true rfl) ⟨(Nat.le_of_ble_eq_true rfl), (Nat.le_of_ble_eq_true rfl)⟩ ⟨(Nat.le_of_ble_eq_true rfl), (Nat.le_of_ble_eq_true rfl)⟩ rfl h dX5_task_24 (fun M7 H locs hw h => ?_)
  refine lv_iload hx hb dX5_task_27 (lv_at hl 4 rfl) ?_
  refine q_callSTv (As := [.int a3]) (nA := 1) C0 ht hw (fun r1 h1 => ctX5_needRule hst h1) gX5_task_X5_needRule rfl ⟨rfl, rfl⟩ (by decide +kernel) rfl ⟨(Nat.le_of_ble_eq_true rfl), (Nat.le_of_ble_eq_true rfl)⟩ hl.1 (Nat.le_of_ble_eq_true rfl) ⟨(Nat.le_of_ble_eq_true rfl), (Nat.le_of_ble_eq_true rfl)⟩ ⟨(Nat.le_of_ble_eq_true rfl), (Nat.le_of_ble_eq_true rfl)⟩ rfl h dX5_task_29 (fun M9 H locs hw h => ?_)
  refine lv_aload_n hx hb dX5_task_32 rfl (lv_at hl 0 rfl) ?_
  refine gf_HW_taskCount C0 hw (fun _ h9 => List.mem_cons_of_mem _ (List.mem_append_left _ (List.mem_append_left _ (List.mem_append_left _ (List.mem_append_left _ (List.mem_append_right _ h9)))))) (List.mem_of_getElem? (i := 4) rfl) dX5_task_33 ?_
  refine lv_bipush (v := 10) hx hb dX5_task_36 (by decide) ?_
  refine q_icmp_lt (tgt := 51) hx hb dX5_task_38 (by decide) h (fun h => ?_) (fun h => ?_)
  · refine lv_aload_n hx hb dX5_task_51 rfl (lv_at hl 0 rfl) ?_
    refine gf_HW_tasks C0 hw (fun _ h9 => List.mem_cons_of_mem _ (List.mem_append_left _ (List.mem_append_left _ (List.mem_append_left _ (List.mem_append_left _ (List.mem_append_right _ h9)))))) (List.mem_of_getElem? (i := 5) rfl) dX5_task_52 ?_
    refine lv_aload_n hx hb dX5_task_55 rfl (lv_at hl 0 rfl) ?_
    refine gf_HW_taskCount C0 hw (fun _ h9 => List.mem_cons_of_mem _ (List.mem_append_left _ (List.mem_append_left _ (List.mem_append_left _ (List.mem_append_left _ (List.mem_append_right _ h9)))))) (List.mem_of_getElem? (i := 4) rfl) dX5_task_56 ?_
    refine q_aald (t := 5) C0 hw at_tasks rfl h dX5_task_59 (fun j11 hj11 h => ?_)
    refine lv_astore (lv' := [(6, .ref (ad (cTask j11))), (0, .ref (ad 0)), (1, .int a0), (2, .int a1), (3, .int a2), (4, .int a3), (5, .int a4)]) hx hb dX5_task_60 hl (by decide) rfl (fun ls hl => ?_)
    refine lv_aload hx hb dX5_task_62 (lv_at hl 0 rfl) ?_
    refine lv_iload_n hx hb dX5_task_64 rfl (lv_at hl 2 rfl) ?_
    refine pf_Task_room C0 hw hj11 (fun _ h9 => List.mem_cons_of_mem _ (List.mem_append_left _ (List.mem_append_left _ (List.mem_append_left _ (List.mem_append_right _ h9))))) (List.mem_of_getElem? (i := 6) rfl) dX5_task_65 h (fun M12 H locs hw h => ?_)
    refine lv_aload hx hb dX5_task_68 (lv_at hl 0 rfl) ?_
    refine lv_iload_n hx hb dX5_task_70 rfl (lv_at hl 3 rfl) ?_
    refine pf_Task_due C0 hw hj11 (fun _ h9 => List.mem_cons_of_mem _ (List.mem_append_left _ (List.mem_append_left _ (List.mem_append_left _ (List.mem_append_right _ h9))))) (List.mem_of_getElem? (i := 7) rfl) dX5_task_71 h (fun M13 H locs hw h => ?_)
    refine lv_aload hx hb dX5_task_74 (lv_at hl 0 rfl) ?_
    refine lv_iload_n hx hb dX5_task_76 rfl (lv_at hl 4 rfl) ?_
    refine pf_Task_full C0 hw hj11 (fun _ h9 => List.mem_cons_of_mem _ (List.mem_append_left _ (List.mem_append_left _ (List.mem_append_left _ (List.mem_append_right _ h9))))) (List.mem_of_getElem? (i := 8) rfl) dX5_task_77 h (fun M14 H locs hw h => ?_)
    refine lv_aload hx hb dX5_task_80 (lv_at hl 0 rfl) ?_
    refine lv_iload hx hb dX5_task_82 (lv_at hl 5 rfl) ?_
    refine q_guard h (fun g h => ?_)
    refine pf_Task_rule C0 hw hj11 (q_isC_in g) (fun _ h9 => List.mem_cons_of_mem _ (List.mem_append_left _ (List.mem_append_left _ (List.mem_append_left _ (List.mem_append_right _ h9))))) (List.mem_of_getElem? (i := 9) rfl) dX5_task_84 h (fun M15 H locs hw h => ?_)
    refine lv_aload hx hb dX5_task_87 (lv_at hl 0 rfl) ?_
    refine lv_iload hx hb dX5_task_89 (lv_at hl 6 rfl) ?_
    refine pf_Task_amount C0 hw hj11 (fun _ h9 => List.mem_cons_of_mem _ (List.mem_append_left _ (List.mem_append_left _ (List.mem_append_left _ (List.mem_append_right _ h9))))) (List.mem_of_getElem? (i := 10) rfl) dX5_task_91 h (fun M16 H locs hw h => ?_)
    refine lv_aload_n hx hb dX5_task_94 rfl (lv_at hl 1 rfl) ?_
    refine lv_dup hx hb dX5_task_95 rfl ?_
    refine gf_HW_taskCount C0 hw (fun _ h9 => List.mem_cons_of_mem _ (List.mem_append_left _ (List.mem_append_left _ (List.mem_append_left _ (List.mem_append_left _ (List.mem_append_right _ h9)))))) (List.mem_of_getElem? (i := 4) rfl) dX5_task_96 ?_
    refine lv_iconst (v := 1) hx hb dX5_task_99 (by decide) ?_
    refine lv_iadd hx hb dX5_task_100 ?_
    refine pf_HW_taskCount C0 hw (fun _ h9 => List.mem_cons_of_mem _ (List.mem_append_left _ (List.mem_append_left _ (List.mem_append_left _ (List.mem_append_left _ (List.mem_append_right _ h9)))))) (List.mem_of_getElem? (i := 4) rfl) dX5_task_101 h (fun M17 H locs hw h => ?_)
    refine lv_aload_n hx hb dX5_task_104 rfl (lv_at hl 1 rfl) ?_
    refine gf_HW_taskCount C0 hw (fun _ h9 => List.mem_cons_of_mem _ (List.mem_append_left _ (List.mem_append_left _ (List.mem_append_left _ (List.mem_append_left _ (List.mem_append_right _ h9)))))) (List.mem_of_getElem? (i := 4) rfl) dX5_task_105 ?_
    refine lv_iconst (v := 1) hx hb dX5_task_108 (by decide) ?_
    refine lv_isub hx hb dX5_task_109 ?_
    exact q_iretT C0 hw h ⟨(Nat.le_of_ble_eq_true rfl), (Nat.le_of_ble_eq_true rfl)⟩ dX5_task_110
  · exact q_thrS C0 ht hst hw (ik := 70) (is := 93) (ic := 74) xp_74 (List.mem_of_getElem? (i := 1) rfl) (List.mem_of_getElem? (i := 2) rfl) (List.mem_of_getElem? (i := 5) rfl) (fun _ h9 => List.mem_cons_of_mem _ (List.mem_append_left _ (List.mem_append_left _ (List.mem_append_right _ h9)))) hl.1 dX5_task_41 dX5_task_44 dX5_task_45 dX5_task_47 dX5_task_50 ⟨(Nat.le_of_ble_eq_true rfl), (Nat.le_of_ble_eq_true rfl), (Nat.le_of_ble_eq_true rfl), (Nat.le_of_ble_eq_true rfl)⟩ ⟨(Nat.le_of_ble_eq_true rfl), (Nat.le_of_ble_eq_true rfl)⟩ h
/-! Homewatcher.pass(I)I -/
abbrev rmX5_pass : Room := { frames := 7, cells := 2, slots := 12, locals := 112 }
def fX5_pass (F : Nat) (M : Mem) (a0 : Int32) : Option (Mem × (Int32 ⊕ Nat)) :=
    q_bx (fX5_needRange F M a0 (1 : Int32) (100000 : Int32)) fun M1 _ =>
    if ((M1 3 0 0) + a0) ≤ (1000000 : Int32) then
    (q_lt (up M1 3 0 0 ((M1 3 0 0) + a0)) fun M3 =>
    some (M3, Sum.inl (M3 3 0 0)))
    else
    (some (M1, Sum.inr 2))
set_option maxHeartbeats 4000000 in
set_option maxRecDepth 100000 in
theorem ctX5_pass {l : Launch} (hst : l.stackTraces = false) {D : va_G} {cy : Nat → ClassId} {ad : Nat → Nat} {x : XX} {F : Nat} {M : Mem} {a0 : Int32} {r : Mem × (Int32 ⊕ Nat)} (h : fX5_pass F M a0 = some r) : CT l yX5_pass wsX5_pass rmX5_pass D cy ad [.ref (ad 0), .int a0] x M r.1 (q_ou q_vi r.2) 2 12 := by
  refine q_startT (cc := cX5_pass) (maxL := 2) (ret := (some .int)) (by decide) rfl (Nat.le_of_ble_eq_true rfl) ?_
  intro p e s m args below meth c ls C0 hw hl ht
  obtain ⟨hx, hb, hml, hown, hts, -⟩ := id C0
  have C0 : MX p l s m args meth c D cy ad cX5_pass RX5 2 wsX5_pass ((some .int)) := C0
  have hown : s.vm.findClass RX5 = some m.cls := hown
  have hl : lv_has ls 2 [(0, .ref (ad 0)), (1, .int a0)] := hl
  show W p l e rmX5_pass s m args below meth c s.heap [] 0 0 (QT D cy ad below args s x q_vi r 2 12) (F0 m 0 ls [])
  unfold fX5_pass at h
  refine lv_iload_n hx hb dX5_pass_0 rfl (lv_at hl 1 rfl) ?_
  refine lv_iconst (v := 1) hx hb dX5_pass_1 (by decide) ?_
  refine lv_ldc (v := 100000) hx hb hown (hts _ (List.mem_of_getElem? (i := 3) rfl)) dX5_pass_2 ?_
  refine q_callSTv (As := [.int a0, .int ((1 : Int32)), .int ((100000 : Int32))]) (nA := 3) C0 ht hw (fun r1 h1 => ctX5_needRange hst h1) gX5_pass_X5_needRange rfl ⟨rfl, rfl⟩ (by decide +kernel) rfl ⟨(Nat.le_of_ble_eq_true rfl), (Nat.le_of_ble_eq_true rfl)⟩ hl.1 (Nat.le_of_ble_eq_true rfl) ⟨(Nat.le_of_ble_eq_true rfl), (Nat.le_of_ble_eq_true rfl)⟩ ⟨(Nat.le_of_ble_eq_true rfl), (Nat.le_of_ble_eq_true rfl)⟩ rfl h dX5_pass_4 (fun M1 H locs hw h => ?_)
  refine lv_aload_n hx hb dX5_pass_7 rfl (lv_at hl 0 rfl) ?_
  refine gf_HW_now C0 hw (fun _ h9 => List.mem_cons_of_mem _ (List.mem_append_left _ (List.mem_append_left _ (List.mem_append_right _ h9)))) (List.mem_of_getElem? (i := 4) rfl) dX5_pass_8 ?_
  refine lv_iload_n hx hb dX5_pass_11 rfl (lv_at hl 1 rfl) ?_
  refine lv_iadd hx hb dX5_pass_12 ?_
  refine lv_ldc (v := 1000000) hx hb hown (hts _ (List.mem_of_getElem? (i := 5) rfl)) dX5_pass_13 ?_
  refine q_icmp_le (tgt := 28) hx hb dX5_pass_15 (by decide) h (fun h => ?_) (fun h => ?_)
  · refine lv_aload_n hx hb dX5_pass_28 rfl (lv_at hl 0 rfl) ?_
    refine lv_dup hx hb dX5_pass_29 rfl ?_
    refine gf_HW_now C0 hw (fun _ h9 => List.mem_cons_of_mem _ (List.mem_append_left _ (List.mem_append_left _ (List.mem_append_right _ h9)))) (List.mem_of_getElem? (i := 4) rfl) dX5_pass_30 ?_
    refine lv_iload_n hx hb dX5_pass_33 rfl (lv_at hl 1 rfl) ?_
    refine lv_iadd hx hb dX5_pass_34 ?_
    refine pf_HW_now C0 hw (fun _ h9 => List.mem_cons_of_mem _ (List.mem_append_left _ (List.mem_append_left _ (List.mem_append_right _ h9)))) (List.mem_of_getElem? (i := 4) rfl) dX5_pass_35 h (fun M3 H locs hw h => ?_)
    refine lv_aload_n hx hb dX5_pass_38 rfl (lv_at hl 0 rfl) ?_
    refine gf_HW_now C0 hw (fun _ h9 => List.mem_cons_of_mem _ (List.mem_append_left _ (List.mem_append_left _ (List.mem_append_right _ h9)))) (List.mem_of_getElem? (i := 4) rfl) dX5_pass_39 ?_
    exact q_iretT C0 hw h ⟨(Nat.le_of_ble_eq_true rfl), (Nat.le_of_ble_eq_true rfl)⟩ dX5_pass_42
  · exact q_thrS C0 ht hst hw (ik := 70) (is := 115) (ic := 74) xp_74 (List.mem_of_getElem? (i := 1) rfl) (List.mem_of_getElem? (i := 2) rfl) (List.mem_of_getElem? (i := 6) rfl) (fun _ h9 => List.mem_cons_of_mem _ (List.mem_append_left _ (List.mem_append_right _ h9))) hl.1 dX5_pass_18 dX5_pass_21 dX5_pass_22 dX5_pass_24 dX5_pass_27 ⟨(Nat.le_of_ble_eq_true rfl), (Nat.le_of_ble_eq_true rfl), (Nat.le_of_ble_eq_true rfl), (Nat.le_of_ble_eq_true rfl)⟩ ⟨(Nat.le_of_ble_eq_true rfl), (Nat.le_of_ble_eq_true rfl)⟩ h
/-! Homewatcher.clock(I)I -/
abbrev rmX5_clock : Room := { frames := 7, cells := 1, slots := 6, locals := 111 }
def fX5_clock (F : Nat) (M : Mem) (a0 : Int32) : Option (Mem × (Int32 ⊕ Nat)) :=
    q_bx (fX5_needClass F M a0) fun M1 _ =>
    q_ax a0 4 fun j3 =>
    some (M1, Sum.inl ((M1 3 0 0) + (M1 20 0 j3)))
set_option maxHeartbeats 4000000 in
set_option maxRecDepth 100000 in
theorem ctX5_clock {l : Launch} (hst : l.stackTraces = false) {D : va_G} {cy : Nat → ClassId} {ad : Nat → Nat} {x : XX} {F : Nat} {M : Mem} {a0 : Int32} {r : Mem × (Int32 ⊕ Nat)} (h : fX5_clock F M a0 = some r) : CT l yX5_clock wsX5_clock rmX5_clock D cy ad [.ref (ad 0), .int a0] x M r.1 (q_ou q_vi r.2) 1 6 := by
  refine q_startT (cc := cX5_clock) (maxL := 2) (ret := (some .int)) (by decide) rfl (Nat.le_of_ble_eq_true rfl) ?_
  intro p e s m args below meth c ls C0 hw hl ht
  obtain ⟨hx, hb, hml, hown, hts, -⟩ := id C0
  have C0 : MX p l s m args meth c D cy ad cX5_clock RX5 2 wsX5_clock ((some .int)) := C0
  have hown : s.vm.findClass RX5 = some m.cls := hown
  have hl : lv_has ls 2 [(0, .ref (ad 0)), (1, .int a0)] := hl
  show W p l e rmX5_clock s m args below meth c s.heap [] 0 0 (QT D cy ad below args s x q_vi r 1 6) (F0 m 0 ls [])
  unfold fX5_clock at h
  refine lv_aload_n hx hb dX5_clock_0 rfl (lv_at hl 0 rfl) ?_
  refine lv_iload_n hx hb dX5_clock_1 rfl (lv_at hl 1 rfl) ?_
  refine q_callVTv (As := [.int a0]) (nA := 1) C0 ht hw at_HW rfl (fun r1 h1 => ctX5_needClass hst h1) gX5_clock_X5_needClass rfl ⟨rfl, rfl⟩ (by decide +kernel) rfl ⟨(Nat.le_of_ble_eq_true rfl), (Nat.le_of_ble_eq_true rfl)⟩ hl.1 (Nat.le_of_ble_eq_true rfl) ⟨(Nat.le_of_ble_eq_true rfl), (Nat.le_of_ble_eq_true rfl)⟩ ⟨(Nat.le_of_ble_eq_true rfl), (Nat.le_of_ble_eq_true rfl)⟩ rfl h dX5_clock_2 (fun M1 H locs hw h => ?_)
  refine lv_aload_n hx hb dX5_clock_5 rfl (lv_at hl 0 rfl) ?_
  refine gf_HW_now C0 hw (fun _ h9 => List.mem_cons_of_mem _ (List.mem_append_left _ (List.mem_append_left _ (List.mem_append_right _ h9)))) (List.mem_of_getElem? (i := 1) rfl) dX5_clock_6 ?_
  refine lv_aload_n hx hb dX5_clock_9 rfl (lv_at hl 0 rfl) ?_
  refine gf_HW_offsets C0 hw (fun _ h9 => List.mem_cons_of_mem _ (List.mem_append_left _ (List.mem_append_left _ (List.mem_append_right _ h9)))) (List.mem_of_getElem? (i := 2) rfl) dX5_clock_10 ?_
  refine lv_iload_n hx hb dX5_clock_13 rfl (lv_at hl 1 rfl) ?_
  refine q_iald C0 hw at_a20 h dX5_clock_14 (fun j3 hj3 h => ?_)
  refine lv_iadd hx hb dX5_clock_15 ?_
  exact q_iretT C0 hw h ⟨(Nat.le_of_ble_eq_true rfl), (Nat.le_of_ble_eq_true rfl)⟩ dX5_clock_16
/-! Homewatcher.needRoomForSign()V -/
abbrev rmX5_needRoomForSign : Room := { frames := 6, cells := 1, slots := 6, locals := 90 }
def fX5_needRoomForSign (F : Nat) (M : Mem) : Option (Mem × (Unit ⊕ Nat)) :=
    if (M 8 60 0) < (40 : Int32) then
    (some (M, Sum.inl ()))
    else
    (some (M, Sum.inr 2))
set_option maxHeartbeats 4000000 in
set_option maxRecDepth 100000 in
theorem ctX5_needRoomForSign {l : Launch} (hst : l.stackTraces = false) {D : va_G} {cy : Nat → ClassId} {ad : Nat → Nat} {x : XX} {F : Nat} {M : Mem} {r : Mem × (Unit ⊕ Nat)} (h : fX5_needRoomForSign F M = some r) : CT l yX5_needRoomForSign wsX5_needRoomForSign rmX5_needRoomForSign D cy ad [.ref (ad 0)] x M r.1 (q_ou q_vv r.2) 1 6 := by
  refine q_startT (cc := cX5_needRoomForSign) (maxL := 1) (ret := none) (by decide) rfl (Nat.le_of_ble_eq_true rfl) ?_
  intro p e s m args below meth c ls C0 hw hl ht
  obtain ⟨hx, hb, hml, hown, hts, -⟩ := id C0
  have C0 : MX p l s m args meth c D cy ad cX5_needRoomForSign RX5 1 wsX5_needRoomForSign (none) := C0
  have hown : s.vm.findClass RX5 = some m.cls := hown
  have hl : lv_has ls 1 [(0, .ref (ad 0))] := hl
  show W p l e rmX5_needRoomForSign s m args below meth c s.heap [] 0 0 (QT D cy ad below args s x q_vv r 1 6) (F0 m 0 ls [])
  unfold fX5_needRoomForSign at h
  refine lv_aload_n hx hb dX5_needRoomForSign_0 rfl (lv_at hl 0 rfl) ?_
  refine gf_HW_typed C0 hw (fun _ h9 => List.mem_cons_of_mem _ (List.mem_append_left _ (List.mem_append_left _ (List.mem_append_right _ h9)))) (List.mem_of_getElem? (i := 3) rfl) dX5_needRoomForSign_1 ?_
  refine gf_Text_signs C0 hw (Nat.le_of_ble_eq_true rfl) (fun _ h9 => List.mem_cons_of_mem _ (List.mem_append_left _ (List.mem_append_right _ h9))) (List.mem_of_getElem? (i := 4) rfl) dX5_needRoomForSign_4 ?_
  refine lv_bipush (v := 40) hx hb dX5_needRoomForSign_7 (by decide) ?_
  refine q_icmp_lt (tgt := 23) hx hb dX5_needRoomForSign_9 (by decide) h (fun h => ?_) (fun h => ?_)
  · exact q_vretT C0 hw h ⟨(Nat.le_of_ble_eq_true rfl), (Nat.le_of_ble_eq_true rfl)⟩ dX5_needRoomForSign_23
  · exact q_thrSW C0 ht hst hw (ik := 70) (is := 354) (ic := 74) xp_74 (List.mem_of_getElem? (i := 1) rfl) (List.mem_of_getElem? (i := 2) rfl) (List.mem_of_getElem? (i := 8) rfl) (fun _ h9 => List.mem_cons_of_mem _ (List.mem_append_right _ h9)) hl.1 dX5_needRoomForSign_12 dX5_needRoomForSign_15 dX5_needRoomForSign_16 dX5_needRoomForSign_19 dX5_needRoomForSign_22 ⟨(Nat.le_of_ble_eq_true rfl), (Nat.le_of_ble_eq_true rfl), (Nat.le_of_ble_eq_true rfl), (Nat.le_of_ble_eq_true rfl)⟩ ⟨(Nat.le_of_ble_eq_true rfl), (Nat.le_of_ble_eq_true rfl)⟩ h
/-! Homewatcher.needSign(I)V -/
abbrev rmX5_needSign : Room := { frames := 6, cells := 1, slots := 6, locals := 90 }
def fX5_needSign_63 (F : Nat) (M : Mem) : Option (Mem × (Unit ⊕ Nat)) :=
    some (M, Sum.inl ())
set_option maxHeartbeats 4000000 in
set_option maxRecDepth 100000 in
theorem wX5_needSign_63 {p : Program} {l : Launch} {e : Env} {s : State} {m : MethodId} {args : Array Value} {below : List Frame} {meth : Method} {c : Code} {D : va_G} {cy : Nat → ClassId} {ad : Nat → Nat} {x : XX} {F : Nat} {r : Mem × (Unit ⊕ Nat)} (hst : l.stackTraces = false) (C0 : MX p l s m args meth c D cy ad cX5_needSign RX5 3 wsX5_needSign (none)) (ht : ∀ z ∈ c.exceptionTable.toList, False) : ∀ (M : Mem) (H : Heap) (locs : List Loc) (ls : Array Slot), Wd D cy ad x s M H locs → lv_has ls 3 [] → fX5_needSign_63 F M = some r → W p l e rmX5_needSign s m args below meth c H locs 0 0 (QT D cy ad below args s x q_vv r 1 6) (F0 m 63 ls []) := by
  obtain ⟨hx, hb, hml, hown, hts, -⟩ := id C0
  intro M H locs ls hw hl h
  unfold fX5_needSign_63 at h
  exact q_vretT C0 hw h ⟨(Nat.le_of_ble_eq_true rfl), (Nat.le_of_ble_eq_true rfl)⟩ dX5_needSign_63
def fX5_needSign_37 (F : Nat) (M : Mem) (s0 : Int32) (v0 : Int32) (v1 : Int32) : Option (Mem × (Unit ⊕ Nat)) :=
    q_lt (s0) fun z1 =>
    if v1 = (0 : Int32) then
    (if z1 = (0 : Int32) then
    (if v0 = (32 : Int32) then
    (fX5_needSign_63 F M)
    else
    (some (M, Sum.inr 1)))
    else
    (fX5_needSign_63 F M))
    else
    (fX5_needSign_63 F M)
set_option maxHeartbeats 4000000 in
set_option maxRecDepth 100000 in
theorem wX5_needSign_37 {p : Program} {l : Launch} {e : Env} {s : State} {m : MethodId} {args : Array Value} {below : List Frame} {meth : Method} {c : Code} {D : va_G} {cy : Nat → ClassId} {ad : Nat → Nat} {x : XX} {F : Nat} {r : Mem × (Unit ⊕ Nat)} (hst : l.stackTraces = false) (C0 : MX p l s m args meth c D cy ad cX5_needSign RX5 3 wsX5_needSign (none)) (ht : ∀ z ∈ c.exceptionTable.toList, False) : ∀ (M : Mem) (s0 : Int32) (v0 : Int32) (v1 : Int32) (H : Heap) (locs : List Loc) (ls : Array Slot), Wd D cy ad x s M H locs → lv_has ls 3 [(0, .int v0), (1, .int v1)] → fX5_needSign_37 F M s0 v0 v1 = some r → W p l e rmX5_needSign s m args below meth c H locs 0 0 (QT D cy ad below args s x q_vv r 1 6) (F0 m 37 ls [.int s0]) := by
  obtain ⟨hx, hb, hml, hown, hts, -⟩ := id C0
  intro M s0 v0 v1 H locs ls hw hl h
  unfold fX5_needSign_37 at h
  refine q_istore_n (lv' := fun z1 => [(2, .int z1), (0, .int v0), (1, .int v1)]) hx hb dX5_needSign_37 rfl hl (by decide) (fun _ => rfl) h (fun z1 ls hl h => ?_)
  refine lv_iload_n hx hb dX5_needSign_38 rfl (lv_at hl 2 rfl) ?_
  refine q_if_ne (tgt := 63) hx hb dX5_needSign_39 (by decide) h (fun h => ?_) (fun h => ?_)
  · exact wX5_needSign_63 hst C0 ht  M _ _ _ hw (lv_sub hl [] rfl) h
  · refine lv_iload_n hx hb dX5_needSign_42 rfl (lv_at hl 0 rfl) ?_
    refine q_if_ne (tgt := 63) hx hb dX5_needSign_43 (by decide) h (fun h => ?_) (fun h => ?_)
    · exact wX5_needSign_63 hst C0 ht  M _ _ _ hw (lv_sub hl [] rfl) h
    · refine lv_iload_n hx hb dX5_needSign_46 rfl (lv_at hl 1 rfl) ?_
      refine lv_bipush (v := 32) hx hb dX5_needSign_47 (by decide) ?_
      refine q_icmp_eq (tgt := 63) hx hb dX5_needSign_49 (by decide) h (fun h => ?_) (fun h => ?_)
      · exact wX5_needSign_63 hst C0 ht  M _ _ _ hw (lv_sub hl [] rfl) h
      · exact q_thrSW C0 ht hst hw (ik := 210) (is := 352) (ic := 214) xp_214 (List.mem_of_getElem? (i := 1) rfl) (List.mem_of_getElem? (i := 2) rfl) (List.mem_of_getElem? (i := 7) rfl) (fun _ h9 => List.mem_cons_of_mem _ (List.mem_append_right _ h9)) hl.1 dX5_needSign_52 dX5_needSign_55 dX5_needSign_56 dX5_needSign_59 dX5_needSign_62 ⟨(Nat.le_of_ble_eq_true rfl), (Nat.le_of_ble_eq_true rfl), (Nat.le_of_ble_eq_true rfl), (Nat.le_of_ble_eq_true rfl)⟩ ⟨(Nat.le_of_ble_eq_true rfl), (Nat.le_of_ble_eq_true rfl)⟩ h
def fX5_needSign_36 (F : Nat) (M : Mem) (v0 : Int32) (v1 : Int32) : Option (Mem × (Unit ⊕ Nat)) :=
    fX5_needSign_37 F M (0 : Int32) v0 v1
set_option maxHeartbeats 4000000 in
set_option maxRecDepth 100000 in
theorem wX5_needSign_36 {p : Program} {l : Launch} {e : Env} {s : State} {m : MethodId} {args : Array Value} {below : List Frame} {meth : Method} {c : Code} {D : va_G} {cy : Nat → ClassId} {ad : Nat → Nat} {x : XX} {F : Nat} {r : Mem × (Unit ⊕ Nat)} (hst : l.stackTraces = false) (C0 : MX p l s m args meth c D cy ad cX5_needSign RX5 3 wsX5_needSign (none)) (ht : ∀ z ∈ c.exceptionTable.toList, False) : ∀ (M : Mem) (v0 : Int32) (v1 : Int32) (H : Heap) (locs : List Loc) (ls : Array Slot), Wd D cy ad x s M H locs → lv_has ls 3 [(0, .int v0), (1, .int v1)] → fX5_needSign_36 F M v0 v1 = some r → W p l e rmX5_needSign s m args below meth c H locs 0 0 (QT D cy ad below args s x q_vv r 1 6) (F0 m 36 ls []) := by
  obtain ⟨hx, hb, hml, hown, hts, -⟩ := id C0
  intro M v0 v1 H locs ls hw hl h
  unfold fX5_needSign_36 at h
  refine lv_iconst (v := 0) hx hb dX5_needSign_36 (by decide) ?_
  exact wX5_needSign_37 hst C0 ht  M (0 : Int32) v0 v1 _ _ _ hw (lv_sub hl [0, 1] rfl) h
def fX5_needSign_17 (F : Nat) (M : Mem) (s0 : Int32) (v0 : Int32) : Option (Mem × (Unit ⊕ Nat)) :=
    q_lt (s0) fun z1 =>
    if v0 < (128512 : Int32) then
    (fX5_needSign_36 F M v0 z1)
    else
    (if (128591 : Int32) < v0 then
    (fX5_needSign_36 F M v0 z1)
    else
    (fX5_needSign_37 F M (1 : Int32) v0 z1))
set_option maxHeartbeats 4000000 in
set_option maxRecDepth 100000 in
theorem wX5_needSign_17 {p : Program} {l : Launch} {e : Env} {s : State} {m : MethodId} {args : Array Value} {below : List Frame} {meth : Method} {c : Code} {D : va_G} {cy : Nat → ClassId} {ad : Nat → Nat} {x : XX} {F : Nat} {r : Mem × (Unit ⊕ Nat)} (hst : l.stackTraces = false) (C0 : MX p l s m args meth c D cy ad cX5_needSign RX5 3 wsX5_needSign (none)) (ht : ∀ z ∈ c.exceptionTable.toList, False) : ∀ (M : Mem) (s0 : Int32) (v0 : Int32) (H : Heap) (locs : List Loc) (ls : Array Slot), Wd D cy ad x s M H locs → lv_has ls 3 [(0, .int v0)] → fX5_needSign_17 F M s0 v0 = some r → W p l e rmX5_needSign s m args below meth c H locs 0 0 (QT D cy ad below args s x q_vv r 1 6) (F0 m 17 ls [.int s0]) := by
  obtain ⟨hx, hb, hml, hown, hts, -⟩ := id C0
  intro M s0 v0 H locs ls hw hl h
  unfold fX5_needSign_17 at h
  refine q_istore_n (lv' := fun z1 => [(1, .int z1), (0, .int v0)]) hx hb dX5_needSign_17 rfl hl (by decide) (fun _ => rfl) h (fun z1 ls hl h => ?_)
  refine lv_iload_n hx hb dX5_needSign_18 rfl (lv_at hl 1 rfl) ?_
  refine lv_ldcw (v := 128512) hx hb hown (hts _ (List.mem_of_getElem? (i := 3) rfl)) dX5_needSign_19 ?_
  refine q_icmp_lt (tgt := 36) hx hb dX5_needSign_22 (by decide) h (fun h => ?_) (fun h => ?_)
  · exact wX5_needSign_36 hst C0 ht  M v0 z1 _ _ _ hw (lv_sub hl [1, 0] rfl) h
  · refine lv_iload_n hx hb dX5_needSign_25 rfl (lv_at hl 1 rfl) ?_
    refine lv_ldcw (v := 128591) hx hb hown (hts _ (List.mem_of_getElem? (i := 4) rfl)) dX5_needSign_26 ?_
    refine q_icmp_gt (tgt := 36) hx hb dX5_needSign_29 (by decide) h (fun h => ?_) (fun h => ?_)
    · exact wX5_needSign_36 hst C0 ht  M v0 z1 _ _ _ hw (lv_sub hl [1, 0] rfl) h
    · refine lv_iconst (v := 1) hx hb dX5_needSign_32 (by decide) ?_
      refine lv_goto (tgt := 37) hx hb dX5_needSign_33 (by decide) ?_
      exact wX5_needSign_37 hst C0 ht  M (1 : Int32) v0 z1 _ _ _ hw (lv_sub hl [1, 0] rfl) h
def fX5_needSign_16 (F : Nat) (M : Mem) (v0 : Int32) : Option (Mem × (Unit ⊕ Nat)) :=
    fX5_needSign_17 F M (0 : Int32) v0
set_option maxHeartbeats 4000000 in
set_option maxRecDepth 100000 in
theorem wX5_needSign_16 {p : Program} {l : Launch} {e : Env} {s : State} {m : MethodId} {args : Array Value} {below : List Frame} {meth : Method} {c : Code} {D : va_G} {cy : Nat → ClassId} {ad : Nat → Nat} {x : XX} {F : Nat} {r : Mem × (Unit ⊕ Nat)} (hst : l.stackTraces = false) (C0 : MX p l s m args meth c D cy ad cX5_needSign RX5 3 wsX5_needSign (none)) (ht : ∀ z ∈ c.exceptionTable.toList, False) : ∀ (M : Mem) (v0 : Int32) (H : Heap) (locs : List Loc) (ls : Array Slot), Wd D cy ad x s M H locs → lv_has ls 3 [(0, .int v0)] → fX5_needSign_16 F M v0 = some r → W p l e rmX5_needSign s m args below meth c H locs 0 0 (QT D cy ad below args s x q_vv r 1 6) (F0 m 16 ls []) := by
  obtain ⟨hx, hb, hml, hown, hts, -⟩ := id C0
  intro M v0 H locs ls hw hl h
  unfold fX5_needSign_16 at h
  refine lv_iconst (v := 0) hx hb dX5_needSign_16 (by decide) ?_
  exact wX5_needSign_17 hst C0 ht  M (0 : Int32) v0 _ _ _ hw (lv_sub hl [0] rfl) h
def fX5_needSign (F : Nat) (M : Mem) (a0 : Int32) : Option (Mem × (Unit ⊕ Nat)) :=
    if a0 < (97 : Int32) then
    (fX5_needSign_16 F M a0)
    else
    (if (122 : Int32) < a0 then
    (fX5_needSign_16 F M a0)
    else
    (fX5_needSign_17 F M (1 : Int32) a0))
set_option maxHeartbeats 4000000 in
set_option maxRecDepth 100000 in
theorem ctX5_needSign {l : Launch} (hst : l.stackTraces = false) {D : va_G} {cy : Nat → ClassId} {ad : Nat → Nat} {x : XX} {F : Nat} {M : Mem} {a0 : Int32} {r : Mem × (Unit ⊕ Nat)} (h : fX5_needSign F M a0 = some r) : CT l yX5_needSign wsX5_needSign rmX5_needSign D cy ad [.int a0] x M r.1 (q_ou q_vv r.2) 1 6 := by
  refine q_startT (cc := cX5_needSign) (maxL := 3) (ret := none) (by decide) rfl (Nat.le_of_ble_eq_true rfl) ?_
  intro p e s m args below meth c ls C0 hw hl ht
  obtain ⟨hx, hb, hml, hown, hts, -⟩ := id C0
  have C0 : MX p l s m args meth c D cy ad cX5_needSign RX5 3 wsX5_needSign (none) := C0
  have hown : s.vm.findClass RX5 = some m.cls := hown
  have hl : lv_has ls 3 [(0, .int a0)] := hl
  show W p l e rmX5_needSign s m args below meth c s.heap [] 0 0 (QT D cy ad below args s x q_vv r 1 6) (F0 m 0 ls [])
  unfold fX5_needSign at h
  refine lv_iload_n hx hb dX5_needSign_0 rfl (lv_at hl 0 rfl) ?_
  refine lv_bipush (v := 97) hx hb dX5_needSign_1 (by decide) ?_
  refine q_icmp_lt (tgt := 16) hx hb dX5_needSign_3 (by decide) h (fun h => ?_) (fun h => ?_)
  · exact wX5_needSign_16 hst C0 ht  M a0 _ _ _ hw (lv_sub hl [0] rfl) h
  · refine lv_iload_n hx hb dX5_needSign_6 rfl (lv_at hl 0 rfl) ?_
    refine lv_bipush (v := 122) hx hb dX5_needSign_7 (by decide) ?_
    refine q_icmp_gt (tgt := 16) hx hb dX5_needSign_9 (by decide) h (fun h => ?_) (fun h => ?_)
    · exact wX5_needSign_16 hst C0 ht  M a0 _ _ _ hw (lv_sub hl [0] rfl) h
    · refine lv_iconst (v := 1) hx hb dX5_needSign_12 (by decide) ?_
      refine lv_goto (tgt := 17) hx hb dX5_needSign_13 (by decide) ?_
      exact wX5_needSign_17 hst C0 ht  M (1 : Int32) a0 _ _ _ hw (lv_sub hl [0] rfl) h
/-! Homewatcher.type(I)I -/
abbrev rmX5_type : Room := { frames := 7, cells := 2, slots := 12, locals := 112 }
def fX5_type (F : Nat) (M : Mem) (a0 : Int32) : Option (Mem × (Int32 ⊕ Nat)) :=
    q_bx (fX5_needSign F M a0) fun M1 _ =>
    q_bx (fX5_needRoomForSign F M1) fun M3 _ =>
    q_bn (fX3_put F M3 60 (M3 8 60 0) a0) fun M5 _ =>
    some (M5, Sum.inl (M5 8 60 0))
set_option maxHeartbeats 4000000 in
set_option maxRecDepth 100000 in
theorem ctX5_type {l : Launch} (hst : l.stackTraces = false) {D : va_G} {cy : Nat → ClassId} {ad : Nat → Nat} {x : XX} {F : Nat} {M : Mem} {a0 : Int32} {r : Mem × (Int32 ⊕ Nat)} (h : fX5_type F M a0 = some r) : CT l yX5_type wsX5_type rmX5_type D cy ad [.ref (ad 0), .int a0] x M r.1 (q_ou q_vi r.2) 2 12 := by
  refine q_startT (cc := cX5_type) (maxL := 2) (ret := (some .int)) (by decide) rfl (Nat.le_of_ble_eq_true rfl) ?_
  intro p e s m args below meth c ls C0 hw hl ht
  obtain ⟨hx, hb, hml, hown, hts, -⟩ := id C0
  have C0 : MX p l s m args meth c D cy ad cX5_type RX5 2 wsX5_type ((some .int)) := C0
  have hown : s.vm.findClass RX5 = some m.cls := hown
  have hl : lv_has ls 2 [(0, .ref (ad 0)), (1, .int a0)] := hl
  show W p l e rmX5_type s m args below meth c s.heap [] 0 0 (QT D cy ad below args s x q_vi r 2 12) (F0 m 0 ls [])
  unfold fX5_type at h
  refine lv_iload_n hx hb dX5_type_0 rfl (lv_at hl 1 rfl) ?_
  refine q_callSTv (As := [.int a0]) (nA := 1) C0 ht hw (fun r1 h1 => ctX5_needSign hst h1) gX5_type_X5_needSign rfl ⟨rfl, rfl⟩ (by decide +kernel) rfl ⟨(Nat.le_of_ble_eq_true rfl), (Nat.le_of_ble_eq_true rfl)⟩ hl.1 (Nat.le_of_ble_eq_true rfl) ⟨(Nat.le_of_ble_eq_true rfl), (Nat.le_of_ble_eq_true rfl)⟩ ⟨(Nat.le_of_ble_eq_true rfl), (Nat.le_of_ble_eq_true rfl)⟩ rfl h dX5_type_1 (fun M1 H locs hw h => ?_)
  refine lv_aload_n hx hb dX5_type_4 rfl (lv_at hl 0 rfl) ?_
  refine q_callVTv (As := []) (nA := 0) C0 ht hw at_HW rfl (fun r1 h1 => ctX5_needRoomForSign hst h1) gX5_type_X5_needRoomForSign rfl ⟨rfl, rfl⟩ (by decide +kernel) rfl ⟨(Nat.le_of_ble_eq_true rfl), (Nat.le_of_ble_eq_true rfl)⟩ hl.1 (Nat.le_of_ble_eq_true rfl) ⟨(Nat.le_of_ble_eq_true rfl), (Nat.le_of_ble_eq_true rfl)⟩ ⟨(Nat.le_of_ble_eq_true rfl), (Nat.le_of_ble_eq_true rfl)⟩ rfl h dX5_type_5 (fun M3 H locs hw h => ?_)
  refine lv_aload_n hx hb dX5_type_8 rfl (lv_at hl 0 rfl) ?_
  refine gf_HW_typed C0 hw (fun _ h9 => List.mem_cons_of_mem _ (List.mem_append_left _ (List.mem_append_left _ (List.mem_append_left _ (List.mem_append_left _ (List.mem_append_right _ h9)))))) (List.mem_of_getElem? (i := 1) rfl) dX5_type_9 ?_
  refine lv_aload_n hx hb dX5_type_12 rfl (lv_at hl 0 rfl) ?_
  refine gf_HW_typed C0 hw (fun _ h9 => List.mem_cons_of_mem _ (List.mem_append_left _ (List.mem_append_left _ (List.mem_append_left _ (List.mem_append_left _ (List.mem_append_right _ h9)))))) (List.mem_of_getElem? (i := 1) rfl) dX5_type_13 ?_
  refine gf_Text_signs C0 hw (Nat.le_of_ble_eq_true rfl) (fun _ h9 => List.mem_cons_of_mem _ (List.mem_append_left _ (List.mem_append_left _ (List.mem_append_left _ (List.mem_append_right _ h9))))) (List.mem_of_getElem? (i := 2) rfl) dX5_type_16 ?_
  refine lv_iload_n hx hb dX5_type_19 rfl (lv_at hl 1 rfl) ?_
  refine q_callVNv (As := [.int (M3 8 60 0), .int a0]) (nA := 2) C0 hw (at_Text (Nat.le_of_ble_eq_true rfl)) rfl (fun r1 h1 => ctX3_put hst (Nat.le_of_ble_eq_true rfl) h1) gX5_type_X3_put rfl ⟨rfl, rfl⟩ (by decide +kernel) rfl ⟨(Nat.le_of_ble_eq_true rfl), (Nat.le_of_ble_eq_true rfl)⟩ hl.1 (Nat.le_of_ble_eq_true rfl) ⟨(Nat.le_of_ble_eq_true rfl), (Nat.le_of_ble_eq_true rfl)⟩ rfl h dX5_type_20 (fun M5 H locs hw h => ?_)
  refine lv_aload_n hx hb dX5_type_23 rfl (lv_at hl 0 rfl) ?_
  refine gf_HW_typed C0 hw (fun _ h9 => List.mem_cons_of_mem _ (List.mem_append_left _ (List.mem_append_left _ (List.mem_append_left _ (List.mem_append_left _ (List.mem_append_right _ h9)))))) (List.mem_of_getElem? (i := 1) rfl) dX5_type_24 ?_
  refine gf_Text_signs C0 hw (Nat.le_of_ble_eq_true rfl) (fun _ h9 => List.mem_cons_of_mem _ (List.mem_append_left _ (List.mem_append_left _ (List.mem_append_left _ (List.mem_append_right _ h9))))) (List.mem_of_getElem? (i := 2) rfl) dX5_type_27 ?_
  exact q_iretT C0 hw h ⟨(Nat.le_of_ble_eq_true rfl), (Nat.le_of_ble_eq_true rfl)⟩ dX5_type_30
/-! Homewatcher.insert(II)I -/
abbrev rmX5_insert : Room := { frames := 7, cells := 2, slots := 12, locals := 112 }
def fX5_insert_15 (F : Nat) (M : Mem) : Option (Mem × (Int32 ⊕ Nat)) :=
    some (M, Sum.inr 3)
set_option maxHeartbeats 4000000 in
set_option maxRecDepth 100000 in
theorem wX5_insert_15 {p : Program} {l : Launch} {e : Env} {s : State} {m : MethodId} {args : Array Value} {below : List Frame} {meth : Method} {c : Code} {D : va_G} {cy : Nat → ClassId} {ad : Nat → Nat} {x : XX} {F : Nat} {r : Mem × (Int32 ⊕ Nat)} (hst : l.stackTraces = false) (C0 : MX p l s m args meth c D cy ad cX5_insert RX5 3 wsX5_insert (some .int)) (ht : ∀ z ∈ c.exceptionTable.toList, False) : ∀ (M : Mem) (H : Heap) (locs : List Loc) (ls : Array Slot), Wd D cy ad x s M H locs → lv_has ls 3 [] → fX5_insert_15 F M = some r → W p l e rmX5_insert s m args below meth c H locs 0 0 (QT D cy ad below args s x q_vi r 2 12) (F0 m 15 ls []) := by
  obtain ⟨hx, hb, hml, hown, hts, -⟩ := id C0
  intro M H locs ls hw hl h
  unfold fX5_insert_15 at h
  exact q_thrS C0 ht hst hw (ik := 130) (is := 132) (ic := 134) xp_134 (List.mem_of_getElem? (i := 1) rfl) (List.mem_of_getElem? (i := 2) rfl) (List.mem_of_getElem? (i := 9) rfl) (fun _ h9 => List.mem_cons_of_mem _ (List.mem_append_left _ (List.mem_append_left _ (List.mem_append_left _ (List.mem_append_right _ h9))))) hl.1 dX5_insert_15 dX5_insert_18 dX5_insert_19 dX5_insert_21 dX5_insert_24 ⟨(Nat.le_of_ble_eq_true rfl), (Nat.le_of_ble_eq_true rfl), (Nat.le_of_ble_eq_true rfl), (Nat.le_of_ble_eq_true rfl)⟩ ⟨(Nat.le_of_ble_eq_true rfl), (Nat.le_of_ble_eq_true rfl)⟩ h
def fX5_insert (F : Nat) (M : Mem) (a0 : Int32) (a1 : Int32) : Option (Mem × (Int32 ⊕ Nat)) :=
    if a0 < (0 : Int32) then
    (fX5_insert_15 F M)
    else
    (if a0 ≤ (M 8 60 0) then
    (q_bx (fX5_needSign F M a1) fun M1 _ =>
    q_bx (fX5_needRoomForSign F M1) fun M3 _ =>
    q_bn (fX3_put F M3 60 a0 a1) fun M5 _ =>
    q_bn (fX3_countChars F M5 60) fun M7 z8 =>
    some (M7, Sum.inl z8))
    else
    (fX5_insert_15 F M))
set_option maxHeartbeats 4000000 in
set_option maxRecDepth 100000 in
theorem ctX5_insert {l : Launch} (hst : l.stackTraces = false) {D : va_G} {cy : Nat → ClassId} {ad : Nat → Nat} {x : XX} {F : Nat} {M : Mem} {a0 : Int32} {a1 : Int32} {r : Mem × (Int32 ⊕ Nat)} (h : fX5_insert F M a0 a1 = some r) : CT l yX5_insert wsX5_insert rmX5_insert D cy ad [.ref (ad 0), .int a0, .int a1] x M r.1 (q_ou q_vi r.2) 2 12 := by
  refine q_startT (cc := cX5_insert) (maxL := 3) (ret := (some .int)) (by decide) rfl (Nat.le_of_ble_eq_true rfl) ?_
  intro p e s m args below meth c ls C0 hw hl ht
  obtain ⟨hx, hb, hml, hown, hts, -⟩ := id C0
  have C0 : MX p l s m args meth c D cy ad cX5_insert RX5 3 wsX5_insert ((some .int)) := C0
  have hown : s.vm.findClass RX5 = some m.cls := hown
  have hl : lv_has ls 3 [(0, .ref (ad 0)), (1, .int a0), (2, .int a1)] := hl
  show W p l e rmX5_insert s m args below meth c s.heap [] 0 0 (QT D cy ad below args s x q_vi r 2 12) (F0 m 0 ls [])
  unfold fX5_insert at h
  refine lv_iload_n hx hb dX5_insert_0 rfl (lv_at hl 1 rfl) ?_
  refine q_if_lt (tgt := 15) hx hb dX5_insert_1 (by decide) h (fun h => ?_) (fun h => ?_)
  · exact wX5_insert_15 hst C0 ht  M _ _ _ hw (lv_sub hl [] rfl) h
  · refine lv_iload_n hx hb dX5_insert_4 rfl (lv_at hl 1 rfl) ?_
    refine lv_aload_n hx hb dX5_insert_5 rfl (lv_at hl 0 rfl) ?_
    refine gf_HW_typed C0 hw (fun _ h9 => List.mem_cons_of_mem _ (List.mem_append_left _ (List.mem_append_left _ (List.mem_append_left _ (List.mem_append_left _ (List.mem_append_left _ (List.mem_append_right _ h9))))))) (List.mem_of_getElem? (i := 3) rfl) dX5_insert_6 ?_
    refine gf_Text_signs C0 hw (Nat.le_of_ble_eq_true rfl) (fun _ h9 => List.mem_cons_of_mem _ (List.mem_append_left _ (List.mem_append_left _ (List.mem_append_left _ (List.mem_append_left _ (List.mem_append_right _ h9)))))) (List.mem_of_getElem? (i := 4) rfl) dX5_insert_9 ?_
    refine q_icmp_le (tgt := 25) hx hb dX5_insert_12 (by decide) h (fun h => ?_) (fun h => ?_)
    · refine lv_iload_n hx hb dX5_insert_25 rfl (lv_at hl 2 rfl) ?_
      refine q_callSTv (As := [.int a1]) (nA := 1) C0 ht hw (fun r1 h1 => ctX5_needSign hst h1) gX5_insert_X5_needSign rfl ⟨rfl, rfl⟩ (by decide +kernel) rfl ⟨(Nat.le_of_ble_eq_true rfl), (Nat.le_of_ble_eq_true rfl)⟩ hl.1 (Nat.le_of_ble_eq_true rfl) ⟨(Nat.le_of_ble_eq_true rfl), (Nat.le_of_ble_eq_true rfl)⟩ ⟨(Nat.le_of_ble_eq_true rfl), (Nat.le_of_ble_eq_true rfl)⟩ rfl h dX5_insert_26 (fun M1 H locs hw h => ?_)
      refine lv_aload_n hx hb dX5_insert_29 rfl (lv_at hl 0 rfl) ?_
      refine q_callVTv (As := []) (nA := 0) C0 ht hw at_HW rfl (fun r1 h1 => ctX5_needRoomForSign hst h1) gX5_insert_X5_needRoomForSign rfl ⟨rfl, rfl⟩ (by decide +kernel) rfl ⟨(Nat.le_of_ble_eq_true rfl), (Nat.le_of_ble_eq_true rfl)⟩ hl.1 (Nat.le_of_ble_eq_true rfl) ⟨(Nat.le_of_ble_eq_true rfl), (Nat.le_of_ble_eq_true rfl)⟩ ⟨(Nat.le_of_ble_eq_true rfl), (Nat.le_of_ble_eq_true rfl)⟩ rfl h dX5_insert_30 (fun M3 H locs hw h => ?_)
      refine lv_aload_n hx hb dX5_insert_33 rfl (lv_at hl 0 rfl) ?_
      refine gf_HW_typed C0 hw (fun _ h9 => List.mem_cons_of_mem _ (List.mem_append_left _ (List.mem_append_left _ (List.mem_append_left _ (List.mem_append_left _ (List.mem_append_left _ (List.mem_append_right _ h9))))))) (List.mem_of_getElem? (i := 3) rfl) dX5_insert_34 ?_
      refine lv_iload_n hx hb dX5_insert_37 rfl (lv_at hl 1 rfl) ?_
      refine lv_iload_n hx hb dX5_insert_38 rfl (lv_at hl 2 rfl) ?_
      refine q_callVNv (As := [.int a0, .int a1]) (nA := 2) C0 hw (at_Text (Nat.le_of_ble_eq_true rfl)) rfl (fun r1 h1 => ctX3_put hst (Nat.le_of_ble_eq_true rfl) h1) gX5_insert_X3_put rfl ⟨rfl, rfl⟩ (by decide +kernel) rfl ⟨(Nat.le_of_ble_eq_true rfl), (Nat.le_of_ble_eq_true rfl)⟩ hl.1 (Nat.le_of_ble_eq_true rfl) ⟨(Nat.le_of_ble_eq_true rfl), (Nat.le_of_ble_eq_true rfl)⟩ rfl h dX5_insert_39 (fun M5 H locs hw h => ?_)
      refine lv_aload_n hx hb dX5_insert_42 rfl (lv_at hl 0 rfl) ?_
      refine gf_HW_typed C0 hw (fun _ h9 => List.mem_cons_of_mem _ (List.mem_append_left _ (List.mem_append_left _ (List.mem_append_left _ (List.mem_append_left _ (List.mem_append_left _ (List.mem_append_right _ h9))))))) (List.mem_of_getElem? (i := 3) rfl) dX5_insert_43 ?_
      refine q_callVNi (As := []) (nA := 0) C0 hw (at_Text (Nat.le_of_ble_eq_true rfl)) rfl (fun r1 h1 => ctX3_countChars hst (Nat.le_of_ble_eq_true rfl) h1) gX5_insert_X3_countChars rfl ⟨rfl, rfl⟩ (by decide +kernel) rfl ⟨(Nat.le_of_ble_eq_true rfl), (Nat.le_of_ble_eq_true rfl)⟩ hl.1 (Nat.le_of_ble_eq_true rfl) ⟨(Nat.le_of_ble_eq_true rfl), (Nat.le_of_ble_eq_true rfl)⟩ rfl h dX5_insert_46 (fun M7 z8 H locs hw h => ?_)
      exact q_iretT C0 hw h ⟨(Nat.le_of_ble_eq_true rfl), (Nat.le_of_ble_eq_true rfl)⟩ dX5_insert_49
    · exact wX5_insert_15 hst C0 ht  M _ _ _ hw (lv_sub hl [] rfl) h
/-! Homewatcher.reverse()I -/
abbrev rmX5_reverse : Room := { frames := 1, cells := 0, slots := 0, locals := 23 }
def fX5_reverse_30 (F : Nat) (M : Mem) (s0 : Int32) : Option (Mem × Int32) :=
    some (M, s0)
set_option maxHeartbeats 4000000 in
set_option maxRecDepth 100000 in
theorem wX5_reverse_30 {p : Program} {l : Launch} {e : Env} {s : State} {m : MethodId} {args : Array Value} {below : List Frame} {meth : Method} {c : Code} {D : va_G} {cy : Nat → ClassId} {ad : Nat → Nat} {x : XX} {F : Nat} {r : Mem × Int32} (hst : l.stackTraces = false) (C0 : MX p l s m args meth c D cy ad cX5_reverse RX5 1 wsX5_reverse (some .int)) : ∀ (M : Mem) (s0 : Int32) (H : Heap) (locs : List Loc) (ls : Array Slot), Wd D cy ad x s M H locs → lv_has ls 1 [] → fX5_reverse_30 F M s0 = some r → W p l e rmX5_reverse s m args below meth c H locs 0 0 (QN D cy ad below args s x q_vi r 0 0) (F0 m 30 ls [.int s0]) := by
  obtain ⟨hx, hb, hml, hown, hts, -⟩ := id C0
  intro M s0 H locs ls hw hl h
  unfold fX5_reverse_30 at h
  exact q_iretN C0 hw h ⟨(Nat.le_of_ble_eq_true rfl), (Nat.le_of_ble_eq_true rfl)⟩ dX5_reverse_30
def fX5_reverse (F : Nat) (M : Mem) : Option (Mem × Int32) :=
    q_bn (fX3_turn F M 60) fun M1 _ =>
    if (M1 8 60 0) ≤ (0 : Int32) then
    (fX5_reverse_30 F M1 (0 : Int32))
    else
    (q_ax (0 : Int32) 40 fun j3 =>
    fX5_reverse_30 F M1 (M1 22 60 j3))
set_option maxHeartbeats 4000000 in
set_option maxRecDepth 100000 in
theorem ctX5_reverse {l : Launch} (hst : l.stackTraces = false) {D : va_G} {cy : Nat → ClassId} {ad : Nat → Nat} {x : XX} {F : Nat} {M : Mem} {r : Mem × Int32} (h : fX5_reverse F M = some r) : CN l yX5_reverse wsX5_reverse rmX5_reverse D cy ad [.ref (ad 0)] x M x r.1 (q_vi r.2) 0 0 := by
  refine q_startN (cc := cX5_reverse) (maxL := 1) (ret := (some .int)) (by decide) rfl (Nat.le_of_ble_eq_true rfl) ?_
  intro p e s m args below meth c ls C0 hw hl hnm
  obtain ⟨hx, hb, hml, hown, hts, -⟩ := id C0
  have C0 : MX p l s m args meth c D cy ad cX5_reverse RX5 1 wsX5_reverse ((some .int)) := C0
  have hown : s.vm.findClass RX5 = some m.cls := hown
  have hl : lv_has ls 1 [(0, .ref (ad 0))] := hl
  show W p l e rmX5_reverse s m args below meth c s.heap [] 0 0 (QN D cy ad below args s x q_vi r 0 0) (F0 m 0 ls [])
  unfold fX5_reverse at h
  refine lv_aload_n hx hb dX5_reverse_0 rfl (lv_at hl 0 rfl) ?_
  refine gf_HW_typed C0 hw (fun _ h9 => List.mem_cons_of_mem _ (List.mem_append_left _ (List.mem_append_left _ (List.mem_append_right _ h9)))) (List.mem_of_getElem? (i := 1) rfl) dX5_reverse_1 ?_
  refine q_callVNv (As := []) (nA := 0) C0 hw (at_Text (Nat.le_of_ble_eq_true rfl)) rfl (fun r1 h1 => ctX3_turn hst (Nat.le_of_ble_eq_true rfl) h1) gX5_reverse_X3_turn rfl ⟨rfl, rfl⟩ (by decide +kernel) rfl ⟨(Nat.le_of_ble_eq_true rfl), (Nat.le_of_ble_eq_true rfl)⟩ hl.1 (Nat.le_of_ble_eq_true rfl) ⟨(Nat.le_of_ble_eq_true rfl), (Nat.le_of_ble_eq_true rfl)⟩ rfl h dX5_reverse_4 (fun M1 H locs hw h => ?_)
  refine lv_aload_n hx hb dX5_reverse_7 rfl (lv_at hl 0 rfl) ?_
  refine gf_HW_typed C0 hw (fun _ h9 => List.mem_cons_of_mem _ (List.mem_append_left _ (List.mem_append_left _ (List.mem_append_right _ h9)))) (List.mem_of_getElem? (i := 1) rfl) dX5_reverse_8 ?_
  refine gf_Text_signs C0 hw (Nat.le_of_ble_eq_true rfl) (fun _ h9 => List.mem_cons_of_mem _ (List.mem_append_left _ (List.mem_append_right _ h9))) (List.mem_of_getElem? (i := 2) rfl) dX5_reverse_11 ?_
  refine q_if_le (tgt := 29) hx hb dX5_reverse_14 (by decide) h (fun h => ?_) (fun h => ?_)
  · refine lv_iconst (v := 0) hx hb dX5_reverse_29 (by decide) ?_
    exact wX5_reverse_30 hst C0  M1 (0 : Int32) _ _ _ hw (lv_sub hl [] rfl) h
  · refine lv_aload_n hx hb dX5_reverse_17 rfl (lv_at hl 0 rfl) ?_
    refine gf_HW_typed C0 hw (fun _ h9 => List.mem_cons_of_mem _ (List.mem_append_left _ (List.mem_append_left _ (List.mem_append_right _ h9)))) (List.mem_of_getElem? (i := 1) rfl) dX5_reverse_18 ?_
    refine gf_Text_codes C0 hw (Nat.le_of_ble_eq_true rfl) (fun _ h9 => List.mem_cons_of_mem _ (List.mem_append_left _ (List.mem_append_right _ h9))) (List.mem_of_getElem? (i := 3) rfl) dX5_reverse_21 ?_
    refine lv_iconst (v := 0) hx hb dX5_reverse_24 (by decide) ?_
    refine q_iald C0 hw (at_codes (Nat.le_of_ble_eq_true rfl)) h dX5_reverse_25 (fun j3 hj3 h => ?_)
    refine lv_goto (tgt := 30) hx hb dX5_reverse_26 (by decide) ?_
    exact wX5_reverse_30 hst C0  M1 (M1 22 60 j3) _ _ _ hw (lv_sub hl [] rfl) h
/-! Homewatcher.wipe()I -/
abbrev rmX5_wipe : Room := { frames := 0, cells := 0, slots := 0, locals := 0 }
def fX5_wipe (F : Nat) (M : Mem) : Option (Mem × Int32) :=
    q_lt (M 8 60 0) fun z1 =>
    q_lt (up M 8 60 0 (0 : Int32)) fun M2 =>
    some (M2, z1)
set_option maxHeartbeats 4000000 in
set_option maxRecDepth 100000 in
theorem ctX5_wipe {l : Launch} (hst : l.stackTraces = false) {D : va_G} {cy : Nat → ClassId} {ad : Nat → Nat} {x : XX} {F : Nat} {M : Mem} {r : Mem × Int32} (h : fX5_wipe F M = some r) : CN l yX5_wipe wsX5_wipe rmX5_wipe D cy ad [.ref (ad 0)] x M x r.1 (q_vi r.2) 0 0 := by
  refine q_startN (cc := cX5_wipe) (maxL := 2) (ret := (some .int)) (by decide) rfl (Nat.le_of_ble_eq_true rfl) ?_
  intro p e s m args below meth c ls C0 hw hl hnm
  obtain ⟨hx, hb, hml, hown, hts, -⟩ := id C0
  have C0 : MX p l s m args meth c D cy ad cX5_wipe RX5 2 wsX5_wipe ((some .int)) := C0
  have hown : s.vm.findClass RX5 = some m.cls := hown
  have hl : lv_has ls 2 [(0, .ref (ad 0))] := hl
  show W p l e rmX5_wipe s m args below meth c s.heap [] 0 0 (QN D cy ad below args s x q_vi r 0 0) (F0 m 0 ls [])
  unfold fX5_wipe at h
  refine lv_aload_n hx hb dX5_wipe_0 rfl (lv_at hl 0 rfl) ?_
  refine gf_HW_typed C0 hw (fun _ h9 => List.mem_cons_of_mem _ (List.mem_append_left _ (List.mem_append_right _ h9))) (List.mem_of_getElem? (i := 1) rfl) dX5_wipe_1 ?_
  refine gf_Text_signs C0 hw (Nat.le_of_ble_eq_true rfl) (fun _ h9 => List.mem_cons_of_mem _ (List.mem_append_right _ h9)) (List.mem_of_getElem? (i := 2) rfl) dX5_wipe_4 ?_
  refine q_istore_n (lv' := fun z1 => [(1, .int z1), (0, .ref (ad 0))]) hx hb dX5_wipe_7 rfl hl (by decide) (fun _ => rfl) h (fun z1 ls hl h => ?_)
  refine lv_aload_n hx hb dX5_wipe_8 rfl (lv_at hl 1 rfl) ?_
  refine gf_HW_typed C0 hw (fun _ h9 => List.mem_cons_of_mem _ (List.mem_append_left _ (List.mem_append_right _ h9))) (List.mem_of_getElem? (i := 1) rfl) dX5_wipe_9 ?_
  refine lv_iconst (v := 0) hx hb dX5_wipe_12 (by decide) ?_
  refine pf_Text_signs C0 hw (Nat.le_of_ble_eq_true rfl) (fun _ h9 => List.mem_cons_of_mem _ (List.mem_append_right _ h9)) (List.mem_of_getElem? (i := 2) rfl) dX5_wipe_13 h (fun M2 H locs hw h => ?_)
  refine lv_iload_n hx hb dX5_wipe_16 rfl (lv_at hl 0 rfl) ?_
  exact q_iretN C0 hw h ⟨(Nat.le_of_ble_eq_true rfl), (Nat.le_of_ble_eq_true rfl)⟩ dX5_wipe_17
/-! Homewatcher.charAt(I)C -/
abbrev rmX5_charAt : Room := { frames := 6, cells := 1, slots := 6, locals := 90 }
def fX5_charAt_15 (F : Nat) (M : Mem) : Option (Mem × (Int32 ⊕ Nat)) :=
    some (M, Sum.inr 4)
set_option maxHeartbeats 4000000 in
set_option maxRecDepth 100000 in
theorem wX5_charAt_15 {p : Program} {l : Launch} {e : Env} {s : State} {m : MethodId} {args : Array Value} {below : List Frame} {meth : Method} {c : Code} {D : va_G} {cy : Nat → ClassId} {ad : Nat → Nat} {x : XX} {F : Nat} {r : Mem × (Int32 ⊕ Nat)} (hst : l.stackTraces = false) (C0 : MX p l s m args meth c D cy ad cX5_charAt RX5 2 wsX5_charAt (some .char)) (ht : ∀ z ∈ c.exceptionTable.toList, False) : ∀ (M : Mem) (H : Heap) (locs : List Loc) (ls : Array Slot), Wd D cy ad x s M H locs → lv_has ls 2 [] → fX5_charAt_15 F M = some r → W p l e rmX5_charAt s m args below meth c H locs 0 0 (QT D cy ad below args s x q_vi r 1 6) (F0 m 15 ls []) := by
  obtain ⟨hx, hb, hml, hown, hts, -⟩ := id C0
  intro M H locs ls hw hl h
  unfold fX5_charAt_15 at h
  exact q_thrN C0 ht hst hw (ik := 145) (is := 147) (ic := 149) xp_149 (List.mem_of_getElem? (i := 1) rfl) (List.mem_of_getElem? (i := 2) rfl) (List.mem_of_getElem? (i := 10) rfl) (fun _ h9 => List.mem_cons_of_mem _ (List.mem_append_left _ (List.mem_append_right _ h9))) hl.1 dX5_charAt_15 dX5_charAt_18 dX5_charAt_19 dX5_charAt_21 dX5_charAt_24 ⟨(Nat.le_of_ble_eq_true rfl), (Nat.le_of_ble_eq_true rfl), (Nat.le_of_ble_eq_true rfl), (Nat.le_of_ble_eq_true rfl)⟩ ⟨(Nat.le_of_ble_eq_true rfl), (Nat.le_of_ble_eq_true rfl)⟩ h
def fX5_charAt (F : Nat) (M : Mem) (a0 : Int32) : Option (Mem × (Int32 ⊕ Nat)) :=
    if a0 < (0 : Int32) then
    (fX5_charAt_15 F M)
    else
    (q_bn (fX3_countChars F M 60) fun M1 z2 =>
    if a0 < z2 then
    (q_bn (fX3_charIn F M1 60 a0) fun M3 z4 =>
    q_gd (q_isC z4) (
    some (M3, Sum.inl z4)))
    else
    (fX5_charAt_15 F M1))
set_option maxHeartbeats 4000000 in
set_option maxRecDepth 100000 in
theorem ctX5_charAt {l : Launch} (hst : l.stackTraces = false) {D : va_G} {cy : Nat → ClassId} {ad : Nat → Nat} {x : XX} {F : Nat} {M : Mem} {a0 : Int32} {r : Mem × (Int32 ⊕ Nat)} (h : fX5_charAt F M a0 = some r) : CT l yX5_charAt wsX5_charAt rmX5_charAt D cy ad [.ref (ad 0), .int a0] x M r.1 (q_ou q_vi r.2) 1 6 := by
  refine q_startT (cc := cX5_charAt) (maxL := 2) (ret := (some .char)) (by decide) rfl (Nat.le_of_ble_eq_true rfl) ?_
  intro p e s m args below meth c ls C0 hw hl ht
  obtain ⟨hx, hb, hml, hown, hts, -⟩ := id C0
  have C0 : MX p l s m args meth c D cy ad cX5_charAt RX5 2 wsX5_charAt ((some .char)) := C0
  have hown : s.vm.findClass RX5 = some m.cls := hown
  have hl : lv_has ls 2 [(0, .ref (ad 0)), (1, .int a0)] := hl
  show W p l e rmX5_charAt s m args below meth c s.heap [] 0 0 (QT D cy ad below args s x q_vi r 1 6) (F0 m 0 ls [])
  unfold fX5_charAt at h
  refine lv_iload_n hx hb dX5_charAt_0 rfl (lv_at hl 1 rfl) ?_
  refine q_if_lt (tgt := 15) hx hb dX5_charAt_1 (by decide) h (fun h => ?_) (fun h => ?_)
  · exact wX5_charAt_15 hst C0 ht  M _ _ _ hw (lv_sub hl [] rfl) h
  · refine lv_iload_n hx hb dX5_charAt_4 rfl (lv_at hl 1 rfl) ?_
    refine lv_aload_n hx hb dX5_charAt_5 rfl (lv_at hl 0 rfl) ?_
    refine gf_HW_typed C0 hw (fun _ h9 => List.mem_cons_of_mem _ (List.mem_append_left _ (List.mem_append_left _ (List.mem_append_left _ (List.mem_append_right _ h9))))) (List.mem_of_getElem? (i := 3) rfl) dX5_charAt_6 ?_
    refine q_callVNi (As := []) (nA := 0) C0 hw (at_Text (Nat.le_of_ble_eq_true rfl)) rfl (fun r1 h1 => ctX3_countChars hst (Nat.le_of_ble_eq_true rfl) h1) gX5_charAt_X3_countChars rfl ⟨rfl, rfl⟩ (by decide +kernel) rfl ⟨(Nat.le_of_ble_eq_true rfl), (Nat.le_of_ble_eq_true rfl)⟩ hl.1 (Nat.le_of_ble_eq_true rfl) ⟨(Nat.le_of_ble_eq_true rfl), (Nat.le_of_ble_eq_true rfl)⟩ rfl h dX5_charAt_9 (fun M1 z2 H locs hw h => ?_)
    refine q_icmp_lt (tgt := 25) hx hb dX5_charAt_12 (by decide) h (fun h => ?_) (fun h => ?_)
    · refine lv_aload_n hx hb dX5_charAt_25 rfl (lv_at hl 0 rfl) ?_
      refine gf_HW_typed C0 hw (fun _ h9 => List.mem_cons_of_mem _ (List.mem_append_left _ (List.mem_append_left _ (List.mem_append_left _ (List.mem_append_right _ h9))))) (List.mem_of_getElem? (i := 3) rfl) dX5_charAt_26 ?_
      refine lv_iload_n hx hb dX5_charAt_29 rfl (lv_at hl 1 rfl) ?_
      refine q_callVNi (As := [.int a0]) (nA := 1) C0 hw (at_Text (Nat.le_of_ble_eq_true rfl)) rfl (fun r1 h1 => ctX3_charIn hst (Nat.le_of_ble_eq_true rfl) h1) gX5_charAt_X3_charIn rfl ⟨rfl, rfl⟩ (by decide +kernel) rfl ⟨(Nat.le_of_ble_eq_true rfl), (Nat.le_of_ble_eq_true rfl)⟩ hl.1 (Nat.le_of_ble_eq_true rfl) ⟨(Nat.le_of_ble_eq_true rfl), (Nat.le_of_ble_eq_true rfl)⟩ rfl h dX5_charAt_30 (fun M3 z4 H locs hw h => ?_)
      refine q_guard h (fun g h => ?_)
      exact q_zretT C0 hw (q_isC_in g).1 h ⟨(Nat.le_of_ble_eq_true rfl), (Nat.le_of_ble_eq_true rfl)⟩ dX5_charAt_33
    · exact wX5_charAt_15 hst C0 ht  M1 _ _ _ hw (lv_sub hl [] rfl) h
/-! Homewatcher.needPupil(I)V -/
abbrev rmX5_needPupil : Room := { frames := 6, cells := 1, slots := 6, locals := 90 }
def fX5_needPupil_12 (F : Nat) (M : Mem) : Option (Mem × (Unit ⊕ Nat)) :=
    some (M, Sum.inr 3)
set_option maxHeartbeats 4000000 in
set_option maxRecDepth 100000 in
theorem wX5_needPupil_12 {p : Program} {l : Launch} {e : Env} {s : State} {m : MethodId} {args : Array Value} {below : List Frame} {meth : Method} {c : Code} {D : va_G} {cy : Nat → ClassId} {ad : Nat → Nat} {x : XX} {F : Nat} {r : Mem × (Unit ⊕ Nat)} (hst : l.stackTraces = false) (C0 : MX p l s m args meth c D cy ad cX5_needPupil RX5 2 wsX5_needPupil (none)) (ht : ∀ z ∈ c.exceptionTable.toList, False) : ∀ (M : Mem) (H : Heap) (locs : List Loc) (ls : Array Slot), Wd D cy ad x s M H locs → lv_has ls 2 [] → fX5_needPupil_12 F M = some r → W p l e rmX5_needPupil s m args below meth c H locs 0 0 (QT D cy ad below args s x q_vv r 1 6) (F0 m 12 ls []) := by
  obtain ⟨hx, hb, hml, hown, hts, -⟩ := id C0
  intro M H locs ls hw hl h
  unfold fX5_needPupil_12 at h
  exact q_thrSW C0 ht hst hw (ik := 130) (is := 358) (ic := 134) xp_134 (List.mem_of_getElem? (i := 1) rfl) (List.mem_of_getElem? (i := 2) rfl) (List.mem_of_getElem? (i := 11) rfl) (fun _ h9 => List.mem_cons_of_mem _ (List.mem_append_right _ h9)) hl.1 dX5_needPupil_12 dX5_needPupil_15 dX5_needPupil_16 dX5_needPupil_19 dX5_needPupil_22 ⟨(Nat.le_of_ble_eq_true rfl), (Nat.le_of_ble_eq_true rfl), (Nat.le_of_ble_eq_true rfl), (Nat.le_of_ble_eq_true rfl)⟩ ⟨(Nat.le_of_ble_eq_true rfl), (Nat.le_of_ble_eq_true rfl)⟩ h
def fX5_needPupil (F : Nat) (M : Mem) (a0 : Int32) : Option (Mem × (Unit ⊕ Nat)) :=
    if a0 < (0 : Int32) then
    (fX5_needPupil_12 F M)
    else
    (if a0 < (M 1 0 0) then
    (some (M, Sum.inl ()))
    else
    (fX5_needPupil_12 F M))
set_option maxHeartbeats 4000000 in
set_option maxRecDepth 100000 in
theorem ctX5_needPupil {l : Launch} (hst : l.stackTraces = false) {D : va_G} {cy : Nat → ClassId} {ad : Nat → Nat} {x : XX} {F : Nat} {M : Mem} {a0 : Int32} {r : Mem × (Unit ⊕ Nat)} (h : fX5_needPupil F M a0 = some r) : CT l yX5_needPupil wsX5_needPupil rmX5_needPupil D cy ad [.ref (ad 0), .int a0] x M r.1 (q_ou q_vv r.2) 1 6 := by
  refine q_startT (cc := cX5_needPupil) (maxL := 2) (ret := none) (by decide) rfl (Nat.le_of_ble_eq_true rfl) ?_
  intro p e s m args below meth c ls C0 hw hl ht
  obtain ⟨hx, hb, hml, hown, hts, -⟩ := id C0
  have C0 : MX p l s m args meth c D cy ad cX5_needPupil RX5 2 wsX5_needPupil (none) := C0
  have hown : s.vm.findClass RX5 = some m.cls := hown
  have hl : lv_has ls 2 [(0, .ref (ad 0)), (1, .int a0)] := hl
  show W p l e rmX5_needPupil s m args below meth c s.heap [] 0 0 (QT D cy ad below args s x q_vv r 1 6) (F0 m 0 ls [])
  unfold fX5_needPupil at h
  refine lv_iload_n hx hb dX5_needPupil_0 rfl (lv_at hl 1 rfl) ?_
  refine q_if_lt (tgt := 12) hx hb dX5_needPupil_1 (by decide) h (fun h => ?_) (fun h => ?_)
  · exact wX5_needPupil_12 hst C0 ht  M _ _ _ hw (lv_sub hl [] rfl) h
  · refine lv_iload_n hx hb dX5_needPupil_4 rfl (lv_at hl 1 rfl) ?_
    refine lv_aload_n hx hb dX5_needPupil_5 rfl (lv_at hl 0 rfl) ?_
    refine gf_HW_pupilCount C0 hw (fun _ h9 => List.mem_cons_of_mem _ (List.mem_append_left _ (List.mem_append_right _ h9))) (List.mem_of_getElem? (i := 3) rfl) dX5_needPupil_6 ?_
    refine q_icmp_lt (tgt := 23) hx hb dX5_needPupil_9 (by decide) h (fun h => ?_) (fun h => ?_)
    · exact q_vretT C0 hw h ⟨(Nat.le_of_ble_eq_true rfl), (Nat.le_of_ble_eq_true rfl)⟩ dX5_needPupil_23
    · exact wX5_needPupil_12 hst C0 ht  M _ _ _ hw (lv_sub hl [] rfl) h
/-! Homewatcher.needTask(I)V -/
abbrev rmX5_needTask : Room := { frames := 6, cells := 1, slots := 6, locals := 90 }
def fX5_needTask_12 (F : Nat) (M : Mem) : Option (Mem × (Unit ⊕ Nat)) :=
    some (M, Sum.inr 3)
set_option maxHeartbeats 4000000 in
set_option maxRecDepth 100000 in
theorem wX5_needTask_12 {p : Program} {l : Launch} {e : Env} {s : State} {m : MethodId} {args : Array Value} {below : List Frame} {meth : Method} {c : Code} {D : va_G} {cy : Nat → ClassId} {ad : Nat → Nat} {x : XX} {F : Nat} {r : Mem × (Unit ⊕ Nat)} (hst : l.stackTraces = false) (C0 : MX p l s m args meth c D cy ad cX5_needTask RX5 2 wsX5_needTask (none)) (ht : ∀ z ∈ c.exceptionTable.toList, False) : ∀ (M : Mem) (H : Heap) (locs : List Loc) (ls : Array Slot), Wd D cy ad x s M H locs → lv_has ls 2 [] → fX5_needTask_12 F M = some r → W p l e rmX5_needTask s m args below meth c H locs 0 0 (QT D cy ad below args s x q_vv r 1 6) (F0 m 12 ls []) := by
  obtain ⟨hx, hb, hml, hown, hts, -⟩ := id C0
  intro M H locs ls hw hl h
  unfold fX5_needTask_12 at h
  exact q_thrSW C0 ht hst hw (ik := 130) (is := 360) (ic := 134) xp_134 (List.mem_of_getElem? (i := 1) rfl) (List.mem_of_getElem? (i := 2) rfl) (List.mem_of_getElem? (i := 12) rfl) (fun _ h9 => List.mem_cons_of_mem _ (List.mem_append_right _ h9)) hl.1 dX5_needTask_12 dX5_needTask_15 dX5_needTask_16 dX5_needTask_19 dX5_needTask_22 ⟨(Nat.le_of_ble_eq_true rfl), (Nat.le_of_ble_eq_true rfl), (Nat.le_of_ble_eq_true rfl), (Nat.le_of_ble_eq_true rfl)⟩ ⟨(Nat.le_of_ble_eq_true rfl), (Nat.le_of_ble_eq_true rfl)⟩ h
def fX5_needTask (F : Nat) (M : Mem) (a0 : Int32) : Option (Mem × (Unit ⊕ Nat)) :=
    if a0 < (0 : Int32) then
    (fX5_needTask_12 F M)
    else
    (if a0 < (M 2 0 0) then
    (some (M, Sum.inl ()))
    else
    (fX5_needTask_12 F M))
set_option maxHeartbeats 4000000 in
set_option maxRecDepth 100000 in
theorem ctX5_needTask {l : Launch} (hst : l.stackTraces = false) {D : va_G} {cy : Nat → ClassId} {ad : Nat → Nat} {x : XX} {F : Nat} {M : Mem} {a0 : Int32} {r : Mem × (Unit ⊕ Nat)} (h : fX5_needTask F M a0 = some r) : CT l yX5_needTask wsX5_needTask rmX5_needTask D cy ad [.ref (ad 0), .int a0] x M r.1 (q_ou q_vv r.2) 1 6 := by
  refine q_startT (cc := cX5_needTask) (maxL := 2) (ret := none) (by decide) rfl (Nat.le_of_ble_eq_true rfl) ?_
  intro p e s m args below meth c ls C0 hw hl ht
  obtain ⟨hx, hb, hml, hown, hts, -⟩ := id C0
  have C0 : MX p l s m args meth c D cy ad cX5_needTask RX5 2 wsX5_needTask (none) := C0
  have hown : s.vm.findClass RX5 = some m.cls := hown
  have hl : lv_has ls 2 [(0, .ref (ad 0)), (1, .int a0)] := hl
  show W p l e rmX5_needTask s m args below meth c s.heap [] 0 0 (QT D cy ad below args s x q_vv r 1 6) (F0 m 0 ls [])
  unfold fX5_needTask at h
  refine lv_iload_n hx hb dX5_needTask_0 rfl (lv_at hl 1 rfl) ?_
  refine q_if_lt (tgt := 12) hx hb dX5_needTask_1 (by decide) h (fun h => ?_) (fun h => ?_)
  · exact wX5_needTask_12 hst C0 ht  M _ _ _ hw (lv_sub hl [] rfl) h
  · refine lv_iload_n hx hb dX5_needTask_4 rfl (lv_at hl 1 rfl) ?_
    refine lv_aload_n hx hb dX5_needTask_5 rfl (lv_at hl 0 rfl) ?_
    refine gf_HW_taskCount C0 hw (fun _ h9 => List.mem_cons_of_mem _ (List.mem_append_left _ (List.mem_append_right _ h9))) (List.mem_of_getElem? (i := 3) rfl) dX5_needTask_6 ?_
    refine q_icmp_lt (tgt := 23) hx hb dX5_needTask_9 (by decide) h (fun h => ?_) (fun h => ?_)
    · exact q_vretT C0 hw h ⟨(Nat.le_of_ble_eq_true rfl), (Nat.le_of_ble_eq_true rfl)⟩ dX5_needTask_23
    · exact wX5_needTask_12 hst C0 ht  M _ _ _ hw (lv_sub hl [] rfl) h
/-! Homewatcher.needVersion(I)V -/
abbrev rmX5_needVersion : Room := { frames := 6, cells := 1, slots := 6, locals := 90 }
def fX5_needVersion_12 (F : Nat) (M : Mem) : Option (Mem × (Unit ⊕ Nat)) :=
    some (M, Sum.inr 3)
set_option maxHeartbeats 4000000 in
set_option maxRecDepth 100000 in
theorem wX5_needVersion_12 {p : Program} {l : Launch} {e : Env} {s : State} {m : MethodId} {args : Array Value} {below : List Frame} {meth : Method} {c : Code} {D : va_G} {cy : Nat → ClassId} {ad : Nat → Nat} {x : XX} {F : Nat} {r : Mem × (Unit ⊕ Nat)} (hst : l.stackTraces = false) (C0 : MX p l s m args meth c D cy ad cX5_needVersion RX5 2 wsX5_needVersion (none)) (ht : ∀ z ∈ c.exceptionTable.toList, False) : ∀ (M : Mem) (H : Heap) (locs : List Loc) (ls : Array Slot), Wd D cy ad x s M H locs → lv_has ls 2 [] → fX5_needVersion_12 F M = some r → W p l e rmX5_needVersion s m args below meth c H locs 0 0 (QT D cy ad below args s x q_vv r 1 6) (F0 m 12 ls []) := by
  obtain ⟨hx, hb, hml, hown, hts, -⟩ := id C0
  intro M H locs ls hw hl h
  unfold fX5_needVersion_12 at h
  exact q_thrSW C0 ht hst hw (ik := 130) (is := 362) (ic := 134) xp_134 (List.mem_of_getElem? (i := 1) rfl) (List.mem_of_getElem? (i := 2) rfl) (List.mem_of_getElem? (i := 13) rfl) (fun _ h9 => List.mem_cons_of_mem _ (List.mem_append_right _ h9)) hl.1 dX5_needVersion_12 dX5_needVersion_15 dX5_needVersion_16 dX5_needVersion_19 dX5_needVersion_22 ⟨(Nat.le_of_ble_eq_true rfl), (Nat.le_of_ble_eq_true rfl), (Nat.le_of_ble_eq_true rfl), (Nat.le_of_ble_eq_true rfl)⟩ ⟨(Nat.le_of_ble_eq_true rfl), (Nat.le_of_ble_eq_true rfl)⟩ h
def fX5_needVersion (F : Nat) (M : Mem) (a0 : Int32) : Option (Mem × (Unit ⊕ Nat)) :=
    if a0 < (0 : Int32) then
    (fX5_needVersion_12 F M)
    else
    (if a0 < (M 4 0 0) then
    (some (M, Sum.inl ()))
    else
    (fX5_needVersion_12 F M))
set_option maxHeartbeats 4000000 in
set_option maxRecDepth 100000 in
theorem ctX5_needVersion {l : Launch} (hst : l.stackTraces = false) {D : va_G} {cy : Nat → ClassId} {ad : Nat → Nat} {x : XX} {F : Nat} {M : Mem} {a0 : Int32} {r : Mem × (Unit ⊕ Nat)} (h : fX5_needVersion F M a0 = some r) : CT l yX5_needVersion wsX5_needVersion rmX5_needVersion D cy ad [.ref (ad 0), .int a0] x M r.1 (q_ou q_vv r.2) 1 6 := by
  refine q_startT (cc := cX5_needVersion) (maxL := 2) (ret := none) (by decide) rfl (Nat.le_of_ble_eq_true rfl) ?_
  intro p e s m args below meth c ls C0 hw hl ht
  obtain ⟨hx, hb, hml, hown, hts, -⟩ := id C0
  have C0 : MX p l s m args meth c D cy ad cX5_needVersion RX5 2 wsX5_needVersion (none) := C0
  have hown : s.vm.findClass RX5 = some m.cls := hown
  have hl : lv_has ls 2 [(0, .ref (ad 0)), (1, .int a0)] := hl
  show W p l e rmX5_needVersion s m args below meth c s.heap [] 0 0 (QT D cy ad below args s x q_vv r 1 6) (F0 m 0 ls [])
  unfold fX5_needVersion at h
  refine lv_iload_n hx hb dX5_needVersion_0 rfl (lv_at hl 1 rfl) ?_
  refine q_if_lt (tgt := 12) hx hb dX5_needVersion_1 (by decide) h (fun h => ?_) (fun h => ?_)
  · exact wX5_needVersion_12 hst C0 ht  M _ _ _ hw (lv_sub hl [] rfl) h
  · refine lv_iload_n hx hb dX5_needVersion_4 rfl (lv_at hl 1 rfl) ?_
    refine lv_aload_n hx hb dX5_needVersion_5 rfl (lv_at hl 0 rfl) ?_
    refine gf_HW_versionCount C0 hw (fun _ h9 => List.mem_cons_of_mem _ (List.mem_append_left _ (List.mem_append_right _ h9))) (List.mem_of_getElem? (i := 3) rfl) dX5_needVersion_6 ?_
    refine q_icmp_lt (tgt := 23) hx hb dX5_needVersion_9 (by decide) h (fun h => ?_) (fun h => ?_)
    · exact q_vretT C0 hw h ⟨(Nat.le_of_ble_eq_true rfl), (Nat.le_of_ble_eq_true rfl)⟩ dX5_needVersion_23
    · exact wX5_needVersion_12 hst C0 ht  M _ _ _ hw (lv_sub hl [] rfl) h
/-! Homewatcher.save(IIII)I -/
abbrev rmX5_save : Room := { frames := 7, cells := 5, slots := 30, locals := 147 }
def fX5_save_94 (F : Nat) (M : Mem) (v1 : Int32) (v2 : Int32) (v3 : Int32) (v4 : Int32) : Option (Mem × (Int32 ⊕ Nat)) :=
    if (M 4 0 0) < (60 : Int32) then
    (q_ax (M 4 0 0) 60 fun j1 =>
    q_lt (up M 10 j1 0 v1) fun M2 =>
    q_lt (up M2 11 j1 0 v2) fun M3 =>
    q_lt (up M3 12 j1 0 v3) fun M4 =>
    q_lt (up M4 13 j1 0 ((M4 3 0 0) - v4)) fun M5 =>
    q_bn (fX4_keep F M5 j1 60) fun M6 _ =>
    q_lt (up M6 8 60 0 (0 : Int32)) fun M8 =>
    q_lt (up M8 4 0 0 ((M8 4 0 0) + (1 : Int32))) fun M9 =>
    some (M9, Sum.inl ((M9 4 0 0) - (1 : Int32))))
    else
    (some (M, Sum.inr 2))
set_option maxHeartbeats 4000000 in
set_option maxRecDepth 100000 in
theorem wX5_save_94 {p : Program} {l : Launch} {e : Env} {s : State} {m : MethodId} {args : Array Value} {below : List Frame} {meth : Method} {c : Code} {D : va_G} {cy : Nat → ClassId} {ad : Nat → Nat} {x : XX} {F : Nat} {r : Mem × (Int32 ⊕ Nat)} (hst : l.stackTraces = false) (C0 : MX p l s m args meth c D cy ad cX5_save RX5 6 wsX5_save (some .int)) (ht : ∀ z ∈ c.exceptionTable.toList, False) : ∀ (M : Mem) (v1 : Int32) (v2 : Int32) (v3 : Int32) (v4 : Int32) (H : Heap) (locs : List Loc) (ls : Array Slot), Wd D cy ad x s M H locs → lv_has ls 6 [(0, .ref (ad 0)), (1, .int v1), (2, .int v2), (3, .int v3), (4, .int v4)] → fX5_save_94 F M v1 v2 v3 v4 = some r → W p l e rmX5_save s m args below meth c H locs 4 24 (QT D cy ad below args s x q_vi r 5 30) (F0 m 94 ls []) := by
  obtain ⟨hx, hb, hml, hown, hts, -⟩ := id C0
  intro M v1 v2 v3 v4 H locs ls hw hl h
  unfold fX5_save_94 at h
  refine lv_aload_n hx hb dX5_save_94 rfl (lv_at hl 0 rfl) ?_
  refine gf_HW_versionCount C0 hw (fun _ h9 => List.mem_cons_of_mem _ (List.mem_append_left _ (List.mem_append_left _ (List.mem_append_left _ (List.mem_append_left _ (List.mem_append_left _ (List.mem_append_left _ (List.mem_append_left _ (List.mem_append_left _ (List.mem_append_left _ (List.mem_append_right _ h9))))))))))) (List.mem_of_getElem? (i := 10) rfl) dX5_save_95 ?_
  refine lv_bipush (v := 60) hx hb dX5_save_98 (by decide) ?_
  refine q_icmp_lt (tgt := 113) hx hb dX5_save_100 (by decide) h (fun h => ?_) (fun h => ?_)
  · refine lv_aload_n hx hb dX5_save_113 rfl (lv_at hl 0 rfl) ?_
    refine gf_HW_versions C0 hw (fun _ h9 => List.mem_cons_of_mem _ (List.mem_append_left _ (List.mem_append_left _ (List.mem_append_left _ (List.mem_append_left _ (List.mem_append_left _ (List.mem_append_left _ (List.mem_append_left _ (List.mem_append_left _ (List.mem_append_left _ (List.mem_append_right _ h9))))))))))) (List.mem_of_getElem? (i := 9) rfl) dX5_save_114 ?_
    refine lv_aload_n hx hb dX5_save_117 rfl (lv_at hl 0 rfl) ?_
    refine gf_HW_versionCount C0 hw (fun _ h9 => List.mem_cons_of_mem _ (List.mem_append_left _ (List.mem_append_left _ (List.mem_append_left _ (List.mem_append_left _ (List.mem_append_left _ (List.mem_append_left _ (List.mem_append_left _ (List.mem_append_left _ (List.mem_append_left _ (List.mem_append_right _ h9))))))))))) (List.mem_of_getElem? (i := 10) rfl) dX5_save_118 ?_
    refine q_aald (t := 6) C0 hw at_vers rfl h dX5_save_121 (fun j1 hj1 h => ?_)
    refine lv_astore (lv' := [(5, .ref (ad (cVer j1))), (0, .ref (ad 0)), (1, .int v1), (2, .int v2), (3, .int v3), (4, .int v4)]) hx hb dX5_save_122 hl (by decide) rfl (fun ls hl => ?_)
    refine lv_aload hx hb dX5_save_124 (lv_at hl 0 rfl) ?_
    refine lv_iload_n hx hb dX5_save_126 rfl (lv_at hl 2 rfl) ?_
    refine pf_Ver_pupil C0 hw hj1 (fun _ h9 => List.mem_cons_of_mem _ (List.mem_append_left _ (List.mem_append_left _ (List.mem_append_left _ (List.mem_append_left _ (List.mem_append_left _ (List.mem_append_left _ (List.mem_append_left _ (List.mem_append_right _ h9))))))))) (List.mem_of_getElem? (i := 11) rfl) dX5_save_127 h (fun M2 H locs hw h => ?_)
    refine lv_aload hx hb dX5_save_130 (lv_at hl 0 rfl) ?_
    refine lv_iload_n hx hb dX5_save_132 rfl (lv_at hl 3 rfl) ?_
    refine pf_Ver_task C0 hw hj1 (fun _ h9 => List.mem_cons_of_mem _ (List.mem_append_left _ (List.mem_append_left _ (List.mem_append_left _ (List.mem_append_left _ (List.mem_append_left _ (List.mem_append_left _ (List.mem_append_left _ (List.mem_append_right _ h9))))))))) (List.mem_of_getElem? (i := 12) rfl) dX5_save_133 h (fun M3 H locs hw h => ?_)
    refine lv_aload hx hb dX5_save_136 (lv_at hl 0 rfl) ?_
    refine lv_iload_n hx hb dX5_save_138 rfl (lv_at hl 4 rfl) ?_
    refine pf_Ver_parent C0 hw hj1 (fun _ h9 => List.mem_cons_of_mem _ (List.mem_append_left _ (List.mem_append_left _ (List.mem_append_left _ (List.mem_append_left _ (List.mem_append_left _ (List.mem_append_left _ (List.mem_append_left _ (List.mem_append_right _ h9))))))))) (List.mem_of_getElem? (i := 13) rfl) dX5_save_139 h (fun M4 H locs hw h => ?_)
    refine lv_aload hx hb dX5_save_142 (lv_at hl 0 rfl) ?_
    refine lv_aload_n hx hb dX5_save_144 rfl (lv_at hl 1 rfl) ?_
    refine gf_HW_now C0 hw (fun _ h9 => List.mem_cons_of_mem _ (List.mem_append_left _ (List.mem_append_left _ (List.mem_append_left _ (List.mem_append_left _ (List.mem_append_left _ (List.mem_append_left _ (List.mem_append_left _ (List.mem_append_left _ (List.mem_append_left _ (List.mem_append_right _ h9))))))))))) (List.mem_of_getElem? (i := 5) rfl) dX5_save_145 ?_
    refine lv_iload hx hb dX5_save_148 (lv_at hl 5 rfl) ?_
    refine lv_isub hx hb dX5_save_150 ?_
    refine pf_Ver_savedAt C0 hw hj1 (fun _ h9 => List.mem_cons_of_mem _ (List.mem_append_left _ (List.mem_append_left _ (List.mem_append_left _ (List.mem_append_left _ (List.mem_append_left _ (List.mem_append_left _ (List.mem_append_left _ (List.mem_append_right _ h9))))))))) (List.mem_of_getElem? (i := 14) rfl) dX5_save_151 h (fun M5 H locs hw h => ?_)
    refine lv_aload hx hb dX5_save_154 (lv_at hl 0 rfl) ?_
    refine lv_aload_n hx hb dX5_save_156 rfl (lv_at hl 1 rfl) ?_
    refine gf_HW_typed C0 hw (fun _ h9 => List.mem_cons_of_mem _ (List.mem_append_left _ (List.mem_append_left _ (List.mem_append_left _ (List.mem_append_left _ (List.mem_append_left _ (List.mem_append_left _ (List.mem_append_left _ (List.mem_append_left _ (List.mem_append_left _ (List.mem_append_right _ h9))))))))))) (List.mem_of_getElem? (i := 15) rfl) dX5_save_157 ?_
    refine q_callVNv (As := [.ref (ad (cText 60))]) (nA := 1) C0 hw (at_Ver hj1) rfl (fun r1 h1 => ctX4_keep hst hj1 (Nat.le_of_ble_eq_true rfl) h1) gX5_save_X4_keep rfl ⟨rfl, rfl⟩ (by decide +kernel) rfl ⟨(Nat.le_of_ble_eq_true rfl), (Nat.le_of_ble_eq_true rfl)⟩ hl.1 (Nat.le_of_ble_eq_true rfl) ⟨(Nat.le_of_ble_eq_true rfl), (Nat.le_of_ble_eq_true rfl)⟩ rfl h dX5_save_160 (fun M6 H locs hw h => ?_)
    refine lv_aload_n hx hb dX5_save_163 rfl (lv_at hl 1 rfl) ?_
    refine gf_HW_typed C0 hw (fun _ h9 => List.mem_cons_of_mem _ (List.mem_append_left _ (List.mem_append_left _ (List.mem_append_left _ (List.mem_append_left _ (List.mem_append_left _ (List.mem_append_left _ (List.mem_append_left _ (List.mem_append_left _ (List.mem_append_left _ (List.mem_append_right _ h9))))))))))) (List.mem_of_getElem? (i := 15) rfl) dX5_save_164 ?_
    refine lv_iconst (v := 0) hx hb dX5_save_167 (by decide) ?_
    refine pf_Text_signs C0 hw (Nat.le_of_ble_eq_true rfl) (fun _ h9 => List.mem_cons_of_mem _ (List.mem_append_left _ (List.mem_append_left _ (List.mem_append_left _ (List.mem_append_left _ (List.mem_append_left _ (List.mem_append_left _ (List.mem_append_right _ h9)))))))) (List.mem_of_getElem? (i := 16) rfl) dX5_save_168 h (fun M8 H locs hw h => ?_)
    refine lv_aload_n hx hb dX5_save_171 rfl (lv_at hl 1 rfl) ?_
    refine lv_dup hx hb dX5_save_172 rfl ?_
    refine gf_HW_versionCount C0 hw (fun _ h9 => List.mem_cons_of_mem _ (List.mem_append_left _ (List.mem_append_left _ (List.mem_append_left _ (List.mem_append_left _ (List.mem_append_left _ (List.mem_append_left _ (List.mem_append_left _ (List.mem_append_left _ (List.mem_append_left _ (List.mem_append_right _ h9))))))))))) (List.mem_of_getElem? (i := 10) rfl) dX5_save_173 ?_
    refine lv_iconst (v := 1) hx hb dX5_save_176 (by decide) ?_
    refine lv_iadd hx hb dX5_save_177 ?_
    refine pf_HW_versionCount C0 hw (fun _ h9 => List.mem_cons_of_mem _ (List.mem_append_left _ (List.mem_append_left _ (List.mem_append_left _ (List.mem_append_left _ (List.mem_append_left _ (List.mem_append_left _ (List.mem_append_left _ (List.mem_append_left _ (List.mem_append_left _ (List.mem_append_right _ h9))))))))))) (List.mem_of_getElem? (i := 10) rfl) dX5_save_178 h (fun M9 H locs hw h => ?_)
    refine lv_aload_n hx hb dX5_save_181 rfl (lv_at hl 1 rfl) ?_
    refine gf_HW_versionCount C0 hw (fun _ h9 => List.mem_cons_of_mem _ (List.mem_append_left _ (List.mem_append_left _ (List.mem_append_left _ (List.mem_append_left _ (List.mem_append_left _ (List.mem_append_left _ (List.mem_append_left _ (List.mem_append_left _ (List.mem_append_left _ (List.mem_append_right _ h9))))))))))) (List.mem_of_getElem? (i := 10) rfl) dX5_save_182 ?_
    refine lv_iconst (v := 1) hx hb dX5_save_185 (by decide) ?_
    refine lv_isub hx hb dX5_save_186 ?_
    exact q_iretT C0 hw h ⟨(Nat.le_of_ble_eq_true rfl), (Nat.le_of_ble_eq_true rfl)⟩ dX5_save_187
  · exact q_thrS C0 ht hst hw (ik := 70) (is := 177) (ic := 74) xp_74 (List.mem_of_getElem? (i := 3) rfl) (List.mem_of_getElem? (i := 4) rfl) (List.mem_of_getElem? (i := 16) rfl) (fun _ h9 => List.mem_cons_of_mem _ (List.mem_append_left _ (List.mem_append_left _ (List.mem_append_right _ h9)))) hl.1 dX5_save_103 dX5_save_106 dX5_save_107 dX5_save_109 dX5_save_112 ⟨(Nat.le_of_ble_eq_true rfl), (Nat.le_of_ble_eq_true rfl), (Nat.le_of_ble_eq_true rfl), (Nat.le_of_ble_eq_true rfl)⟩ ⟨(Nat.le_of_ble_eq_true rfl), (Nat.le_of_ble_eq_true rfl)⟩ h
def fX5_save_20 (F : Nat) (M : Mem) (v1 : Int32) (v2 : Int32) (v3 : Int32) (v4 : Int32) : Option (Mem × (Int32 ⊕ Nat)) :=
    q_bx (fX5_needRange F M v4 (0 : Int32) (M 3 0 0)) fun M1 _ =>
    q_ax v2 10 fun j3 =>
    q_ax v1 12 fun j4 =>
    if (M1 50 j3 0) = (M1 21 0 j4) then
    (if v3 = (-1 : Int32) then
    (fX5_save_94 F M1 v1 v2 v3 v4)
    else
    (q_ax v3 60 fun j5 =>
    q_bn (fX4_canPrecede F M1 j5 v1 v2 ((M1 3 0 0) - v4)) fun M6 z7 =>
    if z7 = (0 : Int32) then
    (some (M6, Sum.inr 5))
    else
    (fX5_save_94 F M6 v1 v2 v3 v4)))
    else
    (some (M1, Sum.inr 5))
set_option maxHeartbeats 4000000 in
set_option maxRecDepth 100000 in
theorem wX5_save_20 {p : Program} {l : Launch} {e : Env} {s : State} {m : MethodId} {args : Array Value} {below : List Frame} {meth : Method} {c : Code} {D : va_G} {cy : Nat → ClassId} {ad : Nat → Nat} {x : XX} {F : Nat} {r : Mem × (Int32 ⊕ Nat)} (hst : l.stackTraces = false) (C0 : MX p l s m args meth c D cy ad cX5_save RX5 6 wsX5_save (some .int)) (ht : ∀ z ∈ c.exceptionTable.toList, False) : ∀ (M : Mem) (v1 : Int32) (v2 : Int32) (v3 : Int32) (v4 : Int32) (H : Heap) (locs : List Loc) (ls : Array Slot), Wd D cy ad x s M H locs → lv_has ls 6 [(0, .ref (ad 0)), (1, .int v1), (2, .int v2), (3, .int v3), (4, .int v4)] → fX5_save_20 F M v1 v2 v3 v4 = some r → W p l e rmX5_save s m args below meth c H locs 3 18 (QT D cy ad below args s x q_vi r 5 30) (F0 m 20 ls []) := by
  obtain ⟨hx, hb, hml, hown, hts, -⟩ := id C0
  intro M v1 v2 v3 v4 H locs ls hw hl h
  unfold fX5_save_20 at h
  refine lv_iload hx hb dX5_save_20 (lv_at hl 4 rfl) ?_
  refine lv_iconst (v := 0) hx hb dX5_save_22 (by decide) ?_
  refine lv_aload_n hx hb dX5_save_23 rfl (lv_at hl 0 rfl) ?_
  refine gf_HW_now C0 hw (fun _ h9 => List.mem_cons_of_mem _ (List.mem_append_left _ (List.mem_append_left _ (List.mem_append_left _ (List.mem_append_left _ (List.mem_append_left _ (List.mem_append_left _ (List.mem_append_left _ (List.mem_append_left _ (List.mem_append_left _ (List.mem_append_right _ h9))))))))))) (List.mem_of_getElem? (i := 5) rfl) dX5_save_24 ?_
  refine q_callSTv (As := [.int v4, .int ((0 : Int32)), .int (M 3 0 0)]) (nA := 3) C0 ht hw (fun r1 h1 => ctX5_needRange hst h1) gX5_save_X5_needRange rfl ⟨rfl, rfl⟩ (by decide +kernel) rfl ⟨(Nat.le_of_ble_eq_true rfl), (Nat.le_of_ble_eq_true rfl)⟩ hl.1 (Nat.le_of_ble_eq_true rfl) ⟨(Nat.le_of_ble_eq_true rfl), (Nat.le_of_ble_eq_true rfl)⟩ ⟨(Nat.le_of_ble_eq_true rfl), (Nat.le_of_ble_eq_true rfl)⟩ rfl h dX5_save_27 (fun M1 H locs hw h => ?_)
  refine lv_aload_n hx hb dX5_save_30 rfl (lv_at hl 0 rfl) ?_
  refine gf_HW_tasks C0 hw (fun _ h9 => List.mem_cons_of_mem _ (List.mem_append_left _ (List.mem_append_left _ (List.mem_append_left _ (List.mem_append_left _ (List.mem_append_left _ (List.mem_append_left _ (List.mem_append_left _ (List.mem_append_left _ (List.mem_append_left _ (List.mem_append_right _ h9))))))))))) (List.mem_of_getElem? (i := 6) rfl) dX5_save_31 ?_
  refine lv_iload_n hx hb dX5_save_34 rfl (lv_at hl 2 rfl) ?_
  refine q_aald (t := 5) C0 hw at_tasks rfl h dX5_save_35 (fun j3 hj3 h => ?_)
  refine gf_Task_room C0 hw hj3 (fun _ h9 => List.mem_cons_of_mem _ (List.mem_append_left _ (List.mem_append_left _ (List.mem_append_left _ (List.mem_append_left _ (List.mem_append_left _ (List.mem_append_left _ (List.mem_append_left _ (List.mem_append_left _ (List.mem_append_right _ h9)))))))))) (List.mem_of_getElem? (i := 7) rfl) dX5_save_36 ?_
  refine lv_aload_n hx hb dX5_save_39 rfl (lv_at hl 0 rfl) ?_
  refine gf_HW_classOfPupil C0 hw (fun _ h9 => List.mem_cons_of_mem _ (List.mem_append_left _ (List.mem_append_left _ (List.mem_append_left _ (List.mem_append_left _ (List.mem_append_left _ (List.mem_append_left _ (List.mem_append_left _ (List.mem_append_left _ (List.mem_append_left _ (List.mem_append_right _ h9))))))))))) (List.mem_of_getElem? (i := 8) rfl) dX5_save_40 ?_
  refine lv_iload_n hx hb dX5_save_43 rfl (lv_at hl 1 rfl) ?_
  refine q_iald C0 hw at_a21 h dX5_save_44 (fun j4 hj4 h => ?_)
  refine q_icmp_eq (tgt := 58) hx hb dX5_save_45 (by decide) h (fun h => ?_) (fun h => ?_)
  · refine lv_iload_n hx hb dX5_save_58 rfl (lv_at hl 3 rfl) ?_
    refine lv_iconst (v := -1) hx hb dX5_save_59 (by decide) ?_
    refine q_icmp_eq (tgt := 94) hx hb dX5_save_60 (by decide) h (fun h => ?_) (fun h => ?_)
    · exact wX5_save_94 hst C0 ht  M1 v1 v2 v3 v4 _ _ _ hw (lv_sub hl [0, 1, 2, 3, 4] rfl) h
    · refine lv_aload_n hx hb dX5_save_63 rfl (lv_at hl 0 rfl) ?_
      refine gf_HW_versions C0 hw (fun _ h9 => List.mem_cons_of_mem _ (List.mem_append_left _ (List.mem_append_left _ (List.mem_append_left _ (List.mem_append_left _ (List.mem_append_left _ (List.mem_append_left _ (List.mem_append_left _ (List.mem_append_left _ (List.mem_append_left _ (List.mem_append_right _ h9))))))))))) (List.mem_of_getElem? (i := 9) rfl) dX5_save_64 ?_
      refine lv_iload_n hx hb dX5_save_67 rfl (lv_at hl 3 rfl) ?_
      refine q_aald (t := 6) C0 hw at_vers rfl h dX5_save_68 (fun j5 hj5 h => ?_)
      refine lv_iload_n hx hb dX5_save_69 rfl (lv_at hl 1 rfl) ?_
      refine lv_iload_n hx hb dX5_save_70 rfl (lv_at hl 2 rfl) ?_
      refine lv_aload_n hx hb dX5_save_71 rfl (lv_at hl 0 rfl) ?_
      refine gf_HW_now C0 hw (fun _ h9 => List.mem_cons_of_mem _ (List.mem_append_left _ (List.mem_append_left _ (List.mem_append_left _ (List.mem_append_left _ (List.mem_append_left _ (List.mem_append_left _ (List.mem_append_left _ (List.mem_append_left _ (List.mem_append_left _ (List.mem_append_right _ h9))))))))))) (List.mem_of_getElem? (i := 5) rfl) dX5_save_72 ?_
      refine lv_iload hx hb dX5_save_75 (lv_at hl 4 rfl) ?_
      refine lv_isub hx hb dX5_save_77 ?_
      refine q_callVNi (As := [.int v1, .int v2, .int ((M1 3 0 0) - v4)]) (nA := 3) C0 hw (at_Ver hj5) rfl (fun r1 h1 => ctX4_canPrecede hst hj5 h1) gX5_save_X4_canPrecede rfl ⟨rfl, rfl⟩ (by decide +kernel) rfl ⟨(Nat.le_of_ble_eq_true rfl), (Nat.le_of_ble_eq_true rfl)⟩ hl.1 (Nat.le_of_ble_eq_true rfl) ⟨(Nat.le_of_ble_eq_true rfl), (Nat.le_of_ble_eq_true rfl)⟩ rfl h dX5_save_78 (fun M6 z7 H locs hw h => ?_)
      refine q_if_ne (tgt := 94) hx hb dX5_save_81 (by decide) h (fun h => ?_) (fun h => ?_)
      · exact wX5_save_94 hst C0 ht  M6 v1 v2 v3 v4 _ _ _ hw (lv_sub hl [0, 1, 2, 3, 4] rfl) h
      · exact q_thrS C0 ht hst hw (ik := 163) (is := 172) (ic := 167) xp_167 (List.mem_of_getElem? (i := 1) rfl) (List.mem_of_getElem? (i := 2) rfl) (List.mem_of_getElem? (i := 15) rfl) (fun _ h9 => List.mem_cons_of_mem _ (List.mem_append_left _ (List.mem_append_left _ (List.mem_append_left _ (List.mem_append_right _ h9))))) hl.1 dX5_save_84 dX5_save_87 dX5_save_88 dX5_save_90 dX5_save_93 ⟨(Nat.le_of_ble_eq_true rfl), (Nat.le_of_ble_eq_true rfl), (Nat.le_of_ble_eq_true rfl), (Nat.le_of_ble_eq_true rfl)⟩ ⟨(Nat.le_of_ble_eq_true rfl), (Nat.le_of_ble_eq_true rfl)⟩ h
  · exact q_thrS C0 ht hst hw (ik := 163) (is := 165) (ic := 167) xp_167 (List.mem_of_getElem? (i := 1) rfl) (List.mem_of_getElem? (i := 2) rfl) (List.mem_of_getElem? (i := 14) rfl) (fun _ h9 => List.mem_cons_of_mem _ (List.mem_append_left _ (List.mem_append_left _ (List.mem_append_left _ (List.mem_append_right _ h9))))) hl.1 dX5_save_48 dX5_save_51 dX5_save_52 dX5_save_54 dX5_save_57 ⟨(Nat.le_of_ble_eq_true rfl), (Nat.le_of_ble_eq_true rfl), (Nat.le_of_ble_eq_true rfl), (Nat.le_of_ble_eq_true rfl)⟩ ⟨(Nat.le_of_ble_eq_true rfl), (Nat.le_of_ble_eq_true rfl)⟩ h
def fX5_save (F : Nat) (M : Mem) (a0 : Int32) (a1 : Int32) (a2 : Int32) (a3 : Int32) : Option (Mem × (Int32 ⊕ Nat)) :=
    q_bx (fX5_needPupil F M a0) fun M1 _ =>
    q_bx (fX5_needTask F M1 a1) fun M3 _ =>
    if a2 = (-1 : Int32) then
    (fX5_save_20 F M3 a0 a1 a2 a3)
    else
    (q_bx (fX5_needVersion F M3 a2) fun M5 _ =>
    fX5_save_20 F M5 a0 a1 a2 a3)
set_option maxHeartbeats 4000000 in
set_option maxRecDepth 100000 in
theorem ctX5_save {l : Launch} (hst : l.stackTraces = false) {D : va_G} {cy : Nat → ClassId} {ad : Nat → Nat} {x : XX} {F : Nat} {M : Mem} {a0 : Int32} {a1 : Int32} {a2 : Int32} {a3 : Int32} {r : Mem × (Int32 ⊕ Nat)} (h : fX5_save F M a0 a1 a2 a3 = some r) : CT l yX5_save wsX5_save rmX5_save D cy ad [.ref (ad 0), .int a0, .int a1, .int a2, .int a3] x M r.1 (q_ou q_vi r.2) 5 30 := by
  refine q_startT (cc := cX5_save) (maxL := 6) (ret := (some .int)) (by decide) rfl (Nat.le_of_ble_eq_true rfl) ?_
  intro p e s m args below meth c ls C0 hw hl ht
  obtain ⟨hx, hb, hml, hown, hts, -⟩ := id C0
  have C0 : MX p l s m args meth c D cy ad cX5_save RX5 6 wsX5_save ((some .int)) := C0
  have hown : s.vm.findClass RX5 = some m.cls := hown
  have hl : lv_has ls 6 [(0, .ref (ad 0)), (1, .int a0), (2, .int a1), (3, .int a2), (4, .int a3)] := hl
  show W p l e rmX5_save s m args below meth c s.heap [] 0 0 (QT D cy ad below args s x q_vi r 5 30) (F0 m 0 ls [])
  unfold fX5_save at h
  refine lv_aload_n hx hb dX5_save_0 rfl (lv_at hl 0 rfl) ?_
  refine lv_iload_n hx hb dX5_save_1 rfl (lv_at hl 1 rfl) ?_
  refine q_callVTv (As := [.int a0]) (nA := 1) C0 ht hw at_HW rfl (fun r1 h1 => ctX5_needPupil hst h1) gX5_save_X5_needPupil rfl ⟨rfl, rfl⟩ (by decide +kernel) rfl ⟨(Nat.le_of_ble_eq_true rfl), (Nat.le_of_ble_eq_true rfl)⟩ hl.1 (Nat.le_of_ble_eq_true rfl) ⟨(Nat.le_of_ble_eq_true rfl), (Nat.le_of_ble_eq_true rfl)⟩ ⟨(Nat.le_of_ble_eq_true rfl), (Nat.le_of_ble_eq_true rfl)⟩ rfl h dX5_save_2 (fun M1 H locs hw h => ?_)
  refine lv_aload_n hx hb dX5_save_5 rfl (lv_at hl 0 rfl) ?_
  refine lv_iload_n hx hb dX5_save_6 rfl (lv_at hl 2 rfl) ?_
  refine q_callVTv (As := [.int a1]) (nA := 1) C0 ht hw at_HW rfl (fun r1 h1 => ctX5_needTask hst h1) gX5_save_X5_needTask rfl ⟨rfl, rfl⟩ (by decide +kernel) rfl ⟨(Nat.le_of_ble_eq_true rfl), (Nat.le_of_ble_eq_true rfl)⟩ hl.1 (Nat.le_of_ble_eq_true rfl) ⟨(Nat.le_of_ble_eq_true rfl), (Nat.le_of_ble_eq_true rfl)⟩ ⟨(Nat.le_of_ble_eq_true rfl), (Nat.le_of_ble_eq_true rfl)⟩ rfl h dX5_save_7 (fun M3 H locs hw h => ?_)
  refine lv_iload_n hx hb dX5_save_10 rfl (lv_at hl 3 rfl) ?_
  refine lv_iconst (v := -1) hx hb dX5_save_11 (by decide) ?_
  refine q_icmp_eq (tgt := 20) hx hb dX5_save_12 (by decide) h (fun h => ?_) (fun h => ?_)
  · refine W.widen (k := 3) (n := 18) (Nat.le_of_ble_eq_true rfl) (Nat.le_of_ble_eq_true rfl) ?_
    exact wX5_save_20 hst C0 ht  M3 a0 a1 a2 a3 _ _ _ hw (lv_sub hl [0, 1, 2, 3, 4] rfl) h
  · refine lv_aload_n hx hb dX5_save_15 rfl (lv_at hl 0 rfl) ?_
    refine lv_iload_n hx hb dX5_save_16 rfl (lv_at hl 3 rfl) ?_
    refine q_callVTv (As := [.int a2]) (nA := 1) C0 ht hw at_HW rfl (fun r1 h1 => ctX5_needVersion hst h1) gX5_save_X5_needVersion rfl ⟨rfl, rfl⟩ (by decide +kernel) rfl ⟨(Nat.le_of_ble_eq_true rfl), (Nat.le_of_ble_eq_true rfl)⟩ hl.1 (Nat.le_of_ble_eq_true rfl) ⟨(Nat.le_of_ble_eq_true rfl), (Nat.le_of_ble_eq_true rfl)⟩ ⟨(Nat.le_of_ble_eq_true rfl), (Nat.le_of_ble_eq_true rfl)⟩ rfl h dX5_save_17 (fun M5 H locs hw h => ?_)
    exact wX5_save_20 hst C0 ht  M5 a0 a1 a2 a3 _ _ _ hw (lv_sub hl [0, 1, 2, 3, 4] rfl) h
/-! Homewatcher.of(IC)I -/
abbrev rmX5_of : Room := { frames := 7, cells := 2, slots := 12, locals := 111 }
def fX5_of (F : Nat) (M : Mem) (a0 : Int32) (a1 : Int32) : Option (Mem × (Int32 ⊕ Nat)) :=
    q_bx (fX5_needVersion F M a0) fun M1 _ =>
    q_ax a0 60 fun j3 =>
    if a1 = (99 : Int32) then
    (q_bn (fX3_countChars F M1 j3) fun M4 z5 =>
    some (M4, Sum.inl z5))
    else
    if a1 = (100 : Int32) then
    (some (M1, Sum.inr 1))
    else
    if a1 = (101 : Int32) then
    (some (M1, Sum.inr 1))
    else
    if a1 = (102 : Int32) then
    (some (M1, Sum.inr 1))
    else
    if a1 = (103 : Int32) then
    (some (M1, Sum.inl (M1 17 j3 0)))
    else
    if a1 = (104 : Int32) then
    (some (M1, Sum.inl (M1 14 j3 0)))
    else
    if a1 = (105 : Int32) then
    (some (M1, Sum.inr 1))
    else
    if a1 = (106 : Int32) then
    (some (M1, Sum.inr 1))
    else
    if a1 = (107 : Int32) then
    (some (M1, Sum.inr 1))
    else
    if a1 = (108 : Int32) then
    (some (M1, Sum.inr 1))
    else
    if a1 = (109 : Int32) then
    (some (M1, Sum.inr 1))
    else
    if a1 = (110 : Int32) then
    (some (M1, Sum.inl (M1 8 j3 0)))
    else
    if a1 = (111 : Int32) then
    (some (M1, Sum.inr 1))
    else
    if a1 = (112 : Int32) then
    (some (M1, Sum.inl (M1 12 j3 0)))
    else
    if a1 = (113 : Int32) then
    (some (M1, Sum.inr 1))
    else
    if a1 = (114 : Int32) then
    (some (M1, Sum.inr 1))
    else
    if a1 = (115 : Int32) then
    (some (M1, Sum.inl (M1 13 j3 0)))
    else
    if a1 = (116 : Int32) then
    (some (M1, Sum.inr 1))
    else
    if a1 = (117 : Int32) then
    (some (M1, Sum.inl (M1 9 j3 0)))
    else
    (some (M1, Sum.inr 1))
set_option maxHeartbeats 4000000 in
set_option maxRecDepth 100000 in
theorem ctX5_of {l : Launch} (hst : l.stackTraces = false) {D : va_G} {cy : Nat → ClassId} {ad : Nat → Nat} {x : XX} {F : Nat} {M : Mem} {a0 : Int32} {a1 : Int32} {r : Mem × (Int32 ⊕ Nat)} (h : fX5_of F M a0 a1 = some r) : CT l yX5_of wsX5_of rmX5_of D cy ad [.ref (ad 0), .int a0, .int a1] x M r.1 (q_ou q_vi r.2) 2 12 := by
  refine q_startT (cc := cX5_of) (maxL := 4) (ret := (some .int)) (by decide) rfl (Nat.le_of_ble_eq_true rfl) ?_
  intro p e s m args below meth c ls C0 hw hl ht
  obtain ⟨hx, hb, hml, hown, hts, -⟩ := id C0
  have C0 : MX p l s m args meth c D cy ad cX5_of RX5 4 wsX5_of ((some .int)) := C0
  have hown : s.vm.findClass RX5 = some m.cls := hown
  have hl : lv_has ls 4 [(0, .ref (ad 0)), (1, .int a0), (2, .int a1)] := hl
  show W p l e rmX5_of s m args below meth c s.heap [] 0 0 (QT D cy ad below args s x q_vi r 2 12) (F0 m 0 ls [])
  unfold fX5_of at h
  refine lv_aload_n hx hb dX5_of_0 rfl (lv_at hl 0 rfl) ?_
  refine lv_iload_n hx hb dX5_of_1 rfl (lv_at hl 1 rfl) ?_
  refine q_callVTv (As := [.int a0]) (nA := 1) C0 ht hw at_HW rfl (fun r1 h1 => ctX5_needVersion hst h1) gX5_of_X5_needVersion rfl ⟨rfl, rfl⟩ (by decide +kernel) rfl ⟨(Nat.le_of_ble_eq_true rfl), (Nat.le_of_ble_eq_true rfl)⟩ hl.1 (Nat.le_of_ble_eq_true rfl) ⟨(Nat.le_of_ble_eq_true rfl), (Nat.le_of_ble_eq_true rfl)⟩ ⟨(Nat.le_of_ble_eq_true rfl), (Nat.le_of_ble_eq_true rfl)⟩ rfl h dX5_of_2 (fun M1 H locs hw h => ?_)
  refine lv_aload_n hx hb dX5_of_5 rfl (lv_at hl 0 rfl) ?_
  refine gf_HW_versions C0 hw (fun _ h9 => List.mem_cons_of_mem _ (List.mem_append_left _ (List.mem_append_left _ (List.mem_append_left _ (List.mem_append_left _ (List.mem_append_left _ (List.mem_append_left _ (List.mem_append_right _ h9)))))))) (List.mem_of_getElem? (i := 3) rfl) dX5_of_6 ?_
  refine lv_iload_n hx hb dX5_of_9 rfl (lv_at hl 1 rfl) ?_
  refine q_aald (t := 6) C0 hw at_vers rfl h dX5_of_10 (fun j3 hj3 h => ?_)
  refine lv_astore_n (lv' := [(3, .ref (ad (cVer j3))), (0, .ref (ad 0)), (1, .int a0), (2, .int a1)]) hx hb dX5_of_11 rfl hl (by decide) rfl (fun ls hl => ?_)
  refine lv_iload_n hx hb dX5_of_12 rfl (lv_at hl 3 rfl) ?_
  refine q_if (P := a1 = (99 : Int32)) h (fun e0 h => ?_) (fun n0 h => ?_)
  · refine lv_tableIn (off := 114) (tgt := 127) hx hb dX5_of_13 (by rw [e0]; decide) (by rw [e0]; decide) (by rw [e0]; decide) (by decide) ?_
    refine lv_aload_n hx hb dX5_of_127 rfl (lv_at hl 0 rfl) ?_
    refine gf_Ver_text C0 hw hj3 (fun _ h9 => List.mem_cons_of_mem _ (List.mem_append_left _ (List.mem_append_left _ (List.mem_append_left _ (List.mem_append_left _ (List.mem_append_left _ (List.mem_append_right _ h9))))))) (List.mem_of_getElem? (i := 7) rfl) dX5_of_128 ?_
    refine q_callVNi (As := []) (nA := 0) C0 hw (at_Text (Nat.lt_of_lt_of_le hj3 (Nat.le_of_ble_eq_true rfl))) rfl (fun r1 h1 => ctX3_countChars hst (Nat.lt_of_lt_of_le hj3 (Nat.le_of_ble_eq_true rfl)) h1) gX5_of_X3_countChars rfl ⟨rfl, rfl⟩ (by decide +kernel) rfl ⟨(Nat.le_of_ble_eq_true rfl), (Nat.le_of_ble_eq_true rfl)⟩ hl.1 (Nat.le_of_ble_eq_true rfl) ⟨(Nat.le_of_ble_eq_true rfl), (Nat.le_of_ble_eq_true rfl)⟩ rfl h dX5_of_131 (fun M4 z5 H locs hw h => ?_)
    exact q_iretT C0 hw h ⟨(Nat.le_of_ble_eq_true rfl), (Nat.le_of_ble_eq_true rfl)⟩ dX5_of_134
  · skip
    refine q_if (P := a1 = (100 : Int32)) h (fun e1 h => ?_) (fun n1 h => ?_)
    · refine lv_tableIn (off := 135) (tgt := 148) hx hb dX5_of_13 (by rw [e1]; decide) (by rw [e1]; decide) (by rw [e1]; decide) (by decide) ?_
      exact q_thrS C0 ht hst hw (ik := 210) (is := 212) (ic := 214) xp_214 (List.mem_of_getElem? (i := 1) rfl) (List.mem_of_getElem? (i := 2) rfl) (List.mem_of_getElem? (i := 17) rfl) (fun _ h9 => List.mem_cons_of_mem _ (List.mem_append_left _ (List.mem_append_left _ (List.mem_append_right _ h9)))) hl.1 dX5_of_148 dX5_of_151 dX5_of_152 dX5_of_154 dX5_of_157 ⟨(Nat.le_of_ble_eq_true rfl), (Nat.le_of_ble_eq_true rfl), (Nat.le_of_ble_eq_true rfl), (Nat.le_of_ble_eq_true rfl)⟩ ⟨(Nat.le_of_ble_eq_true rfl), (Nat.le_of_ble_eq_true rfl)⟩ h
    · skip
      refine q_if (P := a1 = (101 : Int32)) h (fun e2 h => ?_) (fun n2 h => ?_)
      · refine lv_tableIn (off := 135) (tgt := 148) hx hb dX5_of_13 (by rw [e2]; decide) (by rw [e2]; decide) (by rw [e2]; decide) (by decide) ?_
        exact q_thrS C0 ht hst hw (ik := 210) (is := 212) (ic := 214) xp_214 (List.mem_of_getElem? (i := 1) rfl) (List.mem_of_getElem? (i := 2) rfl) (List.mem_of_getElem? (i := 17) rfl) (fun _ h9 => List.mem_cons_of_mem _ (List.mem_append_left _ (List.mem_append_left _ (List.mem_append_right _ h9)))) hl.1 dX5_of_148 dX5_of_151 dX5_of_152 dX5_of_154 dX5_of_157 ⟨(Nat.le_of_ble_eq_true rfl), (Nat.le_of_ble_eq_true rfl), (Nat.le_of_ble_eq_true rfl), (Nat.le_of_ble_eq_true rfl)⟩ ⟨(Nat.le_of_ble_eq_true rfl), (Nat.le_of_ble_eq_true rfl)⟩ h
      · skip
        refine q_if (P := a1 = (102 : Int32)) h (fun e3 h => ?_) (fun n3 h => ?_)
        · refine lv_tableIn (off := 135) (tgt := 148) hx hb dX5_of_13 (by rw [e3]; decide) (by rw [e3]; decide) (by rw [e3]; decide) (by decide) ?_
          exact q_thrS C0 ht hst hw (ik := 210) (is := 212) (ic := 214) xp_214 (List.mem_of_getElem? (i := 1) rfl) (List.mem_of_getElem? (i := 2) rfl) (List.mem_of_getElem? (i := 17) rfl) (fun _ h9 => List.mem_cons_of_mem _ (List.mem_append_left _ (List.mem_append_left _ (List.mem_append_right _ h9)))) hl.1 dX5_of_148 dX5_of_151 dX5_of_152 dX5_of_154 dX5_of_157 ⟨(Nat.le_of_ble_eq_true rfl), (Nat.le_of_ble_eq_true rfl), (Nat.le_of_ble_eq_true rfl), (Nat.le_of_ble_eq_true rfl)⟩ ⟨(Nat.le_of_ble_eq_true rfl), (Nat.le_of_ble_eq_true rfl)⟩ h
        · skip
          refine q_if (P := a1 = (103 : Int32)) h (fun e4 h => ?_) (fun n4 h => ?_)
          · refine lv_tableIn (off := 130) (tgt := 143) hx hb dX5_of_13 (by rw [e4]; decide) (by rw [e4]; decide) (by rw [e4]; decide) (by decide) ?_
            refine lv_aload_n hx hb dX5_of_143 rfl (lv_at hl 0 rfl) ?_
            refine gf_Ver_told C0 hw hj3 (fun _ h9 => List.mem_cons_of_mem _ (List.mem_append_left _ (List.mem_append_left _ (List.mem_append_left _ (List.mem_append_left _ (List.mem_append_left _ (List.mem_append_right _ h9))))))) (List.mem_of_getElem? (i := 11) rfl) dX5_of_144 ?_
            exact q_iretT C0 hw h ⟨(Nat.le_of_ble_eq_true rfl), (Nat.le_of_ble_eq_true rfl)⟩ dX5_of_147
          · skip
            refine q_if (P := a1 = (104 : Int32)) h (fun e5 h => ?_) (fun n5 h => ?_)
            · refine lv_tableIn (off := 101) (tgt := 114) hx hb dX5_of_13 (by rw [e5]; decide) (by rw [e5]; decide) (by rw [e5]; decide) (by decide) ?_
              refine lv_aload_n hx hb dX5_of_114 rfl (lv_at hl 0 rfl) ?_
              refine gf_Ver_handedAt C0 hw hj3 (fun _ h9 => List.mem_cons_of_mem _ (List.mem_append_left _ (List.mem_append_left _ (List.mem_append_left _ (List.mem_append_left _ (List.mem_append_left _ (List.mem_append_right _ h9))))))) (List.mem_of_getElem? (i := 6) rfl) dX5_of_115 ?_
              exact q_iretT C0 hw h ⟨(Nat.le_of_ble_eq_true rfl), (Nat.le_of_ble_eq_true rfl)⟩ dX5_of_118
            · skip
              refine q_if (P := a1 = (105 : Int32)) h (fun e6 h => ?_) (fun n6 h => ?_)
              · refine lv_tableIn (off := 135) (tgt := 148) hx hb dX5_of_13 (by rw [e6]; decide) (by rw [e6]; decide) (by rw [e6]; decide) (by decide) ?_
                exact q_thrS C0 ht hst hw (ik := 210) (is := 212) (ic := 214) xp_214 (List.mem_of_getElem? (i := 1) rfl) (List.mem_of_getElem? (i := 2) rfl) (List.mem_of_getElem? (i := 17) rfl) (fun _ h9 => List.mem_cons_of_mem _ (List.mem_append_left _ (List.mem_append_left _ (List.mem_append_right _ h9)))) hl.1 dX5_of_148 dX5_of_151 dX5_of_152 dX5_of_154 dX5_of_157 ⟨(Nat.le_of_ble_eq_true rfl), (Nat.le_of_ble_eq_true rfl), (Nat.le_of_ble_eq_true rfl), (Nat.le_of_ble_eq_true rfl)⟩ ⟨(Nat.le_of_ble_eq_true rfl), (Nat.le_of_ble_eq_true rfl)⟩ h
              · skip
                refine q_if (P := a1 = (106 : Int32)) h (fun e7 h => ?_) (fun n7 h => ?_)
                · refine lv_tableIn (off := 135) (tgt := 148) hx hb dX5_of_13 (by rw [e7]; decide) (by rw [e7]; decide) (by rw [e7]; decide) (by decide) ?_
                  exact q_thrS C0 ht hst hw (ik := 210) (is := 212) (ic := 214) xp_214 (List.mem_of_getElem? (i := 1) rfl) (List.mem_of_getElem? (i := 2) rfl) (List.mem_of_getElem? (i := 17) rfl) (fun _ h9 => List.mem_cons_of_mem _ (List.mem_append_left _ (List.mem_append_left _ (List.mem_append_right _ h9)))) hl.1 dX5_of_148 dX5_of_151 dX5_of_152 dX5_of_154 dX5_of_157 ⟨(Nat.le_of_ble_eq_true rfl), (Nat.le_of_ble_eq_true rfl), (Nat.le_of_ble_eq_true rfl), (Nat.le_of_ble_eq_true rfl)⟩ ⟨(Nat.le_of_ble_eq_true rfl), (Nat.le_of_ble_eq_true rfl)⟩ h
                · skip
                  refine q_if (P := a1 = (107 : Int32)) h (fun e8 h => ?_) (fun n8 h => ?_)
                  · refine lv_tableIn (off := 135) (tgt := 148) hx hb dX5_of_13 (by rw [e8]; decide) (by rw [e8]; decide) (by rw [e8]; decide) (by decide) ?_
                    exact q_thrS C0 ht hst hw (ik := 210) (is := 212) (ic := 214) xp_214 (List.mem_of_getElem? (i := 1) rfl) (List.mem_of_getElem? (i := 2) rfl) (List.mem_of_getElem? (i := 17) rfl) (fun _ h9 => List.mem_cons_of_mem _ (List.mem_append_left _ (List.mem_append_left _ (List.mem_append_right _ h9)))) hl.1 dX5_of_148 dX5_of_151 dX5_of_152 dX5_of_154 dX5_of_157 ⟨(Nat.le_of_ble_eq_true rfl), (Nat.le_of_ble_eq_true rfl), (Nat.le_of_ble_eq_true rfl), (Nat.le_of_ble_eq_true rfl)⟩ ⟨(Nat.le_of_ble_eq_true rfl), (Nat.le_of_ble_eq_true rfl)⟩ h
                  · skip
                    refine q_if (P := a1 = (108 : Int32)) h (fun e9 h => ?_) (fun n9 h => ?_)
                    · refine lv_tableIn (off := 135) (tgt := 148) hx hb dX5_of_13 (by rw [e9]; decide) (by rw [e9]; decide) (by rw [e9]; decide) (by decide) ?_
                      exact q_thrS C0 ht hst hw (ik := 210) (is := 212) (ic := 214) xp_214 (List.mem_of_getElem? (i := 1) rfl) (List.mem_of_getElem? (i := 2) rfl) (List.mem_of_getElem? (i := 17) rfl) (fun _ h9 => List.mem_cons_of_mem _ (List.mem_append_left _ (List.mem_append_left _ (List.mem_append_right _ h9)))) hl.1 dX5_of_148 dX5_of_151 dX5_of_152 dX5_of_154 dX5_of_157 ⟨(Nat.le_of_ble_eq_true rfl), (Nat.le_of_ble_eq_true rfl), (Nat.le_of_ble_eq_true rfl), (Nat.le_of_ble_eq_true rfl)⟩ ⟨(Nat.le_of_ble_eq_true rfl), (Nat.le_of_ble_eq_true rfl)⟩ h
                    · skip
                      refine q_if (P := a1 = (109 : Int32)) h (fun e10 h => ?_) (fun n10 h => ?_)
                      · refine lv_tableIn (off := 135) (tgt := 148) hx hb dX5_of_13 (by rw [e10]; decide) (by rw [e10]; decide) (by rw [e10]; decide) (by decide) ?_
                        exact q_thrS C0 ht hst hw (ik := 210) (is := 212) (ic := 214) xp_214 (List.mem_of_getElem? (i := 1) rfl) (List.mem_of_getElem? (i := 2) rfl) (List.mem_of_getElem? (i := 17) rfl) (fun _ h9 => List.mem_cons_of_mem _ (List.mem_append_left _ (List.mem_append_left _ (List.mem_append_right _ h9)))) hl.1 dX5_of_148 dX5_of_151 dX5_of_152 dX5_of_154 dX5_of_157 ⟨(Nat.le_of_ble_eq_true rfl), (Nat.le_of_ble_eq_true rfl), (Nat.le_of_ble_eq_true rfl), (Nat.le_of_ble_eq_true rfl)⟩ ⟨(Nat.le_of_ble_eq_true rfl), (Nat.le_of_ble_eq_true rfl)⟩ h
                      · skip
                        refine q_if (P := a1 = (110 : Int32)) h (fun e11 h => ?_) (fun n11 h => ?_)
                        · refine lv_tableIn (off := 106) (tgt := 119) hx hb dX5_of_13 (by rw [e11]; decide) (by rw [e11]; decide) (by rw [e11]; decide) (by decide) ?_
                          refine lv_aload_n hx hb dX5_of_119 rfl (lv_at hl 0 rfl) ?_
                          refine gf_Ver_text C0 hw hj3 (fun _ h9 => List.mem_cons_of_mem _ (List.mem_append_left _ (List.mem_append_left _ (List.mem_append_left _ (List.mem_append_left _ (List.mem_append_left _ (List.mem_append_right _ h9))))))) (List.mem_of_getElem? (i := 7) rfl) dX5_of_120 ?_
                          refine gf_Text_signs C0 hw (Nat.lt_of_lt_of_le hj3 (Nat.le_of_ble_eq_true rfl)) (fun _ h9 => List.mem_cons_of_mem _ (List.mem_append_left _ (List.mem_append_left _ (List.mem_append_left _ (List.mem_append_left _ (List.mem_append_right _ h9)))))) (List.mem_of_getElem? (i := 8) rfl) dX5_of_123 ?_
                          exact q_iretT C0 hw h ⟨(Nat.le_of_ble_eq_true rfl), (Nat.le_of_ble_eq_true rfl)⟩ dX5_of_126
                        · skip
                          refine q_if (P := a1 = (111 : Int32)) h (fun e12 h => ?_) (fun n12 h => ?_)
                          · refine lv_tableIn (off := 135) (tgt := 148) hx hb dX5_of_13 (by rw [e12]; decide) (by rw [e12]; decide) (by rw [e12]; decide) (by decide) ?_
                            exact q_thrS C0 ht hst hw (ik := 210) (is := 212) (ic := 214) xp_214 (List.mem_of_getElem? (i := 1) rfl) (List.mem_of_getElem? (i := 2) rfl) (List.mem_of_getElem? (i := 17) rfl) (fun _ h9 => List.mem_cons_of_mem _ (List.mem_append_left _ (List.mem_append_left _ (List.mem_append_right _ h9)))) hl.1 dX5_of_148 dX5_of_151 dX5_of_152 dX5_of_154 dX5_of_157 ⟨(Nat.le_of_ble_eq_true rfl), (Nat.le_of_ble_eq_true rfl), (Nat.le_of_ble_eq_true rfl), (Nat.le_of_ble_eq_true rfl)⟩ ⟨(Nat.le_of_ble_eq_true rfl), (Nat.le_of_ble_eq_true rfl)⟩ h
                          · skip
                            refine q_if (P := a1 = (112 : Int32)) h (fun e13 h => ?_) (fun n13 h => ?_)
                            · refine lv_tableIn (off := 91) (tgt := 104) hx hb dX5_of_13 (by rw [e13]; decide) (by rw [e13]; decide) (by rw [e13]; decide) (by decide) ?_
                              refine lv_aload_n hx hb dX5_of_104 rfl (lv_at hl 0 rfl) ?_
                              refine gf_Ver_parent C0 hw hj3 (fun _ h9 => List.mem_cons_of_mem _ (List.mem_append_left _ (List.mem_append_left _ (List.mem_append_left _ (List.mem_append_left _ (List.mem_append_left _ (List.mem_append_right _ h9))))))) (List.mem_of_getElem? (i := 4) rfl) dX5_of_105 ?_
                              exact q_iretT C0 hw h ⟨(Nat.le_of_ble_eq_true rfl), (Nat.le_of_ble_eq_true rfl)⟩ dX5_of_108
                            · skip
                              refine q_if (P := a1 = (113 : Int32)) h (fun e14 h => ?_) (fun n14 h => ?_)
                              · refine lv_tableIn (off := 135) (tgt := 148) hx hb dX5_of_13 (by rw [e14]; decide) (by rw [e14]; decide) (by rw [e14]; decide) (by decide) ?_
                                exact q_thrS C0 ht hst hw (ik := 210) (is := 212) (ic := 214) xp_214 (List.mem_of_getElem? (i := 1) rfl) (List.mem_of_getElem? (i := 2) rfl) (List.mem_of_getElem? (i := 17) rfl) (fun _ h9 => List.mem_cons_of_mem _ (List.mem_append_left _ (List.mem_append_left _ (List.mem_append_right _ h9)))) hl.1 dX5_of_148 dX5_of_151 dX5_of_152 dX5_of_154 dX5_of_157 ⟨(Nat.le_of_ble_eq_true rfl), (Nat.le_of_ble_eq_true rfl), (Nat.le_of_ble_eq_true rfl), (Nat.le_of_ble_eq_true rfl)⟩ ⟨(Nat.le_of_ble_eq_true rfl), (Nat.le_of_ble_eq_true rfl)⟩ h
                              · skip
                                refine q_if (P := a1 = (114 : Int32)) h (fun e15 h => ?_) (fun n15 h => ?_)
                                · refine lv_tableIn (off := 135) (tgt := 148) hx hb dX5_of_13 (by rw [e15]; decide) (by rw [e15]; decide) (by rw [e15]; decide) (by decide) ?_
                                  exact q_thrS C0 ht hst hw (ik := 210) (is := 212) (ic := 214) xp_214 (List.mem_of_getElem? (i := 1) rfl) (List.mem_of_getElem? (i := 2) rfl) (List.mem_of_getElem? (i := 17) rfl) (fun _ h9 => List.mem_cons_of_mem _ (List.mem_append_left _ (List.mem_append_left _ (List.mem_append_right _ h9)))) hl.1 dX5_of_148 dX5_of_151 dX5_of_152 dX5_of_154 dX5_of_157 ⟨(Nat.le_of_ble_eq_true rfl), (Nat.le_of_ble_eq_true rfl), (Nat.le_of_ble_eq_true rfl), (Nat.le_of_ble_eq_true rfl)⟩ ⟨(Nat.le_of_ble_eq_true rfl), (Nat.le_of_ble_eq_true rfl)⟩ h
                                · skip
                                  refine q_if (P := a1 = (115 : Int32)) h (fun e16 h => ?_) (fun n16 h => ?_)
                                  · refine lv_tableIn (off := 96) (tgt := 109) hx hb dX5_of_13 (by rw [e16]; decide) (by rw [e16]; decide) (by rw [e16]; decide) (by decide) ?_
                                    refine lv_aload_n hx hb dX5_of_109 rfl (lv_at hl 0 rfl) ?_
                                    refine gf_Ver_savedAt C0 hw hj3 (fun _ h9 => List.mem_cons_of_mem _ (List.mem_append_left _ (List.mem_append_left _ (List.mem_append_left _ (List.mem_append_left _ (List.mem_append_left _ (List.mem_append_right _ h9))))))) (List.mem_of_getElem? (i := 5) rfl) dX5_of_110 ?_
                                    exact q_iretT C0 hw h ⟨(Nat.le_of_ble_eq_true rfl), (Nat.le_of_ble_eq_true rfl)⟩ dX5_of_113
                                  · skip
                                    refine q_if (P := a1 = (116 : Int32)) h (fun e17 h => ?_) (fun n17 h => ?_)
                                    · refine lv_tableIn (off := 135) (tgt := 148) hx hb dX5_of_13 (by rw [e17]; decide) (by rw [e17]; decide) (by rw [e17]; decide) (by decide) ?_
                                      exact q_thrS C0 ht hst hw (ik := 210) (is := 212) (ic := 214) xp_214 (List.mem_of_getElem? (i := 1) rfl) (List.mem_of_getElem? (i := 2) rfl) (List.mem_of_getElem? (i := 17) rfl) (fun _ h9 => List.mem_cons_of_mem _ (List.mem_append_left _ (List.mem_append_left _ (List.mem_append_right _ h9)))) hl.1 dX5_of_148 dX5_of_151 dX5_of_152 dX5_of_154 dX5_of_157 ⟨(Nat.le_of_ble_eq_true rfl), (Nat.le_of_ble_eq_true rfl), (Nat.le_of_ble_eq_true rfl), (Nat.le_of_ble_eq_true rfl)⟩ ⟨(Nat.le_of_ble_eq_true rfl), (Nat.le_of_ble_eq_true rfl)⟩ h
                                    · skip
                                      refine q_if (P := a1 = (117 : Int32)) h (fun e18 h => ?_) (fun n18 h => ?_)
                                      · refine lv_tableIn (off := 122) (tgt := 135) hx hb dX5_of_13 (by rw [e18]; decide) (by rw [e18]; decide) (by rw [e18]; decide) (by decide) ?_
                                        refine lv_aload_n hx hb dX5_of_135 rfl (lv_at hl 0 rfl) ?_
                                        refine gf_Ver_shingles C0 hw hj3 (fun _ h9 => List.mem_cons_of_mem _ (List.mem_append_left _ (List.mem_append_left _ (List.mem_append_left _ (List.mem_append_left _ (List.mem_append_left _ (List.mem_append_right _ h9))))))) (List.mem_of_getElem? (i := 9) rfl) dX5_of_136 ?_
                                        refine gf_Bag_size C0 hw (Nat.lt_of_lt_of_le hj3 (Nat.le_of_ble_eq_true rfl)) (fun _ h9 => List.mem_cons_of_mem _ (List.mem_append_left _ (List.mem_append_left _ (List.mem_append_left _ (List.mem_append_right _ h9))))) (List.mem_of_getElem? (i := 10) rfl) dX5_of_139 ?_
                                        exact q_iretT C0 hw h ⟨(Nat.le_of_ble_eq_true rfl), (Nat.le_of_ble_eq_true rfl)⟩ dX5_of_142
                                      · skip
                                        refine lv_tableOut (tgt := 148) hx hb dX5_of_13 (by have t0 : ¬ Int32.toInt a1 = 99 := lv_neT n0 (by decide); have t1 : ¬ Int32.toInt a1 = 100 := lv_neT n1 (by decide); have t2 : ¬ Int32.toInt a1 = 101 := lv_neT n2 (by decide); have t3 : ¬ Int32.toInt a1 = 102 := lv_neT n3 (by decide); have t4 : ¬ Int32.toInt a1 = 103 := lv_neT n4 (by decide); have t5 : ¬ Int32.toInt a1 = 104 := lv_neT n5 (by decide); have t6 : ¬ Int32.toInt a1 = 105 := lv_neT n6 (by decide); have t7 : ¬ Int32.toInt a1 = 106 := lv_neT n7 (by decide); have t8 : ¬ Int32.toInt a1 = 107 := lv_neT n8 (by decide); have t9 : ¬ Int32.toInt a1 = 108 := lv_neT n9 (by decide); have t10 : ¬ Int32.toInt a1 = 109 := lv_neT n10 (by decide); have t11 : ¬ Int32.toInt a1 = 110 := lv_neT n11 (by decide); have t12 : ¬ Int32.toInt a1 = 111 := lv_neT n12 (by decide); have t13 : ¬ Int32.toInt a1 = 112 := lv_neT n13 (by decide); have t14 : ¬ Int32.toInt a1 = 113 := lv_neT n14 (by decide); have t15 : ¬ Int32.toInt a1 = 114 := lv_neT n15 (by decide); have t16 : ¬ Int32.toInt a1 = 115 := lv_neT n16 (by decide); have t17 : ¬ Int32.toInt a1 = 116 := lv_neT n17 (by decide); have t18 : ¬ Int32.toInt a1 = 117 := lv_neT n18 (by decide); omega) (by decide) ?_
                                        exact q_thrS C0 ht hst hw (ik := 210) (is := 212) (ic := 214) xp_214 (List.mem_of_getElem? (i := 1) rfl) (List.mem_of_getElem? (i := 2) rfl) (List.mem_of_getElem? (i := 17) rfl) (fun _ h9 => List.mem_cons_of_mem _ (List.mem_append_left _ (List.mem_append_left _ (List.mem_append_right _ h9)))) hl.1 dX5_of_148 dX5_of_151 dX5_of_152 dX5_of_154 dX5_of_157 ⟨(Nat.le_of_ble_eq_true rfl), (Nat.le_of_ble_eq_true rfl), (Nat.le_of_ble_eq_true rfl), (Nat.le_of_ble_eq_true rfl)⟩ ⟨(Nat.le_of_ble_eq_true rfl), (Nat.le_of_ble_eq_true rfl)⟩ h
/-! Homewatcher.forks(I)I -/
abbrev rmX5_forks : Room := { frames := 7, cells := 1, slots := 6, locals := 111 }
def fX5_forks_72 (F : Nat) (k17 : Mem → Int32 → Nat → Int32 → Int32 → Option (Mem × (Int32 ⊕ Nat))) (M : Mem) (v1 : Int32) (v2 : Nat) (v3 : Int32) (v4 : Int32) : Option (Mem × (Int32 ⊕ Nat)) :=
    q_lt (v4 + (1 : Int32)) fun z1 =>
    k17 M v1 v2 v3 z1
set_option maxHeartbeats 4000000 in
set_option maxRecDepth 100000 in
theorem wX5_forks_72 {p : Program} {l : Launch} {e : Env} {s : State} {m : MethodId} {args : Array Value} {below : List Frame} {meth : Method} {c : Code} {D : va_G} {cy : Nat → ClassId} {ad : Nat → Nat} {x : XX} {F : Nat} {r : Mem × (Int32 ⊕ Nat)} (hst : l.stackTraces = false) (C0 : MX p l s m args meth c D cy ad cX5_forks RX5 6 wsX5_forks (some .int)) (ht : ∀ z ∈ c.exceptionTable.toList, False) {k17 : Mem → Int32 → Nat → Int32 → Int32 → Option (Mem × (Int32 ⊕ Nat))} (hk17 : ∀ (M : Mem) (v1 : Int32) (v2 : Nat) (v3 : Int32) (v4 : Int32) (hv2 : v2 < 60) (H : Heap) (locs : List Loc) (ls : Array Slot), Wd D cy ad x s M H locs → lv_has ls 6 [(0, .ref (ad 0)), (1, .int v1), (2, .ref (ad (cVer v2))), (3, .int v3), (4, .int v4)] → k17 M v1 v2 v3 v4 = some r → W p l e rmX5_forks s m args below meth c H locs 1 6 (QT D cy ad below args s x q_vi r 1 6) (F0 m 17 ls [])) : ∀ (M : Mem) (v1 : Int32) (v2 : Nat) (v3 : Int32) (v4 : Int32) (hv2 : v2 < 60) (H : Heap) (locs : List Loc) (ls : Array Slot), Wd D cy ad x s M H locs → lv_has ls 6 [(0, .ref (ad 0)), (1, .int v1), (2, .ref (ad (cVer v2))), (3, .int v3), (4, .int v4)] → fX5_forks_72 F k17 M v1 v2 v3 v4 = some r → W p l e rmX5_forks s m args below meth c H locs 1 6 (QT D cy ad below args s x q_vi r 1 6) (F0 m 72 ls []) := by
  obtain ⟨hx, hb, hml, hown, hts, -⟩ := id C0
  intro M v1 v2 v3 v4 hv2 H locs ls hw hl h
  unfold fX5_forks_72 at h
  refine q_iinc (k := 4) (cst := 1) (lv' := fun z1 => [(4, .int z1), (0, .ref (ad 0)), (1, .int v1), (2, .ref (ad (cVer v2))), (3, .int v3)]) hx hb dX5_forks_72 hl rfl rfl (by decide) (fun _ => rfl) h (fun z1 ls hl h => ?_)
  refine lv_goto (tgt := 17) hx hb dX5_forks_75 (by decide) ?_
  exact hk17 M v1 v2 v3 z1 hv2 _ _ _ hw (lv_sub hl [1, 2, 3, 4, 0] rfl) h
def fX5_forks_17 (F : Nat) : Nat → Mem → Int32 → Nat → Int32 → Int32 → Option (Mem × (Int32 ⊕ Nat))
  | 0, _, _, _, _, _ => none
  | n + 1, M, v1, v2, v3, v4 =>
    if (M 4 0 0) ≤ v4 then
    (some (M, Sum.inl v3))
    else
    (q_ax v4 60 fun j1 =>
    if v4 = v1 then
    (fX5_forks_72 F (fX5_forks_17 F n) M v1 v2 v3 v4)
    else
    (q_bn (fX4_isOf F M j1 (M 10 v2 0) (M 11 v2 0)) fun M2 z3 =>
    if z3 = (0 : Int32) then
    (fX5_forks_72 F (fX5_forks_17 F n) M2 v1 v2 v3 v4)
    else
    (if (M2 12 j1 0) = (M2 12 v2 0) then
    (q_lt (v3 + (1 : Int32)) fun z4 =>
    fX5_forks_72 F (fX5_forks_17 F n) M2 v1 v2 z4 v4)
    else
    (fX5_forks_72 F (fX5_forks_17 F n) M2 v1 v2 v3 v4))))
set_option maxHeartbeats 4000000 in
set_option maxRecDepth 100000 in
theorem wX5_forks_17 {p : Program} {l : Launch} {e : Env} {s : State} {m : MethodId} {args : Array Value} {below : List Frame} {meth : Method} {c : Code} {D : va_G} {cy : Nat → ClassId} {ad : Nat → Nat} {x : XX} {F : Nat} {r : Mem × (Int32 ⊕ Nat)} (hst : l.stackTraces = false) (C0 : MX p l s m args meth c D cy ad cX5_forks RX5 6 wsX5_forks (some .int)) (ht : ∀ z ∈ c.exceptionTable.toList, False) : ∀ (n : Nat) (M : Mem) (v1 : Int32) (v2 : Nat) (v3 : Int32) (v4 : Int32) (hv2 : v2 < 60) (H : Heap) (locs : List Loc) (ls : Array Slot), Wd D cy ad x s M H locs → lv_has ls 6 [(0, .ref (ad 0)), (1, .int v1), (2, .ref (ad (cVer v2))), (3, .int v3), (4, .int v4)] → fX5_forks_17 F n M v1 v2 v3 v4 = some r → W p l e rmX5_forks s m args below meth c H locs 1 6 (QT D cy ad below args s x q_vi r 1 6) (F0 m 17 ls []) := by
  obtain ⟨hx, hb, hml, hown, hts, -⟩ := id C0
  intro n
  induction n with
  | zero =>
    intro M v1 v2 v3 v4 hv2 H locs ls hw hl h
    exact q_no h
  | succ n ih =>
    intro M v1 v2 v3 v4 hv2 H locs ls hw hl h
    unfold fX5_forks_17 at h
    refine lv_iload hx hb dX5_forks_17 (lv_at hl 4 rfl) ?_
    refine lv_aload_n hx hb dX5_forks_19 rfl (lv_at hl 0 rfl) ?_
    refine gf_HW_versionCount C0 hw (fun _ h9 => List.mem_cons_of_mem _ (List.mem_append_left _ (List.mem_append_left _ (List.mem_append_right _ h9)))) (List.mem_of_getElem? (i := 2) rfl) dX5_forks_20 ?_
    refine q_icmp_ge (tgt := 78) hx hb dX5_forks_23 (by decide) h (fun h => ?_) (fun h => ?_)
    · refine lv_iload_n hx hb dX5_forks_78 rfl (lv_at hl 3 rfl) ?_
      exact q_iretT C0 hw h ⟨(Nat.le_of_ble_eq_true rfl), (Nat.le_of_ble_eq_true rfl)⟩ dX5_forks_79
    · refine lv_aload_n hx hb dX5_forks_26 rfl (lv_at hl 0 rfl) ?_
      refine gf_HW_versions C0 hw (fun _ h9 => List.mem_cons_of_mem _ (List.mem_append_left _ (List.mem_append_left _ (List.mem_append_right _ h9)))) (List.mem_of_getElem? (i := 1) rfl) dX5_forks_27 ?_
      refine lv_iload hx hb dX5_forks_30 (lv_at hl 4 rfl) ?_
      refine q_aald (t := 6) C0 hw at_vers rfl h dX5_forks_32 (fun j1 hj1 h => ?_)
      refine lv_astore (lv' := [(5, .ref (ad (cVer j1))), (0, .ref (ad 0)), (1, .int v1), (2, .ref (ad (cVer v2))), (3, .int v3), (4, .int v4)]) hx hb dX5_forks_33 hl (by decide) rfl (fun ls hl => ?_)
      refine lv_iload hx hb dX5_forks_35 (lv_at hl 5 rfl) ?_
      refine lv_iload_n hx hb dX5_forks_37 rfl (lv_at hl 2 rfl) ?_
      refine q_icmp_eq (tgt := 72) hx hb dX5_forks_38 (by decide) h (fun h => ?_) (fun h => ?_)
      · exact wX5_forks_72 hst C0 ht ih M v1 v2 v3 v4 hv2 _ _ _ hw (lv_sub hl [1, 2, 3, 4, 5] rfl) h
      · refine lv_aload hx hb dX5_forks_41 (lv_at hl 0 rfl) ?_
        refine lv_aload_n hx hb dX5_forks_43 rfl (lv_at hl 3 rfl) ?_
        refine gf_Ver_pupil C0 hw hv2 (fun _ h9 => List.mem_cons_of_mem _ (List.mem_append_left _ (List.mem_append_right _ h9))) (List.mem_of_getElem? (i := 3) rfl) dX5_forks_44 ?_
        refine lv_aload_n hx hb dX5_forks_47 rfl (lv_at hl 3 rfl) ?_
        refine gf_Ver_task C0 hw hv2 (fun _ h9 => List.mem_cons_of_mem _ (List.mem_append_left _ (List.mem_append_right _ h9))) (List.mem_of_getElem? (i := 4) rfl) dX5_forks_48 ?_
        refine q_callVNi (As := [.int (M 10 v2 0), .int (M 11 v2 0)]) (nA := 2) C0 hw (at_Ver hj1) rfl (fun r1 h1 => ctX4_isOf hst hj1 h1) gX5_forks_X4_isOf rfl ⟨rfl, rfl⟩ (by decide +kernel) rfl ⟨(Nat.le_of_ble_eq_true rfl), (Nat.le_of_ble_eq_true rfl)⟩ hl.1 (Nat.le_of_ble_eq_true rfl) ⟨(Nat.le_of_ble_eq_true rfl), (Nat.le_of_ble_eq_true rfl)⟩ rfl h dX5_forks_51 (fun M2 z3 H locs hw h => ?_)
        refine q_if_eq (tgt := 72) hx hb dX5_forks_54 (by decide) h (fun h => ?_) (fun h => ?_)
        · exact wX5_forks_72 hst C0 ht ih M2 v1 v2 v3 v4 hv2 _ _ _ hw (lv_sub hl [1, 2, 3, 4, 5] rfl) h
        · refine lv_aload hx hb dX5_forks_57 (lv_at hl 0 rfl) ?_
          refine gf_Ver_parent C0 hw hj1 (fun _ h9 => List.mem_cons_of_mem _ (List.mem_append_left _ (List.mem_append_right _ h9))) (List.mem_of_getElem? (i := 5) rfl) dX5_forks_59 ?_
          refine lv_aload_n hx hb dX5_forks_62 rfl (lv_at hl 3 rfl) ?_
          refine gf_Ver_parent C0 hw hv2 (fun _ h9 => List.mem_cons_of_mem _ (List.mem_append_left _ (List.mem_append_right _ h9))) (List.mem_of_getElem? (i := 5) rfl) dX5_forks_63 ?_
          refine q_icmp_ne (tgt := 72) hx hb dX5_forks_66 (by decide) h (fun h => ?_) (fun h => ?_)
          · exact wX5_forks_72 hst C0 ht ih M2 v1 v2 v3 v4 hv2 _ _ _ hw (lv_sub hl [1, 2, 3, 4, 5] rfl) h
          · refine q_iinc (k := 4) (cst := 1) (lv' := fun z4 => [(3, .int z4), (5, .ref (ad (cVer j1))), (0, .ref (ad 0)), (1, .int v1), (2, .ref (ad (cVer v2))), (4, .int v4)]) hx hb dX5_forks_69 hl rfl rfl (by decide) (fun _ => rfl) h (fun z4 ls hl h => ?_)
            exact wX5_forks_72 hst C0 ht ih M2 v1 v2 z4 v4 hv2 _ _ _ hw (lv_sub hl [2, 3, 4, 0, 5] rfl) h
def fX5_forks (F : Nat) (M : Mem) (a0 : Int32) : Option (Mem × (Int32 ⊕ Nat)) :=
    q_bx (fX5_needVersion F M a0) fun M1 _ =>
    q_ax a0 60 fun j3 =>
    q_lt ((0 : Int32)) fun z4 =>
    q_lt ((0 : Int32)) fun z5 =>
    fX5_forks_17 F F M1 a0 j3 z4 z5
set_option maxHeartbeats 4000000 in
set_option maxRecDepth 100000 in
theorem ctX5_forks {l : Launch} (hst : l.stackTraces = false) {D : va_G} {cy : Nat → ClassId} {ad : Nat → Nat} {x : XX} {F : Nat} {M : Mem} {a0 : Int32} {r : Mem × (Int32 ⊕ Nat)} (h : fX5_forks F M a0 = some r) : CT l yX5_forks wsX5_forks rmX5_forks D cy ad [.ref (ad 0), .int a0] x M r.1 (q_ou q_vi r.2) 1 6 := by
  refine q_startT (cc := cX5_forks) (maxL := 6) (ret := (some .int)) (by decide) rfl (Nat.le_of_ble_eq_true rfl) ?_
  intro p e s m args below meth c ls C0 hw hl ht
  obtain ⟨hx, hb, hml, hown, hts, -⟩ := id C0
  have C0 : MX p l s m args meth c D cy ad cX5_forks RX5 6 wsX5_forks ((some .int)) := C0
  have hown : s.vm.findClass RX5 = some m.cls := hown
  have hl : lv_has ls 6 [(0, .ref (ad 0)), (1, .int a0)] := hl
  show W p l e rmX5_forks s m args below meth c s.heap [] 0 0 (QT D cy ad below args s x q_vi r 1 6) (F0 m 0 ls [])
  unfold fX5_forks at h
  refine lv_aload_n hx hb dX5_forks_0 rfl (lv_at hl 0 rfl) ?_
  refine lv_iload_n hx hb dX5_forks_1 rfl (lv_at hl 1 rfl) ?_
  refine q_callVTv (As := [.int a0]) (nA := 1) C0 ht hw at_HW rfl (fun r1 h1 => ctX5_needVersion hst h1) gX5_forks_X5_needVersion rfl ⟨rfl, rfl⟩ (by decide +kernel) rfl ⟨(Nat.le_of_ble_eq_true rfl), (Nat.le_of_ble_eq_true rfl)⟩ hl.1 (Nat.le_of_ble_eq_true rfl) ⟨(Nat.le_of_ble_eq_true rfl), (Nat.le_of_ble_eq_true rfl)⟩ ⟨(Nat.le_of_ble_eq_true rfl), (Nat.le_of_ble_eq_true rfl)⟩ rfl h dX5_forks_2 (fun M1 H locs hw h => ?_)
  refine lv_aload_n hx hb dX5_forks_5 rfl (lv_at hl 0 rfl) ?_
  refine gf_HW_versions C0 hw (fun _ h9 => List.mem_cons_of_mem _ (List.mem_append_left _ (List.mem_append_left _ (List.mem_append_right _ h9)))) (List.mem_of_getElem? (i := 1) rfl) dX5_forks_6 ?_
  refine lv_iload_n hx hb dX5_forks_9 rfl (lv_at hl 1 rfl) ?_
  refine q_aald (t := 6) C0 hw at_vers rfl h dX5_forks_10 (fun j3 hj3 h => ?_)
  refine lv_astore_n (lv' := [(2, .ref (ad (cVer j3))), (0, .ref (ad 0)), (1, .int a0)]) hx hb dX5_forks_11 rfl hl (by decide) rfl (fun ls hl => ?_)
  refine lv_iconst (v := 0) hx hb dX5_forks_12 (by decide) ?_
  refine q_istore_n (lv' := fun z4 => [(3, .int z4), (2, .ref (ad (cVer j3))), (0, .ref (ad 0)), (1, .int a0)]) hx hb dX5_forks_13 rfl hl (by decide) (fun _ => rfl) h (fun z4 ls hl h => ?_)
  refine lv_iconst (v := 0) hx hb dX5_forks_14 (by decide) ?_
  refine q_istore (lv' := fun z5 => [(4, .int z5), (3, .int z4), (2, .ref (ad (cVer j3))), (0, .ref (ad 0)), (1, .int a0)]) hx hb dX5_forks_15 hl (by decide) (fun _ => rfl) h (fun z5 ls hl h => ?_)
  exact wX5_forks_17 hst C0 ht  F M1 a0 j3 z4 z5 hj3 _ _ _ hw (lv_sub hl [3, 4, 2, 1, 0] rfl) h
