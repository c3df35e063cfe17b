/-! Homewatcher.mark(II)I -/
abbrev rmX5_mark : Room := { frames := 7, cells := 3, slots := 18, locals := 111 }
def fX5_mark (F : Nat) (M : Mem) (a0 : Int32) (a1 : Int32) : Option (Mem × (Int32 ⊕ Nat)) :=
    q_bx (fX5_needPupil F M a0) fun M1 _ =>
    q_bx (fX5_needTask F M1 a1) fun M3 _ =>
    q_bn (fX5_hasOpenHit F M3 a0 a1) fun M5 z6 =>
    if z6 = (0 : Int32) then
    (q_bn (fX5_makeMark F M5 a0 a1) fun M7 z8 =>
    some (M7, Sum.inl z8))
    else
    (some (M5, Sum.inr 5))
set_option maxHeartbeats 4000000 in
set_option maxRecDepth 100000 in
theorem ctX5_mark {l : Launch} (hst : l.stackTraces = false) {D : va_G} {cy : Nat → ClassId} {ad : Nat → Nat} {x : XX} {F : Nat} {M : Mem} {a0 : Int32} {a1 : Int32} {r : Mem × (Int32 ⊕ Nat)} (h : fX5_mark F M a0 a1 = some r) : CT l yX5_mark wsX5_mark rmX5_mark D cy ad [.ref (ad 0), .int a0, .int a1] x M r.1 (q_ou q_vi r.2) 3 18 := by
  refine q_startT (cc := cX5_mark) (maxL := 3) (ret := (some .int)) (by decide) rfl (Nat.le_of_ble_eq_true rfl) ?_
  intro p e s m args below meth c ls C0 hw hl ht
  obtain ⟨hx, hb, hml, hown, hts, -⟩ := id C0
  have C0 : MX p l s m args meth c D cy ad cX5_mark RX5 3 wsX5_mark ((some .int)) := C0
  have hown : s.vm.findClass RX5 = some m.cls := hown
  have hl : lv_has ls 3 [(0, .ref (ad 0)), (1, .int a0), (2, .int a1)] := hl
  show W p l e rmX5_mark s m args below meth c s.heap [] 0 0 (QT D cy ad below args s x q_vi r 3 18) (F0 m 0 ls [])
  unfold fX5_mark at h
  refine lv_aload_n hx hb dX5_mark_0 rfl (lv_at hl 0 rfl) ?_
  refine lv_iload_n hx hb dX5_mark_1 rfl (lv_at hl 1 rfl) ?_
  refine q_callVTv (As := [.int a0]) (nA := 1) C0 ht hw at_HW rfl (fun r1 h1 => ctX5_needPupil hst h1) gX5_mark_X5_needPupil rfl ⟨rfl, rfl⟩ (by decide +kernel) rfl ⟨(Nat.le_of_ble_eq_true rfl), (Nat.le_of_ble_eq_true rfl)⟩ hl.1 (Nat.le_of_ble_eq_true rfl) ⟨(Nat.le_of_ble_eq_true rfl), (Nat.le_of_ble_eq_true rfl)⟩ ⟨(Nat.le_of_ble_eq_true rfl), (Nat.le_of_ble_eq_true rfl)⟩ rfl h dX5_mark_2 (fun M1 H locs hw h => ?_)
  refine lv_aload_n hx hb dX5_mark_5 rfl (lv_at hl 0 rfl) ?_
  refine lv_iload_n hx hb dX5_mark_6 rfl (lv_at hl 2 rfl) ?_
  refine q_callVTv (As := [.int a1]) (nA := 1) C0 ht hw at_HW rfl (fun r1 h1 => ctX5_needTask hst h1) gX5_mark_X5_needTask rfl ⟨rfl, rfl⟩ (by decide +kernel) rfl ⟨(Nat.le_of_ble_eq_true rfl), (Nat.le_of_ble_eq_true rfl)⟩ hl.1 (Nat.le_of_ble_eq_true rfl) ⟨(Nat.le_of_ble_eq_true rfl), (Nat.le_of_ble_eq_true rfl)⟩ ⟨(Nat.le_of_ble_eq_true rfl), (Nat.le_of_ble_eq_true rfl)⟩ rfl h dX5_mark_7 (fun M3 H locs hw h => ?_)
  refine lv_aload_n hx hb dX5_mark_10 rfl (lv_at hl 0 rfl) ?_
  refine lv_iload_n hx hb dX5_mark_11 rfl (lv_at hl 1 rfl) ?_
  refine lv_iload_n hx hb dX5_mark_12 rfl (lv_at hl 2 rfl) ?_
  refine q_callVNi (As := [.int a0, .int a1]) (nA := 2) C0 hw at_HW rfl (fun r1 h1 => ctX5_hasOpenHit hst h1) gX5_mark_X5_hasOpenHit rfl ⟨rfl, rfl⟩ (by decide +kernel) rfl ⟨(Nat.le_of_ble_eq_true rfl), (Nat.le_of_ble_eq_true rfl)⟩ hl.1 (Nat.le_of_ble_eq_true rfl) ⟨(Nat.le_of_ble_eq_true rfl), (Nat.le_of_ble_eq_true rfl)⟩ rfl h dX5_mark_13 (fun M5 z6 H locs hw h => ?_)
  refine q_if_eq (tgt := 30) hx hb dX5_mark_16 (by decide) h (fun h => ?_) (fun h => ?_)
  · refine lv_aload_n hx hb dX5_mark_30 rfl (lv_at hl 0 rfl) ?_
    refine lv_iload_n hx hb dX5_mark_31 rfl (lv_at hl 1 rfl) ?_
    refine lv_iload_n hx hb dX5_mark_32 rfl (lv_at hl 2 rfl) ?_
    refine q_callVNi (As := [.int a0, .int a1]) (nA := 2) C0 hw at_HW rfl (fun r1 h1 => ctX5_makeMark hst h1) gX5_mark_X5_makeMark rfl ⟨rfl, rfl⟩ (by decide +kernel) rfl ⟨(Nat.le_of_ble_eq_true rfl), (Nat.le_of_ble_eq_true rfl)⟩ hl.1 (Nat.le_of_ble_eq_true rfl) ⟨(Nat.le_of_ble_eq_true rfl), (Nat.le_of_ble_eq_true rfl)⟩ rfl h dX5_mark_33 (fun M7 z8 H locs hw h => ?_)
    exact q_iretT C0 hw h ⟨(Nat.le_of_ble_eq_true rfl), (Nat.le_of_ble_eq_true rfl)⟩ dX5_mark_36
  · exact q_thrSW C0 ht hst hw (ik := 163) (is := 280) (ic := 167) xp_167 (List.mem_of_getElem? (i := 1) rfl) (List.mem_of_getElem? (i := 2) rfl) (List.mem_of_getElem? (i := 23) rfl) (fun _ h9 => List.mem_cons_of_mem _ (List.mem_append_left _ (List.mem_append_left _ (List.mem_append_right _ h9)))) hl.1 dX5_mark_19 dX5_mark_22 dX5_mark_23 dX5_mark_26 dX5_mark_29 ⟨(Nat.le_of_ble_eq_true rfl), (Nat.le_of_ble_eq_true rfl), (Nat.le_of_ble_eq_true rfl), (Nat.le_of_ble_eq_true rfl)⟩ ⟨(Nat.le_of_ble_eq_true rfl), (Nat.le_of_ble_eq_true rfl)⟩ h
/-! Homewatcher.isFrozen(II)Z -/
abbrev rmX5_isFrozen : Room := { frames := 7, cells := 2, slots := 12, locals := 111 }
def fX5_isFrozen (F : Nat) (M : Mem) (a0 : Int32) (a1 : Int32) : Option (Mem × (Int32 ⊕ Nat)) :=
    q_bx (fX5_needPupil F M a0) fun M1 _ =>
    q_bx (fX5_needTask F M1 a1) fun M3 _ =>
    q_bn (fX5_hasOpenHit F M3 a0 a1) fun M5 z6 =>
    q_gd (q_isZ z6) (
    some (M5, Sum.inl z6))
set_option maxHeartbeats 4000000 in
set_option maxRecDepth 100000 in
theorem ctX5_isFrozen {l : Launch} (hst : l.stackTraces = false) {D : va_G} {cy : Nat → ClassId} {ad : Nat → Nat} {x : XX} {F : Nat} {M : Mem} {a0 : Int32} {a1 : Int32} {r : Mem × (Int32 ⊕ Nat)} (h : fX5_isFrozen F M a0 a1 = some r) : CT l yX5_isFrozen wsX5_isFrozen rmX5_isFrozen D cy ad [.ref (ad 0), .int a0, .int a1] x M r.1 (q_ou q_vi r.2) 2 12 := by
  refine q_startT (cc := cX5_isFrozen) (maxL := 3) (ret := (some .boolean)) (by decide) rfl (Nat.le_of_ble_eq_true rfl) ?_
  intro p e s m args below meth c ls C0 hw hl ht
  obtain ⟨hx, hb, hml, hown, hts, -⟩ := id C0
  have C0 : MX p l s m args meth c D cy ad cX5_isFrozen RX5 3 wsX5_isFrozen ((some .boolean)) := C0
  have hown : s.vm.findClass RX5 = some m.cls := hown
  have hl : lv_has ls 3 [(0, .ref (ad 0)), (1, .int a0), (2, .int a1)] := hl
  show W p l e rmX5_isFrozen s m args below meth c s.heap [] 0 0 (QT D cy ad below args s x q_vi r 2 12) (F0 m 0 ls [])
  unfold fX5_isFrozen at h
  refine lv_aload_n hx hb dX5_isFrozen_0 rfl (lv_at hl 0 rfl) ?_
  refine lv_iload_n hx hb dX5_isFrozen_1 rfl (lv_at hl 1 rfl) ?_
  refine q_callVTv (As := [.int a0]) (nA := 1) C0 ht hw at_HW rfl (fun r1 h1 => ctX5_needPupil hst h1) gX5_isFrozen_X5_needPupil rfl ⟨rfl, rfl⟩ (by decide +kernel) rfl ⟨(Nat.le_of_ble_eq_true rfl), (Nat.le_of_ble_eq_true rfl)⟩ hl.1 (Nat.le_of_ble_eq_true rfl) ⟨(Nat.le_of_ble_eq_true rfl), (Nat.le_of_ble_eq_true rfl)⟩ ⟨(Nat.le_of_ble_eq_true rfl), (Nat.le_of_ble_eq_true rfl)⟩ rfl h dX5_isFrozen_2 (fun M1 H locs hw h => ?_)
  refine lv_aload_n hx hb dX5_isFrozen_5 rfl (lv_at hl 0 rfl) ?_
  refine lv_iload_n hx hb dX5_isFrozen_6 rfl (lv_at hl 2 rfl) ?_
  refine q_callVTv (As := [.int a1]) (nA := 1) C0 ht hw at_HW rfl (fun r1 h1 => ctX5_needTask hst h1) gX5_isFrozen_X5_needTask rfl ⟨rfl, rfl⟩ (by decide +kernel) rfl ⟨(Nat.le_of_ble_eq_true rfl), (Nat.le_of_ble_eq_true rfl)⟩ hl.1 (Nat.le_of_ble_eq_true rfl) ⟨(Nat.le_of_ble_eq_true rfl), (Nat.le_of_ble_eq_true rfl)⟩ ⟨(Nat.le_of_ble_eq_true rfl), (Nat.le_of_ble_eq_true rfl)⟩ rfl h dX5_isFrozen_7 (fun M3 H locs hw h => ?_)
  refine lv_aload_n hx hb dX5_isFrozen_10 rfl (lv_at hl 0 rfl) ?_
  refine lv_iload_n hx hb dX5_isFrozen_11 rfl (lv_at hl 1 rfl) ?_
  refine lv_iload_n hx hb dX5_isFrozen_12 rfl (lv_at hl 2 rfl) ?_
  refine q_callVNi (As := [.int a0, .int a1]) (nA := 2) C0 hw at_HW rfl (fun r1 h1 => ctX5_hasOpenHit hst h1) gX5_isFrozen_X5_hasOpenHit rfl ⟨rfl, rfl⟩ (by decide +kernel) rfl ⟨(Nat.le_of_ble_eq_true rfl), (Nat.le_of_ble_eq_true rfl)⟩ hl.1 (Nat.le_of_ble_eq_true rfl) ⟨(Nat.le_of_ble_eq_true rfl), (Nat.le_of_ble_eq_true rfl)⟩ rfl h dX5_isFrozen_13 (fun M5 z6 H locs hw h => ?_)
  refine q_guard h (fun g h => ?_)
  exact q_zretT C0 hw (q_isZ_in g) h ⟨(Nat.le_of_ble_eq_true rfl), (Nat.le_of_ble_eq_true rfl)⟩ dX5_isFrozen_16
/-! Homewatcher.shared(II)I -/
abbrev rmX5_shared : Room := { frames := 7, cells := 2, slots := 12, locals := 111 }
def fX5_shared (F : Nat) (M : Mem) (a0 : Int32) (a1 : Int32) : Option (Mem × (Int32 ⊕ Nat)) :=
    q_bx (fX5_needVersion F M a0) fun M1 _ =>
    q_bx (fX5_needVersion F M1 a1) fun M3 _ =>
    q_ax a0 60 fun j5 =>
    q_ax a1 60 fun j6 =>
    q_bn (fX0_countCommon F M3 j5 j6) fun M7 z8 =>
    some (M7, Sum.inl z8)
set_option maxHeartbeats 4000000 in
set_option maxRecDepth 100000 in
theorem ctX5_shared {l : Launch} (hst : l.stackTraces = false) {D : va_G} {cy : Nat → ClassId} {ad : Nat → Nat} {x : XX} {F : Nat} {M : Mem} {a0 : Int32} {a1 : Int32} {r : Mem × (Int32 ⊕ Nat)} (h : fX5_shared F M a0 a1 = some r) : CT l yX5_shared wsX5_shared rmX5_shared D cy ad [.ref (ad 0), .int a0, .int a1] x M r.1 (q_ou q_vi r.2) 2 12 := by
  refine q_startT (cc := cX5_shared) (maxL := 3) (ret := (some .int)) (by decide) rfl (Nat.le_of_ble_eq_true rfl) ?_
  intro p e s m args below meth c ls C0 hw hl ht
  obtain ⟨hx, hb, hml, hown, hts, -⟩ := id C0
  have C0 : MX p l s m args meth c D cy ad cX5_shared RX5 3 wsX5_shared ((some .int)) := C0
  have hown : s.vm.findClass RX5 = some m.cls := hown
  have hl : lv_has ls 3 [(0, .ref (ad 0)), (1, .int a0), (2, .int a1)] := hl
  show W p l e rmX5_shared s m args below meth c s.heap [] 0 0 (QT D cy ad below args s x q_vi r 2 12) (F0 m 0 ls [])
  unfold fX5_shared at h
  refine lv_aload_n hx hb dX5_shared_0 rfl (lv_at hl 0 rfl) ?_
  refine lv_iload_n hx hb dX5_shared_1 rfl (lv_at hl 1 rfl) ?_
  refine q_callVTv (As := [.int a0]) (nA := 1) C0 ht hw at_HW rfl (fun r1 h1 => ctX5_needVersion hst h1) gX5_shared_X5_needVersion rfl ⟨rfl, rfl⟩ (by decide +kernel) rfl ⟨(Nat.le_of_ble_eq_true rfl), (Nat.le_of_ble_eq_true rfl)⟩ hl.1 (Nat.le_of_ble_eq_true rfl) ⟨(Nat.le_of_ble_eq_true rfl), (Nat.le_of_ble_eq_true rfl)⟩ ⟨(Nat.le_of_ble_eq_true rfl), (Nat.le_of_ble_eq_true rfl)⟩ rfl h dX5_shared_2 (fun M1 H locs hw h => ?_)
  refine lv_aload_n hx hb dX5_shared_5 rfl (lv_at hl 0 rfl) ?_
  refine lv_iload_n hx hb dX5_shared_6 rfl (lv_at hl 2 rfl) ?_
  refine q_callVTv (As := [.int a1]) (nA := 1) C0 ht hw at_HW rfl (fun r1 h1 => ctX5_needVersion hst h1) gX5_shared_X5_needVersion rfl ⟨rfl, rfl⟩ (by decide +kernel) rfl ⟨(Nat.le_of_ble_eq_true rfl), (Nat.le_of_ble_eq_true rfl)⟩ hl.1 (Nat.le_of_ble_eq_true rfl) ⟨(Nat.le_of_ble_eq_true rfl), (Nat.le_of_ble_eq_true rfl)⟩ ⟨(Nat.le_of_ble_eq_true rfl), (Nat.le_of_ble_eq_true rfl)⟩ rfl h dX5_shared_7 (fun M3 H locs hw h => ?_)
  refine lv_aload_n hx hb dX5_shared_10 rfl (lv_at hl 0 rfl) ?_
  refine gf_HW_versions C0 hw (fun _ h9 => List.mem_cons_of_mem _ (List.mem_append_left _ (List.mem_append_left _ (List.mem_append_left _ (List.mem_append_left _ (List.mem_append_right _ h9)))))) (List.mem_of_getElem? (i := 1) rfl) dX5_shared_11 ?_
  refine lv_iload_n hx hb dX5_shared_14 rfl (lv_at hl 1 rfl) ?_
  refine q_aald (t := 6) C0 hw at_vers rfl h dX5_shared_15 (fun j5 hj5 h => ?_)
  refine gf_Ver_shingles C0 hw hj5 (fun _ h9 => List.mem_cons_of_mem _ (List.mem_append_left _ (List.mem_append_left _ (List.mem_append_left _ (List.mem_append_right _ h9))))) (List.mem_of_getElem? (i := 2) rfl) dX5_shared_16 ?_
  refine lv_aload_n hx hb dX5_shared_19 rfl (lv_at hl 0 rfl) ?_
  refine gf_HW_versions C0 hw (fun _ h9 => List.mem_cons_of_mem _ (List.mem_append_left _ (List.mem_append_left _ (List.mem_append_left _ (List.mem_append_left _ (List.mem_append_right _ h9)))))) (List.mem_of_getElem? (i := 1) rfl) dX5_shared_20 ?_
  refine lv_iload_n hx hb dX5_shared_23 rfl (lv_at hl 2 rfl) ?_
  refine q_aald (t := 6) C0 hw at_vers rfl h dX5_shared_24 (fun j6 hj6 h => ?_)
  refine gf_Ver_shingles C0 hw hj6 (fun _ h9 => List.mem_cons_of_mem _ (List.mem_append_left _ (List.mem_append_left _ (List.mem_append_left _ (List.mem_append_right _ h9))))) (List.mem_of_getElem? (i := 2) rfl) dX5_shared_25 ?_
  refine q_callVNi (As := [.ref (ad (cBag j6))]) (nA := 1) C0 hw (at_Bag (Nat.lt_of_lt_of_le hj5 (Nat.le_of_ble_eq_true rfl))) rfl (fun r1 h1 => ctX0_countCommon hst (Nat.lt_of_lt_of_le hj5 (Nat.le_of_ble_eq_true rfl)) (Nat.lt_of_lt_of_le hj6 (Nat.le_of_ble_eq_true rfl)) h1) gX5_shared_X0_countCommon rfl ⟨rfl, rfl⟩ (by decide +kernel) rfl ⟨(Nat.le_of_ble_eq_true rfl), (Nat.le_of_ble_eq_true rfl)⟩ hl.1 (Nat.le_of_ble_eq_true rfl) ⟨(Nat.le_of_ble_eq_true rfl), (Nat.le_of_ble_eq_true rfl)⟩ rfl h dX5_shared_28 (fun M7 z8 H locs hw h => ?_)
  exact q_iretT C0 hw h ⟨(Nat.le_of_ble_eq_true rfl), (Nat.le_of_ble_eq_true rfl)⟩ dX5_shared_31
/-! Homewatcher.shingle(II)I -/
abbrev rmX5_shingle : Room := { frames := 7, cells := 2, slots := 12, locals := 111 }
def fX5_shingle_27 (F : Nat) (M : Mem) : Option (Mem × (Int32 ⊕ Nat)) :=
    some (M, Sum.inr 4)
set_option maxHeartbeats 4000000 in
set_option maxRecDepth 100000 in
theorem wX5_shingle_27 {p : Program} {l : Launch} {e : Env} {s : State} {m : MethodId} {args : Array Value} {below : List Frame} {meth : Method} {c : Code} {D : va_G} {cy : Nat → ClassId} {ad : Nat → Nat} {x : XX} {F : Nat} {r : Mem × (Int32 ⊕ Nat)} (hst : l.stackTraces = false) (C0 : MX p l s m args meth c D cy ad cX5_shingle RX5 4 wsX5_shingle (some .int)) (ht : ∀ z ∈ c.exceptionTable.toList, False) : ∀ (M : Mem) (H : Heap) (locs : List Loc) (ls : Array Slot), Wd D cy ad x s M H locs → lv_has ls 4 [] → fX5_shingle_27 F M = some r → W p l e rmX5_shingle s m args below meth c H locs 1 6 (QT D cy ad below args s x q_vi r 2 12) (F0 m 27 ls []) := by
  obtain ⟨hx, hb, hml, hown, hts, -⟩ := id C0
  intro M H locs ls hw hl h
  unfold fX5_shingle_27 at h
  exact q_thrNW C0 ht hst hw (ik := 145) (is := 289) (ic := 149) xp_149 (List.mem_of_getElem? (i := 1) rfl) (List.mem_of_getElem? (i := 2) rfl) (List.mem_of_getElem? (i := 24) rfl) (fun _ h9 => List.mem_cons_of_mem _ (List.mem_append_left _ (List.mem_append_left _ (List.mem_append_right _ h9)))) hl.1 dX5_shingle_27 dX5_shingle_30 dX5_shingle_31 dX5_shingle_34 dX5_shingle_37 ⟨(Nat.le_of_ble_eq_true rfl), (Nat.le_of_ble_eq_true rfl), (Nat.le_of_ble_eq_true rfl), (Nat.le_of_ble_eq_true rfl)⟩ ⟨(Nat.le_of_ble_eq_true rfl), (Nat.le_of_ble_eq_true rfl)⟩ h
def fX5_shingle (F : Nat) (M : Mem) (a0 : Int32) (a1 : Int32) : Option (Mem × (Int32 ⊕ Nat)) :=
    q_bx (fX5_needVersion F M a0) fun M1 _ =>
    q_ax a0 60 fun j3 =>
    if a1 < (0 : Int32) then
    (fX5_shingle_27 F M1)
    else
    (if a1 < (M1 9 j3 0) then
    (q_ax a1 (bl j3) fun j4 =>
    some (M1, Sum.inl (M1 23 j3 j4)))
    else
    (fX5_shingle_27 F M1))
set_option maxHeartbeats 4000000 in
set_option maxRecDepth 100000 in
theorem ctX5_shingle {l : Launch} (hst : l.stackTraces = false) {D : va_G} {cy : Nat → ClassId} {ad : Nat → Nat} {x : XX} {F : Nat} {M : Mem} {a0 : Int32} {a1 : Int32} {r : Mem × (Int32 ⊕ Nat)} (h : fX5_shingle F M a0 a1 = some r) : CT l yX5_shingle wsX5_shingle rmX5_shingle D cy ad [.ref (ad 0), .int a0, .int a1] x M r.1 (q_ou q_vi r.2) 2 12 := by
  refine q_startT (cc := cX5_shingle) (maxL := 4) (ret := (some .int)) (by decide) rfl (Nat.le_of_ble_eq_true rfl) ?_
  intro p e s m args below meth c ls C0 hw hl ht
  obtain ⟨hx, hb, hml, hown, hts, -⟩ := id C0
  have C0 : MX p l s m args meth c D cy ad cX5_shingle RX5 4 wsX5_shingle ((some .int)) := C0
  have hown : s.vm.findClass RX5 = some m.cls := hown
  have hl : lv_has ls 4 [(0, .ref (ad 0)), (1, .int a0), (2, .int a1)] := hl
  show W p l e rmX5_shingle s m args below meth c s.heap [] 0 0 (QT D cy ad below args s x q_vi r 2 12) (F0 m 0 ls [])
  unfold fX5_shingle at h
  refine lv_aload_n hx hb dX5_shingle_0 rfl (lv_at hl 0 rfl) ?_
  refine lv_iload_n hx hb dX5_shingle_1 rfl (lv_at hl 1 rfl) ?_
  refine q_callVTv (As := [.int a0]) (nA := 1) C0 ht hw at_HW rfl (fun r1 h1 => ctX5_needVersion hst h1) gX5_shingle_X5_needVersion rfl ⟨rfl, rfl⟩ (by decide +kernel) rfl ⟨(Nat.le_of_ble_eq_true rfl), (Nat.le_of_ble_eq_true rfl)⟩ hl.1 (Nat.le_of_ble_eq_true rfl) ⟨(Nat.le_of_ble_eq_true rfl), (Nat.le_of_ble_eq_true rfl)⟩ ⟨(Nat.le_of_ble_eq_true rfl), (Nat.le_of_ble_eq_true rfl)⟩ rfl h dX5_shingle_2 (fun M1 H locs hw h => ?_)
  refine lv_aload_n hx hb dX5_shingle_5 rfl (lv_at hl 0 rfl) ?_
  refine gf_HW_versions C0 hw (fun _ h9 => List.mem_cons_of_mem _ (List.mem_append_left _ (List.mem_append_left _ (List.mem_append_left _ (List.mem_append_left _ (List.mem_append_left _ (List.mem_append_right _ h9))))))) (List.mem_of_getElem? (i := 3) rfl) dX5_shingle_6 ?_
  refine lv_iload_n hx hb dX5_shingle_9 rfl (lv_at hl 1 rfl) ?_
  refine q_aald (t := 6) C0 hw at_vers rfl h dX5_shingle_10 (fun j3 hj3 h => ?_)
  refine gf_Ver_shingles C0 hw hj3 (fun _ h9 => List.mem_cons_of_mem _ (List.mem_append_left _ (List.mem_append_left _ (List.mem_append_left _ (List.mem_append_left _ (List.mem_append_right _ h9)))))) (List.mem_of_getElem? (i := 4) rfl) dX5_shingle_11 ?_
  refine lv_astore_n (lv' := [(3, .ref (ad (cBag j3))), (0, .ref (ad 0)), (1, .int a0), (2, .int a1)]) hx hb dX5_shingle_14 rfl hl (by decide) rfl (fun ls hl => ?_)
  refine lv_iload_n hx hb dX5_shingle_15 rfl (lv_at hl 3 rfl) ?_
  refine q_if_lt (tgt := 27) hx hb dX5_shingle_16 (by decide) h (fun h => ?_) (fun h => ?_)
  · exact wX5_shingle_27 hst C0 ht  M1 _ _ _ hw (lv_sub hl [] rfl) h
  · refine lv_iload_n hx hb dX5_shingle_19 rfl (lv_at hl 3 rfl) ?_
    refine lv_aload_n hx hb dX5_shingle_20 rfl (lv_at hl 0 rfl) ?_
    refine gf_Bag_size C0 hw (Nat.lt_of_lt_of_le hj3 (Nat.le_of_ble_eq_true rfl)) (fun _ h9 => List.mem_cons_of_mem _ (List.mem_append_left _ (List.mem_append_left _ (List.mem_append_left _ (List.mem_append_right _ h9))))) (List.mem_of_getElem? (i := 5) rfl) dX5_shingle_21 ?_
    refine q_icmp_lt (tgt := 38) hx hb dX5_shingle_24 (by decide) h (fun h => ?_) (fun h => ?_)
    · refine lv_aload_n hx hb dX5_shingle_38 rfl (lv_at hl 0 rfl) ?_
      refine gf_Bag_keys C0 hw (Nat.lt_of_lt_of_le hj3 (Nat.le_of_ble_eq_true rfl)) (fun _ h9 => List.mem_cons_of_mem _ (List.mem_append_left _ (List.mem_append_left _ (List.mem_append_left _ (List.mem_append_right _ h9))))) (List.mem_of_getElem? (i := 6) rfl) dX5_shingle_39 ?_
      refine lv_iload_n hx hb dX5_shingle_42 rfl (lv_at hl 3 rfl) ?_
      refine q_iald C0 hw (at_keys (Nat.lt_of_lt_of_le hj3 (Nat.le_of_ble_eq_true rfl))) h dX5_shingle_43 (fun j4 hj4 h => ?_)
      exact q_iretT C0 hw h ⟨(Nat.le_of_ble_eq_true rfl), (Nat.le_of_ble_eq_true rfl)⟩ dX5_shingle_44
    · exact wX5_shingle_27 hst C0 ht  M1 _ _ _ hw (lv_sub hl [] rfl) h
/-! Homewatcher.indexed()I -/
abbrev rmX5_indexed : Room := { frames := 0, cells := 0, slots := 0, locals := 0 }
def fX5_indexed (F : Nat) (M : Mem) : Option (Mem × Int32) :=
    some (M, M 9 60 0)
set_option maxHeartbeats 4000000 in
set_option maxRecDepth 100000 in
theorem ctX5_indexed {l : Launch} (hst : l.stackTraces = false) {D : va_G} {cy : Nat → ClassId} {ad : Nat → Nat} {x : XX} {F : Nat} {M : Mem} {r : Mem × Int32} (h : fX5_indexed F M = some r) : CN l yX5_indexed wsX5_indexed rmX5_indexed D cy ad [.ref (ad 0)] x M x r.1 (q_vi r.2) 0 0 := by
  refine q_startN (cc := cX5_indexed) (maxL := 1) (ret := (some .int)) (by decide) rfl (Nat.le_of_ble_eq_true rfl) ?_
  intro p e s m args below meth c ls C0 hw hl hnm
  obtain ⟨hx, hb, hml, hown, hts, -⟩ := id C0
  have C0 : MX p l s m args meth c D cy ad cX5_indexed RX5 1 wsX5_indexed ((some .int)) := C0
  have hown : s.vm.findClass RX5 = some m.cls := hown
  have hl : lv_has ls 1 [(0, .ref (ad 0))] := hl
  show W p l e rmX5_indexed s m args below meth c s.heap [] 0 0 (QN D cy ad below args s x q_vi r 0 0) (F0 m 0 ls [])
  unfold fX5_indexed at h
  refine lv_aload_n hx hb dX5_indexed_0 rfl (lv_at hl 0 rfl) ?_
  refine gf_HW_shingleIndex C0 hw (fun _ h9 => List.mem_cons_of_mem _ (List.mem_append_left _ (List.mem_append_right _ h9))) (List.mem_of_getElem? (i := 1) rfl) dX5_indexed_1 ?_
  refine gf_Bag_size C0 hw (Nat.le_of_ble_eq_true rfl) (fun _ h9 => List.mem_cons_of_mem _ (List.mem_append_right _ h9)) (List.mem_of_getElem? (i := 2) rfl) dX5_indexed_4 ?_
  exact q_iretN C0 hw h ⟨(Nat.le_of_ble_eq_true rfl), (Nat.le_of_ble_eq_true rfl)⟩ dX5_indexed_7
/-! Homewatcher.holders(I)I -/
abbrev rmX5_holders : Room := { frames := 2, cells := 0, slots := 0, locals := 45 }
def fX5_holders (F : Nat) (M : Mem) (a0 : Int32) : Option (Mem × Int32) :=
    q_bn (fX0_countOf F M 60 a0) fun M1 z2 =>
    some (M1, z2)
set_option maxHeartbeats 4000000 in
set_option maxRecDepth 100000 in
theorem ctX5_holders {l : Launch} (hst : l.stackTraces = false) {D : va_G} {cy : Nat → ClassId} {ad : Nat → Nat} {x : XX} {F : Nat} {M : Mem} {a0 : Int32} {r : Mem × Int32} (h : fX5_holders F M a0 = some r) : CN l yX5_holders wsX5_holders rmX5_holders D cy ad [.ref (ad 0), .int a0] x M x r.1 (q_vi r.2) 0 0 := by
  refine q_startN (cc := cX5_holders) (maxL := 2) (ret := (some .int)) (by decide) rfl (Nat.le_of_ble_eq_true rfl) ?_
  intro p e s m args below meth c ls C0 hw hl hnm
  obtain ⟨hx, hb, hml, hown, hts, -⟩ := id C0
  have C0 : MX p l s m args meth c D cy ad cX5_holders RX5 2 wsX5_holders ((some .int)) := C0
  have hown : s.vm.findClass RX5 = some m.cls := hown
  have hl : lv_has ls 2 [(0, .ref (ad 0)), (1, .int a0)] := hl
  show W p l e rmX5_holders s m args below meth c s.heap [] 0 0 (QN D cy ad below args s x q_vi r 0 0) (F0 m 0 ls [])
  unfold fX5_holders at h
  refine lv_aload_n hx hb dX5_holders_0 rfl (lv_at hl 0 rfl) ?_
  refine gf_HW_shingleIndex C0 hw (fun _ h9 => List.mem_cons_of_mem _ (List.mem_append_left _ (List.mem_append_left _ (List.mem_append_right _ h9)))) (List.mem_of_getElem? (i := 1) rfl) dX5_holders_1 ?_
  refine lv_iload_n hx hb dX5_holders_4 rfl (lv_at hl 1 rfl) ?_
  refine q_callVNi (As := [.int a0]) (nA := 1) C0 hw (at_Bag (Nat.le_of_ble_eq_true rfl)) rfl (fun r1 h1 => ctX0_countOf hst (Nat.le_of_ble_eq_true rfl) h1) gX5_holders_X0_countOf rfl ⟨rfl, rfl⟩ (by decide +kernel) rfl ⟨(Nat.le_of_ble_eq_true rfl), (Nat.le_of_ble_eq_true rfl)⟩ hl.1 (Nat.le_of_ble_eq_true rfl) ⟨(Nat.le_of_ble_eq_true rfl), (Nat.le_of_ble_eq_true rfl)⟩ rfl h dX5_holders_5 (fun M1 z2 H locs hw h => ?_)
  exact q_iretN C0 hw h ⟨(Nat.le_of_ble_eq_true rfl), (Nat.le_of_ble_eq_true rfl)⟩ dX5_holders_8
/-! Homewatcher.threshold(I)I -/
abbrev rmX5_threshold : Room := { frames := 7, cells := 1, slots := 6, locals := 112 }
def fX5_threshold (F : Nat) (M : Mem) (a0 : Int32) : Option (Mem × (Int32 ⊕ Nat)) :=
    q_bx (fX5_needRange F M a0 (1 : Int32) (37 : Int32)) fun M1 _ =>
    q_lt (M1 7 0 0) fun z3 =>
    q_lt (up M1 7 0 0 a0) fun M4 =>
    some (M4, Sum.inl z3)
set_option maxHeartbeats 4000000 in
set_option maxRecDepth 100000 in
theorem ctX5_threshold {l : Launch} (hst : l.stackTraces = false) {D : va_G} {cy : Nat → ClassId} {ad : Nat → Nat} {x : XX} {F : Nat} {M : Mem} {a0 : Int32} {r : Mem × (Int32 ⊕ Nat)} (h : fX5_threshold F M a0 = some r) : CT l yX5_threshold wsX5_threshold rmX5_threshold D cy ad [.ref (ad 0), .int a0] x M r.1 (q_ou q_vi r.2) 1 6 := by
  refine q_startT (cc := cX5_threshold) (maxL := 3) (ret := (some .int)) (by decide) rfl (Nat.le_of_ble_eq_true rfl) ?_
  intro p e s m args below meth c ls C0 hw hl ht
  obtain ⟨hx, hb, hml, hown, hts, -⟩ := id C0
  have C0 : MX p l s m args meth c D cy ad cX5_threshold RX5 3 wsX5_threshold ((some .int)) := C0
  have hown : s.vm.findClass RX5 = some m.cls := hown
  have hl : lv_has ls 3 [(0, .ref (ad 0)), (1, .int a0)] := hl
  show W p l e rmX5_threshold s m args below meth c s.heap [] 0 0 (QT D cy ad below args s x q_vi r 1 6) (F0 m 0 ls [])
  unfold fX5_threshold at h
  refine lv_iload_n hx hb dX5_threshold_0 rfl (lv_at hl 1 rfl) ?_
  refine lv_iconst (v := 1) hx hb dX5_threshold_1 (by decide) ?_
  refine lv_bipush (v := 37) hx hb dX5_threshold_2 (by decide) ?_
  refine q_callSTv (As := [.int a0, .int ((1 : Int32)), .int ((37 : Int32))]) (nA := 3) C0 ht hw (fun r1 h1 => ctX5_needRange hst h1) gX5_threshold_X5_needRange rfl ⟨rfl, rfl⟩ (by decide +kernel) rfl ⟨(Nat.le_of_ble_eq_true rfl), (Nat.le_of_ble_eq_true rfl)⟩ hl.1 (Nat.le_of_ble_eq_true rfl) ⟨(Nat.le_of_ble_eq_true rfl), (Nat.le_of_ble_eq_true rfl)⟩ ⟨(Nat.le_of_ble_eq_true rfl), (Nat.le_of_ble_eq_true rfl)⟩ rfl h dX5_threshold_4 (fun M1 H locs hw h => ?_)
  refine lv_aload_n hx hb dX5_threshold_7 rfl (lv_at hl 0 rfl) ?_
  refine gf_HW_hitThreshold C0 hw (fun _ h9 => List.mem_cons_of_mem _ (List.mem_append_left _ (List.mem_append_right _ h9))) (List.mem_of_getElem? (i := 1) rfl) dX5_threshold_8 ?_
  refine q_istore_n (lv' := fun z3 => [(2, .int z3), (0, .ref (ad 0)), (1, .int a0)]) hx hb dX5_threshold_11 rfl hl (by decide) (fun _ => rfl) h (fun z3 ls hl h => ?_)
  refine lv_aload_n hx hb dX5_threshold_12 rfl (lv_at hl 1 rfl) ?_
  refine lv_iload_n hx hb dX5_threshold_13 rfl (lv_at hl 2 rfl) ?_
  refine pf_HW_hitThreshold C0 hw (fun _ h9 => List.mem_cons_of_mem _ (List.mem_append_left _ (List.mem_append_right _ h9))) (List.mem_of_getElem? (i := 1) rfl) dX5_threshold_14 h (fun M4 H locs hw h => ?_)
  refine lv_iload_n hx hb dX5_threshold_17 rfl (lv_at hl 0 rfl) ?_
  exact q_iretT C0 hw h ⟨(Nat.le_of_ble_eq_true rfl), (Nat.le_of_ble_eq_true rfl)⟩ dX5_threshold_18
/-! Homewatcher.hits()I -/
abbrev rmX5_hits : Room := { frames := 0, cells := 0, slots := 0, locals := 0 }
def fX5_hits (F : Nat) (M : Mem) : Option (Mem × Int32) :=
    some (M, M 6 0 0)
set_option maxHeartbeats 4000000 in
set_option maxRecDepth 100000 in
theorem ctX5_hits {l : Launch} (hst : l.stackTraces = false) {D : va_G} {cy : Nat → ClassId} {ad : Nat → Nat} {x : XX} {F : Nat} {M : Mem} {r : Mem × Int32} (h : fX5_hits F M = some r) : CN l yX5_hits wsX5_hits rmX5_hits D cy ad [.ref (ad 0)] x M x r.1 (q_vi r.2) 0 0 := by
  refine q_startN (cc := cX5_hits) (maxL := 1) (ret := (some .int)) (by decide) rfl (Nat.le_of_ble_eq_true rfl) ?_
  intro p e s m args below meth c ls C0 hw hl hnm
  obtain ⟨hx, hb, hml, hown, hts, -⟩ := id C0
  have C0 : MX p l s m args meth c D cy ad cX5_hits RX5 1 wsX5_hits ((some .int)) := C0
  have hown : s.vm.findClass RX5 = some m.cls := hown
  have hl : lv_has ls 1 [(0, .ref (ad 0))] := hl
  show W p l e rmX5_hits s m args below meth c s.heap [] 0 0 (QN D cy ad below args s x q_vi r 0 0) (F0 m 0 ls [])
  unfold fX5_hits at h
  refine lv_aload_n hx hb dX5_hits_0 rfl (lv_at hl 0 rfl) ?_
  refine gf_HW_hitCount C0 hw (fun _ h9 => List.mem_cons_of_mem _ (List.mem_append_right _ h9)) (List.mem_of_getElem? (i := 1) rfl) dX5_hits_1 ?_
  exact q_iretN C0 hw h ⟨(Nat.le_of_ble_eq_true rfl), (Nat.le_of_ble_eq_true rfl)⟩ dX5_hits_4
/-! Homewatcher.needHit(I)V -/
abbrev rmX5_needHit : Room := { frames := 6, cells := 1, slots := 6, locals := 90 }
def fX5_needHit_12 (F : Nat) (M : Mem) : Option (Mem × (Unit ⊕ Nat)) :=
    some (M, Sum.inr 3)
set_option maxHeartbeats 4000000 in
set_option maxRecDepth 100000 in
theorem wX5_needHit_12 {p : Program} {l : Launch} {e : Env} {s : State} {m : MethodId} {args : Array Value} {below : List Frame} {meth : Method} {c : Code} {D : va_G} {cy : Nat → ClassId} {ad : Nat → Nat} {x : XX} {F : Nat} {r : Mem × (Unit ⊕ Nat)} (hst : l.stackTraces = false) (C0 : MX p l s m args meth c D cy ad cX5_needHit RX5 2 wsX5_needHit (none)) (ht : ∀ z ∈ c.exceptionTable.toList, False) : ∀ (M : Mem) (H : Heap) (locs : List Loc) (ls : Array Slot), Wd D cy ad x s M H locs → lv_has ls 2 [] → fX5_needHit_12 F M = some r → W p l e rmX5_needHit s m args below meth c H locs 0 0 (QT D cy ad below args s x q_vv r 1 6) (F0 m 12 ls []) := by
  obtain ⟨hx, hb, hml, hown, hts, -⟩ := id C0
  intro M H locs ls hw hl h
  unfold fX5_needHit_12 at h
  exact q_thrSW C0 ht hst hw (ik := 130) (is := 364) (ic := 134) xp_134 (List.mem_of_getElem? (i := 1) rfl) (List.mem_of_getElem? (i := 2) rfl) (List.mem_of_getElem? (i := 25) rfl) (fun _ h9 => List.mem_cons_of_mem _ (List.mem_append_right _ h9)) hl.1 dX5_needHit_12 dX5_needHit_15 dX5_needHit_16 dX5_needHit_19 dX5_needHit_22 ⟨(Nat.le_of_ble_eq_true rfl), (Nat.le_of_ble_eq_true rfl), (Nat.le_of_ble_eq_true rfl), (Nat.le_of_ble_eq_true rfl)⟩ ⟨(Nat.le_of_ble_eq_true rfl), (Nat.le_of_ble_eq_true rfl)⟩ h
def fX5_needHit (F : Nat) (M : Mem) (a0 : Int32) : Option (Mem × (Unit ⊕ Nat)) :=
    if a0 < (0 : Int32) then
    (fX5_needHit_12 F M)
    else
    (if a0 < (M 6 0 0) then
    (some (M, Sum.inl ()))
    else
    (fX5_needHit_12 F M))
set_option maxHeartbeats 4000000 in
set_option maxRecDepth 100000 in
theorem ctX5_needHit {l : Launch} (hst : l.stackTraces = false) {D : va_G} {cy : Nat → ClassId} {ad : Nat → Nat} {x : XX} {F : Nat} {M : Mem} {a0 : Int32} {r : Mem × (Unit ⊕ Nat)} (h : fX5_needHit F M a0 = some r) : CT l yX5_needHit wsX5_needHit rmX5_needHit D cy ad [.ref (ad 0), .int a0] x M r.1 (q_ou q_vv r.2) 1 6 := by
  refine q_startT (cc := cX5_needHit) (maxL := 2) (ret := none) (by decide) rfl (Nat.le_of_ble_eq_true rfl) ?_
  intro p e s m args below meth c ls C0 hw hl ht
  obtain ⟨hx, hb, hml, hown, hts, -⟩ := id C0
  have C0 : MX p l s m args meth c D cy ad cX5_needHit RX5 2 wsX5_needHit (none) := C0
  have hown : s.vm.findClass RX5 = some m.cls := hown
  have hl : lv_has ls 2 [(0, .ref (ad 0)), (1, .int a0)] := hl
  show W p l e rmX5_needHit s m args below meth c s.heap [] 0 0 (QT D cy ad below args s x q_vv r 1 6) (F0 m 0 ls [])
  unfold fX5_needHit at h
  refine lv_iload_n hx hb dX5_needHit_0 rfl (lv_at hl 1 rfl) ?_
  refine q_if_lt (tgt := 12) hx hb dX5_needHit_1 (by decide) h (fun h => ?_) (fun h => ?_)
  · exact wX5_needHit_12 hst C0 ht  M _ _ _ hw (lv_sub hl [] rfl) h
  · refine lv_iload_n hx hb dX5_needHit_4 rfl (lv_at hl 1 rfl) ?_
    refine lv_aload_n hx hb dX5_needHit_5 rfl (lv_at hl 0 rfl) ?_
    refine gf_HW_hitCount C0 hw (fun _ h9 => List.mem_cons_of_mem _ (List.mem_append_left _ (List.mem_append_right _ h9))) (List.mem_of_getElem? (i := 3) rfl) dX5_needHit_6 ?_
    refine q_icmp_lt (tgt := 23) hx hb dX5_needHit_9 (by decide) h (fun h => ?_) (fun h => ?_)
    · exact q_vretT C0 hw h ⟨(Nat.le_of_ble_eq_true rfl), (Nat.le_of_ble_eq_true rfl)⟩ dX5_needHit_23
    · exact wX5_needHit_12 hst C0 ht  M _ _ _ hw (lv_sub hl [] rfl) h
/-! Homewatcher.hit(IC)I -/
abbrev rmX5_hit : Room := { frames := 7, cells := 2, slots := 12, locals := 111 }
def fX5_hit (F : Nat) (M : Mem) (a0 : Int32) (a1 : Int32) : Option (Mem × (Int32 ⊕ Nat)) :=
    q_bx (fX5_needHit F M a0) fun M1 _ =>
    q_ax a0 40 fun j3 =>
    if a1 = (99 : Int32) then
    (some (M1, Sum.inl (M1 57 j3 0)))
    else
    if a1 = (104 : Int32) then
    (some (M1, Sum.inl (M1 58 j3 0)))
    else
    if a1 = (110 : Int32) then
    (some (M1, Sum.inl (M1 55 j3 0)))
    else
    if a1 = (111 : Int32) then
    (some (M1, Sum.inl (M1 56 j3 0)))
    else
    (some (M1, Sum.inr 1))
set_option maxHeartbeats 4000000 in
set_option maxRecDepth 100000 in
theorem ctX5_hit {l : Launch} (hst : l.stackTraces = false) {D : va_G} {cy : Nat → ClassId} {ad : Nat → Nat} {x : XX} {F : Nat} {M : Mem} {a0 : Int32} {a1 : Int32} {r : Mem × (Int32 ⊕ Nat)} (h : fX5_hit F M a0 a1 = some r) : CT l yX5_hit wsX5_hit rmX5_hit D cy ad [.ref (ad 0), .int a0, .int a1] x M r.1 (q_ou q_vi r.2) 2 12 := by
  refine q_startT (cc := cX5_hit) (maxL := 4) (ret := (some .int)) (by decide) rfl (Nat.le_of_ble_eq_true rfl) ?_
  intro p e s m args below meth c ls C0 hw hl ht
  obtain ⟨hx, hb, hml, hown, hts, -⟩ := id C0
  have C0 : MX p l s m args meth c D cy ad cX5_hit RX5 4 wsX5_hit ((some .int)) := C0
  have hown : s.vm.findClass RX5 = some m.cls := hown
  have hl : lv_has ls 4 [(0, .ref (ad 0)), (1, .int a0), (2, .int a1)] := hl
  show W p l e rmX5_hit s m args below meth c s.heap [] 0 0 (QT D cy ad below args s x q_vi r 2 12) (F0 m 0 ls [])
  unfold fX5_hit at h
  refine lv_aload_n hx hb dX5_hit_0 rfl (lv_at hl 0 rfl) ?_
  refine lv_iload_n hx hb dX5_hit_1 rfl (lv_at hl 1 rfl) ?_
  refine q_callVTv (As := [.int a0]) (nA := 1) C0 ht hw at_HW rfl (fun r1 h1 => ctX5_needHit hst h1) gX5_hit_X5_needHit rfl ⟨rfl, rfl⟩ (by decide +kernel) rfl ⟨(Nat.le_of_ble_eq_true rfl), (Nat.le_of_ble_eq_true rfl)⟩ hl.1 (Nat.le_of_ble_eq_true rfl) ⟨(Nat.le_of_ble_eq_true rfl), (Nat.le_of_ble_eq_true rfl)⟩ ⟨(Nat.le_of_ble_eq_true rfl), (Nat.le_of_ble_eq_true rfl)⟩ rfl h dX5_hit_2 (fun M1 H locs hw h => ?_)
  refine lv_aload_n hx hb dX5_hit_5 rfl (lv_at hl 0 rfl) ?_
  refine gf_HW_hitRow C0 hw (fun _ h9 => List.mem_cons_of_mem _ (List.mem_append_left _ (List.mem_append_left _ (List.mem_append_left _ (List.mem_append_right _ h9))))) (List.mem_of_getElem? (i := 3) rfl) dX5_hit_6 ?_
  refine lv_iload_n hx hb dX5_hit_9 rfl (lv_at hl 1 rfl) ?_
  refine q_aald (t := 7) C0 hw at_hits rfl h dX5_hit_10 (fun j3 hj3 h => ?_)
  refine lv_astore_n (lv' := [(3, .ref (ad (cHit j3))), (0, .ref (ad 0)), (1, .int a0), (2, .int a1)]) hx hb dX5_hit_11 rfl hl (by decide) rfl (fun ls hl => ?_)
  refine lv_iload_n hx hb dX5_hit_12 rfl (lv_at hl 3 rfl) ?_
  refine q_if (P := a1 = (99 : Int32)) h (fun e0 h => ?_) (fun n0 h => ?_)
  · refine lv_lookup (off := 53) (tgt := 66) hx hb dX5_hit_13 (by decide) (by rw [e0]; decide) (by decide) ?_
    refine lv_aload_n hx hb dX5_hit_66 rfl (lv_at hl 0 rfl) ?_
    refine gf_Hit_common C0 hw hj3 (fun _ h9 => List.mem_cons_of_mem _ (List.mem_append_left _ (List.mem_append_left _ (List.mem_append_right _ h9)))) (List.mem_of_getElem? (i := 6) rfl) dX5_hit_67 ?_
    exact q_iretT C0 hw h ⟨(Nat.le_of_ble_eq_true rfl), (Nat.le_of_ble_eq_true rfl)⟩ dX5_hit_70
  · skip
    refine q_if (P := a1 = (104 : Int32)) h (fun e1 h => ?_) (fun n1 h => ?_)
    · refine lv_lookup (off := 58) (tgt := 71) hx hb dX5_hit_13 (by decide) (by rw [e1]; decide) (by decide) ?_
      refine lv_aload_n hx hb dX5_hit_71 rfl (lv_at hl 0 rfl) ?_
      refine gf_Hit_losers C0 hw hj3 (fun _ h9 => List.mem_cons_of_mem _ (List.mem_append_left _ (List.mem_append_left _ (List.mem_append_right _ h9)))) (List.mem_of_getElem? (i := 7) rfl) dX5_hit_72 ?_
      exact q_iretT C0 hw h ⟨(Nat.le_of_ble_eq_true rfl), (Nat.le_of_ble_eq_true rfl)⟩ dX5_hit_75
    · skip
      refine q_if (P := a1 = (110 : Int32)) h (fun e2 h => ?_) (fun n2 h => ?_)
      · refine lv_lookup (off := 43) (tgt := 56) hx hb dX5_hit_13 (by decide) (by rw [e2]; decide) (by decide) ?_
        refine lv_aload_n hx hb dX5_hit_56 rfl (lv_at hl 0 rfl) ?_
        refine gf_Hit_newer C0 hw hj3 (fun _ h9 => List.mem_cons_of_mem _ (List.mem_append_left _ (List.mem_append_left _ (List.mem_append_right _ h9)))) (List.mem_of_getElem? (i := 4) rfl) dX5_hit_57 ?_
        exact q_iretT C0 hw h ⟨(Nat.le_of_ble_eq_true rfl), (Nat.le_of_ble_eq_true rfl)⟩ dX5_hit_60
      · skip
        refine q_if (P := a1 = (111 : Int32)) h (fun e3 h => ?_) (fun n3 h => ?_)
        · refine lv_lookup (off := 48) (tgt := 61) hx hb dX5_hit_13 (by decide) (by rw [e3]; decide) (by decide) ?_
          refine lv_aload_n hx hb dX5_hit_61 rfl (lv_at hl 0 rfl) ?_
          refine gf_Hit_other C0 hw hj3 (fun _ h9 => List.mem_cons_of_mem _ (List.mem_append_left _ (List.mem_append_left _ (List.mem_append_right _ h9)))) (List.mem_of_getElem? (i := 5) rfl) dX5_hit_62 ?_
          exact q_iretT C0 hw h ⟨(Nat.le_of_ble_eq_true rfl), (Nat.le_of_ble_eq_true rfl)⟩ dX5_hit_65
        · skip
          refine lv_lookup (off := 63) (tgt := 76) hx hb dX5_hit_13 (by decide) ((lv_osw n0 (by decide)).trans ((lv_osw n1 (by decide)).trans ((lv_osw n2 (by decide)).trans ((lv_osw n3 (by decide)).trans rfl)))) (by decide) ?_
          exact q_thrS C0 ht hst hw (ik := 210) (is := 212) (ic := 214) xp_214 (List.mem_of_getElem? (i := 1) rfl) (List.mem_of_getElem? (i := 2) rfl) (List.mem_of_getElem? (i := 17) rfl) (fun _ h9 => List.mem_cons_of_mem _ (List.mem_append_left _ (List.mem_append_right _ h9))) hl.1 dX5_hit_76 dX5_hit_79 dX5_hit_80 dX5_hit_82 dX5_hit_85 ⟨(Nat.le_of_ble_eq_true rfl), (Nat.le_of_ble_eq_true rfl), (Nat.le_of_ble_eq_true rfl), (Nat.le_of_ble_eq_true rfl)⟩ ⟨(Nat.le_of_ble_eq_true rfl), (Nat.le_of_ble_eq_true rfl)⟩ h
/-! Homewatcher.countOpenHits()I -/
abbrev rmX5_countOpenHits : Room := { frames := 1, cells := 0, slots := 0, locals := 20 }
def fX5_countOpenHits_27 (F : Nat) (k4 : Mem → Int32 → Int32 → Option (Mem × Int32)) (M : Mem) (v1 : Int32) (v2 : Int32) : Option (Mem × Int32) :=
    q_lt (v2 + (1 : Int32)) fun z1 =>
    k4 M v1 z1
set_option maxHeartbeats 4000000 in
set_option maxRecDepth 100000 in
theorem wX5_countOpenHits_27 {p : Program} {l : Launch} {e : Env} {s : State} {m : MethodId} {args : Array Value} {below : List Frame} {meth : Method} {c : Code} {D : va_G} {cy : Nat → ClassId} {ad : Nat → Nat} {x : XX} {F : Nat} {r : Mem × Int32} (hst : l.stackTraces = false) (C0 : MX p l s m args meth c D cy ad cX5_countOpenHits RX5 3 wsX5_countOpenHits (some .int)) {k4 : Mem → Int32 → Int32 → Option (Mem × Int32)} (hk4 : ∀ (M : Mem) (v1 : Int32) (v2 : Int32) (H : Heap) (locs : List Loc) (ls : Array Slot), Wd D cy ad x s M H locs → lv_has ls 3 [(0, .ref (ad 0)), (1, .int v1), (2, .int v2)] → k4 M v1 v2 = some r → W p l e rmX5_countOpenHits s m args below meth c H locs 0 0 (QN D cy ad below args s x q_vi r 0 0) (F0 m 4 ls [])) : ∀ (M : Mem) (v1 : Int32) (v2 : Int32) (H : Heap) (locs : List Loc) (ls : Array Slot), Wd D cy ad x s M H locs → lv_has ls 3 [(0, .ref (ad 0)), (1, .int v1), (2, .int v2)] → fX5_countOpenHits_27 F k4 M v1 v2 = some r → W p l e rmX5_countOpenHits s m args below meth c H locs 0 0 (QN D cy ad below args s x q_vi r 0 0) (F0 m 27 ls []) := by
  obtain ⟨hx, hb, hml, hown, hts, -⟩ := id C0
  intro M v1 v2 H locs ls hw hl h
  unfold fX5_countOpenHits_27 at h
  refine q_iinc (k := 2) (cst := 1) (lv' := fun z1 => [(2, .int z1), (0, .ref (ad 0)), (1, .int v1)]) hx hb dX5_countOpenHits_27 hl rfl rfl (by decide) (fun _ => rfl) h (fun z1 ls hl h => ?_)
  refine lv_goto (tgt := 4) hx hb dX5_countOpenHits_30 (by decide) ?_
  exact hk4 M v1 z1 _ _ _ hw (lv_sub hl [1, 2, 0] rfl) h
def fX5_countOpenHits_4 (F : Nat) : Nat → Mem → Int32 → Int32 → Option (Mem × Int32)
  | 0, _, _, _ => none
  | n + 1, M, v1, v2 =>
    if (M 6 0 0) ≤ v2 then
    (some (M, v1))
    else
    (q_ax v2 40 fun j1 =>
    q_bn (fX1_isOpen F M j1) fun M2 z3 =>
    if z3 = (0 : Int32) then
    (fX5_countOpenHits_27 F (fX5_countOpenHits_4 F n) M2 v1 v2)
    else
    (q_lt (v1 + (1 : Int32)) fun z4 =>
    fX5_countOpenHits_27 F (fX5_countOpenHits_4 F n) M2 z4 v2))
set_option maxHeartbeats 4000000 in
set_option maxRecDepth 100000 in
theorem wX5_countOpenHits_4 {p : Program} {l : Launch} {e : Env} {s : State} {m : MethodId} {args : Array Value} {below : List Frame} {meth : Method} {c : Code} {D : va_G} {cy : Nat → ClassId} {ad : Nat → Nat} {x : XX} {F : Nat} {r : Mem × Int32} (hst : l.stackTraces = false) (C0 : MX p l s m args meth c D cy ad cX5_countOpenHits RX5 3 wsX5_countOpenHits (some .int)) : ∀ (n : Nat) (M : Mem) (v1 : Int32) (v2 : Int32) (H : Heap) (locs : List Loc) (ls : Array Slot), Wd D cy ad x s M H locs → lv_has ls 3 [(0, .ref (ad 0)), (1, .int v1), (2, .int v2)] → fX5_countOpenHits_4 F n M v1 v2 = some r → W p l e rmX5_countOpenHits s m args below meth c H locs 0 0 (QN D cy ad below args s x q_vi r 0 0) (F0 m 4 ls []) := by
  obtain ⟨hx, hb, hml, hown, hts, -⟩ := id C0
  intro n
  induction n with
  | zero =>
    intro M v1 v2 H locs ls hw hl h
    exact q_no h
  | succ n ih =>
    intro M v1 v2 H locs ls hw hl h
    unfold fX5_countOpenHits_4 at h
    refine lv_iload_n hx hb dX5_countOpenHits_4 rfl (lv_at hl 2 rfl) ?_
    refine lv_aload_n hx hb dX5_countOpenHits_5 rfl (lv_at hl 0 rfl) ?_
    refine gf_HW_hitCount C0 hw (fun _ h9 => List.mem_cons_of_mem _ (List.mem_append_left _ (List.mem_append_right _ h9))) (List.mem_of_getElem? (i := 1) rfl) dX5_countOpenHits_6 ?_
    refine q_icmp_ge (tgt := 33) hx hb dX5_countOpenHits_9 (by decide) h (fun h => ?_) (fun h => ?_)
    · refine lv_iload_n hx hb dX5_countOpenHits_33 rfl (lv_at hl 1 rfl) ?_
      exact q_iretN C0 hw h ⟨(Nat.le_of_ble_eq_true rfl), (Nat.le_of_ble_eq_true rfl)⟩ dX5_countOpenHits_34
    · refine lv_aload_n hx hb dX5_countOpenHits_12 rfl (lv_at hl 0 rfl) ?_
      refine gf_HW_hitRow C0 hw (fun _ h9 => List.mem_cons_of_mem _ (List.mem_append_left _ (List.mem_append_right _ h9))) (List.mem_of_getElem? (i := 2) rfl) dX5_countOpenHits_13 ?_
      refine lv_iload_n hx hb dX5_countOpenHits_16 rfl (lv_at hl 2 rfl) ?_
      refine q_aald (t := 7) C0 hw at_hits rfl h dX5_countOpenHits_17 (fun j1 hj1 h => ?_)
      refine q_callVNi (As := []) (nA := 0) C0 hw (at_Hit hj1) rfl (fun r1 h1 => ctX1_isOpen hst hj1 h1) gX5_countOpenHits_X1_isOpen rfl ⟨rfl, rfl⟩ (by decide +kernel) rfl ⟨(Nat.le_of_ble_eq_true rfl), (Nat.le_of_ble_eq_true rfl)⟩ hl.1 (Nat.le_of_ble_eq_true rfl) ⟨(Nat.le_of_ble_eq_true rfl), (Nat.le_of_ble_eq_true rfl)⟩ rfl h dX5_countOpenHits_18 (fun M2 z3 H locs hw h => ?_)
      refine q_if_eq (tgt := 27) hx hb dX5_countOpenHits_21 (by decide) h (fun h => ?_) (fun h => ?_)
      · exact wX5_countOpenHits_27 hst C0 ih M2 v1 v2 _ _ _ hw (lv_sub hl [0, 1, 2] rfl) h
      · refine q_iinc (k := 1) (cst := 1) (lv' := fun z4 => [(1, .int z4), (0, .ref (ad 0)), (2, .int v2)]) hx hb dX5_countOpenHits_24 hl rfl rfl (by decide) (fun _ => rfl) h (fun z4 ls hl h => ?_)
        exact wX5_countOpenHits_27 hst C0 ih M2 z4 v2 _ _ _ hw (lv_sub hl [1, 0, 2] rfl) h
def fX5_countOpenHits (F : Nat) (M : Mem) : Option (Mem × Int32) :=
    q_lt ((0 : Int32)) fun z1 =>
    q_lt ((0 : Int32)) fun z2 =>
    fX5_countOpenHits_4 F F M z1 z2
set_option maxHeartbeats 4000000 in
set_option maxRecDepth 100000 in
theorem ctX5_countOpenHits {l : Launch} (hst : l.stackTraces = false) {D : va_G} {cy : Nat → ClassId} {ad : Nat → Nat} {x : XX} {F : Nat} {M : Mem} {r : Mem × Int32} (h : fX5_countOpenHits F M = some r) : CN l yX5_countOpenHits wsX5_countOpenHits rmX5_countOpenHits D cy ad [.ref (ad 0)] x M x r.1 (q_vi r.2) 0 0 := by
  refine q_startN (cc := cX5_countOpenHits) (maxL := 3) (ret := (some .int)) (by decide) rfl (Nat.le_of_ble_eq_true rfl) ?_
  intro p e s m args below meth c ls C0 hw hl hnm
  obtain ⟨hx, hb, hml, hown, hts, -⟩ := id C0
  have C0 : MX p l s m args meth c D cy ad cX5_countOpenHits RX5 3 wsX5_countOpenHits ((some .int)) := C0
  have hown : s.vm.findClass RX5 = some m.cls := hown
  have hl : lv_has ls 3 [(0, .ref (ad 0))] := hl
  show W p l e rmX5_countOpenHits s m args below meth c s.heap [] 0 0 (QN D cy ad below args s x q_vi r 0 0) (F0 m 0 ls [])
  unfold fX5_countOpenHits at h
  refine lv_iconst (v := 0) hx hb dX5_countOpenHits_0 (by decide) ?_
  refine q_istore_n (lv' := fun z1 => [(1, .int z1), (0, .ref (ad 0))]) hx hb dX5_countOpenHits_1 rfl hl (by decide) (fun _ => rfl) h (fun z1 ls hl h => ?_)
  refine lv_iconst (v := 0) hx hb dX5_countOpenHits_2 (by decide) ?_
  refine q_istore_n (lv' := fun z2 => [(2, .int z2), (1, .int z1), (0, .ref (ad 0))]) hx hb dX5_countOpenHits_3 rfl hl (by decide) (fun _ => rfl) h (fun z2 ls hl h => ?_)
  exact wX5_countOpenHits_4 hst C0  F M z1 z2 _ _ _ hw (lv_sub hl [2, 1, 0] rfl) h
/-! Homewatcher.hear(II)I -/
abbrev rmX5_hear : Room := { frames := 7, cells := 3, slots := 18, locals := 112 }
def fX5_hear (F : Nat) (M : Mem) (a0 : Int32) (a1 : Int32) : Option (Mem × (Int32 ⊕ Nat)) :=
    q_bx (fX5_needHit F M a0) fun M1 _ =>
    q_bx (fX5_needRange F M1 a1 (0 : Int32) (3 : Int32)) fun M3 _ =>
    q_ax a0 40 fun j5 =>
    q_bn (fX1_isOpen F M3 j5) fun M6 z7 =>
    if z7 = (0 : Int32) then
    (some (M6, Sum.inr 5))
    else
    (q_ax a0 40 fun j8 =>
    q_lt (up M6 58 j8 0 a1) fun M9 =>
    q_bn (fX5_countOpenHits F M9) fun M10 z11 =>
    some (M10, Sum.inl z11))
set_option maxHeartbeats 4000000 in
set_option maxRecDepth 100000 in
theorem ctX5_hear {l : Launch} (hst : l.stackTraces = false) {D : va_G} {cy : Nat → ClassId} {ad : Nat → Nat} {x : XX} {F : Nat} {M : Mem} {a0 : Int32} {a1 : Int32} {r : Mem × (Int32 ⊕ Nat)} (h : fX5_hear F M a0 a1 = some r) : CT l yX5_hear wsX5_hear rmX5_hear D cy ad [.ref (ad 0), .int a0, .int a1] x M r.1 (q_ou q_vi r.2) 3 18 := by
  refine q_startT (cc := cX5_hear) (maxL := 3) (ret := (some .int)) (by decide) rfl (Nat.le_of_ble_eq_true rfl) ?_
  intro p e s m args below meth c ls C0 hw hl ht
  obtain ⟨hx, hb, hml, hown, hts, -⟩ := id C0
  have C0 : MX p l s m args meth c D cy ad cX5_hear RX5 3 wsX5_hear ((some .int)) := C0
  have hown : s.vm.findClass RX5 = some m.cls := hown
  have hl : lv_has ls 3 [(0, .ref (ad 0)), (1, .int a0), (2, .int a1)] := hl
  show W p l e rmX5_hear s m args below meth c s.heap [] 0 0 (QT D cy ad below args s x q_vi r 3 18) (F0 m 0 ls [])
  unfold fX5_hear at h
  refine lv_aload_n hx hb dX5_hear_0 rfl (lv_at hl 0 rfl) ?_
  refine lv_iload_n hx hb dX5_hear_1 rfl (lv_at hl 1 rfl) ?_
  refine q_callVTv (As := [.int a0]) (nA := 1) C0 ht hw at_HW rfl (fun r1 h1 => ctX5_needHit hst h1) gX5_hear_X5_needHit rfl ⟨rfl, rfl⟩ (by decide +kernel) rfl ⟨(Nat.le_of_ble_eq_true rfl), (Nat.le_of_ble_eq_true rfl)⟩ hl.1 (Nat.le_of_ble_eq_true rfl) ⟨(Nat.le_of_ble_eq_true rfl), (Nat.le_of_ble_eq_true rfl)⟩ ⟨(Nat.le_of_ble_eq_true rfl), (Nat.le_of_ble_eq_true rfl)⟩ rfl h dX5_hear_2 (fun M1 H locs hw h => ?_)
  refine lv_iload_n hx hb dX5_hear_5 rfl (lv_at hl 2 rfl) ?_
  refine lv_iconst (v := 0) hx hb dX5_hear_6 (by decide) ?_
  refine lv_iconst (v := 3) hx hb dX5_hear_7 (by decide) ?_
  refine q_callSTv (As := [.int a1, .int ((0 : Int32)), .int ((3 : Int32))]) (nA := 3) C0 ht hw (fun r1 h1 => ctX5_needRange hst h1) gX5_hear_X5_needRange rfl ⟨rfl, rfl⟩ (by decide +kernel) rfl ⟨(Nat.le_of_ble_eq_true rfl), (Nat.le_of_ble_eq_true rfl)⟩ hl.1 (Nat.le_of_ble_eq_true rfl) ⟨(Nat.le_of_ble_eq_true rfl), (Nat.le_of_ble_eq_true rfl)⟩ ⟨(Nat.le_of_ble_eq_true rfl), (Nat.le_of_ble_eq_true rfl)⟩ rfl h dX5_hear_8 (fun M3 H locs hw h => ?_)
  refine lv_aload_n hx hb dX5_hear_11 rfl (lv_at hl 0 rfl) ?_
  refine gf_HW_hitRow C0 hw (fun _ h9 => List.mem_cons_of_mem _ (List.mem_append_left _ (List.mem_append_left _ (List.mem_append_left _ (List.mem_append_left _ (List.mem_append_right _ h9)))))) (List.mem_of_getElem? (i := 3) rfl) dX5_hear_12 ?_
  refine lv_iload_n hx hb dX5_hear_15 rfl (lv_at hl 1 rfl) ?_
  refine q_aald (t := 7) C0 hw at_hits rfl h dX5_hear_16 (fun j5 hj5 h => ?_)
  refine q_callVNi (As := []) (nA := 0) C0 hw (at_Hit hj5) rfl (fun r1 h1 => ctX1_isOpen hst hj5 h1) gX5_hear_X1_isOpen rfl ⟨rfl, rfl⟩ (by decide +kernel) rfl ⟨(Nat.le_of_ble_eq_true rfl), (Nat.le_of_ble_eq_true rfl)⟩ hl.1 (Nat.le_of_ble_eq_true rfl) ⟨(Nat.le_of_ble_eq_true rfl), (Nat.le_of_ble_eq_true rfl)⟩ rfl h dX5_hear_17 (fun M6 z7 H locs hw h => ?_)
  refine q_if_ne (tgt := 34) hx hb dX5_hear_20 (by decide) h (fun h => ?_) (fun h => ?_)
  · refine lv_aload_n hx hb dX5_hear_34 rfl (lv_at hl 0 rfl) ?_
    refine gf_HW_hitRow C0 hw (fun _ h9 => List.mem_cons_of_mem _ (List.mem_append_left _ (List.mem_append_left _ (List.mem_append_left _ (List.mem_append_left _ (List.mem_append_right _ h9)))))) (List.mem_of_getElem? (i := 3) rfl) dX5_hear_35 ?_
    refine lv_iload_n hx hb dX5_hear_38 rfl (lv_at hl 1 rfl) ?_
    refine q_aald (t := 7) C0 hw at_hits rfl h dX5_hear_39 (fun j8 hj8 h => ?_)
    refine lv_iload_n hx hb dX5_hear_40 rfl (lv_at hl 2 rfl) ?_
    refine pf_Hit_losers C0 hw hj8 (fun _ h9 => List.mem_cons_of_mem _ (List.mem_append_left _ (List.mem_append_left _ (List.mem_append_left _ (List.mem_append_right _ h9))))) (List.mem_of_getElem? (i := 4) rfl) dX5_hear_41 h (fun M9 H locs hw h => ?_)
    refine lv_aload_n hx hb dX5_hear_44 rfl (lv_at hl 0 rfl) ?_
    refine q_callVNi (As := []) (nA := 0) C0 hw at_HW rfl (fun r1 h1 => ctX5_countOpenHits hst h1) gX5_hear_X5_countOpenHits rfl ⟨rfl, rfl⟩ (by decide +kernel) rfl ⟨(Nat.le_of_ble_eq_true rfl), (Nat.le_of_ble_eq_true rfl)⟩ hl.1 (Nat.le_of_ble_eq_true rfl) ⟨(Nat.le_of_ble_eq_true rfl), (Nat.le_of_ble_eq_true rfl)⟩ rfl h dX5_hear_45 (fun M10 z11 H locs hw h => ?_)
    exact q_iretT C0 hw h ⟨(Nat.le_of_ble_eq_true rfl), (Nat.le_of_ble_eq_true rfl)⟩ dX5_hear_48
  · exact q_thrSW C0 ht hst hw (ik := 163) (is := 315) (ic := 167) xp_167 (List.mem_of_getElem? (i := 1) rfl) (List.mem_of_getElem? (i := 2) rfl) (List.mem_of_getElem? (i := 26) rfl) (fun _ h9 => List.mem_cons_of_mem _ (List.mem_append_left _ (List.mem_append_left _ (List.mem_append_right _ h9)))) hl.1 dX5_hear_23 dX5_hear_26 dX5_hear_27 dX5_hear_30 dX5_hear_33 ⟨(Nat.le_of_ble_eq_true rfl), (Nat.le_of_ble_eq_true rfl), (Nat.le_of_ble_eq_true rfl), (Nat.le_of_ble_eq_true rfl)⟩ ⟨(Nat.le_of_ble_eq_true rfl), (Nat.le_of_ble_eq_true rfl)⟩ h
/-! Homewatcher.next()I -/
abbrev rmX5_next : Room := { frames := 6, cells := 1, slots := 6, locals := 90 }
def fX5_next_51 (F : Nat) (k6 : Mem → Int32 → Int32 → Int32 → Option (Mem × (Int32 ⊕ Nat))) (M : Mem) (v1 : Int32) (v2 : Int32) (v3 : Int32) : Option (Mem × (Int32 ⊕ Nat)) :=
    q_lt (v3 + (1 : Int32)) fun z1 =>
    k6 M v1 v2 z1
set_option maxHeartbeats 4000000 in
set_option maxRecDepth 100000 in
theorem wX5_next_51 {p : Program} {l : Launch} {e : Env} {s : State} {m : MethodId} {args : Array Value} {below : List Frame} {meth : Method} {c : Code} {D : va_G} {cy : Nat → ClassId} {ad : Nat → Nat} {x : XX} {F : Nat} {r : Mem × (Int32 ⊕ Nat)} (hst : l.stackTraces = false) (C0 : MX p l s m args meth c D cy ad cX5_next RX5 4 wsX5_next (some .int)) (ht : ∀ z ∈ c.exceptionTable.toList, False) {k6 : Mem → Int32 → Int32 → Int32 → Option (Mem × (Int32 ⊕ Nat))} (hk6 : ∀ (M : Mem) (v1 : Int32) (v2 : Int32) (v3 : Int32) (H : Heap) (locs : List Loc) (ls : Array Slot), Wd D cy ad x s M H locs → lv_has ls 4 [(0, .ref (ad 0)), (1, .int v1), (2, .int v2), (3, .int v3)] → k6 M v1 v2 v3 = some r → W p l e rmX5_next s m args below meth c H locs 0 0 (QT D cy ad below args s x q_vi r 1 6) (F0 m 6 ls [])) : ∀ (M : Mem) (v1 : Int32) (v2 : Int32) (v3 : Int32) (H : Heap) (locs : List Loc) (ls : Array Slot), Wd D cy ad x s M H locs → lv_has ls 4 [(0, .ref (ad 0)), (1, .int v1), (2, .int v2), (3, .int v3)] → fX5_next_51 F k6 M v1 v2 v3 = some r → W p l e rmX5_next s m args below meth c H locs 0 0 (QT D cy ad below args s x q_vi r 1 6) (F0 m 51 ls []) := by
  obtain ⟨hx, hb, hml, hown, hts, -⟩ := id C0
  intro M v1 v2 v3 H locs ls hw hl h
  unfold fX5_next_51 at h
  refine q_iinc (k := 3) (cst := 1) (lv' := fun z1 => [(3, .int z1), (0, .ref (ad 0)), (1, .int v1), (2, .int v2)]) hx hb dX5_next_51 hl rfl rfl (by decide) (fun _ => rfl) h (fun z1 ls hl h => ?_)
  refine lv_goto (tgt := 6) hx hb dX5_next_54 (by decide) ?_
  exact hk6 M v1 v2 z1 _ _ _ hw (lv_sub hl [1, 2, 3, 0] rfl) h
def fX5_next_6 (F : Nat) : Nat → Mem → Int32 → Int32 → Int32 → Option (Mem × (Int32 ⊕ Nat))
  | 0, _, _, _, _ => none
  | n + 1, M, v1, v2, v3 =>
    if (M 6 0 0) ≤ v3 then
    (if v1 = (-1 : Int32) then
    (some (M, Sum.inr 4))
    else
    (some (M, Sum.inl v1)))
    else
    (q_ax v3 40 fun j1 =>
    q_bn (fX1_isOpen F M j1) fun M2 z3 =>
    if z3 = (0 : Int32) then
    (fX5_next_51 F (fX5_next_6 F n) M2 v1 v2 v3)
    else
    (q_ax v3 40 fun j4 =>
    if (M2 57 j4 0) ≤ v2 then
    (fX5_next_51 F (fX5_next_6 F n) M2 v1 v2 v3)
    else
    (q_lt (v3) fun z5 =>
    q_ax v3 40 fun j6 =>
    q_lt (M2 57 j6 0) fun z7 =>
    fX5_next_51 F (fX5_next_6 F n) M2 z5 z7 v3)))
set_option maxHeartbeats 4000000 in
set_option maxRecDepth 100000 in
theorem wX5_next_6 {p : Program} {l : Launch} {e : Env} {s : State} {m : MethodId} {args : Array Value} {below : List Frame} {meth : Method} {c : Code} {D : va_G} {cy : Nat → ClassId} {ad : Nat → Nat} {x : XX} {F : Nat} {r : Mem × (Int32 ⊕ Nat)} (hst : l.stackTraces = false) (C0 : MX p l s m args meth c D cy ad cX5_next RX5 4 wsX5_next (some .int)) (ht : ∀ z ∈ c.exceptionTable.toList, False) : ∀ (n : Nat) (M : Mem) (v1 : Int32) (v2 : Int32) (v3 : Int32) (H : Heap) (locs : List Loc) (ls : Array Slot), Wd D cy ad x s M H locs → lv_has ls 4 [(0, .ref (ad 0)), (1, .int v1), (2, .int v2), (3, .int v3)] → fX5_next_6 F n M v1 v2 v3 = some r → W p l e rmX5_next s m args below meth c H locs 0 0 (QT D cy ad below args s x q_vi r 1 6) (F0 m 6 ls []) := by
  obtain ⟨hx, hb, hml, hown, hts, -⟩ := id C0
  intro n
  induction n with
  | zero =>
    intro M v1 v2 v3 H locs ls hw hl h
    exact q_no h
  | succ n ih =>
    intro M v1 v2 v3 H locs ls hw hl h
    unfold fX5_next_6 at h
    refine lv_iload_n hx hb dX5_next_6 rfl (lv_at hl 3 rfl) ?_
    refine lv_aload_n hx hb dX5_next_7 rfl (lv_at hl 0 rfl) ?_
    refine gf_HW_hitCount C0 hw (fun _ h9 => List.mem_cons_of_mem _ (List.mem_append_left _ (List.mem_append_left _ (List.mem_append_right _ h9)))) (List.mem_of_getElem? (i := 3) rfl) dX5_next_8 ?_
    refine q_icmp_ge (tgt := 57) hx hb dX5_next_11 (by decide) h (fun h => ?_) (fun h => ?_)
    · refine lv_iload_n hx hb dX5_next_57 rfl (lv_at hl 1 rfl) ?_
      refine lv_iconst (v := -1) hx hb dX5_next_58 (by decide) ?_
      refine q_icmp_ne (tgt := 73) hx hb dX5_next_59 (by decide) h (fun h => ?_) (fun h => ?_)
      · refine lv_iload_n hx hb dX5_next_73 rfl (lv_at hl 1 rfl) ?_
        exact q_iretT C0 hw h ⟨(Nat.le_of_ble_eq_true rfl), (Nat.le_of_ble_eq_true rfl)⟩ dX5_next_74
      · exact q_thrNW C0 ht hst hw (ik := 145) (is := 320) (ic := 149) xp_149 (List.mem_of_getElem? (i := 1) rfl) (List.mem_of_getElem? (i := 2) rfl) (List.mem_of_getElem? (i := 27) rfl) (fun _ h9 => List.mem_cons_of_mem _ (List.mem_append_right _ h9)) hl.1 dX5_next_62 dX5_next_65 dX5_next_66 dX5_next_69 dX5_next_72 ⟨(Nat.le_of_ble_eq_true rfl), (Nat.le_of_ble_eq_true rfl), (Nat.le_of_ble_eq_true rfl), (Nat.le_of_ble_eq_true rfl)⟩ ⟨(Nat.le_of_ble_eq_true rfl), (Nat.le_of_ble_eq_true rfl)⟩ h
    · refine lv_aload_n hx hb dX5_next_14 rfl (lv_at hl 0 rfl) ?_
      refine gf_HW_hitRow C0 hw (fun _ h9 => List.mem_cons_of_mem _ (List.mem_append_left _ (List.mem_append_left _ (List.mem_append_right _ h9)))) (List.mem_of_getElem? (i := 4) rfl) dX5_next_15 ?_
      refine lv_iload_n hx hb dX5_next_18 rfl (lv_at hl 3 rfl) ?_
      refine q_aald (t := 7) C0 hw at_hits rfl h dX5_next_19 (fun j1 hj1 h => ?_)
      refine q_callVNi (As := []) (nA := 0) C0 hw (at_Hit hj1) rfl (fun r1 h1 => ctX1_isOpen hst hj1 h1) gX5_next_X1_isOpen rfl ⟨rfl, rfl⟩ (by decide +kernel) rfl ⟨(Nat.le_of_ble_eq_true rfl), (Nat.le_of_ble_eq_true rfl)⟩ hl.1 (Nat.le_of_ble_eq_true rfl) ⟨(Nat.le_of_ble_eq_true rfl), (Nat.le_of_ble_eq_true rfl)⟩ rfl h dX5_next_20 (fun M2 z3 H locs hw h => ?_)
      refine q_if_eq (tgt := 51) hx hb dX5_next_23 (by decide) h (fun h => ?_) (fun h => ?_)
      · exact wX5_next_51 hst C0 ht ih M2 v1 v2 v3 _ _ _ hw (lv_sub hl [0, 1, 2, 3] rfl) h
      · refine lv_aload_n hx hb dX5_next_26 rfl (lv_at hl 0 rfl) ?_
        refine gf_HW_hitRow C0 hw (fun _ h9 => List.mem_cons_of_mem _ (List.mem_append_left _ (List.mem_append_left _ (List.mem_append_right _ h9)))) (List.mem_of_getElem? (i := 4) rfl) dX5_next_27 ?_
        refine lv_iload_n hx hb dX5_next_30 rfl (lv_at hl 3 rfl) ?_
        refine q_aald (t := 7) C0 hw at_hits rfl h dX5_next_31 (fun j4 hj4 h => ?_)
        refine gf_Hit_common C0 hw hj4 (fun _ h9 => List.mem_cons_of_mem _ (List.mem_append_left _ (List.mem_append_right _ h9))) (List.mem_of_getElem? (i := 5) rfl) dX5_next_32 ?_
        refine lv_iload_n hx hb dX5_next_35 rfl (lv_at hl 2 rfl) ?_
        refine q_icmp_le (tgt := 51) hx hb dX5_next_36 (by decide) h (fun h => ?_) (fun h => ?_)
        · exact wX5_next_51 hst C0 ht ih M2 v1 v2 v3 _ _ _ hw (lv_sub hl [0, 1, 2, 3] rfl) h
        · refine lv_iload_n hx hb dX5_next_39 rfl (lv_at hl 3 rfl) ?_
          refine q_istore_n (lv' := fun z5 => [(1, .int z5), (0, .ref (ad 0)), (2, .int v2), (3, .int v3)]) hx hb dX5_next_40 rfl hl (by decide) (fun _ => rfl) h (fun z5 ls hl h => ?_)
          refine lv_aload_n hx hb dX5_next_41 rfl (lv_at hl 1 rfl) ?_
          refine gf_HW_hitRow C0 hw (fun _ h9 => List.mem_cons_of_mem _ (List.mem_append_left _ (List.mem_append_left _ (List.mem_append_right _ h9)))) (List.mem_of_getElem? (i := 4) rfl) dX5_next_42 ?_
          refine lv_iload_n hx hb dX5_next_45 rfl (lv_at hl 3 rfl) ?_
          refine q_aald (t := 7) C0 hw at_hits rfl h dX5_next_46 (fun j6 hj6 h => ?_)
          refine gf_Hit_common C0 hw hj6 (fun _ h9 => List.mem_cons_of_mem _ (List.mem_append_left _ (List.mem_append_right _ h9))) (List.mem_of_getElem? (i := 5) rfl) dX5_next_47 ?_
          refine q_istore_n (lv' := fun z7 => [(2, .int z7), (1, .int z5), (0, .ref (ad 0)), (3, .int v3)]) hx hb dX5_next_50 rfl hl (by decide) (fun _ => rfl) h (fun z7 ls hl h => ?_)
          exact wX5_next_51 hst C0 ht ih M2 z5 z7 v3 _ _ _ hw (lv_sub hl [2, 1, 0, 3] rfl) h
def fX5_next (F : Nat) (M : Mem) : Option (Mem × (Int32 ⊕ Nat)) :=
    q_lt ((-1 : Int32)) fun z1 =>
    q_lt ((0 : Int32)) fun z2 =>
    q_lt ((0 : Int32)) fun z3 =>
    fX5_next_6 F F M z1 z2 z3
set_option maxHeartbeats 4000000 in
set_option maxRecDepth 100000 in
theorem ctX5_next {l : Launch} (hst : l.stackTraces = false) {D : va_G} {cy : Nat → ClassId} {ad : Nat → Nat} {x : XX} {F : Nat} {M : Mem} {r : Mem × (Int32 ⊕ Nat)} (h : fX5_next F M = some r) : CT l yX5_next wsX5_next rmX5_next D cy ad [.ref (ad 0)] x M r.1 (q_ou q_vi r.2) 1 6 := by
  refine q_startT (cc := cX5_next) (maxL := 4) (ret := (some .int)) (by decide) rfl (Nat.le_of_ble_eq_true rfl) ?_
  intro p e s m args below meth c ls C0 hw hl ht
  obtain ⟨hx, hb, hml, hown, hts, -⟩ := id C0
  have C0 : MX p l s m args meth c D cy ad cX5_next RX5 4 wsX5_next ((some .int)) := C0
  have hown : s.vm.findClass RX5 = some m.cls := hown
  have hl : lv_has ls 4 [(0, .ref (ad 0))] := hl
  show W p l e rmX5_next s m args below meth c s.heap [] 0 0 (QT D cy ad below args s x q_vi r 1 6) (F0 m 0 ls [])
  unfold fX5_next at h
  refine lv_iconst (v := -1) hx hb dX5_next_0 (by decide) ?_
  refine q_istore_n (lv' := fun z1 => [(1, .int z1), (0, .ref (ad 0))]) hx hb dX5_next_1 rfl hl (by decide) (fun _ => rfl) h (fun z1 ls hl h => ?_)
  refine lv_iconst (v := 0) hx hb dX5_next_2 (by decide) ?_
  refine q_istore_n (lv' := fun z2 => [(2, .int z2), (1, .int z1), (0, .ref (ad 0))]) hx hb dX5_next_3 rfl hl (by decide) (fun _ => rfl) h (fun z2 ls hl h => ?_)
  refine lv_iconst (v := 0) hx hb dX5_next_4 (by decide) ?_
  refine q_istore_n (lv' := fun z3 => [(3, .int z3), (2, .int z2), (1, .int z1), (0, .ref (ad 0))]) hx hb dX5_next_5 rfl hl (by decide) (fun _ => rfl) h (fun z3 ls hl h => ?_)
  exact wX5_next_6 hst C0 ht  F M z1 z2 z3 _ _ _ hw (lv_sub hl [3, 2, 1, 0] rfl) h
/-! Homewatcher.byteSum(I)B -/
abbrev rmX5_byteSum : Room := { frames := 7, cells := 1, slots := 6, locals := 111 }
def fX5_byteSum (F : Nat) (M : Mem) (a0 : Int32) : Option (Mem × (Int32 ⊕ Nat)) :=
    q_bx (fX5_needVersion F M a0) fun M1 _ =>
    q_ax a0 60 fun j3 =>
    q_bn (fX3_sumBytes F M1 j3) fun M4 z5 =>
    q_gd (q_isB z5) (
    some (M4, Sum.inl z5))
set_option maxHeartbeats 4000000 in
set_option maxRecDepth 100000 in
theorem ctX5_byteSum {l : Launch} (hst : l.stackTraces = false) {D : va_G} {cy : Nat → ClassId} {ad : Nat → Nat} {x : XX} {F : Nat} {M : Mem} {a0 : Int32} {r : Mem × (Int32 ⊕ Nat)} (h : fX5_byteSum F M a0 = some r) : CT l yX5_byteSum wsX5_byteSum rmX5_byteSum D cy ad [.ref (ad 0), .int a0] x M r.1 (q_ou q_vi r.2) 1 6 := by
  refine q_startT (cc := cX5_byteSum) (maxL := 2) (ret := (some .byte)) (by decide) rfl (Nat.le_of_ble_eq_true rfl) ?_
  intro p e s m args below meth c ls C0 hw hl ht
  obtain ⟨hx, hb, hml, hown, hts, -⟩ := id C0
  have C0 : MX p l s m args meth c D cy ad cX5_byteSum RX5 2 wsX5_byteSum ((some .byte)) := C0
  have hown : s.vm.findClass RX5 = some m.cls := hown
  have hl : lv_has ls 2 [(0, .ref (ad 0)), (1, .int a0)] := hl
  show W p l e rmX5_byteSum s m args below meth c s.heap [] 0 0 (QT D cy ad below args s x q_vi r 1 6) (F0 m 0 ls [])
  unfold fX5_byteSum at h
  refine lv_aload_n hx hb dX5_byteSum_0 rfl (lv_at hl 0 rfl) ?_
  refine lv_iload_n hx hb dX5_byteSum_1 rfl (lv_at hl 1 rfl) ?_
  refine q_callVTv (As := [.int a0]) (nA := 1) C0 ht hw at_HW rfl (fun r1 h1 => ctX5_needVersion hst h1) gX5_byteSum_X5_needVersion rfl ⟨rfl, rfl⟩ (by decide +kernel) rfl ⟨(Nat.le_of_ble_eq_true rfl), (Nat.le_of_ble_eq_true rfl)⟩ hl.1 (Nat.le_of_ble_eq_true rfl) ⟨(Nat.le_of_ble_eq_true rfl), (Nat.le_of_ble_eq_true rfl)⟩ ⟨(Nat.le_of_ble_eq_true rfl), (Nat.le_of_ble_eq_true rfl)⟩ rfl h dX5_byteSum_2 (fun M1 H locs hw h => ?_)
  refine lv_aload_n hx hb dX5_byteSum_5 rfl (lv_at hl 0 rfl) ?_
  refine gf_HW_versions C0 hw (fun _ h9 => List.mem_cons_of_mem _ (List.mem_append_left _ (List.mem_append_left _ (List.mem_append_left _ (List.mem_append_left _ (List.mem_append_right _ h9)))))) (List.mem_of_getElem? (i := 1) rfl) dX5_byteSum_6 ?_
  refine lv_iload_n hx hb dX5_byteSum_9 rfl (lv_at hl 1 rfl) ?_
  refine q_aald (t := 6) C0 hw at_vers rfl h dX5_byteSum_10 (fun j3 hj3 h => ?_)
  refine gf_Ver_text C0 hw hj3 (fun _ h9 => List.mem_cons_of_mem _ (List.mem_append_left _ (List.mem_append_left _ (List.mem_append_left _ (List.mem_append_right _ h9))))) (List.mem_of_getElem? (i := 2) rfl) dX5_byteSum_11 ?_
  refine q_callVNi (As := []) (nA := 0) C0 hw (at_Text (Nat.lt_of_lt_of_le hj3 (Nat.le_of_ble_eq_true rfl))) rfl (fun r1 h1 => ctX3_sumBytes hst (Nat.lt_of_lt_of_le hj3 (Nat.le_of_ble_eq_true rfl)) h1) gX5_byteSum_X3_sumBytes rfl ⟨rfl, rfl⟩ (by decide +kernel) rfl ⟨(Nat.le_of_ble_eq_true rfl), (Nat.le_of_ble_eq_true rfl)⟩ hl.1 (Nat.le_of_ble_eq_true rfl) ⟨(Nat.le_of_ble_eq_true rfl), (Nat.le_of_ble_eq_true rfl)⟩ rfl h dX5_byteSum_14 (fun M4 z5 H locs hw h => ?_)
  refine q_guard h (fun g h => ?_)
  exact q_zretT C0 hw (q_isB_in g) h ⟨(Nat.le_of_ble_eq_true rfl), (Nat.le_of_ble_eq_true rfl)⟩ dX5_byteSum_17
/-! Homewatcher.shortSum(I)S -/
abbrev rmX5_shortSum : Room := { frames := 7, cells := 1, slots := 6, locals := 111 }
def fX5_shortSum (F : Nat) (M : Mem) (a0 : Int32) : Option (Mem × (Int32 ⊕ Nat)) :=
    q_bx (fX5_needVersion F M a0) fun M1 _ =>
    q_ax a0 60 fun j3 =>
    q_bn (fX3_sumShorts F M1 j3) fun M4 z5 =>
    q_gd (q_isS z5) (
    some (M4, Sum.inl z5))
set_option maxHeartbeats 4000000 in
set_option maxRecDepth 100000 in
theorem ctX5_shortSum {l : Launch} (hst : l.stackTraces = false) {D : va_G} {cy : Nat → ClassId} {ad : Nat → Nat} {x : XX} {F : Nat} {M : Mem} {a0 : Int32} {r : Mem × (Int32 ⊕ Nat)} (h : fX5_shortSum F M a0 = some r) : CT l yX5_shortSum wsX5_shortSum rmX5_shortSum D cy ad [.ref (ad 0), .int a0] x M r.1 (q_ou q_vi r.2) 1 6 := by
  refine q_startT (cc := cX5_shortSum) (maxL := 2) (ret := (some .short)) (by decide) rfl (Nat.le_of_ble_eq_true rfl) ?_
  intro p e s m args below meth c ls C0 hw hl ht
  obtain ⟨hx, hb, hml, hown, hts, -⟩ := id C0
  have C0 : MX p l s m args meth c D cy ad cX5_shortSum RX5 2 wsX5_shortSum ((some .short)) := C0
  have hown : s.vm.findClass RX5 = some m.cls := hown
  have hl : lv_has ls 2 [(0, .ref (ad 0)), (1, .int a0)] := hl
  show W p l e rmX5_shortSum s m args below meth c s.heap [] 0 0 (QT D cy ad below args s x q_vi r 1 6) (F0 m 0 ls [])
  unfold fX5_shortSum at h
  refine lv_aload_n hx hb dX5_shortSum_0 rfl (lv_at hl 0 rfl) ?_
  refine lv_iload_n hx hb dX5_shortSum_1 rfl (lv_at hl 1 rfl) ?_
  refine q_callVTv (As := [.int a0]) (nA := 1) C0 ht hw at_HW rfl (fun r1 h1 => ctX5_needVersion hst h1) gX5_shortSum_X5_needVersion rfl ⟨rfl, rfl⟩ (by decide +kernel) rfl ⟨(Nat.le_of_ble_eq_true rfl), (Nat.le_of_ble_eq_true rfl)⟩ hl.1 (Nat.le_of_ble_eq_true rfl) ⟨(Nat.le_of_ble_eq_true rfl), (Nat.le_of_ble_eq_true rfl)⟩ ⟨(Nat.le_of_ble_eq_true rfl), (Nat.le_of_ble_eq_true rfl)⟩ rfl h dX5_shortSum_2 (fun M1 H locs hw h => ?_)
  refine lv_aload_n hx hb dX5_shortSum_5 rfl (lv_at hl 0 rfl) ?_
  refine gf_HW_versions C0 hw (fun _ h9 => List.mem_cons_of_mem _ (List.mem_append_left _ (List.mem_append_left _ (List.mem_append_left _ (List.mem_append_left _ (List.mem_append_right _ h9)))))) (List.mem_of_getElem? (i := 1) rfl) dX5_shortSum_6 ?_
  refine lv_iload_n hx hb dX5_shortSum_9 rfl (lv_at hl 1 rfl) ?_
  refine q_aald (t := 6) C0 hw at_vers rfl h dX5_shortSum_10 (fun j3 hj3 h => ?_)
  refine gf_Ver_text C0 hw hj3 (fun _ h9 => List.mem_cons_of_mem _ (List.mem_append_left _ (List.mem_append_left _ (List.mem_append_left _ (List.mem_append_right _ h9))))) (List.mem_of_getElem? (i := 2) rfl) dX5_shortSum_11 ?_
  refine q_callVNi (As := []) (nA := 0) C0 hw (at_Text (Nat.lt_of_lt_of_le hj3 (Nat.le_of_ble_eq_true rfl))) rfl (fun r1 h1 => ctX3_sumShorts hst (Nat.lt_of_lt_of_le hj3 (Nat.le_of_ble_eq_true rfl)) h1) gX5_shortSum_X3_sumShorts rfl ⟨rfl, rfl⟩ (by decide +kernel) rfl ⟨(Nat.le_of_ble_eq_true rfl), (Nat.le_of_ble_eq_true rfl)⟩ hl.1 (Nat.le_of_ble_eq_true rfl) ⟨(Nat.le_of_ble_eq_true rfl), (Nat.le_of_ble_eq_true rfl)⟩ rfl h dX5_shortSum_14 (fun M4 z5 H locs hw h => ?_)
  refine q_guard h (fun g h => ?_)
  exact q_zretT C0 hw (q_isS_in g) h ⟨(Nat.le_of_ble_eq_true rfl), (Nat.le_of_ble_eq_true rfl)⟩ dX5_shortSum_17
/-! Homewatcher.packed(I)J -/
abbrev rmX5_packed : Room := { frames := 7, cells := 1, slots := 6, locals := 111 }
def fX5_packed (F : Nat) (M : Mem) (a0 : Int32) : Option (Mem × (Int64 ⊕ Nat)) :=
    q_bx (fX5_needVersion F M a0) fun M1 _ =>
    q_ax a0 60 fun j3 =>
    q_bn (fX3_sumBytes F M1 j3) fun M4 z5 =>
    q_lt ((z5 &&& (255 : Int32)).toInt64) fun z6 =>
    some (M4, Sum.inl ((((((a0.toInt64) <<< ((48 : Int32).toInt64 &&& 63)) ||| (z6 <<< ((40 : Int32).toInt64 &&& 63))) ||| (((M4 10 j3 0).toInt64) <<< ((36 : Int32).toInt64 &&& 63))) ||| (((M4 11 j3 0).toInt64) <<< ((32 : Int32).toInt64 &&& 63))) ||| ((M4 13 j3 0).toInt64)))
set_option maxHeartbeats 4000000 in
set_option maxRecDepth 100000 in
theorem ctX5_packed {l : Launch} (hst : l.stackTraces = false) {D : va_G} {cy : Nat → ClassId} {ad : Nat → Nat} {x : XX} {F : Nat} {M : Mem} {a0 : Int32} {r : Mem × (Int64 ⊕ Nat)} (h : fX5_packed F M a0 = some r) : CT l yX5_packed wsX5_packed rmX5_packed D cy ad [.ref (ad 0), .int a0] x M r.1 (q_ou q_vl r.2) 1 6 := by
  refine q_startT (cc := cX5_packed) (maxL := 5) (ret := (some .long)) (by decide) rfl (Nat.le_of_ble_eq_true rfl) ?_
  intro p e s m args below meth c ls C0 hw hl ht
  obtain ⟨hx, hb, hml, hown, hts, -⟩ := id C0
  have C0 : MX p l s m args meth c D cy ad cX5_packed RX5 5 wsX5_packed ((some .long)) := C0
  have hown : s.vm.findClass RX5 = some m.cls := hown
  have hl : lv_has ls 5 [(0, .ref (ad 0)), (1, .int a0)] := hl
  show W p l e rmX5_packed s m args below meth c s.heap [] 0 0 (QT D cy ad below args s x q_vl r 1 6) (F0 m 0 ls [])
  unfold fX5_packed at h
  refine lv_aload_n hx hb dX5_packed_0 rfl (lv_at hl 0 rfl) ?_
  refine lv_iload_n hx hb dX5_packed_1 rfl (lv_at hl 1 rfl) ?_
  refine q_callVTv (As := [.int a0]) (nA := 1) C0 ht hw at_HW rfl (fun r1 h1 => ctX5_needVersion hst h1) gX5_packed_X5_needVersion rfl ⟨rfl, rfl⟩ (by decide +kernel) rfl ⟨(Nat.le_of_ble_eq_true rfl), (Nat.le_of_ble_eq_true rfl)⟩ hl.1 (Nat.le_of_ble_eq_true rfl) ⟨(Nat.le_of_ble_eq_true rfl), (Nat.le_of_ble_eq_true rfl)⟩ ⟨(Nat.le_of_ble_eq_true rfl), (Nat.le_of_ble_eq_true rfl)⟩ rfl h dX5_packed_2 (fun M1 H locs hw h => ?_)
  refine lv_aload_n hx hb dX5_packed_5 rfl (lv_at hl 0 rfl) ?_
  refine gf_HW_versions C0 hw (fun _ h9 => List.mem_cons_of_mem _ (List.mem_append_left _ (List.mem_append_left _ (List.mem_append_left _ (List.mem_append_left _ (List.mem_append_right _ h9)))))) (List.mem_of_getElem? (i := 1) rfl) dX5_packed_6 ?_
  refine lv_iload_n hx hb dX5_packed_9 rfl (lv_at hl 1 rfl) ?_
  refine q_aald (t := 6) C0 hw at_vers rfl h dX5_packed_10 (fun j3 hj3 h => ?_)
  refine lv_astore_n (lv' := [(2, .ref (ad (cVer j3))), (0, .ref (ad 0)), (1, .int a0)]) hx hb dX5_packed_11 rfl hl (by decide) rfl (fun ls hl => ?_)
  refine lv_aload_n hx hb dX5_packed_12 rfl (lv_at hl 0 rfl) ?_
  refine gf_Ver_text C0 hw hj3 (fun _ h9 => List.mem_cons_of_mem _ (List.mem_append_left _ (List.mem_append_left _ (List.mem_append_left _ (List.mem_append_right _ h9))))) (List.mem_of_getElem? (i := 2) rfl) dX5_packed_13 ?_
  refine q_callVNi (As := []) (nA := 0) C0 hw (at_Text (Nat.lt_of_lt_of_le hj3 (Nat.le_of_ble_eq_true rfl))) rfl (fun r1 h1 => ctX3_sumBytes hst (Nat.lt_of_lt_of_le hj3 (Nat.le_of_ble_eq_true rfl)) h1) gX5_packed_X3_sumBytes rfl ⟨rfl, rfl⟩ (by decide +kernel) rfl ⟨(Nat.le_of_ble_eq_true rfl), (Nat.le_of_ble_eq_true rfl)⟩ hl.1 (Nat.le_of_ble_eq_true rfl) ⟨(Nat.le_of_ble_eq_true rfl), (Nat.le_of_ble_eq_true rfl)⟩ rfl h dX5_packed_16 (fun M4 z5 H locs hw h => ?_)
  refine lv_sipush (v := 255) hx hb dX5_packed_19 (by decide) ?_
  refine lv_iand hx hb dX5_packed_22 ?_
  refine lv_i2l hx hb dX5_packed_23 rfl ?_
  refine q_lstore_n (lv' := fun z6 => [(3, .long (z6)), (2, .ref (ad (cVer j3))), (0, .ref (ad 0)), (1, .int a0)]) hx hb dX5_packed_24 rfl hl (by decide) (fun _ => rfl) h (fun z6 ls hl h => ?_)
  refine lv_iload_n hx hb dX5_packed_25 rfl (lv_at hl 3 rfl) ?_
  refine lv_i2l hx hb dX5_packed_26 rfl ?_
  refine lv_bipush (v := 48) hx hb dX5_packed_27 (by decide) ?_
  refine lv_lshl hx hb dX5_packed_29 rfl ?_
  refine lv_lload_n hx hb dX5_packed_30 rfl (lv_at hl 0 rfl) ?_
  refine lv_bipush (v := 40) hx hb dX5_packed_31 (by decide) ?_
  refine lv_lshl hx hb dX5_packed_33 rfl ?_
  refine lv_lor hx hb dX5_packed_34 ?_
  refine lv_aload_n hx hb dX5_packed_35 rfl (lv_at hl 1 rfl) ?_
  refine gf_Ver_pupil C0 hw hj3 (fun _ h9 => List.mem_cons_of_mem _ (List.mem_append_left _ (List.mem_append_left _ (List.mem_append_left _ (List.mem_append_right _ h9))))) (List.mem_of_getElem? (i := 3) rfl) dX5_packed_36 ?_
  refine lv_i2l hx hb dX5_packed_39 rfl ?_
  refine lv_bipush (v := 36) hx hb dX5_packed_40 (by decide) ?_
  refine lv_lshl hx hb dX5_packed_42 rfl ?_
  refine lv_lor hx hb dX5_packed_43 ?_
  refine lv_aload_n hx hb dX5_packed_44 rfl (lv_at hl 1 rfl) ?_
  refine gf_Ver_task C0 hw hj3 (fun _ h9 => List.mem_cons_of_mem _ (List.mem_append_left _ (List.mem_append_left _ (List.mem_append_left _ (List.mem_append_right _ h9))))) (List.mem_of_getElem? (i := 4) rfl) dX5_packed_45 ?_
  refine lv_i2l hx hb dX5_packed_48 rfl ?_
  refine lv_bipush (v := 32) hx hb dX5_packed_49 (by decide) ?_
  refine lv_lshl hx hb dX5_packed_51 rfl ?_
  refine lv_lor hx hb dX5_packed_52 ?_
  refine lv_aload_n hx hb dX5_packed_53 rfl (lv_at hl 1 rfl) ?_
  refine gf_Ver_savedAt C0 hw hj3 (fun _ h9 => List.mem_cons_of_mem _ (List.mem_append_left _ (List.mem_append_left _ (List.mem_append_left _ (List.mem_append_right _ h9))))) (List.mem_of_getElem? (i := 5) rfl) dX5_packed_54 ?_
  refine lv_i2l hx hb dX5_packed_57 rfl ?_
  refine lv_lor hx hb dX5_packed_58 ?_
  exact q_lretT C0 hw h ⟨(Nat.le_of_ble_eq_true rfl), (Nat.le_of_ble_eq_true rfl)⟩ dX5_packed_59
/-! Homewatcher.inShare()F -/
abbrev rmX5_inShare : Room := { frames := 6, cells := 1, slots := 6, locals := 90 }
def fX5_inShare_45 (F : Nat) (k22 : Mem → Int32 → Int32 → Option (Mem × (UInt32 ⊕ Nat))) (M : Mem) (v1 : Int32) (v2 : Int32) : Option (Mem × (UInt32 ⊕ Nat)) :=
    q_lt (v2 + (1 : Int32)) fun z1 =>
    k22 M v1 z1
set_option maxHeartbeats 4000000 in
set_option maxRecDepth 100000 in
theorem wX5_inShare_45 {p : Program} {l : Launch} {e : Env} {s : State} {m : MethodId} {args : Array Value} {below : List Frame} {meth : Method} {c : Code} {D : va_G} {cy : Nat → ClassId} {ad : Nat → Nat} {x : XX} {F : Nat} {r : Mem × (UInt32 ⊕ Nat)} (hst : l.stackTraces = false) (C0 : MX p l s m args meth c D cy ad cX5_inShare RX5 3 wsX5_inShare (some .float)) (ht : ∀ z ∈ c.exceptionTable.toList, False) {k22 : Mem → Int32 → Int32 → Option (Mem × (UInt32 ⊕ Nat))} (hk22 : ∀ (M : Mem) (v1 : Int32) (v2 : Int32) (H : Heap) (locs : List Loc) (ls : Array Slot), Wd D cy ad x s M H locs → lv_has ls 3 [(0, .ref (ad 0)), (1, .int v1), (2, .int v2)] → k22 M v1 v2 = some r → W p l e rmX5_inShare s m args below meth c H locs 0 0 (QT D cy ad below args s x q_vf r 1 6) (F0 m 22 ls [])) : ∀ (M : Mem) (v1 : Int32) (v2 : Int32) (H : Heap) (locs : List Loc) (ls : Array Slot), Wd D cy ad x s M H locs → lv_has ls 3 [(0, .ref (ad 0)), (1, .int v1), (2, .int v2)] → fX5_inShare_45 F k22 M v1 v2 = some r → W p l e rmX5_inShare s m args below meth c H locs 0 0 (QT D cy ad below args s x q_vf r 1 6) (F0 m 45 ls []) := by
  obtain ⟨hx, hb, hml, hown, hts, -⟩ := id C0
  intro M v1 v2 H locs ls hw hl h
  unfold fX5_inShare_45 at h
  refine q_iinc (k := 2) (cst := 1) (lv' := fun z1 => [(2, .int z1), (0, .ref (ad 0)), (1, .int v1)]) hx hb dX5_inShare_45 hl rfl rfl (by decide) (fun _ => rfl) h (fun z1 ls hl h => ?_)
  refine lv_goto (tgt := 22) hx hb dX5_inShare_48 (by decide) ?_
  exact hk22 M v1 z1 _ _ _ hw (lv_sub hl [1, 2, 0] rfl) h
def fX5_inShare_22 (F : Nat) : Nat → Mem → Int32 → Int32 → Option (Mem × (UInt32 ⊕ Nat))
  | 0, _, _, _ => none
  | n + 1, M, v1, v2 =>
    if (M 4 0 0) ≤ v2 then
    (q_gd (q_n32 (FP.fdiv (FP.i2f v1) (FP.i2f (M 4 0 0)))) (
    some (M, Sum.inl (FP.fdiv (FP.i2f v1) (FP.i2f (M 4 0 0))))))
    else
    (q_ax v2 60 fun j1 =>
    q_bn (fX4_isThere F M j1) fun M2 z3 =>
    if z3 = (0 : Int32) then
    (fX5_inShare_45 F (fX5_inShare_22 F n) M2 v1 v2)
    else
    (q_lt (v1 + (1 : Int32)) fun z4 =>
    fX5_inShare_45 F (fX5_inShare_22 F n) M2 z4 v2))
set_option maxHeartbeats 4000000 in
set_option maxRecDepth 100000 in
theorem wX5_inShare_22 {p : Program} {l : Launch} {e : Env} {s : State} {m : MethodId} {args : Array Value} {below : List Frame} {meth : Method} {c : Code} {D : va_G} {cy : Nat → ClassId} {ad : Nat → Nat} {x : XX} {F : Nat} {r : Mem × (UInt32 ⊕ Nat)} (hst : l.stackTraces = false) (C0 : MX p l s m args meth c D cy ad cX5_inShare RX5 3 wsX5_inShare (some .float)) (ht : ∀ z ∈ c.exceptionTable.toList, False) : ∀ (n : Nat) (M : Mem) (v1 : Int32) (v2 : Int32) (H : Heap) (locs : List Loc) (ls : Array Slot), Wd D cy ad x s M H locs → lv_has ls 3 [(0, .ref (ad 0)), (1, .int v1), (2, .int v2)] → fX5_inShare_22 F n M v1 v2 = some r → W p l e rmX5_inShare s m args below meth c H locs 0 0 (QT D cy ad below args s x q_vf r 1 6) (F0 m 22 ls []) := by
  obtain ⟨hx, hb, hml, hown, hts, -⟩ := id C0
  intro n
  induction n with
  | zero =>
    intro M v1 v2 H locs ls hw hl h
    exact q_no h
  | succ n ih =>
    intro M v1 v2 H locs ls hw hl h
    unfold fX5_inShare_22 at h
    refine lv_iload_n hx hb dX5_inShare_22 rfl (lv_at hl 2 rfl) ?_
    refine lv_aload_n hx hb dX5_inShare_23 rfl (lv_at hl 0 rfl) ?_
    refine gf_HW_versionCount C0 hw (fun _ h9 => List.mem_cons_of_mem _ (List.mem_append_left _ (List.mem_append_left _ (List.mem_append_right _ h9)))) (List.mem_of_getElem? (i := 3) rfl) dX5_inShare_24 ?_
    refine q_icmp_ge (tgt := 51) hx hb dX5_inShare_27 (by decide) h (fun h => ?_) (fun h => ?_)
    · refine lv_iload_n hx hb dX5_inShare_51 rfl (lv_at hl 1 rfl) ?_
      refine lv_i2f hx hb dX5_inShare_52 ?_
      refine lv_aload_n hx hb dX5_inShare_53 rfl (lv_at hl 0 rfl) ?_
      refine gf_HW_versionCount C0 hw (fun _ h9 => List.mem_cons_of_mem _ (List.mem_append_left _ (List.mem_append_left _ (List.mem_append_right _ h9)))) (List.mem_of_getElem? (i := 3) rfl) dX5_inShare_54 ?_
      refine lv_i2f hx hb dX5_inShare_57 ?_
      refine q_guard h (fun g h => ?_)
      refine lv_fdiv hx hb dX5_inShare_58 (q_n32_in g) ?_
      exact q_fretT C0 hw h ⟨(Nat.le_of_ble_eq_true rfl), (Nat.le_of_ble_eq_true rfl)⟩ dX5_inShare_59
    · refine lv_aload_n hx hb dX5_inShare_30 rfl (lv_at hl 0 rfl) ?_
      refine gf_HW_versions C0 hw (fun _ h9 => List.mem_cons_of_mem _ (List.mem_append_left _ (List.mem_append_left _ (List.mem_append_right _ h9)))) (List.mem_of_getElem? (i := 4) rfl) dX5_inShare_31 ?_
      refine lv_iload_n hx hb dX5_inShare_34 rfl (lv_at hl 2 rfl) ?_
      refine q_aald (t := 6) C0 hw at_vers rfl h dX5_inShare_35 (fun j1 hj1 h => ?_)
      refine q_callVNi (As := []) (nA := 0) C0 hw (at_Ver hj1) rfl (fun r1 h1 => ctX4_isThere hst hj1 h1) gX5_inShare_X4_isThere rfl ⟨rfl, rfl⟩ (by decide +kernel) rfl ⟨(Nat.le_of_ble_eq_true rfl), (Nat.le_of_ble_eq_true rfl)⟩ hl.1 (Nat.le_of_ble_eq_true rfl) ⟨(Nat.le_of_ble_eq_true rfl), (Nat.le_of_ble_eq_true rfl)⟩ rfl h dX5_inShare_36 (fun M2 z3 H locs hw h => ?_)
      refine q_if_eq (tgt := 45) hx hb dX5_inShare_39 (by decide) h (fun h => ?_) (fun h => ?_)
      · exact wX5_inShare_45 hst C0 ht ih M2 v1 v2 _ _ _ hw (lv_sub hl [0, 1, 2] rfl) h
      · refine q_iinc (k := 1) (cst := 1) (lv' := fun z4 => [(1, .int z4), (0, .ref (ad 0)), (2, .int v2)]) hx hb dX5_inShare_42 hl rfl rfl (by decide) (fun _ => rfl) h (fun z4 ls hl h => ?_)
        exact wX5_inShare_45 hst C0 ht ih M2 z4 v2 _ _ _ hw (lv_sub hl [1, 0, 2] rfl) h
def fX5_inShare (F : Nat) (M : Mem) : Option (Mem × (UInt32 ⊕ Nat)) :=
    if (M 4 0 0) = (0 : Int32) then
    (some (M, Sum.inr 6))
    else
    (q_lt ((0 : Int32)) fun z1 =>
    q_lt ((0 : Int32)) fun z2 =>
    fX5_inShare_22 F F M z1 z2)
set_option maxHeartbeats 4000000 in
set_option maxRecDepth 100000 in
theorem ctX5_inShare {l : Launch} (hst : l.stackTraces = false) {D : va_G} {cy : Nat → ClassId} {ad : Nat → Nat} {x : XX} {F : Nat} {M : Mem} {r : Mem × (UInt32 ⊕ Nat)} (h : fX5_inShare F M = some r) : CT l yX5_inShare wsX5_inShare rmX5_inShare D cy ad [.ref (ad 0)] x M r.1 (q_ou q_vf r.2) 1 6 := by
  refine q_startT (cc := cX5_inShare) (maxL := 3) (ret := (some .float)) (by decide) rfl (Nat.le_of_ble_eq_true rfl) ?_
  intro p e s m args below meth c ls C0 hw hl ht
  obtain ⟨hx, hb, hml, hown, hts, -⟩ := id C0
  have C0 : MX p l s m args meth c D cy ad cX5_inShare RX5 3 wsX5_inShare ((some .float)) := C0
  have hown : s.vm.findClass RX5 = some m.cls := hown
  have hl : lv_has ls 3 [(0, .ref (ad 0))] := hl
  show W p l e rmX5_inShare s m args below meth c s.heap [] 0 0 (QT D cy ad below args s x q_vf r 1 6) (F0 m 0 ls [])
  unfold fX5_inShare at h
  refine lv_aload_n hx hb dX5_inShare_0 rfl (lv_at hl 0 rfl) ?_
  refine gf_HW_versionCount C0 hw (fun _ h9 => List.mem_cons_of_mem _ (List.mem_append_left _ (List.mem_append_left _ (List.mem_append_right _ h9)))) (List.mem_of_getElem? (i := 3) rfl) dX5_inShare_1 ?_
  refine q_if_ne (tgt := 18) hx hb dX5_inShare_4 (by decide) h (fun h => ?_) (fun h => ?_)
  · refine lv_iconst (v := 0) hx hb dX5_inShare_18 (by decide) ?_
    refine q_istore_n (lv' := fun z1 => [(1, .int z1), (0, .ref (ad 0))]) hx hb dX5_inShare_19 rfl hl (by decide) (fun _ => rfl) h (fun z1 ls hl h => ?_)
    refine lv_iconst (v := 0) hx hb dX5_inShare_20 (by decide) ?_
    refine q_istore_n (lv' := fun z2 => [(2, .int z2), (1, .int z1), (0, .ref (ad 0))]) hx hb dX5_inShare_21 rfl hl (by decide) (fun _ => rfl) h (fun z2 ls hl h => ?_)
    exact wX5_inShare_22 hst C0 ht  F M z1 z2 _ _ _ hw (lv_sub hl [2, 1, 0] rfl) h
  · exact q_thrSW C0 ht hst hw (ik := 330) (is := 332) (ic := 334) xp_334 (List.mem_of_getElem? (i := 1) rfl) (List.mem_of_getElem? (i := 2) rfl) (List.mem_of_getElem? (i := 28) rfl) (fun _ h9 => List.mem_cons_of_mem _ (List.mem_append_right _ h9)) hl.1 dX5_inShare_7 dX5_inShare_10 dX5_inShare_11 dX5_inShare_14 dX5_inShare_17 ⟨(Nat.le_of_ble_eq_true rfl), (Nat.le_of_ble_eq_true rfl), (Nat.le_of_ble_eq_true rfl), (Nat.le_of_ble_eq_true rfl)⟩ ⟨(Nat.le_of_ble_eq_true rfl), (Nat.le_of_ble_eq_true rfl)⟩ h
/-! Homewatcher.meanMark()D -/
abbrev rmX5_meanMark : Room := { frames := 6, cells := 1, slots := 6, locals := 95 }
def fX5_meanMark_68 (F : Nat) (k17 : Mem → Int32 → Int32 → Int32 → Int32 → Option (Mem × (UInt64 ⊕ Nat))) (M : Mem) (v1 : Int32) (v2 : Int32) (v3 : Int32) (v4 : Int32) : Option (Mem × (UInt64 ⊕ Nat)) :=
    q_lt (v4 + (1 : Int32)) fun z1 =>
    k17 M v1 v2 v3 z1
set_option maxHeartbeats 4000000 in
set_option maxRecDepth 100000 in
theorem wX5_meanMark_68 {p : Program} {l : Launch} {e : Env} {s : State} {m : MethodId} {args : Array Value} {below : List Frame} {meth : Method} {c : Code} {D : va_G} {cy : Nat → ClassId} {ad : Nat → Nat} {x : XX} {F : Nat} {r : Mem × (UInt64 ⊕ Nat)} (hst : l.stackTraces = false) (C0 : MX p l s m args meth c D cy ad cX5_meanMark RX5 5 wsX5_meanMark (some .double)) (ht : ∀ z ∈ c.exceptionTable.toList, False) {k17 : Mem → Int32 → Int32 → Int32 → Int32 → Option (Mem × (UInt64 ⊕ Nat))} (hk17 : ∀ (M : Mem) (v1 : Int32) (v2 : Int32) (v3 : Int32) (v4 : Int32) (H : Heap) (locs : List Loc) (ls : Array Slot), Wd D cy ad x s M H locs → lv_has ls 5 [(0, .ref (ad 0)), (1, .int v1), (2, .int v2), (3, .int v3), (4, .int v4)] → k17 M v1 v2 v3 v4 = some r → W p l e rmX5_meanMark s m args below meth c H locs 0 0 (QT D cy ad below args s x q_vd r 1 6) (F0 m 17 ls [])) : ∀ (M : Mem) (v1 : Int32) (v2 : Int32) (v3 : Int32) (v4 : Int32) (H : Heap) (locs : List Loc) (ls : Array Slot), Wd D cy ad x s M H locs → lv_has ls 5 [(0, .ref (ad 0)), (1, .int v1), (2, .int v2), (3, .int v3), (4, .int v4)] → fX5_meanMark_68 F k17 M v1 v2 v3 v4 = some r → W p l e rmX5_meanMark s m args below meth c H locs 0 0 (QT D cy ad below args s x q_vd r 1 6) (F0 m 68 ls []) := by
  obtain ⟨hx, hb, hml, hown, hts, -⟩ := id C0
  intro M v1 v2 v3 v4 H locs ls hw hl h
  unfold fX5_meanMark_68 at h
  refine q_iinc (k := 4) (cst := 1) (lv' := fun z1 => [(4, .int z1), (0, .ref (ad 0)), (1, .int v1), (2, .int v2), (3, .int v3)]) hx hb dX5_meanMark_68 hl rfl rfl (by decide) (fun _ => rfl) h (fun z1 ls hl h => ?_)
  refine lv_goto (tgt := 17) hx hb dX5_meanMark_71 (by decide) ?_
  exact hk17 M v1 v2 v3 z1 _ _ _ hw (lv_sub hl [1, 2, 3, 4, 0] rfl) h
def fX5_meanMark_17 (F : Nat) (k6 : Mem → Int32 → Int32 → Int32 → Option (Mem × (UInt64 ⊕ Nat))) : Nat → Mem → Int32 → Int32 → Int32 → Int32 → Option (Mem × (UInt64 ⊕ Nat))
  | 0, _, _, _, _, _ => none
  | n + 1, M, v1, v2, v3, v4 =>
    if (M 2 0 0) ≤ v4 then
    (q_lt (v3 + (1 : Int32)) fun z1 =>
    k6 M v1 v2 z1)
    else
    (q_ax v4 10 fun j1 =>
    q_ax v3 12 fun j2 =>
    if (M 50 j1 0) = (M 21 0 j2) then
    (q_bn (fX5_hasOpenHit F M v3 v4) fun M3 z4 =>
    if z4 = (0 : Int32) then
    (q_bn (fX5_makeMark F M3 v3 v4) fun M5 z6 =>
    q_lt (v1 + z6) fun z7 =>
    q_lt (v2 + (1 : Int32)) fun z8 =>
    fX5_meanMark_68 F (fX5_meanMark_17 F k6 n) M5 z7 z8 v3 v4)
    else
    (fX5_meanMark_68 F (fX5_meanMark_17 F k6 n) M3 v1 v2 v3 v4))
    else
    (fX5_meanMark_68 F (fX5_meanMark_17 F k6 n) M v1 v2 v3 v4))
set_option maxHeartbeats 4000000 in
set_option maxRecDepth 100000 in
theorem wX5_meanMark_17 {p : Program} {l : Launch} {e : Env} {s : State} {m : MethodId} {args : Array Value} {below : List Frame} {meth : Method} {c : Code} {D : va_G} {cy : Nat → ClassId} {ad : Nat → Nat} {x : XX} {F : Nat} {r : Mem × (UInt64 ⊕ Nat)} (hst : l.stackTraces = false) (C0 : MX p l s m args meth c D cy ad cX5_meanMark RX5 5 wsX5_meanMark (some .double)) (ht : ∀ z ∈ c.exceptionTable.toList, False) {k6 : Mem → Int32 → Int32 → Int32 → Option (Mem × (UInt64 ⊕ Nat))} (hk6 : ∀ (M : Mem) (v1 : Int32) (v2 : Int32) (v3 : Int32) (H : Heap) (locs : List Loc) (ls : Array Slot), Wd D cy ad x s M H locs → lv_has ls 5 [(0, .ref (ad 0)), (1, .int v1), (2, .int v2), (3, .int v3)] → k6 M v1 v2 v3 = some r → W p l e rmX5_meanMark s m args below meth c H locs 0 0 (QT D cy ad below args s x q_vd r 1 6) (F0 m 6 ls [])) : ∀ (n : Nat) (M : Mem) (v1 : Int32) (v2 : Int32) (v3 : Int32) (v4 : Int32) (H : Heap) (locs : List Loc) (ls : Array Slot), Wd D cy ad x s M H locs → lv_has ls 5 [(0, .ref (ad 0)), (1, .int v1), (2, .int v2), (3, .int v3), (4, .int v4)] → fX5_meanMark_17 F k6 n M v1 v2 v3 v4 = some r → W p l e rmX5_meanMark s m args below meth c H locs 0 0 (QT D cy ad below args s x q_vd r 1 6) (F0 m 17 ls []) := by
  obtain ⟨hx, hb, hml, hown, hts, -⟩ := id C0
  intro n
  induction n with
  | zero =>
    intro M v1 v2 v3 v4 H locs ls hw hl h
    exact q_no h
  | succ n ih =>
    intro M v1 v2 v3 v4 H locs ls hw hl h
    unfold fX5_meanMark_17 at h
    refine lv_iload hx hb dX5_meanMark_17 (lv_at hl 4 rfl) ?_
    refine lv_aload_n hx hb dX5_meanMark_19 rfl (lv_at hl 0 rfl) ?_
    refine gf_HW_taskCount C0 hw (fun _ h9 => List.mem_cons_of_mem _ (List.mem_append_left _ (List.mem_append_left _ (List.mem_append_left _ (List.mem_append_left _ (List.mem_append_left _ (List.mem_append_left _ (List.mem_append_right _ h9)))))))) (List.mem_of_getElem? (i := 4) rfl) dX5_meanMark_20 ?_
    refine q_icmp_ge (tgt := 74) hx hb dX5_meanMark_23 (by decide) h (fun h => ?_) (fun h => ?_)
    · refine q_iinc (k := 3) (cst := 1) (lv' := fun z1 => [(3, .int z1), (0, .ref (ad 0)), (1, .int v1), (2, .int v2), (4, .int v4)]) hx hb dX5_meanMark_74 hl rfl rfl (by decide) (fun _ => rfl) h (fun z1 ls hl h => ?_)
      refine lv_goto (tgt := 6) hx hb dX5_meanMark_77 (by decide) ?_
      exact hk6 M v1 v2 z1 _ _ _ hw (lv_sub hl [1, 2, 3, 0] rfl) h
    · refine lv_aload_n hx hb dX5_meanMark_26 rfl (lv_at hl 0 rfl) ?_
      refine gf_HW_tasks C0 hw (fun _ h9 => List.mem_cons_of_mem _ (List.mem_append_left _ (List.mem_append_left _ (List.mem_append_left _ (List.mem_append_left _ (List.mem_append_left _ (List.mem_append_left _ (List.mem_append_right _ h9)))))))) (List.mem_of_getElem? (i := 5) rfl) dX5_meanMark_27 ?_
      refine lv_iload hx hb dX5_meanMark_30 (lv_at hl 4 rfl) ?_
      refine q_aald (t := 5) C0 hw at_tasks rfl h dX5_meanMark_32 (fun j1 hj1 h => ?_)
      refine gf_Task_room C0 hw hj1 (fun _ h9 => List.mem_cons_of_mem _ (List.mem_append_left _ (List.mem_append_left _ (List.mem_append_left _ (List.mem_append_left _ (List.mem_append_left _ (List.mem_append_right _ h9))))))) (List.mem_of_getElem? (i := 6) rfl) dX5_meanMark_33 ?_
      refine lv_aload_n hx hb dX5_meanMark_36 rfl (lv_at hl 0 rfl) ?_
      refine gf_HW_classOfPupil C0 hw (fun _ h9 => List.mem_cons_of_mem _ (List.mem_append_left _ (List.mem_append_left _ (List.mem_append_left _ (List.mem_append_left _ (List.mem_append_left _ (List.mem_append_left _ (List.mem_append_right _ h9)))))))) (List.mem_of_getElem? (i := 7) rfl) dX5_meanMark_37 ?_
      refine lv_iload_n hx hb dX5_meanMark_40 rfl (lv_at hl 3 rfl) ?_
      refine q_iald C0 hw at_a21 h dX5_meanMark_41 (fun j2 hj2 h => ?_)
      refine q_icmp_ne (tgt := 68) hx hb dX5_meanMark_42 (by decide) h (fun h => ?_) (fun h => ?_)
      · exact wX5_meanMark_68 hst C0 ht ih M v1 v2 v3 v4 _ _ _ hw (lv_sub hl [0, 1, 2, 3, 4] rfl) h
      · refine lv_aload_n hx hb dX5_meanMark_45 rfl (lv_at hl 0 rfl) ?_
        refine lv_iload_n hx hb dX5_meanMark_46 rfl (lv_at hl 3 rfl) ?_
        refine lv_iload hx hb dX5_meanMark_47 (lv_at hl 4 rfl) ?_
        refine q_callVNi (As := [.int v3, .int v4]) (nA := 2) C0 hw at_HW rfl (fun r1 h1 => ctX5_hasOpenHit hst h1) gX5_meanMark_X5_hasOpenHit rfl ⟨rfl, rfl⟩ (by decide +kernel) rfl ⟨(Nat.le_of_ble_eq_true rfl), (Nat.le_of_ble_eq_true rfl)⟩ hl.1 (Nat.le_of_ble_eq_true rfl) ⟨(Nat.le_of_ble_eq_true rfl), (Nat.le_of_ble_eq_true rfl)⟩ rfl h dX5_meanMark_49 (fun M3 z4 H locs hw h => ?_)
        refine q_if_ne (tgt := 68) hx hb dX5_meanMark_52 (by decide) h (fun h => ?_) (fun h => ?_)
        · exact wX5_meanMark_68 hst C0 ht ih M3 v1 v2 v3 v4 _ _ _ hw (lv_sub hl [0, 1, 2, 3, 4] rfl) h
        · refine lv_iload_n hx hb dX5_meanMark_55 rfl (lv_at hl 1 rfl) ?_
          refine lv_aload_n hx hb dX5_meanMark_56 rfl (lv_at hl 0 rfl) ?_
          refine lv_iload_n hx hb dX5_meanMark_57 rfl (lv_at hl 3 rfl) ?_
          refine lv_iload hx hb dX5_meanMark_58 (lv_at hl 4 rfl) ?_
          refine q_callVNi (As := [.int v3, .int v4]) (nA := 2) C0 hw at_HW rfl (fun r1 h1 => ctX5_makeMark hst h1) gX5_meanMark_X5_makeMark rfl ⟨rfl, rfl⟩ (by decide +kernel) rfl ⟨(Nat.le_of_ble_eq_true rfl), (Nat.le_of_ble_eq_true rfl)⟩ hl.1 (Nat.le_of_ble_eq_true rfl) ⟨(Nat.le_of_ble_eq_true rfl), (Nat.le_of_ble_eq_true rfl)⟩ rfl h dX5_meanMark_60 (fun M5 z6 H locs hw h => ?_)
          refine lv_iadd hx hb dX5_meanMark_63 ?_
          refine q_istore_n (lv' := fun z7 => [(1, .int z7), (0, .ref (ad 0)), (2, .int v2), (3, .int v3), (4, .int v4)]) hx hb dX5_meanMark_64 rfl hl (by decide) (fun _ => rfl) h (fun z7 ls hl h => ?_)
          refine q_iinc (k := 2) (cst := 1) (lv' := fun z8 => [(2, .int z8), (1, .int z7), (0, .ref (ad 0)), (3, .int v3), (4, .int v4)]) hx hb dX5_meanMark_65 hl rfl rfl (by decide) (fun _ => rfl) h (fun z8 ls hl h => ?_)
          exact wX5_meanMark_68 hst C0 ht ih M5 z7 z8 v3 v4 _ _ _ hw (lv_sub hl [2, 1, 0, 3, 4] rfl) h
def fX5_meanMark_6 (F : Nat) : Nat → Mem → Int32 → Int32 → Int32 → Option (Mem × (UInt64 ⊕ Nat))
  | 0, _, _, _, _ => none
  | n + 1, M, v1, v2, v3 =>
    if (M 1 0 0) ≤ v3 then
    (if v2 = (0 : Int32) then
    (some (M, Sum.inr 6))
    else
    (q_gd (q_n64 (FP.ddiv (FP.i2d v1) (FP.i2d v2))) (
    some (M, Sum.inl (FP.ddiv (FP.i2d v1) (FP.i2d v2))))))
    else
    (q_lt ((0 : Int32)) fun z1 =>
    fX5_meanMark_17 F (fX5_meanMark_6 F n) F M v1 v2 v3 z1)
set_option maxHeartbeats 4000000 in
set_option maxRecDepth 100000 in
theorem wX5_meanMark_6 {p : Program} {l : Launch} {e : Env} {s : State} {m : MethodId} {args : Array Value} {below : List Frame} {meth : Method} {c : Code} {D : va_G} {cy : Nat → ClassId} {ad : Nat → Nat} {x : XX} {F : Nat} {r : Mem × (UInt64 ⊕ Nat)} (hst : l.stackTraces = false) (C0 : MX p l s m args meth c D cy ad cX5_meanMark RX5 5 wsX5_meanMark (some .double)) (ht : ∀ z ∈ c.exceptionTable.toList, False) : ∀ (n : Nat) (M : Mem) (v1 : Int32) (v2 : Int32) (v3 : Int32) (H : Heap) (locs : List Loc) (ls : Array Slot), Wd D cy ad x s M H locs → lv_has ls 5 [(0, .ref (ad 0)), (1, .int v1), (2, .int v2), (3, .int v3)] → fX5_meanMark_6 F n M v1 v2 v3 = some r → W p l e rmX5_meanMark s m args below meth c H locs 0 0 (QT D cy ad below args s x q_vd r 1 6) (F0 m 6 ls []) := by
  obtain ⟨hx, hb, hml, hown, hts, -⟩ := id C0
  intro n
  induction n with
  | zero =>
    intro M v1 v2 v3 H locs ls hw hl h
    exact q_no h
  | succ n ih =>
    intro M v1 v2 v3 H locs ls hw hl h
    unfold fX5_meanMark_6 at h
    refine lv_iload_n hx hb dX5_meanMark_6 rfl (lv_at hl 3 rfl) ?_
    refine lv_aload_n hx hb dX5_meanMark_7 rfl (lv_at hl 0 rfl) ?_
    refine gf_HW_pupilCount C0 hw (fun _ h9 => List.mem_cons_of_mem _ (List.mem_append_left _ (List.mem_append_left _ (List.mem_append_left _ (List.mem_append_left _ (List.mem_append_left _ (List.mem_append_left _ (List.mem_append_right _ h9)))))))) (List.mem_of_getElem? (i := 3) rfl) dX5_meanMark_8 ?_
    refine q_icmp_ge (tgt := 80) hx hb dX5_meanMark_11 (by decide) h (fun h => ?_) (fun h => ?_)
    · refine lv_iload_n hx hb dX5_meanMark_80 rfl (lv_at hl 2 rfl) ?_
      refine q_if_ne (tgt := 95) hx hb dX5_meanMark_81 (by decide) h (fun h => ?_) (fun h => ?_)
      · refine lv_iload_n hx hb dX5_meanMark_95 rfl (lv_at hl 1 rfl) ?_
        refine lv_i2d hx hb dX5_meanMark_96 ?_
        refine lv_iload_n hx hb dX5_meanMark_97 rfl (lv_at hl 2 rfl) ?_
        refine lv_i2d hx hb dX5_meanMark_98 ?_
        refine q_guard h (fun g h => ?_)
        refine lv_ddiv hx hb dX5_meanMark_99 (q_n64_in g) ?_
        exact q_dretT C0 hw h ⟨(Nat.le_of_ble_eq_true rfl), (Nat.le_of_ble_eq_true rfl)⟩ dX5_meanMark_100
      · exact q_thrSW C0 ht hst hw (ik := 330) (is := 335) (ic := 334) xp_334 (List.mem_of_getElem? (i := 1) rfl) (List.mem_of_getElem? (i := 2) rfl) (List.mem_of_getElem? (i := 29) rfl) (fun _ h9 => List.mem_cons_of_mem _ (List.mem_append_right _ h9)) hl.1 dX5_meanMark_84 dX5_meanMark_87 dX5_meanMark_88 dX5_meanMark_91 dX5_meanMark_94 ⟨(Nat.le_of_ble_eq_true rfl), (Nat.le_of_ble_eq_true rfl), (Nat.le_of_ble_eq_true rfl), (Nat.le_of_ble_eq_true rfl)⟩ ⟨(Nat.le_of_ble_eq_true rfl), (Nat.le_of_ble_eq_true rfl)⟩ h
    · refine lv_iconst (v := 0) hx hb dX5_meanMark_14 (by decide) ?_
      refine q_istore (lv' := fun z1 => [(4, .int z1), (0, .ref (ad 0)), (1, .int v1), (2, .int v2), (3, .int v3)]) hx hb dX5_meanMark_15 hl (by decide) (fun _ => rfl) h (fun z1 ls hl h => ?_)
      exact wX5_meanMark_17 hst C0 ht ih F M v1 v2 v3 z1 _ _ _ hw (lv_sub hl [1, 2, 3, 4, 0] rfl) h
def fX5_meanMark (F : Nat) (M : Mem) : Option (Mem × (UInt64 ⊕ Nat)) :=
    q_lt ((0 : Int32)) fun z1 =>
    q_lt ((0 : Int32)) fun z2 =>
    q_lt ((0 : Int32)) fun z3 =>
    fX5_meanMark_6 F F M z1 z2 z3
set_option maxHeartbeats 4000000 in
set_option maxRecDepth 100000 in
theorem ctX5_meanMark {l : Launch} (hst : l.stackTraces = false) {D : va_G} {cy : Nat → ClassId} {ad : Nat → Nat} {x : XX} {F : Nat} {M : Mem} {r : Mem × (UInt64 ⊕ Nat)} (h : fX5_meanMark F M = some r) : CT l yX5_meanMark wsX5_meanMark rmX5_meanMark D cy ad [.ref (ad 0)] x M r.1 (q_ou q_vd r.2) 1 6 := by
  refine q_startT (cc := cX5_meanMark) (maxL := 5) (ret := (some .double)) (by decide) rfl (Nat.le_of_ble_eq_true rfl) ?_
  intro p e s m args below meth c ls C0 hw hl ht
  obtain ⟨hx, hb, hml, hown, hts, -⟩ := id C0
  have C0 : MX p l s m args meth c D cy ad cX5_meanMark RX5 5 wsX5_meanMark ((some .double)) := C0
  have hown : s.vm.findClass RX5 = some m.cls := hown
  have hl : lv_has ls 5 [(0, .ref (ad 0))] := hl
  show W p l e rmX5_meanMark s m args below meth c s.heap [] 0 0 (QT D cy ad below args s x q_vd r 1 6) (F0 m 0 ls [])
  unfold fX5_meanMark at h
  refine lv_iconst (v := 0) hx hb dX5_meanMark_0 (by decide) ?_
  refine q_istore_n (lv' := fun z1 => [(1, .int z1), (0, .ref (ad 0))]) hx hb dX5_meanMark_1 rfl hl (by decide) (fun _ => rfl) h (fun z1 ls hl h => ?_)
  refine lv_iconst (v := 0) hx hb dX5_meanMark_2 (by decide) ?_
  refine q_istore_n (lv' := fun z2 => [(2, .int z2), (1, .int z1), (0, .ref (ad 0))]) hx hb dX5_meanMark_3 rfl hl (by decide) (fun _ => rfl) h (fun z2 ls hl h => ?_)
  refine lv_iconst (v := 0) hx hb dX5_meanMark_4 (by decide) ?_
  refine q_istore_n (lv' := fun z3 => [(3, .int z3), (2, .int z2), (1, .int z1), (0, .ref (ad 0))]) hx hb dX5_meanMark_5 rfl hl (by decide) (fun _ => rfl) h (fun z3 ls hl h => ?_)
  exact wX5_meanMark_6 hst C0 ht  F M z1 z2 z3 _ _ _ hw (lv_sub hl [3, 2, 1, 0] rfl) h
/-! Homewatcher.areCountingRight()Z -/
abbrev rmX5_areCountingRight : Room := { frames := 2, cells := 0, slots := 0, locals := 48 }
def fX5_areCountingRight_46 (F : Nat) (k12 : Mem → Int32 → Int32 → Option (Mem × Int32)) (M : Mem) (v1 : Int32) (v2 : Int32) : Option (Mem × Int32) :=
    q_lt (v2 + (1 : Int32)) fun z1 =>
    k12 M v1 z1
set_option maxHeartbeats 4000000 in
set_option maxRecDepth 100000 in
theorem wX5_areCountingRight_46 {p : Program} {l : Launch} {e : Env} {s : State} {m : MethodId} {args : Array Value} {below : List Frame} {meth : Method} {c : Code} {D : va_G} {cy : Nat → ClassId} {ad : Nat → Nat} {x : XX} {F : Nat} {r : Mem × Int32} (hst : l.stackTraces = false) (C0 : MX p l s m args meth c D cy ad cX5_areCountingRight RX5 4 wsX5_areCountingRight (some .boolean)) {k12 : Mem → Int32 → Int32 → Option (Mem × Int32)} (hk12 : ∀ (M : Mem) (v1 : Int32) (v2 : Int32) (H : Heap) (locs : List Loc) (ls : Array Slot), Wd D cy ad x s M H locs → lv_has ls 4 [(0, .ref (ad 0)), (1, .int v1), (2, .int v2)] → k12 M v1 v2 = some r → W p l e rmX5_areCountingRight s m args below meth c H locs 0 0 (QN D cy ad below args s x q_vi r 0 0) (F0 m 12 ls [])) : ∀ (M : Mem) (v1 : Int32) (v2 : Int32) (H : Heap) (locs : List Loc) (ls : Array Slot), Wd D cy ad x s M H locs → lv_has ls 4 [(0, .ref (ad 0)), (1, .int v1), (2, .int v2)] → fX5_areCountingRight_46 F k12 M v1 v2 = some r → W p l e rmX5_areCountingRight s m args below meth c H locs 0 0 (QN D cy ad below args s x q_vi r 0 0) (F0 m 46 ls []) := by
  obtain ⟨hx, hb, hml, hown, hts, -⟩ := id C0
  intro M v1 v2 H locs ls hw hl h
  unfold fX5_areCountingRight_46 at h
  refine q_iinc (k := 2) (cst := 1) (lv' := fun z1 => [(2, .int z1), (0, .ref (ad 0)), (1, .int v1)]) hx hb dX5_areCountingRight_46 hl rfl rfl (by decide) (fun _ => rfl) h (fun z1 ls hl h => ?_)
  refine lv_goto (tgt := 12) hx hb dX5_areCountingRight_49 (by decide) ?_
  exact hk12 M v1 z1 _ _ _ hw (lv_sub hl [1, 2, 0] rfl) h
def fX5_areCountingRight_12 (F : Nat) (k2 : Mem → Int32 → Option (Mem × Int32)) : Nat → Mem → Int32 → Int32 → Option (Mem × Int32)
  | 0, _, _, _ => none
  | n + 1, M, v1, v2 =>
    if (M 2 0 0) ≤ v2 then
    (q_lt (v1 + (1 : Int32)) fun z1 =>
    k2 M z1)
    else
    (q_bn (fX5_findCounting F M v1 v2) fun M1 z2 =>
    q_lt (z2) fun z3 =>
    if z3 = (-1 : Int32) then
    (fX5_areCountingRight_46 F (fX5_areCountingRight_12 F k2 n) M1 v1 v2)
    else
    (q_ax z3 60 fun j4 =>
    if (M1 16 j4 0) = (0 : Int32) then
    (fX5_areCountingRight_46 F (fX5_areCountingRight_12 F k2 n) M1 v1 v2)
    else
    (some (M1, (0 : Int32)))))
set_option maxHeartbeats 4000000 in
set_option maxRecDepth 100000 in
theorem wX5_areCountingRight_12 {p : Program} {l : Launch} {e : Env} {s : State} {m : MethodId} {args : Array Value} {below : List Frame} {meth : Method} {c : Code} {D : va_G} {cy : Nat → ClassId} {ad : Nat → Nat} {x : XX} {F : Nat} {r : Mem × Int32} (hst : l.stackTraces = false) (C0 : MX p l s m args meth c D cy ad cX5_areCountingRight RX5 4 wsX5_areCountingRight (some .boolean)) {k2 : Mem → Int32 → Option (Mem × Int32)} (hk2 : ∀ (M : Mem) (v1 : Int32) (H : Heap) (locs : List Loc) (ls : Array Slot), Wd D cy ad x s M H locs → lv_has ls 4 [(0, .ref (ad 0)), (1, .int v1)] → k2 M v1 = some r → W p l e rmX5_areCountingRight s m args below meth c H locs 0 0 (QN D cy ad below args s x q_vi r 0 0) (F0 m 2 ls [])) : ∀ (n : Nat) (M : Mem) (v1 : Int32) (v2 : Int32) (H : Heap) (locs : List Loc) (ls : Array Slot), Wd D cy ad x s M H locs → lv_has ls 4 [(0, .ref (ad 0)), (1, .int v1), (2, .int v2)] → fX5_areCountingRight_12 F k2 n M v1 v2 = some r → W p l e rmX5_areCountingRight s m args below meth c H locs 0 0 (QN D cy ad below args s x q_vi r 0 0) (F0 m 12 ls []) := by
  obtain ⟨hx, hb, hml, hown, hts, -⟩ := id C0
  intro n
  induction n with
  | zero =>
    intro M v1 v2 H locs ls hw hl h
    exact q_no h
  | succ n ih =>
    intro M v1 v2 H locs ls hw hl h
    unfold fX5_areCountingRight_12 at h
    refine lv_iload_n hx hb dX5_areCountingRight_12 rfl (lv_at hl 2 rfl) ?_
    refine lv_aload_n hx hb dX5_areCountingRight_13 rfl (lv_at hl 0 rfl) ?_
    refine gf_HW_taskCount C0 hw (fun _ h9 => List.mem_cons_of_mem _ (List.mem_append_left _ (List.mem_append_right _ h9))) (List.mem_of_getElem? (i := 2) rfl) dX5_areCountingRight_14 ?_
    refine q_icmp_ge (tgt := 52) hx hb dX5_areCountingRight_17 (by decide) h (fun h => ?_) (fun h => ?_)
    · refine q_iinc (k := 1) (cst := 1) (lv' := fun z1 => [(1, .int z1), (0, .ref (ad 0)), (2, .int v2)]) hx hb dX5_areCountingRight_52 hl rfl rfl (by decide) (fun _ => rfl) h (fun z1 ls hl h => ?_)
      refine lv_goto (tgt := 2) hx hb dX5_areCountingRight_55 (by decide) ?_
      exact hk2 M z1 _ _ _ hw (lv_sub hl [1, 0] rfl) h
    · refine lv_aload_n hx hb dX5_areCountingRight_20 rfl (lv_at hl 0 rfl) ?_
      refine lv_iload_n hx hb dX5_areCountingRight_21 rfl (lv_at hl 1 rfl) ?_
      refine lv_iload_n hx hb dX5_areCountingRight_22 rfl (lv_at hl 2 rfl) ?_
      refine q_callVNi (As := [.int v1, .int v2]) (nA := 2) C0 hw at_HW rfl (fun r1 h1 => ctX5_findCounting hst h1) gX5_areCountingRight_X5_findCounting rfl ⟨rfl, rfl⟩ (by decide +kernel) rfl ⟨(Nat.le_of_ble_eq_true rfl), (Nat.le_of_ble_eq_true rfl)⟩ hl.1 (Nat.le_of_ble_eq_true rfl) ⟨(Nat.le_of_ble_eq_true rfl), (Nat.le_of_ble_eq_true rfl)⟩ rfl h dX5_areCountingRight_23 (fun M1 z2 H locs hw h => ?_)
      refine q_istore_n (lv' := fun z3 => [(3, .int z3), (0, .ref (ad 0)), (1, .int v1), (2, .int v2)]) hx hb dX5_areCountingRight_26 rfl hl (by decide) (fun _ => rfl) h (fun z3 ls hl h => ?_)
      refine lv_iload_n hx hb dX5_areCountingRight_27 rfl (lv_at hl 0 rfl) ?_
      refine lv_iconst (v := -1) hx hb dX5_areCountingRight_28 (by decide) ?_
      refine q_icmp_eq (tgt := 46) hx hb dX5_areCountingRight_29 (by decide) h (fun h => ?_) (fun h => ?_)
      · exact wX5_areCountingRight_46 hst C0 ih M1 v1 v2 _ _ _ hw (lv_sub hl [1, 2, 3] rfl) h
      · refine lv_aload_n hx hb dX5_areCountingRight_32 rfl (lv_at hl 1 rfl) ?_
        refine gf_HW_versions C0 hw (fun _ h9 => List.mem_cons_of_mem _ (List.mem_append_left _ (List.mem_append_right _ h9))) (List.mem_of_getElem? (i := 3) rfl) dX5_areCountingRight_33 ?_
        refine lv_iload_n hx hb dX5_areCountingRight_36 rfl (lv_at hl 0 rfl) ?_
        refine q_aald (t := 6) C0 hw at_vers rfl h dX5_areCountingRight_37 (fun j4 hj4 h => ?_)
        refine gf_Ver_withdrawn C0 hw hj4 (fun _ h9 => List.mem_cons_of_mem _ (List.mem_append_right _ h9)) (List.mem_of_getElem? (i := 4) rfl) dX5_areCountingRight_38 ?_
        refine q_if_eq (tgt := 46) hx hb dX5_areCountingRight_41 (by decide) h (fun h => ?_) (fun h => ?_)
        · exact wX5_areCountingRight_46 hst C0 ih M1 v1 v2 _ _ _ hw (lv_sub hl [1, 2, 3] rfl) h
        · refine lv_iconst (v := 0) hx hb dX5_areCountingRight_44 (by decide) ?_
          exact q_zretN C0 hw rfl h ⟨(Nat.le_of_ble_eq_true rfl), (Nat.le_of_ble_eq_true rfl)⟩ dX5_areCountingRight_45
def fX5_areCountingRight_2 (F : Nat) : Nat → Mem → Int32 → Option (Mem × Int32)
  | 0, _, _ => none
  | n + 1, M, v1 =>
    if (M 1 0 0) ≤ v1 then
    (some (M, (1 : Int32)))
    else
    (q_lt ((0 : Int32)) fun z1 =>
    fX5_areCountingRight_12 F (fX5_areCountingRight_2 F n) F M v1 z1)
set_option maxHeartbeats 4000000 in
set_option maxRecDepth 100000 in
theorem wX5_areCountingRight_2 {p : Program} {l : Launch} {e : Env} {s : State} {m : MethodId} {args : Array Value} {below : List Frame} {meth : Method} {c : Code} {D : va_G} {cy : Nat → ClassId} {ad : Nat → Nat} {x : XX} {F : Nat} {r : Mem × Int32} (hst : l.stackTraces = false) (C0 : MX p l s m args meth c D cy ad cX5_areCountingRight RX5 4 wsX5_areCountingRight (some .boolean)) : ∀ (n : Nat) (M : Mem) (v1 : Int32) (H : Heap) (locs : List Loc) (ls : Array Slot), Wd D cy ad x s M H locs → lv_has ls 4 [(0, .ref (ad 0)), (1, .int v1)] → fX5_areCountingRight_2 F n M v1 = some r → W p l e rmX5_areCountingRight s m args below meth c H locs 0 0 (QN D cy ad below args s x q_vi r 0 0) (F0 m 2 ls []) := by
  obtain ⟨hx, hb, hml, hown, hts, -⟩ := id C0
  intro n
  induction n with
  | zero =>
    intro M v1 H locs ls hw hl h
    exact q_no h
  | succ n ih =>
    intro M v1 H locs ls hw hl h
    unfold fX5_areCountingRight_2 at h
    refine lv_iload_n hx hb dX5_areCountingRight_2 rfl (lv_at hl 1 rfl) ?_
    refine lv_aload_n hx hb dX5_areCountingRight_3 rfl (lv_at hl 0 rfl) ?_
    refine gf_HW_pupilCount C0 hw (fun _ h9 => List.mem_cons_of_mem _ (List.mem_append_left _ (List.mem_append_right _ h9))) (List.mem_of_getElem? (i := 1) rfl) dX5_areCountingRight_4 ?_
    refine q_icmp_ge (tgt := 58) hx hb dX5_areCountingRight_7 (by decide) h (fun h => ?_) (fun h => ?_)
    · refine lv_iconst (v := 1) hx hb dX5_areCountingRight_58 (by decide) ?_
      exact q_zretN C0 hw rfl h ⟨(Nat.le_of_ble_eq_true rfl), (Nat.le_of_ble_eq_true rfl)⟩ dX5_areCountingRight_59
    · refine lv_iconst (v := 0) hx hb dX5_areCountingRight_10 (by decide) ?_
      refine q_istore_n (lv' := fun z1 => [(2, .int z1), (0, .ref (ad 0)), (1, .int v1)]) hx hb dX5_areCountingRight_11 rfl hl (by decide) (fun _ => rfl) h (fun z1 ls hl h => ?_)
      exact wX5_areCountingRight_12 hst C0 ih F M v1 z1 _ _ _ hw (lv_sub hl [1, 2, 0] rfl) h
def fX5_areCountingRight (F : Nat) (M : Mem) : Option (Mem × Int32) :=
    q_lt ((0 : Int32)) fun z1 =>
    fX5_areCountingRight_2 F F M z1
set_option maxHeartbeats 4000000 in
set_option maxRecDepth 100000 in
theorem ctX5_areCountingRight {l : Launch} (hst : l.stackTraces = false) {D : va_G} {cy : Nat → ClassId} {ad : Nat → Nat} {x : XX} {F : Nat} {M : Mem} {r : Mem × Int32} (h : fX5_areCountingRight F M = some r) : CN l yX5_areCountingRight wsX5_areCountingRight rmX5_areCountingRight D cy ad [.ref (ad 0)] x M x r.1 (q_vi r.2) 0 0 := by
  refine q_startN (cc := cX5_areCountingRight) (maxL := 4) (ret := (some .boolean)) (by decide) rfl (Nat.le_of_ble_eq_true rfl) ?_
  intro p e s m args below meth c ls C0 hw hl hnm
  obtain ⟨hx, hb, hml, hown, hts, -⟩ := id C0
  have C0 : MX p l s m args meth c D cy ad cX5_areCountingRight RX5 4 wsX5_areCountingRight ((some .boolean)) := C0
  have hown : s.vm.findClass RX5 = some m.cls := hown
  have hl : lv_has ls 4 [(0, .ref (ad 0))] := hl
  show W p l e rmX5_areCountingRight s m args below meth c s.heap [] 0 0 (QN D cy ad below args s x q_vi r 0 0) (F0 m 0 ls [])
  unfold fX5_areCountingRight at h
  refine lv_iconst (v := 0) hx hb dX5_areCountingRight_0 (by decide) ?_
  refine q_istore_n (lv' := fun z1 => [(1, .int z1), (0, .ref (ad 0))]) hx hb dX5_areCountingRight_1 rfl hl (by decide) (fun _ => rfl) h (fun z1 ls hl h => ?_)
  exact wX5_areCountingRight_2 hst C0  F M z1 _ _ _ hw (lv_sub hl [1, 0] rfl) h
/-! Homewatcher.areMarksRight()Z -/
abbrev rmX5_areMarksRight : Room := { frames := 3, cells := 0, slots := 0, locals := 126 }
def fX5_areMarksRight_2 (F : Nat) : Nat → Mem → Int32 → Option (Mem × Int32)
  | 0, _, _ => none
  | n + 1, M, v1 =>
    if (M 4 0 0) ≤ v1 then
    (some (M, (1 : Int32)))
    else
    (q_ax v1 60 fun j1 =>
    q_bn (fX3_cutInto F M j1 62) fun M2 _ =>
    q_ax v1 60 fun j4 =>
    q_bn (fX0_isLike F M2 j4 62) fun M5 z6 =>
    if z6 = (0 : Int32) then
    (some (M5, (0 : Int32)))
    else
    (q_lt (v1 + (1 : Int32)) fun z7 =>
    fX5_areMarksRight_2 F n M5 z7))
set_option maxHeartbeats 4000000 in
set_option maxRecDepth 100000 in
theorem wX5_areMarksRight_2 {p : Program} {l : Launch} {e : Env} {s : State} {m : MethodId} {args : Array Value} {below : List Frame} {meth : Method} {c : Code} {D : va_G} {cy : Nat → ClassId} {ad : Nat → Nat} {x : XX} {F : Nat} {r : Mem × Int32} (hst : l.stackTraces = false) (C0 : MX p l s m args meth c D cy ad cX5_areMarksRight RX5 2 wsX5_areMarksRight (some .boolean)) : ∀ (n : Nat) (M : Mem) (v1 : Int32) (H : Heap) (locs : List Loc) (ls : Array Slot), Wd D cy ad x s M H locs → lv_has ls 2 [(0, .ref (ad 0)), (1, .int v1)] → fX5_areMarksRight_2 F n M v1 = some r → W p l e rmX5_areMarksRight s m args below meth c H locs 0 0 (QN D cy ad below args s x q_vi r 0 0) (F0 m 2 ls []) := by
  obtain ⟨hx, hb, hml, hown, hts, -⟩ := id C0
  intro n
  induction n with
  | zero =>
    intro M v1 H locs ls hw hl h
    exact q_no h
  | succ n ih =>
    intro M v1 H locs ls hw hl h
    unfold fX5_areMarksRight_2 at h
    refine lv_iload_n hx hb dX5_areMarksRight_2 rfl (lv_at hl 1 rfl) ?_
    refine lv_aload_n hx hb dX5_areMarksRight_3 rfl (lv_at hl 0 rfl) ?_
    refine gf_HW_versionCount C0 hw (fun _ h9 => List.mem_cons_of_mem _ (List.mem_append_left _ (List.mem_append_left _ (List.mem_append_left _ (List.mem_append_left _ (List.mem_append_right _ h9)))))) (List.mem_of_getElem? (i := 1) rfl) dX5_areMarksRight_4 ?_
    refine q_icmp_ge (tgt := 53) hx hb dX5_areMarksRight_7 (by decide) h (fun h => ?_) (fun h => ?_)
    · refine lv_iconst (v := 1) hx hb dX5_areMarksRight_53 (by decide) ?_
      exact q_zretN C0 hw rfl h ⟨(Nat.le_of_ble_eq_true rfl), (Nat.le_of_ble_eq_true rfl)⟩ dX5_areMarksRight_54
    · refine lv_aload_n hx hb dX5_areMarksRight_10 rfl (lv_at hl 0 rfl) ?_
      refine gf_HW_versions C0 hw (fun _ h9 => List.mem_cons_of_mem _ (List.mem_append_left _ (List.mem_append_left _ (List.mem_append_left _ (List.mem_append_left _ (List.mem_append_right _ h9)))))) (List.mem_of_getElem? (i := 2) rfl) dX5_areMarksRight_11 ?_
      refine lv_iload_n hx hb dX5_areMarksRight_14 rfl (lv_at hl 1 rfl) ?_
      refine q_aald (t := 6) C0 hw at_vers rfl h dX5_areMarksRight_15 (fun j1 hj1 h => ?_)
      refine gf_Ver_text C0 hw hj1 (fun _ h9 => List.mem_cons_of_mem _ (List.mem_append_left _ (List.mem_append_left _ (List.mem_append_left _ (List.mem_append_right _ h9))))) (List.mem_of_getElem? (i := 3) rfl) dX5_areMarksRight_16 ?_
      refine lv_aload_n hx hb dX5_areMarksRight_19 rfl (lv_at hl 0 rfl) ?_
      refine gf_HW_shinglesAnew C0 hw (fun _ h9 => List.mem_cons_of_mem _ (List.mem_append_left _ (List.mem_append_left _ (List.mem_append_left _ (List.mem_append_left _ (List.mem_append_right _ h9)))))) (List.mem_of_getElem? (i := 4) rfl) dX5_areMarksRight_20 ?_
      refine q_callVNv (As := [.ref (ad (cBag 62))]) (nA := 1) C0 hw (at_Text (Nat.lt_of_lt_of_le hj1 (Nat.le_of_ble_eq_true rfl))) rfl (fun r1 h1 => ctX3_cutInto hst (Nat.lt_of_lt_of_le hj1 (Nat.le_of_ble_eq_true rfl)) (Nat.le_of_ble_eq_true rfl) h1) gX5_areMarksRight_X3_cutInto rfl ⟨rfl, rfl⟩ (by decide +kernel) rfl ⟨(Nat.le_of_ble_eq_true rfl), (Nat.le_of_ble_eq_true rfl)⟩ hl.1 (Nat.le_of_ble_eq_true rfl) ⟨(Nat.le_of_ble_eq_true rfl), (Nat.le_of_ble_eq_true rfl)⟩ rfl h dX5_areMarksRight_23 (fun M2 H locs hw h => ?_)
      refine lv_aload_n hx hb dX5_areMarksRight_26 rfl (lv_at hl 0 rfl) ?_
      refine gf_HW_versions C0 hw (fun _ h9 => List.mem_cons_of_mem _ (List.mem_append_left _ (List.mem_append_left _ (List.mem_append_left _ (List.mem_append_left _ (List.mem_append_right _ h9)))))) (List.mem_of_getElem? (i := 2) rfl) dX5_areMarksRight_27 ?_
      refine lv_iload_n hx hb dX5_areMarksRight_30 rfl (lv_at hl 1 rfl) ?_
      refine q_aald (t := 6) C0 hw at_vers rfl h dX5_areMarksRight_31 (fun j4 hj4 h => ?_)
      refine gf_Ver_shingles C0 hw hj4 (fun _ h9 => List.mem_cons_of_mem _ (List.mem_append_left _ (List.mem_append_left _ (List.mem_append_left _ (List.mem_append_right _ h9))))) (List.mem_of_getElem? (i := 5) rfl) dX5_areMarksRight_32 ?_
      refine lv_aload_n hx hb dX5_areMarksRight_35 rfl (lv_at hl 0 rfl) ?_
      refine gf_HW_shinglesAnew C0 hw (fun _ h9 => List.mem_cons_of_mem _ (List.mem_append_left _ (List.mem_append_left _ (List.mem_append_left _ (List.mem_append_left _ (List.mem_append_right _ h9)))))) (List.mem_of_getElem? (i := 4) rfl) dX5_areMarksRight_36 ?_
      refine q_callVNi (As := [.ref (ad (cBag 62))]) (nA := 1) C0 hw (at_Bag (Nat.lt_of_lt_of_le hj4 (Nat.le_of_ble_eq_true rfl))) rfl (fun r1 h1 => ctX0_isLike hst (Nat.lt_of_lt_of_le hj4 (Nat.le_of_ble_eq_true rfl)) (Nat.le_of_ble_eq_true rfl) h1) gX5_areMarksRight_X0_isLike rfl ⟨rfl, rfl⟩ (by decide +kernel) rfl ⟨(Nat.le_of_ble_eq_true rfl), (Nat.le_of_ble_eq_true rfl)⟩ hl.1 (Nat.le_of_ble_eq_true rfl) ⟨(Nat.le_of_ble_eq_true rfl), (Nat.le_of_ble_eq_true rfl)⟩ rfl h dX5_areMarksRight_39 (fun M5 z6 H locs hw h => ?_)
      refine q_if_ne (tgt := 47) hx hb dX5_areMarksRight_42 (by decide) h (fun h => ?_) (fun h => ?_)
      · refine q_iinc (k := 1) (cst := 1) (lv' := fun z7 => [(1, .int z7), (0, .ref (ad 0))]) hx hb dX5_areMarksRight_47 hl rfl rfl (by decide) (fun _ => rfl) h (fun z7 ls hl h => ?_)
        refine lv_goto (tgt := 2) hx hb dX5_areMarksRight_50 (by decide) ?_
        exact ih M5 z7 _ _ _ hw (lv_sub hl [1, 0] rfl) h
      · refine lv_iconst (v := 0) hx hb dX5_areMarksRight_45 (by decide) ?_
        exact q_zretN C0 hw rfl h ⟨(Nat.le_of_ble_eq_true rfl), (Nat.le_of_ble_eq_true rfl)⟩ dX5_areMarksRight_46
def fX5_areMarksRight (F : Nat) (M : Mem) : Option (Mem × Int32) :=
    q_lt ((0 : Int32)) fun z1 =>
    fX5_areMarksRight_2 F F M z1
set_option maxHeartbeats 4000000 in
set_option maxRecDepth 100000 in
theorem ctX5_areMarksRight {l : Launch} (hst : l.stackTraces = false) {D : va_G} {cy : Nat → ClassId} {ad : Nat → Nat} {x : XX} {F : Nat} {M : Mem} {r : Mem × Int32} (h : fX5_areMarksRight F M = some r) : CN l yX5_areMarksRight wsX5_areMarksRight rmX5_areMarksRight D cy ad [.ref (ad 0)] x M x r.1 (q_vi r.2) 0 0 := by
  refine q_startN (cc := cX5_areMarksRight) (maxL := 2) (ret := (some .boolean)) (by decide) rfl (Nat.le_of_ble_eq_true rfl) ?_
  intro p e s m args below meth c ls C0 hw hl hnm
  obtain ⟨hx, hb, hml, hown, hts, -⟩ := id C0
  have C0 : MX p l s m args meth c D cy ad cX5_areMarksRight RX5 2 wsX5_areMarksRight ((some .boolean)) := C0
  have hown : s.vm.findClass RX5 = some m.cls := hown
  have hl : lv_has ls 2 [(0, .ref (ad 0))] := hl
  show W p l e rmX5_areMarksRight s m args below meth c s.heap [] 0 0 (QN D cy ad below args s x q_vi r 0 0) (F0 m 0 ls [])
  unfold fX5_areMarksRight at h
  refine lv_iconst (v := 0) hx hb dX5_areMarksRight_0 (by decide) ?_
  refine q_istore_n (lv' := fun z1 => [(1, .int z1), (0, .ref (ad 0))]) hx hb dX5_areMarksRight_1 rfl hl (by decide) (fun _ => rfl) h (fun z1 ls hl h => ?_)
  exact wX5_areMarksRight_2 hst C0  F M z1 _ _ _ hw (lv_sub hl [1, 0] rfl) h
/-! Homewatcher.isIndexRight()Z -/
abbrev rmX5_isIndexRight : Room := { frames := 3, cells := 0, slots := 0, locals := 126 }
def fX5_isIndexRight_57 (F : Nat) (k10 : Mem → Int32 → Option (Mem × Int32)) (M : Mem) (v1 : Int32) : Option (Mem × Int32) :=
    q_lt (v1 + (1 : Int32)) fun z1 =>
    k10 M z1
set_option maxHeartbeats 4000000 in
set_option maxRecDepth 100000 in
theorem wX5_isIndexRight_57 {p : Program} {l : Launch} {e : Env} {s : State} {m : MethodId} {args : Array Value} {below : List Frame} {meth : Method} {c : Code} {D : va_G} {cy : Nat → ClassId} {ad : Nat → Nat} {x : XX} {F : Nat} {r : Mem × Int32} (hst : l.stackTraces = false) (C0 : MX p l s m args meth c D cy ad cX5_isIndexRight RX5 2 wsX5_isIndexRight (some .boolean)) {k10 : Mem → Int32 → Option (Mem × Int32)} (hk10 : ∀ (M : Mem) (v1 : Int32) (H : Heap) (locs : List Loc) (ls : Array Slot), Wd D cy ad x s M H locs → lv_has ls 2 [(0, .ref (ad 0)), (1, .int v1)] → k10 M v1 = some r → W p l e rmX5_isIndexRight s m args below meth c H locs 0 0 (QN D cy ad below args s x q_vi r 0 0) (F0 m 10 ls [])) : ∀ (M : Mem) (v1 : Int32) (H : Heap) (locs : List Loc) (ls : Array Slot), Wd D cy ad x s M H locs → lv_has ls 2 [(0, .ref (ad 0)), (1, .int v1)] → fX5_isIndexRight_57 F k10 M v1 = some r → W p l e rmX5_isIndexRight s m args below meth c H locs 0 0 (QN D cy ad below args s x q_vi r 0 0) (F0 m 57 ls []) := by
  obtain ⟨hx, hb, hml, hown, hts, -⟩ := id C0
  intro M v1 H locs ls hw hl h
  unfold fX5_isIndexRight_57 at h
  refine q_iinc (k := 1) (cst := 1) (lv' := fun z1 => [(1, .int z1), (0, .ref (ad 0))]) hx hb dX5_isIndexRight_57 hl rfl rfl (by decide) (fun _ => rfl) h (fun z1 ls hl h => ?_)
  refine lv_goto (tgt := 10) hx hb dX5_isIndexRight_60 (by decide) ?_
  exact hk10 M z1 _ _ _ hw (lv_sub hl [1, 0] rfl) h
def fX5_isIndexRight_10 (F : Nat) : Nat → Mem → Int32 → Option (Mem × Int32)
  | 0, _, _ => none
  | n + 1, M, v1 =>
    if (M 4 0 0) ≤ v1 then
    (q_bn (fX0_isLike F M 60 61) fun M1 z2 =>
    q_gd (q_isZ z2) (
    some (M1, z2)))
    else
    (q_ax v1 60 fun j1 =>
    q_bn (fX4_isThere F M j1) fun M2 z3 =>
    if z3 = (0 : Int32) then
    (fX5_isIndexRight_57 F (fX5_isIndexRight_10 F n) M2 v1)
    else
    (q_ax v1 60 fun j4 =>
    q_bn (fX3_cutInto F M2 j4 62) fun M5 _ =>
    q_bn (fX0_addKeysOf F M5 61 62) fun M7 _ =>
    fX5_isIndexRight_57 F (fX5_isIndexRight_10 F n) M7 v1))
set_option maxHeartbeats 4000000 in
set_option maxRecDepth 100000 in
theorem wX5_isIndexRight_10 {p : Program} {l : Launch} {e : Env} {s : State} {m : MethodId} {args : Array Value} {below : List Frame} {meth : Method} {c : Code} {D : va_G} {cy : Nat → ClassId} {ad : Nat → Nat} {x : XX} {F : Nat} {r : Mem × Int32} (hst : l.stackTraces = false) (C0 : MX p l s m args meth c D cy ad cX5_isIndexRight RX5 2 wsX5_isIndexRight (some .boolean)) : ∀ (n : Nat) (M : Mem) (v1 : Int32) (H : Heap) (locs : List Loc) (ls : Array Slot), Wd D cy ad x s M H locs → lv_has ls 2 [(0, .ref (ad 0)), (1, .int v1)] → fX5_isIndexRight_10 F n M v1 = some r → W p l e rmX5_isIndexRight s m args below meth c H locs 0 0 (QN D cy ad below args s x q_vi r 0 0) (F0 m 10 ls []) := by
  obtain ⟨hx, hb, hml, hown, hts, -⟩ := id C0
  intro n
  induction n with
  | zero =>
    intro M v1 H locs ls hw hl h
    exact q_no h
  | succ n ih =>
    intro M v1 H locs ls hw hl h
    unfold fX5_isIndexRight_10 at h
    refine lv_iload_n hx hb dX5_isIndexRight_10 rfl (lv_at hl 1 rfl) ?_
    refine lv_aload_n hx hb dX5_isIndexRight_11 rfl (lv_at hl 0 rfl) ?_
    refine gf_HW_versionCount C0 hw (fun _ h9 => List.mem_cons_of_mem _ (List.mem_append_left _ (List.mem_append_left _ (List.mem_append_left _ (List.mem_append_left _ (List.mem_append_right _ h9)))))) (List.mem_of_getElem? (i := 3) rfl) dX5_isIndexRight_12 ?_
    refine q_icmp_ge (tgt := 63) hx hb dX5_isIndexRight_15 (by decide) h (fun h => ?_) (fun h => ?_)
    · refine lv_aload_n hx hb dX5_isIndexRight_63 rfl (lv_at hl 0 rfl) ?_
      refine gf_HW_shingleIndex C0 hw (fun _ h9 => List.mem_cons_of_mem _ (List.mem_append_left _ (List.mem_append_left _ (List.mem_append_left _ (List.mem_append_left _ (List.mem_append_right _ h9)))))) (List.mem_of_getElem? (i := 7) rfl) dX5_isIndexRight_64 ?_
      refine lv_aload_n hx hb dX5_isIndexRight_67 rfl (lv_at hl 0 rfl) ?_
      refine gf_HW_indexAnew C0 hw (fun _ h9 => List.mem_cons_of_mem _ (List.mem_append_left _ (List.mem_append_left _ (List.mem_append_left _ (List.mem_append_left _ (List.mem_append_right _ h9)))))) (List.mem_of_getElem? (i := 1) rfl) dX5_isIndexRight_68 ?_
      refine q_callVNi (As := [.ref (ad (cBag 61))]) (nA := 1) C0 hw (at_Bag (Nat.le_of_ble_eq_true rfl)) rfl (fun r1 h1 => ctX0_isLike hst (Nat.le_of_ble_eq_true rfl) (Nat.le_of_ble_eq_true rfl) h1) gX5_isIndexRight_X0_isLike rfl ⟨rfl, rfl⟩ (by decide +kernel) rfl ⟨(Nat.le_of_ble_eq_true rfl), (Nat.le_of_ble_eq_true rfl)⟩ hl.1 (Nat.le_of_ble_eq_true rfl) ⟨(Nat.le_of_ble_eq_true rfl), (Nat.le_of_ble_eq_true rfl)⟩ rfl h dX5_isIndexRight_71 (fun M1 z2 H locs hw h => ?_)
      refine q_guard h (fun g h => ?_)
      exact q_zretN C0 hw (q_isZ_in g) h ⟨(Nat.le_of_ble_eq_true rfl), (Nat.le_of_ble_eq_true rfl)⟩ dX5_isIndexRight_74
    · refine lv_aload_n hx hb dX5_isIndexRight_18 rfl (lv_at hl 0 rfl) ?_
      refine gf_HW_versions C0 hw (fun _ h9 => List.mem_cons_of_mem _ (List.mem_append_left _ (List.mem_append_left _ (List.mem_append_left _ (List.mem_append_left _ (List.mem_append_right _ h9)))))) (List.mem_of_getElem? (i := 4) rfl) dX5_isIndexRight_19 ?_
      refine lv_iload_n hx hb dX5_isIndexRight_22 rfl (lv_at hl 1 rfl) ?_
      refine q_aald (t := 6) C0 hw at_vers rfl h dX5_isIndexRight_23 (fun j1 hj1 h => ?_)
      refine q_callVNi (As := []) (nA := 0) C0 hw (at_Ver hj1) rfl (fun r1 h1 => ctX4_isThere hst hj1 h1) gX5_isIndexRight_X4_isThere rfl ⟨rfl, rfl⟩ (by decide +kernel) rfl ⟨(Nat.le_of_ble_eq_true rfl), (Nat.le_of_ble_eq_true rfl)⟩ hl.1 (Nat.le_of_ble_eq_true rfl) ⟨(Nat.le_of_ble_eq_true rfl), (Nat.le_of_ble_eq_true rfl)⟩ rfl h dX5_isIndexRight_24 (fun M2 z3 H locs hw h => ?_)
      refine q_if_eq (tgt := 57) hx hb dX5_isIndexRight_27 (by decide) h (fun h => ?_) (fun h => ?_)
      · exact wX5_isIndexRight_57 hst C0 ih M2 v1 _ _ _ hw (lv_sub hl [0, 1] rfl) h
      · refine lv_aload_n hx hb dX5_isIndexRight_30 rfl (lv_at hl 0 rfl) ?_
        refine gf_HW_versions C0 hw (fun _ h9 => List.mem_cons_of_mem _ (List.mem_append_left _ (List.mem_append_left _ (List.mem_append_left _ (List.mem_append_left _ (List.mem_append_right _ h9)))))) (List.mem_of_getElem? (i := 4) rfl) dX5_isIndexRight_31 ?_
        refine lv_iload_n hx hb dX5_isIndexRight_34 rfl (lv_at hl 1 rfl) ?_
        refine q_aald (t := 6) C0 hw at_vers rfl h dX5_isIndexRight_35 (fun j4 hj4 h => ?_)
        refine gf_Ver_text C0 hw hj4 (fun _ h9 => List.mem_cons_of_mem _ (List.mem_append_left _ (List.mem_append_left _ (List.mem_append_right _ h9)))) (List.mem_of_getElem? (i := 5) rfl) dX5_isIndexRight_36 ?_
        refine lv_aload_n hx hb dX5_isIndexRight_39 rfl (lv_at hl 0 rfl) ?_
        refine gf_HW_shinglesAnew C0 hw (fun _ h9 => List.mem_cons_of_mem _ (List.mem_append_left _ (List.mem_append_left _ (List.mem_append_left _ (List.mem_append_left _ (List.mem_append_right _ h9)))))) (List.mem_of_getElem? (i := 6) rfl) dX5_isIndexRight_40 ?_
        refine q_callVNv (As := [.ref (ad (cBag 62))]) (nA := 1) C0 hw (at_Text (Nat.lt_of_lt_of_le hj4 (Nat.le_of_ble_eq_true rfl))) rfl (fun r1 h1 => ctX3_cutInto hst (Nat.lt_of_lt_of_le hj4 (Nat.le_of_ble_eq_true rfl)) (Nat.le_of_ble_eq_true rfl) h1) gX5_isIndexRight_X3_cutInto rfl ⟨rfl, rfl⟩ (by decide +kernel) rfl ⟨(Nat.le_of_ble_eq_true rfl), (Nat.le_of_ble_eq_true rfl)⟩ hl.1 (Nat.le_of_ble_eq_true rfl) ⟨(Nat.le_of_ble_eq_true rfl), (Nat.le_of_ble_eq_true rfl)⟩ rfl h dX5_isIndexRight_43 (fun M5 H locs hw h => ?_)
        refine lv_aload_n hx hb dX5_isIndexRight_46 rfl (lv_at hl 0 rfl) ?_
        refine gf_HW_indexAnew C0 hw (fun _ h9 => List.mem_cons_of_mem _ (List.mem_append_left _ (List.mem_append_left _ (List.mem_append_left _ (List.mem_append_left _ (List.mem_append_right _ h9)))))) (List.mem_of_getElem? (i := 1) rfl) dX5_isIndexRight_47 ?_
        refine lv_aload_n hx hb dX5_isIndexRight_50 rfl (lv_at hl 0 rfl) ?_
        refine gf_HW_shinglesAnew C0 hw (fun _ h9 => List.mem_cons_of_mem _ (List.mem_append_left _ (List.mem_append_left _ (List.mem_append_left _ (List.mem_append_left _ (List.mem_append_right _ h9)))))) (List.mem_of_getElem? (i := 6) rfl) dX5_isIndexRight_51 ?_
        refine q_callVNv (As := [.ref (ad (cBag 62))]) (nA := 1) C0 hw (at_Bag (Nat.le_of_ble_eq_true rfl)) rfl (fun r1 h1 => ctX0_addKeysOf hst (Nat.le_of_ble_eq_true rfl) (Nat.le_of_ble_eq_true rfl) h1) gX5_isIndexRight_X0_addKeysOf rfl ⟨rfl, rfl⟩ (by decide +kernel) rfl ⟨(Nat.le_of_ble_eq_true rfl), (Nat.le_of_ble_eq_true rfl)⟩ hl.1 (Nat.le_of_ble_eq_true rfl) ⟨(Nat.le_of_ble_eq_true rfl), (Nat.le_of_ble_eq_true rfl)⟩ rfl h dX5_isIndexRight_54 (fun M7 H locs hw h => ?_)
        exact wX5_isIndexRight_57 hst C0 ih M7 v1 _ _ _ hw (lv_sub hl [0, 1] rfl) h
def fX5_isIndexRight (F : Nat) (M : Mem) : Option (Mem × Int32) :=
    q_lt (up M 9 61 0 (0 : Int32)) fun M1 =>
    q_lt ((0 : Int32)) fun z2 =>
    fX5_isIndexRight_10 F F M1 z2
set_option maxHeartbeats 4000000 in
set_option maxRecDepth 100000 in
theorem ctX5_isIndexRight {l : Launch} (hst : l.stackTraces = false) {D : va_G} {cy : Nat → ClassId} {ad : Nat → Nat} {x : XX} {F : Nat} {M : Mem} {r : Mem × Int32} (h : fX5_isIndexRight F M = some r) : CN l yX5_isIndexRight wsX5_isIndexRight rmX5_isIndexRight D cy ad [.ref (ad 0)] x M x r.1 (q_vi r.2) 0 0 := by
  refine q_startN (cc := cX5_isIndexRight) (maxL := 2) (ret := (some .boolean)) (by decide) rfl (Nat.le_of_ble_eq_true rfl) ?_
  intro p e s m args below meth c ls C0 hw hl hnm
  obtain ⟨hx, hb, hml, hown, hts, -⟩ := id C0
  have C0 : MX p l s m args meth c D cy ad cX5_isIndexRight RX5 2 wsX5_isIndexRight ((some .boolean)) := C0
  have hown : s.vm.findClass RX5 = some m.cls := hown
  have hl : lv_has ls 2 [(0, .ref (ad 0))] := hl
  show W p l e rmX5_isIndexRight s m args below meth c s.heap [] 0 0 (QN D cy ad below args s x q_vi r 0 0) (F0 m 0 ls [])
  unfold fX5_isIndexRight at h
  refine lv_aload_n hx hb dX5_isIndexRight_0 rfl (lv_at hl 0 rfl) ?_
  refine gf_HW_indexAnew C0 hw (fun _ h9 => List.mem_cons_of_mem _ (List.mem_append_left _ (List.mem_append_left _ (List.mem_append_left _ (List.mem_append_left _ (List.mem_append_right _ h9)))))) (List.mem_of_getElem? (i := 1) rfl) dX5_isIndexRight_1 ?_
  refine lv_iconst (v := 0) hx hb dX5_isIndexRight_4 (by decide) ?_
  refine pf_Bag_size C0 hw (Nat.le_of_ble_eq_true rfl) (fun _ h9 => List.mem_cons_of_mem _ (List.mem_append_left _ (List.mem_append_left _ (List.mem_append_left _ (List.mem_append_right _ h9))))) (List.mem_of_getElem? (i := 2) rfl) dX5_isIndexRight_5 h (fun M1 H locs hw h => ?_)
  refine lv_iconst (v := 0) hx hb dX5_isIndexRight_8 (by decide) ?_
  refine q_istore_n (lv' := fun z2 => [(1, .int z2), (0, .ref (ad 0))]) hx hb dX5_isIndexRight_9 rfl hl (by decide) (fun _ => rfl) h (fun z2 ls hl h => ?_)
  exact wX5_isIndexRight_10 hst C0  F M1 z2 _ _ _ hw (lv_sub hl [1, 0] rfl) h
/-! Homewatcher.isTrue()Z -/
abbrev rmX5_isTrue : Room := { frames := 4, cells := 0, slots := 0, locals := 147 }
def fX5_isTrue_26 (F : Nat) (M : Mem) (s0 : Int32) : Option (Mem × Int32) :=
    q_gd (q_isZ s0) (
    some (M, s0))
set_option maxHeartbeats 4000000 in
set_option maxRecDepth 100000 in
theorem wX5_isTrue_26 {p : Program} {l : Launch} {e : Env} {s : State} {m : MethodId} {args : Array Value} {below : List Frame} {meth : Method} {c : Code} {D : va_G} {cy : Nat → ClassId} {ad : Nat → Nat} {x : XX} {F : Nat} {r : Mem × Int32} (hst : l.stackTraces = false) (C0 : MX p l s m args meth c D cy ad cX5_isTrue RX5 1 wsX5_isTrue (some .boolean)) : ∀ (M : Mem) (s0 : Int32) (H : Heap) (locs : List Loc) (ls : Array Slot), Wd D cy ad x s M H locs → lv_has ls 1 [] → fX5_isTrue_26 F M s0 = some r → W p l e rmX5_isTrue s m args below meth c H locs 0 0 (QN D cy ad below args s x q_vi r 0 0) (F0 m 26 ls [.int s0]) := by
  obtain ⟨hx, hb, hml, hown, hts, -⟩ := id C0
  intro M s0 H locs ls hw hl h
  unfold fX5_isTrue_26 at h
  refine q_guard h (fun g h => ?_)
  exact q_zretN C0 hw (q_isZ_in g) h ⟨(Nat.le_of_ble_eq_true rfl), (Nat.le_of_ble_eq_true rfl)⟩ dX5_isTrue_26
def fX5_isTrue_25 (F : Nat) (M : Mem) : Option (Mem × Int32) :=
    fX5_isTrue_26 F M (0 : Int32)
set_option maxHeartbeats 4000000 in
set_option maxRecDepth 100000 in
theorem wX5_isTrue_25 {p : Program} {l : Launch} {e : Env} {s : State} {m : MethodId} {args : Array Value} {below : List Frame} {meth : Method} {c : Code} {D : va_G} {cy : Nat → ClassId} {ad : Nat → Nat} {x : XX} {F : Nat} {r : Mem × Int32} (hst : l.stackTraces = false) (C0 : MX p l s m args meth c D cy ad cX5_isTrue RX5 1 wsX5_isTrue (some .boolean)) : ∀ (M : Mem) (H : Heap) (locs : List Loc) (ls : Array Slot), Wd D cy ad x s M H locs → lv_has ls 1 [] → fX5_isTrue_25 F M = some r → W p l e rmX5_isTrue s m args below meth c H locs 0 0 (QN D cy ad below args s x q_vi r 0 0) (F0 m 25 ls []) := by
  obtain ⟨hx, hb, hml, hown, hts, -⟩ := id C0
  intro M H locs ls hw hl h
  unfold fX5_isTrue_25 at h
  refine lv_iconst (v := 0) hx hb dX5_isTrue_25 (by decide) ?_
  exact wX5_isTrue_26 hst C0  M (0 : Int32) _ _ _ hw (lv_sub hl [] rfl) h
def fX5_isTrue (F : Nat) (M : Mem) : Option (Mem × Int32) :=
    q_bn (fX5_isIndexRight F M) fun M1 z2 =>
    if z2 = (0 : Int32) then
    (fX5_isTrue_25 F M1)
    else
    (q_bn (fX5_areCountingRight F M1) fun M3 z4 =>
    if z4 = (0 : Int32) then
    (fX5_isTrue_25 F M3)
    else
    (q_bn (fX5_areMarksRight F M3) fun M5 z6 =>
    if z6 = (0 : Int32) then
    (fX5_isTrue_25 F M5)
    else
    (fX5_isTrue_26 F M5 (1 : Int32))))
set_option maxHeartbeats 4000000 in
set_option maxRecDepth 100000 in
theorem ctX5_isTrue {l : Launch} (hst : l.stackTraces = false) {D : va_G} {cy : Nat → ClassId} {ad : Nat → Nat} {x : XX} {F : Nat} {M : Mem} {r : Mem × Int32} (h : fX5_isTrue F M = some r) : CN l yX5_isTrue wsX5_isTrue rmX5_isTrue D cy ad [.ref (ad 0)] x M x r.1 (q_vi r.2) 0 0 := by
  refine q_startN (cc := cX5_isTrue) (maxL := 1) (ret := (some .boolean)) (by decide) rfl (Nat.le_of_ble_eq_true rfl) ?_
  intro p e s m args below meth c ls C0 hw hl hnm
  obtain ⟨hx, hb, hml, hown, hts, -⟩ := id C0
  have C0 : MX p l s m args meth c D cy ad cX5_isTrue RX5 1 wsX5_isTrue ((some .boolean)) := C0
  have hown : s.vm.findClass RX5 = some m.cls := hown
  have hl : lv_has ls 1 [(0, .ref (ad 0))] := hl
  show W p l e rmX5_isTrue s m args below meth c s.heap [] 0 0 (QN D cy ad below args s x q_vi r 0 0) (F0 m 0 ls [])
  unfold fX5_isTrue at h
  refine lv_aload_n hx hb dX5_isTrue_0 rfl (lv_at hl 0 rfl) ?_
  refine q_callVNi (As := []) (nA := 0) C0 hw at_HW rfl (fun r1 h1 => ctX5_isIndexRight hst h1) gX5_isTrue_X5_isIndexRight rfl ⟨rfl, rfl⟩ (by decide +kernel) rfl ⟨(Nat.le_of_ble_eq_true rfl), (Nat.le_of_ble_eq_true rfl)⟩ hl.1 (Nat.le_of_ble_eq_true rfl) ⟨(Nat.le_of_ble_eq_true rfl), (Nat.le_of_ble_eq_true rfl)⟩ rfl h dX5_isTrue_1 (fun M1 z2 H locs hw h => ?_)
  refine q_if_eq (tgt := 25) hx hb dX5_isTrue_4 (by decide) h (fun h => ?_) (fun h => ?_)
  · exact wX5_isTrue_25 hst C0  M1 _ _ _ hw (lv_sub hl [] rfl) h
  · refine lv_aload_n hx hb dX5_isTrue_7 rfl (lv_at hl 0 rfl) ?_
    refine q_callVNi (As := []) (nA := 0) C0 hw at_HW rfl (fun r1 h1 => ctX5_areCountingRight hst h1) gX5_isTrue_X5_areCountingRight rfl ⟨rfl, rfl⟩ (by decide +kernel) rfl ⟨(Nat.le_of_ble_eq_true rfl), (Nat.le_of_ble_eq_true rfl)⟩ hl.1 (Nat.le_of_ble_eq_true rfl) ⟨(Nat.le_of_ble_eq_true rfl), (Nat.le_of_ble_eq_true rfl)⟩ rfl h dX5_isTrue_8 (fun M3 z4 H locs hw h => ?_)
    refine q_if_eq (tgt := 25) hx hb dX5_isTrue_11 (by decide) h (fun h => ?_) (fun h => ?_)
    · exact wX5_isTrue_25 hst C0  M3 _ _ _ hw (lv_sub hl [] rfl) h
    · refine lv_aload_n hx hb dX5_isTrue_14 rfl (lv_at hl 0 rfl) ?_
      refine q_callVNi (As := []) (nA := 0) C0 hw at_HW rfl (fun r1 h1 => ctX5_areMarksRight hst h1) gX5_isTrue_X5_areMarksRight rfl ⟨rfl, rfl⟩ (by decide +kernel) rfl ⟨(Nat.le_of_ble_eq_true rfl), (Nat.le_of_ble_eq_true rfl)⟩ hl.1 (Nat.le_of_ble_eq_true rfl) ⟨(Nat.le_of_ble_eq_true rfl), (Nat.le_of_ble_eq_true rfl)⟩ rfl h dX5_isTrue_15 (fun M5 z6 H locs hw h => ?_)
      refine q_if_eq (tgt := 25) hx hb dX5_isTrue_18 (by decide) h (fun h => ?_) (fun h => ?_)
      · exact wX5_isTrue_25 hst C0  M5 _ _ _ hw (lv_sub hl [] rfl) h
      · refine lv_iconst (v := 1) hx hb dX5_isTrue_21 (by decide) ?_
        refine lv_goto (tgt := 26) hx hb dX5_isTrue_22 (by decide) ?_
        exact wX5_isTrue_26 hst C0  M5 (1 : Int32) _ _ _ hw (lv_sub hl [] rfl) h
