/-! HomewatcherModel.thrown()I -/
abbrev rmX6_thrown : Room := { frames := 0, cells := 0, slots := 0, locals := 0 }
def fX6_thrown (F : Nat) (M : Mem) : Option (Mem × Int32) :=
    some (M, M 69 0 0)
set_option maxHeartbeats 4000000 in
set_option maxRecDepth 100000 in
theorem ctX6_thrown {l : Launch} (hst : l.stackTraces = false) {D : va_G} {cy : Nat → ClassId} {ad : Nat → Nat} {x : XX} {F : Nat} {M : Mem} {r : Mem × Int32} (h : fX6_thrown F M = some r) : CN l yX6_thrown wsX6_thrown rmX6_thrown D cy ad [.ref (ad 427)] x M x r.1 (q_vi r.2) 0 0 := by
  refine q_startN (cc := cX6_thrown) (maxL := 1) (ret := (some .int)) (by decide) rfl (Nat.le_of_ble_eq_true rfl) ?_
  intro p e s m args below meth c ls C0 hw hl hnm
  obtain ⟨hx, hb, hml, hown, hts, -⟩ := id C0
  have C0 : MX p l s m args meth c D cy ad cX6_thrown RX6 1 wsX6_thrown ((some .int)) := C0
  have hown : s.vm.findClass RX6 = some m.cls := hown
  have hl : lv_has ls 1 [(0, .ref (ad 427))] := hl
  show W p l e rmX6_thrown s m args below meth c s.heap [] 0 0 (QN D cy ad below args s x q_vi r 0 0) (F0 m 0 ls [])
  unfold fX6_thrown at h
  refine lv_aload_n hx hb dX6_thrown_0 rfl (lv_at hl 0 rfl) ?_
  refine gf_Mod_thrown C0 hw (fun _ h9 => List.mem_cons_of_mem _ (List.mem_append_right _ h9)) (List.mem_of_getElem? (i := 1) rfl) dX6_thrown_1 ?_
  exact q_iretN C0 hw h ⟨(Nat.le_of_ble_eq_true rfl), (Nat.le_of_ble_eq_true rfl)⟩ dX6_thrown_4
/-! HomewatcherModel.greater(II)I -/
abbrev rmX6_greater : Room := { frames := 0, cells := 0, slots := 0, locals := 0 }
def fX6_greater_10 (F : Nat) (M : Mem) (s0 : Int32) : Option (Mem × Int32) :=
    some (M, s0)
set_option maxHeartbeats 4000000 in
set_option maxRecDepth 100000 in
theorem wX6_greater_10 {p : Program} {l : Launch} {e : Env} {s : State} {m : MethodId} {args : Array Value} {below : List Frame} {meth : Method} {c : Code} {D : va_G} {cy : Nat → ClassId} {ad : Nat → Nat} {x : XX} {F : Nat} {r : Mem × Int32} (hst : l.stackTraces = false) (C0 : MX p l s m args meth c D cy ad cX6_greater RX6 2 wsX6_greater (some .int)) : ∀ (M : Mem) (s0 : Int32) (H : Heap) (locs : List Loc) (ls : Array Slot), Wd D cy ad x s M H locs → lv_has ls 2 [] → fX6_greater_10 F M s0 = some r → W p l e rmX6_greater s m args below meth c H locs 0 0 (QN D cy ad below args s x q_vi r 0 0) (F0 m 10 ls [.int s0]) := by
  obtain ⟨hx, hb, hml, hown, hts, -⟩ := id C0
  intro M s0 H locs ls hw hl h
  unfold fX6_greater_10 at h
  exact q_iretN C0 hw h ⟨(Nat.le_of_ble_eq_true rfl), (Nat.le_of_ble_eq_true rfl)⟩ dX6_greater_10
def fX6_greater (F : Nat) (M : Mem) (a0 : Int32) (a1 : Int32) : Option (Mem × Int32) :=
    if a0 ≤ a1 then
    (fX6_greater_10 F M a1)
    else
    (fX6_greater_10 F M a0)
set_option maxHeartbeats 4000000 in
set_option maxRecDepth 100000 in
theorem ctX6_greater {l : Launch} (hst : l.stackTraces = false) {D : va_G} {cy : Nat → ClassId} {ad : Nat → Nat} {x : XX} {F : Nat} {M : Mem} {a0 : Int32} {a1 : Int32} {r : Mem × Int32} (h : fX6_greater F M a0 a1 = some r) : CN l yX6_greater wsX6_greater rmX6_greater D cy ad [.int a0, .int a1] x M x r.1 (q_vi r.2) 0 0 := by
  refine q_startN (cc := cX6_greater) (maxL := 2) (ret := (some .int)) (by decide) rfl (Nat.le_of_ble_eq_true rfl) ?_
  intro p e s m args below meth c ls C0 hw hl hnm
  obtain ⟨hx, hb, hml, hown, hts, -⟩ := id C0
  have C0 : MX p l s m args meth c D cy ad cX6_greater RX6 2 wsX6_greater ((some .int)) := C0
  have hown : s.vm.findClass RX6 = some m.cls := hown
  have hl : lv_has ls 2 [(0, .int a0), (1, .int a1)] := hl
  show W p l e rmX6_greater s m args below meth c s.heap [] 0 0 (QN D cy ad below args s x q_vi r 0 0) (F0 m 0 ls [])
  unfold fX6_greater at h
  refine lv_iload_n hx hb dX6_greater_0 rfl (lv_at hl 0 rfl) ?_
  refine lv_iload_n hx hb dX6_greater_1 rfl (lv_at hl 1 rfl) ?_
  refine q_icmp_le (tgt := 9) hx hb dX6_greater_2 (by decide) h (fun h => ?_) (fun h => ?_)
  · refine lv_iload_n hx hb dX6_greater_9 rfl (lv_at hl 1 rfl) ?_
    exact wX6_greater_10 hst C0  M a1 _ _ _ hw (lv_sub hl [] rfl) h
  · refine lv_iload_n hx hb dX6_greater_5 rfl (lv_at hl 0 rfl) ?_
    refine lv_goto (tgt := 10) hx hb dX6_greater_6 (by decide) ?_
    exact wX6_greater_10 hst C0  M a0 _ _ _ hw (lv_sub hl [] rfl) h
/-! HomewatcherModel.lesser(II)I -/
abbrev rmX6_lesser : Room := { frames := 0, cells := 0, slots := 0, locals := 0 }
def fX6_lesser_10 (F : Nat) (M : Mem) (s0 : Int32) : Option (Mem × Int32) :=
    some (M, s0)
set_option maxHeartbeats 4000000 in
set_option maxRecDepth 100000 in
theorem wX6_lesser_10 {p : Program} {l : Launch} {e : Env} {s : State} {m : MethodId} {args : Array Value} {below : List Frame} {meth : Method} {c : Code} {D : va_G} {cy : Nat → ClassId} {ad : Nat → Nat} {x : XX} {F : Nat} {r : Mem × Int32} (hst : l.stackTraces = false) (C0 : MX p l s m args meth c D cy ad cX6_lesser RX6 2 wsX6_lesser (some .int)) : ∀ (M : Mem) (s0 : Int32) (H : Heap) (locs : List Loc) (ls : Array Slot), Wd D cy ad x s M H locs → lv_has ls 2 [] → fX6_lesser_10 F M s0 = some r → W p l e rmX6_lesser s m args below meth c H locs 0 0 (QN D cy ad below args s x q_vi r 0 0) (F0 m 10 ls [.int s0]) := by
  obtain ⟨hx, hb, hml, hown, hts, -⟩ := id C0
  intro M s0 H locs ls hw hl h
  unfold fX6_lesser_10 at h
  exact q_iretN C0 hw h ⟨(Nat.le_of_ble_eq_true rfl), (Nat.le_of_ble_eq_true rfl)⟩ dX6_lesser_10
def fX6_lesser (F : Nat) (M : Mem) (a0 : Int32) (a1 : Int32) : Option (Mem × Int32) :=
    if a1 ≤ a0 then
    (fX6_lesser_10 F M a1)
    else
    (fX6_lesser_10 F M a0)
set_option maxHeartbeats 4000000 in
set_option maxRecDepth 100000 in
theorem ctX6_lesser {l : Launch} (hst : l.stackTraces = false) {D : va_G} {cy : Nat → ClassId} {ad : Nat → Nat} {x : XX} {F : Nat} {M : Mem} {a0 : Int32} {a1 : Int32} {r : Mem × Int32} (h : fX6_lesser F M a0 a1 = some r) : CN l yX6_lesser wsX6_lesser rmX6_lesser D cy ad [.int a0, .int a1] x M x r.1 (q_vi r.2) 0 0 := by
  refine q_startN (cc := cX6_lesser) (maxL := 2) (ret := (some .int)) (by decide) rfl (Nat.le_of_ble_eq_true rfl) ?_
  intro p e s m args below meth c ls C0 hw hl hnm
  obtain ⟨hx, hb, hml, hown, hts, -⟩ := id C0
  have C0 : MX p l s m args meth c D cy ad cX6_lesser RX6 2 wsX6_lesser ((some .int)) := C0
  have hown : s.vm.findClass RX6 = some m.cls := hown
  have hl : lv_has ls 2 [(0, .int a0), (1, .int a1)] := hl
  show W p l e rmX6_lesser s m args below meth c s.heap [] 0 0 (QN D cy ad below args s x q_vi r 0 0) (F0 m 0 ls [])
  unfold fX6_lesser at h
  refine lv_iload_n hx hb dX6_lesser_0 rfl (lv_at hl 0 rfl) ?_
  refine lv_iload_n hx hb dX6_lesser_1 rfl (lv_at hl 1 rfl) ?_
  refine q_icmp_ge (tgt := 9) hx hb dX6_lesser_2 (by decide) h (fun h => ?_) (fun h => ?_)
  · refine lv_iload_n hx hb dX6_lesser_9 rfl (lv_at hl 1 rfl) ?_
    exact wX6_lesser_10 hst C0  M a1 _ _ _ hw (lv_sub hl [] rfl) h
  · refine lv_iload_n hx hb dX6_lesser_5 rfl (lv_at hl 0 rfl) ?_
    refine lv_goto (tgt := 10) hx hb dX6_lesser_6 (by decide) ?_
    exact wX6_lesser_10 hst C0  M a0 _ _ _ hw (lv_sub hl [] rfl) h
/-! HomewatcherModel.in(III)Z -/
abbrev rmX6_in : Room := { frames := 0, cells := 0, slots := 0, locals := 0 }
def fX6_in_15 (F : Nat) (M : Mem) (s0 : Int32) : Option (Mem × Int32) :=
    q_gd (q_isZ s0) (
    some (M, s0))
set_option maxHeartbeats 4000000 in
set_option maxRecDepth 100000 in
theorem wX6_in_15 {p : Program} {l : Launch} {e : Env} {s : State} {m : MethodId} {args : Array Value} {below : List Frame} {meth : Method} {c : Code} {D : va_G} {cy : Nat → ClassId} {ad : Nat → Nat} {x : XX} {F : Nat} {r : Mem × Int32} (hst : l.stackTraces = false) (C0 : MX p l s m args meth c D cy ad cX6_in RX6 3 wsX6_in (some .boolean)) : ∀ (M : Mem) (s0 : Int32) (H : Heap) (locs : List Loc) (ls : Array Slot), Wd D cy ad x s M H locs → lv_has ls 3 [] → fX6_in_15 F M s0 = some r → W p l e rmX6_in s m args below meth c H locs 0 0 (QN D cy ad below args s x q_vi r 0 0) (F0 m 15 ls [.int s0]) := by
  obtain ⟨hx, hb, hml, hown, hts, -⟩ := id C0
  intro M s0 H locs ls hw hl h
  unfold fX6_in_15 at h
  refine q_guard h (fun g h => ?_)
  exact q_zretN C0 hw (q_isZ_in g) h ⟨(Nat.le_of_ble_eq_true rfl), (Nat.le_of_ble_eq_true rfl)⟩ dX6_in_15
def fX6_in_14 (F : Nat) (M : Mem) : Option (Mem × Int32) :=
    fX6_in_15 F M (0 : Int32)
set_option maxHeartbeats 4000000 in
set_option maxRecDepth 100000 in
theorem wX6_in_14 {p : Program} {l : Launch} {e : Env} {s : State} {m : MethodId} {args : Array Value} {below : List Frame} {meth : Method} {c : Code} {D : va_G} {cy : Nat → ClassId} {ad : Nat → Nat} {x : XX} {F : Nat} {r : Mem × Int32} (hst : l.stackTraces = false) (C0 : MX p l s m args meth c D cy ad cX6_in RX6 3 wsX6_in (some .boolean)) : ∀ (M : Mem) (H : Heap) (locs : List Loc) (ls : Array Slot), Wd D cy ad x s M H locs → lv_has ls 3 [] → fX6_in_14 F M = some r → W p l e rmX6_in s m args below meth c H locs 0 0 (QN D cy ad below args s x q_vi r 0 0) (F0 m 14 ls []) := by
  obtain ⟨hx, hb, hml, hown, hts, -⟩ := id C0
  intro M H locs ls hw hl h
  unfold fX6_in_14 at h
  refine lv_iconst (v := 0) hx hb dX6_in_14 (by decide) ?_
  exact wX6_in_15 hst C0  M (0 : Int32) _ _ _ hw (lv_sub hl [] rfl) h
def fX6_in (F : Nat) (M : Mem) (a0 : Int32) (a1 : Int32) (a2 : Int32) : Option (Mem × Int32) :=
    if a0 < a1 then
    (fX6_in_14 F M)
    else
    (if a2 < a0 then
    (fX6_in_14 F M)
    else
    (fX6_in_15 F M (1 : Int32)))
set_option maxHeartbeats 4000000 in
set_option maxRecDepth 100000 in
theorem ctX6_in {l : Launch} (hst : l.stackTraces = false) {D : va_G} {cy : Nat → ClassId} {ad : Nat → Nat} {x : XX} {F : Nat} {M : Mem} {a0 : Int32} {a1 : Int32} {a2 : Int32} {r : Mem × Int32} (h : fX6_in F M a0 a1 a2 = some r) : CN l yX6_in wsX6_in rmX6_in D cy ad [.int a0, .int a1, .int a2] x M x r.1 (q_vi r.2) 0 0 := by
  refine q_startN (cc := cX6_in) (maxL := 3) (ret := (some .boolean)) (by decide) rfl (Nat.le_of_ble_eq_true rfl) ?_
  intro p e s m args below meth c ls C0 hw hl hnm
  obtain ⟨hx, hb, hml, hown, hts, -⟩ := id C0
  have C0 : MX p l s m args meth c D cy ad cX6_in RX6 3 wsX6_in ((some .boolean)) := C0
  have hown : s.vm.findClass RX6 = some m.cls := hown
  have hl : lv_has ls 3 [(0, .int a0), (1, .int a1), (2, .int a2)] := hl
  show W p l e rmX6_in s m args below meth c s.heap [] 0 0 (QN D cy ad below args s x q_vi r 0 0) (F0 m 0 ls [])
  unfold fX6_in at h
  refine lv_iload_n hx hb dX6_in_0 rfl (lv_at hl 0 rfl) ?_
  refine lv_iload_n hx hb dX6_in_1 rfl (lv_at hl 1 rfl) ?_
  refine q_icmp_lt (tgt := 14) hx hb dX6_in_2 (by decide) h (fun h => ?_) (fun h => ?_)
  · exact wX6_in_14 hst C0  M _ _ _ hw (lv_sub hl [] rfl) h
  · refine lv_iload_n hx hb dX6_in_5 rfl (lv_at hl 0 rfl) ?_
    refine lv_iload_n hx hb dX6_in_6 rfl (lv_at hl 2 rfl) ?_
    refine q_icmp_gt (tgt := 14) hx hb dX6_in_7 (by decide) h (fun h => ?_) (fun h => ?_)
    · exact wX6_in_14 hst C0  M _ _ _ hw (lv_sub hl [] rfl) h
    · refine lv_iconst (v := 1) hx hb dX6_in_10 (by decide) ?_
      refine lv_goto (tgt := 15) hx hb dX6_in_11 (by decide) ?_
      exact wX6_in_15 hst C0  M (1 : Int32) _ _ _ hw (lv_sub hl [] rfl) h
/-! HomewatcherModel.fails(I)I -/
abbrev rmX6_fails : Room := { frames := 0, cells := 0, slots := 0, locals := 0 }
def fX6_fails (F : Nat) (M : Mem) (a0 : Int32) : Option (Mem × Int32) :=
    q_lt (up M 69 0 0 a0) fun M1 =>
    some (M1, (0 : Int32))
set_option maxHeartbeats 4000000 in
set_option maxRecDepth 100000 in
theorem ctX6_fails {l : Launch} (hst : l.stackTraces = false) {D : va_G} {cy : Nat → ClassId} {ad : Nat → Nat} {x : XX} {F : Nat} {M : Mem} {a0 : Int32} {r : Mem × Int32} (h : fX6_fails F M a0 = some r) : CN l yX6_fails wsX6_fails rmX6_fails D cy ad [.ref (ad 427), .int a0] x M x r.1 (q_vi r.2) 0 0 := by
  refine q_startN (cc := cX6_fails) (maxL := 2) (ret := (some .int)) (by decide) rfl (Nat.le_of_ble_eq_true rfl) ?_
  intro p e s m args below meth c ls C0 hw hl hnm
  obtain ⟨hx, hb, hml, hown, hts, -⟩ := id C0
  have C0 : MX p l s m args meth c D cy ad cX6_fails RX6 2 wsX6_fails ((some .int)) := C0
  have hown : s.vm.findClass RX6 = some m.cls := hown
  have hl : lv_has ls 2 [(0, .ref (ad 427)), (1, .int a0)] := hl
  show W p l e rmX6_fails s m args below meth c s.heap [] 0 0 (QN D cy ad below args s x q_vi r 0 0) (F0 m 0 ls [])
  unfold fX6_fails at h
  refine lv_aload_n hx hb dX6_fails_0 rfl (lv_at hl 0 rfl) ?_
  refine lv_iload_n hx hb dX6_fails_1 rfl (lv_at hl 1 rfl) ?_
  refine pf_Mod_thrown C0 hw (fun _ h9 => List.mem_cons_of_mem _ (List.mem_append_right _ h9)) (List.mem_of_getElem? (i := 1) rfl) dX6_fails_2 h (fun M1 H locs hw h => ?_)
  refine lv_iconst (v := 0) hx hb dX6_fails_5 (by decide) ?_
  exact q_iretN C0 hw h ⟨(Nat.le_of_ble_eq_true rfl), (Nat.le_of_ble_eq_true rfl)⟩ dX6_fails_6
/-! HomewatcherModel.tells(I)I -/
abbrev rmX6_tells : Room := { frames := 0, cells := 0, slots := 0, locals := 0 }
def fX6_tells (F : Nat) (M : Mem) (a0 : Int32) : Option (Mem × Int32) :=
    q_lt (up M 69 0 0 (0 : Int32)) fun M1 =>
    some (M1, a0)
set_option maxHeartbeats 4000000 in
set_option maxRecDepth 100000 in
theorem ctX6_tells {l : Launch} (hst : l.stackTraces = false) {D : va_G} {cy : Nat → ClassId} {ad : Nat → Nat} {x : XX} {F : Nat} {M : Mem} {a0 : Int32} {r : Mem × Int32} (h : fX6_tells F M a0 = some r) : CN l yX6_tells wsX6_tells rmX6_tells D cy ad [.ref (ad 427), .int a0] x M x r.1 (q_vi r.2) 0 0 := by
  refine q_startN (cc := cX6_tells) (maxL := 2) (ret := (some .int)) (by decide) rfl (Nat.le_of_ble_eq_true rfl) ?_
  intro p e s m args below meth c ls C0 hw hl hnm
  obtain ⟨hx, hb, hml, hown, hts, -⟩ := id C0
  have C0 : MX p l s m args meth c D cy ad cX6_tells RX6 2 wsX6_tells ((some .int)) := C0
  have hown : s.vm.findClass RX6 = some m.cls := hown
  have hl : lv_has ls 2 [(0, .ref (ad 427)), (1, .int a0)] := hl
  show W p l e rmX6_tells s m args below meth c s.heap [] 0 0 (QN D cy ad below args s x q_vi r 0 0) (F0 m 0 ls [])
  unfold fX6_tells at h
  refine lv_aload_n hx hb dX6_tells_0 rfl (lv_at hl 0 rfl) ?_
  refine lv_iconst (v := 0) hx hb dX6_tells_1 (by decide) ?_
  refine pf_Mod_thrown C0 hw (fun _ h9 => List.mem_cons_of_mem _ (List.mem_append_right _ h9)) (List.mem_of_getElem? (i := 1) rfl) dX6_tells_2 h (fun M1 H locs hw h => ?_)
  refine lv_iload_n hx hb dX6_tells_5 rfl (lv_at hl 1 rfl) ?_
  exact q_iretN C0 hw h ⟨(Nat.le_of_ble_eq_true rfl), (Nat.le_of_ble_eq_true rfl)⟩ dX6_tells_6
/-! HomewatcherModel.classroom(I)I -/
abbrev rmX6_classroom : Room := { frames := 1, cells := 0, slots := 0, locals := 22 }
def fX6_classroom (F : Nat) (M : Mem) (a0 : Int32) : Option (Mem × Int32) :=
    q_bn (fX6_in F M a0 (-720 : Int32) (720 : Int32)) fun M1 z2 =>
    if z2 = (0 : Int32) then
    (q_bn (fX6_fails F M1 (1 : Int32)) fun M3 z4 =>
    some (M3, z4))
    else
    (if (M1 61 0 0) = (4 : Int32) then
    (q_bn (fX6_fails F M1 (2 : Int32)) fun M3 z4 =>
    some (M3, z4))
    else
    (q_ax (M1 61 0 0) 4 fun j3 =>
    q_lt (up M1 25 0 j3 a0) fun M4 =>
    q_lt (up M4 61 0 0 ((M4 61 0 0) + (1 : Int32))) fun M5 =>
    q_bn (fX6_tells F M5 ((M5 61 0 0) - (1 : Int32))) fun M6 z7 =>
    some (M6, z7)))
set_option maxHeartbeats 4000000 in
set_option maxRecDepth 100000 in
theorem ctX6_classroom {l : Launch} (hst : l.stackTraces = false) {D : va_G} {cy : Nat → ClassId} {ad : Nat → Nat} {x : XX} {F : Nat} {M : Mem} {a0 : Int32} {r : Mem × Int32} (h : fX6_classroom F M a0 = some r) : CN l yX6_classroom wsX6_classroom rmX6_classroom D cy ad [.ref (ad 427), .int a0] x M x r.1 (q_vi r.2) 0 0 := by
  refine q_startN (cc := cX6_classroom) (maxL := 2) (ret := (some .int)) (by decide) rfl (Nat.le_of_ble_eq_true rfl) ?_
  intro p e s m args below meth c ls C0 hw hl hnm
  obtain ⟨hx, hb, hml, hown, hts, -⟩ := id C0
  have C0 : MX p l s m args meth c D cy ad cX6_classroom RX6 2 wsX6_classroom ((some .int)) := C0
  have hown : s.vm.findClass RX6 = some m.cls := hown
  have hl : lv_has ls 2 [(0, .ref (ad 427)), (1, .int a0)] := hl
  show W p l e rmX6_classroom s m args below meth c s.heap [] 0 0 (QN D cy ad below args s x q_vi r 0 0) (F0 m 0 ls [])
  unfold fX6_classroom at h
  refine lv_iload_n hx hb dX6_classroom_0 rfl (lv_at hl 1 rfl) ?_
  refine lv_sipush (v := -720) hx hb dX6_classroom_1 (by decide) ?_
  refine lv_sipush (v := 720) hx hb dX6_classroom_4 (by decide) ?_
  refine q_callSNi (As := [.int a0, .int ((-720 : Int32)), .int ((720 : Int32))]) (nA := 3) C0 hw (fun r1 h1 => ctX6_in hst h1) gX6_classroom_X6_in rfl ⟨rfl, rfl⟩ (by decide +kernel) rfl ⟨(Nat.le_of_ble_eq_true rfl), (Nat.le_of_ble_eq_true rfl)⟩ hl.1 (Nat.le_of_ble_eq_true rfl) ⟨(Nat.le_of_ble_eq_true rfl), (Nat.le_of_ble_eq_true rfl)⟩ rfl h dX6_classroom_7 (fun M1 z2 H locs hw h => ?_)
  refine q_if_ne (tgt := 19) hx hb dX6_classroom_10 (by decide) h (fun h => ?_) (fun h => ?_)
  · refine lv_aload_n hx hb dX6_classroom_19 rfl (lv_at hl 0 rfl) ?_
    refine gf_Mod_classes C0 hw (fun _ h9 => List.mem_cons_of_mem _ (List.mem_append_left _ (List.mem_append_right _ h9))) (List.mem_of_getElem? (i := 1) rfl) dX6_classroom_20 ?_
    refine lv_iconst (v := 4) hx hb dX6_classroom_23 (by decide) ?_
    refine q_icmp_ne (tgt := 33) hx hb dX6_classroom_24 (by decide) h (fun h => ?_) (fun h => ?_)
    · refine lv_aload_n hx hb dX6_classroom_33 rfl (lv_at hl 0 rfl) ?_
      refine gf_Mod_offsets C0 hw (fun _ h9 => List.mem_cons_of_mem _ (List.mem_append_left _ (List.mem_append_right _ h9))) (List.mem_of_getElem? (i := 2) rfl) dX6_classroom_34 ?_
      refine lv_aload_n hx hb dX6_classroom_37 rfl (lv_at hl 0 rfl) ?_
      refine gf_Mod_classes C0 hw (fun _ h9 => List.mem_cons_of_mem _ (List.mem_append_left _ (List.mem_append_right _ h9))) (List.mem_of_getElem? (i := 1) rfl) dX6_classroom_38 ?_
      refine lv_iload_n hx hb dX6_classroom_41 rfl (lv_at hl 1 rfl) ?_
      refine q_iast (v := 25) C0 hw rfl (fun _ => at_m25) h dX6_classroom_42 (fun j3 M4 H locs hj3 hw h => ?_)
      refine lv_aload_n hx hb dX6_classroom_43 rfl (lv_at hl 0 rfl) ?_
      refine lv_dup hx hb dX6_classroom_44 rfl ?_
      refine gf_Mod_classes C0 hw (fun _ h9 => List.mem_cons_of_mem _ (List.mem_append_left _ (List.mem_append_right _ h9))) (List.mem_of_getElem? (i := 1) rfl) dX6_classroom_45 ?_
      refine lv_iconst (v := 1) hx hb dX6_classroom_48 (by decide) ?_
      refine lv_iadd hx hb dX6_classroom_49 ?_
      refine pf_Mod_classes C0 hw (fun _ h9 => List.mem_cons_of_mem _ (List.mem_append_left _ (List.mem_append_right _ h9))) (List.mem_of_getElem? (i := 1) rfl) dX6_classroom_50 h (fun M5 H locs hw h => ?_)
      refine lv_aload_n hx hb dX6_classroom_53 rfl (lv_at hl 0 rfl) ?_
      refine lv_aload_n hx hb dX6_classroom_54 rfl (lv_at hl 0 rfl) ?_
      refine gf_Mod_classes C0 hw (fun _ h9 => List.mem_cons_of_mem _ (List.mem_append_left _ (List.mem_append_right _ h9))) (List.mem_of_getElem? (i := 1) rfl) dX6_classroom_55 ?_
      refine lv_iconst (v := 1) hx hb dX6_classroom_58 (by decide) ?_
      refine lv_isub hx hb dX6_classroom_59 ?_
      refine q_callVNi (As := [.int ((M5 61 0 0) - (1 : Int32))]) (nA := 1) C0 hw at_Mod rfl (fun r1 h1 => ctX6_tells hst h1) gX6_classroom_X6_tells rfl ⟨rfl, rfl⟩ (by decide +kernel) rfl ⟨(Nat.le_of_ble_eq_true rfl), (Nat.le_of_ble_eq_true rfl)⟩ hl.1 (Nat.le_of_ble_eq_true rfl) ⟨(Nat.le_of_ble_eq_true rfl), (Nat.le_of_ble_eq_true rfl)⟩ rfl h dX6_classroom_60 (fun M6 z7 H locs hw h => ?_)
      exact q_iretN C0 hw h ⟨(Nat.le_of_ble_eq_true rfl), (Nat.le_of_ble_eq_true rfl)⟩ dX6_classroom_63
    · refine lv_aload_n hx hb dX6_classroom_27 rfl (lv_at hl 0 rfl) ?_
      refine lv_iconst (v := 2) hx hb dX6_classroom_28 (by decide) ?_
      refine q_callVNi (As := [.int ((2 : Int32))]) (nA := 1) C0 hw at_Mod rfl (fun r1 h1 => ctX6_fails hst h1) gX6_classroom_X6_fails rfl ⟨rfl, rfl⟩ (by decide +kernel) rfl ⟨(Nat.le_of_ble_eq_true rfl), (Nat.le_of_ble_eq_true rfl)⟩ hl.1 (Nat.le_of_ble_eq_true rfl) ⟨(Nat.le_of_ble_eq_true rfl), (Nat.le_of_ble_eq_true rfl)⟩ rfl h dX6_classroom_29 (fun M3 z4 H locs hw h => ?_)
      exact q_iretN C0 hw h ⟨(Nat.le_of_ble_eq_true rfl), (Nat.le_of_ble_eq_true rfl)⟩ dX6_classroom_32
  · refine lv_aload_n hx hb dX6_classroom_13 rfl (lv_at hl 0 rfl) ?_
    refine lv_iconst (v := 1) hx hb dX6_classroom_14 (by decide) ?_
    refine q_callVNi (As := [.int ((1 : Int32))]) (nA := 1) C0 hw at_Mod rfl (fun r1 h1 => ctX6_fails hst h1) gX6_classroom_X6_fails rfl ⟨rfl, rfl⟩ (by decide +kernel) rfl ⟨(Nat.le_of_ble_eq_true rfl), (Nat.le_of_ble_eq_true rfl)⟩ hl.1 (Nat.le_of_ble_eq_true rfl) ⟨(Nat.le_of_ble_eq_true rfl), (Nat.le_of_ble_eq_true rfl)⟩ rfl h dX6_classroom_15 (fun M3 z4 H locs hw h => ?_)
    exact q_iretN C0 hw h ⟨(Nat.le_of_ble_eq_true rfl), (Nat.le_of_ble_eq_true rfl)⟩ dX6_classroom_18
/-! HomewatcherModel.isClass(I)Z -/
abbrev rmX6_isClass : Room := { frames := 1, cells := 0, slots := 0, locals := 22 }
def fX6_isClass (F : Nat) (M : Mem) (a0 : Int32) : Option (Mem × Int32) :=
    q_bn (fX6_in F M a0 (0 : Int32) ((M 61 0 0) - (1 : Int32))) fun M1 z2 =>
    q_gd (q_isZ z2) (
    some (M1, z2))
set_option maxHeartbeats 4000000 in
set_option maxRecDepth 100000 in
theorem ctX6_isClass {l : Launch} (hst : l.stackTraces = false) {D : va_G} {cy : Nat → ClassId} {ad : Nat → Nat} {x : XX} {F : Nat} {M : Mem} {a0 : Int32} {r : Mem × Int32} (h : fX6_isClass F M a0 = some r) : CN l yX6_isClass wsX6_isClass rmX6_isClass D cy ad [.ref (ad 427), .int a0] x M x r.1 (q_vi r.2) 0 0 := by
  refine q_startN (cc := cX6_isClass) (maxL := 2) (ret := (some .boolean)) (by decide) rfl (Nat.le_of_ble_eq_true rfl) ?_
  intro p e s m args below meth c ls C0 hw hl hnm
  obtain ⟨hx, hb, hml, hown, hts, -⟩ := id C0
  have C0 : MX p l s m args meth c D cy ad cX6_isClass RX6 2 wsX6_isClass ((some .boolean)) := C0
  have hown : s.vm.findClass RX6 = some m.cls := hown
  have hl : lv_has ls 2 [(0, .ref (ad 427)), (1, .int a0)] := hl
  show W p l e rmX6_isClass s m args below meth c s.heap [] 0 0 (QN D cy ad below args s x q_vi r 0 0) (F0 m 0 ls [])
  unfold fX6_isClass at h
  refine lv_iload_n hx hb dX6_isClass_0 rfl (lv_at hl 1 rfl) ?_
  refine lv_iconst (v := 0) hx hb dX6_isClass_1 (by decide) ?_
  refine lv_aload_n hx hb dX6_isClass_2 rfl (lv_at hl 0 rfl) ?_
  refine gf_Mod_classes C0 hw (fun _ h9 => List.mem_cons_of_mem _ (List.mem_append_right _ h9)) (List.mem_of_getElem? (i := 1) rfl) dX6_isClass_3 ?_
  refine lv_iconst (v := 1) hx hb dX6_isClass_6 (by decide) ?_
  refine lv_isub hx hb dX6_isClass_7 ?_
  refine q_callSNi (As := [.int a0, .int ((0 : Int32)), .int ((M 61 0 0) - (1 : Int32))]) (nA := 3) C0 hw (fun r1 h1 => ctX6_in hst h1) gX6_isClass_X6_in rfl ⟨rfl, rfl⟩ (by decide +kernel) rfl ⟨(Nat.le_of_ble_eq_true rfl), (Nat.le_of_ble_eq_true rfl)⟩ hl.1 (Nat.le_of_ble_eq_true rfl) ⟨(Nat.le_of_ble_eq_true rfl), (Nat.le_of_ble_eq_true rfl)⟩ rfl h dX6_isClass_8 (fun M1 z2 H locs hw h => ?_)
  refine q_guard h (fun g h => ?_)
  exact q_zretN C0 hw (q_isZ_in g) h ⟨(Nat.le_of_ble_eq_true rfl), (Nat.le_of_ble_eq_true rfl)⟩ dX6_isClass_11
/-! HomewatcherModel.pupil(I)I -/
abbrev rmX6_pupil : Room := { frames := 2, cells := 0, slots := 0, locals := 43 }
def fX6_pupil (F : Nat) (M : Mem) (a0 : Int32) : Option (Mem × Int32) :=
    q_bn (fX6_isClass F M a0) fun M1 z2 =>
    if z2 = (0 : Int32) then
    (q_bn (fX6_fails F M1 (1 : Int32)) fun M3 z4 =>
    some (M3, z4))
    else
    (if (M1 62 0 0) = (12 : Int32) then
    (q_bn (fX6_fails F M1 (2 : Int32)) fun M3 z4 =>
    some (M3, z4))
    else
    (q_ax (M1 62 0 0) 12 fun j3 =>
    q_lt (up M1 26 0 j3 a0) fun M4 =>
    q_lt (up M4 62 0 0 ((M4 62 0 0) + (1 : Int32))) fun M5 =>
    q_bn (fX6_tells F M5 ((M5 62 0 0) - (1 : Int32))) fun M6 z7 =>
    some (M6, z7)))
set_option maxHeartbeats 4000000 in
set_option maxRecDepth 100000 in
theorem ctX6_pupil {l : Launch} (hst : l.stackTraces = false) {D : va_G} {cy : Nat → ClassId} {ad : Nat → Nat} {x : XX} {F : Nat} {M : Mem} {a0 : Int32} {r : Mem × Int32} (h : fX6_pupil F M a0 = some r) : CN l yX6_pupil wsX6_pupil rmX6_pupil D cy ad [.ref (ad 427), .int a0] x M x r.1 (q_vi r.2) 0 0 := by
  refine q_startN (cc := cX6_pupil) (maxL := 2) (ret := (some .int)) (by decide) rfl (Nat.le_of_ble_eq_true rfl) ?_
  intro p e s m args below meth c ls C0 hw hl hnm
  obtain ⟨hx, hb, hml, hown, hts, -⟩ := id C0
  have C0 : MX p l s m args meth c D cy ad cX6_pupil RX6 2 wsX6_pupil ((some .int)) := C0
  have hown : s.vm.findClass RX6 = some m.cls := hown
  have hl : lv_has ls 2 [(0, .ref (ad 427)), (1, .int a0)] := hl
  show W p l e rmX6_pupil s m args below meth c s.heap [] 0 0 (QN D cy ad below args s x q_vi r 0 0) (F0 m 0 ls [])
  unfold fX6_pupil at h
  refine lv_aload_n hx hb dX6_pupil_0 rfl (lv_at hl 0 rfl) ?_
  refine lv_iload_n hx hb dX6_pupil_1 rfl (lv_at hl 1 rfl) ?_
  refine q_callVNi (As := [.int a0]) (nA := 1) C0 hw at_Mod rfl (fun r1 h1 => ctX6_isClass hst h1) gX6_pupil_X6_isClass rfl ⟨rfl, rfl⟩ (by decide +kernel) rfl ⟨(Nat.le_of_ble_eq_true rfl), (Nat.le_of_ble_eq_true rfl)⟩ hl.1 (Nat.le_of_ble_eq_true rfl) ⟨(Nat.le_of_ble_eq_true rfl), (Nat.le_of_ble_eq_true rfl)⟩ rfl h dX6_pupil_2 (fun M1 z2 H locs hw h => ?_)
  refine q_if_ne (tgt := 14) hx hb dX6_pupil_5 (by decide) h (fun h => ?_) (fun h => ?_)
  · refine lv_aload_n hx hb dX6_pupil_14 rfl (lv_at hl 0 rfl) ?_
    refine gf_Mod_pupils C0 hw (fun _ h9 => List.mem_cons_of_mem _ (List.mem_append_left _ (List.mem_append_right _ h9))) (List.mem_of_getElem? (i := 1) rfl) dX6_pupil_15 ?_
    refine lv_bipush (v := 12) hx hb dX6_pupil_18 (by decide) ?_
    refine q_icmp_ne (tgt := 29) hx hb dX6_pupil_20 (by decide) h (fun h => ?_) (fun h => ?_)
    · refine lv_aload_n hx hb dX6_pupil_29 rfl (lv_at hl 0 rfl) ?_
      refine gf_Mod_classOf C0 hw (fun _ h9 => List.mem_cons_of_mem _ (List.mem_append_left _ (List.mem_append_right _ h9))) (List.mem_of_getElem? (i := 2) rfl) dX6_pupil_30 ?_
      refine lv_aload_n hx hb dX6_pupil_33 rfl (lv_at hl 0 rfl) ?_
      refine gf_Mod_pupils C0 hw (fun _ h9 => List.mem_cons_of_mem _ (List.mem_append_left _ (List.mem_append_right _ h9))) (List.mem_of_getElem? (i := 1) rfl) dX6_pupil_34 ?_
      refine lv_iload_n hx hb dX6_pupil_37 rfl (lv_at hl 1 rfl) ?_
      refine q_iast (v := 26) C0 hw rfl (fun _ => at_m26) h dX6_pupil_38 (fun j3 M4 H locs hj3 hw h => ?_)
      refine lv_aload_n hx hb dX6_pupil_39 rfl (lv_at hl 0 rfl) ?_
      refine lv_dup hx hb dX6_pupil_40 rfl ?_
      refine gf_Mod_pupils C0 hw (fun _ h9 => List.mem_cons_of_mem _ (List.mem_append_left _ (List.mem_append_right _ h9))) (List.mem_of_getElem? (i := 1) rfl) dX6_pupil_41 ?_
      refine lv_iconst (v := 1) hx hb dX6_pupil_44 (by decide) ?_
      refine lv_iadd hx hb dX6_pupil_45 ?_
      refine pf_Mod_pupils C0 hw (fun _ h9 => List.mem_cons_of_mem _ (List.mem_append_left _ (List.mem_append_right _ h9))) (List.mem_of_getElem? (i := 1) rfl) dX6_pupil_46 h (fun M5 H locs hw h => ?_)
      refine lv_aload_n hx hb dX6_pupil_49 rfl (lv_at hl 0 rfl) ?_
      refine lv_aload_n hx hb dX6_pupil_50 rfl (lv_at hl 0 rfl) ?_
      refine gf_Mod_pupils C0 hw (fun _ h9 => List.mem_cons_of_mem _ (List.mem_append_left _ (List.mem_append_right _ h9))) (List.mem_of_getElem? (i := 1) rfl) dX6_pupil_51 ?_
      refine lv_iconst (v := 1) hx hb dX6_pupil_54 (by decide) ?_
      refine lv_isub hx hb dX6_pupil_55 ?_
      refine q_callVNi (As := [.int ((M5 62 0 0) - (1 : Int32))]) (nA := 1) C0 hw at_Mod rfl (fun r1 h1 => ctX6_tells hst h1) gX6_pupil_X6_tells rfl ⟨rfl, rfl⟩ (by decide +kernel) rfl ⟨(Nat.le_of_ble_eq_true rfl), (Nat.le_of_ble_eq_true rfl)⟩ hl.1 (Nat.le_of_ble_eq_true rfl) ⟨(Nat.le_of_ble_eq_true rfl), (Nat.le_of_ble_eq_true rfl)⟩ rfl h dX6_pupil_56 (fun M6 z7 H locs hw h => ?_)
      exact q_iretN C0 hw h ⟨(Nat.le_of_ble_eq_true rfl), (Nat.le_of_ble_eq_true rfl)⟩ dX6_pupil_59
    · refine lv_aload_n hx hb dX6_pupil_23 rfl (lv_at hl 0 rfl) ?_
      refine lv_iconst (v := 2) hx hb dX6_pupil_24 (by decide) ?_
      refine q_callVNi (As := [.int ((2 : Int32))]) (nA := 1) C0 hw at_Mod rfl (fun r1 h1 => ctX6_fails hst h1) gX6_pupil_X6_fails rfl ⟨rfl, rfl⟩ (by decide +kernel) rfl ⟨(Nat.le_of_ble_eq_true rfl), (Nat.le_of_ble_eq_true rfl)⟩ hl.1 (Nat.le_of_ble_eq_true rfl) ⟨(Nat.le_of_ble_eq_true rfl), (Nat.le_of_ble_eq_true rfl)⟩ rfl h dX6_pupil_25 (fun M3 z4 H locs hw h => ?_)
      exact q_iretN C0 hw h ⟨(Nat.le_of_ble_eq_true rfl), (Nat.le_of_ble_eq_true rfl)⟩ dX6_pupil_28
  · refine lv_aload_n hx hb dX6_pupil_8 rfl (lv_at hl 0 rfl) ?_
    refine lv_iconst (v := 1) hx hb dX6_pupil_9 (by decide) ?_
    refine q_callVNi (As := [.int ((1 : Int32))]) (nA := 1) C0 hw at_Mod rfl (fun r1 h1 => ctX6_fails hst h1) gX6_pupil_X6_fails rfl ⟨rfl, rfl⟩ (by decide +kernel) rfl ⟨(Nat.le_of_ble_eq_true rfl), (Nat.le_of_ble_eq_true rfl)⟩ hl.1 (Nat.le_of_ble_eq_true rfl) ⟨(Nat.le_of_ble_eq_true rfl), (Nat.le_of_ble_eq_true rfl)⟩ rfl h dX6_pupil_10 (fun M3 z4 H locs hw h => ?_)
    exact q_iretN C0 hw h ⟨(Nat.le_of_ble_eq_true rfl), (Nat.le_of_ble_eq_true rfl)⟩ dX6_pupil_13
/-! HomewatcherModel.task(IIICI)I -/
abbrev rmX6_task : Room := { frames := 2, cells := 0, slots := 0, locals := 43 }
def fX6_task_85 (F : Nat) (M : Mem) : Option (Mem × Int32) :=
    q_bn (fX6_fails F M (2 : Int32)) fun M1 z2 =>
    some (M1, z2)
set_option maxHeartbeats 4000000 in
set_option maxRecDepth 100000 in
theorem wX6_task_85 {p : Program} {l : Launch} {e : Env} {s : State} {m : MethodId} {args : Array Value} {below : List Frame} {meth : Method} {c : Code} {D : va_G} {cy : Nat → ClassId} {ad : Nat → Nat} {x : XX} {F : Nat} {r : Mem × Int32} (hst : l.stackTraces = false) (C0 : MX p l s m args meth c D cy ad cX6_task RX6 7 wsX6_task (some .int)) : ∀ (M : Mem) (H : Heap) (locs : List Loc) (ls : Array Slot), Wd D cy ad x s M H locs → lv_has ls 7 [(0, .ref (ad 427))] → fX6_task_85 F M = some r → W p l e rmX6_task s m args below meth c H locs 0 0 (QN D cy ad below args s x q_vi r 0 0) (F0 m 85 ls []) := by
  obtain ⟨hx, hb, hml, hown, hts, -⟩ := id C0
  intro M H locs ls hw hl h
  unfold fX6_task_85 at h
  refine lv_aload_n hx hb dX6_task_85 rfl (lv_at hl 0 rfl) ?_
  refine lv_iconst (v := 2) hx hb dX6_task_86 (by decide) ?_
  refine q_callVNi (As := [.int ((2 : Int32))]) (nA := 1) C0 hw at_Mod rfl (fun r1 h1 => ctX6_fails hst h1) gX6_task_X6_fails rfl ⟨rfl, rfl⟩ (by decide +kernel) rfl ⟨(Nat.le_of_ble_eq_true rfl), (Nat.le_of_ble_eq_true rfl)⟩ hl.1 (Nat.le_of_ble_eq_true rfl) ⟨(Nat.le_of_ble_eq_true rfl), (Nat.le_of_ble_eq_true rfl)⟩ rfl h dX6_task_87 (fun M1 z2 H locs hw h => ?_)
  exact q_iretN C0 hw h ⟨(Nat.le_of_ble_eq_true rfl), (Nat.le_of_ble_eq_true rfl)⟩ dX6_task_90
def fX6_task_47 (F : Nat) (M : Mem) (s0 : Int32) (v1 : Int32) (v2 : Int32) (v3 : Int32) (v4 : Int32) (v5 : Int32) : Option (Mem × Int32) :=
    q_lt (s0) fun z1 =>
    q_bn (fX6_in F M v2 (0 : Int32) (1000000 : Int32)) fun M2 z3 =>
    if z3 = (0 : Int32) then
    (fX6_task_85 F M2)
    else
    (q_bn (fX6_in F M2 v3 (1 : Int32) (100 : Int32)) fun M4 z5 =>
    if z5 = (0 : Int32) then
    (fX6_task_85 F M4)
    else
    (if z1 = (0 : Int32) then
    (fX6_task_85 F M4)
    else
    (q_bn (fX6_in F M4 v5 (0 : Int32) (100 : Int32)) fun M6 z7 =>
    if z7 = (0 : Int32) then
    (fX6_task_85 F M6)
    else
    (if (M6 63 0 0) = (10 : Int32) then
    (q_bn (fX6_fails F M6 (3 : Int32)) fun M8 z9 =>
    some (M8, z9))
    else
    (q_ax (M6 63 0 0) 10 fun j8 =>
    q_lt (up M6 27 0 j8 v1) fun M9 =>
    q_ax (M9 63 0 0) 10 fun j10 =>
    q_lt (up M9 28 0 j10 v2) fun M11 =>
    q_ax (M11 63 0 0) 10 fun j12 =>
    q_lt (up M11 29 0 j12 v3) fun M13 =>
    q_ax (M13 63 0 0) 10 fun j14 =>
    q_lt (up M13 31 0 j14 (vp_nar .char v4)) fun M15 =>
    q_ax (M15 63 0 0) 10 fun j16 =>
    q_lt (up M15 30 0 j16 v5) fun M17 =>
    q_lt (up M17 63 0 0 ((M17 63 0 0) + (1 : Int32))) fun M18 =>
    q_bn (fX6_tells F M18 ((M18 63 0 0) - (1 : Int32))) fun M19 z20 =>
    some (M19, z20))))))
set_option maxHeartbeats 4000000 in
set_option maxRecDepth 100000 in
theorem wX6_task_47 {p : Program} {l : Launch} {e : Env} {s : State} {m : MethodId} {args : Array Value} {below : List Frame} {meth : Method} {c : Code} {D : va_G} {cy : Nat → ClassId} {ad : Nat → Nat} {x : XX} {F : Nat} {r : Mem × Int32} (hst : l.stackTraces = false) (C0 : MX p l s m args meth c D cy ad cX6_task RX6 7 wsX6_task (some .int)) : ∀ (M : Mem) (s0 : Int32) (v1 : Int32) (v2 : Int32) (v3 : Int32) (v4 : Int32) (v5 : Int32) (H : Heap) (locs : List Loc) (ls : Array Slot), Wd D cy ad x s M H locs → lv_has ls 7 [(0, .ref (ad 427)), (1, .int v1), (2, .int v2), (3, .int v3), (4, .int v4), (5, .int v5)] → fX6_task_47 F M s0 v1 v2 v3 v4 v5 = some r → W p l e rmX6_task s m args below meth c H locs 0 0 (QN D cy ad below args s x q_vi r 0 0) (F0 m 47 ls [.int s0]) := by
  obtain ⟨hx, hb, hml, hown, hts, -⟩ := id C0
  intro M s0 v1 v2 v3 v4 v5 H locs ls hw hl h
  unfold fX6_task_47 at h
  refine q_istore (lv' := fun z1 => [(6, .int z1), (0, .ref (ad 427)), (1, .int v1), (2, .int v2), (3, .int v3), (4, .int v4), (5, .int v5)]) hx hb dX6_task_47 hl (by decide) (fun _ => rfl) h (fun z1 ls hl h => ?_)
  refine lv_iload_n hx hb dX6_task_49 rfl (lv_at hl 3 rfl) ?_
  refine lv_iconst (v := 0) hx hb dX6_task_50 (by decide) ?_
  refine lv_ldc (v := 1000000) hx hb hown (hts _ (List.mem_of_getElem? (i := 1) rfl)) dX6_task_51 ?_
  refine q_callSNi (As := [.int v2, .int ((0 : Int32)), .int ((1000000 : Int32))]) (nA := 3) C0 hw (fun r1 h1 => ctX6_in hst h1) gX6_task_X6_in rfl ⟨rfl, rfl⟩ (by decide +kernel) rfl ⟨(Nat.le_of_ble_eq_true rfl), (Nat.le_of_ble_eq_true rfl)⟩ hl.1 (Nat.le_of_ble_eq_true rfl) ⟨(Nat.le_of_ble_eq_true rfl), (Nat.le_of_ble_eq_true rfl)⟩ rfl h dX6_task_53 (fun M2 z3 H locs hw h => ?_)
  refine q_if_eq (tgt := 85) hx hb dX6_task_56 (by decide) h (fun h => ?_) (fun h => ?_)
  · exact wX6_task_85 hst C0  M2 _ _ _ hw (lv_sub hl [1] rfl) h
  · refine lv_iload_n hx hb dX6_task_59 rfl (lv_at hl 4 rfl) ?_
    refine lv_iconst (v := 1) hx hb dX6_task_60 (by decide) ?_
    refine lv_bipush (v := 100) hx hb dX6_task_61 (by decide) ?_
    refine q_callSNi (As := [.int v3, .int ((1 : Int32)), .int ((100 : Int32))]) (nA := 3) C0 hw (fun r1 h1 => ctX6_in hst h1) gX6_task_X6_in rfl ⟨rfl, rfl⟩ (by decide +kernel) rfl ⟨(Nat.le_of_ble_eq_true rfl), (Nat.le_of_ble_eq_true rfl)⟩ hl.1 (Nat.le_of_ble_eq_true rfl) ⟨(Nat.le_of_ble_eq_true rfl), (Nat.le_of_ble_eq_true rfl)⟩ rfl h dX6_task_63 (fun M4 z5 H locs hw h => ?_)
    refine q_if_eq (tgt := 85) hx hb dX6_task_66 (by decide) h (fun h => ?_) (fun h => ?_)
    · exact wX6_task_85 hst C0  M4 _ _ _ hw (lv_sub hl [1] rfl) h
    · refine lv_iload hx hb dX6_task_69 (lv_at hl 0 rfl) ?_
      refine q_if_eq (tgt := 85) hx hb dX6_task_71 (by decide) h (fun h => ?_) (fun h => ?_)
      · exact wX6_task_85 hst C0  M4 _ _ _ hw (lv_sub hl [1] rfl) h
      · refine lv_iload hx hb dX6_task_74 (lv_at hl 6 rfl) ?_
        refine lv_iconst (v := 0) hx hb dX6_task_76 (by decide) ?_
        refine lv_bipush (v := 100) hx hb dX6_task_77 (by decide) ?_
        refine q_callSNi (As := [.int v5, .int ((0 : Int32)), .int ((100 : Int32))]) (nA := 3) C0 hw (fun r1 h1 => ctX6_in hst h1) gX6_task_X6_in rfl ⟨rfl, rfl⟩ (by decide +kernel) rfl ⟨(Nat.le_of_ble_eq_true rfl), (Nat.le_of_ble_eq_true rfl)⟩ hl.1 (Nat.le_of_ble_eq_true rfl) ⟨(Nat.le_of_ble_eq_true rfl), (Nat.le_of_ble_eq_true rfl)⟩ rfl h dX6_task_79 (fun M6 z7 H locs hw h => ?_)
        refine q_if_ne (tgt := 91) hx hb dX6_task_82 (by decide) h (fun h => ?_) (fun h => ?_)
        · refine lv_aload_n hx hb dX6_task_91 rfl (lv_at hl 1 rfl) ?_
          refine gf_Mod_tasks C0 hw (fun _ h9 => List.mem_cons_of_mem _ (List.mem_append_left _ (List.mem_append_right _ h9))) (List.mem_of_getElem? (i := 2) rfl) dX6_task_92 ?_
          refine lv_bipush (v := 10) hx hb dX6_task_95 (by decide) ?_
          refine q_icmp_ne (tgt := 106) hx hb dX6_task_97 (by decide) h (fun h => ?_) (fun h => ?_)
          · refine lv_aload_n hx hb dX6_task_106 rfl (lv_at hl 1 rfl) ?_
            refine gf_Mod_taskClass C0 hw (fun _ h9 => List.mem_cons_of_mem _ (List.mem_append_left _ (List.mem_append_right _ h9))) (List.mem_of_getElem? (i := 3) rfl) dX6_task_107 ?_
            refine lv_aload_n hx hb dX6_task_110 rfl (lv_at hl 1 rfl) ?_
            refine gf_Mod_tasks C0 hw (fun _ h9 => List.mem_cons_of_mem _ (List.mem_append_left _ (List.mem_append_right _ h9))) (List.mem_of_getElem? (i := 2) rfl) dX6_task_111 ?_
            refine lv_iload_n hx hb dX6_task_114 rfl (lv_at hl 2 rfl) ?_
            refine q_iast (v := 27) C0 hw rfl (fun _ => at_m27) h dX6_task_115 (fun j8 M9 H locs hj8 hw h => ?_)
            refine lv_aload_n hx hb dX6_task_116 rfl (lv_at hl 1 rfl) ?_
            refine gf_Mod_dues C0 hw (fun _ h9 => List.mem_cons_of_mem _ (List.mem_append_left _ (List.mem_append_right _ h9))) (List.mem_of_getElem? (i := 4) rfl) dX6_task_117 ?_
            refine lv_aload_n hx hb dX6_task_120 rfl (lv_at hl 1 rfl) ?_
            refine gf_Mod_tasks C0 hw (fun _ h9 => List.mem_cons_of_mem _ (List.mem_append_left _ (List.mem_append_right _ h9))) (List.mem_of_getElem? (i := 2) rfl) dX6_task_121 ?_
            refine lv_iload_n hx hb dX6_task_124 rfl (lv_at hl 3 rfl) ?_
            refine q_iast (v := 28) C0 hw rfl (fun _ => at_m28) h dX6_task_125 (fun j10 M11 H locs hj10 hw h => ?_)
            refine lv_aload_n hx hb dX6_task_126 rfl (lv_at hl 1 rfl) ?_
            refine gf_Mod_fulls C0 hw (fun _ h9 => List.mem_cons_of_mem _ (List.mem_append_left _ (List.mem_append_right _ h9))) (List.mem_of_getElem? (i := 5) rfl) dX6_task_127 ?_
            refine lv_aload_n hx hb dX6_task_130 rfl (lv_at hl 1 rfl) ?_
            refine gf_Mod_tasks C0 hw (fun _ h9 => List.mem_cons_of_mem _ (List.mem_append_left _ (List.mem_append_right _ h9))) (List.mem_of_getElem? (i := 2) rfl) dX6_task_131 ?_
            refine lv_iload_n hx hb dX6_task_134 rfl (lv_at hl 4 rfl) ?_
            refine q_iast (v := 29) C0 hw rfl (fun _ => at_m29) h dX6_task_135 (fun j12 M13 H locs hj12 hw h => ?_)
            refine lv_aload_n hx hb dX6_task_136 rfl (lv_at hl 1 rfl) ?_
            refine gf_Mod_rules C0 hw (fun _ h9 => List.mem_cons_of_mem _ (List.mem_append_left _ (List.mem_append_right _ h9))) (List.mem_of_getElem? (i := 6) rfl) dX6_task_137 ?_
            refine lv_aload_n hx hb dX6_task_140 rfl (lv_at hl 1 rfl) ?_
            refine gf_Mod_tasks C0 hw (fun _ h9 => List.mem_cons_of_mem _ (List.mem_append_left _ (List.mem_append_right _ h9))) (List.mem_of_getElem? (i := 2) rfl) dX6_task_141 ?_
            refine lv_iload hx hb dX6_task_144 (lv_at hl 5 rfl) ?_
            refine q_cast (v := 31) C0 hw rfl (fun _ => at_m31) h dX6_task_146 (fun j14 M15 H locs hj14 hw h => ?_)
            refine lv_aload_n hx hb dX6_task_147 rfl (lv_at hl 1 rfl) ?_
            refine gf_Mod_amounts C0 hw (fun _ h9 => List.mem_cons_of_mem _ (List.mem_append_left _ (List.mem_append_right _ h9))) (List.mem_of_getElem? (i := 7) rfl) dX6_task_148 ?_
            refine lv_aload_n hx hb dX6_task_151 rfl (lv_at hl 1 rfl) ?_
            refine gf_Mod_tasks C0 hw (fun _ h9 => List.mem_cons_of_mem _ (List.mem_append_left _ (List.mem_append_right _ h9))) (List.mem_of_getElem? (i := 2) rfl) dX6_task_152 ?_
            refine lv_iload hx hb dX6_task_155 (lv_at hl 6 rfl) ?_
            refine q_iast (v := 30) C0 hw rfl (fun _ => at_m30) h dX6_task_157 (fun j16 M17 H locs hj16 hw h => ?_)
            refine lv_aload_n hx hb dX6_task_158 rfl (lv_at hl 1 rfl) ?_
            refine lv_dup hx hb dX6_task_159 rfl ?_
            refine gf_Mod_tasks C0 hw (fun _ h9 => List.mem_cons_of_mem _ (List.mem_append_left _ (List.mem_append_right _ h9))) (List.mem_of_getElem? (i := 2) rfl) dX6_task_160 ?_
            refine lv_iconst (v := 1) hx hb dX6_task_163 (by decide) ?_
            refine lv_iadd hx hb dX6_task_164 ?_
            refine pf_Mod_tasks C0 hw (fun _ h9 => List.mem_cons_of_mem _ (List.mem_append_left _ (List.mem_append_right _ h9))) (List.mem_of_getElem? (i := 2) rfl) dX6_task_165 h (fun M18 H locs hw h => ?_)
            refine lv_aload_n hx hb dX6_task_168 rfl (lv_at hl 1 rfl) ?_
            refine lv_aload_n hx hb dX6_task_169 rfl (lv_at hl 1 rfl) ?_
            refine gf_Mod_tasks C0 hw (fun _ h9 => List.mem_cons_of_mem _ (List.mem_append_left _ (List.mem_append_right _ h9))) (List.mem_of_getElem? (i := 2) rfl) dX6_task_170 ?_
            refine lv_iconst (v := 1) hx hb dX6_task_173 (by decide) ?_
            refine lv_isub hx hb dX6_task_174 ?_
            refine q_callVNi (As := [.int ((M18 63 0 0) - (1 : Int32))]) (nA := 1) C0 hw at_Mod rfl (fun r1 h1 => ctX6_tells hst h1) gX6_task_X6_tells rfl ⟨rfl, rfl⟩ (by decide +kernel) rfl ⟨(Nat.le_of_ble_eq_true rfl), (Nat.le_of_ble_eq_true rfl)⟩ hl.1 (Nat.le_of_ble_eq_true rfl) ⟨(Nat.le_of_ble_eq_true rfl), (Nat.le_of_ble_eq_true rfl)⟩ rfl h dX6_task_175 (fun M19 z20 H locs hw h => ?_)
            exact q_iretN C0 hw h ⟨(Nat.le_of_ble_eq_true rfl), (Nat.le_of_ble_eq_true rfl)⟩ dX6_task_178
          · refine lv_aload_n hx hb dX6_task_100 rfl (lv_at hl 1 rfl) ?_
            refine lv_iconst (v := 3) hx hb dX6_task_101 (by decide) ?_
            refine q_callVNi (As := [.int ((3 : Int32))]) (nA := 1) C0 hw at_Mod rfl (fun r1 h1 => ctX6_fails hst h1) gX6_task_X6_fails rfl ⟨rfl, rfl⟩ (by decide +kernel) rfl ⟨(Nat.le_of_ble_eq_true rfl), (Nat.le_of_ble_eq_true rfl)⟩ hl.1 (Nat.le_of_ble_eq_true rfl) ⟨(Nat.le_of_ble_eq_true rfl), (Nat.le_of_ble_eq_true rfl)⟩ rfl h dX6_task_102 (fun M8 z9 H locs hw h => ?_)
            exact q_iretN C0 hw h ⟨(Nat.le_of_ble_eq_true rfl), (Nat.le_of_ble_eq_true rfl)⟩ dX6_task_105
        · exact wX6_task_85 hst C0  M6 _ _ _ hw (lv_sub hl [1] rfl) h
def fX6_task_42 (F : Nat) (M : Mem) (v1 : Int32) (v2 : Int32) (v3 : Int32) (v4 : Int32) (v5 : Int32) : Option (Mem × Int32) :=
    fX6_task_47 F M (1 : Int32) v1 v2 v3 v4 v5
set_option maxHeartbeats 4000000 in
set_option maxRecDepth 100000 in
theorem wX6_task_42 {p : Program} {l : Launch} {e : Env} {s : State} {m : MethodId} {args : Array Value} {below : List Frame} {meth : Method} {c : Code} {D : va_G} {cy : Nat → ClassId} {ad : Nat → Nat} {x : XX} {F : Nat} {r : Mem × Int32} (hst : l.stackTraces = false) (C0 : MX p l s m args meth c D cy ad cX6_task RX6 7 wsX6_task (some .int)) : ∀ (M : Mem) (v1 : Int32) (v2 : Int32) (v3 : Int32) (v4 : Int32) (v5 : Int32) (H : Heap) (locs : List Loc) (ls : Array Slot), Wd D cy ad x s M H locs → lv_has ls 7 [(0, .ref (ad 427)), (1, .int v1), (2, .int v2), (3, .int v3), (4, .int v4), (5, .int v5)] → fX6_task_42 F M v1 v2 v3 v4 v5 = some r → W p l e rmX6_task s m args below meth c H locs 0 0 (QN D cy ad below args s x q_vi r 0 0) (F0 m 42 ls []) := by
  obtain ⟨hx, hb, hml, hown, hts, -⟩ := id C0
  intro M v1 v2 v3 v4 v5 H locs ls hw hl h
  unfold fX6_task_42 at h
  refine lv_iconst (v := 1) hx hb dX6_task_42 (by decide) ?_
  refine lv_goto (tgt := 47) hx hb dX6_task_43 (by decide) ?_
  exact wX6_task_47 hst C0  M (1 : Int32) v1 v2 v3 v4 v5 _ _ _ hw (lv_sub hl [0, 1, 2, 3, 4, 5] rfl) h
def fX6_task (F : Nat) (M : Mem) (a0 : Int32) (a1 : Int32) (a2 : Int32) (a3 : Int32) (a4 : Int32) : Option (Mem × Int32) :=
    q_bn (fX6_isClass F M a0) fun M1 z2 =>
    if z2 = (0 : Int32) then
    (q_bn (fX6_fails F M1 (1 : Int32)) fun M3 z4 =>
    some (M3, z4))
    else
    (if a3 = (104 : Int32) then
    (fX6_task_42 F M1 a0 a1 a2 a3 a4)
    else
    (if a3 = (100 : Int32) then
    (fX6_task_42 F M1 a0 a1 a2 a3 a4)
    else
    (if a3 = (103 : Int32) then
    (fX6_task_42 F M1 a0 a1 a2 a3 a4)
    else
    (if a3 = (115 : Int32) then
    (fX6_task_42 F M1 a0 a1 a2 a3 a4)
    else
    (fX6_task_47 F M1 (0 : Int32) a0 a1 a2 a3 a4)))))
set_option maxHeartbeats 4000000 in
set_option maxRecDepth 100000 in
theorem ctX6_task {l : Launch} (hst : l.stackTraces = false) {D : va_G} {cy : Nat → ClassId} {ad : Nat → Nat} {x : XX} {F : Nat} {M : Mem} {a0 : Int32} {a1 : Int32} {a2 : Int32} {a3 : Int32} {a4 : Int32} {r : Mem × Int32} (h : fX6_task F M a0 a1 a2 a3 a4 = some r) : CN l yX6_task wsX6_task rmX6_task D cy ad [.ref (ad 427), .int a0, .int a1, .int a2, .int a3, .int a4] x M x r.1 (q_vi r.2) 0 0 := by
  refine q_startN (cc := cX6_task) (maxL := 7) (ret := (some .int)) (by decide) rfl (Nat.le_of_ble_eq_true rfl) ?_
  intro p e s m args below meth c ls C0 hw hl hnm
  obtain ⟨hx, hb, hml, hown, hts, -⟩ := id C0
  have C0 : MX p l s m args meth c D cy ad cX6_task RX6 7 wsX6_task ((some .int)) := C0
  have hown : s.vm.findClass RX6 = some m.cls := hown
  have hl : lv_has ls 7 [(0, .ref (ad 427)), (1, .int a0), (2, .int a1), (3, .int a2), (4, .int a3), (5, .int a4)] := hl
  show W p l e rmX6_task s m args below meth c s.heap [] 0 0 (QN D cy ad below args s x q_vi r 0 0) (F0 m 0 ls [])
  unfold fX6_task at h
  refine lv_aload_n hx hb dX6_task_0 rfl (lv_at hl 0 rfl) ?_
  refine lv_iload_n hx hb dX6_task_1 rfl (lv_at hl 1 rfl) ?_
  refine q_callVNi (As := [.int a0]) (nA := 1) C0 hw at_Mod rfl (fun r1 h1 => ctX6_isClass hst h1) gX6_task_X6_isClass rfl ⟨rfl, rfl⟩ (by decide +kernel) rfl ⟨(Nat.le_of_ble_eq_true rfl), (Nat.le_of_ble_eq_true rfl)⟩ hl.1 (Nat.le_of_ble_eq_true rfl) ⟨(Nat.le_of_ble_eq_true rfl), (Nat.le_of_ble_eq_true rfl)⟩ rfl h dX6_task_2 (fun M1 z2 H locs hw h => ?_)
  refine q_if_ne (tgt := 14) hx hb dX6_task_5 (by decide) h (fun h => ?_) (fun h => ?_)
  · refine lv_iload hx hb dX6_task_14 (lv_at hl 4 rfl) ?_
    refine lv_bipush (v := 104) hx hb dX6_task_16 (by decide) ?_
    refine q_icmp_eq (tgt := 42) hx hb dX6_task_18 (by decide) h (fun h => ?_) (fun h => ?_)
    · exact wX6_task_42 hst C0  M1 a0 a1 a2 a3 a4 _ _ _ hw (lv_sub hl [0, 1, 2, 3, 4, 5] rfl) h
    · refine lv_iload hx hb dX6_task_21 (lv_at hl 4 rfl) ?_
      refine lv_bipush (v := 100) hx hb dX6_task_23 (by decide) ?_
      refine q_icmp_eq (tgt := 42) hx hb dX6_task_25 (by decide) h (fun h => ?_) (fun h => ?_)
      · exact wX6_task_42 hst C0  M1 a0 a1 a2 a3 a4 _ _ _ hw (lv_sub hl [0, 1, 2, 3, 4, 5] rfl) h
      · refine lv_iload hx hb dX6_task_28 (lv_at hl 4 rfl) ?_
        refine lv_bipush (v := 103) hx hb dX6_task_30 (by decide) ?_
        refine q_icmp_eq (tgt := 42) hx hb dX6_task_32 (by decide) h (fun h => ?_) (fun h => ?_)
        · exact wX6_task_42 hst C0  M1 a0 a1 a2 a3 a4 _ _ _ hw (lv_sub hl [0, 1, 2, 3, 4, 5] rfl) h
        · refine lv_iload hx hb dX6_task_35 (lv_at hl 4 rfl) ?_
          refine lv_bipush (v := 115) hx hb dX6_task_37 (by decide) ?_
          refine q_icmp_ne (tgt := 46) hx hb dX6_task_39 (by decide) h (fun h => ?_) (fun h => ?_)
          · refine lv_iconst (v := 0) hx hb dX6_task_46 (by decide) ?_
            exact wX6_task_47 hst C0  M1 (0 : Int32) a0 a1 a2 a3 a4 _ _ _ hw (lv_sub hl [0, 1, 2, 3, 4, 5] rfl) h
          · exact wX6_task_42 hst C0  M1 a0 a1 a2 a3 a4 _ _ _ hw (lv_sub hl [0, 1, 2, 3, 4, 5] rfl) h
  · refine lv_aload_n hx hb dX6_task_8 rfl (lv_at hl 0 rfl) ?_
    refine lv_iconst (v := 1) hx hb dX6_task_9 (by decide) ?_
    refine q_callVNi (As := [.int ((1 : Int32))]) (nA := 1) C0 hw at_Mod rfl (fun r1 h1 => ctX6_fails hst h1) gX6_task_X6_fails rfl ⟨rfl, rfl⟩ (by decide +kernel) rfl ⟨(Nat.le_of_ble_eq_true rfl), (Nat.le_of_ble_eq_true rfl)⟩ hl.1 (Nat.le_of_ble_eq_true rfl) ⟨(Nat.le_of_ble_eq_true rfl), (Nat.le_of_ble_eq_true rfl)⟩ rfl h dX6_task_10 (fun M3 z4 H locs hw h => ?_)
    exact q_iretN C0 hw h ⟨(Nat.le_of_ble_eq_true rfl), (Nat.le_of_ble_eq_true rfl)⟩ dX6_task_13
/-! HomewatcherModel.pass(I)I -/
abbrev rmX6_pass : Room := { frames := 1, cells := 0, slots := 0, locals := 22 }
def fX6_pass (F : Nat) (M : Mem) (a0 : Int32) : Option (Mem × Int32) :=
    q_bn (fX6_in F M a0 (1 : Int32) (100000 : Int32)) fun M1 z2 =>
    if z2 = (0 : Int32) then
    (q_bn (fX6_fails F M1 (1 : Int32)) fun M3 z4 =>
    some (M3, z4))
    else
    (if ((M1 60 0 0) + a0) ≤ (1000000 : Int32) then
    (q_lt (up M1 60 0 0 ((M1 60 0 0) + a0)) fun M3 =>
    q_bn (fX6_tells F M3 (M3 60 0 0)) fun M4 z5 =>
    some (M4, z5))
    else
    (q_bn (fX6_fails F M1 (2 : Int32)) fun M3 z4 =>
    some (M3, z4)))
set_option maxHeartbeats 4000000 in
set_option maxRecDepth 100000 in
theorem ctX6_pass {l : Launch} (hst : l.stackTraces = false) {D : va_G} {cy : Nat → ClassId} {ad : Nat → Nat} {x : XX} {F : Nat} {M : Mem} {a0 : Int32} {r : Mem × Int32} (h : fX6_pass F M a0 = some r) : CN l yX6_pass wsX6_pass rmX6_pass D cy ad [.ref (ad 427), .int a0] x M x r.1 (q_vi r.2) 0 0 := by
  refine q_startN (cc := cX6_pass) (maxL := 2) (ret := (some .int)) (by decide) rfl (Nat.le_of_ble_eq_true rfl) ?_
  intro p e s m args below meth c ls C0 hw hl hnm
  obtain ⟨hx, hb, hml, hown, hts, -⟩ := id C0
  have C0 : MX p l s m args meth c D cy ad cX6_pass RX6 2 wsX6_pass ((some .int)) := C0
  have hown : s.vm.findClass RX6 = some m.cls := hown
  have hl : lv_has ls 2 [(0, .ref (ad 427)), (1, .int a0)] := hl
  show W p l e rmX6_pass s m args below meth c s.heap [] 0 0 (QN D cy ad below args s x q_vi r 0 0) (F0 m 0 ls [])
  unfold fX6_pass at h
  refine lv_iload_n hx hb dX6_pass_0 rfl (lv_at hl 1 rfl) ?_
  refine lv_iconst (v := 1) hx hb dX6_pass_1 (by decide) ?_
  refine lv_ldc (v := 100000) hx hb hown (hts _ (List.mem_of_getElem? (i := 1) rfl)) dX6_pass_2 ?_
  refine q_callSNi (As := [.int a0, .int ((1 : Int32)), .int ((100000 : Int32))]) (nA := 3) C0 hw (fun r1 h1 => ctX6_in hst h1) gX6_pass_X6_in rfl ⟨rfl, rfl⟩ (by decide +kernel) rfl ⟨(Nat.le_of_ble_eq_true rfl), (Nat.le_of_ble_eq_true rfl)⟩ hl.1 (Nat.le_of_ble_eq_true rfl) ⟨(Nat.le_of_ble_eq_true rfl), (Nat.le_of_ble_eq_true rfl)⟩ rfl h dX6_pass_4 (fun M1 z2 H locs hw h => ?_)
  refine q_if_ne (tgt := 16) hx hb dX6_pass_7 (by decide) h (fun h => ?_) (fun h => ?_)
  · refine lv_aload_n hx hb dX6_pass_16 rfl (lv_at hl 0 rfl) ?_
    refine gf_Mod_now C0 hw (fun _ h9 => List.mem_cons_of_mem _ (List.mem_append_right _ h9)) (List.mem_of_getElem? (i := 2) rfl) dX6_pass_17 ?_
    refine lv_iload_n hx hb dX6_pass_20 rfl (lv_at hl 1 rfl) ?_
    refine lv_iadd hx hb dX6_pass_21 ?_
    refine lv_ldc (v := 1000000) hx hb hown (hts _ (List.mem_of_getElem? (i := 3) rfl)) dX6_pass_22 ?_
    refine q_icmp_le (tgt := 33) hx hb dX6_pass_24 (by decide) h (fun h => ?_) (fun h => ?_)
    · refine lv_aload_n hx hb dX6_pass_33 rfl (lv_at hl 0 rfl) ?_
      refine lv_dup hx hb dX6_pass_34 rfl ?_
      refine gf_Mod_now C0 hw (fun _ h9 => List.mem_cons_of_mem _ (List.mem_append_right _ h9)) (List.mem_of_getElem? (i := 2) rfl) dX6_pass_35 ?_
      refine lv_iload_n hx hb dX6_pass_38 rfl (lv_at hl 1 rfl) ?_
      refine lv_iadd hx hb dX6_pass_39 ?_
      refine pf_Mod_now C0 hw (fun _ h9 => List.mem_cons_of_mem _ (List.mem_append_right _ h9)) (List.mem_of_getElem? (i := 2) rfl) dX6_pass_40 h (fun M3 H locs hw h => ?_)
      refine lv_aload_n hx hb dX6_pass_43 rfl (lv_at hl 0 rfl) ?_
      refine lv_aload_n hx hb dX6_pass_44 rfl (lv_at hl 0 rfl) ?_
      refine gf_Mod_now C0 hw (fun _ h9 => List.mem_cons_of_mem _ (List.mem_append_right _ h9)) (List.mem_of_getElem? (i := 2) rfl) dX6_pass_45 ?_
      refine q_callVNi (As := [.int (M3 60 0 0)]) (nA := 1) C0 hw at_Mod rfl (fun r1 h1 => ctX6_tells hst h1) gX6_pass_X6_tells rfl ⟨rfl, rfl⟩ (by decide +kernel) rfl ⟨(Nat.le_of_ble_eq_true rfl), (Nat.le_of_ble_eq_true rfl)⟩ hl.1 (Nat.le_of_ble_eq_true rfl) ⟨(Nat.le_of_ble_eq_true rfl), (Nat.le_of_ble_eq_true rfl)⟩ rfl h dX6_pass_48 (fun M4 z5 H locs hw h => ?_)
      exact q_iretN C0 hw h ⟨(Nat.le_of_ble_eq_true rfl), (Nat.le_of_ble_eq_true rfl)⟩ dX6_pass_51
    · refine lv_aload_n hx hb dX6_pass_27 rfl (lv_at hl 0 rfl) ?_
      refine lv_iconst (v := 2) hx hb dX6_pass_28 (by decide) ?_
      refine q_callVNi (As := [.int ((2 : Int32))]) (nA := 1) C0 hw at_Mod rfl (fun r1 h1 => ctX6_fails hst h1) gX6_pass_X6_fails rfl ⟨rfl, rfl⟩ (by decide +kernel) rfl ⟨(Nat.le_of_ble_eq_true rfl), (Nat.le_of_ble_eq_true rfl)⟩ hl.1 (Nat.le_of_ble_eq_true rfl) ⟨(Nat.le_of_ble_eq_true rfl), (Nat.le_of_ble_eq_true rfl)⟩ rfl h dX6_pass_29 (fun M3 z4 H locs hw h => ?_)
      exact q_iretN C0 hw h ⟨(Nat.le_of_ble_eq_true rfl), (Nat.le_of_ble_eq_true rfl)⟩ dX6_pass_32
  · refine lv_aload_n hx hb dX6_pass_10 rfl (lv_at hl 0 rfl) ?_
    refine lv_iconst (v := 1) hx hb dX6_pass_11 (by decide) ?_
    refine q_callVNi (As := [.int ((1 : Int32))]) (nA := 1) C0 hw at_Mod rfl (fun r1 h1 => ctX6_fails hst h1) gX6_pass_X6_fails rfl ⟨rfl, rfl⟩ (by decide +kernel) rfl ⟨(Nat.le_of_ble_eq_true rfl), (Nat.le_of_ble_eq_true rfl)⟩ hl.1 (Nat.le_of_ble_eq_true rfl) ⟨(Nat.le_of_ble_eq_true rfl), (Nat.le_of_ble_eq_true rfl)⟩ rfl h dX6_pass_12 (fun M3 z4 H locs hw h => ?_)
    exact q_iretN C0 hw h ⟨(Nat.le_of_ble_eq_true rfl), (Nat.le_of_ble_eq_true rfl)⟩ dX6_pass_15
/-! HomewatcherModel.clock(I)I -/
abbrev rmX6_clock : Room := { frames := 2, cells := 0, slots := 0, locals := 43 }
def fX6_clock_31 (F : Nat) (M : Mem) (s0 : Int32) : Option (Mem × Int32) :=
    some (M, s0)
set_option maxHeartbeats 4000000 in
set_option maxRecDepth 100000 in
theorem wX6_clock_31 {p : Program} {l : Launch} {e : Env} {s : State} {m : MethodId} {args : Array Value} {below : List Frame} {meth : Method} {c : Code} {D : va_G} {cy : Nat → ClassId} {ad : Nat → Nat} {x : XX} {F : Nat} {r : Mem × Int32} (hst : l.stackTraces = false) (C0 : MX p l s m args meth c D cy ad cX6_clock RX6 2 wsX6_clock (some .int)) : ∀ (M : Mem) (s0 : Int32) (H : Heap) (locs : List Loc) (ls : Array Slot), Wd D cy ad x s M H locs → lv_has ls 2 [] → fX6_clock_31 F M s0 = some r → W p l e rmX6_clock s m args below meth c H locs 0 0 (QN D cy ad below args s x q_vi r 0 0) (F0 m 31 ls [.int s0]) := by
  obtain ⟨hx, hb, hml, hown, hts, -⟩ := id C0
  intro M s0 H locs ls hw hl h
  unfold fX6_clock_31 at h
  exact q_iretN C0 hw h ⟨(Nat.le_of_ble_eq_true rfl), (Nat.le_of_ble_eq_true rfl)⟩ dX6_clock_31
def fX6_clock (F : Nat) (M : Mem) (a0 : Int32) : Option (Mem × Int32) :=
    q_bn (fX6_isClass F M a0) fun M1 z2 =>
    if z2 = (0 : Int32) then
    (q_bn (fX6_fails F M1 (1 : Int32)) fun M3 z4 =>
    fX6_clock_31 F M3 z4)
    else
    (q_ax a0 4 fun j3 =>
    q_bn (fX6_tells F M1 ((M1 60 0 0) + (M1 25 0 j3))) fun M4 z5 =>
    fX6_clock_31 F M4 z5)
set_option maxHeartbeats 4000000 in
set_option maxRecDepth 100000 in
theorem ctX6_clock {l : Launch} (hst : l.stackTraces = false) {D : va_G} {cy : Nat → ClassId} {ad : Nat → Nat} {x : XX} {F : Nat} {M : Mem} {a0 : Int32} {r : Mem × Int32} (h : fX6_clock F M a0 = some r) : CN l yX6_clock wsX6_clock rmX6_clock D cy ad [.ref (ad 427), .int a0] x M x r.1 (q_vi r.2) 0 0 := by
  refine q_startN (cc := cX6_clock) (maxL := 2) (ret := (some .int)) (by decide) rfl (Nat.le_of_ble_eq_true rfl) ?_
  intro p e s m args below meth c ls C0 hw hl hnm
  obtain ⟨hx, hb, hml, hown, hts, -⟩ := id C0
  have C0 : MX p l s m args meth c D cy ad cX6_clock RX6 2 wsX6_clock ((some .int)) := C0
  have hown : s.vm.findClass RX6 = some m.cls := hown
  have hl : lv_has ls 2 [(0, .ref (ad 427)), (1, .int a0)] := hl
  show W p l e rmX6_clock s m args below meth c s.heap [] 0 0 (QN D cy ad below args s x q_vi r 0 0) (F0 m 0 ls [])
  unfold fX6_clock at h
  refine lv_aload_n hx hb dX6_clock_0 rfl (lv_at hl 0 rfl) ?_
  refine lv_iload_n hx hb dX6_clock_1 rfl (lv_at hl 1 rfl) ?_
  refine q_callVNi (As := [.int a0]) (nA := 1) C0 hw at_Mod rfl (fun r1 h1 => ctX6_isClass hst h1) gX6_clock_X6_isClass rfl ⟨rfl, rfl⟩ (by decide +kernel) rfl ⟨(Nat.le_of_ble_eq_true rfl), (Nat.le_of_ble_eq_true rfl)⟩ hl.1 (Nat.le_of_ble_eq_true rfl) ⟨(Nat.le_of_ble_eq_true rfl), (Nat.le_of_ble_eq_true rfl)⟩ rfl h dX6_clock_2 (fun M1 z2 H locs hw h => ?_)
  refine q_if_eq (tgt := 26) hx hb dX6_clock_5 (by decide) h (fun h => ?_) (fun h => ?_)
  · refine lv_aload_n hx hb dX6_clock_26 rfl (lv_at hl 0 rfl) ?_
    refine lv_iconst (v := 1) hx hb dX6_clock_27 (by decide) ?_
    refine q_callVNi (As := [.int ((1 : Int32))]) (nA := 1) C0 hw at_Mod rfl (fun r1 h1 => ctX6_fails hst h1) gX6_clock_X6_fails rfl ⟨rfl, rfl⟩ (by decide +kernel) rfl ⟨(Nat.le_of_ble_eq_true rfl), (Nat.le_of_ble_eq_true rfl)⟩ hl.1 (Nat.le_of_ble_eq_true rfl) ⟨(Nat.le_of_ble_eq_true rfl), (Nat.le_of_ble_eq_true rfl)⟩ rfl h dX6_clock_28 (fun M3 z4 H locs hw h => ?_)
    exact wX6_clock_31 hst C0  M3 z4 _ _ _ hw (lv_sub hl [] rfl) h
  · refine lv_aload_n hx hb dX6_clock_8 rfl (lv_at hl 0 rfl) ?_
    refine lv_aload_n hx hb dX6_clock_9 rfl (lv_at hl 0 rfl) ?_
    refine gf_Mod_now C0 hw (fun _ h9 => List.mem_cons_of_mem _ (List.mem_append_left _ (List.mem_append_right _ h9))) (List.mem_of_getElem? (i := 1) rfl) dX6_clock_10 ?_
    refine lv_aload_n hx hb dX6_clock_13 rfl (lv_at hl 0 rfl) ?_
    refine gf_Mod_offsets C0 hw (fun _ h9 => List.mem_cons_of_mem _ (List.mem_append_left _ (List.mem_append_right _ h9))) (List.mem_of_getElem? (i := 2) rfl) dX6_clock_14 ?_
    refine lv_iload_n hx hb dX6_clock_17 rfl (lv_at hl 1 rfl) ?_
    refine q_iald C0 hw at_m25 h dX6_clock_18 (fun j3 hj3 h => ?_)
    refine lv_iadd hx hb dX6_clock_19 ?_
    refine q_callVNi (As := [.int ((M1 60 0 0) + (M1 25 0 j3))]) (nA := 1) C0 hw at_Mod rfl (fun r1 h1 => ctX6_tells hst h1) gX6_clock_X6_tells rfl ⟨rfl, rfl⟩ (by decide +kernel) rfl ⟨(Nat.le_of_ble_eq_true rfl), (Nat.le_of_ble_eq_true rfl)⟩ hl.1 (Nat.le_of_ble_eq_true rfl) ⟨(Nat.le_of_ble_eq_true rfl), (Nat.le_of_ble_eq_true rfl)⟩ rfl h dX6_clock_20 (fun M4 z5 H locs hw h => ?_)
    refine lv_goto (tgt := 31) hx hb dX6_clock_23 (by decide) ?_
    exact wX6_clock_31 hst C0  M4 z5 _ _ _ hw (lv_sub hl [] rfl) h
/-! HomewatcherModel.isSign(I)Z -/
abbrev rmX6_isSign : Room := { frames := 1, cells := 0, slots := 0, locals := 22 }
def fX6_isSign_33 (F : Nat) (M : Mem) (s0 : Int32) : Option (Mem × Int32) :=
    q_gd (q_isZ s0) (
    some (M, s0))
set_option maxHeartbeats 4000000 in
set_option maxRecDepth 100000 in
theorem wX6_isSign_33 {p : Program} {l : Launch} {e : Env} {s : State} {m : MethodId} {args : Array Value} {below : List Frame} {meth : Method} {c : Code} {D : va_G} {cy : Nat → ClassId} {ad : Nat → Nat} {x : XX} {F : Nat} {r : Mem × Int32} (hst : l.stackTraces = false) (C0 : MX p l s m args meth c D cy ad cX6_isSign RX6 1 wsX6_isSign (some .boolean)) : ∀ (M : Mem) (s0 : Int32) (H : Heap) (locs : List Loc) (ls : Array Slot), Wd D cy ad x s M H locs → lv_has ls 1 [] → fX6_isSign_33 F M s0 = some r → W p l e rmX6_isSign s m args below meth c H locs 0 0 (QN D cy ad below args s x q_vi r 0 0) (F0 m 33 ls [.int s0]) := by
  obtain ⟨hx, hb, hml, hown, hts, -⟩ := id C0
  intro M s0 H locs ls hw hl h
  unfold fX6_isSign_33 at h
  refine q_guard h (fun g h => ?_)
  exact q_zretN C0 hw (q_isZ_in g) h ⟨(Nat.le_of_ble_eq_true rfl), (Nat.le_of_ble_eq_true rfl)⟩ dX6_isSign_33
def fX6_isSign_28 (F : Nat) (M : Mem) : Option (Mem × Int32) :=
    fX6_isSign_33 F M (1 : Int32)
set_option maxHeartbeats 4000000 in
set_option maxRecDepth 100000 in
theorem wX6_isSign_28 {p : Program} {l : Launch} {e : Env} {s : State} {m : MethodId} {args : Array Value} {below : List Frame} {meth : Method} {c : Code} {D : va_G} {cy : Nat → ClassId} {ad : Nat → Nat} {x : XX} {F : Nat} {r : Mem × Int32} (hst : l.stackTraces = false) (C0 : MX p l s m args meth c D cy ad cX6_isSign RX6 1 wsX6_isSign (some .boolean)) : ∀ (M : Mem) (H : Heap) (locs : List Loc) (ls : Array Slot), Wd D cy ad x s M H locs → lv_has ls 1 [] → fX6_isSign_28 F M = some r → W p l e rmX6_isSign s m args below meth c H locs 0 0 (QN D cy ad below args s x q_vi r 0 0) (F0 m 28 ls []) := by
  obtain ⟨hx, hb, hml, hown, hts, -⟩ := id C0
  intro M H locs ls hw hl h
  unfold fX6_isSign_28 at h
  refine lv_iconst (v := 1) hx hb dX6_isSign_28 (by decide) ?_
  refine lv_goto (tgt := 33) hx hb dX6_isSign_29 (by decide) ?_
  exact wX6_isSign_33 hst C0  M (1 : Int32) _ _ _ hw (lv_sub hl [] rfl) h
def fX6_isSign (F : Nat) (M : Mem) (a0 : Int32) : Option (Mem × Int32) :=
    q_bn (fX6_in F M a0 (97 : Int32) (122 : Int32)) fun M1 z2 =>
    if z2 = (0 : Int32) then
    (if a0 = (32 : Int32) then
    (fX6_isSign_28 F M1)
    else
    (q_bn (fX6_in F M1 a0 (128512 : Int32) (128591 : Int32)) fun M3 z4 =>
    if z4 = (0 : Int32) then
    (fX6_isSign_33 F M3 (0 : Int32))
    else
    (fX6_isSign_28 F M3)))
    else
    (fX6_isSign_28 F M1)
set_option maxHeartbeats 4000000 in
set_option maxRecDepth 100000 in
theorem ctX6_isSign {l : Launch} (hst : l.stackTraces = false) {D : va_G} {cy : Nat → ClassId} {ad : Nat → Nat} {x : XX} {F : Nat} {M : Mem} {a0 : Int32} {r : Mem × Int32} (h : fX6_isSign F M a0 = some r) : CN l yX6_isSign wsX6_isSign rmX6_isSign D cy ad [.int a0] x M x r.1 (q_vi r.2) 0 0 := by
  refine q_startN (cc := cX6_isSign) (maxL := 1) (ret := (some .boolean)) (by decide) rfl (Nat.le_of_ble_eq_true rfl) ?_
  intro p e s m args below meth c ls C0 hw hl hnm
  obtain ⟨hx, hb, hml, hown, hts, -⟩ := id C0
  have C0 : MX p l s m args meth c D cy ad cX6_isSign RX6 1 wsX6_isSign ((some .boolean)) := C0
  have hown : s.vm.findClass RX6 = some m.cls := hown
  have hl : lv_has ls 1 [(0, .int a0)] := hl
  show W p l e rmX6_isSign s m args below meth c s.heap [] 0 0 (QN D cy ad below args s x q_vi r 0 0) (F0 m 0 ls [])
  unfold fX6_isSign at h
  refine lv_iload_n hx hb dX6_isSign_0 rfl (lv_at hl 0 rfl) ?_
  refine lv_bipush (v := 97) hx hb dX6_isSign_1 (by decide) ?_
  refine lv_bipush (v := 122) hx hb dX6_isSign_3 (by decide) ?_
  refine q_callSNi (As := [.int a0, .int ((97 : Int32)), .int ((122 : Int32))]) (nA := 3) C0 hw (fun r1 h1 => ctX6_in hst h1) gX6_isSign_X6_in rfl ⟨rfl, rfl⟩ (by decide +kernel) rfl ⟨(Nat.le_of_ble_eq_true rfl), (Nat.le_of_ble_eq_true rfl)⟩ hl.1 (Nat.le_of_ble_eq_true rfl) ⟨(Nat.le_of_ble_eq_true rfl), (Nat.le_of_ble_eq_true rfl)⟩ rfl h dX6_isSign_5 (fun M1 z2 H locs hw h => ?_)
  refine q_if_ne (tgt := 28) hx hb dX6_isSign_8 (by decide) h (fun h => ?_) (fun h => ?_)
  · exact wX6_isSign_28 hst C0  M1 _ _ _ hw (lv_sub hl [] rfl) h
  · refine lv_iload_n hx hb dX6_isSign_11 rfl (lv_at hl 0 rfl) ?_
    refine lv_bipush (v := 32) hx hb dX6_isSign_12 (by decide) ?_
    refine q_icmp_eq (tgt := 28) hx hb dX6_isSign_14 (by decide) h (fun h => ?_) (fun h => ?_)
    · exact wX6_isSign_28 hst C0  M1 _ _ _ hw (lv_sub hl [] rfl) h
    · refine lv_iload_n hx hb dX6_isSign_17 rfl (lv_at hl 0 rfl) ?_
      refine lv_ldc (v := 128512) hx hb hown (hts _ (List.mem_of_getElem? (i := 1) rfl)) dX6_isSign_18 ?_
      refine lv_ldc (v := 128591) hx hb hown (hts _ (List.mem_of_getElem? (i := 2) rfl)) dX6_isSign_20 ?_
      refine q_callSNi (As := [.int a0, .int ((128512 : Int32)), .int ((128591 : Int32))]) (nA := 3) C0 hw (fun r1 h1 => ctX6_in hst h1) gX6_isSign_X6_in rfl ⟨rfl, rfl⟩ (by decide +kernel) rfl ⟨(Nat.le_of_ble_eq_true rfl), (Nat.le_of_ble_eq_true rfl)⟩ hl.1 (Nat.le_of_ble_eq_true rfl) ⟨(Nat.le_of_ble_eq_true rfl), (Nat.le_of_ble_eq_true rfl)⟩ rfl h dX6_isSign_22 (fun M3 z4 H locs hw h => ?_)
      refine q_if_eq (tgt := 32) hx hb dX6_isSign_25 (by decide) h (fun h => ?_) (fun h => ?_)
      · refine lv_iconst (v := 0) hx hb dX6_isSign_32 (by decide) ?_
        exact wX6_isSign_33 hst C0  M3 (0 : Int32) _ _ _ hw (lv_sub hl [] rfl) h
      · exact wX6_isSign_28 hst C0  M3 _ _ _ hw (lv_sub hl [] rfl) h
/-! HomewatcherModel.charsOf(I)I -/
abbrev rmX6_charsOf : Room := { frames := 0, cells := 0, slots := 0, locals := 0 }
def fX6_charsOf_11 (F : Nat) (M : Mem) (s0 : Int32) : Option (Mem × Int32) :=
    some (M, s0)
set_option maxHeartbeats 4000000 in
set_option maxRecDepth 100000 in
theorem wX6_charsOf_11 {p : Program} {l : Launch} {e : Env} {s : State} {m : MethodId} {args : Array Value} {below : List Frame} {meth : Method} {c : Code} {D : va_G} {cy : Nat → ClassId} {ad : Nat → Nat} {x : XX} {F : Nat} {r : Mem × Int32} (hst : l.stackTraces = false) (C0 : MX p l s m args meth c D cy ad cX6_charsOf RX6 1 wsX6_charsOf (some .int)) : ∀ (M : Mem) (s0 : Int32) (H : Heap) (locs : List Loc) (ls : Array Slot), Wd D cy ad x s M H locs → lv_has ls 1 [] → fX6_charsOf_11 F M s0 = some r → W p l e rmX6_charsOf s m args below meth c H locs 0 0 (QN D cy ad below args s x q_vi r 0 0) (F0 m 11 ls [.int s0]) := by
  obtain ⟨hx, hb, hml, hown, hts, -⟩ := id C0
  intro M s0 H locs ls hw hl h
  unfold fX6_charsOf_11 at h
  exact q_iretN C0 hw h ⟨(Nat.le_of_ble_eq_true rfl), (Nat.le_of_ble_eq_true rfl)⟩ dX6_charsOf_11
def fX6_charsOf (F : Nat) (M : Mem) (a0 : Int32) : Option (Mem × Int32) :=
    if a0 ≤ (65535 : Int32) then
    (fX6_charsOf_11 F M (1 : Int32))
    else
    (fX6_charsOf_11 F M (2 : Int32))
set_option maxHeartbeats 4000000 in
set_option maxRecDepth 100000 in
theorem ctX6_charsOf {l : Launch} (hst : l.stackTraces = false) {D : va_G} {cy : Nat → ClassId} {ad : Nat → Nat} {x : XX} {F : Nat} {M : Mem} {a0 : Int32} {r : Mem × Int32} (h : fX6_charsOf F M a0 = some r) : CN l yX6_charsOf wsX6_charsOf rmX6_charsOf D cy ad [.int a0] x M x r.1 (q_vi r.2) 0 0 := by
  refine q_startN (cc := cX6_charsOf) (maxL := 1) (ret := (some .int)) (by decide) rfl (Nat.le_of_ble_eq_true rfl) ?_
  intro p e s m args below meth c ls C0 hw hl hnm
  obtain ⟨hx, hb, hml, hown, hts, -⟩ := id C0
  have C0 : MX p l s m args meth c D cy ad cX6_charsOf RX6 1 wsX6_charsOf ((some .int)) := C0
  have hown : s.vm.findClass RX6 = some m.cls := hown
  have hl : lv_has ls 1 [(0, .int a0)] := hl
  show W p l e rmX6_charsOf s m args below meth c s.heap [] 0 0 (QN D cy ad below args s x q_vi r 0 0) (F0 m 0 ls [])
  unfold fX6_charsOf at h
  refine lv_iload_n hx hb dX6_charsOf_0 rfl (lv_at hl 0 rfl) ?_
  refine lv_ldc (v := 65535) hx hb hown (hts _ (List.mem_of_getElem? (i := 1) rfl)) dX6_charsOf_1 ?_
  refine q_icmp_le (tgt := 10) hx hb dX6_charsOf_3 (by decide) h (fun h => ?_) (fun h => ?_)
  · refine lv_iconst (v := 1) hx hb dX6_charsOf_10 (by decide) ?_
    exact wX6_charsOf_11 hst C0  M (1 : Int32) _ _ _ hw (lv_sub hl [] rfl) h
  · refine lv_iconst (v := 2) hx hb dX6_charsOf_6 (by decide) ?_
    refine lv_goto (tgt := 11) hx hb dX6_charsOf_7 (by decide) ?_
    exact wX6_charsOf_11 hst C0  M (2 : Int32) _ _ _ hw (lv_sub hl [] rfl) h
/-! HomewatcherModel.chars()I -/
abbrev rmX6_chars : Room := { frames := 1, cells := 0, slots := 0, locals := 20 }
def fX6_chars_4 (F : Nat) : Nat → Mem → Int32 → Int32 → Option (Mem × Int32)
  | 0, _, _, _ => none
  | n + 1, M, v1, v2 =>
    if (M 65 0 0) ≤ v2 then
    (some (M, v1))
    else
    (q_ax v2 40 fun j1 =>
    q_bn (fX6_charsOf F M (M 32 0 j1)) fun M2 z3 =>
    q_lt (v1 + z3) fun z4 =>
    q_lt (v2 + (1 : Int32)) fun z5 =>
    fX6_chars_4 F n M2 z4 z5)
set_option maxHeartbeats 4000000 in
set_option maxRecDepth 100000 in
theorem wX6_chars_4 {p : Program} {l : Launch} {e : Env} {s : State} {m : MethodId} {args : Array Value} {below : List Frame} {meth : Method} {c : Code} {D : va_G} {cy : Nat → ClassId} {ad : Nat → Nat} {x : XX} {F : Nat} {r : Mem × Int32} (hst : l.stackTraces = false) (C0 : MX p l s m args meth c D cy ad cX6_chars RX6 3 wsX6_chars (some .int)) : ∀ (n : Nat) (M : Mem) (v1 : Int32) (v2 : Int32) (H : Heap) (locs : List Loc) (ls : Array Slot), Wd D cy ad x s M H locs → lv_has ls 3 [(0, .ref (ad 427)), (1, .int v1), (2, .int v2)] → fX6_chars_4 F n M v1 v2 = some r → W p l e rmX6_chars s m args below meth c H locs 0 0 (QN D cy ad below args s x q_vi r 0 0) (F0 m 4 ls []) := by
  obtain ⟨hx, hb, hml, hown, hts, -⟩ := id C0
  intro n
  induction n with
  | zero =>
    intro M v1 v2 H locs ls hw hl h
    exact q_no h
  | succ n ih =>
    intro M v1 v2 H locs ls hw hl h
    unfold fX6_chars_4 at h
    refine lv_iload_n hx hb dX6_chars_4 rfl (lv_at hl 2 rfl) ?_
    refine lv_aload_n hx hb dX6_chars_5 rfl (lv_at hl 0 rfl) ?_
    refine gf_Mod_signs C0 hw (fun _ h9 => List.mem_cons_of_mem _ (List.mem_append_left _ (List.mem_append_right _ h9))) (List.mem_of_getElem? (i := 1) rfl) dX6_chars_6 ?_
    refine q_icmp_ge (tgt := 30) hx hb dX6_chars_9 (by decide) h (fun h => ?_) (fun h => ?_)
    · refine lv_iload_n hx hb dX6_chars_30 rfl (lv_at hl 1 rfl) ?_
      exact q_iretN C0 hw h ⟨(Nat.le_of_ble_eq_true rfl), (Nat.le_of_ble_eq_true rfl)⟩ dX6_chars_31
    · refine lv_iload_n hx hb dX6_chars_12 rfl (lv_at hl 1 rfl) ?_
      refine lv_aload_n hx hb dX6_chars_13 rfl (lv_at hl 0 rfl) ?_
      refine gf_Mod_text C0 hw (fun _ h9 => List.mem_cons_of_mem _ (List.mem_append_left _ (List.mem_append_right _ h9))) (List.mem_of_getElem? (i := 2) rfl) dX6_chars_14 ?_
      refine lv_iload_n hx hb dX6_chars_17 rfl (lv_at hl 2 rfl) ?_
      refine q_iald C0 hw at_m32 h dX6_chars_18 (fun j1 hj1 h => ?_)
      refine q_callSNi (As := [.int (M 32 0 j1)]) (nA := 1) C0 hw (fun r1 h1 => ctX6_charsOf hst h1) gX6_chars_X6_charsOf rfl ⟨rfl, rfl⟩ (by decide +kernel) rfl ⟨(Nat.le_of_ble_eq_true rfl), (Nat.le_of_ble_eq_true rfl)⟩ hl.1 (Nat.le_of_ble_eq_true rfl) ⟨(Nat.le_of_ble_eq_true rfl), (Nat.le_of_ble_eq_true rfl)⟩ rfl h dX6_chars_19 (fun M2 z3 H locs hw h => ?_)
      refine lv_iadd hx hb dX6_chars_22 ?_
      refine q_istore_n (lv' := fun z4 => [(1, .int z4), (0, .ref (ad 427)), (2, .int v2)]) hx hb dX6_chars_23 rfl hl (by decide) (fun _ => rfl) h (fun z4 ls hl h => ?_)
      refine q_iinc (k := 2) (cst := 1) (lv' := fun z5 => [(2, .int z5), (1, .int z4), (0, .ref (ad 427))]) hx hb dX6_chars_24 hl rfl rfl (by decide) (fun _ => rfl) h (fun z5 ls hl h => ?_)
      refine lv_goto (tgt := 4) hx hb dX6_chars_27 (by decide) ?_
      exact ih M2 z4 z5 _ _ _ hw (lv_sub hl [2, 1, 0] rfl) h
def fX6_chars (F : Nat) (M : Mem) : Option (Mem × Int32) :=
    q_lt ((0 : Int32)) fun z1 =>
    q_lt ((0 : Int32)) fun z2 =>
    fX6_chars_4 F F M z1 z2
set_option maxHeartbeats 4000000 in
set_option maxRecDepth 100000 in
theorem ctX6_chars {l : Launch} (hst : l.stackTraces = false) {D : va_G} {cy : Nat → ClassId} {ad : Nat → Nat} {x : XX} {F : Nat} {M : Mem} {r : Mem × Int32} (h : fX6_chars F M = some r) : CN l yX6_chars wsX6_chars rmX6_chars D cy ad [.ref (ad 427)] x M x r.1 (q_vi r.2) 0 0 := by
  refine q_startN (cc := cX6_chars) (maxL := 3) (ret := (some .int)) (by decide) rfl (Nat.le_of_ble_eq_true rfl) ?_
  intro p e s m args below meth c ls C0 hw hl hnm
  obtain ⟨hx, hb, hml, hown, hts, -⟩ := id C0
  have C0 : MX p l s m args meth c D cy ad cX6_chars RX6 3 wsX6_chars ((some .int)) := C0
  have hown : s.vm.findClass RX6 = some m.cls := hown
  have hl : lv_has ls 3 [(0, .ref (ad 427))] := hl
  show W p l e rmX6_chars s m args below meth c s.heap [] 0 0 (QN D cy ad below args s x q_vi r 0 0) (F0 m 0 ls [])
  unfold fX6_chars at h
  refine lv_iconst (v := 0) hx hb dX6_chars_0 (by decide) ?_
  refine q_istore_n (lv' := fun z1 => [(1, .int z1), (0, .ref (ad 427))]) hx hb dX6_chars_1 rfl hl (by decide) (fun _ => rfl) h (fun z1 ls hl h => ?_)
  refine lv_iconst (v := 0) hx hb dX6_chars_2 (by decide) ?_
  refine q_istore_n (lv' := fun z2 => [(2, .int z2), (1, .int z1), (0, .ref (ad 427))]) hx hb dX6_chars_3 rfl hl (by decide) (fun _ => rfl) h (fun z2 ls hl h => ?_)
  exact wX6_chars_4 hst C0  F M z1 z2 _ _ _ hw (lv_sub hl [2, 1, 0] rfl) h
/-! HomewatcherModel.type(I)I -/
abbrev rmX6_type : Room := { frames := 2, cells := 0, slots := 0, locals := 42 }
def fX6_type (F : Nat) (M : Mem) (a0 : Int32) : Option (Mem × Int32) :=
    q_bn (fX6_isSign F M a0) fun M1 z2 =>
    if z2 = (0 : Int32) then
    (q_bn (fX6_fails F M1 (1 : Int32)) fun M3 z4 =>
    some (M3, z4))
    else
    (if (M1 65 0 0) = (40 : Int32) then
    (q_bn (fX6_fails F M1 (2 : Int32)) fun M3 z4 =>
    some (M3, z4))
    else
    (q_ax (M1 65 0 0) 40 fun j3 =>
    q_lt (up M1 32 0 j3 a0) fun M4 =>
    q_lt (up M4 65 0 0 ((M4 65 0 0) + (1 : Int32))) fun M5 =>
    q_bn (fX6_tells F M5 (M5 65 0 0)) fun M6 z7 =>
    some (M6, z7)))
set_option maxHeartbeats 4000000 in
set_option maxRecDepth 100000 in
theorem ctX6_type {l : Launch} (hst : l.stackTraces = false) {D : va_G} {cy : Nat → ClassId} {ad : Nat → Nat} {x : XX} {F : Nat} {M : Mem} {a0 : Int32} {r : Mem × Int32} (h : fX6_type F M a0 = some r) : CN l yX6_type wsX6_type rmX6_type D cy ad [.ref (ad 427), .int a0] x M x r.1 (q_vi r.2) 0 0 := by
  refine q_startN (cc := cX6_type) (maxL := 2) (ret := (some .int)) (by decide) rfl (Nat.le_of_ble_eq_true rfl) ?_
  intro p e s m args below meth c ls C0 hw hl hnm
  obtain ⟨hx, hb, hml, hown, hts, -⟩ := id C0
  have C0 : MX p l s m args meth c D cy ad cX6_type RX6 2 wsX6_type ((some .int)) := C0
  have hown : s.vm.findClass RX6 = some m.cls := hown
  have hl : lv_has ls 2 [(0, .ref (ad 427)), (1, .int a0)] := hl
  show W p l e rmX6_type s m args below meth c s.heap [] 0 0 (QN D cy ad below args s x q_vi r 0 0) (F0 m 0 ls [])
  unfold fX6_type at h
  refine lv_iload_n hx hb dX6_type_0 rfl (lv_at hl 1 rfl) ?_
  refine q_callSNi (As := [.int a0]) (nA := 1) C0 hw (fun r1 h1 => ctX6_isSign hst h1) gX6_type_X6_isSign rfl ⟨rfl, rfl⟩ (by decide +kernel) rfl ⟨(Nat.le_of_ble_eq_true rfl), (Nat.le_of_ble_eq_true rfl)⟩ hl.1 (Nat.le_of_ble_eq_true rfl) ⟨(Nat.le_of_ble_eq_true rfl), (Nat.le_of_ble_eq_true rfl)⟩ rfl h dX6_type_1 (fun M1 z2 H locs hw h => ?_)
  refine q_if_ne (tgt := 13) hx hb dX6_type_4 (by decide) h (fun h => ?_) (fun h => ?_)
  · refine lv_aload_n hx hb dX6_type_13 rfl (lv_at hl 0 rfl) ?_
    refine gf_Mod_signs C0 hw (fun _ h9 => List.mem_cons_of_mem _ (List.mem_append_left _ (List.mem_append_right _ h9))) (List.mem_of_getElem? (i := 1) rfl) dX6_type_14 ?_
    refine lv_bipush (v := 40) hx hb dX6_type_17 (by decide) ?_
    refine q_icmp_ne (tgt := 28) hx hb dX6_type_19 (by decide) h (fun h => ?_) (fun h => ?_)
    · refine lv_aload_n hx hb dX6_type_28 rfl (lv_at hl 0 rfl) ?_
      refine gf_Mod_text C0 hw (fun _ h9 => List.mem_cons_of_mem _ (List.mem_append_left _ (List.mem_append_right _ h9))) (List.mem_of_getElem? (i := 2) rfl) dX6_type_29 ?_
      refine lv_aload_n hx hb dX6_type_32 rfl (lv_at hl 0 rfl) ?_
      refine gf_Mod_signs C0 hw (fun _ h9 => List.mem_cons_of_mem _ (List.mem_append_left _ (List.mem_append_right _ h9))) (List.mem_of_getElem? (i := 1) rfl) dX6_type_33 ?_
      refine lv_iload_n hx hb dX6_type_36 rfl (lv_at hl 1 rfl) ?_
      refine q_iast (v := 32) C0 hw rfl (fun _ => at_m32) h dX6_type_37 (fun j3 M4 H locs hj3 hw h => ?_)
      refine lv_aload_n hx hb dX6_type_38 rfl (lv_at hl 0 rfl) ?_
      refine lv_dup hx hb dX6_type_39 rfl ?_
      refine gf_Mod_signs C0 hw (fun _ h9 => List.mem_cons_of_mem _ (List.mem_append_left _ (List.mem_append_right _ h9))) (List.mem_of_getElem? (i := 1) rfl) dX6_type_40 ?_
      refine lv_iconst (v := 1) hx hb dX6_type_43 (by decide) ?_
      refine lv_iadd hx hb dX6_type_44 ?_
      refine pf_Mod_signs C0 hw (fun _ h9 => List.mem_cons_of_mem _ (List.mem_append_left _ (List.mem_append_right _ h9))) (List.mem_of_getElem? (i := 1) rfl) dX6_type_45 h (fun M5 H locs hw h => ?_)
      refine lv_aload_n hx hb dX6_type_48 rfl (lv_at hl 0 rfl) ?_
      refine lv_aload_n hx hb dX6_type_49 rfl (lv_at hl 0 rfl) ?_
      refine gf_Mod_signs C0 hw (fun _ h9 => List.mem_cons_of_mem _ (List.mem_append_left _ (List.mem_append_right _ h9))) (List.mem_of_getElem? (i := 1) rfl) dX6_type_50 ?_
      refine q_callVNi (As := [.int (M5 65 0 0)]) (nA := 1) C0 hw at_Mod rfl (fun r1 h1 => ctX6_tells hst h1) gX6_type_X6_tells rfl ⟨rfl, rfl⟩ (by decide +kernel) rfl ⟨(Nat.le_of_ble_eq_true rfl), (Nat.le_of_ble_eq_true rfl)⟩ hl.1 (Nat.le_of_ble_eq_true rfl) ⟨(Nat.le_of_ble_eq_true rfl), (Nat.le_of_ble_eq_true rfl)⟩ rfl h dX6_type_53 (fun M6 z7 H locs hw h => ?_)
      exact q_iretN C0 hw h ⟨(Nat.le_of_ble_eq_true rfl), (Nat.le_of_ble_eq_true rfl)⟩ dX6_type_56
    · refine lv_aload_n hx hb dX6_type_22 rfl (lv_at hl 0 rfl) ?_
      refine lv_iconst (v := 2) hx hb dX6_type_23 (by decide) ?_
      refine q_callVNi (As := [.int ((2 : Int32))]) (nA := 1) C0 hw at_Mod rfl (fun r1 h1 => ctX6_fails hst h1) gX6_type_X6_fails rfl ⟨rfl, rfl⟩ (by decide +kernel) rfl ⟨(Nat.le_of_ble_eq_true rfl), (Nat.le_of_ble_eq_true rfl)⟩ hl.1 (Nat.le_of_ble_eq_true rfl) ⟨(Nat.le_of_ble_eq_true rfl), (Nat.le_of_ble_eq_true rfl)⟩ rfl h dX6_type_24 (fun M3 z4 H locs hw h => ?_)
      exact q_iretN C0 hw h ⟨(Nat.le_of_ble_eq_true rfl), (Nat.le_of_ble_eq_true rfl)⟩ dX6_type_27
  · refine lv_aload_n hx hb dX6_type_7 rfl (lv_at hl 0 rfl) ?_
    refine lv_iconst (v := 1) hx hb dX6_type_8 (by decide) ?_
    refine q_callVNi (As := [.int ((1 : Int32))]) (nA := 1) C0 hw at_Mod rfl (fun r1 h1 => ctX6_fails hst h1) gX6_type_X6_fails rfl ⟨rfl, rfl⟩ (by decide +kernel) rfl ⟨(Nat.le_of_ble_eq_true rfl), (Nat.le_of_ble_eq_true rfl)⟩ hl.1 (Nat.le_of_ble_eq_true rfl) ⟨(Nat.le_of_ble_eq_true rfl), (Nat.le_of_ble_eq_true rfl)⟩ rfl h dX6_type_9 (fun M3 z4 H locs hw h => ?_)
    exact q_iretN C0 hw h ⟨(Nat.le_of_ble_eq_true rfl), (Nat.le_of_ble_eq_true rfl)⟩ dX6_type_12
/-! HomewatcherModel.insert(II)I -/
abbrev rmX6_insert : Room := { frames := 2, cells := 0, slots := 0, locals := 42 }
def fX6_insert_51 (F : Nat) : Nat → Mem → Int32 → Int32 → Int32 → Option (Mem × Int32)
  | 0, _, _, _, _ => none
  | n + 1, M, v1, v2, v3 =>
    if v3 ≤ v1 then
    (q_ax v1 40 fun j1 =>
    q_lt (up M 32 0 j1 v2) fun M2 =>
    q_lt (up M2 65 0 0 ((M2 65 0 0) + (1 : Int32))) fun M3 =>
    q_bn (fX6_chars F M3) fun M4 z5 =>
    q_bn (fX6_tells F M4 z5) fun M6 z7 =>
    some (M6, z7))
    else
    (q_ax (v3 - (1 : Int32)) 40 fun j1 =>
    q_ax v3 40 fun j2 =>
    q_lt (up M 32 0 j2 (M 32 0 j1)) fun M3 =>
    q_lt (v3 + (-1 : Int32)) fun z4 =>
    fX6_insert_51 F n M3 v1 v2 z4)
set_option maxHeartbeats 4000000 in
set_option maxRecDepth 100000 in
theorem wX6_insert_51 {p : Program} {l : Launch} {e : Env} {s : State} {m : MethodId} {args : Array Value} {below : List Frame} {meth : Method} {c : Code} {D : va_G} {cy : Nat → ClassId} {ad : Nat → Nat} {x : XX} {F : Nat} {r : Mem × Int32} (hst : l.stackTraces = false) (C0 : MX p l s m args meth c D cy ad cX6_insert RX6 4 wsX6_insert (some .int)) : ∀ (n : Nat) (M : Mem) (v1 : Int32) (v2 : Int32) (v3 : Int32) (H : Heap) (locs : List Loc) (ls : Array Slot), Wd D cy ad x s M H locs → lv_has ls 4 [(0, .ref (ad 427)), (1, .int v1), (2, .int v2), (3, .int v3)] → fX6_insert_51 F n M v1 v2 v3 = some r → W p l e rmX6_insert s m args below meth c H locs 0 0 (QN D cy ad below args s x q_vi r 0 0) (F0 m 51 ls []) := by
  obtain ⟨hx, hb, hml, hown, hts, -⟩ := id C0
  intro n
  induction n with
  | zero =>
    intro M v1 v2 v3 H locs ls hw hl h
    exact q_no h
  | succ n ih =>
    intro M v1 v2 v3 H locs ls hw hl h
    unfold fX6_insert_51 at h
    refine lv_iload_n hx hb dX6_insert_51 rfl (lv_at hl 3 rfl) ?_
    refine lv_iload_n hx hb dX6_insert_52 rfl (lv_at hl 1 rfl) ?_
    refine q_icmp_le (tgt := 76) hx hb dX6_insert_53 (by decide) h (fun h => ?_) (fun h => ?_)
    · refine lv_aload_n hx hb dX6_insert_76 rfl (lv_at hl 0 rfl) ?_
      refine gf_Mod_text C0 hw (fun _ h9 => List.mem_cons_of_mem _ (List.mem_append_left _ (List.mem_append_right _ h9))) (List.mem_of_getElem? (i := 2) rfl) dX6_insert_77 ?_
      refine lv_iload_n hx hb dX6_insert_80 rfl (lv_at hl 1 rfl) ?_
      refine lv_iload_n hx hb dX6_insert_81 rfl (lv_at hl 2 rfl) ?_
      refine q_iast (v := 32) C0 hw rfl (fun _ => at_m32) h dX6_insert_82 (fun j1 M2 H locs hj1 hw h => ?_)
      refine lv_aload_n hx hb dX6_insert_83 rfl (lv_at hl 0 rfl) ?_
      refine lv_dup hx hb dX6_insert_84 rfl ?_
      refine gf_Mod_signs C0 hw (fun _ h9 => List.mem_cons_of_mem _ (List.mem_append_left _ (List.mem_append_right _ h9))) (List.mem_of_getElem? (i := 1) rfl) dX6_insert_85 ?_
      refine lv_iconst (v := 1) hx hb dX6_insert_88 (by decide) ?_
      refine lv_iadd hx hb dX6_insert_89 ?_
      refine pf_Mod_signs C0 hw (fun _ h9 => List.mem_cons_of_mem _ (List.mem_append_left _ (List.mem_append_right _ h9))) (List.mem_of_getElem? (i := 1) rfl) dX6_insert_90 h (fun M3 H locs hw h => ?_)
      refine lv_aload_n hx hb dX6_insert_93 rfl (lv_at hl 0 rfl) ?_
      refine lv_aload_n hx hb dX6_insert_94 rfl (lv_at hl 0 rfl) ?_
      refine q_callVNi (As := []) (nA := 0) C0 hw at_Mod rfl (fun r1 h1 => ctX6_chars hst h1) gX6_insert_X6_chars rfl ⟨rfl, rfl⟩ (by decide +kernel) rfl ⟨(Nat.le_of_ble_eq_true rfl), (Nat.le_of_ble_eq_true rfl)⟩ hl.1 (Nat.le_of_ble_eq_true rfl) ⟨(Nat.le_of_ble_eq_true rfl), (Nat.le_of_ble_eq_true rfl)⟩ rfl h dX6_insert_95 (fun M4 z5 H locs hw h => ?_)
      refine q_callVNi (As := [.int z5]) (nA := 1) C0 hw at_Mod rfl (fun r1 h1 => ctX6_tells hst h1) gX6_insert_X6_tells rfl ⟨rfl, rfl⟩ (by decide +kernel) rfl ⟨(Nat.le_of_ble_eq_true rfl), (Nat.le_of_ble_eq_true rfl)⟩ hl.1 (Nat.le_of_ble_eq_true rfl) ⟨(Nat.le_of_ble_eq_true rfl), (Nat.le_of_ble_eq_true rfl)⟩ rfl h dX6_insert_98 (fun M6 z7 H locs hw h => ?_)
      exact q_iretN C0 hw h ⟨(Nat.le_of_ble_eq_true rfl), (Nat.le_of_ble_eq_true rfl)⟩ dX6_insert_101
    · refine lv_aload_n hx hb dX6_insert_56 rfl (lv_at hl 0 rfl) ?_
      refine gf_Mod_text C0 hw (fun _ h9 => List.mem_cons_of_mem _ (List.mem_append_left _ (List.mem_append_right _ h9))) (List.mem_of_getElem? (i := 2) rfl) dX6_insert_57 ?_
      refine lv_iload_n hx hb dX6_insert_60 rfl (lv_at hl 3 rfl) ?_
      refine lv_aload_n hx hb dX6_insert_61 rfl (lv_at hl 0 rfl) ?_
      refine gf_Mod_text C0 hw (fun _ h9 => List.mem_cons_of_mem _ (List.mem_append_left _ (List.mem_append_right _ h9))) (List.mem_of_getElem? (i := 2) rfl) dX6_insert_62 ?_
      refine lv_iload_n hx hb dX6_insert_65 rfl (lv_at hl 3 rfl) ?_
      refine lv_iconst (v := 1) hx hb dX6_insert_66 (by decide) ?_
      refine lv_isub hx hb dX6_insert_67 ?_
      refine q_iald C0 hw at_m32 h dX6_insert_68 (fun j1 hj1 h => ?_)
      refine q_iast (v := 32) C0 hw rfl (fun _ => at_m32) h dX6_insert_69 (fun j2 M3 H locs hj2 hw h => ?_)
      refine q_iinc (k := 3) (cst := -1) (lv' := fun z4 => [(3, .int z4), (0, .ref (ad 427)), (1, .int v1), (2, .int v2)]) hx hb dX6_insert_70 hl rfl rfl (by decide) (fun _ => rfl) h (fun z4 ls hl h => ?_)
      refine lv_goto (tgt := 51) hx hb dX6_insert_73 (by decide) ?_
      exact ih M3 v1 v2 z4 _ _ _ hw (lv_sub hl [1, 2, 3, 0] rfl) h
def fX6_insert (F : Nat) (M : Mem) (a0 : Int32) (a1 : Int32) : Option (Mem × Int32) :=
    q_bn (fX6_in F M a0 (0 : Int32) (M 65 0 0)) fun M1 z2 =>
    if z2 = (0 : Int32) then
    (q_bn (fX6_fails F M1 (1 : Int32)) fun M3 z4 =>
    some (M3, z4))
    else
    (q_bn (fX6_isSign F M1 a1) fun M3 z4 =>
    if z4 = (0 : Int32) then
    (q_bn (fX6_fails F M3 (2 : Int32)) fun M5 z6 =>
    some (M5, z6))
    else
    (if (M3 65 0 0) = (40 : Int32) then
    (q_bn (fX6_fails F M3 (3 : Int32)) fun M5 z6 =>
    some (M5, z6))
    else
    (q_lt (M3 65 0 0) fun z5 =>
    fX6_insert_51 F F M3 a0 a1 z5)))
set_option maxHeartbeats 4000000 in
set_option maxRecDepth 100000 in
theorem ctX6_insert {l : Launch} (hst : l.stackTraces = false) {D : va_G} {cy : Nat → ClassId} {ad : Nat → Nat} {x : XX} {F : Nat} {M : Mem} {a0 : Int32} {a1 : Int32} {r : Mem × Int32} (h : fX6_insert F M a0 a1 = some r) : CN l yX6_insert wsX6_insert rmX6_insert D cy ad [.ref (ad 427), .int a0, .int a1] x M x r.1 (q_vi r.2) 0 0 := by
  refine q_startN (cc := cX6_insert) (maxL := 4) (ret := (some .int)) (by decide) rfl (Nat.le_of_ble_eq_true rfl) ?_
  intro p e s m args below meth c ls C0 hw hl hnm
  obtain ⟨hx, hb, hml, hown, hts, -⟩ := id C0
  have C0 : MX p l s m args meth c D cy ad cX6_insert RX6 4 wsX6_insert ((some .int)) := C0
  have hown : s.vm.findClass RX6 = some m.cls := hown
  have hl : lv_has ls 4 [(0, .ref (ad 427)), (1, .int a0), (2, .int a1)] := hl
  show W p l e rmX6_insert s m args below meth c s.heap [] 0 0 (QN D cy ad below args s x q_vi r 0 0) (F0 m 0 ls [])
  unfold fX6_insert at h
  refine lv_iload_n hx hb dX6_insert_0 rfl (lv_at hl 1 rfl) ?_
  refine lv_iconst (v := 0) hx hb dX6_insert_1 (by decide) ?_
  refine lv_aload_n hx hb dX6_insert_2 rfl (lv_at hl 0 rfl) ?_
  refine gf_Mod_signs C0 hw (fun _ h9 => List.mem_cons_of_mem _ (List.mem_append_left _ (List.mem_append_right _ h9))) (List.mem_of_getElem? (i := 1) rfl) dX6_insert_3 ?_
  refine q_callSNi (As := [.int a0, .int ((0 : Int32)), .int (M 65 0 0)]) (nA := 3) C0 hw (fun r1 h1 => ctX6_in hst h1) gX6_insert_X6_in rfl ⟨rfl, rfl⟩ (by decide +kernel) rfl ⟨(Nat.le_of_ble_eq_true rfl), (Nat.le_of_ble_eq_true rfl)⟩ hl.1 (Nat.le_of_ble_eq_true rfl) ⟨(Nat.le_of_ble_eq_true rfl), (Nat.le_of_ble_eq_true rfl)⟩ rfl h dX6_insert_6 (fun M1 z2 H locs hw h => ?_)
  refine q_if_ne (tgt := 18) hx hb dX6_insert_9 (by decide) h (fun h => ?_) (fun h => ?_)
  · refine lv_iload_n hx hb dX6_insert_18 rfl (lv_at hl 2 rfl) ?_
    refine q_callSNi (As := [.int a1]) (nA := 1) C0 hw (fun r1 h1 => ctX6_isSign hst h1) gX6_insert_X6_isSign rfl ⟨rfl, rfl⟩ (by decide +kernel) rfl ⟨(Nat.le_of_ble_eq_true rfl), (Nat.le_of_ble_eq_true rfl)⟩ hl.1 (Nat.le_of_ble_eq_true rfl) ⟨(Nat.le_of_ble_eq_true rfl), (Nat.le_of_ble_eq_true rfl)⟩ rfl h dX6_insert_19 (fun M3 z4 H locs hw h => ?_)
    refine q_if_ne (tgt := 31) hx hb dX6_insert_22 (by decide) h (fun h => ?_) (fun h => ?_)
    · refine lv_aload_n hx hb dX6_insert_31 rfl (lv_at hl 0 rfl) ?_
      refine gf_Mod_signs C0 hw (fun _ h9 => List.mem_cons_of_mem _ (List.mem_append_left _ (List.mem_append_right _ h9))) (List.mem_of_getElem? (i := 1) rfl) dX6_insert_32 ?_
      refine lv_bipush (v := 40) hx hb dX6_insert_35 (by decide) ?_
      refine q_icmp_ne (tgt := 46) hx hb dX6_insert_37 (by decide) h (fun h => ?_) (fun h => ?_)
      · refine lv_aload_n hx hb dX6_insert_46 rfl (lv_at hl 0 rfl) ?_
        refine gf_Mod_signs C0 hw (fun _ h9 => List.mem_cons_of_mem _ (List.mem_append_left _ (List.mem_append_right _ h9))) (List.mem_of_getElem? (i := 1) rfl) dX6_insert_47 ?_
        refine q_istore_n (lv' := fun z5 => [(3, .int z5), (0, .ref (ad 427)), (1, .int a0), (2, .int a1)]) hx hb dX6_insert_50 rfl hl (by decide) (fun _ => rfl) h (fun z5 ls hl h => ?_)
        exact wX6_insert_51 hst C0  F M3 a0 a1 z5 _ _ _ hw (lv_sub hl [1, 2, 3, 0] rfl) h
      · refine lv_aload_n hx hb dX6_insert_40 rfl (lv_at hl 0 rfl) ?_
        refine lv_iconst (v := 3) hx hb dX6_insert_41 (by decide) ?_
        refine q_callVNi (As := [.int ((3 : Int32))]) (nA := 1) C0 hw at_Mod rfl (fun r1 h1 => ctX6_fails hst h1) gX6_insert_X6_fails rfl ⟨rfl, rfl⟩ (by decide +kernel) rfl ⟨(Nat.le_of_ble_eq_true rfl), (Nat.le_of_ble_eq_true rfl)⟩ hl.1 (Nat.le_of_ble_eq_true rfl) ⟨(Nat.le_of_ble_eq_true rfl), (Nat.le_of_ble_eq_true rfl)⟩ rfl h dX6_insert_42 (fun M5 z6 H locs hw h => ?_)
        exact q_iretN C0 hw h ⟨(Nat.le_of_ble_eq_true rfl), (Nat.le_of_ble_eq_true rfl)⟩ dX6_insert_45
    · refine lv_aload_n hx hb dX6_insert_25 rfl (lv_at hl 0 rfl) ?_
      refine lv_iconst (v := 2) hx hb dX6_insert_26 (by decide) ?_
      refine q_callVNi (As := [.int ((2 : Int32))]) (nA := 1) C0 hw at_Mod rfl (fun r1 h1 => ctX6_fails hst h1) gX6_insert_X6_fails rfl ⟨rfl, rfl⟩ (by decide +kernel) rfl ⟨(Nat.le_of_ble_eq_true rfl), (Nat.le_of_ble_eq_true rfl)⟩ hl.1 (Nat.le_of_ble_eq_true rfl) ⟨(Nat.le_of_ble_eq_true rfl), (Nat.le_of_ble_eq_true rfl)⟩ rfl h dX6_insert_27 (fun M5 z6 H locs hw h => ?_)
      exact q_iretN C0 hw h ⟨(Nat.le_of_ble_eq_true rfl), (Nat.le_of_ble_eq_true rfl)⟩ dX6_insert_30
  · refine lv_aload_n hx hb dX6_insert_12 rfl (lv_at hl 0 rfl) ?_
    refine lv_iconst (v := 1) hx hb dX6_insert_13 (by decide) ?_
    refine q_callVNi (As := [.int ((1 : Int32))]) (nA := 1) C0 hw at_Mod rfl (fun r1 h1 => ctX6_fails hst h1) gX6_insert_X6_fails rfl ⟨rfl, rfl⟩ (by decide +kernel) rfl ⟨(Nat.le_of_ble_eq_true rfl), (Nat.le_of_ble_eq_true rfl)⟩ hl.1 (Nat.le_of_ble_eq_true rfl) ⟨(Nat.le_of_ble_eq_true rfl), (Nat.le_of_ble_eq_true rfl)⟩ rfl h dX6_insert_14 (fun M3 z4 H locs hw h => ?_)
    exact q_iretN C0 hw h ⟨(Nat.le_of_ble_eq_true rfl), (Nat.le_of_ble_eq_true rfl)⟩ dX6_insert_17
/-! HomewatcherModel.reverse()I -/
abbrev rmX6_reverse : Room := { frames := 1, cells := 0, slots := 0, locals := 21 }
def fX6_reverse_76 (F : Nat) (M : Mem) (s0 : Int32) : Option (Mem × Int32) :=
    q_bn (fX6_tells F M s0) fun M1 z2 =>
    some (M1, z2)
set_option maxHeartbeats 4000000 in
set_option maxRecDepth 100000 in
theorem wX6_reverse_76 {p : Program} {l : Launch} {e : Env} {s : State} {m : MethodId} {args : Array Value} {below : List Frame} {meth : Method} {c : Code} {D : va_G} {cy : Nat → ClassId} {ad : Nat → Nat} {x : XX} {F : Nat} {r : Mem × Int32} (hst : l.stackTraces = false) (C0 : MX p l s m args meth c D cy ad cX6_reverse RX6 3 wsX6_reverse (some .int)) : ∀ (M : Mem) (s0 : Int32) (H : Heap) (locs : List Loc) (ls : Array Slot), Wd D cy ad x s M H locs → lv_has ls 3 [] → fX6_reverse_76 F M s0 = some r → W p l e rmX6_reverse s m args below meth c H locs 0 0 (QN D cy ad below args s x q_vi r 0 0) (F0 m 76 ls [.int s0, .ref (ad 427)]) := by
  obtain ⟨hx, hb, hml, hown, hts, -⟩ := id C0
  intro M s0 H locs ls hw hl h
  unfold fX6_reverse_76 at h
  refine q_callVNi (As := [.int s0]) (nA := 1) C0 hw at_Mod rfl (fun r1 h1 => ctX6_tells hst h1) gX6_reverse_X6_tells rfl ⟨rfl, rfl⟩ (by decide +kernel) rfl ⟨(Nat.le_of_ble_eq_true rfl), (Nat.le_of_ble_eq_true rfl)⟩ hl.1 (Nat.le_of_ble_eq_true rfl) ⟨(Nat.le_of_ble_eq_true rfl), (Nat.le_of_ble_eq_true rfl)⟩ rfl h dX6_reverse_76 (fun M1 z2 H locs hw h => ?_)
  exact q_iretN C0 hw h ⟨(Nat.le_of_ble_eq_true rfl), (Nat.le_of_ble_eq_true rfl)⟩ dX6_reverse_79
def fX6_reverse_2 (F : Nat) : Nat → Mem → Int32 → Option (Mem × Int32)
  | 0, _, _ => none
  | n + 1, M, v1 =>
    if ((M 65 0 0) / (2 : Int32)) ≤ v1 then
    (if (M 65 0 0) = (0 : Int32) then
    (fX6_reverse_76 F M (0 : Int32))
    else
    (q_ax (0 : Int32) 40 fun j1 =>
    fX6_reverse_76 F M (M 32 0 j1)))
    else
    (q_ax v1 40 fun j1 =>
    q_lt (M 32 0 j1) fun z2 =>
    q_ax (((M 65 0 0) - (1 : Int32)) - v1) 40 fun j3 =>
    q_ax v1 40 fun j4 =>
    q_lt (up M 32 0 j4 (M 32 0 j3)) fun M5 =>
    q_ax (((M5 65 0 0) - (1 : Int32)) - v1) 40 fun j6 =>
    q_lt (up M5 32 0 j6 z2) fun M7 =>
    q_lt (v1 + (1 : Int32)) fun z8 =>
    fX6_reverse_2 F n M7 z8)
set_option maxHeartbeats 4000000 in
set_option maxRecDepth 100000 in
theorem wX6_reverse_2 {p : Program} {l : Launch} {e : Env} {s : State} {m : MethodId} {args : Array Value} {below : List Frame} {meth : Method} {c : Code} {D : va_G} {cy : Nat → ClassId} {ad : Nat → Nat} {x : XX} {F : Nat} {r : Mem × Int32} (hst : l.stackTraces = false) (C0 : MX p l s m args meth c D cy ad cX6_reverse RX6 3 wsX6_reverse (some .int)) : ∀ (n : Nat) (M : Mem) (v1 : Int32) (H : Heap) (locs : List Loc) (ls : Array Slot), Wd D cy ad x s M H locs → lv_has ls 3 [(0, .ref (ad 427)), (1, .int v1)] → fX6_reverse_2 F n M v1 = some r → W p l e rmX6_reverse s m args below meth c H locs 0 0 (QN D cy ad below args s x q_vi r 0 0) (F0 m 2 ls []) := by
  obtain ⟨hx, hb, hml, hown, hts, -⟩ := id C0
  intro n
  induction n with
  | zero =>
    intro M v1 H locs ls hw hl h
    exact q_no h
  | succ n ih =>
    intro M v1 H locs ls hw hl h
    unfold fX6_reverse_2 at h
    refine lv_iload_n hx hb dX6_reverse_2 rfl (lv_at hl 1 rfl) ?_
    refine lv_aload_n hx hb dX6_reverse_3 rfl (lv_at hl 0 rfl) ?_
    refine gf_Mod_signs C0 hw (fun _ h9 => List.mem_cons_of_mem _ (List.mem_append_left _ (List.mem_append_right _ h9))) (List.mem_of_getElem? (i := 1) rfl) dX6_reverse_4 ?_
    refine lv_iconst (v := 2) hx hb dX6_reverse_7 (by decide) ?_
    refine lv_idiv hx hb dX6_reverse_8 (by decide) ?_
    refine q_icmp_ge (tgt := 58) hx hb dX6_reverse_9 (by decide) h (fun h => ?_) (fun h => ?_)
    · refine lv_aload_n hx hb dX6_reverse_58 rfl (lv_at hl 0 rfl) ?_
      refine lv_aload_n hx hb dX6_reverse_59 rfl (lv_at hl 0 rfl) ?_
      refine gf_Mod_signs C0 hw (fun _ h9 => List.mem_cons_of_mem _ (List.mem_append_left _ (List.mem_append_right _ h9))) (List.mem_of_getElem? (i := 1) rfl) dX6_reverse_60 ?_
      refine q_if_ne (tgt := 70) hx hb dX6_reverse_63 (by decide) h (fun h => ?_) (fun h => ?_)
      · refine lv_aload_n hx hb dX6_reverse_70 rfl (lv_at hl 0 rfl) ?_
        refine gf_Mod_text C0 hw (fun _ h9 => List.mem_cons_of_mem _ (List.mem_append_left _ (List.mem_append_right _ h9))) (List.mem_of_getElem? (i := 2) rfl) dX6_reverse_71 ?_
        refine lv_iconst (v := 0) hx hb dX6_reverse_74 (by decide) ?_
        refine q_iald C0 hw at_m32 h dX6_reverse_75 (fun j1 hj1 h => ?_)
        exact wX6_reverse_76 hst C0  M (M 32 0 j1) _ _ _ hw (lv_sub hl [] rfl) h
      · refine lv_iconst (v := 0) hx hb dX6_reverse_66 (by decide) ?_
        refine lv_goto (tgt := 76) hx hb dX6_reverse_67 (by decide) ?_
        exact wX6_reverse_76 hst C0  M (0 : Int32) _ _ _ hw (lv_sub hl [] rfl) h
    · refine lv_aload_n hx hb dX6_reverse_12 rfl (lv_at hl 0 rfl) ?_
      refine gf_Mod_text C0 hw (fun _ h9 => List.mem_cons_of_mem _ (List.mem_append_left _ (List.mem_append_right _ h9))) (List.mem_of_getElem? (i := 2) rfl) dX6_reverse_13 ?_
      refine lv_iload_n hx hb dX6_reverse_16 rfl (lv_at hl 1 rfl) ?_
      refine q_iald C0 hw at_m32 h dX6_reverse_17 (fun j1 hj1 h => ?_)
      refine q_istore_n (lv' := fun z2 => [(2, .int z2), (0, .ref (ad 427)), (1, .int v1)]) hx hb dX6_reverse_18 rfl hl (by decide) (fun _ => rfl) h (fun z2 ls hl h => ?_)
      refine lv_aload_n hx hb dX6_reverse_19 rfl (lv_at hl 1 rfl) ?_
      refine gf_Mod_text C0 hw (fun _ h9 => List.mem_cons_of_mem _ (List.mem_append_left _ (List.mem_append_right _ h9))) (List.mem_of_getElem? (i := 2) rfl) dX6_reverse_20 ?_
      refine lv_iload_n hx hb dX6_reverse_23 rfl (lv_at hl 2 rfl) ?_
      refine lv_aload_n hx hb dX6_reverse_24 rfl (lv_at hl 1 rfl) ?_
      refine gf_Mod_text C0 hw (fun _ h9 => List.mem_cons_of_mem _ (List.mem_append_left _ (List.mem_append_right _ h9))) (List.mem_of_getElem? (i := 2) rfl) dX6_reverse_25 ?_
      refine lv_aload_n hx hb dX6_reverse_28 rfl (lv_at hl 1 rfl) ?_
      refine gf_Mod_signs C0 hw (fun _ h9 => List.mem_cons_of_mem _ (List.mem_append_left _ (List.mem_append_right _ h9))) (List.mem_of_getElem? (i := 1) rfl) dX6_reverse_29 ?_
      refine lv_iconst (v := 1) hx hb dX6_reverse_32 (by decide) ?_
      refine lv_isub hx hb dX6_reverse_33 ?_
      refine lv_iload_n hx hb dX6_reverse_34 rfl (lv_at hl 2 rfl) ?_
      refine lv_isub hx hb dX6_reverse_35 ?_
      refine q_iald C0 hw at_m32 h dX6_reverse_36 (fun j3 hj3 h => ?_)
      refine q_iast (v := 32) C0 hw rfl (fun _ => at_m32) h dX6_reverse_37 (fun j4 M5 H locs hj4 hw h => ?_)
      refine lv_aload_n hx hb dX6_reverse_38 rfl (lv_at hl 1 rfl) ?_
      refine gf_Mod_text C0 hw (fun _ h9 => List.mem_cons_of_mem _ (List.mem_append_left _ (List.mem_append_right _ h9))) (List.mem_of_getElem? (i := 2) rfl) dX6_reverse_39 ?_
      refine lv_aload_n hx hb dX6_reverse_42 rfl (lv_at hl 1 rfl) ?_
      refine gf_Mod_signs C0 hw (fun _ h9 => List.mem_cons_of_mem _ (List.mem_append_left _ (List.mem_append_right _ h9))) (List.mem_of_getElem? (i := 1) rfl) dX6_reverse_43 ?_
      refine lv_iconst (v := 1) hx hb dX6_reverse_46 (by decide) ?_
      refine lv_isub hx hb dX6_reverse_47 ?_
      refine lv_iload_n hx hb dX6_reverse_48 rfl (lv_at hl 2 rfl) ?_
      refine lv_isub hx hb dX6_reverse_49 ?_
      refine lv_iload_n hx hb dX6_reverse_50 rfl (lv_at hl 0 rfl) ?_
      refine q_iast (v := 32) C0 hw rfl (fun _ => at_m32) h dX6_reverse_51 (fun j6 M7 H locs hj6 hw h => ?_)
      refine q_iinc (k := 2) (cst := 1) (lv' := fun z8 => [(1, .int z8), (2, .int z2), (0, .ref (ad 427))]) hx hb dX6_reverse_52 hl rfl rfl (by decide) (fun _ => rfl) h (fun z8 ls hl h => ?_)
      refine lv_goto (tgt := 2) hx hb dX6_reverse_55 (by decide) ?_
      exact ih M7 z8 _ _ _ hw (lv_sub hl [2, 0] rfl) h
def fX6_reverse (F : Nat) (M : Mem) : Option (Mem × Int32) :=
    q_lt ((0 : Int32)) fun z1 =>
    fX6_reverse_2 F F M z1
set_option maxHeartbeats 4000000 in
set_option maxRecDepth 100000 in
theorem ctX6_reverse {l : Launch} (hst : l.stackTraces = false) {D : va_G} {cy : Nat → ClassId} {ad : Nat → Nat} {x : XX} {F : Nat} {M : Mem} {r : Mem × Int32} (h : fX6_reverse F M = some r) : CN l yX6_reverse wsX6_reverse rmX6_reverse D cy ad [.ref (ad 427)] x M x r.1 (q_vi r.2) 0 0 := by
  refine q_startN (cc := cX6_reverse) (maxL := 3) (ret := (some .int)) (by decide) rfl (Nat.le_of_ble_eq_true rfl) ?_
  intro p e s m args below meth c ls C0 hw hl hnm
  obtain ⟨hx, hb, hml, hown, hts, -⟩ := id C0
  have C0 : MX p l s m args meth c D cy ad cX6_reverse RX6 3 wsX6_reverse ((some .int)) := C0
  have hown : s.vm.findClass RX6 = some m.cls := hown
  have hl : lv_has ls 3 [(0, .ref (ad 427))] := hl
  show W p l e rmX6_reverse s m args below meth c s.heap [] 0 0 (QN D cy ad below args s x q_vi r 0 0) (F0 m 0 ls [])
  unfold fX6_reverse at h
  refine lv_iconst (v := 0) hx hb dX6_reverse_0 (by decide) ?_
  refine q_istore_n (lv' := fun z1 => [(1, .int z1), (0, .ref (ad 427))]) hx hb dX6_reverse_1 rfl hl (by decide) (fun _ => rfl) h (fun z1 ls hl h => ?_)
  exact wX6_reverse_2 hst C0  F M z1 _ _ _ hw (lv_sub hl [1, 0] rfl) h
/-! HomewatcherModel.wipe()I -/
abbrev rmX6_wipe : Room := { frames := 1, cells := 0, slots := 0, locals := 21 }
def fX6_wipe (F : Nat) (M : Mem) : Option (Mem × Int32) :=
    q_lt (M 65 0 0) fun z1 =>
    q_lt (up M 65 0 0 (0 : Int32)) fun M2 =>
    q_bn (fX6_tells F M2 z1) fun M3 z4 =>
    some (M3, z4)
set_option maxHeartbeats 4000000 in
set_option maxRecDepth 100000 in
theorem ctX6_wipe {l : Launch} (hst : l.stackTraces = false) {D : va_G} {cy : Nat → ClassId} {ad : Nat → Nat} {x : XX} {F : Nat} {M : Mem} {r : Mem × Int32} (h : fX6_wipe F M = some r) : CN l yX6_wipe wsX6_wipe rmX6_wipe D cy ad [.ref (ad 427)] x M x r.1 (q_vi r.2) 0 0 := by
  refine q_startN (cc := cX6_wipe) (maxL := 2) (ret := (some .int)) (by decide) rfl (Nat.le_of_ble_eq_true rfl) ?_
  intro p e s m args below meth c ls C0 hw hl hnm
  obtain ⟨hx, hb, hml, hown, hts, -⟩ := id C0
  have C0 : MX p l s m args meth c D cy ad cX6_wipe RX6 2 wsX6_wipe ((some .int)) := C0
  have hown : s.vm.findClass RX6 = some m.cls := hown
  have hl : lv_has ls 2 [(0, .ref (ad 427))] := hl
  show W p l e rmX6_wipe s m args below meth c s.heap [] 0 0 (QN D cy ad below args s x q_vi r 0 0) (F0 m 0 ls [])
  unfold fX6_wipe at h
  refine lv_aload_n hx hb dX6_wipe_0 rfl (lv_at hl 0 rfl) ?_
  refine gf_Mod_signs C0 hw (fun _ h9 => List.mem_cons_of_mem _ (List.mem_append_right _ h9)) (List.mem_of_getElem? (i := 1) rfl) dX6_wipe_1 ?_
  refine q_istore_n (lv' := fun z1 => [(1, .int z1), (0, .ref (ad 427))]) hx hb dX6_wipe_4 rfl hl (by decide) (fun _ => rfl) h (fun z1 ls hl h => ?_)
  refine lv_aload_n hx hb dX6_wipe_5 rfl (lv_at hl 1 rfl) ?_
  refine lv_iconst (v := 0) hx hb dX6_wipe_6 (by decide) ?_
  refine pf_Mod_signs C0 hw (fun _ h9 => List.mem_cons_of_mem _ (List.mem_append_right _ h9)) (List.mem_of_getElem? (i := 1) rfl) dX6_wipe_7 h (fun M2 H locs hw h => ?_)
  refine lv_aload_n hx hb dX6_wipe_10 rfl (lv_at hl 1 rfl) ?_
  refine lv_iload_n hx hb dX6_wipe_11 rfl (lv_at hl 0 rfl) ?_
  refine q_callVNi (As := [.int z1]) (nA := 1) C0 hw at_Mod rfl (fun r1 h1 => ctX6_tells hst h1) gX6_wipe_X6_tells rfl ⟨rfl, rfl⟩ (by decide +kernel) rfl ⟨(Nat.le_of_ble_eq_true rfl), (Nat.le_of_ble_eq_true rfl)⟩ hl.1 (Nat.le_of_ble_eq_true rfl) ⟨(Nat.le_of_ble_eq_true rfl), (Nat.le_of_ble_eq_true rfl)⟩ rfl h dX6_wipe_12 (fun M3 z4 H locs hw h => ?_)
  exact q_iretN C0 hw h ⟨(Nat.le_of_ble_eq_true rfl), (Nat.le_of_ble_eq_true rfl)⟩ dX6_wipe_15
/-! HomewatcherModel.charOf(II)I -/
abbrev rmX6_charOf : Room := { frames := 0, cells := 0, slots := 0, locals := 0 }
def fX6_charOf_36 (F : Nat) (M : Mem) (s0 : Int32) : Option (Mem × Int32) :=
    some (M, s0)
set_option maxHeartbeats 4000000 in
set_option maxRecDepth 100000 in
theorem wX6_charOf_36 {p : Program} {l : Launch} {e : Env} {s : State} {m : MethodId} {args : Array Value} {below : List Frame} {meth : Method} {c : Code} {D : va_G} {cy : Nat → ClassId} {ad : Nat → Nat} {x : XX} {F : Nat} {r : Mem × Int32} (hst : l.stackTraces = false) (C0 : MX p l s m args meth c D cy ad cX6_charOf RX6 3 wsX6_charOf (some .int)) : ∀ (M : Mem) (s0 : Int32) (H : Heap) (locs : List Loc) (ls : Array Slot), Wd D cy ad x s M H locs → lv_has ls 3 [] → fX6_charOf_36 F M s0 = some r → W p l e rmX6_charOf s m args below meth c H locs 0 0 (QN D cy ad below args s x q_vi r 0 0) (F0 m 36 ls [.int s0]) := by
  obtain ⟨hx, hb, hml, hown, hts, -⟩ := id C0
  intro M s0 H locs ls hw hl h
  unfold fX6_charOf_36 at h
  exact q_iretN C0 hw h ⟨(Nat.le_of_ble_eq_true rfl), (Nat.le_of_ble_eq_true rfl)⟩ dX6_charOf_36
def fX6_charOf (F : Nat) (M : Mem) (a0 : Int32) (a1 : Int32) : Option (Mem × Int32) :=
    if (65535 : Int32) < a0 then
    (q_lt (a0 - (65536 : Int32)) fun z1 =>
    if a1 = (0 : Int32) then
    (fX6_charOf_36 F M ((55296 : Int32) + (z1 / (1024 : Int32))))
    else
    (fX6_charOf_36 F M ((56320 : Int32) + (z1 - z1 / (1024 : Int32) * (1024 : Int32)))))
    else
    (some (M, a0))
set_option maxHeartbeats 4000000 in
set_option maxRecDepth 100000 in
theorem ctX6_charOf {l : Launch} (hst : l.stackTraces = false) {D : va_G} {cy : Nat → ClassId} {ad : Nat → Nat} {x : XX} {F : Nat} {M : Mem} {a0 : Int32} {a1 : Int32} {r : Mem × Int32} (h : fX6_charOf F M a0 a1 = some r) : CN l yX6_charOf wsX6_charOf rmX6_charOf D cy ad [.int a0, .int a1] x M x r.1 (q_vi r.2) 0 0 := by
  refine q_startN (cc := cX6_charOf) (maxL := 3) (ret := (some .int)) (by decide) rfl (Nat.le_of_ble_eq_true rfl) ?_
  intro p e s m args below meth c ls C0 hw hl hnm
  obtain ⟨hx, hb, hml, hown, hts, -⟩ := id C0
  have C0 : MX p l s m args meth c D cy ad cX6_charOf RX6 3 wsX6_charOf ((some .int)) := C0
  have hown : s.vm.findClass RX6 = some m.cls := hown
  have hl : lv_has ls 3 [(0, .int a0), (1, .int a1)] := hl
  show W p l e rmX6_charOf s m args below meth c s.heap [] 0 0 (QN D cy ad below args s x q_vi r 0 0) (F0 m 0 ls [])
  unfold fX6_charOf at h
  refine lv_iload_n hx hb dX6_charOf_0 rfl (lv_at hl 0 rfl) ?_
  refine lv_ldc (v := 65535) hx hb hown (hts _ (List.mem_of_getElem? (i := 1) rfl)) dX6_charOf_1 ?_
  refine q_icmp_gt (tgt := 8) hx hb dX6_charOf_3 (by decide) h (fun h => ?_) (fun h => ?_)
  · refine lv_iload_n hx hb dX6_charOf_8 rfl (lv_at hl 0 rfl) ?_
    refine lv_ldc (v := 65536) hx hb hown (hts _ (List.mem_of_getElem? (i := 2) rfl)) dX6_charOf_9 ?_
    refine lv_isub hx hb dX6_charOf_11 ?_
    refine q_istore_n (lv' := fun z1 => [(2, .int z1), (0, .int a0), (1, .int a1)]) hx hb dX6_charOf_12 rfl hl (by decide) (fun _ => rfl) h (fun z1 ls hl h => ?_)
    refine lv_iload_n hx hb dX6_charOf_13 rfl (lv_at hl 2 rfl) ?_
    refine q_if_ne (tgt := 28) hx hb dX6_charOf_14 (by decide) h (fun h => ?_) (fun h => ?_)
    · refine lv_ldc (v := 56320) hx hb hown (hts _ (List.mem_of_getElem? (i := 4) rfl)) dX6_charOf_28 ?_
      refine lv_iload_n hx hb dX6_charOf_30 rfl (lv_at hl 0 rfl) ?_
      refine lv_sipush (v := 1024) hx hb dX6_charOf_31 (by decide) ?_
      refine lv_irem hx hb dX6_charOf_34 (by decide) ?_
      refine lv_iadd hx hb dX6_charOf_35 ?_
      exact wX6_charOf_36 hst C0  M ((56320 : Int32) + (z1 - z1 / (1024 : Int32) * (1024 : Int32))) _ _ _ hw (lv_sub hl [] rfl) h
    · refine lv_ldc (v := 55296) hx hb hown (hts _ (List.mem_of_getElem? (i := 3) rfl)) dX6_charOf_17 ?_
      refine lv_iload_n hx hb dX6_charOf_19 rfl (lv_at hl 0 rfl) ?_
      refine lv_sipush (v := 1024) hx hb dX6_charOf_20 (by decide) ?_
      refine lv_idiv hx hb dX6_charOf_23 (by decide) ?_
      refine lv_iadd hx hb dX6_charOf_24 ?_
      refine lv_goto (tgt := 36) hx hb dX6_charOf_25 (by decide) ?_
      exact wX6_charOf_36 hst C0  M ((55296 : Int32) + (z1 / (1024 : Int32))) _ _ _ hw (lv_sub hl [] rfl) h
  · refine lv_iload_n hx hb dX6_charOf_6 rfl (lv_at hl 0 rfl) ?_
    exact q_iretN C0 hw h ⟨(Nat.le_of_ble_eq_true rfl), (Nat.le_of_ble_eq_true rfl)⟩ dX6_charOf_7
/-! HomewatcherModel.charAt(I)C -/
abbrev rmX6_charAt : Room := { frames := 1, cells := 0, slots := 0, locals := 22 }
def fX6_charAt_64 (F : Nat) (M : Mem) : Option (Mem × Int32) :=
    q_lt (up M 69 0 0 (1 : Int32)) fun M1 =>
    some (M1, (0 : Int32))
set_option maxHeartbeats 4000000 in
set_option maxRecDepth 100000 in
theorem wX6_charAt_64 {p : Program} {l : Launch} {e : Env} {s : State} {m : MethodId} {args : Array Value} {below : List Frame} {meth : Method} {c : Code} {D : va_G} {cy : Nat → ClassId} {ad : Nat → Nat} {x : XX} {F : Nat} {r : Mem × Int32} (hst : l.stackTraces = false) (C0 : MX p l s m args meth c D cy ad cX6_charAt RX6 4 wsX6_charAt (some .char)) : ∀ (M : Mem) (H : Heap) (locs : List Loc) (ls : Array Slot), Wd D cy ad x s M H locs → lv_has ls 4 [(0, .ref (ad 427))] → fX6_charAt_64 F M = some r → W p l e rmX6_charAt s m args below meth c H locs 0 0 (QN D cy ad below args s x q_vi r 0 0) (F0 m 64 ls []) := by
  obtain ⟨hx, hb, hml, hown, hts, -⟩ := id C0
  intro M H locs ls hw hl h
  unfold fX6_charAt_64 at h
  refine lv_aload_n hx hb dX6_charAt_64 rfl (lv_at hl 0 rfl) ?_
  refine lv_iconst (v := 1) hx hb dX6_charAt_65 (by decide) ?_
  refine pf_Mod_thrown C0 hw (fun _ h9 => List.mem_cons_of_mem _ (List.mem_append_left _ (List.mem_append_right _ h9))) (List.mem_of_getElem? (i := 3) rfl) dX6_charAt_66 h (fun M1 H locs hw h => ?_)
  refine lv_iconst (v := 0) hx hb dX6_charAt_69 (by decide) ?_
  exact q_zretN C0 hw rfl h ⟨(Nat.le_of_ble_eq_true rfl), (Nat.le_of_ble_eq_true rfl)⟩ dX6_charAt_70
def fX6_charAt_4 (F : Nat) : Nat → Mem → Int32 → Int32 → Option (Mem × Int32)
  | 0, _, _, _ => none
  | n + 1, M, v2, v3 =>
    if (M 65 0 0) ≤ v3 then
    (fX6_charAt_64 F M)
    else
    (if v2 < (0 : Int32) then
    (fX6_charAt_64 F M)
    else
    (q_ax v3 40 fun j1 =>
    q_bn (fX6_charsOf F M (M 32 0 j1)) fun M2 z3 =>
    if z3 ≤ v2 then
    (q_ax v3 40 fun j4 =>
    q_bn (fX6_charsOf F M2 (M2 32 0 j4)) fun M5 z6 =>
    q_lt (v2 - z6) fun z7 =>
    q_lt (v3 + (1 : Int32)) fun z8 =>
    fX6_charAt_4 F n M5 z7 z8)
    else
    (q_lt (up M2 69 0 0 (0 : Int32)) fun M4 =>
    q_ax v3 40 fun j5 =>
    q_bn (fX6_charOf F M4 (M4 32 0 j5) v2) fun M6 z7 =>
    q_gd (q_isC ((z7.toUInt32 % 65536).toInt32)) (
    some (M6, (z7.toUInt32 % 65536).toInt32)))))
set_option maxHeartbeats 4000000 in
set_option maxRecDepth 100000 in
theorem wX6_charAt_4 {p : Program} {l : Launch} {e : Env} {s : State} {m : MethodId} {args : Array Value} {below : List Frame} {meth : Method} {c : Code} {D : va_G} {cy : Nat → ClassId} {ad : Nat → Nat} {x : XX} {F : Nat} {r : Mem × Int32} (hst : l.stackTraces = false) (C0 : MX p l s m args meth c D cy ad cX6_charAt RX6 4 wsX6_charAt (some .char)) : ∀ (n : Nat) (M : Mem) (v2 : Int32) (v3 : Int32) (H : Heap) (locs : List Loc) (ls : Array Slot), Wd D cy ad x s M H locs → lv_has ls 4 [(0, .ref (ad 427)), (2, .int v2), (3, .int v3)] → fX6_charAt_4 F n M v2 v3 = some r → W p l e rmX6_charAt s m args below meth c H locs 0 0 (QN D cy ad below args s x q_vi r 0 0) (F0 m 4 ls []) := by
  obtain ⟨hx, hb, hml, hown, hts, -⟩ := id C0
  intro n
  induction n with
  | zero =>
    intro M v2 v3 H locs ls hw hl h
    exact q_no h
  | succ n ih =>
    intro M v2 v3 H locs ls hw hl h
    unfold fX6_charAt_4 at h
    refine lv_iload_n hx hb dX6_charAt_4 rfl (lv_at hl 2 rfl) ?_
    refine lv_aload_n hx hb dX6_charAt_5 rfl (lv_at hl 0 rfl) ?_
    refine gf_Mod_signs C0 hw (fun _ h9 => List.mem_cons_of_mem _ (List.mem_append_left _ (List.mem_append_right _ h9))) (List.mem_of_getElem? (i := 1) rfl) dX6_charAt_6 ?_
    refine q_icmp_ge (tgt := 64) hx hb dX6_charAt_9 (by decide) h (fun h => ?_) (fun h => ?_)
    · exact wX6_charAt_64 hst C0  M _ _ _ hw (lv_sub hl [0] rfl) h
    · refine lv_iload_n hx hb dX6_charAt_12 rfl (lv_at hl 1 rfl) ?_
      refine q_if_lt (tgt := 64) hx hb dX6_charAt_13 (by decide) h (fun h => ?_) (fun h => ?_)
      · exact wX6_charAt_64 hst C0  M _ _ _ hw (lv_sub hl [0] rfl) h
      · refine lv_iload_n hx hb dX6_charAt_16 rfl (lv_at hl 1 rfl) ?_
        refine lv_aload_n hx hb dX6_charAt_17 rfl (lv_at hl 0 rfl) ?_
        refine gf_Mod_text C0 hw (fun _ h9 => List.mem_cons_of_mem _ (List.mem_append_left _ (List.mem_append_right _ h9))) (List.mem_of_getElem? (i := 2) rfl) dX6_charAt_18 ?_
        refine lv_iload_n hx hb dX6_charAt_21 rfl (lv_at hl 2 rfl) ?_
        refine q_iald C0 hw at_m32 h dX6_charAt_22 (fun j1 hj1 h => ?_)
        refine q_callSNi (As := [.int (M 32 0 j1)]) (nA := 1) C0 hw (fun r1 h1 => ctX6_charsOf hst h1) gX6_charAt_X6_charsOf rfl ⟨rfl, rfl⟩ (by decide +kernel) rfl ⟨(Nat.le_of_ble_eq_true rfl), (Nat.le_of_ble_eq_true rfl)⟩ hl.1 (Nat.le_of_ble_eq_true rfl) ⟨(Nat.le_of_ble_eq_true rfl), (Nat.le_of_ble_eq_true rfl)⟩ rfl h dX6_charAt_23 (fun M2 z3 H locs hw h => ?_)
        refine q_icmp_ge (tgt := 46) hx hb dX6_charAt_26 (by decide) h (fun h => ?_) (fun h => ?_)
        · refine lv_iload_n hx hb dX6_charAt_46 rfl (lv_at hl 1 rfl) ?_
          refine lv_aload_n hx hb dX6_charAt_47 rfl (lv_at hl 0 rfl) ?_
          refine gf_Mod_text C0 hw (fun _ h9 => List.mem_cons_of_mem _ (List.mem_append_left _ (List.mem_append_right _ h9))) (List.mem_of_getElem? (i := 2) rfl) dX6_charAt_48 ?_
          refine lv_iload_n hx hb dX6_charAt_51 rfl (lv_at hl 2 rfl) ?_
          refine q_iald C0 hw at_m32 h dX6_charAt_52 (fun j4 hj4 h => ?_)
          refine q_callSNi (As := [.int (M2 32 0 j4)]) (nA := 1) C0 hw (fun r1 h1 => ctX6_charsOf hst h1) gX6_charAt_X6_charsOf rfl ⟨rfl, rfl⟩ (by decide +kernel) rfl ⟨(Nat.le_of_ble_eq_true rfl), (Nat.le_of_ble_eq_true rfl)⟩ hl.1 (Nat.le_of_ble_eq_true rfl) ⟨(Nat.le_of_ble_eq_true rfl), (Nat.le_of_ble_eq_true rfl)⟩ rfl h dX6_charAt_53 (fun M5 z6 H locs hw h => ?_)
          refine lv_isub hx hb dX6_charAt_56 ?_
          refine q_istore_n (lv' := fun z7 => [(2, .int z7), (0, .ref (ad 427)), (3, .int v3)]) hx hb dX6_charAt_57 rfl hl (by decide) (fun _ => rfl) h (fun z7 ls hl h => ?_)
          refine q_iinc (k := 2) (cst := 1) (lv' := fun z8 => [(3, .int z8), (2, .int z7), (0, .ref (ad 427))]) hx hb dX6_charAt_58 hl rfl rfl (by decide) (fun _ => rfl) h (fun z8 ls hl h => ?_)
          refine lv_goto (tgt := 4) hx hb dX6_charAt_61 (by decide) ?_
          exact ih M5 z7 z8 _ _ _ hw (lv_sub hl [2, 1, 0] rfl) h
        · refine lv_aload_n hx hb dX6_charAt_29 rfl (lv_at hl 0 rfl) ?_
          refine lv_iconst (v := 0) hx hb dX6_charAt_30 (by decide) ?_
          refine pf_Mod_thrown C0 hw (fun _ h9 => List.mem_cons_of_mem _ (List.mem_append_left _ (List.mem_append_right _ h9))) (List.mem_of_getElem? (i := 3) rfl) dX6_charAt_31 h (fun M4 H locs hw h => ?_)
          refine lv_aload_n hx hb dX6_charAt_34 rfl (lv_at hl 0 rfl) ?_
          refine gf_Mod_text C0 hw (fun _ h9 => List.mem_cons_of_mem _ (List.mem_append_left _ (List.mem_append_right _ h9))) (List.mem_of_getElem? (i := 2) rfl) dX6_charAt_35 ?_
          refine lv_iload_n hx hb dX6_charAt_38 rfl (lv_at hl 2 rfl) ?_
          refine q_iald C0 hw at_m32 h dX6_charAt_39 (fun j5 hj5 h => ?_)
          refine lv_iload_n hx hb dX6_charAt_40 rfl (lv_at hl 1 rfl) ?_
          refine q_callSNi (As := [.int (M4 32 0 j5), .int v2]) (nA := 2) C0 hw (fun r1 h1 => ctX6_charOf hst h1) gX6_charAt_X6_charOf rfl ⟨rfl, rfl⟩ (by decide +kernel) rfl ⟨(Nat.le_of_ble_eq_true rfl), (Nat.le_of_ble_eq_true rfl)⟩ hl.1 (Nat.le_of_ble_eq_true rfl) ⟨(Nat.le_of_ble_eq_true rfl), (Nat.le_of_ble_eq_true rfl)⟩ rfl h dX6_charAt_41 (fun M6 z7 H locs hw h => ?_)
          refine lv_i2c hx hb dX6_charAt_44 rfl ?_
          refine q_guard h (fun g h => ?_)
          exact q_zretN C0 hw (q_isC_in g).1 h ⟨(Nat.le_of_ble_eq_true rfl), (Nat.le_of_ble_eq_true rfl)⟩ dX6_charAt_45
def fX6_charAt (F : Nat) (M : Mem) (a0 : Int32) : Option (Mem × Int32) :=
    q_lt (a0) fun z1 =>
    q_lt ((0 : Int32)) fun z2 =>
    fX6_charAt_4 F F M z1 z2
set_option maxHeartbeats 4000000 in
set_option maxRecDepth 100000 in
theorem ctX6_charAt {l : Launch} (hst : l.stackTraces = false) {D : va_G} {cy : Nat → ClassId} {ad : Nat → Nat} {x : XX} {F : Nat} {M : Mem} {a0 : Int32} {r : Mem × Int32} (h : fX6_charAt F M a0 = some r) : CN l yX6_charAt wsX6_charAt rmX6_charAt D cy ad [.ref (ad 427), .int a0] x M x r.1 (q_vi r.2) 0 0 := by
  refine q_startN (cc := cX6_charAt) (maxL := 4) (ret := (some .char)) (by decide) rfl (Nat.le_of_ble_eq_true rfl) ?_
  intro p e s m args below meth c ls C0 hw hl hnm
  obtain ⟨hx, hb, hml, hown, hts, -⟩ := id C0
  have C0 : MX p l s m args meth c D cy ad cX6_charAt RX6 4 wsX6_charAt ((some .char)) := C0
  have hown : s.vm.findClass RX6 = some m.cls := hown
  have hl : lv_has ls 4 [(0, .ref (ad 427)), (1, .int a0)] := hl
  show W p l e rmX6_charAt s m args below meth c s.heap [] 0 0 (QN D cy ad below args s x q_vi r 0 0) (F0 m 0 ls [])
  unfold fX6_charAt at h
  refine lv_iload_n hx hb dX6_charAt_0 rfl (lv_at hl 1 rfl) ?_
  refine q_istore_n (lv' := fun z1 => [(2, .int z1), (0, .ref (ad 427)), (1, .int a0)]) hx hb dX6_charAt_1 rfl hl (by decide) (fun _ => rfl) h (fun z1 ls hl h => ?_)
  refine lv_iconst (v := 0) hx hb dX6_charAt_2 (by decide) ?_
  refine q_istore_n (lv' := fun z2 => [(3, .int z2), (2, .int z1), (0, .ref (ad 427)), (1, .int a0)]) hx hb dX6_charAt_3 rfl hl (by decide) (fun _ => rfl) h (fun z2 ls hl h => ?_)
  exact wX6_charAt_4 hst C0  F M z1 z2 _ _ _ hw (lv_sub hl [2, 1, 0] rfl) h
/-! HomewatcherModel.isPupil(I)Z -/
abbrev rmX6_isPupil : Room := { frames := 1, cells := 0, slots := 0, locals := 22 }
def fX6_isPupil (F : Nat) (M : Mem) (a0 : Int32) : Option (Mem × Int32) :=
    q_bn (fX6_in F M a0 (0 : Int32) ((M 62 0 0) - (1 : Int32))) fun M1 z2 =>
    q_gd (q_isZ z2) (
    some (M1, z2))
set_option maxHeartbeats 4000000 in
set_option maxRecDepth 100000 in
theorem ctX6_isPupil {l : Launch} (hst : l.stackTraces = false) {D : va_G} {cy : Nat → ClassId} {ad : Nat → Nat} {x : XX} {F : Nat} {M : Mem} {a0 : Int32} {r : Mem × Int32} (h : fX6_isPupil F M a0 = some r) : CN l yX6_isPupil wsX6_isPupil rmX6_isPupil D cy ad [.ref (ad 427), .int a0] x M x r.1 (q_vi r.2) 0 0 := by
  refine q_startN (cc := cX6_isPupil) (maxL := 2) (ret := (some .boolean)) (by decide) rfl (Nat.le_of_ble_eq_true rfl) ?_
  intro p e s m args below meth c ls C0 hw hl hnm
  obtain ⟨hx, hb, hml, hown, hts, -⟩ := id C0
  have C0 : MX p l s m args meth c D cy ad cX6_isPupil RX6 2 wsX6_isPupil ((some .boolean)) := C0
  have hown : s.vm.findClass RX6 = some m.cls := hown
  have hl : lv_has ls 2 [(0, .ref (ad 427)), (1, .int a0)] := hl
  show W p l e rmX6_isPupil s m args below meth c s.heap [] 0 0 (QN D cy ad below args s x q_vi r 0 0) (F0 m 0 ls [])
  unfold fX6_isPupil at h
  refine lv_iload_n hx hb dX6_isPupil_0 rfl (lv_at hl 1 rfl) ?_
  refine lv_iconst (v := 0) hx hb dX6_isPupil_1 (by decide) ?_
  refine lv_aload_n hx hb dX6_isPupil_2 rfl (lv_at hl 0 rfl) ?_
  refine gf_Mod_pupils C0 hw (fun _ h9 => List.mem_cons_of_mem _ (List.mem_append_right _ h9)) (List.mem_of_getElem? (i := 1) rfl) dX6_isPupil_3 ?_
  refine lv_iconst (v := 1) hx hb dX6_isPupil_6 (by decide) ?_
  refine lv_isub hx hb dX6_isPupil_7 ?_
  refine q_callSNi (As := [.int a0, .int ((0 : Int32)), .int ((M 62 0 0) - (1 : Int32))]) (nA := 3) C0 hw (fun r1 h1 => ctX6_in hst h1) gX6_isPupil_X6_in rfl ⟨rfl, rfl⟩ (by decide +kernel) rfl ⟨(Nat.le_of_ble_eq_true rfl), (Nat.le_of_ble_eq_true rfl)⟩ hl.1 (Nat.le_of_ble_eq_true rfl) ⟨(Nat.le_of_ble_eq_true rfl), (Nat.le_of_ble_eq_true rfl)⟩ rfl h dX6_isPupil_8 (fun M1 z2 H locs hw h => ?_)
  refine q_guard h (fun g h => ?_)
  exact q_zretN C0 hw (q_isZ_in g) h ⟨(Nat.le_of_ble_eq_true rfl), (Nat.le_of_ble_eq_true rfl)⟩ dX6_isPupil_11
/-! HomewatcherModel.isTask(I)Z -/
abbrev rmX6_isTask : Room := { frames := 1, cells := 0, slots := 0, locals := 22 }
def fX6_isTask (F : Nat) (M : Mem) (a0 : Int32) : Option (Mem × Int32) :=
    q_bn (fX6_in F M a0 (0 : Int32) ((M 63 0 0) - (1 : Int32))) fun M1 z2 =>
    q_gd (q_isZ z2) (
    some (M1, z2))
set_option maxHeartbeats 4000000 in
set_option maxRecDepth 100000 in
theorem ctX6_isTask {l : Launch} (hst : l.stackTraces = false) {D : va_G} {cy : Nat → ClassId} {ad : Nat → Nat} {x : XX} {F : Nat} {M : Mem} {a0 : Int32} {r : Mem × Int32} (h : fX6_isTask F M a0 = some r) : CN l yX6_isTask wsX6_isTask rmX6_isTask D cy ad [.ref (ad 427), .int a0] x M x r.1 (q_vi r.2) 0 0 := by
  refine q_startN (cc := cX6_isTask) (maxL := 2) (ret := (some .boolean)) (by decide) rfl (Nat.le_of_ble_eq_true rfl) ?_
  intro p e s m args below meth c ls C0 hw hl hnm
  obtain ⟨hx, hb, hml, hown, hts, -⟩ := id C0
  have C0 : MX p l s m args meth c D cy ad cX6_isTask RX6 2 wsX6_isTask ((some .boolean)) := C0
  have hown : s.vm.findClass RX6 = some m.cls := hown
  have hl : lv_has ls 2 [(0, .ref (ad 427)), (1, .int a0)] := hl
  show W p l e rmX6_isTask s m args below meth c s.heap [] 0 0 (QN D cy ad below args s x q_vi r 0 0) (F0 m 0 ls [])
  unfold fX6_isTask at h
  refine lv_iload_n hx hb dX6_isTask_0 rfl (lv_at hl 1 rfl) ?_
  refine lv_iconst (v := 0) hx hb dX6_isTask_1 (by decide) ?_
  refine lv_aload_n hx hb dX6_isTask_2 rfl (lv_at hl 0 rfl) ?_
  refine gf_Mod_tasks C0 hw (fun _ h9 => List.mem_cons_of_mem _ (List.mem_append_right _ h9)) (List.mem_of_getElem? (i := 1) rfl) dX6_isTask_3 ?_
  refine lv_iconst (v := 1) hx hb dX6_isTask_6 (by decide) ?_
  refine lv_isub hx hb dX6_isTask_7 ?_
  refine q_callSNi (As := [.int a0, .int ((0 : Int32)), .int ((M 63 0 0) - (1 : Int32))]) (nA := 3) C0 hw (fun r1 h1 => ctX6_in hst h1) gX6_isTask_X6_in rfl ⟨rfl, rfl⟩ (by decide +kernel) rfl ⟨(Nat.le_of_ble_eq_true rfl), (Nat.le_of_ble_eq_true rfl)⟩ hl.1 (Nat.le_of_ble_eq_true rfl) ⟨(Nat.le_of_ble_eq_true rfl), (Nat.le_of_ble_eq_true rfl)⟩ rfl h dX6_isTask_8 (fun M1 z2 H locs hw h => ?_)
  refine q_guard h (fun g h => ?_)
  exact q_zretN C0 hw (q_isZ_in g) h ⟨(Nat.le_of_ble_eq_true rfl), (Nat.le_of_ble_eq_true rfl)⟩ dX6_isTask_11
/-! HomewatcherModel.isVersion(I)Z -/
abbrev rmX6_isVersion : Room := { frames := 1, cells := 0, slots := 0, locals := 22 }
def fX6_isVersion (F : Nat) (M : Mem) (a0 : Int32) : Option (Mem × Int32) :=
    q_bn (fX6_in F M a0 (0 : Int32) ((M 64 0 0) - (1 : Int32))) fun M1 z2 =>
    q_gd (q_isZ z2) (
    some (M1, z2))
set_option maxHeartbeats 4000000 in
set_option maxRecDepth 100000 in
theorem ctX6_isVersion {l : Launch} (hst : l.stackTraces = false) {D : va_G} {cy : Nat → ClassId} {ad : Nat → Nat} {x : XX} {F : Nat} {M : Mem} {a0 : Int32} {r : Mem × Int32} (h : fX6_isVersion F M a0 = some r) : CN l yX6_isVersion wsX6_isVersion rmX6_isVersion D cy ad [.ref (ad 427), .int a0] x M x r.1 (q_vi r.2) 0 0 := by
  refine q_startN (cc := cX6_isVersion) (maxL := 2) (ret := (some .boolean)) (by decide) rfl (Nat.le_of_ble_eq_true rfl) ?_
  intro p e s m args below meth c ls C0 hw hl hnm
  obtain ⟨hx, hb, hml, hown, hts, -⟩ := id C0
  have C0 : MX p l s m args meth c D cy ad cX6_isVersion RX6 2 wsX6_isVersion ((some .boolean)) := C0
  have hown : s.vm.findClass RX6 = some m.cls := hown
  have hl : lv_has ls 2 [(0, .ref (ad 427)), (1, .int a0)] := hl
  show W p l e rmX6_isVersion s m args below meth c s.heap [] 0 0 (QN D cy ad below args s x q_vi r 0 0) (F0 m 0 ls [])
  unfold fX6_isVersion at h
  refine lv_iload_n hx hb dX6_isVersion_0 rfl (lv_at hl 1 rfl) ?_
  refine lv_iconst (v := 0) hx hb dX6_isVersion_1 (by decide) ?_
  refine lv_aload_n hx hb dX6_isVersion_2 rfl (lv_at hl 0 rfl) ?_
  refine gf_Mod_versions C0 hw (fun _ h9 => List.mem_cons_of_mem _ (List.mem_append_right _ h9)) (List.mem_of_getElem? (i := 1) rfl) dX6_isVersion_3 ?_
  refine lv_iconst (v := 1) hx hb dX6_isVersion_6 (by decide) ?_
  refine lv_isub hx hb dX6_isVersion_7 ?_
  refine q_callSNi (As := [.int a0, .int ((0 : Int32)), .int ((M 64 0 0) - (1 : Int32))]) (nA := 3) C0 hw (fun r1 h1 => ctX6_in hst h1) gX6_isVersion_X6_in rfl ⟨rfl, rfl⟩ (by decide +kernel) rfl ⟨(Nat.le_of_ble_eq_true rfl), (Nat.le_of_ble_eq_true rfl)⟩ hl.1 (Nat.le_of_ble_eq_true rfl) ⟨(Nat.le_of_ble_eq_true rfl), (Nat.le_of_ble_eq_true rfl)⟩ rfl h dX6_isVersion_8 (fun M1 z2 H locs hw h => ?_)
  refine q_guard h (fun g h => ?_)
  exact q_zretN C0 hw (q_isZ_in g) h ⟨(Nat.le_of_ble_eq_true rfl), (Nat.le_of_ble_eq_true rfl)⟩ dX6_isVersion_11
/-! HomewatcherModel.turned(I)I -/
abbrev rmX6_turned : Room := { frames := 0, cells := 0, slots := 0, locals := 0 }
def fX6_turned (F : Nat) (M : Mem) (a0 : Int32) : Option (Mem × Int32) :=
    some (M, (a0 <<< ((5 : Int32) &&& 31)) ||| ((a0.toUInt32 >>> ((27 : Int32).toUInt32 &&& Int32.toUInt32 31)).toInt32))
set_option maxHeartbeats 4000000 in
set_option maxRecDepth 100000 in
theorem ctX6_turned {l : Launch} (hst : l.stackTraces = false) {D : va_G} {cy : Nat → ClassId} {ad : Nat → Nat} {x : XX} {F : Nat} {M : Mem} {a0 : Int32} {r : Mem × Int32} (h : fX6_turned F M a0 = some r) : CN l yX6_turned wsX6_turned rmX6_turned D cy ad [.int a0] x M x r.1 (q_vi r.2) 0 0 := by
  refine q_startN (cc := cX6_turned) (maxL := 1) (ret := (some .int)) (by decide) rfl (Nat.le_of_ble_eq_true rfl) ?_
  intro p e s m args below meth c ls C0 hw hl hnm
  obtain ⟨hx, hb, hml, hown, hts, -⟩ := id C0
  have C0 : MX p l s m args meth c D cy ad cX6_turned RX6 1 wsX6_turned ((some .int)) := C0
  have hown : s.vm.findClass RX6 = some m.cls := hown
  have hl : lv_has ls 1 [(0, .int a0)] := hl
  show W p l e rmX6_turned s m args below meth c s.heap [] 0 0 (QN D cy ad below args s x q_vi r 0 0) (F0 m 0 ls [])
  unfold fX6_turned at h
  refine lv_iload_n hx hb dX6_turned_0 rfl (lv_at hl 0 rfl) ?_
  refine lv_iconst (v := 5) hx hb dX6_turned_1 (by decide) ?_
  refine lv_ishl hx hb dX6_turned_2 ?_
  refine lv_iload_n hx hb dX6_turned_3 rfl (lv_at hl 0 rfl) ?_
  refine lv_bipush (v := 27) hx hb dX6_turned_4 (by decide) ?_
  refine lv_iushr hx hb dX6_turned_6 rfl ?_
  refine lv_ior hx hb dX6_turned_7 ?_
  exact q_iretN C0 hw h ⟨(Nat.le_of_ble_eq_true rfl), (Nat.le_of_ble_eq_true rfl)⟩ dX6_turned_8
/-! HomewatcherModel.finds(I)V -/
abbrev rmX6_finds : Room := { frames := 1, cells := 0, slots := 0, locals := 20 }
def fX6_finds_170 (F : Nat) (k10 : Mem → Int32 → Int32 → Int32 → Int32 → Option (Mem × Unit)) (M : Mem) (v1 : Int32) (v2 : Int32) (v3 : Int32) (v4 : Int32) : Option (Mem × Unit) :=
    q_lt (v4 + (1 : Int32)) fun z1 =>
    k10 M v1 v2 v3 z1
set_option maxHeartbeats 4000000 in
set_option maxRecDepth 100000 in
theorem wX6_finds_170 {p : Program} {l : Launch} {e : Env} {s : State} {m : MethodId} {args : Array Value} {below : List Frame} {meth : Method} {c : Code} {D : va_G} {cy : Nat → ClassId} {ad : Nat → Nat} {x : XX} {F : Nat} {r : Mem × Unit} (hst : l.stackTraces = false) (C0 : MX p l s m args meth c D cy ad cX6_finds RX6 8 wsX6_finds (none)) {k10 : Mem → Int32 → Int32 → Int32 → Int32 → Option (Mem × Unit)} (hk10 : ∀ (M : Mem) (v1 : Int32) (v2 : Int32) (v3 : Int32) (v4 : Int32) (H : Heap) (locs : List Loc) (ls : Array Slot), Wd D cy ad x s M H locs → lv_has ls 8 [(0, .ref (ad 427)), (1, .int v1), (2, .int v2), (3, .int v3), (4, .int v4)] → k10 M v1 v2 v3 v4 = some r → W p l e rmX6_finds s m args below meth c H locs 0 0 (QN D cy ad below args s x q_vv r 0 0) (F0 m 10 ls [])) : ∀ (M : Mem) (v1 : Int32) (v2 : Int32) (v3 : Int32) (v4 : Int32) (H : Heap) (locs : List Loc) (ls : Array Slot), Wd D cy ad x s M H locs → lv_has ls 8 [(0, .ref (ad 427)), (1, .int v1), (2, .int v2), (3, .int v3), (4, .int v4)] → fX6_finds_170 F k10 M v1 v2 v3 v4 = some r → W p l e rmX6_finds s m args below meth c H locs 0 0 (QN D cy ad below args s x q_vv r 0 0) (F0 m 170 ls []) := by
  obtain ⟨hx, hb, hml, hown, hts, -⟩ := id C0
  intro M v1 v2 v3 v4 H locs ls hw hl h
  unfold fX6_finds_170 at h
  refine q_iinc (k := 4) (cst := 1) (lv' := fun z1 => [(4, .int z1), (0, .ref (ad 427)), (1, .int v1), (2, .int v2), (3, .int v3)]) hx hb dX6_finds_170 hl rfl rfl (by decide) (fun _ => rfl) h (fun z1 ls hl h => ?_)
  refine lv_goto (tgt := 10) hx hb dX6_finds_173 (by decide) ?_
  exact hk10 M v1 v2 v3 z1 _ _ _ hw (lv_sub hl [1, 2, 3, 4, 0] rfl) h
def fX6_finds_123 (F : Nat) (k10 : Mem → Int32 → Int32 → Int32 → Int32 → Option (Mem × Unit)) : Nat → Mem → Int32 → Int32 → Int32 → Int32 → Int32 → Int32 → Int32 → Option (Mem × Unit)
  | 0, _, _, _, _, _, _, _, _ => none
  | n + 1, M, v1, v2, v3, v4, v5, v6, v7 =>
    if v7 ≤ v6 then
    (q_ax (v2 + v6) 2400 fun j1 =>
    q_lt (up M 43 0 j1 v5) fun M2 =>
    q_lt (v3 + (1 : Int32)) fun z3 =>
    fX6_finds_170 F k10 M2 v1 v2 z3 v4)
    else
    (q_ax ((v2 + v7) - (1 : Int32)) 2400 fun j1 =>
    q_ax (v2 + v7) 2400 fun j2 =>
    q_lt (up M 43 0 j2 (M 43 0 j1)) fun M3 =>
    q_lt (v7 + (-1 : Int32)) fun z4 =>
    fX6_finds_123 F k10 n M3 v1 v2 v3 v4 v5 v6 z4)
set_option maxHeartbeats 4000000 in
set_option maxRecDepth 100000 in
theorem wX6_finds_123 {p : Program} {l : Launch} {e : Env} {s : State} {m : MethodId} {args : Array Value} {below : List Frame} {meth : Method} {c : Code} {D : va_G} {cy : Nat → ClassId} {ad : Nat → Nat} {x : XX} {F : Nat} {r : Mem × Unit} (hst : l.stackTraces = false) (C0 : MX p l s m args meth c D cy ad cX6_finds RX6 8 wsX6_finds (none)) {k10 : Mem → Int32 → Int32 → Int32 → Int32 → Option (Mem × Unit)} (hk10 : ∀ (M : Mem) (v1 : Int32) (v2 : Int32) (v3 : Int32) (v4 : Int32) (H : Heap) (locs : List Loc) (ls : Array Slot), Wd D cy ad x s M H locs → lv_has ls 8 [(0, .ref (ad 427)), (1, .int v1), (2, .int v2), (3, .int v3), (4, .int v4)] → k10 M v1 v2 v3 v4 = some r → W p l e rmX6_finds s m args below meth c H locs 0 0 (QN D cy ad below args s x q_vv r 0 0) (F0 m 10 ls [])) : ∀ (n : Nat) (M : Mem) (v1 : Int32) (v2 : Int32) (v3 : Int32) (v4 : Int32) (v5 : Int32) (v6 : Int32) (v7 : Int32) (H : Heap) (locs : List Loc) (ls : Array Slot), Wd D cy ad x s M H locs → lv_has ls 8 [(0, .ref (ad 427)), (1, .int v1), (2, .int v2), (3, .int v3), (4, .int v4), (5, .int v5), (6, .int v6), (7, .int v7)] → fX6_finds_123 F k10 n M v1 v2 v3 v4 v5 v6 v7 = some r → W p l e rmX6_finds s m args below meth c H locs 0 0 (QN D cy ad below args s x q_vv r 0 0) (F0 m 123 ls []) := by
  obtain ⟨hx, hb, hml, hown, hts, -⟩ := id C0
  intro n
  induction n with
  | zero =>
    intro M v1 v2 v3 v4 v5 v6 v7 H locs ls hw hl h
    exact q_no h
  | succ n ih =>
    intro M v1 v2 v3 v4 v5 v6 v7 H locs ls hw hl h
    unfold fX6_finds_123 at h
    refine lv_iload hx hb dX6_finds_123 (lv_at hl 7 rfl) ?_
    refine lv_iload hx hb dX6_finds_125 (lv_at hl 6 rfl) ?_
    refine q_icmp_le (tgt := 156) hx hb dX6_finds_127 (by decide) h (fun h => ?_) (fun h => ?_)
    · refine lv_aload_n hx hb dX6_finds_156 rfl (lv_at hl 0 rfl) ?_
      refine gf_Mod_shingles C0 hw (fun _ h9 => List.mem_cons_of_mem _ (List.mem_append_left _ (List.mem_append_right _ h9))) (List.mem_of_getElem? (i := 4) rfl) dX6_finds_157 ?_
      refine lv_iload_n hx hb dX6_finds_160 rfl (lv_at hl 2 rfl) ?_
      refine lv_iload hx hb dX6_finds_161 (lv_at hl 6 rfl) ?_
      refine lv_iadd hx hb dX6_finds_163 ?_
      refine lv_iload hx hb dX6_finds_164 (lv_at hl 5 rfl) ?_
      refine q_iast (v := 43) C0 hw rfl (fun _ => at_m43) h dX6_finds_166 (fun j1 M2 H locs hj1 hw h => ?_)
      refine q_iinc (k := 3) (cst := 1) (lv' := fun z3 => [(3, .int z3), (0, .ref (ad 427)), (1, .int v1), (2, .int v2), (4, .int v4), (5, .int v5), (6, .int v6), (7, .int v7)]) hx hb dX6_finds_167 hl rfl rfl (by decide) (fun _ => rfl) h (fun z3 ls hl h => ?_)
      exact wX6_finds_170 hst C0 hk10 M2 v1 v2 z3 v4 _ _ _ hw (lv_sub hl [1, 2, 3, 0, 4] rfl) h
    · refine lv_aload_n hx hb dX6_finds_130 rfl (lv_at hl 0 rfl) ?_
      refine gf_Mod_shingles C0 hw (fun _ h9 => List.mem_cons_of_mem _ (List.mem_append_left _ (List.mem_append_right _ h9))) (List.mem_of_getElem? (i := 4) rfl) dX6_finds_131 ?_
      refine lv_iload_n hx hb dX6_finds_134 rfl (lv_at hl 2 rfl) ?_
      refine lv_iload hx hb dX6_finds_135 (lv_at hl 7 rfl) ?_
      refine lv_iadd hx hb dX6_finds_137 ?_
      refine lv_aload_n hx hb dX6_finds_138 rfl (lv_at hl 0 rfl) ?_
      refine gf_Mod_shingles C0 hw (fun _ h9 => List.mem_cons_of_mem _ (List.mem_append_left _ (List.mem_append_right _ h9))) (List.mem_of_getElem? (i := 4) rfl) dX6_finds_139 ?_
      refine lv_iload_n hx hb dX6_finds_142 rfl (lv_at hl 2 rfl) ?_
      refine lv_iload hx hb dX6_finds_143 (lv_at hl 7 rfl) ?_
      refine lv_iadd hx hb dX6_finds_145 ?_
      refine lv_iconst (v := 1) hx hb dX6_finds_146 (by decide) ?_
      refine lv_isub hx hb dX6_finds_147 ?_
      refine q_iald C0 hw at_m43 h dX6_finds_148 (fun j1 hj1 h => ?_)
      refine q_iast (v := 43) C0 hw rfl (fun _ => at_m43) h dX6_finds_149 (fun j2 M3 H locs hj2 hw h => ?_)
      refine q_iinc (k := 7) (cst := -1) (lv' := fun z4 => [(7, .int z4), (0, .ref (ad 427)), (1, .int v1), (2, .int v2), (3, .int v3), (4, .int v4), (5, .int v5), (6, .int v6)]) hx hb dX6_finds_150 hl rfl rfl (by decide) (fun _ => rfl) h (fun z4 ls hl h => ?_)
      refine lv_goto (tgt := 123) hx hb dX6_finds_153 (by decide) ?_
      exact ih M3 v1 v2 v3 v4 v5 v6 z4 _ _ _ hw (lv_sub hl [1, 2, 3, 4, 5, 6, 7, 0] rfl) h
def fX6_finds_120 (F : Nat) (k10 : Mem → Int32 → Int32 → Int32 → Int32 → Option (Mem × Unit)) (M : Mem) (v1 : Int32) (v2 : Int32) (v3 : Int32) (v4 : Int32) (v5 : Int32) (v6 : Int32) : Option (Mem × Unit) :=
    q_lt (v3) fun z1 =>
    fX6_finds_123 F k10 F M v1 v2 v3 v4 v5 v6 z1
set_option maxHeartbeats 4000000 in
set_option maxRecDepth 100000 in
theorem wX6_finds_120 {p : Program} {l : Launch} {e : Env} {s : State} {m : MethodId} {args : Array Value} {below : List Frame} {meth : Method} {c : Code} {D : va_G} {cy : Nat → ClassId} {ad : Nat → Nat} {x : XX} {F : Nat} {r : Mem × Unit} (hst : l.stackTraces = false) (C0 : MX p l s m args meth c D cy ad cX6_finds RX6 8 wsX6_finds (none)) {k10 : Mem → Int32 → Int32 → Int32 → Int32 → Option (Mem × Unit)} (hk10 : ∀ (M : Mem) (v1 : Int32) (v2 : Int32) (v3 : Int32) (v4 : Int32) (H : Heap) (locs : List Loc) (ls : Array Slot), Wd D cy ad x s M H locs → lv_has ls 8 [(0, .ref (ad 427)), (1, .int v1), (2, .int v2), (3, .int v3), (4, .int v4)] → k10 M v1 v2 v3 v4 = some r → W p l e rmX6_finds s m args below meth c H locs 0 0 (QN D cy ad below args s x q_vv r 0 0) (F0 m 10 ls [])) : ∀ (M : Mem) (v1 : Int32) (v2 : Int32) (v3 : Int32) (v4 : Int32) (v5 : Int32) (v6 : Int32) (H : Heap) (locs : List Loc) (ls : Array Slot), Wd D cy ad x s M H locs → lv_has ls 8 [(0, .ref (ad 427)), (1, .int v1), (2, .int v2), (3, .int v3), (4, .int v4), (5, .int v5), (6, .int v6)] → fX6_finds_120 F k10 M v1 v2 v3 v4 v5 v6 = some r → W p l e rmX6_finds s m args below meth c H locs 0 0 (QN D cy ad below args s x q_vv r 0 0) (F0 m 120 ls []) := by
  obtain ⟨hx, hb, hml, hown, hts, -⟩ := id C0
  intro M v1 v2 v3 v4 v5 v6 H locs ls hw hl h
  unfold fX6_finds_120 at h
  refine lv_iload_n hx hb dX6_finds_120 rfl (lv_at hl 3 rfl) ?_
  refine q_istore (lv' := fun z1 => [(7, .int z1), (0, .ref (ad 427)), (1, .int v1), (2, .int v2), (3, .int v3), (4, .int v4), (5, .int v5), (6, .int v6)]) hx hb dX6_finds_121 hl (by decide) (fun _ => rfl) h (fun z1 ls hl h => ?_)
  exact wX6_finds_123 hst C0 hk10 F M v1 v2 v3 v4 v5 v6 z1 _ _ _ hw (lv_sub hl [1, 2, 3, 4, 5, 6, 7, 0] rfl) h
def fX6_finds_97 (F : Nat) (k10 : Mem → Int32 → Int32 → Int32 → Int32 → Option (Mem × Unit)) (M : Mem) (v1 : Int32) (v2 : Int32) (v3 : Int32) (v4 : Int32) (v5 : Int32) (v6 : Int32) : Option (Mem × Unit) :=
    if v3 ≤ v6 then
    (fX6_finds_120 F k10 M v1 v2 v3 v4 v5 v6)
    else
    (q_ax (v2 + v6) 2400 fun j1 =>
    if (M 43 0 j1) = v5 then
    (fX6_finds_170 F k10 M v1 v2 v3 v4)
    else
    (fX6_finds_120 F k10 M v1 v2 v3 v4 v5 v6))
set_option maxHeartbeats 4000000 in
set_option maxRecDepth 100000 in
theorem wX6_finds_97 {p : Program} {l : Launch} {e : Env} {s : State} {m : MethodId} {args : Array Value} {below : List Frame} {meth : Method} {c : Code} {D : va_G} {cy : Nat → ClassId} {ad : Nat → Nat} {x : XX} {F : Nat} {r : Mem × Unit} (hst : l.stackTraces = false) (C0 : MX p l s m args meth c D cy ad cX6_finds RX6 8 wsX6_finds (none)) {k10 : Mem → Int32 → Int32 → Int32 → Int32 → Option (Mem × Unit)} (hk10 : ∀ (M : Mem) (v1 : Int32) (v2 : Int32) (v3 : Int32) (v4 : Int32) (H : Heap) (locs : List Loc) (ls : Array Slot), Wd D cy ad x s M H locs → lv_has ls 8 [(0, .ref (ad 427)), (1, .int v1), (2, .int v2), (3, .int v3), (4, .int v4)] → k10 M v1 v2 v3 v4 = some r → W p l e rmX6_finds s m args below meth c H locs 0 0 (QN D cy ad below args s x q_vv r 0 0) (F0 m 10 ls [])) : ∀ (M : Mem) (v1 : Int32) (v2 : Int32) (v3 : Int32) (v4 : Int32) (v5 : Int32) (v6 : Int32) (H : Heap) (locs : List Loc) (ls : Array Slot), Wd D cy ad x s M H locs → lv_has ls 8 [(0, .ref (ad 427)), (1, .int v1), (2, .int v2), (3, .int v3), (4, .int v4), (5, .int v5), (6, .int v6)] → fX6_finds_97 F k10 M v1 v2 v3 v4 v5 v6 = some r → W p l e rmX6_finds s m args below meth c H locs 0 0 (QN D cy ad below args s x q_vv r 0 0) (F0 m 97 ls []) := by
  obtain ⟨hx, hb, hml, hown, hts, -⟩ := id C0
  intro M v1 v2 v3 v4 v5 v6 H locs ls hw hl h
  unfold fX6_finds_97 at h
  refine lv_iload hx hb dX6_finds_97 (lv_at hl 6 rfl) ?_
  refine lv_iload_n hx hb dX6_finds_99 rfl (lv_at hl 3 rfl) ?_
  refine q_icmp_ge (tgt := 120) hx hb dX6_finds_100 (by decide) h (fun h => ?_) (fun h => ?_)
  · exact wX6_finds_120 hst C0 hk10 M v1 v2 v3 v4 v5 v6 _ _ _ hw (lv_sub hl [0, 1, 2, 3, 4, 5, 6] rfl) h
  · refine lv_aload_n hx hb dX6_finds_103 rfl (lv_at hl 0 rfl) ?_
    refine gf_Mod_shingles C0 hw (fun _ h9 => List.mem_cons_of_mem _ (List.mem_append_left _ (List.mem_append_right _ h9))) (List.mem_of_getElem? (i := 4) rfl) dX6_finds_104 ?_
    refine lv_iload_n hx hb dX6_finds_107 rfl (lv_at hl 2 rfl) ?_
    refine lv_iload hx hb dX6_finds_108 (lv_at hl 6 rfl) ?_
    refine lv_iadd hx hb dX6_finds_110 ?_
    refine q_iald C0 hw at_m43 h dX6_finds_111 (fun j1 hj1 h => ?_)
    refine lv_iload hx hb dX6_finds_112 (lv_at hl 5 rfl) ?_
    refine q_icmp_ne (tgt := 120) hx hb dX6_finds_114 (by decide) h (fun h => ?_) (fun h => ?_)
    · exact wX6_finds_120 hst C0 hk10 M v1 v2 v3 v4 v5 v6 _ _ _ hw (lv_sub hl [0, 1, 2, 3, 4, 5, 6] rfl) h
    · refine lv_goto (tgt := 170) hx hb dX6_finds_117 (by decide) ?_
      exact wX6_finds_170 hst C0 hk10 M v1 v2 v3 v4 _ _ _ hw (lv_sub hl [0, 1, 2, 3, 4] rfl) h
def fX6_finds_71 (F : Nat) (k10 : Mem → Int32 → Int32 → Int32 → Int32 → Option (Mem × Unit)) : Nat → Mem → Int32 → Int32 → Int32 → Int32 → Int32 → Int32 → Option (Mem × Unit)
  | 0, _, _, _, _, _, _, _ => none
  | n + 1, M, v1, v2, v3, v4, v5, v6 =>
    if v3 ≤ v6 then
    (fX6_finds_97 F k10 M v1 v2 v3 v4 v5 v6)
    else
    (q_ax (v2 + v6) 2400 fun j1 =>
    if v5 ≤ (M 43 0 j1) then
    (fX6_finds_97 F k10 M v1 v2 v3 v4 v5 v6)
    else
    (q_lt (v6 + (1 : Int32)) fun z2 =>
    fX6_finds_71 F k10 n M v1 v2 v3 v4 v5 z2))
set_option maxHeartbeats 4000000 in
set_option maxRecDepth 100000 in
theorem wX6_finds_71 {p : Program} {l : Launch} {e : Env} {s : State} {m : MethodId} {args : Array Value} {below : List Frame} {meth : Method} {c : Code} {D : va_G} {cy : Nat → ClassId} {ad : Nat → Nat} {x : XX} {F : Nat} {r : Mem × Unit} (hst : l.stackTraces = false) (C0 : MX p l s m args meth c D cy ad cX6_finds RX6 8 wsX6_finds (none)) {k10 : Mem → Int32 → Int32 → Int32 → Int32 → Option (Mem × Unit)} (hk10 : ∀ (M : Mem) (v1 : Int32) (v2 : Int32) (v3 : Int32) (v4 : Int32) (H : Heap) (locs : List Loc) (ls : Array Slot), Wd D cy ad x s M H locs → lv_has ls 8 [(0, .ref (ad 427)), (1, .int v1), (2, .int v2), (3, .int v3), (4, .int v4)] → k10 M v1 v2 v3 v4 = some r → W p l e rmX6_finds s m args below meth c H locs 0 0 (QN D cy ad below args s x q_vv r 0 0) (F0 m 10 ls [])) : ∀ (n : Nat) (M : Mem) (v1 : Int32) (v2 : Int32) (v3 : Int32) (v4 : Int32) (v5 : Int32) (v6 : Int32) (H : Heap) (locs : List Loc) (ls : Array Slot), Wd D cy ad x s M H locs → lv_has ls 8 [(0, .ref (ad 427)), (1, .int v1), (2, .int v2), (3, .int v3), (4, .int v4), (5, .int v5), (6, .int v6)] → fX6_finds_71 F k10 n M v1 v2 v3 v4 v5 v6 = some r → W p l e rmX6_finds s m args below meth c H locs 0 0 (QN D cy ad below args s x q_vv r 0 0) (F0 m 71 ls []) := by
  obtain ⟨hx, hb, hml, hown, hts, -⟩ := id C0
  intro n
  induction n with
  | zero =>
    intro M v1 v2 v3 v4 v5 v6 H locs ls hw hl h
    exact q_no h
  | succ n ih =>
    intro M v1 v2 v3 v4 v5 v6 H locs ls hw hl h
    unfold fX6_finds_71 at h
    refine lv_iload hx hb dX6_finds_71 (lv_at hl 6 rfl) ?_
    refine lv_iload_n hx hb dX6_finds_73 rfl (lv_at hl 3 rfl) ?_
    refine q_icmp_ge (tgt := 97) hx hb dX6_finds_74 (by decide) h (fun h => ?_) (fun h => ?_)
    · exact wX6_finds_97 hst C0 hk10 M v1 v2 v3 v4 v5 v6 _ _ _ hw (lv_sub hl [0, 1, 2, 3, 4, 5, 6] rfl) h
    · refine lv_aload_n hx hb dX6_finds_77 rfl (lv_at hl 0 rfl) ?_
      refine gf_Mod_shingles C0 hw (fun _ h9 => List.mem_cons_of_mem _ (List.mem_append_left _ (List.mem_append_right _ h9))) (List.mem_of_getElem? (i := 4) rfl) dX6_finds_78 ?_
      refine lv_iload_n hx hb dX6_finds_81 rfl (lv_at hl 2 rfl) ?_
      refine lv_iload hx hb dX6_finds_82 (lv_at hl 6 rfl) ?_
      refine lv_iadd hx hb dX6_finds_84 ?_
      refine q_iald C0 hw at_m43 h dX6_finds_85 (fun j1 hj1 h => ?_)
      refine lv_iload hx hb dX6_finds_86 (lv_at hl 5 rfl) ?_
      refine q_icmp_ge (tgt := 97) hx hb dX6_finds_88 (by decide) h (fun h => ?_) (fun h => ?_)
      · exact wX6_finds_97 hst C0 hk10 M v1 v2 v3 v4 v5 v6 _ _ _ hw (lv_sub hl [0, 1, 2, 3, 4, 5, 6] rfl) h
      · refine q_iinc (k := 6) (cst := 1) (lv' := fun z2 => [(6, .int z2), (0, .ref (ad 427)), (1, .int v1), (2, .int v2), (3, .int v3), (4, .int v4), (5, .int v5)]) hx hb dX6_finds_91 hl rfl rfl (by decide) (fun _ => rfl) h (fun z2 ls hl h => ?_)
        refine lv_goto (tgt := 71) hx hb dX6_finds_94 (by decide) ?_
        exact ih M v1 v2 v3 v4 v5 z2 _ _ _ hw (lv_sub hl [1, 2, 3, 4, 5, 6, 0] rfl) h
def fX6_finds_29 (F : Nat) (k10 : Mem → Int32 → Int32 → Int32 → Int32 → Option (Mem × Unit)) : Nat → Mem → Int32 → Int32 → Int32 → Int32 → Int32 → Int32 → Option (Mem × Unit)
  | 0, _, _, _, _, _, _, _ => none
  | n + 1, M, v1, v2, v3, v4, v5, v6 =>
    if (4 : Int32) ≤ v6 then
    (q_lt (v5 &&& (1048575 : Int32)) fun z1 =>
    q_lt ((0 : Int32)) fun z2 =>
    fX6_finds_71 F k10 F M v1 v2 v3 v4 z1 z2)
    else
    (q_bn (fX6_turned F M v5) fun M1 z2 =>
    q_ax ((v2 + v4) + v6) 2400 fun j3 =>
    q_lt (z2 ^^^ (M1 42 0 j3)) fun z4 =>
    q_lt (v6 + (1 : Int32)) fun z5 =>
    fX6_finds_29 F k10 n M1 v1 v2 v3 v4 z4 z5)
set_option maxHeartbeats 4000000 in
set_option maxRecDepth 100000 in
theorem wX6_finds_29 {p : Program} {l : Launch} {e : Env} {s : State} {m : MethodId} {args : Array Value} {below : List Frame} {meth : Method} {c : Code} {D : va_G} {cy : Nat → ClassId} {ad : Nat → Nat} {x : XX} {F : Nat} {r : Mem × Unit} (hst : l.stackTraces = false) (C0 : MX p l s m args meth c D cy ad cX6_finds RX6 8 wsX6_finds (none)) {k10 : Mem → Int32 → Int32 → Int32 → Int32 → Option (Mem × Unit)} (hk10 : ∀ (M : Mem) (v1 : Int32) (v2 : Int32) (v3 : Int32) (v4 : Int32) (H : Heap) (locs : List Loc) (ls : Array Slot), Wd D cy ad x s M H locs → lv_has ls 8 [(0, .ref (ad 427)), (1, .int v1), (2, .int v2), (3, .int v3), (4, .int v4)] → k10 M v1 v2 v3 v4 = some r → W p l e rmX6_finds s m args below meth c H locs 0 0 (QN D cy ad below args s x q_vv r 0 0) (F0 m 10 ls [])) : ∀ (n : Nat) (M : Mem) (v1 : Int32) (v2 : Int32) (v3 : Int32) (v4 : Int32) (v5 : Int32) (v6 : Int32) (H : Heap) (locs : List Loc) (ls : Array Slot), Wd D cy ad x s M H locs → lv_has ls 8 [(0, .ref (ad 427)), (1, .int v1), (2, .int v2), (3, .int v3), (4, .int v4), (5, .int v5), (6, .int v6)] → fX6_finds_29 F k10 n M v1 v2 v3 v4 v5 v6 = some r → W p l e rmX6_finds s m args below meth c H locs 0 0 (QN D cy ad below args s x q_vv r 0 0) (F0 m 29 ls []) := by
  obtain ⟨hx, hb, hml, hown, hts, -⟩ := id C0
  intro n
  induction n with
  | zero =>
    intro M v1 v2 v3 v4 v5 v6 H locs ls hw hl h
    exact q_no h
  | succ n ih =>
    intro M v1 v2 v3 v4 v5 v6 H locs ls hw hl h
    unfold fX6_finds_29 at h
    refine lv_iload hx hb dX6_finds_29 (lv_at hl 6 rfl) ?_
    refine lv_iconst (v := 4) hx hb dX6_finds_31 (by decide) ?_
    refine q_icmp_ge (tgt := 61) hx hb dX6_finds_32 (by decide) h (fun h => ?_) (fun h => ?_)
    · refine lv_iload hx hb dX6_finds_61 (lv_at hl 5 rfl) ?_
      refine lv_ldc (v := 1048575) hx hb hown (hts _ (List.mem_of_getElem? (i := 3) rfl)) dX6_finds_63 ?_
      refine lv_iand hx hb dX6_finds_65 ?_
      refine q_istore (lv' := fun z1 => [(5, .int z1), (0, .ref (ad 427)), (1, .int v1), (2, .int v2), (3, .int v3), (4, .int v4), (6, .int v6)]) hx hb dX6_finds_66 hl (by decide) (fun _ => rfl) h (fun z1 ls hl h => ?_)
      refine lv_iconst (v := 0) hx hb dX6_finds_68 (by decide) ?_
      refine q_istore (lv' := fun z2 => [(6, .int z2), (5, .int z1), (0, .ref (ad 427)), (1, .int v1), (2, .int v2), (3, .int v3), (4, .int v4)]) hx hb dX6_finds_69 hl (by decide) (fun _ => rfl) h (fun z2 ls hl h => ?_)
      exact wX6_finds_71 hst C0 hk10 F M v1 v2 v3 v4 z1 z2 _ _ _ hw (lv_sub hl [2, 3, 4, 5, 6, 1, 0] rfl) h
    · refine lv_iload hx hb dX6_finds_35 (lv_at hl 5 rfl) ?_
      refine q_callSNi (As := [.int v5]) (nA := 1) C0 hw (fun r1 h1 => ctX6_turned hst h1) gX6_finds_X6_turned rfl ⟨rfl, rfl⟩ (by decide +kernel) rfl ⟨(Nat.le_of_ble_eq_true rfl), (Nat.le_of_ble_eq_true rfl)⟩ hl.1 (Nat.le_of_ble_eq_true rfl) ⟨(Nat.le_of_ble_eq_true rfl), (Nat.le_of_ble_eq_true rfl)⟩ rfl h dX6_finds_37 (fun M1 z2 H locs hw h => ?_)
      refine lv_aload_n hx hb dX6_finds_40 rfl (lv_at hl 0 rfl) ?_
      refine gf_Mod_texts C0 hw (fun _ h9 => List.mem_cons_of_mem _ (List.mem_append_left _ (List.mem_append_right _ h9))) (List.mem_of_getElem? (i := 2) rfl) dX6_finds_41 ?_
      refine lv_iload_n hx hb dX6_finds_44 rfl (lv_at hl 2 rfl) ?_
      refine lv_iload hx hb dX6_finds_45 (lv_at hl 4 rfl) ?_
      refine lv_iadd hx hb dX6_finds_47 ?_
      refine lv_iload hx hb dX6_finds_48 (lv_at hl 6 rfl) ?_
      refine lv_iadd hx hb dX6_finds_50 ?_
      refine q_iald C0 hw at_m42 h dX6_finds_51 (fun j3 hj3 h => ?_)
      refine lv_ixor hx hb dX6_finds_52 ?_
      refine q_istore (lv' := fun z4 => [(5, .int z4), (0, .ref (ad 427)), (1, .int v1), (2, .int v2), (3, .int v3), (4, .int v4), (6, .int v6)]) hx hb dX6_finds_53 hl (by decide) (fun _ => rfl) h (fun z4 ls hl h => ?_)
      refine q_iinc (k := 6) (cst := 1) (lv' := fun z5 => [(6, .int z5), (5, .int z4), (0, .ref (ad 427)), (1, .int v1), (2, .int v2), (3, .int v3), (4, .int v4)]) hx hb dX6_finds_55 hl rfl rfl (by decide) (fun _ => rfl) h (fun z5 ls hl h => ?_)
      refine lv_goto (tgt := 29) hx hb dX6_finds_58 (by decide) ?_
      exact ih M1 v1 v2 v3 v4 z4 z5 _ _ _ hw (lv_sub hl [2, 3, 4, 5, 6, 1, 0] rfl) h
def fX6_finds_10 (F : Nat) : Nat → Mem → Int32 → Int32 → Int32 → Int32 → Option (Mem × Unit)
  | 0, _, _, _, _, _ => none
  | n + 1, M, v1, v2, v3, v4 =>
    q_ax v1 60 fun j1 =>
    if (M 37 0 j1) < (v4 + (4 : Int32)) then
    (q_ax v1 60 fun j2 =>
    q_lt (up M 44 0 j2 v3) fun M3 =>
    some (M3, ()))
    else
    (q_lt ((0 : Int32)) fun z2 =>
    q_lt ((0 : Int32)) fun z3 =>
    fX6_finds_29 F (fX6_finds_10 F n) F M v1 v2 v3 v4 z2 z3)
set_option maxHeartbeats 4000000 in
set_option maxRecDepth 100000 in
theorem wX6_finds_10 {p : Program} {l : Launch} {e : Env} {s : State} {m : MethodId} {args : Array Value} {below : List Frame} {meth : Method} {c : Code} {D : va_G} {cy : Nat → ClassId} {ad : Nat → Nat} {x : XX} {F : Nat} {r : Mem × Unit} (hst : l.stackTraces = false) (C0 : MX p l s m args meth c D cy ad cX6_finds RX6 8 wsX6_finds (none)) : ∀ (n : Nat) (M : Mem) (v1 : Int32) (v2 : Int32) (v3 : Int32) (v4 : Int32) (H : Heap) (locs : List Loc) (ls : Array Slot), Wd D cy ad x s M H locs → lv_has ls 8 [(0, .ref (ad 427)), (1, .int v1), (2, .int v2), (3, .int v3), (4, .int v4)] → fX6_finds_10 F n M v1 v2 v3 v4 = some r → W p l e rmX6_finds s m args below meth c H locs 0 0 (QN D cy ad below args s x q_vv r 0 0) (F0 m 10 ls []) := by
  obtain ⟨hx, hb, hml, hown, hts, -⟩ := id C0
  intro n
  induction n with
  | zero =>
    intro M v1 v2 v3 v4 H locs ls hw hl h
    exact q_no h
  | succ n ih =>
    intro M v1 v2 v3 v4 H locs ls hw hl h
    unfold fX6_finds_10 at h
    refine lv_iload hx hb dX6_finds_10 (lv_at hl 4 rfl) ?_
    refine lv_iconst (v := 4) hx hb dX6_finds_12 (by decide) ?_
    refine lv_iadd hx hb dX6_finds_13 ?_
    refine lv_aload_n hx hb dX6_finds_14 rfl (lv_at hl 0 rfl) ?_
    refine gf_Mod_sizes C0 hw (fun _ h9 => List.mem_cons_of_mem _ (List.mem_append_left _ (List.mem_append_right _ h9))) (List.mem_of_getElem? (i := 1) rfl) dX6_finds_15 ?_
    refine lv_iload_n hx hb dX6_finds_18 rfl (lv_at hl 1 rfl) ?_
    refine q_iald C0 hw at_m37 h dX6_finds_19 (fun j1 hj1 h => ?_)
    refine q_icmp_gt (tgt := 176) hx hb dX6_finds_20 (by decide) h (fun h => ?_) (fun h => ?_)
    · refine lv_aload_n hx hb dX6_finds_176 rfl (lv_at hl 0 rfl) ?_
      refine gf_Mod_shingleCounts C0 hw (fun _ h9 => List.mem_cons_of_mem _ (List.mem_append_left _ (List.mem_append_right _ h9))) (List.mem_of_getElem? (i := 5) rfl) dX6_finds_177 ?_
      refine lv_iload_n hx hb dX6_finds_180 rfl (lv_at hl 1 rfl) ?_
      refine lv_iload_n hx hb dX6_finds_181 rfl (lv_at hl 3 rfl) ?_
      refine q_iast (v := 44) C0 hw rfl (fun _ => at_m44) h dX6_finds_182 (fun j2 M3 H locs hj2 hw h => ?_)
      exact q_vretN C0 hw h ⟨(Nat.le_of_ble_eq_true rfl), (Nat.le_of_ble_eq_true rfl)⟩ dX6_finds_183
    · refine lv_iconst (v := 0) hx hb dX6_finds_23 (by decide) ?_
      refine q_istore (lv' := fun z2 => [(5, .int z2), (0, .ref (ad 427)), (1, .int v1), (2, .int v2), (3, .int v3), (4, .int v4)]) hx hb dX6_finds_24 hl (by decide) (fun _ => rfl) h (fun z2 ls hl h => ?_)
      refine lv_iconst (v := 0) hx hb dX6_finds_26 (by decide) ?_
      refine q_istore (lv' := fun z3 => [(6, .int z3), (5, .int z2), (0, .ref (ad 427)), (1, .int v1), (2, .int v2), (3, .int v3), (4, .int v4)]) hx hb dX6_finds_27 hl (by decide) (fun _ => rfl) h (fun z3 ls hl h => ?_)
      exact wX6_finds_29 hst C0 ih F M v1 v2 v3 v4 z2 z3 _ _ _ hw (lv_sub hl [2, 3, 4, 5, 6, 1, 0] rfl) h
def fX6_finds (F : Nat) (M : Mem) (a0 : Int32) : Option (Mem × Unit) :=
    q_lt ((40 : Int32) * a0) fun z1 =>
    q_lt ((0 : Int32)) fun z2 =>
    q_lt ((0 : Int32)) fun z3 =>
    fX6_finds_10 F F M a0 z1 z2 z3
set_option maxHeartbeats 4000000 in
set_option maxRecDepth 100000 in
theorem ctX6_finds {l : Launch} (hst : l.stackTraces = false) {D : va_G} {cy : Nat → ClassId} {ad : Nat → Nat} {x : XX} {F : Nat} {M : Mem} {a0 : Int32} {r : Mem × Unit} (h : fX6_finds F M a0 = some r) : CN l yX6_finds wsX6_finds rmX6_finds D cy ad [.ref (ad 427), .int a0] x M x r.1 (q_vv r.2) 0 0 := by
  refine q_startN (cc := cX6_finds) (maxL := 8) (ret := none) (by decide) rfl (Nat.le_of_ble_eq_true rfl) ?_
  intro p e s m args below meth c ls C0 hw hl hnm
  obtain ⟨hx, hb, hml, hown, hts, -⟩ := id C0
  have C0 : MX p l s m args meth c D cy ad cX6_finds RX6 8 wsX6_finds (none) := C0
  have hown : s.vm.findClass RX6 = some m.cls := hown
  have hl : lv_has ls 8 [(0, .ref (ad 427)), (1, .int a0)] := hl
  show W p l e rmX6_finds s m args below meth c s.heap [] 0 0 (QN D cy ad below args s x q_vv r 0 0) (F0 m 0 ls [])
  unfold fX6_finds at h
  refine lv_bipush (v := 40) hx hb dX6_finds_0 (by decide) ?_
  refine lv_iload_n hx hb dX6_finds_2 rfl (lv_at hl 1 rfl) ?_
  refine lv_imul hx hb dX6_finds_3 ?_
  refine q_istore_n (lv' := fun z1 => [(2, .int z1), (0, .ref (ad 427)), (1, .int a0)]) hx hb dX6_finds_4 rfl hl (by decide) (fun _ => rfl) h (fun z1 ls hl h => ?_)
  refine lv_iconst (v := 0) hx hb dX6_finds_5 (by decide) ?_
  refine q_istore_n (lv' := fun z2 => [(3, .int z2), (2, .int z1), (0, .ref (ad 427)), (1, .int a0)]) hx hb dX6_finds_6 rfl hl (by decide) (fun _ => rfl) h (fun z2 ls hl h => ?_)
  refine lv_iconst (v := 0) hx hb dX6_finds_7 (by decide) ?_
  refine q_istore (lv' := fun z3 => [(4, .int z3), (3, .int z2), (2, .int z1), (0, .ref (ad 427)), (1, .int a0)]) hx hb dX6_finds_8 hl (by decide) (fun _ => rfl) h (fun z3 ls hl h => ?_)
  exact wX6_finds_10 hst C0  F M a0 z1 z2 z3 _ _ _ hw (lv_sub hl [3, 4, 2, 1, 0] rfl) h
/-! HomewatcherModel.save(IIII)I -/
abbrev rmX6_save : Room := { frames := 2, cells := 0, slots := 0, locals := 47 }
def fX6_save_29 (F : Nat) (M : Mem) : Option (Mem × Int32) :=
    q_bn (fX6_fails F M (1 : Int32)) fun M1 z2 =>
    some (M1, z2)
set_option maxHeartbeats 4000000 in
set_option maxRecDepth 100000 in
theorem wX6_save_29 {p : Program} {l : Launch} {e : Env} {s : State} {m : MethodId} {args : Array Value} {below : List Frame} {meth : Method} {c : Code} {D : va_G} {cy : Nat → ClassId} {ad : Nat → Nat} {x : XX} {F : Nat} {r : Mem × Int32} (hst : l.stackTraces = false) (C0 : MX p l s m args meth c D cy ad cX6_save RX6 8 wsX6_save (some .int)) : ∀ (M : Mem) (H : Heap) (locs : List Loc) (ls : Array Slot), Wd D cy ad x s M H locs → lv_has ls 8 [(0, .ref (ad 427))] → fX6_save_29 F M = some r → W p l e rmX6_save s m args below meth c H locs 0 0 (QN D cy ad below args s x q_vi r 0 0) (F0 m 29 ls []) := by
  obtain ⟨hx, hb, hml, hown, hts, -⟩ := id C0
  intro M H locs ls hw hl h
  unfold fX6_save_29 at h
  refine lv_aload_n hx hb dX6_save_29 rfl (lv_at hl 0 rfl) ?_
  refine lv_iconst (v := 1) hx hb dX6_save_30 (by decide) ?_
  refine q_callVNi (As := [.int ((1 : Int32))]) (nA := 1) C0 hw at_Mod rfl (fun r1 h1 => ctX6_fails hst h1) gX6_save_X6_fails rfl ⟨rfl, rfl⟩ (by decide +kernel) rfl ⟨(Nat.le_of_ble_eq_true rfl), (Nat.le_of_ble_eq_true rfl)⟩ hl.1 (Nat.le_of_ble_eq_true rfl) ⟨(Nat.le_of_ble_eq_true rfl), (Nat.le_of_ble_eq_true rfl)⟩ rfl h dX6_save_31 (fun M1 z2 H locs hw h => ?_)
  exact q_iretN C0 hw h ⟨(Nat.le_of_ble_eq_true rfl), (Nat.le_of_ble_eq_true rfl)⟩ dX6_save_34
def fX6_save_221 (F : Nat) : Nat → Mem → Int32 → Int32 → Option (Mem × Int32)
  | 0, _, _, _ => none
  | n + 1, M, v6, v7 =>
    if (M 65 0 0) ≤ v7 then
    (q_bn (fX6_finds F M v6) fun M1 _ =>
    q_lt (up M1 64 0 0 ((M1 64 0 0) + (1 : Int32))) fun M3 =>
    q_lt (up M3 65 0 0 (0 : Int32)) fun M4 =>
    q_bn (fX6_tells F M4 v6) fun M5 z6 =>
    some (M5, z6))
    else
    (q_ax v7 40 fun j1 =>
    q_ax (((40 : Int32) * v6) + v7) 2400 fun j2 =>
    q_lt (up M 42 0 j2 (M 32 0 j1)) fun M3 =>
    q_lt (v7 + (1 : Int32)) fun z4 =>
    fX6_save_221 F n M3 v6 z4)
set_option maxHeartbeats 4000000 in
set_option maxRecDepth 100000 in
theorem wX6_save_221 {p : Program} {l : Launch} {e : Env} {s : State} {m : MethodId} {args : Array Value} {below : List Frame} {meth : Method} {c : Code} {D : va_G} {cy : Nat → ClassId} {ad : Nat → Nat} {x : XX} {F : Nat} {r : Mem × Int32} (hst : l.stackTraces = false) (C0 : MX p l s m args meth c D cy ad cX6_save RX6 8 wsX6_save (some .int)) : ∀ (n : Nat) (M : Mem) (v6 : Int32) (v7 : Int32) (H : Heap) (locs : List Loc) (ls : Array Slot), Wd D cy ad x s M H locs → lv_has ls 8 [(0, .ref (ad 427)), (6, .int v6), (7, .int v7)] → fX6_save_221 F n M v6 v7 = some r → W p l e rmX6_save s m args below meth c H locs 0 0 (QN D cy ad below args s x q_vi r 0 0) (F0 m 221 ls []) := by
  obtain ⟨hx, hb, hml, hown, hts, -⟩ := id C0
  intro n
  induction n with
  | zero =>
    intro M v6 v7 H locs ls hw hl h
    exact q_no h
  | succ n ih =>
    intro M v6 v7 H locs ls hw hl h
    unfold fX6_save_221 at h
    refine lv_iload hx hb dX6_save_221 (lv_at hl 2 rfl) ?_
    refine lv_aload_n hx hb dX6_save_223 rfl (lv_at hl 0 rfl) ?_
    refine gf_Mod_signs C0 hw (fun _ h9 => List.mem_cons_of_mem _ (List.mem_append_left _ (List.mem_append_right _ h9))) (List.mem_of_getElem? (i := 10) rfl) dX6_save_224 ?_
    refine q_icmp_ge (tgt := 256) hx hb dX6_save_227 (by decide) h (fun h => ?_) (fun h => ?_)
    · refine lv_aload_n hx hb dX6_save_256 rfl (lv_at hl 0 rfl) ?_
      refine lv_iload hx hb dX6_save_257 (lv_at hl 1 rfl) ?_
      refine q_callVNv (As := [.int v6]) (nA := 1) C0 hw at_Mod rfl (fun r1 h1 => ctX6_finds hst h1) gX6_save_X6_finds rfl ⟨rfl, rfl⟩ (by decide +kernel) rfl ⟨(Nat.le_of_ble_eq_true rfl), (Nat.le_of_ble_eq_true rfl)⟩ hl.1 (Nat.le_of_ble_eq_true rfl) ⟨(Nat.le_of_ble_eq_true rfl), (Nat.le_of_ble_eq_true rfl)⟩ rfl h dX6_save_259 (fun M1 H locs hw h => ?_)
      refine lv_aload_n hx hb dX6_save_262 rfl (lv_at hl 0 rfl) ?_
      refine lv_dup hx hb dX6_save_263 rfl ?_
      refine gf_Mod_versions C0 hw (fun _ h9 => List.mem_cons_of_mem _ (List.mem_append_left _ (List.mem_append_right _ h9))) (List.mem_of_getElem? (i := 7) rfl) dX6_save_264 ?_
      refine lv_iconst (v := 1) hx hb dX6_save_267 (by decide) ?_
      refine lv_iadd hx hb dX6_save_268 ?_
      refine pf_Mod_versions C0 hw (fun _ h9 => List.mem_cons_of_mem _ (List.mem_append_left _ (List.mem_append_right _ h9))) (List.mem_of_getElem? (i := 7) rfl) dX6_save_269 h (fun M3 H locs hw h => ?_)
      refine lv_aload_n hx hb dX6_save_272 rfl (lv_at hl 0 rfl) ?_
      refine lv_iconst (v := 0) hx hb dX6_save_273 (by decide) ?_
      refine pf_Mod_signs C0 hw (fun _ h9 => List.mem_cons_of_mem _ (List.mem_append_left _ (List.mem_append_right _ h9))) (List.mem_of_getElem? (i := 10) rfl) dX6_save_274 h (fun M4 H locs hw h => ?_)
      refine lv_aload_n hx hb dX6_save_277 rfl (lv_at hl 0 rfl) ?_
      refine lv_iload hx hb dX6_save_278 (lv_at hl 1 rfl) ?_
      refine q_callVNi (As := [.int v6]) (nA := 1) C0 hw at_Mod rfl (fun r1 h1 => ctX6_tells hst h1) gX6_save_X6_tells rfl ⟨rfl, rfl⟩ (by decide +kernel) rfl ⟨(Nat.le_of_ble_eq_true rfl), (Nat.le_of_ble_eq_true rfl)⟩ hl.1 (Nat.le_of_ble_eq_true rfl) ⟨(Nat.le_of_ble_eq_true rfl), (Nat.le_of_ble_eq_true rfl)⟩ rfl h dX6_save_280 (fun M5 z6 H locs hw h => ?_)
      exact q_iretN C0 hw h ⟨(Nat.le_of_ble_eq_true rfl), (Nat.le_of_ble_eq_true rfl)⟩ dX6_save_283
    · refine lv_aload_n hx hb dX6_save_230 rfl (lv_at hl 0 rfl) ?_
      refine gf_Mod_texts C0 hw (fun _ h9 => List.mem_cons_of_mem _ (List.mem_append_left _ (List.mem_append_right _ h9))) (List.mem_of_getElem? (i := 12) rfl) dX6_save_231 ?_
      refine lv_bipush (v := 40) hx hb dX6_save_234 (by decide) ?_
      refine lv_iload hx hb dX6_save_236 (lv_at hl 1 rfl) ?_
      refine lv_imul hx hb dX6_save_238 ?_
      refine lv_iload hx hb dX6_save_239 (lv_at hl 2 rfl) ?_
      refine lv_iadd hx hb dX6_save_241 ?_
      refine lv_aload_n hx hb dX6_save_242 rfl (lv_at hl 0 rfl) ?_
      refine gf_Mod_text C0 hw (fun _ h9 => List.mem_cons_of_mem _ (List.mem_append_left _ (List.mem_append_right _ h9))) (List.mem_of_getElem? (i := 13) rfl) dX6_save_243 ?_
      refine lv_iload hx hb dX6_save_246 (lv_at hl 2 rfl) ?_
      refine q_iald C0 hw at_m32 h dX6_save_248 (fun j1 hj1 h => ?_)
      refine q_iast (v := 42) C0 hw rfl (fun _ => at_m42) h dX6_save_249 (fun j2 M3 H locs hj2 hw h => ?_)
      refine q_iinc (k := 2) (cst := 1) (lv' := fun z4 => [(7, .int z4), (0, .ref (ad 427)), (6, .int v6)]) hx hb dX6_save_250 hl rfl rfl (by decide) (fun _ => rfl) h (fun z4 ls hl h => ?_)
      refine lv_goto (tgt := 221) hx hb dX6_save_253 (by decide) ?_
      exact ih M3 v6 z4 _ _ _ hw (lv_sub hl [1, 2, 0] rfl) h
def fX6_save_129 (F : Nat) (M : Mem) (v1 : Int32) (v2 : Int32) (v3 : Int32) (v4 : Int32) (v5 : Int32) : Option (Mem × Int32) :=
    if v5 = (0 : Int32) then
    (if (M 64 0 0) = (60 : Int32) then
    (q_bn (fX6_fails F M (4 : Int32)) fun M1 z2 =>
    some (M1, z2))
    else
    (q_lt (M 64 0 0) fun z1 =>
    q_ax z1 60 fun j2 =>
    q_lt (up M 33 0 j2 v1) fun M3 =>
    q_ax z1 60 fun j4 =>
    q_lt (up M3 34 0 j4 v2) fun M5 =>
    q_ax z1 60 fun j6 =>
    q_lt (up M5 35 0 j6 v3) fun M7 =>
    q_ax z1 60 fun j8 =>
    q_lt (up M7 36 0 j8 ((M7 60 0 0) - v4)) fun M9 =>
    q_ax z1 60 fun j10 =>
    q_lt (up M9 37 0 j10 (M9 65 0 0)) fun M11 =>
    q_ax z1 60 fun j12 =>
    q_lt (up M11 39 0 j12 (-1 : Int32)) fun M13 =>
    q_lt ((0 : Int32)) fun z14 =>
    fX6_save_221 F F M13 z1 z14))
    else
    (q_bn (fX6_fails F M (3 : Int32)) fun M1 z2 =>
    some (M1, z2))
set_option maxHeartbeats 4000000 in
set_option maxRecDepth 100000 in
theorem wX6_save_129 {p : Program} {l : Launch} {e : Env} {s : State} {m : MethodId} {args : Array Value} {below : List Frame} {meth : Method} {c : Code} {D : va_G} {cy : Nat → ClassId} {ad : Nat → Nat} {x : XX} {F : Nat} {r : Mem × Int32} (hst : l.stackTraces = false) (C0 : MX p l s m args meth c D cy ad cX6_save RX6 8 wsX6_save (some .int)) : ∀ (M : Mem) (v1 : Int32) (v2 : Int32) (v3 : Int32) (v4 : Int32) (v5 : Int32) (H : Heap) (locs : List Loc) (ls : Array Slot), Wd D cy ad x s M H locs → lv_has ls 8 [(0, .ref (ad 427)), (1, .int v1), (2, .int v2), (3, .int v3), (4, .int v4), (5, .int v5)] → fX6_save_129 F M v1 v2 v3 v4 v5 = some r → W p l e rmX6_save s m args below meth c H locs 0 0 (QN D cy ad below args s x q_vi r 0 0) (F0 m 129 ls []) := by
  obtain ⟨hx, hb, hml, hown, hts, -⟩ := id C0
  intro M v1 v2 v3 v4 v5 H locs ls hw hl h
  unfold fX6_save_129 at h
  refine lv_iload hx hb dX6_save_129 (lv_at hl 5 rfl) ?_
  refine q_if_eq (tgt := 140) hx hb dX6_save_131 (by decide) h (fun h => ?_) (fun h => ?_)
  · refine lv_aload_n hx hb dX6_save_140 rfl (lv_at hl 0 rfl) ?_
    refine gf_Mod_versions C0 hw (fun _ h9 => List.mem_cons_of_mem _ (List.mem_append_left _ (List.mem_append_right _ h9))) (List.mem_of_getElem? (i := 7) rfl) dX6_save_141 ?_
    refine lv_bipush (v := 60) hx hb dX6_save_144 (by decide) ?_
    refine q_icmp_ne (tgt := 155) hx hb dX6_save_146 (by decide) h (fun h => ?_) (fun h => ?_)
    · refine lv_aload_n hx hb dX6_save_155 rfl (lv_at hl 0 rfl) ?_
      refine gf_Mod_versions C0 hw (fun _ h9 => List.mem_cons_of_mem _ (List.mem_append_left _ (List.mem_append_right _ h9))) (List.mem_of_getElem? (i := 7) rfl) dX6_save_156 ?_
      refine q_istore (lv' := fun z1 => [(6, .int z1), (0, .ref (ad 427)), (1, .int v1), (2, .int v2), (3, .int v3), (4, .int v4), (5, .int v5)]) hx hb dX6_save_159 hl (by decide) (fun _ => rfl) h (fun z1 ls hl h => ?_)
      refine lv_aload_n hx hb dX6_save_161 rfl (lv_at hl 1 rfl) ?_
      refine gf_Mod_pupilOf C0 hw (fun _ h9 => List.mem_cons_of_mem _ (List.mem_append_left _ (List.mem_append_right _ h9))) (List.mem_of_getElem? (i := 4) rfl) dX6_save_162 ?_
      refine lv_iload hx hb dX6_save_165 (lv_at hl 0 rfl) ?_
      refine lv_iload_n hx hb dX6_save_167 rfl (lv_at hl 2 rfl) ?_
      refine q_iast (v := 33) C0 hw rfl (fun _ => at_m33) h dX6_save_168 (fun j2 M3 H locs hj2 hw h => ?_)
      refine lv_aload_n hx hb dX6_save_169 rfl (lv_at hl 1 rfl) ?_
      refine gf_Mod_taskOf C0 hw (fun _ h9 => List.mem_cons_of_mem _ (List.mem_append_left _ (List.mem_append_right _ h9))) (List.mem_of_getElem? (i := 5) rfl) dX6_save_170 ?_
      refine lv_iload hx hb dX6_save_173 (lv_at hl 0 rfl) ?_
      refine lv_iload_n hx hb dX6_save_175 rfl (lv_at hl 3 rfl) ?_
      refine q_iast (v := 34) C0 hw rfl (fun _ => at_m34) h dX6_save_176 (fun j4 M5 H locs hj4 hw h => ?_)
      refine lv_aload_n hx hb dX6_save_177 rfl (lv_at hl 1 rfl) ?_
      refine gf_Mod_parents C0 hw (fun _ h9 => List.mem_cons_of_mem _ (List.mem_append_left _ (List.mem_append_right _ h9))) (List.mem_of_getElem? (i := 8) rfl) dX6_save_178 ?_
      refine lv_iload hx hb dX6_save_181 (lv_at hl 0 rfl) ?_
      refine lv_iload_n hx hb dX6_save_183 rfl (lv_at hl 4 rfl) ?_
      refine q_iast (v := 35) C0 hw rfl (fun _ => at_m35) h dX6_save_184 (fun j6 M7 H locs hj6 hw h => ?_)
      refine lv_aload_n hx hb dX6_save_185 rfl (lv_at hl 1 rfl) ?_
      refine gf_Mod_saved C0 hw (fun _ h9 => List.mem_cons_of_mem _ (List.mem_append_left _ (List.mem_append_right _ h9))) (List.mem_of_getElem? (i := 6) rfl) dX6_save_186 ?_
      refine lv_iload hx hb dX6_save_189 (lv_at hl 0 rfl) ?_
      refine lv_aload_n hx hb dX6_save_191 rfl (lv_at hl 1 rfl) ?_
      refine gf_Mod_now C0 hw (fun _ h9 => List.mem_cons_of_mem _ (List.mem_append_left _ (List.mem_append_right _ h9))) (List.mem_of_getElem? (i := 1) rfl) dX6_save_192 ?_
      refine lv_iload hx hb dX6_save_195 (lv_at hl 5 rfl) ?_
      refine lv_isub hx hb dX6_save_197 ?_
      refine q_iast (v := 36) C0 hw rfl (fun _ => at_m36) h dX6_save_198 (fun j8 M9 H locs hj8 hw h => ?_)
      refine lv_aload_n hx hb dX6_save_199 rfl (lv_at hl 1 rfl) ?_
      refine gf_Mod_sizes C0 hw (fun _ h9 => List.mem_cons_of_mem _ (List.mem_append_left _ (List.mem_append_right _ h9))) (List.mem_of_getElem? (i := 9) rfl) dX6_save_200 ?_
      refine lv_iload hx hb dX6_save_203 (lv_at hl 0 rfl) ?_
      refine lv_aload_n hx hb dX6_save_205 rfl (lv_at hl 1 rfl) ?_
      refine gf_Mod_signs C0 hw (fun _ h9 => List.mem_cons_of_mem _ (List.mem_append_left _ (List.mem_append_right _ h9))) (List.mem_of_getElem? (i := 10) rfl) dX6_save_206 ?_
      refine q_iast (v := 37) C0 hw rfl (fun _ => at_m37) h dX6_save_209 (fun j10 M11 H locs hj10 hw h => ?_)
      refine lv_aload_n hx hb dX6_save_210 rfl (lv_at hl 1 rfl) ?_
      refine gf_Mod_minutes C0 hw (fun _ h9 => List.mem_cons_of_mem _ (List.mem_append_left _ (List.mem_append_right _ h9))) (List.mem_of_getElem? (i := 11) rfl) dX6_save_211 ?_
      refine lv_iload hx hb dX6_save_214 (lv_at hl 0 rfl) ?_
      refine lv_iconst (v := -1) hx hb dX6_save_216 (by decide) ?_
      refine q_iast (v := 39) C0 hw rfl (fun _ => at_m39) h dX6_save_217 (fun j12 M13 H locs hj12 hw h => ?_)
      refine lv_iconst (v := 0) hx hb dX6_save_218 (by decide) ?_
      refine q_istore (lv' := fun z14 => [(7, .int z14), (6, .int z1), (0, .ref (ad 427)), (1, .int v1), (2, .int v2), (3, .int v3), (4, .int v4), (5, .int v5)]) hx hb dX6_save_219 hl (by decide) (fun _ => rfl) h (fun z14 ls hl h => ?_)
      exact wX6_save_221 hst C0  F M13 z1 z14 _ _ _ hw (lv_sub hl [2, 1, 0] rfl) h
    · refine lv_aload_n hx hb dX6_save_149 rfl (lv_at hl 0 rfl) ?_
      refine lv_iconst (v := 4) hx hb dX6_save_150 (by decide) ?_
      refine q_callVNi (As := [.int ((4 : Int32))]) (nA := 1) C0 hw at_Mod rfl (fun r1 h1 => ctX6_fails hst h1) gX6_save_X6_fails rfl ⟨rfl, rfl⟩ (by decide +kernel) rfl ⟨(Nat.le_of_ble_eq_true rfl), (Nat.le_of_ble_eq_true rfl)⟩ hl.1 (Nat.le_of_ble_eq_true rfl) ⟨(Nat.le_of_ble_eq_true rfl), (Nat.le_of_ble_eq_true rfl)⟩ rfl h dX6_save_151 (fun M1 z2 H locs hw h => ?_)
      exact q_iretN C0 hw h ⟨(Nat.le_of_ble_eq_true rfl), (Nat.le_of_ble_eq_true rfl)⟩ dX6_save_154
  · refine lv_aload_n hx hb dX6_save_134 rfl (lv_at hl 0 rfl) ?_
    refine lv_iconst (v := 3) hx hb dX6_save_135 (by decide) ?_
    refine q_callVNi (As := [.int ((3 : Int32))]) (nA := 1) C0 hw at_Mod rfl (fun r1 h1 => ctX6_fails hst h1) gX6_save_X6_fails rfl ⟨rfl, rfl⟩ (by decide +kernel) rfl ⟨(Nat.le_of_ble_eq_true rfl), (Nat.le_of_ble_eq_true rfl)⟩ hl.1 (Nat.le_of_ble_eq_true rfl) ⟨(Nat.le_of_ble_eq_true rfl), (Nat.le_of_ble_eq_true rfl)⟩ rfl h dX6_save_136 (fun M1 z2 H locs hw h => ?_)
    exact q_iretN C0 hw h ⟨(Nat.le_of_ble_eq_true rfl), (Nat.le_of_ble_eq_true rfl)⟩ dX6_save_139
def fX6_save_127 (F : Nat) (M : Mem) (s0 : Int32) (v1 : Int32) (v2 : Int32) (v3 : Int32) (v4 : Int32) : Option (Mem × Int32) :=
    q_lt (s0) fun z1 =>
    fX6_save_129 F M v1 v2 v3 v4 z1
set_option maxHeartbeats 4000000 in
set_option maxRecDepth 100000 in
theorem wX6_save_127 {p : Program} {l : Launch} {e : Env} {s : State} {m : MethodId} {args : Array Value} {below : List Frame} {meth : Method} {c : Code} {D : va_G} {cy : Nat → ClassId} {ad : Nat → Nat} {x : XX} {F : Nat} {r : Mem × Int32} (hst : l.stackTraces = false) (C0 : MX p l s m args meth c D cy ad cX6_save RX6 8 wsX6_save (some .int)) : ∀ (M : Mem) (s0 : Int32) (v1 : Int32) (v2 : Int32) (v3 : Int32) (v4 : Int32) (H : Heap) (locs : List Loc) (ls : Array Slot), Wd D cy ad x s M H locs → lv_has ls 8 [(0, .ref (ad 427)), (1, .int v1), (2, .int v2), (3, .int v3), (4, .int v4)] → fX6_save_127 F M s0 v1 v2 v3 v4 = some r → W p l e rmX6_save s m args below meth c H locs 0 0 (QN D cy ad below args s x q_vi r 0 0) (F0 m 127 ls [.int s0]) := by
  obtain ⟨hx, hb, hml, hown, hts, -⟩ := id C0
  intro M s0 v1 v2 v3 v4 H locs ls hw hl h
  unfold fX6_save_127 at h
  refine q_istore (lv' := fun z1 => [(5, .int z1), (0, .ref (ad 427)), (1, .int v1), (2, .int v2), (3, .int v3), (4, .int v4)]) hx hb dX6_save_127 hl (by decide) (fun _ => rfl) h (fun z1 ls hl h => ?_)
  exact wX6_save_129 hst C0  M v1 v2 v3 v4 z1 _ _ _ hw (lv_sub hl [1, 2, 3, 4, 5, 0] rfl) h
def fX6_save_122 (F : Nat) (M : Mem) (v1 : Int32) (v2 : Int32) (v3 : Int32) (v4 : Int32) : Option (Mem × Int32) :=
    fX6_save_127 F M (1 : Int32) v1 v2 v3 v4
set_option maxHeartbeats 4000000 in
set_option maxRecDepth 100000 in
theorem wX6_save_122 {p : Program} {l : Launch} {e : Env} {s : State} {m : MethodId} {args : Array Value} {below : List Frame} {meth : Method} {c : Code} {D : va_G} {cy : Nat → ClassId} {ad : Nat → Nat} {x : XX} {F : Nat} {r : Mem × Int32} (hst : l.stackTraces = false) (C0 : MX p l s m args meth c D cy ad cX6_save RX6 8 wsX6_save (some .int)) : ∀ (M : Mem) (v1 : Int32) (v2 : Int32) (v3 : Int32) (v4 : Int32) (H : Heap) (locs : List Loc) (ls : Array Slot), Wd D cy ad x s M H locs → lv_has ls 8 [(0, .ref (ad 427)), (1, .int v1), (2, .int v2), (3, .int v3), (4, .int v4)] → fX6_save_122 F M v1 v2 v3 v4 = some r → W p l e rmX6_save s m args below meth c H locs 0 0 (QN D cy ad below args s x q_vi r 0 0) (F0 m 122 ls []) := by
  obtain ⟨hx, hb, hml, hown, hts, -⟩ := id C0
  intro M v1 v2 v3 v4 H locs ls hw hl h
  unfold fX6_save_122 at h
  refine lv_iconst (v := 1) hx hb dX6_save_122 (by decide) ?_
  refine lv_goto (tgt := 127) hx hb dX6_save_123 (by decide) ?_
  exact wX6_save_127 hst C0  M (1 : Int32) v1 v2 v3 v4 _ _ _ hw (lv_sub hl [0, 1, 2, 3, 4] rfl) h
def fX6_save_74 (F : Nat) (M : Mem) (s0 : Int32) (v1 : Int32) (v2 : Int32) (v3 : Int32) (v4 : Int32) : Option (Mem × Int32) :=
    q_lt (s0) fun z1 =>
    if v3 = (-1 : Int32) then
    (fX6_save_129 F M v1 v2 v3 v4 z1)
    else
    (if z1 = (0 : Int32) then
    (q_ax v3 60 fun j2 =>
    if (M 33 0 j2) = v1 then
    (q_ax v3 60 fun j3 =>
    if (M 34 0 j3) = v2 then
    (q_ax v3 60 fun j4 =>
    if (M 36 0 j4) ≤ ((M 60 0 0) - v4) then
    (fX6_save_127 F M (0 : Int32) v1 v2 v3 v4)
    else
    (fX6_save_122 F M v1 v2 v3 v4))
    else
    (fX6_save_122 F M v1 v2 v3 v4))
    else
    (fX6_save_122 F M v1 v2 v3 v4))
    else
    (fX6_save_122 F M v1 v2 v3 v4))
set_option maxHeartbeats 4000000 in
set_option maxRecDepth 100000 in
theorem wX6_save_74 {p : Program} {l : Launch} {e : Env} {s : State} {m : MethodId} {args : Array Value} {below : List Frame} {meth : Method} {c : Code} {D : va_G} {cy : Nat → ClassId} {ad : Nat → Nat} {x : XX} {F : Nat} {r : Mem × Int32} (hst : l.stackTraces = false) (C0 : MX p l s m args meth c D cy ad cX6_save RX6 8 wsX6_save (some .int)) : ∀ (M : Mem) (s0 : Int32) (v1 : Int32) (v2 : Int32) (v3 : Int32) (v4 : Int32) (H : Heap) (locs : List Loc) (ls : Array Slot), Wd D cy ad x s M H locs → lv_has ls 8 [(0, .ref (ad 427)), (1, .int v1), (2, .int v2), (3, .int v3), (4, .int v4)] → fX6_save_74 F M s0 v1 v2 v3 v4 = some r → W p l e rmX6_save s m args below meth c H locs 0 0 (QN D cy ad below args s x q_vi r 0 0) (F0 m 74 ls [.int s0]) := by
  obtain ⟨hx, hb, hml, hown, hts, -⟩ := id C0
  intro M s0 v1 v2 v3 v4 H locs ls hw hl h
  unfold fX6_save_74 at h
  refine q_istore (lv' := fun z1 => [(5, .int z1), (0, .ref (ad 427)), (1, .int v1), (2, .int v2), (3, .int v3), (4, .int v4)]) hx hb dX6_save_74 hl (by decide) (fun _ => rfl) h (fun z1 ls hl h => ?_)
  refine lv_iload_n hx hb dX6_save_76 rfl (lv_at hl 4 rfl) ?_
  refine lv_iconst (v := -1) hx hb dX6_save_77 (by decide) ?_
  refine q_icmp_eq (tgt := 129) hx hb dX6_save_78 (by decide) h (fun h => ?_) (fun h => ?_)
  · exact wX6_save_129 hst C0  M v1 v2 v3 v4 z1 _ _ _ hw (lv_sub hl [1, 2, 3, 4, 5, 0] rfl) h
  · refine lv_iload hx hb dX6_save_81 (lv_at hl 0 rfl) ?_
    refine q_if_ne (tgt := 122) hx hb dX6_save_83 (by decide) h (fun h => ?_) (fun h => ?_)
    · exact wX6_save_122 hst C0  M v1 v2 v3 v4 _ _ _ hw (lv_sub hl [1, 2, 3, 4, 5] rfl) h
    · refine lv_aload_n hx hb dX6_save_86 rfl (lv_at hl 1 rfl) ?_
      refine gf_Mod_pupilOf C0 hw (fun _ h9 => List.mem_cons_of_mem _ (List.mem_append_left _ (List.mem_append_right _ h9))) (List.mem_of_getElem? (i := 4) rfl) dX6_save_87 ?_
      refine lv_iload_n hx hb dX6_save_90 rfl (lv_at hl 4 rfl) ?_
      refine q_iald C0 hw at_m33 h dX6_save_91 (fun j2 hj2 h => ?_)
      refine lv_iload_n hx hb dX6_save_92 rfl (lv_at hl 2 rfl) ?_
      refine q_icmp_ne (tgt := 122) hx hb dX6_save_93 (by decide) h (fun h => ?_) (fun h => ?_)
      · exact wX6_save_122 hst C0  M v1 v2 v3 v4 _ _ _ hw (lv_sub hl [1, 2, 3, 4, 5] rfl) h
      · refine lv_aload_n hx hb dX6_save_96 rfl (lv_at hl 1 rfl) ?_
        refine gf_Mod_taskOf C0 hw (fun _ h9 => List.mem_cons_of_mem _ (List.mem_append_left _ (List.mem_append_right _ h9))) (List.mem_of_getElem? (i := 5) rfl) dX6_save_97 ?_
        refine lv_iload_n hx hb dX6_save_100 rfl (lv_at hl 4 rfl) ?_
        refine q_iald C0 hw at_m34 h dX6_save_101 (fun j3 hj3 h => ?_)
        refine lv_iload_n hx hb dX6_save_102 rfl (lv_at hl 3 rfl) ?_
        refine q_icmp_ne (tgt := 122) hx hb dX6_save_103 (by decide) h (fun h => ?_) (fun h => ?_)
        · exact wX6_save_122 hst C0  M v1 v2 v3 v4 _ _ _ hw (lv_sub hl [1, 2, 3, 4, 5] rfl) h
        · refine lv_aload_n hx hb dX6_save_106 rfl (lv_at hl 1 rfl) ?_
          refine gf_Mod_saved C0 hw (fun _ h9 => List.mem_cons_of_mem _ (List.mem_append_left _ (List.mem_append_right _ h9))) (List.mem_of_getElem? (i := 6) rfl) dX6_save_107 ?_
          refine lv_iload_n hx hb dX6_save_110 rfl (lv_at hl 4 rfl) ?_
          refine q_iald C0 hw at_m36 h dX6_save_111 (fun j4 hj4 h => ?_)
          refine lv_aload_n hx hb dX6_save_112 rfl (lv_at hl 1 rfl) ?_
          refine gf_Mod_now C0 hw (fun _ h9 => List.mem_cons_of_mem _ (List.mem_append_left _ (List.mem_append_right _ h9))) (List.mem_of_getElem? (i := 1) rfl) dX6_save_113 ?_
          refine lv_iload hx hb dX6_save_116 (lv_at hl 5 rfl) ?_
          refine lv_isub hx hb dX6_save_118 ?_
          refine q_icmp_le (tgt := 126) hx hb dX6_save_119 (by decide) h (fun h => ?_) (fun h => ?_)
          · refine lv_iconst (v := 0) hx hb dX6_save_126 (by decide) ?_
            exact wX6_save_127 hst C0  M (0 : Int32) v1 v2 v3 v4 _ _ _ hw (lv_sub hl [1, 2, 3, 4, 5] rfl) h
          · exact wX6_save_122 hst C0  M v1 v2 v3 v4 _ _ _ hw (lv_sub hl [1, 2, 3, 4, 5] rfl) h
def fX6_save_35 (F : Nat) (M : Mem) (v1 : Int32) (v2 : Int32) (v3 : Int32) (v4 : Int32) : Option (Mem × Int32) :=
    q_bn (fX6_in F M v4 (0 : Int32) (M 60 0 0)) fun M1 z2 =>
    if z2 = (0 : Int32) then
    (q_bn (fX6_fails F M1 (2 : Int32)) fun M3 z4 =>
    some (M3, z4))
    else
    (q_ax v2 10 fun j3 =>
    q_ax v1 12 fun j4 =>
    if (M1 27 0 j3) = (M1 26 0 j4) then
    (fX6_save_74 F M1 (0 : Int32) v1 v2 v3 v4)
    else
    (fX6_save_74 F M1 (1 : Int32) v1 v2 v3 v4))
set_option maxHeartbeats 4000000 in
set_option maxRecDepth 100000 in
theorem wX6_save_35 {p : Program} {l : Launch} {e : Env} {s : State} {m : MethodId} {args : Array Value} {below : List Frame} {meth : Method} {c : Code} {D : va_G} {cy : Nat → ClassId} {ad : Nat → Nat} {x : XX} {F : Nat} {r : Mem × Int32} (hst : l.stackTraces = false) (C0 : MX p l s m args meth c D cy ad cX6_save RX6 8 wsX6_save (some .int)) : ∀ (M : Mem) (v1 : Int32) (v2 : Int32) (v3 : Int32) (v4 : Int32) (H : Heap) (locs : List Loc) (ls : Array Slot), Wd D cy ad x s M H locs → lv_has ls 8 [(0, .ref (ad 427)), (1, .int v1), (2, .int v2), (3, .int v3), (4, .int v4)] → fX6_save_35 F M v1 v2 v3 v4 = some r → W p l e rmX6_save s m args below meth c H locs 0 0 (QN D cy ad below args s x q_vi r 0 0) (F0 m 35 ls []) := by
  obtain ⟨hx, hb, hml, hown, hts, -⟩ := id C0
  intro M v1 v2 v3 v4 H locs ls hw hl h
  unfold fX6_save_35 at h
  refine lv_iload hx hb dX6_save_35 (lv_at hl 4 rfl) ?_
  refine lv_iconst (v := 0) hx hb dX6_save_37 (by decide) ?_
  refine lv_aload_n hx hb dX6_save_38 rfl (lv_at hl 0 rfl) ?_
  refine gf_Mod_now C0 hw (fun _ h9 => List.mem_cons_of_mem _ (List.mem_append_left _ (List.mem_append_right _ h9))) (List.mem_of_getElem? (i := 1) rfl) dX6_save_39 ?_
  refine q_callSNi (As := [.int v4, .int ((0 : Int32)), .int (M 60 0 0)]) (nA := 3) C0 hw (fun r1 h1 => ctX6_in hst h1) gX6_save_X6_in rfl ⟨rfl, rfl⟩ (by decide +kernel) rfl ⟨(Nat.le_of_ble_eq_true rfl), (Nat.le_of_ble_eq_true rfl)⟩ hl.1 (Nat.le_of_ble_eq_true rfl) ⟨(Nat.le_of_ble_eq_true rfl), (Nat.le_of_ble_eq_true rfl)⟩ rfl h dX6_save_42 (fun M1 z2 H locs hw h => ?_)
  refine q_if_ne (tgt := 54) hx hb dX6_save_45 (by decide) h (fun h => ?_) (fun h => ?_)
  · refine lv_aload_n hx hb dX6_save_54 rfl (lv_at hl 0 rfl) ?_
    refine gf_Mod_taskClass C0 hw (fun _ h9 => List.mem_cons_of_mem _ (List.mem_append_left _ (List.mem_append_right _ h9))) (List.mem_of_getElem? (i := 2) rfl) dX6_save_55 ?_
    refine lv_iload_n hx hb dX6_save_58 rfl (lv_at hl 2 rfl) ?_
    refine q_iald C0 hw at_m27 h dX6_save_59 (fun j3 hj3 h => ?_)
    refine lv_aload_n hx hb dX6_save_60 rfl (lv_at hl 0 rfl) ?_
    refine gf_Mod_classOf C0 hw (fun _ h9 => List.mem_cons_of_mem _ (List.mem_append_left _ (List.mem_append_right _ h9))) (List.mem_of_getElem? (i := 3) rfl) dX6_save_61 ?_
    refine lv_iload_n hx hb dX6_save_64 rfl (lv_at hl 1 rfl) ?_
    refine q_iald C0 hw at_m26 h dX6_save_65 (fun j4 hj4 h => ?_)
    refine q_icmp_eq (tgt := 73) hx hb dX6_save_66 (by decide) h (fun h => ?_) (fun h => ?_)
    · refine lv_iconst (v := 0) hx hb dX6_save_73 (by decide) ?_
      exact wX6_save_74 hst C0  M1 (0 : Int32) v1 v2 v3 v4 _ _ _ hw (lv_sub hl [0, 1, 2, 3, 4] rfl) h
    · refine lv_iconst (v := 1) hx hb dX6_save_69 (by decide) ?_
      refine lv_goto (tgt := 74) hx hb dX6_save_70 (by decide) ?_
      exact wX6_save_74 hst C0  M1 (1 : Int32) v1 v2 v3 v4 _ _ _ hw (lv_sub hl [0, 1, 2, 3, 4] rfl) h
  · refine lv_aload_n hx hb dX6_save_48 rfl (lv_at hl 0 rfl) ?_
    refine lv_iconst (v := 2) hx hb dX6_save_49 (by decide) ?_
    refine q_callVNi (As := [.int ((2 : Int32))]) (nA := 1) C0 hw at_Mod rfl (fun r1 h1 => ctX6_fails hst h1) gX6_save_X6_fails rfl ⟨rfl, rfl⟩ (by decide +kernel) rfl ⟨(Nat.le_of_ble_eq_true rfl), (Nat.le_of_ble_eq_true rfl)⟩ hl.1 (Nat.le_of_ble_eq_true rfl) ⟨(Nat.le_of_ble_eq_true rfl), (Nat.le_of_ble_eq_true rfl)⟩ rfl h dX6_save_50 (fun M3 z4 H locs hw h => ?_)
    exact q_iretN C0 hw h ⟨(Nat.le_of_ble_eq_true rfl), (Nat.le_of_ble_eq_true rfl)⟩ dX6_save_53
def fX6_save (F : Nat) (M : Mem) (a0 : Int32) (a1 : Int32) (a2 : Int32) (a3 : Int32) : Option (Mem × Int32) :=
    q_bn (fX6_isPupil F M a0) fun M1 z2 =>
    if z2 = (0 : Int32) then
    (fX6_save_29 F M1)
    else
    (q_bn (fX6_isTask F M1 a1) fun M3 z4 =>
    if z4 = (0 : Int32) then
    (fX6_save_29 F M3)
    else
    (if a2 = (-1 : Int32) then
    (fX6_save_35 F M3 a0 a1 a2 a3)
    else
    (q_bn (fX6_isVersion F M3 a2) fun M5 z6 =>
    if z6 = (0 : Int32) then
    (fX6_save_29 F M5)
    else
    (fX6_save_35 F M5 a0 a1 a2 a3))))
set_option maxHeartbeats 4000000 in
set_option maxRecDepth 100000 in
theorem ctX6_save {l : Launch} (hst : l.stackTraces = false) {D : va_G} {cy : Nat → ClassId} {ad : Nat → Nat} {x : XX} {F : Nat} {M : Mem} {a0 : Int32} {a1 : Int32} {a2 : Int32} {a3 : Int32} {r : Mem × Int32} (h : fX6_save F M a0 a1 a2 a3 = some r) : CN l yX6_save wsX6_save rmX6_save D cy ad [.ref (ad 427), .int a0, .int a1, .int a2, .int a3] x M x r.1 (q_vi r.2) 0 0 := by
  refine q_startN (cc := cX6_save) (maxL := 8) (ret := (some .int)) (by decide) rfl (Nat.le_of_ble_eq_true rfl) ?_
  intro p e s m args below meth c ls C0 hw hl hnm
  obtain ⟨hx, hb, hml, hown, hts, -⟩ := id C0
  have C0 : MX p l s m args meth c D cy ad cX6_save RX6 8 wsX6_save ((some .int)) := C0
  have hown : s.vm.findClass RX6 = some m.cls := hown
  have hl : lv_has ls 8 [(0, .ref (ad 427)), (1, .int a0), (2, .int a1), (3, .int a2), (4, .int a3)] := hl
  show W p l e rmX6_save s m args below meth c s.heap [] 0 0 (QN D cy ad below args s x q_vi r 0 0) (F0 m 0 ls [])
  unfold fX6_save at h
  refine lv_aload_n hx hb dX6_save_0 rfl (lv_at hl 0 rfl) ?_
  refine lv_iload_n hx hb dX6_save_1 rfl (lv_at hl 1 rfl) ?_
  refine q_callVNi (As := [.int a0]) (nA := 1) C0 hw at_Mod rfl (fun r1 h1 => ctX6_isPupil hst h1) gX6_save_X6_isPupil rfl ⟨rfl, rfl⟩ (by decide +kernel) rfl ⟨(Nat.le_of_ble_eq_true rfl), (Nat.le_of_ble_eq_true rfl)⟩ hl.1 (Nat.le_of_ble_eq_true rfl) ⟨(Nat.le_of_ble_eq_true rfl), (Nat.le_of_ble_eq_true rfl)⟩ rfl h dX6_save_2 (fun M1 z2 H locs hw h => ?_)
  refine q_if_eq (tgt := 29) hx hb dX6_save_5 (by decide) h (fun h => ?_) (fun h => ?_)
  · exact wX6_save_29 hst C0  M1 _ _ _ hw (lv_sub hl [0] rfl) h
  · refine lv_aload_n hx hb dX6_save_8 rfl (lv_at hl 0 rfl) ?_
    refine lv_iload_n hx hb dX6_save_9 rfl (lv_at hl 2 rfl) ?_
    refine q_callVNi (As := [.int a1]) (nA := 1) C0 hw at_Mod rfl (fun r1 h1 => ctX6_isTask hst h1) gX6_save_X6_isTask rfl ⟨rfl, rfl⟩ (by decide +kernel) rfl ⟨(Nat.le_of_ble_eq_true rfl), (Nat.le_of_ble_eq_true rfl)⟩ hl.1 (Nat.le_of_ble_eq_true rfl) ⟨(Nat.le_of_ble_eq_true rfl), (Nat.le_of_ble_eq_true rfl)⟩ rfl h dX6_save_10 (fun M3 z4 H locs hw h => ?_)
    refine q_if_eq (tgt := 29) hx hb dX6_save_13 (by decide) h (fun h => ?_) (fun h => ?_)
    · exact wX6_save_29 hst C0  M3 _ _ _ hw (lv_sub hl [0] rfl) h
    · refine lv_iload_n hx hb dX6_save_16 rfl (lv_at hl 3 rfl) ?_
      refine lv_iconst (v := -1) hx hb dX6_save_17 (by decide) ?_
      refine q_icmp_eq (tgt := 35) hx hb dX6_save_18 (by decide) h (fun h => ?_) (fun h => ?_)
      · exact wX6_save_35 hst C0  M3 a0 a1 a2 a3 _ _ _ hw (lv_sub hl [0, 1, 2, 3, 4] rfl) h
      · refine lv_aload_n hx hb dX6_save_21 rfl (lv_at hl 0 rfl) ?_
        refine lv_iload_n hx hb dX6_save_22 rfl (lv_at hl 3 rfl) ?_
        refine q_callVNi (As := [.int a2]) (nA := 1) C0 hw at_Mod rfl (fun r1 h1 => ctX6_isVersion hst h1) gX6_save_X6_isVersion rfl ⟨rfl, rfl⟩ (by decide +kernel) rfl ⟨(Nat.le_of_ble_eq_true rfl), (Nat.le_of_ble_eq_true rfl)⟩ hl.1 (Nat.le_of_ble_eq_true rfl) ⟨(Nat.le_of_ble_eq_true rfl), (Nat.le_of_ble_eq_true rfl)⟩ rfl h dX6_save_23 (fun M5 z6 H locs hw h => ?_)
        refine q_if_ne (tgt := 35) hx hb dX6_save_26 (by decide) h (fun h => ?_) (fun h => ?_)
        · exact wX6_save_35 hst C0  M5 a0 a1 a2 a3 _ _ _ hw (lv_sub hl [0, 1, 2, 3, 4] rfl) h
        · exact wX6_save_29 hst C0  M5 _ _ _ hw (lv_sub hl [0] rfl) h
/-! HomewatcherModel.charsOfVersion(I)I -/
abbrev rmX6_charsOfVersion : Room := { frames := 1, cells := 0, slots := 0, locals := 20 }
def fX6_charsOfVersion_4 (F : Nat) : Nat → Mem → Int32 → Int32 → Int32 → Option (Mem × Int32)
  | 0, _, _, _, _ => none
  | n + 1, M, v1, v2, v3 =>
    q_ax v1 60 fun j1 =>
    if (M 37 0 j1) ≤ v3 then
    (some (M, v2))
    else
    (q_ax (((40 : Int32) * v1) + v3) 2400 fun j2 =>
    q_bn (fX6_charsOf F M (M 42 0 j2)) fun M3 z4 =>
    q_lt (v2 + z4) fun z5 =>
    q_lt (v3 + (1 : Int32)) fun z6 =>
    fX6_charsOfVersion_4 F n M3 v1 z5 z6)
set_option maxHeartbeats 4000000 in
set_option maxRecDepth 100000 in
theorem wX6_charsOfVersion_4 {p : Program} {l : Launch} {e : Env} {s : State} {m : MethodId} {args : Array Value} {below : List Frame} {meth : Method} {c : Code} {D : va_G} {cy : Nat → ClassId} {ad : Nat → Nat} {x : XX} {F : Nat} {r : Mem × Int32} (hst : l.stackTraces = false) (C0 : MX p l s m args meth c D cy ad cX6_charsOfVersion RX6 4 wsX6_charsOfVersion (some .int)) : ∀ (n : Nat) (M : Mem) (v1 : Int32) (v2 : Int32) (v3 : Int32) (H : Heap) (locs : List Loc) (ls : Array Slot), Wd D cy ad x s M H locs → lv_has ls 4 [(0, .ref (ad 427)), (1, .int v1), (2, .int v2), (3, .int v3)] → fX6_charsOfVersion_4 F n M v1 v2 v3 = some r → W p l e rmX6_charsOfVersion s m args below meth c H locs 0 0 (QN D cy ad below args s x q_vi r 0 0) (F0 m 4 ls []) := by
  obtain ⟨hx, hb, hml, hown, hts, -⟩ := id C0
  intro n
  induction n with
  | zero =>
    intro M v1 v2 v3 H locs ls hw hl h
    exact q_no h
  | succ n ih =>
    intro M v1 v2 v3 H locs ls hw hl h
    unfold fX6_charsOfVersion_4 at h
    refine lv_iload_n hx hb dX6_charsOfVersion_4 rfl (lv_at hl 3 rfl) ?_
    refine lv_aload_n hx hb dX6_charsOfVersion_5 rfl (lv_at hl 0 rfl) ?_
    refine gf_Mod_sizes C0 hw (fun _ h9 => List.mem_cons_of_mem _ (List.mem_append_left _ (List.mem_append_right _ h9))) (List.mem_of_getElem? (i := 1) rfl) dX6_charsOfVersion_6 ?_
    refine lv_iload_n hx hb dX6_charsOfVersion_9 rfl (lv_at hl 1 rfl) ?_
    refine q_iald C0 hw at_m37 h dX6_charsOfVersion_10 (fun j1 hj1 h => ?_)
    refine q_icmp_ge (tgt := 37) hx hb dX6_charsOfVersion_11 (by decide) h (fun h => ?_) (fun h => ?_)
    · refine lv_iload_n hx hb dX6_charsOfVersion_37 rfl (lv_at hl 2 rfl) ?_
      exact q_iretN C0 hw h ⟨(Nat.le_of_ble_eq_true rfl), (Nat.le_of_ble_eq_true rfl)⟩ dX6_charsOfVersion_38
    · refine lv_iload_n hx hb dX6_charsOfVersion_14 rfl (lv_at hl 2 rfl) ?_
      refine lv_aload_n hx hb dX6_charsOfVersion_15 rfl (lv_at hl 0 rfl) ?_
      refine gf_Mod_texts C0 hw (fun _ h9 => List.mem_cons_of_mem _ (List.mem_append_left _ (List.mem_append_right _ h9))) (List.mem_of_getElem? (i := 2) rfl) dX6_charsOfVersion_16 ?_
      refine lv_bipush (v := 40) hx hb dX6_charsOfVersion_19 (by decide) ?_
      refine lv_iload_n hx hb dX6_charsOfVersion_21 rfl (lv_at hl 1 rfl) ?_
      refine lv_imul hx hb dX6_charsOfVersion_22 ?_
      refine lv_iload_n hx hb dX6_charsOfVersion_23 rfl (lv_at hl 3 rfl) ?_
      refine lv_iadd hx hb dX6_charsOfVersion_24 ?_
      refine q_iald C0 hw at_m42 h dX6_charsOfVersion_25 (fun j2 hj2 h => ?_)
      refine q_callSNi (As := [.int (M 42 0 j2)]) (nA := 1) C0 hw (fun r1 h1 => ctX6_charsOf hst h1) gX6_charsOfVersion_X6_charsOf rfl ⟨rfl, rfl⟩ (by decide +kernel) rfl ⟨(Nat.le_of_ble_eq_true rfl), (Nat.le_of_ble_eq_true rfl)⟩ hl.1 (Nat.le_of_ble_eq_true rfl) ⟨(Nat.le_of_ble_eq_true rfl), (Nat.le_of_ble_eq_true rfl)⟩ rfl h dX6_charsOfVersion_26 (fun M3 z4 H locs hw h => ?_)
      refine lv_iadd hx hb dX6_charsOfVersion_29 ?_
      refine q_istore_n (lv' := fun z5 => [(2, .int z5), (0, .ref (ad 427)), (1, .int v1), (3, .int v3)]) hx hb dX6_charsOfVersion_30 rfl hl (by decide) (fun _ => rfl) h (fun z5 ls hl h => ?_)
      refine q_iinc (k := 3) (cst := 1) (lv' := fun z6 => [(3, .int z6), (2, .int z5), (0, .ref (ad 427)), (1, .int v1)]) hx hb dX6_charsOfVersion_31 hl rfl rfl (by decide) (fun _ => rfl) h (fun z6 ls hl h => ?_)
      refine lv_goto (tgt := 4) hx hb dX6_charsOfVersion_34 (by decide) ?_
      exact ih M3 v1 z5 z6 _ _ _ hw (lv_sub hl [2, 3, 1, 0] rfl) h
def fX6_charsOfVersion (F : Nat) (M : Mem) (a0 : Int32) : Option (Mem × Int32) :=
    q_lt ((0 : Int32)) fun z1 =>
    q_lt ((0 : Int32)) fun z2 =>
    fX6_charsOfVersion_4 F F M a0 z1 z2
set_option maxHeartbeats 4000000 in
set_option maxRecDepth 100000 in
theorem ctX6_charsOfVersion {l : Launch} (hst : l.stackTraces = false) {D : va_G} {cy : Nat → ClassId} {ad : Nat → Nat} {x : XX} {F : Nat} {M : Mem} {a0 : Int32} {r : Mem × Int32} (h : fX6_charsOfVersion F M a0 = some r) : CN l yX6_charsOfVersion wsX6_charsOfVersion rmX6_charsOfVersion D cy ad [.ref (ad 427), .int a0] x M x r.1 (q_vi r.2) 0 0 := by
  refine q_startN (cc := cX6_charsOfVersion) (maxL := 4) (ret := (some .int)) (by decide) rfl (Nat.le_of_ble_eq_true rfl) ?_
  intro p e s m args below meth c ls C0 hw hl hnm
  obtain ⟨hx, hb, hml, hown, hts, -⟩ := id C0
  have C0 : MX p l s m args meth c D cy ad cX6_charsOfVersion RX6 4 wsX6_charsOfVersion ((some .int)) := C0
  have hown : s.vm.findClass RX6 = some m.cls := hown
  have hl : lv_has ls 4 [(0, .ref (ad 427)), (1, .int a0)] := hl
  show W p l e rmX6_charsOfVersion s m args below meth c s.heap [] 0 0 (QN D cy ad below args s x q_vi r 0 0) (F0 m 0 ls [])
  unfold fX6_charsOfVersion at h
  refine lv_iconst (v := 0) hx hb dX6_charsOfVersion_0 (by decide) ?_
  refine q_istore_n (lv' := fun z1 => [(2, .int z1), (0, .ref (ad 427)), (1, .int a0)]) hx hb dX6_charsOfVersion_1 rfl hl (by decide) (fun _ => rfl) h (fun z1 ls hl h => ?_)
  refine lv_iconst (v := 0) hx hb dX6_charsOfVersion_2 (by decide) ?_
  refine q_istore_n (lv' := fun z2 => [(3, .int z2), (2, .int z1), (0, .ref (ad 427)), (1, .int a0)]) hx hb dX6_charsOfVersion_3 rfl hl (by decide) (fun _ => rfl) h (fun z2 ls hl h => ?_)
  exact wX6_charsOfVersion_4 hst C0  F M a0 z1 z2 _ _ _ hw (lv_sub hl [2, 3, 1, 0] rfl) h
/-! HomewatcherModel.of(IC)I -/
abbrev rmX6_of : Room := { frames := 2, cells := 0, slots := 0, locals := 43 }
def fX6_of (F : Nat) (M : Mem) (a0 : Int32) (a1 : Int32) : Option (Mem × Int32) :=
    q_bn (fX6_isVersion F M a0) fun M1 z2 =>
    if z2 = (0 : Int32) then
    (q_bn (fX6_fails F M1 (1 : Int32)) fun M3 z4 =>
    some (M3, z4))
    else
    (if a1 = (99 : Int32) then
    (q_bn (fX6_charsOfVersion F M1 a0) fun M3 z4 =>
    q_bn (fX6_tells F M3 z4) fun M5 z6 =>
    some (M5, z6))
    else
    if a1 = (100 : Int32) then
    (q_bn (fX6_fails F M1 (2 : Int32)) fun M3 z4 =>
    some (M3, z4))
    else
    if a1 = (101 : Int32) then
    (q_bn (fX6_fails F M1 (2 : Int32)) fun M3 z4 =>
    some (M3, z4))
    else
    if a1 = (102 : Int32) then
    (q_bn (fX6_fails F M1 (2 : Int32)) fun M3 z4 =>
    some (M3, z4))
    else
    if a1 = (103 : Int32) then
    (q_ax a0 60 fun j3 =>
    q_bn (fX6_tells F M1 (M1 41 0 j3)) fun M4 z5 =>
    some (M4, z5))
    else
    if a1 = (104 : Int32) then
    (q_ax a0 60 fun j3 =>
    q_bn (fX6_tells F M1 (M1 39 0 j3)) fun M4 z5 =>
    some (M4, z5))
    else
    if a1 = (105 : Int32) then
    (q_bn (fX6_fails F M1 (2 : Int32)) fun M3 z4 =>
    some (M3, z4))
    else
    if a1 = (106 : Int32) then
    (q_bn (fX6_fails F M1 (2 : Int32)) fun M3 z4 =>
    some (M3, z4))
    else
    if a1 = (107 : Int32) then
    (q_bn (fX6_fails F M1 (2 : Int32)) fun M3 z4 =>
    some (M3, z4))
    else
    if a1 = (108 : Int32) then
    (q_bn (fX6_fails F M1 (2 : Int32)) fun M3 z4 =>
    some (M3, z4))
    else
    if a1 = (109 : Int32) then
    (q_bn (fX6_fails F M1 (2 : Int32)) fun M3 z4 =>
    some (M3, z4))
    else
    if a1 = (110 : Int32) then
    (q_ax a0 60 fun j3 =>
    q_bn (fX6_tells F M1 (M1 37 0 j3)) fun M4 z5 =>
    some (M4, z5))
    else
    if a1 = (111 : Int32) then
    (q_bn (fX6_fails F M1 (2 : Int32)) fun M3 z4 =>
    some (M3, z4))
    else
    if a1 = (112 : Int32) then
    (q_ax a0 60 fun j3 =>
    q_bn (fX6_tells F M1 (M1 35 0 j3)) fun M4 z5 =>
    some (M4, z5))
    else
    if a1 = (113 : Int32) then
    (q_bn (fX6_fails F M1 (2 : Int32)) fun M3 z4 =>
    some (M3, z4))
    else
    if a1 = (114 : Int32) then
    (q_bn (fX6_fails F M1 (2 : Int32)) fun M3 z4 =>
    some (M3, z4))
    else
    if a1 = (115 : Int32) then
    (q_ax a0 60 fun j3 =>
    q_bn (fX6_tells F M1 (M1 36 0 j3)) fun M4 z5 =>
    some (M4, z5))
    else
    if a1 = (116 : Int32) then
    (q_bn (fX6_fails F M1 (2 : Int32)) fun M3 z4 =>
    some (M3, z4))
    else
    if a1 = (117 : Int32) then
    (q_ax a0 60 fun j3 =>
    q_bn (fX6_tells F M1 (M1 44 0 j3)) fun M4 z5 =>
    some (M4, z5))
    else
    (q_bn (fX6_fails F M1 (2 : Int32)) fun M3 z4 =>
    some (M3, z4)))
set_option maxHeartbeats 4000000 in
set_option maxRecDepth 100000 in
theorem ctX6_of {l : Launch} (hst : l.stackTraces = false) {D : va_G} {cy : Nat → ClassId} {ad : Nat → Nat} {x : XX} {F : Nat} {M : Mem} {a0 : Int32} {a1 : Int32} {r : Mem × Int32} (h : fX6_of F M a0 a1 = some r) : CN l yX6_of wsX6_of rmX6_of D cy ad [.ref (ad 427), .int a0, .int a1] x M x r.1 (q_vi r.2) 0 0 := by
  refine q_startN (cc := cX6_of) (maxL := 3) (ret := (some .int)) (by decide) rfl (Nat.le_of_ble_eq_true rfl) ?_
  intro p e s m args below meth c ls C0 hw hl hnm
  obtain ⟨hx, hb, hml, hown, hts, -⟩ := id C0
  have C0 : MX p l s m args meth c D cy ad cX6_of RX6 3 wsX6_of ((some .int)) := C0
  have hown : s.vm.findClass RX6 = some m.cls := hown
  have hl : lv_has ls 3 [(0, .ref (ad 427)), (1, .int a0), (2, .int a1)] := hl
  show W p l e rmX6_of s m args below meth c s.heap [] 0 0 (QN D cy ad below args s x q_vi r 0 0) (F0 m 0 ls [])
  unfold fX6_of at h
  refine lv_aload_n hx hb dX6_of_0 rfl (lv_at hl 0 rfl) ?_
  refine lv_iload_n hx hb dX6_of_1 rfl (lv_at hl 1 rfl) ?_
  refine q_callVNi (As := [.int a0]) (nA := 1) C0 hw at_Mod rfl (fun r1 h1 => ctX6_isVersion hst h1) gX6_of_X6_isVersion rfl ⟨rfl, rfl⟩ (by decide +kernel) rfl ⟨(Nat.le_of_ble_eq_true rfl), (Nat.le_of_ble_eq_true rfl)⟩ hl.1 (Nat.le_of_ble_eq_true rfl) ⟨(Nat.le_of_ble_eq_true rfl), (Nat.le_of_ble_eq_true rfl)⟩ rfl h dX6_of_2 (fun M1 z2 H locs hw h => ?_)
  refine q_if_ne (tgt := 14) hx hb dX6_of_5 (by decide) h (fun h => ?_) (fun h => ?_)
  · refine lv_iload_n hx hb dX6_of_14 rfl (lv_at hl 2 rfl) ?_
    refine q_if (P := a1 = (99 : Int32)) h (fun e0 h => ?_) (fun n0 h => ?_)
    · refine lv_tableIn (off := 133) (tgt := 148) hx hb dX6_of_15 (by rw [e0]; decide) (by rw [e0]; decide) (by rw [e0]; decide) (by decide) ?_
      refine lv_aload_n hx hb dX6_of_148 rfl (lv_at hl 0 rfl) ?_
      refine lv_aload_n hx hb dX6_of_149 rfl (lv_at hl 0 rfl) ?_
      refine lv_iload_n hx hb dX6_of_150 rfl (lv_at hl 1 rfl) ?_
      refine q_callVNi (As := [.int a0]) (nA := 1) C0 hw at_Mod rfl (fun r1 h1 => ctX6_charsOfVersion hst h1) gX6_of_X6_charsOfVersion rfl ⟨rfl, rfl⟩ (by decide +kernel) rfl ⟨(Nat.le_of_ble_eq_true rfl), (Nat.le_of_ble_eq_true rfl)⟩ hl.1 (Nat.le_of_ble_eq_true rfl) ⟨(Nat.le_of_ble_eq_true rfl), (Nat.le_of_ble_eq_true rfl)⟩ rfl h dX6_of_151 (fun M3 z4 H locs hw h => ?_)
      refine q_callVNi (As := [.int z4]) (nA := 1) C0 hw at_Mod rfl (fun r1 h1 => ctX6_tells hst h1) gX6_of_X6_tells rfl ⟨rfl, rfl⟩ (by decide +kernel) rfl ⟨(Nat.le_of_ble_eq_true rfl), (Nat.le_of_ble_eq_true rfl)⟩ hl.1 (Nat.le_of_ble_eq_true rfl) ⟨(Nat.le_of_ble_eq_true rfl), (Nat.le_of_ble_eq_true rfl)⟩ rfl h dX6_of_154 (fun M5 z6 H locs hw h => ?_)
      exact q_iretN C0 hw h ⟨(Nat.le_of_ble_eq_true rfl), (Nat.le_of_ble_eq_true rfl)⟩ dX6_of_157
    · skip
      refine q_if (P := a1 = (100 : Int32)) h (fun e1 h => ?_) (fun n1 h => ?_)
      · refine lv_tableIn (off := 165) (tgt := 180) hx hb dX6_of_15 (by rw [e1]; decide) (by rw [e1]; decide) (by rw [e1]; decide) (by decide) ?_
        refine lv_aload_n hx hb dX6_of_180 rfl (lv_at hl 0 rfl) ?_
        refine lv_iconst (v := 2) hx hb dX6_of_181 (by decide) ?_
        refine q_callVNi (As := [.int ((2 : Int32))]) (nA := 1) C0 hw at_Mod rfl (fun r1 h1 => ctX6_fails hst h1) gX6_of_X6_fails rfl ⟨rfl, rfl⟩ (by decide +kernel) rfl ⟨(Nat.le_of_ble_eq_true rfl), (Nat.le_of_ble_eq_true rfl)⟩ hl.1 (Nat.le_of_ble_eq_true rfl) ⟨(Nat.le_of_ble_eq_true rfl), (Nat.le_of_ble_eq_true rfl)⟩ rfl h dX6_of_182 (fun M3 z4 H locs hw h => ?_)
        exact q_iretN C0 hw h ⟨(Nat.le_of_ble_eq_true rfl), (Nat.le_of_ble_eq_true rfl)⟩ dX6_of_185
      · skip
        refine q_if (P := a1 = (101 : Int32)) h (fun e2 h => ?_) (fun n2 h => ?_)
        · refine lv_tableIn (off := 165) (tgt := 180) hx hb dX6_of_15 (by rw [e2]; decide) (by rw [e2]; decide) (by rw [e2]; decide) (by decide) ?_
          refine lv_aload_n hx hb dX6_of_180 rfl (lv_at hl 0 rfl) ?_
          refine lv_iconst (v := 2) hx hb dX6_of_181 (by decide) ?_
          refine q_callVNi (As := [.int ((2 : Int32))]) (nA := 1) C0 hw at_Mod rfl (fun r1 h1 => ctX6_fails hst h1) gX6_of_X6_fails rfl ⟨rfl, rfl⟩ (by decide +kernel) rfl ⟨(Nat.le_of_ble_eq_true rfl), (Nat.le_of_ble_eq_true rfl)⟩ hl.1 (Nat.le_of_ble_eq_true rfl) ⟨(Nat.le_of_ble_eq_true rfl), (Nat.le_of_ble_eq_true rfl)⟩ rfl h dX6_of_182 (fun M3 z4 H locs hw h => ?_)
          exact q_iretN C0 hw h ⟨(Nat.le_of_ble_eq_true rfl), (Nat.le_of_ble_eq_true rfl)⟩ dX6_of_185
        · skip
          refine q_if (P := a1 = (102 : Int32)) h (fun e3 h => ?_) (fun n3 h => ?_)
          · refine lv_tableIn (off := 165) (tgt := 180) hx hb dX6_of_15 (by rw [e3]; decide) (by rw [e3]; decide) (by rw [e3]; decide) (by decide) ?_
            refine lv_aload_n hx hb dX6_of_180 rfl (lv_at hl 0 rfl) ?_
            refine lv_iconst (v := 2) hx hb dX6_of_181 (by decide) ?_
            refine q_callVNi (As := [.int ((2 : Int32))]) (nA := 1) C0 hw at_Mod rfl (fun r1 h1 => ctX6_fails hst h1) gX6_of_X6_fails rfl ⟨rfl, rfl⟩ (by decide +kernel) rfl ⟨(Nat.le_of_ble_eq_true rfl), (Nat.le_of_ble_eq_true rfl)⟩ hl.1 (Nat.le_of_ble_eq_true rfl) ⟨(Nat.le_of_ble_eq_true rfl), (Nat.le_of_ble_eq_true rfl)⟩ rfl h dX6_of_182 (fun M3 z4 H locs hw h => ?_)
            exact q_iretN C0 hw h ⟨(Nat.le_of_ble_eq_true rfl), (Nat.le_of_ble_eq_true rfl)⟩ dX6_of_185
          · skip
            refine q_if (P := a1 = (103 : Int32)) h (fun e4 h => ?_) (fun n4 h => ?_)
            · refine lv_tableIn (off := 154) (tgt := 169) hx hb dX6_of_15 (by rw [e4]; decide) (by rw [e4]; decide) (by rw [e4]; decide) (by decide) ?_
              refine lv_aload_n hx hb dX6_of_169 rfl (lv_at hl 0 rfl) ?_
              refine lv_aload_n hx hb dX6_of_170 rfl (lv_at hl 0 rfl) ?_
              refine gf_Mod_points C0 hw (fun _ h9 => List.mem_cons_of_mem _ (List.mem_append_left _ (List.mem_append_right _ h9))) (List.mem_of_getElem? (i := 6) rfl) dX6_of_171 ?_
              refine lv_iload_n hx hb dX6_of_174 rfl (lv_at hl 1 rfl) ?_
              refine q_iald C0 hw at_m41 h dX6_of_175 (fun j3 hj3 h => ?_)
              refine q_callVNi (As := [.int (M1 41 0 j3)]) (nA := 1) C0 hw at_Mod rfl (fun r1 h1 => ctX6_tells hst h1) gX6_of_X6_tells rfl ⟨rfl, rfl⟩ (by decide +kernel) rfl ⟨(Nat.le_of_ble_eq_true rfl), (Nat.le_of_ble_eq_true rfl)⟩ hl.1 (Nat.le_of_ble_eq_true rfl) ⟨(Nat.le_of_ble_eq_true rfl), (Nat.le_of_ble_eq_true rfl)⟩ rfl h dX6_of_176 (fun M4 z5 H locs hw h => ?_)
              exact q_iretN C0 hw h ⟨(Nat.le_of_ble_eq_true rfl), (Nat.le_of_ble_eq_true rfl)⟩ dX6_of_179
            · skip
              refine q_if (P := a1 = (104 : Int32)) h (fun e5 h => ?_) (fun n5 h => ?_)
              · refine lv_tableIn (off := 111) (tgt := 126) hx hb dX6_of_15 (by rw [e5]; decide) (by rw [e5]; decide) (by rw [e5]; decide) (by decide) ?_
                refine lv_aload_n hx hb dX6_of_126 rfl (lv_at hl 0 rfl) ?_
                refine lv_aload_n hx hb dX6_of_127 rfl (lv_at hl 0 rfl) ?_
                refine gf_Mod_minutes C0 hw (fun _ h9 => List.mem_cons_of_mem _ (List.mem_append_left _ (List.mem_append_right _ h9))) (List.mem_of_getElem? (i := 3) rfl) dX6_of_128 ?_
                refine lv_iload_n hx hb dX6_of_131 rfl (lv_at hl 1 rfl) ?_
                refine q_iald C0 hw at_m39 h dX6_of_132 (fun j3 hj3 h => ?_)
                refine q_callVNi (As := [.int (M1 39 0 j3)]) (nA := 1) C0 hw at_Mod rfl (fun r1 h1 => ctX6_tells hst h1) gX6_of_X6_tells rfl ⟨rfl, rfl⟩ (by decide +kernel) rfl ⟨(Nat.le_of_ble_eq_true rfl), (Nat.le_of_ble_eq_true rfl)⟩ hl.1 (Nat.le_of_ble_eq_true rfl) ⟨(Nat.le_of_ble_eq_true rfl), (Nat.le_of_ble_eq_true rfl)⟩ rfl h dX6_of_133 (fun M4 z5 H locs hw h => ?_)
                exact q_iretN C0 hw h ⟨(Nat.le_of_ble_eq_true rfl), (Nat.le_of_ble_eq_true rfl)⟩ dX6_of_136
              · skip
                refine q_if (P := a1 = (105 : Int32)) h (fun e6 h => ?_) (fun n6 h => ?_)
                · refine lv_tableIn (off := 165) (tgt := 180) hx hb dX6_of_15 (by rw [e6]; decide) (by rw [e6]; decide) (by rw [e6]; decide) (by decide) ?_
                  refine lv_aload_n hx hb dX6_of_180 rfl (lv_at hl 0 rfl) ?_
                  refine lv_iconst (v := 2) hx hb dX6_of_181 (by decide) ?_
                  refine q_callVNi (As := [.int ((2 : Int32))]) (nA := 1) C0 hw at_Mod rfl (fun r1 h1 => ctX6_fails hst h1) gX6_of_X6_fails rfl ⟨rfl, rfl⟩ (by decide +kernel) rfl ⟨(Nat.le_of_ble_eq_true rfl), (Nat.le_of_ble_eq_true rfl)⟩ hl.1 (Nat.le_of_ble_eq_true rfl) ⟨(Nat.le_of_ble_eq_true rfl), (Nat.le_of_ble_eq_true rfl)⟩ rfl h dX6_of_182 (fun M3 z4 H locs hw h => ?_)
                  exact q_iretN C0 hw h ⟨(Nat.le_of_ble_eq_true rfl), (Nat.le_of_ble_eq_true rfl)⟩ dX6_of_185
                · skip
                  refine q_if (P := a1 = (106 : Int32)) h (fun e7 h => ?_) (fun n7 h => ?_)
                  · refine lv_tableIn (off := 165) (tgt := 180) hx hb dX6_of_15 (by rw [e7]; decide) (by rw [e7]; decide) (by rw [e7]; decide) (by decide) ?_
                    refine lv_aload_n hx hb dX6_of_180 rfl (lv_at hl 0 rfl) ?_
                    refine lv_iconst (v := 2) hx hb dX6_of_181 (by decide) ?_
                    refine q_callVNi (As := [.int ((2 : Int32))]) (nA := 1) C0 hw at_Mod rfl (fun r1 h1 => ctX6_fails hst h1) gX6_of_X6_fails rfl ⟨rfl, rfl⟩ (by decide +kernel) rfl ⟨(Nat.le_of_ble_eq_true rfl), (Nat.le_of_ble_eq_true rfl)⟩ hl.1 (Nat.le_of_ble_eq_true rfl) ⟨(Nat.le_of_ble_eq_true rfl), (Nat.le_of_ble_eq_true rfl)⟩ rfl h dX6_of_182 (fun M3 z4 H locs hw h => ?_)
                    exact q_iretN C0 hw h ⟨(Nat.le_of_ble_eq_true rfl), (Nat.le_of_ble_eq_true rfl)⟩ dX6_of_185
                  · skip
                    refine q_if (P := a1 = (107 : Int32)) h (fun e8 h => ?_) (fun n8 h => ?_)
                    · refine lv_tableIn (off := 165) (tgt := 180) hx hb dX6_of_15 (by rw [e8]; decide) (by rw [e8]; decide) (by rw [e8]; decide) (by decide) ?_
                      refine lv_aload_n hx hb dX6_of_180 rfl (lv_at hl 0 rfl) ?_
                      refine lv_iconst (v := 2) hx hb dX6_of_181 (by decide) ?_
                      refine q_callVNi (As := [.int ((2 : Int32))]) (nA := 1) C0 hw at_Mod rfl (fun r1 h1 => ctX6_fails hst h1) gX6_of_X6_fails rfl ⟨rfl, rfl⟩ (by decide +kernel) rfl ⟨(Nat.le_of_ble_eq_true rfl), (Nat.le_of_ble_eq_true rfl)⟩ hl.1 (Nat.le_of_ble_eq_true rfl) ⟨(Nat.le_of_ble_eq_true rfl), (Nat.le_of_ble_eq_true rfl)⟩ rfl h dX6_of_182 (fun M3 z4 H locs hw h => ?_)
                      exact q_iretN C0 hw h ⟨(Nat.le_of_ble_eq_true rfl), (Nat.le_of_ble_eq_true rfl)⟩ dX6_of_185
                    · skip
                      refine q_if (P := a1 = (108 : Int32)) h (fun e9 h => ?_) (fun n9 h => ?_)
                      · refine lv_tableIn (off := 165) (tgt := 180) hx hb dX6_of_15 (by rw [e9]; decide) (by rw [e9]; decide) (by rw [e9]; decide) (by decide) ?_
                        refine lv_aload_n hx hb dX6_of_180 rfl (lv_at hl 0 rfl) ?_
                        refine lv_iconst (v := 2) hx hb dX6_of_181 (by decide) ?_
                        refine q_callVNi (As := [.int ((2 : Int32))]) (nA := 1) C0 hw at_Mod rfl (fun r1 h1 => ctX6_fails hst h1) gX6_of_X6_fails rfl ⟨rfl, rfl⟩ (by decide +kernel) rfl ⟨(Nat.le_of_ble_eq_true rfl), (Nat.le_of_ble_eq_true rfl)⟩ hl.1 (Nat.le_of_ble_eq_true rfl) ⟨(Nat.le_of_ble_eq_true rfl), (Nat.le_of_ble_eq_true rfl)⟩ rfl h dX6_of_182 (fun M3 z4 H locs hw h => ?_)
                        exact q_iretN C0 hw h ⟨(Nat.le_of_ble_eq_true rfl), (Nat.le_of_ble_eq_true rfl)⟩ dX6_of_185
                      · skip
                        refine q_if (P := a1 = (109 : Int32)) h (fun e10 h => ?_) (fun n10 h => ?_)
                        · refine lv_tableIn (off := 165) (tgt := 180) hx hb dX6_of_15 (by rw [e10]; decide) (by rw [e10]; decide) (by rw [e10]; decide) (by decide) ?_
                          refine lv_aload_n hx hb dX6_of_180 rfl (lv_at hl 0 rfl) ?_
                          refine lv_iconst (v := 2) hx hb dX6_of_181 (by decide) ?_
                          refine q_callVNi (As := [.int ((2 : Int32))]) (nA := 1) C0 hw at_Mod rfl (fun r1 h1 => ctX6_fails hst h1) gX6_of_X6_fails rfl ⟨rfl, rfl⟩ (by decide +kernel) rfl ⟨(Nat.le_of_ble_eq_true rfl), (Nat.le_of_ble_eq_true rfl)⟩ hl.1 (Nat.le_of_ble_eq_true rfl) ⟨(Nat.le_of_ble_eq_true rfl), (Nat.le_of_ble_eq_true rfl)⟩ rfl h dX6_of_182 (fun M3 z4 H locs hw h => ?_)
                          exact q_iretN C0 hw h ⟨(Nat.le_of_ble_eq_true rfl), (Nat.le_of_ble_eq_true rfl)⟩ dX6_of_185
                        · skip
                          refine q_if (P := a1 = (110 : Int32)) h (fun e11 h => ?_) (fun n11 h => ?_)
                          · refine lv_tableIn (off := 122) (tgt := 137) hx hb dX6_of_15 (by rw [e11]; decide) (by rw [e11]; decide) (by rw [e11]; decide) (by decide) ?_
                            refine lv_aload_n hx hb dX6_of_137 rfl (lv_at hl 0 rfl) ?_
                            refine lv_aload_n hx hb dX6_of_138 rfl (lv_at hl 0 rfl) ?_
                            refine gf_Mod_sizes C0 hw (fun _ h9 => List.mem_cons_of_mem _ (List.mem_append_left _ (List.mem_append_right _ h9))) (List.mem_of_getElem? (i := 4) rfl) dX6_of_139 ?_
                            refine lv_iload_n hx hb dX6_of_142 rfl (lv_at hl 1 rfl) ?_
                            refine q_iald C0 hw at_m37 h dX6_of_143 (fun j3 hj3 h => ?_)
                            refine q_callVNi (As := [.int (M1 37 0 j3)]) (nA := 1) C0 hw at_Mod rfl (fun r1 h1 => ctX6_tells hst h1) gX6_of_X6_tells rfl ⟨rfl, rfl⟩ (by decide +kernel) rfl ⟨(Nat.le_of_ble_eq_true rfl), (Nat.le_of_ble_eq_true rfl)⟩ hl.1 (Nat.le_of_ble_eq_true rfl) ⟨(Nat.le_of_ble_eq_true rfl), (Nat.le_of_ble_eq_true rfl)⟩ rfl h dX6_of_144 (fun M4 z5 H locs hw h => ?_)
                            exact q_iretN C0 hw h ⟨(Nat.le_of_ble_eq_true rfl), (Nat.le_of_ble_eq_true rfl)⟩ dX6_of_147
                          · skip
                            refine q_if (P := a1 = (111 : Int32)) h (fun e12 h => ?_) (fun n12 h => ?_)
                            · refine lv_tableIn (off := 165) (tgt := 180) hx hb dX6_of_15 (by rw [e12]; decide) (by rw [e12]; decide) (by rw [e12]; decide) (by decide) ?_
                              refine lv_aload_n hx hb dX6_of_180 rfl (lv_at hl 0 rfl) ?_
                              refine lv_iconst (v := 2) hx hb dX6_of_181 (by decide) ?_
                              refine q_callVNi (As := [.int ((2 : Int32))]) (nA := 1) C0 hw at_Mod rfl (fun r1 h1 => ctX6_fails hst h1) gX6_of_X6_fails rfl ⟨rfl, rfl⟩ (by decide +kernel) rfl ⟨(Nat.le_of_ble_eq_true rfl), (Nat.le_of_ble_eq_true rfl)⟩ hl.1 (Nat.le_of_ble_eq_true rfl) ⟨(Nat.le_of_ble_eq_true rfl), (Nat.le_of_ble_eq_true rfl)⟩ rfl h dX6_of_182 (fun M3 z4 H locs hw h => ?_)
                              exact q_iretN C0 hw h ⟨(Nat.le_of_ble_eq_true rfl), (Nat.le_of_ble_eq_true rfl)⟩ dX6_of_185
                            · skip
                              refine q_if (P := a1 = (112 : Int32)) h (fun e13 h => ?_) (fun n13 h => ?_)
                              · refine lv_tableIn (off := 89) (tgt := 104) hx hb dX6_of_15 (by rw [e13]; decide) (by rw [e13]; decide) (by rw [e13]; decide) (by decide) ?_
                                refine lv_aload_n hx hb dX6_of_104 rfl (lv_at hl 0 rfl) ?_
                                refine lv_aload_n hx hb dX6_of_105 rfl (lv_at hl 0 rfl) ?_
                                refine gf_Mod_parents C0 hw (fun _ h9 => List.mem_cons_of_mem _ (List.mem_append_left _ (List.mem_append_right _ h9))) (List.mem_of_getElem? (i := 1) rfl) dX6_of_106 ?_
                                refine lv_iload_n hx hb dX6_of_109 rfl (lv_at hl 1 rfl) ?_
                                refine q_iald C0 hw at_m35 h dX6_of_110 (fun j3 hj3 h => ?_)
                                refine q_callVNi (As := [.int (M1 35 0 j3)]) (nA := 1) C0 hw at_Mod rfl (fun r1 h1 => ctX6_tells hst h1) gX6_of_X6_tells rfl ⟨rfl, rfl⟩ (by decide +kernel) rfl ⟨(Nat.le_of_ble_eq_true rfl), (Nat.le_of_ble_eq_true rfl)⟩ hl.1 (Nat.le_of_ble_eq_true rfl) ⟨(Nat.le_of_ble_eq_true rfl), (Nat.le_of_ble_eq_true rfl)⟩ rfl h dX6_of_111 (fun M4 z5 H locs hw h => ?_)
                                exact q_iretN C0 hw h ⟨(Nat.le_of_ble_eq_true rfl), (Nat.le_of_ble_eq_true rfl)⟩ dX6_of_114
                              · skip
                                refine q_if (P := a1 = (113 : Int32)) h (fun e14 h => ?_) (fun n14 h => ?_)
                                · refine lv_tableIn (off := 165) (tgt := 180) hx hb dX6_of_15 (by rw [e14]; decide) (by rw [e14]; decide) (by rw [e14]; decide) (by decide) ?_
                                  refine lv_aload_n hx hb dX6_of_180 rfl (lv_at hl 0 rfl) ?_
                                  refine lv_iconst (v := 2) hx hb dX6_of_181 (by decide) ?_
                                  refine q_callVNi (As := [.int ((2 : Int32))]) (nA := 1) C0 hw at_Mod rfl (fun r1 h1 => ctX6_fails hst h1) gX6_of_X6_fails rfl ⟨rfl, rfl⟩ (by decide +kernel) rfl ⟨(Nat.le_of_ble_eq_true rfl), (Nat.le_of_ble_eq_true rfl)⟩ hl.1 (Nat.le_of_ble_eq_true rfl) ⟨(Nat.le_of_ble_eq_true rfl), (Nat.le_of_ble_eq_true rfl)⟩ rfl h dX6_of_182 (fun M3 z4 H locs hw h => ?_)
                                  exact q_iretN C0 hw h ⟨(Nat.le_of_ble_eq_true rfl), (Nat.le_of_ble_eq_true rfl)⟩ dX6_of_185
                                · skip
                                  refine q_if (P := a1 = (114 : Int32)) h (fun e15 h => ?_) (fun n15 h => ?_)
                                  · refine lv_tableIn (off := 165) (tgt := 180) hx hb dX6_of_15 (by rw [e15]; decide) (by rw [e15]; decide) (by rw [e15]; decide) (by decide) ?_
                                    refine lv_aload_n hx hb dX6_of_180 rfl (lv_at hl 0 rfl) ?_
                                    refine lv_iconst (v := 2) hx hb dX6_of_181 (by decide) ?_
                                    refine q_callVNi (As := [.int ((2 : Int32))]) (nA := 1) C0 hw at_Mod rfl (fun r1 h1 => ctX6_fails hst h1) gX6_of_X6_fails rfl ⟨rfl, rfl⟩ (by decide +kernel) rfl ⟨(Nat.le_of_ble_eq_true rfl), (Nat.le_of_ble_eq_true rfl)⟩ hl.1 (Nat.le_of_ble_eq_true rfl) ⟨(Nat.le_of_ble_eq_true rfl), (Nat.le_of_ble_eq_true rfl)⟩ rfl h dX6_of_182 (fun M3 z4 H locs hw h => ?_)
                                    exact q_iretN C0 hw h ⟨(Nat.le_of_ble_eq_true rfl), (Nat.le_of_ble_eq_true rfl)⟩ dX6_of_185
                                  · skip
                                    refine q_if (P := a1 = (115 : Int32)) h (fun e16 h => ?_) (fun n16 h => ?_)
                                    · refine lv_tableIn (off := 100) (tgt := 115) hx hb dX6_of_15 (by rw [e16]; decide) (by rw [e16]; decide) (by rw [e16]; decide) (by decide) ?_
                                      refine lv_aload_n hx hb dX6_of_115 rfl (lv_at hl 0 rfl) ?_
                                      refine lv_aload_n hx hb dX6_of_116 rfl (lv_at hl 0 rfl) ?_
                                      refine gf_Mod_saved C0 hw (fun _ h9 => List.mem_cons_of_mem _ (List.mem_append_left _ (List.mem_append_right _ h9))) (List.mem_of_getElem? (i := 2) rfl) dX6_of_117 ?_
                                      refine lv_iload_n hx hb dX6_of_120 rfl (lv_at hl 1 rfl) ?_
                                      refine q_iald C0 hw at_m36 h dX6_of_121 (fun j3 hj3 h => ?_)
                                      refine q_callVNi (As := [.int (M1 36 0 j3)]) (nA := 1) C0 hw at_Mod rfl (fun r1 h1 => ctX6_tells hst h1) gX6_of_X6_tells rfl ⟨rfl, rfl⟩ (by decide +kernel) rfl ⟨(Nat.le_of_ble_eq_true rfl), (Nat.le_of_ble_eq_true rfl)⟩ hl.1 (Nat.le_of_ble_eq_true rfl) ⟨(Nat.le_of_ble_eq_true rfl), (Nat.le_of_ble_eq_true rfl)⟩ rfl h dX6_of_122 (fun M4 z5 H locs hw h => ?_)
                                      exact q_iretN C0 hw h ⟨(Nat.le_of_ble_eq_true rfl), (Nat.le_of_ble_eq_true rfl)⟩ dX6_of_125
                                    · skip
                                      refine q_if (P := a1 = (116 : Int32)) h (fun e17 h => ?_) (fun n17 h => ?_)
                                      · refine lv_tableIn (off := 165) (tgt := 180) hx hb dX6_of_15 (by rw [e17]; decide) (by rw [e17]; decide) (by rw [e17]; decide) (by decide) ?_
                                        refine lv_aload_n hx hb dX6_of_180 rfl (lv_at hl 0 rfl) ?_
                                        refine lv_iconst (v := 2) hx hb dX6_of_181 (by decide) ?_
                                        refine q_callVNi (As := [.int ((2 : Int32))]) (nA := 1) C0 hw at_Mod rfl (fun r1 h1 => ctX6_fails hst h1) gX6_of_X6_fails rfl ⟨rfl, rfl⟩ (by decide +kernel) rfl ⟨(Nat.le_of_ble_eq_true rfl), (Nat.le_of_ble_eq_true rfl)⟩ hl.1 (Nat.le_of_ble_eq_true rfl) ⟨(Nat.le_of_ble_eq_true rfl), (Nat.le_of_ble_eq_true rfl)⟩ rfl h dX6_of_182 (fun M3 z4 H locs hw h => ?_)
                                        exact q_iretN C0 hw h ⟨(Nat.le_of_ble_eq_true rfl), (Nat.le_of_ble_eq_true rfl)⟩ dX6_of_185
                                      · skip
                                        refine q_if (P := a1 = (117 : Int32)) h (fun e18 h => ?_) (fun n18 h => ?_)
                                        · refine lv_tableIn (off := 143) (tgt := 158) hx hb dX6_of_15 (by rw [e18]; decide) (by rw [e18]; decide) (by rw [e18]; decide) (by decide) ?_
                                          refine lv_aload_n hx hb dX6_of_158 rfl (lv_at hl 0 rfl) ?_
                                          refine lv_aload_n hx hb dX6_of_159 rfl (lv_at hl 0 rfl) ?_
                                          refine gf_Mod_shingleCounts C0 hw (fun _ h9 => List.mem_cons_of_mem _ (List.mem_append_left _ (List.mem_append_right _ h9))) (List.mem_of_getElem? (i := 5) rfl) dX6_of_160 ?_
                                          refine lv_iload_n hx hb dX6_of_163 rfl (lv_at hl 1 rfl) ?_
                                          refine q_iald C0 hw at_m44 h dX6_of_164 (fun j3 hj3 h => ?_)
                                          refine q_callVNi (As := [.int (M1 44 0 j3)]) (nA := 1) C0 hw at_Mod rfl (fun r1 h1 => ctX6_tells hst h1) gX6_of_X6_tells rfl ⟨rfl, rfl⟩ (by decide +kernel) rfl ⟨(Nat.le_of_ble_eq_true rfl), (Nat.le_of_ble_eq_true rfl)⟩ hl.1 (Nat.le_of_ble_eq_true rfl) ⟨(Nat.le_of_ble_eq_true rfl), (Nat.le_of_ble_eq_true rfl)⟩ rfl h dX6_of_165 (fun M4 z5 H locs hw h => ?_)
                                          exact q_iretN C0 hw h ⟨(Nat.le_of_ble_eq_true rfl), (Nat.le_of_ble_eq_true rfl)⟩ dX6_of_168
                                        · skip
                                          refine lv_tableOut (tgt := 180) hx hb dX6_of_15 (by have t0 : ¬ Int32.toInt a1 = 99 := lv_neT n0 (by decide); have t1 : ¬ Int32.toInt a1 = 100 := lv_neT n1 (by decide); have t2 : ¬ Int32.toInt a1 = 101 := lv_neT n2 (by decide); have t3 : ¬ Int32.toInt a1 = 102 := lv_neT n3 (by decide); have t4 : ¬ Int32.toInt a1 = 103 := lv_neT n4 (by decide); have t5 : ¬ Int32.toInt a1 = 104 := lv_neT n5 (by decide); have t6 : ¬ Int32.toInt a1 = 105 := lv_neT n6 (by decide); have t7 : ¬ Int32.toInt a1 = 106 := lv_neT n7 (by decide); have t8 : ¬ Int32.toInt a1 = 107 := lv_neT n8 (by decide); have t9 : ¬ Int32.toInt a1 = 108 := lv_neT n9 (by decide); have t10 : ¬ Int32.toInt a1 = 109 := lv_neT n10 (by decide); have t11 : ¬ Int32.toInt a1 = 110 := lv_neT n11 (by decide); have t12 : ¬ Int32.toInt a1 = 111 := lv_neT n12 (by decide); have t13 : ¬ Int32.toInt a1 = 112 := lv_neT n13 (by decide); have t14 : ¬ Int32.toInt a1 = 113 := lv_neT n14 (by decide); have t15 : ¬ Int32.toInt a1 = 114 := lv_neT n15 (by decide); have t16 : ¬ Int32.toInt a1 = 115 := lv_neT n16 (by decide); have t17 : ¬ Int32.toInt a1 = 116 := lv_neT n17 (by decide); have t18 : ¬ Int32.toInt a1 = 117 := lv_neT n18 (by decide); omega) (by decide) ?_
                                          refine lv_aload_n hx hb dX6_of_180 rfl (lv_at hl 0 rfl) ?_
                                          refine lv_iconst (v := 2) hx hb dX6_of_181 (by decide) ?_
                                          refine q_callVNi (As := [.int ((2 : Int32))]) (nA := 1) C0 hw at_Mod rfl (fun r1 h1 => ctX6_fails hst h1) gX6_of_X6_fails rfl ⟨rfl, rfl⟩ (by decide +kernel) rfl ⟨(Nat.le_of_ble_eq_true rfl), (Nat.le_of_ble_eq_true rfl)⟩ hl.1 (Nat.le_of_ble_eq_true rfl) ⟨(Nat.le_of_ble_eq_true rfl), (Nat.le_of_ble_eq_true rfl)⟩ rfl h dX6_of_182 (fun M3 z4 H locs hw h => ?_)
                                          exact q_iretN C0 hw h ⟨(Nat.le_of_ble_eq_true rfl), (Nat.le_of_ble_eq_true rfl)⟩ dX6_of_185
  · refine lv_aload_n hx hb dX6_of_8 rfl (lv_at hl 0 rfl) ?_
    refine lv_iconst (v := 1) hx hb dX6_of_9 (by decide) ?_
    refine q_callVNi (As := [.int ((1 : Int32))]) (nA := 1) C0 hw at_Mod rfl (fun r1 h1 => ctX6_fails hst h1) gX6_of_X6_fails rfl ⟨rfl, rfl⟩ (by decide +kernel) rfl ⟨(Nat.le_of_ble_eq_true rfl), (Nat.le_of_ble_eq_true rfl)⟩ hl.1 (Nat.le_of_ble_eq_true rfl) ⟨(Nat.le_of_ble_eq_true rfl), (Nat.le_of_ble_eq_true rfl)⟩ rfl h dX6_of_10 (fun M3 z4 H locs hw h => ?_)
    exact q_iretN C0 hw h ⟨(Nat.le_of_ble_eq_true rfl), (Nat.le_of_ble_eq_true rfl)⟩ dX6_of_13
