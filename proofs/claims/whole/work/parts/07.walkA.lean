/-! Homewatcher$Bag.countBelow(I)I -/
abbrev rmX0_countBelow : Room := { frames := 0, cells := 0, slots := 0, locals := 0 }
def fX0_countBelow_38 (F : Nat) (k6 : Mem → Nat → Int32 → Int32 → Int32 → Option (Mem × Int32)) (M : Mem) (v0 : Nat) (v1 : Int32) (v2 : Int32) (v3 : Int32) : Option (Mem × Int32) :=
    q_lt (v3 >>> ((1 : Int32) &&& 31)) fun z1 =>
    k6 M v0 v1 v2 z1
set_option maxHeartbeats 4000000 in
set_option maxRecDepth 100000 in
theorem wX0_countBelow_38 {p : Program} {l : Launch} {e : Env} {s : State} {m : MethodId} {args : Array Value} {below : List Frame} {meth : Method} {c : Code} {D : va_G} {cy : Nat → ClassId} {ad : Nat → Nat} {x : XX} {F : Nat} {r : Mem × Int32} (hst : l.stackTraces = false) (C0 : MX p l s m args meth c D cy ad cX0_countBelow RX0 4 wsX0_countBelow (some .int)) {k6 : Mem → Nat → Int32 → Int32 → Int32 → Option (Mem × Int32)} (hk6 : ∀ (M : Mem) (v0 : Nat) (v1 : Int32) (v2 : Int32) (v3 : Int32) (hv0 : v0 < 63) (H : Heap) (locs : List Loc) (ls : Array Slot), Wd D cy ad x s M H locs → lv_has ls 4 [(0, .ref (ad (cBag v0))), (1, .int v1), (2, .int v2), (3, .int v3)] → k6 M v0 v1 v2 v3 = some r → W p l e rmX0_countBelow s m args below meth c H locs 0 0 (QN D cy ad below args s x q_vi r 0 0) (F0 m 6 ls [])) : ∀ (M : Mem) (v0 : Nat) (v1 : Int32) (v2 : Int32) (v3 : Int32) (hv0 : v0 < 63) (H : Heap) (locs : List Loc) (ls : Array Slot), Wd D cy ad x s M H locs → lv_has ls 4 [(0, .ref (ad (cBag v0))), (1, .int v1), (2, .int v2), (3, .int v3)] → fX0_countBelow_38 F k6 M v0 v1 v2 v3 = some r → W p l e rmX0_countBelow s m args below meth c H locs 0 0 (QN D cy ad below args s x q_vi r 0 0) (F0 m 38 ls []) := by
  obtain ⟨hx, hb, hml, hown, hts, -⟩ := id C0
  intro M v0 v1 v2 v3 hv0 H locs ls hw hl h
  unfold fX0_countBelow_38 at h
  refine lv_iload_n hx hb dX0_countBelow_38 rfl (lv_at hl 3 rfl) ?_
  refine lv_iconst (v := 1) hx hb dX0_countBelow_39 (by decide) ?_
  refine lv_ishr hx hb dX0_countBelow_40 ?_
  refine q_istore_n (lv' := fun z1 => [(3, .int z1), (0, .ref (ad (cBag v0))), (1, .int v1), (2, .int v2)]) hx hb dX0_countBelow_41 rfl hl (by decide) (fun _ => rfl) h (fun z1 ls hl h => ?_)
  refine lv_goto (tgt := 6) hx hb dX0_countBelow_42 (by decide) ?_
  exact hk6 M v0 v1 v2 z1 hv0 _ _ _ hw (lv_sub hl [1, 2, 3, 0] rfl) h
def fX0_countBelow_6 (F : Nat) : Nat → Mem → Nat → Int32 → Int32 → Int32 → Option (Mem × Int32)
  | 0, _, _, _, _, _ => none
  | n + 1, M, v0, v1, v2, v3 =>
    if v3 ≤ (0 : Int32) then
    (some (M, v2))
    else
    (if (M 9 v0 0) < (v2 + v3) then
    (fX0_countBelow_38 F (fX0_countBelow_6 F n) M v0 v1 v2 v3)
    else
    (q_ax ((v2 + v3) - (1 : Int32)) (bl v0) fun j1 =>
    if v1 ≤ (M 23 v0 j1) then
    (fX0_countBelow_38 F (fX0_countBelow_6 F n) M v0 v1 v2 v3)
    else
    (q_lt (v2 + v3) fun z2 =>
    fX0_countBelow_38 F (fX0_countBelow_6 F n) M v0 v1 z2 v3)))
set_option maxHeartbeats 4000000 in
set_option maxRecDepth 100000 in
theorem wX0_countBelow_6 {p : Program} {l : Launch} {e : Env} {s : State} {m : MethodId} {args : Array Value} {below : List Frame} {meth : Method} {c : Code} {D : va_G} {cy : Nat → ClassId} {ad : Nat → Nat} {x : XX} {F : Nat} {r : Mem × Int32} (hst : l.stackTraces = false) (C0 : MX p l s m args meth c D cy ad cX0_countBelow RX0 4 wsX0_countBelow (some .int)) : ∀ (n : Nat) (M : Mem) (v0 : Nat) (v1 : Int32) (v2 : Int32) (v3 : Int32) (hv0 : v0 < 63) (H : Heap) (locs : List Loc) (ls : Array Slot), Wd D cy ad x s M H locs → lv_has ls 4 [(0, .ref (ad (cBag v0))), (1, .int v1), (2, .int v2), (3, .int v3)] → fX0_countBelow_6 F n M v0 v1 v2 v3 = some r → W p l e rmX0_countBelow s m args below meth c H locs 0 0 (QN D cy ad below args s x q_vi r 0 0) (F0 m 6 ls []) := by
  obtain ⟨hx, hb, hml, hown, hts, -⟩ := id C0
  intro n
  induction n with
  | zero =>
    intro M v0 v1 v2 v3 hv0 H locs ls hw hl h
    exact q_no h
  | succ n ih =>
    intro M v0 v1 v2 v3 hv0 H locs ls hw hl h
    unfold fX0_countBelow_6 at h
    refine lv_iload_n hx hb dX0_countBelow_6 rfl (lv_at hl 3 rfl) ?_
    refine q_if_le (tgt := 45) hx hb dX0_countBelow_7 (by decide) h (fun h => ?_) (fun h => ?_)
    · refine lv_iload_n hx hb dX0_countBelow_45 rfl (lv_at hl 2 rfl) ?_
      exact q_iretN C0 hw h ⟨(Nat.le_of_ble_eq_true rfl), (Nat.le_of_ble_eq_true rfl)⟩ dX0_countBelow_46
    · refine lv_iload_n hx hb dX0_countBelow_10 rfl (lv_at hl 2 rfl) ?_
      refine lv_iload_n hx hb dX0_countBelow_11 rfl (lv_at hl 3 rfl) ?_
      refine lv_iadd hx hb dX0_countBelow_12 ?_
      refine lv_aload_n hx hb dX0_countBelow_13 rfl (lv_at hl 0 rfl) ?_
      refine gf_Bag_size C0 hw hv0 (fun _ h9 => List.mem_cons_of_mem _ (List.mem_append_left _ (List.mem_append_right _ h9))) (List.mem_of_getElem? (i := 1) rfl) dX0_countBelow_14 ?_
      refine q_icmp_gt (tgt := 38) hx hb dX0_countBelow_17 (by decide) h (fun h => ?_) (fun h => ?_)
      · exact wX0_countBelow_38 hst C0 ih M v0 v1 v2 v3 hv0 _ _ _ hw (lv_sub hl [0, 1, 2, 3] rfl) h
      · refine lv_aload_n hx hb dX0_countBelow_20 rfl (lv_at hl 0 rfl) ?_
        refine gf_Bag_keys C0 hw hv0 (fun _ h9 => List.mem_cons_of_mem _ (List.mem_append_left _ (List.mem_append_right _ h9))) (List.mem_of_getElem? (i := 2) rfl) dX0_countBelow_21 ?_
        refine lv_iload_n hx hb dX0_countBelow_24 rfl (lv_at hl 2 rfl) ?_
        refine lv_iload_n hx hb dX0_countBelow_25 rfl (lv_at hl 3 rfl) ?_
        refine lv_iadd hx hb dX0_countBelow_26 ?_
        refine lv_iconst (v := 1) hx hb dX0_countBelow_27 (by decide) ?_
        refine lv_isub hx hb dX0_countBelow_28 ?_
        refine q_iald C0 hw (at_keys hv0) h dX0_countBelow_29 (fun j1 hj1 h => ?_)
        refine lv_iload_n hx hb dX0_countBelow_30 rfl (lv_at hl 1 rfl) ?_
        refine q_icmp_ge (tgt := 38) hx hb dX0_countBelow_31 (by decide) h (fun h => ?_) (fun h => ?_)
        · exact wX0_countBelow_38 hst C0 ih M v0 v1 v2 v3 hv0 _ _ _ hw (lv_sub hl [0, 1, 2, 3] rfl) h
        · refine lv_iload_n hx hb dX0_countBelow_34 rfl (lv_at hl 2 rfl) ?_
          refine lv_iload_n hx hb dX0_countBelow_35 rfl (lv_at hl 3 rfl) ?_
          refine lv_iadd hx hb dX0_countBelow_36 ?_
          refine q_istore_n (lv' := fun z2 => [(2, .int z2), (0, .ref (ad (cBag v0))), (1, .int v1), (3, .int v3)]) hx hb dX0_countBelow_37 rfl hl (by decide) (fun _ => rfl) h (fun z2 ls hl h => ?_)
          exact wX0_countBelow_38 hst C0 ih M v0 v1 z2 v3 hv0 _ _ _ hw (lv_sub hl [1, 2, 0, 3] rfl) h
def fX0_countBelow (F : Nat) (M : Mem) (j0 : Nat) (a0 : Int32) : Option (Mem × Int32) :=
    q_lt ((0 : Int32)) fun z1 =>
    q_lt ((2048 : Int32)) fun z2 =>
    fX0_countBelow_6 F F M j0 a0 z1 z2
set_option maxHeartbeats 4000000 in
set_option maxRecDepth 100000 in
theorem ctX0_countBelow {l : Launch} (hst : l.stackTraces = false) {D : va_G} {cy : Nat → ClassId} {ad : Nat → Nat} {x : XX} {F : Nat} {M : Mem} {j0 : Nat} {a0 : Int32} (hj0 : j0 < 63) {r : Mem × Int32} (h : fX0_countBelow F M j0 a0 = some r) : CN l yX0_countBelow wsX0_countBelow rmX0_countBelow D cy ad [.ref (ad (cBag j0)), .int a0] x M x r.1 (q_vi r.2) 0 0 := by
  refine q_startN (cc := cX0_countBelow) (maxL := 4) (ret := (some .int)) (by decide) rfl (Nat.le_of_ble_eq_true rfl) ?_
  intro p e s m args below meth c ls C0 hw hl hnm
  obtain ⟨hx, hb, hml, hown, hts, -⟩ := id C0
  have C0 : MX p l s m args meth c D cy ad cX0_countBelow RX0 4 wsX0_countBelow ((some .int)) := C0
  have hown : s.vm.findClass RX0 = some m.cls := hown
  have hl : lv_has ls 4 [(0, .ref (ad (cBag j0))), (1, .int a0)] := hl
  show W p l e rmX0_countBelow s m args below meth c s.heap [] 0 0 (QN D cy ad below args s x q_vi r 0 0) (F0 m 0 ls [])
  unfold fX0_countBelow at h
  refine lv_iconst (v := 0) hx hb dX0_countBelow_0 (by decide) ?_
  refine q_istore_n (lv' := fun z1 => [(2, .int z1), (0, .ref (ad (cBag j0))), (1, .int a0)]) hx hb dX0_countBelow_1 rfl hl (by decide) (fun _ => rfl) h (fun z1 ls hl h => ?_)
  refine lv_sipush (v := 2048) hx hb dX0_countBelow_2 (by decide) ?_
  refine q_istore_n (lv' := fun z2 => [(3, .int z2), (2, .int z1), (0, .ref (ad (cBag j0))), (1, .int a0)]) hx hb dX0_countBelow_5 rfl hl (by decide) (fun _ => rfl) h (fun z2 ls hl h => ?_)
  exact wX0_countBelow_6 hst C0  F M j0 a0 z1 z2 hj0 _ _ _ hw (lv_sub hl [2, 3, 1, 0] rfl) h
/-! Homewatcher$Bag.countOf(I)I -/
abbrev rmX0_countOf : Room := { frames := 1, cells := 0, slots := 0, locals := 23 }
def fX0_countOf_34 (F : Nat) (M : Mem) (s0 : Int32) : Option (Mem × Int32) :=
    some (M, s0)
set_option maxHeartbeats 4000000 in
set_option maxRecDepth 100000 in
theorem wX0_countOf_34 {p : Program} {l : Launch} {e : Env} {s : State} {m : MethodId} {args : Array Value} {below : List Frame} {meth : Method} {c : Code} {D : va_G} {cy : Nat → ClassId} {ad : Nat → Nat} {x : XX} {F : Nat} {r : Mem × Int32} (hst : l.stackTraces = false) (C0 : MX p l s m args meth c D cy ad cX0_countOf RX0 3 wsX0_countOf (some .int)) : ∀ (M : Mem) (s0 : Int32) (H : Heap) (locs : List Loc) (ls : Array Slot), Wd D cy ad x s M H locs → lv_has ls 3 [] → fX0_countOf_34 F M s0 = some r → W p l e rmX0_countOf s m args below meth c H locs 0 0 (QN D cy ad below args s x q_vi r 0 0) (F0 m 34 ls [.int s0]) := by
  obtain ⟨hx, hb, hml, hown, hts, -⟩ := id C0
  intro M s0 H locs ls hw hl h
  unfold fX0_countOf_34 at h
  exact q_iretN C0 hw h ⟨(Nat.le_of_ble_eq_true rfl), (Nat.le_of_ble_eq_true rfl)⟩ dX0_countOf_34
def fX0_countOf_33 (F : Nat) (M : Mem) : Option (Mem × Int32) :=
    fX0_countOf_34 F M (0 : Int32)
set_option maxHeartbeats 4000000 in
set_option maxRecDepth 100000 in
theorem wX0_countOf_33 {p : Program} {l : Launch} {e : Env} {s : State} {m : MethodId} {args : Array Value} {below : List Frame} {meth : Method} {c : Code} {D : va_G} {cy : Nat → ClassId} {ad : Nat → Nat} {x : XX} {F : Nat} {r : Mem × Int32} (hst : l.stackTraces = false) (C0 : MX p l s m args meth c D cy ad cX0_countOf RX0 3 wsX0_countOf (some .int)) : ∀ (M : Mem) (H : Heap) (locs : List Loc) (ls : Array Slot), Wd D cy ad x s M H locs → lv_has ls 3 [] → fX0_countOf_33 F M = some r → W p l e rmX0_countOf s m args below meth c H locs 0 0 (QN D cy ad below args s x q_vi r 0 0) (F0 m 33 ls []) := by
  obtain ⟨hx, hb, hml, hown, hts, -⟩ := id C0
  intro M H locs ls hw hl h
  unfold fX0_countOf_33 at h
  refine lv_iconst (v := 0) hx hb dX0_countOf_33 (by decide) ?_
  exact wX0_countOf_34 hst C0  M (0 : Int32) _ _ _ hw (lv_sub hl [] rfl) h
def fX0_countOf (F : Nat) (M : Mem) (j0 : Nat) (a0 : Int32) : Option (Mem × Int32) :=
    q_bn (fX0_countBelow F M j0 a0) fun M1 z2 =>
    q_lt (z2) fun z3 =>
    if (M1 9 j0 0) ≤ z3 then
    (fX0_countOf_33 F M1)
    else
    (q_ax z3 (bl j0) fun j4 =>
    if (M1 23 j0 j4) = a0 then
    (q_ax z3 (bl j0) fun j5 =>
    fX0_countOf_34 F M1 (M1 24 j0 j5))
    else
    (fX0_countOf_33 F M1))
set_option maxHeartbeats 4000000 in
set_option maxRecDepth 100000 in
theorem ctX0_countOf {l : Launch} (hst : l.stackTraces = false) {D : va_G} {cy : Nat → ClassId} {ad : Nat → Nat} {x : XX} {F : Nat} {M : Mem} {j0 : Nat} {a0 : Int32} (hj0 : j0 < 63) {r : Mem × Int32} (h : fX0_countOf F M j0 a0 = some r) : CN l yX0_countOf wsX0_countOf rmX0_countOf D cy ad [.ref (ad (cBag j0)), .int a0] x M x r.1 (q_vi r.2) 0 0 := by
  refine q_startN (cc := cX0_countOf) (maxL := 3) (ret := (some .int)) (by decide) rfl (Nat.le_of_ble_eq_true rfl) ?_
  intro p e s m args below meth c ls C0 hw hl hnm
  obtain ⟨hx, hb, hml, hown, hts, -⟩ := id C0
  have C0 : MX p l s m args meth c D cy ad cX0_countOf RX0 3 wsX0_countOf ((some .int)) := C0
  have hown : s.vm.findClass RX0 = some m.cls := hown
  have hl : lv_has ls 3 [(0, .ref (ad (cBag j0))), (1, .int a0)] := hl
  show W p l e rmX0_countOf s m args below meth c s.heap [] 0 0 (QN D cy ad below args s x q_vi r 0 0) (F0 m 0 ls [])
  unfold fX0_countOf at h
  refine lv_aload_n hx hb dX0_countOf_0 rfl (lv_at hl 0 rfl) ?_
  refine lv_iload_n hx hb dX0_countOf_1 rfl (lv_at hl 1 rfl) ?_
  refine q_callVNi (As := [.int a0]) (nA := 1) C0 hw (at_Bag hj0) rfl (fun r1 h1 => ctX0_countBelow hst hj0 h1) gX0_countOf_X0_countBelow rfl ⟨rfl, rfl⟩ (by decide +kernel) rfl ⟨(Nat.le_of_ble_eq_true rfl), (Nat.le_of_ble_eq_true rfl)⟩ hl.1 (Nat.le_of_ble_eq_true rfl) ⟨(Nat.le_of_ble_eq_true rfl), (Nat.le_of_ble_eq_true rfl)⟩ rfl h dX0_countOf_2 (fun M1 z2 H locs hw h => ?_)
  refine q_istore_n (lv' := fun z3 => [(2, .int z3), (0, .ref (ad (cBag j0))), (1, .int a0)]) hx hb dX0_countOf_5 rfl hl (by decide) (fun _ => rfl) h (fun z3 ls hl h => ?_)
  refine lv_iload_n hx hb dX0_countOf_6 rfl (lv_at hl 0 rfl) ?_
  refine lv_aload_n hx hb dX0_countOf_7 rfl (lv_at hl 1 rfl) ?_
  refine gf_Bag_size C0 hw hj0 (fun _ h9 => List.mem_cons_of_mem _ (List.mem_append_left _ (List.mem_append_right _ h9))) (List.mem_of_getElem? (i := 1) rfl) dX0_countOf_8 ?_
  refine q_icmp_ge (tgt := 33) hx hb dX0_countOf_11 (by decide) h (fun h => ?_) (fun h => ?_)
  · exact wX0_countOf_33 hst C0  M1 _ _ _ hw (lv_sub hl [] rfl) h
  · refine lv_aload_n hx hb dX0_countOf_14 rfl (lv_at hl 1 rfl) ?_
    refine gf_Bag_keys C0 hw hj0 (fun _ h9 => List.mem_cons_of_mem _ (List.mem_append_left _ (List.mem_append_right _ h9))) (List.mem_of_getElem? (i := 2) rfl) dX0_countOf_15 ?_
    refine lv_iload_n hx hb dX0_countOf_18 rfl (lv_at hl 0 rfl) ?_
    refine q_iald C0 hw (at_keys hj0) h dX0_countOf_19 (fun j4 hj4 h => ?_)
    refine lv_iload_n hx hb dX0_countOf_20 rfl (lv_at hl 2 rfl) ?_
    refine q_icmp_ne (tgt := 33) hx hb dX0_countOf_21 (by decide) h (fun h => ?_) (fun h => ?_)
    · exact wX0_countOf_33 hst C0  M1 _ _ _ hw (lv_sub hl [] rfl) h
    · refine lv_aload_n hx hb dX0_countOf_24 rfl (lv_at hl 1 rfl) ?_
      refine gf_Bag_counts C0 hw hj0 (fun _ h9 => List.mem_cons_of_mem _ (List.mem_append_left _ (List.mem_append_right _ h9))) (List.mem_of_getElem? (i := 3) rfl) dX0_countOf_25 ?_
      refine lv_iload_n hx hb dX0_countOf_28 rfl (lv_at hl 0 rfl) ?_
      refine q_iald C0 hw (at_counts hj0) h dX0_countOf_29 (fun j5 hj5 h => ?_)
      refine lv_goto (tgt := 34) hx hb dX0_countOf_30 (by decide) ?_
      exact wX0_countOf_34 hst C0  M1 (M1 24 j0 j5) _ _ _ hw (lv_sub hl [] rfl) h
/-! Homewatcher$Bag.add(I)V -/
abbrev rmX0_add : Room := { frames := 1, cells := 0, slots := 0, locals := 80 }
def fX0_add_35 (F : Nat) (M : Mem) (v0 : Nat) (v1 : Int32) (v2 : Int32) : Option (Mem × Unit) :=
    if (M 9 v0 0) < (Int32.ofNat (bl v0)) then
    (q_ac v2 (v2 + (1 : Int32)) ((M 9 v0 0) - v2) (bl v0) (bl v0) fun u2 u3 u4 =>
    q_lt (upA M 23 v0 (va_cpy (M 23 v0) (M 23 v0) u2 u3 u4)) fun M1 =>
    q_ac v2 (v2 + (1 : Int32)) ((M1 9 v0 0) - v2) (bl v0) (bl v0) fun u6 u7 u8 =>
    q_lt (upA M1 24 v0 (va_cpy (M1 24 v0) (M1 24 v0) u6 u7 u8)) fun M5 =>
    q_ax v2 (bl v0) fun j9 =>
    q_lt (up M5 23 v0 j9 v1) fun M10 =>
    q_ax v2 (bl v0) fun j11 =>
    q_lt (up M10 24 v0 j11 (1 : Int32)) fun M12 =>
    q_lt (up M12 9 v0 0 ((M12 9 v0 0) + (1 : Int32))) fun M13 =>
    some (M13, ()))
    else
    (some (M, ()))
set_option maxHeartbeats 4000000 in
set_option maxRecDepth 100000 in
theorem wX0_add_35 {p : Program} {l : Launch} {e : Env} {s : State} {m : MethodId} {args : Array Value} {below : List Frame} {meth : Method} {c : Code} {D : va_G} {cy : Nat → ClassId} {ad : Nat → Nat} {x : XX} {F : Nat} {r : Mem × Unit} (hst : l.stackTraces = false) (C0 : MX p l s m args meth c D cy ad cX0_add RX0 3 wsX0_add (none)) : ∀ (M : Mem) (v0 : Nat) (v1 : Int32) (v2 : Int32) (hv0 : v0 < 63) (H : Heap) (locs : List Loc) (ls : Array Slot), Wd D cy ad x s M H locs → lv_has ls 3 [(0, .ref (ad (cBag v0))), (1, .int v1), (2, .int v2)] → fX0_add_35 F M v0 v1 v2 = some r → W p l e rmX0_add s m args below meth c H locs 0 0 (QN D cy ad below args s x q_vv r 0 0) (F0 m 35 ls []) := by
  obtain ⟨hx, hb, hml, hown, hts, -⟩ := id C0
  intro M v0 v1 v2 hv0 H locs ls hw hl h
  unfold fX0_add_35 at h
  refine lv_aload_n hx hb dX0_add_35 rfl (lv_at hl 0 rfl) ?_
  refine gf_Bag_size C0 hw hv0 (fun _ h9 => List.mem_cons_of_mem _ (List.mem_append_left _ (List.mem_append_right _ h9))) (List.mem_of_getElem? (i := 1) rfl) dX0_add_36 ?_
  refine lv_aload_n hx hb dX0_add_39 rfl (lv_at hl 0 rfl) ?_
  refine gf_Bag_keys C0 hw hv0 (fun _ h9 => List.mem_cons_of_mem _ (List.mem_append_left _ (List.mem_append_right _ h9))) (List.mem_of_getElem? (i := 2) rfl) dX0_add_40 ?_
  refine q_alen C0 hw (at_keys hv0) dX0_add_43 ?_
  refine q_icmp_lt (tgt := 48) hx hb dX0_add_44 (by decide) h (fun h => ?_) (fun h => ?_)
  · refine lv_aload_n hx hb dX0_add_48 rfl (lv_at hl 0 rfl) ?_
    refine gf_Bag_keys C0 hw hv0 (fun _ h9 => List.mem_cons_of_mem _ (List.mem_append_left _ (List.mem_append_right _ h9))) (List.mem_of_getElem? (i := 2) rfl) dX0_add_49 ?_
    refine lv_iload_n hx hb dX0_add_52 rfl (lv_at hl 2 rfl) ?_
    refine lv_aload_n hx hb dX0_add_53 rfl (lv_at hl 0 rfl) ?_
    refine gf_Bag_keys C0 hw hv0 (fun _ h9 => List.mem_cons_of_mem _ (List.mem_append_left _ (List.mem_append_right _ h9))) (List.mem_of_getElem? (i := 2) rfl) dX0_add_54 ?_
    refine lv_iload_n hx hb dX0_add_57 rfl (lv_at hl 2 rfl) ?_
    refine lv_iconst (v := 1) hx hb dX0_add_58 (by decide) ?_
    refine lv_iadd hx hb dX0_add_59 ?_
    refine lv_aload_n hx hb dX0_add_60 rfl (lv_at hl 0 rfl) ?_
    refine gf_Bag_size C0 hw hv0 (fun _ h9 => List.mem_cons_of_mem _ (List.mem_append_left _ (List.mem_append_right _ h9))) (List.mem_of_getElem? (i := 1) rfl) dX0_add_61 ?_
    refine lv_iload_n hx hb dX0_add_64 rfl (lv_at hl 2 rfl) ?_
    refine lv_isub hx hb dX0_add_65 ?_
    refine q_acopy (v0 := 23) (v1 := 23) C0 hw hl.1 (at_keys hv0) rfl (fun _ => (at_keys hv0)) (List.forall_mem_cons.mpr ⟨(List.mem_of_getElem? (i := 4) rfl), (List.forall_mem_cons.mpr ⟨(List.mem_of_getElem? (i := 5) rfl), (List.forall_mem_cons.mpr ⟨(List.mem_of_getElem? (i := 6) rfl), (List.forall_mem_cons.mpr ⟨(List.mem_of_getElem? (i := 7) rfl), (fun _ h9 => absurd h9 List.not_mem_nil)⟩)⟩)⟩)⟩) (Nat.le_of_ble_eq_true rfl) (Nat.le_of_ble_eq_true rfl) h dX0_add_66 (fun u2 u3 u4 M1 H locs hw h => ?_)
    refine lv_aload_n hx hb dX0_add_69 rfl (lv_at hl 0 rfl) ?_
    refine gf_Bag_counts C0 hw hv0 (fun _ h9 => List.mem_cons_of_mem _ (List.mem_append_left _ (List.mem_append_right _ h9))) (List.mem_of_getElem? (i := 3) rfl) dX0_add_70 ?_
    refine lv_iload_n hx hb dX0_add_73 rfl (lv_at hl 2 rfl) ?_
    refine lv_aload_n hx hb dX0_add_74 rfl (lv_at hl 0 rfl) ?_
    refine gf_Bag_counts C0 hw hv0 (fun _ h9 => List.mem_cons_of_mem _ (List.mem_append_left _ (List.mem_append_right _ h9))) (List.mem_of_getElem? (i := 3) rfl) dX0_add_75 ?_
    refine lv_iload_n hx hb dX0_add_78 rfl (lv_at hl 2 rfl) ?_
    refine lv_iconst (v := 1) hx hb dX0_add_79 (by decide) ?_
    refine lv_iadd hx hb dX0_add_80 ?_
    refine lv_aload_n hx hb dX0_add_81 rfl (lv_at hl 0 rfl) ?_
    refine gf_Bag_size C0 hw hv0 (fun _ h9 => List.mem_cons_of_mem _ (List.mem_append_left _ (List.mem_append_right _ h9))) (List.mem_of_getElem? (i := 1) rfl) dX0_add_82 ?_
    refine lv_iload_n hx hb dX0_add_85 rfl (lv_at hl 2 rfl) ?_
    refine lv_isub hx hb dX0_add_86 ?_
    refine q_acopy (v0 := 24) (v1 := 24) C0 hw hl.1 (at_counts hv0) rfl (fun _ => (at_counts hv0)) (List.forall_mem_cons.mpr ⟨(List.mem_of_getElem? (i := 4) rfl), (List.forall_mem_cons.mpr ⟨(List.mem_of_getElem? (i := 5) rfl), (List.forall_mem_cons.mpr ⟨(List.mem_of_getElem? (i := 6) rfl), (List.forall_mem_cons.mpr ⟨(List.mem_of_getElem? (i := 7) rfl), (fun _ h9 => absurd h9 List.not_mem_nil)⟩)⟩)⟩)⟩) (Nat.le_of_ble_eq_true rfl) (Nat.le_of_ble_eq_true rfl) h dX0_add_87 (fun u6 u7 u8 M5 H locs hw h => ?_)
    refine lv_aload_n hx hb dX0_add_90 rfl (lv_at hl 0 rfl) ?_
    refine gf_Bag_keys C0 hw hv0 (fun _ h9 => List.mem_cons_of_mem _ (List.mem_append_left _ (List.mem_append_right _ h9))) (List.mem_of_getElem? (i := 2) rfl) dX0_add_91 ?_
    refine lv_iload_n hx hb dX0_add_94 rfl (lv_at hl 2 rfl) ?_
    refine lv_iload_n hx hb dX0_add_95 rfl (lv_at hl 1 rfl) ?_
    refine q_iast (v := 23) C0 hw rfl (fun _ => (at_keys hv0)) h dX0_add_96 (fun j9 M10 H locs hj9 hw h => ?_)
    refine lv_aload_n hx hb dX0_add_97 rfl (lv_at hl 0 rfl) ?_
    refine gf_Bag_counts C0 hw hv0 (fun _ h9 => List.mem_cons_of_mem _ (List.mem_append_left _ (List.mem_append_right _ h9))) (List.mem_of_getElem? (i := 3) rfl) dX0_add_98 ?_
    refine lv_iload_n hx hb dX0_add_101 rfl (lv_at hl 2 rfl) ?_
    refine lv_iconst (v := 1) hx hb dX0_add_102 (by decide) ?_
    refine q_iast (v := 24) C0 hw rfl (fun _ => (at_counts hv0)) h dX0_add_103 (fun j11 M12 H locs hj11 hw h => ?_)
    refine lv_aload_n hx hb dX0_add_104 rfl (lv_at hl 0 rfl) ?_
    refine lv_dup hx hb dX0_add_105 rfl ?_
    refine gf_Bag_size C0 hw hv0 (fun _ h9 => List.mem_cons_of_mem _ (List.mem_append_left _ (List.mem_append_right _ h9))) (List.mem_of_getElem? (i := 1) rfl) dX0_add_106 ?_
    refine lv_iconst (v := 1) hx hb dX0_add_109 (by decide) ?_
    refine lv_iadd hx hb dX0_add_110 ?_
    refine pf_Bag_size C0 hw hv0 (fun _ h9 => List.mem_cons_of_mem _ (List.mem_append_left _ (List.mem_append_right _ h9))) (List.mem_of_getElem? (i := 1) rfl) dX0_add_111 h (fun M13 H locs hw h => ?_)
    exact q_vretN C0 hw h ⟨(Nat.le_of_ble_eq_true rfl), (Nat.le_of_ble_eq_true rfl)⟩ dX0_add_114
  · exact q_vretN C0 hw h ⟨(Nat.le_of_ble_eq_true rfl), (Nat.le_of_ble_eq_true rfl)⟩ dX0_add_47
def fX0_add (F : Nat) (M : Mem) (j0 : Nat) (a0 : Int32) : Option (Mem × Unit) :=
    q_bn (fX0_countBelow F M j0 a0) fun M1 z2 =>
    q_lt (z2) fun z3 =>
    if (M1 9 j0 0) ≤ z3 then
    (fX0_add_35 F M1 j0 a0 z3)
    else
    (q_ax z3 (bl j0) fun j4 =>
    if (M1 23 j0 j4) = a0 then
    (q_ax z3 (bl j0) fun j5 =>
    q_ax z3 (bl j0) fun j6 =>
    q_lt (up M1 24 j0 j6 ((M1 24 j0 j5) + (1 : Int32))) fun M7 =>
    some (M7, ()))
    else
    (fX0_add_35 F M1 j0 a0 z3))
set_option maxHeartbeats 4000000 in
set_option maxRecDepth 100000 in
theorem ctX0_add {l : Launch} (hst : l.stackTraces = false) {D : va_G} {cy : Nat → ClassId} {ad : Nat → Nat} {x : XX} {F : Nat} {M : Mem} {j0 : Nat} {a0 : Int32} (hj0 : j0 < 63) {r : Mem × Unit} (h : fX0_add F M j0 a0 = some r) : CN l yX0_add wsX0_add rmX0_add D cy ad [.ref (ad (cBag j0)), .int a0] x M x r.1 (q_vv r.2) 0 0 := by
  refine q_startN (cc := cX0_add) (maxL := 3) (ret := none) (by decide) rfl (Nat.le_of_ble_eq_true rfl) ?_
  intro p e s m args below meth c ls C0 hw hl hnm
  obtain ⟨hx, hb, hml, hown, hts, -⟩ := id C0
  have C0 : MX p l s m args meth c D cy ad cX0_add RX0 3 wsX0_add (none) := C0
  have hown : s.vm.findClass RX0 = some m.cls := hown
  have hl : lv_has ls 3 [(0, .ref (ad (cBag j0))), (1, .int a0)] := hl
  show W p l e rmX0_add s m args below meth c s.heap [] 0 0 (QN D cy ad below args s x q_vv r 0 0) (F0 m 0 ls [])
  unfold fX0_add at h
  refine lv_aload_n hx hb dX0_add_0 rfl (lv_at hl 0 rfl) ?_
  refine lv_iload_n hx hb dX0_add_1 rfl (lv_at hl 1 rfl) ?_
  refine q_callVNi (As := [.int a0]) (nA := 1) C0 hw (at_Bag hj0) rfl (fun r1 h1 => ctX0_countBelow hst hj0 h1) gX0_add_X0_countBelow rfl ⟨rfl, rfl⟩ (by decide +kernel) rfl ⟨(Nat.le_of_ble_eq_true rfl), (Nat.le_of_ble_eq_true rfl)⟩ hl.1 (Nat.le_of_ble_eq_true rfl) ⟨(Nat.le_of_ble_eq_true rfl), (Nat.le_of_ble_eq_true rfl)⟩ rfl h dX0_add_2 (fun M1 z2 H locs hw h => ?_)
  refine q_istore_n (lv' := fun z3 => [(2, .int z3), (0, .ref (ad (cBag j0))), (1, .int a0)]) hx hb dX0_add_5 rfl hl (by decide) (fun _ => rfl) h (fun z3 ls hl h => ?_)
  refine lv_iload_n hx hb dX0_add_6 rfl (lv_at hl 0 rfl) ?_
  refine lv_aload_n hx hb dX0_add_7 rfl (lv_at hl 1 rfl) ?_
  refine gf_Bag_size C0 hw hj0 (fun _ h9 => List.mem_cons_of_mem _ (List.mem_append_left _ (List.mem_append_right _ h9))) (List.mem_of_getElem? (i := 1) rfl) dX0_add_8 ?_
  refine q_icmp_ge (tgt := 35) hx hb dX0_add_11 (by decide) h (fun h => ?_) (fun h => ?_)
  · exact wX0_add_35 hst C0  M1 j0 a0 z3 hj0 _ _ _ hw (lv_sub hl [1, 2, 0] rfl) h
  · refine lv_aload_n hx hb dX0_add_14 rfl (lv_at hl 1 rfl) ?_
    refine gf_Bag_keys C0 hw hj0 (fun _ h9 => List.mem_cons_of_mem _ (List.mem_append_left _ (List.mem_append_right _ h9))) (List.mem_of_getElem? (i := 2) rfl) dX0_add_15 ?_
    refine lv_iload_n hx hb dX0_add_18 rfl (lv_at hl 0 rfl) ?_
    refine q_iald C0 hw (at_keys hj0) h dX0_add_19 (fun j4 hj4 h => ?_)
    refine lv_iload_n hx hb dX0_add_20 rfl (lv_at hl 2 rfl) ?_
    refine q_icmp_ne (tgt := 35) hx hb dX0_add_21 (by decide) h (fun h => ?_) (fun h => ?_)
    · exact wX0_add_35 hst C0  M1 j0 a0 z3 hj0 _ _ _ hw (lv_sub hl [1, 2, 0] rfl) h
    · refine lv_aload_n hx hb dX0_add_24 rfl (lv_at hl 1 rfl) ?_
      refine gf_Bag_counts C0 hw hj0 (fun _ h9 => List.mem_cons_of_mem _ (List.mem_append_left _ (List.mem_append_right _ h9))) (List.mem_of_getElem? (i := 3) rfl) dX0_add_25 ?_
      refine lv_iload_n hx hb dX0_add_28 rfl (lv_at hl 0 rfl) ?_
      refine lv_dup2_11 hx hb dX0_add_29 rfl rfl ?_
      refine q_iald C0 hw (at_counts hj0) h dX0_add_30 (fun j5 hj5 h => ?_)
      refine lv_iconst (v := 1) hx hb dX0_add_31 (by decide) ?_
      refine lv_iadd hx hb dX0_add_32 ?_
      refine q_iast (v := 24) C0 hw rfl (fun _ => (at_counts hj0)) h dX0_add_33 (fun j6 M7 H locs hj6 hw h => ?_)
      exact q_vretN C0 hw h ⟨(Nat.le_of_ble_eq_true rfl), (Nat.le_of_ble_eq_true rfl)⟩ dX0_add_34
/-! Homewatcher$Bag.drop(I)V -/
abbrev rmX0_drop : Room := { frames := 1, cells := 0, slots := 0, locals := 80 }
def fX0_drop_24 (F : Nat) (M : Mem) : Option (Mem × Unit) :=
    some (M, ())
set_option maxHeartbeats 4000000 in
set_option maxRecDepth 100000 in
theorem wX0_drop_24 {p : Program} {l : Launch} {e : Env} {s : State} {m : MethodId} {args : Array Value} {below : List Frame} {meth : Method} {c : Code} {D : va_G} {cy : Nat → ClassId} {ad : Nat → Nat} {x : XX} {F : Nat} {r : Mem × Unit} (hst : l.stackTraces = false) (C0 : MX p l s m args meth c D cy ad cX0_drop RX0 3 wsX0_drop (none)) : ∀ (M : Mem) (H : Heap) (locs : List Loc) (ls : Array Slot), Wd D cy ad x s M H locs → lv_has ls 3 [] → fX0_drop_24 F M = some r → W p l e rmX0_drop s m args below meth c H locs 0 0 (QN D cy ad below args s x q_vv r 0 0) (F0 m 24 ls []) := by
  obtain ⟨hx, hb, hml, hown, hts, -⟩ := id C0
  intro M H locs ls hw hl h
  unfold fX0_drop_24 at h
  exact q_vretN C0 hw h ⟨(Nat.le_of_ble_eq_true rfl), (Nat.le_of_ble_eq_true rfl)⟩ dX0_drop_24
def fX0_drop_96 (F : Nat) (M : Mem) : Option (Mem × Unit) :=
    some (M, ())
set_option maxHeartbeats 4000000 in
set_option maxRecDepth 100000 in
theorem wX0_drop_96 {p : Program} {l : Launch} {e : Env} {s : State} {m : MethodId} {args : Array Value} {below : List Frame} {meth : Method} {c : Code} {D : va_G} {cy : Nat → ClassId} {ad : Nat → Nat} {x : XX} {F : Nat} {r : Mem × Unit} (hst : l.stackTraces = false) (C0 : MX p l s m args meth c D cy ad cX0_drop RX0 3 wsX0_drop (none)) : ∀ (M : Mem) (H : Heap) (locs : List Loc) (ls : Array Slot), Wd D cy ad x s M H locs → lv_has ls 3 [] → fX0_drop_96 F M = some r → W p l e rmX0_drop s m args below meth c H locs 0 0 (QN D cy ad below args s x q_vv r 0 0) (F0 m 96 ls []) := by
  obtain ⟨hx, hb, hml, hown, hts, -⟩ := id C0
  intro M H locs ls hw hl h
  unfold fX0_drop_96 at h
  exact q_vretN C0 hw h ⟨(Nat.le_of_ble_eq_true rfl), (Nat.le_of_ble_eq_true rfl)⟩ dX0_drop_96
def fX0_drop (F : Nat) (M : Mem) (j0 : Nat) (a0 : Int32) : Option (Mem × Unit) :=
    q_bn (fX0_countBelow F M j0 a0) fun M1 z2 =>
    q_lt (z2) fun z3 =>
    if (M1 9 j0 0) ≤ z3 then
    (fX0_drop_24 F M1)
    else
    (q_ax z3 (bl j0) fun j4 =>
    if (M1 23 j0 j4) = a0 then
    (q_ax z3 (bl j0) fun j5 =>
    q_ax z3 (bl j0) fun j6 =>
    q_lt (up M1 24 j0 j6 ((M1 24 j0 j5) - (1 : Int32))) fun M7 =>
    q_ax z3 (bl j0) fun j8 =>
    if (M7 24 j0 j8) = (0 : Int32) then
    (q_lt (up M7 9 j0 0 ((M7 9 j0 0) - (1 : Int32))) fun M9 =>
    q_ac (z3 + (1 : Int32)) z3 ((M9 9 j0 0) - z3) (bl j0) (bl j0) fun u11 u12 u13 =>
    q_lt (upA M9 23 j0 (va_cpy (M9 23 j0) (M9 23 j0) u11 u12 u13)) fun M10 =>
    q_ac (z3 + (1 : Int32)) z3 ((M10 9 j0 0) - z3) (bl j0) (bl j0) fun u15 u16 u17 =>
    q_lt (upA M10 24 j0 (va_cpy (M10 24 j0) (M10 24 j0) u15 u16 u17)) fun M14 =>
    fX0_drop_96 F M14)
    else
    (fX0_drop_96 F M7))
    else
    (fX0_drop_24 F M1))
set_option maxHeartbeats 4000000 in
set_option maxRecDepth 100000 in
theorem ctX0_drop {l : Launch} (hst : l.stackTraces = false) {D : va_G} {cy : Nat → ClassId} {ad : Nat → Nat} {x : XX} {F : Nat} {M : Mem} {j0 : Nat} {a0 : Int32} (hj0 : j0 < 63) {r : Mem × Unit} (h : fX0_drop F M j0 a0 = some r) : CN l yX0_drop wsX0_drop rmX0_drop D cy ad [.ref (ad (cBag j0)), .int a0] x M x r.1 (q_vv r.2) 0 0 := by
  refine q_startN (cc := cX0_drop) (maxL := 3) (ret := none) (by decide) rfl (Nat.le_of_ble_eq_true rfl) ?_
  intro p e s m args below meth c ls C0 hw hl hnm
  obtain ⟨hx, hb, hml, hown, hts, -⟩ := id C0
  have C0 : MX p l s m args meth c D cy ad cX0_drop RX0 3 wsX0_drop (none) := C0
  have hown : s.vm.findClass RX0 = some m.cls := hown
  have hl : lv_has ls 3 [(0, .ref (ad (cBag j0))), (1, .int a0)] := hl
  show W p l e rmX0_drop s m args below meth c s.heap [] 0 0 (QN D cy ad below args s x q_vv r 0 0) (F0 m 0 ls [])
  unfold fX0_drop at h
  refine lv_aload_n hx hb dX0_drop_0 rfl (lv_at hl 0 rfl) ?_
  refine lv_iload_n hx hb dX0_drop_1 rfl (lv_at hl 1 rfl) ?_
  refine q_callVNi (As := [.int a0]) (nA := 1) C0 hw (at_Bag hj0) rfl (fun r1 h1 => ctX0_countBelow hst hj0 h1) gX0_drop_X0_countBelow rfl ⟨rfl, rfl⟩ (by decide +kernel) rfl ⟨(Nat.le_of_ble_eq_true rfl), (Nat.le_of_ble_eq_true rfl)⟩ hl.1 (Nat.le_of_ble_eq_true rfl) ⟨(Nat.le_of_ble_eq_true rfl), (Nat.le_of_ble_eq_true rfl)⟩ rfl h dX0_drop_2 (fun M1 z2 H locs hw h => ?_)
  refine q_istore_n (lv' := fun z3 => [(2, .int z3), (0, .ref (ad (cBag j0))), (1, .int a0)]) hx hb dX0_drop_5 rfl hl (by decide) (fun _ => rfl) h (fun z3 ls hl h => ?_)
  refine lv_iload_n hx hb dX0_drop_6 rfl (lv_at hl 0 rfl) ?_
  refine lv_aload_n hx hb dX0_drop_7 rfl (lv_at hl 1 rfl) ?_
  refine gf_Bag_size C0 hw hj0 (fun _ h9 => List.mem_cons_of_mem _ (List.mem_append_left _ (List.mem_append_right _ h9))) (List.mem_of_getElem? (i := 1) rfl) dX0_drop_8 ?_
  refine q_icmp_ge (tgt := 24) hx hb dX0_drop_11 (by decide) h (fun h => ?_) (fun h => ?_)
  · exact wX0_drop_24 hst C0  M1 _ _ _ hw (lv_sub hl [] rfl) h
  · refine lv_aload_n hx hb dX0_drop_14 rfl (lv_at hl 1 rfl) ?_
    refine gf_Bag_keys C0 hw hj0 (fun _ h9 => List.mem_cons_of_mem _ (List.mem_append_left _ (List.mem_append_right _ h9))) (List.mem_of_getElem? (i := 2) rfl) dX0_drop_15 ?_
    refine lv_iload_n hx hb dX0_drop_18 rfl (lv_at hl 0 rfl) ?_
    refine q_iald C0 hw (at_keys hj0) h dX0_drop_19 (fun j4 hj4 h => ?_)
    refine lv_iload_n hx hb dX0_drop_20 rfl (lv_at hl 2 rfl) ?_
    refine q_icmp_eq (tgt := 25) hx hb dX0_drop_21 (by decide) h (fun h => ?_) (fun h => ?_)
    · refine lv_aload_n hx hb dX0_drop_25 rfl (lv_at hl 1 rfl) ?_
      refine gf_Bag_counts C0 hw hj0 (fun _ h9 => List.mem_cons_of_mem _ (List.mem_append_left _ (List.mem_append_right _ h9))) (List.mem_of_getElem? (i := 3) rfl) dX0_drop_26 ?_
      refine lv_iload_n hx hb dX0_drop_29 rfl (lv_at hl 0 rfl) ?_
      refine lv_dup2_11 hx hb dX0_drop_30 rfl rfl ?_
      refine q_iald C0 hw (at_counts hj0) h dX0_drop_31 (fun j5 hj5 h => ?_)
      refine lv_iconst (v := 1) hx hb dX0_drop_32 (by decide) ?_
      refine lv_isub hx hb dX0_drop_33 ?_
      refine q_iast (v := 24) C0 hw rfl (fun _ => (at_counts hj0)) h dX0_drop_34 (fun j6 M7 H locs hj6 hw h => ?_)
      refine lv_aload_n hx hb dX0_drop_35 rfl (lv_at hl 1 rfl) ?_
      refine gf_Bag_counts C0 hw hj0 (fun _ h9 => List.mem_cons_of_mem _ (List.mem_append_left _ (List.mem_append_right _ h9))) (List.mem_of_getElem? (i := 3) rfl) dX0_drop_36 ?_
      refine lv_iload_n hx hb dX0_drop_39 rfl (lv_at hl 0 rfl) ?_
      refine q_iald C0 hw (at_counts hj0) h dX0_drop_40 (fun j8 hj8 h => ?_)
      refine q_if_ne (tgt := 96) hx hb dX0_drop_41 (by decide) h (fun h => ?_) (fun h => ?_)
      · exact wX0_drop_96 hst C0  M7 _ _ _ hw (lv_sub hl [] rfl) h
      · refine lv_aload_n hx hb dX0_drop_44 rfl (lv_at hl 1 rfl) ?_
        refine lv_dup hx hb dX0_drop_45 rfl ?_
        refine gf_Bag_size C0 hw hj0 (fun _ h9 => List.mem_cons_of_mem _ (List.mem_append_left _ (List.mem_append_right _ h9))) (List.mem_of_getElem? (i := 1) rfl) dX0_drop_46 ?_
        refine lv_iconst (v := 1) hx hb dX0_drop_49 (by decide) ?_
        refine lv_isub hx hb dX0_drop_50 ?_
        refine pf_Bag_size C0 hw hj0 (fun _ h9 => List.mem_cons_of_mem _ (List.mem_append_left _ (List.mem_append_right _ h9))) (List.mem_of_getElem? (i := 1) rfl) dX0_drop_51 h (fun M9 H locs hw h => ?_)
        refine lv_aload_n hx hb dX0_drop_54 rfl (lv_at hl 1 rfl) ?_
        refine gf_Bag_keys C0 hw hj0 (fun _ h9 => List.mem_cons_of_mem _ (List.mem_append_left _ (List.mem_append_right _ h9))) (List.mem_of_getElem? (i := 2) rfl) dX0_drop_55 ?_
        refine lv_iload_n hx hb dX0_drop_58 rfl (lv_at hl 0 rfl) ?_
        refine lv_iconst (v := 1) hx hb dX0_drop_59 (by decide) ?_
        refine lv_iadd hx hb dX0_drop_60 ?_
        refine lv_aload_n hx hb dX0_drop_61 rfl (lv_at hl 1 rfl) ?_
        refine gf_Bag_keys C0 hw hj0 (fun _ h9 => List.mem_cons_of_mem _ (List.mem_append_left _ (List.mem_append_right _ h9))) (List.mem_of_getElem? (i := 2) rfl) dX0_drop_62 ?_
        refine lv_iload_n hx hb dX0_drop_65 rfl (lv_at hl 0 rfl) ?_
        refine lv_aload_n hx hb dX0_drop_66 rfl (lv_at hl 1 rfl) ?_
        refine gf_Bag_size C0 hw hj0 (fun _ h9 => List.mem_cons_of_mem _ (List.mem_append_left _ (List.mem_append_right _ h9))) (List.mem_of_getElem? (i := 1) rfl) dX0_drop_67 ?_
        refine lv_iload_n hx hb dX0_drop_70 rfl (lv_at hl 0 rfl) ?_
        refine lv_isub hx hb dX0_drop_71 ?_
        refine q_acopy (v0 := 23) (v1 := 23) C0 hw hl.1 (at_keys hj0) rfl (fun _ => (at_keys hj0)) (List.forall_mem_cons.mpr ⟨(List.mem_of_getElem? (i := 4) rfl), (List.forall_mem_cons.mpr ⟨(List.mem_of_getElem? (i := 5) rfl), (List.forall_mem_cons.mpr ⟨(List.mem_of_getElem? (i := 6) rfl), (List.forall_mem_cons.mpr ⟨(List.mem_of_getElem? (i := 7) rfl), (fun _ h9 => absurd h9 List.not_mem_nil)⟩)⟩)⟩)⟩) (Nat.le_of_ble_eq_true rfl) (Nat.le_of_ble_eq_true rfl) h dX0_drop_72 (fun u11 u12 u13 M10 H locs hw h => ?_)
        refine lv_aload_n hx hb dX0_drop_75 rfl (lv_at hl 1 rfl) ?_
        refine gf_Bag_counts C0 hw hj0 (fun _ h9 => List.mem_cons_of_mem _ (List.mem_append_left _ (List.mem_append_right _ h9))) (List.mem_of_getElem? (i := 3) rfl) dX0_drop_76 ?_
        refine lv_iload_n hx hb dX0_drop_79 rfl (lv_at hl 0 rfl) ?_
        refine lv_iconst (v := 1) hx hb dX0_drop_80 (by decide) ?_
        refine lv_iadd hx hb dX0_drop_81 ?_
        refine lv_aload_n hx hb dX0_drop_82 rfl (lv_at hl 1 rfl) ?_
        refine gf_Bag_counts C0 hw hj0 (fun _ h9 => List.mem_cons_of_mem _ (List.mem_append_left _ (List.mem_append_right _ h9))) (List.mem_of_getElem? (i := 3) rfl) dX0_drop_83 ?_
        refine lv_iload_n hx hb dX0_drop_86 rfl (lv_at hl 0 rfl) ?_
        refine lv_aload_n hx hb dX0_drop_87 rfl (lv_at hl 1 rfl) ?_
        refine gf_Bag_size C0 hw hj0 (fun _ h9 => List.mem_cons_of_mem _ (List.mem_append_left _ (List.mem_append_right _ h9))) (List.mem_of_getElem? (i := 1) rfl) dX0_drop_88 ?_
        refine lv_iload_n hx hb dX0_drop_91 rfl (lv_at hl 0 rfl) ?_
        refine lv_isub hx hb dX0_drop_92 ?_
        refine q_acopy (v0 := 24) (v1 := 24) C0 hw hl.1 (at_counts hj0) rfl (fun _ => (at_counts hj0)) (List.forall_mem_cons.mpr ⟨(List.mem_of_getElem? (i := 4) rfl), (List.forall_mem_cons.mpr ⟨(List.mem_of_getElem? (i := 5) rfl), (List.forall_mem_cons.mpr ⟨(List.mem_of_getElem? (i := 6) rfl), (List.forall_mem_cons.mpr ⟨(List.mem_of_getElem? (i := 7) rfl), (fun _ h9 => absurd h9 List.not_mem_nil)⟩)⟩)⟩)⟩) (Nat.le_of_ble_eq_true rfl) (Nat.le_of_ble_eq_true rfl) h dX0_drop_93 (fun u15 u16 u17 M14 H locs hw h => ?_)
        exact wX0_drop_96 hst C0  M14 _ _ _ hw (lv_sub hl [] rfl) h
    · exact wX0_drop_24 hst C0  M1 _ _ _ hw (lv_sub hl [] rfl) h
/-! Homewatcher$Bag.addKeysOf(LHomewatcher$Bag;)V -/
abbrev rmX0_addKeysOf : Room := { frames := 2, cells := 0, slots := 0, locals := 102 }
def fX0_addKeysOf_2 (F : Nat) : Nat → Mem → Nat → Nat → Int32 → Option (Mem × Unit)
  | 0, _, _, _, _ => none
  | n + 1, M, v0, v1, v2 =>
    if (M 9 v1 0) ≤ v2 then
    (some (M, ()))
    else
    (q_ax v2 (bl v1) fun j1 =>
    q_bn (fX0_add F M v0 (M 23 v1 j1)) fun M2 _ =>
    q_lt (v2 + (1 : Int32)) fun z4 =>
    fX0_addKeysOf_2 F n M2 v0 v1 z4)
set_option maxHeartbeats 4000000 in
set_option maxRecDepth 100000 in
theorem wX0_addKeysOf_2 {p : Program} {l : Launch} {e : Env} {s : State} {m : MethodId} {args : Array Value} {below : List Frame} {meth : Method} {c : Code} {D : va_G} {cy : Nat → ClassId} {ad : Nat → Nat} {x : XX} {F : Nat} {r : Mem × Unit} (hst : l.stackTraces = false) (C0 : MX p l s m args meth c D cy ad cX0_addKeysOf RX0 3 wsX0_addKeysOf (none)) : ∀ (n : Nat) (M : Mem) (v0 : Nat) (v1 : Nat) (v2 : Int32) (hv0 : v0 < 63) (hv1 : v1 < 63) (H : Heap) (locs : List Loc) (ls : Array Slot), Wd D cy ad x s M H locs → lv_has ls 3 [(0, .ref (ad (cBag v0))), (1, .ref (ad (cBag v1))), (2, .int v2)] → fX0_addKeysOf_2 F n M v0 v1 v2 = some r → W p l e rmX0_addKeysOf s m args below meth c H locs 0 0 (QN D cy ad below args s x q_vv r 0 0) (F0 m 2 ls []) := by
  obtain ⟨hx, hb, hml, hown, hts, -⟩ := id C0
  intro n
  induction n with
  | zero =>
    intro M v0 v1 v2 hv0 hv1 H locs ls hw hl h
    exact q_no h
  | succ n ih =>
    intro M v0 v1 v2 hv0 hv1 H locs ls hw hl h
    unfold fX0_addKeysOf_2 at h
    refine lv_iload_n hx hb dX0_addKeysOf_2 rfl (lv_at hl 2 rfl) ?_
    refine lv_aload_n hx hb dX0_addKeysOf_3 rfl (lv_at hl 1 rfl) ?_
    refine gf_Bag_size C0 hw hv1 (fun _ h9 => List.mem_cons_of_mem _ (List.mem_append_left _ (List.mem_append_right _ h9))) (List.mem_of_getElem? (i := 1) rfl) dX0_addKeysOf_4 ?_
    refine q_icmp_ge (tgt := 26) hx hb dX0_addKeysOf_7 (by decide) h (fun h => ?_) (fun h => ?_)
    · exact q_vretN C0 hw h ⟨(Nat.le_of_ble_eq_true rfl), (Nat.le_of_ble_eq_true rfl)⟩ dX0_addKeysOf_26
    · refine lv_aload_n hx hb dX0_addKeysOf_10 rfl (lv_at hl 0 rfl) ?_
      refine lv_aload_n hx hb dX0_addKeysOf_11 rfl (lv_at hl 1 rfl) ?_
      refine gf_Bag_keys C0 hw hv1 (fun _ h9 => List.mem_cons_of_mem _ (List.mem_append_left _ (List.mem_append_right _ h9))) (List.mem_of_getElem? (i := 2) rfl) dX0_addKeysOf_12 ?_
      refine lv_iload_n hx hb dX0_addKeysOf_15 rfl (lv_at hl 2 rfl) ?_
      refine q_iald C0 hw (at_keys hv1) h dX0_addKeysOf_16 (fun j1 hj1 h => ?_)
      refine q_callVNv (As := [.int (M 23 v1 j1)]) (nA := 1) C0 hw (at_Bag hv0) rfl (fun r1 h1 => ctX0_add hst hv0 h1) gX0_addKeysOf_X0_add rfl ⟨rfl, rfl⟩ (by decide +kernel) rfl ⟨(Nat.le_of_ble_eq_true rfl), (Nat.le_of_ble_eq_true rfl)⟩ hl.1 (Nat.le_of_ble_eq_true rfl) ⟨(Nat.le_of_ble_eq_true rfl), (Nat.le_of_ble_eq_true rfl)⟩ rfl h dX0_addKeysOf_17 (fun M2 H locs hw h => ?_)
      refine q_iinc (k := 2) (cst := 1) (lv' := fun z4 => [(2, .int z4), (0, .ref (ad (cBag v0))), (1, .ref (ad (cBag v1)))]) hx hb dX0_addKeysOf_20 hl rfl rfl (by decide) (fun _ => rfl) h (fun z4 ls hl h => ?_)
      refine lv_goto (tgt := 2) hx hb dX0_addKeysOf_23 (by decide) ?_
      exact ih M2 v0 v1 z4 hv0 hv1 _ _ _ hw (lv_sub hl [1, 2, 0] rfl) h
def fX0_addKeysOf (F : Nat) (M : Mem) (j0 : Nat) (j1 : Nat) : Option (Mem × Unit) :=
    q_lt ((0 : Int32)) fun z1 =>
    fX0_addKeysOf_2 F F M j0 j1 z1
set_option maxHeartbeats 4000000 in
set_option maxRecDepth 100000 in
theorem ctX0_addKeysOf {l : Launch} (hst : l.stackTraces = false) {D : va_G} {cy : Nat → ClassId} {ad : Nat → Nat} {x : XX} {F : Nat} {M : Mem} {j0 : Nat} {j1 : Nat} (hj0 : j0 < 63) (hj1 : j1 < 63) {r : Mem × Unit} (h : fX0_addKeysOf F M j0 j1 = some r) : CN l yX0_addKeysOf wsX0_addKeysOf rmX0_addKeysOf D cy ad [.ref (ad (cBag j0)), .ref (ad (cBag j1))] x M x r.1 (q_vv r.2) 0 0 := by
  refine q_startN (cc := cX0_addKeysOf) (maxL := 3) (ret := none) (by decide) rfl (Nat.le_of_ble_eq_true rfl) ?_
  intro p e s m args below meth c ls C0 hw hl hnm
  obtain ⟨hx, hb, hml, hown, hts, -⟩ := id C0
  have C0 : MX p l s m args meth c D cy ad cX0_addKeysOf RX0 3 wsX0_addKeysOf (none) := C0
  have hown : s.vm.findClass RX0 = some m.cls := hown
  have hl : lv_has ls 3 [(0, .ref (ad (cBag j0))), (1, .ref (ad (cBag j1)))] := hl
  show W p l e rmX0_addKeysOf s m args below meth c s.heap [] 0 0 (QN D cy ad below args s x q_vv r 0 0) (F0 m 0 ls [])
  unfold fX0_addKeysOf at h
  refine lv_iconst (v := 0) hx hb dX0_addKeysOf_0 (by decide) ?_
  refine q_istore_n (lv' := fun z1 => [(2, .int z1), (0, .ref (ad (cBag j0))), (1, .ref (ad (cBag j1)))]) hx hb dX0_addKeysOf_1 rfl hl (by decide) (fun _ => rfl) h (fun z1 ls hl h => ?_)
  exact wX0_addKeysOf_2 hst C0  F M j0 j1 z1 hj0 hj1 _ _ _ hw (lv_sub hl [1, 2, 0] rfl) h
/-! Homewatcher$Bag.dropKeysOf(LHomewatcher$Bag;)V -/
abbrev rmX0_dropKeysOf : Room := { frames := 2, cells := 0, slots := 0, locals := 102 }
def fX0_dropKeysOf_2 (F : Nat) : Nat → Mem → Nat → Nat → Int32 → Option (Mem × Unit)
  | 0, _, _, _, _ => none
  | n + 1, M, v0, v1, v2 =>
    if (M 9 v1 0) ≤ v2 then
    (some (M, ()))
    else
    (q_ax v2 (bl v1) fun j1 =>
    q_bn (fX0_drop F M v0 (M 23 v1 j1)) fun M2 _ =>
    q_lt (v2 + (1 : Int32)) fun z4 =>
    fX0_dropKeysOf_2 F n M2 v0 v1 z4)
set_option maxHeartbeats 4000000 in
set_option maxRecDepth 100000 in
theorem wX0_dropKeysOf_2 {p : Program} {l : Launch} {e : Env} {s : State} {m : MethodId} {args : Array Value} {below : List Frame} {meth : Method} {c : Code} {D : va_G} {cy : Nat → ClassId} {ad : Nat → Nat} {x : XX} {F : Nat} {r : Mem × Unit} (hst : l.stackTraces = false) (C0 : MX p l s m args meth c D cy ad cX0_dropKeysOf RX0 3 wsX0_dropKeysOf (none)) : ∀ (n : Nat) (M : Mem) (v0 : Nat) (v1 : Nat) (v2 : Int32) (hv0 : v0 < 63) (hv1 : v1 < 63) (H : Heap) (locs : List Loc) (ls : Array Slot), Wd D cy ad x s M H locs → lv_has ls 3 [(0, .ref (ad (cBag v0))), (1, .ref (ad (cBag v1))), (2, .int v2)] → fX0_dropKeysOf_2 F n M v0 v1 v2 = some r → W p l e rmX0_dropKeysOf s m args below meth c H locs 0 0 (QN D cy ad below args s x q_vv r 0 0) (F0 m 2 ls []) := by
  obtain ⟨hx, hb, hml, hown, hts, -⟩ := id C0
  intro n
  induction n with
  | zero =>
    intro M v0 v1 v2 hv0 hv1 H locs ls hw hl h
    exact q_no h
  | succ n ih =>
    intro M v0 v1 v2 hv0 hv1 H locs ls hw hl h
    unfold fX0_dropKeysOf_2 at h
    refine lv_iload_n hx hb dX0_dropKeysOf_2 rfl (lv_at hl 2 rfl) ?_
    refine lv_aload_n hx hb dX0_dropKeysOf_3 rfl (lv_at hl 1 rfl) ?_
    refine gf_Bag_size C0 hw hv1 (fun _ h9 => List.mem_cons_of_mem _ (List.mem_append_left _ (List.mem_append_right _ h9))) (List.mem_of_getElem? (i := 1) rfl) dX0_dropKeysOf_4 ?_
    refine q_icmp_ge (tgt := 26) hx hb dX0_dropKeysOf_7 (by decide) h (fun h => ?_) (fun h => ?_)
    · exact q_vretN C0 hw h ⟨(Nat.le_of_ble_eq_true rfl), (Nat.le_of_ble_eq_true rfl)⟩ dX0_dropKeysOf_26
    · refine lv_aload_n hx hb dX0_dropKeysOf_10 rfl (lv_at hl 0 rfl) ?_
      refine lv_aload_n hx hb dX0_dropKeysOf_11 rfl (lv_at hl 1 rfl) ?_
      refine gf_Bag_keys C0 hw hv1 (fun _ h9 => List.mem_cons_of_mem _ (List.mem_append_left _ (List.mem_append_right _ h9))) (List.mem_of_getElem? (i := 2) rfl) dX0_dropKeysOf_12 ?_
      refine lv_iload_n hx hb dX0_dropKeysOf_15 rfl (lv_at hl 2 rfl) ?_
      refine q_iald C0 hw (at_keys hv1) h dX0_dropKeysOf_16 (fun j1 hj1 h => ?_)
      refine q_callVNv (As := [.int (M 23 v1 j1)]) (nA := 1) C0 hw (at_Bag hv0) rfl (fun r1 h1 => ctX0_drop hst hv0 h1) gX0_dropKeysOf_X0_drop rfl ⟨rfl, rfl⟩ (by decide +kernel) rfl ⟨(Nat.le_of_ble_eq_true rfl), (Nat.le_of_ble_eq_true rfl)⟩ hl.1 (Nat.le_of_ble_eq_true rfl) ⟨(Nat.le_of_ble_eq_true rfl), (Nat.le_of_ble_eq_true rfl)⟩ rfl h dX0_dropKeysOf_17 (fun M2 H locs hw h => ?_)
      refine q_iinc (k := 2) (cst := 1) (lv' := fun z4 => [(2, .int z4), (0, .ref (ad (cBag v0))), (1, .ref (ad (cBag v1)))]) hx hb dX0_dropKeysOf_20 hl rfl rfl (by decide) (fun _ => rfl) h (fun z4 ls hl h => ?_)
      refine lv_goto (tgt := 2) hx hb dX0_dropKeysOf_23 (by decide) ?_
      exact ih M2 v0 v1 z4 hv0 hv1 _ _ _ hw (lv_sub hl [1, 2, 0] rfl) h
def fX0_dropKeysOf (F : Nat) (M : Mem) (j0 : Nat) (j1 : Nat) : Option (Mem × Unit) :=
    q_lt ((0 : Int32)) fun z1 =>
    fX0_dropKeysOf_2 F F M j0 j1 z1
set_option maxHeartbeats 4000000 in
set_option maxRecDepth 100000 in
theorem ctX0_dropKeysOf {l : Launch} (hst : l.stackTraces = false) {D : va_G} {cy : Nat → ClassId} {ad : Nat → Nat} {x : XX} {F : Nat} {M : Mem} {j0 : Nat} {j1 : Nat} (hj0 : j0 < 63) (hj1 : j1 < 63) {r : Mem × Unit} (h : fX0_dropKeysOf F M j0 j1 = some r) : CN l yX0_dropKeysOf wsX0_dropKeysOf rmX0_dropKeysOf D cy ad [.ref (ad (cBag j0)), .ref (ad (cBag j1))] x M x r.1 (q_vv r.2) 0 0 := by
  refine q_startN (cc := cX0_dropKeysOf) (maxL := 3) (ret := none) (by decide) rfl (Nat.le_of_ble_eq_true rfl) ?_
  intro p e s m args below meth c ls C0 hw hl hnm
  obtain ⟨hx, hb, hml, hown, hts, -⟩ := id C0
  have C0 : MX p l s m args meth c D cy ad cX0_dropKeysOf RX0 3 wsX0_dropKeysOf (none) := C0
  have hown : s.vm.findClass RX0 = some m.cls := hown
  have hl : lv_has ls 3 [(0, .ref (ad (cBag j0))), (1, .ref (ad (cBag j1)))] := hl
  show W p l e rmX0_dropKeysOf s m args below meth c s.heap [] 0 0 (QN D cy ad below args s x q_vv r 0 0) (F0 m 0 ls [])
  unfold fX0_dropKeysOf at h
  refine lv_iconst (v := 0) hx hb dX0_dropKeysOf_0 (by decide) ?_
  refine q_istore_n (lv' := fun z1 => [(2, .int z1), (0, .ref (ad (cBag j0))), (1, .ref (ad (cBag j1)))]) hx hb dX0_dropKeysOf_1 rfl hl (by decide) (fun _ => rfl) h (fun z1 ls hl h => ?_)
  exact wX0_dropKeysOf_2 hst C0  F M j0 j1 z1 hj0 hj1 _ _ _ hw (lv_sub hl [1, 2, 0] rfl) h
/-! Homewatcher$Bag.countCommon(LHomewatcher$Bag;)I -/
abbrev rmX0_countCommon : Room := { frames := 0, cells := 0, slots := 0, locals := 0 }
def fX0_countCommon_73 (F : Nat) (k7 : Mem → Nat → Nat → Int32 → Int32 → Int32 → Option (Mem × Int32)) (M : Mem) (v0 : Nat) (v1 : Nat) (v2 : Int32) (v3 : Int32) (v4 : Int32) : Option (Mem × Int32) :=
    q_lt (v4 + (1 : Int32)) fun z1 =>
    k7 M v0 v1 v2 v3 z1
set_option maxHeartbeats 4000000 in
set_option maxRecDepth 100000 in
theorem wX0_countCommon_73 {p : Program} {l : Launch} {e : Env} {s : State} {m : MethodId} {args : Array Value} {below : List Frame} {meth : Method} {c : Code} {D : va_G} {cy : Nat → ClassId} {ad : Nat → Nat} {x : XX} {F : Nat} {r : Mem × Int32} (hst : l.stackTraces = false) (C0 : MX p l s m args meth c D cy ad cX0_countCommon RX0 5 wsX0_countCommon (some .int)) {k7 : Mem → Nat → Nat → Int32 → Int32 → Int32 → Option (Mem × Int32)} (hk7 : ∀ (M : Mem) (v0 : Nat) (v1 : Nat) (v2 : Int32) (v3 : Int32) (v4 : Int32) (hv0 : v0 < 63) (hv1 : v1 < 63) (H : Heap) (locs : List Loc) (ls : Array Slot), Wd D cy ad x s M H locs → lv_has ls 5 [(0, .ref (ad (cBag v0))), (1, .ref (ad (cBag v1))), (2, .int v2), (3, .int v3), (4, .int v4)] → k7 M v0 v1 v2 v3 v4 = some r → W p l e rmX0_countCommon s m args below meth c H locs 0 0 (QN D cy ad below args s x q_vi r 0 0) (F0 m 7 ls [])) : ∀ (M : Mem) (v0 : Nat) (v1 : Nat) (v2 : Int32) (v3 : Int32) (v4 : Int32) (hv0 : v0 < 63) (hv1 : v1 < 63) (H : Heap) (locs : List Loc) (ls : Array Slot), Wd D cy ad x s M H locs → lv_has ls 5 [(0, .ref (ad (cBag v0))), (1, .ref (ad (cBag v1))), (2, .int v2), (3, .int v3), (4, .int v4)] → fX0_countCommon_73 F k7 M v0 v1 v2 v3 v4 = some r → W p l e rmX0_countCommon s m args below meth c H locs 0 0 (QN D cy ad below args s x q_vi r 0 0) (F0 m 73 ls []) := by
  obtain ⟨hx, hb, hml, hown, hts, -⟩ := id C0
  intro M v0 v1 v2 v3 v4 hv0 hv1 H locs ls hw hl h
  unfold fX0_countCommon_73 at h
  refine q_iinc (k := 4) (cst := 1) (lv' := fun z1 => [(4, .int z1), (0, .ref (ad (cBag v0))), (1, .ref (ad (cBag v1))), (2, .int v2), (3, .int v3)]) hx hb dX0_countCommon_73 hl rfl rfl (by decide) (fun _ => rfl) h (fun z1 ls hl h => ?_)
  refine lv_goto (tgt := 7) hx hb dX0_countCommon_76 (by decide) ?_
  exact hk7 M v0 v1 v2 v3 z1 hv0 hv1 _ _ _ hw (lv_sub hl [1, 2, 3, 4, 0] rfl) h
def fX0_countCommon_46 (F : Nat) (k7 : Mem → Nat → Nat → Int32 → Int32 → Int32 → Option (Mem × Int32)) (M : Mem) (v0 : Nat) (v1 : Nat) (v2 : Int32) (v3 : Int32) (v4 : Int32) : Option (Mem × Int32) :=
    if (M 9 v1 0) ≤ v3 then
    (fX0_countCommon_73 F k7 M v0 v1 v2 v3 v4)
    else
    (q_ax v3 (bl v1) fun j1 =>
    q_ax v4 (bl v0) fun j2 =>
    if (M 23 v1 j1) = (M 23 v0 j2) then
    (q_lt (v2 + (1 : Int32)) fun z3 =>
    fX0_countCommon_73 F k7 M v0 v1 z3 v3 v4)
    else
    (fX0_countCommon_73 F k7 M v0 v1 v2 v3 v4))
set_option maxHeartbeats 4000000 in
set_option maxRecDepth 100000 in
theorem wX0_countCommon_46 {p : Program} {l : Launch} {e : Env} {s : State} {m : MethodId} {args : Array Value} {below : List Frame} {meth : Method} {c : Code} {D : va_G} {cy : Nat → ClassId} {ad : Nat → Nat} {x : XX} {F : Nat} {r : Mem × Int32} (hst : l.stackTraces = false) (C0 : MX p l s m args meth c D cy ad cX0_countCommon RX0 5 wsX0_countCommon (some .int)) {k7 : Mem → Nat → Nat → Int32 → Int32 → Int32 → Option (Mem × Int32)} (hk7 : ∀ (M : Mem) (v0 : Nat) (v1 : Nat) (v2 : Int32) (v3 : Int32) (v4 : Int32) (hv0 : v0 < 63) (hv1 : v1 < 63) (H : Heap) (locs : List Loc) (ls : Array Slot), Wd D cy ad x s M H locs → lv_has ls 5 [(0, .ref (ad (cBag v0))), (1, .ref (ad (cBag v1))), (2, .int v2), (3, .int v3), (4, .int v4)] → k7 M v0 v1 v2 v3 v4 = some r → W p l e rmX0_countCommon s m args below meth c H locs 0 0 (QN D cy ad below args s x q_vi r 0 0) (F0 m 7 ls [])) : ∀ (M : Mem) (v0 : Nat) (v1 : Nat) (v2 : Int32) (v3 : Int32) (v4 : Int32) (hv0 : v0 < 63) (hv1 : v1 < 63) (H : Heap) (locs : List Loc) (ls : Array Slot), Wd D cy ad x s M H locs → lv_has ls 5 [(0, .ref (ad (cBag v0))), (1, .ref (ad (cBag v1))), (2, .int v2), (3, .int v3), (4, .int v4)] → fX0_countCommon_46 F k7 M v0 v1 v2 v3 v4 = some r → W p l e rmX0_countCommon s m args below meth c H locs 0 0 (QN D cy ad below args s x q_vi r 0 0) (F0 m 46 ls []) := by
  obtain ⟨hx, hb, hml, hown, hts, -⟩ := id C0
  intro M v0 v1 v2 v3 v4 hv0 hv1 H locs ls hw hl h
  unfold fX0_countCommon_46 at h
  refine lv_iload_n hx hb dX0_countCommon_46 rfl (lv_at hl 3 rfl) ?_
  refine lv_aload_n hx hb dX0_countCommon_47 rfl (lv_at hl 1 rfl) ?_
  refine gf_Bag_size C0 hw hv1 (fun _ h9 => List.mem_cons_of_mem _ (List.mem_append_left _ (List.mem_append_right _ h9))) (List.mem_of_getElem? (i := 1) rfl) dX0_countCommon_48 ?_
  refine q_icmp_ge (tgt := 73) hx hb dX0_countCommon_51 (by decide) h (fun h => ?_) (fun h => ?_)
  · exact wX0_countCommon_73 hst C0 hk7 M v0 v1 v2 v3 v4 hv0 hv1 _ _ _ hw (lv_sub hl [0, 1, 2, 3, 4] rfl) h
  · refine lv_aload_n hx hb dX0_countCommon_54 rfl (lv_at hl 1 rfl) ?_
    refine gf_Bag_keys C0 hw hv1 (fun _ h9 => List.mem_cons_of_mem _ (List.mem_append_left _ (List.mem_append_right _ h9))) (List.mem_of_getElem? (i := 2) rfl) dX0_countCommon_55 ?_
    refine lv_iload_n hx hb dX0_countCommon_58 rfl (lv_at hl 3 rfl) ?_
    refine q_iald C0 hw (at_keys hv1) h dX0_countCommon_59 (fun j1 hj1 h => ?_)
    refine lv_aload_n hx hb dX0_countCommon_60 rfl (lv_at hl 0 rfl) ?_
    refine gf_Bag_keys C0 hw hv0 (fun _ h9 => List.mem_cons_of_mem _ (List.mem_append_left _ (List.mem_append_right _ h9))) (List.mem_of_getElem? (i := 2) rfl) dX0_countCommon_61 ?_
    refine lv_iload hx hb dX0_countCommon_64 (lv_at hl 4 rfl) ?_
    refine q_iald C0 hw (at_keys hv0) h dX0_countCommon_66 (fun j2 hj2 h => ?_)
    refine q_icmp_ne (tgt := 73) hx hb dX0_countCommon_67 (by decide) h (fun h => ?_) (fun h => ?_)
    · exact wX0_countCommon_73 hst C0 hk7 M v0 v1 v2 v3 v4 hv0 hv1 _ _ _ hw (lv_sub hl [0, 1, 2, 3, 4] rfl) h
    · refine q_iinc (k := 2) (cst := 1) (lv' := fun z3 => [(2, .int z3), (0, .ref (ad (cBag v0))), (1, .ref (ad (cBag v1))), (3, .int v3), (4, .int v4)]) hx hb dX0_countCommon_70 hl rfl rfl (by decide) (fun _ => rfl) h (fun z3 ls hl h => ?_)
      exact wX0_countCommon_73 hst C0 hk7 M v0 v1 z3 v3 v4 hv0 hv1 _ _ _ hw (lv_sub hl [1, 2, 0, 3, 4] rfl) h
def fX0_countCommon_16 (F : Nat) (k7 : Mem → Nat → Nat → Int32 → Int32 → Int32 → Option (Mem × Int32)) : Nat → Mem → Nat → Nat → Int32 → Int32 → Int32 → Option (Mem × Int32)
  | 0, _, _, _, _, _, _ => none
  | n + 1, M, v0, v1, v2, v3, v4 =>
    if (M 9 v1 0) ≤ v3 then
    (fX0_countCommon_46 F k7 M v0 v1 v2 v3 v4)
    else
    (q_ax v3 (bl v1) fun j1 =>
    q_ax v4 (bl v0) fun j2 =>
    if (M 23 v0 j2) ≤ (M 23 v1 j1) then
    (fX0_countCommon_46 F k7 M v0 v1 v2 v3 v4)
    else
    (q_lt (v3 + (1 : Int32)) fun z3 =>
    fX0_countCommon_16 F k7 n M v0 v1 v2 z3 v4))
set_option maxHeartbeats 4000000 in
set_option maxRecDepth 100000 in
theorem wX0_countCommon_16 {p : Program} {l : Launch} {e : Env} {s : State} {m : MethodId} {args : Array Value} {below : List Frame} {meth : Method} {c : Code} {D : va_G} {cy : Nat → ClassId} {ad : Nat → Nat} {x : XX} {F : Nat} {r : Mem × Int32} (hst : l.stackTraces = false) (C0 : MX p l s m args meth c D cy ad cX0_countCommon RX0 5 wsX0_countCommon (some .int)) {k7 : Mem → Nat → Nat → Int32 → Int32 → Int32 → Option (Mem × Int32)} (hk7 : ∀ (M : Mem) (v0 : Nat) (v1 : Nat) (v2 : Int32) (v3 : Int32) (v4 : Int32) (hv0 : v0 < 63) (hv1 : v1 < 63) (H : Heap) (locs : List Loc) (ls : Array Slot), Wd D cy ad x s M H locs → lv_has ls 5 [(0, .ref (ad (cBag v0))), (1, .ref (ad (cBag v1))), (2, .int v2), (3, .int v3), (4, .int v4)] → k7 M v0 v1 v2 v3 v4 = some r → W p l e rmX0_countCommon s m args below meth c H locs 0 0 (QN D cy ad below args s x q_vi r 0 0) (F0 m 7 ls [])) : ∀ (n : Nat) (M : Mem) (v0 : Nat) (v1 : Nat) (v2 : Int32) (v3 : Int32) (v4 : Int32) (hv0 : v0 < 63) (hv1 : v1 < 63) (H : Heap) (locs : List Loc) (ls : Array Slot), Wd D cy ad x s M H locs → lv_has ls 5 [(0, .ref (ad (cBag v0))), (1, .ref (ad (cBag v1))), (2, .int v2), (3, .int v3), (4, .int v4)] → fX0_countCommon_16 F k7 n M v0 v1 v2 v3 v4 = some r → W p l e rmX0_countCommon s m args below meth c H locs 0 0 (QN D cy ad below args s x q_vi r 0 0) (F0 m 16 ls []) := by
  obtain ⟨hx, hb, hml, hown, hts, -⟩ := id C0
  intro n
  induction n with
  | zero =>
    intro M v0 v1 v2 v3 v4 hv0 hv1 H locs ls hw hl h
    exact q_no h
  | succ n ih =>
    intro M v0 v1 v2 v3 v4 hv0 hv1 H locs ls hw hl h
    unfold fX0_countCommon_16 at h
    refine lv_iload_n hx hb dX0_countCommon_16 rfl (lv_at hl 3 rfl) ?_
    refine lv_aload_n hx hb dX0_countCommon_17 rfl (lv_at hl 1 rfl) ?_
    refine gf_Bag_size C0 hw hv1 (fun _ h9 => List.mem_cons_of_mem _ (List.mem_append_left _ (List.mem_append_right _ h9))) (List.mem_of_getElem? (i := 1) rfl) dX0_countCommon_18 ?_
    refine q_icmp_ge (tgt := 46) hx hb dX0_countCommon_21 (by decide) h (fun h => ?_) (fun h => ?_)
    · exact wX0_countCommon_46 hst C0 hk7 M v0 v1 v2 v3 v4 hv0 hv1 _ _ _ hw (lv_sub hl [0, 1, 2, 3, 4] rfl) h
    · refine lv_aload_n hx hb dX0_countCommon_24 rfl (lv_at hl 1 rfl) ?_
      refine gf_Bag_keys C0 hw hv1 (fun _ h9 => List.mem_cons_of_mem _ (List.mem_append_left _ (List.mem_append_right _ h9))) (List.mem_of_getElem? (i := 2) rfl) dX0_countCommon_25 ?_
      refine lv_iload_n hx hb dX0_countCommon_28 rfl (lv_at hl 3 rfl) ?_
      refine q_iald C0 hw (at_keys hv1) h dX0_countCommon_29 (fun j1 hj1 h => ?_)
      refine lv_aload_n hx hb dX0_countCommon_30 rfl (lv_at hl 0 rfl) ?_
      refine gf_Bag_keys C0 hw hv0 (fun _ h9 => List.mem_cons_of_mem _ (List.mem_append_left _ (List.mem_append_right _ h9))) (List.mem_of_getElem? (i := 2) rfl) dX0_countCommon_31 ?_
      refine lv_iload hx hb dX0_countCommon_34 (lv_at hl 4 rfl) ?_
      refine q_iald C0 hw (at_keys hv0) h dX0_countCommon_36 (fun j2 hj2 h => ?_)
      refine q_icmp_ge (tgt := 46) hx hb dX0_countCommon_37 (by decide) h (fun h => ?_) (fun h => ?_)
      · exact wX0_countCommon_46 hst C0 hk7 M v0 v1 v2 v3 v4 hv0 hv1 _ _ _ hw (lv_sub hl [0, 1, 2, 3, 4] rfl) h
      · refine q_iinc (k := 3) (cst := 1) (lv' := fun z3 => [(3, .int z3), (0, .ref (ad (cBag v0))), (1, .ref (ad (cBag v1))), (2, .int v2), (4, .int v4)]) hx hb dX0_countCommon_40 hl rfl rfl (by decide) (fun _ => rfl) h (fun z3 ls hl h => ?_)
        refine lv_goto (tgt := 16) hx hb dX0_countCommon_43 (by decide) ?_
        exact ih M v0 v1 v2 z3 v4 hv0 hv1 _ _ _ hw (lv_sub hl [1, 2, 3, 0, 4] rfl) h
def fX0_countCommon_7 (F : Nat) : Nat → Mem → Nat → Nat → Int32 → Int32 → Int32 → Option (Mem × Int32)
  | 0, _, _, _, _, _, _ => none
  | n + 1, M, v0, v1, v2, v3, v4 =>
    if (M 9 v0 0) ≤ v4 then
    (some (M, v2))
    else
    (fX0_countCommon_16 F (fX0_countCommon_7 F n) F M v0 v1 v2 v3 v4)
set_option maxHeartbeats 4000000 in
set_option maxRecDepth 100000 in
theorem wX0_countCommon_7 {p : Program} {l : Launch} {e : Env} {s : State} {m : MethodId} {args : Array Value} {below : List Frame} {meth : Method} {c : Code} {D : va_G} {cy : Nat → ClassId} {ad : Nat → Nat} {x : XX} {F : Nat} {r : Mem × Int32} (hst : l.stackTraces = false) (C0 : MX p l s m args meth c D cy ad cX0_countCommon RX0 5 wsX0_countCommon (some .int)) : ∀ (n : Nat) (M : Mem) (v0 : Nat) (v1 : Nat) (v2 : Int32) (v3 : Int32) (v4 : Int32) (hv0 : v0 < 63) (hv1 : v1 < 63) (H : Heap) (locs : List Loc) (ls : Array Slot), Wd D cy ad x s M H locs → lv_has ls 5 [(0, .ref (ad (cBag v0))), (1, .ref (ad (cBag v1))), (2, .int v2), (3, .int v3), (4, .int v4)] → fX0_countCommon_7 F n M v0 v1 v2 v3 v4 = some r → W p l e rmX0_countCommon s m args below meth c H locs 0 0 (QN D cy ad below args s x q_vi r 0 0) (F0 m 7 ls []) := by
  obtain ⟨hx, hb, hml, hown, hts, -⟩ := id C0
  intro n
  induction n with
  | zero =>
    intro M v0 v1 v2 v3 v4 hv0 hv1 H locs ls hw hl h
    exact q_no h
  | succ n ih =>
    intro M v0 v1 v2 v3 v4 hv0 hv1 H locs ls hw hl h
    unfold fX0_countCommon_7 at h
    refine lv_iload hx hb dX0_countCommon_7 (lv_at hl 4 rfl) ?_
    refine lv_aload_n hx hb dX0_countCommon_9 rfl (lv_at hl 0 rfl) ?_
    refine gf_Bag_size C0 hw hv0 (fun _ h9 => List.mem_cons_of_mem _ (List.mem_append_left _ (List.mem_append_right _ h9))) (List.mem_of_getElem? (i := 1) rfl) dX0_countCommon_10 ?_
    refine q_icmp_ge (tgt := 79) hx hb dX0_countCommon_13 (by decide) h (fun h => ?_) (fun h => ?_)
    · refine lv_iload_n hx hb dX0_countCommon_79 rfl (lv_at hl 2 rfl) ?_
      exact q_iretN C0 hw h ⟨(Nat.le_of_ble_eq_true rfl), (Nat.le_of_ble_eq_true rfl)⟩ dX0_countCommon_80
    · exact wX0_countCommon_16 hst C0 ih F M v0 v1 v2 v3 v4 hv0 hv1 _ _ _ hw (lv_sub hl [0, 1, 2, 3, 4] rfl) h
def fX0_countCommon (F : Nat) (M : Mem) (j0 : Nat) (j1 : Nat) : Option (Mem × Int32) :=
    q_lt ((0 : Int32)) fun z1 =>
    q_lt ((0 : Int32)) fun z2 =>
    q_lt ((0 : Int32)) fun z3 =>
    fX0_countCommon_7 F F M j0 j1 z1 z2 z3
set_option maxHeartbeats 4000000 in
set_option maxRecDepth 100000 in
theorem ctX0_countCommon {l : Launch} (hst : l.stackTraces = false) {D : va_G} {cy : Nat → ClassId} {ad : Nat → Nat} {x : XX} {F : Nat} {M : Mem} {j0 : Nat} {j1 : Nat} (hj0 : j0 < 63) (hj1 : j1 < 63) {r : Mem × Int32} (h : fX0_countCommon F M j0 j1 = some r) : CN l yX0_countCommon wsX0_countCommon rmX0_countCommon D cy ad [.ref (ad (cBag j0)), .ref (ad (cBag j1))] x M x r.1 (q_vi r.2) 0 0 := by
  refine q_startN (cc := cX0_countCommon) (maxL := 5) (ret := (some .int)) (by decide) rfl (Nat.le_of_ble_eq_true rfl) ?_
  intro p e s m args below meth c ls C0 hw hl hnm
  obtain ⟨hx, hb, hml, hown, hts, -⟩ := id C0
  have C0 : MX p l s m args meth c D cy ad cX0_countCommon RX0 5 wsX0_countCommon ((some .int)) := C0
  have hown : s.vm.findClass RX0 = some m.cls := hown
  have hl : lv_has ls 5 [(0, .ref (ad (cBag j0))), (1, .ref (ad (cBag j1)))] := hl
  show W p l e rmX0_countCommon s m args below meth c s.heap [] 0 0 (QN D cy ad below args s x q_vi r 0 0) (F0 m 0 ls [])
  unfold fX0_countCommon at h
  refine lv_iconst (v := 0) hx hb dX0_countCommon_0 (by decide) ?_
  refine q_istore_n (lv' := fun z1 => [(2, .int z1), (0, .ref (ad (cBag j0))), (1, .ref (ad (cBag j1)))]) hx hb dX0_countCommon_1 rfl hl (by decide) (fun _ => rfl) h (fun z1 ls hl h => ?_)
  refine lv_iconst (v := 0) hx hb dX0_countCommon_2 (by decide) ?_
  refine q_istore_n (lv' := fun z2 => [(3, .int z2), (2, .int z1), (0, .ref (ad (cBag j0))), (1, .ref (ad (cBag j1)))]) hx hb dX0_countCommon_3 rfl hl (by decide) (fun _ => rfl) h (fun z2 ls hl h => ?_)
  refine lv_iconst (v := 0) hx hb dX0_countCommon_4 (by decide) ?_
  refine q_istore (lv' := fun z3 => [(4, .int z3), (3, .int z2), (2, .int z1), (0, .ref (ad (cBag j0))), (1, .ref (ad (cBag j1)))]) hx hb dX0_countCommon_5 hl (by decide) (fun _ => rfl) h (fun z3 ls hl h => ?_)
  exact wX0_countCommon_7 hst C0  F M j0 j1 z1 z2 z3 hj0 hj1 _ _ _ hw (lv_sub hl [3, 4, 2, 1, 0] rfl) h
/-! Homewatcher$Bag.isLike(LHomewatcher$Bag;)Z -/
abbrev rmX0_isLike : Room := { frames := 0, cells := 0, slots := 0, locals := 0 }
def fX0_isLike_53 (F : Nat) (M : Mem) : Option (Mem × Int32) :=
    some (M, (0 : Int32))
set_option maxHeartbeats 4000000 in
set_option maxRecDepth 100000 in
theorem wX0_isLike_53 {p : Program} {l : Launch} {e : Env} {s : State} {m : MethodId} {args : Array Value} {below : List Frame} {meth : Method} {c : Code} {D : va_G} {cy : Nat → ClassId} {ad : Nat → Nat} {x : XX} {F : Nat} {r : Mem × Int32} (hst : l.stackTraces = false) (C0 : MX p l s m args meth c D cy ad cX0_isLike RX0 3 wsX0_isLike (some .boolean)) : ∀ (M : Mem) (H : Heap) (locs : List Loc) (ls : Array Slot), Wd D cy ad x s M H locs → lv_has ls 3 [] → fX0_isLike_53 F M = some r → W p l e rmX0_isLike s m args below meth c H locs 0 0 (QN D cy ad below args s x q_vi r 0 0) (F0 m 53 ls []) := by
  obtain ⟨hx, hb, hml, hown, hts, -⟩ := id C0
  intro M H locs ls hw hl h
  unfold fX0_isLike_53 at h
  refine lv_iconst (v := 0) hx hb dX0_isLike_53 (by decide) ?_
  exact q_zretN C0 hw rfl h ⟨(Nat.le_of_ble_eq_true rfl), (Nat.le_of_ble_eq_true rfl)⟩ dX0_isLike_54
def fX0_isLike_15 (F : Nat) : Nat → Mem → Nat → Nat → Int32 → Option (Mem × Int32)
  | 0, _, _, _, _ => none
  | n + 1, M, v0, v1, v2 =>
    if (M 9 v0 0) ≤ v2 then
    (some (M, (1 : Int32)))
    else
    (q_ax v2 (bl v0) fun j1 =>
    q_ax v2 (bl v1) fun j2 =>
    if (M 23 v0 j1) = (M 23 v1 j2) then
    (q_ax v2 (bl v0) fun j3 =>
    q_ax v2 (bl v1) fun j4 =>
    if (M 24 v0 j3) = (M 24 v1 j4) then
    (q_lt (v2 + (1 : Int32)) fun z5 =>
    fX0_isLike_15 F n M v0 v1 z5)
    else
    (fX0_isLike_53 F M))
    else
    (fX0_isLike_53 F M))
set_option maxHeartbeats 4000000 in
set_option maxRecDepth 100000 in
theorem wX0_isLike_15 {p : Program} {l : Launch} {e : Env} {s : State} {m : MethodId} {args : Array Value} {below : List Frame} {meth : Method} {c : Code} {D : va_G} {cy : Nat → ClassId} {ad : Nat → Nat} {x : XX} {F : Nat} {r : Mem × Int32} (hst : l.stackTraces = false) (C0 : MX p l s m args meth c D cy ad cX0_isLike RX0 3 wsX0_isLike (some .boolean)) : ∀ (n : Nat) (M : Mem) (v0 : Nat) (v1 : Nat) (v2 : Int32) (hv0 : v0 < 63) (hv1 : v1 < 63) (H : Heap) (locs : List Loc) (ls : Array Slot), Wd D cy ad x s M H locs → lv_has ls 3 [(0, .ref (ad (cBag v0))), (1, .ref (ad (cBag v1))), (2, .int v2)] → fX0_isLike_15 F n M v0 v1 v2 = some r → W p l e rmX0_isLike s m args below meth c H locs 0 0 (QN D cy ad below args s x q_vi r 0 0) (F0 m 15 ls []) := by
  obtain ⟨hx, hb, hml, hown, hts, -⟩ := id C0
  intro n
  induction n with
  | zero =>
    intro M v0 v1 v2 hv0 hv1 H locs ls hw hl h
    exact q_no h
  | succ n ih =>
    intro M v0 v1 v2 hv0 hv1 H locs ls hw hl h
    unfold fX0_isLike_15 at h
    refine lv_iload_n hx hb dX0_isLike_15 rfl (lv_at hl 2 rfl) ?_
    refine lv_aload_n hx hb dX0_isLike_16 rfl (lv_at hl 0 rfl) ?_
    refine gf_Bag_size C0 hw hv0 (fun _ h9 => List.mem_cons_of_mem _ (List.mem_append_left _ (List.mem_append_right _ h9))) (List.mem_of_getElem? (i := 1) rfl) dX0_isLike_17 ?_
    refine q_icmp_ge (tgt := 61) hx hb dX0_isLike_20 (by decide) h (fun h => ?_) (fun h => ?_)
    · refine lv_iconst (v := 1) hx hb dX0_isLike_61 (by decide) ?_
      exact q_zretN C0 hw rfl h ⟨(Nat.le_of_ble_eq_true rfl), (Nat.le_of_ble_eq_true rfl)⟩ dX0_isLike_62
    · refine lv_aload_n hx hb dX0_isLike_23 rfl (lv_at hl 0 rfl) ?_
      refine gf_Bag_keys C0 hw hv0 (fun _ h9 => List.mem_cons_of_mem _ (List.mem_append_left _ (List.mem_append_right _ h9))) (List.mem_of_getElem? (i := 2) rfl) dX0_isLike_24 ?_
      refine lv_iload_n hx hb dX0_isLike_27 rfl (lv_at hl 2 rfl) ?_
      refine q_iald C0 hw (at_keys hv0) h dX0_isLike_28 (fun j1 hj1 h => ?_)
      refine lv_aload_n hx hb dX0_isLike_29 rfl (lv_at hl 1 rfl) ?_
      refine gf_Bag_keys C0 hw hv1 (fun _ h9 => List.mem_cons_of_mem _ (List.mem_append_left _ (List.mem_append_right _ h9))) (List.mem_of_getElem? (i := 2) rfl) dX0_isLike_30 ?_
      refine lv_iload_n hx hb dX0_isLike_33 rfl (lv_at hl 2 rfl) ?_
      refine q_iald C0 hw (at_keys hv1) h dX0_isLike_34 (fun j2 hj2 h => ?_)
      refine q_icmp_ne (tgt := 53) hx hb dX0_isLike_35 (by decide) h (fun h => ?_) (fun h => ?_)
      · exact wX0_isLike_53 hst C0  M _ _ _ hw (lv_sub hl [] rfl) h
      · refine lv_aload_n hx hb dX0_isLike_38 rfl (lv_at hl 0 rfl) ?_
        refine gf_Bag_counts C0 hw hv0 (fun _ h9 => List.mem_cons_of_mem _ (List.mem_append_left _ (List.mem_append_right _ h9))) (List.mem_of_getElem? (i := 3) rfl) dX0_isLike_39 ?_
        refine lv_iload_n hx hb dX0_isLike_42 rfl (lv_at hl 2 rfl) ?_
        refine q_iald C0 hw (at_counts hv0) h dX0_isLike_43 (fun j3 hj3 h => ?_)
        refine lv_aload_n hx hb dX0_isLike_44 rfl (lv_at hl 1 rfl) ?_
        refine gf_Bag_counts C0 hw hv1 (fun _ h9 => List.mem_cons_of_mem _ (List.mem_append_left _ (List.mem_append_right _ h9))) (List.mem_of_getElem? (i := 3) rfl) dX0_isLike_45 ?_
        refine lv_iload_n hx hb dX0_isLike_48 rfl (lv_at hl 2 rfl) ?_
        refine q_iald C0 hw (at_counts hv1) h dX0_isLike_49 (fun j4 hj4 h => ?_)
        refine q_icmp_eq (tgt := 55) hx hb dX0_isLike_50 (by decide) h (fun h => ?_) (fun h => ?_)
        · refine q_iinc (k := 2) (cst := 1) (lv' := fun z5 => [(2, .int z5), (0, .ref (ad (cBag v0))), (1, .ref (ad (cBag v1)))]) hx hb dX0_isLike_55 hl rfl rfl (by decide) (fun _ => rfl) h (fun z5 ls hl h => ?_)
          refine lv_goto (tgt := 15) hx hb dX0_isLike_58 (by decide) ?_
          exact ih M v0 v1 z5 hv0 hv1 _ _ _ hw (lv_sub hl [1, 2, 0] rfl) h
        · exact wX0_isLike_53 hst C0  M _ _ _ hw (lv_sub hl [] rfl) h
def fX0_isLike (F : Nat) (M : Mem) (j0 : Nat) (j1 : Nat) : Option (Mem × Int32) :=
    if (M 9 j0 0) = (M 9 j1 0) then
    (q_lt ((0 : Int32)) fun z1 =>
    fX0_isLike_15 F F M j0 j1 z1)
    else
    (some (M, (0 : Int32)))
set_option maxHeartbeats 4000000 in
set_option maxRecDepth 100000 in
theorem ctX0_isLike {l : Launch} (hst : l.stackTraces = false) {D : va_G} {cy : Nat → ClassId} {ad : Nat → Nat} {x : XX} {F : Nat} {M : Mem} {j0 : Nat} {j1 : Nat} (hj0 : j0 < 63) (hj1 : j1 < 63) {r : Mem × Int32} (h : fX0_isLike F M j0 j1 = some r) : CN l yX0_isLike wsX0_isLike rmX0_isLike D cy ad [.ref (ad (cBag j0)), .ref (ad (cBag j1))] x M x r.1 (q_vi r.2) 0 0 := by
  refine q_startN (cc := cX0_isLike) (maxL := 3) (ret := (some .boolean)) (by decide) rfl (Nat.le_of_ble_eq_true rfl) ?_
  intro p e s m args below meth c ls C0 hw hl hnm
  obtain ⟨hx, hb, hml, hown, hts, -⟩ := id C0
  have C0 : MX p l s m args meth c D cy ad cX0_isLike RX0 3 wsX0_isLike ((some .boolean)) := C0
  have hown : s.vm.findClass RX0 = some m.cls := hown
  have hl : lv_has ls 3 [(0, .ref (ad (cBag j0))), (1, .ref (ad (cBag j1)))] := hl
  show W p l e rmX0_isLike s m args below meth c s.heap [] 0 0 (QN D cy ad below args s x q_vi r 0 0) (F0 m 0 ls [])
  unfold fX0_isLike at h
  refine lv_aload_n hx hb dX0_isLike_0 rfl (lv_at hl 0 rfl) ?_
  refine gf_Bag_size C0 hw hj0 (fun _ h9 => List.mem_cons_of_mem _ (List.mem_append_left _ (List.mem_append_right _ h9))) (List.mem_of_getElem? (i := 1) rfl) dX0_isLike_1 ?_
  refine lv_aload_n hx hb dX0_isLike_4 rfl (lv_at hl 1 rfl) ?_
  refine gf_Bag_size C0 hw hj1 (fun _ h9 => List.mem_cons_of_mem _ (List.mem_append_left _ (List.mem_append_right _ h9))) (List.mem_of_getElem? (i := 1) rfl) dX0_isLike_5 ?_
  refine q_icmp_eq (tgt := 13) hx hb dX0_isLike_8 (by decide) h (fun h => ?_) (fun h => ?_)
  · refine lv_iconst (v := 0) hx hb dX0_isLike_13 (by decide) ?_
    refine q_istore_n (lv' := fun z1 => [(2, .int z1), (0, .ref (ad (cBag j0))), (1, .ref (ad (cBag j1)))]) hx hb dX0_isLike_14 rfl hl (by decide) (fun _ => rfl) h (fun z1 ls hl h => ?_)
    exact wX0_isLike_15 hst C0  F M j0 j1 z1 hj0 hj1 _ _ _ hw (lv_sub hl [1, 2, 0] rfl) h
  · refine lv_iconst (v := 0) hx hb dX0_isLike_11 (by decide) ?_
    exact q_zretN C0 hw rfl h ⟨(Nat.le_of_ble_eq_true rfl), (Nat.le_of_ble_eq_true rfl)⟩ dX0_isLike_12
/-! Homewatcher$Hit.isOpen()Z -/
abbrev rmX1_isOpen : Room := { frames := 0, cells := 0, slots := 0, locals := 0 }
def fX1_isOpen_13 (F : Nat) (M : Mem) (s0 : Int32) : Option (Mem × Int32) :=
    q_gd (q_isZ s0) (
    some (M, s0))
set_option maxHeartbeats 4000000 in
set_option maxRecDepth 100000 in
theorem wX1_isOpen_13 {p : Program} {l : Launch} {e : Env} {s : State} {m : MethodId} {args : Array Value} {below : List Frame} {meth : Method} {c : Code} {D : va_G} {cy : Nat → ClassId} {ad : Nat → Nat} {x : XX} {F : Nat} {r : Mem × Int32} (hst : l.stackTraces = false) (C0 : MX p l s m args meth c D cy ad cX1_isOpen RX1 1 wsX1_isOpen (some .boolean)) : ∀ (M : Mem) (s0 : Int32) (H : Heap) (locs : List Loc) (ls : Array Slot), Wd D cy ad x s M H locs → lv_has ls 1 [] → fX1_isOpen_13 F M s0 = some r → W p l e rmX1_isOpen s m args below meth c H locs 0 0 (QN D cy ad below args s x q_vi r 0 0) (F0 m 13 ls [.int s0]) := by
  obtain ⟨hx, hb, hml, hown, hts, -⟩ := id C0
  intro M s0 H locs ls hw hl h
  unfold fX1_isOpen_13 at h
  refine q_guard h (fun g h => ?_)
  exact q_zretN C0 hw (q_isZ_in g) h ⟨(Nat.le_of_ble_eq_true rfl), (Nat.le_of_ble_eq_true rfl)⟩ dX1_isOpen_13
def fX1_isOpen (F : Nat) (M : Mem) (j0 : Nat) : Option (Mem × Int32) :=
    if (M 58 j0 0) = (-1 : Int32) then
    (fX1_isOpen_13 F M (1 : Int32))
    else
    (fX1_isOpen_13 F M (0 : Int32))
set_option maxHeartbeats 4000000 in
set_option maxRecDepth 100000 in
theorem ctX1_isOpen {l : Launch} (hst : l.stackTraces = false) {D : va_G} {cy : Nat → ClassId} {ad : Nat → Nat} {x : XX} {F : Nat} {M : Mem} {j0 : Nat} (hj0 : j0 < 40) {r : Mem × Int32} (h : fX1_isOpen F M j0 = some r) : CN l yX1_isOpen wsX1_isOpen rmX1_isOpen D cy ad [.ref (ad (cHit j0))] x M x r.1 (q_vi r.2) 0 0 := by
  refine q_startN (cc := cX1_isOpen) (maxL := 1) (ret := (some .boolean)) (by decide) rfl (Nat.le_of_ble_eq_true rfl) ?_
  intro p e s m args below meth c ls C0 hw hl hnm
  obtain ⟨hx, hb, hml, hown, hts, -⟩ := id C0
  have C0 : MX p l s m args meth c D cy ad cX1_isOpen RX1 1 wsX1_isOpen ((some .boolean)) := C0
  have hown : s.vm.findClass RX1 = some m.cls := hown
  have hl : lv_has ls 1 [(0, .ref (ad (cHit j0)))] := hl
  show W p l e rmX1_isOpen s m args below meth c s.heap [] 0 0 (QN D cy ad below args s x q_vi r 0 0) (F0 m 0 ls [])
  unfold fX1_isOpen at h
  refine lv_aload_n hx hb dX1_isOpen_0 rfl (lv_at hl 0 rfl) ?_
  refine gf_Hit_losers C0 hw hj0 (fun _ h9 => List.mem_cons_of_mem _ (List.mem_append_right _ h9)) (List.mem_of_getElem? (i := 1) rfl) dX1_isOpen_1 ?_
  refine lv_iconst (v := -1) hx hb dX1_isOpen_4 (by decide) ?_
  refine q_icmp_ne (tgt := 12) hx hb dX1_isOpen_5 (by decide) h (fun h => ?_) (fun h => ?_)
  · refine lv_iconst (v := 0) hx hb dX1_isOpen_12 (by decide) ?_
    exact wX1_isOpen_13 hst C0  M (0 : Int32) _ _ _ hw (lv_sub hl [] rfl) h
  · refine lv_iconst (v := 1) hx hb dX1_isOpen_8 (by decide) ?_
    refine lv_goto (tgt := 13) hx hb dX1_isOpen_9 (by decide) ?_
    exact wX1_isOpen_13 hst C0  M (1 : Int32) _ _ _ hw (lv_sub hl [] rfl) h
/-! Homewatcher$Hit.takesFrom(I)Z -/
abbrev rmX1_takesFrom : Room := { frames := 1, cells := 0, slots := 0, locals := 20 }
def fX1_takesFrom_21 (F : Nat) (M : Mem) (s0 : Int32) : Option (Mem × Int32) :=
    q_gd (q_isZ s0) (
    some (M, s0))
set_option maxHeartbeats 4000000 in
set_option maxRecDepth 100000 in
theorem wX1_takesFrom_21 {p : Program} {l : Launch} {e : Env} {s : State} {m : MethodId} {args : Array Value} {below : List Frame} {meth : Method} {c : Code} {D : va_G} {cy : Nat → ClassId} {ad : Nat → Nat} {x : XX} {F : Nat} {r : Mem × Int32} (hst : l.stackTraces = false) (C0 : MX p l s m args meth c D cy ad cX1_takesFrom RX1 2 wsX1_takesFrom (some .boolean)) : ∀ (M : Mem) (s0 : Int32) (H : Heap) (locs : List Loc) (ls : Array Slot), Wd D cy ad x s M H locs → lv_has ls 2 [] → fX1_takesFrom_21 F M s0 = some r → W p l e rmX1_takesFrom s m args below meth c H locs 0 0 (QN D cy ad below args s x q_vi r 0 0) (F0 m 21 ls [.int s0]) := by
  obtain ⟨hx, hb, hml, hown, hts, -⟩ := id C0
  intro M s0 H locs ls hw hl h
  unfold fX1_takesFrom_21 at h
  refine q_guard h (fun g h => ?_)
  exact q_zretN C0 hw (q_isZ_in g) h ⟨(Nat.le_of_ble_eq_true rfl), (Nat.le_of_ble_eq_true rfl)⟩ dX1_takesFrom_21
def fX1_takesFrom_20 (F : Nat) (M : Mem) : Option (Mem × Int32) :=
    fX1_takesFrom_21 F M (0 : Int32)
set_option maxHeartbeats 4000000 in
set_option maxRecDepth 100000 in
theorem wX1_takesFrom_20 {p : Program} {l : Launch} {e : Env} {s : State} {m : MethodId} {args : Array Value} {below : List Frame} {meth : Method} {c : Code} {D : va_G} {cy : Nat → ClassId} {ad : Nat → Nat} {x : XX} {F : Nat} {r : Mem × Int32} (hst : l.stackTraces = false) (C0 : MX p l s m args meth c D cy ad cX1_takesFrom RX1 2 wsX1_takesFrom (some .boolean)) : ∀ (M : Mem) (H : Heap) (locs : List Loc) (ls : Array Slot), Wd D cy ad x s M H locs → lv_has ls 2 [] → fX1_takesFrom_20 F M = some r → W p l e rmX1_takesFrom s m args below meth c H locs 0 0 (QN D cy ad below args s x q_vi r 0 0) (F0 m 20 ls []) := by
  obtain ⟨hx, hb, hml, hown, hts, -⟩ := id C0
  intro M H locs ls hw hl h
  unfold fX1_takesFrom_20 at h
  refine lv_iconst (v := 0) hx hb dX1_takesFrom_20 (by decide) ?_
  exact wX1_takesFrom_21 hst C0  M (0 : Int32) _ _ _ hw (lv_sub hl [] rfl) h
def fX1_takesFrom (F : Nat) (M : Mem) (j0 : Nat) (a0 : Int32) : Option (Mem × Int32) :=
    q_bn (fX1_isOpen F M j0) fun M1 z2 =>
    if z2 = (0 : Int32) then
    (if ((M1 58 j0 0) &&& a0) = (0 : Int32) then
    (fX1_takesFrom_20 F M1)
    else
    (fX1_takesFrom_21 F M1 (1 : Int32)))
    else
    (fX1_takesFrom_20 F M1)
set_option maxHeartbeats 4000000 in
set_option maxRecDepth 100000 in
theorem ctX1_takesFrom {l : Launch} (hst : l.stackTraces = false) {D : va_G} {cy : Nat → ClassId} {ad : Nat → Nat} {x : XX} {F : Nat} {M : Mem} {j0 : Nat} {a0 : Int32} (hj0 : j0 < 40) {r : Mem × Int32} (h : fX1_takesFrom F M j0 a0 = some r) : CN l yX1_takesFrom wsX1_takesFrom rmX1_takesFrom D cy ad [.ref (ad (cHit j0)), .int a0] x M x r.1 (q_vi r.2) 0 0 := by
  refine q_startN (cc := cX1_takesFrom) (maxL := 2) (ret := (some .boolean)) (by decide) rfl (Nat.le_of_ble_eq_true rfl) ?_
  intro p e s m args below meth c ls C0 hw hl hnm
  obtain ⟨hx, hb, hml, hown, hts, -⟩ := id C0
  have C0 : MX p l s m args meth c D cy ad cX1_takesFrom RX1 2 wsX1_takesFrom ((some .boolean)) := C0
  have hown : s.vm.findClass RX1 = some m.cls := hown
  have hl : lv_has ls 2 [(0, .ref (ad (cHit j0))), (1, .int a0)] := hl
  show W p l e rmX1_takesFrom s m args below meth c s.heap [] 0 0 (QN D cy ad below args s x q_vi r 0 0) (F0 m 0 ls [])
  unfold fX1_takesFrom at h
  refine lv_aload_n hx hb dX1_takesFrom_0 rfl (lv_at hl 0 rfl) ?_
  refine q_callVNi (As := []) (nA := 0) C0 hw (at_Hit hj0) rfl (fun r1 h1 => ctX1_isOpen hst hj0 h1) gX1_takesFrom_X1_isOpen rfl ⟨rfl, rfl⟩ (by decide +kernel) rfl ⟨(Nat.le_of_ble_eq_true rfl), (Nat.le_of_ble_eq_true rfl)⟩ hl.1 (Nat.le_of_ble_eq_true rfl) ⟨(Nat.le_of_ble_eq_true rfl), (Nat.le_of_ble_eq_true rfl)⟩ rfl h dX1_takesFrom_1 (fun M1 z2 H locs hw h => ?_)
  refine q_if_ne (tgt := 20) hx hb dX1_takesFrom_4 (by decide) h (fun h => ?_) (fun h => ?_)
  · exact wX1_takesFrom_20 hst C0  M1 _ _ _ hw (lv_sub hl [] rfl) h
  · refine lv_aload_n hx hb dX1_takesFrom_7 rfl (lv_at hl 0 rfl) ?_
    refine gf_Hit_losers C0 hw hj0 (fun _ h9 => List.mem_cons_of_mem _ (List.mem_append_right _ h9)) (List.mem_of_getElem? (i := 1) rfl) dX1_takesFrom_8 ?_
    refine lv_iload_n hx hb dX1_takesFrom_11 rfl (lv_at hl 1 rfl) ?_
    refine lv_iand hx hb dX1_takesFrom_12 ?_
    refine q_if_eq (tgt := 20) hx hb dX1_takesFrom_13 (by decide) h (fun h => ?_) (fun h => ?_)
    · exact wX1_takesFrom_20 hst C0  M1 _ _ _ hw (lv_sub hl [] rfl) h
    · refine lv_iconst (v := 1) hx hb dX1_takesFrom_16 (by decide) ?_
      refine lv_goto (tgt := 21) hx hb dX1_takesFrom_17 (by decide) ?_
      exact wX1_takesFrom_21 hst C0  M1 (1 : Int32) _ _ _ hw (lv_sub hl [] rfl) h
/-! Homewatcher$Task.pointsOff(I)I -/
abbrev rmX2_pointsOff : Room := { frames := 1, cells := 0, slots := 0, locals := 21 }
def fX2_pointsOff_86 (F : Nat) (M : Mem) (s0 : Int32) : Option (Mem × Int32) :=
    some (M, s0)
set_option maxHeartbeats 4000000 in
set_option maxRecDepth 100000 in
theorem wX2_pointsOff_86 {p : Program} {l : Launch} {e : Env} {s : State} {m : MethodId} {args : Array Value} {below : List Frame} {meth : Method} {c : Code} {D : va_G} {cy : Nat → ClassId} {ad : Nat → Nat} {x : XX} {F : Nat} {r : Mem × Int32} (hst : l.stackTraces = false) (C0 : MX p l s m args meth c D cy ad cX2_pointsOff RX2 2 wsX2_pointsOff (some .int)) : ∀ (M : Mem) (s0 : Int32) (H : Heap) (locs : List Loc) (ls : Array Slot), Wd D cy ad x s M H locs → lv_has ls 2 [] → fX2_pointsOff_86 F M s0 = some r → W p l e rmX2_pointsOff s m args below meth c H locs 0 0 (QN D cy ad below args s x q_vi r 0 0) (F0 m 86 ls [.int s0]) := by
  obtain ⟨hx, hb, hml, hown, hts, -⟩ := id C0
  intro M s0 H locs ls hw hl h
  unfold fX2_pointsOff_86 at h
  exact q_iretN C0 hw h ⟨(Nat.le_of_ble_eq_true rfl), (Nat.le_of_ble_eq_true rfl)⟩ dX2_pointsOff_86
def fX2_pointsOff (F : Nat) (M : Mem) (j0 : Nat) (a0 : Int32) : Option (Mem × Int32) :=
    if (0 : Int32) < a0 then
    (if (M 53 j0 0) = (100 : Int32) then
    (some (M, (M 54 j0 0) * ((a0 + (1439 : Int32)) / (1440 : Int32))))
    else
    if (M 53 j0 0) = (101 : Int32) then
    (some (M, (M 54 j0 0) * ((1 : Int32) <<< ((if (a0 / (60 : Int32)) < (6 : Int32) then a0 / (60 : Int32) else (6 : Int32)) &&& 31))))
    else
    if (M 53 j0 0) = (102 : Int32) then
    (some (M, (M 54 j0 0) * ((1 : Int32) <<< ((if (a0 / (60 : Int32)) < (6 : Int32) then a0 / (60 : Int32) else (6 : Int32)) &&& 31))))
    else
    if (M 53 j0 0) = (103 : Int32) then
    (if a0 ≤ (M 54 j0 0) then
    (fX2_pointsOff_86 F M (0 : Int32))
    else
    (fX2_pointsOff_86 F M (10 : Int32)))
    else
    if (M 53 j0 0) = (104 : Int32) then
    (some (M, (M 54 j0 0) * ((a0 + (59 : Int32)) / (60 : Int32))))
    else
    (some (M, (M 54 j0 0) * ((1 : Int32) <<< ((if (a0 / (60 : Int32)) < (6 : Int32) then a0 / (60 : Int32) else (6 : Int32)) &&& 31)))))
    else
    (some (M, (0 : Int32)))
set_option maxHeartbeats 4000000 in
set_option maxRecDepth 100000 in
theorem ctX2_pointsOff {l : Launch} (hst : l.stackTraces = false) {D : va_G} {cy : Nat → ClassId} {ad : Nat → Nat} {x : XX} {F : Nat} {M : Mem} {j0 : Nat} {a0 : Int32} (hj0 : j0 < 10) {r : Mem × Int32} (h : fX2_pointsOff F M j0 a0 = some r) : CN l yX2_pointsOff wsX2_pointsOff rmX2_pointsOff D cy ad [.ref (ad (cTask j0)), .int a0] x M x r.1 (q_vi r.2) 0 0 := by
  refine q_startN (cc := cX2_pointsOff) (maxL := 2) (ret := (some .int)) (by decide) rfl (Nat.le_of_ble_eq_true rfl) ?_
  intro p e s m args below meth c ls C0 hw hl hnm
  obtain ⟨hx, hb, hml, hown, hts, -⟩ := id C0
  have C0 : MX p l s m args meth c D cy ad cX2_pointsOff RX2 2 wsX2_pointsOff ((some .int)) := C0
  have hown : s.vm.findClass RX2 = some m.cls := hown
  have hl : lv_has ls 2 [(0, .ref (ad (cTask j0))), (1, .int a0)] := hl
  show W p l e rmX2_pointsOff s m args below meth c s.heap [] 0 0 (QN D cy ad below args s x q_vi r 0 0) (F0 m 0 ls [])
  unfold fX2_pointsOff at h
  refine lv_iload_n hx hb dX2_pointsOff_0 rfl (lv_at hl 1 rfl) ?_
  refine q_if_gt (tgt := 6) hx hb dX2_pointsOff_1 (by decide) h (fun h => ?_) (fun h => ?_)
  · refine lv_aload_n hx hb dX2_pointsOff_6 rfl (lv_at hl 0 rfl) ?_
    refine gf_Task_rule C0 hw hj0 (fun _ h9 => List.mem_cons_of_mem _ (List.mem_append_right _ h9)) (List.mem_of_getElem? (i := 1) rfl) dX2_pointsOff_7 ?_
    refine q_if (P := (M 53 j0 0) = (100 : Int32)) h (fun e0 h => ?_) (fun n0 h => ?_)
    · refine lv_tableIn (off := 47) (tgt := 57) hx hb dX2_pointsOff_10 (by rw [e0]; decide) (by rw [e0]; decide) (by rw [e0]; decide) (by decide) ?_
      refine lv_aload_n hx hb dX2_pointsOff_57 rfl (lv_at hl 0 rfl) ?_
      refine gf_Task_amount C0 hw hj0 (fun _ h9 => List.mem_cons_of_mem _ (List.mem_append_right _ h9)) (List.mem_of_getElem? (i := 2) rfl) dX2_pointsOff_58 ?_
      refine lv_iload_n hx hb dX2_pointsOff_61 rfl (lv_at hl 1 rfl) ?_
      refine lv_sipush (v := 1439) hx hb dX2_pointsOff_62 (by decide) ?_
      refine lv_iadd hx hb dX2_pointsOff_65 ?_
      refine lv_sipush (v := 1440) hx hb dX2_pointsOff_66 (by decide) ?_
      refine lv_idiv hx hb dX2_pointsOff_69 (by decide) ?_
      refine lv_imul hx hb dX2_pointsOff_70 ?_
      exact q_iretN C0 hw h ⟨(Nat.le_of_ble_eq_true rfl), (Nat.le_of_ble_eq_true rfl)⟩ dX2_pointsOff_71
    · skip
      refine q_if (P := (M 53 j0 0) = (101 : Int32)) h (fun e1 h => ?_) (fun n1 h => ?_)
      · refine lv_tableIn (off := 77) (tgt := 87) hx hb dX2_pointsOff_10 (by rw [e1]; decide) (by rw [e1]; decide) (by rw [e1]; decide) (by decide) ?_
        refine lv_aload_n hx hb dX2_pointsOff_87 rfl (lv_at hl 0 rfl) ?_
        refine gf_Task_amount C0 hw hj0 (fun _ h9 => List.mem_cons_of_mem _ (List.mem_append_right _ h9)) (List.mem_of_getElem? (i := 2) rfl) dX2_pointsOff_88 ?_
        refine lv_iconst (v := 1) hx hb dX2_pointsOff_91 (by decide) ?_
        refine lv_bipush (v := 6) hx hb dX2_pointsOff_92 (by decide) ?_
        refine lv_iload_n hx hb dX2_pointsOff_94 rfl (lv_at hl 1 rfl) ?_
        refine lv_bipush (v := 60) hx hb dX2_pointsOff_95 (by decide) ?_
        refine lv_idiv hx hb dX2_pointsOff_97 (by decide) ?_
        refine q_min C0 hl.1 (List.forall_mem_cons.mpr ⟨(List.mem_of_getElem? (i := 3) rfl), (List.forall_mem_cons.mpr ⟨(List.mem_of_getElem? (i := 4) rfl), (List.forall_mem_cons.mpr ⟨(List.mem_of_getElem? (i := 5) rfl), (List.forall_mem_cons.mpr ⟨(List.mem_of_getElem? (i := 6) rfl), (fun _ h9 => absurd h9 List.not_mem_nil)⟩)⟩)⟩)⟩) (Nat.le_of_ble_eq_true rfl) (Nat.le_of_ble_eq_true rfl) ⟨(Nat.le_of_ble_eq_true rfl), (Nat.le_of_ble_eq_true rfl)⟩ dX2_pointsOff_98 ?_
        refine lv_ishl hx hb dX2_pointsOff_101 ?_
        refine lv_imul hx hb dX2_pointsOff_102 ?_
        exact q_iretN C0 hw h ⟨(Nat.le_of_ble_eq_true rfl), (Nat.le_of_ble_eq_true rfl)⟩ dX2_pointsOff_103
      · skip
        refine q_if (P := (M 53 j0 0) = (102 : Int32)) h (fun e2 h => ?_) (fun n2 h => ?_)
        · refine lv_tableIn (off := 77) (tgt := 87) hx hb dX2_pointsOff_10 (by rw [e2]; decide) (by rw [e2]; decide) (by rw [e2]; decide) (by decide) ?_
          refine lv_aload_n hx hb dX2_pointsOff_87 rfl (lv_at hl 0 rfl) ?_
          refine gf_Task_amount C0 hw hj0 (fun _ h9 => List.mem_cons_of_mem _ (List.mem_append_right _ h9)) (List.mem_of_getElem? (i := 2) rfl) dX2_pointsOff_88 ?_
          refine lv_iconst (v := 1) hx hb dX2_pointsOff_91 (by decide) ?_
          refine lv_bipush (v := 6) hx hb dX2_pointsOff_92 (by decide) ?_
          refine lv_iload_n hx hb dX2_pointsOff_94 rfl (lv_at hl 1 rfl) ?_
          refine lv_bipush (v := 60) hx hb dX2_pointsOff_95 (by decide) ?_
          refine lv_idiv hx hb dX2_pointsOff_97 (by decide) ?_
          refine q_min C0 hl.1 (List.forall_mem_cons.mpr ⟨(List.mem_of_getElem? (i := 3) rfl), (List.forall_mem_cons.mpr ⟨(List.mem_of_getElem? (i := 4) rfl), (List.forall_mem_cons.mpr ⟨(List.mem_of_getElem? (i := 5) rfl), (List.forall_mem_cons.mpr ⟨(List.mem_of_getElem? (i := 6) rfl), (fun _ h9 => absurd h9 List.not_mem_nil)⟩)⟩)⟩)⟩) (Nat.le_of_ble_eq_true rfl) (Nat.le_of_ble_eq_true rfl) ⟨(Nat.le_of_ble_eq_true rfl), (Nat.le_of_ble_eq_true rfl)⟩ dX2_pointsOff_98 ?_
          refine lv_ishl hx hb dX2_pointsOff_101 ?_
          refine lv_imul hx hb dX2_pointsOff_102 ?_
          exact q_iretN C0 hw h ⟨(Nat.le_of_ble_eq_true rfl), (Nat.le_of_ble_eq_true rfl)⟩ dX2_pointsOff_103
        · skip
          refine q_if (P := (M 53 j0 0) = (103 : Int32)) h (fun e3 h => ?_) (fun n3 h => ?_)
          · refine lv_tableIn (off := 62) (tgt := 72) hx hb dX2_pointsOff_10 (by rw [e3]; decide) (by rw [e3]; decide) (by rw [e3]; decide) (by decide) ?_
            refine lv_iload_n hx hb dX2_pointsOff_72 rfl (lv_at hl 1 rfl) ?_
            refine lv_aload_n hx hb dX2_pointsOff_73 rfl (lv_at hl 0 rfl) ?_
            refine gf_Task_amount C0 hw hj0 (fun _ h9 => List.mem_cons_of_mem _ (List.mem_append_right _ h9)) (List.mem_of_getElem? (i := 2) rfl) dX2_pointsOff_74 ?_
            refine q_icmp_le (tgt := 85) hx hb dX2_pointsOff_77 (by decide) h (fun h => ?_) (fun h => ?_)
            · refine lv_iconst (v := 0) hx hb dX2_pointsOff_85 (by decide) ?_
              exact wX2_pointsOff_86 hst C0  M (0 : Int32) _ _ _ hw (lv_sub hl [] rfl) h
            · refine lv_bipush (v := 10) hx hb dX2_pointsOff_80 (by decide) ?_
              refine lv_goto (tgt := 86) hx hb dX2_pointsOff_82 (by decide) ?_
              exact wX2_pointsOff_86 hst C0  M (10 : Int32) _ _ _ hw (lv_sub hl [] rfl) h
          · skip
            refine q_if (P := (M 53 j0 0) = (104 : Int32)) h (fun e4 h => ?_) (fun n4 h => ?_)
            · refine lv_tableIn (off := 34) (tgt := 44) hx hb dX2_pointsOff_10 (by rw [e4]; decide) (by rw [e4]; decide) (by rw [e4]; decide) (by decide) ?_
              refine lv_aload_n hx hb dX2_pointsOff_44 rfl (lv_at hl 0 rfl) ?_
              refine gf_Task_amount C0 hw hj0 (fun _ h9 => List.mem_cons_of_mem _ (List.mem_append_right _ h9)) (List.mem_of_getElem? (i := 2) rfl) dX2_pointsOff_45 ?_
              refine lv_iload_n hx hb dX2_pointsOff_48 rfl (lv_at hl 1 rfl) ?_
              refine lv_bipush (v := 59) hx hb dX2_pointsOff_49 (by decide) ?_
              refine lv_iadd hx hb dX2_pointsOff_51 ?_
              refine lv_bipush (v := 60) hx hb dX2_pointsOff_52 (by decide) ?_
              refine lv_idiv hx hb dX2_pointsOff_54 (by decide) ?_
              refine lv_imul hx hb dX2_pointsOff_55 ?_
              exact q_iretN C0 hw h ⟨(Nat.le_of_ble_eq_true rfl), (Nat.le_of_ble_eq_true rfl)⟩ dX2_pointsOff_56
            · skip
              refine lv_tableOut (tgt := 87) hx hb dX2_pointsOff_10 (by have t0 : ¬ Int32.toInt (M 53 j0 0) = 100 := lv_neT n0 (by decide); have t1 : ¬ Int32.toInt (M 53 j0 0) = 101 := lv_neT n1 (by decide); have t2 : ¬ Int32.toInt (M 53 j0 0) = 102 := lv_neT n2 (by decide); have t3 : ¬ Int32.toInt (M 53 j0 0) = 103 := lv_neT n3 (by decide); have t4 : ¬ Int32.toInt (M 53 j0 0) = 104 := lv_neT n4 (by decide); omega) (by decide) ?_
              refine lv_aload_n hx hb dX2_pointsOff_87 rfl (lv_at hl 0 rfl) ?_
              refine gf_Task_amount C0 hw hj0 (fun _ h9 => List.mem_cons_of_mem _ (List.mem_append_right _ h9)) (List.mem_of_getElem? (i := 2) rfl) dX2_pointsOff_88 ?_
              refine lv_iconst (v := 1) hx hb dX2_pointsOff_91 (by decide) ?_
              refine lv_bipush (v := 6) hx hb dX2_pointsOff_92 (by decide) ?_
              refine lv_iload_n hx hb dX2_pointsOff_94 rfl (lv_at hl 1 rfl) ?_
              refine lv_bipush (v := 60) hx hb dX2_pointsOff_95 (by decide) ?_
              refine lv_idiv hx hb dX2_pointsOff_97 (by decide) ?_
              refine q_min C0 hl.1 (List.forall_mem_cons.mpr ⟨(List.mem_of_getElem? (i := 3) rfl), (List.forall_mem_cons.mpr ⟨(List.mem_of_getElem? (i := 4) rfl), (List.forall_mem_cons.mpr ⟨(List.mem_of_getElem? (i := 5) rfl), (List.forall_mem_cons.mpr ⟨(List.mem_of_getElem? (i := 6) rfl), (fun _ h9 => absurd h9 List.not_mem_nil)⟩)⟩)⟩)⟩) (Nat.le_of_ble_eq_true rfl) (Nat.le_of_ble_eq_true rfl) ⟨(Nat.le_of_ble_eq_true rfl), (Nat.le_of_ble_eq_true rfl)⟩ dX2_pointsOff_98 ?_
              refine lv_ishl hx hb dX2_pointsOff_101 ?_
              refine lv_imul hx hb dX2_pointsOff_102 ?_
              exact q_iretN C0 hw h ⟨(Nat.le_of_ble_eq_true rfl), (Nat.le_of_ble_eq_true rfl)⟩ dX2_pointsOff_103
  · refine lv_iconst (v := 0) hx hb dX2_pointsOff_4 (by decide) ?_
    exact q_iretN C0 hw h ⟨(Nat.le_of_ble_eq_true rfl), (Nat.le_of_ble_eq_true rfl)⟩ dX2_pointsOff_5
/-! Homewatcher$Text.put(II)V -/
abbrev rmX3_put : Room := { frames := 1, cells := 0, slots := 0, locals := 80 }
def fX3_put_24 (F : Nat) (M : Mem) : Option (Mem × Unit) :=
    some (M, ())
set_option maxHeartbeats 4000000 in
set_option maxRecDepth 100000 in
theorem wX3_put_24 {p : Program} {l : Launch} {e : Env} {s : State} {m : MethodId} {args : Array Value} {below : List Frame} {meth : Method} {c : Code} {D : va_G} {cy : Nat → ClassId} {ad : Nat → Nat} {x : XX} {F : Nat} {r : Mem × Unit} (hst : l.stackTraces = false) (C0 : MX p l s m args meth c D cy ad cX3_put RX3 3 wsX3_put (none)) : ∀ (M : Mem) (H : Heap) (locs : List Loc) (ls : Array Slot), Wd D cy ad x s M H locs → lv_has ls 3 [] → fX3_put_24 F M = some r → W p l e rmX3_put s m args below meth c H locs 0 0 (QN D cy ad below args s x q_vv r 0 0) (F0 m 24 ls []) := by
  obtain ⟨hx, hb, hml, hown, hts, -⟩ := id C0
  intro M H locs ls hw hl h
  unfold fX3_put_24 at h
  exact q_vretN C0 hw h ⟨(Nat.le_of_ble_eq_true rfl), (Nat.le_of_ble_eq_true rfl)⟩ dX3_put_24
def fX3_put (F : Nat) (M : Mem) (j0 : Nat) (a0 : Int32) (a1 : Int32) : Option (Mem × Unit) :=
    if a0 < (0 : Int32) then
    (fX3_put_24 F M)
    else
    (if (M 8 j0 0) < a0 then
    (fX3_put_24 F M)
    else
    (if (M 8 j0 0) < (Int32.ofNat 40) then
    (q_ac a0 (a0 + (1 : Int32)) ((M 8 j0 0) - a0) 40 40 fun u2 u3 u4 =>
    q_lt (upA M 22 j0 (va_cpy (M 22 j0) (M 22 j0) u2 u3 u4)) fun M1 =>
    q_ax a0 40 fun j5 =>
    q_lt (up M1 22 j0 j5 a1) fun M6 =>
    q_lt (up M6 8 j0 0 ((M6 8 j0 0) + (1 : Int32))) fun M7 =>
    some (M7, ()))
    else
    (fX3_put_24 F M)))
set_option maxHeartbeats 4000000 in
set_option maxRecDepth 100000 in
theorem ctX3_put {l : Launch} (hst : l.stackTraces = false) {D : va_G} {cy : Nat → ClassId} {ad : Nat → Nat} {x : XX} {F : Nat} {M : Mem} {j0 : Nat} {a0 : Int32} {a1 : Int32} (hj0 : j0 < 61) {r : Mem × Unit} (h : fX3_put F M j0 a0 a1 = some r) : CN l yX3_put wsX3_put rmX3_put D cy ad [.ref (ad (cText j0)), .int a0, .int a1] x M x r.1 (q_vv r.2) 0 0 := by
  refine q_startN (cc := cX3_put) (maxL := 3) (ret := none) (by decide) rfl (Nat.le_of_ble_eq_true rfl) ?_
  intro p e s m args below meth c ls C0 hw hl hnm
  obtain ⟨hx, hb, hml, hown, hts, -⟩ := id C0
  have C0 : MX p l s m args meth c D cy ad cX3_put RX3 3 wsX3_put (none) := C0
  have hown : s.vm.findClass RX3 = some m.cls := hown
  have hl : lv_has ls 3 [(0, .ref (ad (cText j0))), (1, .int a0), (2, .int a1)] := hl
  show W p l e rmX3_put s m args below meth c s.heap [] 0 0 (QN D cy ad below args s x q_vv r 0 0) (F0 m 0 ls [])
  unfold fX3_put at h
  refine lv_iload_n hx hb dX3_put_0 rfl (lv_at hl 1 rfl) ?_
  refine q_if_lt (tgt := 24) hx hb dX3_put_1 (by decide) h (fun h => ?_) (fun h => ?_)
  · exact wX3_put_24 hst C0  M _ _ _ hw (lv_sub hl [] rfl) h
  · refine lv_iload_n hx hb dX3_put_4 rfl (lv_at hl 1 rfl) ?_
    refine lv_aload_n hx hb dX3_put_5 rfl (lv_at hl 0 rfl) ?_
    refine gf_Text_signs C0 hw hj0 (fun _ h9 => List.mem_cons_of_mem _ (List.mem_append_left _ (List.mem_append_right _ h9))) (List.mem_of_getElem? (i := 1) rfl) dX3_put_6 ?_
    refine q_icmp_gt (tgt := 24) hx hb dX3_put_9 (by decide) h (fun h => ?_) (fun h => ?_)
    · exact wX3_put_24 hst C0  M _ _ _ hw (lv_sub hl [] rfl) h
    · refine lv_aload_n hx hb dX3_put_12 rfl (lv_at hl 0 rfl) ?_
      refine gf_Text_signs C0 hw hj0 (fun _ h9 => List.mem_cons_of_mem _ (List.mem_append_left _ (List.mem_append_right _ h9))) (List.mem_of_getElem? (i := 1) rfl) dX3_put_13 ?_
      refine lv_aload_n hx hb dX3_put_16 rfl (lv_at hl 0 rfl) ?_
      refine gf_Text_codes C0 hw hj0 (fun _ h9 => List.mem_cons_of_mem _ (List.mem_append_left _ (List.mem_append_right _ h9))) (List.mem_of_getElem? (i := 2) rfl) dX3_put_17 ?_
      refine q_alen C0 hw (at_codes hj0) dX3_put_20 ?_
      refine q_icmp_lt (tgt := 25) hx hb dX3_put_21 (by decide) h (fun h => ?_) (fun h => ?_)
      · refine lv_aload_n hx hb dX3_put_25 rfl (lv_at hl 0 rfl) ?_
        refine gf_Text_codes C0 hw hj0 (fun _ h9 => List.mem_cons_of_mem _ (List.mem_append_left _ (List.mem_append_right _ h9))) (List.mem_of_getElem? (i := 2) rfl) dX3_put_26 ?_
        refine lv_iload_n hx hb dX3_put_29 rfl (lv_at hl 1 rfl) ?_
        refine lv_aload_n hx hb dX3_put_30 rfl (lv_at hl 0 rfl) ?_
        refine gf_Text_codes C0 hw hj0 (fun _ h9 => List.mem_cons_of_mem _ (List.mem_append_left _ (List.mem_append_right _ h9))) (List.mem_of_getElem? (i := 2) rfl) dX3_put_31 ?_
        refine lv_iload_n hx hb dX3_put_34 rfl (lv_at hl 1 rfl) ?_
        refine lv_iconst (v := 1) hx hb dX3_put_35 (by decide) ?_
        refine lv_iadd hx hb dX3_put_36 ?_
        refine lv_aload_n hx hb dX3_put_37 rfl (lv_at hl 0 rfl) ?_
        refine gf_Text_signs C0 hw hj0 (fun _ h9 => List.mem_cons_of_mem _ (List.mem_append_left _ (List.mem_append_right _ h9))) (List.mem_of_getElem? (i := 1) rfl) dX3_put_38 ?_
        refine lv_iload_n hx hb dX3_put_41 rfl (lv_at hl 1 rfl) ?_
        refine lv_isub hx hb dX3_put_42 ?_
        refine q_acopy (v0 := 22) (v1 := 22) C0 hw hl.1 (at_codes hj0) rfl (fun _ => (at_codes hj0)) (List.forall_mem_cons.mpr ⟨(List.mem_of_getElem? (i := 3) rfl), (List.forall_mem_cons.mpr ⟨(List.mem_of_getElem? (i := 4) rfl), (List.forall_mem_cons.mpr ⟨(List.mem_of_getElem? (i := 5) rfl), (List.forall_mem_cons.mpr ⟨(List.mem_of_getElem? (i := 6) rfl), (fun _ h9 => absurd h9 List.not_mem_nil)⟩)⟩)⟩)⟩) (Nat.le_of_ble_eq_true rfl) (Nat.le_of_ble_eq_true rfl) h dX3_put_43 (fun u2 u3 u4 M1 H locs hw h => ?_)
        refine lv_aload_n hx hb dX3_put_46 rfl (lv_at hl 0 rfl) ?_
        refine gf_Text_codes C0 hw hj0 (fun _ h9 => List.mem_cons_of_mem _ (List.mem_append_left _ (List.mem_append_right _ h9))) (List.mem_of_getElem? (i := 2) rfl) dX3_put_47 ?_
        refine lv_iload_n hx hb dX3_put_50 rfl (lv_at hl 1 rfl) ?_
        refine lv_iload_n hx hb dX3_put_51 rfl (lv_at hl 2 rfl) ?_
        refine q_iast (v := 22) C0 hw rfl (fun _ => (at_codes hj0)) h dX3_put_52 (fun j5 M6 H locs hj5 hw h => ?_)
        refine lv_aload_n hx hb dX3_put_53 rfl (lv_at hl 0 rfl) ?_
        refine lv_dup hx hb dX3_put_54 rfl ?_
        refine gf_Text_signs C0 hw hj0 (fun _ h9 => List.mem_cons_of_mem _ (List.mem_append_left _ (List.mem_append_right _ h9))) (List.mem_of_getElem? (i := 1) rfl) dX3_put_55 ?_
        refine lv_iconst (v := 1) hx hb dX3_put_58 (by decide) ?_
        refine lv_iadd hx hb dX3_put_59 ?_
        refine pf_Text_signs C0 hw hj0 (fun _ h9 => List.mem_cons_of_mem _ (List.mem_append_left _ (List.mem_append_right _ h9))) (List.mem_of_getElem? (i := 1) rfl) dX3_put_60 h (fun M7 H locs hw h => ?_)
        exact q_vretN C0 hw h ⟨(Nat.le_of_ble_eq_true rfl), (Nat.le_of_ble_eq_true rfl)⟩ dX3_put_63
      · exact wX3_put_24 hst C0  M _ _ _ hw (lv_sub hl [] rfl) h
/-! Homewatcher$Text.copyFrom(LHomewatcher$Text;)V -/
abbrev rmX3_copyFrom : Room := { frames := 1, cells := 0, slots := 0, locals := 80 }
def fX3_copyFrom (F : Nat) (M : Mem) (j0 : Nat) (j1 : Nat) : Option (Mem × Unit) :=
    q_ac (0 : Int32) (0 : Int32) (Int32.ofNat 40) 40 40 fun u2 u3 u4 =>
    q_lt (upA M 22 j0 (va_cpy (M 22 j1) (M 22 j0) u2 u3 u4)) fun M1 =>
    q_lt (up M1 8 j0 0 (M1 8 j1 0)) fun M5 =>
    some (M5, ())
set_option maxHeartbeats 4000000 in
set_option maxRecDepth 100000 in
theorem ctX3_copyFrom {l : Launch} (hst : l.stackTraces = false) {D : va_G} {cy : Nat → ClassId} {ad : Nat → Nat} {x : XX} {F : Nat} {M : Mem} {j0 : Nat} {j1 : Nat} (hj0 : j0 < 61) (hj1 : j1 < 61) {r : Mem × Unit} (h : fX3_copyFrom F M j0 j1 = some r) : CN l yX3_copyFrom wsX3_copyFrom rmX3_copyFrom D cy ad [.ref (ad (cText j0)), .ref (ad (cText j1))] x M x r.1 (q_vv r.2) 0 0 := by
  refine q_startN (cc := cX3_copyFrom) (maxL := 2) (ret := none) (by decide) rfl (Nat.le_of_ble_eq_true rfl) ?_
  intro p e s m args below meth c ls C0 hw hl hnm
  obtain ⟨hx, hb, hml, hown, hts, -⟩ := id C0
  have C0 : MX p l s m args meth c D cy ad cX3_copyFrom RX3 2 wsX3_copyFrom (none) := C0
  have hown : s.vm.findClass RX3 = some m.cls := hown
  have hl : lv_has ls 2 [(0, .ref (ad (cText j0))), (1, .ref (ad (cText j1)))] := hl
  show W p l e rmX3_copyFrom s m args below meth c s.heap [] 0 0 (QN D cy ad below args s x q_vv r 0 0) (F0 m 0 ls [])
  unfold fX3_copyFrom at h
  refine lv_aload_n hx hb dX3_copyFrom_0 rfl (lv_at hl 1 rfl) ?_
  refine gf_Text_codes C0 hw hj1 (fun _ h9 => List.mem_cons_of_mem _ (List.mem_append_right _ h9)) (List.mem_of_getElem? (i := 1) rfl) dX3_copyFrom_1 ?_
  refine lv_iconst (v := 0) hx hb dX3_copyFrom_4 (by decide) ?_
  refine lv_aload_n hx hb dX3_copyFrom_5 rfl (lv_at hl 0 rfl) ?_
  refine gf_Text_codes C0 hw hj0 (fun _ h9 => List.mem_cons_of_mem _ (List.mem_append_right _ h9)) (List.mem_of_getElem? (i := 1) rfl) dX3_copyFrom_6 ?_
  refine lv_iconst (v := 0) hx hb dX3_copyFrom_9 (by decide) ?_
  refine lv_aload_n hx hb dX3_copyFrom_10 rfl (lv_at hl 0 rfl) ?_
  refine gf_Text_codes C0 hw hj0 (fun _ h9 => List.mem_cons_of_mem _ (List.mem_append_right _ h9)) (List.mem_of_getElem? (i := 1) rfl) dX3_copyFrom_11 ?_
  refine q_alen C0 hw (at_codes hj0) dX3_copyFrom_14 ?_
  refine q_acopy (v0 := 22) (v1 := 22) C0 hw hl.1 (at_codes hj1) rfl (fun _ => (at_codes hj0)) (List.forall_mem_cons.mpr ⟨(List.mem_of_getElem? (i := 2) rfl), (List.forall_mem_cons.mpr ⟨(List.mem_of_getElem? (i := 3) rfl), (List.forall_mem_cons.mpr ⟨(List.mem_of_getElem? (i := 4) rfl), (List.forall_mem_cons.mpr ⟨(List.mem_of_getElem? (i := 5) rfl), (fun _ h9 => absurd h9 List.not_mem_nil)⟩)⟩)⟩)⟩) (Nat.le_of_ble_eq_true rfl) (Nat.le_of_ble_eq_true rfl) h dX3_copyFrom_15 (fun u2 u3 u4 M1 H locs hw h => ?_)
  refine lv_aload_n hx hb dX3_copyFrom_18 rfl (lv_at hl 0 rfl) ?_
  refine lv_aload_n hx hb dX3_copyFrom_19 rfl (lv_at hl 1 rfl) ?_
  refine gf_Text_signs C0 hw hj1 (fun _ h9 => List.mem_cons_of_mem _ (List.mem_append_right _ h9)) (List.mem_of_getElem? (i := 6) rfl) dX3_copyFrom_20 ?_
  refine pf_Text_signs C0 hw hj0 (fun _ h9 => List.mem_cons_of_mem _ (List.mem_append_right _ h9)) (List.mem_of_getElem? (i := 6) rfl) dX3_copyFrom_23 h (fun M5 H locs hw h => ?_)
  exact q_vretN C0 hw h ⟨(Nat.le_of_ble_eq_true rfl), (Nat.le_of_ble_eq_true rfl)⟩ dX3_copyFrom_26
/-! Homewatcher$Text.turn()V -/
abbrev rmX3_turn : Room := { frames := 0, cells := 0, slots := 0, locals := 0 }
def fX3_turn_9 (F : Nat) : Nat → Mem → Nat → Int32 → Int32 → Option (Mem × Unit)
  | 0, _, _, _, _ => none
  | n + 1, M, v0, v1, v2 =>
    if v2 ≤ v1 then
    (some (M, ()))
    else
    (q_ax v1 40 fun j1 =>
    q_lt (M 22 v0 j1) fun z2 =>
    q_ax v2 40 fun j3 =>
    q_ax v1 40 fun j4 =>
    q_lt (up M 22 v0 j4 (M 22 v0 j3)) fun M5 =>
    q_ax v2 40 fun j6 =>
    q_lt (up M5 22 v0 j6 z2) fun M7 =>
    q_lt (v1 + (1 : Int32)) fun z8 =>
    q_lt (v2 + (-1 : Int32)) fun z9 =>
    fX3_turn_9 F n M7 v0 z8 z9)
set_option maxHeartbeats 4000000 in
set_option maxRecDepth 100000 in
theorem wX3_turn_9 {p : Program} {l : Launch} {e : Env} {s : State} {m : MethodId} {args : Array Value} {below : List Frame} {meth : Method} {c : Code} {D : va_G} {cy : Nat → ClassId} {ad : Nat → Nat} {x : XX} {F : Nat} {r : Mem × Unit} (hst : l.stackTraces = false) (C0 : MX p l s m args meth c D cy ad cX3_turn RX3 4 wsX3_turn (none)) : ∀ (n : Nat) (M : Mem) (v0 : Nat) (v1 : Int32) (v2 : Int32) (hv0 : v0 < 61) (H : Heap) (locs : List Loc) (ls : Array Slot), Wd D cy ad x s M H locs → lv_has ls 4 [(0, .ref (ad (cText v0))), (1, .int v1), (2, .int v2)] → fX3_turn_9 F n M v0 v1 v2 = some r → W p l e rmX3_turn s m args below meth c H locs 0 0 (QN D cy ad below args s x q_vv r 0 0) (F0 m 9 ls []) := by
  obtain ⟨hx, hb, hml, hown, hts, -⟩ := id C0
  intro n
  induction n with
  | zero =>
    intro M v0 v1 v2 hv0 H locs ls hw hl h
    exact q_no h
  | succ n ih =>
    intro M v0 v1 v2 hv0 H locs ls hw hl h
    unfold fX3_turn_9 at h
    refine lv_iload_n hx hb dX3_turn_9 rfl (lv_at hl 1 rfl) ?_
    refine lv_iload_n hx hb dX3_turn_10 rfl (lv_at hl 2 rfl) ?_
    refine q_icmp_ge (tgt := 49) hx hb dX3_turn_11 (by decide) h (fun h => ?_) (fun h => ?_)
    · exact q_vretN C0 hw h ⟨(Nat.le_of_ble_eq_true rfl), (Nat.le_of_ble_eq_true rfl)⟩ dX3_turn_49
    · refine lv_aload_n hx hb dX3_turn_14 rfl (lv_at hl 0 rfl) ?_
      refine gf_Text_codes C0 hw hv0 (fun _ h9 => List.mem_cons_of_mem _ (List.mem_append_left _ (List.mem_append_right _ h9))) (List.mem_of_getElem? (i := 2) rfl) dX3_turn_15 ?_
      refine lv_iload_n hx hb dX3_turn_18 rfl (lv_at hl 1 rfl) ?_
      refine q_iald C0 hw (at_codes hv0) h dX3_turn_19 (fun j1 hj1 h => ?_)
      refine q_istore_n (lv' := fun z2 => [(3, .int z2), (0, .ref (ad (cText v0))), (1, .int v1), (2, .int v2)]) hx hb dX3_turn_20 rfl hl (by decide) (fun _ => rfl) h (fun z2 ls hl h => ?_)
      refine lv_aload_n hx hb dX3_turn_21 rfl (lv_at hl 1 rfl) ?_
      refine gf_Text_codes C0 hw hv0 (fun _ h9 => List.mem_cons_of_mem _ (List.mem_append_left _ (List.mem_append_right _ h9))) (List.mem_of_getElem? (i := 2) rfl) dX3_turn_22 ?_
      refine lv_iload_n hx hb dX3_turn_25 rfl (lv_at hl 2 rfl) ?_
      refine lv_aload_n hx hb dX3_turn_26 rfl (lv_at hl 1 rfl) ?_
      refine gf_Text_codes C0 hw hv0 (fun _ h9 => List.mem_cons_of_mem _ (List.mem_append_left _ (List.mem_append_right _ h9))) (List.mem_of_getElem? (i := 2) rfl) dX3_turn_27 ?_
      refine lv_iload_n hx hb dX3_turn_30 rfl (lv_at hl 3 rfl) ?_
      refine q_iald C0 hw (at_codes hv0) h dX3_turn_31 (fun j3 hj3 h => ?_)
      refine q_iast (v := 22) C0 hw rfl (fun _ => (at_codes hv0)) h dX3_turn_32 (fun j4 M5 H locs hj4 hw h => ?_)
      refine lv_aload_n hx hb dX3_turn_33 rfl (lv_at hl 1 rfl) ?_
      refine gf_Text_codes C0 hw hv0 (fun _ h9 => List.mem_cons_of_mem _ (List.mem_append_left _ (List.mem_append_right _ h9))) (List.mem_of_getElem? (i := 2) rfl) dX3_turn_34 ?_
      refine lv_iload_n hx hb dX3_turn_37 rfl (lv_at hl 3 rfl) ?_
      refine lv_iload_n hx hb dX3_turn_38 rfl (lv_at hl 0 rfl) ?_
      refine q_iast (v := 22) C0 hw rfl (fun _ => (at_codes hv0)) h dX3_turn_39 (fun j6 M7 H locs hj6 hw h => ?_)
      refine q_iinc (k := 2) (cst := 1) (lv' := fun z8 => [(1, .int z8), (3, .int z2), (0, .ref (ad (cText v0))), (2, .int v2)]) hx hb dX3_turn_40 hl rfl rfl (by decide) (fun _ => rfl) h (fun z8 ls hl h => ?_)
      refine q_iinc (k := 3) (cst := -1) (lv' := fun z9 => [(2, .int z9), (1, .int z8), (3, .int z2), (0, .ref (ad (cText v0)))]) hx hb dX3_turn_43 hl rfl rfl (by decide) (fun _ => rfl) h (fun z9 ls hl h => ?_)
      refine lv_goto (tgt := 9) hx hb dX3_turn_46 (by decide) ?_
      exact ih M7 v0 z8 z9 hv0 _ _ _ hw (lv_sub hl [3, 1, 0] rfl) h
def fX3_turn (F : Nat) (M : Mem) (j0 : Nat) : Option (Mem × Unit) :=
    q_lt ((0 : Int32)) fun z1 =>
    q_lt ((M 8 j0 0) - (1 : Int32)) fun z2 =>
    fX3_turn_9 F F M j0 z1 z2
set_option maxHeartbeats 4000000 in
set_option maxRecDepth 100000 in
theorem ctX3_turn {l : Launch} (hst : l.stackTraces = false) {D : va_G} {cy : Nat → ClassId} {ad : Nat → Nat} {x : XX} {F : Nat} {M : Mem} {j0 : Nat} (hj0 : j0 < 61) {r : Mem × Unit} (h : fX3_turn F M j0 = some r) : CN l yX3_turn wsX3_turn rmX3_turn D cy ad [.ref (ad (cText j0))] x M x r.1 (q_vv r.2) 0 0 := by
  refine q_startN (cc := cX3_turn) (maxL := 4) (ret := none) (by decide) rfl (Nat.le_of_ble_eq_true rfl) ?_
  intro p e s m args below meth c ls C0 hw hl hnm
  obtain ⟨hx, hb, hml, hown, hts, -⟩ := id C0
  have C0 : MX p l s m args meth c D cy ad cX3_turn RX3 4 wsX3_turn (none) := C0
  have hown : s.vm.findClass RX3 = some m.cls := hown
  have hl : lv_has ls 4 [(0, .ref (ad (cText j0)))] := hl
  show W p l e rmX3_turn s m args below meth c s.heap [] 0 0 (QN D cy ad below args s x q_vv r 0 0) (F0 m 0 ls [])
  unfold fX3_turn at h
  refine lv_iconst (v := 0) hx hb dX3_turn_0 (by decide) ?_
  refine q_istore_n (lv' := fun z1 => [(1, .int z1), (0, .ref (ad (cText j0)))]) hx hb dX3_turn_1 rfl hl (by decide) (fun _ => rfl) h (fun z1 ls hl h => ?_)
  refine lv_aload_n hx hb dX3_turn_2 rfl (lv_at hl 1 rfl) ?_
  refine gf_Text_signs C0 hw hj0 (fun _ h9 => List.mem_cons_of_mem _ (List.mem_append_left _ (List.mem_append_right _ h9))) (List.mem_of_getElem? (i := 1) rfl) dX3_turn_3 ?_
  refine lv_iconst (v := 1) hx hb dX3_turn_6 (by decide) ?_
  refine lv_isub hx hb dX3_turn_7 ?_
  refine q_istore_n (lv' := fun z2 => [(2, .int z2), (1, .int z1), (0, .ref (ad (cText j0)))]) hx hb dX3_turn_8 rfl hl (by decide) (fun _ => rfl) h (fun z2 ls hl h => ?_)
  exact wX3_turn_9 hst C0  F M j0 z1 z2 hj0 _ _ _ hw (lv_sub hl [2, 1, 0] rfl) h
/-! Homewatcher$Text.width(I)I -/
abbrev rmX3_width : Room := { frames := 0, cells := 0, slots := 0, locals := 0 }
def fX3_width_11 (F : Nat) (M : Mem) (s0 : Int32) : Option (Mem × Int32) :=
    some (M, s0)
set_option maxHeartbeats 4000000 in
set_option maxRecDepth 100000 in
theorem wX3_width_11 {p : Program} {l : Launch} {e : Env} {s : State} {m : MethodId} {args : Array Value} {below : List Frame} {meth : Method} {c : Code} {D : va_G} {cy : Nat → ClassId} {ad : Nat → Nat} {x : XX} {F : Nat} {r : Mem × Int32} (hst : l.stackTraces = false) (C0 : MX p l s m args meth c D cy ad cX3_width RX3 1 wsX3_width (some .int)) : ∀ (M : Mem) (s0 : Int32) (H : Heap) (locs : List Loc) (ls : Array Slot), Wd D cy ad x s M H locs → lv_has ls 1 [] → fX3_width_11 F M s0 = some r → W p l e rmX3_width s m args below meth c H locs 0 0 (QN D cy ad below args s x q_vi r 0 0) (F0 m 11 ls [.int s0]) := by
  obtain ⟨hx, hb, hml, hown, hts, -⟩ := id C0
  intro M s0 H locs ls hw hl h
  unfold fX3_width_11 at h
  exact q_iretN C0 hw h ⟨(Nat.le_of_ble_eq_true rfl), (Nat.le_of_ble_eq_true rfl)⟩ dX3_width_11
def fX3_width (F : Nat) (M : Mem) (a0 : Int32) : Option (Mem × Int32) :=
    if a0 ≤ (65535 : Int32) then
    (fX3_width_11 F M (1 : Int32))
    else
    (fX3_width_11 F M (2 : Int32))
set_option maxHeartbeats 4000000 in
set_option maxRecDepth 100000 in
theorem ctX3_width {l : Launch} (hst : l.stackTraces = false) {D : va_G} {cy : Nat → ClassId} {ad : Nat → Nat} {x : XX} {F : Nat} {M : Mem} {a0 : Int32} {r : Mem × Int32} (h : fX3_width F M a0 = some r) : CN l yX3_width wsX3_width rmX3_width D cy ad [.int a0] x M x r.1 (q_vi r.2) 0 0 := by
  refine q_startN (cc := cX3_width) (maxL := 1) (ret := (some .int)) (by decide) rfl (Nat.le_of_ble_eq_true rfl) ?_
  intro p e s m args below meth c ls C0 hw hl hnm
  obtain ⟨hx, hb, hml, hown, hts, -⟩ := id C0
  have C0 : MX p l s m args meth c D cy ad cX3_width RX3 1 wsX3_width ((some .int)) := C0
  have hown : s.vm.findClass RX3 = some m.cls := hown
  have hl : lv_has ls 1 [(0, .int a0)] := hl
  show W p l e rmX3_width s m args below meth c s.heap [] 0 0 (QN D cy ad below args s x q_vi r 0 0) (F0 m 0 ls [])
  unfold fX3_width at h
  refine lv_iload_n hx hb dX3_width_0 rfl (lv_at hl 0 rfl) ?_
  refine lv_ldc (v := 65535) hx hb hown (hts _ (List.mem_of_getElem? (i := 1) rfl)) dX3_width_1 ?_
  refine q_icmp_le (tgt := 10) hx hb dX3_width_3 (by decide) h (fun h => ?_) (fun h => ?_)
  · refine lv_iconst (v := 1) hx hb dX3_width_10 (by decide) ?_
    exact wX3_width_11 hst C0  M (1 : Int32) _ _ _ hw (lv_sub hl [] rfl) h
  · refine lv_iconst (v := 2) hx hb dX3_width_6 (by decide) ?_
    refine lv_goto (tgt := 11) hx hb dX3_width_7 (by decide) ?_
    exact wX3_width_11 hst C0  M (2 : Int32) _ _ _ hw (lv_sub hl [] rfl) h
/-! Homewatcher$Text.part(II)C -/
abbrev rmX3_part : Room := { frames := 0, cells := 0, slots := 0, locals := 0 }
def fX3_part_36 (F : Nat) (M : Mem) (s0 : Int32) : Option (Mem × Int32) :=
    q_gd (q_isC ((s0.toUInt32 % 65536).toInt32)) (
    some (M, (s0.toUInt32 % 65536).toInt32))
set_option maxHeartbeats 4000000 in
set_option maxRecDepth 100000 in
theorem wX3_part_36 {p : Program} {l : Launch} {e : Env} {s : State} {m : MethodId} {args : Array Value} {below : List Frame} {meth : Method} {c : Code} {D : va_G} {cy : Nat → ClassId} {ad : Nat → Nat} {x : XX} {F : Nat} {r : Mem × Int32} (hst : l.stackTraces = false) (C0 : MX p l s m args meth c D cy ad cX3_part RX3 3 wsX3_part (some .char)) : ∀ (M : Mem) (s0 : Int32) (H : Heap) (locs : List Loc) (ls : Array Slot), Wd D cy ad x s M H locs → lv_has ls 3 [] → fX3_part_36 F M s0 = some r → W p l e rmX3_part s m args below meth c H locs 0 0 (QN D cy ad below args s x q_vi r 0 0) (F0 m 36 ls [.int s0]) := by
  obtain ⟨hx, hb, hml, hown, hts, -⟩ := id C0
  intro M s0 H locs ls hw hl h
  unfold fX3_part_36 at h
  refine lv_i2c hx hb dX3_part_36 rfl ?_
  refine q_guard h (fun g h => ?_)
  exact q_zretN C0 hw (q_isC_in g).1 h ⟨(Nat.le_of_ble_eq_true rfl), (Nat.le_of_ble_eq_true rfl)⟩ dX3_part_37
def fX3_part (F : Nat) (M : Mem) (a0 : Int32) (a1 : Int32) : Option (Mem × Int32) :=
    if (65535 : Int32) < a0 then
    (q_lt (a0 - (65536 : Int32)) fun z1 =>
    if a1 = (0 : Int32) then
    (fX3_part_36 F M ((55296 : Int32) + (z1 >>> ((10 : Int32) &&& 31))))
    else
    (fX3_part_36 F M ((56320 : Int32) + (z1 &&& (1023 : Int32)))))
    else
    (q_gd (q_isC ((a0.toUInt32 % 65536).toInt32)) (
    some (M, (a0.toUInt32 % 65536).toInt32)))
set_option maxHeartbeats 4000000 in
set_option maxRecDepth 100000 in
theorem ctX3_part {l : Launch} (hst : l.stackTraces = false) {D : va_G} {cy : Nat → ClassId} {ad : Nat → Nat} {x : XX} {F : Nat} {M : Mem} {a0 : Int32} {a1 : Int32} {r : Mem × Int32} (h : fX3_part F M a0 a1 = some r) : CN l yX3_part wsX3_part rmX3_part D cy ad [.int a0, .int a1] x M x r.1 (q_vi r.2) 0 0 := by
  refine q_startN (cc := cX3_part) (maxL := 3) (ret := (some .char)) (by decide) rfl (Nat.le_of_ble_eq_true rfl) ?_
  intro p e s m args below meth c ls C0 hw hl hnm
  obtain ⟨hx, hb, hml, hown, hts, -⟩ := id C0
  have C0 : MX p l s m args meth c D cy ad cX3_part RX3 3 wsX3_part ((some .char)) := C0
  have hown : s.vm.findClass RX3 = some m.cls := hown
  have hl : lv_has ls 3 [(0, .int a0), (1, .int a1)] := hl
  show W p l e rmX3_part s m args below meth c s.heap [] 0 0 (QN D cy ad below args s x q_vi r 0 0) (F0 m 0 ls [])
  unfold fX3_part at h
  refine lv_iload_n hx hb dX3_part_0 rfl (lv_at hl 0 rfl) ?_
  refine lv_ldc (v := 65535) hx hb hown (hts _ (List.mem_of_getElem? (i := 1) rfl)) dX3_part_1 ?_
  refine q_icmp_gt (tgt := 9) hx hb dX3_part_3 (by decide) h (fun h => ?_) (fun h => ?_)
  · refine lv_iload_n hx hb dX3_part_9 rfl (lv_at hl 0 rfl) ?_
    refine lv_ldc (v := 65536) hx hb hown (hts _ (List.mem_of_getElem? (i := 2) rfl)) dX3_part_10 ?_
    refine lv_isub hx hb dX3_part_12 ?_
    refine q_istore_n (lv' := fun z1 => [(2, .int z1), (0, .int a0), (1, .int a1)]) hx hb dX3_part_13 rfl hl (by decide) (fun _ => rfl) h (fun z1 ls hl h => ?_)
    refine lv_iload_n hx hb dX3_part_14 rfl (lv_at hl 2 rfl) ?_
    refine q_if_ne (tgt := 28) hx hb dX3_part_15 (by decide) h (fun h => ?_) (fun h => ?_)
    · refine lv_ldc (v := 56320) hx hb hown (hts _ (List.mem_of_getElem? (i := 4) rfl)) dX3_part_28 ?_
      refine lv_iload_n hx hb dX3_part_30 rfl (lv_at hl 0 rfl) ?_
      refine lv_sipush (v := 1023) hx hb dX3_part_31 (by decide) ?_
      refine lv_iand hx hb dX3_part_34 ?_
      refine lv_iadd hx hb dX3_part_35 ?_
      exact wX3_part_36 hst C0  M ((56320 : Int32) + (z1 &&& (1023 : Int32))) _ _ _ hw (lv_sub hl [] rfl) h
    · refine lv_ldc (v := 55296) hx hb hown (hts _ (List.mem_of_getElem? (i := 3) rfl)) dX3_part_18 ?_
      refine lv_iload_n hx hb dX3_part_20 rfl (lv_at hl 0 rfl) ?_
      refine lv_bipush (v := 10) hx hb dX3_part_21 (by decide) ?_
      refine lv_ishr hx hb dX3_part_23 ?_
      refine lv_iadd hx hb dX3_part_24 ?_
      refine lv_goto (tgt := 36) hx hb dX3_part_25 (by decide) ?_
      exact wX3_part_36 hst C0  M ((55296 : Int32) + (z1 >>> ((10 : Int32) &&& 31))) _ _ _ hw (lv_sub hl [] rfl) h
  · refine lv_iload_n hx hb dX3_part_6 rfl (lv_at hl 0 rfl) ?_
    refine lv_i2c hx hb dX3_part_7 rfl ?_
    refine q_guard h (fun g h => ?_)
    exact q_zretN C0 hw (q_isC_in g).1 h ⟨(Nat.le_of_ble_eq_true rfl), (Nat.le_of_ble_eq_true rfl)⟩ dX3_part_8
/-! Homewatcher$Text.countChars()I -/
abbrev rmX3_countChars : Room := { frames := 1, cells := 0, slots := 0, locals := 20 }
def fX3_countChars_4 (F : Nat) : Nat → Mem → Nat → Int32 → Int32 → Option (Mem × Int32)
  | 0, _, _, _, _ => none
  | n + 1, M, v0, v1, v2 =>
    if (M 8 v0 0) ≤ v2 then
    (some (M, v1))
    else
    (q_ax v2 40 fun j1 =>
    q_bn (fX3_width F M (M 22 v0 j1)) fun M2 z3 =>
    q_lt (v1 + z3) fun z4 =>
    q_lt (v2 + (1 : Int32)) fun z5 =>
    fX3_countChars_4 F n M2 v0 z4 z5)
set_option maxHeartbeats 4000000 in
set_option maxRecDepth 100000 in
theorem wX3_countChars_4 {p : Program} {l : Launch} {e : Env} {s : State} {m : MethodId} {args : Array Value} {below : List Frame} {meth : Method} {c : Code} {D : va_G} {cy : Nat → ClassId} {ad : Nat → Nat} {x : XX} {F : Nat} {r : Mem × Int32} (hst : l.stackTraces = false) (C0 : MX p l s m args meth c D cy ad cX3_countChars RX3 3 wsX3_countChars (some .int)) : ∀ (n : Nat) (M : Mem) (v0 : Nat) (v1 : Int32) (v2 : Int32) (hv0 : v0 < 61) (H : Heap) (locs : List Loc) (ls : Array Slot), Wd D cy ad x s M H locs → lv_has ls 3 [(0, .ref (ad (cText v0))), (1, .int v1), (2, .int v2)] → fX3_countChars_4 F n M v0 v1 v2 = some r → W p l e rmX3_countChars s m args below meth c H locs 0 0 (QN D cy ad below args s x q_vi r 0 0) (F0 m 4 ls []) := by
  obtain ⟨hx, hb, hml, hown, hts, -⟩ := id C0
  intro n
  induction n with
  | zero =>
    intro M v0 v1 v2 hv0 H locs ls hw hl h
    exact q_no h
  | succ n ih =>
    intro M v0 v1 v2 hv0 H locs ls hw hl h
    unfold fX3_countChars_4 at h
    refine lv_iload_n hx hb dX3_countChars_4 rfl (lv_at hl 2 rfl) ?_
    refine lv_aload_n hx hb dX3_countChars_5 rfl (lv_at hl 0 rfl) ?_
    refine gf_Text_signs C0 hw hv0 (fun _ h9 => List.mem_cons_of_mem _ (List.mem_append_left _ (List.mem_append_right _ h9))) (List.mem_of_getElem? (i := 1) rfl) dX3_countChars_6 ?_
    refine q_icmp_ge (tgt := 30) hx hb dX3_countChars_9 (by decide) h (fun h => ?_) (fun h => ?_)
    · refine lv_iload_n hx hb dX3_countChars_30 rfl (lv_at hl 1 rfl) ?_
      exact q_iretN C0 hw h ⟨(Nat.le_of_ble_eq_true rfl), (Nat.le_of_ble_eq_true rfl)⟩ dX3_countChars_31
    · refine lv_iload_n hx hb dX3_countChars_12 rfl (lv_at hl 1 rfl) ?_
      refine lv_aload_n hx hb dX3_countChars_13 rfl (lv_at hl 0 rfl) ?_
      refine gf_Text_codes C0 hw hv0 (fun _ h9 => List.mem_cons_of_mem _ (List.mem_append_left _ (List.mem_append_right _ h9))) (List.mem_of_getElem? (i := 2) rfl) dX3_countChars_14 ?_
      refine lv_iload_n hx hb dX3_countChars_17 rfl (lv_at hl 2 rfl) ?_
      refine q_iald C0 hw (at_codes hv0) h dX3_countChars_18 (fun j1 hj1 h => ?_)
      refine q_callSNi (As := [.int (M 22 v0 j1)]) (nA := 1) C0 hw (fun r1 h1 => ctX3_width hst h1) gX3_countChars_X3_width rfl ⟨rfl, rfl⟩ (by decide +kernel) rfl ⟨(Nat.le_of_ble_eq_true rfl), (Nat.le_of_ble_eq_true rfl)⟩ hl.1 (Nat.le_of_ble_eq_true rfl) ⟨(Nat.le_of_ble_eq_true rfl), (Nat.le_of_ble_eq_true rfl)⟩ rfl h dX3_countChars_19 (fun M2 z3 H locs hw h => ?_)
      refine lv_iadd hx hb dX3_countChars_22 ?_
      refine q_istore_n (lv' := fun z4 => [(1, .int z4), (0, .ref (ad (cText v0))), (2, .int v2)]) hx hb dX3_countChars_23 rfl hl (by decide) (fun _ => rfl) h (fun z4 ls hl h => ?_)
      refine q_iinc (k := 2) (cst := 1) (lv' := fun z5 => [(2, .int z5), (1, .int z4), (0, .ref (ad (cText v0)))]) hx hb dX3_countChars_24 hl rfl rfl (by decide) (fun _ => rfl) h (fun z5 ls hl h => ?_)
      refine lv_goto (tgt := 4) hx hb dX3_countChars_27 (by decide) ?_
      exact ih M2 v0 z4 z5 hv0 _ _ _ hw (lv_sub hl [2, 1, 0] rfl) h
def fX3_countChars (F : Nat) (M : Mem) (j0 : Nat) : Option (Mem × Int32) :=
    q_lt ((0 : Int32)) fun z1 =>
    q_lt ((0 : Int32)) fun z2 =>
    fX3_countChars_4 F F M j0 z1 z2
set_option maxHeartbeats 4000000 in
set_option maxRecDepth 100000 in
theorem ctX3_countChars {l : Launch} (hst : l.stackTraces = false) {D : va_G} {cy : Nat → ClassId} {ad : Nat → Nat} {x : XX} {F : Nat} {M : Mem} {j0 : Nat} (hj0 : j0 < 61) {r : Mem × Int32} (h : fX3_countChars F M j0 = some r) : CN l yX3_countChars wsX3_countChars rmX3_countChars D cy ad [.ref (ad (cText j0))] x M x r.1 (q_vi r.2) 0 0 := by
  refine q_startN (cc := cX3_countChars) (maxL := 3) (ret := (some .int)) (by decide) rfl (Nat.le_of_ble_eq_true rfl) ?_
  intro p e s m args below meth c ls C0 hw hl hnm
  obtain ⟨hx, hb, hml, hown, hts, -⟩ := id C0
  have C0 : MX p l s m args meth c D cy ad cX3_countChars RX3 3 wsX3_countChars ((some .int)) := C0
  have hown : s.vm.findClass RX3 = some m.cls := hown
  have hl : lv_has ls 3 [(0, .ref (ad (cText j0)))] := hl
  show W p l e rmX3_countChars s m args below meth c s.heap [] 0 0 (QN D cy ad below args s x q_vi r 0 0) (F0 m 0 ls [])
  unfold fX3_countChars at h
  refine lv_iconst (v := 0) hx hb dX3_countChars_0 (by decide) ?_
  refine q_istore_n (lv' := fun z1 => [(1, .int z1), (0, .ref (ad (cText j0)))]) hx hb dX3_countChars_1 rfl hl (by decide) (fun _ => rfl) h (fun z1 ls hl h => ?_)
  refine lv_iconst (v := 0) hx hb dX3_countChars_2 (by decide) ?_
  refine q_istore_n (lv' := fun z2 => [(2, .int z2), (1, .int z1), (0, .ref (ad (cText j0)))]) hx hb dX3_countChars_3 rfl hl (by decide) (fun _ => rfl) h (fun z2 ls hl h => ?_)
  exact wX3_countChars_4 hst C0  F M j0 z1 z2 hj0 _ _ _ hw (lv_sub hl [2, 1, 0] rfl) h
/-! Homewatcher$Text.charIn(I)C -/
abbrev rmX3_charIn : Room := { frames := 1, cells := 0, slots := 0, locals := 22 }
def fX3_charIn_4 (F : Nat) : Nat → Mem → Nat → Int32 → Int32 → Option (Mem × Int32)
  | 0, _, _, _, _ => none
  | n + 1, M, v0, v2, v3 =>
    if (M 8 v0 0) ≤ v3 then
    (some (M, (0 : Int32)))
    else
    (q_ax v3 40 fun j1 =>
    q_bn (fX3_width F M (M 22 v0 j1)) fun M2 z3 =>
    if z3 ≤ v2 then
    (q_ax v3 40 fun j4 =>
    q_bn (fX3_width F M2 (M2 22 v0 j4)) fun M5 z6 =>
    q_lt (v2 - z6) fun z7 =>
    q_lt (v3 + (1 : Int32)) fun z8 =>
    fX3_charIn_4 F n M5 v0 z7 z8)
    else
    (q_ax v3 40 fun j4 =>
    q_bn (fX3_part F M2 (M2 22 v0 j4) v2) fun M5 z6 =>
    q_gd (q_isC z6) (
    some (M5, z6))))
set_option maxHeartbeats 4000000 in
set_option maxRecDepth 100000 in
theorem wX3_charIn_4 {p : Program} {l : Launch} {e : Env} {s : State} {m : MethodId} {args : Array Value} {below : List Frame} {meth : Method} {c : Code} {D : va_G} {cy : Nat → ClassId} {ad : Nat → Nat} {x : XX} {F : Nat} {r : Mem × Int32} (hst : l.stackTraces = false) (C0 : MX p l s m args meth c D cy ad cX3_charIn RX3 4 wsX3_charIn (some .char)) : ∀ (n : Nat) (M : Mem) (v0 : Nat) (v2 : Int32) (v3 : Int32) (hv0 : v0 < 61) (H : Heap) (locs : List Loc) (ls : Array Slot), Wd D cy ad x s M H locs → lv_has ls 4 [(0, .ref (ad (cText v0))), (2, .int v2), (3, .int v3)] → fX3_charIn_4 F n M v0 v2 v3 = some r → W p l e rmX3_charIn s m args below meth c H locs 0 0 (QN D cy ad below args s x q_vi r 0 0) (F0 m 4 ls []) := by
  obtain ⟨hx, hb, hml, hown, hts, -⟩ := id C0
  intro n
  induction n with
  | zero =>
    intro M v0 v2 v3 hv0 H locs ls hw hl h
    exact q_no h
  | succ n ih =>
    intro M v0 v2 v3 hv0 H locs ls hw hl h
    unfold fX3_charIn_4 at h
    refine lv_iload_n hx hb dX3_charIn_4 rfl (lv_at hl 2 rfl) ?_
    refine lv_aload_n hx hb dX3_charIn_5 rfl (lv_at hl 0 rfl) ?_
    refine gf_Text_signs C0 hw hv0 (fun _ h9 => List.mem_cons_of_mem _ (List.mem_append_left _ (List.mem_append_right _ h9))) (List.mem_of_getElem? (i := 1) rfl) dX3_charIn_6 ?_
    refine q_icmp_ge (tgt := 54) hx hb dX3_charIn_9 (by decide) h (fun h => ?_) (fun h => ?_)
    · refine lv_iconst (v := 0) hx hb dX3_charIn_54 (by decide) ?_
      exact q_zretN C0 hw rfl h ⟨(Nat.le_of_ble_eq_true rfl), (Nat.le_of_ble_eq_true rfl)⟩ dX3_charIn_55
    · refine lv_iload_n hx hb dX3_charIn_12 rfl (lv_at hl 1 rfl) ?_
      refine lv_aload_n hx hb dX3_charIn_13 rfl (lv_at hl 0 rfl) ?_
      refine gf_Text_codes C0 hw hv0 (fun _ h9 => List.mem_cons_of_mem _ (List.mem_append_left _ (List.mem_append_right _ h9))) (List.mem_of_getElem? (i := 2) rfl) dX3_charIn_14 ?_
      refine lv_iload_n hx hb dX3_charIn_17 rfl (lv_at hl 2 rfl) ?_
      refine q_iald C0 hw (at_codes hv0) h dX3_charIn_18 (fun j1 hj1 h => ?_)
      refine q_callSNi (As := [.int (M 22 v0 j1)]) (nA := 1) C0 hw (fun r1 h1 => ctX3_width hst h1) gX3_charIn_X3_width rfl ⟨rfl, rfl⟩ (by decide +kernel) rfl ⟨(Nat.le_of_ble_eq_true rfl), (Nat.le_of_ble_eq_true rfl)⟩ hl.1 (Nat.le_of_ble_eq_true rfl) ⟨(Nat.le_of_ble_eq_true rfl), (Nat.le_of_ble_eq_true rfl)⟩ rfl h dX3_charIn_19 (fun M2 z3 H locs hw h => ?_)
      refine q_icmp_ge (tgt := 36) hx hb dX3_charIn_22 (by decide) h (fun h => ?_) (fun h => ?_)
      · refine lv_iload_n hx hb dX3_charIn_36 rfl (lv_at hl 1 rfl) ?_
        refine lv_aload_n hx hb dX3_charIn_37 rfl (lv_at hl 0 rfl) ?_
        refine gf_Text_codes C0 hw hv0 (fun _ h9 => List.mem_cons_of_mem _ (List.mem_append_left _ (List.mem_append_right _ h9))) (List.mem_of_getElem? (i := 2) rfl) dX3_charIn_38 ?_
        refine lv_iload_n hx hb dX3_charIn_41 rfl (lv_at hl 2 rfl) ?_
        refine q_iald C0 hw (at_codes hv0) h dX3_charIn_42 (fun j4 hj4 h => ?_)
        refine q_callSNi (As := [.int (M2 22 v0 j4)]) (nA := 1) C0 hw (fun r1 h1 => ctX3_width hst h1) gX3_charIn_X3_width rfl ⟨rfl, rfl⟩ (by decide +kernel) rfl ⟨(Nat.le_of_ble_eq_true rfl), (Nat.le_of_ble_eq_true rfl)⟩ hl.1 (Nat.le_of_ble_eq_true rfl) ⟨(Nat.le_of_ble_eq_true rfl), (Nat.le_of_ble_eq_true rfl)⟩ rfl h dX3_charIn_43 (fun M5 z6 H locs hw h => ?_)
        refine lv_isub hx hb dX3_charIn_46 ?_
        refine q_istore_n (lv' := fun z7 => [(2, .int z7), (0, .ref (ad (cText v0))), (3, .int v3)]) hx hb dX3_charIn_47 rfl hl (by decide) (fun _ => rfl) h (fun z7 ls hl h => ?_)
        refine q_iinc (k := 2) (cst := 1) (lv' := fun z8 => [(3, .int z8), (2, .int z7), (0, .ref (ad (cText v0)))]) hx hb dX3_charIn_48 hl rfl rfl (by decide) (fun _ => rfl) h (fun z8 ls hl h => ?_)
        refine lv_goto (tgt := 4) hx hb dX3_charIn_51 (by decide) ?_
        exact ih M5 v0 z7 z8 hv0 _ _ _ hw (lv_sub hl [2, 1, 0] rfl) h
      · refine lv_aload_n hx hb dX3_charIn_25 rfl (lv_at hl 0 rfl) ?_
        refine gf_Text_codes C0 hw hv0 (fun _ h9 => List.mem_cons_of_mem _ (List.mem_append_left _ (List.mem_append_right _ h9))) (List.mem_of_getElem? (i := 2) rfl) dX3_charIn_26 ?_
        refine lv_iload_n hx hb dX3_charIn_29 rfl (lv_at hl 2 rfl) ?_
        refine q_iald C0 hw (at_codes hv0) h dX3_charIn_30 (fun j4 hj4 h => ?_)
        refine lv_iload_n hx hb dX3_charIn_31 rfl (lv_at hl 1 rfl) ?_
        refine q_callSNi (As := [.int (M2 22 v0 j4), .int v2]) (nA := 2) C0 hw (fun r1 h1 => ctX3_part hst h1) gX3_charIn_X3_part rfl ⟨rfl, rfl⟩ (by decide +kernel) rfl ⟨(Nat.le_of_ble_eq_true rfl), (Nat.le_of_ble_eq_true rfl)⟩ hl.1 (Nat.le_of_ble_eq_true rfl) ⟨(Nat.le_of_ble_eq_true rfl), (Nat.le_of_ble_eq_true rfl)⟩ rfl h dX3_charIn_32 (fun M5 z6 H locs hw h => ?_)
        refine q_guard h (fun g h => ?_)
        exact q_zretN C0 hw (q_isC_in g).1 h ⟨(Nat.le_of_ble_eq_true rfl), (Nat.le_of_ble_eq_true rfl)⟩ dX3_charIn_35
def fX3_charIn (F : Nat) (M : Mem) (j0 : Nat) (a0 : Int32) : Option (Mem × Int32) :=
    q_lt (a0) fun z1 =>
    q_lt ((0 : Int32)) fun z2 =>
    fX3_charIn_4 F F M j0 z1 z2
set_option maxHeartbeats 4000000 in
set_option maxRecDepth 100000 in
theorem ctX3_charIn {l : Launch} (hst : l.stackTraces = false) {D : va_G} {cy : Nat → ClassId} {ad : Nat → Nat} {x : XX} {F : Nat} {M : Mem} {j0 : Nat} {a0 : Int32} (hj0 : j0 < 61) {r : Mem × Int32} (h : fX3_charIn F M j0 a0 = some r) : CN l yX3_charIn wsX3_charIn rmX3_charIn D cy ad [.ref (ad (cText j0)), .int a0] x M x r.1 (q_vi r.2) 0 0 := by
  refine q_startN (cc := cX3_charIn) (maxL := 4) (ret := (some .char)) (by decide) rfl (Nat.le_of_ble_eq_true rfl) ?_
  intro p e s m args below meth c ls C0 hw hl hnm
  obtain ⟨hx, hb, hml, hown, hts, -⟩ := id C0
  have C0 : MX p l s m args meth c D cy ad cX3_charIn RX3 4 wsX3_charIn ((some .char)) := C0
  have hown : s.vm.findClass RX3 = some m.cls := hown
  have hl : lv_has ls 4 [(0, .ref (ad (cText j0))), (1, .int a0)] := hl
  show W p l e rmX3_charIn s m args below meth c s.heap [] 0 0 (QN D cy ad below args s x q_vi r 0 0) (F0 m 0 ls [])
  unfold fX3_charIn at h
  refine lv_iload_n hx hb dX3_charIn_0 rfl (lv_at hl 1 rfl) ?_
  refine q_istore_n (lv' := fun z1 => [(2, .int z1), (0, .ref (ad (cText j0))), (1, .int a0)]) hx hb dX3_charIn_1 rfl hl (by decide) (fun _ => rfl) h (fun z1 ls hl h => ?_)
  refine lv_iconst (v := 0) hx hb dX3_charIn_2 (by decide) ?_
  refine q_istore_n (lv' := fun z2 => [(3, .int z2), (2, .int z1), (0, .ref (ad (cText j0))), (1, .int a0)]) hx hb dX3_charIn_3 rfl hl (by decide) (fun _ => rfl) h (fun z2 ls hl h => ?_)
  exact wX3_charIn_4 hst C0  F M j0 z1 z2 hj0 _ _ _ hw (lv_sub hl [2, 1, 0] rfl) h
/-! Homewatcher$Text.sumBytes()B -/
abbrev rmX3_sumBytes : Room := { frames := 1, cells := 0, slots := 0, locals := 22 }
def fX3_sumBytes_14 (F : Nat) (k4 : Mem → Nat → Int32 → Int32 → Option (Mem × Int32)) : Nat → Mem → Nat → Int32 → Int32 → Int32 → Option (Mem × Int32)
  | 0, _, _, _, _, _ => none
  | n + 1, M, v0, v1, v2, v3 =>
    q_ax v2 40 fun j1 =>
    q_bn (fX3_width F M (M 22 v0 j1)) fun M2 z3 =>
    if z3 ≤ v3 then
    (q_lt (v2 + (1 : Int32)) fun z4 =>
    k4 M2 v0 v1 z4)
    else
    (q_ax v2 40 fun j4 =>
    q_bn (fX3_part F M2 (M2 22 v0 j4) v3) fun M5 z6 =>
    q_lt ((v1 + z6).toInt8.toInt32) fun z7 =>
    q_lt (v3 + (1 : Int32)) fun z8 =>
    fX3_sumBytes_14 F k4 n M5 v0 z7 v2 z8)
set_option maxHeartbeats 4000000 in
set_option maxRecDepth 100000 in
theorem wX3_sumBytes_14 {p : Program} {l : Launch} {e : Env} {s : State} {m : MethodId} {args : Array Value} {below : List Frame} {meth : Method} {c : Code} {D : va_G} {cy : Nat → ClassId} {ad : Nat → Nat} {x : XX} {F : Nat} {r : Mem × Int32} (hst : l.stackTraces = false) (C0 : MX p l s m args meth c D cy ad cX3_sumBytes RX3 4 wsX3_sumBytes (some .byte)) {k4 : Mem → Nat → Int32 → Int32 → Option (Mem × Int32)} (hk4 : ∀ (M : Mem) (v0 : Nat) (v1 : Int32) (v2 : Int32) (hv0 : v0 < 61) (H : Heap) (locs : List Loc) (ls : Array Slot), Wd D cy ad x s M H locs → lv_has ls 4 [(0, .ref (ad (cText v0))), (1, .int v1), (2, .int v2)] → k4 M v0 v1 v2 = some r → W p l e rmX3_sumBytes s m args below meth c H locs 0 0 (QN D cy ad below args s x q_vi r 0 0) (F0 m 4 ls [])) : ∀ (n : Nat) (M : Mem) (v0 : Nat) (v1 : Int32) (v2 : Int32) (v3 : Int32) (hv0 : v0 < 61) (H : Heap) (locs : List Loc) (ls : Array Slot), Wd D cy ad x s M H locs → lv_has ls 4 [(0, .ref (ad (cText v0))), (1, .int v1), (2, .int v2), (3, .int v3)] → fX3_sumBytes_14 F k4 n M v0 v1 v2 v3 = some r → W p l e rmX3_sumBytes s m args below meth c H locs 0 0 (QN D cy ad below args s x q_vi r 0 0) (F0 m 14 ls []) := by
  obtain ⟨hx, hb, hml, hown, hts, -⟩ := id C0
  intro n
  induction n with
  | zero =>
    intro M v0 v1 v2 v3 hv0 H locs ls hw hl h
    exact q_no h
  | succ n ih =>
    intro M v0 v1 v2 v3 hv0 H locs ls hw hl h
    unfold fX3_sumBytes_14 at h
    refine lv_iload_n hx hb dX3_sumBytes_14 rfl (lv_at hl 3 rfl) ?_
    refine lv_aload_n hx hb dX3_sumBytes_15 rfl (lv_at hl 0 rfl) ?_
    refine gf_Text_codes C0 hw hv0 (fun _ h9 => List.mem_cons_of_mem _ (List.mem_append_left _ (List.mem_append_right _ h9))) (List.mem_of_getElem? (i := 2) rfl) dX3_sumBytes_16 ?_
    refine lv_iload_n hx hb dX3_sumBytes_19 rfl (lv_at hl 2 rfl) ?_
    refine q_iald C0 hw (at_codes hv0) h dX3_sumBytes_20 (fun j1 hj1 h => ?_)
    refine q_callSNi (As := [.int (M 22 v0 j1)]) (nA := 1) C0 hw (fun r1 h1 => ctX3_width hst h1) gX3_sumBytes_X3_width rfl ⟨rfl, rfl⟩ (by decide +kernel) rfl ⟨(Nat.le_of_ble_eq_true rfl), (Nat.le_of_ble_eq_true rfl)⟩ hl.1 (Nat.le_of_ble_eq_true rfl) ⟨(Nat.le_of_ble_eq_true rfl), (Nat.le_of_ble_eq_true rfl)⟩ rfl h dX3_sumBytes_21 (fun M2 z3 H locs hw h => ?_)
    refine q_icmp_ge (tgt := 47) hx hb dX3_sumBytes_24 (by decide) h (fun h => ?_) (fun h => ?_)
    · refine q_iinc (k := 2) (cst := 1) (lv' := fun z4 => [(2, .int z4), (0, .ref (ad (cText v0))), (1, .int v1), (3, .int v3)]) hx hb dX3_sumBytes_47 hl rfl rfl (by decide) (fun _ => rfl) h (fun z4 ls hl h => ?_)
      refine lv_goto (tgt := 4) hx hb dX3_sumBytes_50 (by decide) ?_
      exact hk4 M2 v0 v1 z4 hv0 _ _ _ hw (lv_sub hl [1, 2, 0] rfl) h
    · refine lv_iload_n hx hb dX3_sumBytes_27 rfl (lv_at hl 1 rfl) ?_
      refine lv_aload_n hx hb dX3_sumBytes_28 rfl (lv_at hl 0 rfl) ?_
      refine gf_Text_codes C0 hw hv0 (fun _ h9 => List.mem_cons_of_mem _ (List.mem_append_left _ (List.mem_append_right _ h9))) (List.mem_of_getElem? (i := 2) rfl) dX3_sumBytes_29 ?_
      refine lv_iload_n hx hb dX3_sumBytes_32 rfl (lv_at hl 2 rfl) ?_
      refine q_iald C0 hw (at_codes hv0) h dX3_sumBytes_33 (fun j4 hj4 h => ?_)
      refine lv_iload_n hx hb dX3_sumBytes_34 rfl (lv_at hl 3 rfl) ?_
      refine q_callSNi (As := [.int (M2 22 v0 j4), .int v3]) (nA := 2) C0 hw (fun r1 h1 => ctX3_part hst h1) gX3_sumBytes_X3_part rfl ⟨rfl, rfl⟩ (by decide +kernel) rfl ⟨(Nat.le_of_ble_eq_true rfl), (Nat.le_of_ble_eq_true rfl)⟩ hl.1 (Nat.le_of_ble_eq_true rfl) ⟨(Nat.le_of_ble_eq_true rfl), (Nat.le_of_ble_eq_true rfl)⟩ rfl h dX3_sumBytes_35 (fun M5 z6 H locs hw h => ?_)
      refine lv_iadd hx hb dX3_sumBytes_38 ?_
      refine lv_i2b hx hb dX3_sumBytes_39 rfl ?_
      refine q_istore_n (lv' := fun z7 => [(1, .int z7), (0, .ref (ad (cText v0))), (2, .int v2), (3, .int v3)]) hx hb dX3_sumBytes_40 rfl hl (by decide) (fun _ => rfl) h (fun z7 ls hl h => ?_)
      refine q_iinc (k := 3) (cst := 1) (lv' := fun z8 => [(3, .int z8), (1, .int z7), (0, .ref (ad (cText v0))), (2, .int v2)]) hx hb dX3_sumBytes_41 hl rfl rfl (by decide) (fun _ => rfl) h (fun z8 ls hl h => ?_)
      refine lv_goto (tgt := 14) hx hb dX3_sumBytes_44 (by decide) ?_
      exact ih M5 v0 z7 v2 z8 hv0 _ _ _ hw (lv_sub hl [2, 1, 3, 0] rfl) h
def fX3_sumBytes_4 (F : Nat) : Nat → Mem → Nat → Int32 → Int32 → Option (Mem × Int32)
  | 0, _, _, _, _ => none
  | n + 1, M, v0, v1, v2 =>
    if (M 8 v0 0) ≤ v2 then
    (q_gd (q_isB v1) (
    some (M, v1)))
    else
    (q_lt ((0 : Int32)) fun z1 =>
    fX3_sumBytes_14 F (fX3_sumBytes_4 F n) F M v0 v1 v2 z1)
set_option maxHeartbeats 4000000 in
set_option maxRecDepth 100000 in
theorem wX3_sumBytes_4 {p : Program} {l : Launch} {e : Env} {s : State} {m : MethodId} {args : Array Value} {below : List Frame} {meth : Method} {c : Code} {D : va_G} {cy : Nat → ClassId} {ad : Nat → Nat} {x : XX} {F : Nat} {r : Mem × Int32} (hst : l.stackTraces = false) (C0 : MX p l s m args meth c D cy ad cX3_sumBytes RX3 4 wsX3_sumBytes (some .byte)) : ∀ (n : Nat) (M : Mem) (v0 : Nat) (v1 : Int32) (v2 : Int32) (hv0 : v0 < 61) (H : Heap) (locs : List Loc) (ls : Array Slot), Wd D cy ad x s M H locs → lv_has ls 4 [(0, .ref (ad (cText v0))), (1, .int v1), (2, .int v2)] → fX3_sumBytes_4 F n M v0 v1 v2 = some r → W p l e rmX3_sumBytes s m args below meth c H locs 0 0 (QN D cy ad below args s x q_vi r 0 0) (F0 m 4 ls []) := by
  obtain ⟨hx, hb, hml, hown, hts, -⟩ := id C0
  intro n
  induction n with
  | zero =>
    intro M v0 v1 v2 hv0 H locs ls hw hl h
    exact q_no h
  | succ n ih =>
    intro M v0 v1 v2 hv0 H locs ls hw hl h
    unfold fX3_sumBytes_4 at h
    refine lv_iload_n hx hb dX3_sumBytes_4 rfl (lv_at hl 2 rfl) ?_
    refine lv_aload_n hx hb dX3_sumBytes_5 rfl (lv_at hl 0 rfl) ?_
    refine gf_Text_signs C0 hw hv0 (fun _ h9 => List.mem_cons_of_mem _ (List.mem_append_left _ (List.mem_append_right _ h9))) (List.mem_of_getElem? (i := 1) rfl) dX3_sumBytes_6 ?_
    refine q_icmp_ge (tgt := 53) hx hb dX3_sumBytes_9 (by decide) h (fun h => ?_) (fun h => ?_)
    · refine lv_iload_n hx hb dX3_sumBytes_53 rfl (lv_at hl 1 rfl) ?_
      refine q_guard h (fun g h => ?_)
      exact q_zretN C0 hw (q_isB_in g) h ⟨(Nat.le_of_ble_eq_true rfl), (Nat.le_of_ble_eq_true rfl)⟩ dX3_sumBytes_54
    · refine lv_iconst (v := 0) hx hb dX3_sumBytes_12 (by decide) ?_
      refine q_istore_n (lv' := fun z1 => [(3, .int z1), (0, .ref (ad (cText v0))), (1, .int v1), (2, .int v2)]) hx hb dX3_sumBytes_13 rfl hl (by decide) (fun _ => rfl) h (fun z1 ls hl h => ?_)
      exact wX3_sumBytes_14 hst C0 ih F M v0 v1 v2 z1 hv0 _ _ _ hw (lv_sub hl [1, 2, 3, 0] rfl) h
def fX3_sumBytes (F : Nat) (M : Mem) (j0 : Nat) : Option (Mem × Int32) :=
    q_lt ((0 : Int32)) fun z1 =>
    q_lt ((0 : Int32)) fun z2 =>
    fX3_sumBytes_4 F F M j0 z1 z2
set_option maxHeartbeats 4000000 in
set_option maxRecDepth 100000 in
theorem ctX3_sumBytes {l : Launch} (hst : l.stackTraces = false) {D : va_G} {cy : Nat → ClassId} {ad : Nat → Nat} {x : XX} {F : Nat} {M : Mem} {j0 : Nat} (hj0 : j0 < 61) {r : Mem × Int32} (h : fX3_sumBytes F M j0 = some r) : CN l yX3_sumBytes wsX3_sumBytes rmX3_sumBytes D cy ad [.ref (ad (cText j0))] x M x r.1 (q_vi r.2) 0 0 := by
  refine q_startN (cc := cX3_sumBytes) (maxL := 4) (ret := (some .byte)) (by decide) rfl (Nat.le_of_ble_eq_true rfl) ?_
  intro p e s m args below meth c ls C0 hw hl hnm
  obtain ⟨hx, hb, hml, hown, hts, -⟩ := id C0
  have C0 : MX p l s m args meth c D cy ad cX3_sumBytes RX3 4 wsX3_sumBytes ((some .byte)) := C0
  have hown : s.vm.findClass RX3 = some m.cls := hown
  have hl : lv_has ls 4 [(0, .ref (ad (cText j0)))] := hl
  show W p l e rmX3_sumBytes s m args below meth c s.heap [] 0 0 (QN D cy ad below args s x q_vi r 0 0) (F0 m 0 ls [])
  unfold fX3_sumBytes at h
  refine lv_iconst (v := 0) hx hb dX3_sumBytes_0 (by decide) ?_
  refine q_istore_n (lv' := fun z1 => [(1, .int z1), (0, .ref (ad (cText j0)))]) hx hb dX3_sumBytes_1 rfl hl (by decide) (fun _ => rfl) h (fun z1 ls hl h => ?_)
  refine lv_iconst (v := 0) hx hb dX3_sumBytes_2 (by decide) ?_
  refine q_istore_n (lv' := fun z2 => [(2, .int z2), (1, .int z1), (0, .ref (ad (cText j0)))]) hx hb dX3_sumBytes_3 rfl hl (by decide) (fun _ => rfl) h (fun z2 ls hl h => ?_)
  exact wX3_sumBytes_4 hst C0  F M j0 z1 z2 hj0 _ _ _ hw (lv_sub hl [2, 1, 0] rfl) h
/-! Homewatcher$Text.sumShorts()S -/
abbrev rmX3_sumShorts : Room := { frames := 1, cells := 0, slots := 0, locals := 22 }
def fX3_sumShorts_14 (F : Nat) (k4 : Mem → Nat → Int32 → Int32 → Option (Mem × Int32)) : Nat → Mem → Nat → Int32 → Int32 → Int32 → Option (Mem × Int32)
  | 0, _, _, _, _, _ => none
  | n + 1, M, v0, v1, v2, v3 =>
    q_ax v2 40 fun j1 =>
    q_bn (fX3_width F M (M 22 v0 j1)) fun M2 z3 =>
    if z3 ≤ v3 then
    (q_lt (v2 + (1 : Int32)) fun z4 =>
    k4 M2 v0 v1 z4)
    else
    (q_ax v2 40 fun j4 =>
    q_bn (fX3_part F M2 (M2 22 v0 j4) v3) fun M5 z6 =>
    q_lt (((v1 * (31 : Int32)) + z6).toInt16.toInt32) fun z7 =>
    q_lt (v3 + (1 : Int32)) fun z8 =>
    fX3_sumShorts_14 F k4 n M5 v0 z7 v2 z8)
set_option maxHeartbeats 4000000 in
set_option maxRecDepth 100000 in
theorem wX3_sumShorts_14 {p : Program} {l : Launch} {e : Env} {s : State} {m : MethodId} {args : Array Value} {below : List Frame} {meth : Method} {c : Code} {D : va_G} {cy : Nat → ClassId} {ad : Nat → Nat} {x : XX} {F : Nat} {r : Mem × Int32} (hst : l.stackTraces = false) (C0 : MX p l s m args meth c D cy ad cX3_sumShorts RX3 4 wsX3_sumShorts (some .short)) {k4 : Mem → Nat → Int32 → Int32 → Option (Mem × Int32)} (hk4 : ∀ (M : Mem) (v0 : Nat) (v1 : Int32) (v2 : Int32) (hv0 : v0 < 61) (H : Heap) (locs : List Loc) (ls : Array Slot), Wd D cy ad x s M H locs → lv_has ls 4 [(0, .ref (ad (cText v0))), (1, .int v1), (2, .int v2)] → k4 M v0 v1 v2 = some r → W p l e rmX3_sumShorts s m args below meth c H locs 0 0 (QN D cy ad below args s x q_vi r 0 0) (F0 m 4 ls [])) : ∀ (n : Nat) (M : Mem) (v0 : Nat) (v1 : Int32) (v2 : Int32) (v3 : Int32) (hv0 : v0 < 61) (H : Heap) (locs : List Loc) (ls : Array Slot), Wd D cy ad x s M H locs → lv_has ls 4 [(0, .ref (ad (cText v0))), (1, .int v1), (2, .int v2), (3, .int v3)] → fX3_sumShorts_14 F k4 n M v0 v1 v2 v3 = some r → W p l e rmX3_sumShorts s m args below meth c H locs 0 0 (QN D cy ad below args s x q_vi r 0 0) (F0 m 14 ls []) := by
  obtain ⟨hx, hb, hml, hown, hts, -⟩ := id C0
  intro n
  induction n with
  | zero =>
    intro M v0 v1 v2 v3 hv0 H locs ls hw hl h
    exact q_no h
  | succ n ih =>
    intro M v0 v1 v2 v3 hv0 H locs ls hw hl h
    unfold fX3_sumShorts_14 at h
    refine lv_iload_n hx hb dX3_sumShorts_14 rfl (lv_at hl 3 rfl) ?_
    refine lv_aload_n hx hb dX3_sumShorts_15 rfl (lv_at hl 0 rfl) ?_
    refine gf_Text_codes C0 hw hv0 (fun _ h9 => List.mem_cons_of_mem _ (List.mem_append_left _ (List.mem_append_right _ h9))) (List.mem_of_getElem? (i := 2) rfl) dX3_sumShorts_16 ?_
    refine lv_iload_n hx hb dX3_sumShorts_19 rfl (lv_at hl 2 rfl) ?_
    refine q_iald C0 hw (at_codes hv0) h dX3_sumShorts_20 (fun j1 hj1 h => ?_)
    refine q_callSNi (As := [.int (M 22 v0 j1)]) (nA := 1) C0 hw (fun r1 h1 => ctX3_width hst h1) gX3_sumShorts_X3_width rfl ⟨rfl, rfl⟩ (by decide +kernel) rfl ⟨(Nat.le_of_ble_eq_true rfl), (Nat.le_of_ble_eq_true rfl)⟩ hl.1 (Nat.le_of_ble_eq_true rfl) ⟨(Nat.le_of_ble_eq_true rfl), (Nat.le_of_ble_eq_true rfl)⟩ rfl h dX3_sumShorts_21 (fun M2 z3 H locs hw h => ?_)
    refine q_icmp_ge (tgt := 50) hx hb dX3_sumShorts_24 (by decide) h (fun h => ?_) (fun h => ?_)
    · refine q_iinc (k := 2) (cst := 1) (lv' := fun z4 => [(2, .int z4), (0, .ref (ad (cText v0))), (1, .int v1), (3, .int v3)]) hx hb dX3_sumShorts_50 hl rfl rfl (by decide) (fun _ => rfl) h (fun z4 ls hl h => ?_)
      refine lv_goto (tgt := 4) hx hb dX3_sumShorts_53 (by decide) ?_
      exact hk4 M2 v0 v1 z4 hv0 _ _ _ hw (lv_sub hl [1, 2, 0] rfl) h
    · refine lv_iload_n hx hb dX3_sumShorts_27 rfl (lv_at hl 1 rfl) ?_
      refine lv_bipush (v := 31) hx hb dX3_sumShorts_28 (by decide) ?_
      refine lv_imul hx hb dX3_sumShorts_30 ?_
      refine lv_aload_n hx hb dX3_sumShorts_31 rfl (lv_at hl 0 rfl) ?_
      refine gf_Text_codes C0 hw hv0 (fun _ h9 => List.mem_cons_of_mem _ (List.mem_append_left _ (List.mem_append_right _ h9))) (List.mem_of_getElem? (i := 2) rfl) dX3_sumShorts_32 ?_
      refine lv_iload_n hx hb dX3_sumShorts_35 rfl (lv_at hl 2 rfl) ?_
      refine q_iald C0 hw (at_codes hv0) h dX3_sumShorts_36 (fun j4 hj4 h => ?_)
      refine lv_iload_n hx hb dX3_sumShorts_37 rfl (lv_at hl 3 rfl) ?_
      refine q_callSNi (As := [.int (M2 22 v0 j4), .int v3]) (nA := 2) C0 hw (fun r1 h1 => ctX3_part hst h1) gX3_sumShorts_X3_part rfl ⟨rfl, rfl⟩ (by decide +kernel) rfl ⟨(Nat.le_of_ble_eq_true rfl), (Nat.le_of_ble_eq_true rfl)⟩ hl.1 (Nat.le_of_ble_eq_true rfl) ⟨(Nat.le_of_ble_eq_true rfl), (Nat.le_of_ble_eq_true rfl)⟩ rfl h dX3_sumShorts_38 (fun M5 z6 H locs hw h => ?_)
      refine lv_iadd hx hb dX3_sumShorts_41 ?_
      refine lv_i2s hx hb dX3_sumShorts_42 rfl ?_
      refine q_istore_n (lv' := fun z7 => [(1, .int z7), (0, .ref (ad (cText v0))), (2, .int v2), (3, .int v3)]) hx hb dX3_sumShorts_43 rfl hl (by decide) (fun _ => rfl) h (fun z7 ls hl h => ?_)
      refine q_iinc (k := 3) (cst := 1) (lv' := fun z8 => [(3, .int z8), (1, .int z7), (0, .ref (ad (cText v0))), (2, .int v2)]) hx hb dX3_sumShorts_44 hl rfl rfl (by decide) (fun _ => rfl) h (fun z8 ls hl h => ?_)
      refine lv_goto (tgt := 14) hx hb dX3_sumShorts_47 (by decide) ?_
      exact ih M5 v0 z7 v2 z8 hv0 _ _ _ hw (lv_sub hl [2, 1, 3, 0] rfl) h
def fX3_sumShorts_4 (F : Nat) : Nat → Mem → Nat → Int32 → Int32 → Option (Mem × Int32)
  | 0, _, _, _, _ => none
  | n + 1, M, v0, v1, v2 =>
    if (M 8 v0 0) ≤ v2 then
    (q_gd (q_isS v1) (
    some (M, v1)))
    else
    (q_lt ((0 : Int32)) fun z1 =>
    fX3_sumShorts_14 F (fX3_sumShorts_4 F n) F M v0 v1 v2 z1)
set_option maxHeartbeats 4000000 in
set_option maxRecDepth 100000 in
theorem wX3_sumShorts_4 {p : Program} {l : Launch} {e : Env} {s : State} {m : MethodId} {args : Array Value} {below : List Frame} {meth : Method} {c : Code} {D : va_G} {cy : Nat → ClassId} {ad : Nat → Nat} {x : XX} {F : Nat} {r : Mem × Int32} (hst : l.stackTraces = false) (C0 : MX p l s m args meth c D cy ad cX3_sumShorts RX3 4 wsX3_sumShorts (some .short)) : ∀ (n : Nat) (M : Mem) (v0 : Nat) (v1 : Int32) (v2 : Int32) (hv0 : v0 < 61) (H : Heap) (locs : List Loc) (ls : Array Slot), Wd D cy ad x s M H locs → lv_has ls 4 [(0, .ref (ad (cText v0))), (1, .int v1), (2, .int v2)] → fX3_sumShorts_4 F n M v0 v1 v2 = some r → W p l e rmX3_sumShorts s m args below meth c H locs 0 0 (QN D cy ad below args s x q_vi r 0 0) (F0 m 4 ls []) := by
  obtain ⟨hx, hb, hml, hown, hts, -⟩ := id C0
  intro n
  induction n with
  | zero =>
    intro M v0 v1 v2 hv0 H locs ls hw hl h
    exact q_no h
  | succ n ih =>
    intro M v0 v1 v2 hv0 H locs ls hw hl h
    unfold fX3_sumShorts_4 at h
    refine lv_iload_n hx hb dX3_sumShorts_4 rfl (lv_at hl 2 rfl) ?_
    refine lv_aload_n hx hb dX3_sumShorts_5 rfl (lv_at hl 0 rfl) ?_
    refine gf_Text_signs C0 hw hv0 (fun _ h9 => List.mem_cons_of_mem _ (List.mem_append_left _ (List.mem_append_right _ h9))) (List.mem_of_getElem? (i := 1) rfl) dX3_sumShorts_6 ?_
    refine q_icmp_ge (tgt := 56) hx hb dX3_sumShorts_9 (by decide) h (fun h => ?_) (fun h => ?_)
    · refine lv_iload_n hx hb dX3_sumShorts_56 rfl (lv_at hl 1 rfl) ?_
      refine q_guard h (fun g h => ?_)
      exact q_zretN C0 hw (q_isS_in g) h ⟨(Nat.le_of_ble_eq_true rfl), (Nat.le_of_ble_eq_true rfl)⟩ dX3_sumShorts_57
    · refine lv_iconst (v := 0) hx hb dX3_sumShorts_12 (by decide) ?_
      refine q_istore_n (lv' := fun z1 => [(3, .int z1), (0, .ref (ad (cText v0))), (1, .int v1), (2, .int v2)]) hx hb dX3_sumShorts_13 rfl hl (by decide) (fun _ => rfl) h (fun z1 ls hl h => ?_)
      exact wX3_sumShorts_14 hst C0 ih F M v0 v1 v2 z1 hv0 _ _ _ hw (lv_sub hl [1, 2, 3, 0] rfl) h
def fX3_sumShorts (F : Nat) (M : Mem) (j0 : Nat) : Option (Mem × Int32) :=
    q_lt ((0 : Int32)) fun z1 =>
    q_lt ((0 : Int32)) fun z2 =>
    fX3_sumShorts_4 F F M j0 z1 z2
set_option maxHeartbeats 4000000 in
set_option maxRecDepth 100000 in
theorem ctX3_sumShorts {l : Launch} (hst : l.stackTraces = false) {D : va_G} {cy : Nat → ClassId} {ad : Nat → Nat} {x : XX} {F : Nat} {M : Mem} {j0 : Nat} (hj0 : j0 < 61) {r : Mem × Int32} (h : fX3_sumShorts F M j0 = some r) : CN l yX3_sumShorts wsX3_sumShorts rmX3_sumShorts D cy ad [.ref (ad (cText j0))] x M x r.1 (q_vi r.2) 0 0 := by
  refine q_startN (cc := cX3_sumShorts) (maxL := 4) (ret := (some .short)) (by decide) rfl (Nat.le_of_ble_eq_true rfl) ?_
  intro p e s m args below meth c ls C0 hw hl hnm
  obtain ⟨hx, hb, hml, hown, hts, -⟩ := id C0
  have C0 : MX p l s m args meth c D cy ad cX3_sumShorts RX3 4 wsX3_sumShorts ((some .short)) := C0
  have hown : s.vm.findClass RX3 = some m.cls := hown
  have hl : lv_has ls 4 [(0, .ref (ad (cText j0)))] := hl
  show W p l e rmX3_sumShorts s m args below meth c s.heap [] 0 0 (QN D cy ad below args s x q_vi r 0 0) (F0 m 0 ls [])
  unfold fX3_sumShorts at h
  refine lv_iconst (v := 0) hx hb dX3_sumShorts_0 (by decide) ?_
  refine q_istore_n (lv' := fun z1 => [(1, .int z1), (0, .ref (ad (cText j0)))]) hx hb dX3_sumShorts_1 rfl hl (by decide) (fun _ => rfl) h (fun z1 ls hl h => ?_)
  refine lv_iconst (v := 0) hx hb dX3_sumShorts_2 (by decide) ?_
  refine q_istore_n (lv' := fun z2 => [(2, .int z2), (1, .int z1), (0, .ref (ad (cText j0)))]) hx hb dX3_sumShorts_3 rfl hl (by decide) (fun _ => rfl) h (fun z2 ls hl h => ?_)
  exact wX3_sumShorts_4 hst C0  F M j0 z1 z2 hj0 _ _ _ hw (lv_sub hl [2, 1, 0] rfl) h
/-! Homewatcher$Text.cutInto(LHomewatcher$Bag;)V -/
abbrev rmX3_cutInto : Room := { frames := 2, cells := 0, slots := 0, locals := 102 }
def fX3_cutInto_22 (F : Nat) (k7 : Mem → Nat → Nat → Int32 → Option (Mem × Unit)) : Nat → Mem → Nat → Nat → Int32 → Int32 → Int32 → Option (Mem × Unit)
  | 0, _, _, _, _, _, _ => none
  | n + 1, M, v0, v1, v2, v3, v4 =>
    if (v2 + (4 : Int32)) ≤ v4 then
    (q_bn (fX0_add F M v1 (v3 &&& (1048575 : Int32))) fun M1 _ =>
    q_lt (v2 + (1 : Int32)) fun z3 =>
    k7 M1 v0 v1 z3)
    else
    (q_ax v4 40 fun j1 =>
    q_lt (((v3 <<< ((5 : Int32) &&& 31)) ||| ((v3.toUInt32 >>> ((27 : Int32).toUInt32 &&& Int32.toUInt32 31)).toInt32)) ^^^ (M 22 v0 j1)) fun z2 =>
    q_lt (v4 + (1 : Int32)) fun z3 =>
    fX3_cutInto_22 F k7 n M v0 v1 v2 z2 z3)
set_option maxHeartbeats 4000000 in
set_option maxRecDepth 100000 in
theorem wX3_cutInto_22 {p : Program} {l : Launch} {e : Env} {s : State} {m : MethodId} {args : Array Value} {below : List Frame} {meth : Method} {c : Code} {D : va_G} {cy : Nat → ClassId} {ad : Nat → Nat} {x : XX} {F : Nat} {r : Mem × Unit} (hst : l.stackTraces = false) (C0 : MX p l s m args meth c D cy ad cX3_cutInto RX3 5 wsX3_cutInto (none)) {k7 : Mem → Nat → Nat → Int32 → Option (Mem × Unit)} (hk7 : ∀ (M : Mem) (v0 : Nat) (v1 : Nat) (v2 : Int32) (hv0 : v0 < 61) (hv1 : v1 < 63) (H : Heap) (locs : List Loc) (ls : Array Slot), Wd D cy ad x s M H locs → lv_has ls 5 [(0, .ref (ad (cText v0))), (1, .ref (ad (cBag v1))), (2, .int v2)] → k7 M v0 v1 v2 = some r → W p l e rmX3_cutInto s m args below meth c H locs 0 0 (QN D cy ad below args s x q_vv r 0 0) (F0 m 7 ls [])) : ∀ (n : Nat) (M : Mem) (v0 : Nat) (v1 : Nat) (v2 : Int32) (v3 : Int32) (v4 : Int32) (hv0 : v0 < 61) (hv1 : v1 < 63) (H : Heap) (locs : List Loc) (ls : Array Slot), Wd D cy ad x s M H locs → lv_has ls 5 [(0, .ref (ad (cText v0))), (1, .ref (ad (cBag v1))), (2, .int v2), (3, .int v3), (4, .int v4)] → fX3_cutInto_22 F k7 n M v0 v1 v2 v3 v4 = some r → W p l e rmX3_cutInto s m args below meth c H locs 0 0 (QN D cy ad below args s x q_vv r 0 0) (F0 m 22 ls []) := by
  obtain ⟨hx, hb, hml, hown, hts, -⟩ := id C0
  intro n
  induction n with
  | zero =>
    intro M v0 v1 v2 v3 v4 hv0 hv1 H locs ls hw hl h
    exact q_no h
  | succ n ih =>
    intro M v0 v1 v2 v3 v4 hv0 hv1 H locs ls hw hl h
    unfold fX3_cutInto_22 at h
    refine lv_iload hx hb dX3_cutInto_22 (lv_at hl 4 rfl) ?_
    refine lv_iload_n hx hb dX3_cutInto_24 rfl (lv_at hl 2 rfl) ?_
    refine lv_iconst (v := 4) hx hb dX3_cutInto_25 (by decide) ?_
    refine lv_iadd hx hb dX3_cutInto_26 ?_
    refine q_icmp_ge (tgt := 53) hx hb dX3_cutInto_27 (by decide) h (fun h => ?_) (fun h => ?_)
    · refine lv_aload_n hx hb dX3_cutInto_53 rfl (lv_at hl 1 rfl) ?_
      refine lv_iload_n hx hb dX3_cutInto_54 rfl (lv_at hl 3 rfl) ?_
      refine lv_ldc (v := 1048575) hx hb hown (hts _ (List.mem_of_getElem? (i := 4) rfl)) dX3_cutInto_55 ?_
      refine lv_iand hx hb dX3_cutInto_57 ?_
      refine q_callVNv (As := [.int (v3 &&& (1048575 : Int32))]) (nA := 1) C0 hw (at_Bag hv1) rfl (fun r1 h1 => ctX0_add hst hv1 h1) gX3_cutInto_X0_add rfl ⟨rfl, rfl⟩ (by decide +kernel) rfl ⟨(Nat.le_of_ble_eq_true rfl), (Nat.le_of_ble_eq_true rfl)⟩ hl.1 (Nat.le_of_ble_eq_true rfl) ⟨(Nat.le_of_ble_eq_true rfl), (Nat.le_of_ble_eq_true rfl)⟩ rfl h dX3_cutInto_58 (fun M1 H locs hw h => ?_)
      refine q_iinc (k := 2) (cst := 1) (lv' := fun z3 => [(2, .int z3), (0, .ref (ad (cText v0))), (1, .ref (ad (cBag v1))), (3, .int v3), (4, .int v4)]) hx hb dX3_cutInto_61 hl rfl rfl (by decide) (fun _ => rfl) h (fun z3 ls hl h => ?_)
      refine lv_goto (tgt := 7) hx hb dX3_cutInto_64 (by decide) ?_
      exact hk7 M1 v0 v1 z3 hv0 hv1 _ _ _ hw (lv_sub hl [1, 2, 0] rfl) h
    · refine lv_iload_n hx hb dX3_cutInto_30 rfl (lv_at hl 3 rfl) ?_
      refine lv_iconst (v := 5) hx hb dX3_cutInto_31 (by decide) ?_
      refine lv_ishl hx hb dX3_cutInto_32 ?_
      refine lv_iload_n hx hb dX3_cutInto_33 rfl (lv_at hl 3 rfl) ?_
      refine lv_bipush (v := 27) hx hb dX3_cutInto_34 (by decide) ?_
      refine lv_iushr hx hb dX3_cutInto_36 rfl ?_
      refine lv_ior hx hb dX3_cutInto_37 ?_
      refine lv_aload_n hx hb dX3_cutInto_38 rfl (lv_at hl 0 rfl) ?_
      refine gf_Text_codes C0 hw hv0 (fun _ h9 => List.mem_cons_of_mem _ (List.mem_append_left _ (List.mem_append_right _ h9))) (List.mem_of_getElem? (i := 3) rfl) dX3_cutInto_39 ?_
      refine lv_iload hx hb dX3_cutInto_42 (lv_at hl 4 rfl) ?_
      refine q_iald C0 hw (at_codes hv0) h dX3_cutInto_44 (fun j1 hj1 h => ?_)
      refine lv_ixor hx hb dX3_cutInto_45 ?_
      refine q_istore_n (lv' := fun z2 => [(3, .int z2), (0, .ref (ad (cText v0))), (1, .ref (ad (cBag v1))), (2, .int v2), (4, .int v4)]) hx hb dX3_cutInto_46 rfl hl (by decide) (fun _ => rfl) h (fun z2 ls hl h => ?_)
      refine q_iinc (k := 4) (cst := 1) (lv' := fun z3 => [(4, .int z3), (3, .int z2), (0, .ref (ad (cText v0))), (1, .ref (ad (cBag v1))), (2, .int v2)]) hx hb dX3_cutInto_47 hl rfl rfl (by decide) (fun _ => rfl) h (fun z3 ls hl h => ?_)
      refine lv_goto (tgt := 22) hx hb dX3_cutInto_50 (by decide) ?_
      exact ih M v0 v1 v2 z2 z3 hv0 hv1 _ _ _ hw (lv_sub hl [2, 3, 4, 1, 0] rfl) h
def fX3_cutInto_7 (F : Nat) : Nat → Mem → Nat → Nat → Int32 → Option (Mem × Unit)
  | 0, _, _, _, _ => none
  | n + 1, M, v0, v1, v2 =>
    if (M 8 v0 0) < (v2 + (4 : Int32)) then
    (some (M, ()))
    else
    (q_lt ((0 : Int32)) fun z1 =>
    q_lt (v2) fun z2 =>
    fX3_cutInto_22 F (fX3_cutInto_7 F n) F M v0 v1 v2 z1 z2)
set_option maxHeartbeats 4000000 in
set_option maxRecDepth 100000 in
theorem wX3_cutInto_7 {p : Program} {l : Launch} {e : Env} {s : State} {m : MethodId} {args : Array Value} {below : List Frame} {meth : Method} {c : Code} {D : va_G} {cy : Nat → ClassId} {ad : Nat → Nat} {x : XX} {F : Nat} {r : Mem × Unit} (hst : l.stackTraces = false) (C0 : MX p l s m args meth c D cy ad cX3_cutInto RX3 5 wsX3_cutInto (none)) : ∀ (n : Nat) (M : Mem) (v0 : Nat) (v1 : Nat) (v2 : Int32) (hv0 : v0 < 61) (hv1 : v1 < 63) (H : Heap) (locs : List Loc) (ls : Array Slot), Wd D cy ad x s M H locs → lv_has ls 5 [(0, .ref (ad (cText v0))), (1, .ref (ad (cBag v1))), (2, .int v2)] → fX3_cutInto_7 F n M v0 v1 v2 = some r → W p l e rmX3_cutInto s m args below meth c H locs 0 0 (QN D cy ad below args s x q_vv r 0 0) (F0 m 7 ls []) := by
  obtain ⟨hx, hb, hml, hown, hts, -⟩ := id C0
  intro n
  induction n with
  | zero =>
    intro M v0 v1 v2 hv0 hv1 H locs ls hw hl h
    exact q_no h
  | succ n ih =>
    intro M v0 v1 v2 hv0 hv1 H locs ls hw hl h
    unfold fX3_cutInto_7 at h
    refine lv_iload_n hx hb dX3_cutInto_7 rfl (lv_at hl 2 rfl) ?_
    refine lv_iconst (v := 4) hx hb dX3_cutInto_8 (by decide) ?_
    refine lv_iadd hx hb dX3_cutInto_9 ?_
    refine lv_aload_n hx hb dX3_cutInto_10 rfl (lv_at hl 0 rfl) ?_
    refine gf_Text_signs C0 hw hv0 (fun _ h9 => List.mem_cons_of_mem _ (List.mem_append_left _ (List.mem_append_right _ h9))) (List.mem_of_getElem? (i := 2) rfl) dX3_cutInto_11 ?_
    refine q_icmp_gt (tgt := 67) hx hb dX3_cutInto_14 (by decide) h (fun h => ?_) (fun h => ?_)
    · exact q_vretN C0 hw h ⟨(Nat.le_of_ble_eq_true rfl), (Nat.le_of_ble_eq_true rfl)⟩ dX3_cutInto_67
    · refine lv_iconst (v := 0) hx hb dX3_cutInto_17 (by decide) ?_
      refine q_istore_n (lv' := fun z1 => [(3, .int z1), (0, .ref (ad (cText v0))), (1, .ref (ad (cBag v1))), (2, .int v2)]) hx hb dX3_cutInto_18 rfl hl (by decide) (fun _ => rfl) h (fun z1 ls hl h => ?_)
      refine lv_iload_n hx hb dX3_cutInto_19 rfl (lv_at hl 3 rfl) ?_
      refine q_istore (lv' := fun z2 => [(4, .int z2), (3, .int z1), (0, .ref (ad (cText v0))), (1, .ref (ad (cBag v1))), (2, .int v2)]) hx hb dX3_cutInto_20 hl (by decide) (fun _ => rfl) h (fun z2 ls hl h => ?_)
      exact wX3_cutInto_22 hst C0 ih F M v0 v1 v2 z1 z2 hv0 hv1 _ _ _ hw (lv_sub hl [2, 3, 4, 1, 0] rfl) h
def fX3_cutInto (F : Nat) (M : Mem) (j0 : Nat) (j1 : Nat) : Option (Mem × Unit) :=
    q_lt (up M 9 j1 0 (0 : Int32)) fun M1 =>
    q_lt ((0 : Int32)) fun z2 =>
    fX3_cutInto_7 F F M1 j0 j1 z2
set_option maxHeartbeats 4000000 in
set_option maxRecDepth 100000 in
theorem ctX3_cutInto {l : Launch} (hst : l.stackTraces = false) {D : va_G} {cy : Nat → ClassId} {ad : Nat → Nat} {x : XX} {F : Nat} {M : Mem} {j0 : Nat} {j1 : Nat} (hj0 : j0 < 61) (hj1 : j1 < 63) {r : Mem × Unit} (h : fX3_cutInto F M j0 j1 = some r) : CN l yX3_cutInto wsX3_cutInto rmX3_cutInto D cy ad [.ref (ad (cText j0)), .ref (ad (cBag j1))] x M x r.1 (q_vv r.2) 0 0 := by
  refine q_startN (cc := cX3_cutInto) (maxL := 5) (ret := none) (by decide) rfl (Nat.le_of_ble_eq_true rfl) ?_
  intro p e s m args below meth c ls C0 hw hl hnm
  obtain ⟨hx, hb, hml, hown, hts, -⟩ := id C0
  have C0 : MX p l s m args meth c D cy ad cX3_cutInto RX3 5 wsX3_cutInto (none) := C0
  have hown : s.vm.findClass RX3 = some m.cls := hown
  have hl : lv_has ls 5 [(0, .ref (ad (cText j0))), (1, .ref (ad (cBag j1)))] := hl
  show W p l e rmX3_cutInto s m args below meth c s.heap [] 0 0 (QN D cy ad below args s x q_vv r 0 0) (F0 m 0 ls [])
  unfold fX3_cutInto at h
  refine lv_aload_n hx hb dX3_cutInto_0 rfl (lv_at hl 1 rfl) ?_
  refine lv_iconst (v := 0) hx hb dX3_cutInto_1 (by decide) ?_
  refine pf_Bag_size C0 hw hj1 (fun _ h9 => List.mem_cons_of_mem _ (List.mem_append_left _ (List.mem_append_left _ (List.mem_append_right _ h9)))) (List.mem_of_getElem? (i := 1) rfl) dX3_cutInto_2 h (fun M1 H locs hw h => ?_)
  refine lv_iconst (v := 0) hx hb dX3_cutInto_5 (by decide) ?_
  refine q_istore_n (lv' := fun z2 => [(2, .int z2), (0, .ref (ad (cText j0))), (1, .ref (ad (cBag j1)))]) hx hb dX3_cutInto_6 rfl hl (by decide) (fun _ => rfl) h (fun z2 ls hl h => ?_)
  exact wX3_cutInto_7 hst C0  F M1 j0 j1 z2 hj0 hj1 _ _ _ hw (lv_sub hl [1, 2, 0] rfl) h
/-! Homewatcher$Version.keep(LHomewatcher$Text;)V -/
abbrev rmX4_keep : Room := { frames := 3, cells := 0, slots := 0, locals := 126 }
def fX4_keep (F : Nat) (M : Mem) (j0 : Nat) (j1 : Nat) : Option (Mem × Unit) :=
    q_bn (fX3_copyFrom F M j0 j1) fun M1 _ =>
    q_bn (fX3_cutInto F M1 j0 j0) fun M3 _ =>
    some (M3, ())
set_option maxHeartbeats 4000000 in
set_option maxRecDepth 100000 in
theorem ctX4_keep {l : Launch} (hst : l.stackTraces = false) {D : va_G} {cy : Nat → ClassId} {ad : Nat → Nat} {x : XX} {F : Nat} {M : Mem} {j0 : Nat} {j1 : Nat} (hj0 : j0 < 60) (hj1 : j1 < 61) {r : Mem × Unit} (h : fX4_keep F M j0 j1 = some r) : CN l yX4_keep wsX4_keep rmX4_keep D cy ad [.ref (ad (cVer j0)), .ref (ad (cText j1))] x M x r.1 (q_vv r.2) 0 0 := by
  refine q_startN (cc := cX4_keep) (maxL := 2) (ret := none) (by decide) rfl (Nat.le_of_ble_eq_true rfl) ?_
  intro p e s m args below meth c ls C0 hw hl hnm
  obtain ⟨hx, hb, hml, hown, hts, -⟩ := id C0
  have C0 : MX p l s m args meth c D cy ad cX4_keep RX4 2 wsX4_keep (none) := C0
  have hown : s.vm.findClass RX4 = some m.cls := hown
  have hl : lv_has ls 2 [(0, .ref (ad (cVer j0))), (1, .ref (ad (cText j1)))] := hl
  show W p l e rmX4_keep s m args below meth c s.heap [] 0 0 (QN D cy ad below args s x q_vv r 0 0) (F0 m 0 ls [])
  unfold fX4_keep at h
  refine lv_aload_n hx hb dX4_keep_0 rfl (lv_at hl 0 rfl) ?_
  refine gf_Ver_text C0 hw hj0 (fun _ h9 => List.mem_cons_of_mem _ (List.mem_append_left _ (List.mem_append_left _ (List.mem_append_left _ (List.mem_append_right _ h9))))) (List.mem_of_getElem? (i := 1) rfl) dX4_keep_1 ?_
  refine lv_aload_n hx hb dX4_keep_4 rfl (lv_at hl 1 rfl) ?_
  refine q_callVNv (As := [.ref (ad (cText j1))]) (nA := 1) C0 hw (at_Text (Nat.lt_of_lt_of_le hj0 (Nat.le_of_ble_eq_true rfl))) rfl (fun r1 h1 => ctX3_copyFrom hst (Nat.lt_of_lt_of_le hj0 (Nat.le_of_ble_eq_true rfl)) hj1 h1) gX4_keep_X3_copyFrom rfl ⟨rfl, rfl⟩ (by decide +kernel) rfl ⟨(Nat.le_of_ble_eq_true rfl), (Nat.le_of_ble_eq_true rfl)⟩ hl.1 (Nat.le_of_ble_eq_true rfl) ⟨(Nat.le_of_ble_eq_true rfl), (Nat.le_of_ble_eq_true rfl)⟩ rfl h dX4_keep_5 (fun M1 H locs hw h => ?_)
  refine lv_aload_n hx hb dX4_keep_8 rfl (lv_at hl 0 rfl) ?_
  refine gf_Ver_text C0 hw hj0 (fun _ h9 => List.mem_cons_of_mem _ (List.mem_append_left _ (List.mem_append_left _ (List.mem_append_left _ (List.mem_append_right _ h9))))) (List.mem_of_getElem? (i := 1) rfl) dX4_keep_9 ?_
  refine lv_aload_n hx hb dX4_keep_12 rfl (lv_at hl 0 rfl) ?_
  refine gf_Ver_shingles C0 hw hj0 (fun _ h9 => List.mem_cons_of_mem _ (List.mem_append_left _ (List.mem_append_left _ (List.mem_append_left _ (List.mem_append_right _ h9))))) (List.mem_of_getElem? (i := 2) rfl) dX4_keep_13 ?_
  refine q_callVNv (As := [.ref (ad (cBag j0))]) (nA := 1) C0 hw (at_Text (Nat.lt_of_lt_of_le hj0 (Nat.le_of_ble_eq_true rfl))) rfl (fun r1 h1 => ctX3_cutInto hst (Nat.lt_of_lt_of_le hj0 (Nat.le_of_ble_eq_true rfl)) (Nat.lt_of_lt_of_le hj0 (Nat.le_of_ble_eq_true rfl)) h1) gX4_keep_X3_cutInto rfl ⟨rfl, rfl⟩ (by decide +kernel) rfl ⟨(Nat.le_of_ble_eq_true rfl), (Nat.le_of_ble_eq_true rfl)⟩ hl.1 (Nat.le_of_ble_eq_true rfl) ⟨(Nat.le_of_ble_eq_true rfl), (Nat.le_of_ble_eq_true rfl)⟩ rfl h dX4_keep_16 (fun M3 H locs hw h => ?_)
  exact q_vretN C0 hw h ⟨(Nat.le_of_ble_eq_true rfl), (Nat.le_of_ble_eq_true rfl)⟩ dX4_keep_19
/-! Homewatcher$Version.isOf(II)Z -/
abbrev rmX4_isOf : Room := { frames := 0, cells := 0, slots := 0, locals := 0 }
def fX4_isOf_21 (F : Nat) (M : Mem) (s0 : Int32) : Option (Mem × Int32) :=
    q_gd (q_isZ s0) (
    some (M, s0))
set_option maxHeartbeats 4000000 in
set_option maxRecDepth 100000 in
theorem wX4_isOf_21 {p : Program} {l : Launch} {e : Env} {s : State} {m : MethodId} {args : Array Value} {below : List Frame} {meth : Method} {c : Code} {D : va_G} {cy : Nat → ClassId} {ad : Nat → Nat} {x : XX} {F : Nat} {r : Mem × Int32} (hst : l.stackTraces = false) (C0 : MX p l s m args meth c D cy ad cX4_isOf RX4 3 wsX4_isOf (some .boolean)) : ∀ (M : Mem) (s0 : Int32) (H : Heap) (locs : List Loc) (ls : Array Slot), Wd D cy ad x s M H locs → lv_has ls 3 [] → fX4_isOf_21 F M s0 = some r → W p l e rmX4_isOf s m args below meth c H locs 0 0 (QN D cy ad below args s x q_vi r 0 0) (F0 m 21 ls [.int s0]) := by
  obtain ⟨hx, hb, hml, hown, hts, -⟩ := id C0
  intro M s0 H locs ls hw hl h
  unfold fX4_isOf_21 at h
  refine q_guard h (fun g h => ?_)
  exact q_zretN C0 hw (q_isZ_in g) h ⟨(Nat.le_of_ble_eq_true rfl), (Nat.le_of_ble_eq_true rfl)⟩ dX4_isOf_21
def fX4_isOf_20 (F : Nat) (M : Mem) : Option (Mem × Int32) :=
    fX4_isOf_21 F M (0 : Int32)
set_option maxHeartbeats 4000000 in
set_option maxRecDepth 100000 in
theorem wX4_isOf_20 {p : Program} {l : Launch} {e : Env} {s : State} {m : MethodId} {args : Array Value} {below : List Frame} {meth : Method} {c : Code} {D : va_G} {cy : Nat → ClassId} {ad : Nat → Nat} {x : XX} {F : Nat} {r : Mem × Int32} (hst : l.stackTraces = false) (C0 : MX p l s m args meth c D cy ad cX4_isOf RX4 3 wsX4_isOf (some .boolean)) : ∀ (M : Mem) (H : Heap) (locs : List Loc) (ls : Array Slot), Wd D cy ad x s M H locs → lv_has ls 3 [] → fX4_isOf_20 F M = some r → W p l e rmX4_isOf s m args below meth c H locs 0 0 (QN D cy ad below args s x q_vi r 0 0) (F0 m 20 ls []) := by
  obtain ⟨hx, hb, hml, hown, hts, -⟩ := id C0
  intro M H locs ls hw hl h
  unfold fX4_isOf_20 at h
  refine lv_iconst (v := 0) hx hb dX4_isOf_20 (by decide) ?_
  exact wX4_isOf_21 hst C0  M (0 : Int32) _ _ _ hw (lv_sub hl [] rfl) h
def fX4_isOf (F : Nat) (M : Mem) (j0 : Nat) (a0 : Int32) (a1 : Int32) : Option (Mem × Int32) :=
    if (M 10 j0 0) = a0 then
    (if (M 11 j0 0) = a1 then
    (fX4_isOf_21 F M (1 : Int32))
    else
    (fX4_isOf_20 F M))
    else
    (fX4_isOf_20 F M)
set_option maxHeartbeats 4000000 in
set_option maxRecDepth 100000 in
theorem ctX4_isOf {l : Launch} (hst : l.stackTraces = false) {D : va_G} {cy : Nat → ClassId} {ad : Nat → Nat} {x : XX} {F : Nat} {M : Mem} {j0 : Nat} {a0 : Int32} {a1 : Int32} (hj0 : j0 < 60) {r : Mem × Int32} (h : fX4_isOf F M j0 a0 a1 = some r) : CN l yX4_isOf wsX4_isOf rmX4_isOf D cy ad [.ref (ad (cVer j0)), .int a0, .int a1] x M x r.1 (q_vi r.2) 0 0 := by
  refine q_startN (cc := cX4_isOf) (maxL := 3) (ret := (some .boolean)) (by decide) rfl (Nat.le_of_ble_eq_true rfl) ?_
  intro p e s m args below meth c ls C0 hw hl hnm
  obtain ⟨hx, hb, hml, hown, hts, -⟩ := id C0
  have C0 : MX p l s m args meth c D cy ad cX4_isOf RX4 3 wsX4_isOf ((some .boolean)) := C0
  have hown : s.vm.findClass RX4 = some m.cls := hown
  have hl : lv_has ls 3 [(0, .ref (ad (cVer j0))), (1, .int a0), (2, .int a1)] := hl
  show W p l e rmX4_isOf s m args below meth c s.heap [] 0 0 (QN D cy ad below args s x q_vi r 0 0) (F0 m 0 ls [])
  unfold fX4_isOf at h
  refine lv_aload_n hx hb dX4_isOf_0 rfl (lv_at hl 0 rfl) ?_
  refine gf_Ver_pupil C0 hw hj0 (fun _ h9 => List.mem_cons_of_mem _ (List.mem_append_right _ h9)) (List.mem_of_getElem? (i := 1) rfl) dX4_isOf_1 ?_
  refine lv_iload_n hx hb dX4_isOf_4 rfl (lv_at hl 1 rfl) ?_
  refine q_icmp_ne (tgt := 20) hx hb dX4_isOf_5 (by decide) h (fun h => ?_) (fun h => ?_)
  · exact wX4_isOf_20 hst C0  M _ _ _ hw (lv_sub hl [] rfl) h
  · refine lv_aload_n hx hb dX4_isOf_8 rfl (lv_at hl 0 rfl) ?_
    refine gf_Ver_task C0 hw hj0 (fun _ h9 => List.mem_cons_of_mem _ (List.mem_append_right _ h9)) (List.mem_of_getElem? (i := 2) rfl) dX4_isOf_9 ?_
    refine lv_iload_n hx hb dX4_isOf_12 rfl (lv_at hl 2 rfl) ?_
    refine q_icmp_ne (tgt := 20) hx hb dX4_isOf_13 (by decide) h (fun h => ?_) (fun h => ?_)
    · exact wX4_isOf_20 hst C0  M _ _ _ hw (lv_sub hl [] rfl) h
    · refine lv_iconst (v := 1) hx hb dX4_isOf_16 (by decide) ?_
      refine lv_goto (tgt := 21) hx hb dX4_isOf_17 (by decide) ?_
      exact wX4_isOf_21 hst C0  M (1 : Int32) _ _ _ hw (lv_sub hl [] rfl) h
/-! Homewatcher$Version.canPrecede(III)Z -/
abbrev rmX4_canPrecede : Room := { frames := 1, cells := 0, slots := 0, locals := 22 }
def fX4_canPrecede_22 (F : Nat) (M : Mem) (s0 : Int32) : Option (Mem × Int32) :=
    q_gd (q_isZ s0) (
    some (M, s0))
set_option maxHeartbeats 4000000 in
set_option maxRecDepth 100000 in
theorem wX4_canPrecede_22 {p : Program} {l : Launch} {e : Env} {s : State} {m : MethodId} {args : Array Value} {below : List Frame} {meth : Method} {c : Code} {D : va_G} {cy : Nat → ClassId} {ad : Nat → Nat} {x : XX} {F : Nat} {r : Mem × Int32} (hst : l.stackTraces = false) (C0 : MX p l s m args meth c D cy ad cX4_canPrecede RX4 4 wsX4_canPrecede (some .boolean)) : ∀ (M : Mem) (s0 : Int32) (H : Heap) (locs : List Loc) (ls : Array Slot), Wd D cy ad x s M H locs → lv_has ls 4 [] → fX4_canPrecede_22 F M s0 = some r → W p l e rmX4_canPrecede s m args below meth c H locs 0 0 (QN D cy ad below args s x q_vi r 0 0) (F0 m 22 ls [.int s0]) := by
  obtain ⟨hx, hb, hml, hown, hts, -⟩ := id C0
  intro M s0 H locs ls hw hl h
  unfold fX4_canPrecede_22 at h
  refine q_guard h (fun g h => ?_)
  exact q_zretN C0 hw (q_isZ_in g) h ⟨(Nat.le_of_ble_eq_true rfl), (Nat.le_of_ble_eq_true rfl)⟩ dX4_canPrecede_22
def fX4_canPrecede_21 (F : Nat) (M : Mem) : Option (Mem × Int32) :=
    fX4_canPrecede_22 F M (0 : Int32)
set_option maxHeartbeats 4000000 in
set_option maxRecDepth 100000 in
theorem wX4_canPrecede_21 {p : Program} {l : Launch} {e : Env} {s : State} {m : MethodId} {args : Array Value} {below : List Frame} {meth : Method} {c : Code} {D : va_G} {cy : Nat → ClassId} {ad : Nat → Nat} {x : XX} {F : Nat} {r : Mem × Int32} (hst : l.stackTraces = false) (C0 : MX p l s m args meth c D cy ad cX4_canPrecede RX4 4 wsX4_canPrecede (some .boolean)) : ∀ (M : Mem) (H : Heap) (locs : List Loc) (ls : Array Slot), Wd D cy ad x s M H locs → lv_has ls 4 [] → fX4_canPrecede_21 F M = some r → W p l e rmX4_canPrecede s m args below meth c H locs 0 0 (QN D cy ad below args s x q_vi r 0 0) (F0 m 21 ls []) := by
  obtain ⟨hx, hb, hml, hown, hts, -⟩ := id C0
  intro M H locs ls hw hl h
  unfold fX4_canPrecede_21 at h
  refine lv_iconst (v := 0) hx hb dX4_canPrecede_21 (by decide) ?_
  exact wX4_canPrecede_22 hst C0  M (0 : Int32) _ _ _ hw (lv_sub hl [] rfl) h
def fX4_canPrecede (F : Nat) (M : Mem) (j0 : Nat) (a0 : Int32) (a1 : Int32) (a2 : Int32) : Option (Mem × Int32) :=
    q_bn (fX4_isOf F M j0 a0 a1) fun M1 z2 =>
    if z2 = (0 : Int32) then
    (fX4_canPrecede_21 F M1)
    else
    (if a2 < (M1 13 j0 0) then
    (fX4_canPrecede_21 F M1)
    else
    (fX4_canPrecede_22 F M1 (1 : Int32)))
set_option maxHeartbeats 4000000 in
set_option maxRecDepth 100000 in
theorem ctX4_canPrecede {l : Launch} (hst : l.stackTraces = false) {D : va_G} {cy : Nat → ClassId} {ad : Nat → Nat} {x : XX} {F : Nat} {M : Mem} {j0 : Nat} {a0 : Int32} {a1 : Int32} {a2 : Int32} (hj0 : j0 < 60) {r : Mem × Int32} (h : fX4_canPrecede F M j0 a0 a1 a2 = some r) : CN l yX4_canPrecede wsX4_canPrecede rmX4_canPrecede D cy ad [.ref (ad (cVer j0)), .int a0, .int a1, .int a2] x M x r.1 (q_vi r.2) 0 0 := by
  refine q_startN (cc := cX4_canPrecede) (maxL := 4) (ret := (some .boolean)) (by decide) rfl (Nat.le_of_ble_eq_true rfl) ?_
  intro p e s m args below meth c ls C0 hw hl hnm
  obtain ⟨hx, hb, hml, hown, hts, -⟩ := id C0
  have C0 : MX p l s m args meth c D cy ad cX4_canPrecede RX4 4 wsX4_canPrecede ((some .boolean)) := C0
  have hown : s.vm.findClass RX4 = some m.cls := hown
  have hl : lv_has ls 4 [(0, .ref (ad (cVer j0))), (1, .int a0), (2, .int a1), (3, .int a2)] := hl
  show W p l e rmX4_canPrecede s m args below meth c s.heap [] 0 0 (QN D cy ad below args s x q_vi r 0 0) (F0 m 0 ls [])
  unfold fX4_canPrecede at h
  refine lv_aload_n hx hb dX4_canPrecede_0 rfl (lv_at hl 0 rfl) ?_
  refine lv_iload_n hx hb dX4_canPrecede_1 rfl (lv_at hl 1 rfl) ?_
  refine lv_iload_n hx hb dX4_canPrecede_2 rfl (lv_at hl 2 rfl) ?_
  refine q_callVNi (As := [.int a0, .int a1]) (nA := 2) C0 hw (at_Ver hj0) rfl (fun r1 h1 => ctX4_isOf hst hj0 h1) gX4_canPrecede_X4_isOf rfl ⟨rfl, rfl⟩ (by decide +kernel) rfl ⟨(Nat.le_of_ble_eq_true rfl), (Nat.le_of_ble_eq_true rfl)⟩ hl.1 (Nat.le_of_ble_eq_true rfl) ⟨(Nat.le_of_ble_eq_true rfl), (Nat.le_of_ble_eq_true rfl)⟩ rfl h dX4_canPrecede_3 (fun M1 z2 H locs hw h => ?_)
  refine q_if_eq (tgt := 21) hx hb dX4_canPrecede_6 (by decide) h (fun h => ?_) (fun h => ?_)
  · exact wX4_canPrecede_21 hst C0  M1 _ _ _ hw (lv_sub hl [] rfl) h
  · refine lv_aload_n hx hb dX4_canPrecede_9 rfl (lv_at hl 0 rfl) ?_
    refine gf_Ver_savedAt C0 hw hj0 (fun _ h9 => List.mem_cons_of_mem _ (List.mem_append_right _ h9)) (List.mem_of_getElem? (i := 1) rfl) dX4_canPrecede_10 ?_
    refine lv_iload_n hx hb dX4_canPrecede_13 rfl (lv_at hl 3 rfl) ?_
    refine q_icmp_gt (tgt := 21) hx hb dX4_canPrecede_14 (by decide) h (fun h => ?_) (fun h => ?_)
    · exact wX4_canPrecede_21 hst C0  M1 _ _ _ hw (lv_sub hl [] rfl) h
    · refine lv_iconst (v := 1) hx hb dX4_canPrecede_17 (by decide) ?_
      refine lv_goto (tgt := 22) hx hb dX4_canPrecede_18 (by decide) ?_
      exact wX4_canPrecede_22 hst C0  M1 (1 : Int32) _ _ _ hw (lv_sub hl [] rfl) h
/-! Homewatcher$Version.isThere()Z -/
abbrev rmX4_isThere : Room := { frames := 0, cells := 0, slots := 0, locals := 0 }
def fX4_isThere_20 (F : Nat) (M : Mem) (s0 : Int32) : Option (Mem × Int32) :=
    q_gd (q_isZ s0) (
    some (M, s0))
set_option maxHeartbeats 4000000 in
set_option maxRecDepth 100000 in
theorem wX4_isThere_20 {p : Program} {l : Launch} {e : Env} {s : State} {m : MethodId} {args : Array Value} {below : List Frame} {meth : Method} {c : Code} {D : va_G} {cy : Nat → ClassId} {ad : Nat → Nat} {x : XX} {F : Nat} {r : Mem × Int32} (hst : l.stackTraces = false) (C0 : MX p l s m args meth c D cy ad cX4_isThere RX4 1 wsX4_isThere (some .boolean)) : ∀ (M : Mem) (s0 : Int32) (H : Heap) (locs : List Loc) (ls : Array Slot), Wd D cy ad x s M H locs → lv_has ls 1 [] → fX4_isThere_20 F M s0 = some r → W p l e rmX4_isThere s m args below meth c H locs 0 0 (QN D cy ad below args s x q_vi r 0 0) (F0 m 20 ls [.int s0]) := by
  obtain ⟨hx, hb, hml, hown, hts, -⟩ := id C0
  intro M s0 H locs ls hw hl h
  unfold fX4_isThere_20 at h
  refine q_guard h (fun g h => ?_)
  exact q_zretN C0 hw (q_isZ_in g) h ⟨(Nat.le_of_ble_eq_true rfl), (Nat.le_of_ble_eq_true rfl)⟩ dX4_isThere_20
def fX4_isThere_19 (F : Nat) (M : Mem) : Option (Mem × Int32) :=
    fX4_isThere_20 F M (0 : Int32)
set_option maxHeartbeats 4000000 in
set_option maxRecDepth 100000 in
theorem wX4_isThere_19 {p : Program} {l : Launch} {e : Env} {s : State} {m : MethodId} {args : Array Value} {below : List Frame} {meth : Method} {c : Code} {D : va_G} {cy : Nat → ClassId} {ad : Nat → Nat} {x : XX} {F : Nat} {r : Mem × Int32} (hst : l.stackTraces = false) (C0 : MX p l s m args meth c D cy ad cX4_isThere RX4 1 wsX4_isThere (some .boolean)) : ∀ (M : Mem) (H : Heap) (locs : List Loc) (ls : Array Slot), Wd D cy ad x s M H locs → lv_has ls 1 [] → fX4_isThere_19 F M = some r → W p l e rmX4_isThere s m args below meth c H locs 0 0 (QN D cy ad below args s x q_vi r 0 0) (F0 m 19 ls []) := by
  obtain ⟨hx, hb, hml, hown, hts, -⟩ := id C0
  intro M H locs ls hw hl h
  unfold fX4_isThere_19 at h
  refine lv_iconst (v := 0) hx hb dX4_isThere_19 (by decide) ?_
  exact wX4_isThere_20 hst C0  M (0 : Int32) _ _ _ hw (lv_sub hl [] rfl) h
def fX4_isThere (F : Nat) (M : Mem) (j0 : Nat) : Option (Mem × Int32) :=
    if (M 14 j0 0) = (-1 : Int32) then
    (fX4_isThere_19 F M)
    else
    (if (M 16 j0 0) = (0 : Int32) then
    (fX4_isThere_20 F M (1 : Int32))
    else
    (fX4_isThere_19 F M))
set_option maxHeartbeats 4000000 in
set_option maxRecDepth 100000 in
theorem ctX4_isThere {l : Launch} (hst : l.stackTraces = false) {D : va_G} {cy : Nat → ClassId} {ad : Nat → Nat} {x : XX} {F : Nat} {M : Mem} {j0 : Nat} (hj0 : j0 < 60) {r : Mem × Int32} (h : fX4_isThere F M j0 = some r) : CN l yX4_isThere wsX4_isThere rmX4_isThere D cy ad [.ref (ad (cVer j0))] x M x r.1 (q_vi r.2) 0 0 := by
  refine q_startN (cc := cX4_isThere) (maxL := 1) (ret := (some .boolean)) (by decide) rfl (Nat.le_of_ble_eq_true rfl) ?_
  intro p e s m args below meth c ls C0 hw hl hnm
  obtain ⟨hx, hb, hml, hown, hts, -⟩ := id C0
  have C0 : MX p l s m args meth c D cy ad cX4_isThere RX4 1 wsX4_isThere ((some .boolean)) := C0
  have hown : s.vm.findClass RX4 = some m.cls := hown
  have hl : lv_has ls 1 [(0, .ref (ad (cVer j0)))] := hl
  show W p l e rmX4_isThere s m args below meth c s.heap [] 0 0 (QN D cy ad below args s x q_vi r 0 0) (F0 m 0 ls [])
  unfold fX4_isThere at h
  refine lv_aload_n hx hb dX4_isThere_0 rfl (lv_at hl 0 rfl) ?_
  refine gf_Ver_handedAt C0 hw hj0 (fun _ h9 => List.mem_cons_of_mem _ (List.mem_append_right _ h9)) (List.mem_of_getElem? (i := 1) rfl) dX4_isThere_1 ?_
  refine lv_iconst (v := -1) hx hb dX4_isThere_4 (by decide) ?_
  refine q_icmp_eq (tgt := 19) hx hb dX4_isThere_5 (by decide) h (fun h => ?_) (fun h => ?_)
  · exact wX4_isThere_19 hst C0  M _ _ _ hw (lv_sub hl [] rfl) h
  · refine lv_aload_n hx hb dX4_isThere_8 rfl (lv_at hl 0 rfl) ?_
    refine gf_Ver_withdrawn C0 hw hj0 (fun _ h9 => List.mem_cons_of_mem _ (List.mem_append_right _ h9)) (List.mem_of_getElem? (i := 2) rfl) dX4_isThere_9 ?_
    refine q_if_ne (tgt := 19) hx hb dX4_isThere_12 (by decide) h (fun h => ?_) (fun h => ?_)
    · exact wX4_isThere_19 hst C0  M _ _ _ hw (lv_sub hl [] rfl) h
    · refine lv_iconst (v := 1) hx hb dX4_isThere_15 (by decide) ?_
      refine lv_goto (tgt := 20) hx hb dX4_isThere_16 (by decide) ?_
      exact wX4_isThere_20 hst C0  M (1 : Int32) _ _ _ hw (lv_sub hl [] rfl) h
