/-! Homewatcher.isParent(I)Z -/
abbrev rmX5_isParent : Room := { frames := 0, cells := 0, slots := 0, locals := 0 }
def fX5_isParent_2 (F : Nat) : Nat → Mem → Int32 → Int32 → Option (Mem × Int32)
  | 0, _, _, _ => none
  | n + 1, M, v1, v2 =>
    if (M 4 0 0) ≤ v2 then
    (some (M, (0 : Int32)))
    else
    (q_ax v2 60 fun j1 =>
    if (M 12 j1 0) = v1 then
    (some (M, (1 : Int32)))
    else
    (q_lt (v2 + (1 : Int32)) fun z2 =>
    fX5_isParent_2 F n M v1 z2))
set_option maxHeartbeats 4000000 in
set_option maxRecDepth 100000 in
theorem wX5_isParent_2 {p : Program} {l : Launch} {e : Env} {s : State} {m : MethodId} {args : Array Value} {below : List Frame} {meth : Method} {c : Code} {D : va_G} {cy : Nat → ClassId} {ad : Nat → Nat} {x : XX} {F : Nat} {r : Mem × Int32} (hst : l.stackTraces = false) (C0 : MX p l s m args meth c D cy ad cX5_isParent RX5 3 wsX5_isParent (some .boolean)) : ∀ (n : Nat) (M : Mem) (v1 : Int32) (v2 : Int32) (H : Heap) (locs : List Loc) (ls : Array Slot), Wd D cy ad x s M H locs → lv_has ls 3 [(0, .ref (ad 0)), (1, .int v1), (2, .int v2)] → fX5_isParent_2 F n M v1 v2 = some r → W p l e rmX5_isParent s m args below meth c H locs 0 0 (QN D cy ad below args s x q_vi r 0 0) (F0 m 2 ls []) := by
  obtain ⟨hx, hb, hml, hown, hts, -⟩ := id C0
  intro n
  induction n with
  | zero =>
    intro M v1 v2 H locs ls hw hl h
    exact q_no h
  | succ n ih =>
    intro M v1 v2 H locs ls hw hl h
    unfold fX5_isParent_2 at h
    refine lv_iload_n hx hb dX5_isParent_2 rfl (lv_at hl 2 rfl) ?_
    refine lv_aload_n hx hb dX5_isParent_3 rfl (lv_at hl 0 rfl) ?_
    refine gf_HW_versionCount C0 hw (fun _ h9 => List.mem_cons_of_mem _ (List.mem_append_left _ (List.mem_append_right _ h9))) (List.mem_of_getElem? (i := 1) rfl) dX5_isParent_4 ?_
    refine q_icmp_ge (tgt := 31) hx hb dX5_isParent_7 (by decide) h (fun h => ?_) (fun h => ?_)
    · refine lv_iconst (v := 0) hx hb dX5_isParent_31 (by decide) ?_
      exact q_zretN C0 hw rfl h ⟨(Nat.le_of_ble_eq_true rfl), (Nat.le_of_ble_eq_true rfl)⟩ dX5_isParent_32
    · refine lv_aload_n hx hb dX5_isParent_10 rfl (lv_at hl 0 rfl) ?_
      refine gf_HW_versions C0 hw (fun _ h9 => List.mem_cons_of_mem _ (List.mem_append_left _ (List.mem_append_right _ h9))) (List.mem_of_getElem? (i := 2) rfl) dX5_isParent_11 ?_
      refine lv_iload_n hx hb dX5_isParent_14 rfl (lv_at hl 2 rfl) ?_
      refine q_aald (t := 6) C0 hw at_vers rfl h dX5_isParent_15 (fun j1 hj1 h => ?_)
      refine gf_Ver_parent C0 hw hj1 (fun _ h9 => List.mem_cons_of_mem _ (List.mem_append_right _ h9)) (List.mem_of_getElem? (i := 3) rfl) dX5_isParent_16 ?_
      refine lv_iload_n hx hb dX5_isParent_19 rfl (lv_at hl 1 rfl) ?_
      refine q_icmp_ne (tgt := 25) hx hb dX5_isParent_20 (by decide) h (fun h => ?_) (fun h => ?_)
      · refine q_iinc (k := 2) (cst := 1) (lv' := fun z2 => [(2, .int z2), (0, .ref (ad 0)), (1, .int v1)]) hx hb dX5_isParent_25 hl rfl rfl (by decide) (fun _ => rfl) h (fun z2 ls hl h => ?_)
        refine lv_goto (tgt := 2) hx hb dX5_isParent_28 (by decide) ?_
        exact ih M v1 z2 _ _ _ hw (lv_sub hl [1, 2, 0] rfl) h
      · refine lv_iconst (v := 1) hx hb dX5_isParent_23 (by decide) ?_
        exact q_zretN C0 hw rfl h ⟨(Nat.le_of_ble_eq_true rfl), (Nat.le_of_ble_eq_true rfl)⟩ dX5_isParent_24
def fX5_isParent (F : Nat) (M : Mem) (a0 : Int32) : Option (Mem × Int32) :=
    q_lt ((0 : Int32)) fun z1 =>
    fX5_isParent_2 F F M a0 z1
set_option maxHeartbeats 4000000 in
set_option maxRecDepth 100000 in
theorem ctX5_isParent {l : Launch} (hst : l.stackTraces = false) {D : va_G} {cy : Nat → ClassId} {ad : Nat → Nat} {x : XX} {F : Nat} {M : Mem} {a0 : Int32} {r : Mem × Int32} (h : fX5_isParent F M a0 = some r) : CN l yX5_isParent wsX5_isParent rmX5_isParent D cy ad [.ref (ad 0), .int a0] x M x r.1 (q_vi r.2) 0 0 := by
  refine q_startN (cc := cX5_isParent) (maxL := 3) (ret := (some .boolean)) (by decide) rfl (Nat.le_of_ble_eq_true rfl) ?_
  intro p e s m args below meth c ls C0 hw hl hnm
  obtain ⟨hx, hb, hml, hown, hts, -⟩ := id C0
  have C0 : MX p l s m args meth c D cy ad cX5_isParent RX5 3 wsX5_isParent ((some .boolean)) := C0
  have hown : s.vm.findClass RX5 = some m.cls := hown
  have hl : lv_has ls 3 [(0, .ref (ad 0)), (1, .int a0)] := hl
  show W p l e rmX5_isParent s m args below meth c s.heap [] 0 0 (QN D cy ad below args s x q_vi r 0 0) (F0 m 0 ls [])
  unfold fX5_isParent at h
  refine lv_iconst (v := 0) hx hb dX5_isParent_0 (by decide) ?_
  refine q_istore_n (lv' := fun z1 => [(2, .int z1), (0, .ref (ad 0)), (1, .int a0)]) hx hb dX5_isParent_1 rfl hl (by decide) (fun _ => rfl) h (fun z1 ls hl h => ?_)
  exact wX5_isParent_2 hst C0  F M a0 z1 _ _ _ hw (lv_sub hl [1, 2, 0] rfl) h
/-! Homewatcher.heads(II)I -/
abbrev rmX5_heads : Room := { frames := 7, cells := 2, slots := 12, locals := 111 }
def fX5_heads_51 (F : Nat) (k15 : Mem → Int32 → Int32 → Int32 → Int32 → Option (Mem × (Int32 ⊕ Nat))) (M : Mem) (v1 : Int32) (v2 : Int32) (v3 : Int32) (v4 : Int32) : Option (Mem × (Int32 ⊕ Nat)) :=
    q_lt (v4 + (1 : Int32)) fun z1 =>
    k15 M v1 v2 v3 z1
set_option maxHeartbeats 4000000 in
set_option maxRecDepth 100000 in
theorem wX5_heads_51 {p : Program} {l : Launch} {e : Env} {s : State} {m : MethodId} {args : Array Value} {below : List Frame} {meth : Method} {c : Code} {D : va_G} {cy : Nat → ClassId} {ad : Nat → Nat} {x : XX} {F : Nat} {r : Mem × (Int32 ⊕ Nat)} (hst : l.stackTraces = false) (C0 : MX p l s m args meth c D cy ad cX5_heads RX5 5 wsX5_heads (some .int)) (ht : ∀ z ∈ c.exceptionTable.toList, False) {k15 : Mem → Int32 → Int32 → Int32 → Int32 → Option (Mem × (Int32 ⊕ Nat))} (hk15 : ∀ (M : Mem) (v1 : Int32) (v2 : Int32) (v3 : Int32) (v4 : Int32) (H : Heap) (locs : List Loc) (ls : Array Slot), Wd D cy ad x s M H locs → lv_has ls 5 [(0, .ref (ad 0)), (1, .int v1), (2, .int v2), (3, .int v3), (4, .int v4)] → k15 M v1 v2 v3 v4 = some r → W p l e rmX5_heads s m args below meth c H locs 2 12 (QT D cy ad below args s x q_vi r 2 12) (F0 m 15 ls [])) : ∀ (M : Mem) (v1 : Int32) (v2 : Int32) (v3 : Int32) (v4 : Int32) (H : Heap) (locs : List Loc) (ls : Array Slot), Wd D cy ad x s M H locs → lv_has ls 5 [(0, .ref (ad 0)), (1, .int v1), (2, .int v2), (3, .int v3), (4, .int v4)] → fX5_heads_51 F k15 M v1 v2 v3 v4 = some r → W p l e rmX5_heads s m args below meth c H locs 2 12 (QT D cy ad below args s x q_vi r 2 12) (F0 m 51 ls []) := by
  obtain ⟨hx, hb, hml, hown, hts, -⟩ := id C0
  intro M v1 v2 v3 v4 H locs ls hw hl h
  unfold fX5_heads_51 at h
  refine q_iinc (k := 4) (cst := 1) (lv' := fun z1 => [(4, .int z1), (0, .ref (ad 0)), (1, .int v1), (2, .int v2), (3, .int v3)]) hx hb dX5_heads_51 hl rfl rfl (by decide) (fun _ => rfl) h (fun z1 ls hl h => ?_)
  refine lv_goto (tgt := 15) hx hb dX5_heads_54 (by decide) ?_
  exact hk15 M v1 v2 v3 z1 _ _ _ hw (lv_sub hl [1, 2, 3, 4, 0] rfl) h
def fX5_heads_15 (F : Nat) : Nat → Mem → Int32 → Int32 → Int32 → Int32 → Option (Mem × (Int32 ⊕ Nat))
  | 0, _, _, _, _, _ => none
  | n + 1, M, v1, v2, v3, v4 =>
    if (M 4 0 0) ≤ v4 then
    (some (M, Sum.inl v3))
    else
    (q_ax v4 60 fun j1 =>
    q_bn (fX4_isOf F M j1 v1 v2) fun M2 z3 =>
    if z3 = (0 : Int32) then
    (fX5_heads_51 F (fX5_heads_15 F n) M2 v1 v2 v3 v4)
    else
    (q_bn (fX5_isParent F M2 v4) fun M4 z5 =>
    if z5 = (0 : Int32) then
    (q_lt (v3 + (1 : Int32)) fun z6 =>
    fX5_heads_51 F (fX5_heads_15 F n) M4 v1 v2 z6 v4)
    else
    (fX5_heads_51 F (fX5_heads_15 F n) M4 v1 v2 v3 v4)))
set_option maxHeartbeats 4000000 in
set_option maxRecDepth 100000 in
theorem wX5_heads_15 {p : Program} {l : Launch} {e : Env} {s : State} {m : MethodId} {args : Array Value} {below : List Frame} {meth : Method} {c : Code} {D : va_G} {cy : Nat → ClassId} {ad : Nat → Nat} {x : XX} {F : Nat} {r : Mem × (Int32 ⊕ Nat)} (hst : l.stackTraces = false) (C0 : MX p l s m args meth c D cy ad cX5_heads RX5 5 wsX5_heads (some .int)) (ht : ∀ z ∈ c.exceptionTable.toList, False) : ∀ (n : Nat) (M : Mem) (v1 : Int32) (v2 : Int32) (v3 : Int32) (v4 : Int32) (H : Heap) (locs : List Loc) (ls : Array Slot), Wd D cy ad x s M H locs → lv_has ls 5 [(0, .ref (ad 0)), (1, .int v1), (2, .int v2), (3, .int v3), (4, .int v4)] → fX5_heads_15 F n M v1 v2 v3 v4 = some r → W p l e rmX5_heads s m args below meth c H locs 2 12 (QT D cy ad below args s x q_vi r 2 12) (F0 m 15 ls []) := by
  obtain ⟨hx, hb, hml, hown, hts, -⟩ := id C0
  intro n
  induction n with
  | zero =>
    intro M v1 v2 v3 v4 H locs ls hw hl h
    exact q_no h
  | succ n ih =>
    intro M v1 v2 v3 v4 H locs ls hw hl h
    unfold fX5_heads_15 at h
    refine lv_iload hx hb dX5_heads_15 (lv_at hl 4 rfl) ?_
    refine lv_aload_n hx hb dX5_heads_17 rfl (lv_at hl 0 rfl) ?_
    refine gf_HW_versionCount C0 hw (fun _ h9 => List.mem_cons_of_mem _ (List.mem_append_left _ (List.mem_append_left _ (List.mem_append_right _ h9)))) (List.mem_of_getElem? (i := 1) rfl) dX5_heads_18 ?_
    refine q_icmp_ge (tgt := 57) hx hb dX5_heads_21 (by decide) h (fun h => ?_) (fun h => ?_)
    · refine lv_iload_n hx hb dX5_heads_57 rfl (lv_at hl 3 rfl) ?_
      exact q_iretT C0 hw h ⟨(Nat.le_of_ble_eq_true rfl), (Nat.le_of_ble_eq_true rfl)⟩ dX5_heads_58
    · refine lv_aload_n hx hb dX5_heads_24 rfl (lv_at hl 0 rfl) ?_
      refine gf_HW_versions C0 hw (fun _ h9 => List.mem_cons_of_mem _ (List.mem_append_left _ (List.mem_append_left _ (List.mem_append_right _ h9)))) (List.mem_of_getElem? (i := 2) rfl) dX5_heads_25 ?_
      refine lv_iload hx hb dX5_heads_28 (lv_at hl 4 rfl) ?_
      refine q_aald (t := 6) C0 hw at_vers rfl h dX5_heads_30 (fun j1 hj1 h => ?_)
      refine lv_iload_n hx hb dX5_heads_31 rfl (lv_at hl 1 rfl) ?_
      refine lv_iload_n hx hb dX5_heads_32 rfl (lv_at hl 2 rfl) ?_
      refine q_callVNi (As := [.int v1, .int v2]) (nA := 2) C0 hw (at_Ver hj1) rfl (fun r1 h1 => ctX4_isOf hst hj1 h1) gX5_heads_X4_isOf rfl ⟨rfl, rfl⟩ (by decide +kernel) rfl ⟨(Nat.le_of_ble_eq_true rfl), (Nat.le_of_ble_eq_true rfl)⟩ hl.1 (Nat.le_of_ble_eq_true rfl) ⟨(Nat.le_of_ble_eq_true rfl), (Nat.le_of_ble_eq_true rfl)⟩ rfl h dX5_heads_33 (fun M2 z3 H locs hw h => ?_)
      refine q_if_eq (tgt := 51) hx hb dX5_heads_36 (by decide) h (fun h => ?_) (fun h => ?_)
      · exact wX5_heads_51 hst C0 ht ih M2 v1 v2 v3 v4 _ _ _ hw (lv_sub hl [0, 1, 2, 3, 4] rfl) h
      · refine lv_aload_n hx hb dX5_heads_39 rfl (lv_at hl 0 rfl) ?_
        refine lv_iload hx hb dX5_heads_40 (lv_at hl 4 rfl) ?_
        refine q_callVNi (As := [.int v4]) (nA := 1) C0 hw at_HW rfl (fun r1 h1 => ctX5_isParent hst h1) gX5_heads_X5_isParent rfl ⟨rfl, rfl⟩ (by decide +kernel) rfl ⟨(Nat.le_of_ble_eq_true rfl), (Nat.le_of_ble_eq_true rfl)⟩ hl.1 (Nat.le_of_ble_eq_true rfl) ⟨(Nat.le_of_ble_eq_true rfl), (Nat.le_of_ble_eq_true rfl)⟩ rfl h dX5_heads_42 (fun M4 z5 H locs hw h => ?_)
        refine q_if_ne (tgt := 51) hx hb dX5_heads_45 (by decide) h (fun h => ?_) (fun h => ?_)
        · exact wX5_heads_51 hst C0 ht ih M4 v1 v2 v3 v4 _ _ _ hw (lv_sub hl [0, 1, 2, 3, 4] rfl) h
        · refine q_iinc (k := 3) (cst := 1) (lv' := fun z6 => [(3, .int z6), (0, .ref (ad 0)), (1, .int v1), (2, .int v2), (4, .int v4)]) hx hb dX5_heads_48 hl rfl rfl (by decide) (fun _ => rfl) h (fun z6 ls hl h => ?_)
          exact wX5_heads_51 hst C0 ht ih M4 v1 v2 z6 v4 _ _ _ hw (lv_sub hl [1, 2, 3, 0, 4] rfl) h
def fX5_heads (F : Nat) (M : Mem) (a0 : Int32) (a1 : Int32) : Option (Mem × (Int32 ⊕ Nat)) :=
    q_bx (fX5_needPupil F M a0) fun M1 _ =>
    q_bx (fX5_needTask F M1 a1) fun M3 _ =>
    q_lt ((0 : Int32)) fun z5 =>
    q_lt ((0 : Int32)) fun z6 =>
    fX5_heads_15 F F M3 a0 a1 z5 z6
set_option maxHeartbeats 4000000 in
set_option maxRecDepth 100000 in
theorem ctX5_heads {l : Launch} (hst : l.stackTraces = false) {D : va_G} {cy : Nat → ClassId} {ad : Nat → Nat} {x : XX} {F : Nat} {M : Mem} {a0 : Int32} {a1 : Int32} {r : Mem × (Int32 ⊕ Nat)} (h : fX5_heads F M a0 a1 = some r) : CT l yX5_heads wsX5_heads rmX5_heads D cy ad [.ref (ad 0), .int a0, .int a1] x M r.1 (q_ou q_vi r.2) 2 12 := by
  refine q_startT (cc := cX5_heads) (maxL := 5) (ret := (some .int)) (by decide) rfl (Nat.le_of_ble_eq_true rfl) ?_
  intro p e s m args below meth c ls C0 hw hl ht
  obtain ⟨hx, hb, hml, hown, hts, -⟩ := id C0
  have C0 : MX p l s m args meth c D cy ad cX5_heads RX5 5 wsX5_heads ((some .int)) := C0
  have hown : s.vm.findClass RX5 = some m.cls := hown
  have hl : lv_has ls 5 [(0, .ref (ad 0)), (1, .int a0), (2, .int a1)] := hl
  show W p l e rmX5_heads s m args below meth c s.heap [] 0 0 (QT D cy ad below args s x q_vi r 2 12) (F0 m 0 ls [])
  unfold fX5_heads at h
  refine lv_aload_n hx hb dX5_heads_0 rfl (lv_at hl 0 rfl) ?_
  refine lv_iload_n hx hb dX5_heads_1 rfl (lv_at hl 1 rfl) ?_
  refine q_callVTv (As := [.int a0]) (nA := 1) C0 ht hw at_HW rfl (fun r1 h1 => ctX5_needPupil hst h1) gX5_heads_X5_needPupil rfl ⟨rfl, rfl⟩ (by decide +kernel) rfl ⟨(Nat.le_of_ble_eq_true rfl), (Nat.le_of_ble_eq_true rfl)⟩ hl.1 (Nat.le_of_ble_eq_true rfl) ⟨(Nat.le_of_ble_eq_true rfl), (Nat.le_of_ble_eq_true rfl)⟩ ⟨(Nat.le_of_ble_eq_true rfl), (Nat.le_of_ble_eq_true rfl)⟩ rfl h dX5_heads_2 (fun M1 H locs hw h => ?_)
  refine lv_aload_n hx hb dX5_heads_5 rfl (lv_at hl 0 rfl) ?_
  refine lv_iload_n hx hb dX5_heads_6 rfl (lv_at hl 2 rfl) ?_
  refine q_callVTv (As := [.int a1]) (nA := 1) C0 ht hw at_HW rfl (fun r1 h1 => ctX5_needTask hst h1) gX5_heads_X5_needTask rfl ⟨rfl, rfl⟩ (by decide +kernel) rfl ⟨(Nat.le_of_ble_eq_true rfl), (Nat.le_of_ble_eq_true rfl)⟩ hl.1 (Nat.le_of_ble_eq_true rfl) ⟨(Nat.le_of_ble_eq_true rfl), (Nat.le_of_ble_eq_true rfl)⟩ ⟨(Nat.le_of_ble_eq_true rfl), (Nat.le_of_ble_eq_true rfl)⟩ rfl h dX5_heads_7 (fun M3 H locs hw h => ?_)
  refine lv_iconst (v := 0) hx hb dX5_heads_10 (by decide) ?_
  refine q_istore_n (lv' := fun z5 => [(3, .int z5), (0, .ref (ad 0)), (1, .int a0), (2, .int a1)]) hx hb dX5_heads_11 rfl hl (by decide) (fun _ => rfl) h (fun z5 ls hl h => ?_)
  refine lv_iconst (v := 0) hx hb dX5_heads_12 (by decide) ?_
  refine q_istore (lv' := fun z6 => [(4, .int z6), (3, .int z5), (0, .ref (ad 0)), (1, .int a0), (2, .int a1)]) hx hb dX5_heads_13 hl (by decide) (fun _ => rfl) h (fun z6 ls hl h => ?_)
  exact wX5_heads_15 hst C0 ht  F M3 a0 a1 z5 z6 _ _ _ hw (lv_sub hl [2, 3, 4, 1, 0] rfl) h
/-! Homewatcher.isMatch(LHomewatcher$Version;LHomewatcher$Version;)Z -/
abbrev rmX5_isMatch : Room := { frames := 1, cells := 0, slots := 0, locals := 24 }
def fX5_isMatch_41 (F : Nat) (M : Mem) (s0 : Int32) : Option (Mem × Int32) :=
    q_gd (q_isZ s0) (
    some (M, s0))
set_option maxHeartbeats 4000000 in
set_option maxRecDepth 100000 in
theorem wX5_isMatch_41 {p : Program} {l : Launch} {e : Env} {s : State} {m : MethodId} {args : Array Value} {below : List Frame} {meth : Method} {c : Code} {D : va_G} {cy : Nat → ClassId} {ad : Nat → Nat} {x : XX} {F : Nat} {r : Mem × Int32} (hst : l.stackTraces = false) (C0 : MX p l s m args meth c D cy ad cX5_isMatch RX5 3 wsX5_isMatch (some .boolean)) : ∀ (M : Mem) (s0 : Int32) (H : Heap) (locs : List Loc) (ls : Array Slot), Wd D cy ad x s M H locs → lv_has ls 3 [] → fX5_isMatch_41 F M s0 = some r → W p l e rmX5_isMatch s m args below meth c H locs 0 0 (QN D cy ad below args s x q_vi r 0 0) (F0 m 41 ls [.int s0]) := by
  obtain ⟨hx, hb, hml, hown, hts, -⟩ := id C0
  intro M s0 H locs ls hw hl h
  unfold fX5_isMatch_41 at h
  refine q_guard h (fun g h => ?_)
  exact q_zretN C0 hw (q_isZ_in g) h ⟨(Nat.le_of_ble_eq_true rfl), (Nat.le_of_ble_eq_true rfl)⟩ dX5_isMatch_41
def fX5_isMatch_40 (F : Nat) (M : Mem) : Option (Mem × Int32) :=
    fX5_isMatch_41 F M (0 : Int32)
set_option maxHeartbeats 4000000 in
set_option maxRecDepth 100000 in
theorem wX5_isMatch_40 {p : Program} {l : Launch} {e : Env} {s : State} {m : MethodId} {args : Array Value} {below : List Frame} {meth : Method} {c : Code} {D : va_G} {cy : Nat → ClassId} {ad : Nat → Nat} {x : XX} {F : Nat} {r : Mem × Int32} (hst : l.stackTraces = false) (C0 : MX p l s m args meth c D cy ad cX5_isMatch RX5 3 wsX5_isMatch (some .boolean)) : ∀ (M : Mem) (H : Heap) (locs : List Loc) (ls : Array Slot), Wd D cy ad x s M H locs → lv_has ls 3 [] → fX5_isMatch_40 F M = some r → W p l e rmX5_isMatch s m args below meth c H locs 0 0 (QN D cy ad below args s x q_vi r 0 0) (F0 m 40 ls []) := by
  obtain ⟨hx, hb, hml, hown, hts, -⟩ := id C0
  intro M H locs ls hw hl h
  unfold fX5_isMatch_40 at h
  refine lv_iconst (v := 0) hx hb dX5_isMatch_40 (by decide) ?_
  exact wX5_isMatch_41 hst C0  M (0 : Int32) _ _ _ hw (lv_sub hl [] rfl) h
def fX5_isMatch (F : Nat) (M : Mem) (j1 : Nat) (j2 : Nat) : Option (Mem × Int32) :=
    q_bn (fX4_isThere F M j2) fun M1 z2 =>
    if z2 = (0 : Int32) then
    (fX5_isMatch_40 F M1)
    else
    (if (M1 10 j2 0) = (M1 10 j1 0) then
    (fX5_isMatch_40 F M1)
    else
    (q_bn (fX0_countCommon F M1 j2 j1) fun M3 z4 =>
    if z4 < (M3 7 0 0) then
    (fX5_isMatch_40 F M3)
    else
    (fX5_isMatch_41 F M3 (1 : Int32))))
set_option maxHeartbeats 4000000 in
set_option maxRecDepth 100000 in
theorem ctX5_isMatch {l : Launch} (hst : l.stackTraces = false) {D : va_G} {cy : Nat → ClassId} {ad : Nat → Nat} {x : XX} {F : Nat} {M : Mem} {j1 : Nat} {j2 : Nat} (hj1 : j1 < 60) (hj2 : j2 < 60) {r : Mem × Int32} (h : fX5_isMatch F M j1 j2 = some r) : CN l yX5_isMatch wsX5_isMatch rmX5_isMatch D cy ad [.ref (ad 0), .ref (ad (cVer j1)), .ref (ad (cVer j2))] x M x r.1 (q_vi r.2) 0 0 := by
  refine q_startN (cc := cX5_isMatch) (maxL := 3) (ret := (some .boolean)) (by decide) rfl (Nat.le_of_ble_eq_true rfl) ?_
  intro p e s m args below meth c ls C0 hw hl hnm
  obtain ⟨hx, hb, hml, hown, hts, -⟩ := id C0
  have C0 : MX p l s m args meth c D cy ad cX5_isMatch RX5 3 wsX5_isMatch ((some .boolean)) := C0
  have hown : s.vm.findClass RX5 = some m.cls := hown
  have hl : lv_has ls 3 [(0, .ref (ad 0)), (1, .ref (ad (cVer j1))), (2, .ref (ad (cVer j2)))] := hl
  show W p l e rmX5_isMatch s m args below meth c s.heap [] 0 0 (QN D cy ad below args s x q_vi r 0 0) (F0 m 0 ls [])
  unfold fX5_isMatch at h
  refine lv_aload_n hx hb dX5_isMatch_0 rfl (lv_at hl 2 rfl) ?_
  refine q_callVNi (As := []) (nA := 0) C0 hw (at_Ver hj2) rfl (fun r1 h1 => ctX4_isThere hst hj2 h1) gX5_isMatch_X4_isThere rfl ⟨rfl, rfl⟩ (by decide +kernel) rfl ⟨(Nat.le_of_ble_eq_true rfl), (Nat.le_of_ble_eq_true rfl)⟩ hl.1 (Nat.le_of_ble_eq_true rfl) ⟨(Nat.le_of_ble_eq_true rfl), (Nat.le_of_ble_eq_true rfl)⟩ rfl h dX5_isMatch_1 (fun M1 z2 H locs hw h => ?_)
  refine q_if_eq (tgt := 40) hx hb dX5_isMatch_4 (by decide) h (fun h => ?_) (fun h => ?_)
  · exact wX5_isMatch_40 hst C0  M1 _ _ _ hw (lv_sub hl [] rfl) h
  · refine lv_aload_n hx hb dX5_isMatch_7 rfl (lv_at hl 2 rfl) ?_
    refine gf_Ver_pupil C0 hw hj2 (fun _ h9 => List.mem_cons_of_mem _ (List.mem_append_left _ (List.mem_append_left _ (List.mem_append_left _ (List.mem_append_right _ h9))))) (List.mem_of_getElem? (i := 1) rfl) dX5_isMatch_8 ?_
    refine lv_aload_n hx hb dX5_isMatch_11 rfl (lv_at hl 1 rfl) ?_
    refine gf_Ver_pupil C0 hw hj1 (fun _ h9 => List.mem_cons_of_mem _ (List.mem_append_left _ (List.mem_append_left _ (List.mem_append_left _ (List.mem_append_right _ h9))))) (List.mem_of_getElem? (i := 1) rfl) dX5_isMatch_12 ?_
    refine q_icmp_eq (tgt := 40) hx hb dX5_isMatch_15 (by decide) h (fun h => ?_) (fun h => ?_)
    · exact wX5_isMatch_40 hst C0  M1 _ _ _ hw (lv_sub hl [] rfl) h
    · refine lv_aload_n hx hb dX5_isMatch_18 rfl (lv_at hl 2 rfl) ?_
      refine gf_Ver_shingles C0 hw hj2 (fun _ h9 => List.mem_cons_of_mem _ (List.mem_append_left _ (List.mem_append_left _ (List.mem_append_left _ (List.mem_append_right _ h9))))) (List.mem_of_getElem? (i := 2) rfl) dX5_isMatch_19 ?_
      refine lv_aload_n hx hb dX5_isMatch_22 rfl (lv_at hl 1 rfl) ?_
      refine gf_Ver_shingles C0 hw hj1 (fun _ h9 => List.mem_cons_of_mem _ (List.mem_append_left _ (List.mem_append_left _ (List.mem_append_left _ (List.mem_append_right _ h9))))) (List.mem_of_getElem? (i := 2) rfl) dX5_isMatch_23 ?_
      refine q_callVNi (As := [.ref (ad (cBag j1))]) (nA := 1) C0 hw (at_Bag (Nat.lt_of_lt_of_le hj2 (Nat.le_of_ble_eq_true rfl))) rfl (fun r1 h1 => ctX0_countCommon hst (Nat.lt_of_lt_of_le hj2 (Nat.le_of_ble_eq_true rfl)) (Nat.lt_of_lt_of_le hj1 (Nat.le_of_ble_eq_true rfl)) h1) gX5_isMatch_X0_countCommon rfl ⟨rfl, rfl⟩ (by decide +kernel) rfl ⟨(Nat.le_of_ble_eq_true rfl), (Nat.le_of_ble_eq_true rfl)⟩ hl.1 (Nat.le_of_ble_eq_true rfl) ⟨(Nat.le_of_ble_eq_true rfl), (Nat.le_of_ble_eq_true rfl)⟩ rfl h dX5_isMatch_26 (fun M3 z4 H locs hw h => ?_)
      refine lv_aload_n hx hb dX5_isMatch_29 rfl (lv_at hl 0 rfl) ?_
      refine gf_HW_hitThreshold C0 hw (fun _ h9 => List.mem_cons_of_mem _ (List.mem_append_left _ (List.mem_append_left _ (List.mem_append_right _ h9)))) (List.mem_of_getElem? (i := 3) rfl) dX5_isMatch_30 ?_
      refine q_icmp_lt (tgt := 40) hx hb dX5_isMatch_33 (by decide) h (fun h => ?_) (fun h => ?_)
      · exact wX5_isMatch_40 hst C0  M3 _ _ _ hw (lv_sub hl [] rfl) h
      · refine lv_iconst (v := 1) hx hb dX5_isMatch_36 (by decide) ?_
        refine lv_goto (tgt := 41) hx hb dX5_isMatch_37 (by decide) ?_
        exact wX5_isMatch_41 hst C0  M3 (1 : Int32) _ _ _ hw (lv_sub hl [] rfl) h
/-! Homewatcher.addHits(I)V -/
abbrev rmX5_addHits : Room := { frames := 2, cells := 0, slots := 0, locals := 46 }
def fX5_addHits_100 (F : Nat) (M : Mem) : Option (Mem × Unit) :=
    some (M, ())
set_option maxHeartbeats 4000000 in
set_option maxRecDepth 100000 in
theorem wX5_addHits_100 {p : Program} {l : Launch} {e : Env} {s : State} {m : MethodId} {args : Array Value} {below : List Frame} {meth : Method} {c : Code} {D : va_G} {cy : Nat → ClassId} {ad : Nat → Nat} {x : XX} {F : Nat} {r : Mem × Unit} (hst : l.stackTraces = false) (C0 : MX p l s m args meth c D cy ad cX5_addHits RX5 5 wsX5_addHits (none)) : ∀ (M : Mem) (H : Heap) (locs : List Loc) (ls : Array Slot), Wd D cy ad x s M H locs → lv_has ls 5 [] → fX5_addHits_100 F M = some r → W p l e rmX5_addHits s m args below meth c H locs 0 0 (QN D cy ad below args s x q_vv r 0 0) (F0 m 100 ls []) := by
  obtain ⟨hx, hb, hml, hown, hts, -⟩ := id C0
  intro M H locs ls hw hl h
  unfold fX5_addHits_100 at h
  exact q_vretN C0 hw h ⟨(Nat.le_of_ble_eq_true rfl), (Nat.le_of_ble_eq_true rfl)⟩ dX5_addHits_100
def fX5_addHits_94 (F : Nat) (k9 : Mem → Int32 → Nat → Int32 → Option (Mem × Unit)) (M : Mem) (v1 : Int32) (v2 : Nat) (v3 : Int32) : Option (Mem × Unit) :=
    q_lt (v3 + (1 : Int32)) fun z1 =>
    k9 M v1 v2 z1
set_option maxHeartbeats 4000000 in
set_option maxRecDepth 100000 in
theorem wX5_addHits_94 {p : Program} {l : Launch} {e : Env} {s : State} {m : MethodId} {args : Array Value} {below : List Frame} {meth : Method} {c : Code} {D : va_G} {cy : Nat → ClassId} {ad : Nat → Nat} {x : XX} {F : Nat} {r : Mem × Unit} (hst : l.stackTraces = false) (C0 : MX p l s m args meth c D cy ad cX5_addHits RX5 5 wsX5_addHits (none)) {k9 : Mem → Int32 → Nat → Int32 → Option (Mem × Unit)} (hk9 : ∀ (M : Mem) (v1 : Int32) (v2 : Nat) (v3 : Int32) (hv2 : v2 < 60) (H : Heap) (locs : List Loc) (ls : Array Slot), Wd D cy ad x s M H locs → lv_has ls 5 [(0, .ref (ad 0)), (1, .int v1), (2, .ref (ad (cVer v2))), (3, .int v3)] → k9 M v1 v2 v3 = some r → W p l e rmX5_addHits s m args below meth c H locs 0 0 (QN D cy ad below args s x q_vv r 0 0) (F0 m 9 ls [])) : ∀ (M : Mem) (v1 : Int32) (v2 : Nat) (v3 : Int32) (hv2 : v2 < 60) (H : Heap) (locs : List Loc) (ls : Array Slot), Wd D cy ad x s M H locs → lv_has ls 5 [(0, .ref (ad 0)), (1, .int v1), (2, .ref (ad (cVer v2))), (3, .int v3)] → fX5_addHits_94 F k9 M v1 v2 v3 = some r → W p l e rmX5_addHits s m args below meth c H locs 0 0 (QN D cy ad below args s x q_vv r 0 0) (F0 m 94 ls []) := by
  obtain ⟨hx, hb, hml, hown, hts, -⟩ := id C0
  intro M v1 v2 v3 hv2 H locs ls hw hl h
  unfold fX5_addHits_94 at h
  refine q_iinc (k := 3) (cst := 1) (lv' := fun z1 => [(3, .int z1), (0, .ref (ad 0)), (1, .int v1), (2, .ref (ad (cVer v2)))]) hx hb dX5_addHits_94 hl rfl rfl (by decide) (fun _ => rfl) h (fun z1 ls hl h => ?_)
  refine lv_goto (tgt := 9) hx hb dX5_addHits_97 (by decide) ?_
  exact hk9 M v1 v2 z1 hv2 _ _ _ hw (lv_sub hl [1, 2, 3, 0] rfl) h
def fX5_addHits_9 (F : Nat) : Nat → Mem → Int32 → Nat → Int32 → Option (Mem × Unit)
  | 0, _, _, _, _ => none
  | n + 1, M, v1, v2, v3 =>
    if (M 4 0 0) ≤ v3 then
    (fX5_addHits_100 F M)
    else
    (if (40 : Int32) ≤ (M 6 0 0) then
    (fX5_addHits_100 F M)
    else
    (q_ax v3 60 fun j1 =>
    q_bn (fX5_isMatch F M v2 j1) fun M2 z3 =>
    if z3 = (0 : Int32) then
    (fX5_addHits_94 F (fX5_addHits_9 F n) M2 v1 v2 v3)
    else
    (q_ax (M2 6 0 0) 40 fun j4 =>
    q_lt (up M2 55 j4 0 v1) fun M5 =>
    q_lt (up M5 56 j4 0 v3) fun M6 =>
    q_ax v3 60 fun j7 =>
    q_bn (fX0_countCommon F M6 j7 v2) fun M8 z9 =>
    q_lt (up M8 57 j4 0 z9) fun M10 =>
    q_lt (up M10 6 0 0 ((M10 6 0 0) + (1 : Int32))) fun M11 =>
    fX5_addHits_94 F (fX5_addHits_9 F n) M11 v1 v2 v3)))
set_option maxHeartbeats 4000000 in
set_option maxRecDepth 100000 in
theorem wX5_addHits_9 {p : Program} {l : Launch} {e : Env} {s : State} {m : MethodId} {args : Array Value} {below : List Frame} {meth : Method} {c : Code} {D : va_G} {cy : Nat → ClassId} {ad : Nat → Nat} {x : XX} {F : Nat} {r : Mem × Unit} (hst : l.stackTraces = false) (C0 : MX p l s m args meth c D cy ad cX5_addHits RX5 5 wsX5_addHits (none)) : ∀ (n : Nat) (M : Mem) (v1 : Int32) (v2 : Nat) (v3 : Int32) (hv2 : v2 < 60) (H : Heap) (locs : List Loc) (ls : Array Slot), Wd D cy ad x s M H locs → lv_has ls 5 [(0, .ref (ad 0)), (1, .int v1), (2, .ref (ad (cVer v2))), (3, .int v3)] → fX5_addHits_9 F n M v1 v2 v3 = some r → W p l e rmX5_addHits s m args below meth c H locs 0 0 (QN D cy ad below args s x q_vv r 0 0) (F0 m 9 ls []) := by
  obtain ⟨hx, hb, hml, hown, hts, -⟩ := id C0
  intro n
  induction n with
  | zero =>
    intro M v1 v2 v3 hv2 H locs ls hw hl h
    exact q_no h
  | succ n ih =>
    intro M v1 v2 v3 hv2 H locs ls hw hl h
    unfold fX5_addHits_9 at h
    refine lv_iload_n hx hb dX5_addHits_9 rfl (lv_at hl 3 rfl) ?_
    refine lv_aload_n hx hb dX5_addHits_10 rfl (lv_at hl 0 rfl) ?_
    refine gf_HW_versionCount C0 hw (fun _ h9 => List.mem_cons_of_mem _ (List.mem_append_left _ (List.mem_append_left _ (List.mem_append_left _ (List.mem_append_left _ (List.mem_append_right _ h9)))))) (List.mem_of_getElem? (i := 2) rfl) dX5_addHits_11 ?_
    refine q_icmp_ge (tgt := 100) hx hb dX5_addHits_14 (by decide) h (fun h => ?_) (fun h => ?_)
    · exact wX5_addHits_100 hst C0  M _ _ _ hw (lv_sub hl [] rfl) h
    · refine lv_aload_n hx hb dX5_addHits_17 rfl (lv_at hl 0 rfl) ?_
      refine gf_HW_hitCount C0 hw (fun _ h9 => List.mem_cons_of_mem _ (List.mem_append_left _ (List.mem_append_left _ (List.mem_append_left _ (List.mem_append_left _ (List.mem_append_right _ h9)))))) (List.mem_of_getElem? (i := 3) rfl) dX5_addHits_18 ?_
      refine lv_bipush (v := 40) hx hb dX5_addHits_21 (by decide) ?_
      refine q_icmp_ge (tgt := 100) hx hb dX5_addHits_23 (by decide) h (fun h => ?_) (fun h => ?_)
      · exact wX5_addHits_100 hst C0  M _ _ _ hw (lv_sub hl [] rfl) h
      · refine lv_aload_n hx hb dX5_addHits_26 rfl (lv_at hl 0 rfl) ?_
        refine lv_aload_n hx hb dX5_addHits_27 rfl (lv_at hl 2 rfl) ?_
        refine lv_aload_n hx hb dX5_addHits_28 rfl (lv_at hl 0 rfl) ?_
        refine gf_HW_versions C0 hw (fun _ h9 => List.mem_cons_of_mem _ (List.mem_append_left _ (List.mem_append_left _ (List.mem_append_left _ (List.mem_append_left _ (List.mem_append_right _ h9)))))) (List.mem_of_getElem? (i := 1) rfl) dX5_addHits_29 ?_
        refine lv_iload_n hx hb dX5_addHits_32 rfl (lv_at hl 3 rfl) ?_
        refine q_aald (t := 6) C0 hw at_vers rfl h dX5_addHits_33 (fun j1 hj1 h => ?_)
        refine q_callVNi (As := [.ref (ad (cVer v2)), .ref (ad (cVer j1))]) (nA := 2) C0 hw at_HW rfl (fun r1 h1 => ctX5_isMatch hst hv2 hj1 h1) gX5_addHits_X5_isMatch rfl ⟨rfl, rfl⟩ (by decide +kernel) rfl ⟨(Nat.le_of_ble_eq_true rfl), (Nat.le_of_ble_eq_true rfl)⟩ hl.1 (Nat.le_of_ble_eq_true rfl) ⟨(Nat.le_of_ble_eq_true rfl), (Nat.le_of_ble_eq_true rfl)⟩ rfl h dX5_addHits_34 (fun M2 z3 H locs hw h => ?_)
        refine q_if_eq (tgt := 94) hx hb dX5_addHits_37 (by decide) h (fun h => ?_) (fun h => ?_)
        · exact wX5_addHits_94 hst C0 ih M2 v1 v2 v3 hv2 _ _ _ hw (lv_sub hl [0, 1, 2, 3] rfl) h
        · refine lv_aload_n hx hb dX5_addHits_40 rfl (lv_at hl 0 rfl) ?_
          refine gf_HW_hitRow C0 hw (fun _ h9 => List.mem_cons_of_mem _ (List.mem_append_left _ (List.mem_append_left _ (List.mem_append_left _ (List.mem_append_left _ (List.mem_append_right _ h9)))))) (List.mem_of_getElem? (i := 4) rfl) dX5_addHits_41 ?_
          refine lv_aload_n hx hb dX5_addHits_44 rfl (lv_at hl 0 rfl) ?_
          refine gf_HW_hitCount C0 hw (fun _ h9 => List.mem_cons_of_mem _ (List.mem_append_left _ (List.mem_append_left _ (List.mem_append_left _ (List.mem_append_left _ (List.mem_append_right _ h9)))))) (List.mem_of_getElem? (i := 3) rfl) dX5_addHits_45 ?_
          refine q_aald (t := 7) C0 hw at_hits rfl h dX5_addHits_48 (fun j4 hj4 h => ?_)
          refine lv_astore (lv' := [(4, .ref (ad (cHit j4))), (0, .ref (ad 0)), (1, .int v1), (2, .ref (ad (cVer v2))), (3, .int v3)]) hx hb dX5_addHits_49 hl (by decide) rfl (fun ls hl => ?_)
          refine lv_aload hx hb dX5_addHits_51 (lv_at hl 0 rfl) ?_
          refine lv_iload_n hx hb dX5_addHits_53 rfl (lv_at hl 2 rfl) ?_
          refine pf_Hit_newer C0 hw hj4 (fun _ h9 => List.mem_cons_of_mem _ (List.mem_append_left _ (List.mem_append_left _ (List.mem_append_left _ (List.mem_append_right _ h9))))) (List.mem_of_getElem? (i := 5) rfl) dX5_addHits_54 h (fun M5 H locs hw h => ?_)
          refine lv_aload hx hb dX5_addHits_57 (lv_at hl 0 rfl) ?_
          refine lv_iload_n hx hb dX5_addHits_59 rfl (lv_at hl 4 rfl) ?_
          refine pf_Hit_other C0 hw hj4 (fun _ h9 => List.mem_cons_of_mem _ (List.mem_append_left _ (List.mem_append_left _ (List.mem_append_left _ (List.mem_append_right _ h9))))) (List.mem_of_getElem? (i := 6) rfl) dX5_addHits_60 h (fun M6 H locs hw h => ?_)
          refine lv_aload hx hb dX5_addHits_63 (lv_at hl 0 rfl) ?_
          refine lv_aload_n hx hb dX5_addHits_65 rfl (lv_at hl 1 rfl) ?_
          refine gf_HW_versions C0 hw (fun _ h9 => List.mem_cons_of_mem _ (List.mem_append_left _ (List.mem_append_left _ (List.mem_append_left _ (List.mem_append_left _ (List.mem_append_right _ h9)))))) (List.mem_of_getElem? (i := 1) rfl) dX5_addHits_66 ?_
          refine lv_iload_n hx hb dX5_addHits_69 rfl (lv_at hl 4 rfl) ?_
          refine q_aald (t := 6) C0 hw at_vers rfl h dX5_addHits_70 (fun j7 hj7 h => ?_)
          refine gf_Ver_shingles C0 hw hj7 (fun _ h9 => List.mem_cons_of_mem _ (List.mem_append_left _ (List.mem_append_left _ (List.mem_append_right _ h9)))) (List.mem_of_getElem? (i := 7) rfl) dX5_addHits_71 ?_
          refine lv_aload_n hx hb dX5_addHits_74 rfl (lv_at hl 3 rfl) ?_
          refine gf_Ver_shingles C0 hw hv2 (fun _ h9 => List.mem_cons_of_mem _ (List.mem_append_left _ (List.mem_append_left _ (List.mem_append_right _ h9)))) (List.mem_of_getElem? (i := 7) rfl) dX5_addHits_75 ?_
          refine q_callVNi (As := [.ref (ad (cBag v2))]) (nA := 1) C0 hw (at_Bag (Nat.lt_of_lt_of_le hj7 (Nat.le_of_ble_eq_true rfl))) rfl (fun r1 h1 => ctX0_countCommon hst (Nat.lt_of_lt_of_le hj7 (Nat.le_of_ble_eq_true rfl)) (Nat.lt_of_lt_of_le hv2 (Nat.le_of_ble_eq_true rfl)) h1) gX5_addHits_X0_countCommon rfl ⟨rfl, rfl⟩ (by decide +kernel) rfl ⟨(Nat.le_of_ble_eq_true rfl), (Nat.le_of_ble_eq_true rfl)⟩ hl.1 (Nat.le_of_ble_eq_true rfl) ⟨(Nat.le_of_ble_eq_true rfl), (Nat.le_of_ble_eq_true rfl)⟩ rfl h dX5_addHits_78 (fun M8 z9 H locs hw h => ?_)
          refine pf_Hit_common C0 hw hj4 (fun _ h9 => List.mem_cons_of_mem _ (List.mem_append_left _ (List.mem_append_left _ (List.mem_append_left _ (List.mem_append_right _ h9))))) (List.mem_of_getElem? (i := 8) rfl) dX5_addHits_81 h (fun M10 H locs hw h => ?_)
          refine lv_aload_n hx hb dX5_addHits_84 rfl (lv_at hl 1 rfl) ?_
          refine lv_dup hx hb dX5_addHits_85 rfl ?_
          refine gf_HW_hitCount C0 hw (fun _ h9 => List.mem_cons_of_mem _ (List.mem_append_left _ (List.mem_append_left _ (List.mem_append_left _ (List.mem_append_left _ (List.mem_append_right _ h9)))))) (List.mem_of_getElem? (i := 3) rfl) dX5_addHits_86 ?_
          refine lv_iconst (v := 1) hx hb dX5_addHits_89 (by decide) ?_
          refine lv_iadd hx hb dX5_addHits_90 ?_
          refine pf_HW_hitCount C0 hw (fun _ h9 => List.mem_cons_of_mem _ (List.mem_append_left _ (List.mem_append_left _ (List.mem_append_left _ (List.mem_append_left _ (List.mem_append_right _ h9)))))) (List.mem_of_getElem? (i := 3) rfl) dX5_addHits_91 h (fun M11 H locs hw h => ?_)
          exact wX5_addHits_94 hst C0 ih M11 v1 v2 v3 hv2 _ _ _ hw (lv_sub hl [1, 2, 3, 4] rfl) h
def fX5_addHits (F : Nat) (M : Mem) (a0 : Int32) : Option (Mem × Unit) :=
    q_ax a0 60 fun j1 =>
    q_lt ((0 : Int32)) fun z2 =>
    fX5_addHits_9 F F M a0 j1 z2
set_option maxHeartbeats 4000000 in
set_option maxRecDepth 100000 in
theorem ctX5_addHits {l : Launch} (hst : l.stackTraces = false) {D : va_G} {cy : Nat → ClassId} {ad : Nat → Nat} {x : XX} {F : Nat} {M : Mem} {a0 : Int32} {r : Mem × Unit} (h : fX5_addHits F M a0 = some r) : CN l yX5_addHits wsX5_addHits rmX5_addHits D cy ad [.ref (ad 0), .int a0] x M x r.1 (q_vv r.2) 0 0 := by
  refine q_startN (cc := cX5_addHits) (maxL := 5) (ret := none) (by decide) rfl (Nat.le_of_ble_eq_true rfl) ?_
  intro p e s m args below meth c ls C0 hw hl hnm
  obtain ⟨hx, hb, hml, hown, hts, -⟩ := id C0
  have C0 : MX p l s m args meth c D cy ad cX5_addHits RX5 5 wsX5_addHits (none) := C0
  have hown : s.vm.findClass RX5 = some m.cls := hown
  have hl : lv_has ls 5 [(0, .ref (ad 0)), (1, .int a0)] := hl
  show W p l e rmX5_addHits s m args below meth c s.heap [] 0 0 (QN D cy ad below args s x q_vv r 0 0) (F0 m 0 ls [])
  unfold fX5_addHits at h
  refine lv_aload_n hx hb dX5_addHits_0 rfl (lv_at hl 0 rfl) ?_
  refine gf_HW_versions C0 hw (fun _ h9 => List.mem_cons_of_mem _ (List.mem_append_left _ (List.mem_append_left _ (List.mem_append_left _ (List.mem_append_left _ (List.mem_append_right _ h9)))))) (List.mem_of_getElem? (i := 1) rfl) dX5_addHits_1 ?_
  refine lv_iload_n hx hb dX5_addHits_4 rfl (lv_at hl 1 rfl) ?_
  refine q_aald (t := 6) C0 hw at_vers rfl h dX5_addHits_5 (fun j1 hj1 h => ?_)
  refine lv_astore_n (lv' := [(2, .ref (ad (cVer j1))), (0, .ref (ad 0)), (1, .int a0)]) hx hb dX5_addHits_6 rfl hl (by decide) rfl (fun ls hl => ?_)
  refine lv_iconst (v := 0) hx hb dX5_addHits_7 (by decide) ?_
  refine q_istore_n (lv' := fun z2 => [(3, .int z2), (2, .ref (ad (cVer j1))), (0, .ref (ad 0)), (1, .int a0)]) hx hb dX5_addHits_8 rfl hl (by decide) (fun _ => rfl) h (fun z2 ls hl h => ?_)
  exact wX5_addHits_9 hst C0  F M a0 j1 z2 hj1 _ _ _ hw (lv_sub hl [2, 3, 1, 0] rfl) h
/-! Homewatcher.countMatches(LHomewatcher$Version;)I -/
abbrev rmX5_countMatches : Room := { frames := 2, cells := 0, slots := 0, locals := 46 }
def fX5_countMatches_29 (F : Nat) (k4 : Mem → Nat → Int32 → Int32 → Option (Mem × Int32)) (M : Mem) (v1 : Nat) (v2 : Int32) (v3 : Int32) : Option (Mem × Int32) :=
    q_lt (v3 + (1 : Int32)) fun z1 =>
    k4 M v1 v2 z1
set_option maxHeartbeats 4000000 in
set_option maxRecDepth 100000 in
theorem wX5_countMatches_29 {p : Program} {l : Launch} {e : Env} {s : State} {m : MethodId} {args : Array Value} {below : List Frame} {meth : Method} {c : Code} {D : va_G} {cy : Nat → ClassId} {ad : Nat → Nat} {x : XX} {F : Nat} {r : Mem × Int32} (hst : l.stackTraces = false) (C0 : MX p l s m args meth c D cy ad cX5_countMatches RX5 4 wsX5_countMatches (some .int)) {k4 : Mem → Nat → Int32 → Int32 → Option (Mem × Int32)} (hk4 : ∀ (M : Mem) (v1 : Nat) (v2 : Int32) (v3 : Int32) (hv1 : v1 < 60) (H : Heap) (locs : List Loc) (ls : Array Slot), Wd D cy ad x s M H locs → lv_has ls 4 [(0, .ref (ad 0)), (1, .ref (ad (cVer v1))), (2, .int v2), (3, .int v3)] → k4 M v1 v2 v3 = some r → W p l e rmX5_countMatches s m args below meth c H locs 0 0 (QN D cy ad below args s x q_vi r 0 0) (F0 m 4 ls [])) : ∀ (M : Mem) (v1 : Nat) (v2 : Int32) (v3 : Int32) (hv1 : v1 < 60) (H : Heap) (locs : List Loc) (ls : Array Slot), Wd D cy ad x s M H locs → lv_has ls 4 [(0, .ref (ad 0)), (1, .ref (ad (cVer v1))), (2, .int v2), (3, .int v3)] → fX5_countMatches_29 F k4 M v1 v2 v3 = some r → W p l e rmX5_countMatches s m args below meth c H locs 0 0 (QN D cy ad below args s x q_vi r 0 0) (F0 m 29 ls []) := by
  obtain ⟨hx, hb, hml, hown, hts, -⟩ := id C0
  intro M v1 v2 v3 hv1 H locs ls hw hl h
  unfold fX5_countMatches_29 at h
  refine q_iinc (k := 3) (cst := 1) (lv' := fun z1 => [(3, .int z1), (0, .ref (ad 0)), (1, .ref (ad (cVer v1))), (2, .int v2)]) hx hb dX5_countMatches_29 hl rfl rfl (by decide) (fun _ => rfl) h (fun z1 ls hl h => ?_)
  refine lv_goto (tgt := 4) hx hb dX5_countMatches_32 (by decide) ?_
  exact hk4 M v1 v2 z1 hv1 _ _ _ hw (lv_sub hl [1, 2, 3, 0] rfl) h
def fX5_countMatches_4 (F : Nat) : Nat → Mem → Nat → Int32 → Int32 → Option (Mem × Int32)
  | 0, _, _, _, _ => none
  | n + 1, M, v1, v2, v3 =>
    if (M 4 0 0) ≤ v3 then
    (some (M, v2))
    else
    (q_ax v3 60 fun j1 =>
    q_bn (fX5_isMatch F M v1 j1) fun M2 z3 =>
    if z3 = (0 : Int32) then
    (fX5_countMatches_29 F (fX5_countMatches_4 F n) M2 v1 v2 v3)
    else
    (q_lt (v2 + (1 : Int32)) fun z4 =>
    fX5_countMatches_29 F (fX5_countMatches_4 F n) M2 v1 z4 v3))
set_option maxHeartbeats 4000000 in
set_option maxRecDepth 100000 in
theorem wX5_countMatches_4 {p : Program} {l : Launch} {e : Env} {s : State} {m : MethodId} {args : Array Value} {below : List Frame} {meth : Method} {c : Code} {D : va_G} {cy : Nat → ClassId} {ad : Nat → Nat} {x : XX} {F : Nat} {r : Mem × Int32} (hst : l.stackTraces = false) (C0 : MX p l s m args meth c D cy ad cX5_countMatches RX5 4 wsX5_countMatches (some .int)) : ∀ (n : Nat) (M : Mem) (v1 : Nat) (v2 : Int32) (v3 : Int32) (hv1 : v1 < 60) (H : Heap) (locs : List Loc) (ls : Array Slot), Wd D cy ad x s M H locs → lv_has ls 4 [(0, .ref (ad 0)), (1, .ref (ad (cVer v1))), (2, .int v2), (3, .int v3)] → fX5_countMatches_4 F n M v1 v2 v3 = some r → W p l e rmX5_countMatches s m args below meth c H locs 0 0 (QN D cy ad below args s x q_vi r 0 0) (F0 m 4 ls []) := by
  obtain ⟨hx, hb, hml, hown, hts, -⟩ := id C0
  intro n
  induction n with
  | zero =>
    intro M v1 v2 v3 hv1 H locs ls hw hl h
    exact q_no h
  | succ n ih =>
    intro M v1 v2 v3 hv1 H locs ls hw hl h
    unfold fX5_countMatches_4 at h
    refine lv_iload_n hx hb dX5_countMatches_4 rfl (lv_at hl 3 rfl) ?_
    refine lv_aload_n hx hb dX5_countMatches_5 rfl (lv_at hl 0 rfl) ?_
    refine gf_HW_versionCount C0 hw (fun _ h9 => List.mem_cons_of_mem _ (List.mem_append_left _ (List.mem_append_left _ (List.mem_append_left _ (List.mem_append_right _ h9))))) (List.mem_of_getElem? (i := 1) rfl) dX5_countMatches_6 ?_
    refine q_icmp_ge (tgt := 35) hx hb dX5_countMatches_9 (by decide) h (fun h => ?_) (fun h => ?_)
    · refine lv_iload_n hx hb dX5_countMatches_35 rfl (lv_at hl 2 rfl) ?_
      exact q_iretN C0 hw h ⟨(Nat.le_of_ble_eq_true rfl), (Nat.le_of_ble_eq_true rfl)⟩ dX5_countMatches_36
    · refine lv_aload_n hx hb dX5_countMatches_12 rfl (lv_at hl 0 rfl) ?_
      refine lv_aload_n hx hb dX5_countMatches_13 rfl (lv_at hl 1 rfl) ?_
      refine lv_aload_n hx hb dX5_countMatches_14 rfl (lv_at hl 0 rfl) ?_
      refine gf_HW_versions C0 hw (fun _ h9 => List.mem_cons_of_mem _ (List.mem_append_left _ (List.mem_append_left _ (List.mem_append_left _ (List.mem_append_right _ h9))))) (List.mem_of_getElem? (i := 2) rfl) dX5_countMatches_15 ?_
      refine lv_iload_n hx hb dX5_countMatches_18 rfl (lv_at hl 3 rfl) ?_
      refine q_aald (t := 6) C0 hw at_vers rfl h dX5_countMatches_19 (fun j1 hj1 h => ?_)
      refine q_callVNi (As := [.ref (ad (cVer v1)), .ref (ad (cVer j1))]) (nA := 2) C0 hw at_HW rfl (fun r1 h1 => ctX5_isMatch hst hv1 hj1 h1) gX5_countMatches_X5_isMatch rfl ⟨rfl, rfl⟩ (by decide +kernel) rfl ⟨(Nat.le_of_ble_eq_true rfl), (Nat.le_of_ble_eq_true rfl)⟩ hl.1 (Nat.le_of_ble_eq_true rfl) ⟨(Nat.le_of_ble_eq_true rfl), (Nat.le_of_ble_eq_true rfl)⟩ rfl h dX5_countMatches_20 (fun M2 z3 H locs hw h => ?_)
      refine q_if_eq (tgt := 29) hx hb dX5_countMatches_23 (by decide) h (fun h => ?_) (fun h => ?_)
      · exact wX5_countMatches_29 hst C0 ih M2 v1 v2 v3 hv1 _ _ _ hw (lv_sub hl [0, 1, 2, 3] rfl) h
      · refine q_iinc (k := 2) (cst := 1) (lv' := fun z4 => [(2, .int z4), (0, .ref (ad 0)), (1, .ref (ad (cVer v1))), (3, .int v3)]) hx hb dX5_countMatches_26 hl rfl rfl (by decide) (fun _ => rfl) h (fun z4 ls hl h => ?_)
        exact wX5_countMatches_29 hst C0 ih M2 v1 z4 v3 hv1 _ _ _ hw (lv_sub hl [1, 2, 0, 3] rfl) h
def fX5_countMatches (F : Nat) (M : Mem) (j1 : Nat) : Option (Mem × Int32) :=
    q_lt ((0 : Int32)) fun z1 =>
    q_lt ((0 : Int32)) fun z2 =>
    fX5_countMatches_4 F F M j1 z1 z2
set_option maxHeartbeats 4000000 in
set_option maxRecDepth 100000 in
theorem ctX5_countMatches {l : Launch} (hst : l.stackTraces = false) {D : va_G} {cy : Nat → ClassId} {ad : Nat → Nat} {x : XX} {F : Nat} {M : Mem} {j1 : Nat} (hj1 : j1 < 60) {r : Mem × Int32} (h : fX5_countMatches F M j1 = some r) : CN l yX5_countMatches wsX5_countMatches rmX5_countMatches D cy ad [.ref (ad 0), .ref (ad (cVer j1))] x M x r.1 (q_vi r.2) 0 0 := by
  refine q_startN (cc := cX5_countMatches) (maxL := 4) (ret := (some .int)) (by decide) rfl (Nat.le_of_ble_eq_true rfl) ?_
  intro p e s m args below meth c ls C0 hw hl hnm
  obtain ⟨hx, hb, hml, hown, hts, -⟩ := id C0
  have C0 : MX p l s m args meth c D cy ad cX5_countMatches RX5 4 wsX5_countMatches ((some .int)) := C0
  have hown : s.vm.findClass RX5 = some m.cls := hown
  have hl : lv_has ls 4 [(0, .ref (ad 0)), (1, .ref (ad (cVer j1)))] := hl
  show W p l e rmX5_countMatches s m args below meth c s.heap [] 0 0 (QN D cy ad below args s x q_vi r 0 0) (F0 m 0 ls [])
  unfold fX5_countMatches at h
  refine lv_iconst (v := 0) hx hb dX5_countMatches_0 (by decide) ?_
  refine q_istore_n (lv' := fun z1 => [(2, .int z1), (0, .ref (ad 0)), (1, .ref (ad (cVer j1)))]) hx hb dX5_countMatches_1 rfl hl (by decide) (fun _ => rfl) h (fun z1 ls hl h => ?_)
  refine lv_iconst (v := 0) hx hb dX5_countMatches_2 (by decide) ?_
  refine q_istore_n (lv' := fun z2 => [(3, .int z2), (2, .int z1), (0, .ref (ad 0)), (1, .ref (ad (cVer j1)))]) hx hb dX5_countMatches_3 rfl hl (by decide) (fun _ => rfl) h (fun z2 ls hl h => ?_)
  exact wX5_countMatches_4 hst C0  F M j1 z1 z2 hj1 _ _ _ hw (lv_sub hl [2, 3, 1, 0] rfl) h
/-! Homewatcher.hand(I)I -/
abbrev rmX5_hand : Room := { frames := 7, cells := 2, slots := 12, locals := 124 }
def fX5_hand (F : Nat) (M : Mem) (a0 : Int32) : Option (Mem × (Int32 ⊕ Nat)) :=
    q_bx (fX5_needVersion F M a0) fun M1 _ =>
    q_ax a0 60 fun j3 =>
    if (M1 14 j3 0) = (-1 : Int32) then
    (q_bn (fX5_countMatches F M1 j3) fun M4 z5 =>
    q_lt (z5) fun z6 =>
    if ((M4 6 0 0) + z6) ≤ (40 : Int32) then
    (q_bn (fX5_addHits F M4 a0) fun M7 _ =>
    q_lt (up M7 14 j3 0 (M7 3 0 0)) fun M9 =>
    q_lt (up M9 15 j3 0 (M9 5 0 0)) fun M10 =>
    q_lt (up M10 5 0 0 ((M10 5 0 0) + (1 : Int32))) fun M11 =>
    q_bn (fX0_addKeysOf F M11 60 j3) fun M12 _ =>
    some (M12, Sum.inl z6))
    else
    (some (M4, Sum.inr 2)))
    else
    (some (M1, Sum.inr 5))
set_option maxHeartbeats 4000000 in
set_option maxRecDepth 100000 in
theorem ctX5_hand {l : Launch} (hst : l.stackTraces = false) {D : va_G} {cy : Nat → ClassId} {ad : Nat → Nat} {x : XX} {F : Nat} {M : Mem} {a0 : Int32} {r : Mem × (Int32 ⊕ Nat)} (h : fX5_hand F M a0 = some r) : CT l yX5_hand wsX5_hand rmX5_hand D cy ad [.ref (ad 0), .int a0] x M r.1 (q_ou q_vi r.2) 2 12 := by
  refine q_startT (cc := cX5_hand) (maxL := 4) (ret := (some .int)) (by decide) rfl (Nat.le_of_ble_eq_true rfl) ?_
  intro p e s m args below meth c ls C0 hw hl ht
  obtain ⟨hx, hb, hml, hown, hts, -⟩ := id C0
  have C0 : MX p l s m args meth c D cy ad cX5_hand RX5 4 wsX5_hand ((some .int)) := C0
  have hown : s.vm.findClass RX5 = some m.cls := hown
  have hl : lv_has ls 4 [(0, .ref (ad 0)), (1, .int a0)] := hl
  show W p l e rmX5_hand s m args below meth c s.heap [] 0 0 (QT D cy ad below args s x q_vi r 2 12) (F0 m 0 ls [])
  unfold fX5_hand at h
  refine lv_aload_n hx hb dX5_hand_0 rfl (lv_at hl 0 rfl) ?_
  refine lv_iload_n hx hb dX5_hand_1 rfl (lv_at hl 1 rfl) ?_
  refine q_callVTv (As := [.int a0]) (nA := 1) C0 ht hw at_HW rfl (fun r1 h1 => ctX5_needVersion hst h1) gX5_hand_X5_needVersion rfl ⟨rfl, rfl⟩ (by decide +kernel) rfl ⟨(Nat.le_of_ble_eq_true rfl), (Nat.le_of_ble_eq_true rfl)⟩ hl.1 (Nat.le_of_ble_eq_true rfl) ⟨(Nat.le_of_ble_eq_true rfl), (Nat.le_of_ble_eq_true rfl)⟩ ⟨(Nat.le_of_ble_eq_true rfl), (Nat.le_of_ble_eq_true rfl)⟩ rfl h dX5_hand_2 (fun M1 H locs hw h => ?_)
  refine lv_aload_n hx hb dX5_hand_5 rfl (lv_at hl 0 rfl) ?_
  refine gf_HW_versions C0 hw (fun _ h9 => List.mem_cons_of_mem _ (List.mem_append_left _ (List.mem_append_left _ (List.mem_append_left _ (List.mem_append_left _ (List.mem_append_left _ (List.mem_append_left _ (List.mem_append_left _ (List.mem_append_right _ h9))))))))) (List.mem_of_getElem? (i := 5) rfl) dX5_hand_6 ?_
  refine lv_iload_n hx hb dX5_hand_9 rfl (lv_at hl 1 rfl) ?_
  refine q_aald (t := 6) C0 hw at_vers rfl h dX5_hand_10 (fun j3 hj3 h => ?_)
  refine lv_astore_n (lv' := [(2, .ref (ad (cVer j3))), (0, .ref (ad 0)), (1, .int a0)]) hx hb dX5_hand_11 rfl hl (by decide) rfl (fun ls hl => ?_)
  refine lv_aload_n hx hb dX5_hand_12 rfl (lv_at hl 0 rfl) ?_
  refine gf_Ver_handedAt C0 hw hj3 (fun _ h9 => List.mem_cons_of_mem _ (List.mem_append_left _ (List.mem_append_left _ (List.mem_append_left _ (List.mem_append_left _ (List.mem_append_left _ (List.mem_append_left _ (List.mem_append_right _ h9)))))))) (List.mem_of_getElem? (i := 6) rfl) dX5_hand_13 ?_
  refine lv_iconst (v := -1) hx hb dX5_hand_16 (by decide) ?_
  refine q_icmp_eq (tgt := 30) hx hb dX5_hand_17 (by decide) h (fun h => ?_) (fun h => ?_)
  · refine lv_aload_n hx hb dX5_hand_30 rfl (lv_at hl 1 rfl) ?_
    refine lv_aload_n hx hb dX5_hand_31 rfl (lv_at hl 0 rfl) ?_
    refine q_callVNi (As := [.ref (ad (cVer j3))]) (nA := 1) C0 hw at_HW rfl (fun r1 h1 => ctX5_countMatches hst hj3 h1) gX5_hand_X5_countMatches rfl ⟨rfl, rfl⟩ (by decide +kernel) rfl ⟨(Nat.le_of_ble_eq_true rfl), (Nat.le_of_ble_eq_true rfl)⟩ hl.1 (Nat.le_of_ble_eq_true rfl) ⟨(Nat.le_of_ble_eq_true rfl), (Nat.le_of_ble_eq_true rfl)⟩ rfl h dX5_hand_32 (fun M4 z5 H locs hw h => ?_)
    refine q_istore_n (lv' := fun z6 => [(3, .int z6), (2, .ref (ad (cVer j3))), (0, .ref (ad 0)), (1, .int a0)]) hx hb dX5_hand_35 rfl hl (by decide) (fun _ => rfl) h (fun z6 ls hl h => ?_)
    refine lv_aload_n hx hb dX5_hand_36 rfl (lv_at hl 2 rfl) ?_
    refine gf_HW_hitCount C0 hw (fun _ h9 => List.mem_cons_of_mem _ (List.mem_append_left _ (List.mem_append_left _ (List.mem_append_left _ (List.mem_append_left _ (List.mem_append_left _ (List.mem_append_left _ (List.mem_append_left _ (List.mem_append_right _ h9))))))))) (List.mem_of_getElem? (i := 7) rfl) dX5_hand_37 ?_
    refine lv_iload_n hx hb dX5_hand_40 rfl (lv_at hl 0 rfl) ?_
    refine lv_iadd hx hb dX5_hand_41 ?_
    refine lv_bipush (v := 40) hx hb dX5_hand_42 (by decide) ?_
    refine q_icmp_le (tgt := 57) hx hb dX5_hand_44 (by decide) h (fun h => ?_) (fun h => ?_)
    · refine lv_aload_n hx hb dX5_hand_57 rfl (lv_at hl 2 rfl) ?_
      refine lv_iload_n hx hb dX5_hand_58 rfl (lv_at hl 3 rfl) ?_
      refine q_callVNv (As := [.int a0]) (nA := 1) C0 hw at_HW rfl (fun r1 h1 => ctX5_addHits hst h1) gX5_hand_X5_addHits rfl ⟨rfl, rfl⟩ (by decide +kernel) rfl ⟨(Nat.le_of_ble_eq_true rfl), (Nat.le_of_ble_eq_true rfl)⟩ hl.1 (Nat.le_of_ble_eq_true rfl) ⟨(Nat.le_of_ble_eq_true rfl), (Nat.le_of_ble_eq_true rfl)⟩ rfl h dX5_hand_59 (fun M7 H locs hw h => ?_)
      refine lv_aload_n hx hb dX5_hand_62 rfl (lv_at hl 1 rfl) ?_
      refine lv_aload_n hx hb dX5_hand_63 rfl (lv_at hl 2 rfl) ?_
      refine gf_HW_now C0 hw (fun _ h9 => List.mem_cons_of_mem _ (List.mem_append_left _ (List.mem_append_left _ (List.mem_append_left _ (List.mem_append_left _ (List.mem_append_left _ (List.mem_append_left _ (List.mem_append_left _ (List.mem_append_right _ h9))))))))) (List.mem_of_getElem? (i := 8) rfl) dX5_hand_64 ?_
      refine pf_Ver_handedAt C0 hw hj3 (fun _ h9 => List.mem_cons_of_mem _ (List.mem_append_left _ (List.mem_append_left _ (List.mem_append_left _ (List.mem_append_left _ (List.mem_append_left _ (List.mem_append_left _ (List.mem_append_right _ h9)))))))) (List.mem_of_getElem? (i := 6) rfl) dX5_hand_67 h (fun M9 H locs hw h => ?_)
      refine lv_aload_n hx hb dX5_hand_70 rfl (lv_at hl 1 rfl) ?_
      refine lv_aload_n hx hb dX5_hand_71 rfl (lv_at hl 2 rfl) ?_
      refine gf_HW_handings C0 hw (fun _ h9 => List.mem_cons_of_mem _ (List.mem_append_left _ (List.mem_append_left _ (List.mem_append_left _ (List.mem_append_left _ (List.mem_append_left _ (List.mem_append_left _ (List.mem_append_left _ (List.mem_append_right _ h9))))))))) (List.mem_of_getElem? (i := 9) rfl) dX5_hand_72 ?_
      refine pf_Ver_turn C0 hw hj3 (fun _ h9 => List.mem_cons_of_mem _ (List.mem_append_left _ (List.mem_append_left _ (List.mem_append_left _ (List.mem_append_left _ (List.mem_append_left _ (List.mem_append_left _ (List.mem_append_right _ h9)))))))) (List.mem_of_getElem? (i := 10) rfl) dX5_hand_75 h (fun M10 H locs hw h => ?_)
      refine lv_aload_n hx hb dX5_hand_78 rfl (lv_at hl 2 rfl) ?_
      refine lv_dup hx hb dX5_hand_79 rfl ?_
      refine gf_HW_handings C0 hw (fun _ h9 => List.mem_cons_of_mem _ (List.mem_append_left _ (List.mem_append_left _ (List.mem_append_left _ (List.mem_append_left _ (List.mem_append_left _ (List.mem_append_left _ (List.mem_append_left _ (List.mem_append_right _ h9))))))))) (List.mem_of_getElem? (i := 9) rfl) dX5_hand_80 ?_
      refine lv_iconst (v := 1) hx hb dX5_hand_83 (by decide) ?_
      refine lv_iadd hx hb dX5_hand_84 ?_
      refine pf_HW_handings C0 hw (fun _ h9 => List.mem_cons_of_mem _ (List.mem_append_left _ (List.mem_append_left _ (List.mem_append_left _ (List.mem_append_left _ (List.mem_append_left _ (List.mem_append_left _ (List.mem_append_left _ (List.mem_append_right _ h9))))))))) (List.mem_of_getElem? (i := 9) rfl) dX5_hand_85 h (fun M11 H locs hw h => ?_)
      refine lv_aload_n hx hb dX5_hand_88 rfl (lv_at hl 2 rfl) ?_
      refine gf_HW_shingleIndex C0 hw (fun _ h9 => List.mem_cons_of_mem _ (List.mem_append_left _ (List.mem_append_left _ (List.mem_append_left _ (List.mem_append_left _ (List.mem_append_left _ (List.mem_append_left _ (List.mem_append_left _ (List.mem_append_right _ h9))))))))) (List.mem_of_getElem? (i := 11) rfl) dX5_hand_89 ?_
      refine lv_aload_n hx hb dX5_hand_92 rfl (lv_at hl 1 rfl) ?_
      refine gf_Ver_shingles C0 hw hj3 (fun _ h9 => List.mem_cons_of_mem _ (List.mem_append_left _ (List.mem_append_left _ (List.mem_append_left _ (List.mem_append_left _ (List.mem_append_left _ (List.mem_append_left _ (List.mem_append_right _ h9)))))))) (List.mem_of_getElem? (i := 12) rfl) dX5_hand_93 ?_
      refine q_callVNv (As := [.ref (ad (cBag j3))]) (nA := 1) C0 hw (at_Bag (Nat.le_of_ble_eq_true rfl)) rfl (fun r1 h1 => ctX0_addKeysOf hst (Nat.le_of_ble_eq_true rfl) (Nat.lt_of_lt_of_le hj3 (Nat.le_of_ble_eq_true rfl)) h1) gX5_hand_X0_addKeysOf rfl ⟨rfl, rfl⟩ (by decide +kernel) rfl ⟨(Nat.le_of_ble_eq_true rfl), (Nat.le_of_ble_eq_true rfl)⟩ hl.1 (Nat.le_of_ble_eq_true rfl) ⟨(Nat.le_of_ble_eq_true rfl), (Nat.le_of_ble_eq_true rfl)⟩ rfl h dX5_hand_96 (fun M12 H locs hw h => ?_)
      refine lv_iload_n hx hb dX5_hand_99 rfl (lv_at hl 0 rfl) ?_
      exact q_iretT C0 hw h ⟨(Nat.le_of_ble_eq_true rfl), (Nat.le_of_ble_eq_true rfl)⟩ dX5_hand_100
    · exact q_thrS C0 ht hst hw (ik := 70) (is := 232) (ic := 74) xp_74 (List.mem_of_getElem? (i := 3) rfl) (List.mem_of_getElem? (i := 4) rfl) (List.mem_of_getElem? (i := 19) rfl) (fun _ h9 => List.mem_cons_of_mem _ (List.mem_append_left _ (List.mem_append_left _ (List.mem_append_right _ h9)))) hl.1 dX5_hand_47 dX5_hand_50 dX5_hand_51 dX5_hand_53 dX5_hand_56 ⟨(Nat.le_of_ble_eq_true rfl), (Nat.le_of_ble_eq_true rfl), (Nat.le_of_ble_eq_true rfl), (Nat.le_of_ble_eq_true rfl)⟩ ⟨(Nat.le_of_ble_eq_true rfl), (Nat.le_of_ble_eq_true rfl)⟩ h
  · exact q_thrS C0 ht hst hw (ik := 163) (is := 223) (ic := 167) xp_167 (List.mem_of_getElem? (i := 1) rfl) (List.mem_of_getElem? (i := 2) rfl) (List.mem_of_getElem? (i := 18) rfl) (fun _ h9 => List.mem_cons_of_mem _ (List.mem_append_left _ (List.mem_append_left _ (List.mem_append_left _ (List.mem_append_right _ h9))))) hl.1 dX5_hand_20 dX5_hand_23 dX5_hand_24 dX5_hand_26 dX5_hand_29 ⟨(Nat.le_of_ble_eq_true rfl), (Nat.le_of_ble_eq_true rfl), (Nat.le_of_ble_eq_true rfl), (Nat.le_of_ble_eq_true rfl)⟩ ⟨(Nat.le_of_ble_eq_true rfl), (Nat.le_of_ble_eq_true rfl)⟩ h
/-! Homewatcher.findCounting(II)I -/
abbrev rmX5_findCounting : Room := { frames := 1, cells := 0, slots := 0, locals := 22 }
def fX5_findCounting_64 (F : Nat) (k8 : Mem → Int32 → Int32 → Int32 → Int32 → Int32 → Option (Mem × Int32)) (M : Mem) (v1 : Int32) (v2 : Int32) (v3 : Int32) (v4 : Int32) (v5 : Int32) : Option (Mem × Int32) :=
    q_lt (v5 + (1 : Int32)) fun z1 =>
    k8 M v1 v2 v3 v4 z1
set_option maxHeartbeats 4000000 in
set_option maxRecDepth 100000 in
theorem wX5_findCounting_64 {p : Program} {l : Launch} {e : Env} {s : State} {m : MethodId} {args : Array Value} {below : List Frame} {meth : Method} {c : Code} {D : va_G} {cy : Nat → ClassId} {ad : Nat → Nat} {x : XX} {F : Nat} {r : Mem × Int32} (hst : l.stackTraces = false) (C0 : MX p l s m args meth c D cy ad cX5_findCounting RX5 7 wsX5_findCounting (some .int)) {k8 : Mem → Int32 → Int32 → Int32 → Int32 → Int32 → Option (Mem × Int32)} (hk8 : ∀ (M : Mem) (v1 : Int32) (v2 : Int32) (v3 : Int32) (v4 : Int32) (v5 : Int32) (H : Heap) (locs : List Loc) (ls : Array Slot), Wd D cy ad x s M H locs → lv_has ls 7 [(0, .ref (ad 0)), (1, .int v1), (2, .int v2), (3, .int v3), (4, .int v4), (5, .int v5)] → k8 M v1 v2 v3 v4 v5 = some r → W p l e rmX5_findCounting s m args below meth c H locs 0 0 (QN D cy ad below args s x q_vi r 0 0) (F0 m 8 ls [])) : ∀ (M : Mem) (v1 : Int32) (v2 : Int32) (v3 : Int32) (v4 : Int32) (v5 : Int32) (H : Heap) (locs : List Loc) (ls : Array Slot), Wd D cy ad x s M H locs → lv_has ls 7 [(0, .ref (ad 0)), (1, .int v1), (2, .int v2), (3, .int v3), (4, .int v4), (5, .int v5)] → fX5_findCounting_64 F k8 M v1 v2 v3 v4 v5 = some r → W p l e rmX5_findCounting s m args below meth c H locs 0 0 (QN D cy ad below args s x q_vi r 0 0) (F0 m 64 ls []) := by
  obtain ⟨hx, hb, hml, hown, hts, -⟩ := id C0
  intro M v1 v2 v3 v4 v5 H locs ls hw hl h
  unfold fX5_findCounting_64 at h
  refine q_iinc (k := 5) (cst := 1) (lv' := fun z1 => [(5, .int z1), (0, .ref (ad 0)), (1, .int v1), (2, .int v2), (3, .int v3), (4, .int v4)]) hx hb dX5_findCounting_64 hl rfl rfl (by decide) (fun _ => rfl) h (fun z1 ls hl h => ?_)
  refine lv_goto (tgt := 8) hx hb dX5_findCounting_67 (by decide) ?_
  exact hk8 M v1 v2 v3 v4 z1 _ _ _ hw (lv_sub hl [1, 2, 3, 4, 5, 0] rfl) h
def fX5_findCounting_8 (F : Nat) : Nat → Mem → Int32 → Int32 → Int32 → Int32 → Int32 → Option (Mem × Int32)
  | 0, _, _, _, _, _, _ => none
  | n + 1, M, v1, v2, v3, v4, v5 =>
    if (M 4 0 0) ≤ v5 then
    (some (M, v3))
    else
    (q_ax v5 60 fun j1 =>
    q_bn (fX4_isOf F M j1 v1 v2) fun M2 z3 =>
    if z3 = (0 : Int32) then
    (fX5_findCounting_64 F (fX5_findCounting_8 F n) M2 v1 v2 v3 v4 v5)
    else
    (q_bn (fX4_isThere F M2 j1) fun M4 z5 =>
    if z5 = (0 : Int32) then
    (fX5_findCounting_64 F (fX5_findCounting_8 F n) M4 v1 v2 v3 v4 v5)
    else
    (if (M4 15 j1 0) ≤ v4 then
    (fX5_findCounting_64 F (fX5_findCounting_8 F n) M4 v1 v2 v3 v4 v5)
    else
    (q_lt (v5) fun z6 =>
    q_lt (M4 15 j1 0) fun z7 =>
    fX5_findCounting_64 F (fX5_findCounting_8 F n) M4 v1 v2 z6 z7 v5))))
set_option maxHeartbeats 4000000 in
set_option maxRecDepth 100000 in
theorem wX5_findCounting_8 {p : Program} {l : Launch} {e : Env} {s : State} {m : MethodId} {args : Array Value} {below : List Frame} {meth : Method} {c : Code} {D : va_G} {cy : Nat → ClassId} {ad : Nat → Nat} {x : XX} {F : Nat} {r : Mem × Int32} (hst : l.stackTraces = false) (C0 : MX p l s m args meth c D cy ad cX5_findCounting RX5 7 wsX5_findCounting (some .int)) : ∀ (n : Nat) (M : Mem) (v1 : Int32) (v2 : Int32) (v3 : Int32) (v4 : Int32) (v5 : Int32) (H : Heap) (locs : List Loc) (ls : Array Slot), Wd D cy ad x s M H locs → lv_has ls 7 [(0, .ref (ad 0)), (1, .int v1), (2, .int v2), (3, .int v3), (4, .int v4), (5, .int v5)] → fX5_findCounting_8 F n M v1 v2 v3 v4 v5 = some r → W p l e rmX5_findCounting s m args below meth c H locs 0 0 (QN D cy ad below args s x q_vi r 0 0) (F0 m 8 ls []) := by
  obtain ⟨hx, hb, hml, hown, hts, -⟩ := id C0
  intro n
  induction n with
  | zero =>
    intro M v1 v2 v3 v4 v5 H locs ls hw hl h
    exact q_no h
  | succ n ih =>
    intro M v1 v2 v3 v4 v5 H locs ls hw hl h
    unfold fX5_findCounting_8 at h
    refine lv_iload hx hb dX5_findCounting_8 (lv_at hl 5 rfl) ?_
    refine lv_aload_n hx hb dX5_findCounting_10 rfl (lv_at hl 0 rfl) ?_
    refine gf_HW_versionCount C0 hw (fun _ h9 => List.mem_cons_of_mem _ (List.mem_append_left _ (List.mem_append_right _ h9))) (List.mem_of_getElem? (i := 1) rfl) dX5_findCounting_11 ?_
    refine q_icmp_ge (tgt := 70) hx hb dX5_findCounting_14 (by decide) h (fun h => ?_) (fun h => ?_)
    · refine lv_iload_n hx hb dX5_findCounting_70 rfl (lv_at hl 3 rfl) ?_
      exact q_iretN C0 hw h ⟨(Nat.le_of_ble_eq_true rfl), (Nat.le_of_ble_eq_true rfl)⟩ dX5_findCounting_71
    · refine lv_aload_n hx hb dX5_findCounting_17 rfl (lv_at hl 0 rfl) ?_
      refine gf_HW_versions C0 hw (fun _ h9 => List.mem_cons_of_mem _ (List.mem_append_left _ (List.mem_append_right _ h9))) (List.mem_of_getElem? (i := 2) rfl) dX5_findCounting_18 ?_
      refine lv_iload hx hb dX5_findCounting_21 (lv_at hl 5 rfl) ?_
      refine q_aald (t := 6) C0 hw at_vers rfl h dX5_findCounting_23 (fun j1 hj1 h => ?_)
      refine lv_astore (lv' := [(6, .ref (ad (cVer j1))), (0, .ref (ad 0)), (1, .int v1), (2, .int v2), (3, .int v3), (4, .int v4), (5, .int v5)]) hx hb dX5_findCounting_24 hl (by decide) rfl (fun ls hl => ?_)
      refine lv_aload hx hb dX5_findCounting_26 (lv_at hl 0 rfl) ?_
      refine lv_iload_n hx hb dX5_findCounting_28 rfl (lv_at hl 2 rfl) ?_
      refine lv_iload_n hx hb dX5_findCounting_29 rfl (lv_at hl 3 rfl) ?_
      refine q_callVNi (As := [.int v1, .int v2]) (nA := 2) C0 hw (at_Ver hj1) rfl (fun r1 h1 => ctX4_isOf hst hj1 h1) gX5_findCounting_X4_isOf rfl ⟨rfl, rfl⟩ (by decide +kernel) rfl ⟨(Nat.le_of_ble_eq_true rfl), (Nat.le_of_ble_eq_true rfl)⟩ hl.1 (Nat.le_of_ble_eq_true rfl) ⟨(Nat.le_of_ble_eq_true rfl), (Nat.le_of_ble_eq_true rfl)⟩ rfl h dX5_findCounting_30 (fun M2 z3 H locs hw h => ?_)
      refine q_if_eq (tgt := 64) hx hb dX5_findCounting_33 (by decide) h (fun h => ?_) (fun h => ?_)
      · exact wX5_findCounting_64 hst C0 ih M2 v1 v2 v3 v4 v5 _ _ _ hw (lv_sub hl [1, 2, 3, 4, 5, 6] rfl) h
      · refine lv_aload hx hb dX5_findCounting_36 (lv_at hl 0 rfl) ?_
        refine q_callVNi (As := []) (nA := 0) C0 hw (at_Ver hj1) rfl (fun r1 h1 => ctX4_isThere hst hj1 h1) gX5_findCounting_X4_isThere rfl ⟨rfl, rfl⟩ (by decide +kernel) rfl ⟨(Nat.le_of_ble_eq_true rfl), (Nat.le_of_ble_eq_true rfl)⟩ hl.1 (Nat.le_of_ble_eq_true rfl) ⟨(Nat.le_of_ble_eq_true rfl), (Nat.le_of_ble_eq_true rfl)⟩ rfl h dX5_findCounting_38 (fun M4 z5 H locs hw h => ?_)
        refine q_if_eq (tgt := 64) hx hb dX5_findCounting_41 (by decide) h (fun h => ?_) (fun h => ?_)
        · exact wX5_findCounting_64 hst C0 ih M4 v1 v2 v3 v4 v5 _ _ _ hw (lv_sub hl [1, 2, 3, 4, 5, 6] rfl) h
        · refine lv_aload hx hb dX5_findCounting_44 (lv_at hl 0 rfl) ?_
          refine gf_Ver_turn C0 hw hj1 (fun _ h9 => List.mem_cons_of_mem _ (List.mem_append_right _ h9)) (List.mem_of_getElem? (i := 3) rfl) dX5_findCounting_46 ?_
          refine lv_iload hx hb dX5_findCounting_49 (lv_at hl 5 rfl) ?_
          refine q_icmp_le (tgt := 64) hx hb dX5_findCounting_51 (by decide) h (fun h => ?_) (fun h => ?_)
          · exact wX5_findCounting_64 hst C0 ih M4 v1 v2 v3 v4 v5 _ _ _ hw (lv_sub hl [1, 2, 3, 4, 5, 6] rfl) h
          · refine lv_iload hx hb dX5_findCounting_54 (lv_at hl 6 rfl) ?_
            refine q_istore_n (lv' := fun z6 => [(3, .int z6), (6, .ref (ad (cVer j1))), (0, .ref (ad 0)), (1, .int v1), (2, .int v2), (4, .int v4), (5, .int v5)]) hx hb dX5_findCounting_56 rfl hl (by decide) (fun _ => rfl) h (fun z6 ls hl h => ?_)
            refine lv_aload hx hb dX5_findCounting_57 (lv_at hl 1 rfl) ?_
            refine gf_Ver_turn C0 hw hj1 (fun _ h9 => List.mem_cons_of_mem _ (List.mem_append_right _ h9)) (List.mem_of_getElem? (i := 3) rfl) dX5_findCounting_59 ?_
            refine q_istore (lv' := fun z7 => [(4, .int z7), (3, .int z6), (6, .ref (ad (cVer j1))), (0, .ref (ad 0)), (1, .int v1), (2, .int v2), (5, .int v5)]) hx hb dX5_findCounting_62 hl (by decide) (fun _ => rfl) h (fun z7 ls hl h => ?_)
            exact wX5_findCounting_64 hst C0 ih M4 v1 v2 z6 z7 v5 _ _ _ hw (lv_sub hl [3, 4, 5, 1, 0, 6] rfl) h
def fX5_findCounting (F : Nat) (M : Mem) (a0 : Int32) (a1 : Int32) : Option (Mem × Int32) :=
    q_lt ((-1 : Int32)) fun z1 =>
    q_lt ((-1 : Int32)) fun z2 =>
    q_lt ((0 : Int32)) fun z3 =>
    fX5_findCounting_8 F F M a0 a1 z1 z2 z3
set_option maxHeartbeats 4000000 in
set_option maxRecDepth 100000 in
theorem ctX5_findCounting {l : Launch} (hst : l.stackTraces = false) {D : va_G} {cy : Nat → ClassId} {ad : Nat → Nat} {x : XX} {F : Nat} {M : Mem} {a0 : Int32} {a1 : Int32} {r : Mem × Int32} (h : fX5_findCounting F M a0 a1 = some r) : CN l yX5_findCounting wsX5_findCounting rmX5_findCounting D cy ad [.ref (ad 0), .int a0, .int a1] x M x r.1 (q_vi r.2) 0 0 := by
  refine q_startN (cc := cX5_findCounting) (maxL := 7) (ret := (some .int)) (by decide) rfl (Nat.le_of_ble_eq_true rfl) ?_
  intro p e s m args below meth c ls C0 hw hl hnm
  obtain ⟨hx, hb, hml, hown, hts, -⟩ := id C0
  have C0 : MX p l s m args meth c D cy ad cX5_findCounting RX5 7 wsX5_findCounting ((some .int)) := C0
  have hown : s.vm.findClass RX5 = some m.cls := hown
  have hl : lv_has ls 7 [(0, .ref (ad 0)), (1, .int a0), (2, .int a1)] := hl
  show W p l e rmX5_findCounting s m args below meth c s.heap [] 0 0 (QN D cy ad below args s x q_vi r 0 0) (F0 m 0 ls [])
  unfold fX5_findCounting at h
  refine lv_iconst (v := -1) hx hb dX5_findCounting_0 (by decide) ?_
  refine q_istore_n (lv' := fun z1 => [(3, .int z1), (0, .ref (ad 0)), (1, .int a0), (2, .int a1)]) hx hb dX5_findCounting_1 rfl hl (by decide) (fun _ => rfl) h (fun z1 ls hl h => ?_)
  refine lv_iconst (v := -1) hx hb dX5_findCounting_2 (by decide) ?_
  refine q_istore (lv' := fun z2 => [(4, .int z2), (3, .int z1), (0, .ref (ad 0)), (1, .int a0), (2, .int a1)]) hx hb dX5_findCounting_3 hl (by decide) (fun _ => rfl) h (fun z2 ls hl h => ?_)
  refine lv_iconst (v := 0) hx hb dX5_findCounting_5 (by decide) ?_
  refine q_istore (lv' := fun z3 => [(5, .int z3), (4, .int z2), (3, .int z1), (0, .ref (ad 0)), (1, .int a0), (2, .int a1)]) hx hb dX5_findCounting_6 hl (by decide) (fun _ => rfl) h (fun z3 ls hl h => ?_)
  exact wX5_findCounting_8 hst C0  F M a0 a1 z1 z2 z3 _ _ _ hw (lv_sub hl [3, 4, 5, 2, 1, 0] rfl) h
/-! Homewatcher.minutesBehindDue(II)I -/
abbrev rmX5_minutesBehindDue : Room := { frames := 1, cells := 0, slots := 0, locals := 21 }
def fX5_minutesBehindDue (F : Nat) (M : Mem) (a0 : Int32) (a1 : Int32) : Option (Mem × Int32) :=
    q_ax a0 10 fun j1 =>
    q_ax (M 50 j1 0) 4 fun j2 =>
    some (M, if (0 : Int32) < ((a1 + (M 20 0 j2)) - (M 51 j1 0)) then (a1 + (M 20 0 j2)) - (M 51 j1 0) else (0 : Int32))
set_option maxHeartbeats 4000000 in
set_option maxRecDepth 100000 in
theorem ctX5_minutesBehindDue {l : Launch} (hst : l.stackTraces = false) {D : va_G} {cy : Nat → ClassId} {ad : Nat → Nat} {x : XX} {F : Nat} {M : Mem} {a0 : Int32} {a1 : Int32} {r : Mem × Int32} (h : fX5_minutesBehindDue F M a0 a1 = some r) : CN l yX5_minutesBehindDue wsX5_minutesBehindDue rmX5_minutesBehindDue D cy ad [.ref (ad 0), .int a0, .int a1] x M x r.1 (q_vi r.2) 0 0 := by
  refine q_startN (cc := cX5_minutesBehindDue) (maxL := 4) (ret := (some .int)) (by decide) rfl (Nat.le_of_ble_eq_true rfl) ?_
  intro p e s m args below meth c ls C0 hw hl hnm
  obtain ⟨hx, hb, hml, hown, hts, -⟩ := id C0
  have C0 : MX p l s m args meth c D cy ad cX5_minutesBehindDue RX5 4 wsX5_minutesBehindDue ((some .int)) := C0
  have hown : s.vm.findClass RX5 = some m.cls := hown
  have hl : lv_has ls 4 [(0, .ref (ad 0)), (1, .int a0), (2, .int a1)] := hl
  show W p l e rmX5_minutesBehindDue s m args below meth c s.heap [] 0 0 (QN D cy ad below args s x q_vi r 0 0) (F0 m 0 ls [])
  unfold fX5_minutesBehindDue at h
  refine lv_aload_n hx hb dX5_minutesBehindDue_0 rfl (lv_at hl 0 rfl) ?_
  refine gf_HW_tasks C0 hw (fun _ h9 => List.mem_cons_of_mem _ (List.mem_append_left _ (List.mem_append_left _ (List.mem_append_right _ h9)))) (List.mem_of_getElem? (i := 1) rfl) dX5_minutesBehindDue_1 ?_
  refine lv_iload_n hx hb dX5_minutesBehindDue_4 rfl (lv_at hl 1 rfl) ?_
  refine q_aald (t := 5) C0 hw at_tasks rfl h dX5_minutesBehindDue_5 (fun j1 hj1 h => ?_)
  refine lv_astore_n (lv' := [(3, .ref (ad (cTask j1))), (0, .ref (ad 0)), (1, .int a0), (2, .int a1)]) hx hb dX5_minutesBehindDue_6 rfl hl (by decide) rfl (fun ls hl => ?_)
  refine lv_iconst (v := 0) hx hb dX5_minutesBehindDue_7 (by decide) ?_
  refine lv_iload_n hx hb dX5_minutesBehindDue_8 rfl (lv_at hl 3 rfl) ?_
  refine lv_aload_n hx hb dX5_minutesBehindDue_9 rfl (lv_at hl 1 rfl) ?_
  refine gf_HW_offsets C0 hw (fun _ h9 => List.mem_cons_of_mem _ (List.mem_append_left _ (List.mem_append_left _ (List.mem_append_right _ h9)))) (List.mem_of_getElem? (i := 2) rfl) dX5_minutesBehindDue_10 ?_
  refine lv_aload_n hx hb dX5_minutesBehindDue_13 rfl (lv_at hl 0 rfl) ?_
  refine gf_Task_room C0 hw hj1 (fun _ h9 => List.mem_cons_of_mem _ (List.mem_append_left _ (List.mem_append_right _ h9))) (List.mem_of_getElem? (i := 3) rfl) dX5_minutesBehindDue_14 ?_
  refine q_iald C0 hw at_a20 h dX5_minutesBehindDue_17 (fun j2 hj2 h => ?_)
  refine lv_iadd hx hb dX5_minutesBehindDue_18 ?_
  refine lv_aload_n hx hb dX5_minutesBehindDue_19 rfl (lv_at hl 0 rfl) ?_
  refine gf_Task_due C0 hw hj1 (fun _ h9 => List.mem_cons_of_mem _ (List.mem_append_left _ (List.mem_append_right _ h9))) (List.mem_of_getElem? (i := 4) rfl) dX5_minutesBehindDue_20 ?_
  refine lv_isub hx hb dX5_minutesBehindDue_23 ?_
  refine q_max C0 hl.1 (List.forall_mem_cons.mpr ⟨(List.mem_of_getElem? (i := 5) rfl), (List.forall_mem_cons.mpr ⟨(List.mem_of_getElem? (i := 6) rfl), (List.forall_mem_cons.mpr ⟨(List.mem_of_getElem? (i := 7) rfl), (List.forall_mem_cons.mpr ⟨(List.mem_of_getElem? (i := 8) rfl), (fun _ h9 => absurd h9 List.not_mem_nil)⟩)⟩)⟩)⟩) (Nat.le_of_ble_eq_true rfl) (Nat.le_of_ble_eq_true rfl) ⟨(Nat.le_of_ble_eq_true rfl), (Nat.le_of_ble_eq_true rfl)⟩ dX5_minutesBehindDue_24 ?_
  exact q_iretN C0 hw h ⟨(Nat.le_of_ble_eq_true rfl), (Nat.le_of_ble_eq_true rfl)⟩ dX5_minutesBehindDue_27
/-! Homewatcher.withdraw(I)Z -/
abbrev rmX5_withdraw : Room := { frames := 7, cells := 2, slots := 12, locals := 124 }
def fX5_withdraw_92 (F : Nat) (M : Mem) (s0 : Int32) : Option (Mem × (Int32 ⊕ Nat)) :=
    q_gd (q_isZ s0) (
    some (M, Sum.inl s0))
set_option maxHeartbeats 4000000 in
set_option maxRecDepth 100000 in
theorem wX5_withdraw_92 {p : Program} {l : Launch} {e : Env} {s : State} {m : MethodId} {args : Array Value} {below : List Frame} {meth : Method} {c : Code} {D : va_G} {cy : Nat → ClassId} {ad : Nat → Nat} {x : XX} {F : Nat} {r : Mem × (Int32 ⊕ Nat)} (hst : l.stackTraces = false) (C0 : MX p l s m args meth c D cy ad cX5_withdraw RX5 3 wsX5_withdraw (some .boolean)) (ht : ∀ z ∈ c.exceptionTable.toList, False) : ∀ (M : Mem) (s0 : Int32) (H : Heap) (locs : List Loc) (ls : Array Slot), Wd D cy ad x s M H locs → lv_has ls 3 [] → fX5_withdraw_92 F M s0 = some r → W p l e rmX5_withdraw s m args below meth c H locs 1 6 (QT D cy ad below args s x q_vi r 2 12) (F0 m 92 ls [.int s0]) := by
  obtain ⟨hx, hb, hml, hown, hts, -⟩ := id C0
  intro M s0 H locs ls hw hl h
  unfold fX5_withdraw_92 at h
  refine q_guard h (fun g h => ?_)
  exact q_zretT C0 hw (q_isZ_in g) h ⟨(Nat.le_of_ble_eq_true rfl), (Nat.le_of_ble_eq_true rfl)⟩ dX5_withdraw_92
def fX5_withdraw (F : Nat) (M : Mem) (a0 : Int32) : Option (Mem × (Int32 ⊕ Nat)) :=
    q_bx (fX5_needVersion F M a0) fun M1 _ =>
    q_ax a0 60 fun j3 =>
    q_bn (fX4_isThere F M1 j3) fun M4 z5 =>
    if z5 = (0 : Int32) then
    (some (M4, Sum.inr 5))
    else
    (q_bn (fX5_minutesBehindDue F M4 (M4 11 j3 0) (M4 3 0 0)) fun M6 z7 =>
    if z7 ≤ (0 : Int32) then
    (q_lt (up M6 16 j3 0 (1 : Int32)) fun M8 =>
    q_bn (fX0_dropKeysOf F M8 60 j3) fun M9 _ =>
    q_bn (fX5_findCounting F M9 (M9 10 j3 0) (M9 11 j3 0)) fun M11 z12 =>
    if z12 = (-1 : Int32) then
    (fX5_withdraw_92 F M11 (0 : Int32))
    else
    (fX5_withdraw_92 F M11 (1 : Int32)))
    else
    (some (M6, Sum.inr 5)))
set_option maxHeartbeats 4000000 in
set_option maxRecDepth 100000 in
theorem ctX5_withdraw {l : Launch} (hst : l.stackTraces = false) {D : va_G} {cy : Nat → ClassId} {ad : Nat → Nat} {x : XX} {F : Nat} {M : Mem} {a0 : Int32} {r : Mem × (Int32 ⊕ Nat)} (h : fX5_withdraw F M a0 = some r) : CT l yX5_withdraw wsX5_withdraw rmX5_withdraw D cy ad [.ref (ad 0), .int a0] x M r.1 (q_ou q_vi r.2) 2 12 := by
  refine q_startT (cc := cX5_withdraw) (maxL := 3) (ret := (some .boolean)) (by decide) rfl (Nat.le_of_ble_eq_true rfl) ?_
  intro p e s m args below meth c ls C0 hw hl ht
  obtain ⟨hx, hb, hml, hown, hts, -⟩ := id C0
  have C0 : MX p l s m args meth c D cy ad cX5_withdraw RX5 3 wsX5_withdraw ((some .boolean)) := C0
  have hown : s.vm.findClass RX5 = some m.cls := hown
  have hl : lv_has ls 3 [(0, .ref (ad 0)), (1, .int a0)] := hl
  show W p l e rmX5_withdraw s m args below meth c s.heap [] 0 0 (QT D cy ad below args s x q_vi r 2 12) (F0 m 0 ls [])
  unfold fX5_withdraw at h
  refine lv_aload_n hx hb dX5_withdraw_0 rfl (lv_at hl 0 rfl) ?_
  refine lv_iload_n hx hb dX5_withdraw_1 rfl (lv_at hl 1 rfl) ?_
  refine q_callVTv (As := [.int a0]) (nA := 1) C0 ht hw at_HW rfl (fun r1 h1 => ctX5_needVersion hst h1) gX5_withdraw_X5_needVersion rfl ⟨rfl, rfl⟩ (by decide +kernel) rfl ⟨(Nat.le_of_ble_eq_true rfl), (Nat.le_of_ble_eq_true rfl)⟩ hl.1 (Nat.le_of_ble_eq_true rfl) ⟨(Nat.le_of_ble_eq_true rfl), (Nat.le_of_ble_eq_true rfl)⟩ ⟨(Nat.le_of_ble_eq_true rfl), (Nat.le_of_ble_eq_true rfl)⟩ rfl h dX5_withdraw_2 (fun M1 H locs hw h => ?_)
  refine lv_aload_n hx hb dX5_withdraw_5 rfl (lv_at hl 0 rfl) ?_
  refine gf_HW_versions C0 hw (fun _ h9 => List.mem_cons_of_mem _ (List.mem_append_left _ (List.mem_append_left _ (List.mem_append_left _ (List.mem_append_left _ (List.mem_append_left _ (List.mem_append_left _ (List.mem_append_right _ h9)))))))) (List.mem_of_getElem? (i := 3) rfl) dX5_withdraw_6 ?_
  refine lv_iload_n hx hb dX5_withdraw_9 rfl (lv_at hl 1 rfl) ?_
  refine q_aald (t := 6) C0 hw at_vers rfl h dX5_withdraw_10 (fun j3 hj3 h => ?_)
  refine lv_astore_n (lv' := [(2, .ref (ad (cVer j3))), (0, .ref (ad 0)), (1, .int a0)]) hx hb dX5_withdraw_11 rfl hl (by decide) rfl (fun ls hl => ?_)
  refine lv_aload_n hx hb dX5_withdraw_12 rfl (lv_at hl 0 rfl) ?_
  refine q_callVNi (As := []) (nA := 0) C0 hw (at_Ver hj3) rfl (fun r1 h1 => ctX4_isThere hst hj3 h1) gX5_withdraw_X4_isThere rfl ⟨rfl, rfl⟩ (by decide +kernel) rfl ⟨(Nat.le_of_ble_eq_true rfl), (Nat.le_of_ble_eq_true rfl)⟩ hl.1 (Nat.le_of_ble_eq_true rfl) ⟨(Nat.le_of_ble_eq_true rfl), (Nat.le_of_ble_eq_true rfl)⟩ rfl h dX5_withdraw_13 (fun M4 z5 H locs hw h => ?_)
  refine q_if_ne (tgt := 29) hx hb dX5_withdraw_16 (by decide) h (fun h => ?_) (fun h => ?_)
  · refine lv_aload_n hx hb dX5_withdraw_29 rfl (lv_at hl 1 rfl) ?_
    refine lv_aload_n hx hb dX5_withdraw_30 rfl (lv_at hl 0 rfl) ?_
    refine gf_Ver_task C0 hw hj3 (fun _ h9 => List.mem_cons_of_mem _ (List.mem_append_left _ (List.mem_append_left _ (List.mem_append_left _ (List.mem_append_left _ (List.mem_append_left _ (List.mem_append_right _ h9))))))) (List.mem_of_getElem? (i := 4) rfl) dX5_withdraw_31 ?_
    refine lv_aload_n hx hb dX5_withdraw_34 rfl (lv_at hl 1 rfl) ?_
    refine gf_HW_now C0 hw (fun _ h9 => List.mem_cons_of_mem _ (List.mem_append_left _ (List.mem_append_left _ (List.mem_append_left _ (List.mem_append_left _ (List.mem_append_left _ (List.mem_append_left _ (List.mem_append_right _ h9)))))))) (List.mem_of_getElem? (i := 5) rfl) dX5_withdraw_35 ?_
    refine q_callVNi (As := [.int (M4 11 j3 0), .int (M4 3 0 0)]) (nA := 2) C0 hw at_HW rfl (fun r1 h1 => ctX5_minutesBehindDue hst h1) gX5_withdraw_X5_minutesBehindDue rfl ⟨rfl, rfl⟩ (by decide +kernel) rfl ⟨(Nat.le_of_ble_eq_true rfl), (Nat.le_of_ble_eq_true rfl)⟩ hl.1 (Nat.le_of_ble_eq_true rfl) ⟨(Nat.le_of_ble_eq_true rfl), (Nat.le_of_ble_eq_true rfl)⟩ rfl h dX5_withdraw_38 (fun M6 z7 H locs hw h => ?_)
    refine q_if_le (tgt := 55) hx hb dX5_withdraw_41 (by decide) h (fun h => ?_) (fun h => ?_)
    · refine lv_aload_n hx hb dX5_withdraw_55 rfl (lv_at hl 0 rfl) ?_
      refine lv_iconst (v := 1) hx hb dX5_withdraw_56 (by decide) ?_
      refine pf_Ver_withdrawn C0 hw hj3 ⟨rfl, rfl⟩ (fun _ h9 => List.mem_cons_of_mem _ (List.mem_append_left _ (List.mem_append_left _ (List.mem_append_left _ (List.mem_append_left _ (List.mem_append_left _ (List.mem_append_right _ h9))))))) (List.mem_of_getElem? (i := 6) rfl) dX5_withdraw_57 h (fun M8 H locs hw h => ?_)
      refine lv_aload_n hx hb dX5_withdraw_60 rfl (lv_at hl 1 rfl) ?_
      refine gf_HW_shingleIndex C0 hw (fun _ h9 => List.mem_cons_of_mem _ (List.mem_append_left _ (List.mem_append_left _ (List.mem_append_left _ (List.mem_append_left _ (List.mem_append_left _ (List.mem_append_left _ (List.mem_append_right _ h9)))))))) (List.mem_of_getElem? (i := 7) rfl) dX5_withdraw_61 ?_
      refine lv_aload_n hx hb dX5_withdraw_64 rfl (lv_at hl 0 rfl) ?_
      refine gf_Ver_shingles C0 hw hj3 (fun _ h9 => List.mem_cons_of_mem _ (List.mem_append_left _ (List.mem_append_left _ (List.mem_append_left _ (List.mem_append_left _ (List.mem_append_left _ (List.mem_append_right _ h9))))))) (List.mem_of_getElem? (i := 8) rfl) dX5_withdraw_65 ?_
      refine q_callVNv (As := [.ref (ad (cBag j3))]) (nA := 1) C0 hw (at_Bag (Nat.le_of_ble_eq_true rfl)) rfl (fun r1 h1 => ctX0_dropKeysOf hst (Nat.le_of_ble_eq_true rfl) (Nat.lt_of_lt_of_le hj3 (Nat.le_of_ble_eq_true rfl)) h1) gX5_withdraw_X0_dropKeysOf rfl ⟨rfl, rfl⟩ (by decide +kernel) rfl ⟨(Nat.le_of_ble_eq_true rfl), (Nat.le_of_ble_eq_true rfl)⟩ hl.1 (Nat.le_of_ble_eq_true rfl) ⟨(Nat.le_of_ble_eq_true rfl), (Nat.le_of_ble_eq_true rfl)⟩ rfl h dX5_withdraw_68 (fun M9 H locs hw h => ?_)
      refine lv_aload_n hx hb dX5_withdraw_71 rfl (lv_at hl 1 rfl) ?_
      refine lv_aload_n hx hb dX5_withdraw_72 rfl (lv_at hl 0 rfl) ?_
      refine gf_Ver_pupil C0 hw hj3 (fun _ h9 => List.mem_cons_of_mem _ (List.mem_append_left _ (List.mem_append_left _ (List.mem_append_left _ (List.mem_append_left _ (List.mem_append_left _ (List.mem_append_right _ h9))))))) (List.mem_of_getElem? (i := 9) rfl) dX5_withdraw_73 ?_
      refine lv_aload_n hx hb dX5_withdraw_76 rfl (lv_at hl 0 rfl) ?_
      refine gf_Ver_task C0 hw hj3 (fun _ h9 => List.mem_cons_of_mem _ (List.mem_append_left _ (List.mem_append_left _ (List.mem_append_left _ (List.mem_append_left _ (List.mem_append_left _ (List.mem_append_right _ h9))))))) (List.mem_of_getElem? (i := 4) rfl) dX5_withdraw_77 ?_
      refine q_callVNi (As := [.int (M9 10 j3 0), .int (M9 11 j3 0)]) (nA := 2) C0 hw at_HW rfl (fun r1 h1 => ctX5_findCounting hst h1) gX5_withdraw_X5_findCounting rfl ⟨rfl, rfl⟩ (by decide +kernel) rfl ⟨(Nat.le_of_ble_eq_true rfl), (Nat.le_of_ble_eq_true rfl)⟩ hl.1 (Nat.le_of_ble_eq_true rfl) ⟨(Nat.le_of_ble_eq_true rfl), (Nat.le_of_ble_eq_true rfl)⟩ rfl h dX5_withdraw_80 (fun M11 z12 H locs hw h => ?_)
      refine lv_iconst (v := -1) hx hb dX5_withdraw_83 (by decide) ?_
      refine q_icmp_eq (tgt := 91) hx hb dX5_withdraw_84 (by decide) h (fun h => ?_) (fun h => ?_)
      · refine lv_iconst (v := 0) hx hb dX5_withdraw_91 (by decide) ?_
        exact wX5_withdraw_92 hst C0 ht  M11 (0 : Int32) _ _ _ hw (lv_sub hl [] rfl) h
      · refine lv_iconst (v := 1) hx hb dX5_withdraw_87 (by decide) ?_
        refine lv_goto (tgt := 92) hx hb dX5_withdraw_88 (by decide) ?_
        exact wX5_withdraw_92 hst C0 ht  M11 (1 : Int32) _ _ _ hw (lv_sub hl [] rfl) h
    · exact q_thrSW C0 ht hst hw (ik := 163) (is := 256) (ic := 167) xp_167 (List.mem_of_getElem? (i := 1) rfl) (List.mem_of_getElem? (i := 2) rfl) (List.mem_of_getElem? (i := 21) rfl) (fun _ h9 => List.mem_cons_of_mem _ (List.mem_append_left _ (List.mem_append_left _ (List.mem_append_right _ h9)))) hl.1 dX5_withdraw_44 dX5_withdraw_47 dX5_withdraw_48 dX5_withdraw_51 dX5_withdraw_54 ⟨(Nat.le_of_ble_eq_true rfl), (Nat.le_of_ble_eq_true rfl), (Nat.le_of_ble_eq_true rfl), (Nat.le_of_ble_eq_true rfl)⟩ ⟨(Nat.le_of_ble_eq_true rfl), (Nat.le_of_ble_eq_true rfl)⟩ h
  · exact q_thrS C0 ht hst hw (ik := 163) (is := 250) (ic := 167) xp_167 (List.mem_of_getElem? (i := 1) rfl) (List.mem_of_getElem? (i := 2) rfl) (List.mem_of_getElem? (i := 20) rfl) (fun _ h9 => List.mem_cons_of_mem _ (List.mem_append_left _ (List.mem_append_left _ (List.mem_append_right _ h9)))) hl.1 dX5_withdraw_19 dX5_withdraw_22 dX5_withdraw_23 dX5_withdraw_25 dX5_withdraw_28 ⟨(Nat.le_of_ble_eq_true rfl), (Nat.le_of_ble_eq_true rfl), (Nat.le_of_ble_eq_true rfl), (Nat.le_of_ble_eq_true rfl)⟩ ⟨(Nat.le_of_ble_eq_true rfl), (Nat.le_of_ble_eq_true rfl)⟩ h
/-! Homewatcher.isIn(I)Z -/
abbrev rmX5_isIn : Room := { frames := 7, cells := 1, slots := 6, locals := 111 }
def fX5_isIn (F : Nat) (M : Mem) (a0 : Int32) : Option (Mem × (Int32 ⊕ Nat)) :=
    q_bx (fX5_needVersion F M a0) fun M1 _ =>
    q_ax a0 60 fun j3 =>
    q_bn (fX4_isThere F M1 j3) fun M4 z5 =>
    q_gd (q_isZ z5) (
    some (M4, Sum.inl z5))
set_option maxHeartbeats 4000000 in
set_option maxRecDepth 100000 in
theorem ctX5_isIn {l : Launch} (hst : l.stackTraces = false) {D : va_G} {cy : Nat → ClassId} {ad : Nat → Nat} {x : XX} {F : Nat} {M : Mem} {a0 : Int32} {r : Mem × (Int32 ⊕ Nat)} (h : fX5_isIn F M a0 = some r) : CT l yX5_isIn wsX5_isIn rmX5_isIn D cy ad [.ref (ad 0), .int a0] x M r.1 (q_ou q_vi r.2) 1 6 := by
  refine q_startT (cc := cX5_isIn) (maxL := 2) (ret := (some .boolean)) (by decide) rfl (Nat.le_of_ble_eq_true rfl) ?_
  intro p e s m args below meth c ls C0 hw hl ht
  obtain ⟨hx, hb, hml, hown, hts, -⟩ := id C0
  have C0 : MX p l s m args meth c D cy ad cX5_isIn RX5 2 wsX5_isIn ((some .boolean)) := C0
  have hown : s.vm.findClass RX5 = some m.cls := hown
  have hl : lv_has ls 2 [(0, .ref (ad 0)), (1, .int a0)] := hl
  show W p l e rmX5_isIn s m args below meth c s.heap [] 0 0 (QT D cy ad below args s x q_vi r 1 6) (F0 m 0 ls [])
  unfold fX5_isIn at h
  refine lv_aload_n hx hb dX5_isIn_0 rfl (lv_at hl 0 rfl) ?_
  refine lv_iload_n hx hb dX5_isIn_1 rfl (lv_at hl 1 rfl) ?_
  refine q_callVTv (As := [.int a0]) (nA := 1) C0 ht hw at_HW rfl (fun r1 h1 => ctX5_needVersion hst h1) gX5_isIn_X5_needVersion rfl ⟨rfl, rfl⟩ (by decide +kernel) rfl ⟨(Nat.le_of_ble_eq_true rfl), (Nat.le_of_ble_eq_true rfl)⟩ hl.1 (Nat.le_of_ble_eq_true rfl) ⟨(Nat.le_of_ble_eq_true rfl), (Nat.le_of_ble_eq_true rfl)⟩ ⟨(Nat.le_of_ble_eq_true rfl), (Nat.le_of_ble_eq_true rfl)⟩ rfl h dX5_isIn_2 (fun M1 H locs hw h => ?_)
  refine lv_aload_n hx hb dX5_isIn_5 rfl (lv_at hl 0 rfl) ?_
  refine gf_HW_versions C0 hw (fun _ h9 => List.mem_cons_of_mem _ (List.mem_append_left _ (List.mem_append_left _ (List.mem_append_right _ h9)))) (List.mem_of_getElem? (i := 1) rfl) dX5_isIn_6 ?_
  refine lv_iload_n hx hb dX5_isIn_9 rfl (lv_at hl 1 rfl) ?_
  refine q_aald (t := 6) C0 hw at_vers rfl h dX5_isIn_10 (fun j3 hj3 h => ?_)
  refine q_callVNi (As := []) (nA := 0) C0 hw (at_Ver hj3) rfl (fun r1 h1 => ctX4_isThere hst hj3 h1) gX5_isIn_X4_isThere rfl ⟨rfl, rfl⟩ (by decide +kernel) rfl ⟨(Nat.le_of_ble_eq_true rfl), (Nat.le_of_ble_eq_true rfl)⟩ hl.1 (Nat.le_of_ble_eq_true rfl) ⟨(Nat.le_of_ble_eq_true rfl), (Nat.le_of_ble_eq_true rfl)⟩ rfl h dX5_isIn_11 (fun M4 z5 H locs hw h => ?_)
  refine q_guard h (fun g h => ?_)
  exact q_zretT C0 hw (q_isZ_in g) h ⟨(Nat.le_of_ble_eq_true rfl), (Nat.le_of_ble_eq_true rfl)⟩ dX5_isIn_14
/-! Homewatcher.leastLate(LHomewatcher$Version;)I -/
abbrev rmX5_leastLate : Room := { frames := 2, cells := 0, slots := 0, locals := 44 }
def fX5_leastLate_110 (F : Nat) (M : Mem) (v2 : Int32) : Option (Mem × Int32) :=
    some (M, v2)
set_option maxHeartbeats 4000000 in
set_option maxRecDepth 100000 in
theorem wX5_leastLate_110 {p : Program} {l : Launch} {e : Env} {s : State} {m : MethodId} {args : Array Value} {below : List Frame} {meth : Method} {c : Code} {D : va_G} {cy : Nat → ClassId} {ad : Nat → Nat} {x : XX} {F : Nat} {r : Mem × Int32} (hst : l.stackTraces = false) (C0 : MX p l s m args meth c D cy ad cX5_leastLate RX5 7 wsX5_leastLate (some .int)) : ∀ (M : Mem) (v2 : Int32) (H : Heap) (locs : List Loc) (ls : Array Slot), Wd D cy ad x s M H locs → lv_has ls 7 [(2, .int v2)] → fX5_leastLate_110 F M v2 = some r → W p l e rmX5_leastLate s m args below meth c H locs 0 0 (QN D cy ad below args s x q_vi r 0 0) (F0 m 110 ls []) := by
  obtain ⟨hx, hb, hml, hown, hts, -⟩ := id C0
  intro M v2 H locs ls hw hl h
  unfold fX5_leastLate_110 at h
  refine lv_iload_n hx hb dX5_leastLate_110 rfl (lv_at hl 0 rfl) ?_
  exact q_iretN C0 hw h ⟨(Nat.le_of_ble_eq_true rfl), (Nat.le_of_ble_eq_true rfl)⟩ dX5_leastLate_111
def fX5_leastLate_97 (F : Nat) (k32 : Mem → Nat → Int32 → Int32 → Int32 → Int32 → Option (Mem × Int32)) (M : Mem) (v1 : Nat) (v2 : Int32) (v3 : Int32) (v5 : Int32) (v6 : Nat) : Option (Mem × Int32) :=
    q_lt (M 12 v6 0) fun z1 =>
    q_lt (v5 + (1 : Int32)) fun z2 =>
    k32 M v1 v2 v3 z1 z2
set_option maxHeartbeats 4000000 in
set_option maxRecDepth 100000 in
theorem wX5_leastLate_97 {p : Program} {l : Launch} {e : Env} {s : State} {m : MethodId} {args : Array Value} {below : List Frame} {meth : Method} {c : Code} {D : va_G} {cy : Nat → ClassId} {ad : Nat → Nat} {x : XX} {F : Nat} {r : Mem × Int32} (hst : l.stackTraces = false) (C0 : MX p l s m args meth c D cy ad cX5_leastLate RX5 7 wsX5_leastLate (some .int)) {k32 : Mem → Nat → Int32 → Int32 → Int32 → Int32 → Option (Mem × Int32)} (hk32 : ∀ (M : Mem) (v1 : Nat) (v2 : Int32) (v3 : Int32) (v4 : Int32) (v5 : Int32) (hv1 : v1 < 60) (H : Heap) (locs : List Loc) (ls : Array Slot), Wd D cy ad x s M H locs → lv_has ls 7 [(0, .ref (ad 0)), (1, .ref (ad (cVer v1))), (2, .int v2), (3, .int v3), (4, .int v4), (5, .int v5)] → k32 M v1 v2 v3 v4 v5 = some r → W p l e rmX5_leastLate s m args below meth c H locs 0 0 (QN D cy ad below args s x q_vi r 0 0) (F0 m 32 ls [])) : ∀ (M : Mem) (v1 : Nat) (v2 : Int32) (v3 : Int32) (v5 : Int32) (v6 : Nat) (hv1 : v1 < 60) (hv6 : v6 < 60) (H : Heap) (locs : List Loc) (ls : Array Slot), Wd D cy ad x s M H locs → lv_has ls 7 [(0, .ref (ad 0)), (1, .ref (ad (cVer v1))), (2, .int v2), (3, .int v3), (5, .int v5), (6, .ref (ad (cVer v6)))] → fX5_leastLate_97 F k32 M v1 v2 v3 v5 v6 = some r → W p l e rmX5_leastLate s m args below meth c H locs 0 0 (QN D cy ad below args s x q_vi r 0 0) (F0 m 97 ls []) := by
  obtain ⟨hx, hb, hml, hown, hts, -⟩ := id C0
  intro M v1 v2 v3 v5 v6 hv1 hv6 H locs ls hw hl h
  unfold fX5_leastLate_97 at h
  refine lv_aload hx hb dX5_leastLate_97 (lv_at hl 5 rfl) ?_
  refine gf_Ver_parent C0 hw hv6 (fun _ h9 => List.mem_cons_of_mem _ (List.mem_append_left _ (List.mem_append_left _ (List.mem_append_left _ (List.mem_append_left _ (List.mem_append_right _ h9)))))) (List.mem_of_getElem? (i := 5) rfl) dX5_leastLate_99 ?_
  refine q_istore (lv' := fun z1 => [(4, .int z1), (0, .ref (ad 0)), (1, .ref (ad (cVer v1))), (2, .int v2), (3, .int v3), (5, .int v5), (6, .ref (ad (cVer v6)))]) hx hb dX5_leastLate_102 hl (by decide) (fun _ => rfl) h (fun z1 ls hl h => ?_)
  refine q_iinc (k := 5) (cst := 1) (lv' := fun z2 => [(5, .int z2), (4, .int z1), (0, .ref (ad 0)), (1, .ref (ad (cVer v1))), (2, .int v2), (3, .int v3), (6, .ref (ad (cVer v6)))]) hx hb dX5_leastLate_104 hl rfl rfl (by decide) (fun _ => rfl) h (fun z2 ls hl h => ?_)
  refine lv_goto (tgt := 32) hx hb dX5_leastLate_107 (by decide) ?_
  exact hk32 M v1 v2 v3 z1 z2 hv1 _ _ _ hw (lv_sub hl [2, 3, 4, 5, 1, 0] rfl) h
def fX5_leastLate_32 (F : Nat) : Nat → Mem → Nat → Int32 → Int32 → Int32 → Int32 → Option (Mem × Int32)
  | 0, _, _, _, _, _, _ => none
  | n + 1, M, v1, v2, v3, v4, v5 =>
    if (60 : Int32) ≤ v5 then
    (fX5_leastLate_110 F M v2)
    else
    (if v4 = (-1 : Int32) then
    (fX5_leastLate_110 F M v2)
    else
    (q_ax v4 60 fun j1 =>
    q_bn (fX4_isThere F M j1) fun M2 z3 =>
    if z3 = (0 : Int32) then
    (fX5_leastLate_97 F (fX5_leastLate_32 F n) M2 v1 v2 v3 v5 j1)
    else
    (q_bn (fX0_countCommon F M2 j1 v1) fun M4 z5 =>
    if z5 < v3 then
    (fX5_leastLate_97 F (fX5_leastLate_32 F n) M4 v1 v2 v3 v5 j1)
    else
    (q_bn (fX5_minutesBehindDue F M4 (M4 11 j1 0) (M4 14 j1 0)) fun M6 z7 =>
    q_lt (if z7 < v2 then z7 else v2) fun z8 =>
    fX5_leastLate_97 F (fX5_leastLate_32 F n) M6 v1 z8 v3 v5 j1))))
set_option maxHeartbeats 4000000 in
set_option maxRecDepth 100000 in
theorem wX5_leastLate_32 {p : Program} {l : Launch} {e : Env} {s : State} {m : MethodId} {args : Array Value} {below : List Frame} {meth : Method} {c : Code} {D : va_G} {cy : Nat → ClassId} {ad : Nat → Nat} {x : XX} {F : Nat} {r : Mem × Int32} (hst : l.stackTraces = false) (C0 : MX p l s m args meth c D cy ad cX5_leastLate RX5 7 wsX5_leastLate (some .int)) : ∀ (n : Nat) (M : Mem) (v1 : Nat) (v2 : Int32) (v3 : Int32) (v4 : Int32) (v5 : Int32) (hv1 : v1 < 60) (H : Heap) (locs : List Loc) (ls : Array Slot), Wd D cy ad x s M H locs → lv_has ls 7 [(0, .ref (ad 0)), (1, .ref (ad (cVer v1))), (2, .int v2), (3, .int v3), (4, .int v4), (5, .int v5)] → fX5_leastLate_32 F n M v1 v2 v3 v4 v5 = some r → W p l e rmX5_leastLate s m args below meth c H locs 0 0 (QN D cy ad below args s x q_vi r 0 0) (F0 m 32 ls []) := by
  obtain ⟨hx, hb, hml, hown, hts, -⟩ := id C0
  intro n
  induction n with
  | zero =>
    intro M v1 v2 v3 v4 v5 hv1 H locs ls hw hl h
    exact q_no h
  | succ n ih =>
    intro M v1 v2 v3 v4 v5 hv1 H locs ls hw hl h
    unfold fX5_leastLate_32 at h
    refine lv_iload hx hb dX5_leastLate_32 (lv_at hl 5 rfl) ?_
    refine lv_bipush (v := 60) hx hb dX5_leastLate_34 (by decide) ?_
    refine q_icmp_ge (tgt := 110) hx hb dX5_leastLate_36 (by decide) h (fun h => ?_) (fun h => ?_)
    · exact wX5_leastLate_110 hst C0  M v2 _ _ _ hw (lv_sub hl [2] rfl) h
    · refine lv_iload hx hb dX5_leastLate_39 (lv_at hl 4 rfl) ?_
      refine lv_iconst (v := -1) hx hb dX5_leastLate_41 (by decide) ?_
      refine q_icmp_eq (tgt := 110) hx hb dX5_leastLate_42 (by decide) h (fun h => ?_) (fun h => ?_)
      · exact wX5_leastLate_110 hst C0  M v2 _ _ _ hw (lv_sub hl [2] rfl) h
      · refine lv_aload_n hx hb dX5_leastLate_45 rfl (lv_at hl 0 rfl) ?_
        refine gf_HW_versions C0 hw (fun _ h9 => List.mem_cons_of_mem _ (List.mem_append_left _ (List.mem_append_left _ (List.mem_append_right _ h9)))) (List.mem_of_getElem? (i := 6) rfl) dX5_leastLate_46 ?_
        refine lv_iload hx hb dX5_leastLate_49 (lv_at hl 4 rfl) ?_
        refine q_aald (t := 6) C0 hw at_vers rfl h dX5_leastLate_51 (fun j1 hj1 h => ?_)
        refine lv_astore (lv' := [(6, .ref (ad (cVer j1))), (0, .ref (ad 0)), (1, .ref (ad (cVer v1))), (2, .int v2), (3, .int v3), (4, .int v4), (5, .int v5)]) hx hb dX5_leastLate_52 hl (by decide) rfl (fun ls hl => ?_)
        refine lv_aload hx hb dX5_leastLate_54 (lv_at hl 0 rfl) ?_
        refine q_callVNi (As := []) (nA := 0) C0 hw (at_Ver hj1) rfl (fun r1 h1 => ctX4_isThere hst hj1 h1) gX5_leastLate_X4_isThere rfl ⟨rfl, rfl⟩ (by decide +kernel) rfl ⟨(Nat.le_of_ble_eq_true rfl), (Nat.le_of_ble_eq_true rfl)⟩ hl.1 (Nat.le_of_ble_eq_true rfl) ⟨(Nat.le_of_ble_eq_true rfl), (Nat.le_of_ble_eq_true rfl)⟩ rfl h dX5_leastLate_56 (fun M2 z3 H locs hw h => ?_)
        refine q_if_eq (tgt := 97) hx hb dX5_leastLate_59 (by decide) h (fun h => ?_) (fun h => ?_)
        · exact wX5_leastLate_97 hst C0 ih M2 v1 v2 v3 v5 j1 hv1 hj1 _ _ _ hw (lv_sub hl [1, 2, 3, 4, 6, 0] rfl) h
        · refine lv_aload hx hb dX5_leastLate_62 (lv_at hl 0 rfl) ?_
          refine gf_Ver_shingles C0 hw hj1 (fun _ h9 => List.mem_cons_of_mem _ (List.mem_append_left _ (List.mem_append_left _ (List.mem_append_left _ (List.mem_append_left _ (List.mem_append_right _ h9)))))) (List.mem_of_getElem? (i := 3) rfl) dX5_leastLate_64 ?_
          refine lv_aload_n hx hb dX5_leastLate_67 rfl (lv_at hl 2 rfl) ?_
          refine gf_Ver_shingles C0 hw hv1 (fun _ h9 => List.mem_cons_of_mem _ (List.mem_append_left _ (List.mem_append_left _ (List.mem_append_left _ (List.mem_append_left _ (List.mem_append_right _ h9)))))) (List.mem_of_getElem? (i := 3) rfl) dX5_leastLate_68 ?_
          refine q_callVNi (As := [.ref (ad (cBag v1))]) (nA := 1) C0 hw (at_Bag (Nat.lt_of_lt_of_le hj1 (Nat.le_of_ble_eq_true rfl))) rfl (fun r1 h1 => ctX0_countCommon hst (Nat.lt_of_lt_of_le hj1 (Nat.le_of_ble_eq_true rfl)) (Nat.lt_of_lt_of_le hv1 (Nat.le_of_ble_eq_true rfl)) h1) gX5_leastLate_X0_countCommon rfl ⟨rfl, rfl⟩ (by decide +kernel) rfl ⟨(Nat.le_of_ble_eq_true rfl), (Nat.le_of_ble_eq_true rfl)⟩ hl.1 (Nat.le_of_ble_eq_true rfl) ⟨(Nat.le_of_ble_eq_true rfl), (Nat.le_of_ble_eq_true rfl)⟩ rfl h dX5_leastLate_71 (fun M4 z5 H locs hw h => ?_)
          refine lv_iload_n hx hb dX5_leastLate_74 rfl (lv_at hl 4 rfl) ?_
          refine q_icmp_lt (tgt := 97) hx hb dX5_leastLate_75 (by decide) h (fun h => ?_) (fun h => ?_)
          · exact wX5_leastLate_97 hst C0 ih M4 v1 v2 v3 v5 j1 hv1 hj1 _ _ _ hw (lv_sub hl [1, 2, 3, 4, 6, 0] rfl) h
          · refine lv_iload_n hx hb dX5_leastLate_78 rfl (lv_at hl 3 rfl) ?_
            refine lv_aload_n hx hb dX5_leastLate_79 rfl (lv_at hl 1 rfl) ?_
            refine lv_aload hx hb dX5_leastLate_80 (lv_at hl 0 rfl) ?_
            refine gf_Ver_task C0 hw hj1 (fun _ h9 => List.mem_cons_of_mem _ (List.mem_append_left _ (List.mem_append_left _ (List.mem_append_left _ (List.mem_append_left _ (List.mem_append_right _ h9)))))) (List.mem_of_getElem? (i := 1) rfl) dX5_leastLate_82 ?_
            refine lv_aload hx hb dX5_leastLate_85 (lv_at hl 0 rfl) ?_
            refine gf_Ver_handedAt C0 hw hj1 (fun _ h9 => List.mem_cons_of_mem _ (List.mem_append_left _ (List.mem_append_left _ (List.mem_append_left _ (List.mem_append_left _ (List.mem_append_right _ h9)))))) (List.mem_of_getElem? (i := 2) rfl) dX5_leastLate_87 ?_
            refine q_callVNi (As := [.int (M4 11 j1 0), .int (M4 14 j1 0)]) (nA := 2) C0 hw at_HW rfl (fun r1 h1 => ctX5_minutesBehindDue hst h1) gX5_leastLate_X5_minutesBehindDue rfl ⟨rfl, rfl⟩ (by decide +kernel) rfl ⟨(Nat.le_of_ble_eq_true rfl), (Nat.le_of_ble_eq_true rfl)⟩ hl.1 (Nat.le_of_ble_eq_true rfl) ⟨(Nat.le_of_ble_eq_true rfl), (Nat.le_of_ble_eq_true rfl)⟩ rfl h dX5_leastLate_90 (fun M6 z7 H locs hw h => ?_)
            refine q_min C0 hl.1 (List.forall_mem_cons.mpr ⟨(List.mem_of_getElem? (i := 7) rfl), (List.forall_mem_cons.mpr ⟨(List.mem_of_getElem? (i := 8) rfl), (List.forall_mem_cons.mpr ⟨(List.mem_of_getElem? (i := 9) rfl), (List.forall_mem_cons.mpr ⟨(List.mem_of_getElem? (i := 10) rfl), (fun _ h9 => absurd h9 List.not_mem_nil)⟩)⟩)⟩)⟩) (Nat.le_of_ble_eq_true rfl) (Nat.le_of_ble_eq_true rfl) ⟨(Nat.le_of_ble_eq_true rfl), (Nat.le_of_ble_eq_true rfl)⟩ dX5_leastLate_93 ?_
            refine q_istore_n (lv' := fun z8 => [(2, .int z8), (6, .ref (ad (cVer j1))), (0, .ref (ad 0)), (1, .ref (ad (cVer v1))), (3, .int v3), (4, .int v4), (5, .int v5)]) hx hb dX5_leastLate_96 rfl hl (by decide) (fun _ => rfl) h (fun z8 ls hl h => ?_)
            exact wX5_leastLate_97 hst C0 ih M6 v1 z8 v3 v5 j1 hv1 hj1 _ _ _ hw (lv_sub hl [2, 3, 0, 4, 6, 1] rfl) h
def fX5_leastLate (F : Nat) (M : Mem) (j1 : Nat) : Option (Mem × Int32) :=
    q_bn (fX5_minutesBehindDue F M (M 11 j1 0) (M 14 j1 0)) fun M1 z2 =>
    q_lt (z2) fun z3 =>
    q_lt ((M1 9 j1 0) / (2 : Int32)) fun z4 =>
    q_lt (M1 12 j1 0) fun z5 =>
    q_lt ((0 : Int32)) fun z6 =>
    fX5_leastLate_32 F F M1 j1 z3 z4 z5 z6
set_option maxHeartbeats 4000000 in
set_option maxRecDepth 100000 in
theorem ctX5_leastLate {l : Launch} (hst : l.stackTraces = false) {D : va_G} {cy : Nat → ClassId} {ad : Nat → Nat} {x : XX} {F : Nat} {M : Mem} {j1 : Nat} (hj1 : j1 < 60) {r : Mem × Int32} (h : fX5_leastLate F M j1 = some r) : CN l yX5_leastLate wsX5_leastLate rmX5_leastLate D cy ad [.ref (ad 0), .ref (ad (cVer j1))] x M x r.1 (q_vi r.2) 0 0 := by
  refine q_startN (cc := cX5_leastLate) (maxL := 7) (ret := (some .int)) (by decide) rfl (Nat.le_of_ble_eq_true rfl) ?_
  intro p e s m args below meth c ls C0 hw hl hnm
  obtain ⟨hx, hb, hml, hown, hts, -⟩ := id C0
  have C0 : MX p l s m args meth c D cy ad cX5_leastLate RX5 7 wsX5_leastLate ((some .int)) := C0
  have hown : s.vm.findClass RX5 = some m.cls := hown
  have hl : lv_has ls 7 [(0, .ref (ad 0)), (1, .ref (ad (cVer j1)))] := hl
  show W p l e rmX5_leastLate s m args below meth c s.heap [] 0 0 (QN D cy ad below args s x q_vi r 0 0) (F0 m 0 ls [])
  unfold fX5_leastLate at h
  refine lv_aload_n hx hb dX5_leastLate_0 rfl (lv_at hl 0 rfl) ?_
  refine lv_aload_n hx hb dX5_leastLate_1 rfl (lv_at hl 1 rfl) ?_
  refine gf_Ver_task C0 hw hj1 (fun _ h9 => List.mem_cons_of_mem _ (List.mem_append_left _ (List.mem_append_left _ (List.mem_append_left _ (List.mem_append_left _ (List.mem_append_right _ h9)))))) (List.mem_of_getElem? (i := 1) rfl) dX5_leastLate_2 ?_
  refine lv_aload_n hx hb dX5_leastLate_5 rfl (lv_at hl 1 rfl) ?_
  refine gf_Ver_handedAt C0 hw hj1 (fun _ h9 => List.mem_cons_of_mem _ (List.mem_append_left _ (List.mem_append_left _ (List.mem_append_left _ (List.mem_append_left _ (List.mem_append_right _ h9)))))) (List.mem_of_getElem? (i := 2) rfl) dX5_leastLate_6 ?_
  refine q_callVNi (As := [.int (M 11 j1 0), .int (M 14 j1 0)]) (nA := 2) C0 hw at_HW rfl (fun r1 h1 => ctX5_minutesBehindDue hst h1) gX5_leastLate_X5_minutesBehindDue rfl ⟨rfl, rfl⟩ (by decide +kernel) rfl ⟨(Nat.le_of_ble_eq_true rfl), (Nat.le_of_ble_eq_true rfl)⟩ hl.1 (Nat.le_of_ble_eq_true rfl) ⟨(Nat.le_of_ble_eq_true rfl), (Nat.le_of_ble_eq_true rfl)⟩ rfl h dX5_leastLate_9 (fun M1 z2 H locs hw h => ?_)
  refine q_istore_n (lv' := fun z3 => [(2, .int z3), (0, .ref (ad 0)), (1, .ref (ad (cVer j1)))]) hx hb dX5_leastLate_12 rfl hl (by decide) (fun _ => rfl) h (fun z3 ls hl h => ?_)
  refine lv_aload_n hx hb dX5_leastLate_13 rfl (lv_at hl 2 rfl) ?_
  refine gf_Ver_shingles C0 hw hj1 (fun _ h9 => List.mem_cons_of_mem _ (List.mem_append_left _ (List.mem_append_left _ (List.mem_append_left _ (List.mem_append_left _ (List.mem_append_right _ h9)))))) (List.mem_of_getElem? (i := 3) rfl) dX5_leastLate_14 ?_
  refine gf_Bag_size C0 hw (Nat.lt_of_lt_of_le hj1 (Nat.le_of_ble_eq_true rfl)) (fun _ h9 => List.mem_cons_of_mem _ (List.mem_append_left _ (List.mem_append_left _ (List.mem_append_left _ (List.mem_append_right _ h9))))) (List.mem_of_getElem? (i := 4) rfl) dX5_leastLate_17 ?_
  refine lv_iconst (v := 2) hx hb dX5_leastLate_20 (by decide) ?_
  refine lv_idiv hx hb dX5_leastLate_21 (by decide) ?_
  refine q_istore_n (lv' := fun z4 => [(3, .int z4), (2, .int z3), (0, .ref (ad 0)), (1, .ref (ad (cVer j1)))]) hx hb dX5_leastLate_22 rfl hl (by decide) (fun _ => rfl) h (fun z4 ls hl h => ?_)
  refine lv_aload_n hx hb dX5_leastLate_23 rfl (lv_at hl 3 rfl) ?_
  refine gf_Ver_parent C0 hw hj1 (fun _ h9 => List.mem_cons_of_mem _ (List.mem_append_left _ (List.mem_append_left _ (List.mem_append_left _ (List.mem_append_left _ (List.mem_append_right _ h9)))))) (List.mem_of_getElem? (i := 5) rfl) dX5_leastLate_24 ?_
  refine q_istore (lv' := fun z5 => [(4, .int z5), (3, .int z4), (2, .int z3), (0, .ref (ad 0)), (1, .ref (ad (cVer j1)))]) hx hb dX5_leastLate_27 hl (by decide) (fun _ => rfl) h (fun z5 ls hl h => ?_)
  refine lv_iconst (v := 0) hx hb dX5_leastLate_29 (by decide) ?_
  refine q_istore (lv' := fun z6 => [(5, .int z6), (4, .int z5), (3, .int z4), (2, .int z3), (0, .ref (ad 0)), (1, .ref (ad (cVer j1)))]) hx hb dX5_leastLate_30 hl (by decide) (fun _ => rfl) h (fun z6 ls hl h => ?_)
  exact wX5_leastLate_32 hst C0  F M1 j1 z3 z4 z5 z6 hj1 _ _ _ hw (lv_sub hl [4, 5, 3, 2, 1, 0] rfl) h
/-! Homewatcher.late(I)I -/
abbrev rmX5_late : Room := { frames := 7, cells := 2, slots := 12, locals := 111 }
def fX5_late (F : Nat) (M : Mem) (a0 : Int32) : Option (Mem × (Int32 ⊕ Nat)) :=
    q_bx (fX5_needVersion F M a0) fun M1 _ =>
    q_ax a0 60 fun j3 =>
    q_bn (fX4_isThere F M1 j3) fun M4 z5 =>
    if z5 = (0 : Int32) then
    (some (M4, Sum.inr 5))
    else
    (q_ax a0 60 fun j6 =>
    q_bn (fX5_leastLate F M4 j6) fun M7 z8 =>
    some (M7, Sum.inl z8))
set_option maxHeartbeats 4000000 in
set_option maxRecDepth 100000 in
theorem ctX5_late {l : Launch} (hst : l.stackTraces = false) {D : va_G} {cy : Nat → ClassId} {ad : Nat → Nat} {x : XX} {F : Nat} {M : Mem} {a0 : Int32} {r : Mem × (Int32 ⊕ Nat)} (h : fX5_late F M a0 = some r) : CT l yX5_late wsX5_late rmX5_late D cy ad [.ref (ad 0), .int a0] x M r.1 (q_ou q_vi r.2) 2 12 := by
  refine q_startT (cc := cX5_late) (maxL := 2) (ret := (some .int)) (by decide) rfl (Nat.le_of_ble_eq_true rfl) ?_
  intro p e s m args below meth c ls C0 hw hl ht
  obtain ⟨hx, hb, hml, hown, hts, -⟩ := id C0
  have C0 : MX p l s m args meth c D cy ad cX5_late RX5 2 wsX5_late ((some .int)) := C0
  have hown : s.vm.findClass RX5 = some m.cls := hown
  have hl : lv_has ls 2 [(0, .ref (ad 0)), (1, .int a0)] := hl
  show W p l e rmX5_late s m args below meth c s.heap [] 0 0 (QT D cy ad below args s x q_vi r 2 12) (F0 m 0 ls [])
  unfold fX5_late at h
  refine lv_aload_n hx hb dX5_late_0 rfl (lv_at hl 0 rfl) ?_
  refine lv_iload_n hx hb dX5_late_1 rfl (lv_at hl 1 rfl) ?_
  refine q_callVTv (As := [.int a0]) (nA := 1) C0 ht hw at_HW rfl (fun r1 h1 => ctX5_needVersion hst h1) gX5_late_X5_needVersion rfl ⟨rfl, rfl⟩ (by decide +kernel) rfl ⟨(Nat.le_of_ble_eq_true rfl), (Nat.le_of_ble_eq_true rfl)⟩ hl.1 (Nat.le_of_ble_eq_true rfl) ⟨(Nat.le_of_ble_eq_true rfl), (Nat.le_of_ble_eq_true rfl)⟩ ⟨(Nat.le_of_ble_eq_true rfl), (Nat.le_of_ble_eq_true rfl)⟩ rfl h dX5_late_2 (fun M1 H locs hw h => ?_)
  refine lv_aload_n hx hb dX5_late_5 rfl (lv_at hl 0 rfl) ?_
  refine gf_HW_versions C0 hw (fun _ h9 => List.mem_cons_of_mem _ (List.mem_append_left _ (List.mem_append_left _ (List.mem_append_left _ (List.mem_append_left _ (List.mem_append_left _ (List.mem_append_left _ (List.mem_append_right _ h9)))))))) (List.mem_of_getElem? (i := 3) rfl) dX5_late_6 ?_
  refine lv_iload_n hx hb dX5_late_9 rfl (lv_at hl 1 rfl) ?_
  refine q_aald (t := 6) C0 hw at_vers rfl h dX5_late_10 (fun j3 hj3 h => ?_)
  refine q_callVNi (As := []) (nA := 0) C0 hw (at_Ver hj3) rfl (fun r1 h1 => ctX4_isThere hst hj3 h1) gX5_late_X4_isThere rfl ⟨rfl, rfl⟩ (by decide +kernel) rfl ⟨(Nat.le_of_ble_eq_true rfl), (Nat.le_of_ble_eq_true rfl)⟩ hl.1 (Nat.le_of_ble_eq_true rfl) ⟨(Nat.le_of_ble_eq_true rfl), (Nat.le_of_ble_eq_true rfl)⟩ rfl h dX5_late_11 (fun M4 z5 H locs hw h => ?_)
  refine q_if_ne (tgt := 27) hx hb dX5_late_14 (by decide) h (fun h => ?_) (fun h => ?_)
  · refine lv_aload_n hx hb dX5_late_27 rfl (lv_at hl 0 rfl) ?_
    refine lv_aload_n hx hb dX5_late_28 rfl (lv_at hl 0 rfl) ?_
    refine gf_HW_versions C0 hw (fun _ h9 => List.mem_cons_of_mem _ (List.mem_append_left _ (List.mem_append_left _ (List.mem_append_left _ (List.mem_append_left _ (List.mem_append_left _ (List.mem_append_left _ (List.mem_append_right _ h9)))))))) (List.mem_of_getElem? (i := 3) rfl) dX5_late_29 ?_
    refine lv_iload_n hx hb dX5_late_32 rfl (lv_at hl 1 rfl) ?_
    refine q_aald (t := 6) C0 hw at_vers rfl h dX5_late_33 (fun j6 hj6 h => ?_)
    refine q_callVNi (As := [.ref (ad (cVer j6))]) (nA := 1) C0 hw at_HW rfl (fun r1 h1 => ctX5_leastLate hst hj6 h1) gX5_late_X5_leastLate rfl ⟨rfl, rfl⟩ (by decide +kernel) rfl ⟨(Nat.le_of_ble_eq_true rfl), (Nat.le_of_ble_eq_true rfl)⟩ hl.1 (Nat.le_of_ble_eq_true rfl) ⟨(Nat.le_of_ble_eq_true rfl), (Nat.le_of_ble_eq_true rfl)⟩ rfl h dX5_late_34 (fun M7 z8 H locs hw h => ?_)
    exact q_iretT C0 hw h ⟨(Nat.le_of_ble_eq_true rfl), (Nat.le_of_ble_eq_true rfl)⟩ dX5_late_37
  · exact q_thrS C0 ht hst hw (ik := 163) (is := 250) (ic := 167) xp_167 (List.mem_of_getElem? (i := 1) rfl) (List.mem_of_getElem? (i := 2) rfl) (List.mem_of_getElem? (i := 20) rfl) (fun _ h9 => List.mem_cons_of_mem _ (List.mem_append_left _ (List.mem_append_left _ (List.mem_append_right _ h9)))) hl.1 dX5_late_17 dX5_late_20 dX5_late_21 dX5_late_23 dX5_late_26 ⟨(Nat.le_of_ble_eq_true rfl), (Nat.le_of_ble_eq_true rfl), (Nat.le_of_ble_eq_true rfl), (Nat.le_of_ble_eq_true rfl)⟩ ⟨(Nat.le_of_ble_eq_true rfl), (Nat.le_of_ble_eq_true rfl)⟩ h
/-! Homewatcher.off(II)I -/
abbrev rmX5_off : Room := { frames := 7, cells := 2, slots := 12, locals := 112 }
def fX5_off (F : Nat) (M : Mem) (a0 : Int32) (a1 : Int32) : Option (Mem × (Int32 ⊕ Nat)) :=
    q_bx (fX5_needTask F M a0) fun M1 _ =>
    q_bx (fX5_needRange F M1 a1 (0 : Int32) (1000000 : Int32)) fun M3 _ =>
    q_ax a0 10 fun j5 =>
    q_bn (fX2_pointsOff F M3 j5 a1) fun M6 z7 =>
    some (M6, Sum.inl z7)
set_option maxHeartbeats 4000000 in
set_option maxRecDepth 100000 in
theorem ctX5_off {l : Launch} (hst : l.stackTraces = false) {D : va_G} {cy : Nat → ClassId} {ad : Nat → Nat} {x : XX} {F : Nat} {M : Mem} {a0 : Int32} {a1 : Int32} {r : Mem × (Int32 ⊕ Nat)} (h : fX5_off F M a0 a1 = some r) : CT l yX5_off wsX5_off rmX5_off D cy ad [.ref (ad 0), .int a0, .int a1] x M r.1 (q_ou q_vi r.2) 2 12 := by
  refine q_startT (cc := cX5_off) (maxL := 3) (ret := (some .int)) (by decide) rfl (Nat.le_of_ble_eq_true rfl) ?_
  intro p e s m args below meth c ls C0 hw hl ht
  obtain ⟨hx, hb, hml, hown, hts, -⟩ := id C0
  have C0 : MX p l s m args meth c D cy ad cX5_off RX5 3 wsX5_off ((some .int)) := C0
  have hown : s.vm.findClass RX5 = some m.cls := hown
  have hl : lv_has ls 3 [(0, .ref (ad 0)), (1, .int a0), (2, .int a1)] := hl
  show W p l e rmX5_off s m args below meth c s.heap [] 0 0 (QT D cy ad below args s x q_vi r 2 12) (F0 m 0 ls [])
  unfold fX5_off at h
  refine lv_aload_n hx hb dX5_off_0 rfl (lv_at hl 0 rfl) ?_
  refine lv_iload_n hx hb dX5_off_1 rfl (lv_at hl 1 rfl) ?_
  refine q_callVTv (As := [.int a0]) (nA := 1) C0 ht hw at_HW rfl (fun r1 h1 => ctX5_needTask hst h1) gX5_off_X5_needTask rfl ⟨rfl, rfl⟩ (by decide +kernel) rfl ⟨(Nat.le_of_ble_eq_true rfl), (Nat.le_of_ble_eq_true rfl)⟩ hl.1 (Nat.le_of_ble_eq_true rfl) ⟨(Nat.le_of_ble_eq_true rfl), (Nat.le_of_ble_eq_true rfl)⟩ ⟨(Nat.le_of_ble_eq_true rfl), (Nat.le_of_ble_eq_true rfl)⟩ rfl h dX5_off_2 (fun M1 H locs hw h => ?_)
  refine lv_iload_n hx hb dX5_off_5 rfl (lv_at hl 2 rfl) ?_
  refine lv_iconst (v := 0) hx hb dX5_off_6 (by decide) ?_
  refine lv_ldc (v := 1000000) hx hb hown (hts _ (List.mem_of_getElem? (i := 1) rfl)) dX5_off_7 ?_
  refine q_callSTv (As := [.int a1, .int ((0 : Int32)), .int ((1000000 : Int32))]) (nA := 3) C0 ht hw (fun r1 h1 => ctX5_needRange hst h1) gX5_off_X5_needRange rfl ⟨rfl, rfl⟩ (by decide +kernel) rfl ⟨(Nat.le_of_ble_eq_true rfl), (Nat.le_of_ble_eq_true rfl)⟩ hl.1 (Nat.le_of_ble_eq_true rfl) ⟨(Nat.le_of_ble_eq_true rfl), (Nat.le_of_ble_eq_true rfl)⟩ ⟨(Nat.le_of_ble_eq_true rfl), (Nat.le_of_ble_eq_true rfl)⟩ rfl h dX5_off_9 (fun M3 H locs hw h => ?_)
  refine lv_aload_n hx hb dX5_off_12 rfl (lv_at hl 0 rfl) ?_
  refine gf_HW_tasks C0 hw (fun _ h9 => List.mem_cons_of_mem _ (List.mem_append_left _ (List.mem_append_left _ (List.mem_append_left _ (List.mem_append_right _ h9))))) (List.mem_of_getElem? (i := 2) rfl) dX5_off_13 ?_
  refine lv_iload_n hx hb dX5_off_16 rfl (lv_at hl 1 rfl) ?_
  refine q_aald (t := 5) C0 hw at_tasks rfl h dX5_off_17 (fun j5 hj5 h => ?_)
  refine lv_iload_n hx hb dX5_off_18 rfl (lv_at hl 2 rfl) ?_
  refine q_callVNi (As := [.int a1]) (nA := 1) C0 hw (at_Task hj5) rfl (fun r1 h1 => ctX2_pointsOff hst hj5 h1) gX5_off_X2_pointsOff rfl ⟨rfl, rfl⟩ (by decide +kernel) rfl ⟨(Nat.le_of_ble_eq_true rfl), (Nat.le_of_ble_eq_true rfl)⟩ hl.1 (Nat.le_of_ble_eq_true rfl) ⟨(Nat.le_of_ble_eq_true rfl), (Nat.le_of_ble_eq_true rfl)⟩ rfl h dX5_off_19 (fun M6 z7 H locs hw h => ?_)
  exact q_iretT C0 hw h ⟨(Nat.le_of_ble_eq_true rfl), (Nat.le_of_ble_eq_true rfl)⟩ dX5_off_22
/-! Homewatcher.points(II)I -/
abbrev rmX5_points : Room := { frames := 7, cells := 2, slots := 12, locals := 112 }
def fX5_points (F : Nat) (M : Mem) (a0 : Int32) (a1 : Int32) : Option (Mem × (Int32 ⊕ Nat)) :=
    q_bx (fX5_needVersion F M a0) fun M1 _ =>
    q_bx (fX5_needRange F M1 a1 (0 : Int32) (100 : Int32)) fun M3 _ =>
    q_ax a0 60 fun j5 =>
    q_lt (M3 17 j5 0) fun z6 =>
    q_ax a0 60 fun j7 =>
    q_lt (up M3 17 j7 0 a1) fun M8 =>
    some (M8, Sum.inl z6)
set_option maxHeartbeats 4000000 in
set_option maxRecDepth 100000 in
theorem ctX5_points {l : Launch} (hst : l.stackTraces = false) {D : va_G} {cy : Nat → ClassId} {ad : Nat → Nat} {x : XX} {F : Nat} {M : Mem} {a0 : Int32} {a1 : Int32} {r : Mem × (Int32 ⊕ Nat)} (h : fX5_points F M a0 a1 = some r) : CT l yX5_points wsX5_points rmX5_points D cy ad [.ref (ad 0), .int a0, .int a1] x M r.1 (q_ou q_vi r.2) 2 12 := by
  refine q_startT (cc := cX5_points) (maxL := 4) (ret := (some .int)) (by decide) rfl (Nat.le_of_ble_eq_true rfl) ?_
  intro p e s m args below meth c ls C0 hw hl ht
  obtain ⟨hx, hb, hml, hown, hts, -⟩ := id C0
  have C0 : MX p l s m args meth c D cy ad cX5_points RX5 4 wsX5_points ((some .int)) := C0
  have hown : s.vm.findClass RX5 = some m.cls := hown
  have hl : lv_has ls 4 [(0, .ref (ad 0)), (1, .int a0), (2, .int a1)] := hl
  show W p l e rmX5_points s m args below meth c s.heap [] 0 0 (QT D cy ad below args s x q_vi r 2 12) (F0 m 0 ls [])
  unfold fX5_points at h
  refine lv_aload_n hx hb dX5_points_0 rfl (lv_at hl 0 rfl) ?_
  refine lv_iload_n hx hb dX5_points_1 rfl (lv_at hl 1 rfl) ?_
  refine q_callVTv (As := [.int a0]) (nA := 1) C0 ht hw at_HW rfl (fun r1 h1 => ctX5_needVersion hst h1) gX5_points_X5_needVersion rfl ⟨rfl, rfl⟩ (by decide +kernel) rfl ⟨(Nat.le_of_ble_eq_true rfl), (Nat.le_of_ble_eq_true rfl)⟩ hl.1 (Nat.le_of_ble_eq_true rfl) ⟨(Nat.le_of_ble_eq_true rfl), (Nat.le_of_ble_eq_true rfl)⟩ ⟨(Nat.le_of_ble_eq_true rfl), (Nat.le_of_ble_eq_true rfl)⟩ rfl h dX5_points_2 (fun M1 H locs hw h => ?_)
  refine lv_iload_n hx hb dX5_points_5 rfl (lv_at hl 2 rfl) ?_
  refine lv_iconst (v := 0) hx hb dX5_points_6 (by decide) ?_
  refine lv_bipush (v := 100) hx hb dX5_points_7 (by decide) ?_
  refine q_callSTv (As := [.int a1, .int ((0 : Int32)), .int ((100 : Int32))]) (nA := 3) C0 ht hw (fun r1 h1 => ctX5_needRange hst h1) gX5_points_X5_needRange rfl ⟨rfl, rfl⟩ (by decide +kernel) rfl ⟨(Nat.le_of_ble_eq_true rfl), (Nat.le_of_ble_eq_true rfl)⟩ hl.1 (Nat.le_of_ble_eq_true rfl) ⟨(Nat.le_of_ble_eq_true rfl), (Nat.le_of_ble_eq_true rfl)⟩ ⟨(Nat.le_of_ble_eq_true rfl), (Nat.le_of_ble_eq_true rfl)⟩ rfl h dX5_points_9 (fun M3 H locs hw h => ?_)
  refine lv_aload_n hx hb dX5_points_12 rfl (lv_at hl 0 rfl) ?_
  refine gf_HW_versions C0 hw (fun _ h9 => List.mem_cons_of_mem _ (List.mem_append_left _ (List.mem_append_left _ (List.mem_append_left _ (List.mem_append_right _ h9))))) (List.mem_of_getElem? (i := 1) rfl) dX5_points_13 ?_
  refine lv_iload_n hx hb dX5_points_16 rfl (lv_at hl 1 rfl) ?_
  refine q_aald (t := 6) C0 hw at_vers rfl h dX5_points_17 (fun j5 hj5 h => ?_)
  refine gf_Ver_told C0 hw hj5 (fun _ h9 => List.mem_cons_of_mem _ (List.mem_append_left _ (List.mem_append_left _ (List.mem_append_right _ h9)))) (List.mem_of_getElem? (i := 2) rfl) dX5_points_18 ?_
  refine q_istore_n (lv' := fun z6 => [(3, .int z6), (0, .ref (ad 0)), (1, .int a0), (2, .int a1)]) hx hb dX5_points_21 rfl hl (by decide) (fun _ => rfl) h (fun z6 ls hl h => ?_)
  refine lv_aload_n hx hb dX5_points_22 rfl (lv_at hl 1 rfl) ?_
  refine gf_HW_versions C0 hw (fun _ h9 => List.mem_cons_of_mem _ (List.mem_append_left _ (List.mem_append_left _ (List.mem_append_left _ (List.mem_append_right _ h9))))) (List.mem_of_getElem? (i := 1) rfl) dX5_points_23 ?_
  refine lv_iload_n hx hb dX5_points_26 rfl (lv_at hl 2 rfl) ?_
  refine q_aald (t := 6) C0 hw at_vers rfl h dX5_points_27 (fun j7 hj7 h => ?_)
  refine lv_iload_n hx hb dX5_points_28 rfl (lv_at hl 3 rfl) ?_
  refine pf_Ver_told C0 hw hj7 (fun _ h9 => List.mem_cons_of_mem _ (List.mem_append_left _ (List.mem_append_left _ (List.mem_append_right _ h9)))) (List.mem_of_getElem? (i := 2) rfl) dX5_points_29 h (fun M8 H locs hw h => ?_)
  refine lv_iload_n hx hb dX5_points_32 rfl (lv_at hl 0 rfl) ?_
  exact q_iretT C0 hw h ⟨(Nat.le_of_ble_eq_true rfl), (Nat.le_of_ble_eq_true rfl)⟩ dX5_points_33
/-! Homewatcher.counting(II)I -/
abbrev rmX5_counting : Room := { frames := 7, cells := 3, slots := 18, locals := 111 }
def fX5_counting (F : Nat) (M : Mem) (a0 : Int32) (a1 : Int32) : Option (Mem × (Int32 ⊕ Nat)) :=
    q_bx (fX5_needPupil F M a0) fun M1 _ =>
    q_bx (fX5_needTask F M1 a1) fun M3 _ =>
    q_bn (fX5_findCounting F M3 a0 a1) fun M5 z6 =>
    q_lt (z6) fun z7 =>
    if z7 = (-1 : Int32) then
    (some (M5, Sum.inr 4))
    else
    (some (M5, Sum.inl z7))
set_option maxHeartbeats 4000000 in
set_option maxRecDepth 100000 in
theorem ctX5_counting {l : Launch} (hst : l.stackTraces = false) {D : va_G} {cy : Nat → ClassId} {ad : Nat → Nat} {x : XX} {F : Nat} {M : Mem} {a0 : Int32} {a1 : Int32} {r : Mem × (Int32 ⊕ Nat)} (h : fX5_counting F M a0 a1 = some r) : CT l yX5_counting wsX5_counting rmX5_counting D cy ad [.ref (ad 0), .int a0, .int a1] x M r.1 (q_ou q_vi r.2) 3 18 := by
  refine q_startT (cc := cX5_counting) (maxL := 4) (ret := (some .int)) (by decide) rfl (Nat.le_of_ble_eq_true rfl) ?_
  intro p e s m args below meth c ls C0 hw hl ht
  obtain ⟨hx, hb, hml, hown, hts, -⟩ := id C0
  have C0 : MX p l s m args meth c D cy ad cX5_counting RX5 4 wsX5_counting ((some .int)) := C0
  have hown : s.vm.findClass RX5 = some m.cls := hown
  have hl : lv_has ls 4 [(0, .ref (ad 0)), (1, .int a0), (2, .int a1)] := hl
  show W p l e rmX5_counting s m args below meth c s.heap [] 0 0 (QT D cy ad below args s x q_vi r 3 18) (F0 m 0 ls [])
  unfold fX5_counting at h
  refine lv_aload_n hx hb dX5_counting_0 rfl (lv_at hl 0 rfl) ?_
  refine lv_iload_n hx hb dX5_counting_1 rfl (lv_at hl 1 rfl) ?_
  refine q_callVTv (As := [.int a0]) (nA := 1) C0 ht hw at_HW rfl (fun r1 h1 => ctX5_needPupil hst h1) gX5_counting_X5_needPupil rfl ⟨rfl, rfl⟩ (by decide +kernel) rfl ⟨(Nat.le_of_ble_eq_true rfl), (Nat.le_of_ble_eq_true rfl)⟩ hl.1 (Nat.le_of_ble_eq_true rfl) ⟨(Nat.le_of_ble_eq_true rfl), (Nat.le_of_ble_eq_true rfl)⟩ ⟨(Nat.le_of_ble_eq_true rfl), (Nat.le_of_ble_eq_true rfl)⟩ rfl h dX5_counting_2 (fun M1 H locs hw h => ?_)
  refine lv_aload_n hx hb dX5_counting_5 rfl (lv_at hl 0 rfl) ?_
  refine lv_iload_n hx hb dX5_counting_6 rfl (lv_at hl 2 rfl) ?_
  refine q_callVTv (As := [.int a1]) (nA := 1) C0 ht hw at_HW rfl (fun r1 h1 => ctX5_needTask hst h1) gX5_counting_X5_needTask rfl ⟨rfl, rfl⟩ (by decide +kernel) rfl ⟨(Nat.le_of_ble_eq_true rfl), (Nat.le_of_ble_eq_true rfl)⟩ hl.1 (Nat.le_of_ble_eq_true rfl) ⟨(Nat.le_of_ble_eq_true rfl), (Nat.le_of_ble_eq_true rfl)⟩ ⟨(Nat.le_of_ble_eq_true rfl), (Nat.le_of_ble_eq_true rfl)⟩ rfl h dX5_counting_7 (fun M3 H locs hw h => ?_)
  refine lv_aload_n hx hb dX5_counting_10 rfl (lv_at hl 0 rfl) ?_
  refine lv_iload_n hx hb dX5_counting_11 rfl (lv_at hl 1 rfl) ?_
  refine lv_iload_n hx hb dX5_counting_12 rfl (lv_at hl 2 rfl) ?_
  refine q_callVNi (As := [.int a0, .int a1]) (nA := 2) C0 hw at_HW rfl (fun r1 h1 => ctX5_findCounting hst h1) gX5_counting_X5_findCounting rfl ⟨rfl, rfl⟩ (by decide +kernel) rfl ⟨(Nat.le_of_ble_eq_true rfl), (Nat.le_of_ble_eq_true rfl)⟩ hl.1 (Nat.le_of_ble_eq_true rfl) ⟨(Nat.le_of_ble_eq_true rfl), (Nat.le_of_ble_eq_true rfl)⟩ rfl h dX5_counting_13 (fun M5 z6 H locs hw h => ?_)
  refine q_istore_n (lv' := fun z7 => [(3, .int z7), (0, .ref (ad 0)), (1, .int a0), (2, .int a1)]) hx hb dX5_counting_16 rfl hl (by decide) (fun _ => rfl) h (fun z7 ls hl h => ?_)
  refine lv_iload_n hx hb dX5_counting_17 rfl (lv_at hl 0 rfl) ?_
  refine lv_iconst (v := -1) hx hb dX5_counting_18 (by decide) ?_
  refine q_icmp_ne (tgt := 33) hx hb dX5_counting_19 (by decide) h (fun h => ?_) (fun h => ?_)
  · refine lv_iload_n hx hb dX5_counting_33 rfl (lv_at hl 0 rfl) ?_
    exact q_iretT C0 hw h ⟨(Nat.le_of_ble_eq_true rfl), (Nat.le_of_ble_eq_true rfl)⟩ dX5_counting_34
  · exact q_thrNW C0 ht hst hw (ik := 145) (is := 275) (ic := 149) xp_149 (List.mem_of_getElem? (i := 1) rfl) (List.mem_of_getElem? (i := 2) rfl) (List.mem_of_getElem? (i := 22) rfl) (fun _ h9 => List.mem_cons_of_mem _ (List.mem_append_left _ (List.mem_append_right _ h9))) hl.1 dX5_counting_22 dX5_counting_25 dX5_counting_26 dX5_counting_29 dX5_counting_32 ⟨(Nat.le_of_ble_eq_true rfl), (Nat.le_of_ble_eq_true rfl), (Nat.le_of_ble_eq_true rfl), (Nat.le_of_ble_eq_true rfl)⟩ ⟨(Nat.le_of_ble_eq_true rfl), (Nat.le_of_ble_eq_true rfl)⟩ h
/-! Homewatcher.hasOpenHit(II)Z -/
abbrev rmX5_hasOpenHit : Room := { frames := 1, cells := 0, slots := 0, locals := 22 }
def fX5_hasOpenHit_64 (F : Nat) (k2 : Mem → Int32 → Int32 → Int32 → Option (Mem × Int32)) (M : Mem) (v1 : Int32) (v2 : Int32) (v3 : Int32) : Option (Mem × Int32) :=
    q_lt (v3 + (1 : Int32)) fun z1 =>
    k2 M v1 v2 z1
set_option maxHeartbeats 4000000 in
set_option maxRecDepth 100000 in
theorem wX5_hasOpenHit_64 {p : Program} {l : Launch} {e : Env} {s : State} {m : MethodId} {args : Array Value} {below : List Frame} {meth : Method} {c : Code} {D : va_G} {cy : Nat → ClassId} {ad : Nat → Nat} {x : XX} {F : Nat} {r : Mem × Int32} (hst : l.stackTraces = false) (C0 : MX p l s m args meth c D cy ad cX5_hasOpenHit RX5 5 wsX5_hasOpenHit (some .boolean)) {k2 : Mem → Int32 → Int32 → Int32 → Option (Mem × Int32)} (hk2 : ∀ (M : Mem) (v1 : Int32) (v2 : Int32) (v3 : Int32) (H : Heap) (locs : List Loc) (ls : Array Slot), Wd D cy ad x s M H locs → lv_has ls 5 [(0, .ref (ad 0)), (1, .int v1), (2, .int v2), (3, .int v3)] → k2 M v1 v2 v3 = some r → W p l e rmX5_hasOpenHit s m args below meth c H locs 0 0 (QN D cy ad below args s x q_vi r 0 0) (F0 m 2 ls [])) : ∀ (M : Mem) (v1 : Int32) (v2 : Int32) (v3 : Int32) (H : Heap) (locs : List Loc) (ls : Array Slot), Wd D cy ad x s M H locs → lv_has ls 5 [(0, .ref (ad 0)), (1, .int v1), (2, .int v2), (3, .int v3)] → fX5_hasOpenHit_64 F k2 M v1 v2 v3 = some r → W p l e rmX5_hasOpenHit s m args below meth c H locs 0 0 (QN D cy ad below args s x q_vi r 0 0) (F0 m 64 ls []) := by
  obtain ⟨hx, hb, hml, hown, hts, -⟩ := id C0
  intro M v1 v2 v3 H locs ls hw hl h
  unfold fX5_hasOpenHit_64 at h
  refine q_iinc (k := 3) (cst := 1) (lv' := fun z1 => [(3, .int z1), (0, .ref (ad 0)), (1, .int v1), (2, .int v2)]) hx hb dX5_hasOpenHit_64 hl rfl rfl (by decide) (fun _ => rfl) h (fun z1 ls hl h => ?_)
  refine lv_goto (tgt := 2) hx hb dX5_hasOpenHit_67 (by decide) ?_
  exact hk2 M v1 v2 z1 _ _ _ hw (lv_sub hl [1, 2, 3, 0] rfl) h
def fX5_hasOpenHit_62 (F : Nat) (M : Mem) : Option (Mem × Int32) :=
    some (M, (1 : Int32))
set_option maxHeartbeats 4000000 in
set_option maxRecDepth 100000 in
theorem wX5_hasOpenHit_62 {p : Program} {l : Launch} {e : Env} {s : State} {m : MethodId} {args : Array Value} {below : List Frame} {meth : Method} {c : Code} {D : va_G} {cy : Nat → ClassId} {ad : Nat → Nat} {x : XX} {F : Nat} {r : Mem × Int32} (hst : l.stackTraces = false) (C0 : MX p l s m args meth c D cy ad cX5_hasOpenHit RX5 5 wsX5_hasOpenHit (some .boolean)) : ∀ (M : Mem) (H : Heap) (locs : List Loc) (ls : Array Slot), Wd D cy ad x s M H locs → lv_has ls 5 [] → fX5_hasOpenHit_62 F M = some r → W p l e rmX5_hasOpenHit s m args below meth c H locs 0 0 (QN D cy ad below args s x q_vi r 0 0) (F0 m 62 ls []) := by
  obtain ⟨hx, hb, hml, hown, hts, -⟩ := id C0
  intro M H locs ls hw hl h
  unfold fX5_hasOpenHit_62 at h
  refine lv_iconst (v := 1) hx hb dX5_hasOpenHit_62 (by decide) ?_
  exact q_zretN C0 hw rfl h ⟨(Nat.le_of_ble_eq_true rfl), (Nat.le_of_ble_eq_true rfl)⟩ dX5_hasOpenHit_63
def fX5_hasOpenHit_2 (F : Nat) : Nat → Mem → Int32 → Int32 → Int32 → Option (Mem × Int32)
  | 0, _, _, _, _ => none
  | n + 1, M, v1, v2, v3 =>
    if (M 6 0 0) ≤ v3 then
    (some (M, (0 : Int32)))
    else
    (q_ax v3 40 fun j1 =>
    q_bn (fX1_isOpen F M j1) fun M2 z3 =>
    if z3 = (0 : Int32) then
    (fX5_hasOpenHit_64 F (fX5_hasOpenHit_2 F n) M2 v1 v2 v3)
    else
    (q_ax (M2 55 j1 0) 60 fun j4 =>
    q_bn (fX4_isOf F M2 j4 v1 v2) fun M5 z6 =>
    if z6 = (0 : Int32) then
    (q_ax (M5 56 j1 0) 60 fun j7 =>
    q_bn (fX4_isOf F M5 j7 v1 v2) fun M8 z9 =>
    if z9 = (0 : Int32) then
    (fX5_hasOpenHit_64 F (fX5_hasOpenHit_2 F n) M8 v1 v2 v3)
    else
    (fX5_hasOpenHit_62 F M8))
    else
    (fX5_hasOpenHit_62 F M5)))
set_option maxHeartbeats 4000000 in
set_option maxRecDepth 100000 in
theorem wX5_hasOpenHit_2 {p : Program} {l : Launch} {e : Env} {s : State} {m : MethodId} {args : Array Value} {below : List Frame} {meth : Method} {c : Code} {D : va_G} {cy : Nat → ClassId} {ad : Nat → Nat} {x : XX} {F : Nat} {r : Mem × Int32} (hst : l.stackTraces = false) (C0 : MX p l s m args meth c D cy ad cX5_hasOpenHit RX5 5 wsX5_hasOpenHit (some .boolean)) : ∀ (n : Nat) (M : Mem) (v1 : Int32) (v2 : Int32) (v3 : Int32) (H : Heap) (locs : List Loc) (ls : Array Slot), Wd D cy ad x s M H locs → lv_has ls 5 [(0, .ref (ad 0)), (1, .int v1), (2, .int v2), (3, .int v3)] → fX5_hasOpenHit_2 F n M v1 v2 v3 = some r → W p l e rmX5_hasOpenHit s m args below meth c H locs 0 0 (QN D cy ad below args s x q_vi r 0 0) (F0 m 2 ls []) := by
  obtain ⟨hx, hb, hml, hown, hts, -⟩ := id C0
  intro n
  induction n with
  | zero =>
    intro M v1 v2 v3 H locs ls hw hl h
    exact q_no h
  | succ n ih =>
    intro M v1 v2 v3 H locs ls hw hl h
    unfold fX5_hasOpenHit_2 at h
    refine lv_iload_n hx hb dX5_hasOpenHit_2 rfl (lv_at hl 3 rfl) ?_
    refine lv_aload_n hx hb dX5_hasOpenHit_3 rfl (lv_at hl 0 rfl) ?_
    refine gf_HW_hitCount C0 hw (fun _ h9 => List.mem_cons_of_mem _ (List.mem_append_left _ (List.mem_append_left _ (List.mem_append_right _ h9)))) (List.mem_of_getElem? (i := 1) rfl) dX5_hasOpenHit_4 ?_
    refine q_icmp_ge (tgt := 70) hx hb dX5_hasOpenHit_7 (by decide) h (fun h => ?_) (fun h => ?_)
    · refine lv_iconst (v := 0) hx hb dX5_hasOpenHit_70 (by decide) ?_
      exact q_zretN C0 hw rfl h ⟨(Nat.le_of_ble_eq_true rfl), (Nat.le_of_ble_eq_true rfl)⟩ dX5_hasOpenHit_71
    · refine lv_aload_n hx hb dX5_hasOpenHit_10 rfl (lv_at hl 0 rfl) ?_
      refine gf_HW_hitRow C0 hw (fun _ h9 => List.mem_cons_of_mem _ (List.mem_append_left _ (List.mem_append_left _ (List.mem_append_right _ h9)))) (List.mem_of_getElem? (i := 2) rfl) dX5_hasOpenHit_11 ?_
      refine lv_iload_n hx hb dX5_hasOpenHit_14 rfl (lv_at hl 3 rfl) ?_
      refine q_aald (t := 7) C0 hw at_hits rfl h dX5_hasOpenHit_15 (fun j1 hj1 h => ?_)
      refine lv_astore (lv' := [(4, .ref (ad (cHit j1))), (0, .ref (ad 0)), (1, .int v1), (2, .int v2), (3, .int v3)]) hx hb dX5_hasOpenHit_16 hl (by decide) rfl (fun ls hl => ?_)
      refine lv_aload hx hb dX5_hasOpenHit_18 (lv_at hl 0 rfl) ?_
      refine q_callVNi (As := []) (nA := 0) C0 hw (at_Hit hj1) rfl (fun r1 h1 => ctX1_isOpen hst hj1 h1) gX5_hasOpenHit_X1_isOpen rfl ⟨rfl, rfl⟩ (by decide +kernel) rfl ⟨(Nat.le_of_ble_eq_true rfl), (Nat.le_of_ble_eq_true rfl)⟩ hl.1 (Nat.le_of_ble_eq_true rfl) ⟨(Nat.le_of_ble_eq_true rfl), (Nat.le_of_ble_eq_true rfl)⟩ rfl h dX5_hasOpenHit_20 (fun M2 z3 H locs hw h => ?_)
      refine q_if_eq (tgt := 64) hx hb dX5_hasOpenHit_23 (by decide) h (fun h => ?_) (fun h => ?_)
      · exact wX5_hasOpenHit_64 hst C0 ih M2 v1 v2 v3 _ _ _ hw (lv_sub hl [1, 2, 3, 4] rfl) h
      · refine lv_aload_n hx hb dX5_hasOpenHit_26 rfl (lv_at hl 1 rfl) ?_
        refine gf_HW_versions C0 hw (fun _ h9 => List.mem_cons_of_mem _ (List.mem_append_left _ (List.mem_append_left _ (List.mem_append_right _ h9)))) (List.mem_of_getElem? (i := 3) rfl) dX5_hasOpenHit_27 ?_
        refine lv_aload hx hb dX5_hasOpenHit_30 (lv_at hl 0 rfl) ?_
        refine gf_Hit_newer C0 hw hj1 (fun _ h9 => List.mem_cons_of_mem _ (List.mem_append_left _ (List.mem_append_right _ h9))) (List.mem_of_getElem? (i := 4) rfl) dX5_hasOpenHit_32 ?_
        refine q_aald (t := 6) C0 hw at_vers rfl h dX5_hasOpenHit_35 (fun j4 hj4 h => ?_)
        refine lv_iload_n hx hb dX5_hasOpenHit_36 rfl (lv_at hl 2 rfl) ?_
        refine lv_iload_n hx hb dX5_hasOpenHit_37 rfl (lv_at hl 3 rfl) ?_
        refine q_callVNi (As := [.int v1, .int v2]) (nA := 2) C0 hw (at_Ver hj4) rfl (fun r1 h1 => ctX4_isOf hst hj4 h1) gX5_hasOpenHit_X4_isOf rfl ⟨rfl, rfl⟩ (by decide +kernel) rfl ⟨(Nat.le_of_ble_eq_true rfl), (Nat.le_of_ble_eq_true rfl)⟩ hl.1 (Nat.le_of_ble_eq_true rfl) ⟨(Nat.le_of_ble_eq_true rfl), (Nat.le_of_ble_eq_true rfl)⟩ rfl h dX5_hasOpenHit_38 (fun M5 z6 H locs hw h => ?_)
        refine q_if_ne (tgt := 62) hx hb dX5_hasOpenHit_41 (by decide) h (fun h => ?_) (fun h => ?_)
        · exact wX5_hasOpenHit_62 hst C0  M5 _ _ _ hw (lv_sub hl [] rfl) h
        · refine lv_aload_n hx hb dX5_hasOpenHit_44 rfl (lv_at hl 1 rfl) ?_
          refine gf_HW_versions C0 hw (fun _ h9 => List.mem_cons_of_mem _ (List.mem_append_left _ (List.mem_append_left _ (List.mem_append_right _ h9)))) (List.mem_of_getElem? (i := 3) rfl) dX5_hasOpenHit_45 ?_
          refine lv_aload hx hb dX5_hasOpenHit_48 (lv_at hl 0 rfl) ?_
          refine gf_Hit_other C0 hw hj1 (fun _ h9 => List.mem_cons_of_mem _ (List.mem_append_left _ (List.mem_append_right _ h9))) (List.mem_of_getElem? (i := 5) rfl) dX5_hasOpenHit_50 ?_
          refine q_aald (t := 6) C0 hw at_vers rfl h dX5_hasOpenHit_53 (fun j7 hj7 h => ?_)
          refine lv_iload_n hx hb dX5_hasOpenHit_54 rfl (lv_at hl 2 rfl) ?_
          refine lv_iload_n hx hb dX5_hasOpenHit_55 rfl (lv_at hl 3 rfl) ?_
          refine q_callVNi (As := [.int v1, .int v2]) (nA := 2) C0 hw (at_Ver hj7) rfl (fun r1 h1 => ctX4_isOf hst hj7 h1) gX5_hasOpenHit_X4_isOf rfl ⟨rfl, rfl⟩ (by decide +kernel) rfl ⟨(Nat.le_of_ble_eq_true rfl), (Nat.le_of_ble_eq_true rfl)⟩ hl.1 (Nat.le_of_ble_eq_true rfl) ⟨(Nat.le_of_ble_eq_true rfl), (Nat.le_of_ble_eq_true rfl)⟩ rfl h dX5_hasOpenHit_56 (fun M8 z9 H locs hw h => ?_)
          refine q_if_eq (tgt := 64) hx hb dX5_hasOpenHit_59 (by decide) h (fun h => ?_) (fun h => ?_)
          · exact wX5_hasOpenHit_64 hst C0 ih M8 v1 v2 v3 _ _ _ hw (lv_sub hl [1, 2, 3, 4] rfl) h
          · exact wX5_hasOpenHit_62 hst C0  M8 _ _ _ hw (lv_sub hl [] rfl) h
def fX5_hasOpenHit (F : Nat) (M : Mem) (a0 : Int32) (a1 : Int32) : Option (Mem × Int32) :=
    q_lt ((0 : Int32)) fun z1 =>
    fX5_hasOpenHit_2 F F M a0 a1 z1
set_option maxHeartbeats 4000000 in
set_option maxRecDepth 100000 in
theorem ctX5_hasOpenHit {l : Launch} (hst : l.stackTraces = false) {D : va_G} {cy : Nat → ClassId} {ad : Nat → Nat} {x : XX} {F : Nat} {M : Mem} {a0 : Int32} {a1 : Int32} {r : Mem × Int32} (h : fX5_hasOpenHit F M a0 a1 = some r) : CN l yX5_hasOpenHit wsX5_hasOpenHit rmX5_hasOpenHit D cy ad [.ref (ad 0), .int a0, .int a1] x M x r.1 (q_vi r.2) 0 0 := by
  refine q_startN (cc := cX5_hasOpenHit) (maxL := 5) (ret := (some .boolean)) (by decide) rfl (Nat.le_of_ble_eq_true rfl) ?_
  intro p e s m args below meth c ls C0 hw hl hnm
  obtain ⟨hx, hb, hml, hown, hts, -⟩ := id C0
  have C0 : MX p l s m args meth c D cy ad cX5_hasOpenHit RX5 5 wsX5_hasOpenHit ((some .boolean)) := C0
  have hown : s.vm.findClass RX5 = some m.cls := hown
  have hl : lv_has ls 5 [(0, .ref (ad 0)), (1, .int a0), (2, .int a1)] := hl
  show W p l e rmX5_hasOpenHit s m args below meth c s.heap [] 0 0 (QN D cy ad below args s x q_vi r 0 0) (F0 m 0 ls [])
  unfold fX5_hasOpenHit at h
  refine lv_iconst (v := 0) hx hb dX5_hasOpenHit_0 (by decide) ?_
  refine q_istore_n (lv' := fun z1 => [(3, .int z1), (0, .ref (ad 0)), (1, .int a0), (2, .int a1)]) hx hb dX5_hasOpenHit_1 rfl hl (by decide) (fun _ => rfl) h (fun z1 ls hl h => ?_)
  exact wX5_hasOpenHit_2 hst C0  F M a0 a1 z1 _ _ _ hw (lv_sub hl [1, 2, 3, 0] rfl) h
/-! Homewatcher.isLost(II)Z -/
abbrev rmX5_isLost : Room := { frames := 2, cells := 0, slots := 0, locals := 41 }
def fX5_isLost_76 (F : Nat) (k2 : Mem → Int32 → Int32 → Int32 → Option (Mem × Int32)) (M : Mem) (v1 : Int32) (v2 : Int32) (v3 : Int32) : Option (Mem × Int32) :=
    q_lt (v3 + (1 : Int32)) fun z1 =>
    k2 M v1 v2 z1
set_option maxHeartbeats 4000000 in
set_option maxRecDepth 100000 in
theorem wX5_isLost_76 {p : Program} {l : Launch} {e : Env} {s : State} {m : MethodId} {args : Array Value} {below : List Frame} {meth : Method} {c : Code} {D : va_G} {cy : Nat → ClassId} {ad : Nat → Nat} {x : XX} {F : Nat} {r : Mem × Int32} (hst : l.stackTraces = false) (C0 : MX p l s m args meth c D cy ad cX5_isLost RX5 5 wsX5_isLost (some .boolean)) {k2 : Mem → Int32 → Int32 → Int32 → Option (Mem × Int32)} (hk2 : ∀ (M : Mem) (v1 : Int32) (v2 : Int32) (v3 : Int32) (H : Heap) (locs : List Loc) (ls : Array Slot), Wd D cy ad x s M H locs → lv_has ls 5 [(0, .ref (ad 0)), (1, .int v1), (2, .int v2), (3, .int v3)] → k2 M v1 v2 v3 = some r → W p l e rmX5_isLost s m args below meth c H locs 0 0 (QN D cy ad below args s x q_vi r 0 0) (F0 m 2 ls [])) : ∀ (M : Mem) (v1 : Int32) (v2 : Int32) (v3 : Int32) (H : Heap) (locs : List Loc) (ls : Array Slot), Wd D cy ad x s M H locs → lv_has ls 5 [(0, .ref (ad 0)), (1, .int v1), (2, .int v2), (3, .int v3)] → fX5_isLost_76 F k2 M v1 v2 v3 = some r → W p l e rmX5_isLost s m args below meth c H locs 0 0 (QN D cy ad below args s x q_vi r 0 0) (F0 m 76 ls []) := by
  obtain ⟨hx, hb, hml, hown, hts, -⟩ := id C0
  intro M v1 v2 v3 H locs ls hw hl h
  unfold fX5_isLost_76 at h
  refine q_iinc (k := 3) (cst := 1) (lv' := fun z1 => [(3, .int z1), (0, .ref (ad 0)), (1, .int v1), (2, .int v2)]) hx hb dX5_isLost_76 hl rfl rfl (by decide) (fun _ => rfl) h (fun z1 ls hl h => ?_)
  refine lv_goto (tgt := 2) hx hb dX5_isLost_79 (by decide) ?_
  exact hk2 M v1 v2 z1 _ _ _ hw (lv_sub hl [1, 2, 3, 0] rfl) h
def fX5_isLost_47 (F : Nat) (k2 : Mem → Int32 → Int32 → Int32 → Option (Mem × Int32)) (M : Mem) (v1 : Int32) (v2 : Int32) (v3 : Int32) (v4 : Nat) : Option (Mem × Int32) :=
    q_bn (fX1_takesFrom F M v4 (2 : Int32)) fun M1 z2 =>
    if z2 = (0 : Int32) then
    (fX5_isLost_76 F k2 M1 v1 v2 v3)
    else
    (q_ax (M1 56 v4 0) 60 fun j3 =>
    q_bn (fX4_isOf F M1 j3 v1 v2) fun M4 z5 =>
    if z5 = (0 : Int32) then
    (fX5_isLost_76 F k2 M4 v1 v2 v3)
    else
    (some (M4, (1 : Int32))))
set_option maxHeartbeats 4000000 in
set_option maxRecDepth 100000 in
theorem wX5_isLost_47 {p : Program} {l : Launch} {e : Env} {s : State} {m : MethodId} {args : Array Value} {below : List Frame} {meth : Method} {c : Code} {D : va_G} {cy : Nat → ClassId} {ad : Nat → Nat} {x : XX} {F : Nat} {r : Mem × Int32} (hst : l.stackTraces = false) (C0 : MX p l s m args meth c D cy ad cX5_isLost RX5 5 wsX5_isLost (some .boolean)) {k2 : Mem → Int32 → Int32 → Int32 → Option (Mem × Int32)} (hk2 : ∀ (M : Mem) (v1 : Int32) (v2 : Int32) (v3 : Int32) (H : Heap) (locs : List Loc) (ls : Array Slot), Wd D cy ad x s M H locs → lv_has ls 5 [(0, .ref (ad 0)), (1, .int v1), (2, .int v2), (3, .int v3)] → k2 M v1 v2 v3 = some r → W p l e rmX5_isLost s m args below meth c H locs 0 0 (QN D cy ad below args s x q_vi r 0 0) (F0 m 2 ls [])) : ∀ (M : Mem) (v1 : Int32) (v2 : Int32) (v3 : Int32) (v4 : Nat) (hv4 : v4 < 40) (H : Heap) (locs : List Loc) (ls : Array Slot), Wd D cy ad x s M H locs → lv_has ls 5 [(0, .ref (ad 0)), (1, .int v1), (2, .int v2), (3, .int v3), (4, .ref (ad (cHit v4)))] → fX5_isLost_47 F k2 M v1 v2 v3 v4 = some r → W p l e rmX5_isLost s m args below meth c H locs 0 0 (QN D cy ad below args s x q_vi r 0 0) (F0 m 47 ls []) := by
  obtain ⟨hx, hb, hml, hown, hts, -⟩ := id C0
  intro M v1 v2 v3 v4 hv4 H locs ls hw hl h
  unfold fX5_isLost_47 at h
  refine lv_aload hx hb dX5_isLost_47 (lv_at hl 4 rfl) ?_
  refine lv_iconst (v := 2) hx hb dX5_isLost_49 (by decide) ?_
  refine q_callVNi (As := [.int ((2 : Int32))]) (nA := 1) C0 hw (at_Hit hv4) rfl (fun r1 h1 => ctX1_takesFrom hst hv4 h1) gX5_isLost_X1_takesFrom rfl ⟨rfl, rfl⟩ (by decide +kernel) rfl ⟨(Nat.le_of_ble_eq_true rfl), (Nat.le_of_ble_eq_true rfl)⟩ hl.1 (Nat.le_of_ble_eq_true rfl) ⟨(Nat.le_of_ble_eq_true rfl), (Nat.le_of_ble_eq_true rfl)⟩ rfl h dX5_isLost_50 (fun M1 z2 H locs hw h => ?_)
  refine q_if_eq (tgt := 76) hx hb dX5_isLost_53 (by decide) h (fun h => ?_) (fun h => ?_)
  · exact wX5_isLost_76 hst C0 hk2 M1 v1 v2 v3 _ _ _ hw (lv_sub hl [0, 1, 2, 3] rfl) h
  · refine lv_aload_n hx hb dX5_isLost_56 rfl (lv_at hl 0 rfl) ?_
    refine gf_HW_versions C0 hw (fun _ h9 => List.mem_cons_of_mem _ (List.mem_append_left _ (List.mem_append_left _ (List.mem_append_right _ h9)))) (List.mem_of_getElem? (i := 3) rfl) dX5_isLost_57 ?_
    refine lv_aload hx hb dX5_isLost_60 (lv_at hl 4 rfl) ?_
    refine gf_Hit_other C0 hw hv4 (fun _ h9 => List.mem_cons_of_mem _ (List.mem_append_left _ (List.mem_append_right _ h9))) (List.mem_of_getElem? (i := 5) rfl) dX5_isLost_62 ?_
    refine q_aald (t := 6) C0 hw at_vers rfl h dX5_isLost_65 (fun j3 hj3 h => ?_)
    refine lv_iload_n hx hb dX5_isLost_66 rfl (lv_at hl 1 rfl) ?_
    refine lv_iload_n hx hb dX5_isLost_67 rfl (lv_at hl 2 rfl) ?_
    refine q_callVNi (As := [.int v1, .int v2]) (nA := 2) C0 hw (at_Ver hj3) rfl (fun r1 h1 => ctX4_isOf hst hj3 h1) gX5_isLost_X4_isOf rfl ⟨rfl, rfl⟩ (by decide +kernel) rfl ⟨(Nat.le_of_ble_eq_true rfl), (Nat.le_of_ble_eq_true rfl)⟩ hl.1 (Nat.le_of_ble_eq_true rfl) ⟨(Nat.le_of_ble_eq_true rfl), (Nat.le_of_ble_eq_true rfl)⟩ rfl h dX5_isLost_68 (fun M4 z5 H locs hw h => ?_)
    refine q_if_eq (tgt := 76) hx hb dX5_isLost_71 (by decide) h (fun h => ?_) (fun h => ?_)
    · exact wX5_isLost_76 hst C0 hk2 M4 v1 v2 v3 _ _ _ hw (lv_sub hl [0, 1, 2, 3] rfl) h
    · refine lv_iconst (v := 1) hx hb dX5_isLost_74 (by decide) ?_
      exact q_zretN C0 hw rfl h ⟨(Nat.le_of_ble_eq_true rfl), (Nat.le_of_ble_eq_true rfl)⟩ dX5_isLost_75
def fX5_isLost_2 (F : Nat) : Nat → Mem → Int32 → Int32 → Int32 → Option (Mem × Int32)
  | 0, _, _, _, _ => none
  | n + 1, M, v1, v2, v3 =>
    if (M 6 0 0) ≤ v3 then
    (some (M, (0 : Int32)))
    else
    (q_ax v3 40 fun j1 =>
    q_bn (fX1_takesFrom F M j1 (1 : Int32)) fun M2 z3 =>
    if z3 = (0 : Int32) then
    (fX5_isLost_47 F (fX5_isLost_2 F n) M2 v1 v2 v3 j1)
    else
    (q_ax (M2 55 j1 0) 60 fun j4 =>
    q_bn (fX4_isOf F M2 j4 v1 v2) fun M5 z6 =>
    if z6 = (0 : Int32) then
    (fX5_isLost_47 F (fX5_isLost_2 F n) M5 v1 v2 v3 j1)
    else
    (some (M5, (1 : Int32)))))
set_option maxHeartbeats 4000000 in
set_option maxRecDepth 100000 in
theorem wX5_isLost_2 {p : Program} {l : Launch} {e : Env} {s : State} {m : MethodId} {args : Array Value} {below : List Frame} {meth : Method} {c : Code} {D : va_G} {cy : Nat → ClassId} {ad : Nat → Nat} {x : XX} {F : Nat} {r : Mem × Int32} (hst : l.stackTraces = false) (C0 : MX p l s m args meth c D cy ad cX5_isLost RX5 5 wsX5_isLost (some .boolean)) : ∀ (n : Nat) (M : Mem) (v1 : Int32) (v2 : Int32) (v3 : Int32) (H : Heap) (locs : List Loc) (ls : Array Slot), Wd D cy ad x s M H locs → lv_has ls 5 [(0, .ref (ad 0)), (1, .int v1), (2, .int v2), (3, .int v3)] → fX5_isLost_2 F n M v1 v2 v3 = some r → W p l e rmX5_isLost s m args below meth c H locs 0 0 (QN D cy ad below args s x q_vi r 0 0) (F0 m 2 ls []) := by
  obtain ⟨hx, hb, hml, hown, hts, -⟩ := id C0
  intro n
  induction n with
  | zero =>
    intro M v1 v2 v3 H locs ls hw hl h
    exact q_no h
  | succ n ih =>
    intro M v1 v2 v3 H locs ls hw hl h
    unfold fX5_isLost_2 at h
    refine lv_iload_n hx hb dX5_isLost_2 rfl (lv_at hl 3 rfl) ?_
    refine lv_aload_n hx hb dX5_isLost_3 rfl (lv_at hl 0 rfl) ?_
    refine gf_HW_hitCount C0 hw (fun _ h9 => List.mem_cons_of_mem _ (List.mem_append_left _ (List.mem_append_left _ (List.mem_append_right _ h9)))) (List.mem_of_getElem? (i := 1) rfl) dX5_isLost_4 ?_
    refine q_icmp_ge (tgt := 82) hx hb dX5_isLost_7 (by decide) h (fun h => ?_) (fun h => ?_)
    · refine lv_iconst (v := 0) hx hb dX5_isLost_82 (by decide) ?_
      exact q_zretN C0 hw rfl h ⟨(Nat.le_of_ble_eq_true rfl), (Nat.le_of_ble_eq_true rfl)⟩ dX5_isLost_83
    · refine lv_aload_n hx hb dX5_isLost_10 rfl (lv_at hl 0 rfl) ?_
      refine gf_HW_hitRow C0 hw (fun _ h9 => List.mem_cons_of_mem _ (List.mem_append_left _ (List.mem_append_left _ (List.mem_append_right _ h9)))) (List.mem_of_getElem? (i := 2) rfl) dX5_isLost_11 ?_
      refine lv_iload_n hx hb dX5_isLost_14 rfl (lv_at hl 3 rfl) ?_
      refine q_aald (t := 7) C0 hw at_hits rfl h dX5_isLost_15 (fun j1 hj1 h => ?_)
      refine lv_astore (lv' := [(4, .ref (ad (cHit j1))), (0, .ref (ad 0)), (1, .int v1), (2, .int v2), (3, .int v3)]) hx hb dX5_isLost_16 hl (by decide) rfl (fun ls hl => ?_)
      refine lv_aload hx hb dX5_isLost_18 (lv_at hl 0 rfl) ?_
      refine lv_iconst (v := 1) hx hb dX5_isLost_20 (by decide) ?_
      refine q_callVNi (As := [.int ((1 : Int32))]) (nA := 1) C0 hw (at_Hit hj1) rfl (fun r1 h1 => ctX1_takesFrom hst hj1 h1) gX5_isLost_X1_takesFrom rfl ⟨rfl, rfl⟩ (by decide +kernel) rfl ⟨(Nat.le_of_ble_eq_true rfl), (Nat.le_of_ble_eq_true rfl)⟩ hl.1 (Nat.le_of_ble_eq_true rfl) ⟨(Nat.le_of_ble_eq_true rfl), (Nat.le_of_ble_eq_true rfl)⟩ rfl h dX5_isLost_21 (fun M2 z3 H locs hw h => ?_)
      refine q_if_eq (tgt := 47) hx hb dX5_isLost_24 (by decide) h (fun h => ?_) (fun h => ?_)
      · exact wX5_isLost_47 hst C0 ih M2 v1 v2 v3 j1 hj1 _ _ _ hw (lv_sub hl [1, 2, 3, 4, 0] rfl) h
      · refine lv_aload_n hx hb dX5_isLost_27 rfl (lv_at hl 1 rfl) ?_
        refine gf_HW_versions C0 hw (fun _ h9 => List.mem_cons_of_mem _ (List.mem_append_left _ (List.mem_append_left _ (List.mem_append_right _ h9)))) (List.mem_of_getElem? (i := 3) rfl) dX5_isLost_28 ?_
        refine lv_aload hx hb dX5_isLost_31 (lv_at hl 0 rfl) ?_
        refine gf_Hit_newer C0 hw hj1 (fun _ h9 => List.mem_cons_of_mem _ (List.mem_append_left _ (List.mem_append_right _ h9))) (List.mem_of_getElem? (i := 4) rfl) dX5_isLost_33 ?_
        refine q_aald (t := 6) C0 hw at_vers rfl h dX5_isLost_36 (fun j4 hj4 h => ?_)
        refine lv_iload_n hx hb dX5_isLost_37 rfl (lv_at hl 2 rfl) ?_
        refine lv_iload_n hx hb dX5_isLost_38 rfl (lv_at hl 3 rfl) ?_
        refine q_callVNi (As := [.int v1, .int v2]) (nA := 2) C0 hw (at_Ver hj4) rfl (fun r1 h1 => ctX4_isOf hst hj4 h1) gX5_isLost_X4_isOf rfl ⟨rfl, rfl⟩ (by decide +kernel) rfl ⟨(Nat.le_of_ble_eq_true rfl), (Nat.le_of_ble_eq_true rfl)⟩ hl.1 (Nat.le_of_ble_eq_true rfl) ⟨(Nat.le_of_ble_eq_true rfl), (Nat.le_of_ble_eq_true rfl)⟩ rfl h dX5_isLost_39 (fun M5 z6 H locs hw h => ?_)
        refine q_if_eq (tgt := 47) hx hb dX5_isLost_42 (by decide) h (fun h => ?_) (fun h => ?_)
        · exact wX5_isLost_47 hst C0 ih M5 v1 v2 v3 j1 hj1 _ _ _ hw (lv_sub hl [1, 2, 3, 4, 0] rfl) h
        · refine lv_iconst (v := 1) hx hb dX5_isLost_45 (by decide) ?_
          exact q_zretN C0 hw rfl h ⟨(Nat.le_of_ble_eq_true rfl), (Nat.le_of_ble_eq_true rfl)⟩ dX5_isLost_46
def fX5_isLost (F : Nat) (M : Mem) (a0 : Int32) (a1 : Int32) : Option (Mem × Int32) :=
    q_lt ((0 : Int32)) fun z1 =>
    fX5_isLost_2 F F M a0 a1 z1
set_option maxHeartbeats 4000000 in
set_option maxRecDepth 100000 in
theorem ctX5_isLost {l : Launch} (hst : l.stackTraces = false) {D : va_G} {cy : Nat → ClassId} {ad : Nat → Nat} {x : XX} {F : Nat} {M : Mem} {a0 : Int32} {a1 : Int32} {r : Mem × Int32} (h : fX5_isLost F M a0 a1 = some r) : CN l yX5_isLost wsX5_isLost rmX5_isLost D cy ad [.ref (ad 0), .int a0, .int a1] x M x r.1 (q_vi r.2) 0 0 := by
  refine q_startN (cc := cX5_isLost) (maxL := 5) (ret := (some .boolean)) (by decide) rfl (Nat.le_of_ble_eq_true rfl) ?_
  intro p e s m args below meth c ls C0 hw hl hnm
  obtain ⟨hx, hb, hml, hown, hts, -⟩ := id C0
  have C0 : MX p l s m args meth c D cy ad cX5_isLost RX5 5 wsX5_isLost ((some .boolean)) := C0
  have hown : s.vm.findClass RX5 = some m.cls := hown
  have hl : lv_has ls 5 [(0, .ref (ad 0)), (1, .int a0), (2, .int a1)] := hl
  show W p l e rmX5_isLost s m args below meth c s.heap [] 0 0 (QN D cy ad below args s x q_vi r 0 0) (F0 m 0 ls [])
  unfold fX5_isLost at h
  refine lv_iconst (v := 0) hx hb dX5_isLost_0 (by decide) ?_
  refine q_istore_n (lv' := fun z1 => [(3, .int z1), (0, .ref (ad 0)), (1, .int a0), (2, .int a1)]) hx hb dX5_isLost_1 rfl hl (by decide) (fun _ => rfl) h (fun z1 ls hl h => ?_)
  exact wX5_isLost_2 hst C0  F M a0 a1 z1 _ _ _ hw (lv_sub hl [1, 2, 3, 0] rfl) h
/-! Homewatcher.makeMark(II)I -/
abbrev rmX5_makeMark : Room := { frames := 3, cells := 0, slots := 0, locals := 70 }
def fX5_makeMark_21 (F : Nat) (M : Mem) : Option (Mem × Int32) :=
    some (M, (0 : Int32))
set_option maxHeartbeats 4000000 in
set_option maxRecDepth 100000 in
theorem wX5_makeMark_21 {p : Program} {l : Launch} {e : Env} {s : State} {m : MethodId} {args : Array Value} {below : List Frame} {meth : Method} {c : Code} {D : va_G} {cy : Nat → ClassId} {ad : Nat → Nat} {x : XX} {F : Nat} {r : Mem × Int32} (hst : l.stackTraces = false) (C0 : MX p l s m args meth c D cy ad cX5_makeMark RX5 6 wsX5_makeMark (some .int)) : ∀ (M : Mem) (H : Heap) (locs : List Loc) (ls : Array Slot), Wd D cy ad x s M H locs → lv_has ls 6 [] → fX5_makeMark_21 F M = some r → W p l e rmX5_makeMark s m args below meth c H locs 0 0 (QN D cy ad below args s x q_vi r 0 0) (F0 m 21 ls []) := by
  obtain ⟨hx, hb, hml, hown, hts, -⟩ := id C0
  intro M H locs ls hw hl h
  unfold fX5_makeMark_21 at h
  refine lv_iconst (v := 0) hx hb dX5_makeMark_21 (by decide) ?_
  exact q_iretN C0 hw h ⟨(Nat.le_of_ble_eq_true rfl), (Nat.le_of_ble_eq_true rfl)⟩ dX5_makeMark_22
def fX5_makeMark (F : Nat) (M : Mem) (a0 : Int32) (a1 : Int32) : Option (Mem × Int32) :=
    q_bn (fX5_findCounting F M a0 a1) fun M1 z2 =>
    q_lt (z2) fun z3 =>
    if z3 = (-1 : Int32) then
    (fX5_makeMark_21 F M1)
    else
    (q_bn (fX5_isLost F M1 a0 a1) fun M4 z5 =>
    if z5 = (0 : Int32) then
    (q_ax z3 60 fun j6 =>
    q_ax a1 10 fun j7 =>
    q_lt (((M4 52 j7 0) * (M4 17 j6 0)) / (100 : Int32)) fun z8 =>
    q_ax a1 10 fun j9 =>
    q_bn (fX5_leastLate F M4 j6) fun M10 z11 =>
    q_bn (fX2_pointsOff F M10 j9 z11) fun M12 z13 =>
    some (M12, if (0 : Int32) < (z8 - z13) then z8 - z13 else (0 : Int32)))
    else
    (fX5_makeMark_21 F M4))
set_option maxHeartbeats 4000000 in
set_option maxRecDepth 100000 in
theorem ctX5_makeMark {l : Launch} (hst : l.stackTraces = false) {D : va_G} {cy : Nat → ClassId} {ad : Nat → Nat} {x : XX} {F : Nat} {M : Mem} {a0 : Int32} {a1 : Int32} {r : Mem × Int32} (h : fX5_makeMark F M a0 a1 = some r) : CN l yX5_makeMark wsX5_makeMark rmX5_makeMark D cy ad [.ref (ad 0), .int a0, .int a1] x M x r.1 (q_vi r.2) 0 0 := by
  refine q_startN (cc := cX5_makeMark) (maxL := 6) (ret := (some .int)) (by decide) rfl (Nat.le_of_ble_eq_true rfl) ?_
  intro p e s m args below meth c ls C0 hw hl hnm
  obtain ⟨hx, hb, hml, hown, hts, -⟩ := id C0
  have C0 : MX p l s m args meth c D cy ad cX5_makeMark RX5 6 wsX5_makeMark ((some .int)) := C0
  have hown : s.vm.findClass RX5 = some m.cls := hown
  have hl : lv_has ls 6 [(0, .ref (ad 0)), (1, .int a0), (2, .int a1)] := hl
  show W p l e rmX5_makeMark s m args below meth c s.heap [] 0 0 (QN D cy ad below args s x q_vi r 0 0) (F0 m 0 ls [])
  unfold fX5_makeMark at h
  refine lv_aload_n hx hb dX5_makeMark_0 rfl (lv_at hl 0 rfl) ?_
  refine lv_iload_n hx hb dX5_makeMark_1 rfl (lv_at hl 1 rfl) ?_
  refine lv_iload_n hx hb dX5_makeMark_2 rfl (lv_at hl 2 rfl) ?_
  refine q_callVNi (As := [.int a0, .int a1]) (nA := 2) C0 hw at_HW rfl (fun r1 h1 => ctX5_findCounting hst h1) gX5_makeMark_X5_findCounting rfl ⟨rfl, rfl⟩ (by decide +kernel) rfl ⟨(Nat.le_of_ble_eq_true rfl), (Nat.le_of_ble_eq_true rfl)⟩ hl.1 (Nat.le_of_ble_eq_true rfl) ⟨(Nat.le_of_ble_eq_true rfl), (Nat.le_of_ble_eq_true rfl)⟩ rfl h dX5_makeMark_3 (fun M1 z2 H locs hw h => ?_)
  refine q_istore_n (lv' := fun z3 => [(3, .int z3), (0, .ref (ad 0)), (1, .int a0), (2, .int a1)]) hx hb dX5_makeMark_6 rfl hl (by decide) (fun _ => rfl) h (fun z3 ls hl h => ?_)
  refine lv_iload_n hx hb dX5_makeMark_7 rfl (lv_at hl 0 rfl) ?_
  refine lv_iconst (v := -1) hx hb dX5_makeMark_8 (by decide) ?_
  refine q_icmp_eq (tgt := 21) hx hb dX5_makeMark_9 (by decide) h (fun h => ?_) (fun h => ?_)
  · exact wX5_makeMark_21 hst C0  M1 _ _ _ hw (lv_sub hl [] rfl) h
  · refine lv_aload_n hx hb dX5_makeMark_12 rfl (lv_at hl 1 rfl) ?_
    refine lv_iload_n hx hb dX5_makeMark_13 rfl (lv_at hl 2 rfl) ?_
    refine lv_iload_n hx hb dX5_makeMark_14 rfl (lv_at hl 3 rfl) ?_
    refine q_callVNi (As := [.int a0, .int a1]) (nA := 2) C0 hw at_HW rfl (fun r1 h1 => ctX5_isLost hst h1) gX5_makeMark_X5_isLost rfl ⟨rfl, rfl⟩ (by decide +kernel) rfl ⟨(Nat.le_of_ble_eq_true rfl), (Nat.le_of_ble_eq_true rfl)⟩ hl.1 (Nat.le_of_ble_eq_true rfl) ⟨(Nat.le_of_ble_eq_true rfl), (Nat.le_of_ble_eq_true rfl)⟩ rfl h dX5_makeMark_15 (fun M4 z5 H locs hw h => ?_)
    refine q_if_eq (tgt := 23) hx hb dX5_makeMark_18 (by decide) h (fun h => ?_) (fun h => ?_)
    · refine lv_aload_n hx hb dX5_makeMark_23 rfl (lv_at hl 1 rfl) ?_
      refine gf_HW_versions C0 hw (fun _ h9 => List.mem_cons_of_mem _ (List.mem_append_left _ (List.mem_append_left _ (List.mem_append_left _ (List.mem_append_left _ (List.mem_append_left _ (List.mem_append_right _ h9))))))) (List.mem_of_getElem? (i := 1) rfl) dX5_makeMark_24 ?_
      refine lv_iload_n hx hb dX5_makeMark_27 rfl (lv_at hl 0 rfl) ?_
      refine q_aald (t := 6) C0 hw at_vers rfl h dX5_makeMark_28 (fun j6 hj6 h => ?_)
      refine lv_astore (lv' := [(4, .ref (ad (cVer j6))), (3, .int z3), (0, .ref (ad 0)), (1, .int a0), (2, .int a1)]) hx hb dX5_makeMark_29 hl (by decide) rfl (fun ls hl => ?_)
      refine lv_aload_n hx hb dX5_makeMark_31 rfl (lv_at hl 2 rfl) ?_
      refine gf_HW_tasks C0 hw (fun _ h9 => List.mem_cons_of_mem _ (List.mem_append_left _ (List.mem_append_left _ (List.mem_append_left _ (List.mem_append_left _ (List.mem_append_left _ (List.mem_append_right _ h9))))))) (List.mem_of_getElem? (i := 2) rfl) dX5_makeMark_32 ?_
      refine lv_iload_n hx hb dX5_makeMark_35 rfl (lv_at hl 4 rfl) ?_
      refine q_aald (t := 5) C0 hw at_tasks rfl h dX5_makeMark_36 (fun j7 hj7 h => ?_)
      refine gf_Task_full C0 hw hj7 (fun _ h9 => List.mem_cons_of_mem _ (List.mem_append_left _ (List.mem_append_left _ (List.mem_append_left _ (List.mem_append_left _ (List.mem_append_right _ h9)))))) (List.mem_of_getElem? (i := 3) rfl) dX5_makeMark_37 ?_
      refine lv_aload hx hb dX5_makeMark_40 (lv_at hl 0 rfl) ?_
      refine gf_Ver_told C0 hw hj6 (fun _ h9 => List.mem_cons_of_mem _ (List.mem_append_left _ (List.mem_append_left _ (List.mem_append_left _ (List.mem_append_right _ h9))))) (List.mem_of_getElem? (i := 4) rfl) dX5_makeMark_42 ?_
      refine lv_imul hx hb dX5_makeMark_45 ?_
      refine lv_bipush (v := 100) hx hb dX5_makeMark_46 (by decide) ?_
      refine lv_idiv hx hb dX5_makeMark_48 (by decide) ?_
      refine q_istore (lv' := fun z8 => [(5, .int z8), (4, .ref (ad (cVer j6))), (3, .int z3), (0, .ref (ad 0)), (1, .int a0), (2, .int a1)]) hx hb dX5_makeMark_49 hl (by decide) (fun _ => rfl) h (fun z8 ls hl h => ?_)
      refine lv_iconst (v := 0) hx hb dX5_makeMark_51 (by decide) ?_
      refine lv_iload hx hb dX5_makeMark_52 (lv_at hl 0 rfl) ?_
      refine lv_aload_n hx hb dX5_makeMark_54 rfl (lv_at hl 3 rfl) ?_
      refine gf_HW_tasks C0 hw (fun _ h9 => List.mem_cons_of_mem _ (List.mem_append_left _ (List.mem_append_left _ (List.mem_append_left _ (List.mem_append_left _ (List.mem_append_left _ (List.mem_append_right _ h9))))))) (List.mem_of_getElem? (i := 2) rfl) dX5_makeMark_55 ?_
      refine lv_iload_n hx hb dX5_makeMark_58 rfl (lv_at hl 5 rfl) ?_
      refine q_aald (t := 5) C0 hw at_tasks rfl h dX5_makeMark_59 (fun j9 hj9 h => ?_)
      refine lv_aload_n hx hb dX5_makeMark_60 rfl (lv_at hl 3 rfl) ?_
      refine lv_aload hx hb dX5_makeMark_61 (lv_at hl 1 rfl) ?_
      refine q_callVNi (As := [.ref (ad (cVer j6))]) (nA := 1) C0 hw at_HW rfl (fun r1 h1 => ctX5_leastLate hst hj6 h1) gX5_makeMark_X5_leastLate rfl ⟨rfl, rfl⟩ (by decide +kernel) rfl ⟨(Nat.le_of_ble_eq_true rfl), (Nat.le_of_ble_eq_true rfl)⟩ hl.1 (Nat.le_of_ble_eq_true rfl) ⟨(Nat.le_of_ble_eq_true rfl), (Nat.le_of_ble_eq_true rfl)⟩ rfl h dX5_makeMark_63 (fun M10 z11 H locs hw h => ?_)
      refine q_callVNi (As := [.int z11]) (nA := 1) C0 hw (at_Task hj9) rfl (fun r1 h1 => ctX2_pointsOff hst hj9 h1) gX5_makeMark_X2_pointsOff rfl ⟨rfl, rfl⟩ (by decide +kernel) rfl ⟨(Nat.le_of_ble_eq_true rfl), (Nat.le_of_ble_eq_true rfl)⟩ hl.1 (Nat.le_of_ble_eq_true rfl) ⟨(Nat.le_of_ble_eq_true rfl), (Nat.le_of_ble_eq_true rfl)⟩ rfl h dX5_makeMark_66 (fun M12 z13 H locs hw h => ?_)
      refine lv_isub hx hb dX5_makeMark_69 ?_
      refine q_max C0 hl.1 (List.forall_mem_cons.mpr ⟨(List.mem_of_getElem? (i := 5) rfl), (List.forall_mem_cons.mpr ⟨(List.mem_of_getElem? (i := 6) rfl), (List.forall_mem_cons.mpr ⟨(List.mem_of_getElem? (i := 7) rfl), (List.forall_mem_cons.mpr ⟨(List.mem_of_getElem? (i := 8) rfl), (fun _ h9 => absurd h9 List.not_mem_nil)⟩)⟩)⟩)⟩) (Nat.le_of_ble_eq_true rfl) (Nat.le_of_ble_eq_true rfl) ⟨(Nat.le_of_ble_eq_true rfl), (Nat.le_of_ble_eq_true rfl)⟩ dX5_makeMark_70 ?_
      exact q_iretN C0 hw h ⟨(Nat.le_of_ble_eq_true rfl), (Nat.le_of_ble_eq_true rfl)⟩ dX5_makeMark_73
    · exact wX5_makeMark_21 hst C0  M4 _ _ _ hw (lv_sub hl [] rfl) h
