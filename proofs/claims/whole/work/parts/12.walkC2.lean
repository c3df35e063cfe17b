/-! HomewatcherModel.forks(I)I -/
abbrev rmX6_forks : Room := { frames := 2, cells := 0, slots := 0, locals := 43 }
def fX6_forks_94 (F : Nat) (k18 : Mem → Int32 → Int32 → Int32 → Option (Mem × Int32)) (M : Mem) (s0 : Int32) (s1 : Int32) (v1 : Int32) (v3 : Int32) : Option (Mem × Int32) :=
    q_lt (s1 + s0) fun z1 =>
    q_lt (v3 + (1 : Int32)) fun z2 =>
    k18 M v1 z1 z2
set_option maxHeartbeats 4000000 in
set_option maxRecDepth 100000 in
theorem wX6_forks_94 {p : Program} {l : Launch} {e : Env} {s : State} {m : MethodId} {args : Array Value} {below : List Frame} {meth : Method} {c : Code} {D : va_G} {cy : Nat → ClassId} {ad : Nat → Nat} {x : XX} {F : Nat} {r : Mem × Int32} (hst : l.stackTraces = false) (C0 : MX p l s m args meth c D cy ad cX6_forks RX6 5 wsX6_forks (some .int)) {k18 : Mem → Int32 → Int32 → Int32 → Option (Mem × Int32)} (hk18 : ∀ (M : Mem) (v1 : Int32) (v2 : Int32) (v3 : Int32) (H : Heap) (locs : List Loc) (ls : Array Slot), Wd D cy ad x s M H locs → lv_has ls 5 [(0, .ref (ad 427)), (1, .int v1), (2, .int v2), (3, .int v3)] → k18 M v1 v2 v3 = some r → W p l e rmX6_forks s m args below meth c H locs 0 0 (QN D cy ad below args s x q_vi r 0 0) (F0 m 18 ls [])) : ∀ (M : Mem) (s0 : Int32) (s1 : Int32) (v1 : Int32) (v3 : Int32) (H : Heap) (locs : List Loc) (ls : Array Slot), Wd D cy ad x s M H locs → lv_has ls 5 [(0, .ref (ad 427)), (1, .int v1), (3, .int v3)] → fX6_forks_94 F k18 M s0 s1 v1 v3 = some r → W p l e rmX6_forks s m args below meth c H locs 0 0 (QN D cy ad below args s x q_vi r 0 0) (F0 m 94 ls [.int s0, .int s1]) := by
  obtain ⟨hx, hb, hml, hown, hts, -⟩ := id C0
  intro M s0 s1 v1 v3 H locs ls hw hl h
  unfold fX6_forks_94 at h
  refine lv_iadd hx hb dX6_forks_94 ?_
  refine q_istore_n (lv' := fun z1 => [(2, .int z1), (0, .ref (ad 427)), (1, .int v1), (3, .int v3)]) hx hb dX6_forks_95 rfl hl (by decide) (fun _ => rfl) h (fun z1 ls hl h => ?_)
  refine q_iinc (k := 3) (cst := 1) (lv' := fun z2 => [(3, .int z2), (2, .int z1), (0, .ref (ad 427)), (1, .int v1)]) hx hb dX6_forks_96 hl rfl rfl (by decide) (fun _ => rfl) h (fun z2 ls hl h => ?_)
  refine lv_goto (tgt := 18) hx hb dX6_forks_99 (by decide) ?_
  exact hk18 M v1 z1 z2 _ _ _ hw (lv_sub hl [2, 3, 1, 0] rfl) h
def fX6_forks_93 (F : Nat) (k18 : Mem → Int32 → Int32 → Int32 → Option (Mem × Int32)) (M : Mem) (s0 : Int32) (v1 : Int32) (v3 : Int32) : Option (Mem × Int32) :=
    fX6_forks_94 F k18 M (0 : Int32) s0 v1 v3
set_option maxHeartbeats 4000000 in
set_option maxRecDepth 100000 in
theorem wX6_forks_93 {p : Program} {l : Launch} {e : Env} {s : State} {m : MethodId} {args : Array Value} {below : List Frame} {meth : Method} {c : Code} {D : va_G} {cy : Nat → ClassId} {ad : Nat → Nat} {x : XX} {F : Nat} {r : Mem × Int32} (hst : l.stackTraces = false) (C0 : MX p l s m args meth c D cy ad cX6_forks RX6 5 wsX6_forks (some .int)) {k18 : Mem → Int32 → Int32 → Int32 → Option (Mem × Int32)} (hk18 : ∀ (M : Mem) (v1 : Int32) (v2 : Int32) (v3 : Int32) (H : Heap) (locs : List Loc) (ls : Array Slot), Wd D cy ad x s M H locs → lv_has ls 5 [(0, .ref (ad 427)), (1, .int v1), (2, .int v2), (3, .int v3)] → k18 M v1 v2 v3 = some r → W p l e rmX6_forks s m args below meth c H locs 0 0 (QN D cy ad below args s x q_vi r 0 0) (F0 m 18 ls [])) : ∀ (M : Mem) (s0 : Int32) (v1 : Int32) (v3 : Int32) (H : Heap) (locs : List Loc) (ls : Array Slot), Wd D cy ad x s M H locs → lv_has ls 5 [(0, .ref (ad 427)), (1, .int v1), (3, .int v3)] → fX6_forks_93 F k18 M s0 v1 v3 = some r → W p l e rmX6_forks s m args below meth c H locs 0 0 (QN D cy ad below args s x q_vi r 0 0) (F0 m 93 ls [.int s0]) := by
  obtain ⟨hx, hb, hml, hown, hts, -⟩ := id C0
  intro M s0 v1 v3 H locs ls hw hl h
  unfold fX6_forks_93 at h
  refine lv_iconst (v := 0) hx hb dX6_forks_93 (by decide) ?_
  exact wX6_forks_94 hst C0 hk18 M (0 : Int32) s0 v1 v3 _ _ _ hw (lv_sub hl [0, 1, 2] rfl) h
def fX6_forks_76 (F : Nat) (k18 : Mem → Int32 → Int32 → Int32 → Option (Mem × Int32)) (M : Mem) (s0 : Int32) (v1 : Int32) (v2 : Int32) (v3 : Int32) : Option (Mem × Int32) :=
    q_lt (s0) fun z1 =>
    if z1 = (0 : Int32) then
    (fX6_forks_93 F k18 M v2 v1 v3)
    else
    (if v3 = v1 then
    (fX6_forks_93 F k18 M v2 v1 v3)
    else
    (fX6_forks_94 F k18 M (1 : Int32) v2 v1 v3))
set_option maxHeartbeats 4000000 in
set_option maxRecDepth 100000 in
theorem wX6_forks_76 {p : Program} {l : Launch} {e : Env} {s : State} {m : MethodId} {args : Array Value} {below : List Frame} {meth : Method} {c : Code} {D : va_G} {cy : Nat → ClassId} {ad : Nat → Nat} {x : XX} {F : Nat} {r : Mem × Int32} (hst : l.stackTraces = false) (C0 : MX p l s m args meth c D cy ad cX6_forks RX6 5 wsX6_forks (some .int)) {k18 : Mem → Int32 → Int32 → Int32 → Option (Mem × Int32)} (hk18 : ∀ (M : Mem) (v1 : Int32) (v2 : Int32) (v3 : Int32) (H : Heap) (locs : List Loc) (ls : Array Slot), Wd D cy ad x s M H locs → lv_has ls 5 [(0, .ref (ad 427)), (1, .int v1), (2, .int v2), (3, .int v3)] → k18 M v1 v2 v3 = some r → W p l e rmX6_forks s m args below meth c H locs 0 0 (QN D cy ad below args s x q_vi r 0 0) (F0 m 18 ls [])) : ∀ (M : Mem) (s0 : Int32) (v1 : Int32) (v2 : Int32) (v3 : Int32) (H : Heap) (locs : List Loc) (ls : Array Slot), Wd D cy ad x s M H locs → lv_has ls 5 [(0, .ref (ad 427)), (1, .int v1), (2, .int v2), (3, .int v3)] → fX6_forks_76 F k18 M s0 v1 v2 v3 = some r → W p l e rmX6_forks s m args below meth c H locs 0 0 (QN D cy ad below args s x q_vi r 0 0) (F0 m 76 ls [.int s0]) := by
  obtain ⟨hx, hb, hml, hown, hts, -⟩ := id C0
  intro M s0 v1 v2 v3 H locs ls hw hl h
  unfold fX6_forks_76 at h
  refine q_istore (lv' := fun z1 => [(4, .int z1), (0, .ref (ad 427)), (1, .int v1), (2, .int v2), (3, .int v3)]) hx hb dX6_forks_76 hl (by decide) (fun _ => rfl) h (fun z1 ls hl h => ?_)
  refine lv_iload_n hx hb dX6_forks_78 rfl (lv_at hl 3 rfl) ?_
  refine lv_iload hx hb dX6_forks_79 (lv_at hl 0 rfl) ?_
  refine q_if_eq (tgt := 93) hx hb dX6_forks_81 (by decide) h (fun h => ?_) (fun h => ?_)
  · exact wX6_forks_93 hst C0 hk18 M v2 v1 v3 _ _ _ hw (lv_sub hl [1, 2, 4] rfl) h
  · refine lv_iload_n hx hb dX6_forks_84 rfl (lv_at hl 4 rfl) ?_
    refine lv_iload_n hx hb dX6_forks_85 rfl (lv_at hl 2 rfl) ?_
    refine q_icmp_eq (tgt := 93) hx hb dX6_forks_86 (by decide) h (fun h => ?_) (fun h => ?_)
    · exact wX6_forks_93 hst C0 hk18 M v2 v1 v3 _ _ _ hw (lv_sub hl [1, 2, 4] rfl) h
    · refine lv_iconst (v := 1) hx hb dX6_forks_89 (by decide) ?_
      refine lv_goto (tgt := 94) hx hb dX6_forks_90 (by decide) ?_
      exact wX6_forks_94 hst C0 hk18 M (1 : Int32) v2 v1 v3 _ _ _ hw (lv_sub hl [1, 2, 4] rfl) h
def fX6_forks_75 (F : Nat) (k18 : Mem → Int32 → Int32 → Int32 → Option (Mem × Int32)) (M : Mem) (v1 : Int32) (v2 : Int32) (v3 : Int32) : Option (Mem × Int32) :=
    fX6_forks_76 F k18 M (0 : Int32) v1 v2 v3
set_option maxHeartbeats 4000000 in
set_option maxRecDepth 100000 in
theorem wX6_forks_75 {p : Program} {l : Launch} {e : Env} {s : State} {m : MethodId} {args : Array Value} {below : List Frame} {meth : Method} {c : Code} {D : va_G} {cy : Nat → ClassId} {ad : Nat → Nat} {x : XX} {F : Nat} {r : Mem × Int32} (hst : l.stackTraces = false) (C0 : MX p l s m args meth c D cy ad cX6_forks RX6 5 wsX6_forks (some .int)) {k18 : Mem → Int32 → Int32 → Int32 → Option (Mem × Int32)} (hk18 : ∀ (M : Mem) (v1 : Int32) (v2 : Int32) (v3 : Int32) (H : Heap) (locs : List Loc) (ls : Array Slot), Wd D cy ad x s M H locs → lv_has ls 5 [(0, .ref (ad 427)), (1, .int v1), (2, .int v2), (3, .int v3)] → k18 M v1 v2 v3 = some r → W p l e rmX6_forks s m args below meth c H locs 0 0 (QN D cy ad below args s x q_vi r 0 0) (F0 m 18 ls [])) : ∀ (M : Mem) (v1 : Int32) (v2 : Int32) (v3 : Int32) (H : Heap) (locs : List Loc) (ls : Array Slot), Wd D cy ad x s M H locs → lv_has ls 5 [(0, .ref (ad 427)), (1, .int v1), (2, .int v2), (3, .int v3)] → fX6_forks_75 F k18 M v1 v2 v3 = some r → W p l e rmX6_forks s m args below meth c H locs 0 0 (QN D cy ad below args s x q_vi r 0 0) (F0 m 75 ls []) := by
  obtain ⟨hx, hb, hml, hown, hts, -⟩ := id C0
  intro M v1 v2 v3 H locs ls hw hl h
  unfold fX6_forks_75 at h
  refine lv_iconst (v := 0) hx hb dX6_forks_75 (by decide) ?_
  exact wX6_forks_76 hst C0 hk18 M (0 : Int32) v1 v2 v3 _ _ _ hw (lv_sub hl [0, 1, 2, 3] rfl) h
def fX6_forks_18 (F : Nat) : Nat → Mem → Int32 → Int32 → Int32 → Option (Mem × Int32)
  | 0, _, _, _, _ => none
  | n + 1, M, v1, v2, v3 =>
    if (M 64 0 0) ≤ v3 then
    (q_bn (fX6_tells F M v2) fun M1 z2 =>
    some (M1, z2))
    else
    (q_ax v3 60 fun j1 =>
    q_ax v1 60 fun j2 =>
    if (M 33 0 j1) = (M 33 0 j2) then
    (q_ax v3 60 fun j3 =>
    q_ax v1 60 fun j4 =>
    if (M 34 0 j3) = (M 34 0 j4) then
    (q_ax v3 60 fun j5 =>
    q_ax v1 60 fun j6 =>
    if (M 35 0 j5) = (M 35 0 j6) then
    (fX6_forks_76 F (fX6_forks_18 F n) M (1 : Int32) v1 v2 v3)
    else
    (fX6_forks_75 F (fX6_forks_18 F n) M v1 v2 v3))
    else
    (fX6_forks_75 F (fX6_forks_18 F n) M v1 v2 v3))
    else
    (fX6_forks_75 F (fX6_forks_18 F n) M v1 v2 v3))
set_option maxHeartbeats 4000000 in
set_option maxRecDepth 100000 in
theorem wX6_forks_18 {p : Program} {l : Launch} {e : Env} {s : State} {m : MethodId} {args : Array Value} {below : List Frame} {meth : Method} {c : Code} {D : va_G} {cy : Nat → ClassId} {ad : Nat → Nat} {x : XX} {F : Nat} {r : Mem × Int32} (hst : l.stackTraces = false) (C0 : MX p l s m args meth c D cy ad cX6_forks RX6 5 wsX6_forks (some .int)) : ∀ (n : Nat) (M : Mem) (v1 : Int32) (v2 : Int32) (v3 : Int32) (H : Heap) (locs : List Loc) (ls : Array Slot), Wd D cy ad x s M H locs → lv_has ls 5 [(0, .ref (ad 427)), (1, .int v1), (2, .int v2), (3, .int v3)] → fX6_forks_18 F n M v1 v2 v3 = some r → W p l e rmX6_forks s m args below meth c H locs 0 0 (QN D cy ad below args s x q_vi r 0 0) (F0 m 18 ls []) := by
  obtain ⟨hx, hb, hml, hown, hts, -⟩ := id C0
  intro n
  induction n with
  | zero =>
    intro M v1 v2 v3 H locs ls hw hl h
    exact q_no h
  | succ n ih =>
    intro M v1 v2 v3 H locs ls hw hl h
    unfold fX6_forks_18 at h
    refine lv_iload_n hx hb dX6_forks_18 rfl (lv_at hl 3 rfl) ?_
    refine lv_aload_n hx hb dX6_forks_19 rfl (lv_at hl 0 rfl) ?_
    refine gf_Mod_versions C0 hw (fun _ h9 => List.mem_cons_of_mem _ (List.mem_append_left _ (List.mem_append_right _ h9))) (List.mem_of_getElem? (i := 1) rfl) dX6_forks_20 ?_
    refine q_icmp_ge (tgt := 102) hx hb dX6_forks_23 (by decide) h (fun h => ?_) (fun h => ?_)
    · refine lv_aload_n hx hb dX6_forks_102 rfl (lv_at hl 0 rfl) ?_
      refine lv_iload_n hx hb dX6_forks_103 rfl (lv_at hl 2 rfl) ?_
      refine q_callVNi (As := [.int v2]) (nA := 1) C0 hw at_Mod rfl (fun r1 h1 => ctX6_tells hst h1) gX6_forks_X6_tells rfl ⟨rfl, rfl⟩ (by decide +kernel) rfl ⟨(Nat.le_of_ble_eq_true rfl), (Nat.le_of_ble_eq_true rfl)⟩ hl.1 (Nat.le_of_ble_eq_true rfl) ⟨(Nat.le_of_ble_eq_true rfl), (Nat.le_of_ble_eq_true rfl)⟩ rfl h dX6_forks_104 (fun M1 z2 H locs hw h => ?_)
      exact q_iretN C0 hw h ⟨(Nat.le_of_ble_eq_true rfl), (Nat.le_of_ble_eq_true rfl)⟩ dX6_forks_107
    · refine lv_aload_n hx hb dX6_forks_26 rfl (lv_at hl 0 rfl) ?_
      refine gf_Mod_pupilOf C0 hw (fun _ h9 => List.mem_cons_of_mem _ (List.mem_append_left _ (List.mem_append_right _ h9))) (List.mem_of_getElem? (i := 2) rfl) dX6_forks_27 ?_
      refine lv_iload_n hx hb dX6_forks_30 rfl (lv_at hl 3 rfl) ?_
      refine q_iald C0 hw at_m33 h dX6_forks_31 (fun j1 hj1 h => ?_)
      refine lv_aload_n hx hb dX6_forks_32 rfl (lv_at hl 0 rfl) ?_
      refine gf_Mod_pupilOf C0 hw (fun _ h9 => List.mem_cons_of_mem _ (List.mem_append_left _ (List.mem_append_right _ h9))) (List.mem_of_getElem? (i := 2) rfl) dX6_forks_33 ?_
      refine lv_iload_n hx hb dX6_forks_36 rfl (lv_at hl 1 rfl) ?_
      refine q_iald C0 hw at_m33 h dX6_forks_37 (fun j2 hj2 h => ?_)
      refine q_icmp_ne (tgt := 75) hx hb dX6_forks_38 (by decide) h (fun h => ?_) (fun h => ?_)
      · exact wX6_forks_75 hst C0 ih M v1 v2 v3 _ _ _ hw (lv_sub hl [0, 1, 2, 3] rfl) h
      · refine lv_aload_n hx hb dX6_forks_41 rfl (lv_at hl 0 rfl) ?_
        refine gf_Mod_taskOf C0 hw (fun _ h9 => List.mem_cons_of_mem _ (List.mem_append_left _ (List.mem_append_right _ h9))) (List.mem_of_getElem? (i := 3) rfl) dX6_forks_42 ?_
        refine lv_iload_n hx hb dX6_forks_45 rfl (lv_at hl 3 rfl) ?_
        refine q_iald C0 hw at_m34 h dX6_forks_46 (fun j3 hj3 h => ?_)
        refine lv_aload_n hx hb dX6_forks_47 rfl (lv_at hl 0 rfl) ?_
        refine gf_Mod_taskOf C0 hw (fun _ h9 => List.mem_cons_of_mem _ (List.mem_append_left _ (List.mem_append_right _ h9))) (List.mem_of_getElem? (i := 3) rfl) dX6_forks_48 ?_
        refine lv_iload_n hx hb dX6_forks_51 rfl (lv_at hl 1 rfl) ?_
        refine q_iald C0 hw at_m34 h dX6_forks_52 (fun j4 hj4 h => ?_)
        refine q_icmp_ne (tgt := 75) hx hb dX6_forks_53 (by decide) h (fun h => ?_) (fun h => ?_)
        · exact wX6_forks_75 hst C0 ih M v1 v2 v3 _ _ _ hw (lv_sub hl [0, 1, 2, 3] rfl) h
        · refine lv_aload_n hx hb dX6_forks_56 rfl (lv_at hl 0 rfl) ?_
          refine gf_Mod_parents C0 hw (fun _ h9 => List.mem_cons_of_mem _ (List.mem_append_left _ (List.mem_append_right _ h9))) (List.mem_of_getElem? (i := 4) rfl) dX6_forks_57 ?_
          refine lv_iload_n hx hb dX6_forks_60 rfl (lv_at hl 3 rfl) ?_
          refine q_iald C0 hw at_m35 h dX6_forks_61 (fun j5 hj5 h => ?_)
          refine lv_aload_n hx hb dX6_forks_62 rfl (lv_at hl 0 rfl) ?_
          refine gf_Mod_parents C0 hw (fun _ h9 => List.mem_cons_of_mem _ (List.mem_append_left _ (List.mem_append_right _ h9))) (List.mem_of_getElem? (i := 4) rfl) dX6_forks_63 ?_
          refine lv_iload_n hx hb dX6_forks_66 rfl (lv_at hl 1 rfl) ?_
          refine q_iald C0 hw at_m35 h dX6_forks_67 (fun j6 hj6 h => ?_)
          refine q_icmp_ne (tgt := 75) hx hb dX6_forks_68 (by decide) h (fun h => ?_) (fun h => ?_)
          · exact wX6_forks_75 hst C0 ih M v1 v2 v3 _ _ _ hw (lv_sub hl [0, 1, 2, 3] rfl) h
          · refine lv_iconst (v := 1) hx hb dX6_forks_71 (by decide) ?_
            refine lv_goto (tgt := 76) hx hb dX6_forks_72 (by decide) ?_
            exact wX6_forks_76 hst C0 ih M (1 : Int32) v1 v2 v3 _ _ _ hw (lv_sub hl [0, 1, 2, 3] rfl) h
def fX6_forks (F : Nat) (M : Mem) (a0 : Int32) : Option (Mem × Int32) :=
    q_bn (fX6_isVersion F M a0) fun M1 z2 =>
    if z2 = (0 : Int32) then
    (q_bn (fX6_fails F M1 (1 : Int32)) fun M3 z4 =>
    some (M3, z4))
    else
    (q_lt ((0 : Int32)) fun z3 =>
    q_lt ((0 : Int32)) fun z4 =>
    fX6_forks_18 F F M1 a0 z3 z4)
set_option maxHeartbeats 4000000 in
set_option maxRecDepth 100000 in
theorem ctX6_forks {l : Launch} (hst : l.stackTraces = false) {D : va_G} {cy : Nat → ClassId} {ad : Nat → Nat} {x : XX} {F : Nat} {M : Mem} {a0 : Int32} {r : Mem × Int32} (h : fX6_forks F M a0 = some r) : CN l yX6_forks wsX6_forks rmX6_forks D cy ad [.ref (ad 427), .int a0] x M x r.1 (q_vi r.2) 0 0 := by
  refine q_startN (cc := cX6_forks) (maxL := 5) (ret := (some .int)) (by decide) rfl (Nat.le_of_ble_eq_true rfl) ?_
  intro p e s m args below meth c ls C0 hw hl hnm
  obtain ⟨hx, hb, hml, hown, hts, -⟩ := id C0
  have C0 : MX p l s m args meth c D cy ad cX6_forks RX6 5 wsX6_forks ((some .int)) := C0
  have hown : s.vm.findClass RX6 = some m.cls := hown
  have hl : lv_has ls 5 [(0, .ref (ad 427)), (1, .int a0)] := hl
  show W p l e rmX6_forks s m args below meth c s.heap [] 0 0 (QN D cy ad below args s x q_vi r 0 0) (F0 m 0 ls [])
  unfold fX6_forks at h
  refine lv_aload_n hx hb dX6_forks_0 rfl (lv_at hl 0 rfl) ?_
  refine lv_iload_n hx hb dX6_forks_1 rfl (lv_at hl 1 rfl) ?_
  refine q_callVNi (As := [.int a0]) (nA := 1) C0 hw at_Mod rfl (fun r1 h1 => ctX6_isVersion hst h1) gX6_forks_X6_isVersion rfl ⟨rfl, rfl⟩ (by decide +kernel) rfl ⟨(Nat.le_of_ble_eq_true rfl), (Nat.le_of_ble_eq_true rfl)⟩ hl.1 (Nat.le_of_ble_eq_true rfl) ⟨(Nat.le_of_ble_eq_true rfl), (Nat.le_of_ble_eq_true rfl)⟩ rfl h dX6_forks_2 (fun M1 z2 H locs hw h => ?_)
  refine q_if_ne (tgt := 14) hx hb dX6_forks_5 (by decide) h (fun h => ?_) (fun h => ?_)
  · refine lv_iconst (v := 0) hx hb dX6_forks_14 (by decide) ?_
    refine q_istore_n (lv' := fun z3 => [(2, .int z3), (0, .ref (ad 427)), (1, .int a0)]) hx hb dX6_forks_15 rfl hl (by decide) (fun _ => rfl) h (fun z3 ls hl h => ?_)
    refine lv_iconst (v := 0) hx hb dX6_forks_16 (by decide) ?_
    refine q_istore_n (lv' := fun z4 => [(3, .int z4), (2, .int z3), (0, .ref (ad 427)), (1, .int a0)]) hx hb dX6_forks_17 rfl hl (by decide) (fun _ => rfl) h (fun z4 ls hl h => ?_)
    exact wX6_forks_18 hst C0  F M1 a0 z3 z4 _ _ _ hw (lv_sub hl [2, 3, 1, 0] rfl) h
  · refine lv_aload_n hx hb dX6_forks_8 rfl (lv_at hl 0 rfl) ?_
    refine lv_iconst (v := 1) hx hb dX6_forks_9 (by decide) ?_
    refine q_callVNi (As := [.int ((1 : Int32))]) (nA := 1) C0 hw at_Mod rfl (fun r1 h1 => ctX6_fails hst h1) gX6_forks_X6_fails rfl ⟨rfl, rfl⟩ (by decide +kernel) rfl ⟨(Nat.le_of_ble_eq_true rfl), (Nat.le_of_ble_eq_true rfl)⟩ hl.1 (Nat.le_of_ble_eq_true rfl) ⟨(Nat.le_of_ble_eq_true rfl), (Nat.le_of_ble_eq_true rfl)⟩ rfl h dX6_forks_10 (fun M3 z4 H locs hw h => ?_)
    exact q_iretN C0 hw h ⟨(Nat.le_of_ble_eq_true rfl), (Nat.le_of_ble_eq_true rfl)⟩ dX6_forks_13
/-! HomewatcherModel.heads(II)I -/
abbrev rmX6_heads : Room := { frames := 2, cells := 0, slots := 0, locals := 43 }
def fX6_heads_16 (F : Nat) (M : Mem) : Option (Mem × Int32) :=
    q_bn (fX6_fails F M (1 : Int32)) fun M1 z2 =>
    some (M1, z2)
set_option maxHeartbeats 4000000 in
set_option maxRecDepth 100000 in
theorem wX6_heads_16 {p : Program} {l : Launch} {e : Env} {s : State} {m : MethodId} {args : Array Value} {below : List Frame} {meth : Method} {c : Code} {D : va_G} {cy : Nat → ClassId} {ad : Nat → Nat} {x : XX} {F : Nat} {r : Mem × Int32} (hst : l.stackTraces = false) (C0 : MX p l s m args meth c D cy ad cX6_heads RX6 7 wsX6_heads (some .int)) : ∀ (M : Mem) (H : Heap) (locs : List Loc) (ls : Array Slot), Wd D cy ad x s M H locs → lv_has ls 7 [(0, .ref (ad 427))] → fX6_heads_16 F M = some r → W p l e rmX6_heads s m args below meth c H locs 0 0 (QN D cy ad below args s x q_vi r 0 0) (F0 m 16 ls []) := by
  obtain ⟨hx, hb, hml, hown, hts, -⟩ := id C0
  intro M H locs ls hw hl h
  unfold fX6_heads_16 at h
  refine lv_aload_n hx hb dX6_heads_16 rfl (lv_at hl 0 rfl) ?_
  refine lv_iconst (v := 1) hx hb dX6_heads_17 (by decide) ?_
  refine q_callVNi (As := [.int ((1 : Int32))]) (nA := 1) C0 hw at_Mod rfl (fun r1 h1 => ctX6_fails hst h1) gX6_heads_X6_fails rfl ⟨rfl, rfl⟩ (by decide +kernel) rfl ⟨(Nat.le_of_ble_eq_true rfl), (Nat.le_of_ble_eq_true rfl)⟩ hl.1 (Nat.le_of_ble_eq_true rfl) ⟨(Nat.le_of_ble_eq_true rfl), (Nat.le_of_ble_eq_true rfl)⟩ rfl h dX6_heads_18 (fun M1 z2 H locs hw h => ?_)
  exact q_iretN C0 hw h ⟨(Nat.le_of_ble_eq_true rfl), (Nat.le_of_ble_eq_true rfl)⟩ dX6_heads_21
def fX6_heads_121 (F : Nat) (k27 : Mem → Int32 → Int32 → Int32 → Int32 → Option (Mem × Int32)) (M : Mem) (s0 : Int32) (s1 : Int32) (v1 : Int32) (v2 : Int32) (v4 : Int32) : Option (Mem × Int32) :=
    q_lt (s1 + s0) fun z1 =>
    q_lt (v4 + (1 : Int32)) fun z2 =>
    k27 M v1 v2 z1 z2
set_option maxHeartbeats 4000000 in
set_option maxRecDepth 100000 in
theorem wX6_heads_121 {p : Program} {l : Launch} {e : Env} {s : State} {m : MethodId} {args : Array Value} {below : List Frame} {meth : Method} {c : Code} {D : va_G} {cy : Nat → ClassId} {ad : Nat → Nat} {x : XX} {F : Nat} {r : Mem × Int32} (hst : l.stackTraces = false) (C0 : MX p l s m args meth c D cy ad cX6_heads RX6 7 wsX6_heads (some .int)) {k27 : Mem → Int32 → Int32 → Int32 → Int32 → Option (Mem × Int32)} (hk27 : ∀ (M : Mem) (v1 : Int32) (v2 : Int32) (v3 : Int32) (v4 : Int32) (H : Heap) (locs : List Loc) (ls : Array Slot), Wd D cy ad x s M H locs → lv_has ls 7 [(0, .ref (ad 427)), (1, .int v1), (2, .int v2), (3, .int v3), (4, .int v4)] → k27 M v1 v2 v3 v4 = some r → W p l e rmX6_heads s m args below meth c H locs 0 0 (QN D cy ad below args s x q_vi r 0 0) (F0 m 27 ls [])) : ∀ (M : Mem) (s0 : Int32) (s1 : Int32) (v1 : Int32) (v2 : Int32) (v4 : Int32) (H : Heap) (locs : List Loc) (ls : Array Slot), Wd D cy ad x s M H locs → lv_has ls 7 [(0, .ref (ad 427)), (1, .int v1), (2, .int v2), (4, .int v4)] → fX6_heads_121 F k27 M s0 s1 v1 v2 v4 = some r → W p l e rmX6_heads s m args below meth c H locs 0 0 (QN D cy ad below args s x q_vi r 0 0) (F0 m 121 ls [.int s0, .int s1]) := by
  obtain ⟨hx, hb, hml, hown, hts, -⟩ := id C0
  intro M s0 s1 v1 v2 v4 H locs ls hw hl h
  unfold fX6_heads_121 at h
  refine lv_iadd hx hb dX6_heads_121 ?_
  refine q_istore_n (lv' := fun z1 => [(3, .int z1), (0, .ref (ad 427)), (1, .int v1), (2, .int v2), (4, .int v4)]) hx hb dX6_heads_122 rfl hl (by decide) (fun _ => rfl) h (fun z1 ls hl h => ?_)
  refine q_iinc (k := 4) (cst := 1) (lv' := fun z2 => [(4, .int z2), (3, .int z1), (0, .ref (ad 427)), (1, .int v1), (2, .int v2)]) hx hb dX6_heads_123 hl rfl rfl (by decide) (fun _ => rfl) h (fun z2 ls hl h => ?_)
  refine lv_goto (tgt := 27) hx hb dX6_heads_126 (by decide) ?_
  exact hk27 M v1 v2 z1 z2 _ _ _ hw (lv_sub hl [2, 3, 4, 1, 0] rfl) h
def fX6_heads_102 (F : Nat) (k71 : Mem → Int32 → Int32 → Int32 → Int32 → Int32 → Int32 → Option (Mem × Int32)) (M : Mem) (s0 : Int32) (v1 : Int32) (v2 : Int32) (v3 : Int32) (v4 : Int32) (v6 : Int32) : Option (Mem × Int32) :=
    q_lt (s0) fun z1 =>
    q_lt (v6 + (1 : Int32)) fun z2 =>
    k71 M v1 v2 v3 v4 z1 z2
set_option maxHeartbeats 4000000 in
set_option maxRecDepth 100000 in
theorem wX6_heads_102 {p : Program} {l : Launch} {e : Env} {s : State} {m : MethodId} {args : Array Value} {below : List Frame} {meth : Method} {c : Code} {D : va_G} {cy : Nat → ClassId} {ad : Nat → Nat} {x : XX} {F : Nat} {r : Mem × Int32} (hst : l.stackTraces = false) (C0 : MX p l s m args meth c D cy ad cX6_heads RX6 7 wsX6_heads (some .int)) {k71 : Mem → Int32 → Int32 → Int32 → Int32 → Int32 → Int32 → Option (Mem × Int32)} (hk71 : ∀ (M : Mem) (v1 : Int32) (v2 : Int32) (v3 : Int32) (v4 : Int32) (v5 : Int32) (v6 : Int32) (H : Heap) (locs : List Loc) (ls : Array Slot), Wd D cy ad x s M H locs → lv_has ls 7 [(0, .ref (ad 427)), (1, .int v1), (2, .int v2), (3, .int v3), (4, .int v4), (5, .int v5), (6, .int v6)] → k71 M v1 v2 v3 v4 v5 v6 = some r → W p l e rmX6_heads s m args below meth c H locs 0 0 (QN D cy ad below args s x q_vi r 0 0) (F0 m 71 ls [])) : ∀ (M : Mem) (s0 : Int32) (v1 : Int32) (v2 : Int32) (v3 : Int32) (v4 : Int32) (v6 : Int32) (H : Heap) (locs : List Loc) (ls : Array Slot), Wd D cy ad x s M H locs → lv_has ls 7 [(0, .ref (ad 427)), (1, .int v1), (2, .int v2), (3, .int v3), (4, .int v4), (6, .int v6)] → fX6_heads_102 F k71 M s0 v1 v2 v3 v4 v6 = some r → W p l e rmX6_heads s m args below meth c H locs 0 0 (QN D cy ad below args s x q_vi r 0 0) (F0 m 102 ls [.int s0]) := by
  obtain ⟨hx, hb, hml, hown, hts, -⟩ := id C0
  intro M s0 v1 v2 v3 v4 v6 H locs ls hw hl h
  unfold fX6_heads_102 at h
  refine q_istore (lv' := fun z1 => [(5, .int z1), (0, .ref (ad 427)), (1, .int v1), (2, .int v2), (3, .int v3), (4, .int v4), (6, .int v6)]) hx hb dX6_heads_102 hl (by decide) (fun _ => rfl) h (fun z1 ls hl h => ?_)
  refine q_iinc (k := 6) (cst := 1) (lv' := fun z2 => [(6, .int z2), (5, .int z1), (0, .ref (ad 427)), (1, .int v1), (2, .int v2), (3, .int v3), (4, .int v4)]) hx hb dX6_heads_104 hl rfl rfl (by decide) (fun _ => rfl) h (fun z2 ls hl h => ?_)
  refine lv_goto (tgt := 71) hx hb dX6_heads_107 (by decide) ?_
  exact hk71 M v1 v2 v3 v4 z1 z2 _ _ _ hw (lv_sub hl [2, 3, 4, 5, 6, 1, 0] rfl) h
def fX6_heads_101 (F : Nat) (k71 : Mem → Int32 → Int32 → Int32 → Int32 → Int32 → Int32 → Option (Mem × Int32)) (M : Mem) (v1 : Int32) (v2 : Int32) (v3 : Int32) (v4 : Int32) (v6 : Int32) : Option (Mem × Int32) :=
    fX6_heads_102 F k71 M (0 : Int32) v1 v2 v3 v4 v6
set_option maxHeartbeats 4000000 in
set_option maxRecDepth 100000 in
theorem wX6_heads_101 {p : Program} {l : Launch} {e : Env} {s : State} {m : MethodId} {args : Array Value} {below : List Frame} {meth : Method} {c : Code} {D : va_G} {cy : Nat → ClassId} {ad : Nat → Nat} {x : XX} {F : Nat} {r : Mem × Int32} (hst : l.stackTraces = false) (C0 : MX p l s m args meth c D cy ad cX6_heads RX6 7 wsX6_heads (some .int)) {k71 : Mem → Int32 → Int32 → Int32 → Int32 → Int32 → Int32 → Option (Mem × Int32)} (hk71 : ∀ (M : Mem) (v1 : Int32) (v2 : Int32) (v3 : Int32) (v4 : Int32) (v5 : Int32) (v6 : Int32) (H : Heap) (locs : List Loc) (ls : Array Slot), Wd D cy ad x s M H locs → lv_has ls 7 [(0, .ref (ad 427)), (1, .int v1), (2, .int v2), (3, .int v3), (4, .int v4), (5, .int v5), (6, .int v6)] → k71 M v1 v2 v3 v4 v5 v6 = some r → W p l e rmX6_heads s m args below meth c H locs 0 0 (QN D cy ad below args s x q_vi r 0 0) (F0 m 71 ls [])) : ∀ (M : Mem) (v1 : Int32) (v2 : Int32) (v3 : Int32) (v4 : Int32) (v6 : Int32) (H : Heap) (locs : List Loc) (ls : Array Slot), Wd D cy ad x s M H locs → lv_has ls 7 [(0, .ref (ad 427)), (1, .int v1), (2, .int v2), (3, .int v3), (4, .int v4), (6, .int v6)] → fX6_heads_101 F k71 M v1 v2 v3 v4 v6 = some r → W p l e rmX6_heads s m args below meth c H locs 0 0 (QN D cy ad below args s x q_vi r 0 0) (F0 m 101 ls []) := by
  obtain ⟨hx, hb, hml, hown, hts, -⟩ := id C0
  intro M v1 v2 v3 v4 v6 H locs ls hw hl h
  unfold fX6_heads_101 at h
  refine lv_iconst (v := 0) hx hb dX6_heads_101 (by decide) ?_
  exact wX6_heads_102 hst C0 hk71 M (0 : Int32) v1 v2 v3 v4 v6 _ _ _ hw (lv_sub hl [0, 1, 2, 3, 4, 5] rfl) h
def fX6_heads_71 (F : Nat) (k27 : Mem → Int32 → Int32 → Int32 → Int32 → Option (Mem × Int32)) : Nat → Mem → Int32 → Int32 → Int32 → Int32 → Int32 → Int32 → Option (Mem × Int32)
  | 0, _, _, _, _, _, _, _ => none
  | n + 1, M, v1, v2, v3, v4, v5, v6 =>
    if (M 64 0 0) ≤ v6 then
    (if v5 = (0 : Int32) then
    (fX6_heads_121 F k27 M (0 : Int32) v3 v1 v2 v4)
    else
    (fX6_heads_121 F k27 M (1 : Int32) v3 v1 v2 v4))
    else
    (if v5 = (0 : Int32) then
    (fX6_heads_101 F (fX6_heads_71 F k27 n) M v1 v2 v3 v4 v6)
    else
    (q_ax v6 60 fun j1 =>
    if (M 35 0 j1) = v4 then
    (fX6_heads_101 F (fX6_heads_71 F k27 n) M v1 v2 v3 v4 v6)
    else
    (fX6_heads_102 F (fX6_heads_71 F k27 n) M (1 : Int32) v1 v2 v3 v4 v6)))
set_option maxHeartbeats 4000000 in
set_option maxRecDepth 100000 in
theorem wX6_heads_71 {p : Program} {l : Launch} {e : Env} {s : State} {m : MethodId} {args : Array Value} {below : List Frame} {meth : Method} {c : Code} {D : va_G} {cy : Nat → ClassId} {ad : Nat → Nat} {x : XX} {F : Nat} {r : Mem × Int32} (hst : l.stackTraces = false) (C0 : MX p l s m args meth c D cy ad cX6_heads RX6 7 wsX6_heads (some .int)) {k27 : Mem → Int32 → Int32 → Int32 → Int32 → Option (Mem × Int32)} (hk27 : ∀ (M : Mem) (v1 : Int32) (v2 : Int32) (v3 : Int32) (v4 : Int32) (H : Heap) (locs : List Loc) (ls : Array Slot), Wd D cy ad x s M H locs → lv_has ls 7 [(0, .ref (ad 427)), (1, .int v1), (2, .int v2), (3, .int v3), (4, .int v4)] → k27 M v1 v2 v3 v4 = some r → W p l e rmX6_heads s m args below meth c H locs 0 0 (QN D cy ad below args s x q_vi r 0 0) (F0 m 27 ls [])) : ∀ (n : Nat) (M : Mem) (v1 : Int32) (v2 : Int32) (v3 : Int32) (v4 : Int32) (v5 : Int32) (v6 : Int32) (H : Heap) (locs : List Loc) (ls : Array Slot), Wd D cy ad x s M H locs → lv_has ls 7 [(0, .ref (ad 427)), (1, .int v1), (2, .int v2), (3, .int v3), (4, .int v4), (5, .int v5), (6, .int v6)] → fX6_heads_71 F k27 n M v1 v2 v3 v4 v5 v6 = some r → W p l e rmX6_heads s m args below meth c H locs 0 0 (QN D cy ad below args s x q_vi r 0 0) (F0 m 71 ls []) := by
  obtain ⟨hx, hb, hml, hown, hts, -⟩ := id C0
  intro n
  induction n with
  | zero =>
    intro M v1 v2 v3 v4 v5 v6 H locs ls hw hl h
    exact q_no h
  | succ n ih =>
    intro M v1 v2 v3 v4 v5 v6 H locs ls hw hl h
    unfold fX6_heads_71 at h
    refine lv_iload hx hb dX6_heads_71 (lv_at hl 6 rfl) ?_
    refine lv_aload_n hx hb dX6_heads_73 rfl (lv_at hl 0 rfl) ?_
    refine gf_Mod_versions C0 hw (fun _ h9 => List.mem_cons_of_mem _ (List.mem_append_left _ (List.mem_append_right _ h9))) (List.mem_of_getElem? (i := 1) rfl) dX6_heads_74 ?_
    refine q_icmp_ge (tgt := 110) hx hb dX6_heads_77 (by decide) h (fun h => ?_) (fun h => ?_)
    · refine lv_iload_n hx hb dX6_heads_110 rfl (lv_at hl 3 rfl) ?_
      refine lv_iload hx hb dX6_heads_111 (lv_at hl 5 rfl) ?_
      refine q_if_eq (tgt := 120) hx hb dX6_heads_113 (by decide) h (fun h => ?_) (fun h => ?_)
      · refine lv_iconst (v := 0) hx hb dX6_heads_120 (by decide) ?_
        exact wX6_heads_121 hst C0 hk27 M (0 : Int32) v3 v1 v2 v4 _ _ _ hw (lv_sub hl [0, 1, 2, 4] rfl) h
      · refine lv_iconst (v := 1) hx hb dX6_heads_116 (by decide) ?_
        refine lv_goto (tgt := 121) hx hb dX6_heads_117 (by decide) ?_
        exact wX6_heads_121 hst C0 hk27 M (1 : Int32) v3 v1 v2 v4 _ _ _ hw (lv_sub hl [0, 1, 2, 4] rfl) h
    · refine lv_iload hx hb dX6_heads_80 (lv_at hl 5 rfl) ?_
      refine q_if_eq (tgt := 101) hx hb dX6_heads_82 (by decide) h (fun h => ?_) (fun h => ?_)
      · exact wX6_heads_101 hst C0 ih M v1 v2 v3 v4 v6 _ _ _ hw (lv_sub hl [0, 1, 2, 3, 4, 6] rfl) h
      · refine lv_aload_n hx hb dX6_heads_85 rfl (lv_at hl 0 rfl) ?_
        refine gf_Mod_parents C0 hw (fun _ h9 => List.mem_cons_of_mem _ (List.mem_append_left _ (List.mem_append_right _ h9))) (List.mem_of_getElem? (i := 4) rfl) dX6_heads_86 ?_
        refine lv_iload hx hb dX6_heads_89 (lv_at hl 6 rfl) ?_
        refine q_iald C0 hw at_m35 h dX6_heads_91 (fun j1 hj1 h => ?_)
        refine lv_iload hx hb dX6_heads_92 (lv_at hl 4 rfl) ?_
        refine q_icmp_eq (tgt := 101) hx hb dX6_heads_94 (by decide) h (fun h => ?_) (fun h => ?_)
        · exact wX6_heads_101 hst C0 ih M v1 v2 v3 v4 v6 _ _ _ hw (lv_sub hl [0, 1, 2, 3, 4, 6] rfl) h
        · refine lv_iconst (v := 1) hx hb dX6_heads_97 (by decide) ?_
          refine lv_goto (tgt := 102) hx hb dX6_heads_98 (by decide) ?_
          exact wX6_heads_102 hst C0 ih M (1 : Int32) v1 v2 v3 v4 v6 _ _ _ hw (lv_sub hl [0, 1, 2, 3, 4, 6] rfl) h
def fX6_heads_63 (F : Nat) (k27 : Mem → Int32 → Int32 → Int32 → Int32 → Option (Mem × Int32)) (M : Mem) (s0 : Int32) (v1 : Int32) (v2 : Int32) (v3 : Int32) (v4 : Int32) : Option (Mem × Int32) :=
    q_lt (s0) fun z1 =>
    q_lt (v4 + (1 : Int32)) fun z2 =>
    fX6_heads_71 F k27 F M v1 v2 v3 v4 z1 z2
set_option maxHeartbeats 4000000 in
set_option maxRecDepth 100000 in
theorem wX6_heads_63 {p : Program} {l : Launch} {e : Env} {s : State} {m : MethodId} {args : Array Value} {below : List Frame} {meth : Method} {c : Code} {D : va_G} {cy : Nat → ClassId} {ad : Nat → Nat} {x : XX} {F : Nat} {r : Mem × Int32} (hst : l.stackTraces = false) (C0 : MX p l s m args meth c D cy ad cX6_heads RX6 7 wsX6_heads (some .int)) {k27 : Mem → Int32 → Int32 → Int32 → Int32 → Option (Mem × Int32)} (hk27 : ∀ (M : Mem) (v1 : Int32) (v2 : Int32) (v3 : Int32) (v4 : Int32) (H : Heap) (locs : List Loc) (ls : Array Slot), Wd D cy ad x s M H locs → lv_has ls 7 [(0, .ref (ad 427)), (1, .int v1), (2, .int v2), (3, .int v3), (4, .int v4)] → k27 M v1 v2 v3 v4 = some r → W p l e rmX6_heads s m args below meth c H locs 0 0 (QN D cy ad below args s x q_vi r 0 0) (F0 m 27 ls [])) : ∀ (M : Mem) (s0 : Int32) (v1 : Int32) (v2 : Int32) (v3 : Int32) (v4 : Int32) (H : Heap) (locs : List Loc) (ls : Array Slot), Wd D cy ad x s M H locs → lv_has ls 7 [(0, .ref (ad 427)), (1, .int v1), (2, .int v2), (3, .int v3), (4, .int v4)] → fX6_heads_63 F k27 M s0 v1 v2 v3 v4 = some r → W p l e rmX6_heads s m args below meth c H locs 0 0 (QN D cy ad below args s x q_vi r 0 0) (F0 m 63 ls [.int s0]) := by
  obtain ⟨hx, hb, hml, hown, hts, -⟩ := id C0
  intro M s0 v1 v2 v3 v4 H locs ls hw hl h
  unfold fX6_heads_63 at h
  refine q_istore (lv' := fun z1 => [(5, .int z1), (0, .ref (ad 427)), (1, .int v1), (2, .int v2), (3, .int v3), (4, .int v4)]) hx hb dX6_heads_63 hl (by decide) (fun _ => rfl) h (fun z1 ls hl h => ?_)
  refine lv_iload hx hb dX6_heads_65 (lv_at hl 5 rfl) ?_
  refine lv_iconst (v := 1) hx hb dX6_heads_67 (by decide) ?_
  refine lv_iadd hx hb dX6_heads_68 ?_
  refine q_istore (lv' := fun z2 => [(6, .int z2), (5, .int z1), (0, .ref (ad 427)), (1, .int v1), (2, .int v2), (3, .int v3), (4, .int v4)]) hx hb dX6_heads_69 hl (by decide) (fun _ => rfl) h (fun z2 ls hl h => ?_)
  exact wX6_heads_71 hst C0 hk27 F M v1 v2 v3 v4 z1 z2 _ _ _ hw (lv_sub hl [2, 3, 4, 5, 6, 1, 0] rfl) h
def fX6_heads_62 (F : Nat) (k27 : Mem → Int32 → Int32 → Int32 → Int32 → Option (Mem × Int32)) (M : Mem) (v1 : Int32) (v2 : Int32) (v3 : Int32) (v4 : Int32) : Option (Mem × Int32) :=
    fX6_heads_63 F k27 M (0 : Int32) v1 v2 v3 v4
set_option maxHeartbeats 4000000 in
set_option maxRecDepth 100000 in
theorem wX6_heads_62 {p : Program} {l : Launch} {e : Env} {s : State} {m : MethodId} {args : Array Value} {below : List Frame} {meth : Method} {c : Code} {D : va_G} {cy : Nat → ClassId} {ad : Nat → Nat} {x : XX} {F : Nat} {r : Mem × Int32} (hst : l.stackTraces = false) (C0 : MX p l s m args meth c D cy ad cX6_heads RX6 7 wsX6_heads (some .int)) {k27 : Mem → Int32 → Int32 → Int32 → Int32 → Option (Mem × Int32)} (hk27 : ∀ (M : Mem) (v1 : Int32) (v2 : Int32) (v3 : Int32) (v4 : Int32) (H : Heap) (locs : List Loc) (ls : Array Slot), Wd D cy ad x s M H locs → lv_has ls 7 [(0, .ref (ad 427)), (1, .int v1), (2, .int v2), (3, .int v3), (4, .int v4)] → k27 M v1 v2 v3 v4 = some r → W p l e rmX6_heads s m args below meth c H locs 0 0 (QN D cy ad below args s x q_vi r 0 0) (F0 m 27 ls [])) : ∀ (M : Mem) (v1 : Int32) (v2 : Int32) (v3 : Int32) (v4 : Int32) (H : Heap) (locs : List Loc) (ls : Array Slot), Wd D cy ad x s M H locs → lv_has ls 7 [(0, .ref (ad 427)), (1, .int v1), (2, .int v2), (3, .int v3), (4, .int v4)] → fX6_heads_62 F k27 M v1 v2 v3 v4 = some r → W p l e rmX6_heads s m args below meth c H locs 0 0 (QN D cy ad below args s x q_vi r 0 0) (F0 m 62 ls []) := by
  obtain ⟨hx, hb, hml, hown, hts, -⟩ := id C0
  intro M v1 v2 v3 v4 H locs ls hw hl h
  unfold fX6_heads_62 at h
  refine lv_iconst (v := 0) hx hb dX6_heads_62 (by decide) ?_
  exact wX6_heads_63 hst C0 hk27 M (0 : Int32) v1 v2 v3 v4 _ _ _ hw (lv_sub hl [0, 1, 2, 3, 4] rfl) h
def fX6_heads_27 (F : Nat) : Nat → Mem → Int32 → Int32 → Int32 → Int32 → Option (Mem × Int32)
  | 0, _, _, _, _, _ => none
  | n + 1, M, v1, v2, v3, v4 =>
    if (M 64 0 0) ≤ v4 then
    (q_bn (fX6_tells F M v3) fun M1 z2 =>
    some (M1, z2))
    else
    (q_ax v4 60 fun j1 =>
    if (M 33 0 j1) = v1 then
    (q_ax v4 60 fun j2 =>
    if (M 34 0 j2) = v2 then
    (fX6_heads_63 F (fX6_heads_27 F n) M (1 : Int32) v1 v2 v3 v4)
    else
    (fX6_heads_62 F (fX6_heads_27 F n) M v1 v2 v3 v4))
    else
    (fX6_heads_62 F (fX6_heads_27 F n) M v1 v2 v3 v4))
set_option maxHeartbeats 4000000 in
set_option maxRecDepth 100000 in
theorem wX6_heads_27 {p : Program} {l : Launch} {e : Env} {s : State} {m : MethodId} {args : Array Value} {below : List Frame} {meth : Method} {c : Code} {D : va_G} {cy : Nat → ClassId} {ad : Nat → Nat} {x : XX} {F : Nat} {r : Mem × Int32} (hst : l.stackTraces = false) (C0 : MX p l s m args meth c D cy ad cX6_heads RX6 7 wsX6_heads (some .int)) : ∀ (n : Nat) (M : Mem) (v1 : Int32) (v2 : Int32) (v3 : Int32) (v4 : Int32) (H : Heap) (locs : List Loc) (ls : Array Slot), Wd D cy ad x s M H locs → lv_has ls 7 [(0, .ref (ad 427)), (1, .int v1), (2, .int v2), (3, .int v3), (4, .int v4)] → fX6_heads_27 F n M v1 v2 v3 v4 = some r → W p l e rmX6_heads s m args below meth c H locs 0 0 (QN D cy ad below args s x q_vi r 0 0) (F0 m 27 ls []) := by
  obtain ⟨hx, hb, hml, hown, hts, -⟩ := id C0
  intro n
  induction n with
  | zero =>
    intro M v1 v2 v3 v4 H locs ls hw hl h
    exact q_no h
  | succ n ih =>
    intro M v1 v2 v3 v4 H locs ls hw hl h
    unfold fX6_heads_27 at h
    refine lv_iload hx hb dX6_heads_27 (lv_at hl 4 rfl) ?_
    refine lv_aload_n hx hb dX6_heads_29 rfl (lv_at hl 0 rfl) ?_
    refine gf_Mod_versions C0 hw (fun _ h9 => List.mem_cons_of_mem _ (List.mem_append_left _ (List.mem_append_right _ h9))) (List.mem_of_getElem? (i := 1) rfl) dX6_heads_30 ?_
    refine q_icmp_ge (tgt := 129) hx hb dX6_heads_33 (by decide) h (fun h => ?_) (fun h => ?_)
    · refine lv_aload_n hx hb dX6_heads_129 rfl (lv_at hl 0 rfl) ?_
      refine lv_iload_n hx hb dX6_heads_130 rfl (lv_at hl 3 rfl) ?_
      refine q_callVNi (As := [.int v3]) (nA := 1) C0 hw at_Mod rfl (fun r1 h1 => ctX6_tells hst h1) gX6_heads_X6_tells rfl ⟨rfl, rfl⟩ (by decide +kernel) rfl ⟨(Nat.le_of_ble_eq_true rfl), (Nat.le_of_ble_eq_true rfl)⟩ hl.1 (Nat.le_of_ble_eq_true rfl) ⟨(Nat.le_of_ble_eq_true rfl), (Nat.le_of_ble_eq_true rfl)⟩ rfl h dX6_heads_131 (fun M1 z2 H locs hw h => ?_)
      exact q_iretN C0 hw h ⟨(Nat.le_of_ble_eq_true rfl), (Nat.le_of_ble_eq_true rfl)⟩ dX6_heads_134
    · refine lv_aload_n hx hb dX6_heads_36 rfl (lv_at hl 0 rfl) ?_
      refine gf_Mod_pupilOf C0 hw (fun _ h9 => List.mem_cons_of_mem _ (List.mem_append_left _ (List.mem_append_right _ h9))) (List.mem_of_getElem? (i := 2) rfl) dX6_heads_37 ?_
      refine lv_iload hx hb dX6_heads_40 (lv_at hl 4 rfl) ?_
      refine q_iald C0 hw at_m33 h dX6_heads_42 (fun j1 hj1 h => ?_)
      refine lv_iload_n hx hb dX6_heads_43 rfl (lv_at hl 1 rfl) ?_
      refine q_icmp_ne (tgt := 62) hx hb dX6_heads_44 (by decide) h (fun h => ?_) (fun h => ?_)
      · exact wX6_heads_62 hst C0 ih M v1 v2 v3 v4 _ _ _ hw (lv_sub hl [0, 1, 2, 3, 4] rfl) h
      · refine lv_aload_n hx hb dX6_heads_47 rfl (lv_at hl 0 rfl) ?_
        refine gf_Mod_taskOf C0 hw (fun _ h9 => List.mem_cons_of_mem _ (List.mem_append_left _ (List.mem_append_right _ h9))) (List.mem_of_getElem? (i := 3) rfl) dX6_heads_48 ?_
        refine lv_iload hx hb dX6_heads_51 (lv_at hl 4 rfl) ?_
        refine q_iald C0 hw at_m34 h dX6_heads_53 (fun j2 hj2 h => ?_)
        refine lv_iload_n hx hb dX6_heads_54 rfl (lv_at hl 2 rfl) ?_
        refine q_icmp_ne (tgt := 62) hx hb dX6_heads_55 (by decide) h (fun h => ?_) (fun h => ?_)
        · exact wX6_heads_62 hst C0 ih M v1 v2 v3 v4 _ _ _ hw (lv_sub hl [0, 1, 2, 3, 4] rfl) h
        · refine lv_iconst (v := 1) hx hb dX6_heads_58 (by decide) ?_
          refine lv_goto (tgt := 63) hx hb dX6_heads_59 (by decide) ?_
          exact wX6_heads_63 hst C0 ih M (1 : Int32) v1 v2 v3 v4 _ _ _ hw (lv_sub hl [0, 1, 2, 3, 4] rfl) h
def fX6_heads (F : Nat) (M : Mem) (a0 : Int32) (a1 : Int32) : Option (Mem × Int32) :=
    q_bn (fX6_isPupil F M a0) fun M1 z2 =>
    if z2 = (0 : Int32) then
    (fX6_heads_16 F M1)
    else
    (q_bn (fX6_isTask F M1 a1) fun M3 z4 =>
    if z4 = (0 : Int32) then
    (fX6_heads_16 F M3)
    else
    (q_lt ((0 : Int32)) fun z5 =>
    q_lt ((0 : Int32)) fun z6 =>
    fX6_heads_27 F F M3 a0 a1 z5 z6))
set_option maxHeartbeats 4000000 in
set_option maxRecDepth 100000 in
theorem ctX6_heads {l : Launch} (hst : l.stackTraces = false) {D : va_G} {cy : Nat → ClassId} {ad : Nat → Nat} {x : XX} {F : Nat} {M : Mem} {a0 : Int32} {a1 : Int32} {r : Mem × Int32} (h : fX6_heads F M a0 a1 = some r) : CN l yX6_heads wsX6_heads rmX6_heads D cy ad [.ref (ad 427), .int a0, .int a1] x M x r.1 (q_vi r.2) 0 0 := by
  refine q_startN (cc := cX6_heads) (maxL := 7) (ret := (some .int)) (by decide) rfl (Nat.le_of_ble_eq_true rfl) ?_
  intro p e s m args below meth c ls C0 hw hl hnm
  obtain ⟨hx, hb, hml, hown, hts, -⟩ := id C0
  have C0 : MX p l s m args meth c D cy ad cX6_heads RX6 7 wsX6_heads ((some .int)) := C0
  have hown : s.vm.findClass RX6 = some m.cls := hown
  have hl : lv_has ls 7 [(0, .ref (ad 427)), (1, .int a0), (2, .int a1)] := hl
  show W p l e rmX6_heads s m args below meth c s.heap [] 0 0 (QN D cy ad below args s x q_vi r 0 0) (F0 m 0 ls [])
  unfold fX6_heads at h
  refine lv_aload_n hx hb dX6_heads_0 rfl (lv_at hl 0 rfl) ?_
  refine lv_iload_n hx hb dX6_heads_1 rfl (lv_at hl 1 rfl) ?_
  refine q_callVNi (As := [.int a0]) (nA := 1) C0 hw at_Mod rfl (fun r1 h1 => ctX6_isPupil hst h1) gX6_heads_X6_isPupil rfl ⟨rfl, rfl⟩ (by decide +kernel) rfl ⟨(Nat.le_of_ble_eq_true rfl), (Nat.le_of_ble_eq_true rfl)⟩ hl.1 (Nat.le_of_ble_eq_true rfl) ⟨(Nat.le_of_ble_eq_true rfl), (Nat.le_of_ble_eq_true rfl)⟩ rfl h dX6_heads_2 (fun M1 z2 H locs hw h => ?_)
  refine q_if_eq (tgt := 16) hx hb dX6_heads_5 (by decide) h (fun h => ?_) (fun h => ?_)
  · exact wX6_heads_16 hst C0  M1 _ _ _ hw (lv_sub hl [0] rfl) h
  · refine lv_aload_n hx hb dX6_heads_8 rfl (lv_at hl 0 rfl) ?_
    refine lv_iload_n hx hb dX6_heads_9 rfl (lv_at hl 2 rfl) ?_
    refine q_callVNi (As := [.int a1]) (nA := 1) C0 hw at_Mod rfl (fun r1 h1 => ctX6_isTask hst h1) gX6_heads_X6_isTask rfl ⟨rfl, rfl⟩ (by decide +kernel) rfl ⟨(Nat.le_of_ble_eq_true rfl), (Nat.le_of_ble_eq_true rfl)⟩ hl.1 (Nat.le_of_ble_eq_true rfl) ⟨(Nat.le_of_ble_eq_true rfl), (Nat.le_of_ble_eq_true rfl)⟩ rfl h dX6_heads_10 (fun M3 z4 H locs hw h => ?_)
    refine q_if_ne (tgt := 22) hx hb dX6_heads_13 (by decide) h (fun h => ?_) (fun h => ?_)
    · refine lv_iconst (v := 0) hx hb dX6_heads_22 (by decide) ?_
      refine q_istore_n (lv' := fun z5 => [(3, .int z5), (0, .ref (ad 427)), (1, .int a0), (2, .int a1)]) hx hb dX6_heads_23 rfl hl (by decide) (fun _ => rfl) h (fun z5 ls hl h => ?_)
      refine lv_iconst (v := 0) hx hb dX6_heads_24 (by decide) ?_
      refine q_istore (lv' := fun z6 => [(4, .int z6), (3, .int z5), (0, .ref (ad 427)), (1, .int a0), (2, .int a1)]) hx hb dX6_heads_25 hl (by decide) (fun _ => rfl) h (fun z6 ls hl h => ?_)
      exact wX6_heads_27 hst C0  F M3 a0 a1 z5 z6 _ _ _ hw (lv_sub hl [2, 3, 4, 1, 0] rfl) h
    · exact wX6_heads_16 hst C0  M3 _ _ _ hw (lv_sub hl [0] rfl) h
/-! HomewatcherModel.common(II)I -/
abbrev rmX6_common : Room := { frames := 0, cells := 0, slots := 0, locals := 0 }
def fX6_common_63 (F : Nat) (k19 : Mem → Int32 → Int32 → Int32 → Int32 → Int32 → Option (Mem × Int32)) (M : Mem) (s0 : Int32) (s1 : Int32) (v1 : Int32) (v2 : Int32) (v4 : Int32) (v5 : Int32) : Option (Mem × Int32) :=
    q_lt (s1 + s0) fun z1 =>
    q_lt (v5 + (1 : Int32)) fun z2 =>
    k19 M v1 v2 z1 v4 z2
set_option maxHeartbeats 4000000 in
set_option maxRecDepth 100000 in
theorem wX6_common_63 {p : Program} {l : Launch} {e : Env} {s : State} {m : MethodId} {args : Array Value} {below : List Frame} {meth : Method} {c : Code} {D : va_G} {cy : Nat → ClassId} {ad : Nat → Nat} {x : XX} {F : Nat} {r : Mem × Int32} (hst : l.stackTraces = false) (C0 : MX p l s m args meth c D cy ad cX6_common RX6 6 wsX6_common (some .int)) {k19 : Mem → Int32 → Int32 → Int32 → Int32 → Int32 → Option (Mem × Int32)} (hk19 : ∀ (M : Mem) (v1 : Int32) (v2 : Int32) (v3 : Int32) (v4 : Int32) (v5 : Int32) (H : Heap) (locs : List Loc) (ls : Array Slot), Wd D cy ad x s M H locs → lv_has ls 6 [(0, .ref (ad 427)), (1, .int v1), (2, .int v2), (3, .int v3), (4, .int v4), (5, .int v5)] → k19 M v1 v2 v3 v4 v5 = some r → W p l e rmX6_common s m args below meth c H locs 0 0 (QN D cy ad below args s x q_vi r 0 0) (F0 m 19 ls [])) : ∀ (M : Mem) (s0 : Int32) (s1 : Int32) (v1 : Int32) (v2 : Int32) (v4 : Int32) (v5 : Int32) (H : Heap) (locs : List Loc) (ls : Array Slot), Wd D cy ad x s M H locs → lv_has ls 6 [(0, .ref (ad 427)), (1, .int v1), (2, .int v2), (4, .int v4), (5, .int v5)] → fX6_common_63 F k19 M s0 s1 v1 v2 v4 v5 = some r → W p l e rmX6_common s m args below meth c H locs 0 0 (QN D cy ad below args s x q_vi r 0 0) (F0 m 63 ls [.int s0, .int s1]) := by
  obtain ⟨hx, hb, hml, hown, hts, -⟩ := id C0
  intro M s0 s1 v1 v2 v4 v5 H locs ls hw hl h
  unfold fX6_common_63 at h
  refine lv_iadd hx hb dX6_common_63 ?_
  refine q_istore_n (lv' := fun z1 => [(3, .int z1), (0, .ref (ad 427)), (1, .int v1), (2, .int v2), (4, .int v4), (5, .int v5)]) hx hb dX6_common_64 rfl hl (by decide) (fun _ => rfl) h (fun z1 ls hl h => ?_)
  refine q_iinc (k := 5) (cst := 1) (lv' := fun z2 => [(5, .int z2), (3, .int z1), (0, .ref (ad 427)), (1, .int v1), (2, .int v2), (4, .int v4)]) hx hb dX6_common_65 hl rfl rfl (by decide) (fun _ => rfl) h (fun z2 ls hl h => ?_)
  refine lv_goto (tgt := 19) hx hb dX6_common_68 (by decide) ?_
  exact hk19 M v1 v2 z1 v4 z2 _ _ _ hw (lv_sub hl [2, 3, 4, 1, 5, 0] rfl) h
def fX6_common_19 (F : Nat) (k5 : Mem → Int32 → Int32 → Int32 → Int32 → Option (Mem × Int32)) : Nat → Mem → Int32 → Int32 → Int32 → Int32 → Int32 → Option (Mem × Int32)
  | 0, _, _, _, _, _, _ => none
  | n + 1, M, v1, v2, v3, v4, v5 =>
    q_ax v2 60 fun j1 =>
    if (M 44 0 j1) ≤ v5 then
    (q_lt (v4 + (1 : Int32)) fun z2 =>
    k5 M v1 v2 v3 z2)
    else
    (q_ax (((40 : Int32) * v1) + v4) 2400 fun j2 =>
    q_ax (((40 : Int32) * v2) + v5) 2400 fun j3 =>
    if (M 43 0 j2) = (M 43 0 j3) then
    (fX6_common_63 F (fX6_common_19 F k5 n) M (1 : Int32) v3 v1 v2 v4 v5)
    else
    (fX6_common_63 F (fX6_common_19 F k5 n) M (0 : Int32) v3 v1 v2 v4 v5))
set_option maxHeartbeats 4000000 in
set_option maxRecDepth 100000 in
theorem wX6_common_19 {p : Program} {l : Launch} {e : Env} {s : State} {m : MethodId} {args : Array Value} {below : List Frame} {meth : Method} {c : Code} {D : va_G} {cy : Nat → ClassId} {ad : Nat → Nat} {x : XX} {F : Nat} {r : Mem × Int32} (hst : l.stackTraces = false) (C0 : MX p l s m args meth c D cy ad cX6_common RX6 6 wsX6_common (some .int)) {k5 : Mem → Int32 → Int32 → Int32 → Int32 → Option (Mem × Int32)} (hk5 : ∀ (M : Mem) (v1 : Int32) (v2 : Int32) (v3 : Int32) (v4 : Int32) (H : Heap) (locs : List Loc) (ls : Array Slot), Wd D cy ad x s M H locs → lv_has ls 6 [(0, .ref (ad 427)), (1, .int v1), (2, .int v2), (3, .int v3), (4, .int v4)] → k5 M v1 v2 v3 v4 = some r → W p l e rmX6_common s m args below meth c H locs 0 0 (QN D cy ad below args s x q_vi r 0 0) (F0 m 5 ls [])) : ∀ (n : Nat) (M : Mem) (v1 : Int32) (v2 : Int32) (v3 : Int32) (v4 : Int32) (v5 : Int32) (H : Heap) (locs : List Loc) (ls : Array Slot), Wd D cy ad x s M H locs → lv_has ls 6 [(0, .ref (ad 427)), (1, .int v1), (2, .int v2), (3, .int v3), (4, .int v4), (5, .int v5)] → fX6_common_19 F k5 n M v1 v2 v3 v4 v5 = some r → W p l e rmX6_common s m args below meth c H locs 0 0 (QN D cy ad below args s x q_vi r 0 0) (F0 m 19 ls []) := by
  obtain ⟨hx, hb, hml, hown, hts, -⟩ := id C0
  intro n
  induction n with
  | zero =>
    intro M v1 v2 v3 v4 v5 H locs ls hw hl h
    exact q_no h
  | succ n ih =>
    intro M v1 v2 v3 v4 v5 H locs ls hw hl h
    unfold fX6_common_19 at h
    refine lv_iload hx hb dX6_common_19 (lv_at hl 5 rfl) ?_
    refine lv_aload_n hx hb dX6_common_21 rfl (lv_at hl 0 rfl) ?_
    refine gf_Mod_shingleCounts C0 hw (fun _ h9 => List.mem_cons_of_mem _ (List.mem_append_left _ (List.mem_append_right _ h9))) (List.mem_of_getElem? (i := 1) rfl) dX6_common_22 ?_
    refine lv_iload_n hx hb dX6_common_25 rfl (lv_at hl 2 rfl) ?_
    refine q_iald C0 hw at_m44 h dX6_common_26 (fun j1 hj1 h => ?_)
    refine q_icmp_ge (tgt := 71) hx hb dX6_common_27 (by decide) h (fun h => ?_) (fun h => ?_)
    · refine q_iinc (k := 4) (cst := 1) (lv' := fun z2 => [(4, .int z2), (0, .ref (ad 427)), (1, .int v1), (2, .int v2), (3, .int v3), (5, .int v5)]) hx hb dX6_common_71 hl rfl rfl (by decide) (fun _ => rfl) h (fun z2 ls hl h => ?_)
      refine lv_goto (tgt := 5) hx hb dX6_common_74 (by decide) ?_
      exact hk5 M v1 v2 v3 z2 _ _ _ hw (lv_sub hl [1, 2, 3, 4, 0] rfl) h
    · refine lv_iload_n hx hb dX6_common_30 rfl (lv_at hl 3 rfl) ?_
      refine lv_aload_n hx hb dX6_common_31 rfl (lv_at hl 0 rfl) ?_
      refine gf_Mod_shingles C0 hw (fun _ h9 => List.mem_cons_of_mem _ (List.mem_append_left _ (List.mem_append_right _ h9))) (List.mem_of_getElem? (i := 2) rfl) dX6_common_32 ?_
      refine lv_bipush (v := 40) hx hb dX6_common_35 (by decide) ?_
      refine lv_iload_n hx hb dX6_common_37 rfl (lv_at hl 1 rfl) ?_
      refine lv_imul hx hb dX6_common_38 ?_
      refine lv_iload hx hb dX6_common_39 (lv_at hl 4 rfl) ?_
      refine lv_iadd hx hb dX6_common_41 ?_
      refine q_iald C0 hw at_m43 h dX6_common_42 (fun j2 hj2 h => ?_)
      refine lv_aload_n hx hb dX6_common_43 rfl (lv_at hl 0 rfl) ?_
      refine gf_Mod_shingles C0 hw (fun _ h9 => List.mem_cons_of_mem _ (List.mem_append_left _ (List.mem_append_right _ h9))) (List.mem_of_getElem? (i := 2) rfl) dX6_common_44 ?_
      refine lv_bipush (v := 40) hx hb dX6_common_47 (by decide) ?_
      refine lv_iload_n hx hb dX6_common_49 rfl (lv_at hl 2 rfl) ?_
      refine lv_imul hx hb dX6_common_50 ?_
      refine lv_iload hx hb dX6_common_51 (lv_at hl 5 rfl) ?_
      refine lv_iadd hx hb dX6_common_53 ?_
      refine q_iald C0 hw at_m43 h dX6_common_54 (fun j3 hj3 h => ?_)
      refine q_icmp_ne (tgt := 62) hx hb dX6_common_55 (by decide) h (fun h => ?_) (fun h => ?_)
      · refine lv_iconst (v := 0) hx hb dX6_common_62 (by decide) ?_
        exact wX6_common_63 hst C0 ih M (0 : Int32) v3 v1 v2 v4 v5 _ _ _ hw (lv_sub hl [0, 1, 2, 4, 5] rfl) h
      · refine lv_iconst (v := 1) hx hb dX6_common_58 (by decide) ?_
        refine lv_goto (tgt := 63) hx hb dX6_common_59 (by decide) ?_
        exact wX6_common_63 hst C0 ih M (1 : Int32) v3 v1 v2 v4 v5 _ _ _ hw (lv_sub hl [0, 1, 2, 4, 5] rfl) h
def fX6_common_5 (F : Nat) : Nat → Mem → Int32 → Int32 → Int32 → Int32 → Option (Mem × Int32)
  | 0, _, _, _, _, _ => none
  | n + 1, M, v1, v2, v3, v4 =>
    q_ax v1 60 fun j1 =>
    if (M 44 0 j1) ≤ v4 then
    (some (M, v3))
    else
    (q_lt ((0 : Int32)) fun z2 =>
    fX6_common_19 F (fX6_common_5 F n) F M v1 v2 v3 v4 z2)
set_option maxHeartbeats 4000000 in
set_option maxRecDepth 100000 in
theorem wX6_common_5 {p : Program} {l : Launch} {e : Env} {s : State} {m : MethodId} {args : Array Value} {below : List Frame} {meth : Method} {c : Code} {D : va_G} {cy : Nat → ClassId} {ad : Nat → Nat} {x : XX} {F : Nat} {r : Mem × Int32} (hst : l.stackTraces = false) (C0 : MX p l s m args meth c D cy ad cX6_common RX6 6 wsX6_common (some .int)) : ∀ (n : Nat) (M : Mem) (v1 : Int32) (v2 : Int32) (v3 : Int32) (v4 : Int32) (H : Heap) (locs : List Loc) (ls : Array Slot), Wd D cy ad x s M H locs → lv_has ls 6 [(0, .ref (ad 427)), (1, .int v1), (2, .int v2), (3, .int v3), (4, .int v4)] → fX6_common_5 F n M v1 v2 v3 v4 = some r → W p l e rmX6_common s m args below meth c H locs 0 0 (QN D cy ad below args s x q_vi r 0 0) (F0 m 5 ls []) := by
  obtain ⟨hx, hb, hml, hown, hts, -⟩ := id C0
  intro n
  induction n with
  | zero =>
    intro M v1 v2 v3 v4 H locs ls hw hl h
    exact q_no h
  | succ n ih =>
    intro M v1 v2 v3 v4 H locs ls hw hl h
    unfold fX6_common_5 at h
    refine lv_iload hx hb dX6_common_5 (lv_at hl 4 rfl) ?_
    refine lv_aload_n hx hb dX6_common_7 rfl (lv_at hl 0 rfl) ?_
    refine gf_Mod_shingleCounts C0 hw (fun _ h9 => List.mem_cons_of_mem _ (List.mem_append_left _ (List.mem_append_right _ h9))) (List.mem_of_getElem? (i := 1) rfl) dX6_common_8 ?_
    refine lv_iload_n hx hb dX6_common_11 rfl (lv_at hl 1 rfl) ?_
    refine q_iald C0 hw at_m44 h dX6_common_12 (fun j1 hj1 h => ?_)
    refine q_icmp_ge (tgt := 77) hx hb dX6_common_13 (by decide) h (fun h => ?_) (fun h => ?_)
    · refine lv_iload_n hx hb dX6_common_77 rfl (lv_at hl 3 rfl) ?_
      exact q_iretN C0 hw h ⟨(Nat.le_of_ble_eq_true rfl), (Nat.le_of_ble_eq_true rfl)⟩ dX6_common_78
    · refine lv_iconst (v := 0) hx hb dX6_common_16 (by decide) ?_
      refine q_istore (lv' := fun z2 => [(5, .int z2), (0, .ref (ad 427)), (1, .int v1), (2, .int v2), (3, .int v3), (4, .int v4)]) hx hb dX6_common_17 hl (by decide) (fun _ => rfl) h (fun z2 ls hl h => ?_)
      exact wX6_common_19 hst C0 ih F M v1 v2 v3 v4 z2 _ _ _ hw (lv_sub hl [1, 2, 3, 4, 5, 0] rfl) h
def fX6_common (F : Nat) (M : Mem) (a0 : Int32) (a1 : Int32) : Option (Mem × Int32) :=
    q_lt ((0 : Int32)) fun z1 =>
    q_lt ((0 : Int32)) fun z2 =>
    fX6_common_5 F F M a0 a1 z1 z2
set_option maxHeartbeats 4000000 in
set_option maxRecDepth 100000 in
theorem ctX6_common {l : Launch} (hst : l.stackTraces = false) {D : va_G} {cy : Nat → ClassId} {ad : Nat → Nat} {x : XX} {F : Nat} {M : Mem} {a0 : Int32} {a1 : Int32} {r : Mem × Int32} (h : fX6_common F M a0 a1 = some r) : CN l yX6_common wsX6_common rmX6_common D cy ad [.ref (ad 427), .int a0, .int a1] x M x r.1 (q_vi r.2) 0 0 := by
  refine q_startN (cc := cX6_common) (maxL := 6) (ret := (some .int)) (by decide) rfl (Nat.le_of_ble_eq_true rfl) ?_
  intro p e s m args below meth c ls C0 hw hl hnm
  obtain ⟨hx, hb, hml, hown, hts, -⟩ := id C0
  have C0 : MX p l s m args meth c D cy ad cX6_common RX6 6 wsX6_common ((some .int)) := C0
  have hown : s.vm.findClass RX6 = some m.cls := hown
  have hl : lv_has ls 6 [(0, .ref (ad 427)), (1, .int a0), (2, .int a1)] := hl
  show W p l e rmX6_common s m args below meth c s.heap [] 0 0 (QN D cy ad below args s x q_vi r 0 0) (F0 m 0 ls [])
  unfold fX6_common at h
  refine lv_iconst (v := 0) hx hb dX6_common_0 (by decide) ?_
  refine q_istore_n (lv' := fun z1 => [(3, .int z1), (0, .ref (ad 427)), (1, .int a0), (2, .int a1)]) hx hb dX6_common_1 rfl hl (by decide) (fun _ => rfl) h (fun z1 ls hl h => ?_)
  refine lv_iconst (v := 0) hx hb dX6_common_2 (by decide) ?_
  refine q_istore (lv' := fun z2 => [(4, .int z2), (3, .int z1), (0, .ref (ad 427)), (1, .int a0), (2, .int a1)]) hx hb dX6_common_3 hl (by decide) (fun _ => rfl) h (fun z2 ls hl h => ?_)
  exact wX6_common_5 hst C0  F M a0 a1 z1 z2 _ _ _ hw (lv_sub hl [2, 3, 4, 1, 0] rfl) h
/-! HomewatcherModel.isHit(II)Z -/
abbrev rmX6_isHit : Room := { frames := 1, cells := 0, slots := 0, locals := 25 }
def fX6_isHit_43 (F : Nat) (M : Mem) (s0 : Int32) : Option (Mem × Int32) :=
    q_gd (q_isZ s0) (
    some (M, s0))
set_option maxHeartbeats 4000000 in
set_option maxRecDepth 100000 in
theorem wX6_isHit_43 {p : Program} {l : Launch} {e : Env} {s : State} {m : MethodId} {args : Array Value} {below : List Frame} {meth : Method} {c : Code} {D : va_G} {cy : Nat → ClassId} {ad : Nat → Nat} {x : XX} {F : Nat} {r : Mem × Int32} (hst : l.stackTraces = false) (C0 : MX p l s m args meth c D cy ad cX6_isHit RX6 3 wsX6_isHit (some .boolean)) : ∀ (M : Mem) (s0 : Int32) (H : Heap) (locs : List Loc) (ls : Array Slot), Wd D cy ad x s M H locs → lv_has ls 3 [] → fX6_isHit_43 F M s0 = some r → W p l e rmX6_isHit s m args below meth c H locs 0 0 (QN D cy ad below args s x q_vi r 0 0) (F0 m 43 ls [.int s0]) := by
  obtain ⟨hx, hb, hml, hown, hts, -⟩ := id C0
  intro M s0 H locs ls hw hl h
  unfold fX6_isHit_43 at h
  refine q_guard h (fun g h => ?_)
  exact q_zretN C0 hw (q_isZ_in g) h ⟨(Nat.le_of_ble_eq_true rfl), (Nat.le_of_ble_eq_true rfl)⟩ dX6_isHit_43
def fX6_isHit_42 (F : Nat) (M : Mem) : Option (Mem × Int32) :=
    fX6_isHit_43 F M (0 : Int32)
set_option maxHeartbeats 4000000 in
set_option maxRecDepth 100000 in
theorem wX6_isHit_42 {p : Program} {l : Launch} {e : Env} {s : State} {m : MethodId} {args : Array Value} {below : List Frame} {meth : Method} {c : Code} {D : va_G} {cy : Nat → ClassId} {ad : Nat → Nat} {x : XX} {F : Nat} {r : Mem × Int32} (hst : l.stackTraces = false) (C0 : MX p l s m args meth c D cy ad cX6_isHit RX6 3 wsX6_isHit (some .boolean)) : ∀ (M : Mem) (H : Heap) (locs : List Loc) (ls : Array Slot), Wd D cy ad x s M H locs → lv_has ls 3 [] → fX6_isHit_42 F M = some r → W p l e rmX6_isHit s m args below meth c H locs 0 0 (QN D cy ad below args s x q_vi r 0 0) (F0 m 42 ls []) := by
  obtain ⟨hx, hb, hml, hown, hts, -⟩ := id C0
  intro M H locs ls hw hl h
  unfold fX6_isHit_42 at h
  refine lv_iconst (v := 0) hx hb dX6_isHit_42 (by decide) ?_
  exact wX6_isHit_43 hst C0  M (0 : Int32) _ _ _ hw (lv_sub hl [] rfl) h
def fX6_isHit (F : Nat) (M : Mem) (a0 : Int32) (a1 : Int32) : Option (Mem × Int32) :=
    q_ax a1 60 fun j1 =>
    if (M 38 0 j1) = (1 : Int32) then
    (q_ax a1 60 fun j2 =>
    q_ax a0 60 fun j3 =>
    if (M 33 0 j2) = (M 33 0 j3) then
    (fX6_isHit_42 F M)
    else
    (q_bn (fX6_common F M a0 a1) fun M4 z5 =>
    if z5 < (M4 68 0 0) then
    (fX6_isHit_42 F M4)
    else
    (fX6_isHit_43 F M4 (1 : Int32))))
    else
    (fX6_isHit_42 F M)
set_option maxHeartbeats 4000000 in
set_option maxRecDepth 100000 in
theorem ctX6_isHit {l : Launch} (hst : l.stackTraces = false) {D : va_G} {cy : Nat → ClassId} {ad : Nat → Nat} {x : XX} {F : Nat} {M : Mem} {a0 : Int32} {a1 : Int32} {r : Mem × Int32} (h : fX6_isHit F M a0 a1 = some r) : CN l yX6_isHit wsX6_isHit rmX6_isHit D cy ad [.ref (ad 427), .int a0, .int a1] x M x r.1 (q_vi r.2) 0 0 := by
  refine q_startN (cc := cX6_isHit) (maxL := 3) (ret := (some .boolean)) (by decide) rfl (Nat.le_of_ble_eq_true rfl) ?_
  intro p e s m args below meth c ls C0 hw hl hnm
  obtain ⟨hx, hb, hml, hown, hts, -⟩ := id C0
  have C0 : MX p l s m args meth c D cy ad cX6_isHit RX6 3 wsX6_isHit ((some .boolean)) := C0
  have hown : s.vm.findClass RX6 = some m.cls := hown
  have hl : lv_has ls 3 [(0, .ref (ad 427)), (1, .int a0), (2, .int a1)] := hl
  show W p l e rmX6_isHit s m args below meth c s.heap [] 0 0 (QN D cy ad below args s x q_vi r 0 0) (F0 m 0 ls [])
  unfold fX6_isHit at h
  refine lv_aload_n hx hb dX6_isHit_0 rfl (lv_at hl 0 rfl) ?_
  refine gf_Mod_states C0 hw (fun _ h9 => List.mem_cons_of_mem _ (List.mem_append_left _ (List.mem_append_right _ h9))) (List.mem_of_getElem? (i := 1) rfl) dX6_isHit_1 ?_
  refine lv_iload_n hx hb dX6_isHit_4 rfl (lv_at hl 2 rfl) ?_
  refine q_iald C0 hw at_m38 h dX6_isHit_5 (fun j1 hj1 h => ?_)
  refine lv_iconst (v := 1) hx hb dX6_isHit_6 (by decide) ?_
  refine q_icmp_ne (tgt := 42) hx hb dX6_isHit_7 (by decide) h (fun h => ?_) (fun h => ?_)
  · exact wX6_isHit_42 hst C0  M _ _ _ hw (lv_sub hl [] rfl) h
  · refine lv_aload_n hx hb dX6_isHit_10 rfl (lv_at hl 0 rfl) ?_
    refine gf_Mod_pupilOf C0 hw (fun _ h9 => List.mem_cons_of_mem _ (List.mem_append_left _ (List.mem_append_right _ h9))) (List.mem_of_getElem? (i := 2) rfl) dX6_isHit_11 ?_
    refine lv_iload_n hx hb dX6_isHit_14 rfl (lv_at hl 2 rfl) ?_
    refine q_iald C0 hw at_m33 h dX6_isHit_15 (fun j2 hj2 h => ?_)
    refine lv_aload_n hx hb dX6_isHit_16 rfl (lv_at hl 0 rfl) ?_
    refine gf_Mod_pupilOf C0 hw (fun _ h9 => List.mem_cons_of_mem _ (List.mem_append_left _ (List.mem_append_right _ h9))) (List.mem_of_getElem? (i := 2) rfl) dX6_isHit_17 ?_
    refine lv_iload_n hx hb dX6_isHit_20 rfl (lv_at hl 1 rfl) ?_
    refine q_iald C0 hw at_m33 h dX6_isHit_21 (fun j3 hj3 h => ?_)
    refine q_icmp_eq (tgt := 42) hx hb dX6_isHit_22 (by decide) h (fun h => ?_) (fun h => ?_)
    · exact wX6_isHit_42 hst C0  M _ _ _ hw (lv_sub hl [] rfl) h
    · refine lv_aload_n hx hb dX6_isHit_25 rfl (lv_at hl 0 rfl) ?_
      refine lv_iload_n hx hb dX6_isHit_26 rfl (lv_at hl 1 rfl) ?_
      refine lv_iload_n hx hb dX6_isHit_27 rfl (lv_at hl 2 rfl) ?_
      refine q_callVNi (As := [.int a0, .int a1]) (nA := 2) C0 hw at_Mod rfl (fun r1 h1 => ctX6_common hst h1) gX6_isHit_X6_common rfl ⟨rfl, rfl⟩ (by decide +kernel) rfl ⟨(Nat.le_of_ble_eq_true rfl), (Nat.le_of_ble_eq_true rfl)⟩ hl.1 (Nat.le_of_ble_eq_true rfl) ⟨(Nat.le_of_ble_eq_true rfl), (Nat.le_of_ble_eq_true rfl)⟩ rfl h dX6_isHit_28 (fun M4 z5 H locs hw h => ?_)
      refine lv_aload_n hx hb dX6_isHit_31 rfl (lv_at hl 0 rfl) ?_
      refine gf_Mod_threshold C0 hw (fun _ h9 => List.mem_cons_of_mem _ (List.mem_append_left _ (List.mem_append_right _ h9))) (List.mem_of_getElem? (i := 3) rfl) dX6_isHit_32 ?_
      refine q_icmp_lt (tgt := 42) hx hb dX6_isHit_35 (by decide) h (fun h => ?_) (fun h => ?_)
      · exact wX6_isHit_42 hst C0  M4 _ _ _ hw (lv_sub hl [] rfl) h
      · refine lv_iconst (v := 1) hx hb dX6_isHit_38 (by decide) ?_
        refine lv_goto (tgt := 43) hx hb dX6_isHit_39 (by decide) ?_
        exact wX6_isHit_43 hst C0  M4 (1 : Int32) _ _ _ hw (lv_sub hl [] rfl) h
/-! HomewatcherModel.hand(I)I -/
abbrev rmX6_hand : Room := { frames := 2, cells := 0, slots := 0, locals := 47 }
def fX6_hand_155 (F : Nat) (k83 : Mem → Int32 → Int32 → Int32 → Option (Mem × Int32)) (M : Mem) (v1 : Int32) (v2 : Int32) (v3 : Int32) : Option (Mem × Int32) :=
    q_lt (v3 + (1 : Int32)) fun z1 =>
    k83 M v1 v2 z1
set_option maxHeartbeats 4000000 in
set_option maxRecDepth 100000 in
theorem wX6_hand_155 {p : Program} {l : Launch} {e : Env} {s : State} {m : MethodId} {args : Array Value} {below : List Frame} {meth : Method} {c : Code} {D : va_G} {cy : Nat → ClassId} {ad : Nat → Nat} {x : XX} {F : Nat} {r : Mem × Int32} (hst : l.stackTraces = false) (C0 : MX p l s m args meth c D cy ad cX6_hand RX6 4 wsX6_hand (some .int)) {k83 : Mem → Int32 → Int32 → Int32 → Option (Mem × Int32)} (hk83 : ∀ (M : Mem) (v1 : Int32) (v2 : Int32) (v3 : Int32) (H : Heap) (locs : List Loc) (ls : Array Slot), Wd D cy ad x s M H locs → lv_has ls 4 [(0, .ref (ad 427)), (1, .int v1), (2, .int v2), (3, .int v3)] → k83 M v1 v2 v3 = some r → W p l e rmX6_hand s m args below meth c H locs 0 0 (QN D cy ad below args s x q_vi r 0 0) (F0 m 83 ls [])) : ∀ (M : Mem) (v1 : Int32) (v2 : Int32) (v3 : Int32) (H : Heap) (locs : List Loc) (ls : Array Slot), Wd D cy ad x s M H locs → lv_has ls 4 [(0, .ref (ad 427)), (1, .int v1), (2, .int v2), (3, .int v3)] → fX6_hand_155 F k83 M v1 v2 v3 = some r → W p l e rmX6_hand s m args below meth c H locs 0 0 (QN D cy ad below args s x q_vi r 0 0) (F0 m 155 ls []) := by
  obtain ⟨hx, hb, hml, hown, hts, -⟩ := id C0
  intro M v1 v2 v3 H locs ls hw hl h
  unfold fX6_hand_155 at h
  refine q_iinc (k := 3) (cst := 1) (lv' := fun z1 => [(3, .int z1), (0, .ref (ad 427)), (1, .int v1), (2, .int v2)]) hx hb dX6_hand_155 hl rfl rfl (by decide) (fun _ => rfl) h (fun z1 ls hl h => ?_)
  refine lv_goto (tgt := 83) hx hb dX6_hand_158 (by decide) ?_
  exact hk83 M v1 v2 z1 _ _ _ hw (lv_sub hl [1, 2, 3, 0] rfl) h
def fX6_hand_83 (F : Nat) : Nat → Mem → Int32 → Int32 → Int32 → Option (Mem × Int32)
  | 0, _, _, _, _ => none
  | n + 1, M, v1, v2, v3 =>
    if (M 64 0 0) ≤ v3 then
    (q_ax v1 60 fun j1 =>
    q_lt (up M 38 0 j1 (1 : Int32)) fun M2 =>
    q_ax v1 60 fun j3 =>
    q_lt (up M2 39 0 j3 (M2 60 0 0)) fun M4 =>
    q_lt (up M4 67 0 0 ((M4 67 0 0) + (1 : Int32))) fun M5 =>
    q_ax v1 60 fun j6 =>
    q_lt (up M5 40 0 j6 (M5 67 0 0)) fun M7 =>
    q_bn (fX6_tells F M7 v2) fun M8 z9 =>
    some (M8, z9))
    else
    (q_bn (fX6_isHit F M v1 v3) fun M1 z2 =>
    if z2 = (0 : Int32) then
    (fX6_hand_155 F (fX6_hand_83 F n) M1 v1 v2 v3)
    else
    (q_ax (M1 66 0 0) 40 fun j3 =>
    q_lt (up M1 45 0 j3 v1) fun M4 =>
    q_ax (M4 66 0 0) 40 fun j5 =>
    q_lt (up M4 46 0 j5 v3) fun M6 =>
    q_bn (fX6_common F M6 v1 v3) fun M7 z8 =>
    q_ax (M6 66 0 0) 40 fun j9 =>
    q_lt (up M7 47 0 j9 z8) fun M10 =>
    q_ax (M10 66 0 0) 40 fun j11 =>
    q_lt (up M10 48 0 j11 (-1 : Int32)) fun M12 =>
    q_lt (up M12 66 0 0 ((M12 66 0 0) + (1 : Int32))) fun M13 =>
    fX6_hand_155 F (fX6_hand_83 F n) M13 v1 v2 v3))
set_option maxHeartbeats 4000000 in
set_option maxRecDepth 100000 in
theorem wX6_hand_83 {p : Program} {l : Launch} {e : Env} {s : State} {m : MethodId} {args : Array Value} {below : List Frame} {meth : Method} {c : Code} {D : va_G} {cy : Nat → ClassId} {ad : Nat → Nat} {x : XX} {F : Nat} {r : Mem × Int32} (hst : l.stackTraces = false) (C0 : MX p l s m args meth c D cy ad cX6_hand RX6 4 wsX6_hand (some .int)) : ∀ (n : Nat) (M : Mem) (v1 : Int32) (v2 : Int32) (v3 : Int32) (H : Heap) (locs : List Loc) (ls : Array Slot), Wd D cy ad x s M H locs → lv_has ls 4 [(0, .ref (ad 427)), (1, .int v1), (2, .int v2), (3, .int v3)] → fX6_hand_83 F n M v1 v2 v3 = some r → W p l e rmX6_hand s m args below meth c H locs 0 0 (QN D cy ad below args s x q_vi r 0 0) (F0 m 83 ls []) := by
  obtain ⟨hx, hb, hml, hown, hts, -⟩ := id C0
  intro n
  induction n with
  | zero =>
    intro M v1 v2 v3 H locs ls hw hl h
    exact q_no h
  | succ n ih =>
    intro M v1 v2 v3 H locs ls hw hl h
    unfold fX6_hand_83 at h
    refine lv_iload_n hx hb dX6_hand_83 rfl (lv_at hl 3 rfl) ?_
    refine lv_aload_n hx hb dX6_hand_84 rfl (lv_at hl 0 rfl) ?_
    refine gf_Mod_versions C0 hw (fun _ h9 => List.mem_cons_of_mem _ (List.mem_append_left _ (List.mem_append_right _ h9))) (List.mem_of_getElem? (i := 2) rfl) dX6_hand_85 ?_
    refine q_icmp_ge (tgt := 161) hx hb dX6_hand_88 (by decide) h (fun h => ?_) (fun h => ?_)
    · refine lv_aload_n hx hb dX6_hand_161 rfl (lv_at hl 0 rfl) ?_
      refine gf_Mod_states C0 hw (fun _ h9 => List.mem_cons_of_mem _ (List.mem_append_left _ (List.mem_append_right _ h9))) (List.mem_of_getElem? (i := 1) rfl) dX6_hand_162 ?_
      refine lv_iload_n hx hb dX6_hand_165 rfl (lv_at hl 1 rfl) ?_
      refine lv_iconst (v := 1) hx hb dX6_hand_166 (by decide) ?_
      refine q_iast (v := 38) C0 hw rfl (fun _ => at_m38) h dX6_hand_167 (fun j1 M2 H locs hj1 hw h => ?_)
      refine lv_aload_n hx hb dX6_hand_168 rfl (lv_at hl 0 rfl) ?_
      refine gf_Mod_minutes C0 hw (fun _ h9 => List.mem_cons_of_mem _ (List.mem_append_left _ (List.mem_append_right _ h9))) (List.mem_of_getElem? (i := 8) rfl) dX6_hand_169 ?_
      refine lv_iload_n hx hb dX6_hand_172 rfl (lv_at hl 1 rfl) ?_
      refine lv_aload_n hx hb dX6_hand_173 rfl (lv_at hl 0 rfl) ?_
      refine gf_Mod_now C0 hw (fun _ h9 => List.mem_cons_of_mem _ (List.mem_append_left _ (List.mem_append_right _ h9))) (List.mem_of_getElem? (i := 9) rfl) dX6_hand_174 ?_
      refine q_iast (v := 39) C0 hw rfl (fun _ => at_m39) h dX6_hand_177 (fun j3 M4 H locs hj3 hw h => ?_)
      refine lv_aload_n hx hb dX6_hand_178 rfl (lv_at hl 0 rfl) ?_
      refine lv_dup hx hb dX6_hand_179 rfl ?_
      refine gf_Mod_handed C0 hw (fun _ h9 => List.mem_cons_of_mem _ (List.mem_append_left _ (List.mem_append_right _ h9))) (List.mem_of_getElem? (i := 10) rfl) dX6_hand_180 ?_
      refine lv_iconst (v := 1) hx hb dX6_hand_183 (by decide) ?_
      refine lv_iadd hx hb dX6_hand_184 ?_
      refine pf_Mod_handed C0 hw (fun _ h9 => List.mem_cons_of_mem _ (List.mem_append_left _ (List.mem_append_right _ h9))) (List.mem_of_getElem? (i := 10) rfl) dX6_hand_185 h (fun M5 H locs hw h => ?_)
      refine lv_aload_n hx hb dX6_hand_188 rfl (lv_at hl 0 rfl) ?_
      refine gf_Mod_orders C0 hw (fun _ h9 => List.mem_cons_of_mem _ (List.mem_append_left _ (List.mem_append_right _ h9))) (List.mem_of_getElem? (i := 11) rfl) dX6_hand_189 ?_
      refine lv_iload_n hx hb dX6_hand_192 rfl (lv_at hl 1 rfl) ?_
      refine lv_aload_n hx hb dX6_hand_193 rfl (lv_at hl 0 rfl) ?_
      refine gf_Mod_handed C0 hw (fun _ h9 => List.mem_cons_of_mem _ (List.mem_append_left _ (List.mem_append_right _ h9))) (List.mem_of_getElem? (i := 10) rfl) dX6_hand_194 ?_
      refine q_iast (v := 40) C0 hw rfl (fun _ => at_m40) h dX6_hand_197 (fun j6 M7 H locs hj6 hw h => ?_)
      refine lv_aload_n hx hb dX6_hand_198 rfl (lv_at hl 0 rfl) ?_
      refine lv_iload_n hx hb dX6_hand_199 rfl (lv_at hl 2 rfl) ?_
      refine q_callVNi (As := [.int v2]) (nA := 1) C0 hw at_Mod rfl (fun r1 h1 => ctX6_tells hst h1) gX6_hand_X6_tells rfl ⟨rfl, rfl⟩ (by decide +kernel) rfl ⟨(Nat.le_of_ble_eq_true rfl), (Nat.le_of_ble_eq_true rfl)⟩ hl.1 (Nat.le_of_ble_eq_true rfl) ⟨(Nat.le_of_ble_eq_true rfl), (Nat.le_of_ble_eq_true rfl)⟩ rfl h dX6_hand_200 (fun M8 z9 H locs hw h => ?_)
      exact q_iretN C0 hw h ⟨(Nat.le_of_ble_eq_true rfl), (Nat.le_of_ble_eq_true rfl)⟩ dX6_hand_203
    · refine lv_aload_n hx hb dX6_hand_91 rfl (lv_at hl 0 rfl) ?_
      refine lv_iload_n hx hb dX6_hand_92 rfl (lv_at hl 1 rfl) ?_
      refine lv_iload_n hx hb dX6_hand_93 rfl (lv_at hl 3 rfl) ?_
      refine q_callVNi (As := [.int v1, .int v3]) (nA := 2) C0 hw at_Mod rfl (fun r1 h1 => ctX6_isHit hst h1) gX6_hand_X6_isHit rfl ⟨rfl, rfl⟩ (by decide +kernel) rfl ⟨(Nat.le_of_ble_eq_true rfl), (Nat.le_of_ble_eq_true rfl)⟩ hl.1 (Nat.le_of_ble_eq_true rfl) ⟨(Nat.le_of_ble_eq_true rfl), (Nat.le_of_ble_eq_true rfl)⟩ rfl h dX6_hand_94 (fun M1 z2 H locs hw h => ?_)
      refine q_if_eq (tgt := 155) hx hb dX6_hand_97 (by decide) h (fun h => ?_) (fun h => ?_)
      · exact wX6_hand_155 hst C0 ih M1 v1 v2 v3 _ _ _ hw (lv_sub hl [0, 1, 2, 3] rfl) h
      · refine lv_aload_n hx hb dX6_hand_100 rfl (lv_at hl 0 rfl) ?_
        refine gf_Mod_hitNew C0 hw (fun _ h9 => List.mem_cons_of_mem _ (List.mem_append_left _ (List.mem_append_right _ h9))) (List.mem_of_getElem? (i := 4) rfl) dX6_hand_101 ?_
        refine lv_aload_n hx hb dX6_hand_104 rfl (lv_at hl 0 rfl) ?_
        refine gf_Mod_hits C0 hw (fun _ h9 => List.mem_cons_of_mem _ (List.mem_append_left _ (List.mem_append_right _ h9))) (List.mem_of_getElem? (i := 3) rfl) dX6_hand_105 ?_
        refine lv_iload_n hx hb dX6_hand_108 rfl (lv_at hl 1 rfl) ?_
        refine q_iast (v := 45) C0 hw rfl (fun _ => at_m45) h dX6_hand_109 (fun j3 M4 H locs hj3 hw h => ?_)
        refine lv_aload_n hx hb dX6_hand_110 rfl (lv_at hl 0 rfl) ?_
        refine gf_Mod_hitOld C0 hw (fun _ h9 => List.mem_cons_of_mem _ (List.mem_append_left _ (List.mem_append_right _ h9))) (List.mem_of_getElem? (i := 5) rfl) dX6_hand_111 ?_
        refine lv_aload_n hx hb dX6_hand_114 rfl (lv_at hl 0 rfl) ?_
        refine gf_Mod_hits C0 hw (fun _ h9 => List.mem_cons_of_mem _ (List.mem_append_left _ (List.mem_append_right _ h9))) (List.mem_of_getElem? (i := 3) rfl) dX6_hand_115 ?_
        refine lv_iload_n hx hb dX6_hand_118 rfl (lv_at hl 3 rfl) ?_
        refine q_iast (v := 46) C0 hw rfl (fun _ => at_m46) h dX6_hand_119 (fun j5 M6 H locs hj5 hw h => ?_)
        refine lv_aload_n hx hb dX6_hand_120 rfl (lv_at hl 0 rfl) ?_
        refine gf_Mod_hitCommon C0 hw (fun _ h9 => List.mem_cons_of_mem _ (List.mem_append_left _ (List.mem_append_right _ h9))) (List.mem_of_getElem? (i := 6) rfl) dX6_hand_121 ?_
        refine lv_aload_n hx hb dX6_hand_124 rfl (lv_at hl 0 rfl) ?_
        refine gf_Mod_hits C0 hw (fun _ h9 => List.mem_cons_of_mem _ (List.mem_append_left _ (List.mem_append_right _ h9))) (List.mem_of_getElem? (i := 3) rfl) dX6_hand_125 ?_
        refine lv_aload_n hx hb dX6_hand_128 rfl (lv_at hl 0 rfl) ?_
        refine lv_iload_n hx hb dX6_hand_129 rfl (lv_at hl 1 rfl) ?_
        refine lv_iload_n hx hb dX6_hand_130 rfl (lv_at hl 3 rfl) ?_
        refine q_callVNi (As := [.int v1, .int v3]) (nA := 2) C0 hw at_Mod rfl (fun r1 h1 => ctX6_common hst h1) gX6_hand_X6_common rfl ⟨rfl, rfl⟩ (by decide +kernel) rfl ⟨(Nat.le_of_ble_eq_true rfl), (Nat.le_of_ble_eq_true rfl)⟩ hl.1 (Nat.le_of_ble_eq_true rfl) ⟨(Nat.le_of_ble_eq_true rfl), (Nat.le_of_ble_eq_true rfl)⟩ rfl h dX6_hand_131 (fun M7 z8 H locs hw h => ?_)
        refine q_iast (v := 47) C0 hw rfl (fun _ => at_m47) h dX6_hand_134 (fun j9 M10 H locs hj9 hw h => ?_)
        refine lv_aload_n hx hb dX6_hand_135 rfl (lv_at hl 0 rfl) ?_
        refine gf_Mod_hitHeard C0 hw (fun _ h9 => List.mem_cons_of_mem _ (List.mem_append_left _ (List.mem_append_right _ h9))) (List.mem_of_getElem? (i := 7) rfl) dX6_hand_136 ?_
        refine lv_aload_n hx hb dX6_hand_139 rfl (lv_at hl 0 rfl) ?_
        refine gf_Mod_hits C0 hw (fun _ h9 => List.mem_cons_of_mem _ (List.mem_append_left _ (List.mem_append_right _ h9))) (List.mem_of_getElem? (i := 3) rfl) dX6_hand_140 ?_
        refine lv_iconst (v := -1) hx hb dX6_hand_143 (by decide) ?_
        refine q_iast (v := 48) C0 hw rfl (fun _ => at_m48) h dX6_hand_144 (fun j11 M12 H locs hj11 hw h => ?_)
        refine lv_aload_n hx hb dX6_hand_145 rfl (lv_at hl 0 rfl) ?_
        refine lv_dup hx hb dX6_hand_146 rfl ?_
        refine gf_Mod_hits C0 hw (fun _ h9 => List.mem_cons_of_mem _ (List.mem_append_left _ (List.mem_append_right _ h9))) (List.mem_of_getElem? (i := 3) rfl) dX6_hand_147 ?_
        refine lv_iconst (v := 1) hx hb dX6_hand_150 (by decide) ?_
        refine lv_iadd hx hb dX6_hand_151 ?_
        refine pf_Mod_hits C0 hw (fun _ h9 => List.mem_cons_of_mem _ (List.mem_append_left _ (List.mem_append_right _ h9))) (List.mem_of_getElem? (i := 3) rfl) dX6_hand_152 h (fun M13 H locs hw h => ?_)
        exact wX6_hand_155 hst C0 ih M13 v1 v2 v3 _ _ _ hw (lv_sub hl [0, 1, 2, 3] rfl) h
def fX6_hand_56 (F : Nat) (k33 : Mem → Int32 → Int32 → Int32 → Option (Mem × Int32)) (M : Mem) (s0 : Int32) (s1 : Int32) (v1 : Int32) (v3 : Int32) : Option (Mem × Int32) :=
    q_lt (s1 + s0) fun z1 =>
    q_lt (v3 + (1 : Int32)) fun z2 =>
    k33 M v1 z1 z2
set_option maxHeartbeats 4000000 in
set_option maxRecDepth 100000 in
theorem wX6_hand_56 {p : Program} {l : Launch} {e : Env} {s : State} {m : MethodId} {args : Array Value} {below : List Frame} {meth : Method} {c : Code} {D : va_G} {cy : Nat → ClassId} {ad : Nat → Nat} {x : XX} {F : Nat} {r : Mem × Int32} (hst : l.stackTraces = false) (C0 : MX p l s m args meth c D cy ad cX6_hand RX6 4 wsX6_hand (some .int)) {k33 : Mem → Int32 → Int32 → Int32 → Option (Mem × Int32)} (hk33 : ∀ (M : Mem) (v1 : Int32) (v2 : Int32) (v3 : Int32) (H : Heap) (locs : List Loc) (ls : Array Slot), Wd D cy ad x s M H locs → lv_has ls 4 [(0, .ref (ad 427)), (1, .int v1), (2, .int v2), (3, .int v3)] → k33 M v1 v2 v3 = some r → W p l e rmX6_hand s m args below meth c H locs 0 0 (QN D cy ad below args s x q_vi r 0 0) (F0 m 33 ls [])) : ∀ (M : Mem) (s0 : Int32) (s1 : Int32) (v1 : Int32) (v3 : Int32) (H : Heap) (locs : List Loc) (ls : Array Slot), Wd D cy ad x s M H locs → lv_has ls 4 [(0, .ref (ad 427)), (1, .int v1), (3, .int v3)] → fX6_hand_56 F k33 M s0 s1 v1 v3 = some r → W p l e rmX6_hand s m args below meth c H locs 0 0 (QN D cy ad below args s x q_vi r 0 0) (F0 m 56 ls [.int s0, .int s1]) := by
  obtain ⟨hx, hb, hml, hown, hts, -⟩ := id C0
  intro M s0 s1 v1 v3 H locs ls hw hl h
  unfold fX6_hand_56 at h
  refine lv_iadd hx hb dX6_hand_56 ?_
  refine q_istore_n (lv' := fun z1 => [(2, .int z1), (0, .ref (ad 427)), (1, .int v1), (3, .int v3)]) hx hb dX6_hand_57 rfl hl (by decide) (fun _ => rfl) h (fun z1 ls hl h => ?_)
  refine q_iinc (k := 3) (cst := 1) (lv' := fun z2 => [(3, .int z2), (2, .int z1), (0, .ref (ad 427)), (1, .int v1)]) hx hb dX6_hand_58 hl rfl rfl (by decide) (fun _ => rfl) h (fun z2 ls hl h => ?_)
  refine lv_goto (tgt := 33) hx hb dX6_hand_61 (by decide) ?_
  exact hk33 M v1 z1 z2 _ _ _ hw (lv_sub hl [2, 3, 1, 0] rfl) h
def fX6_hand_33 (F : Nat) : Nat → Mem → Int32 → Int32 → Int32 → Option (Mem × Int32)
  | 0, _, _, _, _ => none
  | n + 1, M, v1, v2, v3 =>
    if (M 64 0 0) ≤ v3 then
    (if ((M 66 0 0) + v2) ≤ (40 : Int32) then
    (q_lt ((0 : Int32)) fun z1 =>
    fX6_hand_83 F F M v1 v2 z1)
    else
    (q_bn (fX6_fails F M (3 : Int32)) fun M1 z2 =>
    some (M1, z2)))
    else
    (q_bn (fX6_isHit F M v1 v3) fun M1 z2 =>
    if z2 = (0 : Int32) then
    (fX6_hand_56 F (fX6_hand_33 F n) M1 (0 : Int32) v2 v1 v3)
    else
    (fX6_hand_56 F (fX6_hand_33 F n) M1 (1 : Int32) v2 v1 v3))
set_option maxHeartbeats 4000000 in
set_option maxRecDepth 100000 in
theorem wX6_hand_33 {p : Program} {l : Launch} {e : Env} {s : State} {m : MethodId} {args : Array Value} {below : List Frame} {meth : Method} {c : Code} {D : va_G} {cy : Nat → ClassId} {ad : Nat → Nat} {x : XX} {F : Nat} {r : Mem × Int32} (hst : l.stackTraces = false) (C0 : MX p l s m args meth c D cy ad cX6_hand RX6 4 wsX6_hand (some .int)) : ∀ (n : Nat) (M : Mem) (v1 : Int32) (v2 : Int32) (v3 : Int32) (H : Heap) (locs : List Loc) (ls : Array Slot), Wd D cy ad x s M H locs → lv_has ls 4 [(0, .ref (ad 427)), (1, .int v1), (2, .int v2), (3, .int v3)] → fX6_hand_33 F n M v1 v2 v3 = some r → W p l e rmX6_hand s m args below meth c H locs 0 0 (QN D cy ad below args s x q_vi r 0 0) (F0 m 33 ls []) := by
  obtain ⟨hx, hb, hml, hown, hts, -⟩ := id C0
  intro n
  induction n with
  | zero =>
    intro M v1 v2 v3 H locs ls hw hl h
    exact q_no h
  | succ n ih =>
    intro M v1 v2 v3 H locs ls hw hl h
    unfold fX6_hand_33 at h
    refine lv_iload_n hx hb dX6_hand_33 rfl (lv_at hl 3 rfl) ?_
    refine lv_aload_n hx hb dX6_hand_34 rfl (lv_at hl 0 rfl) ?_
    refine gf_Mod_versions C0 hw (fun _ h9 => List.mem_cons_of_mem _ (List.mem_append_left _ (List.mem_append_right _ h9))) (List.mem_of_getElem? (i := 2) rfl) dX6_hand_35 ?_
    refine q_icmp_ge (tgt := 64) hx hb dX6_hand_38 (by decide) h (fun h => ?_) (fun h => ?_)
    · refine lv_aload_n hx hb dX6_hand_64 rfl (lv_at hl 0 rfl) ?_
      refine gf_Mod_hits C0 hw (fun _ h9 => List.mem_cons_of_mem _ (List.mem_append_left _ (List.mem_append_right _ h9))) (List.mem_of_getElem? (i := 3) rfl) dX6_hand_65 ?_
      refine lv_iload_n hx hb dX6_hand_68 rfl (lv_at hl 2 rfl) ?_
      refine lv_iadd hx hb dX6_hand_69 ?_
      refine lv_bipush (v := 40) hx hb dX6_hand_70 (by decide) ?_
      refine q_icmp_le (tgt := 81) hx hb dX6_hand_72 (by decide) h (fun h => ?_) (fun h => ?_)
      · refine lv_iconst (v := 0) hx hb dX6_hand_81 (by decide) ?_
        refine q_istore_n (lv' := fun z1 => [(3, .int z1), (0, .ref (ad 427)), (1, .int v1), (2, .int v2)]) hx hb dX6_hand_82 rfl hl (by decide) (fun _ => rfl) h (fun z1 ls hl h => ?_)
        exact wX6_hand_83 hst C0  F M v1 v2 z1 _ _ _ hw (lv_sub hl [1, 2, 3, 0] rfl) h
      · refine lv_aload_n hx hb dX6_hand_75 rfl (lv_at hl 0 rfl) ?_
        refine lv_iconst (v := 3) hx hb dX6_hand_76 (by decide) ?_
        refine q_callVNi (As := [.int ((3 : Int32))]) (nA := 1) C0 hw at_Mod rfl (fun r1 h1 => ctX6_fails hst h1) gX6_hand_X6_fails rfl ⟨rfl, rfl⟩ (by decide +kernel) rfl ⟨(Nat.le_of_ble_eq_true rfl), (Nat.le_of_ble_eq_true rfl)⟩ hl.1 (Nat.le_of_ble_eq_true rfl) ⟨(Nat.le_of_ble_eq_true rfl), (Nat.le_of_ble_eq_true rfl)⟩ rfl h dX6_hand_77 (fun M1 z2 H locs hw h => ?_)
        exact q_iretN C0 hw h ⟨(Nat.le_of_ble_eq_true rfl), (Nat.le_of_ble_eq_true rfl)⟩ dX6_hand_80
    · refine lv_iload_n hx hb dX6_hand_41 rfl (lv_at hl 2 rfl) ?_
      refine lv_aload_n hx hb dX6_hand_42 rfl (lv_at hl 0 rfl) ?_
      refine lv_iload_n hx hb dX6_hand_43 rfl (lv_at hl 1 rfl) ?_
      refine lv_iload_n hx hb dX6_hand_44 rfl (lv_at hl 3 rfl) ?_
      refine q_callVNi (As := [.int v1, .int v3]) (nA := 2) C0 hw at_Mod rfl (fun r1 h1 => ctX6_isHit hst h1) gX6_hand_X6_isHit rfl ⟨rfl, rfl⟩ (by decide +kernel) rfl ⟨(Nat.le_of_ble_eq_true rfl), (Nat.le_of_ble_eq_true rfl)⟩ hl.1 (Nat.le_of_ble_eq_true rfl) ⟨(Nat.le_of_ble_eq_true rfl), (Nat.le_of_ble_eq_true rfl)⟩ rfl h dX6_hand_45 (fun M1 z2 H locs hw h => ?_)
      refine q_if_eq (tgt := 55) hx hb dX6_hand_48 (by decide) h (fun h => ?_) (fun h => ?_)
      · refine lv_iconst (v := 0) hx hb dX6_hand_55 (by decide) ?_
        exact wX6_hand_56 hst C0 ih M1 (0 : Int32) v2 v1 v3 _ _ _ hw (lv_sub hl [0, 1, 3] rfl) h
      · refine lv_iconst (v := 1) hx hb dX6_hand_51 (by decide) ?_
        refine lv_goto (tgt := 56) hx hb dX6_hand_52 (by decide) ?_
        exact wX6_hand_56 hst C0 ih M1 (1 : Int32) v2 v1 v3 _ _ _ hw (lv_sub hl [0, 1, 3] rfl) h
def fX6_hand (F : Nat) (M : Mem) (a0 : Int32) : Option (Mem × Int32) :=
    q_bn (fX6_isVersion F M a0) fun M1 z2 =>
    if z2 = (0 : Int32) then
    (q_bn (fX6_fails F M1 (1 : Int32)) fun M3 z4 =>
    some (M3, z4))
    else
    (q_ax a0 60 fun j3 =>
    if (M1 38 0 j3) = (0 : Int32) then
    (q_lt ((0 : Int32)) fun z4 =>
    q_lt ((0 : Int32)) fun z5 =>
    fX6_hand_33 F F M1 a0 z4 z5)
    else
    (q_bn (fX6_fails F M1 (2 : Int32)) fun M4 z5 =>
    some (M4, z5)))
set_option maxHeartbeats 4000000 in
set_option maxRecDepth 100000 in
theorem ctX6_hand {l : Launch} (hst : l.stackTraces = false) {D : va_G} {cy : Nat → ClassId} {ad : Nat → Nat} {x : XX} {F : Nat} {M : Mem} {a0 : Int32} {r : Mem × Int32} (h : fX6_hand F M a0 = some r) : CN l yX6_hand wsX6_hand rmX6_hand D cy ad [.ref (ad 427), .int a0] x M x r.1 (q_vi r.2) 0 0 := by
  refine q_startN (cc := cX6_hand) (maxL := 4) (ret := (some .int)) (by decide) rfl (Nat.le_of_ble_eq_true rfl) ?_
  intro p e s m args below meth c ls C0 hw hl hnm
  obtain ⟨hx, hb, hml, hown, hts, -⟩ := id C0
  have C0 : MX p l s m args meth c D cy ad cX6_hand RX6 4 wsX6_hand ((some .int)) := C0
  have hown : s.vm.findClass RX6 = some m.cls := hown
  have hl : lv_has ls 4 [(0, .ref (ad 427)), (1, .int a0)] := hl
  show W p l e rmX6_hand s m args below meth c s.heap [] 0 0 (QN D cy ad below args s x q_vi r 0 0) (F0 m 0 ls [])
  unfold fX6_hand at h
  refine lv_aload_n hx hb dX6_hand_0 rfl (lv_at hl 0 rfl) ?_
  refine lv_iload_n hx hb dX6_hand_1 rfl (lv_at hl 1 rfl) ?_
  refine q_callVNi (As := [.int a0]) (nA := 1) C0 hw at_Mod rfl (fun r1 h1 => ctX6_isVersion hst h1) gX6_hand_X6_isVersion rfl ⟨rfl, rfl⟩ (by decide +kernel) rfl ⟨(Nat.le_of_ble_eq_true rfl), (Nat.le_of_ble_eq_true rfl)⟩ hl.1 (Nat.le_of_ble_eq_true rfl) ⟨(Nat.le_of_ble_eq_true rfl), (Nat.le_of_ble_eq_true rfl)⟩ rfl h dX6_hand_2 (fun M1 z2 H locs hw h => ?_)
  refine q_if_ne (tgt := 14) hx hb dX6_hand_5 (by decide) h (fun h => ?_) (fun h => ?_)
  · refine lv_aload_n hx hb dX6_hand_14 rfl (lv_at hl 0 rfl) ?_
    refine gf_Mod_states C0 hw (fun _ h9 => List.mem_cons_of_mem _ (List.mem_append_left _ (List.mem_append_right _ h9))) (List.mem_of_getElem? (i := 1) rfl) dX6_hand_15 ?_
    refine lv_iload_n hx hb dX6_hand_18 rfl (lv_at hl 1 rfl) ?_
    refine q_iald C0 hw at_m38 h dX6_hand_19 (fun j3 hj3 h => ?_)
    refine q_if_eq (tgt := 29) hx hb dX6_hand_20 (by decide) h (fun h => ?_) (fun h => ?_)
    · refine lv_iconst (v := 0) hx hb dX6_hand_29 (by decide) ?_
      refine q_istore_n (lv' := fun z4 => [(2, .int z4), (0, .ref (ad 427)), (1, .int a0)]) hx hb dX6_hand_30 rfl hl (by decide) (fun _ => rfl) h (fun z4 ls hl h => ?_)
      refine lv_iconst (v := 0) hx hb dX6_hand_31 (by decide) ?_
      refine q_istore_n (lv' := fun z5 => [(3, .int z5), (2, .int z4), (0, .ref (ad 427)), (1, .int a0)]) hx hb dX6_hand_32 rfl hl (by decide) (fun _ => rfl) h (fun z5 ls hl h => ?_)
      exact wX6_hand_33 hst C0  F M1 a0 z4 z5 _ _ _ hw (lv_sub hl [2, 3, 1, 0] rfl) h
    · refine lv_aload_n hx hb dX6_hand_23 rfl (lv_at hl 0 rfl) ?_
      refine lv_iconst (v := 2) hx hb dX6_hand_24 (by decide) ?_
      refine q_callVNi (As := [.int ((2 : Int32))]) (nA := 1) C0 hw at_Mod rfl (fun r1 h1 => ctX6_fails hst h1) gX6_hand_X6_fails rfl ⟨rfl, rfl⟩ (by decide +kernel) rfl ⟨(Nat.le_of_ble_eq_true rfl), (Nat.le_of_ble_eq_true rfl)⟩ hl.1 (Nat.le_of_ble_eq_true rfl) ⟨(Nat.le_of_ble_eq_true rfl), (Nat.le_of_ble_eq_true rfl)⟩ rfl h dX6_hand_25 (fun M4 z5 H locs hw h => ?_)
      exact q_iretN C0 hw h ⟨(Nat.le_of_ble_eq_true rfl), (Nat.le_of_ble_eq_true rfl)⟩ dX6_hand_28
  · refine lv_aload_n hx hb dX6_hand_8 rfl (lv_at hl 0 rfl) ?_
    refine lv_iconst (v := 1) hx hb dX6_hand_9 (by decide) ?_
    refine q_callVNi (As := [.int ((1 : Int32))]) (nA := 1) C0 hw at_Mod rfl (fun r1 h1 => ctX6_fails hst h1) gX6_hand_X6_fails rfl ⟨rfl, rfl⟩ (by decide +kernel) rfl ⟨(Nat.le_of_ble_eq_true rfl), (Nat.le_of_ble_eq_true rfl)⟩ hl.1 (Nat.le_of_ble_eq_true rfl) ⟨(Nat.le_of_ble_eq_true rfl), (Nat.le_of_ble_eq_true rfl)⟩ rfl h dX6_hand_10 (fun M3 z4 H locs hw h => ?_)
    exact q_iretN C0 hw h ⟨(Nat.le_of_ble_eq_true rfl), (Nat.le_of_ble_eq_true rfl)⟩ dX6_hand_13
/-! HomewatcherModel.clockOf(I)I -/
abbrev rmX6_clockOf : Room := { frames := 0, cells := 0, slots := 0, locals := 0 }
def fX6_clockOf (F : Nat) (M : Mem) (a0 : Int32) : Option (Mem × Int32) :=
    q_ax a0 10 fun j1 =>
    q_ax (M 27 0 j1) 4 fun j2 =>
    some (M, (M 60 0 0) + (M 25 0 j2))
set_option maxHeartbeats 4000000 in
set_option maxRecDepth 100000 in
theorem ctX6_clockOf {l : Launch} (hst : l.stackTraces = false) {D : va_G} {cy : Nat → ClassId} {ad : Nat → Nat} {x : XX} {F : Nat} {M : Mem} {a0 : Int32} {r : Mem × Int32} (h : fX6_clockOf F M a0 = some r) : CN l yX6_clockOf wsX6_clockOf rmX6_clockOf D cy ad [.ref (ad 427), .int a0] x M x r.1 (q_vi r.2) 0 0 := by
  refine q_startN (cc := cX6_clockOf) (maxL := 2) (ret := (some .int)) (by decide) rfl (Nat.le_of_ble_eq_true rfl) ?_
  intro p e s m args below meth c ls C0 hw hl hnm
  obtain ⟨hx, hb, hml, hown, hts, -⟩ := id C0
  have C0 : MX p l s m args meth c D cy ad cX6_clockOf RX6 2 wsX6_clockOf ((some .int)) := C0
  have hown : s.vm.findClass RX6 = some m.cls := hown
  have hl : lv_has ls 2 [(0, .ref (ad 427)), (1, .int a0)] := hl
  show W p l e rmX6_clockOf s m args below meth c s.heap [] 0 0 (QN D cy ad below args s x q_vi r 0 0) (F0 m 0 ls [])
  unfold fX6_clockOf at h
  refine lv_aload_n hx hb dX6_clockOf_0 rfl (lv_at hl 0 rfl) ?_
  refine gf_Mod_now C0 hw (fun _ h9 => List.mem_cons_of_mem _ (List.mem_append_left _ (List.mem_append_right _ h9))) (List.mem_of_getElem? (i := 1) rfl) dX6_clockOf_1 ?_
  refine lv_aload_n hx hb dX6_clockOf_4 rfl (lv_at hl 0 rfl) ?_
  refine gf_Mod_offsets C0 hw (fun _ h9 => List.mem_cons_of_mem _ (List.mem_append_left _ (List.mem_append_right _ h9))) (List.mem_of_getElem? (i := 2) rfl) dX6_clockOf_5 ?_
  refine lv_aload_n hx hb dX6_clockOf_8 rfl (lv_at hl 0 rfl) ?_
  refine gf_Mod_taskClass C0 hw (fun _ h9 => List.mem_cons_of_mem _ (List.mem_append_left _ (List.mem_append_right _ h9))) (List.mem_of_getElem? (i := 3) rfl) dX6_clockOf_9 ?_
  refine lv_iload_n hx hb dX6_clockOf_12 rfl (lv_at hl 1 rfl) ?_
  refine q_iald C0 hw at_m27 h dX6_clockOf_13 (fun j1 hj1 h => ?_)
  refine q_iald C0 hw at_m25 h dX6_clockOf_14 (fun j2 hj2 h => ?_)
  refine lv_iadd hx hb dX6_clockOf_15 ?_
  exact q_iretN C0 hw h ⟨(Nat.le_of_ble_eq_true rfl), (Nat.le_of_ble_eq_true rfl)⟩ dX6_clockOf_16
/-! HomewatcherModel.countingOf(II)I -/
abbrev rmX6_countingOf : Room := { frames := 0, cells := 0, slots := 0, locals := 0 }
def fX6_countingOf_86 (F : Nat) (k5 : Mem → Int32 → Int32 → Int32 → Int32 → Option (Mem × Int32)) (M : Mem) (s0 : Int32) (v1 : Int32) (v2 : Int32) (v4 : Int32) : Option (Mem × Int32) :=
    q_lt (s0) fun z1 =>
    q_lt (v4 + (1 : Int32)) fun z2 =>
    k5 M v1 v2 z1 z2
set_option maxHeartbeats 4000000 in
set_option maxRecDepth 100000 in
theorem wX6_countingOf_86 {p : Program} {l : Launch} {e : Env} {s : State} {m : MethodId} {args : Array Value} {below : List Frame} {meth : Method} {c : Code} {D : va_G} {cy : Nat → ClassId} {ad : Nat → Nat} {x : XX} {F : Nat} {r : Mem × Int32} (hst : l.stackTraces = false) (C0 : MX p l s m args meth c D cy ad cX6_countingOf RX6 6 wsX6_countingOf (some .int)) {k5 : Mem → Int32 → Int32 → Int32 → Int32 → Option (Mem × Int32)} (hk5 : ∀ (M : Mem) (v1 : Int32) (v2 : Int32) (v3 : Int32) (v4 : Int32) (H : Heap) (locs : List Loc) (ls : Array Slot), Wd D cy ad x s M H locs → lv_has ls 6 [(0, .ref (ad 427)), (1, .int v1), (2, .int v2), (3, .int v3), (4, .int v4)] → k5 M v1 v2 v3 v4 = some r → W p l e rmX6_countingOf s m args below meth c H locs 0 0 (QN D cy ad below args s x q_vi r 0 0) (F0 m 5 ls [])) : ∀ (M : Mem) (s0 : Int32) (v1 : Int32) (v2 : Int32) (v4 : Int32) (H : Heap) (locs : List Loc) (ls : Array Slot), Wd D cy ad x s M H locs → lv_has ls 6 [(0, .ref (ad 427)), (1, .int v1), (2, .int v2), (4, .int v4)] → fX6_countingOf_86 F k5 M s0 v1 v2 v4 = some r → W p l e rmX6_countingOf s m args below meth c H locs 0 0 (QN D cy ad below args s x q_vi r 0 0) (F0 m 86 ls [.int s0]) := by
  obtain ⟨hx, hb, hml, hown, hts, -⟩ := id C0
  intro M s0 v1 v2 v4 H locs ls hw hl h
  unfold fX6_countingOf_86 at h
  refine q_istore_n (lv' := fun z1 => [(3, .int z1), (0, .ref (ad 427)), (1, .int v1), (2, .int v2), (4, .int v4)]) hx hb dX6_countingOf_86 rfl hl (by decide) (fun _ => rfl) h (fun z1 ls hl h => ?_)
  refine q_iinc (k := 4) (cst := 1) (lv' := fun z2 => [(4, .int z2), (3, .int z1), (0, .ref (ad 427)), (1, .int v1), (2, .int v2)]) hx hb dX6_countingOf_87 hl rfl rfl (by decide) (fun _ => rfl) h (fun z2 ls hl h => ?_)
  refine lv_goto (tgt := 5) hx hb dX6_countingOf_90 (by decide) ?_
  exact hk5 M v1 v2 z1 z2 _ _ _ hw (lv_sub hl [2, 3, 4, 1, 0] rfl) h
def fX6_countingOf_85 (F : Nat) (k5 : Mem → Int32 → Int32 → Int32 → Int32 → Option (Mem × Int32)) (M : Mem) (v1 : Int32) (v2 : Int32) (v3 : Int32) (v4 : Int32) : Option (Mem × Int32) :=
    fX6_countingOf_86 F k5 M v3 v1 v2 v4
set_option maxHeartbeats 4000000 in
set_option maxRecDepth 100000 in
theorem wX6_countingOf_85 {p : Program} {l : Launch} {e : Env} {s : State} {m : MethodId} {args : Array Value} {below : List Frame} {meth : Method} {c : Code} {D : va_G} {cy : Nat → ClassId} {ad : Nat → Nat} {x : XX} {F : Nat} {r : Mem × Int32} (hst : l.stackTraces = false) (C0 : MX p l s m args meth c D cy ad cX6_countingOf RX6 6 wsX6_countingOf (some .int)) {k5 : Mem → Int32 → Int32 → Int32 → Int32 → Option (Mem × Int32)} (hk5 : ∀ (M : Mem) (v1 : Int32) (v2 : Int32) (v3 : Int32) (v4 : Int32) (H : Heap) (locs : List Loc) (ls : Array Slot), Wd D cy ad x s M H locs → lv_has ls 6 [(0, .ref (ad 427)), (1, .int v1), (2, .int v2), (3, .int v3), (4, .int v4)] → k5 M v1 v2 v3 v4 = some r → W p l e rmX6_countingOf s m args below meth c H locs 0 0 (QN D cy ad below args s x q_vi r 0 0) (F0 m 5 ls [])) : ∀ (M : Mem) (v1 : Int32) (v2 : Int32) (v3 : Int32) (v4 : Int32) (H : Heap) (locs : List Loc) (ls : Array Slot), Wd D cy ad x s M H locs → lv_has ls 6 [(0, .ref (ad 427)), (1, .int v1), (2, .int v2), (3, .int v3), (4, .int v4)] → fX6_countingOf_85 F k5 M v1 v2 v3 v4 = some r → W p l e rmX6_countingOf s m args below meth c H locs 0 0 (QN D cy ad below args s x q_vi r 0 0) (F0 m 85 ls []) := by
  obtain ⟨hx, hb, hml, hown, hts, -⟩ := id C0
  intro M v1 v2 v3 v4 H locs ls hw hl h
  unfold fX6_countingOf_85 at h
  refine lv_iload_n hx hb dX6_countingOf_85 rfl (lv_at hl 3 rfl) ?_
  exact wX6_countingOf_86 hst C0 hk5 M v3 v1 v2 v4 _ _ _ hw (lv_sub hl [0, 1, 2, 4] rfl) h
def fX6_countingOf_80 (F : Nat) (k5 : Mem → Int32 → Int32 → Int32 → Int32 → Option (Mem × Int32)) (M : Mem) (v1 : Int32) (v2 : Int32) (v4 : Int32) : Option (Mem × Int32) :=
    fX6_countingOf_86 F k5 M v4 v1 v2 v4
set_option maxHeartbeats 4000000 in
set_option maxRecDepth 100000 in
theorem wX6_countingOf_80 {p : Program} {l : Launch} {e : Env} {s : State} {m : MethodId} {args : Array Value} {below : List Frame} {meth : Method} {c : Code} {D : va_G} {cy : Nat → ClassId} {ad : Nat → Nat} {x : XX} {F : Nat} {r : Mem × Int32} (hst : l.stackTraces = false) (C0 : MX p l s m args meth c D cy ad cX6_countingOf RX6 6 wsX6_countingOf (some .int)) {k5 : Mem → Int32 → Int32 → Int32 → Int32 → Option (Mem × Int32)} (hk5 : ∀ (M : Mem) (v1 : Int32) (v2 : Int32) (v3 : Int32) (v4 : Int32) (H : Heap) (locs : List Loc) (ls : Array Slot), Wd D cy ad x s M H locs → lv_has ls 6 [(0, .ref (ad 427)), (1, .int v1), (2, .int v2), (3, .int v3), (4, .int v4)] → k5 M v1 v2 v3 v4 = some r → W p l e rmX6_countingOf s m args below meth c H locs 0 0 (QN D cy ad below args s x q_vi r 0 0) (F0 m 5 ls [])) : ∀ (M : Mem) (v1 : Int32) (v2 : Int32) (v4 : Int32) (H : Heap) (locs : List Loc) (ls : Array Slot), Wd D cy ad x s M H locs → lv_has ls 6 [(0, .ref (ad 427)), (1, .int v1), (2, .int v2), (4, .int v4)] → fX6_countingOf_80 F k5 M v1 v2 v4 = some r → W p l e rmX6_countingOf s m args below meth c H locs 0 0 (QN D cy ad below args s x q_vi r 0 0) (F0 m 80 ls []) := by
  obtain ⟨hx, hb, hml, hown, hts, -⟩ := id C0
  intro M v1 v2 v4 H locs ls hw hl h
  unfold fX6_countingOf_80 at h
  refine lv_iload hx hb dX6_countingOf_80 (lv_at hl 3 rfl) ?_
  refine lv_goto (tgt := 86) hx hb dX6_countingOf_82 (by decide) ?_
  exact wX6_countingOf_86 hst C0 hk5 M v4 v1 v2 v4 _ _ _ hw (lv_sub hl [0, 1, 2, 3] rfl) h
def fX6_countingOf_52 (F : Nat) (k5 : Mem → Int32 → Int32 → Int32 → Int32 → Option (Mem × Int32)) (M : Mem) (s0 : Int32) (v1 : Int32) (v2 : Int32) (v3 : Int32) (v4 : Int32) : Option (Mem × Int32) :=
    q_lt (s0) fun z1 =>
    if z1 = (0 : Int32) then
    (fX6_countingOf_85 F k5 M v1 v2 v3 v4)
    else
    (if v3 = (-1 : Int32) then
    (fX6_countingOf_80 F k5 M v1 v2 v4)
    else
    (q_ax v4 60 fun j2 =>
    q_ax v3 60 fun j3 =>
    if (M 40 0 j2) ≤ (M 40 0 j3) then
    (fX6_countingOf_85 F k5 M v1 v2 v3 v4)
    else
    (fX6_countingOf_80 F k5 M v1 v2 v4)))
set_option maxHeartbeats 4000000 in
set_option maxRecDepth 100000 in
theorem wX6_countingOf_52 {p : Program} {l : Launch} {e : Env} {s : State} {m : MethodId} {args : Array Value} {below : List Frame} {meth : Method} {c : Code} {D : va_G} {cy : Nat → ClassId} {ad : Nat → Nat} {x : XX} {F : Nat} {r : Mem × Int32} (hst : l.stackTraces = false) (C0 : MX p l s m args meth c D cy ad cX6_countingOf RX6 6 wsX6_countingOf (some .int)) {k5 : Mem → Int32 → Int32 → Int32 → Int32 → Option (Mem × Int32)} (hk5 : ∀ (M : Mem) (v1 : Int32) (v2 : Int32) (v3 : Int32) (v4 : Int32) (H : Heap) (locs : List Loc) (ls : Array Slot), Wd D cy ad x s M H locs → lv_has ls 6 [(0, .ref (ad 427)), (1, .int v1), (2, .int v2), (3, .int v3), (4, .int v4)] → k5 M v1 v2 v3 v4 = some r → W p l e rmX6_countingOf s m args below meth c H locs 0 0 (QN D cy ad below args s x q_vi r 0 0) (F0 m 5 ls [])) : ∀ (M : Mem) (s0 : Int32) (v1 : Int32) (v2 : Int32) (v3 : Int32) (v4 : Int32) (H : Heap) (locs : List Loc) (ls : Array Slot), Wd D cy ad x s M H locs → lv_has ls 6 [(0, .ref (ad 427)), (1, .int v1), (2, .int v2), (3, .int v3), (4, .int v4)] → fX6_countingOf_52 F k5 M s0 v1 v2 v3 v4 = some r → W p l e rmX6_countingOf s m args below meth c H locs 0 0 (QN D cy ad below args s x q_vi r 0 0) (F0 m 52 ls [.int s0]) := by
  obtain ⟨hx, hb, hml, hown, hts, -⟩ := id C0
  intro M s0 v1 v2 v3 v4 H locs ls hw hl h
  unfold fX6_countingOf_52 at h
  refine q_istore (lv' := fun z1 => [(5, .int z1), (0, .ref (ad 427)), (1, .int v1), (2, .int v2), (3, .int v3), (4, .int v4)]) hx hb dX6_countingOf_52 hl (by decide) (fun _ => rfl) h (fun z1 ls hl h => ?_)
  refine lv_iload hx hb dX6_countingOf_54 (lv_at hl 0 rfl) ?_
  refine q_if_eq (tgt := 85) hx hb dX6_countingOf_56 (by decide) h (fun h => ?_) (fun h => ?_)
  · exact wX6_countingOf_85 hst C0 hk5 M v1 v2 v3 v4 _ _ _ hw (lv_sub hl [1, 2, 3, 4, 5] rfl) h
  · refine lv_iload_n hx hb dX6_countingOf_59 rfl (lv_at hl 4 rfl) ?_
    refine lv_iconst (v := -1) hx hb dX6_countingOf_60 (by decide) ?_
    refine q_icmp_eq (tgt := 80) hx hb dX6_countingOf_61 (by decide) h (fun h => ?_) (fun h => ?_)
    · exact wX6_countingOf_80 hst C0 hk5 M v1 v2 v4 _ _ _ hw (lv_sub hl [1, 2, 3, 5] rfl) h
    · refine lv_aload_n hx hb dX6_countingOf_64 rfl (lv_at hl 1 rfl) ?_
      refine gf_Mod_orders C0 hw (fun _ h9 => List.mem_cons_of_mem _ (List.mem_append_left _ (List.mem_append_right _ h9))) (List.mem_of_getElem? (i := 5) rfl) dX6_countingOf_65 ?_
      refine lv_iload hx hb dX6_countingOf_68 (lv_at hl 5 rfl) ?_
      refine q_iald C0 hw at_m40 h dX6_countingOf_70 (fun j2 hj2 h => ?_)
      refine lv_aload_n hx hb dX6_countingOf_71 rfl (lv_at hl 1 rfl) ?_
      refine gf_Mod_orders C0 hw (fun _ h9 => List.mem_cons_of_mem _ (List.mem_append_left _ (List.mem_append_right _ h9))) (List.mem_of_getElem? (i := 5) rfl) dX6_countingOf_72 ?_
      refine lv_iload_n hx hb dX6_countingOf_75 rfl (lv_at hl 4 rfl) ?_
      refine q_iald C0 hw at_m40 h dX6_countingOf_76 (fun j3 hj3 h => ?_)
      refine q_icmp_le (tgt := 85) hx hb dX6_countingOf_77 (by decide) h (fun h => ?_) (fun h => ?_)
      · exact wX6_countingOf_85 hst C0 hk5 M v1 v2 v3 v4 _ _ _ hw (lv_sub hl [1, 2, 3, 4, 5] rfl) h
      · exact wX6_countingOf_80 hst C0 hk5 M v1 v2 v4 _ _ _ hw (lv_sub hl [1, 2, 3, 5] rfl) h
def fX6_countingOf_51 (F : Nat) (k5 : Mem → Int32 → Int32 → Int32 → Int32 → Option (Mem × Int32)) (M : Mem) (v1 : Int32) (v2 : Int32) (v3 : Int32) (v4 : Int32) : Option (Mem × Int32) :=
    fX6_countingOf_52 F k5 M (0 : Int32) v1 v2 v3 v4
set_option maxHeartbeats 4000000 in
set_option maxRecDepth 100000 in
theorem wX6_countingOf_51 {p : Program} {l : Launch} {e : Env} {s : State} {m : MethodId} {args : Array Value} {below : List Frame} {meth : Method} {c : Code} {D : va_G} {cy : Nat → ClassId} {ad : Nat → Nat} {x : XX} {F : Nat} {r : Mem × Int32} (hst : l.stackTraces = false) (C0 : MX p l s m args meth c D cy ad cX6_countingOf RX6 6 wsX6_countingOf (some .int)) {k5 : Mem → Int32 → Int32 → Int32 → Int32 → Option (Mem × Int32)} (hk5 : ∀ (M : Mem) (v1 : Int32) (v2 : Int32) (v3 : Int32) (v4 : Int32) (H : Heap) (locs : List Loc) (ls : Array Slot), Wd D cy ad x s M H locs → lv_has ls 6 [(0, .ref (ad 427)), (1, .int v1), (2, .int v2), (3, .int v3), (4, .int v4)] → k5 M v1 v2 v3 v4 = some r → W p l e rmX6_countingOf s m args below meth c H locs 0 0 (QN D cy ad below args s x q_vi r 0 0) (F0 m 5 ls [])) : ∀ (M : Mem) (v1 : Int32) (v2 : Int32) (v3 : Int32) (v4 : Int32) (H : Heap) (locs : List Loc) (ls : Array Slot), Wd D cy ad x s M H locs → lv_has ls 6 [(0, .ref (ad 427)), (1, .int v1), (2, .int v2), (3, .int v3), (4, .int v4)] → fX6_countingOf_51 F k5 M v1 v2 v3 v4 = some r → W p l e rmX6_countingOf s m args below meth c H locs 0 0 (QN D cy ad below args s x q_vi r 0 0) (F0 m 51 ls []) := by
  obtain ⟨hx, hb, hml, hown, hts, -⟩ := id C0
  intro M v1 v2 v3 v4 H locs ls hw hl h
  unfold fX6_countingOf_51 at h
  refine lv_iconst (v := 0) hx hb dX6_countingOf_51 (by decide) ?_
  exact wX6_countingOf_52 hst C0 hk5 M (0 : Int32) v1 v2 v3 v4 _ _ _ hw (lv_sub hl [0, 1, 2, 3, 4] rfl) h
def fX6_countingOf_5 (F : Nat) : Nat → Mem → Int32 → Int32 → Int32 → Int32 → Option (Mem × Int32)
  | 0, _, _, _, _, _ => none
  | n + 1, M, v1, v2, v3, v4 =>
    if (M 64 0 0) ≤ v4 then
    (some (M, v3))
    else
    (q_ax v4 60 fun j1 =>
    if (M 38 0 j1) = (1 : Int32) then
    (q_ax v4 60 fun j2 =>
    if (M 33 0 j2) = v1 then
    (q_ax v4 60 fun j3 =>
    if (M 34 0 j3) = v2 then
    (fX6_countingOf_52 F (fX6_countingOf_5 F n) M (1 : Int32) v1 v2 v3 v4)
    else
    (fX6_countingOf_51 F (fX6_countingOf_5 F n) M v1 v2 v3 v4))
    else
    (fX6_countingOf_51 F (fX6_countingOf_5 F n) M v1 v2 v3 v4))
    else
    (fX6_countingOf_51 F (fX6_countingOf_5 F n) M v1 v2 v3 v4))
set_option maxHeartbeats 4000000 in
set_option maxRecDepth 100000 in
theorem wX6_countingOf_5 {p : Program} {l : Launch} {e : Env} {s : State} {m : MethodId} {args : Array Value} {below : List Frame} {meth : Method} {c : Code} {D : va_G} {cy : Nat → ClassId} {ad : Nat → Nat} {x : XX} {F : Nat} {r : Mem × Int32} (hst : l.stackTraces = false) (C0 : MX p l s m args meth c D cy ad cX6_countingOf RX6 6 wsX6_countingOf (some .int)) : ∀ (n : Nat) (M : Mem) (v1 : Int32) (v2 : Int32) (v3 : Int32) (v4 : Int32) (H : Heap) (locs : List Loc) (ls : Array Slot), Wd D cy ad x s M H locs → lv_has ls 6 [(0, .ref (ad 427)), (1, .int v1), (2, .int v2), (3, .int v3), (4, .int v4)] → fX6_countingOf_5 F n M v1 v2 v3 v4 = some r → W p l e rmX6_countingOf s m args below meth c H locs 0 0 (QN D cy ad below args s x q_vi r 0 0) (F0 m 5 ls []) := by
  obtain ⟨hx, hb, hml, hown, hts, -⟩ := id C0
  intro n
  induction n with
  | zero =>
    intro M v1 v2 v3 v4 H locs ls hw hl h
    exact q_no h
  | succ n ih =>
    intro M v1 v2 v3 v4 H locs ls hw hl h
    unfold fX6_countingOf_5 at h
    refine lv_iload hx hb dX6_countingOf_5 (lv_at hl 4 rfl) ?_
    refine lv_aload_n hx hb dX6_countingOf_7 rfl (lv_at hl 0 rfl) ?_
    refine gf_Mod_versions C0 hw (fun _ h9 => List.mem_cons_of_mem _ (List.mem_append_left _ (List.mem_append_right _ h9))) (List.mem_of_getElem? (i := 1) rfl) dX6_countingOf_8 ?_
    refine q_icmp_ge (tgt := 93) hx hb dX6_countingOf_11 (by decide) h (fun h => ?_) (fun h => ?_)
    · refine lv_iload_n hx hb dX6_countingOf_93 rfl (lv_at hl 3 rfl) ?_
      exact q_iretN C0 hw h ⟨(Nat.le_of_ble_eq_true rfl), (Nat.le_of_ble_eq_true rfl)⟩ dX6_countingOf_94
    · refine lv_aload_n hx hb dX6_countingOf_14 rfl (lv_at hl 0 rfl) ?_
      refine gf_Mod_states C0 hw (fun _ h9 => List.mem_cons_of_mem _ (List.mem_append_left _ (List.mem_append_right _ h9))) (List.mem_of_getElem? (i := 2) rfl) dX6_countingOf_15 ?_
      refine lv_iload hx hb dX6_countingOf_18 (lv_at hl 4 rfl) ?_
      refine q_iald C0 hw at_m38 h dX6_countingOf_20 (fun j1 hj1 h => ?_)
      refine lv_iconst (v := 1) hx hb dX6_countingOf_21 (by decide) ?_
      refine q_icmp_ne (tgt := 51) hx hb dX6_countingOf_22 (by decide) h (fun h => ?_) (fun h => ?_)
      · exact wX6_countingOf_51 hst C0 ih M v1 v2 v3 v4 _ _ _ hw (lv_sub hl [0, 1, 2, 3, 4] rfl) h
      · refine lv_aload_n hx hb dX6_countingOf_25 rfl (lv_at hl 0 rfl) ?_
        refine gf_Mod_pupilOf C0 hw (fun _ h9 => List.mem_cons_of_mem _ (List.mem_append_left _ (List.mem_append_right _ h9))) (List.mem_of_getElem? (i := 3) rfl) dX6_countingOf_26 ?_
        refine lv_iload hx hb dX6_countingOf_29 (lv_at hl 4 rfl) ?_
        refine q_iald C0 hw at_m33 h dX6_countingOf_31 (fun j2 hj2 h => ?_)
        refine lv_iload_n hx hb dX6_countingOf_32 rfl (lv_at hl 1 rfl) ?_
        refine q_icmp_ne (tgt := 51) hx hb dX6_countingOf_33 (by decide) h (fun h => ?_) (fun h => ?_)
        · exact wX6_countingOf_51 hst C0 ih M v1 v2 v3 v4 _ _ _ hw (lv_sub hl [0, 1, 2, 3, 4] rfl) h
        · refine lv_aload_n hx hb dX6_countingOf_36 rfl (lv_at hl 0 rfl) ?_
          refine gf_Mod_taskOf C0 hw (fun _ h9 => List.mem_cons_of_mem _ (List.mem_append_left _ (List.mem_append_right _ h9))) (List.mem_of_getElem? (i := 4) rfl) dX6_countingOf_37 ?_
          refine lv_iload hx hb dX6_countingOf_40 (lv_at hl 4 rfl) ?_
          refine q_iald C0 hw at_m34 h dX6_countingOf_42 (fun j3 hj3 h => ?_)
          refine lv_iload_n hx hb dX6_countingOf_43 rfl (lv_at hl 2 rfl) ?_
          refine q_icmp_ne (tgt := 51) hx hb dX6_countingOf_44 (by decide) h (fun h => ?_) (fun h => ?_)
          · exact wX6_countingOf_51 hst C0 ih M v1 v2 v3 v4 _ _ _ hw (lv_sub hl [0, 1, 2, 3, 4] rfl) h
          · refine lv_iconst (v := 1) hx hb dX6_countingOf_47 (by decide) ?_
            refine lv_goto (tgt := 52) hx hb dX6_countingOf_48 (by decide) ?_
            exact wX6_countingOf_52 hst C0 ih M (1 : Int32) v1 v2 v3 v4 _ _ _ hw (lv_sub hl [0, 1, 2, 3, 4] rfl) h
def fX6_countingOf (F : Nat) (M : Mem) (a0 : Int32) (a1 : Int32) : Option (Mem × Int32) :=
    q_lt ((-1 : Int32)) fun z1 =>
    q_lt ((0 : Int32)) fun z2 =>
    fX6_countingOf_5 F F M a0 a1 z1 z2
set_option maxHeartbeats 4000000 in
set_option maxRecDepth 100000 in
theorem ctX6_countingOf {l : Launch} (hst : l.stackTraces = false) {D : va_G} {cy : Nat → ClassId} {ad : Nat → Nat} {x : XX} {F : Nat} {M : Mem} {a0 : Int32} {a1 : Int32} {r : Mem × Int32} (h : fX6_countingOf F M a0 a1 = some r) : CN l yX6_countingOf wsX6_countingOf rmX6_countingOf D cy ad [.ref (ad 427), .int a0, .int a1] x M x r.1 (q_vi r.2) 0 0 := by
  refine q_startN (cc := cX6_countingOf) (maxL := 6) (ret := (some .int)) (by decide) rfl (Nat.le_of_ble_eq_true rfl) ?_
  intro p e s m args below meth c ls C0 hw hl hnm
  obtain ⟨hx, hb, hml, hown, hts, -⟩ := id C0
  have C0 : MX p l s m args meth c D cy ad cX6_countingOf RX6 6 wsX6_countingOf ((some .int)) := C0
  have hown : s.vm.findClass RX6 = some m.cls := hown
  have hl : lv_has ls 6 [(0, .ref (ad 427)), (1, .int a0), (2, .int a1)] := hl
  show W p l e rmX6_countingOf s m args below meth c s.heap [] 0 0 (QN D cy ad below args s x q_vi r 0 0) (F0 m 0 ls [])
  unfold fX6_countingOf at h
  refine lv_iconst (v := -1) hx hb dX6_countingOf_0 (by decide) ?_
  refine q_istore_n (lv' := fun z1 => [(3, .int z1), (0, .ref (ad 427)), (1, .int a0), (2, .int a1)]) hx hb dX6_countingOf_1 rfl hl (by decide) (fun _ => rfl) h (fun z1 ls hl h => ?_)
  refine lv_iconst (v := 0) hx hb dX6_countingOf_2 (by decide) ?_
  refine q_istore (lv' := fun z2 => [(4, .int z2), (3, .int z1), (0, .ref (ad 427)), (1, .int a0), (2, .int a1)]) hx hb dX6_countingOf_3 hl (by decide) (fun _ => rfl) h (fun z2 ls hl h => ?_)
  exact wX6_countingOf_5 hst C0  F M a0 a1 z1 z2 _ _ _ hw (lv_sub hl [2, 3, 4, 1, 0] rfl) h
/-! HomewatcherModel.withdraw(I)Z -/
abbrev rmX6_withdraw : Room := { frames := 2, cells := 0, slots := 0, locals := 43 }
def fX6_withdraw_96 (F : Nat) (M : Mem) (s0 : Int32) : Option (Mem × Int32) :=
    q_gd (q_isZ s0) (
    some (M, s0))
set_option maxHeartbeats 4000000 in
set_option maxRecDepth 100000 in
theorem wX6_withdraw_96 {p : Program} {l : Launch} {e : Env} {s : State} {m : MethodId} {args : Array Value} {below : List Frame} {meth : Method} {c : Code} {D : va_G} {cy : Nat → ClassId} {ad : Nat → Nat} {x : XX} {F : Nat} {r : Mem × Int32} (hst : l.stackTraces = false) (C0 : MX p l s m args meth c D cy ad cX6_withdraw RX6 2 wsX6_withdraw (some .boolean)) : ∀ (M : Mem) (s0 : Int32) (H : Heap) (locs : List Loc) (ls : Array Slot), Wd D cy ad x s M H locs → lv_has ls 2 [] → fX6_withdraw_96 F M s0 = some r → W p l e rmX6_withdraw s m args below meth c H locs 0 0 (QN D cy ad below args s x q_vi r 0 0) (F0 m 96 ls [.int s0]) := by
  obtain ⟨hx, hb, hml, hown, hts, -⟩ := id C0
  intro M s0 H locs ls hw hl h
  unfold fX6_withdraw_96 at h
  refine q_guard h (fun g h => ?_)
  exact q_zretN C0 hw (q_isZ_in g) h ⟨(Nat.le_of_ble_eq_true rfl), (Nat.le_of_ble_eq_true rfl)⟩ dX6_withdraw_96
def fX6_withdraw_52 (F : Nat) (M : Mem) (s0 : Int32) (v1 : Int32) : Option (Mem × Int32) :=
    q_lt (up M 69 0 0 s0) fun M1 =>
    if (M1 69 0 0) ≤ (0 : Int32) then
    (q_ax v1 60 fun j2 =>
    q_lt (up M1 38 0 j2 (2 : Int32)) fun M3 =>
    q_ax v1 60 fun j4 =>
    q_ax v1 60 fun j5 =>
    q_bn (fX6_countingOf F M3 (M3 33 0 j4) (M3 34 0 j5)) fun M6 z7 =>
    if z7 = (-1 : Int32) then
    (fX6_withdraw_96 F M6 (0 : Int32))
    else
    (fX6_withdraw_96 F M6 (1 : Int32)))
    else
    (some (M1, (0 : Int32)))
set_option maxHeartbeats 4000000 in
set_option maxRecDepth 100000 in
theorem wX6_withdraw_52 {p : Program} {l : Launch} {e : Env} {s : State} {m : MethodId} {args : Array Value} {below : List Frame} {meth : Method} {c : Code} {D : va_G} {cy : Nat → ClassId} {ad : Nat → Nat} {x : XX} {F : Nat} {r : Mem × Int32} (hst : l.stackTraces = false) (C0 : MX p l s m args meth c D cy ad cX6_withdraw RX6 2 wsX6_withdraw (some .boolean)) : ∀ (M : Mem) (s0 : Int32) (v1 : Int32) (H : Heap) (locs : List Loc) (ls : Array Slot), Wd D cy ad x s M H locs → lv_has ls 2 [(0, .ref (ad 427)), (1, .int v1)] → fX6_withdraw_52 F M s0 v1 = some r → W p l e rmX6_withdraw s m args below meth c H locs 0 0 (QN D cy ad below args s x q_vi r 0 0) (F0 m 52 ls [.int s0, .ref (ad 427)]) := by
  obtain ⟨hx, hb, hml, hown, hts, -⟩ := id C0
  intro M s0 v1 H locs ls hw hl h
  unfold fX6_withdraw_52 at h
  refine pf_Mod_thrown C0 hw (fun _ h9 => List.mem_cons_of_mem _ (List.mem_append_left _ (List.mem_append_right _ h9))) (List.mem_of_getElem? (i := 4) rfl) dX6_withdraw_52 h (fun M1 H locs hw h => ?_)
  refine lv_aload_n hx hb dX6_withdraw_55 rfl (lv_at hl 0 rfl) ?_
  refine gf_Mod_thrown C0 hw (fun _ h9 => List.mem_cons_of_mem _ (List.mem_append_left _ (List.mem_append_right _ h9))) (List.mem_of_getElem? (i := 4) rfl) dX6_withdraw_56 ?_
  refine q_if_le (tgt := 64) hx hb dX6_withdraw_59 (by decide) h (fun h => ?_) (fun h => ?_)
  · refine lv_aload_n hx hb dX6_withdraw_64 rfl (lv_at hl 0 rfl) ?_
    refine gf_Mod_states C0 hw (fun _ h9 => List.mem_cons_of_mem _ (List.mem_append_left _ (List.mem_append_right _ h9))) (List.mem_of_getElem? (i := 1) rfl) dX6_withdraw_65 ?_
    refine lv_iload_n hx hb dX6_withdraw_68 rfl (lv_at hl 1 rfl) ?_
    refine lv_iconst (v := 2) hx hb dX6_withdraw_69 (by decide) ?_
    refine q_iast (v := 38) C0 hw rfl (fun _ => at_m38) h dX6_withdraw_70 (fun j2 M3 H locs hj2 hw h => ?_)
    refine lv_aload_n hx hb dX6_withdraw_71 rfl (lv_at hl 0 rfl) ?_
    refine lv_aload_n hx hb dX6_withdraw_72 rfl (lv_at hl 0 rfl) ?_
    refine gf_Mod_pupilOf C0 hw (fun _ h9 => List.mem_cons_of_mem _ (List.mem_append_left _ (List.mem_append_right _ h9))) (List.mem_of_getElem? (i := 5) rfl) dX6_withdraw_73 ?_
    refine lv_iload_n hx hb dX6_withdraw_76 rfl (lv_at hl 1 rfl) ?_
    refine q_iald C0 hw at_m33 h dX6_withdraw_77 (fun j4 hj4 h => ?_)
    refine lv_aload_n hx hb dX6_withdraw_78 rfl (lv_at hl 0 rfl) ?_
    refine gf_Mod_taskOf C0 hw (fun _ h9 => List.mem_cons_of_mem _ (List.mem_append_left _ (List.mem_append_right _ h9))) (List.mem_of_getElem? (i := 2) rfl) dX6_withdraw_79 ?_
    refine lv_iload_n hx hb dX6_withdraw_82 rfl (lv_at hl 1 rfl) ?_
    refine q_iald C0 hw at_m34 h dX6_withdraw_83 (fun j5 hj5 h => ?_)
    refine q_callVNi (As := [.int (M3 33 0 j4), .int (M3 34 0 j5)]) (nA := 2) C0 hw at_Mod rfl (fun r1 h1 => ctX6_countingOf hst h1) gX6_withdraw_X6_countingOf rfl ⟨rfl, rfl⟩ (by decide +kernel) rfl ⟨(Nat.le_of_ble_eq_true rfl), (Nat.le_of_ble_eq_true rfl)⟩ hl.1 (Nat.le_of_ble_eq_true rfl) ⟨(Nat.le_of_ble_eq_true rfl), (Nat.le_of_ble_eq_true rfl)⟩ rfl h dX6_withdraw_84 (fun M6 z7 H locs hw h => ?_)
    refine lv_iconst (v := -1) hx hb dX6_withdraw_87 (by decide) ?_
    refine q_icmp_eq (tgt := 95) hx hb dX6_withdraw_88 (by decide) h (fun h => ?_) (fun h => ?_)
    · refine lv_iconst (v := 0) hx hb dX6_withdraw_95 (by decide) ?_
      exact wX6_withdraw_96 hst C0  M6 (0 : Int32) _ _ _ hw (lv_sub hl [] rfl) h
    · refine lv_iconst (v := 1) hx hb dX6_withdraw_91 (by decide) ?_
      refine lv_goto (tgt := 96) hx hb dX6_withdraw_92 (by decide) ?_
      exact wX6_withdraw_96 hst C0  M6 (1 : Int32) _ _ _ hw (lv_sub hl [] rfl) h
  · refine lv_iconst (v := 0) hx hb dX6_withdraw_62 (by decide) ?_
    exact q_zretN C0 hw rfl h ⟨(Nat.le_of_ble_eq_true rfl), (Nat.le_of_ble_eq_true rfl)⟩ dX6_withdraw_63
def fX6_withdraw_47 (F : Nat) (M : Mem) (v1 : Int32) : Option (Mem × Int32) :=
    fX6_withdraw_52 F M (2 : Int32) v1
set_option maxHeartbeats 4000000 in
set_option maxRecDepth 100000 in
theorem wX6_withdraw_47 {p : Program} {l : Launch} {e : Env} {s : State} {m : MethodId} {args : Array Value} {below : List Frame} {meth : Method} {c : Code} {D : va_G} {cy : Nat → ClassId} {ad : Nat → Nat} {x : XX} {F : Nat} {r : Mem × Int32} (hst : l.stackTraces = false) (C0 : MX p l s m args meth c D cy ad cX6_withdraw RX6 2 wsX6_withdraw (some .boolean)) : ∀ (M : Mem) (v1 : Int32) (H : Heap) (locs : List Loc) (ls : Array Slot), Wd D cy ad x s M H locs → lv_has ls 2 [(0, .ref (ad 427)), (1, .int v1)] → fX6_withdraw_47 F M v1 = some r → W p l e rmX6_withdraw s m args below meth c H locs 0 0 (QN D cy ad below args s x q_vi r 0 0) (F0 m 47 ls [.ref (ad 427)]) := by
  obtain ⟨hx, hb, hml, hown, hts, -⟩ := id C0
  intro M v1 H locs ls hw hl h
  unfold fX6_withdraw_47 at h
  refine lv_iconst (v := 2) hx hb dX6_withdraw_47 (by decide) ?_
  refine lv_goto (tgt := 52) hx hb dX6_withdraw_48 (by decide) ?_
  exact wX6_withdraw_52 hst C0  M (2 : Int32) v1 _ _ _ hw (lv_sub hl [0, 1] rfl) h
def fX6_withdraw (F : Nat) (M : Mem) (a0 : Int32) : Option (Mem × Int32) :=
    q_bn (fX6_isVersion F M a0) fun M1 z2 =>
    if z2 = (0 : Int32) then
    (fX6_withdraw_52 F M1 (1 : Int32) a0)
    else
    (q_ax a0 60 fun j3 =>
    if (M1 38 0 j3) = (1 : Int32) then
    (q_ax a0 60 fun j4 =>
    q_bn (fX6_clockOf F M1 (M1 34 0 j4)) fun M5 z6 =>
    q_ax a0 60 fun j7 =>
    q_ax (M5 34 0 j7) 10 fun j8 =>
    if z6 ≤ (M5 28 0 j8) then
    (fX6_withdraw_52 F M5 (0 : Int32) a0)
    else
    (fX6_withdraw_47 F M5 a0))
    else
    (fX6_withdraw_47 F M1 a0))
set_option maxHeartbeats 4000000 in
set_option maxRecDepth 100000 in
theorem ctX6_withdraw {l : Launch} (hst : l.stackTraces = false) {D : va_G} {cy : Nat → ClassId} {ad : Nat → Nat} {x : XX} {F : Nat} {M : Mem} {a0 : Int32} {r : Mem × Int32} (h : fX6_withdraw F M a0 = some r) : CN l yX6_withdraw wsX6_withdraw rmX6_withdraw D cy ad [.ref (ad 427), .int a0] x M x r.1 (q_vi r.2) 0 0 := by
  refine q_startN (cc := cX6_withdraw) (maxL := 2) (ret := (some .boolean)) (by decide) rfl (Nat.le_of_ble_eq_true rfl) ?_
  intro p e s m args below meth c ls C0 hw hl hnm
  obtain ⟨hx, hb, hml, hown, hts, -⟩ := id C0
  have C0 : MX p l s m args meth c D cy ad cX6_withdraw RX6 2 wsX6_withdraw ((some .boolean)) := C0
  have hown : s.vm.findClass RX6 = some m.cls := hown
  have hl : lv_has ls 2 [(0, .ref (ad 427)), (1, .int a0)] := hl
  show W p l e rmX6_withdraw s m args below meth c s.heap [] 0 0 (QN D cy ad below args s x q_vi r 0 0) (F0 m 0 ls [])
  unfold fX6_withdraw at h
  refine lv_aload_n hx hb dX6_withdraw_0 rfl (lv_at hl 0 rfl) ?_
  refine lv_aload_n hx hb dX6_withdraw_1 rfl (lv_at hl 0 rfl) ?_
  refine lv_iload_n hx hb dX6_withdraw_2 rfl (lv_at hl 1 rfl) ?_
  refine q_callVNi (As := [.int a0]) (nA := 1) C0 hw at_Mod rfl (fun r1 h1 => ctX6_isVersion hst h1) gX6_withdraw_X6_isVersion rfl ⟨rfl, rfl⟩ (by decide +kernel) rfl ⟨(Nat.le_of_ble_eq_true rfl), (Nat.le_of_ble_eq_true rfl)⟩ hl.1 (Nat.le_of_ble_eq_true rfl) ⟨(Nat.le_of_ble_eq_true rfl), (Nat.le_of_ble_eq_true rfl)⟩ rfl h dX6_withdraw_3 (fun M1 z2 H locs hw h => ?_)
  refine q_if_ne (tgt := 13) hx hb dX6_withdraw_6 (by decide) h (fun h => ?_) (fun h => ?_)
  · refine lv_aload_n hx hb dX6_withdraw_13 rfl (lv_at hl 0 rfl) ?_
    refine gf_Mod_states C0 hw (fun _ h9 => List.mem_cons_of_mem _ (List.mem_append_left _ (List.mem_append_right _ h9))) (List.mem_of_getElem? (i := 1) rfl) dX6_withdraw_14 ?_
    refine lv_iload_n hx hb dX6_withdraw_17 rfl (lv_at hl 1 rfl) ?_
    refine q_iald C0 hw at_m38 h dX6_withdraw_18 (fun j3 hj3 h => ?_)
    refine lv_iconst (v := 1) hx hb dX6_withdraw_19 (by decide) ?_
    refine q_icmp_ne (tgt := 47) hx hb dX6_withdraw_20 (by decide) h (fun h => ?_) (fun h => ?_)
    · exact wX6_withdraw_47 hst C0  M1 a0 _ _ _ hw (lv_sub hl [0, 1] rfl) h
    · refine lv_aload_n hx hb dX6_withdraw_23 rfl (lv_at hl 0 rfl) ?_
      refine lv_aload_n hx hb dX6_withdraw_24 rfl (lv_at hl 0 rfl) ?_
      refine gf_Mod_taskOf C0 hw (fun _ h9 => List.mem_cons_of_mem _ (List.mem_append_left _ (List.mem_append_right _ h9))) (List.mem_of_getElem? (i := 2) rfl) dX6_withdraw_25 ?_
      refine lv_iload_n hx hb dX6_withdraw_28 rfl (lv_at hl 1 rfl) ?_
      refine q_iald C0 hw at_m34 h dX6_withdraw_29 (fun j4 hj4 h => ?_)
      refine q_callVNi (As := [.int (M1 34 0 j4)]) (nA := 1) C0 hw at_Mod rfl (fun r1 h1 => ctX6_clockOf hst h1) gX6_withdraw_X6_clockOf rfl ⟨rfl, rfl⟩ (by decide +kernel) rfl ⟨(Nat.le_of_ble_eq_true rfl), (Nat.le_of_ble_eq_true rfl)⟩ hl.1 (Nat.le_of_ble_eq_true rfl) ⟨(Nat.le_of_ble_eq_true rfl), (Nat.le_of_ble_eq_true rfl)⟩ rfl h dX6_withdraw_30 (fun M5 z6 H locs hw h => ?_)
      refine lv_aload_n hx hb dX6_withdraw_33 rfl (lv_at hl 0 rfl) ?_
      refine gf_Mod_dues C0 hw (fun _ h9 => List.mem_cons_of_mem _ (List.mem_append_left _ (List.mem_append_right _ h9))) (List.mem_of_getElem? (i := 3) rfl) dX6_withdraw_34 ?_
      refine lv_aload_n hx hb dX6_withdraw_37 rfl (lv_at hl 0 rfl) ?_
      refine gf_Mod_taskOf C0 hw (fun _ h9 => List.mem_cons_of_mem _ (List.mem_append_left _ (List.mem_append_right _ h9))) (List.mem_of_getElem? (i := 2) rfl) dX6_withdraw_38 ?_
      refine lv_iload_n hx hb dX6_withdraw_41 rfl (lv_at hl 1 rfl) ?_
      refine q_iald C0 hw at_m34 h dX6_withdraw_42 (fun j7 hj7 h => ?_)
      refine q_iald C0 hw at_m28 h dX6_withdraw_43 (fun j8 hj8 h => ?_)
      refine q_icmp_le (tgt := 51) hx hb dX6_withdraw_44 (by decide) h (fun h => ?_) (fun h => ?_)
      · refine lv_iconst (v := 0) hx hb dX6_withdraw_51 (by decide) ?_
        exact wX6_withdraw_52 hst C0  M5 (0 : Int32) a0 _ _ _ hw (lv_sub hl [0, 1] rfl) h
      · exact wX6_withdraw_47 hst C0  M5 a0 _ _ _ hw (lv_sub hl [0, 1] rfl) h
  · refine lv_iconst (v := 1) hx hb dX6_withdraw_9 (by decide) ?_
    refine lv_goto (tgt := 52) hx hb dX6_withdraw_10 (by decide) ?_
    exact wX6_withdraw_52 hst C0  M1 (1 : Int32) a0 _ _ _ hw (lv_sub hl [0, 1] rfl) h
/-! HomewatcherModel.isIn(I)Z -/
abbrev rmX6_isIn : Room := { frames := 2, cells := 0, slots := 0, locals := 43 }
def fX6_isIn_39 (F : Nat) (M : Mem) (s0 : Int32) : Option (Mem × Int32) :=
    q_gd (q_isZ s0) (
    some (M, s0))
set_option maxHeartbeats 4000000 in
set_option maxRecDepth 100000 in
theorem wX6_isIn_39 {p : Program} {l : Launch} {e : Env} {s : State} {m : MethodId} {args : Array Value} {below : List Frame} {meth : Method} {c : Code} {D : va_G} {cy : Nat → ClassId} {ad : Nat → Nat} {x : XX} {F : Nat} {r : Mem × Int32} (hst : l.stackTraces = false) (C0 : MX p l s m args meth c D cy ad cX6_isIn RX6 2 wsX6_isIn (some .boolean)) : ∀ (M : Mem) (s0 : Int32) (H : Heap) (locs : List Loc) (ls : Array Slot), Wd D cy ad x s M H locs → lv_has ls 2 [] → fX6_isIn_39 F M s0 = some r → W p l e rmX6_isIn s m args below meth c H locs 0 0 (QN D cy ad below args s x q_vi r 0 0) (F0 m 39 ls [.int s0]) := by
  obtain ⟨hx, hb, hml, hown, hts, -⟩ := id C0
  intro M s0 H locs ls hw hl h
  unfold fX6_isIn_39 at h
  refine q_guard h (fun g h => ?_)
  exact q_zretN C0 hw (q_isZ_in g) h ⟨(Nat.le_of_ble_eq_true rfl), (Nat.le_of_ble_eq_true rfl)⟩ dX6_isIn_39
def fX6_isIn_38 (F : Nat) (M : Mem) : Option (Mem × Int32) :=
    fX6_isIn_39 F M (0 : Int32)
set_option maxHeartbeats 4000000 in
set_option maxRecDepth 100000 in
theorem wX6_isIn_38 {p : Program} {l : Launch} {e : Env} {s : State} {m : MethodId} {args : Array Value} {below : List Frame} {meth : Method} {c : Code} {D : va_G} {cy : Nat → ClassId} {ad : Nat → Nat} {x : XX} {F : Nat} {r : Mem × Int32} (hst : l.stackTraces = false) (C0 : MX p l s m args meth c D cy ad cX6_isIn RX6 2 wsX6_isIn (some .boolean)) : ∀ (M : Mem) (H : Heap) (locs : List Loc) (ls : Array Slot), Wd D cy ad x s M H locs → lv_has ls 2 [] → fX6_isIn_38 F M = some r → W p l e rmX6_isIn s m args below meth c H locs 0 0 (QN D cy ad below args s x q_vi r 0 0) (F0 m 38 ls []) := by
  obtain ⟨hx, hb, hml, hown, hts, -⟩ := id C0
  intro M H locs ls hw hl h
  unfold fX6_isIn_38 at h
  refine lv_iconst (v := 0) hx hb dX6_isIn_38 (by decide) ?_
  exact wX6_isIn_39 hst C0  M (0 : Int32) _ _ _ hw (lv_sub hl [] rfl) h
def fX6_isIn_14 (F : Nat) (M : Mem) (s0 : Int32) (v1 : Int32) : Option (Mem × Int32) :=
    q_lt (up M 69 0 0 s0) fun M1 =>
    if (M1 69 0 0) = (0 : Int32) then
    (q_ax v1 60 fun j2 =>
    if (M1 38 0 j2) = (1 : Int32) then
    (fX6_isIn_39 F M1 (1 : Int32))
    else
    (fX6_isIn_38 F M1))
    else
    (fX6_isIn_38 F M1)
set_option maxHeartbeats 4000000 in
set_option maxRecDepth 100000 in
theorem wX6_isIn_14 {p : Program} {l : Launch} {e : Env} {s : State} {m : MethodId} {args : Array Value} {below : List Frame} {meth : Method} {c : Code} {D : va_G} {cy : Nat → ClassId} {ad : Nat → Nat} {x : XX} {F : Nat} {r : Mem × Int32} (hst : l.stackTraces = false) (C0 : MX p l s m args meth c D cy ad cX6_isIn RX6 2 wsX6_isIn (some .boolean)) : ∀ (M : Mem) (s0 : Int32) (v1 : Int32) (H : Heap) (locs : List Loc) (ls : Array Slot), Wd D cy ad x s M H locs → lv_has ls 2 [(0, .ref (ad 427)), (1, .int v1)] → fX6_isIn_14 F M s0 v1 = some r → W p l e rmX6_isIn s m args below meth c H locs 0 0 (QN D cy ad below args s x q_vi r 0 0) (F0 m 14 ls [.int s0, .ref (ad 427)]) := by
  obtain ⟨hx, hb, hml, hown, hts, -⟩ := id C0
  intro M s0 v1 H locs ls hw hl h
  unfold fX6_isIn_14 at h
  refine pf_Mod_thrown C0 hw (fun _ h9 => List.mem_cons_of_mem _ (List.mem_append_left _ (List.mem_append_right _ h9))) (List.mem_of_getElem? (i := 1) rfl) dX6_isIn_14 h (fun M1 H locs hw h => ?_)
  refine lv_aload_n hx hb dX6_isIn_17 rfl (lv_at hl 0 rfl) ?_
  refine gf_Mod_thrown C0 hw (fun _ h9 => List.mem_cons_of_mem _ (List.mem_append_left _ (List.mem_append_right _ h9))) (List.mem_of_getElem? (i := 1) rfl) dX6_isIn_18 ?_
  refine q_if_ne (tgt := 38) hx hb dX6_isIn_21 (by decide) h (fun h => ?_) (fun h => ?_)
  · exact wX6_isIn_38 hst C0  M1 _ _ _ hw (lv_sub hl [] rfl) h
  · refine lv_aload_n hx hb dX6_isIn_24 rfl (lv_at hl 0 rfl) ?_
    refine gf_Mod_states C0 hw (fun _ h9 => List.mem_cons_of_mem _ (List.mem_append_left _ (List.mem_append_right _ h9))) (List.mem_of_getElem? (i := 2) rfl) dX6_isIn_25 ?_
    refine lv_iload_n hx hb dX6_isIn_28 rfl (lv_at hl 1 rfl) ?_
    refine q_iald C0 hw at_m38 h dX6_isIn_29 (fun j2 hj2 h => ?_)
    refine lv_iconst (v := 1) hx hb dX6_isIn_30 (by decide) ?_
    refine q_icmp_ne (tgt := 38) hx hb dX6_isIn_31 (by decide) h (fun h => ?_) (fun h => ?_)
    · exact wX6_isIn_38 hst C0  M1 _ _ _ hw (lv_sub hl [] rfl) h
    · refine lv_iconst (v := 1) hx hb dX6_isIn_34 (by decide) ?_
      refine lv_goto (tgt := 39) hx hb dX6_isIn_35 (by decide) ?_
      exact wX6_isIn_39 hst C0  M1 (1 : Int32) _ _ _ hw (lv_sub hl [] rfl) h
def fX6_isIn (F : Nat) (M : Mem) (a0 : Int32) : Option (Mem × Int32) :=
    q_bn (fX6_isVersion F M a0) fun M1 z2 =>
    if z2 = (0 : Int32) then
    (fX6_isIn_14 F M1 (1 : Int32) a0)
    else
    (fX6_isIn_14 F M1 (0 : Int32) a0)
set_option maxHeartbeats 4000000 in
set_option maxRecDepth 100000 in
theorem ctX6_isIn {l : Launch} (hst : l.stackTraces = false) {D : va_G} {cy : Nat → ClassId} {ad : Nat → Nat} {x : XX} {F : Nat} {M : Mem} {a0 : Int32} {r : Mem × Int32} (h : fX6_isIn F M a0 = some r) : CN l yX6_isIn wsX6_isIn rmX6_isIn D cy ad [.ref (ad 427), .int a0] x M x r.1 (q_vi r.2) 0 0 := by
  refine q_startN (cc := cX6_isIn) (maxL := 2) (ret := (some .boolean)) (by decide) rfl (Nat.le_of_ble_eq_true rfl) ?_
  intro p e s m args below meth c ls C0 hw hl hnm
  obtain ⟨hx, hb, hml, hown, hts, -⟩ := id C0
  have C0 : MX p l s m args meth c D cy ad cX6_isIn RX6 2 wsX6_isIn ((some .boolean)) := C0
  have hown : s.vm.findClass RX6 = some m.cls := hown
  have hl : lv_has ls 2 [(0, .ref (ad 427)), (1, .int a0)] := hl
  show W p l e rmX6_isIn s m args below meth c s.heap [] 0 0 (QN D cy ad below args s x q_vi r 0 0) (F0 m 0 ls [])
  unfold fX6_isIn at h
  refine lv_aload_n hx hb dX6_isIn_0 rfl (lv_at hl 0 rfl) ?_
  refine lv_aload_n hx hb dX6_isIn_1 rfl (lv_at hl 0 rfl) ?_
  refine lv_iload_n hx hb dX6_isIn_2 rfl (lv_at hl 1 rfl) ?_
  refine q_callVNi (As := [.int a0]) (nA := 1) C0 hw at_Mod rfl (fun r1 h1 => ctX6_isVersion hst h1) gX6_isIn_X6_isVersion rfl ⟨rfl, rfl⟩ (by decide +kernel) rfl ⟨(Nat.le_of_ble_eq_true rfl), (Nat.le_of_ble_eq_true rfl)⟩ hl.1 (Nat.le_of_ble_eq_true rfl) ⟨(Nat.le_of_ble_eq_true rfl), (Nat.le_of_ble_eq_true rfl)⟩ rfl h dX6_isIn_3 (fun M1 z2 H locs hw h => ?_)
  refine q_if_eq (tgt := 13) hx hb dX6_isIn_6 (by decide) h (fun h => ?_) (fun h => ?_)
  · refine lv_iconst (v := 1) hx hb dX6_isIn_13 (by decide) ?_
    exact wX6_isIn_14 hst C0  M1 (1 : Int32) a0 _ _ _ hw (lv_sub hl [0, 1] rfl) h
  · refine lv_iconst (v := 0) hx hb dX6_isIn_9 (by decide) ?_
    refine lv_goto (tgt := 14) hx hb dX6_isIn_10 (by decide) ?_
    exact wX6_isIn_14 hst C0  M1 (0 : Int32) a0 _ _ _ hw (lv_sub hl [0, 1] rfl) h
/-! HomewatcherModel.ownLate(I)I -/
abbrev rmX6_ownLate : Room := { frames := 1, cells := 0, slots := 0, locals := 21 }
def fX6_ownLate (F : Nat) (M : Mem) (a0 : Int32) : Option (Mem × Int32) :=
    q_ax a0 60 fun j1 =>
    q_ax a0 60 fun j2 =>
    q_ax (M 34 0 j2) 10 fun j3 =>
    q_ax (M 27 0 j3) 4 fun j4 =>
    q_ax a0 60 fun j5 =>
    q_ax (M 34 0 j5) 10 fun j6 =>
    q_bn (fX6_greater F M (0 : Int32) (((M 39 0 j1) + (M 25 0 j4)) - (M 28 0 j6))) fun M7 z8 =>
    some (M7, z8)
set_option maxHeartbeats 4000000 in
set_option maxRecDepth 100000 in
theorem ctX6_ownLate {l : Launch} (hst : l.stackTraces = false) {D : va_G} {cy : Nat → ClassId} {ad : Nat → Nat} {x : XX} {F : Nat} {M : Mem} {a0 : Int32} {r : Mem × Int32} (h : fX6_ownLate F M a0 = some r) : CN l yX6_ownLate wsX6_ownLate rmX6_ownLate D cy ad [.ref (ad 427), .int a0] x M x r.1 (q_vi r.2) 0 0 := by
  refine q_startN (cc := cX6_ownLate) (maxL := 2) (ret := (some .int)) (by decide) rfl (Nat.le_of_ble_eq_true rfl) ?_
  intro p e s m args below meth c ls C0 hw hl hnm
  obtain ⟨hx, hb, hml, hown, hts, -⟩ := id C0
  have C0 : MX p l s m args meth c D cy ad cX6_ownLate RX6 2 wsX6_ownLate ((some .int)) := C0
  have hown : s.vm.findClass RX6 = some m.cls := hown
  have hl : lv_has ls 2 [(0, .ref (ad 427)), (1, .int a0)] := hl
  show W p l e rmX6_ownLate s m args below meth c s.heap [] 0 0 (QN D cy ad below args s x q_vi r 0 0) (F0 m 0 ls [])
  unfold fX6_ownLate at h
  refine lv_iconst (v := 0) hx hb dX6_ownLate_0 (by decide) ?_
  refine lv_aload_n hx hb dX6_ownLate_1 rfl (lv_at hl 0 rfl) ?_
  refine gf_Mod_minutes C0 hw (fun _ h9 => List.mem_cons_of_mem _ (List.mem_append_left _ (List.mem_append_right _ h9))) (List.mem_of_getElem? (i := 1) rfl) dX6_ownLate_2 ?_
  refine lv_iload_n hx hb dX6_ownLate_5 rfl (lv_at hl 1 rfl) ?_
  refine q_iald C0 hw at_m39 h dX6_ownLate_6 (fun j1 hj1 h => ?_)
  refine lv_aload_n hx hb dX6_ownLate_7 rfl (lv_at hl 0 rfl) ?_
  refine gf_Mod_offsets C0 hw (fun _ h9 => List.mem_cons_of_mem _ (List.mem_append_left _ (List.mem_append_right _ h9))) (List.mem_of_getElem? (i := 2) rfl) dX6_ownLate_8 ?_
  refine lv_aload_n hx hb dX6_ownLate_11 rfl (lv_at hl 0 rfl) ?_
  refine gf_Mod_taskClass C0 hw (fun _ h9 => List.mem_cons_of_mem _ (List.mem_append_left _ (List.mem_append_right _ h9))) (List.mem_of_getElem? (i := 3) rfl) dX6_ownLate_12 ?_
  refine lv_aload_n hx hb dX6_ownLate_15 rfl (lv_at hl 0 rfl) ?_
  refine gf_Mod_taskOf C0 hw (fun _ h9 => List.mem_cons_of_mem _ (List.mem_append_left _ (List.mem_append_right _ h9))) (List.mem_of_getElem? (i := 4) rfl) dX6_ownLate_16 ?_
  refine lv_iload_n hx hb dX6_ownLate_19 rfl (lv_at hl 1 rfl) ?_
  refine q_iald C0 hw at_m34 h dX6_ownLate_20 (fun j2 hj2 h => ?_)
  refine q_iald C0 hw at_m27 h dX6_ownLate_21 (fun j3 hj3 h => ?_)
  refine q_iald C0 hw at_m25 h dX6_ownLate_22 (fun j4 hj4 h => ?_)
  refine lv_iadd hx hb dX6_ownLate_23 ?_
  refine lv_aload_n hx hb dX6_ownLate_24 rfl (lv_at hl 0 rfl) ?_
  refine gf_Mod_dues C0 hw (fun _ h9 => List.mem_cons_of_mem _ (List.mem_append_left _ (List.mem_append_right _ h9))) (List.mem_of_getElem? (i := 5) rfl) dX6_ownLate_25 ?_
  refine lv_aload_n hx hb dX6_ownLate_28 rfl (lv_at hl 0 rfl) ?_
  refine gf_Mod_taskOf C0 hw (fun _ h9 => List.mem_cons_of_mem _ (List.mem_append_left _ (List.mem_append_right _ h9))) (List.mem_of_getElem? (i := 4) rfl) dX6_ownLate_29 ?_
  refine lv_iload_n hx hb dX6_ownLate_32 rfl (lv_at hl 1 rfl) ?_
  refine q_iald C0 hw at_m34 h dX6_ownLate_33 (fun j5 hj5 h => ?_)
  refine q_iald C0 hw at_m28 h dX6_ownLate_34 (fun j6 hj6 h => ?_)
  refine lv_isub hx hb dX6_ownLate_35 ?_
  refine q_callSNi (As := [.int ((0 : Int32)), .int (((M 39 0 j1) + (M 25 0 j4)) - (M 28 0 j6))]) (nA := 2) C0 hw (fun r1 h1 => ctX6_greater hst h1) gX6_ownLate_X6_greater rfl ⟨rfl, rfl⟩ (by decide +kernel) rfl ⟨(Nat.le_of_ble_eq_true rfl), (Nat.le_of_ble_eq_true rfl)⟩ hl.1 (Nat.le_of_ble_eq_true rfl) ⟨(Nat.le_of_ble_eq_true rfl), (Nat.le_of_ble_eq_true rfl)⟩ rfl h dX6_ownLate_36 (fun M7 z8 H locs hw h => ?_)
  exact q_iretN C0 hw h ⟨(Nat.le_of_ble_eq_true rfl), (Nat.le_of_ble_eq_true rfl)⟩ dX6_ownLate_39
/-! HomewatcherModel.lateOf(I)I -/
abbrev rmX6_lateOf : Room := { frames := 2, cells := 0, slots := 0, locals := 42 }
def fX6_lateOf_55 (F : Nat) (k13 : Mem → Int32 → Int32 → Int32 → Option (Mem × Int32)) (M : Mem) (v1 : Int32) (v2 : Int32) (v3 : Int32) : Option (Mem × Int32) :=
    q_ax v3 60 fun j1 =>
    q_lt (M 35 0 j1) fun z2 =>
    k13 M v1 v2 z2
set_option maxHeartbeats 4000000 in
set_option maxRecDepth 100000 in
theorem wX6_lateOf_55 {p : Program} {l : Launch} {e : Env} {s : State} {m : MethodId} {args : Array Value} {below : List Frame} {meth : Method} {c : Code} {D : va_G} {cy : Nat → ClassId} {ad : Nat → Nat} {x : XX} {F : Nat} {r : Mem × Int32} (hst : l.stackTraces = false) (C0 : MX p l s m args meth c D cy ad cX6_lateOf RX6 4 wsX6_lateOf (some .int)) {k13 : Mem → Int32 → Int32 → Int32 → Option (Mem × Int32)} (hk13 : ∀ (M : Mem) (v1 : Int32) (v2 : Int32) (v3 : Int32) (H : Heap) (locs : List Loc) (ls : Array Slot), Wd D cy ad x s M H locs → lv_has ls 4 [(0, .ref (ad 427)), (1, .int v1), (2, .int v2), (3, .int v3)] → k13 M v1 v2 v3 = some r → W p l e rmX6_lateOf s m args below meth c H locs 0 0 (QN D cy ad below args s x q_vi r 0 0) (F0 m 13 ls [])) : ∀ (M : Mem) (v1 : Int32) (v2 : Int32) (v3 : Int32) (H : Heap) (locs : List Loc) (ls : Array Slot), Wd D cy ad x s M H locs → lv_has ls 4 [(0, .ref (ad 427)), (1, .int v1), (2, .int v2), (3, .int v3)] → fX6_lateOf_55 F k13 M v1 v2 v3 = some r → W p l e rmX6_lateOf s m args below meth c H locs 0 0 (QN D cy ad below args s x q_vi r 0 0) (F0 m 55 ls []) := by
  obtain ⟨hx, hb, hml, hown, hts, -⟩ := id C0
  intro M v1 v2 v3 H locs ls hw hl h
  unfold fX6_lateOf_55 at h
  refine lv_aload_n hx hb dX6_lateOf_55 rfl (lv_at hl 0 rfl) ?_
  refine gf_Mod_parents C0 hw (fun _ h9 => List.mem_cons_of_mem _ (List.mem_append_left _ (List.mem_append_right _ h9))) (List.mem_of_getElem? (i := 1) rfl) dX6_lateOf_56 ?_
  refine lv_iload_n hx hb dX6_lateOf_59 rfl (lv_at hl 3 rfl) ?_
  refine q_iald C0 hw at_m35 h dX6_lateOf_60 (fun j1 hj1 h => ?_)
  refine q_istore_n (lv' := fun z2 => [(3, .int z2), (0, .ref (ad 427)), (1, .int v1), (2, .int v2)]) hx hb dX6_lateOf_61 rfl hl (by decide) (fun _ => rfl) h (fun z2 ls hl h => ?_)
  refine lv_goto (tgt := 13) hx hb dX6_lateOf_62 (by decide) ?_
  exact hk13 M v1 v2 z2 _ _ _ hw (lv_sub hl [1, 2, 3, 0] rfl) h
def fX6_lateOf_13 (F : Nat) : Nat → Mem → Int32 → Int32 → Int32 → Option (Mem × Int32)
  | 0, _, _, _, _ => none
  | n + 1, M, v1, v2, v3 =>
    if v3 = (-1 : Int32) then
    (some (M, v2))
    else
    (q_ax v3 60 fun j1 =>
    if (M 38 0 j1) = (1 : Int32) then
    (q_bn (fX6_common F M v1 v3) fun M2 z3 =>
    q_ax v1 60 fun j4 =>
    if z3 < ((M2 44 0 j4) / (2 : Int32)) then
    (fX6_lateOf_55 F (fX6_lateOf_13 F n) M2 v1 v2 v3)
    else
    (q_bn (fX6_ownLate F M2 v3) fun M5 z6 =>
    q_bn (fX6_lesser F M5 v2 z6) fun M7 z8 =>
    q_lt (z8) fun z9 =>
    fX6_lateOf_55 F (fX6_lateOf_13 F n) M7 v1 z9 v3))
    else
    (fX6_lateOf_55 F (fX6_lateOf_13 F n) M v1 v2 v3))
set_option maxHeartbeats 4000000 in
set_option maxRecDepth 100000 in
theorem wX6_lateOf_13 {p : Program} {l : Launch} {e : Env} {s : State} {m : MethodId} {args : Array Value} {below : List Frame} {meth : Method} {c : Code} {D : va_G} {cy : Nat → ClassId} {ad : Nat → Nat} {x : XX} {F : Nat} {r : Mem × Int32} (hst : l.stackTraces = false) (C0 : MX p l s m args meth c D cy ad cX6_lateOf RX6 4 wsX6_lateOf (some .int)) : ∀ (n : Nat) (M : Mem) (v1 : Int32) (v2 : Int32) (v3 : Int32) (H : Heap) (locs : List Loc) (ls : Array Slot), Wd D cy ad x s M H locs → lv_has ls 4 [(0, .ref (ad 427)), (1, .int v1), (2, .int v2), (3, .int v3)] → fX6_lateOf_13 F n M v1 v2 v3 = some r → W p l e rmX6_lateOf s m args below meth c H locs 0 0 (QN D cy ad below args s x q_vi r 0 0) (F0 m 13 ls []) := by
  obtain ⟨hx, hb, hml, hown, hts, -⟩ := id C0
  intro n
  induction n with
  | zero =>
    intro M v1 v2 v3 H locs ls hw hl h
    exact q_no h
  | succ n ih =>
    intro M v1 v2 v3 H locs ls hw hl h
    unfold fX6_lateOf_13 at h
    refine lv_iload_n hx hb dX6_lateOf_13 rfl (lv_at hl 3 rfl) ?_
    refine lv_iconst (v := -1) hx hb dX6_lateOf_14 (by decide) ?_
    refine q_icmp_eq (tgt := 65) hx hb dX6_lateOf_15 (by decide) h (fun h => ?_) (fun h => ?_)
    · refine lv_iload_n hx hb dX6_lateOf_65 rfl (lv_at hl 2 rfl) ?_
      exact q_iretN C0 hw h ⟨(Nat.le_of_ble_eq_true rfl), (Nat.le_of_ble_eq_true rfl)⟩ dX6_lateOf_66
    · refine lv_aload_n hx hb dX6_lateOf_18 rfl (lv_at hl 0 rfl) ?_
      refine gf_Mod_states C0 hw (fun _ h9 => List.mem_cons_of_mem _ (List.mem_append_left _ (List.mem_append_right _ h9))) (List.mem_of_getElem? (i := 2) rfl) dX6_lateOf_19 ?_
      refine lv_iload_n hx hb dX6_lateOf_22 rfl (lv_at hl 3 rfl) ?_
      refine q_iald C0 hw at_m38 h dX6_lateOf_23 (fun j1 hj1 h => ?_)
      refine lv_iconst (v := 1) hx hb dX6_lateOf_24 (by decide) ?_
      refine q_icmp_ne (tgt := 55) hx hb dX6_lateOf_25 (by decide) h (fun h => ?_) (fun h => ?_)
      · exact wX6_lateOf_55 hst C0 ih M v1 v2 v3 _ _ _ hw (lv_sub hl [0, 1, 2, 3] rfl) h
      · refine lv_aload_n hx hb dX6_lateOf_28 rfl (lv_at hl 0 rfl) ?_
        refine lv_iload_n hx hb dX6_lateOf_29 rfl (lv_at hl 1 rfl) ?_
        refine lv_iload_n hx hb dX6_lateOf_30 rfl (lv_at hl 3 rfl) ?_
        refine q_callVNi (As := [.int v1, .int v3]) (nA := 2) C0 hw at_Mod rfl (fun r1 h1 => ctX6_common hst h1) gX6_lateOf_X6_common rfl ⟨rfl, rfl⟩ (by decide +kernel) rfl ⟨(Nat.le_of_ble_eq_true rfl), (Nat.le_of_ble_eq_true rfl)⟩ hl.1 (Nat.le_of_ble_eq_true rfl) ⟨(Nat.le_of_ble_eq_true rfl), (Nat.le_of_ble_eq_true rfl)⟩ rfl h dX6_lateOf_31 (fun M2 z3 H locs hw h => ?_)
        refine lv_aload_n hx hb dX6_lateOf_34 rfl (lv_at hl 0 rfl) ?_
        refine gf_Mod_shingleCounts C0 hw (fun _ h9 => List.mem_cons_of_mem _ (List.mem_append_left _ (List.mem_append_right _ h9))) (List.mem_of_getElem? (i := 3) rfl) dX6_lateOf_35 ?_
        refine lv_iload_n hx hb dX6_lateOf_38 rfl (lv_at hl 1 rfl) ?_
        refine q_iald C0 hw at_m44 h dX6_lateOf_39 (fun j4 hj4 h => ?_)
        refine lv_iconst (v := 2) hx hb dX6_lateOf_40 (by decide) ?_
        refine lv_idiv hx hb dX6_lateOf_41 (by decide) ?_
        refine q_icmp_lt (tgt := 55) hx hb dX6_lateOf_42 (by decide) h (fun h => ?_) (fun h => ?_)
        · exact wX6_lateOf_55 hst C0 ih M2 v1 v2 v3 _ _ _ hw (lv_sub hl [0, 1, 2, 3] rfl) h
        · refine lv_iload_n hx hb dX6_lateOf_45 rfl (lv_at hl 2 rfl) ?_
          refine lv_aload_n hx hb dX6_lateOf_46 rfl (lv_at hl 0 rfl) ?_
          refine lv_iload_n hx hb dX6_lateOf_47 rfl (lv_at hl 3 rfl) ?_
          refine q_callVNi (As := [.int v3]) (nA := 1) C0 hw at_Mod rfl (fun r1 h1 => ctX6_ownLate hst h1) gX6_lateOf_X6_ownLate rfl ⟨rfl, rfl⟩ (by decide +kernel) rfl ⟨(Nat.le_of_ble_eq_true rfl), (Nat.le_of_ble_eq_true rfl)⟩ hl.1 (Nat.le_of_ble_eq_true rfl) ⟨(Nat.le_of_ble_eq_true rfl), (Nat.le_of_ble_eq_true rfl)⟩ rfl h dX6_lateOf_48 (fun M5 z6 H locs hw h => ?_)
          refine q_callSNi (As := [.int v2, .int z6]) (nA := 2) C0 hw (fun r1 h1 => ctX6_lesser hst h1) gX6_lateOf_X6_lesser rfl ⟨rfl, rfl⟩ (by decide +kernel) rfl ⟨(Nat.le_of_ble_eq_true rfl), (Nat.le_of_ble_eq_true rfl)⟩ hl.1 (Nat.le_of_ble_eq_true rfl) ⟨(Nat.le_of_ble_eq_true rfl), (Nat.le_of_ble_eq_true rfl)⟩ rfl h dX6_lateOf_51 (fun M7 z8 H locs hw h => ?_)
          refine q_istore_n (lv' := fun z9 => [(2, .int z9), (0, .ref (ad 427)), (1, .int v1), (3, .int v3)]) hx hb dX6_lateOf_54 rfl hl (by decide) (fun _ => rfl) h (fun z9 ls hl h => ?_)
          exact wX6_lateOf_55 hst C0 ih M7 v1 z9 v3 _ _ _ hw (lv_sub hl [1, 2, 0, 3] rfl) h
def fX6_lateOf (F : Nat) (M : Mem) (a0 : Int32) : Option (Mem × Int32) :=
    q_bn (fX6_ownLate F M a0) fun M1 z2 =>
    q_lt (z2) fun z3 =>
    q_ax a0 60 fun j4 =>
    q_lt (M1 35 0 j4) fun z5 =>
    fX6_lateOf_13 F F M1 a0 z3 z5
set_option maxHeartbeats 4000000 in
set_option maxRecDepth 100000 in
theorem ctX6_lateOf {l : Launch} (hst : l.stackTraces = false) {D : va_G} {cy : Nat → ClassId} {ad : Nat → Nat} {x : XX} {F : Nat} {M : Mem} {a0 : Int32} {r : Mem × Int32} (h : fX6_lateOf F M a0 = some r) : CN l yX6_lateOf wsX6_lateOf rmX6_lateOf D cy ad [.ref (ad 427), .int a0] x M x r.1 (q_vi r.2) 0 0 := by
  refine q_startN (cc := cX6_lateOf) (maxL := 4) (ret := (some .int)) (by decide) rfl (Nat.le_of_ble_eq_true rfl) ?_
  intro p e s m args below meth c ls C0 hw hl hnm
  obtain ⟨hx, hb, hml, hown, hts, -⟩ := id C0
  have C0 : MX p l s m args meth c D cy ad cX6_lateOf RX6 4 wsX6_lateOf ((some .int)) := C0
  have hown : s.vm.findClass RX6 = some m.cls := hown
  have hl : lv_has ls 4 [(0, .ref (ad 427)), (1, .int a0)] := hl
  show W p l e rmX6_lateOf s m args below meth c s.heap [] 0 0 (QN D cy ad below args s x q_vi r 0 0) (F0 m 0 ls [])
  unfold fX6_lateOf at h
  refine lv_aload_n hx hb dX6_lateOf_0 rfl (lv_at hl 0 rfl) ?_
  refine lv_iload_n hx hb dX6_lateOf_1 rfl (lv_at hl 1 rfl) ?_
  refine q_callVNi (As := [.int a0]) (nA := 1) C0 hw at_Mod rfl (fun r1 h1 => ctX6_ownLate hst h1) gX6_lateOf_X6_ownLate rfl ⟨rfl, rfl⟩ (by decide +kernel) rfl ⟨(Nat.le_of_ble_eq_true rfl), (Nat.le_of_ble_eq_true rfl)⟩ hl.1 (Nat.le_of_ble_eq_true rfl) ⟨(Nat.le_of_ble_eq_true rfl), (Nat.le_of_ble_eq_true rfl)⟩ rfl h dX6_lateOf_2 (fun M1 z2 H locs hw h => ?_)
  refine q_istore_n (lv' := fun z3 => [(2, .int z3), (0, .ref (ad 427)), (1, .int a0)]) hx hb dX6_lateOf_5 rfl hl (by decide) (fun _ => rfl) h (fun z3 ls hl h => ?_)
  refine lv_aload_n hx hb dX6_lateOf_6 rfl (lv_at hl 1 rfl) ?_
  refine gf_Mod_parents C0 hw (fun _ h9 => List.mem_cons_of_mem _ (List.mem_append_left _ (List.mem_append_right _ h9))) (List.mem_of_getElem? (i := 1) rfl) dX6_lateOf_7 ?_
  refine lv_iload_n hx hb dX6_lateOf_10 rfl (lv_at hl 2 rfl) ?_
  refine q_iald C0 hw at_m35 h dX6_lateOf_11 (fun j4 hj4 h => ?_)
  refine q_istore_n (lv' := fun z5 => [(3, .int z5), (2, .int z3), (0, .ref (ad 427)), (1, .int a0)]) hx hb dX6_lateOf_12 rfl hl (by decide) (fun _ => rfl) h (fun z5 ls hl h => ?_)
  exact wX6_lateOf_13 hst C0  F M1 a0 z3 z5 _ _ _ hw (lv_sub hl [2, 3, 1, 0] rfl) h
/-! HomewatcherModel.late(I)I -/
abbrev rmX6_late : Room := { frames := 3, cells := 0, slots := 0, locals := 65 }
def fX6_late_41 (F : Nat) (M : Mem) (s0 : Int32) : Option (Mem × Int32) :=
    some (M, s0)
set_option maxHeartbeats 4000000 in
set_option maxRecDepth 100000 in
theorem wX6_late_41 {p : Program} {l : Launch} {e : Env} {s : State} {m : MethodId} {args : Array Value} {below : List Frame} {meth : Method} {c : Code} {D : va_G} {cy : Nat → ClassId} {ad : Nat → Nat} {x : XX} {F : Nat} {r : Mem × Int32} (hst : l.stackTraces = false) (C0 : MX p l s m args meth c D cy ad cX6_late RX6 2 wsX6_late (some .int)) : ∀ (M : Mem) (s0 : Int32) (H : Heap) (locs : List Loc) (ls : Array Slot), Wd D cy ad x s M H locs → lv_has ls 2 [] → fX6_late_41 F M s0 = some r → W p l e rmX6_late s m args below meth c H locs 0 0 (QN D cy ad below args s x q_vi r 0 0) (F0 m 41 ls [.int s0]) := by
  obtain ⟨hx, hb, hml, hown, hts, -⟩ := id C0
  intro M s0 H locs ls hw hl h
  unfold fX6_late_41 at h
  exact q_iretN C0 hw h ⟨(Nat.le_of_ble_eq_true rfl), (Nat.le_of_ble_eq_true rfl)⟩ dX6_late_41
def fX6_late (F : Nat) (M : Mem) (a0 : Int32) : Option (Mem × Int32) :=
    q_bn (fX6_isVersion F M a0) fun M1 z2 =>
    if z2 = (0 : Int32) then
    (q_bn (fX6_fails F M1 (1 : Int32)) fun M3 z4 =>
    some (M3, z4))
    else
    (q_ax a0 60 fun j3 =>
    if (M1 38 0 j3) = (1 : Int32) then
    (q_bn (fX6_lateOf F M1 a0) fun M4 z5 =>
    q_bn (fX6_tells F M4 z5) fun M6 z7 =>
    fX6_late_41 F M6 z7)
    else
    (q_bn (fX6_fails F M1 (2 : Int32)) fun M4 z5 =>
    fX6_late_41 F M4 z5))
set_option maxHeartbeats 4000000 in
set_option maxRecDepth 100000 in
theorem ctX6_late {l : Launch} (hst : l.stackTraces = false) {D : va_G} {cy : Nat → ClassId} {ad : Nat → Nat} {x : XX} {F : Nat} {M : Mem} {a0 : Int32} {r : Mem × Int32} (h : fX6_late F M a0 = some r) : CN l yX6_late wsX6_late rmX6_late D cy ad [.ref (ad 427), .int a0] x M x r.1 (q_vi r.2) 0 0 := by
  refine q_startN (cc := cX6_late) (maxL := 2) (ret := (some .int)) (by decide) rfl (Nat.le_of_ble_eq_true rfl) ?_
  intro p e s m args below meth c ls C0 hw hl hnm
  obtain ⟨hx, hb, hml, hown, hts, -⟩ := id C0
  have C0 : MX p l s m args meth c D cy ad cX6_late RX6 2 wsX6_late ((some .int)) := C0
  have hown : s.vm.findClass RX6 = some m.cls := hown
  have hl : lv_has ls 2 [(0, .ref (ad 427)), (1, .int a0)] := hl
  show W p l e rmX6_late s m args below meth c s.heap [] 0 0 (QN D cy ad below args s x q_vi r 0 0) (F0 m 0 ls [])
  unfold fX6_late at h
  refine lv_aload_n hx hb dX6_late_0 rfl (lv_at hl 0 rfl) ?_
  refine lv_iload_n hx hb dX6_late_1 rfl (lv_at hl 1 rfl) ?_
  refine q_callVNi (As := [.int a0]) (nA := 1) C0 hw at_Mod rfl (fun r1 h1 => ctX6_isVersion hst h1) gX6_late_X6_isVersion rfl ⟨rfl, rfl⟩ (by decide +kernel) rfl ⟨(Nat.le_of_ble_eq_true rfl), (Nat.le_of_ble_eq_true rfl)⟩ hl.1 (Nat.le_of_ble_eq_true rfl) ⟨(Nat.le_of_ble_eq_true rfl), (Nat.le_of_ble_eq_true rfl)⟩ rfl h dX6_late_2 (fun M1 z2 H locs hw h => ?_)
  refine q_if_ne (tgt := 14) hx hb dX6_late_5 (by decide) h (fun h => ?_) (fun h => ?_)
  · refine lv_aload_n hx hb dX6_late_14 rfl (lv_at hl 0 rfl) ?_
    refine gf_Mod_states C0 hw (fun _ h9 => List.mem_cons_of_mem _ (List.mem_append_left _ (List.mem_append_right _ h9))) (List.mem_of_getElem? (i := 1) rfl) dX6_late_15 ?_
    refine lv_iload_n hx hb dX6_late_18 rfl (lv_at hl 1 rfl) ?_
    refine q_iald C0 hw at_m38 h dX6_late_19 (fun j3 hj3 h => ?_)
    refine lv_iconst (v := 1) hx hb dX6_late_20 (by decide) ?_
    refine q_icmp_ne (tgt := 36) hx hb dX6_late_21 (by decide) h (fun h => ?_) (fun h => ?_)
    · refine lv_aload_n hx hb dX6_late_36 rfl (lv_at hl 0 rfl) ?_
      refine lv_iconst (v := 2) hx hb dX6_late_37 (by decide) ?_
      refine q_callVNi (As := [.int ((2 : Int32))]) (nA := 1) C0 hw at_Mod rfl (fun r1 h1 => ctX6_fails hst h1) gX6_late_X6_fails rfl ⟨rfl, rfl⟩ (by decide +kernel) rfl ⟨(Nat.le_of_ble_eq_true rfl), (Nat.le_of_ble_eq_true rfl)⟩ hl.1 (Nat.le_of_ble_eq_true rfl) ⟨(Nat.le_of_ble_eq_true rfl), (Nat.le_of_ble_eq_true rfl)⟩ rfl h dX6_late_38 (fun M4 z5 H locs hw h => ?_)
      exact wX6_late_41 hst C0  M4 z5 _ _ _ hw (lv_sub hl [] rfl) h
    · refine lv_aload_n hx hb dX6_late_24 rfl (lv_at hl 0 rfl) ?_
      refine lv_aload_n hx hb dX6_late_25 rfl (lv_at hl 0 rfl) ?_
      refine lv_iload_n hx hb dX6_late_26 rfl (lv_at hl 1 rfl) ?_
      refine q_callVNi (As := [.int a0]) (nA := 1) C0 hw at_Mod rfl (fun r1 h1 => ctX6_lateOf hst h1) gX6_late_X6_lateOf rfl ⟨rfl, rfl⟩ (by decide +kernel) rfl ⟨(Nat.le_of_ble_eq_true rfl), (Nat.le_of_ble_eq_true rfl)⟩ hl.1 (Nat.le_of_ble_eq_true rfl) ⟨(Nat.le_of_ble_eq_true rfl), (Nat.le_of_ble_eq_true rfl)⟩ rfl h dX6_late_27 (fun M4 z5 H locs hw h => ?_)
      refine q_callVNi (As := [.int z5]) (nA := 1) C0 hw at_Mod rfl (fun r1 h1 => ctX6_tells hst h1) gX6_late_X6_tells rfl ⟨rfl, rfl⟩ (by decide +kernel) rfl ⟨(Nat.le_of_ble_eq_true rfl), (Nat.le_of_ble_eq_true rfl)⟩ hl.1 (Nat.le_of_ble_eq_true rfl) ⟨(Nat.le_of_ble_eq_true rfl), (Nat.le_of_ble_eq_true rfl)⟩ rfl h dX6_late_30 (fun M6 z7 H locs hw h => ?_)
      refine lv_goto (tgt := 41) hx hb dX6_late_33 (by decide) ?_
      exact wX6_late_41 hst C0  M6 z7 _ _ _ hw (lv_sub hl [] rfl) h
  · refine lv_aload_n hx hb dX6_late_8 rfl (lv_at hl 0 rfl) ?_
    refine lv_iconst (v := 1) hx hb dX6_late_9 (by decide) ?_
    refine q_callVNi (As := [.int ((1 : Int32))]) (nA := 1) C0 hw at_Mod rfl (fun r1 h1 => ctX6_fails hst h1) gX6_late_X6_fails rfl ⟨rfl, rfl⟩ (by decide +kernel) rfl ⟨(Nat.le_of_ble_eq_true rfl), (Nat.le_of_ble_eq_true rfl)⟩ hl.1 (Nat.le_of_ble_eq_true rfl) ⟨(Nat.le_of_ble_eq_true rfl), (Nat.le_of_ble_eq_true rfl)⟩ rfl h dX6_late_10 (fun M3 z4 H locs hw h => ?_)
    exact q_iretN C0 hw h ⟨(Nat.le_of_ble_eq_true rfl), (Nat.le_of_ble_eq_true rfl)⟩ dX6_late_13
/-! HomewatcherModel.offOf(II)I -/
abbrev rmX6_offOf : Room := { frames := 1, cells := 0, slots := 0, locals := 21 }
def fX6_offOf_85 (F : Nat) (M : Mem) (s0 : Int32) : Option (Mem × Int32) :=
    some (M, s0)
set_option maxHeartbeats 4000000 in
set_option maxRecDepth 100000 in
theorem wX6_offOf_85 {p : Program} {l : Launch} {e : Env} {s : State} {m : MethodId} {args : Array Value} {below : List Frame} {meth : Method} {c : Code} {D : va_G} {cy : Nat → ClassId} {ad : Nat → Nat} {x : XX} {F : Nat} {r : Mem × Int32} (hst : l.stackTraces = false) (C0 : MX p l s m args meth c D cy ad cX6_offOf RX6 4 wsX6_offOf (some .int)) : ∀ (M : Mem) (s0 : Int32) (H : Heap) (locs : List Loc) (ls : Array Slot), Wd D cy ad x s M H locs → lv_has ls 4 [] → fX6_offOf_85 F M s0 = some r → W p l e rmX6_offOf s m args below meth c H locs 0 0 (QN D cy ad below args s x q_vi r 0 0) (F0 m 85 ls [.int s0]) := by
  obtain ⟨hx, hb, hml, hown, hts, -⟩ := id C0
  intro M s0 H locs ls hw hl h
  unfold fX6_offOf_85 at h
  exact q_iretN C0 hw h ⟨(Nat.le_of_ble_eq_true rfl), (Nat.le_of_ble_eq_true rfl)⟩ dX6_offOf_85
def fX6_offOf (F : Nat) (M : Mem) (a0 : Int32) (a1 : Int32) : Option (Mem × Int32) :=
    q_ax a0 10 fun j1 =>
    q_lt (M 30 0 j1) fun z2 =>
    if a1 = (0 : Int32) then
    (some (M, (0 : Int32)))
    else
    (q_ax a0 10 fun j3 =>
    if (M 31 0 j3) = (100 : Int32) then
    (some (M, z2 * ((a1 + (1439 : Int32)) / (1440 : Int32))))
    else
    if (M 31 0 j3) = (101 : Int32) then
    (q_bn (fX6_lesser F M (6 : Int32) (a1 / (60 : Int32))) fun M4 z5 =>
    some (M4, z2 * ((1 : Int32) <<< (z5 &&& 31))))
    else
    if (M 31 0 j3) = (102 : Int32) then
    (q_bn (fX6_lesser F M (6 : Int32) (a1 / (60 : Int32))) fun M4 z5 =>
    some (M4, z2 * ((1 : Int32) <<< (z5 &&& 31))))
    else
    if (M 31 0 j3) = (103 : Int32) then
    (if a1 ≤ z2 then
    (fX6_offOf_85 F M (0 : Int32))
    else
    (fX6_offOf_85 F M (10 : Int32)))
    else
    if (M 31 0 j3) = (104 : Int32) then
    (some (M, z2 * ((a1 + (59 : Int32)) / (60 : Int32))))
    else
    (q_bn (fX6_lesser F M (6 : Int32) (a1 / (60 : Int32))) fun M4 z5 =>
    some (M4, z2 * ((1 : Int32) <<< (z5 &&& 31)))))
set_option maxHeartbeats 4000000 in
set_option maxRecDepth 100000 in
theorem ctX6_offOf {l : Launch} (hst : l.stackTraces = false) {D : va_G} {cy : Nat → ClassId} {ad : Nat → Nat} {x : XX} {F : Nat} {M : Mem} {a0 : Int32} {a1 : Int32} {r : Mem × Int32} (h : fX6_offOf F M a0 a1 = some r) : CN l yX6_offOf wsX6_offOf rmX6_offOf D cy ad [.ref (ad 427), .int a0, .int a1] x M x r.1 (q_vi r.2) 0 0 := by
  refine q_startN (cc := cX6_offOf) (maxL := 4) (ret := (some .int)) (by decide) rfl (Nat.le_of_ble_eq_true rfl) ?_
  intro p e s m args below meth c ls C0 hw hl hnm
  obtain ⟨hx, hb, hml, hown, hts, -⟩ := id C0
  have C0 : MX p l s m args meth c D cy ad cX6_offOf RX6 4 wsX6_offOf ((some .int)) := C0
  have hown : s.vm.findClass RX6 = some m.cls := hown
  have hl : lv_has ls 4 [(0, .ref (ad 427)), (1, .int a0), (2, .int a1)] := hl
  show W p l e rmX6_offOf s m args below meth c s.heap [] 0 0 (QN D cy ad below args s x q_vi r 0 0) (F0 m 0 ls [])
  unfold fX6_offOf at h
  refine lv_aload_n hx hb dX6_offOf_0 rfl (lv_at hl 0 rfl) ?_
  refine gf_Mod_amounts C0 hw (fun _ h9 => List.mem_cons_of_mem _ (List.mem_append_left _ (List.mem_append_right _ h9))) (List.mem_of_getElem? (i := 1) rfl) dX6_offOf_1 ?_
  refine lv_iload_n hx hb dX6_offOf_4 rfl (lv_at hl 1 rfl) ?_
  refine q_iald C0 hw at_m30 h dX6_offOf_5 (fun j1 hj1 h => ?_)
  refine q_istore_n (lv' := fun z2 => [(3, .int z2), (0, .ref (ad 427)), (1, .int a0), (2, .int a1)]) hx hb dX6_offOf_6 rfl hl (by decide) (fun _ => rfl) h (fun z2 ls hl h => ?_)
  refine lv_iload_n hx hb dX6_offOf_7 rfl (lv_at hl 3 rfl) ?_
  refine q_if_ne (tgt := 13) hx hb dX6_offOf_8 (by decide) h (fun h => ?_) (fun h => ?_)
  · refine lv_aload_n hx hb dX6_offOf_13 rfl (lv_at hl 1 rfl) ?_
    refine gf_Mod_rules C0 hw (fun _ h9 => List.mem_cons_of_mem _ (List.mem_append_left _ (List.mem_append_right _ h9))) (List.mem_of_getElem? (i := 2) rfl) dX6_offOf_14 ?_
    refine lv_iload_n hx hb dX6_offOf_17 rfl (lv_at hl 2 rfl) ?_
    refine q_cald C0 hw at_m31 h dX6_offOf_18 (fun j3 hj3 h => ?_)
    refine q_if (P := (M 31 0 j3) = (100 : Int32)) h (fun e0 h => ?_) (fun n0 h => ?_)
    · refine lv_tableIn (off := 43) (tgt := 62) hx hb dX6_offOf_19 (by rw [e0]; decide) (by rw [e0]; decide) (by rw [e0]; decide) (by decide) ?_
      refine lv_iload_n hx hb dX6_offOf_62 rfl (lv_at hl 0 rfl) ?_
      refine lv_iload_n hx hb dX6_offOf_63 rfl (lv_at hl 3 rfl) ?_
      refine lv_sipush (v := 1439) hx hb dX6_offOf_64 (by decide) ?_
      refine lv_iadd hx hb dX6_offOf_67 ?_
      refine lv_sipush (v := 1440) hx hb dX6_offOf_68 (by decide) ?_
      refine lv_idiv hx hb dX6_offOf_71 (by decide) ?_
      refine lv_imul hx hb dX6_offOf_72 ?_
      exact q_iretN C0 hw h ⟨(Nat.le_of_ble_eq_true rfl), (Nat.le_of_ble_eq_true rfl)⟩ dX6_offOf_73
    · skip
      refine q_if (P := (M 31 0 j3) = (101 : Int32)) h (fun e1 h => ?_) (fun n1 h => ?_)
      · refine lv_tableIn (off := 67) (tgt := 86) hx hb dX6_offOf_19 (by rw [e1]; decide) (by rw [e1]; decide) (by rw [e1]; decide) (by decide) ?_
        refine lv_iload_n hx hb dX6_offOf_86 rfl (lv_at hl 0 rfl) ?_
        refine lv_iconst (v := 1) hx hb dX6_offOf_87 (by decide) ?_
        refine lv_bipush (v := 6) hx hb dX6_offOf_88 (by decide) ?_
        refine lv_iload_n hx hb dX6_offOf_90 rfl (lv_at hl 3 rfl) ?_
        refine lv_bipush (v := 60) hx hb dX6_offOf_91 (by decide) ?_
        refine lv_idiv hx hb dX6_offOf_93 (by decide) ?_
        refine q_callSNi (As := [.int ((6 : Int32)), .int (a1 / (60 : Int32))]) (nA := 2) C0 hw (fun r1 h1 => ctX6_lesser hst h1) gX6_offOf_X6_lesser rfl ⟨rfl, rfl⟩ (by decide +kernel) rfl ⟨(Nat.le_of_ble_eq_true rfl), (Nat.le_of_ble_eq_true rfl)⟩ hl.1 (Nat.le_of_ble_eq_true rfl) ⟨(Nat.le_of_ble_eq_true rfl), (Nat.le_of_ble_eq_true rfl)⟩ rfl h dX6_offOf_94 (fun M4 z5 H locs hw h => ?_)
        refine lv_ishl hx hb dX6_offOf_97 ?_
        refine lv_imul hx hb dX6_offOf_98 ?_
        exact q_iretN C0 hw h ⟨(Nat.le_of_ble_eq_true rfl), (Nat.le_of_ble_eq_true rfl)⟩ dX6_offOf_99
      · skip
        refine q_if (P := (M 31 0 j3) = (102 : Int32)) h (fun e2 h => ?_) (fun n2 h => ?_)
        · refine lv_tableIn (off := 67) (tgt := 86) hx hb dX6_offOf_19 (by rw [e2]; decide) (by rw [e2]; decide) (by rw [e2]; decide) (by decide) ?_
          refine lv_iload_n hx hb dX6_offOf_86 rfl (lv_at hl 0 rfl) ?_
          refine lv_iconst (v := 1) hx hb dX6_offOf_87 (by decide) ?_
          refine lv_bipush (v := 6) hx hb dX6_offOf_88 (by decide) ?_
          refine lv_iload_n hx hb dX6_offOf_90 rfl (lv_at hl 3 rfl) ?_
          refine lv_bipush (v := 60) hx hb dX6_offOf_91 (by decide) ?_
          refine lv_idiv hx hb dX6_offOf_93 (by decide) ?_
          refine q_callSNi (As := [.int ((6 : Int32)), .int (a1 / (60 : Int32))]) (nA := 2) C0 hw (fun r1 h1 => ctX6_lesser hst h1) gX6_offOf_X6_lesser rfl ⟨rfl, rfl⟩ (by decide +kernel) rfl ⟨(Nat.le_of_ble_eq_true rfl), (Nat.le_of_ble_eq_true rfl)⟩ hl.1 (Nat.le_of_ble_eq_true rfl) ⟨(Nat.le_of_ble_eq_true rfl), (Nat.le_of_ble_eq_true rfl)⟩ rfl h dX6_offOf_94 (fun M4 z5 H locs hw h => ?_)
          refine lv_ishl hx hb dX6_offOf_97 ?_
          refine lv_imul hx hb dX6_offOf_98 ?_
          exact q_iretN C0 hw h ⟨(Nat.le_of_ble_eq_true rfl), (Nat.le_of_ble_eq_true rfl)⟩ dX6_offOf_99
        · skip
          refine q_if (P := (M 31 0 j3) = (103 : Int32)) h (fun e3 h => ?_) (fun n3 h => ?_)
          · refine lv_tableIn (off := 55) (tgt := 74) hx hb dX6_offOf_19 (by rw [e3]; decide) (by rw [e3]; decide) (by rw [e3]; decide) (by decide) ?_
            refine lv_iload_n hx hb dX6_offOf_74 rfl (lv_at hl 3 rfl) ?_
            refine lv_iload_n hx hb dX6_offOf_75 rfl (lv_at hl 0 rfl) ?_
            refine q_icmp_le (tgt := 84) hx hb dX6_offOf_76 (by decide) h (fun h => ?_) (fun h => ?_)
            · refine lv_iconst (v := 0) hx hb dX6_offOf_84 (by decide) ?_
              exact wX6_offOf_85 hst C0  M (0 : Int32) _ _ _ hw (lv_sub hl [] rfl) h
            · refine lv_bipush (v := 10) hx hb dX6_offOf_79 (by decide) ?_
              refine lv_goto (tgt := 85) hx hb dX6_offOf_81 (by decide) ?_
              exact wX6_offOf_85 hst C0  M (10 : Int32) _ _ _ hw (lv_sub hl [] rfl) h
          · skip
            refine q_if (P := (M 31 0 j3) = (104 : Int32)) h (fun e4 h => ?_) (fun n4 h => ?_)
            · refine lv_tableIn (off := 33) (tgt := 52) hx hb dX6_offOf_19 (by rw [e4]; decide) (by rw [e4]; decide) (by rw [e4]; decide) (by decide) ?_
              refine lv_iload_n hx hb dX6_offOf_52 rfl (lv_at hl 0 rfl) ?_
              refine lv_iload_n hx hb dX6_offOf_53 rfl (lv_at hl 3 rfl) ?_
              refine lv_bipush (v := 59) hx hb dX6_offOf_54 (by decide) ?_
              refine lv_iadd hx hb dX6_offOf_56 ?_
              refine lv_bipush (v := 60) hx hb dX6_offOf_57 (by decide) ?_
              refine lv_idiv hx hb dX6_offOf_59 (by decide) ?_
              refine lv_imul hx hb dX6_offOf_60 ?_
              exact q_iretN C0 hw h ⟨(Nat.le_of_ble_eq_true rfl), (Nat.le_of_ble_eq_true rfl)⟩ dX6_offOf_61
            · skip
              refine lv_tableOut (tgt := 86) hx hb dX6_offOf_19 (by have t0 : ¬ Int32.toInt (M 31 0 j3) = 100 := lv_neT n0 (by decide); have t1 : ¬ Int32.toInt (M 31 0 j3) = 101 := lv_neT n1 (by decide); have t2 : ¬ Int32.toInt (M 31 0 j3) = 102 := lv_neT n2 (by decide); have t3 : ¬ Int32.toInt (M 31 0 j3) = 103 := lv_neT n3 (by decide); have t4 : ¬ Int32.toInt (M 31 0 j3) = 104 := lv_neT n4 (by decide); omega) (by decide) ?_
              refine lv_iload_n hx hb dX6_offOf_86 rfl (lv_at hl 0 rfl) ?_
              refine lv_iconst (v := 1) hx hb dX6_offOf_87 (by decide) ?_
              refine lv_bipush (v := 6) hx hb dX6_offOf_88 (by decide) ?_
              refine lv_iload_n hx hb dX6_offOf_90 rfl (lv_at hl 3 rfl) ?_
              refine lv_bipush (v := 60) hx hb dX6_offOf_91 (by decide) ?_
              refine lv_idiv hx hb dX6_offOf_93 (by decide) ?_
              refine q_callSNi (As := [.int ((6 : Int32)), .int (a1 / (60 : Int32))]) (nA := 2) C0 hw (fun r1 h1 => ctX6_lesser hst h1) gX6_offOf_X6_lesser rfl ⟨rfl, rfl⟩ (by decide +kernel) rfl ⟨(Nat.le_of_ble_eq_true rfl), (Nat.le_of_ble_eq_true rfl)⟩ hl.1 (Nat.le_of_ble_eq_true rfl) ⟨(Nat.le_of_ble_eq_true rfl), (Nat.le_of_ble_eq_true rfl)⟩ rfl h dX6_offOf_94 (fun M4 z5 H locs hw h => ?_)
              refine lv_ishl hx hb dX6_offOf_97 ?_
              refine lv_imul hx hb dX6_offOf_98 ?_
              exact q_iretN C0 hw h ⟨(Nat.le_of_ble_eq_true rfl), (Nat.le_of_ble_eq_true rfl)⟩ dX6_offOf_99
  · refine lv_iconst (v := 0) hx hb dX6_offOf_11 (by decide) ?_
    exact q_iretN C0 hw h ⟨(Nat.le_of_ble_eq_true rfl), (Nat.le_of_ble_eq_true rfl)⟩ dX6_offOf_12
/-! HomewatcherModel.off(II)I -/
abbrev rmX6_off : Room := { frames := 2, cells := 0, slots := 0, locals := 44 }
def fX6_off_42 (F : Nat) (M : Mem) (s0 : Int32) : Option (Mem × Int32) :=
    some (M, s0)
set_option maxHeartbeats 4000000 in
set_option maxRecDepth 100000 in
theorem wX6_off_42 {p : Program} {l : Launch} {e : Env} {s : State} {m : MethodId} {args : Array Value} {below : List Frame} {meth : Method} {c : Code} {D : va_G} {cy : Nat → ClassId} {ad : Nat → Nat} {x : XX} {F : Nat} {r : Mem × Int32} (hst : l.stackTraces = false) (C0 : MX p l s m args meth c D cy ad cX6_off RX6 3 wsX6_off (some .int)) : ∀ (M : Mem) (s0 : Int32) (H : Heap) (locs : List Loc) (ls : Array Slot), Wd D cy ad x s M H locs → lv_has ls 3 [] → fX6_off_42 F M s0 = some r → W p l e rmX6_off s m args below meth c H locs 0 0 (QN D cy ad below args s x q_vi r 0 0) (F0 m 42 ls [.int s0]) := by
  obtain ⟨hx, hb, hml, hown, hts, -⟩ := id C0
  intro M s0 H locs ls hw hl h
  unfold fX6_off_42 at h
  exact q_iretN C0 hw h ⟨(Nat.le_of_ble_eq_true rfl), (Nat.le_of_ble_eq_true rfl)⟩ dX6_off_42
def fX6_off (F : Nat) (M : Mem) (a0 : Int32) (a1 : Int32) : Option (Mem × Int32) :=
    q_bn (fX6_isTask F M a0) fun M1 z2 =>
    if z2 = (0 : Int32) then
    (q_bn (fX6_fails F M1 (1 : Int32)) fun M3 z4 =>
    some (M3, z4))
    else
    (q_bn (fX6_in F M1 a1 (0 : Int32) (1000000 : Int32)) fun M3 z4 =>
    if z4 = (0 : Int32) then
    (q_bn (fX6_fails F M3 (2 : Int32)) fun M5 z6 =>
    fX6_off_42 F M5 z6)
    else
    (q_bn (fX6_offOf F M3 a0 a1) fun M5 z6 =>
    q_bn (fX6_tells F M5 z6) fun M7 z8 =>
    fX6_off_42 F M7 z8))
set_option maxHeartbeats 4000000 in
set_option maxRecDepth 100000 in
theorem ctX6_off {l : Launch} (hst : l.stackTraces = false) {D : va_G} {cy : Nat → ClassId} {ad : Nat → Nat} {x : XX} {F : Nat} {M : Mem} {a0 : Int32} {a1 : Int32} {r : Mem × Int32} (h : fX6_off F M a0 a1 = some r) : CN l yX6_off wsX6_off rmX6_off D cy ad [.ref (ad 427), .int a0, .int a1] x M x r.1 (q_vi r.2) 0 0 := by
  refine q_startN (cc := cX6_off) (maxL := 3) (ret := (some .int)) (by decide) rfl (Nat.le_of_ble_eq_true rfl) ?_
  intro p e s m args below meth c ls C0 hw hl hnm
  obtain ⟨hx, hb, hml, hown, hts, -⟩ := id C0
  have C0 : MX p l s m args meth c D cy ad cX6_off RX6 3 wsX6_off ((some .int)) := C0
  have hown : s.vm.findClass RX6 = some m.cls := hown
  have hl : lv_has ls 3 [(0, .ref (ad 427)), (1, .int a0), (2, .int a1)] := hl
  show W p l e rmX6_off s m args below meth c s.heap [] 0 0 (QN D cy ad below args s x q_vi r 0 0) (F0 m 0 ls [])
  unfold fX6_off at h
  refine lv_aload_n hx hb dX6_off_0 rfl (lv_at hl 0 rfl) ?_
  refine lv_iload_n hx hb dX6_off_1 rfl (lv_at hl 1 rfl) ?_
  refine q_callVNi (As := [.int a0]) (nA := 1) C0 hw at_Mod rfl (fun r1 h1 => ctX6_isTask hst h1) gX6_off_X6_isTask rfl ⟨rfl, rfl⟩ (by decide +kernel) rfl ⟨(Nat.le_of_ble_eq_true rfl), (Nat.le_of_ble_eq_true rfl)⟩ hl.1 (Nat.le_of_ble_eq_true rfl) ⟨(Nat.le_of_ble_eq_true rfl), (Nat.le_of_ble_eq_true rfl)⟩ rfl h dX6_off_2 (fun M1 z2 H locs hw h => ?_)
  refine q_if_ne (tgt := 14) hx hb dX6_off_5 (by decide) h (fun h => ?_) (fun h => ?_)
  · refine lv_iload_n hx hb dX6_off_14 rfl (lv_at hl 2 rfl) ?_
    refine lv_iconst (v := 0) hx hb dX6_off_15 (by decide) ?_
    refine lv_ldc (v := 1000000) hx hb hown (hts _ (List.mem_of_getElem? (i := 1) rfl)) dX6_off_16 ?_
    refine q_callSNi (As := [.int a1, .int ((0 : Int32)), .int ((1000000 : Int32))]) (nA := 3) C0 hw (fun r1 h1 => ctX6_in hst h1) gX6_off_X6_in rfl ⟨rfl, rfl⟩ (by decide +kernel) rfl ⟨(Nat.le_of_ble_eq_true rfl), (Nat.le_of_ble_eq_true rfl)⟩ hl.1 (Nat.le_of_ble_eq_true rfl) ⟨(Nat.le_of_ble_eq_true rfl), (Nat.le_of_ble_eq_true rfl)⟩ rfl h dX6_off_18 (fun M3 z4 H locs hw h => ?_)
    refine q_if_eq (tgt := 37) hx hb dX6_off_21 (by decide) h (fun h => ?_) (fun h => ?_)
    · refine lv_aload_n hx hb dX6_off_37 rfl (lv_at hl 0 rfl) ?_
      refine lv_iconst (v := 2) hx hb dX6_off_38 (by decide) ?_
      refine q_callVNi (As := [.int ((2 : Int32))]) (nA := 1) C0 hw at_Mod rfl (fun r1 h1 => ctX6_fails hst h1) gX6_off_X6_fails rfl ⟨rfl, rfl⟩ (by decide +kernel) rfl ⟨(Nat.le_of_ble_eq_true rfl), (Nat.le_of_ble_eq_true rfl)⟩ hl.1 (Nat.le_of_ble_eq_true rfl) ⟨(Nat.le_of_ble_eq_true rfl), (Nat.le_of_ble_eq_true rfl)⟩ rfl h dX6_off_39 (fun M5 z6 H locs hw h => ?_)
      exact wX6_off_42 hst C0  M5 z6 _ _ _ hw (lv_sub hl [] rfl) h
    · refine lv_aload_n hx hb dX6_off_24 rfl (lv_at hl 0 rfl) ?_
      refine lv_aload_n hx hb dX6_off_25 rfl (lv_at hl 0 rfl) ?_
      refine lv_iload_n hx hb dX6_off_26 rfl (lv_at hl 1 rfl) ?_
      refine lv_iload_n hx hb dX6_off_27 rfl (lv_at hl 2 rfl) ?_
      refine q_callVNi (As := [.int a0, .int a1]) (nA := 2) C0 hw at_Mod rfl (fun r1 h1 => ctX6_offOf hst h1) gX6_off_X6_offOf rfl ⟨rfl, rfl⟩ (by decide +kernel) rfl ⟨(Nat.le_of_ble_eq_true rfl), (Nat.le_of_ble_eq_true rfl)⟩ hl.1 (Nat.le_of_ble_eq_true rfl) ⟨(Nat.le_of_ble_eq_true rfl), (Nat.le_of_ble_eq_true rfl)⟩ rfl h dX6_off_28 (fun M5 z6 H locs hw h => ?_)
      refine q_callVNi (As := [.int z6]) (nA := 1) C0 hw at_Mod rfl (fun r1 h1 => ctX6_tells hst h1) gX6_off_X6_tells rfl ⟨rfl, rfl⟩ (by decide +kernel) rfl ⟨(Nat.le_of_ble_eq_true rfl), (Nat.le_of_ble_eq_true rfl)⟩ hl.1 (Nat.le_of_ble_eq_true rfl) ⟨(Nat.le_of_ble_eq_true rfl), (Nat.le_of_ble_eq_true rfl)⟩ rfl h dX6_off_31 (fun M7 z8 H locs hw h => ?_)
      refine lv_goto (tgt := 42) hx hb dX6_off_34 (by decide) ?_
      exact wX6_off_42 hst C0  M7 z8 _ _ _ hw (lv_sub hl [] rfl) h
  · refine lv_aload_n hx hb dX6_off_8 rfl (lv_at hl 0 rfl) ?_
    refine lv_iconst (v := 1) hx hb dX6_off_9 (by decide) ?_
    refine q_callVNi (As := [.int ((1 : Int32))]) (nA := 1) C0 hw at_Mod rfl (fun r1 h1 => ctX6_fails hst h1) gX6_off_X6_fails rfl ⟨rfl, rfl⟩ (by decide +kernel) rfl ⟨(Nat.le_of_ble_eq_true rfl), (Nat.le_of_ble_eq_true rfl)⟩ hl.1 (Nat.le_of_ble_eq_true rfl) ⟨(Nat.le_of_ble_eq_true rfl), (Nat.le_of_ble_eq_true rfl)⟩ rfl h dX6_off_10 (fun M3 z4 H locs hw h => ?_)
    exact q_iretN C0 hw h ⟨(Nat.le_of_ble_eq_true rfl), (Nat.le_of_ble_eq_true rfl)⟩ dX6_off_13
/-! HomewatcherModel.points(II)I -/
abbrev rmX6_points : Room := { frames := 2, cells := 0, slots := 0, locals := 43 }
def fX6_points (F : Nat) (M : Mem) (a0 : Int32) (a1 : Int32) : Option (Mem × Int32) :=
    q_bn (fX6_isVersion F M a0) fun M1 z2 =>
    if z2 = (0 : Int32) then
    (q_bn (fX6_fails F M1 (1 : Int32)) fun M3 z4 =>
    some (M3, z4))
    else
    (q_bn (fX6_in F M1 a1 (0 : Int32) (100 : Int32)) fun M3 z4 =>
    if z4 = (0 : Int32) then
    (q_bn (fX6_fails F M3 (2 : Int32)) fun M5 z6 =>
    some (M5, z6))
    else
    (q_ax a0 60 fun j5 =>
    q_lt (M3 41 0 j5) fun z6 =>
    q_ax a0 60 fun j7 =>
    q_lt (up M3 41 0 j7 a1) fun M8 =>
    q_bn (fX6_tells F M8 z6) fun M9 z10 =>
    some (M9, z10)))
set_option maxHeartbeats 4000000 in
set_option maxRecDepth 100000 in
theorem ctX6_points {l : Launch} (hst : l.stackTraces = false) {D : va_G} {cy : Nat → ClassId} {ad : Nat → Nat} {x : XX} {F : Nat} {M : Mem} {a0 : Int32} {a1 : Int32} {r : Mem × Int32} (h : fX6_points F M a0 a1 = some r) : CN l yX6_points wsX6_points rmX6_points D cy ad [.ref (ad 427), .int a0, .int a1] x M x r.1 (q_vi r.2) 0 0 := by
  refine q_startN (cc := cX6_points) (maxL := 4) (ret := (some .int)) (by decide) rfl (Nat.le_of_ble_eq_true rfl) ?_
  intro p e s m args below meth c ls C0 hw hl hnm
  obtain ⟨hx, hb, hml, hown, hts, -⟩ := id C0
  have C0 : MX p l s m args meth c D cy ad cX6_points RX6 4 wsX6_points ((some .int)) := C0
  have hown : s.vm.findClass RX6 = some m.cls := hown
  have hl : lv_has ls 4 [(0, .ref (ad 427)), (1, .int a0), (2, .int a1)] := hl
  show W p l e rmX6_points s m args below meth c s.heap [] 0 0 (QN D cy ad below args s x q_vi r 0 0) (F0 m 0 ls [])
  unfold fX6_points at h
  refine lv_aload_n hx hb dX6_points_0 rfl (lv_at hl 0 rfl) ?_
  refine lv_iload_n hx hb dX6_points_1 rfl (lv_at hl 1 rfl) ?_
  refine q_callVNi (As := [.int a0]) (nA := 1) C0 hw at_Mod rfl (fun r1 h1 => ctX6_isVersion hst h1) gX6_points_X6_isVersion rfl ⟨rfl, rfl⟩ (by decide +kernel) rfl ⟨(Nat.le_of_ble_eq_true rfl), (Nat.le_of_ble_eq_true rfl)⟩ hl.1 (Nat.le_of_ble_eq_true rfl) ⟨(Nat.le_of_ble_eq_true rfl), (Nat.le_of_ble_eq_true rfl)⟩ rfl h dX6_points_2 (fun M1 z2 H locs hw h => ?_)
  refine q_if_ne (tgt := 14) hx hb dX6_points_5 (by decide) h (fun h => ?_) (fun h => ?_)
  · refine lv_iload_n hx hb dX6_points_14 rfl (lv_at hl 2 rfl) ?_
    refine lv_iconst (v := 0) hx hb dX6_points_15 (by decide) ?_
    refine lv_bipush (v := 100) hx hb dX6_points_16 (by decide) ?_
    refine q_callSNi (As := [.int a1, .int ((0 : Int32)), .int ((100 : Int32))]) (nA := 3) C0 hw (fun r1 h1 => ctX6_in hst h1) gX6_points_X6_in rfl ⟨rfl, rfl⟩ (by decide +kernel) rfl ⟨(Nat.le_of_ble_eq_true rfl), (Nat.le_of_ble_eq_true rfl)⟩ hl.1 (Nat.le_of_ble_eq_true rfl) ⟨(Nat.le_of_ble_eq_true rfl), (Nat.le_of_ble_eq_true rfl)⟩ rfl h dX6_points_18 (fun M3 z4 H locs hw h => ?_)
    refine q_if_ne (tgt := 30) hx hb dX6_points_21 (by decide) h (fun h => ?_) (fun h => ?_)
    · refine lv_aload_n hx hb dX6_points_30 rfl (lv_at hl 0 rfl) ?_
      refine gf_Mod_points C0 hw (fun _ h9 => List.mem_cons_of_mem _ (List.mem_append_left _ (List.mem_append_right _ h9))) (List.mem_of_getElem? (i := 1) rfl) dX6_points_31 ?_
      refine lv_iload_n hx hb dX6_points_34 rfl (lv_at hl 1 rfl) ?_
      refine q_iald C0 hw at_m41 h dX6_points_35 (fun j5 hj5 h => ?_)
      refine q_istore_n (lv' := fun z6 => [(3, .int z6), (0, .ref (ad 427)), (1, .int a0), (2, .int a1)]) hx hb dX6_points_36 rfl hl (by decide) (fun _ => rfl) h (fun z6 ls hl h => ?_)
      refine lv_aload_n hx hb dX6_points_37 rfl (lv_at hl 1 rfl) ?_
      refine gf_Mod_points C0 hw (fun _ h9 => List.mem_cons_of_mem _ (List.mem_append_left _ (List.mem_append_right _ h9))) (List.mem_of_getElem? (i := 1) rfl) dX6_points_38 ?_
      refine lv_iload_n hx hb dX6_points_41 rfl (lv_at hl 2 rfl) ?_
      refine lv_iload_n hx hb dX6_points_42 rfl (lv_at hl 3 rfl) ?_
      refine q_iast (v := 41) C0 hw rfl (fun _ => at_m41) h dX6_points_43 (fun j7 M8 H locs hj7 hw h => ?_)
      refine lv_aload_n hx hb dX6_points_44 rfl (lv_at hl 1 rfl) ?_
      refine lv_iload_n hx hb dX6_points_45 rfl (lv_at hl 0 rfl) ?_
      refine q_callVNi (As := [.int z6]) (nA := 1) C0 hw at_Mod rfl (fun r1 h1 => ctX6_tells hst h1) gX6_points_X6_tells rfl ⟨rfl, rfl⟩ (by decide +kernel) rfl ⟨(Nat.le_of_ble_eq_true rfl), (Nat.le_of_ble_eq_true rfl)⟩ hl.1 (Nat.le_of_ble_eq_true rfl) ⟨(Nat.le_of_ble_eq_true rfl), (Nat.le_of_ble_eq_true rfl)⟩ rfl h dX6_points_46 (fun M9 z10 H locs hw h => ?_)
      exact q_iretN C0 hw h ⟨(Nat.le_of_ble_eq_true rfl), (Nat.le_of_ble_eq_true rfl)⟩ dX6_points_49
    · refine lv_aload_n hx hb dX6_points_24 rfl (lv_at hl 0 rfl) ?_
      refine lv_iconst (v := 2) hx hb dX6_points_25 (by decide) ?_
      refine q_callVNi (As := [.int ((2 : Int32))]) (nA := 1) C0 hw at_Mod rfl (fun r1 h1 => ctX6_fails hst h1) gX6_points_X6_fails rfl ⟨rfl, rfl⟩ (by decide +kernel) rfl ⟨(Nat.le_of_ble_eq_true rfl), (Nat.le_of_ble_eq_true rfl)⟩ hl.1 (Nat.le_of_ble_eq_true rfl) ⟨(Nat.le_of_ble_eq_true rfl), (Nat.le_of_ble_eq_true rfl)⟩ rfl h dX6_points_26 (fun M5 z6 H locs hw h => ?_)
      exact q_iretN C0 hw h ⟨(Nat.le_of_ble_eq_true rfl), (Nat.le_of_ble_eq_true rfl)⟩ dX6_points_29
  · refine lv_aload_n hx hb dX6_points_8 rfl (lv_at hl 0 rfl) ?_
    refine lv_iconst (v := 1) hx hb dX6_points_9 (by decide) ?_
    refine q_callVNi (As := [.int ((1 : Int32))]) (nA := 1) C0 hw at_Mod rfl (fun r1 h1 => ctX6_fails hst h1) gX6_points_X6_fails rfl ⟨rfl, rfl⟩ (by decide +kernel) rfl ⟨(Nat.le_of_ble_eq_true rfl), (Nat.le_of_ble_eq_true rfl)⟩ hl.1 (Nat.le_of_ble_eq_true rfl) ⟨(Nat.le_of_ble_eq_true rfl), (Nat.le_of_ble_eq_true rfl)⟩ rfl h dX6_points_10 (fun M3 z4 H locs hw h => ?_)
    exact q_iretN C0 hw h ⟨(Nat.le_of_ble_eq_true rfl), (Nat.le_of_ble_eq_true rfl)⟩ dX6_points_13
/-! HomewatcherModel.counting(II)I -/
abbrev rmX6_counting : Room := { frames := 2, cells := 0, slots := 0, locals := 43 }
def fX6_counting_16 (F : Nat) (M : Mem) : Option (Mem × Int32) :=
    q_bn (fX6_fails F M (1 : Int32)) fun M1 z2 =>
    some (M1, z2)
set_option maxHeartbeats 4000000 in
set_option maxRecDepth 100000 in
theorem wX6_counting_16 {p : Program} {l : Launch} {e : Env} {s : State} {m : MethodId} {args : Array Value} {below : List Frame} {meth : Method} {c : Code} {D : va_G} {cy : Nat → ClassId} {ad : Nat → Nat} {x : XX} {F : Nat} {r : Mem × Int32} (hst : l.stackTraces = false) (C0 : MX p l s m args meth c D cy ad cX6_counting RX6 4 wsX6_counting (some .int)) : ∀ (M : Mem) (H : Heap) (locs : List Loc) (ls : Array Slot), Wd D cy ad x s M H locs → lv_has ls 4 [(0, .ref (ad 427))] → fX6_counting_16 F M = some r → W p l e rmX6_counting s m args below meth c H locs 0 0 (QN D cy ad below args s x q_vi r 0 0) (F0 m 16 ls []) := by
  obtain ⟨hx, hb, hml, hown, hts, -⟩ := id C0
  intro M H locs ls hw hl h
  unfold fX6_counting_16 at h
  refine lv_aload_n hx hb dX6_counting_16 rfl (lv_at hl 0 rfl) ?_
  refine lv_iconst (v := 1) hx hb dX6_counting_17 (by decide) ?_
  refine q_callVNi (As := [.int ((1 : Int32))]) (nA := 1) C0 hw at_Mod rfl (fun r1 h1 => ctX6_fails hst h1) gX6_counting_X6_fails rfl ⟨rfl, rfl⟩ (by decide +kernel) rfl ⟨(Nat.le_of_ble_eq_true rfl), (Nat.le_of_ble_eq_true rfl)⟩ hl.1 (Nat.le_of_ble_eq_true rfl) ⟨(Nat.le_of_ble_eq_true rfl), (Nat.le_of_ble_eq_true rfl)⟩ rfl h dX6_counting_18 (fun M1 z2 H locs hw h => ?_)
  exact q_iretN C0 hw h ⟨(Nat.le_of_ble_eq_true rfl), (Nat.le_of_ble_eq_true rfl)⟩ dX6_counting_21
def fX6_counting_47 (F : Nat) (M : Mem) (s0 : Int32) : Option (Mem × Int32) :=
    some (M, s0)
set_option maxHeartbeats 4000000 in
set_option maxRecDepth 100000 in
theorem wX6_counting_47 {p : Program} {l : Launch} {e : Env} {s : State} {m : MethodId} {args : Array Value} {below : List Frame} {meth : Method} {c : Code} {D : va_G} {cy : Nat → ClassId} {ad : Nat → Nat} {x : XX} {F : Nat} {r : Mem × Int32} (hst : l.stackTraces = false) (C0 : MX p l s m args meth c D cy ad cX6_counting RX6 4 wsX6_counting (some .int)) : ∀ (M : Mem) (s0 : Int32) (H : Heap) (locs : List Loc) (ls : Array Slot), Wd D cy ad x s M H locs → lv_has ls 4 [] → fX6_counting_47 F M s0 = some r → W p l e rmX6_counting s m args below meth c H locs 0 0 (QN D cy ad below args s x q_vi r 0 0) (F0 m 47 ls [.int s0]) := by
  obtain ⟨hx, hb, hml, hown, hts, -⟩ := id C0
  intro M s0 H locs ls hw hl h
  unfold fX6_counting_47 at h
  exact q_iretN C0 hw h ⟨(Nat.le_of_ble_eq_true rfl), (Nat.le_of_ble_eq_true rfl)⟩ dX6_counting_47
def fX6_counting (F : Nat) (M : Mem) (a0 : Int32) (a1 : Int32) : Option (Mem × Int32) :=
    q_bn (fX6_isPupil F M a0) fun M1 z2 =>
    if z2 = (0 : Int32) then
    (fX6_counting_16 F M1)
    else
    (q_bn (fX6_isTask F M1 a1) fun M3 z4 =>
    if z4 = (0 : Int32) then
    (fX6_counting_16 F M3)
    else
    (q_bn (fX6_countingOf F M3 a0 a1) fun M5 z6 =>
    q_lt (z6) fun z7 =>
    if z7 = (-1 : Int32) then
    (q_bn (fX6_fails F M5 (2 : Int32)) fun M8 z9 =>
    fX6_counting_47 F M8 z9)
    else
    (q_bn (fX6_tells F M5 z7) fun M8 z9 =>
    fX6_counting_47 F M8 z9)))
set_option maxHeartbeats 4000000 in
set_option maxRecDepth 100000 in
theorem ctX6_counting {l : Launch} (hst : l.stackTraces = false) {D : va_G} {cy : Nat → ClassId} {ad : Nat → Nat} {x : XX} {F : Nat} {M : Mem} {a0 : Int32} {a1 : Int32} {r : Mem × Int32} (h : fX6_counting F M a0 a1 = some r) : CN l yX6_counting wsX6_counting rmX6_counting D cy ad [.ref (ad 427), .int a0, .int a1] x M x r.1 (q_vi r.2) 0 0 := by
  refine q_startN (cc := cX6_counting) (maxL := 4) (ret := (some .int)) (by decide) rfl (Nat.le_of_ble_eq_true rfl) ?_
  intro p e s m args below meth c ls C0 hw hl hnm
  obtain ⟨hx, hb, hml, hown, hts, -⟩ := id C0
  have C0 : MX p l s m args meth c D cy ad cX6_counting RX6 4 wsX6_counting ((some .int)) := C0
  have hown : s.vm.findClass RX6 = some m.cls := hown
  have hl : lv_has ls 4 [(0, .ref (ad 427)), (1, .int a0), (2, .int a1)] := hl
  show W p l e rmX6_counting s m args below meth c s.heap [] 0 0 (QN D cy ad below args s x q_vi r 0 0) (F0 m 0 ls [])
  unfold fX6_counting at h
  refine lv_aload_n hx hb dX6_counting_0 rfl (lv_at hl 0 rfl) ?_
  refine lv_iload_n hx hb dX6_counting_1 rfl (lv_at hl 1 rfl) ?_
  refine q_callVNi (As := [.int a0]) (nA := 1) C0 hw at_Mod rfl (fun r1 h1 => ctX6_isPupil hst h1) gX6_counting_X6_isPupil rfl ⟨rfl, rfl⟩ (by decide +kernel) rfl ⟨(Nat.le_of_ble_eq_true rfl), (Nat.le_of_ble_eq_true rfl)⟩ hl.1 (Nat.le_of_ble_eq_true rfl) ⟨(Nat.le_of_ble_eq_true rfl), (Nat.le_of_ble_eq_true rfl)⟩ rfl h dX6_counting_2 (fun M1 z2 H locs hw h => ?_)
  refine q_if_eq (tgt := 16) hx hb dX6_counting_5 (by decide) h (fun h => ?_) (fun h => ?_)
  · exact wX6_counting_16 hst C0  M1 _ _ _ hw (lv_sub hl [0] rfl) h
  · refine lv_aload_n hx hb dX6_counting_8 rfl (lv_at hl 0 rfl) ?_
    refine lv_iload_n hx hb dX6_counting_9 rfl (lv_at hl 2 rfl) ?_
    refine q_callVNi (As := [.int a1]) (nA := 1) C0 hw at_Mod rfl (fun r1 h1 => ctX6_isTask hst h1) gX6_counting_X6_isTask rfl ⟨rfl, rfl⟩ (by decide +kernel) rfl ⟨(Nat.le_of_ble_eq_true rfl), (Nat.le_of_ble_eq_true rfl)⟩ hl.1 (Nat.le_of_ble_eq_true rfl) ⟨(Nat.le_of_ble_eq_true rfl), (Nat.le_of_ble_eq_true rfl)⟩ rfl h dX6_counting_10 (fun M3 z4 H locs hw h => ?_)
    refine q_if_ne (tgt := 22) hx hb dX6_counting_13 (by decide) h (fun h => ?_) (fun h => ?_)
    · refine lv_aload_n hx hb dX6_counting_22 rfl (lv_at hl 0 rfl) ?_
      refine lv_iload_n hx hb dX6_counting_23 rfl (lv_at hl 1 rfl) ?_
      refine lv_iload_n hx hb dX6_counting_24 rfl (lv_at hl 2 rfl) ?_
      refine q_callVNi (As := [.int a0, .int a1]) (nA := 2) C0 hw at_Mod rfl (fun r1 h1 => ctX6_countingOf hst h1) gX6_counting_X6_countingOf rfl ⟨rfl, rfl⟩ (by decide +kernel) rfl ⟨(Nat.le_of_ble_eq_true rfl), (Nat.le_of_ble_eq_true rfl)⟩ hl.1 (Nat.le_of_ble_eq_true rfl) ⟨(Nat.le_of_ble_eq_true rfl), (Nat.le_of_ble_eq_true rfl)⟩ rfl h dX6_counting_25 (fun M5 z6 H locs hw h => ?_)
      refine q_istore_n (lv' := fun z7 => [(3, .int z7), (0, .ref (ad 427)), (1, .int a0), (2, .int a1)]) hx hb dX6_counting_28 rfl hl (by decide) (fun _ => rfl) h (fun z7 ls hl h => ?_)
      refine lv_iload_n hx hb dX6_counting_29 rfl (lv_at hl 0 rfl) ?_
      refine lv_iconst (v := -1) hx hb dX6_counting_30 (by decide) ?_
      refine q_icmp_ne (tgt := 42) hx hb dX6_counting_31 (by decide) h (fun h => ?_) (fun h => ?_)
      · refine lv_aload_n hx hb dX6_counting_42 rfl (lv_at hl 1 rfl) ?_
        refine lv_iload_n hx hb dX6_counting_43 rfl (lv_at hl 0 rfl) ?_
        refine q_callVNi (As := [.int z7]) (nA := 1) C0 hw at_Mod rfl (fun r1 h1 => ctX6_tells hst h1) gX6_counting_X6_tells rfl ⟨rfl, rfl⟩ (by decide +kernel) rfl ⟨(Nat.le_of_ble_eq_true rfl), (Nat.le_of_ble_eq_true rfl)⟩ hl.1 (Nat.le_of_ble_eq_true rfl) ⟨(Nat.le_of_ble_eq_true rfl), (Nat.le_of_ble_eq_true rfl)⟩ rfl h dX6_counting_44 (fun M8 z9 H locs hw h => ?_)
        exact wX6_counting_47 hst C0  M8 z9 _ _ _ hw (lv_sub hl [] rfl) h
      · refine lv_aload_n hx hb dX6_counting_34 rfl (lv_at hl 1 rfl) ?_
        refine lv_iconst (v := 2) hx hb dX6_counting_35 (by decide) ?_
        refine q_callVNi (As := [.int ((2 : Int32))]) (nA := 1) C0 hw at_Mod rfl (fun r1 h1 => ctX6_fails hst h1) gX6_counting_X6_fails rfl ⟨rfl, rfl⟩ (by decide +kernel) rfl ⟨(Nat.le_of_ble_eq_true rfl), (Nat.le_of_ble_eq_true rfl)⟩ hl.1 (Nat.le_of_ble_eq_true rfl) ⟨(Nat.le_of_ble_eq_true rfl), (Nat.le_of_ble_eq_true rfl)⟩ rfl h dX6_counting_36 (fun M8 z9 H locs hw h => ?_)
        refine lv_goto (tgt := 47) hx hb dX6_counting_39 (by decide) ?_
        exact wX6_counting_47 hst C0  M8 z9 _ _ _ hw (lv_sub hl [] rfl) h
    · exact wX6_counting_16 hst C0  M3 _ _ _ hw (lv_sub hl [0] rfl) h
/-! HomewatcherModel.isFrozenOf(II)Z -/
abbrev rmX6_isFrozenOf : Room := { frames := 0, cells := 0, slots := 0, locals := 0 }
def fX6_isFrozenOf_122 (F : Nat) (k5 : Mem → Int32 → Int32 → Int32 → Int32 → Option (Mem × Int32)) (M : Mem) (s0 : Int32) (v1 : Int32) (v2 : Int32) (v4 : Int32) : Option (Mem × Int32) :=
    q_lt (s0) fun z1 =>
    q_lt (v4 + (1 : Int32)) fun z2 =>
    k5 M v1 v2 z1 z2
set_option maxHeartbeats 4000000 in
set_option maxRecDepth 100000 in
theorem wX6_isFrozenOf_122 {p : Program} {l : Launch} {e : Env} {s : State} {m : MethodId} {args : Array Value} {below : List Frame} {meth : Method} {c : Code} {D : va_G} {cy : Nat → ClassId} {ad : Nat → Nat} {x : XX} {F : Nat} {r : Mem × Int32} (hst : l.stackTraces = false) (C0 : MX p l s m args meth c D cy ad cX6_isFrozenOf RX6 7 wsX6_isFrozenOf (some .boolean)) {k5 : Mem → Int32 → Int32 → Int32 → Int32 → Option (Mem × Int32)} (hk5 : ∀ (M : Mem) (v1 : Int32) (v2 : Int32) (v3 : Int32) (v4 : Int32) (H : Heap) (locs : List Loc) (ls : Array Slot), Wd D cy ad x s M H locs → lv_has ls 7 [(0, .ref (ad 427)), (1, .int v1), (2, .int v2), (3, .int v3), (4, .int v4)] → k5 M v1 v2 v3 v4 = some r → W p l e rmX6_isFrozenOf s m args below meth c H locs 0 0 (QN D cy ad below args s x q_vi r 0 0) (F0 m 5 ls [])) : ∀ (M : Mem) (s0 : Int32) (v1 : Int32) (v2 : Int32) (v4 : Int32) (H : Heap) (locs : List Loc) (ls : Array Slot), Wd D cy ad x s M H locs → lv_has ls 7 [(0, .ref (ad 427)), (1, .int v1), (2, .int v2), (4, .int v4)] → fX6_isFrozenOf_122 F k5 M s0 v1 v2 v4 = some r → W p l e rmX6_isFrozenOf s m args below meth c H locs 0 0 (QN D cy ad below args s x q_vi r 0 0) (F0 m 122 ls [.int s0]) := by
  obtain ⟨hx, hb, hml, hown, hts, -⟩ := id C0
  intro M s0 v1 v2 v4 H locs ls hw hl h
  unfold fX6_isFrozenOf_122 at h
  refine q_istore_n (lv' := fun z1 => [(3, .int z1), (0, .ref (ad 427)), (1, .int v1), (2, .int v2), (4, .int v4)]) hx hb dX6_isFrozenOf_122 rfl hl (by decide) (fun _ => rfl) h (fun z1 ls hl h => ?_)
  refine q_iinc (k := 4) (cst := 1) (lv' := fun z2 => [(4, .int z2), (3, .int z1), (0, .ref (ad 427)), (1, .int v1), (2, .int v2)]) hx hb dX6_isFrozenOf_123 hl rfl rfl (by decide) (fun _ => rfl) h (fun z2 ls hl h => ?_)
  refine lv_goto (tgt := 5) hx hb dX6_isFrozenOf_126 (by decide) ?_
  exact hk5 M v1 v2 z1 z2 _ _ _ hw (lv_sub hl [2, 3, 4, 1, 0] rfl) h
def fX6_isFrozenOf_117 (F : Nat) (k5 : Mem → Int32 → Int32 → Int32 → Int32 → Option (Mem × Int32)) (M : Mem) (v1 : Int32) (v2 : Int32) (v4 : Int32) : Option (Mem × Int32) :=
    fX6_isFrozenOf_122 F k5 M (1 : Int32) v1 v2 v4
set_option maxHeartbeats 4000000 in
set_option maxRecDepth 100000 in
theorem wX6_isFrozenOf_117 {p : Program} {l : Launch} {e : Env} {s : State} {m : MethodId} {args : Array Value} {below : List Frame} {meth : Method} {c : Code} {D : va_G} {cy : Nat → ClassId} {ad : Nat → Nat} {x : XX} {F : Nat} {r : Mem × Int32} (hst : l.stackTraces = false) (C0 : MX p l s m args meth c D cy ad cX6_isFrozenOf RX6 7 wsX6_isFrozenOf (some .boolean)) {k5 : Mem → Int32 → Int32 → Int32 → Int32 → Option (Mem × Int32)} (hk5 : ∀ (M : Mem) (v1 : Int32) (v2 : Int32) (v3 : Int32) (v4 : Int32) (H : Heap) (locs : List Loc) (ls : Array Slot), Wd D cy ad x s M H locs → lv_has ls 7 [(0, .ref (ad 427)), (1, .int v1), (2, .int v2), (3, .int v3), (4, .int v4)] → k5 M v1 v2 v3 v4 = some r → W p l e rmX6_isFrozenOf s m args below meth c H locs 0 0 (QN D cy ad below args s x q_vi r 0 0) (F0 m 5 ls [])) : ∀ (M : Mem) (v1 : Int32) (v2 : Int32) (v4 : Int32) (H : Heap) (locs : List Loc) (ls : Array Slot), Wd D cy ad x s M H locs → lv_has ls 7 [(0, .ref (ad 427)), (1, .int v1), (2, .int v2), (4, .int v4)] → fX6_isFrozenOf_117 F k5 M v1 v2 v4 = some r → W p l e rmX6_isFrozenOf s m args below meth c H locs 0 0 (QN D cy ad below args s x q_vi r 0 0) (F0 m 117 ls []) := by
  obtain ⟨hx, hb, hml, hown, hts, -⟩ := id C0
  intro M v1 v2 v4 H locs ls hw hl h
  unfold fX6_isFrozenOf_117 at h
  refine lv_iconst (v := 1) hx hb dX6_isFrozenOf_117 (by decide) ?_
  refine lv_goto (tgt := 122) hx hb dX6_isFrozenOf_118 (by decide) ?_
  exact wX6_isFrozenOf_122 hst C0 hk5 M (1 : Int32) v1 v2 v4 _ _ _ hw (lv_sub hl [0, 1, 2, 3] rfl) h
def fX6_isFrozenOf_121 (F : Nat) (k5 : Mem → Int32 → Int32 → Int32 → Int32 → Option (Mem × Int32)) (M : Mem) (v1 : Int32) (v2 : Int32) (v4 : Int32) : Option (Mem × Int32) :=
    fX6_isFrozenOf_122 F k5 M (0 : Int32) v1 v2 v4
set_option maxHeartbeats 4000000 in
set_option maxRecDepth 100000 in
theorem wX6_isFrozenOf_121 {p : Program} {l : Launch} {e : Env} {s : State} {m : MethodId} {args : Array Value} {below : List Frame} {meth : Method} {c : Code} {D : va_G} {cy : Nat → ClassId} {ad : Nat → Nat} {x : XX} {F : Nat} {r : Mem × Int32} (hst : l.stackTraces = false) (C0 : MX p l s m args meth c D cy ad cX6_isFrozenOf RX6 7 wsX6_isFrozenOf (some .boolean)) {k5 : Mem → Int32 → Int32 → Int32 → Int32 → Option (Mem × Int32)} (hk5 : ∀ (M : Mem) (v1 : Int32) (v2 : Int32) (v3 : Int32) (v4 : Int32) (H : Heap) (locs : List Loc) (ls : Array Slot), Wd D cy ad x s M H locs → lv_has ls 7 [(0, .ref (ad 427)), (1, .int v1), (2, .int v2), (3, .int v3), (4, .int v4)] → k5 M v1 v2 v3 v4 = some r → W p l e rmX6_isFrozenOf s m args below meth c H locs 0 0 (QN D cy ad below args s x q_vi r 0 0) (F0 m 5 ls [])) : ∀ (M : Mem) (v1 : Int32) (v2 : Int32) (v4 : Int32) (H : Heap) (locs : List Loc) (ls : Array Slot), Wd D cy ad x s M H locs → lv_has ls 7 [(0, .ref (ad 427)), (1, .int v1), (2, .int v2), (4, .int v4)] → fX6_isFrozenOf_121 F k5 M v1 v2 v4 = some r → W p l e rmX6_isFrozenOf s m args below meth c H locs 0 0 (QN D cy ad below args s x q_vi r 0 0) (F0 m 121 ls []) := by
  obtain ⟨hx, hb, hml, hown, hts, -⟩ := id C0
  intro M v1 v2 v4 H locs ls hw hl h
  unfold fX6_isFrozenOf_121 at h
  refine lv_iconst (v := 0) hx hb dX6_isFrozenOf_121 (by decide) ?_
  exact wX6_isFrozenOf_122 hst C0 hk5 M (0 : Int32) v1 v2 v4 _ _ _ hw (lv_sub hl [0, 1, 2, 3] rfl) h
def fX6_isFrozenOf_90 (F : Nat) (k5 : Mem → Int32 → Int32 → Int32 → Int32 → Option (Mem × Int32)) (M : Mem) (s0 : Int32) (v1 : Int32) (v2 : Int32) (v3 : Int32) (v4 : Int32) (v5 : Int32) : Option (Mem × Int32) :=
    q_lt (s0) fun z1 =>
    if v3 = (0 : Int32) then
    (q_ax v4 40 fun j2 =>
    if (M 48 0 j2) = (-1 : Int32) then
    (if v5 = (0 : Int32) then
    (if z1 = (0 : Int32) then
    (fX6_isFrozenOf_121 F k5 M v1 v2 v4)
    else
    (fX6_isFrozenOf_117 F k5 M v1 v2 v4))
    else
    (fX6_isFrozenOf_117 F k5 M v1 v2 v4))
    else
    (fX6_isFrozenOf_121 F k5 M v1 v2 v4))
    else
    (fX6_isFrozenOf_117 F k5 M v1 v2 v4)
set_option maxHeartbeats 4000000 in
set_option maxRecDepth 100000 in
theorem wX6_isFrozenOf_90 {p : Program} {l : Launch} {e : Env} {s : State} {m : MethodId} {args : Array Value} {below : List Frame} {meth : Method} {c : Code} {D : va_G} {cy : Nat → ClassId} {ad : Nat → Nat} {x : XX} {F : Nat} {r : Mem × Int32} (hst : l.stackTraces = false) (C0 : MX p l s m args meth c D cy ad cX6_isFrozenOf RX6 7 wsX6_isFrozenOf (some .boolean)) {k5 : Mem → Int32 → Int32 → Int32 → Int32 → Option (Mem × Int32)} (hk5 : ∀ (M : Mem) (v1 : Int32) (v2 : Int32) (v3 : Int32) (v4 : Int32) (H : Heap) (locs : List Loc) (ls : Array Slot), Wd D cy ad x s M H locs → lv_has ls 7 [(0, .ref (ad 427)), (1, .int v1), (2, .int v2), (3, .int v3), (4, .int v4)] → k5 M v1 v2 v3 v4 = some r → W p l e rmX6_isFrozenOf s m args below meth c H locs 0 0 (QN D cy ad below args s x q_vi r 0 0) (F0 m 5 ls [])) : ∀ (M : Mem) (s0 : Int32) (v1 : Int32) (v2 : Int32) (v3 : Int32) (v4 : Int32) (v5 : Int32) (H : Heap) (locs : List Loc) (ls : Array Slot), Wd D cy ad x s M H locs → lv_has ls 7 [(0, .ref (ad 427)), (1, .int v1), (2, .int v2), (3, .int v3), (4, .int v4), (5, .int v5)] → fX6_isFrozenOf_90 F k5 M s0 v1 v2 v3 v4 v5 = some r → W p l e rmX6_isFrozenOf s m args below meth c H locs 0 0 (QN D cy ad below args s x q_vi r 0 0) (F0 m 90 ls [.int s0]) := by
  obtain ⟨hx, hb, hml, hown, hts, -⟩ := id C0
  intro M s0 v1 v2 v3 v4 v5 H locs ls hw hl h
  unfold fX6_isFrozenOf_90 at h
  refine q_istore (lv' := fun z1 => [(6, .int z1), (0, .ref (ad 427)), (1, .int v1), (2, .int v2), (3, .int v3), (4, .int v4), (5, .int v5)]) hx hb dX6_isFrozenOf_90 hl (by decide) (fun _ => rfl) h (fun z1 ls hl h => ?_)
  refine lv_iload_n hx hb dX6_isFrozenOf_92 rfl (lv_at hl 4 rfl) ?_
  refine q_if_ne (tgt := 117) hx hb dX6_isFrozenOf_93 (by decide) h (fun h => ?_) (fun h => ?_)
  · exact wX6_isFrozenOf_117 hst C0 hk5 M v1 v2 v4 _ _ _ hw (lv_sub hl [1, 2, 3, 5] rfl) h
  · refine lv_aload_n hx hb dX6_isFrozenOf_96 rfl (lv_at hl 1 rfl) ?_
    refine gf_Mod_hitHeard C0 hw (fun _ h9 => List.mem_cons_of_mem _ (List.mem_append_left _ (List.mem_append_right _ h9))) (List.mem_of_getElem? (i := 6) rfl) dX6_isFrozenOf_97 ?_
    refine lv_iload hx hb dX6_isFrozenOf_100 (lv_at hl 5 rfl) ?_
    refine q_iald C0 hw at_m48 h dX6_isFrozenOf_102 (fun j2 hj2 h => ?_)
    refine lv_iconst (v := -1) hx hb dX6_isFrozenOf_103 (by decide) ?_
    refine q_icmp_ne (tgt := 121) hx hb dX6_isFrozenOf_104 (by decide) h (fun h => ?_) (fun h => ?_)
    · exact wX6_isFrozenOf_121 hst C0 hk5 M v1 v2 v4 _ _ _ hw (lv_sub hl [1, 2, 3, 5] rfl) h
    · refine lv_iload hx hb dX6_isFrozenOf_107 (lv_at hl 6 rfl) ?_
      refine q_if_ne (tgt := 117) hx hb dX6_isFrozenOf_109 (by decide) h (fun h => ?_) (fun h => ?_)
      · exact wX6_isFrozenOf_117 hst C0 hk5 M v1 v2 v4 _ _ _ hw (lv_sub hl [1, 2, 3, 5] rfl) h
      · refine lv_iload hx hb dX6_isFrozenOf_112 (lv_at hl 0 rfl) ?_
        refine q_if_eq (tgt := 121) hx hb dX6_isFrozenOf_114 (by decide) h (fun h => ?_) (fun h => ?_)
        · exact wX6_isFrozenOf_121 hst C0 hk5 M v1 v2 v4 _ _ _ hw (lv_sub hl [1, 2, 3, 5] rfl) h
        · exact wX6_isFrozenOf_117 hst C0 hk5 M v1 v2 v4 _ _ _ hw (lv_sub hl [1, 2, 3, 5] rfl) h
def fX6_isFrozenOf_89 (F : Nat) (k5 : Mem → Int32 → Int32 → Int32 → Int32 → Option (Mem × Int32)) (M : Mem) (v1 : Int32) (v2 : Int32) (v3 : Int32) (v4 : Int32) (v5 : Int32) : Option (Mem × Int32) :=
    fX6_isFrozenOf_90 F k5 M (0 : Int32) v1 v2 v3 v4 v5
set_option maxHeartbeats 4000000 in
set_option maxRecDepth 100000 in
theorem wX6_isFrozenOf_89 {p : Program} {l : Launch} {e : Env} {s : State} {m : MethodId} {args : Array Value} {below : List Frame} {meth : Method} {c : Code} {D : va_G} {cy : Nat → ClassId} {ad : Nat → Nat} {x : XX} {F : Nat} {r : Mem × Int32} (hst : l.stackTraces = false) (C0 : MX p l s m args meth c D cy ad cX6_isFrozenOf RX6 7 wsX6_isFrozenOf (some .boolean)) {k5 : Mem → Int32 → Int32 → Int32 → Int32 → Option (Mem × Int32)} (hk5 : ∀ (M : Mem) (v1 : Int32) (v2 : Int32) (v3 : Int32) (v4 : Int32) (H : Heap) (locs : List Loc) (ls : Array Slot), Wd D cy ad x s M H locs → lv_has ls 7 [(0, .ref (ad 427)), (1, .int v1), (2, .int v2), (3, .int v3), (4, .int v4)] → k5 M v1 v2 v3 v4 = some r → W p l e rmX6_isFrozenOf s m args below meth c H locs 0 0 (QN D cy ad below args s x q_vi r 0 0) (F0 m 5 ls [])) : ∀ (M : Mem) (v1 : Int32) (v2 : Int32) (v3 : Int32) (v4 : Int32) (v5 : Int32) (H : Heap) (locs : List Loc) (ls : Array Slot), Wd D cy ad x s M H locs → lv_has ls 7 [(0, .ref (ad 427)), (1, .int v1), (2, .int v2), (3, .int v3), (4, .int v4), (5, .int v5)] → fX6_isFrozenOf_89 F k5 M v1 v2 v3 v4 v5 = some r → W p l e rmX6_isFrozenOf s m args below meth c H locs 0 0 (QN D cy ad below args s x q_vi r 0 0) (F0 m 89 ls []) := by
  obtain ⟨hx, hb, hml, hown, hts, -⟩ := id C0
  intro M v1 v2 v3 v4 v5 H locs ls hw hl h
  unfold fX6_isFrozenOf_89 at h
  refine lv_iconst (v := 0) hx hb dX6_isFrozenOf_89 (by decide) ?_
  exact wX6_isFrozenOf_90 hst C0 hk5 M (0 : Int32) v1 v2 v3 v4 v5 _ _ _ hw (lv_sub hl [0, 1, 2, 3, 4, 5] rfl) h
def fX6_isFrozenOf_51 (F : Nat) (k5 : Mem → Int32 → Int32 → Int32 → Int32 → Option (Mem × Int32)) (M : Mem) (s0 : Int32) (v1 : Int32) (v2 : Int32) (v3 : Int32) (v4 : Int32) : Option (Mem × Int32) :=
    q_lt (s0) fun z1 =>
    q_ax v4 40 fun j2 =>
    q_ax (M 46 0 j2) 60 fun j3 =>
    if (M 33 0 j3) = v1 then
    (q_ax v4 40 fun j4 =>
    q_ax (M 46 0 j4) 60 fun j5 =>
    if (M 34 0 j5) = v2 then
    (fX6_isFrozenOf_90 F k5 M (1 : Int32) v1 v2 v3 v4 z1)
    else
    (fX6_isFrozenOf_89 F k5 M v1 v2 v3 v4 z1))
    else
    (fX6_isFrozenOf_89 F k5 M v1 v2 v3 v4 z1)
set_option maxHeartbeats 4000000 in
set_option maxRecDepth 100000 in
theorem wX6_isFrozenOf_51 {p : Program} {l : Launch} {e : Env} {s : State} {m : MethodId} {args : Array Value} {below : List Frame} {meth : Method} {c : Code} {D : va_G} {cy : Nat → ClassId} {ad : Nat → Nat} {x : XX} {F : Nat} {r : Mem × Int32} (hst : l.stackTraces = false) (C0 : MX p l s m args meth c D cy ad cX6_isFrozenOf RX6 7 wsX6_isFrozenOf (some .boolean)) {k5 : Mem → Int32 → Int32 → Int32 → Int32 → Option (Mem × Int32)} (hk5 : ∀ (M : Mem) (v1 : Int32) (v2 : Int32) (v3 : Int32) (v4 : Int32) (H : Heap) (locs : List Loc) (ls : Array Slot), Wd D cy ad x s M H locs → lv_has ls 7 [(0, .ref (ad 427)), (1, .int v1), (2, .int v2), (3, .int v3), (4, .int v4)] → k5 M v1 v2 v3 v4 = some r → W p l e rmX6_isFrozenOf s m args below meth c H locs 0 0 (QN D cy ad below args s x q_vi r 0 0) (F0 m 5 ls [])) : ∀ (M : Mem) (s0 : Int32) (v1 : Int32) (v2 : Int32) (v3 : Int32) (v4 : Int32) (H : Heap) (locs : List Loc) (ls : Array Slot), Wd D cy ad x s M H locs → lv_has ls 7 [(0, .ref (ad 427)), (1, .int v1), (2, .int v2), (3, .int v3), (4, .int v4)] → fX6_isFrozenOf_51 F k5 M s0 v1 v2 v3 v4 = some r → W p l e rmX6_isFrozenOf s m args below meth c H locs 0 0 (QN D cy ad below args s x q_vi r 0 0) (F0 m 51 ls [.int s0]) := by
  obtain ⟨hx, hb, hml, hown, hts, -⟩ := id C0
  intro M s0 v1 v2 v3 v4 H locs ls hw hl h
  unfold fX6_isFrozenOf_51 at h
  refine q_istore (lv' := fun z1 => [(5, .int z1), (0, .ref (ad 427)), (1, .int v1), (2, .int v2), (3, .int v3), (4, .int v4)]) hx hb dX6_isFrozenOf_51 hl (by decide) (fun _ => rfl) h (fun z1 ls hl h => ?_)
  refine lv_aload_n hx hb dX6_isFrozenOf_53 rfl (lv_at hl 1 rfl) ?_
  refine gf_Mod_pupilOf C0 hw (fun _ h9 => List.mem_cons_of_mem _ (List.mem_append_left _ (List.mem_append_right _ h9))) (List.mem_of_getElem? (i := 2) rfl) dX6_isFrozenOf_54 ?_
  refine lv_aload_n hx hb dX6_isFrozenOf_57 rfl (lv_at hl 1 rfl) ?_
  refine gf_Mod_hitOld C0 hw (fun _ h9 => List.mem_cons_of_mem _ (List.mem_append_left _ (List.mem_append_right _ h9))) (List.mem_of_getElem? (i := 5) rfl) dX6_isFrozenOf_58 ?_
  refine lv_iload hx hb dX6_isFrozenOf_61 (lv_at hl 5 rfl) ?_
  refine q_iald C0 hw at_m46 h dX6_isFrozenOf_63 (fun j2 hj2 h => ?_)
  refine q_iald C0 hw at_m33 h dX6_isFrozenOf_64 (fun j3 hj3 h => ?_)
  refine lv_iload_n hx hb dX6_isFrozenOf_65 rfl (lv_at hl 2 rfl) ?_
  refine q_icmp_ne (tgt := 89) hx hb dX6_isFrozenOf_66 (by decide) h (fun h => ?_) (fun h => ?_)
  · exact wX6_isFrozenOf_89 hst C0 hk5 M v1 v2 v3 v4 z1 _ _ _ hw (lv_sub hl [1, 2, 3, 4, 5, 0] rfl) h
  · refine lv_aload_n hx hb dX6_isFrozenOf_69 rfl (lv_at hl 1 rfl) ?_
    refine gf_Mod_taskOf C0 hw (fun _ h9 => List.mem_cons_of_mem _ (List.mem_append_left _ (List.mem_append_right _ h9))) (List.mem_of_getElem? (i := 4) rfl) dX6_isFrozenOf_70 ?_
    refine lv_aload_n hx hb dX6_isFrozenOf_73 rfl (lv_at hl 1 rfl) ?_
    refine gf_Mod_hitOld C0 hw (fun _ h9 => List.mem_cons_of_mem _ (List.mem_append_left _ (List.mem_append_right _ h9))) (List.mem_of_getElem? (i := 5) rfl) dX6_isFrozenOf_74 ?_
    refine lv_iload hx hb dX6_isFrozenOf_77 (lv_at hl 5 rfl) ?_
    refine q_iald C0 hw at_m46 h dX6_isFrozenOf_79 (fun j4 hj4 h => ?_)
    refine q_iald C0 hw at_m34 h dX6_isFrozenOf_80 (fun j5 hj5 h => ?_)
    refine lv_iload_n hx hb dX6_isFrozenOf_81 rfl (lv_at hl 3 rfl) ?_
    refine q_icmp_ne (tgt := 89) hx hb dX6_isFrozenOf_82 (by decide) h (fun h => ?_) (fun h => ?_)
    · exact wX6_isFrozenOf_89 hst C0 hk5 M v1 v2 v3 v4 z1 _ _ _ hw (lv_sub hl [1, 2, 3, 4, 5, 0] rfl) h
    · refine lv_iconst (v := 1) hx hb dX6_isFrozenOf_85 (by decide) ?_
      refine lv_goto (tgt := 90) hx hb dX6_isFrozenOf_86 (by decide) ?_
      exact wX6_isFrozenOf_90 hst C0 hk5 M (1 : Int32) v1 v2 v3 v4 z1 _ _ _ hw (lv_sub hl [1, 2, 3, 4, 5, 0] rfl) h
def fX6_isFrozenOf_50 (F : Nat) (k5 : Mem → Int32 → Int32 → Int32 → Int32 → Option (Mem × Int32)) (M : Mem) (v1 : Int32) (v2 : Int32) (v3 : Int32) (v4 : Int32) : Option (Mem × Int32) :=
    fX6_isFrozenOf_51 F k5 M (0 : Int32) v1 v2 v3 v4
set_option maxHeartbeats 4000000 in
set_option maxRecDepth 100000 in
theorem wX6_isFrozenOf_50 {p : Program} {l : Launch} {e : Env} {s : State} {m : MethodId} {args : Array Value} {below : List Frame} {meth : Method} {c : Code} {D : va_G} {cy : Nat → ClassId} {ad : Nat → Nat} {x : XX} {F : Nat} {r : Mem × Int32} (hst : l.stackTraces = false) (C0 : MX p l s m args meth c D cy ad cX6_isFrozenOf RX6 7 wsX6_isFrozenOf (some .boolean)) {k5 : Mem → Int32 → Int32 → Int32 → Int32 → Option (Mem × Int32)} (hk5 : ∀ (M : Mem) (v1 : Int32) (v2 : Int32) (v3 : Int32) (v4 : Int32) (H : Heap) (locs : List Loc) (ls : Array Slot), Wd D cy ad x s M H locs → lv_has ls 7 [(0, .ref (ad 427)), (1, .int v1), (2, .int v2), (3, .int v3), (4, .int v4)] → k5 M v1 v2 v3 v4 = some r → W p l e rmX6_isFrozenOf s m args below meth c H locs 0 0 (QN D cy ad below args s x q_vi r 0 0) (F0 m 5 ls [])) : ∀ (M : Mem) (v1 : Int32) (v2 : Int32) (v3 : Int32) (v4 : Int32) (H : Heap) (locs : List Loc) (ls : Array Slot), Wd D cy ad x s M H locs → lv_has ls 7 [(0, .ref (ad 427)), (1, .int v1), (2, .int v2), (3, .int v3), (4, .int v4)] → fX6_isFrozenOf_50 F k5 M v1 v2 v3 v4 = some r → W p l e rmX6_isFrozenOf s m args below meth c H locs 0 0 (QN D cy ad below args s x q_vi r 0 0) (F0 m 50 ls []) := by
  obtain ⟨hx, hb, hml, hown, hts, -⟩ := id C0
  intro M v1 v2 v3 v4 H locs ls hw hl h
  unfold fX6_isFrozenOf_50 at h
  refine lv_iconst (v := 0) hx hb dX6_isFrozenOf_50 (by decide) ?_
  exact wX6_isFrozenOf_51 hst C0 hk5 M (0 : Int32) v1 v2 v3 v4 _ _ _ hw (lv_sub hl [0, 1, 2, 3, 4] rfl) h
def fX6_isFrozenOf_5 (F : Nat) : Nat → Mem → Int32 → Int32 → Int32 → Int32 → Option (Mem × Int32)
  | 0, _, _, _, _, _ => none
  | n + 1, M, v1, v2, v3, v4 =>
    if (M 66 0 0) ≤ v4 then
    (q_gd (q_isZ v3) (
    some (M, v3)))
    else
    (q_ax v4 40 fun j1 =>
    q_ax (M 45 0 j1) 60 fun j2 =>
    if (M 33 0 j2) = v1 then
    (q_ax v4 40 fun j3 =>
    q_ax (M 45 0 j3) 60 fun j4 =>
    if (M 34 0 j4) = v2 then
    (fX6_isFrozenOf_51 F (fX6_isFrozenOf_5 F n) M (1 : Int32) v1 v2 v3 v4)
    else
    (fX6_isFrozenOf_50 F (fX6_isFrozenOf_5 F n) M v1 v2 v3 v4))
    else
    (fX6_isFrozenOf_50 F (fX6_isFrozenOf_5 F n) M v1 v2 v3 v4))
set_option maxHeartbeats 4000000 in
set_option maxRecDepth 100000 in
theorem wX6_isFrozenOf_5 {p : Program} {l : Launch} {e : Env} {s : State} {m : MethodId} {args : Array Value} {below : List Frame} {meth : Method} {c : Code} {D : va_G} {cy : Nat → ClassId} {ad : Nat → Nat} {x : XX} {F : Nat} {r : Mem × Int32} (hst : l.stackTraces = false) (C0 : MX p l s m args meth c D cy ad cX6_isFrozenOf RX6 7 wsX6_isFrozenOf (some .boolean)) : ∀ (n : Nat) (M : Mem) (v1 : Int32) (v2 : Int32) (v3 : Int32) (v4 : Int32) (H : Heap) (locs : List Loc) (ls : Array Slot), Wd D cy ad x s M H locs → lv_has ls 7 [(0, .ref (ad 427)), (1, .int v1), (2, .int v2), (3, .int v3), (4, .int v4)] → fX6_isFrozenOf_5 F n M v1 v2 v3 v4 = some r → W p l e rmX6_isFrozenOf s m args below meth c H locs 0 0 (QN D cy ad below args s x q_vi r 0 0) (F0 m 5 ls []) := by
  obtain ⟨hx, hb, hml, hown, hts, -⟩ := id C0
  intro n
  induction n with
  | zero =>
    intro M v1 v2 v3 v4 H locs ls hw hl h
    exact q_no h
  | succ n ih =>
    intro M v1 v2 v3 v4 H locs ls hw hl h
    unfold fX6_isFrozenOf_5 at h
    refine lv_iload hx hb dX6_isFrozenOf_5 (lv_at hl 4 rfl) ?_
    refine lv_aload_n hx hb dX6_isFrozenOf_7 rfl (lv_at hl 0 rfl) ?_
    refine gf_Mod_hits C0 hw (fun _ h9 => List.mem_cons_of_mem _ (List.mem_append_left _ (List.mem_append_right _ h9))) (List.mem_of_getElem? (i := 1) rfl) dX6_isFrozenOf_8 ?_
    refine q_icmp_ge (tgt := 129) hx hb dX6_isFrozenOf_11 (by decide) h (fun h => ?_) (fun h => ?_)
    · refine lv_iload_n hx hb dX6_isFrozenOf_129 rfl (lv_at hl 3 rfl) ?_
      refine q_guard h (fun g h => ?_)
      exact q_zretN C0 hw (q_isZ_in g) h ⟨(Nat.le_of_ble_eq_true rfl), (Nat.le_of_ble_eq_true rfl)⟩ dX6_isFrozenOf_130
    · refine lv_aload_n hx hb dX6_isFrozenOf_14 rfl (lv_at hl 0 rfl) ?_
      refine gf_Mod_pupilOf C0 hw (fun _ h9 => List.mem_cons_of_mem _ (List.mem_append_left _ (List.mem_append_right _ h9))) (List.mem_of_getElem? (i := 2) rfl) dX6_isFrozenOf_15 ?_
      refine lv_aload_n hx hb dX6_isFrozenOf_18 rfl (lv_at hl 0 rfl) ?_
      refine gf_Mod_hitNew C0 hw (fun _ h9 => List.mem_cons_of_mem _ (List.mem_append_left _ (List.mem_append_right _ h9))) (List.mem_of_getElem? (i := 3) rfl) dX6_isFrozenOf_19 ?_
      refine lv_iload hx hb dX6_isFrozenOf_22 (lv_at hl 4 rfl) ?_
      refine q_iald C0 hw at_m45 h dX6_isFrozenOf_24 (fun j1 hj1 h => ?_)
      refine q_iald C0 hw at_m33 h dX6_isFrozenOf_25 (fun j2 hj2 h => ?_)
      refine lv_iload_n hx hb dX6_isFrozenOf_26 rfl (lv_at hl 1 rfl) ?_
      refine q_icmp_ne (tgt := 50) hx hb dX6_isFrozenOf_27 (by decide) h (fun h => ?_) (fun h => ?_)
      · exact wX6_isFrozenOf_50 hst C0 ih M v1 v2 v3 v4 _ _ _ hw (lv_sub hl [0, 1, 2, 3, 4] rfl) h
      · refine lv_aload_n hx hb dX6_isFrozenOf_30 rfl (lv_at hl 0 rfl) ?_
        refine gf_Mod_taskOf C0 hw (fun _ h9 => List.mem_cons_of_mem _ (List.mem_append_left _ (List.mem_append_right _ h9))) (List.mem_of_getElem? (i := 4) rfl) dX6_isFrozenOf_31 ?_
        refine lv_aload_n hx hb dX6_isFrozenOf_34 rfl (lv_at hl 0 rfl) ?_
        refine gf_Mod_hitNew C0 hw (fun _ h9 => List.mem_cons_of_mem _ (List.mem_append_left _ (List.mem_append_right _ h9))) (List.mem_of_getElem? (i := 3) rfl) dX6_isFrozenOf_35 ?_
        refine lv_iload hx hb dX6_isFrozenOf_38 (lv_at hl 4 rfl) ?_
        refine q_iald C0 hw at_m45 h dX6_isFrozenOf_40 (fun j3 hj3 h => ?_)
        refine q_iald C0 hw at_m34 h dX6_isFrozenOf_41 (fun j4 hj4 h => ?_)
        refine lv_iload_n hx hb dX6_isFrozenOf_42 rfl (lv_at hl 2 rfl) ?_
        refine q_icmp_ne (tgt := 50) hx hb dX6_isFrozenOf_43 (by decide) h (fun h => ?_) (fun h => ?_)
        · exact wX6_isFrozenOf_50 hst C0 ih M v1 v2 v3 v4 _ _ _ hw (lv_sub hl [0, 1, 2, 3, 4] rfl) h
        · refine lv_iconst (v := 1) hx hb dX6_isFrozenOf_46 (by decide) ?_
          refine lv_goto (tgt := 51) hx hb dX6_isFrozenOf_47 (by decide) ?_
          exact wX6_isFrozenOf_51 hst C0 ih M (1 : Int32) v1 v2 v3 v4 _ _ _ hw (lv_sub hl [0, 1, 2, 3, 4] rfl) h
def fX6_isFrozenOf (F : Nat) (M : Mem) (a0 : Int32) (a1 : Int32) : Option (Mem × Int32) :=
    q_lt ((0 : Int32)) fun z1 =>
    q_lt ((0 : Int32)) fun z2 =>
    fX6_isFrozenOf_5 F F M a0 a1 z1 z2
set_option maxHeartbeats 4000000 in
set_option maxRecDepth 100000 in
theorem ctX6_isFrozenOf {l : Launch} (hst : l.stackTraces = false) {D : va_G} {cy : Nat → ClassId} {ad : Nat → Nat} {x : XX} {F : Nat} {M : Mem} {a0 : Int32} {a1 : Int32} {r : Mem × Int32} (h : fX6_isFrozenOf F M a0 a1 = some r) : CN l yX6_isFrozenOf wsX6_isFrozenOf rmX6_isFrozenOf D cy ad [.ref (ad 427), .int a0, .int a1] x M x r.1 (q_vi r.2) 0 0 := by
  refine q_startN (cc := cX6_isFrozenOf) (maxL := 7) (ret := (some .boolean)) (by decide) rfl (Nat.le_of_ble_eq_true rfl) ?_
  intro p e s m args below meth c ls C0 hw hl hnm
  obtain ⟨hx, hb, hml, hown, hts, -⟩ := id C0
  have C0 : MX p l s m args meth c D cy ad cX6_isFrozenOf RX6 7 wsX6_isFrozenOf ((some .boolean)) := C0
  have hown : s.vm.findClass RX6 = some m.cls := hown
  have hl : lv_has ls 7 [(0, .ref (ad 427)), (1, .int a0), (2, .int a1)] := hl
  show W p l e rmX6_isFrozenOf s m args below meth c s.heap [] 0 0 (QN D cy ad below args s x q_vi r 0 0) (F0 m 0 ls [])
  unfold fX6_isFrozenOf at h
  refine lv_iconst (v := 0) hx hb dX6_isFrozenOf_0 (by decide) ?_
  refine q_istore_n (lv' := fun z1 => [(3, .int z1), (0, .ref (ad 427)), (1, .int a0), (2, .int a1)]) hx hb dX6_isFrozenOf_1 rfl hl (by decide) (fun _ => rfl) h (fun z1 ls hl h => ?_)
  refine lv_iconst (v := 0) hx hb dX6_isFrozenOf_2 (by decide) ?_
  refine q_istore (lv' := fun z2 => [(4, .int z2), (3, .int z1), (0, .ref (ad 427)), (1, .int a0), (2, .int a1)]) hx hb dX6_isFrozenOf_3 hl (by decide) (fun _ => rfl) h (fun z2 ls hl h => ?_)
  exact wX6_isFrozenOf_5 hst C0  F M a0 a1 z1 z2 _ _ _ hw (lv_sub hl [2, 3, 4, 1, 0] rfl) h
