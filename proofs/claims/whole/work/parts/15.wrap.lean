/-! HomewatcherLaw.classroom(LHomewatcher;I[J)I -/
abbrev rmL_classroom : Room := { frames := 8, cells := 2, slots := 12, locals := 133 }
def fL_classroom (F : Nat) (M : Mem) (x : XX) (a1 : Int32) : Option (Mem × (XX × Int32)) :=
    q_bh (fX5_classroom F M a1) (fun M1 z2 =>
    (q_lt (z2.toInt64, x.2) fun x4 =>
    some (M1, (x4, (0 : Int32))))) (fun M3 n =>
    if n = 1 then
    (some (M3, (x, (1 : Int32))))
    else
    if n = 2 then
    (some (M3, (x, (2 : Int32))))
    else
    none)
set_option maxHeartbeats 4000000 in
set_option maxRecDepth 100000 in
theorem ctL_classroom {l : Launch} (hst : l.stackTraces = false) {D : va_G} {cy : Nat → ClassId} {ad : Nat → Nat} {x : XX} {F : Nat} {M : Mem} {a1 : Int32} {r : Mem × (XX × Int32)} (h : fL_classroom F M x a1 = some r) : CN l yL_classroom wsL_classroom rmL_classroom D cy ad [.ref (ad 0), .int a1, .ref (ad 453)] x M r.2.1 r.1 (q_vi r.2.2) 2 12 := by
  refine q_startW (cc := cL_classroom) (maxL := 4) (ret := (some .int)) (by decide) rfl (Nat.le_of_ble_eq_true rfl) ?_
  intro p e s m args below meth c ls C0 hw hl htab
  obtain ⟨hx, hb, hml, hown, hts, -⟩ := id C0
  have C0 : MX p l s m args meth c D cy ad cL_classroom RL 4 wsL_classroom ((some .int)) := C0
  have hown : s.vm.findClass RL = some m.cls := hown
  have hl : lv_has ls 4 [(0, .ref (ad 0)), (1, .int a1), (2, .ref (ad 453))] := hl
  show W p l e rmL_classroom s m args below meth c s.heap [] 0 0 (QW D cy ad below args s r 2 12) (F0 m 0 ls [])
  unfold fL_classroom at h
  refine lv_aload_n hx hb dL_classroom_0 rfl (lv_at hl 2 rfl) ?_
  refine lv_iconst (v := 0) hx hb dL_classroom_1 (by decide) ?_
  refine lv_aload_n hx hb dL_classroom_2 rfl (lv_at hl 0 rfl) ?_
  refine lv_iload_n hx hb dL_classroom_3 rfl (lv_at hl 1 rfl) ?_
  refine q_callVXi (As := [.int a1]) (nA := 1) C0 hw at_HW rfl (fun r1 h1 => ctX5_classroom hst h1) gL_classroom_X5_classroom rfl ⟨rfl, rfl⟩ (by decide +kernel) rfl ⟨(Nat.le_of_ble_eq_true rfl), (Nat.le_of_ble_eq_true rfl)⟩ hl.1 (Nat.le_of_ble_eq_true rfl) ⟨(Nat.le_of_ble_eq_true rfl), (Nat.le_of_ble_eq_true rfl)⟩ rfl h dL_classroom_4 (fun M3 n H locs q9 ce hw h hce hcv hcl => ?_) (fun M1 z2 H locs hw h => ?_)
  · skip
    refine q_if (P := n = 1) h (fun e0 h => ?_) (fun n0 h => ?_)
    · subst e0
      refine q_catch (n := 1) (name := "java/lang/IllegalArgumentException") C0 htab [] ⟨0, 9, 12, 13⟩ [⟨0, 9, 15, 15⟩] rfl (fun _ h9 => absurd h9 List.not_mem_nil) rfl (by decide) (List.mem_of_getElem? (i := 1) rfl) rfl (List.mem_of_getElem? (i := 0) rfl) hce hcv hcl ?_
      refine lv_astore_n (lv' := [(3, .ref q9), (0, .ref (ad 0)), (1, .int a1), (2, .ref (ad 453))]) hx hb dL_classroom_12 rfl hl (by decide) rfl (fun ls hl => ?_)
      refine lv_iconst (v := 1) hx hb dL_classroom_13 (by decide) ?_
      exact q_iretW C0 hw h ⟨(Nat.le_of_ble_eq_true rfl), (Nat.le_of_ble_eq_true rfl)⟩ dL_classroom_14
    · skip
      refine q_if (P := n = 2) h (fun e1 h => ?_) (fun n1 h => ?_)
      · subst e1
        refine q_catch (n := 2) (name := "java/lang/IllegalStateException") C0 htab [⟨0, 9, 12, 13⟩] ⟨0, 9, 15, 15⟩ [] rfl (List.forall_mem_cons.mpr ⟨Or.inr ⟨by decide, "java/lang/IllegalArgumentException", (List.mem_of_getElem? (i := 1) rfl), (List.mem_of_getElem? (i := 5) rfl)⟩, (fun _ h9 => absurd h9 List.not_mem_nil)⟩) rfl (by decide) (List.mem_of_getElem? (i := 2) rfl) rfl (List.mem_of_getElem? (i := 1) rfl) hce hcv hcl ?_
        refine lv_astore_n (lv' := [(3, .ref q9), (0, .ref (ad 0)), (1, .int a1), (2, .ref (ad 453))]) hx hb dL_classroom_15 rfl hl (by decide) rfl (fun ls hl => ?_)
        refine lv_iconst (v := 2) hx hb dL_classroom_16 (by decide) ?_
        exact q_iretW C0 hw h ⟨(Nat.le_of_ble_eq_true rfl), (Nat.le_of_ble_eq_true rfl)⟩ dL_classroom_17
      · skip
        exact q_no h
  · skip
    refine lv_i2l hx hb dL_classroom_7 rfl ?_
    refine q_last C0 hw h dL_classroom_8 (fun x4 H locs hw h => ?_)
    refine lv_goto (tgt := 18) hx hb dL_classroom_9 (by decide) ?_
    refine lv_iconst (v := 0) hx hb dL_classroom_18 (by decide) ?_
    exact q_iretW C0 hw h ⟨(Nat.le_of_ble_eq_true rfl), (Nat.le_of_ble_eq_true rfl)⟩ dL_classroom_19
/-! HomewatcherLaw.pupil(LHomewatcher;I[J)I -/
abbrev rmL_pupil : Room := { frames := 8, cells := 2, slots := 12, locals := 132 }
def fL_pupil (F : Nat) (M : Mem) (x : XX) (a1 : Int32) : Option (Mem × (XX × Int32)) :=
    q_bh (fX5_pupil F M a1) (fun M1 z2 =>
    (q_lt (z2.toInt64, x.2) fun x4 =>
    some (M1, (x4, (0 : Int32))))) (fun M3 n =>
    if n = 3 then
    (some (M3, (x, (1 : Int32))))
    else
    if n = 2 then
    (some (M3, (x, (2 : Int32))))
    else
    none)
set_option maxHeartbeats 4000000 in
set_option maxRecDepth 100000 in
theorem ctL_pupil {l : Launch} (hst : l.stackTraces = false) {D : va_G} {cy : Nat → ClassId} {ad : Nat → Nat} {x : XX} {F : Nat} {M : Mem} {a1 : Int32} {r : Mem × (XX × Int32)} (h : fL_pupil F M x a1 = some r) : CN l yL_pupil wsL_pupil rmL_pupil D cy ad [.ref (ad 0), .int a1, .ref (ad 453)] x M r.2.1 r.1 (q_vi r.2.2) 2 12 := by
  refine q_startW (cc := cL_pupil) (maxL := 4) (ret := (some .int)) (by decide) rfl (Nat.le_of_ble_eq_true rfl) ?_
  intro p e s m args below meth c ls C0 hw hl htab
  obtain ⟨hx, hb, hml, hown, hts, -⟩ := id C0
  have C0 : MX p l s m args meth c D cy ad cL_pupil RL 4 wsL_pupil ((some .int)) := C0
  have hown : s.vm.findClass RL = some m.cls := hown
  have hl : lv_has ls 4 [(0, .ref (ad 0)), (1, .int a1), (2, .ref (ad 453))] := hl
  show W p l e rmL_pupil s m args below meth c s.heap [] 0 0 (QW D cy ad below args s r 2 12) (F0 m 0 ls [])
  unfold fL_pupil at h
  refine lv_aload_n hx hb dL_pupil_0 rfl (lv_at hl 2 rfl) ?_
  refine lv_iconst (v := 0) hx hb dL_pupil_1 (by decide) ?_
  refine lv_aload_n hx hb dL_pupil_2 rfl (lv_at hl 0 rfl) ?_
  refine lv_iload_n hx hb dL_pupil_3 rfl (lv_at hl 1 rfl) ?_
  refine q_callVXi (As := [.int a1]) (nA := 1) C0 hw at_HW rfl (fun r1 h1 => ctX5_pupil hst h1) gL_pupil_X5_pupil rfl ⟨rfl, rfl⟩ (by decide +kernel) rfl ⟨(Nat.le_of_ble_eq_true rfl), (Nat.le_of_ble_eq_true rfl)⟩ hl.1 (Nat.le_of_ble_eq_true rfl) ⟨(Nat.le_of_ble_eq_true rfl), (Nat.le_of_ble_eq_true rfl)⟩ rfl h dL_pupil_4 (fun M3 n H locs q9 ce hw h hce hcv hcl => ?_) (fun M1 z2 H locs hw h => ?_)
  · skip
    refine q_if (P := n = 3) h (fun e0 h => ?_) (fun n0 h => ?_)
    · subst e0
      refine q_catch (n := 3) (name := "java/lang/IndexOutOfBoundsException") C0 htab [] ⟨0, 9, 12, 20⟩ [⟨0, 9, 15, 15⟩] rfl (fun _ h9 => absurd h9 List.not_mem_nil) rfl (by decide) (List.mem_of_getElem? (i := 1) rfl) rfl (List.mem_of_getElem? (i := 2) rfl) hce hcv hcl ?_
      refine lv_astore_n (lv' := [(3, .ref q9), (0, .ref (ad 0)), (1, .int a1), (2, .ref (ad 453))]) hx hb dL_pupil_12 rfl hl (by decide) rfl (fun ls hl => ?_)
      refine lv_iconst (v := 1) hx hb dL_pupil_13 (by decide) ?_
      exact q_iretW C0 hw h ⟨(Nat.le_of_ble_eq_true rfl), (Nat.le_of_ble_eq_true rfl)⟩ dL_pupil_14
    · skip
      refine q_if (P := n = 2) h (fun e1 h => ?_) (fun n1 h => ?_)
      · subst e1
        refine q_catch (n := 2) (name := "java/lang/IllegalStateException") C0 htab [⟨0, 9, 12, 20⟩] ⟨0, 9, 15, 15⟩ [] rfl (List.forall_mem_cons.mpr ⟨Or.inr ⟨by decide, "java/lang/IndexOutOfBoundsException", (List.mem_of_getElem? (i := 1) rfl), (List.mem_of_getElem? (i := 6) rfl)⟩, (fun _ h9 => absurd h9 List.not_mem_nil)⟩) rfl (by decide) (List.mem_of_getElem? (i := 2) rfl) rfl (List.mem_of_getElem? (i := 1) rfl) hce hcv hcl ?_
        refine lv_astore_n (lv' := [(3, .ref q9), (0, .ref (ad 0)), (1, .int a1), (2, .ref (ad 453))]) hx hb dL_pupil_15 rfl hl (by decide) rfl (fun ls hl => ?_)
        refine lv_iconst (v := 2) hx hb dL_pupil_16 (by decide) ?_
        exact q_iretW C0 hw h ⟨(Nat.le_of_ble_eq_true rfl), (Nat.le_of_ble_eq_true rfl)⟩ dL_pupil_17
      · skip
        exact q_no h
  · skip
    refine lv_i2l hx hb dL_pupil_7 rfl ?_
    refine q_last C0 hw h dL_pupil_8 (fun x4 H locs hw h => ?_)
    refine lv_goto (tgt := 18) hx hb dL_pupil_9 (by decide) ?_
    refine lv_iconst (v := 0) hx hb dL_pupil_18 (by decide) ?_
    exact q_iretW C0 hw h ⟨(Nat.le_of_ble_eq_true rfl), (Nat.le_of_ble_eq_true rfl)⟩ dL_pupil_19
/-! HomewatcherLaw.task(LHomewatcher;IIICI[J)I -/
abbrev rmL_task : Room := { frames := 8, cells := 6, slots := 36, locals := 138 }
def fL_task (F : Nat) (M : Mem) (x : XX) (a1 : Int32) (a2 : Int32) (a3 : Int32) (a4 : Int32) (a5 : Int32) : Option (Mem × (XX × Int32)) :=
    q_bh (fX5_task F M a1 a2 a3 a4 a5) (fun M1 z2 =>
    (q_lt (z2.toInt64, x.2) fun x4 =>
    some (M1, (x4, (0 : Int32))))) (fun M3 n =>
    if n = 3 then
    (some (M3, (x, (1 : Int32))))
    else
    if n = 1 then
    (some (M3, (x, (2 : Int32))))
    else
    if n = 2 then
    (some (M3, (x, (3 : Int32))))
    else
    none)
set_option maxHeartbeats 4000000 in
set_option maxRecDepth 100000 in
theorem ctL_task {l : Launch} (hst : l.stackTraces = false) {D : va_G} {cy : Nat → ClassId} {ad : Nat → Nat} {x : XX} {F : Nat} {M : Mem} {a1 : Int32} {a2 : Int32} {a3 : Int32} {a4 : Int32} {a5 : Int32} {r : Mem × (XX × Int32)} (h : fL_task F M x a1 a2 a3 a4 a5 = some r) : CN l yL_task wsL_task rmL_task D cy ad [.ref (ad 0), .int a1, .int a2, .int a3, .int a4, .int a5, .ref (ad 453)] x M r.2.1 r.1 (q_vi r.2.2) 6 36 := by
  refine q_startW (cc := cL_task) (maxL := 8) (ret := (some .int)) (by decide) rfl (Nat.le_of_ble_eq_true rfl) ?_
  intro p e s m args below meth c ls C0 hw hl htab
  obtain ⟨hx, hb, hml, hown, hts, -⟩ := id C0
  have C0 : MX p l s m args meth c D cy ad cL_task RL 8 wsL_task ((some .int)) := C0
  have hown : s.vm.findClass RL = some m.cls := hown
  have hl : lv_has ls 8 [(0, .ref (ad 0)), (1, .int a1), (2, .int a2), (3, .int a3), (4, .int a4), (5, .int a5), (6, .ref (ad 453))] := hl
  show W p l e rmL_task s m args below meth c s.heap [] 0 0 (QW D cy ad below args s r 6 36) (F0 m 0 ls [])
  unfold fL_task at h
  refine lv_aload hx hb dL_task_0 (lv_at hl 6 rfl) ?_
  refine lv_iconst (v := 0) hx hb dL_task_2 (by decide) ?_
  refine lv_aload_n hx hb dL_task_3 rfl (lv_at hl 0 rfl) ?_
  refine lv_iload_n hx hb dL_task_4 rfl (lv_at hl 1 rfl) ?_
  refine lv_iload_n hx hb dL_task_5 rfl (lv_at hl 2 rfl) ?_
  refine lv_iload_n hx hb dL_task_6 rfl (lv_at hl 3 rfl) ?_
  refine lv_iload hx hb dL_task_7 (lv_at hl 4 rfl) ?_
  refine lv_iload hx hb dL_task_9 (lv_at hl 5 rfl) ?_
  refine q_callVXi (As := [.int a1, .int a2, .int a3, .int a4, .int a5]) (nA := 5) C0 hw at_HW rfl (fun r1 h1 => ctX5_task hst h1) gL_task_X5_task rfl ⟨rfl, rfl⟩ (by decide +kernel) rfl ⟨(Nat.le_of_ble_eq_true rfl), (Nat.le_of_ble_eq_true rfl)⟩ hl.1 (Nat.le_of_ble_eq_true rfl) ⟨(Nat.le_of_ble_eq_true rfl), (Nat.le_of_ble_eq_true rfl)⟩ rfl h dL_task_11 (fun M3 n H locs q9 ce hw h hce hcv hcl => ?_) (fun M1 z2 H locs hw h => ?_)
  · skip
    refine q_if (P := n = 3) h (fun e0 h => ?_) (fun n0 h => ?_)
    · subst e0
      refine q_catch (n := 3) (name := "java/lang/IndexOutOfBoundsException") C0 htab [] ⟨0, 16, 19, 20⟩ [⟨0, 16, 23, 13⟩, ⟨0, 16, 27, 15⟩] rfl (fun _ h9 => absurd h9 List.not_mem_nil) rfl (by decide) (List.mem_of_getElem? (i := 1) rfl) rfl (List.mem_of_getElem? (i := 2) rfl) hce hcv hcl ?_
      refine lv_astore (lv' := [(7, .ref q9), (0, .ref (ad 0)), (1, .int a1), (2, .int a2), (3, .int a3), (4, .int a4), (5, .int a5), (6, .ref (ad 453))]) hx hb dL_task_19 hl (by decide) rfl (fun ls hl => ?_)
      refine lv_iconst (v := 1) hx hb dL_task_21 (by decide) ?_
      exact q_iretW C0 hw h ⟨(Nat.le_of_ble_eq_true rfl), (Nat.le_of_ble_eq_true rfl)⟩ dL_task_22
    · skip
      refine q_if (P := n = 1) h (fun e1 h => ?_) (fun n1 h => ?_)
      · subst e1
        refine q_catch (n := 1) (name := "java/lang/IllegalArgumentException") C0 htab [⟨0, 16, 19, 20⟩] ⟨0, 16, 23, 13⟩ [⟨0, 16, 27, 15⟩] rfl (List.forall_mem_cons.mpr ⟨Or.inr ⟨by decide, "java/lang/IndexOutOfBoundsException", (List.mem_of_getElem? (i := 1) rfl), (List.mem_of_getElem? (i := 1) rfl)⟩, (fun _ h9 => absurd h9 List.not_mem_nil)⟩) rfl (by decide) (List.mem_of_getElem? (i := 2) rfl) rfl (List.mem_of_getElem? (i := 0) rfl) hce hcv hcl ?_
        refine lv_astore (lv' := [(7, .ref q9), (0, .ref (ad 0)), (1, .int a1), (2, .int a2), (3, .int a3), (4, .int a4), (5, .int a5), (6, .ref (ad 453))]) hx hb dL_task_23 hl (by decide) rfl (fun ls hl => ?_)
        refine lv_iconst (v := 2) hx hb dL_task_25 (by decide) ?_
        exact q_iretW C0 hw h ⟨(Nat.le_of_ble_eq_true rfl), (Nat.le_of_ble_eq_true rfl)⟩ dL_task_26
      · skip
        refine q_if (P := n = 2) h (fun e2 h => ?_) (fun n2 h => ?_)
        · subst e2
          refine q_catch (n := 2) (name := "java/lang/IllegalStateException") C0 htab [⟨0, 16, 19, 20⟩, ⟨0, 16, 23, 13⟩] ⟨0, 16, 27, 15⟩ [] rfl (List.forall_mem_cons.mpr ⟨Or.inr ⟨by decide, "java/lang/IndexOutOfBoundsException", (List.mem_of_getElem? (i := 1) rfl), (List.mem_of_getElem? (i := 6) rfl)⟩, (List.forall_mem_cons.mpr ⟨Or.inr ⟨by decide, "java/lang/IllegalArgumentException", (List.mem_of_getElem? (i := 2) rfl), (List.mem_of_getElem? (i := 5) rfl)⟩, (fun _ h9 => absurd h9 List.not_mem_nil)⟩)⟩) rfl (by decide) (List.mem_of_getElem? (i := 3) rfl) rfl (List.mem_of_getElem? (i := 1) rfl) hce hcv hcl ?_
          refine lv_astore (lv' := [(7, .ref q9), (0, .ref (ad 0)), (1, .int a1), (2, .int a2), (3, .int a3), (4, .int a4), (5, .int a5), (6, .ref (ad 453))]) hx hb dL_task_27 hl (by decide) rfl (fun ls hl => ?_)
          refine lv_iconst (v := 3) hx hb dL_task_29 (by decide) ?_
          exact q_iretW C0 hw h ⟨(Nat.le_of_ble_eq_true rfl), (Nat.le_of_ble_eq_true rfl)⟩ dL_task_30
        · skip
          exact q_no h
  · skip
    refine lv_i2l hx hb dL_task_14 rfl ?_
    refine q_last C0 hw h dL_task_15 (fun x4 H locs hw h => ?_)
    refine lv_goto (tgt := 31) hx hb dL_task_16 (by decide) ?_
    refine lv_iconst (v := 0) hx hb dL_task_31 (by decide) ?_
    exact q_iretW C0 hw h ⟨(Nat.le_of_ble_eq_true rfl), (Nat.le_of_ble_eq_true rfl)⟩ dL_task_32
/-! HomewatcherLaw.pass(LHomewatcher;I[J)I -/
abbrev rmL_pass : Room := { frames := 8, cells := 2, slots := 12, locals := 133 }
def fL_pass (F : Nat) (M : Mem) (x : XX) (a1 : Int32) : Option (Mem × (XX × Int32)) :=
    q_bh (fX5_pass F M a1) (fun M1 z2 =>
    (q_lt (z2.toInt64, x.2) fun x4 =>
    some (M1, (x4, (0 : Int32))))) (fun M3 n =>
    if n = 1 then
    (some (M3, (x, (1 : Int32))))
    else
    if n = 2 then
    (some (M3, (x, (2 : Int32))))
    else
    none)
set_option maxHeartbeats 4000000 in
set_option maxRecDepth 100000 in
theorem ctL_pass {l : Launch} (hst : l.stackTraces = false) {D : va_G} {cy : Nat → ClassId} {ad : Nat → Nat} {x : XX} {F : Nat} {M : Mem} {a1 : Int32} {r : Mem × (XX × Int32)} (h : fL_pass F M x a1 = some r) : CN l yL_pass wsL_pass rmL_pass D cy ad [.ref (ad 0), .int a1, .ref (ad 453)] x M r.2.1 r.1 (q_vi r.2.2) 2 12 := by
  refine q_startW (cc := cL_pass) (maxL := 4) (ret := (some .int)) (by decide) rfl (Nat.le_of_ble_eq_true rfl) ?_
  intro p e s m args below meth c ls C0 hw hl htab
  obtain ⟨hx, hb, hml, hown, hts, -⟩ := id C0
  have C0 : MX p l s m args meth c D cy ad cL_pass RL 4 wsL_pass ((some .int)) := C0
  have hown : s.vm.findClass RL = some m.cls := hown
  have hl : lv_has ls 4 [(0, .ref (ad 0)), (1, .int a1), (2, .ref (ad 453))] := hl
  show W p l e rmL_pass s m args below meth c s.heap [] 0 0 (QW D cy ad below args s r 2 12) (F0 m 0 ls [])
  unfold fL_pass at h
  refine lv_aload_n hx hb dL_pass_0 rfl (lv_at hl 2 rfl) ?_
  refine lv_iconst (v := 0) hx hb dL_pass_1 (by decide) ?_
  refine lv_aload_n hx hb dL_pass_2 rfl (lv_at hl 0 rfl) ?_
  refine lv_iload_n hx hb dL_pass_3 rfl (lv_at hl 1 rfl) ?_
  refine q_callVXi (As := [.int a1]) (nA := 1) C0 hw at_HW rfl (fun r1 h1 => ctX5_pass hst h1) gL_pass_X5_pass rfl ⟨rfl, rfl⟩ (by decide +kernel) rfl ⟨(Nat.le_of_ble_eq_true rfl), (Nat.le_of_ble_eq_true rfl)⟩ hl.1 (Nat.le_of_ble_eq_true rfl) ⟨(Nat.le_of_ble_eq_true rfl), (Nat.le_of_ble_eq_true rfl)⟩ rfl h dL_pass_4 (fun M3 n H locs q9 ce hw h hce hcv hcl => ?_) (fun M1 z2 H locs hw h => ?_)
  · skip
    refine q_if (P := n = 1) h (fun e0 h => ?_) (fun n0 h => ?_)
    · subst e0
      refine q_catch (n := 1) (name := "java/lang/IllegalArgumentException") C0 htab [] ⟨0, 9, 12, 13⟩ [⟨0, 9, 15, 15⟩] rfl (fun _ h9 => absurd h9 List.not_mem_nil) rfl (by decide) (List.mem_of_getElem? (i := 1) rfl) rfl (List.mem_of_getElem? (i := 0) rfl) hce hcv hcl ?_
      refine lv_astore_n (lv' := [(3, .ref q9), (0, .ref (ad 0)), (1, .int a1), (2, .ref (ad 453))]) hx hb dL_pass_12 rfl hl (by decide) rfl (fun ls hl => ?_)
      refine lv_iconst (v := 1) hx hb dL_pass_13 (by decide) ?_
      exact q_iretW C0 hw h ⟨(Nat.le_of_ble_eq_true rfl), (Nat.le_of_ble_eq_true rfl)⟩ dL_pass_14
    · skip
      refine q_if (P := n = 2) h (fun e1 h => ?_) (fun n1 h => ?_)
      · subst e1
        refine q_catch (n := 2) (name := "java/lang/IllegalStateException") C0 htab [⟨0, 9, 12, 13⟩] ⟨0, 9, 15, 15⟩ [] rfl (List.forall_mem_cons.mpr ⟨Or.inr ⟨by decide, "java/lang/IllegalArgumentException", (List.mem_of_getElem? (i := 1) rfl), (List.mem_of_getElem? (i := 5) rfl)⟩, (fun _ h9 => absurd h9 List.not_mem_nil)⟩) rfl (by decide) (List.mem_of_getElem? (i := 2) rfl) rfl (List.mem_of_getElem? (i := 1) rfl) hce hcv hcl ?_
        refine lv_astore_n (lv' := [(3, .ref q9), (0, .ref (ad 0)), (1, .int a1), (2, .ref (ad 453))]) hx hb dL_pass_15 rfl hl (by decide) rfl (fun ls hl => ?_)
        refine lv_iconst (v := 2) hx hb dL_pass_16 (by decide) ?_
        exact q_iretW C0 hw h ⟨(Nat.le_of_ble_eq_true rfl), (Nat.le_of_ble_eq_true rfl)⟩ dL_pass_17
      · skip
        exact q_no h
  · skip
    refine lv_i2l hx hb dL_pass_7 rfl ?_
    refine q_last C0 hw h dL_pass_8 (fun x4 H locs hw h => ?_)
    refine lv_goto (tgt := 18) hx hb dL_pass_9 (by decide) ?_
    refine lv_iconst (v := 0) hx hb dL_pass_18 (by decide) ?_
    exact q_iretW C0 hw h ⟨(Nat.le_of_ble_eq_true rfl), (Nat.le_of_ble_eq_true rfl)⟩ dL_pass_19
/-! HomewatcherLaw.clock(LHomewatcher;I[J)I -/
abbrev rmL_clock : Room := { frames := 8, cells := 1, slots := 6, locals := 132 }
def fL_clock (F : Nat) (M : Mem) (x : XX) (a1 : Int32) : Option (Mem × (XX × Int32)) :=
    q_bh (fX5_clock F M a1) (fun M1 z2 =>
    (q_lt (z2.toInt64, x.2) fun x4 =>
    some (M1, (x4, (0 : Int32))))) (fun M3 n =>
    if n = 3 then
    (some (M3, (x, (1 : Int32))))
    else
    none)
set_option maxHeartbeats 4000000 in
set_option maxRecDepth 100000 in
theorem ctL_clock {l : Launch} (hst : l.stackTraces = false) {D : va_G} {cy : Nat → ClassId} {ad : Nat → Nat} {x : XX} {F : Nat} {M : Mem} {a1 : Int32} {r : Mem × (XX × Int32)} (h : fL_clock F M x a1 = some r) : CN l yL_clock wsL_clock rmL_clock D cy ad [.ref (ad 0), .int a1, .ref (ad 453)] x M r.2.1 r.1 (q_vi r.2.2) 1 6 := by
  refine q_startW (cc := cL_clock) (maxL := 4) (ret := (some .int)) (by decide) rfl (Nat.le_of_ble_eq_true rfl) ?_
  intro p e s m args below meth c ls C0 hw hl htab
  obtain ⟨hx, hb, hml, hown, hts, -⟩ := id C0
  have C0 : MX p l s m args meth c D cy ad cL_clock RL 4 wsL_clock ((some .int)) := C0
  have hown : s.vm.findClass RL = some m.cls := hown
  have hl : lv_has ls 4 [(0, .ref (ad 0)), (1, .int a1), (2, .ref (ad 453))] := hl
  show W p l e rmL_clock s m args below meth c s.heap [] 0 0 (QW D cy ad below args s r 1 6) (F0 m 0 ls [])
  unfold fL_clock at h
  refine lv_aload_n hx hb dL_clock_0 rfl (lv_at hl 2 rfl) ?_
  refine lv_iconst (v := 0) hx hb dL_clock_1 (by decide) ?_
  refine lv_aload_n hx hb dL_clock_2 rfl (lv_at hl 0 rfl) ?_
  refine lv_iload_n hx hb dL_clock_3 rfl (lv_at hl 1 rfl) ?_
  refine q_callVXi (As := [.int a1]) (nA := 1) C0 hw at_HW rfl (fun r1 h1 => ctX5_clock hst h1) gL_clock_X5_clock rfl ⟨rfl, rfl⟩ (by decide +kernel) rfl ⟨(Nat.le_of_ble_eq_true rfl), (Nat.le_of_ble_eq_true rfl)⟩ hl.1 (Nat.le_of_ble_eq_true rfl) ⟨(Nat.le_of_ble_eq_true rfl), (Nat.le_of_ble_eq_true rfl)⟩ rfl h dL_clock_4 (fun M3 n H locs q9 ce hw h hce hcv hcl => ?_) (fun M1 z2 H locs hw h => ?_)
  · skip
    refine q_if (P := n = 3) h (fun e0 h => ?_) (fun n0 h => ?_)
    · subst e0
      refine q_catch (n := 3) (name := "java/lang/IndexOutOfBoundsException") C0 htab [] ⟨0, 9, 12, 20⟩ [] rfl (fun _ h9 => absurd h9 List.not_mem_nil) rfl (by decide) (List.mem_of_getElem? (i := 1) rfl) rfl (List.mem_of_getElem? (i := 2) rfl) hce hcv hcl ?_
      refine lv_astore_n (lv' := [(3, .ref q9), (0, .ref (ad 0)), (1, .int a1), (2, .ref (ad 453))]) hx hb dL_clock_12 rfl hl (by decide) rfl (fun ls hl => ?_)
      refine lv_iconst (v := 1) hx hb dL_clock_13 (by decide) ?_
      exact q_iretW C0 hw h ⟨(Nat.le_of_ble_eq_true rfl), (Nat.le_of_ble_eq_true rfl)⟩ dL_clock_14
    · skip
      exact q_no h
  · skip
    refine lv_i2l hx hb dL_clock_7 rfl ?_
    refine q_last C0 hw h dL_clock_8 (fun x4 H locs hw h => ?_)
    refine lv_goto (tgt := 15) hx hb dL_clock_9 (by decide) ?_
    refine lv_iconst (v := 0) hx hb dL_clock_15 (by decide) ?_
    exact q_iretW C0 hw h ⟨(Nat.le_of_ble_eq_true rfl), (Nat.le_of_ble_eq_true rfl)⟩ dL_clock_16
/-! HomewatcherLaw.type(LHomewatcher;I[J)I -/
abbrev rmL_type : Room := { frames := 8, cells := 2, slots := 12, locals := 133 }
def fL_type (F : Nat) (M : Mem) (x : XX) (a1 : Int32) : Option (Mem × (XX × Int32)) :=
    q_bh (fX5_type F M a1) (fun M1 z2 =>
    (q_lt (z2.toInt64, x.2) fun x4 =>
    some (M1, (x4, (0 : Int32))))) (fun M3 n =>
    if n = 1 then
    (some (M3, (x, (1 : Int32))))
    else
    if n = 2 then
    (some (M3, (x, (2 : Int32))))
    else
    none)
set_option maxHeartbeats 4000000 in
set_option maxRecDepth 100000 in
theorem ctL_type {l : Launch} (hst : l.stackTraces = false) {D : va_G} {cy : Nat → ClassId} {ad : Nat → Nat} {x : XX} {F : Nat} {M : Mem} {a1 : Int32} {r : Mem × (XX × Int32)} (h : fL_type F M x a1 = some r) : CN l yL_type wsL_type rmL_type D cy ad [.ref (ad 0), .int a1, .ref (ad 453)] x M r.2.1 r.1 (q_vi r.2.2) 2 12 := by
  refine q_startW (cc := cL_type) (maxL := 4) (ret := (some .int)) (by decide) rfl (Nat.le_of_ble_eq_true rfl) ?_
  intro p e s m args below meth c ls C0 hw hl htab
  obtain ⟨hx, hb, hml, hown, hts, -⟩ := id C0
  have C0 : MX p l s m args meth c D cy ad cL_type RL 4 wsL_type ((some .int)) := C0
  have hown : s.vm.findClass RL = some m.cls := hown
  have hl : lv_has ls 4 [(0, .ref (ad 0)), (1, .int a1), (2, .ref (ad 453))] := hl
  show W p l e rmL_type s m args below meth c s.heap [] 0 0 (QW D cy ad below args s r 2 12) (F0 m 0 ls [])
  unfold fL_type at h
  refine lv_aload_n hx hb dL_type_0 rfl (lv_at hl 2 rfl) ?_
  refine lv_iconst (v := 0) hx hb dL_type_1 (by decide) ?_
  refine lv_aload_n hx hb dL_type_2 rfl (lv_at hl 0 rfl) ?_
  refine lv_iload_n hx hb dL_type_3 rfl (lv_at hl 1 rfl) ?_
  refine q_callVXi (As := [.int a1]) (nA := 1) C0 hw at_HW rfl (fun r1 h1 => ctX5_type hst h1) gL_type_X5_type rfl ⟨rfl, rfl⟩ (by decide +kernel) rfl ⟨(Nat.le_of_ble_eq_true rfl), (Nat.le_of_ble_eq_true rfl)⟩ hl.1 (Nat.le_of_ble_eq_true rfl) ⟨(Nat.le_of_ble_eq_true rfl), (Nat.le_of_ble_eq_true rfl)⟩ rfl h dL_type_4 (fun M3 n H locs q9 ce hw h hce hcv hcl => ?_) (fun M1 z2 H locs hw h => ?_)
  · skip
    refine q_if (P := n = 1) h (fun e0 h => ?_) (fun n0 h => ?_)
    · subst e0
      refine q_catch (n := 1) (name := "java/lang/IllegalArgumentException") C0 htab [] ⟨0, 9, 12, 13⟩ [⟨0, 9, 15, 15⟩] rfl (fun _ h9 => absurd h9 List.not_mem_nil) rfl (by decide) (List.mem_of_getElem? (i := 1) rfl) rfl (List.mem_of_getElem? (i := 0) rfl) hce hcv hcl ?_
      refine lv_astore_n (lv' := [(3, .ref q9), (0, .ref (ad 0)), (1, .int a1), (2, .ref (ad 453))]) hx hb dL_type_12 rfl hl (by decide) rfl (fun ls hl => ?_)
      refine lv_iconst (v := 1) hx hb dL_type_13 (by decide) ?_
      exact q_iretW C0 hw h ⟨(Nat.le_of_ble_eq_true rfl), (Nat.le_of_ble_eq_true rfl)⟩ dL_type_14
    · skip
      refine q_if (P := n = 2) h (fun e1 h => ?_) (fun n1 h => ?_)
      · subst e1
        refine q_catch (n := 2) (name := "java/lang/IllegalStateException") C0 htab [⟨0, 9, 12, 13⟩] ⟨0, 9, 15, 15⟩ [] rfl (List.forall_mem_cons.mpr ⟨Or.inr ⟨by decide, "java/lang/IllegalArgumentException", (List.mem_of_getElem? (i := 1) rfl), (List.mem_of_getElem? (i := 5) rfl)⟩, (fun _ h9 => absurd h9 List.not_mem_nil)⟩) rfl (by decide) (List.mem_of_getElem? (i := 2) rfl) rfl (List.mem_of_getElem? (i := 1) rfl) hce hcv hcl ?_
        refine lv_astore_n (lv' := [(3, .ref q9), (0, .ref (ad 0)), (1, .int a1), (2, .ref (ad 453))]) hx hb dL_type_15 rfl hl (by decide) rfl (fun ls hl => ?_)
        refine lv_iconst (v := 2) hx hb dL_type_16 (by decide) ?_
        exact q_iretW C0 hw h ⟨(Nat.le_of_ble_eq_true rfl), (Nat.le_of_ble_eq_true rfl)⟩ dL_type_17
      · skip
        exact q_no h
  · skip
    refine lv_i2l hx hb dL_type_7 rfl ?_
    refine q_last C0 hw h dL_type_8 (fun x4 H locs hw h => ?_)
    refine lv_goto (tgt := 18) hx hb dL_type_9 (by decide) ?_
    refine lv_iconst (v := 0) hx hb dL_type_18 (by decide) ?_
    exact q_iretW C0 hw h ⟨(Nat.le_of_ble_eq_true rfl), (Nat.le_of_ble_eq_true rfl)⟩ dL_type_19
/-! HomewatcherLaw.insert(LHomewatcher;II[J)I -/
abbrev rmL_insert : Room := { frames := 8, cells := 2, slots := 12, locals := 134 }
def fL_insert (F : Nat) (M : Mem) (x : XX) (a1 : Int32) (a2 : Int32) : Option (Mem × (XX × Int32)) :=
    q_bh (fX5_insert F M a1 a2) (fun M1 z2 =>
    (q_lt (z2.toInt64, x.2) fun x4 =>
    some (M1, (x4, (0 : Int32))))) (fun M3 n =>
    if n = 3 then
    (some (M3, (x, (1 : Int32))))
    else
    if n = 1 then
    (some (M3, (x, (2 : Int32))))
    else
    if n = 2 then
    (some (M3, (x, (3 : Int32))))
    else
    none)
set_option maxHeartbeats 4000000 in
set_option maxRecDepth 100000 in
theorem ctL_insert {l : Launch} (hst : l.stackTraces = false) {D : va_G} {cy : Nat → ClassId} {ad : Nat → Nat} {x : XX} {F : Nat} {M : Mem} {a1 : Int32} {a2 : Int32} {r : Mem × (XX × Int32)} (h : fL_insert F M x a1 a2 = some r) : CN l yL_insert wsL_insert rmL_insert D cy ad [.ref (ad 0), .int a1, .int a2, .ref (ad 453)] x M r.2.1 r.1 (q_vi r.2.2) 2 12 := by
  refine q_startW (cc := cL_insert) (maxL := 5) (ret := (some .int)) (by decide) rfl (Nat.le_of_ble_eq_true rfl) ?_
  intro p e s m args below meth c ls C0 hw hl htab
  obtain ⟨hx, hb, hml, hown, hts, -⟩ := id C0
  have C0 : MX p l s m args meth c D cy ad cL_insert RL 5 wsL_insert ((some .int)) := C0
  have hown : s.vm.findClass RL = some m.cls := hown
  have hl : lv_has ls 5 [(0, .ref (ad 0)), (1, .int a1), (2, .int a2), (3, .ref (ad 453))] := hl
  show W p l e rmL_insert s m args below meth c s.heap [] 0 0 (QW D cy ad below args s r 2 12) (F0 m 0 ls [])
  unfold fL_insert at h
  refine lv_aload_n hx hb dL_insert_0 rfl (lv_at hl 3 rfl) ?_
  refine lv_iconst (v := 0) hx hb dL_insert_1 (by decide) ?_
  refine lv_aload_n hx hb dL_insert_2 rfl (lv_at hl 0 rfl) ?_
  refine lv_iload_n hx hb dL_insert_3 rfl (lv_at hl 1 rfl) ?_
  refine lv_iload_n hx hb dL_insert_4 rfl (lv_at hl 2 rfl) ?_
  refine q_callVXi (As := [.int a1, .int a2]) (nA := 2) C0 hw at_HW rfl (fun r1 h1 => ctX5_insert hst h1) gL_insert_X5_insert rfl ⟨rfl, rfl⟩ (by decide +kernel) rfl ⟨(Nat.le_of_ble_eq_true rfl), (Nat.le_of_ble_eq_true rfl)⟩ hl.1 (Nat.le_of_ble_eq_true rfl) ⟨(Nat.le_of_ble_eq_true rfl), (Nat.le_of_ble_eq_true rfl)⟩ rfl h dL_insert_5 (fun M3 n H locs q9 ce hw h hce hcv hcl => ?_) (fun M1 z2 H locs hw h => ?_)
  · skip
    refine q_if (P := n = 3) h (fun e0 h => ?_) (fun n0 h => ?_)
    · subst e0
      refine q_catch (n := 3) (name := "java/lang/IndexOutOfBoundsException") C0 htab [] ⟨0, 10, 13, 20⟩ [⟨0, 10, 17, 13⟩, ⟨0, 10, 21, 15⟩] rfl (fun _ h9 => absurd h9 List.not_mem_nil) rfl (by decide) (List.mem_of_getElem? (i := 1) rfl) rfl (List.mem_of_getElem? (i := 2) rfl) hce hcv hcl ?_
      refine lv_astore (lv' := [(4, .ref q9), (0, .ref (ad 0)), (1, .int a1), (2, .int a2), (3, .ref (ad 453))]) hx hb dL_insert_13 hl (by decide) rfl (fun ls hl => ?_)
      refine lv_iconst (v := 1) hx hb dL_insert_15 (by decide) ?_
      exact q_iretW C0 hw h ⟨(Nat.le_of_ble_eq_true rfl), (Nat.le_of_ble_eq_true rfl)⟩ dL_insert_16
    · skip
      refine q_if (P := n = 1) h (fun e1 h => ?_) (fun n1 h => ?_)
      · subst e1
        refine q_catch (n := 1) (name := "java/lang/IllegalArgumentException") C0 htab [⟨0, 10, 13, 20⟩] ⟨0, 10, 17, 13⟩ [⟨0, 10, 21, 15⟩] rfl (List.forall_mem_cons.mpr ⟨Or.inr ⟨by decide, "java/lang/IndexOutOfBoundsException", (List.mem_of_getElem? (i := 1) rfl), (List.mem_of_getElem? (i := 1) rfl)⟩, (fun _ h9 => absurd h9 List.not_mem_nil)⟩) rfl (by decide) (List.mem_of_getElem? (i := 2) rfl) rfl (List.mem_of_getElem? (i := 0) rfl) hce hcv hcl ?_
        refine lv_astore (lv' := [(4, .ref q9), (0, .ref (ad 0)), (1, .int a1), (2, .int a2), (3, .ref (ad 453))]) hx hb dL_insert_17 hl (by decide) rfl (fun ls hl => ?_)
        refine lv_iconst (v := 2) hx hb dL_insert_19 (by decide) ?_
        exact q_iretW C0 hw h ⟨(Nat.le_of_ble_eq_true rfl), (Nat.le_of_ble_eq_true rfl)⟩ dL_insert_20
      · skip
        refine q_if (P := n = 2) h (fun e2 h => ?_) (fun n2 h => ?_)
        · subst e2
          refine q_catch (n := 2) (name := "java/lang/IllegalStateException") C0 htab [⟨0, 10, 13, 20⟩, ⟨0, 10, 17, 13⟩] ⟨0, 10, 21, 15⟩ [] rfl (List.forall_mem_cons.mpr ⟨Or.inr ⟨by decide, "java/lang/IndexOutOfBoundsException", (List.mem_of_getElem? (i := 1) rfl), (List.mem_of_getElem? (i := 6) rfl)⟩, (List.forall_mem_cons.mpr ⟨Or.inr ⟨by decide, "java/lang/IllegalArgumentException", (List.mem_of_getElem? (i := 2) rfl), (List.mem_of_getElem? (i := 5) rfl)⟩, (fun _ h9 => absurd h9 List.not_mem_nil)⟩)⟩) rfl (by decide) (List.mem_of_getElem? (i := 3) rfl) rfl (List.mem_of_getElem? (i := 1) rfl) hce hcv hcl ?_
          refine lv_astore (lv' := [(4, .ref q9), (0, .ref (ad 0)), (1, .int a1), (2, .int a2), (3, .ref (ad 453))]) hx hb dL_insert_21 hl (by decide) rfl (fun ls hl => ?_)
          refine lv_iconst (v := 3) hx hb dL_insert_23 (by decide) ?_
          exact q_iretW C0 hw h ⟨(Nat.le_of_ble_eq_true rfl), (Nat.le_of_ble_eq_true rfl)⟩ dL_insert_24
        · skip
          exact q_no h
  · skip
    refine lv_i2l hx hb dL_insert_8 rfl ?_
    refine q_last C0 hw h dL_insert_9 (fun x4 H locs hw h => ?_)
    refine lv_goto (tgt := 25) hx hb dL_insert_10 (by decide) ?_
    refine lv_iconst (v := 0) hx hb dL_insert_25 (by decide) ?_
    exact q_iretW C0 hw h ⟨(Nat.le_of_ble_eq_true rfl), (Nat.le_of_ble_eq_true rfl)⟩ dL_insert_26
/-! HomewatcherLaw.charAt(LHomewatcher;I[J)I -/
abbrev rmL_charAt : Room := { frames := 7, cells := 1, slots := 6, locals := 111 }
def fL_charAt (F : Nat) (M : Mem) (x : XX) (a1 : Int32) : Option (Mem × (XX × Int32)) :=
    q_bh (fX5_charAt F M a1) (fun M1 z2 =>
    (q_lt (z2.toInt64, x.2) fun x4 =>
    some (M1, (x4, (0 : Int32))))) (fun M3 n =>
    if n = 4 then
    (some (M3, (x, (1 : Int32))))
    else
    none)
set_option maxHeartbeats 4000000 in
set_option maxRecDepth 100000 in
theorem ctL_charAt {l : Launch} (hst : l.stackTraces = false) {D : va_G} {cy : Nat → ClassId} {ad : Nat → Nat} {x : XX} {F : Nat} {M : Mem} {a1 : Int32} {r : Mem × (XX × Int32)} (h : fL_charAt F M x a1 = some r) : CN l yL_charAt wsL_charAt rmL_charAt D cy ad [.ref (ad 0), .int a1, .ref (ad 453)] x M r.2.1 r.1 (q_vi r.2.2) 1 6 := by
  refine q_startW (cc := cL_charAt) (maxL := 4) (ret := (some .int)) (by decide) rfl (Nat.le_of_ble_eq_true rfl) ?_
  intro p e s m args below meth c ls C0 hw hl htab
  obtain ⟨hx, hb, hml, hown, hts, -⟩ := id C0
  have C0 : MX p l s m args meth c D cy ad cL_charAt RL 4 wsL_charAt ((some .int)) := C0
  have hown : s.vm.findClass RL = some m.cls := hown
  have hl : lv_has ls 4 [(0, .ref (ad 0)), (1, .int a1), (2, .ref (ad 453))] := hl
  show W p l e rmL_charAt s m args below meth c s.heap [] 0 0 (QW D cy ad below args s r 1 6) (F0 m 0 ls [])
  unfold fL_charAt at h
  refine lv_aload_n hx hb dL_charAt_0 rfl (lv_at hl 2 rfl) ?_
  refine lv_iconst (v := 0) hx hb dL_charAt_1 (by decide) ?_
  refine lv_aload_n hx hb dL_charAt_2 rfl (lv_at hl 0 rfl) ?_
  refine lv_iload_n hx hb dL_charAt_3 rfl (lv_at hl 1 rfl) ?_
  refine q_callVXi (As := [.int a1]) (nA := 1) C0 hw at_HW rfl (fun r1 h1 => ctX5_charAt hst h1) gL_charAt_X5_charAt rfl ⟨rfl, rfl⟩ (by decide +kernel) rfl ⟨(Nat.le_of_ble_eq_true rfl), (Nat.le_of_ble_eq_true rfl)⟩ hl.1 (Nat.le_of_ble_eq_true rfl) ⟨(Nat.le_of_ble_eq_true rfl), (Nat.le_of_ble_eq_true rfl)⟩ rfl h dL_charAt_4 (fun M3 n H locs q9 ce hw h hce hcv hcl => ?_) (fun M1 z2 H locs hw h => ?_)
  · skip
    refine q_if (P := n = 4) h (fun e0 h => ?_) (fun n0 h => ?_)
    · subst e0
      refine q_catch (n := 4) (name := "java/util/NoSuchElementException") C0 htab [] ⟨0, 9, 12, 43⟩ [] rfl (fun _ h9 => absurd h9 List.not_mem_nil) rfl (by decide) (List.mem_of_getElem? (i := 1) rfl) rfl (List.mem_of_getElem? (i := 3) rfl) hce hcv hcl ?_
      refine lv_astore_n (lv' := [(3, .ref q9), (0, .ref (ad 0)), (1, .int a1), (2, .ref (ad 453))]) hx hb dL_charAt_12 rfl hl (by decide) rfl (fun ls hl => ?_)
      refine lv_iconst (v := 1) hx hb dL_charAt_13 (by decide) ?_
      exact q_iretW C0 hw h ⟨(Nat.le_of_ble_eq_true rfl), (Nat.le_of_ble_eq_true rfl)⟩ dL_charAt_14
    · skip
      exact q_no h
  · skip
    refine lv_i2l hx hb dL_charAt_7 rfl ?_
    refine q_last C0 hw h dL_charAt_8 (fun x4 H locs hw h => ?_)
    refine lv_goto (tgt := 15) hx hb dL_charAt_9 (by decide) ?_
    refine lv_iconst (v := 0) hx hb dL_charAt_15 (by decide) ?_
    exact q_iretW C0 hw h ⟨(Nat.le_of_ble_eq_true rfl), (Nat.le_of_ble_eq_true rfl)⟩ dL_charAt_16
/-! HomewatcherLaw.save(LHomewatcher;IIII[J)I -/
abbrev rmL_save : Room := { frames := 8, cells := 5, slots := 30, locals := 172 }
def fL_save (F : Nat) (M : Mem) (x : XX) (a1 : Int32) (a2 : Int32) (a3 : Int32) (a4 : Int32) : Option (Mem × (XX × Int32)) :=
    q_bh (fX5_save F M a1 a2 a3 a4) (fun M1 z2 =>
    (q_lt (z2.toInt64, x.2) fun x4 =>
    some (M1, (x4, (0 : Int32))))) (fun M3 n =>
    if n = 3 then
    (some (M3, (x, (1 : Int32))))
    else
    if n = 1 then
    (some (M3, (x, (2 : Int32))))
    else
    if n = 5 then
    (some (M3, (x, (3 : Int32))))
    else
    if n = 2 then
    (some (M3, (x, (4 : Int32))))
    else
    none)
set_option maxHeartbeats 4000000 in
set_option maxRecDepth 100000 in
theorem ctL_save {l : Launch} (hst : l.stackTraces = false) {D : va_G} {cy : Nat → ClassId} {ad : Nat → Nat} {x : XX} {F : Nat} {M : Mem} {a1 : Int32} {a2 : Int32} {a3 : Int32} {a4 : Int32} {r : Mem × (XX × Int32)} (h : fL_save F M x a1 a2 a3 a4 = some r) : CN l yL_save wsL_save rmL_save D cy ad [.ref (ad 0), .int a1, .int a2, .int a3, .int a4, .ref (ad 453)] x M r.2.1 r.1 (q_vi r.2.2) 5 30 := by
  refine q_startW (cc := cL_save) (maxL := 7) (ret := (some .int)) (by decide) rfl (Nat.le_of_ble_eq_true rfl) ?_
  intro p e s m args below meth c ls C0 hw hl htab
  obtain ⟨hx, hb, hml, hown, hts, -⟩ := id C0
  have C0 : MX p l s m args meth c D cy ad cL_save RL 7 wsL_save ((some .int)) := C0
  have hown : s.vm.findClass RL = some m.cls := hown
  have hl : lv_has ls 7 [(0, .ref (ad 0)), (1, .int a1), (2, .int a2), (3, .int a3), (4, .int a4), (5, .ref (ad 453))] := hl
  show W p l e rmL_save s m args below meth c s.heap [] 0 0 (QW D cy ad below args s r 5 30) (F0 m 0 ls [])
  unfold fL_save at h
  refine lv_aload hx hb dL_save_0 (lv_at hl 5 rfl) ?_
  refine lv_iconst (v := 0) hx hb dL_save_2 (by decide) ?_
  refine lv_aload_n hx hb dL_save_3 rfl (lv_at hl 0 rfl) ?_
  refine lv_iload_n hx hb dL_save_4 rfl (lv_at hl 1 rfl) ?_
  refine lv_iload_n hx hb dL_save_5 rfl (lv_at hl 2 rfl) ?_
  refine lv_iload_n hx hb dL_save_6 rfl (lv_at hl 3 rfl) ?_
  refine lv_iload hx hb dL_save_7 (lv_at hl 4 rfl) ?_
  refine q_callVXi (As := [.int a1, .int a2, .int a3, .int a4]) (nA := 4) C0 hw at_HW rfl (fun r1 h1 => ctX5_save hst h1) gL_save_X5_save rfl ⟨rfl, rfl⟩ (by decide +kernel) rfl ⟨(Nat.le_of_ble_eq_true rfl), (Nat.le_of_ble_eq_true rfl)⟩ hl.1 (Nat.le_of_ble_eq_true rfl) ⟨(Nat.le_of_ble_eq_true rfl), (Nat.le_of_ble_eq_true rfl)⟩ rfl h dL_save_9 (fun M3 n H locs q9 ce hw h hce hcv hcl => ?_) (fun M1 z2 H locs hw h => ?_)
  · skip
    refine q_if (P := n = 3) h (fun e0 h => ?_) (fun n0 h => ?_)
    · subst e0
      refine q_catch (n := 3) (name := "java/lang/IndexOutOfBoundsException") C0 htab [] ⟨0, 14, 17, 20⟩ [⟨0, 14, 21, 13⟩, ⟨0, 14, 25, 49⟩, ⟨0, 14, 29, 15⟩] rfl (fun _ h9 => absurd h9 List.not_mem_nil) rfl (by decide) (List.mem_of_getElem? (i := 1) rfl) rfl (List.mem_of_getElem? (i := 2) rfl) hce hcv hcl ?_
      refine lv_astore (lv' := [(6, .ref q9), (0, .ref (ad 0)), (1, .int a1), (2, .int a2), (3, .int a3), (4, .int a4), (5, .ref (ad 453))]) hx hb dL_save_17 hl (by decide) rfl (fun ls hl => ?_)
      refine lv_iconst (v := 1) hx hb dL_save_19 (by decide) ?_
      exact q_iretW C0 hw h ⟨(Nat.le_of_ble_eq_true rfl), (Nat.le_of_ble_eq_true rfl)⟩ dL_save_20
    · skip
      refine q_if (P := n = 1) h (fun e1 h => ?_) (fun n1 h => ?_)
      · subst e1
        refine q_catch (n := 1) (name := "java/lang/IllegalArgumentException") C0 htab [⟨0, 14, 17, 20⟩] ⟨0, 14, 21, 13⟩ [⟨0, 14, 25, 49⟩, ⟨0, 14, 29, 15⟩] rfl (List.forall_mem_cons.mpr ⟨Or.inr ⟨by decide, "java/lang/IndexOutOfBoundsException", (List.mem_of_getElem? (i := 1) rfl), (List.mem_of_getElem? (i := 1) rfl)⟩, (fun _ h9 => absurd h9 List.not_mem_nil)⟩) rfl (by decide) (List.mem_of_getElem? (i := 2) rfl) rfl (List.mem_of_getElem? (i := 0) rfl) hce hcv hcl ?_
        refine lv_astore (lv' := [(6, .ref q9), (0, .ref (ad 0)), (1, .int a1), (2, .int a2), (3, .int a3), (4, .int a4), (5, .ref (ad 453))]) hx hb dL_save_21 hl (by decide) rfl (fun ls hl => ?_)
        refine lv_iconst (v := 2) hx hb dL_save_23 (by decide) ?_
        exact q_iretW C0 hw h ⟨(Nat.le_of_ble_eq_true rfl), (Nat.le_of_ble_eq_true rfl)⟩ dL_save_24
      · skip
        refine q_if (P := n = 5) h (fun e2 h => ?_) (fun n2 h => ?_)
        · subst e2
          refine q_catch (n := 5) (name := "java/lang/UnsupportedOperationException") C0 htab [⟨0, 14, 17, 20⟩, ⟨0, 14, 21, 13⟩] ⟨0, 14, 25, 49⟩ [⟨0, 14, 29, 15⟩] rfl (List.forall_mem_cons.mpr ⟨Or.inr ⟨by decide, "java/lang/IndexOutOfBoundsException", (List.mem_of_getElem? (i := 1) rfl), (List.mem_of_getElem? (i := 22) rfl)⟩, (List.forall_mem_cons.mpr ⟨Or.inr ⟨by decide, "java/lang/IllegalArgumentException", (List.mem_of_getElem? (i := 2) rfl), (List.mem_of_getElem? (i := 20) rfl)⟩, (fun _ h9 => absurd h9 List.not_mem_nil)⟩)⟩) rfl (by decide) (List.mem_of_getElem? (i := 3) rfl) rfl (List.mem_of_getElem? (i := 4) rfl) hce hcv hcl ?_
          refine lv_astore (lv' := [(6, .ref q9), (0, .ref (ad 0)), (1, .int a1), (2, .int a2), (3, .int a3), (4, .int a4), (5, .ref (ad 453))]) hx hb dL_save_25 hl (by decide) rfl (fun ls hl => ?_)
          refine lv_iconst (v := 3) hx hb dL_save_27 (by decide) ?_
          exact q_iretW C0 hw h ⟨(Nat.le_of_ble_eq_true rfl), (Nat.le_of_ble_eq_true rfl)⟩ dL_save_28
        · skip
          refine q_if (P := n = 2) h (fun e3 h => ?_) (fun n3 h => ?_)
          · subst e3
            refine q_catch (n := 2) (name := "java/lang/IllegalStateException") C0 htab [⟨0, 14, 17, 20⟩, ⟨0, 14, 21, 13⟩, ⟨0, 14, 25, 49⟩] ⟨0, 14, 29, 15⟩ [] rfl (List.forall_mem_cons.mpr ⟨Or.inr ⟨by decide, "java/lang/IndexOutOfBoundsException", (List.mem_of_getElem? (i := 1) rfl), (List.mem_of_getElem? (i := 6) rfl)⟩, (List.forall_mem_cons.mpr ⟨Or.inr ⟨by decide, "java/lang/IllegalArgumentException", (List.mem_of_getElem? (i := 2) rfl), (List.mem_of_getElem? (i := 5) rfl)⟩, (List.forall_mem_cons.mpr ⟨Or.inr ⟨by decide, "java/lang/UnsupportedOperationException", (List.mem_of_getElem? (i := 3) rfl), (List.mem_of_getElem? (i := 8) rfl)⟩, (fun _ h9 => absurd h9 List.not_mem_nil)⟩)⟩)⟩) rfl (by decide) (List.mem_of_getElem? (i := 4) rfl) rfl (List.mem_of_getElem? (i := 1) rfl) hce hcv hcl ?_
            refine lv_astore (lv' := [(6, .ref q9), (0, .ref (ad 0)), (1, .int a1), (2, .int a2), (3, .int a3), (4, .int a4), (5, .ref (ad 453))]) hx hb dL_save_29 hl (by decide) rfl (fun ls hl => ?_)
            refine lv_iconst (v := 4) hx hb dL_save_31 (by decide) ?_
            exact q_iretW C0 hw h ⟨(Nat.le_of_ble_eq_true rfl), (Nat.le_of_ble_eq_true rfl)⟩ dL_save_32
          · skip
            exact q_no h
  · skip
    refine lv_i2l hx hb dL_save_12 rfl ?_
    refine q_last C0 hw h dL_save_13 (fun x4 H locs hw h => ?_)
    refine lv_goto (tgt := 33) hx hb dL_save_14 (by decide) ?_
    refine lv_iconst (v := 0) hx hb dL_save_33 (by decide) ?_
    exact q_iretW C0 hw h ⟨(Nat.le_of_ble_eq_true rfl), (Nat.le_of_ble_eq_true rfl)⟩ dL_save_34
/-! HomewatcherLaw.of(LHomewatcher;IC[J)I -/
abbrev rmL_of : Room := { frames := 8, cells := 2, slots := 12, locals := 134 }
def fL_of (F : Nat) (M : Mem) (x : XX) (a1 : Int32) (a2 : Int32) : Option (Mem × (XX × Int32)) :=
    q_bh (fX5_of F M a1 a2) (fun M1 z2 =>
    (q_lt (z2.toInt64, x.2) fun x4 =>
    some (M1, (x4, (0 : Int32))))) (fun M3 n =>
    if n = 3 then
    (some (M3, (x, (1 : Int32))))
    else
    if n = 1 then
    (some (M3, (x, (2 : Int32))))
    else
    none)
set_option maxHeartbeats 4000000 in
set_option maxRecDepth 100000 in
theorem ctL_of {l : Launch} (hst : l.stackTraces = false) {D : va_G} {cy : Nat → ClassId} {ad : Nat → Nat} {x : XX} {F : Nat} {M : Mem} {a1 : Int32} {a2 : Int32} {r : Mem × (XX × Int32)} (h : fL_of F M x a1 a2 = some r) : CN l yL_of wsL_of rmL_of D cy ad [.ref (ad 0), .int a1, .int a2, .ref (ad 453)] x M r.2.1 r.1 (q_vi r.2.2) 2 12 := by
  refine q_startW (cc := cL_of) (maxL := 5) (ret := (some .int)) (by decide) rfl (Nat.le_of_ble_eq_true rfl) ?_
  intro p e s m args below meth c ls C0 hw hl htab
  obtain ⟨hx, hb, hml, hown, hts, -⟩ := id C0
  have C0 : MX p l s m args meth c D cy ad cL_of RL 5 wsL_of ((some .int)) := C0
  have hown : s.vm.findClass RL = some m.cls := hown
  have hl : lv_has ls 5 [(0, .ref (ad 0)), (1, .int a1), (2, .int a2), (3, .ref (ad 453))] := hl
  show W p l e rmL_of s m args below meth c s.heap [] 0 0 (QW D cy ad below args s r 2 12) (F0 m 0 ls [])
  unfold fL_of at h
  refine lv_aload_n hx hb dL_of_0 rfl (lv_at hl 3 rfl) ?_
  refine lv_iconst (v := 0) hx hb dL_of_1 (by decide) ?_
  refine lv_aload_n hx hb dL_of_2 rfl (lv_at hl 0 rfl) ?_
  refine lv_iload_n hx hb dL_of_3 rfl (lv_at hl 1 rfl) ?_
  refine lv_iload_n hx hb dL_of_4 rfl (lv_at hl 2 rfl) ?_
  refine q_callVXi (As := [.int a1, .int a2]) (nA := 2) C0 hw at_HW rfl (fun r1 h1 => ctX5_of hst h1) gL_of_X5_of rfl ⟨rfl, rfl⟩ (by decide +kernel) rfl ⟨(Nat.le_of_ble_eq_true rfl), (Nat.le_of_ble_eq_true rfl)⟩ hl.1 (Nat.le_of_ble_eq_true rfl) ⟨(Nat.le_of_ble_eq_true rfl), (Nat.le_of_ble_eq_true rfl)⟩ rfl h dL_of_5 (fun M3 n H locs q9 ce hw h hce hcv hcl => ?_) (fun M1 z2 H locs hw h => ?_)
  · skip
    refine q_if (P := n = 3) h (fun e0 h => ?_) (fun n0 h => ?_)
    · subst e0
      refine q_catch (n := 3) (name := "java/lang/IndexOutOfBoundsException") C0 htab [] ⟨0, 10, 13, 20⟩ [⟨0, 10, 17, 13⟩] rfl (fun _ h9 => absurd h9 List.not_mem_nil) rfl (by decide) (List.mem_of_getElem? (i := 1) rfl) rfl (List.mem_of_getElem? (i := 2) rfl) hce hcv hcl ?_
      refine lv_astore (lv' := [(4, .ref q9), (0, .ref (ad 0)), (1, .int a1), (2, .int a2), (3, .ref (ad 453))]) hx hb dL_of_13 hl (by decide) rfl (fun ls hl => ?_)
      refine lv_iconst (v := 1) hx hb dL_of_15 (by decide) ?_
      exact q_iretW C0 hw h ⟨(Nat.le_of_ble_eq_true rfl), (Nat.le_of_ble_eq_true rfl)⟩ dL_of_16
    · skip
      refine q_if (P := n = 1) h (fun e1 h => ?_) (fun n1 h => ?_)
      · subst e1
        refine q_catch (n := 1) (name := "java/lang/IllegalArgumentException") C0 htab [⟨0, 10, 13, 20⟩] ⟨0, 10, 17, 13⟩ [] rfl (List.forall_mem_cons.mpr ⟨Or.inr ⟨by decide, "java/lang/IndexOutOfBoundsException", (List.mem_of_getElem? (i := 1) rfl), (List.mem_of_getElem? (i := 1) rfl)⟩, (fun _ h9 => absurd h9 List.not_mem_nil)⟩) rfl (by decide) (List.mem_of_getElem? (i := 2) rfl) rfl (List.mem_of_getElem? (i := 0) rfl) hce hcv hcl ?_
        refine lv_astore (lv' := [(4, .ref q9), (0, .ref (ad 0)), (1, .int a1), (2, .int a2), (3, .ref (ad 453))]) hx hb dL_of_17 hl (by decide) rfl (fun ls hl => ?_)
        refine lv_iconst (v := 2) hx hb dL_of_19 (by decide) ?_
        exact q_iretW C0 hw h ⟨(Nat.le_of_ble_eq_true rfl), (Nat.le_of_ble_eq_true rfl)⟩ dL_of_20
      · skip
        exact q_no h
  · skip
    refine lv_i2l hx hb dL_of_8 rfl ?_
    refine q_last C0 hw h dL_of_9 (fun x4 H locs hw h => ?_)
    refine lv_goto (tgt := 21) hx hb dL_of_10 (by decide) ?_
    refine lv_iconst (v := 0) hx hb dL_of_21 (by decide) ?_
    exact q_iretW C0 hw h ⟨(Nat.le_of_ble_eq_true rfl), (Nat.le_of_ble_eq_true rfl)⟩ dL_of_22
/-! HomewatcherLaw.forks(LHomewatcher;I[J)I -/
abbrev rmL_forks : Room := { frames := 8, cells := 1, slots := 6, locals := 136 }
def fL_forks (F : Nat) (M : Mem) (x : XX) (a1 : Int32) : Option (Mem × (XX × Int32)) :=
    q_bh (fX5_forks F M a1) (fun M1 z2 =>
    (q_lt (z2.toInt64, x.2) fun x4 =>
    some (M1, (x4, (0 : Int32))))) (fun M3 n =>
    if n = 3 then
    (some (M3, (x, (1 : Int32))))
    else
    none)
set_option maxHeartbeats 4000000 in
set_option maxRecDepth 100000 in
theorem ctL_forks {l : Launch} (hst : l.stackTraces = false) {D : va_G} {cy : Nat → ClassId} {ad : Nat → Nat} {x : XX} {F : Nat} {M : Mem} {a1 : Int32} {r : Mem × (XX × Int32)} (h : fL_forks F M x a1 = some r) : CN l yL_forks wsL_forks rmL_forks D cy ad [.ref (ad 0), .int a1, .ref (ad 453)] x M r.2.1 r.1 (q_vi r.2.2) 1 6 := by
  refine q_startW (cc := cL_forks) (maxL := 4) (ret := (some .int)) (by decide) rfl (Nat.le_of_ble_eq_true rfl) ?_
  intro p e s m args below meth c ls C0 hw hl htab
  obtain ⟨hx, hb, hml, hown, hts, -⟩ := id C0
  have C0 : MX p l s m args meth c D cy ad cL_forks RL 4 wsL_forks ((some .int)) := C0
  have hown : s.vm.findClass RL = some m.cls := hown
  have hl : lv_has ls 4 [(0, .ref (ad 0)), (1, .int a1), (2, .ref (ad 453))] := hl
  show W p l e rmL_forks s m args below meth c s.heap [] 0 0 (QW D cy ad below args s r 1 6) (F0 m 0 ls [])
  unfold fL_forks at h
  refine lv_aload_n hx hb dL_forks_0 rfl (lv_at hl 2 rfl) ?_
  refine lv_iconst (v := 0) hx hb dL_forks_1 (by decide) ?_
  refine lv_aload_n hx hb dL_forks_2 rfl (lv_at hl 0 rfl) ?_
  refine lv_iload_n hx hb dL_forks_3 rfl (lv_at hl 1 rfl) ?_
  refine q_callVXi (As := [.int a1]) (nA := 1) C0 hw at_HW rfl (fun r1 h1 => ctX5_forks hst h1) gL_forks_X5_forks rfl ⟨rfl, rfl⟩ (by decide +kernel) rfl ⟨(Nat.le_of_ble_eq_true rfl), (Nat.le_of_ble_eq_true rfl)⟩ hl.1 (Nat.le_of_ble_eq_true rfl) ⟨(Nat.le_of_ble_eq_true rfl), (Nat.le_of_ble_eq_true rfl)⟩ rfl h dL_forks_4 (fun M3 n H locs q9 ce hw h hce hcv hcl => ?_) (fun M1 z2 H locs hw h => ?_)
  · skip
    refine q_if (P := n = 3) h (fun e0 h => ?_) (fun n0 h => ?_)
    · subst e0
      refine q_catch (n := 3) (name := "java/lang/IndexOutOfBoundsException") C0 htab [] ⟨0, 9, 12, 20⟩ [] rfl (fun _ h9 => absurd h9 List.not_mem_nil) rfl (by decide) (List.mem_of_getElem? (i := 1) rfl) rfl (List.mem_of_getElem? (i := 2) rfl) hce hcv hcl ?_
      refine lv_astore_n (lv' := [(3, .ref q9), (0, .ref (ad 0)), (1, .int a1), (2, .ref (ad 453))]) hx hb dL_forks_12 rfl hl (by decide) rfl (fun ls hl => ?_)
      refine lv_iconst (v := 1) hx hb dL_forks_13 (by decide) ?_
      exact q_iretW C0 hw h ⟨(Nat.le_of_ble_eq_true rfl), (Nat.le_of_ble_eq_true rfl)⟩ dL_forks_14
    · skip
      exact q_no h
  · skip
    refine lv_i2l hx hb dL_forks_7 rfl ?_
    refine q_last C0 hw h dL_forks_8 (fun x4 H locs hw h => ?_)
    refine lv_goto (tgt := 15) hx hb dL_forks_9 (by decide) ?_
    refine lv_iconst (v := 0) hx hb dL_forks_15 (by decide) ?_
    exact q_iretW C0 hw h ⟨(Nat.le_of_ble_eq_true rfl), (Nat.le_of_ble_eq_true rfl)⟩ dL_forks_16
/-! HomewatcherLaw.heads(LHomewatcher;II[J)I -/
abbrev rmL_heads : Room := { frames := 8, cells := 2, slots := 12, locals := 135 }
def fL_heads (F : Nat) (M : Mem) (x : XX) (a1 : Int32) (a2 : Int32) : Option (Mem × (XX × Int32)) :=
    q_bh (fX5_heads F M a1 a2) (fun M1 z2 =>
    (q_lt (z2.toInt64, x.2) fun x4 =>
    some (M1, (x4, (0 : Int32))))) (fun M3 n =>
    if n = 3 then
    (some (M3, (x, (1 : Int32))))
    else
    none)
set_option maxHeartbeats 4000000 in
set_option maxRecDepth 100000 in
theorem ctL_heads {l : Launch} (hst : l.stackTraces = false) {D : va_G} {cy : Nat → ClassId} {ad : Nat → Nat} {x : XX} {F : Nat} {M : Mem} {a1 : Int32} {a2 : Int32} {r : Mem × (XX × Int32)} (h : fL_heads F M x a1 a2 = some r) : CN l yL_heads wsL_heads rmL_heads D cy ad [.ref (ad 0), .int a1, .int a2, .ref (ad 453)] x M r.2.1 r.1 (q_vi r.2.2) 2 12 := by
  refine q_startW (cc := cL_heads) (maxL := 5) (ret := (some .int)) (by decide) rfl (Nat.le_of_ble_eq_true rfl) ?_
  intro p e s m args below meth c ls C0 hw hl htab
  obtain ⟨hx, hb, hml, hown, hts, -⟩ := id C0
  have C0 : MX p l s m args meth c D cy ad cL_heads RL 5 wsL_heads ((some .int)) := C0
  have hown : s.vm.findClass RL = some m.cls := hown
  have hl : lv_has ls 5 [(0, .ref (ad 0)), (1, .int a1), (2, .int a2), (3, .ref (ad 453))] := hl
  show W p l e rmL_heads s m args below meth c s.heap [] 0 0 (QW D cy ad below args s r 2 12) (F0 m 0 ls [])
  unfold fL_heads at h
  refine lv_aload_n hx hb dL_heads_0 rfl (lv_at hl 3 rfl) ?_
  refine lv_iconst (v := 0) hx hb dL_heads_1 (by decide) ?_
  refine lv_aload_n hx hb dL_heads_2 rfl (lv_at hl 0 rfl) ?_
  refine lv_iload_n hx hb dL_heads_3 rfl (lv_at hl 1 rfl) ?_
  refine lv_iload_n hx hb dL_heads_4 rfl (lv_at hl 2 rfl) ?_
  refine q_callVXi (As := [.int a1, .int a2]) (nA := 2) C0 hw at_HW rfl (fun r1 h1 => ctX5_heads hst h1) gL_heads_X5_heads rfl ⟨rfl, rfl⟩ (by decide +kernel) rfl ⟨(Nat.le_of_ble_eq_true rfl), (Nat.le_of_ble_eq_true rfl)⟩ hl.1 (Nat.le_of_ble_eq_true rfl) ⟨(Nat.le_of_ble_eq_true rfl), (Nat.le_of_ble_eq_true rfl)⟩ rfl h dL_heads_5 (fun M3 n H locs q9 ce hw h hce hcv hcl => ?_) (fun M1 z2 H locs hw h => ?_)
  · skip
    refine q_if (P := n = 3) h (fun e0 h => ?_) (fun n0 h => ?_)
    · subst e0
      refine q_catch (n := 3) (name := "java/lang/IndexOutOfBoundsException") C0 htab [] ⟨0, 10, 13, 20⟩ [] rfl (fun _ h9 => absurd h9 List.not_mem_nil) rfl (by decide) (List.mem_of_getElem? (i := 1) rfl) rfl (List.mem_of_getElem? (i := 2) rfl) hce hcv hcl ?_
      refine lv_astore (lv' := [(4, .ref q9), (0, .ref (ad 0)), (1, .int a1), (2, .int a2), (3, .ref (ad 453))]) hx hb dL_heads_13 hl (by decide) rfl (fun ls hl => ?_)
      refine lv_iconst (v := 1) hx hb dL_heads_15 (by decide) ?_
      exact q_iretW C0 hw h ⟨(Nat.le_of_ble_eq_true rfl), (Nat.le_of_ble_eq_true rfl)⟩ dL_heads_16
    · skip
      exact q_no h
  · skip
    refine lv_i2l hx hb dL_heads_8 rfl ?_
    refine q_last C0 hw h dL_heads_9 (fun x4 H locs hw h => ?_)
    refine lv_goto (tgt := 17) hx hb dL_heads_10 (by decide) ?_
    refine lv_iconst (v := 0) hx hb dL_heads_17 (by decide) ?_
    exact q_iretW C0 hw h ⟨(Nat.le_of_ble_eq_true rfl), (Nat.le_of_ble_eq_true rfl)⟩ dL_heads_18
/-! HomewatcherLaw.hand(LHomewatcher;I[J)I -/
abbrev rmL_hand : Room := { frames := 8, cells := 2, slots := 12, locals := 147 }
def fL_hand (F : Nat) (M : Mem) (x : XX) (a1 : Int32) : Option (Mem × (XX × Int32)) :=
    q_bh (fX5_hand F M a1) (fun M1 z2 =>
    (q_lt (z2.toInt64, x.2) fun x4 =>
    some (M1, (x4, (0 : Int32))))) (fun M3 n =>
    if n = 3 then
    (some (M3, (x, (1 : Int32))))
    else
    if n = 5 then
    (some (M3, (x, (2 : Int32))))
    else
    if n = 2 then
    (some (M3, (x, (3 : Int32))))
    else
    none)
set_option maxHeartbeats 4000000 in
set_option maxRecDepth 100000 in
theorem ctL_hand {l : Launch} (hst : l.stackTraces = false) {D : va_G} {cy : Nat → ClassId} {ad : Nat → Nat} {x : XX} {F : Nat} {M : Mem} {a1 : Int32} {r : Mem × (XX × Int32)} (h : fL_hand F M x a1 = some r) : CN l yL_hand wsL_hand rmL_hand D cy ad [.ref (ad 0), .int a1, .ref (ad 453)] x M r.2.1 r.1 (q_vi r.2.2) 2 12 := by
  refine q_startW (cc := cL_hand) (maxL := 4) (ret := (some .int)) (by decide) rfl (Nat.le_of_ble_eq_true rfl) ?_
  intro p e s m args below meth c ls C0 hw hl htab
  obtain ⟨hx, hb, hml, hown, hts, -⟩ := id C0
  have C0 : MX p l s m args meth c D cy ad cL_hand RL 4 wsL_hand ((some .int)) := C0
  have hown : s.vm.findClass RL = some m.cls := hown
  have hl : lv_has ls 4 [(0, .ref (ad 0)), (1, .int a1), (2, .ref (ad 453))] := hl
  show W p l e rmL_hand s m args below meth c s.heap [] 0 0 (QW D cy ad below args s r 2 12) (F0 m 0 ls [])
  unfold fL_hand at h
  refine lv_aload_n hx hb dL_hand_0 rfl (lv_at hl 2 rfl) ?_
  refine lv_iconst (v := 0) hx hb dL_hand_1 (by decide) ?_
  refine lv_aload_n hx hb dL_hand_2 rfl (lv_at hl 0 rfl) ?_
  refine lv_iload_n hx hb dL_hand_3 rfl (lv_at hl 1 rfl) ?_
  refine q_callVXi (As := [.int a1]) (nA := 1) C0 hw at_HW rfl (fun r1 h1 => ctX5_hand hst h1) gL_hand_X5_hand rfl ⟨rfl, rfl⟩ (by decide +kernel) rfl ⟨(Nat.le_of_ble_eq_true rfl), (Nat.le_of_ble_eq_true rfl)⟩ hl.1 (Nat.le_of_ble_eq_true rfl) ⟨(Nat.le_of_ble_eq_true rfl), (Nat.le_of_ble_eq_true rfl)⟩ rfl h dL_hand_4 (fun M3 n H locs q9 ce hw h hce hcv hcl => ?_) (fun M1 z2 H locs hw h => ?_)
  · skip
    refine q_if (P := n = 3) h (fun e0 h => ?_) (fun n0 h => ?_)
    · subst e0
      refine q_catch (n := 3) (name := "java/lang/IndexOutOfBoundsException") C0 htab [] ⟨0, 9, 12, 20⟩ [⟨0, 9, 15, 49⟩, ⟨0, 9, 18, 15⟩] rfl (fun _ h9 => absurd h9 List.not_mem_nil) rfl (by decide) (List.mem_of_getElem? (i := 1) rfl) rfl (List.mem_of_getElem? (i := 2) rfl) hce hcv hcl ?_
      refine lv_astore_n (lv' := [(3, .ref q9), (0, .ref (ad 0)), (1, .int a1), (2, .ref (ad 453))]) hx hb dL_hand_12 rfl hl (by decide) rfl (fun ls hl => ?_)
      refine lv_iconst (v := 1) hx hb dL_hand_13 (by decide) ?_
      exact q_iretW C0 hw h ⟨(Nat.le_of_ble_eq_true rfl), (Nat.le_of_ble_eq_true rfl)⟩ dL_hand_14
    · skip
      refine q_if (P := n = 5) h (fun e1 h => ?_) (fun n1 h => ?_)
      · subst e1
        refine q_catch (n := 5) (name := "java/lang/UnsupportedOperationException") C0 htab [⟨0, 9, 12, 20⟩] ⟨0, 9, 15, 49⟩ [⟨0, 9, 18, 15⟩] rfl (List.forall_mem_cons.mpr ⟨Or.inr ⟨by decide, "java/lang/IndexOutOfBoundsException", (List.mem_of_getElem? (i := 1) rfl), (List.mem_of_getElem? (i := 22) rfl)⟩, (fun _ h9 => absurd h9 List.not_mem_nil)⟩) rfl (by decide) (List.mem_of_getElem? (i := 2) rfl) rfl (List.mem_of_getElem? (i := 4) rfl) hce hcv hcl ?_
        refine lv_astore_n (lv' := [(3, .ref q9), (0, .ref (ad 0)), (1, .int a1), (2, .ref (ad 453))]) hx hb dL_hand_15 rfl hl (by decide) rfl (fun ls hl => ?_)
        refine lv_iconst (v := 2) hx hb dL_hand_16 (by decide) ?_
        exact q_iretW C0 hw h ⟨(Nat.le_of_ble_eq_true rfl), (Nat.le_of_ble_eq_true rfl)⟩ dL_hand_17
      · skip
        refine q_if (P := n = 2) h (fun e2 h => ?_) (fun n2 h => ?_)
        · subst e2
          refine q_catch (n := 2) (name := "java/lang/IllegalStateException") C0 htab [⟨0, 9, 12, 20⟩, ⟨0, 9, 15, 49⟩] ⟨0, 9, 18, 15⟩ [] rfl (List.forall_mem_cons.mpr ⟨Or.inr ⟨by decide, "java/lang/IndexOutOfBoundsException", (List.mem_of_getElem? (i := 1) rfl), (List.mem_of_getElem? (i := 6) rfl)⟩, (List.forall_mem_cons.mpr ⟨Or.inr ⟨by decide, "java/lang/UnsupportedOperationException", (List.mem_of_getElem? (i := 2) rfl), (List.mem_of_getElem? (i := 8) rfl)⟩, (fun _ h9 => absurd h9 List.not_mem_nil)⟩)⟩) rfl (by decide) (List.mem_of_getElem? (i := 3) rfl) rfl (List.mem_of_getElem? (i := 1) rfl) hce hcv hcl ?_
          refine lv_astore_n (lv' := [(3, .ref q9), (0, .ref (ad 0)), (1, .int a1), (2, .ref (ad 453))]) hx hb dL_hand_18 rfl hl (by decide) rfl (fun ls hl => ?_)
          refine lv_iconst (v := 3) hx hb dL_hand_19 (by decide) ?_
          exact q_iretW C0 hw h ⟨(Nat.le_of_ble_eq_true rfl), (Nat.le_of_ble_eq_true rfl)⟩ dL_hand_20
        · skip
          exact q_no h
  · skip
    refine lv_i2l hx hb dL_hand_7 rfl ?_
    refine q_last C0 hw h dL_hand_8 (fun x4 H locs hw h => ?_)
    refine lv_goto (tgt := 21) hx hb dL_hand_9 (by decide) ?_
    refine lv_iconst (v := 0) hx hb dL_hand_21 (by decide) ?_
    exact q_iretW C0 hw h ⟨(Nat.le_of_ble_eq_true rfl), (Nat.le_of_ble_eq_true rfl)⟩ dL_hand_22
/-! HomewatcherLaw.withdraw(LHomewatcher;I[J)I -/
abbrev rmL_withdraw : Room := { frames := 8, cells := 2, slots := 12, locals := 146 }
def fL_withdraw_15 (F : Nat) (M : Mem) (x : XX) (s0 : Int64) : Option (Mem × (XX × Int32)) :=
    q_lt (s0, x.2) fun x1 =>
    some (M, (x1, (0 : Int32)))
set_option maxHeartbeats 4000000 in
set_option maxRecDepth 100000 in
theorem wL_withdraw_15 {p : Program} {l : Launch} {e : Env} {s : State} {m : MethodId} {args : Array Value} {below : List Frame} {meth : Method} {c : Code} {D : va_G} {cy : Nat → ClassId} {ad : Nat → Nat} {x : XX} {F : Nat} {r : Mem × (XX × Int32)} (hst : l.stackTraces = false) (C0 : MX p l s m args meth c D cy ad cL_withdraw RL 4 wsL_withdraw (some .int)) (htab : c.exceptionTable.toList = tableOf [(0, 16, 19, 20), (0, 16, 22, 49)]) : ∀ (M : Mem) (s0 : Int64) (H : Heap) (locs : List Loc) (ls : Array Slot), Wd D cy ad x s M H locs → lv_has ls 4 [] → fL_withdraw_15 F M x s0 = some r → W p l e rmL_withdraw s m args below meth c H locs 2 12 (QW D cy ad below args s r 2 12) (F0 m 15 ls [.long (s0), .int ((0 : Int32)), .ref (ad 453)]) := by
  obtain ⟨hx, hb, hml, hown, hts, -⟩ := id C0
  intro M s0 H locs ls hw hl h
  unfold fL_withdraw_15 at h
  refine q_last C0 hw h dL_withdraw_15 (fun x1 H locs hw h => ?_)
  refine lv_goto (tgt := 25) hx hb dL_withdraw_16 (by decide) ?_
  refine lv_iconst (v := 0) hx hb dL_withdraw_25 (by decide) ?_
  exact q_iretW C0 hw h ⟨(Nat.le_of_ble_eq_true rfl), (Nat.le_of_ble_eq_true rfl)⟩ dL_withdraw_26
def fL_withdraw (F : Nat) (M : Mem) (x : XX) (a1 : Int32) : Option (Mem × (XX × Int32)) :=
    q_bh (fX5_withdraw F M a1) (fun M1 z2 =>
    (if z2 = (0 : Int32) then
    (fL_withdraw_15 F M1 x (0 : Int64))
    else
    (fL_withdraw_15 F M1 x (1 : Int64)))) (fun M3 n =>
    if n = 3 then
    (some (M3, (x, (1 : Int32))))
    else
    if n = 5 then
    (some (M3, (x, (2 : Int32))))
    else
    none)
set_option maxHeartbeats 4000000 in
set_option maxRecDepth 100000 in
theorem ctL_withdraw {l : Launch} (hst : l.stackTraces = false) {D : va_G} {cy : Nat → ClassId} {ad : Nat → Nat} {x : XX} {F : Nat} {M : Mem} {a1 : Int32} {r : Mem × (XX × Int32)} (h : fL_withdraw F M x a1 = some r) : CN l yL_withdraw wsL_withdraw rmL_withdraw D cy ad [.ref (ad 0), .int a1, .ref (ad 453)] x M r.2.1 r.1 (q_vi r.2.2) 2 12 := by
  refine q_startW (cc := cL_withdraw) (maxL := 4) (ret := (some .int)) (by decide) rfl (Nat.le_of_ble_eq_true rfl) ?_
  intro p e s m args below meth c ls C0 hw hl htab
  obtain ⟨hx, hb, hml, hown, hts, -⟩ := id C0
  have C0 : MX p l s m args meth c D cy ad cL_withdraw RL 4 wsL_withdraw ((some .int)) := C0
  have hown : s.vm.findClass RL = some m.cls := hown
  have hl : lv_has ls 4 [(0, .ref (ad 0)), (1, .int a1), (2, .ref (ad 453))] := hl
  show W p l e rmL_withdraw s m args below meth c s.heap [] 0 0 (QW D cy ad below args s r 2 12) (F0 m 0 ls [])
  unfold fL_withdraw at h
  refine lv_aload_n hx hb dL_withdraw_0 rfl (lv_at hl 2 rfl) ?_
  refine lv_iconst (v := 0) hx hb dL_withdraw_1 (by decide) ?_
  refine lv_aload_n hx hb dL_withdraw_2 rfl (lv_at hl 0 rfl) ?_
  refine lv_iload_n hx hb dL_withdraw_3 rfl (lv_at hl 1 rfl) ?_
  refine q_callVXi (As := [.int a1]) (nA := 1) C0 hw at_HW rfl (fun r1 h1 => ctX5_withdraw hst h1) gL_withdraw_X5_withdraw rfl ⟨rfl, rfl⟩ (by decide +kernel) rfl ⟨(Nat.le_of_ble_eq_true rfl), (Nat.le_of_ble_eq_true rfl)⟩ hl.1 (Nat.le_of_ble_eq_true rfl) ⟨(Nat.le_of_ble_eq_true rfl), (Nat.le_of_ble_eq_true rfl)⟩ rfl h dL_withdraw_4 (fun M3 n H locs q9 ce hw h hce hcv hcl => ?_) (fun M1 z2 H locs hw h => ?_)
  · skip
    refine q_if (P := n = 3) h (fun e0 h => ?_) (fun n0 h => ?_)
    · subst e0
      refine q_catch (n := 3) (name := "java/lang/IndexOutOfBoundsException") C0 htab [] ⟨0, 16, 19, 20⟩ [⟨0, 16, 22, 49⟩] rfl (fun _ h9 => absurd h9 List.not_mem_nil) rfl (by decide) (List.mem_of_getElem? (i := 1) rfl) rfl (List.mem_of_getElem? (i := 2) rfl) hce hcv hcl ?_
      refine lv_astore_n (lv' := [(3, .ref q9), (0, .ref (ad 0)), (1, .int a1), (2, .ref (ad 453))]) hx hb dL_withdraw_19 rfl hl (by decide) rfl (fun ls hl => ?_)
      refine lv_iconst (v := 1) hx hb dL_withdraw_20 (by decide) ?_
      exact q_iretW C0 hw h ⟨(Nat.le_of_ble_eq_true rfl), (Nat.le_of_ble_eq_true rfl)⟩ dL_withdraw_21
    · skip
      refine q_if (P := n = 5) h (fun e1 h => ?_) (fun n1 h => ?_)
      · subst e1
        refine q_catch (n := 5) (name := "java/lang/UnsupportedOperationException") C0 htab [⟨0, 16, 19, 20⟩] ⟨0, 16, 22, 49⟩ [] rfl (List.forall_mem_cons.mpr ⟨Or.inr ⟨by decide, "java/lang/IndexOutOfBoundsException", (List.mem_of_getElem? (i := 1) rfl), (List.mem_of_getElem? (i := 22) rfl)⟩, (fun _ h9 => absurd h9 List.not_mem_nil)⟩) rfl (by decide) (List.mem_of_getElem? (i := 2) rfl) rfl (List.mem_of_getElem? (i := 4) rfl) hce hcv hcl ?_
        refine lv_astore_n (lv' := [(3, .ref q9), (0, .ref (ad 0)), (1, .int a1), (2, .ref (ad 453))]) hx hb dL_withdraw_22 rfl hl (by decide) rfl (fun ls hl => ?_)
        refine lv_iconst (v := 2) hx hb dL_withdraw_23 (by decide) ?_
        exact q_iretW C0 hw h ⟨(Nat.le_of_ble_eq_true rfl), (Nat.le_of_ble_eq_true rfl)⟩ dL_withdraw_24
      · skip
        exact q_no h
  · skip
    refine q_if_eq (tgt := 14) hx hb dL_withdraw_7 (by decide) h (fun h => ?_) (fun h => ?_)
    · refine lv_lconst (v := 0) hx hb dL_withdraw_14 rfl ?_
      exact wL_withdraw_15 hst C0 htab  M1 (0 : Int64) _ _ _ hw (lv_sub hl [] rfl) h
    · refine lv_lconst (v := 1) hx hb dL_withdraw_10 rfl ?_
      refine lv_goto (tgt := 15) hx hb dL_withdraw_11 (by decide) ?_
      exact wL_withdraw_15 hst C0 htab  M1 (1 : Int64) _ _ _ hw (lv_sub hl [] rfl) h
/-! HomewatcherLaw.isIn(LHomewatcher;I[J)I -/
abbrev rmL_isIn : Room := { frames := 8, cells := 1, slots := 6, locals := 132 }
def fL_isIn_15 (F : Nat) (M : Mem) (x : XX) (s0 : Int64) : Option (Mem × (XX × Int32)) :=
    q_lt (s0, x.2) fun x1 =>
    some (M, (x1, (0 : Int32)))
set_option maxHeartbeats 4000000 in
set_option maxRecDepth 100000 in
theorem wL_isIn_15 {p : Program} {l : Launch} {e : Env} {s : State} {m : MethodId} {args : Array Value} {below : List Frame} {meth : Method} {c : Code} {D : va_G} {cy : Nat → ClassId} {ad : Nat → Nat} {x : XX} {F : Nat} {r : Mem × (XX × Int32)} (hst : l.stackTraces = false) (C0 : MX p l s m args meth c D cy ad cL_isIn RL 4 wsL_isIn (some .int)) (htab : c.exceptionTable.toList = tableOf [(0, 16, 19, 20)]) : ∀ (M : Mem) (s0 : Int64) (H : Heap) (locs : List Loc) (ls : Array Slot), Wd D cy ad x s M H locs → lv_has ls 4 [] → fL_isIn_15 F M x s0 = some r → W p l e rmL_isIn s m args below meth c H locs 1 6 (QW D cy ad below args s r 1 6) (F0 m 15 ls [.long (s0), .int ((0 : Int32)), .ref (ad 453)]) := by
  obtain ⟨hx, hb, hml, hown, hts, -⟩ := id C0
  intro M s0 H locs ls hw hl h
  unfold fL_isIn_15 at h
  refine q_last C0 hw h dL_isIn_15 (fun x1 H locs hw h => ?_)
  refine lv_goto (tgt := 22) hx hb dL_isIn_16 (by decide) ?_
  refine lv_iconst (v := 0) hx hb dL_isIn_22 (by decide) ?_
  exact q_iretW C0 hw h ⟨(Nat.le_of_ble_eq_true rfl), (Nat.le_of_ble_eq_true rfl)⟩ dL_isIn_23
def fL_isIn (F : Nat) (M : Mem) (x : XX) (a1 : Int32) : Option (Mem × (XX × Int32)) :=
    q_bh (fX5_isIn F M a1) (fun M1 z2 =>
    (if z2 = (0 : Int32) then
    (fL_isIn_15 F M1 x (0 : Int64))
    else
    (fL_isIn_15 F M1 x (1 : Int64)))) (fun M3 n =>
    if n = 3 then
    (some (M3, (x, (1 : Int32))))
    else
    none)
set_option maxHeartbeats 4000000 in
set_option maxRecDepth 100000 in
theorem ctL_isIn {l : Launch} (hst : l.stackTraces = false) {D : va_G} {cy : Nat → ClassId} {ad : Nat → Nat} {x : XX} {F : Nat} {M : Mem} {a1 : Int32} {r : Mem × (XX × Int32)} (h : fL_isIn F M x a1 = some r) : CN l yL_isIn wsL_isIn rmL_isIn D cy ad [.ref (ad 0), .int a1, .ref (ad 453)] x M r.2.1 r.1 (q_vi r.2.2) 1 6 := by
  refine q_startW (cc := cL_isIn) (maxL := 4) (ret := (some .int)) (by decide) rfl (Nat.le_of_ble_eq_true rfl) ?_
  intro p e s m args below meth c ls C0 hw hl htab
  obtain ⟨hx, hb, hml, hown, hts, -⟩ := id C0
  have C0 : MX p l s m args meth c D cy ad cL_isIn RL 4 wsL_isIn ((some .int)) := C0
  have hown : s.vm.findClass RL = some m.cls := hown
  have hl : lv_has ls 4 [(0, .ref (ad 0)), (1, .int a1), (2, .ref (ad 453))] := hl
  show W p l e rmL_isIn s m args below meth c s.heap [] 0 0 (QW D cy ad below args s r 1 6) (F0 m 0 ls [])
  unfold fL_isIn at h
  refine lv_aload_n hx hb dL_isIn_0 rfl (lv_at hl 2 rfl) ?_
  refine lv_iconst (v := 0) hx hb dL_isIn_1 (by decide) ?_
  refine lv_aload_n hx hb dL_isIn_2 rfl (lv_at hl 0 rfl) ?_
  refine lv_iload_n hx hb dL_isIn_3 rfl (lv_at hl 1 rfl) ?_
  refine q_callVXi (As := [.int a1]) (nA := 1) C0 hw at_HW rfl (fun r1 h1 => ctX5_isIn hst h1) gL_isIn_X5_isIn rfl ⟨rfl, rfl⟩ (by decide +kernel) rfl ⟨(Nat.le_of_ble_eq_true rfl), (Nat.le_of_ble_eq_true rfl)⟩ hl.1 (Nat.le_of_ble_eq_true rfl) ⟨(Nat.le_of_ble_eq_true rfl), (Nat.le_of_ble_eq_true rfl)⟩ rfl h dL_isIn_4 (fun M3 n H locs q9 ce hw h hce hcv hcl => ?_) (fun M1 z2 H locs hw h => ?_)
  · skip
    refine q_if (P := n = 3) h (fun e0 h => ?_) (fun n0 h => ?_)
    · subst e0
      refine q_catch (n := 3) (name := "java/lang/IndexOutOfBoundsException") C0 htab [] ⟨0, 16, 19, 20⟩ [] rfl (fun _ h9 => absurd h9 List.not_mem_nil) rfl (by decide) (List.mem_of_getElem? (i := 1) rfl) rfl (List.mem_of_getElem? (i := 2) rfl) hce hcv hcl ?_
      refine lv_astore_n (lv' := [(3, .ref q9), (0, .ref (ad 0)), (1, .int a1), (2, .ref (ad 453))]) hx hb dL_isIn_19 rfl hl (by decide) rfl (fun ls hl => ?_)
      refine lv_iconst (v := 1) hx hb dL_isIn_20 (by decide) ?_
      exact q_iretW C0 hw h ⟨(Nat.le_of_ble_eq_true rfl), (Nat.le_of_ble_eq_true rfl)⟩ dL_isIn_21
    · skip
      exact q_no h
  · skip
    refine q_if_eq (tgt := 14) hx hb dL_isIn_7 (by decide) h (fun h => ?_) (fun h => ?_)
    · refine lv_lconst (v := 0) hx hb dL_isIn_14 rfl ?_
      exact wL_isIn_15 hst C0 htab  M1 (0 : Int64) _ _ _ hw (lv_sub hl [] rfl) h
    · refine lv_lconst (v := 1) hx hb dL_isIn_10 rfl ?_
      refine lv_goto (tgt := 15) hx hb dL_isIn_11 (by decide) ?_
      exact wL_isIn_15 hst C0 htab  M1 (1 : Int64) _ _ _ hw (lv_sub hl [] rfl) h
/-! HomewatcherLaw.late(LHomewatcher;I[J)I -/
abbrev rmL_late : Room := { frames := 8, cells := 2, slots := 12, locals := 132 }
def fL_late (F : Nat) (M : Mem) (x : XX) (a1 : Int32) : Option (Mem × (XX × Int32)) :=
    q_bh (fX5_late F M a1) (fun M1 z2 =>
    (q_lt (z2.toInt64, x.2) fun x4 =>
    some (M1, (x4, (0 : Int32))))) (fun M3 n =>
    if n = 3 then
    (some (M3, (x, (1 : Int32))))
    else
    if n = 5 then
    (some (M3, (x, (2 : Int32))))
    else
    none)
set_option maxHeartbeats 4000000 in
set_option maxRecDepth 100000 in
theorem ctL_late {l : Launch} (hst : l.stackTraces = false) {D : va_G} {cy : Nat → ClassId} {ad : Nat → Nat} {x : XX} {F : Nat} {M : Mem} {a1 : Int32} {r : Mem × (XX × Int32)} (h : fL_late F M x a1 = some r) : CN l yL_late wsL_late rmL_late D cy ad [.ref (ad 0), .int a1, .ref (ad 453)] x M r.2.1 r.1 (q_vi r.2.2) 2 12 := by
  refine q_startW (cc := cL_late) (maxL := 4) (ret := (some .int)) (by decide) rfl (Nat.le_of_ble_eq_true rfl) ?_
  intro p e s m args below meth c ls C0 hw hl htab
  obtain ⟨hx, hb, hml, hown, hts, -⟩ := id C0
  have C0 : MX p l s m args meth c D cy ad cL_late RL 4 wsL_late ((some .int)) := C0
  have hown : s.vm.findClass RL = some m.cls := hown
  have hl : lv_has ls 4 [(0, .ref (ad 0)), (1, .int a1), (2, .ref (ad 453))] := hl
  show W p l e rmL_late s m args below meth c s.heap [] 0 0 (QW D cy ad below args s r 2 12) (F0 m 0 ls [])
  unfold fL_late at h
  refine lv_aload_n hx hb dL_late_0 rfl (lv_at hl 2 rfl) ?_
  refine lv_iconst (v := 0) hx hb dL_late_1 (by decide) ?_
  refine lv_aload_n hx hb dL_late_2 rfl (lv_at hl 0 rfl) ?_
  refine lv_iload_n hx hb dL_late_3 rfl (lv_at hl 1 rfl) ?_
  refine q_callVXi (As := [.int a1]) (nA := 1) C0 hw at_HW rfl (fun r1 h1 => ctX5_late hst h1) gL_late_X5_late rfl ⟨rfl, rfl⟩ (by decide +kernel) rfl ⟨(Nat.le_of_ble_eq_true rfl), (Nat.le_of_ble_eq_true rfl)⟩ hl.1 (Nat.le_of_ble_eq_true rfl) ⟨(Nat.le_of_ble_eq_true rfl), (Nat.le_of_ble_eq_true rfl)⟩ rfl h dL_late_4 (fun M3 n H locs q9 ce hw h hce hcv hcl => ?_) (fun M1 z2 H locs hw h => ?_)
  · skip
    refine q_if (P := n = 3) h (fun e0 h => ?_) (fun n0 h => ?_)
    · subst e0
      refine q_catch (n := 3) (name := "java/lang/IndexOutOfBoundsException") C0 htab [] ⟨0, 9, 12, 20⟩ [⟨0, 9, 15, 49⟩] rfl (fun _ h9 => absurd h9 List.not_mem_nil) rfl (by decide) (List.mem_of_getElem? (i := 1) rfl) rfl (List.mem_of_getElem? (i := 2) rfl) hce hcv hcl ?_
      refine lv_astore_n (lv' := [(3, .ref q9), (0, .ref (ad 0)), (1, .int a1), (2, .ref (ad 453))]) hx hb dL_late_12 rfl hl (by decide) rfl (fun ls hl => ?_)
      refine lv_iconst (v := 1) hx hb dL_late_13 (by decide) ?_
      exact q_iretW C0 hw h ⟨(Nat.le_of_ble_eq_true rfl), (Nat.le_of_ble_eq_true rfl)⟩ dL_late_14
    · skip
      refine q_if (P := n = 5) h (fun e1 h => ?_) (fun n1 h => ?_)
      · subst e1
        refine q_catch (n := 5) (name := "java/lang/UnsupportedOperationException") C0 htab [⟨0, 9, 12, 20⟩] ⟨0, 9, 15, 49⟩ [] rfl (List.forall_mem_cons.mpr ⟨Or.inr ⟨by decide, "java/lang/IndexOutOfBoundsException", (List.mem_of_getElem? (i := 1) rfl), (List.mem_of_getElem? (i := 22) rfl)⟩, (fun _ h9 => absurd h9 List.not_mem_nil)⟩) rfl (by decide) (List.mem_of_getElem? (i := 2) rfl) rfl (List.mem_of_getElem? (i := 4) rfl) hce hcv hcl ?_
        refine lv_astore_n (lv' := [(3, .ref q9), (0, .ref (ad 0)), (1, .int a1), (2, .ref (ad 453))]) hx hb dL_late_15 rfl hl (by decide) rfl (fun ls hl => ?_)
        refine lv_iconst (v := 2) hx hb dL_late_16 (by decide) ?_
        exact q_iretW C0 hw h ⟨(Nat.le_of_ble_eq_true rfl), (Nat.le_of_ble_eq_true rfl)⟩ dL_late_17
      · skip
        exact q_no h
  · skip
    refine lv_i2l hx hb dL_late_7 rfl ?_
    refine q_last C0 hw h dL_late_8 (fun x4 H locs hw h => ?_)
    refine lv_goto (tgt := 18) hx hb dL_late_9 (by decide) ?_
    refine lv_iconst (v := 0) hx hb dL_late_18 (by decide) ?_
    exact q_iretW C0 hw h ⟨(Nat.le_of_ble_eq_true rfl), (Nat.le_of_ble_eq_true rfl)⟩ dL_late_19
/-! HomewatcherLaw.off(LHomewatcher;II[J)I -/
abbrev rmL_off : Room := { frames := 8, cells := 2, slots := 12, locals := 134 }
def fL_off (F : Nat) (M : Mem) (x : XX) (a1 : Int32) (a2 : Int32) : Option (Mem × (XX × Int32)) :=
    q_bh (fX5_off F M a1 a2) (fun M1 z2 =>
    (q_lt (z2.toInt64, x.2) fun x4 =>
    some (M1, (x4, (0 : Int32))))) (fun M3 n =>
    if n = 3 then
    (some (M3, (x, (1 : Int32))))
    else
    if n = 1 then
    (some (M3, (x, (2 : Int32))))
    else
    none)
set_option maxHeartbeats 4000000 in
set_option maxRecDepth 100000 in
theorem ctL_off {l : Launch} (hst : l.stackTraces = false) {D : va_G} {cy : Nat → ClassId} {ad : Nat → Nat} {x : XX} {F : Nat} {M : Mem} {a1 : Int32} {a2 : Int32} {r : Mem × (XX × Int32)} (h : fL_off F M x a1 a2 = some r) : CN l yL_off wsL_off rmL_off D cy ad [.ref (ad 0), .int a1, .int a2, .ref (ad 453)] x M r.2.1 r.1 (q_vi r.2.2) 2 12 := by
  refine q_startW (cc := cL_off) (maxL := 5) (ret := (some .int)) (by decide) rfl (Nat.le_of_ble_eq_true rfl) ?_
  intro p e s m args below meth c ls C0 hw hl htab
  obtain ⟨hx, hb, hml, hown, hts, -⟩ := id C0
  have C0 : MX p l s m args meth c D cy ad cL_off RL 5 wsL_off ((some .int)) := C0
  have hown : s.vm.findClass RL = some m.cls := hown
  have hl : lv_has ls 5 [(0, .ref (ad 0)), (1, .int a1), (2, .int a2), (3, .ref (ad 453))] := hl
  show W p l e rmL_off s m args below meth c s.heap [] 0 0 (QW D cy ad below args s r 2 12) (F0 m 0 ls [])
  unfold fL_off at h
  refine lv_aload_n hx hb dL_off_0 rfl (lv_at hl 3 rfl) ?_
  refine lv_iconst (v := 0) hx hb dL_off_1 (by decide) ?_
  refine lv_aload_n hx hb dL_off_2 rfl (lv_at hl 0 rfl) ?_
  refine lv_iload_n hx hb dL_off_3 rfl (lv_at hl 1 rfl) ?_
  refine lv_iload_n hx hb dL_off_4 rfl (lv_at hl 2 rfl) ?_
  refine q_callVXi (As := [.int a1, .int a2]) (nA := 2) C0 hw at_HW rfl (fun r1 h1 => ctX5_off hst h1) gL_off_X5_off rfl ⟨rfl, rfl⟩ (by decide +kernel) rfl ⟨(Nat.le_of_ble_eq_true rfl), (Nat.le_of_ble_eq_true rfl)⟩ hl.1 (Nat.le_of_ble_eq_true rfl) ⟨(Nat.le_of_ble_eq_true rfl), (Nat.le_of_ble_eq_true rfl)⟩ rfl h dL_off_5 (fun M3 n H locs q9 ce hw h hce hcv hcl => ?_) (fun M1 z2 H locs hw h => ?_)
  · skip
    refine q_if (P := n = 3) h (fun e0 h => ?_) (fun n0 h => ?_)
    · subst e0
      refine q_catch (n := 3) (name := "java/lang/IndexOutOfBoundsException") C0 htab [] ⟨0, 10, 13, 20⟩ [⟨0, 10, 17, 13⟩] rfl (fun _ h9 => absurd h9 List.not_mem_nil) rfl (by decide) (List.mem_of_getElem? (i := 1) rfl) rfl (List.mem_of_getElem? (i := 2) rfl) hce hcv hcl ?_
      refine lv_astore (lv' := [(4, .ref q9), (0, .ref (ad 0)), (1, .int a1), (2, .int a2), (3, .ref (ad 453))]) hx hb dL_off_13 hl (by decide) rfl (fun ls hl => ?_)
      refine lv_iconst (v := 1) hx hb dL_off_15 (by decide) ?_
      exact q_iretW C0 hw h ⟨(Nat.le_of_ble_eq_true rfl), (Nat.le_of_ble_eq_true rfl)⟩ dL_off_16
    · skip
      refine q_if (P := n = 1) h (fun e1 h => ?_) (fun n1 h => ?_)
      · subst e1
        refine q_catch (n := 1) (name := "java/lang/IllegalArgumentException") C0 htab [⟨0, 10, 13, 20⟩] ⟨0, 10, 17, 13⟩ [] rfl (List.forall_mem_cons.mpr ⟨Or.inr ⟨by decide, "java/lang/IndexOutOfBoundsException", (List.mem_of_getElem? (i := 1) rfl), (List.mem_of_getElem? (i := 1) rfl)⟩, (fun _ h9 => absurd h9 List.not_mem_nil)⟩) rfl (by decide) (List.mem_of_getElem? (i := 2) rfl) rfl (List.mem_of_getElem? (i := 0) rfl) hce hcv hcl ?_
        refine lv_astore (lv' := [(4, .ref q9), (0, .ref (ad 0)), (1, .int a1), (2, .int a2), (3, .ref (ad 453))]) hx hb dL_off_17 hl (by decide) rfl (fun ls hl => ?_)
        refine lv_iconst (v := 2) hx hb dL_off_19 (by decide) ?_
        exact q_iretW C0 hw h ⟨(Nat.le_of_ble_eq_true rfl), (Nat.le_of_ble_eq_true rfl)⟩ dL_off_20
      · skip
        exact q_no h
  · skip
    refine lv_i2l hx hb dL_off_8 rfl ?_
    refine q_last C0 hw h dL_off_9 (fun x4 H locs hw h => ?_)
    refine lv_goto (tgt := 21) hx hb dL_off_10 (by decide) ?_
    refine lv_iconst (v := 0) hx hb dL_off_21 (by decide) ?_
    exact q_iretW C0 hw h ⟨(Nat.le_of_ble_eq_true rfl), (Nat.le_of_ble_eq_true rfl)⟩ dL_off_22
/-! HomewatcherLaw.points(LHomewatcher;II[J)I -/
abbrev rmL_points : Room := { frames := 8, cells := 2, slots := 12, locals := 135 }
def fL_points (F : Nat) (M : Mem) (x : XX) (a1 : Int32) (a2 : Int32) : Option (Mem × (XX × Int32)) :=
    q_bh (fX5_points F M a1 a2) (fun M1 z2 =>
    (q_lt (z2.toInt64, x.2) fun x4 =>
    some (M1, (x4, (0 : Int32))))) (fun M3 n =>
    if n = 3 then
    (some (M3, (x, (1 : Int32))))
    else
    if n = 1 then
    (some (M3, (x, (2 : Int32))))
    else
    none)
set_option maxHeartbeats 4000000 in
set_option maxRecDepth 100000 in
theorem ctL_points {l : Launch} (hst : l.stackTraces = false) {D : va_G} {cy : Nat → ClassId} {ad : Nat → Nat} {x : XX} {F : Nat} {M : Mem} {a1 : Int32} {a2 : Int32} {r : Mem × (XX × Int32)} (h : fL_points F M x a1 a2 = some r) : CN l yL_points wsL_points rmL_points D cy ad [.ref (ad 0), .int a1, .int a2, .ref (ad 453)] x M r.2.1 r.1 (q_vi r.2.2) 2 12 := by
  refine q_startW (cc := cL_points) (maxL := 5) (ret := (some .int)) (by decide) rfl (Nat.le_of_ble_eq_true rfl) ?_
  intro p e s m args below meth c ls C0 hw hl htab
  obtain ⟨hx, hb, hml, hown, hts, -⟩ := id C0
  have C0 : MX p l s m args meth c D cy ad cL_points RL 5 wsL_points ((some .int)) := C0
  have hown : s.vm.findClass RL = some m.cls := hown
  have hl : lv_has ls 5 [(0, .ref (ad 0)), (1, .int a1), (2, .int a2), (3, .ref (ad 453))] := hl
  show W p l e rmL_points s m args below meth c s.heap [] 0 0 (QW D cy ad below args s r 2 12) (F0 m 0 ls [])
  unfold fL_points at h
  refine lv_aload_n hx hb dL_points_0 rfl (lv_at hl 3 rfl) ?_
  refine lv_iconst (v := 0) hx hb dL_points_1 (by decide) ?_
  refine lv_aload_n hx hb dL_points_2 rfl (lv_at hl 0 rfl) ?_
  refine lv_iload_n hx hb dL_points_3 rfl (lv_at hl 1 rfl) ?_
  refine lv_iload_n hx hb dL_points_4 rfl (lv_at hl 2 rfl) ?_
  refine q_callVXi (As := [.int a1, .int a2]) (nA := 2) C0 hw at_HW rfl (fun r1 h1 => ctX5_points hst h1) gL_points_X5_points rfl ⟨rfl, rfl⟩ (by decide +kernel) rfl ⟨(Nat.le_of_ble_eq_true rfl), (Nat.le_of_ble_eq_true rfl)⟩ hl.1 (Nat.le_of_ble_eq_true rfl) ⟨(Nat.le_of_ble_eq_true rfl), (Nat.le_of_ble_eq_true rfl)⟩ rfl h dL_points_5 (fun M3 n H locs q9 ce hw h hce hcv hcl => ?_) (fun M1 z2 H locs hw h => ?_)
  · skip
    refine q_if (P := n = 3) h (fun e0 h => ?_) (fun n0 h => ?_)
    · subst e0
      refine q_catch (n := 3) (name := "java/lang/IndexOutOfBoundsException") C0 htab [] ⟨0, 10, 13, 20⟩ [⟨0, 10, 17, 13⟩] rfl (fun _ h9 => absurd h9 List.not_mem_nil) rfl (by decide) (List.mem_of_getElem? (i := 1) rfl) rfl (List.mem_of_getElem? (i := 2) rfl) hce hcv hcl ?_
      refine lv_astore (lv' := [(4, .ref q9), (0, .ref (ad 0)), (1, .int a1), (2, .int a2), (3, .ref (ad 453))]) hx hb dL_points_13 hl (by decide) rfl (fun ls hl => ?_)
      refine lv_iconst (v := 1) hx hb dL_points_15 (by decide) ?_
      exact q_iretW C0 hw h ⟨(Nat.le_of_ble_eq_true rfl), (Nat.le_of_ble_eq_true rfl)⟩ dL_points_16
    · skip
      refine q_if (P := n = 1) h (fun e1 h => ?_) (fun n1 h => ?_)
      · subst e1
        refine q_catch (n := 1) (name := "java/lang/IllegalArgumentException") C0 htab [⟨0, 10, 13, 20⟩] ⟨0, 10, 17, 13⟩ [] rfl (List.forall_mem_cons.mpr ⟨Or.inr ⟨by decide, "java/lang/IndexOutOfBoundsException", (List.mem_of_getElem? (i := 1) rfl), (List.mem_of_getElem? (i := 1) rfl)⟩, (fun _ h9 => absurd h9 List.not_mem_nil)⟩) rfl (by decide) (List.mem_of_getElem? (i := 2) rfl) rfl (List.mem_of_getElem? (i := 0) rfl) hce hcv hcl ?_
        refine lv_astore (lv' := [(4, .ref q9), (0, .ref (ad 0)), (1, .int a1), (2, .int a2), (3, .ref (ad 453))]) hx hb dL_points_17 hl (by decide) rfl (fun ls hl => ?_)
        refine lv_iconst (v := 2) hx hb dL_points_19 (by decide) ?_
        exact q_iretW C0 hw h ⟨(Nat.le_of_ble_eq_true rfl), (Nat.le_of_ble_eq_true rfl)⟩ dL_points_20
      · skip
        exact q_no h
  · skip
    refine lv_i2l hx hb dL_points_8 rfl ?_
    refine q_last C0 hw h dL_points_9 (fun x4 H locs hw h => ?_)
    refine lv_goto (tgt := 21) hx hb dL_points_10 (by decide) ?_
    refine lv_iconst (v := 0) hx hb dL_points_21 (by decide) ?_
    exact q_iretW C0 hw h ⟨(Nat.le_of_ble_eq_true rfl), (Nat.le_of_ble_eq_true rfl)⟩ dL_points_22
/-! HomewatcherLaw.counting(LHomewatcher;II[J)I -/
abbrev rmL_counting : Room := { frames := 8, cells := 3, slots := 18, locals := 134 }
def fL_counting (F : Nat) (M : Mem) (x : XX) (a1 : Int32) (a2 : Int32) : Option (Mem × (XX × Int32)) :=
    q_bh (fX5_counting F M a1 a2) (fun M1 z2 =>
    (q_lt (z2.toInt64, x.2) fun x4 =>
    some (M1, (x4, (0 : Int32))))) (fun M3 n =>
    if n = 3 then
    (some (M3, (x, (1 : Int32))))
    else
    if n = 4 then
    (some (M3, (x, (2 : Int32))))
    else
    none)
set_option maxHeartbeats 4000000 in
set_option maxRecDepth 100000 in
theorem ctL_counting {l : Launch} (hst : l.stackTraces = false) {D : va_G} {cy : Nat → ClassId} {ad : Nat → Nat} {x : XX} {F : Nat} {M : Mem} {a1 : Int32} {a2 : Int32} {r : Mem × (XX × Int32)} (h : fL_counting F M x a1 a2 = some r) : CN l yL_counting wsL_counting rmL_counting D cy ad [.ref (ad 0), .int a1, .int a2, .ref (ad 453)] x M r.2.1 r.1 (q_vi r.2.2) 3 18 := by
  refine q_startW (cc := cL_counting) (maxL := 5) (ret := (some .int)) (by decide) rfl (Nat.le_of_ble_eq_true rfl) ?_
  intro p e s m args below meth c ls C0 hw hl htab
  obtain ⟨hx, hb, hml, hown, hts, -⟩ := id C0
  have C0 : MX p l s m args meth c D cy ad cL_counting RL 5 wsL_counting ((some .int)) := C0
  have hown : s.vm.findClass RL = some m.cls := hown
  have hl : lv_has ls 5 [(0, .ref (ad 0)), (1, .int a1), (2, .int a2), (3, .ref (ad 453))] := hl
  show W p l e rmL_counting s m args below meth c s.heap [] 0 0 (QW D cy ad below args s r 3 18) (F0 m 0 ls [])
  unfold fL_counting at h
  refine lv_aload_n hx hb dL_counting_0 rfl (lv_at hl 3 rfl) ?_
  refine lv_iconst (v := 0) hx hb dL_counting_1 (by decide) ?_
  refine lv_aload_n hx hb dL_counting_2 rfl (lv_at hl 0 rfl) ?_
  refine lv_iload_n hx hb dL_counting_3 rfl (lv_at hl 1 rfl) ?_
  refine lv_iload_n hx hb dL_counting_4 rfl (lv_at hl 2 rfl) ?_
  refine q_callVXi (As := [.int a1, .int a2]) (nA := 2) C0 hw at_HW rfl (fun r1 h1 => ctX5_counting hst h1) gL_counting_X5_counting rfl ⟨rfl, rfl⟩ (by decide +kernel) rfl ⟨(Nat.le_of_ble_eq_true rfl), (Nat.le_of_ble_eq_true rfl)⟩ hl.1 (Nat.le_of_ble_eq_true rfl) ⟨(Nat.le_of_ble_eq_true rfl), (Nat.le_of_ble_eq_true rfl)⟩ rfl h dL_counting_5 (fun M3 n H locs q9 ce hw h hce hcv hcl => ?_) (fun M1 z2 H locs hw h => ?_)
  · skip
    refine q_if (P := n = 3) h (fun e0 h => ?_) (fun n0 h => ?_)
    · subst e0
      refine q_catch (n := 3) (name := "java/lang/IndexOutOfBoundsException") C0 htab [] ⟨0, 10, 13, 20⟩ [⟨0, 10, 17, 43⟩] rfl (fun _ h9 => absurd h9 List.not_mem_nil) rfl (by decide) (List.mem_of_getElem? (i := 1) rfl) rfl (List.mem_of_getElem? (i := 2) rfl) hce hcv hcl ?_
      refine lv_astore (lv' := [(4, .ref q9), (0, .ref (ad 0)), (1, .int a1), (2, .int a2), (3, .ref (ad 453))]) hx hb dL_counting_13 hl (by decide) rfl (fun ls hl => ?_)
      refine lv_iconst (v := 1) hx hb dL_counting_15 (by decide) ?_
      exact q_iretW C0 hw h ⟨(Nat.le_of_ble_eq_true rfl), (Nat.le_of_ble_eq_true rfl)⟩ dL_counting_16
    · skip
      refine q_if (P := n = 4) h (fun e1 h => ?_) (fun n1 h => ?_)
      · subst e1
        refine q_catch (n := 4) (name := "java/util/NoSuchElementException") C0 htab [⟨0, 10, 13, 20⟩] ⟨0, 10, 17, 43⟩ [] rfl (List.forall_mem_cons.mpr ⟨Or.inr ⟨by decide, "java/lang/IndexOutOfBoundsException", (List.mem_of_getElem? (i := 1) rfl), (List.mem_of_getElem? (i := 17) rfl)⟩, (fun _ h9 => absurd h9 List.not_mem_nil)⟩) rfl (by decide) (List.mem_of_getElem? (i := 2) rfl) rfl (List.mem_of_getElem? (i := 3) rfl) hce hcv hcl ?_
        refine lv_astore (lv' := [(4, .ref q9), (0, .ref (ad 0)), (1, .int a1), (2, .int a2), (3, .ref (ad 453))]) hx hb dL_counting_17 hl (by decide) rfl (fun ls hl => ?_)
        refine lv_iconst (v := 2) hx hb dL_counting_19 (by decide) ?_
        exact q_iretW C0 hw h ⟨(Nat.le_of_ble_eq_true rfl), (Nat.le_of_ble_eq_true rfl)⟩ dL_counting_20
      · skip
        exact q_no h
  · skip
    refine lv_i2l hx hb dL_counting_8 rfl ?_
    refine q_last C0 hw h dL_counting_9 (fun x4 H locs hw h => ?_)
    refine lv_goto (tgt := 21) hx hb dL_counting_10 (by decide) ?_
    refine lv_iconst (v := 0) hx hb dL_counting_21 (by decide) ?_
    exact q_iretW C0 hw h ⟨(Nat.le_of_ble_eq_true rfl), (Nat.le_of_ble_eq_true rfl)⟩ dL_counting_22
/-! HomewatcherLaw.mark(LHomewatcher;II[J)I -/
abbrev rmL_mark : Room := { frames := 8, cells := 3, slots := 18, locals := 133 }
def fL_mark (F : Nat) (M : Mem) (x : XX) (a1 : Int32) (a2 : Int32) : Option (Mem × (XX × Int32)) :=
    q_bh (fX5_mark F M a1 a2) (fun M1 z2 =>
    (q_lt (z2.toInt64, x.2) fun x4 =>
    some (M1, (x4, (0 : Int32))))) (fun M3 n =>
    if n = 3 then
    (some (M3, (x, (1 : Int32))))
    else
    if n = 5 then
    (some (M3, (x, (2 : Int32))))
    else
    none)
set_option maxHeartbeats 4000000 in
set_option maxRecDepth 100000 in
theorem ctL_mark {l : Launch} (hst : l.stackTraces = false) {D : va_G} {cy : Nat → ClassId} {ad : Nat → Nat} {x : XX} {F : Nat} {M : Mem} {a1 : Int32} {a2 : Int32} {r : Mem × (XX × Int32)} (h : fL_mark F M x a1 a2 = some r) : CN l yL_mark wsL_mark rmL_mark D cy ad [.ref (ad 0), .int a1, .int a2, .ref (ad 453)] x M r.2.1 r.1 (q_vi r.2.2) 3 18 := by
  refine q_startW (cc := cL_mark) (maxL := 5) (ret := (some .int)) (by decide) rfl (Nat.le_of_ble_eq_true rfl) ?_
  intro p e s m args below meth c ls C0 hw hl htab
  obtain ⟨hx, hb, hml, hown, hts, -⟩ := id C0
  have C0 : MX p l s m args meth c D cy ad cL_mark RL 5 wsL_mark ((some .int)) := C0
  have hown : s.vm.findClass RL = some m.cls := hown
  have hl : lv_has ls 5 [(0, .ref (ad 0)), (1, .int a1), (2, .int a2), (3, .ref (ad 453))] := hl
  show W p l e rmL_mark s m args below meth c s.heap [] 0 0 (QW D cy ad below args s r 3 18) (F0 m 0 ls [])
  unfold fL_mark at h
  refine lv_aload_n hx hb dL_mark_0 rfl (lv_at hl 3 rfl) ?_
  refine lv_iconst (v := 0) hx hb dL_mark_1 (by decide) ?_
  refine lv_aload_n hx hb dL_mark_2 rfl (lv_at hl 0 rfl) ?_
  refine lv_iload_n hx hb dL_mark_3 rfl (lv_at hl 1 rfl) ?_
  refine lv_iload_n hx hb dL_mark_4 rfl (lv_at hl 2 rfl) ?_
  refine q_callVXi (As := [.int a1, .int a2]) (nA := 2) C0 hw at_HW rfl (fun r1 h1 => ctX5_mark hst h1) gL_mark_X5_mark rfl ⟨rfl, rfl⟩ (by decide +kernel) rfl ⟨(Nat.le_of_ble_eq_true rfl), (Nat.le_of_ble_eq_true rfl)⟩ hl.1 (Nat.le_of_ble_eq_true rfl) ⟨(Nat.le_of_ble_eq_true rfl), (Nat.le_of_ble_eq_true rfl)⟩ rfl h dL_mark_5 (fun M3 n H locs q9 ce hw h hce hcv hcl => ?_) (fun M1 z2 H locs hw h => ?_)
  · skip
    refine q_if (P := n = 3) h (fun e0 h => ?_) (fun n0 h => ?_)
    · subst e0
      refine q_catch (n := 3) (name := "java/lang/IndexOutOfBoundsException") C0 htab [] ⟨0, 10, 13, 20⟩ [⟨0, 10, 17, 49⟩] rfl (fun _ h9 => absurd h9 List.not_mem_nil) rfl (by decide) (List.mem_of_getElem? (i := 1) rfl) rfl (List.mem_of_getElem? (i := 2) rfl) hce hcv hcl ?_
      refine lv_astore (lv' := [(4, .ref q9), (0, .ref (ad 0)), (1, .int a1), (2, .int a2), (3, .ref (ad 453))]) hx hb dL_mark_13 hl (by decide) rfl (fun ls hl => ?_)
      refine lv_iconst (v := 1) hx hb dL_mark_15 (by decide) ?_
      exact q_iretW C0 hw h ⟨(Nat.le_of_ble_eq_true rfl), (Nat.le_of_ble_eq_true rfl)⟩ dL_mark_16
    · skip
      refine q_if (P := n = 5) h (fun e1 h => ?_) (fun n1 h => ?_)
      · subst e1
        refine q_catch (n := 5) (name := "java/lang/UnsupportedOperationException") C0 htab [⟨0, 10, 13, 20⟩] ⟨0, 10, 17, 49⟩ [] rfl (List.forall_mem_cons.mpr ⟨Or.inr ⟨by decide, "java/lang/IndexOutOfBoundsException", (List.mem_of_getElem? (i := 1) rfl), (List.mem_of_getElem? (i := 22) rfl)⟩, (fun _ h9 => absurd h9 List.not_mem_nil)⟩) rfl (by decide) (List.mem_of_getElem? (i := 2) rfl) rfl (List.mem_of_getElem? (i := 4) rfl) hce hcv hcl ?_
        refine lv_astore (lv' := [(4, .ref q9), (0, .ref (ad 0)), (1, .int a1), (2, .int a2), (3, .ref (ad 453))]) hx hb dL_mark_17 hl (by decide) rfl (fun ls hl => ?_)
        refine lv_iconst (v := 2) hx hb dL_mark_19 (by decide) ?_
        exact q_iretW C0 hw h ⟨(Nat.le_of_ble_eq_true rfl), (Nat.le_of_ble_eq_true rfl)⟩ dL_mark_20
      · skip
        exact q_no h
  · skip
    refine lv_i2l hx hb dL_mark_8 rfl ?_
    refine q_last C0 hw h dL_mark_9 (fun x4 H locs hw h => ?_)
    refine lv_goto (tgt := 21) hx hb dL_mark_10 (by decide) ?_
    refine lv_iconst (v := 0) hx hb dL_mark_21 (by decide) ?_
    exact q_iretW C0 hw h ⟨(Nat.le_of_ble_eq_true rfl), (Nat.le_of_ble_eq_true rfl)⟩ dL_mark_22
/-! HomewatcherLaw.isFrozen(LHomewatcher;II[J)I -/
abbrev rmL_isFrozen : Room := { frames := 8, cells := 2, slots := 12, locals := 133 }
def fL_isFrozen_16 (F : Nat) (M : Mem) (x : XX) (s0 : Int64) : Option (Mem × (XX × Int32)) :=
    q_lt (s0, x.2) fun x1 =>
    some (M, (x1, (0 : Int32)))
set_option maxHeartbeats 4000000 in
set_option maxRecDepth 100000 in
theorem wL_isFrozen_16 {p : Program} {l : Launch} {e : Env} {s : State} {m : MethodId} {args : Array Value} {below : List Frame} {meth : Method} {c : Code} {D : va_G} {cy : Nat → ClassId} {ad : Nat → Nat} {x : XX} {F : Nat} {r : Mem × (XX × Int32)} (hst : l.stackTraces = false) (C0 : MX p l s m args meth c D cy ad cL_isFrozen RL 5 wsL_isFrozen (some .int)) (htab : c.exceptionTable.toList = tableOf [(0, 17, 20, 20)]) : ∀ (M : Mem) (s0 : Int64) (H : Heap) (locs : List Loc) (ls : Array Slot), Wd D cy ad x s M H locs → lv_has ls 5 [] → fL_isFrozen_16 F M x s0 = some r → W p l e rmL_isFrozen s m args below meth c H locs 2 12 (QW D cy ad below args s r 2 12) (F0 m 16 ls [.long (s0), .int ((0 : Int32)), .ref (ad 453)]) := by
  obtain ⟨hx, hb, hml, hown, hts, -⟩ := id C0
  intro M s0 H locs ls hw hl h
  unfold fL_isFrozen_16 at h
  refine q_last C0 hw h dL_isFrozen_16 (fun x1 H locs hw h => ?_)
  refine lv_goto (tgt := 24) hx hb dL_isFrozen_17 (by decide) ?_
  refine lv_iconst (v := 0) hx hb dL_isFrozen_24 (by decide) ?_
  exact q_iretW C0 hw h ⟨(Nat.le_of_ble_eq_true rfl), (Nat.le_of_ble_eq_true rfl)⟩ dL_isFrozen_25
def fL_isFrozen (F : Nat) (M : Mem) (x : XX) (a1 : Int32) (a2 : Int32) : Option (Mem × (XX × Int32)) :=
    q_bh (fX5_isFrozen F M a1 a2) (fun M1 z2 =>
    (if z2 = (0 : Int32) then
    (fL_isFrozen_16 F M1 x (0 : Int64))
    else
    (fL_isFrozen_16 F M1 x (1 : Int64)))) (fun M3 n =>
    if n = 3 then
    (some (M3, (x, (1 : Int32))))
    else
    none)
set_option maxHeartbeats 4000000 in
set_option maxRecDepth 100000 in
theorem ctL_isFrozen {l : Launch} (hst : l.stackTraces = false) {D : va_G} {cy : Nat → ClassId} {ad : Nat → Nat} {x : XX} {F : Nat} {M : Mem} {a1 : Int32} {a2 : Int32} {r : Mem × (XX × Int32)} (h : fL_isFrozen F M x a1 a2 = some r) : CN l yL_isFrozen wsL_isFrozen rmL_isFrozen D cy ad [.ref (ad 0), .int a1, .int a2, .ref (ad 453)] x M r.2.1 r.1 (q_vi r.2.2) 2 12 := by
  refine q_startW (cc := cL_isFrozen) (maxL := 5) (ret := (some .int)) (by decide) rfl (Nat.le_of_ble_eq_true rfl) ?_
  intro p e s m args below meth c ls C0 hw hl htab
  obtain ⟨hx, hb, hml, hown, hts, -⟩ := id C0
  have C0 : MX p l s m args meth c D cy ad cL_isFrozen RL 5 wsL_isFrozen ((some .int)) := C0
  have hown : s.vm.findClass RL = some m.cls := hown
  have hl : lv_has ls 5 [(0, .ref (ad 0)), (1, .int a1), (2, .int a2), (3, .ref (ad 453))] := hl
  show W p l e rmL_isFrozen s m args below meth c s.heap [] 0 0 (QW D cy ad below args s r 2 12) (F0 m 0 ls [])
  unfold fL_isFrozen at h
  refine lv_aload_n hx hb dL_isFrozen_0 rfl (lv_at hl 3 rfl) ?_
  refine lv_iconst (v := 0) hx hb dL_isFrozen_1 (by decide) ?_
  refine lv_aload_n hx hb dL_isFrozen_2 rfl (lv_at hl 0 rfl) ?_
  refine lv_iload_n hx hb dL_isFrozen_3 rfl (lv_at hl 1 rfl) ?_
  refine lv_iload_n hx hb dL_isFrozen_4 rfl (lv_at hl 2 rfl) ?_
  refine q_callVXi (As := [.int a1, .int a2]) (nA := 2) C0 hw at_HW rfl (fun r1 h1 => ctX5_isFrozen hst h1) gL_isFrozen_X5_isFrozen rfl ⟨rfl, rfl⟩ (by decide +kernel) rfl ⟨(Nat.le_of_ble_eq_true rfl), (Nat.le_of_ble_eq_true rfl)⟩ hl.1 (Nat.le_of_ble_eq_true rfl) ⟨(Nat.le_of_ble_eq_true rfl), (Nat.le_of_ble_eq_true rfl)⟩ rfl h dL_isFrozen_5 (fun M3 n H locs q9 ce hw h hce hcv hcl => ?_) (fun M1 z2 H locs hw h => ?_)
  · skip
    refine q_if (P := n = 3) h (fun e0 h => ?_) (fun n0 h => ?_)
    · subst e0
      refine q_catch (n := 3) (name := "java/lang/IndexOutOfBoundsException") C0 htab [] ⟨0, 17, 20, 20⟩ [] rfl (fun _ h9 => absurd h9 List.not_mem_nil) rfl (by decide) (List.mem_of_getElem? (i := 1) rfl) rfl (List.mem_of_getElem? (i := 2) rfl) hce hcv hcl ?_
      refine lv_astore (lv' := [(4, .ref q9), (0, .ref (ad 0)), (1, .int a1), (2, .int a2), (3, .ref (ad 453))]) hx hb dL_isFrozen_20 hl (by decide) rfl (fun ls hl => ?_)
      refine lv_iconst (v := 1) hx hb dL_isFrozen_22 (by decide) ?_
      exact q_iretW C0 hw h ⟨(Nat.le_of_ble_eq_true rfl), (Nat.le_of_ble_eq_true rfl)⟩ dL_isFrozen_23
    · skip
      exact q_no h
  · skip
    refine q_if_eq (tgt := 15) hx hb dL_isFrozen_8 (by decide) h (fun h => ?_) (fun h => ?_)
    · refine lv_lconst (v := 0) hx hb dL_isFrozen_15 rfl ?_
      exact wL_isFrozen_16 hst C0 htab  M1 (0 : Int64) _ _ _ hw (lv_sub hl [] rfl) h
    · refine lv_lconst (v := 1) hx hb dL_isFrozen_11 rfl ?_
      refine lv_goto (tgt := 16) hx hb dL_isFrozen_12 (by decide) ?_
      exact wL_isFrozen_16 hst C0 htab  M1 (1 : Int64) _ _ _ hw (lv_sub hl [] rfl) h
/-! HomewatcherLaw.shared(LHomewatcher;II[J)I -/
abbrev rmL_shared : Room := { frames := 8, cells := 2, slots := 12, locals := 133 }
def fL_shared (F : Nat) (M : Mem) (x : XX) (a1 : Int32) (a2 : Int32) : Option (Mem × (XX × Int32)) :=
    q_bh (fX5_shared F M a1 a2) (fun M1 z2 =>
    (q_lt (z2.toInt64, x.2) fun x4 =>
    some (M1, (x4, (0 : Int32))))) (fun M3 n =>
    if n = 3 then
    (some (M3, (x, (1 : Int32))))
    else
    none)
set_option maxHeartbeats 4000000 in
set_option maxRecDepth 100000 in
theorem ctL_shared {l : Launch} (hst : l.stackTraces = false) {D : va_G} {cy : Nat → ClassId} {ad : Nat → Nat} {x : XX} {F : Nat} {M : Mem} {a1 : Int32} {a2 : Int32} {r : Mem × (XX × Int32)} (h : fL_shared F M x a1 a2 = some r) : CN l yL_shared wsL_shared rmL_shared D cy ad [.ref (ad 0), .int a1, .int a2, .ref (ad 453)] x M r.2.1 r.1 (q_vi r.2.2) 2 12 := by
  refine q_startW (cc := cL_shared) (maxL := 5) (ret := (some .int)) (by decide) rfl (Nat.le_of_ble_eq_true rfl) ?_
  intro p e s m args below meth c ls C0 hw hl htab
  obtain ⟨hx, hb, hml, hown, hts, -⟩ := id C0
  have C0 : MX p l s m args meth c D cy ad cL_shared RL 5 wsL_shared ((some .int)) := C0
  have hown : s.vm.findClass RL = some m.cls := hown
  have hl : lv_has ls 5 [(0, .ref (ad 0)), (1, .int a1), (2, .int a2), (3, .ref (ad 453))] := hl
  show W p l e rmL_shared s m args below meth c s.heap [] 0 0 (QW D cy ad below args s r 2 12) (F0 m 0 ls [])
  unfold fL_shared at h
  refine lv_aload_n hx hb dL_shared_0 rfl (lv_at hl 3 rfl) ?_
  refine lv_iconst (v := 0) hx hb dL_shared_1 (by decide) ?_
  refine lv_aload_n hx hb dL_shared_2 rfl (lv_at hl 0 rfl) ?_
  refine lv_iload_n hx hb dL_shared_3 rfl (lv_at hl 1 rfl) ?_
  refine lv_iload_n hx hb dL_shared_4 rfl (lv_at hl 2 rfl) ?_
  refine q_callVXi (As := [.int a1, .int a2]) (nA := 2) C0 hw at_HW rfl (fun r1 h1 => ctX5_shared hst h1) gL_shared_X5_shared rfl ⟨rfl, rfl⟩ (by decide +kernel) rfl ⟨(Nat.le_of_ble_eq_true rfl), (Nat.le_of_ble_eq_true rfl)⟩ hl.1 (Nat.le_of_ble_eq_true rfl) ⟨(Nat.le_of_ble_eq_true rfl), (Nat.le_of_ble_eq_true rfl)⟩ rfl h dL_shared_5 (fun M3 n H locs q9 ce hw h hce hcv hcl => ?_) (fun M1 z2 H locs hw h => ?_)
  · skip
    refine q_if (P := n = 3) h (fun e0 h => ?_) (fun n0 h => ?_)
    · subst e0
      refine q_catch (n := 3) (name := "java/lang/IndexOutOfBoundsException") C0 htab [] ⟨0, 10, 13, 20⟩ [] rfl (fun _ h9 => absurd h9 List.not_mem_nil) rfl (by decide) (List.mem_of_getElem? (i := 1) rfl) rfl (List.mem_of_getElem? (i := 2) rfl) hce hcv hcl ?_
      refine lv_astore (lv' := [(4, .ref q9), (0, .ref (ad 0)), (1, .int a1), (2, .int a2), (3, .ref (ad 453))]) hx hb dL_shared_13 hl (by decide) rfl (fun ls hl => ?_)
      refine lv_iconst (v := 1) hx hb dL_shared_15 (by decide) ?_
      exact q_iretW C0 hw h ⟨(Nat.le_of_ble_eq_true rfl), (Nat.le_of_ble_eq_true rfl)⟩ dL_shared_16
    · skip
      exact q_no h
  · skip
    refine lv_i2l hx hb dL_shared_8 rfl ?_
    refine q_last C0 hw h dL_shared_9 (fun x4 H locs hw h => ?_)
    refine lv_goto (tgt := 17) hx hb dL_shared_10 (by decide) ?_
    refine lv_iconst (v := 0) hx hb dL_shared_17 (by decide) ?_
    exact q_iretW C0 hw h ⟨(Nat.le_of_ble_eq_true rfl), (Nat.le_of_ble_eq_true rfl)⟩ dL_shared_18
/-! HomewatcherLaw.shingle(LHomewatcher;II[J)I -/
abbrev rmL_shingle : Room := { frames := 8, cells := 2, slots := 12, locals := 134 }
def fL_shingle (F : Nat) (M : Mem) (x : XX) (a1 : Int32) (a2 : Int32) : Option (Mem × (XX × Int32)) :=
    q_bh (fX5_shingle F M a1 a2) (fun M1 z2 =>
    (q_lt (z2.toInt64, x.2) fun x4 =>
    some (M1, (x4, (0 : Int32))))) (fun M3 n =>
    if n = 3 then
    (some (M3, (x, (1 : Int32))))
    else
    if n = 4 then
    (some (M3, (x, (2 : Int32))))
    else
    none)
set_option maxHeartbeats 4000000 in
set_option maxRecDepth 100000 in
theorem ctL_shingle {l : Launch} (hst : l.stackTraces = false) {D : va_G} {cy : Nat → ClassId} {ad : Nat → Nat} {x : XX} {F : Nat} {M : Mem} {a1 : Int32} {a2 : Int32} {r : Mem × (XX × Int32)} (h : fL_shingle F M x a1 a2 = some r) : CN l yL_shingle wsL_shingle rmL_shingle D cy ad [.ref (ad 0), .int a1, .int a2, .ref (ad 453)] x M r.2.1 r.1 (q_vi r.2.2) 2 12 := by
  refine q_startW (cc := cL_shingle) (maxL := 5) (ret := (some .int)) (by decide) rfl (Nat.le_of_ble_eq_true rfl) ?_
  intro p e s m args below meth c ls C0 hw hl htab
  obtain ⟨hx, hb, hml, hown, hts, -⟩ := id C0
  have C0 : MX p l s m args meth c D cy ad cL_shingle RL 5 wsL_shingle ((some .int)) := C0
  have hown : s.vm.findClass RL = some m.cls := hown
  have hl : lv_has ls 5 [(0, .ref (ad 0)), (1, .int a1), (2, .int a2), (3, .ref (ad 453))] := hl
  show W p l e rmL_shingle s m args below meth c s.heap [] 0 0 (QW D cy ad below args s r 2 12) (F0 m 0 ls [])
  unfold fL_shingle at h
  refine lv_aload_n hx hb dL_shingle_0 rfl (lv_at hl 3 rfl) ?_
  refine lv_iconst (v := 0) hx hb dL_shingle_1 (by decide) ?_
  refine lv_aload_n hx hb dL_shingle_2 rfl (lv_at hl 0 rfl) ?_
  refine lv_iload_n hx hb dL_shingle_3 rfl (lv_at hl 1 rfl) ?_
  refine lv_iload_n hx hb dL_shingle_4 rfl (lv_at hl 2 rfl) ?_
  refine q_callVXi (As := [.int a1, .int a2]) (nA := 2) C0 hw at_HW rfl (fun r1 h1 => ctX5_shingle hst h1) gL_shingle_X5_shingle rfl ⟨rfl, rfl⟩ (by decide +kernel) rfl ⟨(Nat.le_of_ble_eq_true rfl), (Nat.le_of_ble_eq_true rfl)⟩ hl.1 (Nat.le_of_ble_eq_true rfl) ⟨(Nat.le_of_ble_eq_true rfl), (Nat.le_of_ble_eq_true rfl)⟩ rfl h dL_shingle_5 (fun M3 n H locs q9 ce hw h hce hcv hcl => ?_) (fun M1 z2 H locs hw h => ?_)
  · skip
    refine q_if (P := n = 3) h (fun e0 h => ?_) (fun n0 h => ?_)
    · subst e0
      refine q_catch (n := 3) (name := "java/lang/IndexOutOfBoundsException") C0 htab [] ⟨0, 10, 13, 20⟩ [⟨0, 10, 17, 43⟩] rfl (fun _ h9 => absurd h9 List.not_mem_nil) rfl (by decide) (List.mem_of_getElem? (i := 1) rfl) rfl (List.mem_of_getElem? (i := 2) rfl) hce hcv hcl ?_
      refine lv_astore (lv' := [(4, .ref q9), (0, .ref (ad 0)), (1, .int a1), (2, .int a2), (3, .ref (ad 453))]) hx hb dL_shingle_13 hl (by decide) rfl (fun ls hl => ?_)
      refine lv_iconst (v := 1) hx hb dL_shingle_15 (by decide) ?_
      exact q_iretW C0 hw h ⟨(Nat.le_of_ble_eq_true rfl), (Nat.le_of_ble_eq_true rfl)⟩ dL_shingle_16
    · skip
      refine q_if (P := n = 4) h (fun e1 h => ?_) (fun n1 h => ?_)
      · subst e1
        refine q_catch (n := 4) (name := "java/util/NoSuchElementException") C0 htab [⟨0, 10, 13, 20⟩] ⟨0, 10, 17, 43⟩ [] rfl (List.forall_mem_cons.mpr ⟨Or.inr ⟨by decide, "java/lang/IndexOutOfBoundsException", (List.mem_of_getElem? (i := 1) rfl), (List.mem_of_getElem? (i := 17) rfl)⟩, (fun _ h9 => absurd h9 List.not_mem_nil)⟩) rfl (by decide) (List.mem_of_getElem? (i := 2) rfl) rfl (List.mem_of_getElem? (i := 3) rfl) hce hcv hcl ?_
        refine lv_astore (lv' := [(4, .ref q9), (0, .ref (ad 0)), (1, .int a1), (2, .int a2), (3, .ref (ad 453))]) hx hb dL_shingle_17 hl (by decide) rfl (fun ls hl => ?_)
        refine lv_iconst (v := 2) hx hb dL_shingle_19 (by decide) ?_
        exact q_iretW C0 hw h ⟨(Nat.le_of_ble_eq_true rfl), (Nat.le_of_ble_eq_true rfl)⟩ dL_shingle_20
      · skip
        exact q_no h
  · skip
    refine lv_i2l hx hb dL_shingle_8 rfl ?_
    refine q_last C0 hw h dL_shingle_9 (fun x4 H locs hw h => ?_)
    refine lv_goto (tgt := 21) hx hb dL_shingle_10 (by decide) ?_
    refine lv_iconst (v := 0) hx hb dL_shingle_21 (by decide) ?_
    exact q_iretW C0 hw h ⟨(Nat.le_of_ble_eq_true rfl), (Nat.le_of_ble_eq_true rfl)⟩ dL_shingle_22
/-! HomewatcherLaw.threshold(LHomewatcher;I[J)I -/
abbrev rmL_threshold : Room := { frames := 8, cells := 1, slots := 6, locals := 134 }
def fL_threshold (F : Nat) (M : Mem) (x : XX) (a1 : Int32) : Option (Mem × (XX × Int32)) :=
    q_bh (fX5_threshold F M a1) (fun M1 z2 =>
    (q_lt (z2.toInt64, x.2) fun x4 =>
    some (M1, (x4, (0 : Int32))))) (fun M3 n =>
    if n = 1 then
    (some (M3, (x, (1 : Int32))))
    else
    none)
set_option maxHeartbeats 4000000 in
set_option maxRecDepth 100000 in
theorem ctL_threshold {l : Launch} (hst : l.stackTraces = false) {D : va_G} {cy : Nat → ClassId} {ad : Nat → Nat} {x : XX} {F : Nat} {M : Mem} {a1 : Int32} {r : Mem × (XX × Int32)} (h : fL_threshold F M x a1 = some r) : CN l yL_threshold wsL_threshold rmL_threshold D cy ad [.ref (ad 0), .int a1, .ref (ad 453)] x M r.2.1 r.1 (q_vi r.2.2) 1 6 := by
  refine q_startW (cc := cL_threshold) (maxL := 4) (ret := (some .int)) (by decide) rfl (Nat.le_of_ble_eq_true rfl) ?_
  intro p e s m args below meth c ls C0 hw hl htab
  obtain ⟨hx, hb, hml, hown, hts, -⟩ := id C0
  have C0 : MX p l s m args meth c D cy ad cL_threshold RL 4 wsL_threshold ((some .int)) := C0
  have hown : s.vm.findClass RL = some m.cls := hown
  have hl : lv_has ls 4 [(0, .ref (ad 0)), (1, .int a1), (2, .ref (ad 453))] := hl
  show W p l e rmL_threshold s m args below meth c s.heap [] 0 0 (QW D cy ad below args s r 1 6) (F0 m 0 ls [])
  unfold fL_threshold at h
  refine lv_aload_n hx hb dL_threshold_0 rfl (lv_at hl 2 rfl) ?_
  refine lv_iconst (v := 0) hx hb dL_threshold_1 (by decide) ?_
  refine lv_aload_n hx hb dL_threshold_2 rfl (lv_at hl 0 rfl) ?_
  refine lv_iload_n hx hb dL_threshold_3 rfl (lv_at hl 1 rfl) ?_
  refine q_callVXi (As := [.int a1]) (nA := 1) C0 hw at_HW rfl (fun r1 h1 => ctX5_threshold hst h1) gL_threshold_X5_threshold rfl ⟨rfl, rfl⟩ (by decide +kernel) rfl ⟨(Nat.le_of_ble_eq_true rfl), (Nat.le_of_ble_eq_true rfl)⟩ hl.1 (Nat.le_of_ble_eq_true rfl) ⟨(Nat.le_of_ble_eq_true rfl), (Nat.le_of_ble_eq_true rfl)⟩ rfl h dL_threshold_4 (fun M3 n H locs q9 ce hw h hce hcv hcl => ?_) (fun M1 z2 H locs hw h => ?_)
  · skip
    refine q_if (P := n = 1) h (fun e0 h => ?_) (fun n0 h => ?_)
    · subst e0
      refine q_catch (n := 1) (name := "java/lang/IllegalArgumentException") C0 htab [] ⟨0, 9, 12, 13⟩ [] rfl (fun _ h9 => absurd h9 List.not_mem_nil) rfl (by decide) (List.mem_of_getElem? (i := 1) rfl) rfl (List.mem_of_getElem? (i := 0) rfl) hce hcv hcl ?_
      refine lv_astore_n (lv' := [(3, .ref q9), (0, .ref (ad 0)), (1, .int a1), (2, .ref (ad 453))]) hx hb dL_threshold_12 rfl hl (by decide) rfl (fun ls hl => ?_)
      refine lv_iconst (v := 1) hx hb dL_threshold_13 (by decide) ?_
      exact q_iretW C0 hw h ⟨(Nat.le_of_ble_eq_true rfl), (Nat.le_of_ble_eq_true rfl)⟩ dL_threshold_14
    · skip
      exact q_no h
  · skip
    refine lv_i2l hx hb dL_threshold_7 rfl ?_
    refine q_last C0 hw h dL_threshold_8 (fun x4 H locs hw h => ?_)
    refine lv_goto (tgt := 15) hx hb dL_threshold_9 (by decide) ?_
    refine lv_iconst (v := 0) hx hb dL_threshold_15 (by decide) ?_
    exact q_iretW C0 hw h ⟨(Nat.le_of_ble_eq_true rfl), (Nat.le_of_ble_eq_true rfl)⟩ dL_threshold_16
/-! HomewatcherLaw.hit(LHomewatcher;IC[J)I -/
abbrev rmL_hit : Room := { frames := 8, cells := 2, slots := 12, locals := 134 }
def fL_hit (F : Nat) (M : Mem) (x : XX) (a1 : Int32) (a2 : Int32) : Option (Mem × (XX × Int32)) :=
    q_bh (fX5_hit F M a1 a2) (fun M1 z2 =>
    (q_lt (z2.toInt64, x.2) fun x4 =>
    some (M1, (x4, (0 : Int32))))) (fun M3 n =>
    if n = 3 then
    (some (M3, (x, (1 : Int32))))
    else
    if n = 1 then
    (some (M3, (x, (2 : Int32))))
    else
    none)
set_option maxHeartbeats 4000000 in
set_option maxRecDepth 100000 in
theorem ctL_hit {l : Launch} (hst : l.stackTraces = false) {D : va_G} {cy : Nat → ClassId} {ad : Nat → Nat} {x : XX} {F : Nat} {M : Mem} {a1 : Int32} {a2 : Int32} {r : Mem × (XX × Int32)} (h : fL_hit F M x a1 a2 = some r) : CN l yL_hit wsL_hit rmL_hit D cy ad [.ref (ad 0), .int a1, .int a2, .ref (ad 453)] x M r.2.1 r.1 (q_vi r.2.2) 2 12 := by
  refine q_startW (cc := cL_hit) (maxL := 5) (ret := (some .int)) (by decide) rfl (Nat.le_of_ble_eq_true rfl) ?_
  intro p e s m args below meth c ls C0 hw hl htab
  obtain ⟨hx, hb, hml, hown, hts, -⟩ := id C0
  have C0 : MX p l s m args meth c D cy ad cL_hit RL 5 wsL_hit ((some .int)) := C0
  have hown : s.vm.findClass RL = some m.cls := hown
  have hl : lv_has ls 5 [(0, .ref (ad 0)), (1, .int a1), (2, .int a2), (3, .ref (ad 453))] := hl
  show W p l e rmL_hit s m args below meth c s.heap [] 0 0 (QW D cy ad below args s r 2 12) (F0 m 0 ls [])
  unfold fL_hit at h
  refine lv_aload_n hx hb dL_hit_0 rfl (lv_at hl 3 rfl) ?_
  refine lv_iconst (v := 0) hx hb dL_hit_1 (by decide) ?_
  refine lv_aload_n hx hb dL_hit_2 rfl (lv_at hl 0 rfl) ?_
  refine lv_iload_n hx hb dL_hit_3 rfl (lv_at hl 1 rfl) ?_
  refine lv_iload_n hx hb dL_hit_4 rfl (lv_at hl 2 rfl) ?_
  refine q_callVXi (As := [.int a1, .int a2]) (nA := 2) C0 hw at_HW rfl (fun r1 h1 => ctX5_hit hst h1) gL_hit_X5_hit rfl ⟨rfl, rfl⟩ (by decide +kernel) rfl ⟨(Nat.le_of_ble_eq_true rfl), (Nat.le_of_ble_eq_true rfl)⟩ hl.1 (Nat.le_of_ble_eq_true rfl) ⟨(Nat.le_of_ble_eq_true rfl), (Nat.le_of_ble_eq_true rfl)⟩ rfl h dL_hit_5 (fun M3 n H locs q9 ce hw h hce hcv hcl => ?_) (fun M1 z2 H locs hw h => ?_)
  · skip
    refine q_if (P := n = 3) h (fun e0 h => ?_) (fun n0 h => ?_)
    · subst e0
      refine q_catch (n := 3) (name := "java/lang/IndexOutOfBoundsException") C0 htab [] ⟨0, 10, 13, 20⟩ [⟨0, 10, 17, 13⟩] rfl (fun _ h9 => absurd h9 List.not_mem_nil) rfl (by decide) (List.mem_of_getElem? (i := 1) rfl) rfl (List.mem_of_getElem? (i := 2) rfl) hce hcv hcl ?_
      refine lv_astore (lv' := [(4, .ref q9), (0, .ref (ad 0)), (1, .int a1), (2, .int a2), (3, .ref (ad 453))]) hx hb dL_hit_13 hl (by decide) rfl (fun ls hl => ?_)
      refine lv_iconst (v := 1) hx hb dL_hit_15 (by decide) ?_
      exact q_iretW C0 hw h ⟨(Nat.le_of_ble_eq_true rfl), (Nat.le_of_ble_eq_true rfl)⟩ dL_hit_16
    · skip
      refine q_if (P := n = 1) h (fun e1 h => ?_) (fun n1 h => ?_)
      · subst e1
        refine q_catch (n := 1) (name := "java/lang/IllegalArgumentException") C0 htab [⟨0, 10, 13, 20⟩] ⟨0, 10, 17, 13⟩ [] rfl (List.forall_mem_cons.mpr ⟨Or.inr ⟨by decide, "java/lang/IndexOutOfBoundsException", (List.mem_of_getElem? (i := 1) rfl), (List.mem_of_getElem? (i := 1) rfl)⟩, (fun _ h9 => absurd h9 List.not_mem_nil)⟩) rfl (by decide) (List.mem_of_getElem? (i := 2) rfl) rfl (List.mem_of_getElem? (i := 0) rfl) hce hcv hcl ?_
        refine lv_astore (lv' := [(4, .ref q9), (0, .ref (ad 0)), (1, .int a1), (2, .int a2), (3, .ref (ad 453))]) hx hb dL_hit_17 hl (by decide) rfl (fun ls hl => ?_)
        refine lv_iconst (v := 2) hx hb dL_hit_19 (by decide) ?_
        exact q_iretW C0 hw h ⟨(Nat.le_of_ble_eq_true rfl), (Nat.le_of_ble_eq_true rfl)⟩ dL_hit_20
      · skip
        exact q_no h
  · skip
    refine lv_i2l hx hb dL_hit_8 rfl ?_
    refine q_last C0 hw h dL_hit_9 (fun x4 H locs hw h => ?_)
    refine lv_goto (tgt := 21) hx hb dL_hit_10 (by decide) ?_
    refine lv_iconst (v := 0) hx hb dL_hit_21 (by decide) ?_
    exact q_iretW C0 hw h ⟨(Nat.le_of_ble_eq_true rfl), (Nat.le_of_ble_eq_true rfl)⟩ dL_hit_22
/-! HomewatcherLaw.hear(LHomewatcher;II[J)I -/
abbrev rmL_hear : Room := { frames := 8, cells := 3, slots := 18, locals := 134 }
def fL_hear (F : Nat) (M : Mem) (x : XX) (a1 : Int32) (a2 : Int32) : Option (Mem × (XX × Int32)) :=
    q_bh (fX5_hear F M a1 a2) (fun M1 z2 =>
    (q_lt (z2.toInt64, x.2) fun x4 =>
    some (M1, (x4, (0 : Int32))))) (fun M3 n =>
    if n = 3 then
    (some (M3, (x, (1 : Int32))))
    else
    if n = 1 then
    (some (M3, (x, (2 : Int32))))
    else
    if n = 5 then
    (some (M3, (x, (3 : Int32))))
    else
    none)
set_option maxHeartbeats 4000000 in
set_option maxRecDepth 100000 in
theorem ctL_hear {l : Launch} (hst : l.stackTraces = false) {D : va_G} {cy : Nat → ClassId} {ad : Nat → Nat} {x : XX} {F : Nat} {M : Mem} {a1 : Int32} {a2 : Int32} {r : Mem × (XX × Int32)} (h : fL_hear F M x a1 a2 = some r) : CN l yL_hear wsL_hear rmL_hear D cy ad [.ref (ad 0), .int a1, .int a2, .ref (ad 453)] x M r.2.1 r.1 (q_vi r.2.2) 3 18 := by
  refine q_startW (cc := cL_hear) (maxL := 5) (ret := (some .int)) (by decide) rfl (Nat.le_of_ble_eq_true rfl) ?_
  intro p e s m args below meth c ls C0 hw hl htab
  obtain ⟨hx, hb, hml, hown, hts, -⟩ := id C0
  have C0 : MX p l s m args meth c D cy ad cL_hear RL 5 wsL_hear ((some .int)) := C0
  have hown : s.vm.findClass RL = some m.cls := hown
  have hl : lv_has ls 5 [(0, .ref (ad 0)), (1, .int a1), (2, .int a2), (3, .ref (ad 453))] := hl
  show W p l e rmL_hear s m args below meth c s.heap [] 0 0 (QW D cy ad below args s r 3 18) (F0 m 0 ls [])
  unfold fL_hear at h
  refine lv_aload_n hx hb dL_hear_0 rfl (lv_at hl 3 rfl) ?_
  refine lv_iconst (v := 0) hx hb dL_hear_1 (by decide) ?_
  refine lv_aload_n hx hb dL_hear_2 rfl (lv_at hl 0 rfl) ?_
  refine lv_iload_n hx hb dL_hear_3 rfl (lv_at hl 1 rfl) ?_
  refine lv_iload_n hx hb dL_hear_4 rfl (lv_at hl 2 rfl) ?_
  refine q_callVXi (As := [.int a1, .int a2]) (nA := 2) C0 hw at_HW rfl (fun r1 h1 => ctX5_hear hst h1) gL_hear_X5_hear rfl ⟨rfl, rfl⟩ (by decide +kernel) rfl ⟨(Nat.le_of_ble_eq_true rfl), (Nat.le_of_ble_eq_true rfl)⟩ hl.1 (Nat.le_of_ble_eq_true rfl) ⟨(Nat.le_of_ble_eq_true rfl), (Nat.le_of_ble_eq_true rfl)⟩ rfl h dL_hear_5 (fun M3 n H locs q9 ce hw h hce hcv hcl => ?_) (fun M1 z2 H locs hw h => ?_)
  · skip
    refine q_if (P := n = 3) h (fun e0 h => ?_) (fun n0 h => ?_)
    · subst e0
      refine q_catch (n := 3) (name := "java/lang/IndexOutOfBoundsException") C0 htab [] ⟨0, 10, 13, 20⟩ [⟨0, 10, 17, 13⟩, ⟨0, 10, 21, 49⟩] rfl (fun _ h9 => absurd h9 List.not_mem_nil) rfl (by decide) (List.mem_of_getElem? (i := 1) rfl) rfl (List.mem_of_getElem? (i := 2) rfl) hce hcv hcl ?_
      refine lv_astore (lv' := [(4, .ref q9), (0, .ref (ad 0)), (1, .int a1), (2, .int a2), (3, .ref (ad 453))]) hx hb dL_hear_13 hl (by decide) rfl (fun ls hl => ?_)
      refine lv_iconst (v := 1) hx hb dL_hear_15 (by decide) ?_
      exact q_iretW C0 hw h ⟨(Nat.le_of_ble_eq_true rfl), (Nat.le_of_ble_eq_true rfl)⟩ dL_hear_16
    · skip
      refine q_if (P := n = 1) h (fun e1 h => ?_) (fun n1 h => ?_)
      · subst e1
        refine q_catch (n := 1) (name := "java/lang/IllegalArgumentException") C0 htab [⟨0, 10, 13, 20⟩] ⟨0, 10, 17, 13⟩ [⟨0, 10, 21, 49⟩] rfl (List.forall_mem_cons.mpr ⟨Or.inr ⟨by decide, "java/lang/IndexOutOfBoundsException", (List.mem_of_getElem? (i := 1) rfl), (List.mem_of_getElem? (i := 1) rfl)⟩, (fun _ h9 => absurd h9 List.not_mem_nil)⟩) rfl (by decide) (List.mem_of_getElem? (i := 2) rfl) rfl (List.mem_of_getElem? (i := 0) rfl) hce hcv hcl ?_
        refine lv_astore (lv' := [(4, .ref q9), (0, .ref (ad 0)), (1, .int a1), (2, .int a2), (3, .ref (ad 453))]) hx hb dL_hear_17 hl (by decide) rfl (fun ls hl => ?_)
        refine lv_iconst (v := 2) hx hb dL_hear_19 (by decide) ?_
        exact q_iretW C0 hw h ⟨(Nat.le_of_ble_eq_true rfl), (Nat.le_of_ble_eq_true rfl)⟩ dL_hear_20
      · skip
        refine q_if (P := n = 5) h (fun e2 h => ?_) (fun n2 h => ?_)
        · subst e2
          refine q_catch (n := 5) (name := "java/lang/UnsupportedOperationException") C0 htab [⟨0, 10, 13, 20⟩, ⟨0, 10, 17, 13⟩] ⟨0, 10, 21, 49⟩ [] rfl (List.forall_mem_cons.mpr ⟨Or.inr ⟨by decide, "java/lang/IndexOutOfBoundsException", (List.mem_of_getElem? (i := 1) rfl), (List.mem_of_getElem? (i := 22) rfl)⟩, (List.forall_mem_cons.mpr ⟨Or.inr ⟨by decide, "java/lang/IllegalArgumentException", (List.mem_of_getElem? (i := 2) rfl), (List.mem_of_getElem? (i := 20) rfl)⟩, (fun _ h9 => absurd h9 List.not_mem_nil)⟩)⟩) rfl (by decide) (List.mem_of_getElem? (i := 3) rfl) rfl (List.mem_of_getElem? (i := 4) rfl) hce hcv hcl ?_
          refine lv_astore (lv' := [(4, .ref q9), (0, .ref (ad 0)), (1, .int a1), (2, .int a2), (3, .ref (ad 453))]) hx hb dL_hear_21 hl (by decide) rfl (fun ls hl => ?_)
          refine lv_iconst (v := 3) hx hb dL_hear_23 (by decide) ?_
          exact q_iretW C0 hw h ⟨(Nat.le_of_ble_eq_true rfl), (Nat.le_of_ble_eq_true rfl)⟩ dL_hear_24
        · skip
          exact q_no h
  · skip
    refine lv_i2l hx hb dL_hear_8 rfl ?_
    refine q_last C0 hw h dL_hear_9 (fun x4 H locs hw h => ?_)
    refine lv_goto (tgt := 25) hx hb dL_hear_10 (by decide) ?_
    refine lv_iconst (v := 0) hx hb dL_hear_25 (by decide) ?_
    exact q_iretW C0 hw h ⟨(Nat.le_of_ble_eq_true rfl), (Nat.le_of_ble_eq_true rfl)⟩ dL_hear_26
/-! HomewatcherLaw.next(LHomewatcher;[J)I -/
abbrev rmL_next : Room := { frames := 7, cells := 1, slots := 6, locals := 113 }
def fL_next (F : Nat) (M : Mem) (x : XX) : Option (Mem × (XX × Int32)) :=
    q_bh (fX5_next F M) (fun M1 z2 =>
    (q_lt (z2.toInt64, x.2) fun x4 =>
    some (M1, (x4, (0 : Int32))))) (fun M3 n =>
    if n = 4 then
    (some (M3, (x, (1 : Int32))))
    else
    none)
set_option maxHeartbeats 4000000 in
set_option maxRecDepth 100000 in
theorem ctL_next {l : Launch} (hst : l.stackTraces = false) {D : va_G} {cy : Nat → ClassId} {ad : Nat → Nat} {x : XX} {F : Nat} {M : Mem} {r : Mem × (XX × Int32)} (h : fL_next F M x = some r) : CN l yL_next wsL_next rmL_next D cy ad [.ref (ad 0), .ref (ad 453)] x M r.2.1 r.1 (q_vi r.2.2) 1 6 := by
  refine q_startW (cc := cL_next) (maxL := 3) (ret := (some .int)) (by decide) rfl (Nat.le_of_ble_eq_true rfl) ?_
  intro p e s m args below meth c ls C0 hw hl htab
  obtain ⟨hx, hb, hml, hown, hts, -⟩ := id C0
  have C0 : MX p l s m args meth c D cy ad cL_next RL 3 wsL_next ((some .int)) := C0
  have hown : s.vm.findClass RL = some m.cls := hown
  have hl : lv_has ls 3 [(0, .ref (ad 0)), (1, .ref (ad 453))] := hl
  show W p l e rmL_next s m args below meth c s.heap [] 0 0 (QW D cy ad below args s r 1 6) (F0 m 0 ls [])
  unfold fL_next at h
  refine lv_aload_n hx hb dL_next_0 rfl (lv_at hl 1 rfl) ?_
  refine lv_iconst (v := 0) hx hb dL_next_1 (by decide) ?_
  refine lv_aload_n hx hb dL_next_2 rfl (lv_at hl 0 rfl) ?_
  refine q_callVXi (As := []) (nA := 0) C0 hw at_HW rfl (fun r1 h1 => ctX5_next hst h1) gL_next_X5_next rfl ⟨rfl, rfl⟩ (by decide +kernel) rfl ⟨(Nat.le_of_ble_eq_true rfl), (Nat.le_of_ble_eq_true rfl)⟩ hl.1 (Nat.le_of_ble_eq_true rfl) ⟨(Nat.le_of_ble_eq_true rfl), (Nat.le_of_ble_eq_true rfl)⟩ rfl h dL_next_3 (fun M3 n H locs q9 ce hw h hce hcv hcl => ?_) (fun M1 z2 H locs hw h => ?_)
  · skip
    refine q_if (P := n = 4) h (fun e0 h => ?_) (fun n0 h => ?_)
    · subst e0
      refine q_catch (n := 4) (name := "java/util/NoSuchElementException") C0 htab [] ⟨0, 8, 11, 43⟩ [] rfl (fun _ h9 => absurd h9 List.not_mem_nil) rfl (by decide) (List.mem_of_getElem? (i := 1) rfl) rfl (List.mem_of_getElem? (i := 3) rfl) hce hcv hcl ?_
      refine lv_astore_n (lv' := [(2, .ref q9), (0, .ref (ad 0)), (1, .ref (ad 453))]) hx hb dL_next_11 rfl hl (by decide) rfl (fun ls hl => ?_)
      refine lv_iconst (v := 1) hx hb dL_next_12 (by decide) ?_
      exact q_iretW C0 hw h ⟨(Nat.le_of_ble_eq_true rfl), (Nat.le_of_ble_eq_true rfl)⟩ dL_next_13
    · skip
      exact q_no h
  · skip
    refine lv_i2l hx hb dL_next_6 rfl ?_
    refine q_last C0 hw h dL_next_7 (fun x4 H locs hw h => ?_)
    refine lv_goto (tgt := 14) hx hb dL_next_8 (by decide) ?_
    refine lv_iconst (v := 0) hx hb dL_next_14 (by decide) ?_
    exact q_iretW C0 hw h ⟨(Nat.le_of_ble_eq_true rfl), (Nat.le_of_ble_eq_true rfl)⟩ dL_next_15
/-! HomewatcherLaw.byteSum(LHomewatcher;I[J)I -/
abbrev rmL_byteSum : Room := { frames := 8, cells := 1, slots := 6, locals := 132 }
def fL_byteSum (F : Nat) (M : Mem) (x : XX) (a1 : Int32) : Option (Mem × (XX × Int32)) :=
    q_bh (fX5_byteSum F M a1) (fun M1 z2 =>
    (q_lt (z2.toInt64, x.2) fun x4 =>
    some (M1, (x4, (0 : Int32))))) (fun M3 n =>
    if n = 3 then
    (some (M3, (x, (1 : Int32))))
    else
    none)
set_option maxHeartbeats 4000000 in
set_option maxRecDepth 100000 in
theorem ctL_byteSum {l : Launch} (hst : l.stackTraces = false) {D : va_G} {cy : Nat → ClassId} {ad : Nat → Nat} {x : XX} {F : Nat} {M : Mem} {a1 : Int32} {r : Mem × (XX × Int32)} (h : fL_byteSum F M x a1 = some r) : CN l yL_byteSum wsL_byteSum rmL_byteSum D cy ad [.ref (ad 0), .int a1, .ref (ad 453)] x M r.2.1 r.1 (q_vi r.2.2) 1 6 := by
  refine q_startW (cc := cL_byteSum) (maxL := 4) (ret := (some .int)) (by decide) rfl (Nat.le_of_ble_eq_true rfl) ?_
  intro p e s m args below meth c ls C0 hw hl htab
  obtain ⟨hx, hb, hml, hown, hts, -⟩ := id C0
  have C0 : MX p l s m args meth c D cy ad cL_byteSum RL 4 wsL_byteSum ((some .int)) := C0
  have hown : s.vm.findClass RL = some m.cls := hown
  have hl : lv_has ls 4 [(0, .ref (ad 0)), (1, .int a1), (2, .ref (ad 453))] := hl
  show W p l e rmL_byteSum s m args below meth c s.heap [] 0 0 (QW D cy ad below args s r 1 6) (F0 m 0 ls [])
  unfold fL_byteSum at h
  refine lv_aload_n hx hb dL_byteSum_0 rfl (lv_at hl 2 rfl) ?_
  refine lv_iconst (v := 0) hx hb dL_byteSum_1 (by decide) ?_
  refine lv_aload_n hx hb dL_byteSum_2 rfl (lv_at hl 0 rfl) ?_
  refine lv_iload_n hx hb dL_byteSum_3 rfl (lv_at hl 1 rfl) ?_
  refine q_callVXi (As := [.int a1]) (nA := 1) C0 hw at_HW rfl (fun r1 h1 => ctX5_byteSum hst h1) gL_byteSum_X5_byteSum rfl ⟨rfl, rfl⟩ (by decide +kernel) rfl ⟨(Nat.le_of_ble_eq_true rfl), (Nat.le_of_ble_eq_true rfl)⟩ hl.1 (Nat.le_of_ble_eq_true rfl) ⟨(Nat.le_of_ble_eq_true rfl), (Nat.le_of_ble_eq_true rfl)⟩ rfl h dL_byteSum_4 (fun M3 n H locs q9 ce hw h hce hcv hcl => ?_) (fun M1 z2 H locs hw h => ?_)
  · skip
    refine q_if (P := n = 3) h (fun e0 h => ?_) (fun n0 h => ?_)
    · subst e0
      refine q_catch (n := 3) (name := "java/lang/IndexOutOfBoundsException") C0 htab [] ⟨0, 9, 12, 20⟩ [] rfl (fun _ h9 => absurd h9 List.not_mem_nil) rfl (by decide) (List.mem_of_getElem? (i := 1) rfl) rfl (List.mem_of_getElem? (i := 2) rfl) hce hcv hcl ?_
      refine lv_astore_n (lv' := [(3, .ref q9), (0, .ref (ad 0)), (1, .int a1), (2, .ref (ad 453))]) hx hb dL_byteSum_12 rfl hl (by decide) rfl (fun ls hl => ?_)
      refine lv_iconst (v := 1) hx hb dL_byteSum_13 (by decide) ?_
      exact q_iretW C0 hw h ⟨(Nat.le_of_ble_eq_true rfl), (Nat.le_of_ble_eq_true rfl)⟩ dL_byteSum_14
    · skip
      exact q_no h
  · skip
    refine lv_i2l hx hb dL_byteSum_7 rfl ?_
    refine q_last C0 hw h dL_byteSum_8 (fun x4 H locs hw h => ?_)
    refine lv_goto (tgt := 15) hx hb dL_byteSum_9 (by decide) ?_
    refine lv_iconst (v := 0) hx hb dL_byteSum_15 (by decide) ?_
    exact q_iretW C0 hw h ⟨(Nat.le_of_ble_eq_true rfl), (Nat.le_of_ble_eq_true rfl)⟩ dL_byteSum_16
/-! HomewatcherLaw.shortSum(LHomewatcher;I[J)I -/
abbrev rmL_shortSum : Room := { frames := 8, cells := 1, slots := 6, locals := 132 }
def fL_shortSum (F : Nat) (M : Mem) (x : XX) (a1 : Int32) : Option (Mem × (XX × Int32)) :=
    q_bh (fX5_shortSum F M a1) (fun M1 z2 =>
    (q_lt (z2.toInt64, x.2) fun x4 =>
    some (M1, (x4, (0 : Int32))))) (fun M3 n =>
    if n = 3 then
    (some (M3, (x, (1 : Int32))))
    else
    none)
set_option maxHeartbeats 4000000 in
set_option maxRecDepth 100000 in
theorem ctL_shortSum {l : Launch} (hst : l.stackTraces = false) {D : va_G} {cy : Nat → ClassId} {ad : Nat → Nat} {x : XX} {F : Nat} {M : Mem} {a1 : Int32} {r : Mem × (XX × Int32)} (h : fL_shortSum F M x a1 = some r) : CN l yL_shortSum wsL_shortSum rmL_shortSum D cy ad [.ref (ad 0), .int a1, .ref (ad 453)] x M r.2.1 r.1 (q_vi r.2.2) 1 6 := by
  refine q_startW (cc := cL_shortSum) (maxL := 4) (ret := (some .int)) (by decide) rfl (Nat.le_of_ble_eq_true rfl) ?_
  intro p e s m args below meth c ls C0 hw hl htab
  obtain ⟨hx, hb, hml, hown, hts, -⟩ := id C0
  have C0 : MX p l s m args meth c D cy ad cL_shortSum RL 4 wsL_shortSum ((some .int)) := C0
  have hown : s.vm.findClass RL = some m.cls := hown
  have hl : lv_has ls 4 [(0, .ref (ad 0)), (1, .int a1), (2, .ref (ad 453))] := hl
  show W p l e rmL_shortSum s m args below meth c s.heap [] 0 0 (QW D cy ad below args s r 1 6) (F0 m 0 ls [])
  unfold fL_shortSum at h
  refine lv_aload_n hx hb dL_shortSum_0 rfl (lv_at hl 2 rfl) ?_
  refine lv_iconst (v := 0) hx hb dL_shortSum_1 (by decide) ?_
  refine lv_aload_n hx hb dL_shortSum_2 rfl (lv_at hl 0 rfl) ?_
  refine lv_iload_n hx hb dL_shortSum_3 rfl (lv_at hl 1 rfl) ?_
  refine q_callVXi (As := [.int a1]) (nA := 1) C0 hw at_HW rfl (fun r1 h1 => ctX5_shortSum hst h1) gL_shortSum_X5_shortSum rfl ⟨rfl, rfl⟩ (by decide +kernel) rfl ⟨(Nat.le_of_ble_eq_true rfl), (Nat.le_of_ble_eq_true rfl)⟩ hl.1 (Nat.le_of_ble_eq_true rfl) ⟨(Nat.le_of_ble_eq_true rfl), (Nat.le_of_ble_eq_true rfl)⟩ rfl h dL_shortSum_4 (fun M3 n H locs q9 ce hw h hce hcv hcl => ?_) (fun M1 z2 H locs hw h => ?_)
  · skip
    refine q_if (P := n = 3) h (fun e0 h => ?_) (fun n0 h => ?_)
    · subst e0
      refine q_catch (n := 3) (name := "java/lang/IndexOutOfBoundsException") C0 htab [] ⟨0, 9, 12, 20⟩ [] rfl (fun _ h9 => absurd h9 List.not_mem_nil) rfl (by decide) (List.mem_of_getElem? (i := 1) rfl) rfl (List.mem_of_getElem? (i := 2) rfl) hce hcv hcl ?_
      refine lv_astore_n (lv' := [(3, .ref q9), (0, .ref (ad 0)), (1, .int a1), (2, .ref (ad 453))]) hx hb dL_shortSum_12 rfl hl (by decide) rfl (fun ls hl => ?_)
      refine lv_iconst (v := 1) hx hb dL_shortSum_13 (by decide) ?_
      exact q_iretW C0 hw h ⟨(Nat.le_of_ble_eq_true rfl), (Nat.le_of_ble_eq_true rfl)⟩ dL_shortSum_14
    · skip
      exact q_no h
  · skip
    refine lv_i2l hx hb dL_shortSum_7 rfl ?_
    refine q_last C0 hw h dL_shortSum_8 (fun x4 H locs hw h => ?_)
    refine lv_goto (tgt := 15) hx hb dL_shortSum_9 (by decide) ?_
    refine lv_iconst (v := 0) hx hb dL_shortSum_15 (by decide) ?_
    exact q_iretW C0 hw h ⟨(Nat.le_of_ble_eq_true rfl), (Nat.le_of_ble_eq_true rfl)⟩ dL_shortSum_16
/-! HomewatcherLaw.packed(LHomewatcher;I[J)I -/
abbrev rmL_packed : Room := { frames := 8, cells := 1, slots := 6, locals := 135 }
def fL_packed (F : Nat) (M : Mem) (x : XX) (a1 : Int32) : Option (Mem × (XX × Int32)) :=
    q_bh (fX5_packed F M a1) (fun M1 z2 =>
    (q_lt (z2, x.2) fun x4 =>
    some (M1, (x4, (0 : Int32))))) (fun M3 n =>
    if n = 3 then
    (some (M3, (x, (1 : Int32))))
    else
    none)
set_option maxHeartbeats 4000000 in
set_option maxRecDepth 100000 in
theorem ctL_packed {l : Launch} (hst : l.stackTraces = false) {D : va_G} {cy : Nat → ClassId} {ad : Nat → Nat} {x : XX} {F : Nat} {M : Mem} {a1 : Int32} {r : Mem × (XX × Int32)} (h : fL_packed F M x a1 = some r) : CN l yL_packed wsL_packed rmL_packed D cy ad [.ref (ad 0), .int a1, .ref (ad 453)] x M r.2.1 r.1 (q_vi r.2.2) 1 6 := by
  refine q_startW (cc := cL_packed) (maxL := 4) (ret := (some .int)) (by decide) rfl (Nat.le_of_ble_eq_true rfl) ?_
  intro p e s m args below meth c ls C0 hw hl htab
  obtain ⟨hx, hb, hml, hown, hts, -⟩ := id C0
  have C0 : MX p l s m args meth c D cy ad cL_packed RL 4 wsL_packed ((some .int)) := C0
  have hown : s.vm.findClass RL = some m.cls := hown
  have hl : lv_has ls 4 [(0, .ref (ad 0)), (1, .int a1), (2, .ref (ad 453))] := hl
  show W p l e rmL_packed s m args below meth c s.heap [] 0 0 (QW D cy ad below args s r 1 6) (F0 m 0 ls [])
  unfold fL_packed at h
  refine lv_aload_n hx hb dL_packed_0 rfl (lv_at hl 2 rfl) ?_
  refine lv_iconst (v := 0) hx hb dL_packed_1 (by decide) ?_
  refine lv_aload_n hx hb dL_packed_2 rfl (lv_at hl 0 rfl) ?_
  refine lv_iload_n hx hb dL_packed_3 rfl (lv_at hl 1 rfl) ?_
  refine q_callVXl (As := [.int a1]) (nA := 1) C0 hw at_HW rfl (fun r1 h1 => ctX5_packed hst h1) gL_packed_X5_packed rfl ⟨rfl, rfl⟩ (by decide +kernel) rfl ⟨(Nat.le_of_ble_eq_true rfl), (Nat.le_of_ble_eq_true rfl)⟩ hl.1 (Nat.le_of_ble_eq_true rfl) ⟨(Nat.le_of_ble_eq_true rfl), (Nat.le_of_ble_eq_true rfl)⟩ rfl h dL_packed_4 (fun M3 n H locs q9 ce hw h hce hcv hcl => ?_) (fun M1 z2 H locs hw h => ?_)
  · skip
    refine q_if (P := n = 3) h (fun e0 h => ?_) (fun n0 h => ?_)
    · subst e0
      refine q_catch (n := 3) (name := "java/lang/IndexOutOfBoundsException") C0 htab [] ⟨0, 8, 11, 20⟩ [] rfl (fun _ h9 => absurd h9 List.not_mem_nil) rfl (by decide) (List.mem_of_getElem? (i := 1) rfl) rfl (List.mem_of_getElem? (i := 2) rfl) hce hcv hcl ?_
      refine lv_astore_n (lv' := [(3, .ref q9), (0, .ref (ad 0)), (1, .int a1), (2, .ref (ad 453))]) hx hb dL_packed_11 rfl hl (by decide) rfl (fun ls hl => ?_)
      refine lv_iconst (v := 1) hx hb dL_packed_12 (by decide) ?_
      exact q_iretW C0 hw h ⟨(Nat.le_of_ble_eq_true rfl), (Nat.le_of_ble_eq_true rfl)⟩ dL_packed_13
    · skip
      exact q_no h
  · skip
    refine q_last C0 hw h dL_packed_7 (fun x4 H locs hw h => ?_)
    refine lv_goto (tgt := 14) hx hb dL_packed_8 (by decide) ?_
    refine lv_iconst (v := 0) hx hb dL_packed_14 (by decide) ?_
    exact q_iretW C0 hw h ⟨(Nat.le_of_ble_eq_true rfl), (Nat.le_of_ble_eq_true rfl)⟩ dL_packed_15
/-! HomewatcherLaw.inShare(LHomewatcher;[D)I -/
abbrev rmL_inShare : Room := { frames := 7, cells := 1, slots := 6, locals := 112 }
def fL_inShare (F : Nat) (M : Mem) (x : XX) : Option (Mem × (XX × Int32)) :=
    q_bh (fX5_inShare F M) (fun M1 z2 =>
    (q_gd (q_n64 (FP.f2d z2)) (
    q_lt (x.1, FP.f2d z2) fun x4 =>
    some (M1, (x4, (0 : Int32)))))) (fun M3 n =>
    if n = 6 then
    (some (M3, (x, (1 : Int32))))
    else
    none)
set_option maxHeartbeats 4000000 in
set_option maxRecDepth 100000 in
theorem ctL_inShare {l : Launch} (hst : l.stackTraces = false) {D : va_G} {cy : Nat → ClassId} {ad : Nat → Nat} {x : XX} {F : Nat} {M : Mem} {r : Mem × (XX × Int32)} (h : fL_inShare F M x = some r) : CN l yL_inShare wsL_inShare rmL_inShare D cy ad [.ref (ad 0), .ref (ad 454)] x M r.2.1 r.1 (q_vi r.2.2) 1 6 := by
  refine q_startW (cc := cL_inShare) (maxL := 3) (ret := (some .int)) (by decide) rfl (Nat.le_of_ble_eq_true rfl) ?_
  intro p e s m args below meth c ls C0 hw hl htab
  obtain ⟨hx, hb, hml, hown, hts, -⟩ := id C0
  have C0 : MX p l s m args meth c D cy ad cL_inShare RL 3 wsL_inShare ((some .int)) := C0
  have hown : s.vm.findClass RL = some m.cls := hown
  have hl : lv_has ls 3 [(0, .ref (ad 0)), (1, .ref (ad 454))] := hl
  show W p l e rmL_inShare s m args below meth c s.heap [] 0 0 (QW D cy ad below args s r 1 6) (F0 m 0 ls [])
  unfold fL_inShare at h
  refine lv_aload_n hx hb dL_inShare_0 rfl (lv_at hl 1 rfl) ?_
  refine lv_iconst (v := 0) hx hb dL_inShare_1 (by decide) ?_
  refine lv_aload_n hx hb dL_inShare_2 rfl (lv_at hl 0 rfl) ?_
  refine q_callVXf (As := []) (nA := 0) C0 hw at_HW rfl (fun r1 h1 => ctX5_inShare hst h1) gL_inShare_X5_inShare rfl ⟨rfl, rfl⟩ (by decide +kernel) rfl ⟨(Nat.le_of_ble_eq_true rfl), (Nat.le_of_ble_eq_true rfl)⟩ hl.1 (Nat.le_of_ble_eq_true rfl) ⟨(Nat.le_of_ble_eq_true rfl), (Nat.le_of_ble_eq_true rfl)⟩ rfl h dL_inShare_3 (fun M3 n H locs q9 ce hw h hce hcv hcl => ?_) (fun M1 z2 H locs hw h => ?_)
  · skip
    refine q_if (P := n = 6) h (fun e0 h => ?_) (fun n0 h => ?_)
    · subst e0
      refine q_catch (n := 6) (name := "java/lang/ArithmeticException") C0 htab [] ⟨0, 8, 11, 125⟩ [] rfl (fun _ h9 => absurd h9 List.not_mem_nil) rfl (by decide) (List.mem_of_getElem? (i := 1) rfl) rfl (List.mem_of_getElem? (i := 5) rfl) hce hcv hcl ?_
      refine lv_astore_n (lv' := [(2, .ref q9), (0, .ref (ad 0)), (1, .ref (ad 454))]) hx hb dL_inShare_11 rfl hl (by decide) rfl (fun ls hl => ?_)
      refine lv_iconst (v := 1) hx hb dL_inShare_12 (by decide) ?_
      exact q_iretW C0 hw h ⟨(Nat.le_of_ble_eq_true rfl), (Nat.le_of_ble_eq_true rfl)⟩ dL_inShare_13
    · skip
      exact q_no h
  · skip
    refine q_guard h (fun g h => ?_)
    refine lv_f2d hx hb dL_inShare_6 (q_n64_in g) ?_
    refine q_dast C0 hw h dL_inShare_7 (fun x4 H locs hw h => ?_)
    refine lv_goto (tgt := 14) hx hb dL_inShare_8 (by decide) ?_
    refine lv_iconst (v := 0) hx hb dL_inShare_14 (by decide) ?_
    exact q_iretW C0 hw h ⟨(Nat.le_of_ble_eq_true rfl), (Nat.le_of_ble_eq_true rfl)⟩ dL_inShare_15
/-! HomewatcherLaw.meanMark(LHomewatcher;[D)I -/
abbrev rmL_meanMark : Room := { frames := 7, cells := 1, slots := 6, locals := 119 }
def fL_meanMark (F : Nat) (M : Mem) (x : XX) : Option (Mem × (XX × Int32)) :=
    q_bh (fX5_meanMark F M) (fun M1 z2 =>
    (q_lt (x.1, z2) fun x4 =>
    some (M1, (x4, (0 : Int32))))) (fun M3 n =>
    if n = 6 then
    (some (M3, (x, (1 : Int32))))
    else
    none)
set_option maxHeartbeats 4000000 in
set_option maxRecDepth 100000 in
theorem ctL_meanMark {l : Launch} (hst : l.stackTraces = false) {D : va_G} {cy : Nat → ClassId} {ad : Nat → Nat} {x : XX} {F : Nat} {M : Mem} {r : Mem × (XX × Int32)} (h : fL_meanMark F M x = some r) : CN l yL_meanMark wsL_meanMark rmL_meanMark D cy ad [.ref (ad 0), .ref (ad 454)] x M r.2.1 r.1 (q_vi r.2.2) 1 6 := by
  refine q_startW (cc := cL_meanMark) (maxL := 3) (ret := (some .int)) (by decide) rfl (Nat.le_of_ble_eq_true rfl) ?_
  intro p e s m args below meth c ls C0 hw hl htab
  obtain ⟨hx, hb, hml, hown, hts, -⟩ := id C0
  have C0 : MX p l s m args meth c D cy ad cL_meanMark RL 3 wsL_meanMark ((some .int)) := C0
  have hown : s.vm.findClass RL = some m.cls := hown
  have hl : lv_has ls 3 [(0, .ref (ad 0)), (1, .ref (ad 454))] := hl
  show W p l e rmL_meanMark s m args below meth c s.heap [] 0 0 (QW D cy ad below args s r 1 6) (F0 m 0 ls [])
  unfold fL_meanMark at h
  refine lv_aload_n hx hb dL_meanMark_0 rfl (lv_at hl 1 rfl) ?_
  refine lv_iconst (v := 0) hx hb dL_meanMark_1 (by decide) ?_
  refine lv_aload_n hx hb dL_meanMark_2 rfl (lv_at hl 0 rfl) ?_
  refine q_callVXd (As := []) (nA := 0) C0 hw at_HW rfl (fun r1 h1 => ctX5_meanMark hst h1) gL_meanMark_X5_meanMark rfl ⟨rfl, rfl⟩ (by decide +kernel) rfl ⟨(Nat.le_of_ble_eq_true rfl), (Nat.le_of_ble_eq_true rfl)⟩ hl.1 (Nat.le_of_ble_eq_true rfl) ⟨(Nat.le_of_ble_eq_true rfl), (Nat.le_of_ble_eq_true rfl)⟩ rfl h dL_meanMark_3 (fun M3 n H locs q9 ce hw h hce hcv hcl => ?_) (fun M1 z2 H locs hw h => ?_)
  · skip
    refine q_if (P := n = 6) h (fun e0 h => ?_) (fun n0 h => ?_)
    · subst e0
      refine q_catch (n := 6) (name := "java/lang/ArithmeticException") C0 htab [] ⟨0, 7, 10, 125⟩ [] rfl (fun _ h9 => absurd h9 List.not_mem_nil) rfl (by decide) (List.mem_of_getElem? (i := 1) rfl) rfl (List.mem_of_getElem? (i := 5) rfl) hce hcv hcl ?_
      refine lv_astore_n (lv' := [(2, .ref q9), (0, .ref (ad 0)), (1, .ref (ad 454))]) hx hb dL_meanMark_10 rfl hl (by decide) rfl (fun ls hl => ?_)
      refine lv_iconst (v := 1) hx hb dL_meanMark_11 (by decide) ?_
      exact q_iretW C0 hw h ⟨(Nat.le_of_ble_eq_true rfl), (Nat.le_of_ble_eq_true rfl)⟩ dL_meanMark_12
    · skip
      exact q_no h
  · skip
    refine q_dast C0 hw h dL_meanMark_6 (fun x4 H locs hw h => ?_)
    refine lv_goto (tgt := 13) hx hb dL_meanMark_7 (by decide) ?_
    refine lv_iconst (v := 0) hx hb dL_meanMark_13 (by decide) ?_
    exact q_iretW C0 hw h ⟨(Nat.le_of_ble_eq_true rfl), (Nat.le_of_ble_eq_true rfl)⟩ dL_meanMark_14
